set_option maxHeartbeats 4000000 in
set_option maxRecDepth 100000 in
theorem c_X2_rotate (l : Launch) (dC : Nat → ClassId) (dI : Nat → Nat → Nat) (sz : Nat) (h r k t : Nat) (cA cB : ClassId) (n : Nat) (cm wr lp lc lw : Int32) (K T : Nat → Int32) (hn : n ≤ 500) (hck : ckI lp lc lw) (x y v : Int32) : Met l yX2_rotate wsX2_rotate ({ frames := 3, cells := 0, slots := 0, locals := 71 }) (va_Pc [.ref h, .int x, .int y, .int v] (fun U => U.heap.size = sz ∧ va_P (dC, dI) vwCl [(h, .inr (1, [.ref r, .int lp, .int lc, .int lw])), (r, .inr (0, [.ref k, .ref t, .int (nI n), .int cm, .int wr])), (k, .inl (cA, 500, .inl K)), (t, .inl (cB, 500, .inl T))] U.heap ∧ va_K (dC, dI) vwCl [(cA, .int), (cB, .int)] U ∧ va_D (fun _ => True) [(h, .inr (1, [.ref r, .int lp, .int lc, .int lw])), (r, .inr (0, [.ref k, .ref t, .int (nI n), .int cm, .int wr])), (k, .inl (cA, 500, .inl K)), (t, .inl (cB, 500, .inl T))])) (va_Qi (fun r u => Qrot n (mZ K T) x y v r u.2.2.1 (mZ u.1 u.2.1) ∧ okU u) (atX dC dI (va_A [(h, .inr (1, [.ref r, .int lp, .int lc, .int lw])), (r, .inr (0, [.ref k, .ref t, .int (nI n), .int cm, .int wr])), (k, .inl (cA, 500, .inl K)), (t, .inl (cB, 500, .inl T))] sz) h r k t cA cB) (va_A [(h, .inr (1, [.ref r, .int lp, .int lc, .int lw])), (r, .inr (0, [.ref k, .ref t, .int (nI n), .int cm, .int wr])), (k, .inl (cA, 500, .inl K)), (t, .inl (cB, 500, .inl T))] sz)) 0 0 (va_A [(h, .inr (1, [.ref r, .int lp, .int lc, .int lw])), (r, .inr (0, [.ref k, .ref t, .int (nI n), .int cm, .int wr])), (k, .inl (cA, 500, .inl K)), (t, .inl (cB, 500, .inl T))] sz) := by
  refine Met.ofW (cc := cX2_rotate) (maxL := 4) (ret := (some .int)) (by decide) rfl ?_
  intro p e s m args below meth c s₁ B hml hv
  obtain ⟨rfl, hsz, hP, hK, hD0⟩ := hv
  have hx := B.exec
  have hb := B.bytes
  have hr := B.returns
  have hts := atoms_spec (ws := wsX2_rotate) B.pre
  have hown : s.vm.findClass RX2 = some m.cls := findClass_of_methodNamed B.named
  have hlocks := B.notSynchronized
  subst hsz
  have hD := hD0.self (sz := s.heap.size)
  generalize hAe : va_A [(h, .inr (1, [.ref r, .int lp, .int lc, .int lw])), (r, .inr (0, [.ref k, .ref t, .int (nI n), .int cm, .int wr])), (k, .inl (cA, 500, .inl K)), (t, .inl (cB, 500, .inl T))] s.heap.size = A at hD ⊢
  have hA : ∀ q : Nat, s.heap.size ≤ q → A q := fun q h => by rw [← hAe]; exact Or.inr h
  have hS : va_S A s.heap s.heap [] := va_S.rf
  have hP : va_P (dC, dI) vwCl [(h, .inr (1, [.ref r, .int lp, .int lc, .int lw])), (r, .inr (0, [.ref k, .ref t, .int (nI n), .int cm, .int wr])), (k, .inl (cA, 500, .inl K)), (t, .inl (cB, 500, .inl T))] s.heap := hP
  have hl := lv_entry ([.ref h, .int x, .int y, .int v]) (n := 4) (Nat.le_of_ble_eq_true rfl)
  rw [lg_entry_eq]
  generalize (lg_sl ([.ref h, .int x, .int y, .int v]) ++ List.replicate (4 - (lg_sl ([.ref h, .int x, .int y, .int v])).length) Slot.unset).toArray = ls at hl ⊢
  have hl : lv_has ls 4 [(0, .ref h), (1, .int x), (2, .int y), (3, .int v)] := hl
  refine lv_aload_n hx hb dX2_rotate_0 rfl (lv_at hl 0 rfl) ?_
  refine va_get (D := (dC, dI)) (ci := 1) (v := .ref r) (C := RX2) (T := TX2) (N := 4) hx hb hts (by decide +kernel) hown hK hP 0 rfl rfl 0 (by decide) (hts (.fieldLink RX2 10 "RowPress" "row" "LRowPress$Row;") (by decide +kernel)) (fun _ h9 => h9) rfl dX2_rotate_1 ?_
  refine lv_iload_n hx hb dX2_rotate_4 rfl (lv_at hl 1 rfl) ?_
  refine lv_iload_n hx hb dX2_rotate_5 rfl (lv_at hl 2 rfl) ?_
  refine lv_iload_n hx hb dX2_rotate_6 rfl (lv_at hl 3 rfl) ?_
  have hPc := hP.sub (ws' := [(r, .inr (0, [.ref k, .ref t, .int (nI n), .int cm, .int wr])), (k, .inl (cA, 500, .inl K)), (t, .inl (cB, 500, .inl T))]) [1, 2, 3] rfl
  have hDc := hD.sub (ws' := [(r, .inr (0, [.ref k, .ref t, .int (nI n), .int cm, .int wr])), (k, .inl (cA, 500, .inl K)), (t, .inl (cB, 500, .inl T))]) [1, 2, 3] (by decide) rfl
  have hKc := hK.sub (tys' := [(cA, .int), (cB, .int)]) [0, 1] rfl
  have hFc := va_free (wc := [(r, .inr (0, [.ref k, .ref t, .int (nI n), .int cm, .int wr])), (k, .inl (cA, 500, .inl K)), (t, .inl (cB, 500, .inl T))]) hD hS hA [1, 2, 3] rfl
  refine va_calli (va_runV (As := [.int x, .int y, .int v]) (rest := []) ⟨hx, hb, hml, hown, hts⟩ (c_X1_hasStretches l dC dI s.heap.size r k t cA cB n cm wr K T hn x y v) (cwV 3 hts gX2_rotate_X1_hasStretches rfl rfl rfl (by decide +kernel) ⟨Nat.le_of_ble_eq_true rfl, Nat.le_of_ble_eq_true rfl⟩) ⟨fun a U g mk q => by obtain ⟨q0, q1, qP, qK, qD⟩ := q; exact ⟨q0, q1, qP, va_K.moved (u := U) (U := U.calling g mk a) (Vm.Alike.refl U.vm) qK, qD⟩, va_recv hKc hPc (ci := 0) (q0 := 0) rfl rfl, fun U hU hW => ⟨rfl, by rw [hU], by rw [hU]; exact hPc, va_K.moved hW.alike hKc, hDc.weaken (fun _ _ _ _ => trivial)⟩⟩ rfl rfl hl.1 rfl (lv_room (Nat.le_of_ble_eq_true rfl)) dX2_rotate_7 ⟨Nat.le_of_ble_eq_true rfl, Nat.le_of_ble_eq_true rfl⟩) hS (fun q _ h => hFc q h) hFc (fun r_1 u tS H1 locs ht hvm hw hB hz1 hk1 hS => ?_)
  obtain ⟨hs, rfl⟩ := hw
  obtain ⟨hP1, hK1, hD1⟩ := hB
  rw [ht] at hP1
  obtain ⟨hP, hD⟩ := va_join (wr := [(h, .inr (1, [.ref r, .int lp, .int lc, .int lw]))]) (w1 := [(r, .inr (0, [.ref k, .ref t, .int (nI n), .int cm, .int wr])), (k, .inl (cA, 500, .inl K)), (t, .inl (cB, 500, .inl T))]) hP hD [1, 2, 3] [0] rfl rfl (by decide) (by decide) hk1 hFc hP1 hD1
  generalize H1 = H at hP hS ⊢
  have hP : va_P (dC, dI) vwCl [(h, .inr (1, [.ref r, .int lp, .int lc, .int lw])), (r, .inr (0, [.ref k, .ref t, .int (nI n), .int cm, .int wr])), (k, .inl (cA, 500, .inl K)), (t, .inl (cB, 500, .inl T))] H := hP
  have hD : va_D A [(h, .inr (1, [.ref r, .int lp, .int lc, .int lw])), (r, .inr (0, [.ref k, .ref t, .int (nI n), .int cm, .int wr])), (k, .inl (cA, 500, .inl K)), (t, .inl (cB, 500, .inl T))] := hD
  refine lv_if_ne (tgt := 15) hx hb dX2_rotate_10 (by decide) (fun c10 => ?_) (fun c10 => ?_)
  · obtain ⟨hst1, hst2⟩ := tr_1 hs c10
    obtain ⟨a, d, rfl, rfl, had, hdn⟩ := stP_of hn hst1
    obtain ⟨d2, b, hd2, rfl, hdb, hbn⟩ := stP_of hn hst2
    obtain rfl : d = d2 := (nI_eq (by omega) (by omega)).mp hd2
    clear hd2
    refine lv_aload_n hx hb dX2_rotate_15 rfl (lv_at hl 0 rfl) ?_
    refine va_get (D := (dC, dI)) (ci := 1) (v := .ref r) (C := RX2) (T := TX2) (N := 4) hx hb hts (by decide +kernel) hown hK hP 0 rfl rfl 0 (by decide) (hts (.fieldLink RX2 10 "RowPress" "row" "LRowPress$Row;") (by decide +kernel)) (fun _ h9 => h9) rfl dX2_rotate_16 ?_
    refine lv_iload_n hx hb dX2_rotate_19 rfl (lv_at hl 1 rfl) ?_
    refine lv_iload_n hx hb dX2_rotate_20 rfl (lv_at hl 2 rfl) ?_
    refine lv_iload_n hx hb dX2_rotate_21 rfl (lv_at hl 3 rfl) ?_
    have hPc := hP.sub (ws' := [(r, .inr (0, [.ref k, .ref t, .int (nI n), .int cm, .int wr])), (k, .inl (cA, 500, .inl K)), (t, .inl (cB, 500, .inl T))]) [1, 2, 3] rfl
    have hDc := hD.sub (ws' := [(r, .inr (0, [.ref k, .ref t, .int (nI n), .int cm, .int wr])), (k, .inl (cA, 500, .inl K)), (t, .inl (cB, 500, .inl T))]) [1, 2, 3] (by decide) rfl
    have hKc := hK.sub (tys' := [(cA, .int), (cB, .int)]) [0, 1] rfl
    have hFc := va_free (wc := [(r, .inr (0, [.ref k, .ref t, .int (nI n), .int cm, .int wr])), (k, .inl (cA, 500, .inl K)), (t, .inl (cB, 500, .inl T))]) hD hS hA [1, 2, 3] rfl
    refine va_callv (va_runV (As := [.int (nI a), .int (nI d), .int (nI b)]) (rest := []) ⟨hx, hb, hml, hown, hts⟩ (c_X1_swapBlocks l dC dI H.size r k t cA cB n cm wr K T a d b had hdb (by omega)) (cwV 3 hts gX2_rotate_X1_swapBlocks rfl rfl rfl (by decide +kernel) ⟨Nat.le_of_ble_eq_true rfl, Nat.le_of_ble_eq_true rfl⟩) ⟨fun a U g mk q => by obtain ⟨q0, q1, qP, qK, qD⟩ := q; exact ⟨q0, q1, qP, va_K.moved (u := U) (U := U.calling g mk a) (Vm.Alike.refl U.vm) qK, qD⟩, va_recv hKc hPc (ci := 0) (q0 := 0) rfl rfl, fun U hU hW => ⟨rfl, by rw [hU], by rw [hU]; exact hPc, va_K.moved hW.alike hKc, hDc.weaken (fun _ _ _ _ => trivial)⟩⟩ rfl rfl hl.1 rfl (lv_room (Nat.le_of_ble_eq_true rfl)) dX2_rotate_22 ⟨Nat.le_of_ble_eq_true rfl, Nat.le_of_ble_eq_true rfl⟩) hS (fun q _ h => hFc q h) hFc (fun u tS H1 locs ht hvm hw hB hz1 hk1 hS => ?_)
    obtain ⟨K1, T1, n1, c1, w1⟩ := u
    obtain ⟨hm1, hn1, hc1, d1, hd1, hw1⟩ := hw
    dsimp only at hm1 hn1 hc1 hw1
    subst hn1; subst hc1; subst hw1
    obtain ⟨hP1, hK1, hD1⟩ := hB
    rw [ht] at hP1
    obtain ⟨hP, hD⟩ := va_join (wr := [(h, .inr (1, [.ref r, .int lp, .int lc, .int lw]))]) (w1 := [(r, .inr (0, [.ref k, .ref t, .int (nI n), .int cm, .int (wr + nI d1)])), (k, .inl (cA, 500, .inl K1)), (t, .inl (cB, 500, .inl T1))]) hP hD [1, 2, 3] [0] rfl rfl (by decide) (by decide) hk1 hFc hP1 hD1
    generalize H1 = H at hP hS ⊢
    have hP : va_P (dC, dI) vwCl [(h, .inr (1, [.ref r, .int lp, .int lc, .int lw])), (r, .inr (0, [.ref k, .ref t, .int (nI n), .int cm, .int (wr + nI d1)])), (k, .inl (cA, 500, .inl K1)), (t, .inl (cB, 500, .inl T1))] H := hP
    have hD : va_D A [(h, .inr (1, [.ref r, .int lp, .int lc, .int lw])), (r, .inr (0, [.ref k, .ref t, .int (nI n), .int cm, .int (wr + nI d1)])), (k, .inl (cA, 500, .inl K1)), (t, .inl (cB, 500, .inl T1))] := hD
    refine lv_iconst (v := (nI 1)) hx hb dX2_rotate_25 (by decide) ?_
    exact W.iret (v := (nI 1)) hx hb hr (fun tS ht hW => ⟨⟨(nI 1), (K1, T1, n, cm, (wr + nI d1), lp, lc, lw), rfl, ⟨Or.inr ⟨(a, d, b), ⟨rfl, rfl, rfl, had, hdb, hbn⟩, rfl, rfl, fun j _ => by rw [hm1]⟩, ⟨hn, hck⟩⟩, by rw [ht]; exact hP, va_K.moved hW.alike hK, hD⟩, hS.F ht⟩) hS.2.2 dX2_rotate_26
  · refine lv_iconst (v := (nI 0)) hx hb dX2_rotate_13 (by decide) ?_
    exact W.iret (v := (nI 0)) hx hb hr (fun tS ht hW => ⟨⟨(nI 0), (K, T, n, cm, wr, lp, lc, lw), rfl, ⟨Or.inl ⟨⟨rfl, sam_rf⟩, fun z hz => tr_0 hs c10 (dM_e hn hz)⟩, ⟨hn, hck⟩⟩, by rw [ht]; exact hP, va_K.moved hW.alike hK, hD⟩, hS.F ht⟩) hS.2.2 dX2_rotate_14
set_option maxHeartbeats 4000000 in
set_option maxRecDepth 100000 in
theorem c_X2_turn (l : Launch) (dC : Nat → ClassId) (dI : Nat → Nat → Nat) (sz : Nat) (h r k t : Nat) (cA cB : ClassId) (n : Nat) (cm wr lp lc lw : Int32) (K T : Nat → Int32) (hn : n ≤ 500) (hck : ckI lp lc lw) (x y : Int32) : Met l yX2_turn wsX2_turn ({ frames := 2, cells := 0, slots := 0, locals := 48 }) (va_Pc [.ref h, .int x, .int y] (fun U => U.heap.size = sz ∧ va_P (dC, dI) vwCl [(h, .inr (1, [.ref r, .int lp, .int lc, .int lw])), (r, .inr (0, [.ref k, .ref t, .int (nI n), .int cm, .int wr])), (k, .inl (cA, 500, .inl K)), (t, .inl (cB, 500, .inl T))] U.heap ∧ va_K (dC, dI) vwCl [(cA, .int), (cB, .int)] U ∧ va_D (fun _ => True) [(h, .inr (1, [.ref r, .int lp, .int lc, .int lw])), (r, .inr (0, [.ref k, .ref t, .int (nI n), .int cm, .int wr])), (k, .inl (cA, 500, .inl K)), (t, .inl (cB, 500, .inl T))])) (va_Qi (fun r u => Qtur n (mZ K T) x y r u.2.2.1 (mZ u.1 u.2.1) ∧ okU u) (atX dC dI (va_A [(h, .inr (1, [.ref r, .int lp, .int lc, .int lw])), (r, .inr (0, [.ref k, .ref t, .int (nI n), .int cm, .int wr])), (k, .inl (cA, 500, .inl K)), (t, .inl (cB, 500, .inl T))] sz) h r k t cA cB) (va_A [(h, .inr (1, [.ref r, .int lp, .int lc, .int lw])), (r, .inr (0, [.ref k, .ref t, .int (nI n), .int cm, .int wr])), (k, .inl (cA, 500, .inl K)), (t, .inl (cB, 500, .inl T))] sz)) 0 0 (va_A [(h, .inr (1, [.ref r, .int lp, .int lc, .int lw])), (r, .inr (0, [.ref k, .ref t, .int (nI n), .int cm, .int wr])), (k, .inl (cA, 500, .inl K)), (t, .inl (cB, 500, .inl T))] sz) := by
  refine Met.ofW (cc := cX2_turn) (maxL := 3) (ret := (some .int)) (by decide) rfl ?_
  intro p e s m args below meth c s₁ B hml hv
  obtain ⟨rfl, hsz, hP, hK, hD0⟩ := hv
  have hx := B.exec
  have hb := B.bytes
  have hr := B.returns
  have hts := atoms_spec (ws := wsX2_turn) B.pre
  have hown : s.vm.findClass RX2 = some m.cls := findClass_of_methodNamed B.named
  have hlocks := B.notSynchronized
  subst hsz
  have hD := hD0.self (sz := s.heap.size)
  generalize hAe : va_A [(h, .inr (1, [.ref r, .int lp, .int lc, .int lw])), (r, .inr (0, [.ref k, .ref t, .int (nI n), .int cm, .int wr])), (k, .inl (cA, 500, .inl K)), (t, .inl (cB, 500, .inl T))] s.heap.size = A at hD ⊢
  have hA : ∀ q : Nat, s.heap.size ≤ q → A q := fun q h => by rw [← hAe]; exact Or.inr h
  have hS : va_S A s.heap s.heap [] := va_S.rf
  have hP : va_P (dC, dI) vwCl [(h, .inr (1, [.ref r, .int lp, .int lc, .int lw])), (r, .inr (0, [.ref k, .ref t, .int (nI n), .int cm, .int wr])), (k, .inl (cA, 500, .inl K)), (t, .inl (cB, 500, .inl T))] s.heap := hP
  have hl := lv_entry ([.ref h, .int x, .int y]) (n := 3) (Nat.le_of_ble_eq_true rfl)
  rw [lg_entry_eq]
  generalize (lg_sl ([.ref h, .int x, .int y]) ++ List.replicate (3 - (lg_sl ([.ref h, .int x, .int y])).length) Slot.unset).toArray = ls at hl ⊢
  have hl : lv_has ls 3 [(0, .ref h), (1, .int x), (2, .int y)] := hl
  refine lv_aload_n hx hb dX2_turn_0 rfl (lv_at hl 0 rfl) ?_
  refine va_get (D := (dC, dI)) (ci := 1) (v := .ref r) (C := RX2) (T := TX2) (N := 4) hx hb hts (by decide +kernel) hown hK hP 0 rfl rfl 0 (by decide) (hts (.fieldLink RX2 10 "RowPress" "row" "LRowPress$Row;") (by decide +kernel)) (fun _ h9 => h9) rfl dX2_turn_1 ?_
  refine lv_iload_n hx hb dX2_turn_4 rfl (lv_at hl 1 rfl) ?_
  refine lv_iload_n hx hb dX2_turn_5 rfl (lv_at hl 2 rfl) ?_
  have hPc := hP.sub (ws' := [(r, .inr (0, [.ref k, .ref t, .int (nI n), .int cm, .int wr])), (k, .inl (cA, 500, .inl K)), (t, .inl (cB, 500, .inl T))]) [1, 2, 3] rfl
  have hDc := hD.sub (ws' := [(r, .inr (0, [.ref k, .ref t, .int (nI n), .int cm, .int wr])), (k, .inl (cA, 500, .inl K)), (t, .inl (cB, 500, .inl T))]) [1, 2, 3] (by decide) rfl
  have hKc := hK.sub (tys' := [(cA, .int), (cB, .int)]) [0, 1] rfl
  have hFc := va_free (wc := [(r, .inr (0, [.ref k, .ref t, .int (nI n), .int cm, .int wr])), (k, .inl (cA, 500, .inl K)), (t, .inl (cB, 500, .inl T))]) hD hS hA [1, 2, 3] rfl
  refine va_calli (va_runV (As := [.int x, .int y]) (rest := []) ⟨hx, hb, hml, hown, hts⟩ (c_X1_hasStretch l dC dI s.heap.size r k t cA cB n cm wr K T hn x y) (cwV 2 hts gX2_turn_X1_hasStretch rfl rfl rfl (by decide +kernel) ⟨Nat.le_of_ble_eq_true rfl, Nat.le_of_ble_eq_true rfl⟩) ⟨fun a U g mk q => by obtain ⟨q0, q1, qP, qK, qD⟩ := q; exact ⟨q0, q1, qP, va_K.moved (u := U) (U := U.calling g mk a) (Vm.Alike.refl U.vm) qK, qD⟩, va_recv hKc hPc (ci := 0) (q0 := 0) rfl rfl, fun U hU hW => ⟨rfl, by rw [hU], by rw [hU]; exact hPc, va_K.moved hW.alike hKc, hDc.weaken (fun _ _ _ _ => trivial)⟩⟩ rfl rfl hl.1 rfl (lv_room (Nat.le_of_ble_eq_true rfl)) dX2_turn_6 ⟨Nat.le_of_ble_eq_true rfl, Nat.le_of_ble_eq_true rfl⟩) hS (fun q _ h => hFc q h) hFc (fun r_1 u tS H1 locs ht hvm hw hB hz1 hk1 hS => ?_)
  obtain ⟨hs, rfl⟩ := hw
  obtain ⟨hP1, hK1, hD1⟩ := hB
  rw [ht] at hP1
  obtain ⟨hP, hD⟩ := va_join (wr := [(h, .inr (1, [.ref r, .int lp, .int lc, .int lw]))]) (w1 := [(r, .inr (0, [.ref k, .ref t, .int (nI n), .int cm, .int wr])), (k, .inl (cA, 500, .inl K)), (t, .inl (cB, 500, .inl T))]) hP hD [1, 2, 3] [0] rfl rfl (by decide) (by decide) hk1 hFc hP1 hD1
  generalize H1 = H at hP hS ⊢
  have hP : va_P (dC, dI) vwCl [(h, .inr (1, [.ref r, .int lp, .int lc, .int lw])), (r, .inr (0, [.ref k, .ref t, .int (nI n), .int cm, .int wr])), (k, .inl (cA, 500, .inl K)), (t, .inl (cB, 500, .inl T))] H := hP
  have hD : va_D A [(h, .inr (1, [.ref r, .int lp, .int lc, .int lw])), (r, .inr (0, [.ref k, .ref t, .int (nI n), .int cm, .int wr])), (k, .inl (cA, 500, .inl K)), (t, .inl (cB, 500, .inl T))] := hD
  refine lv_if_ne (tgt := 14) hx hb dX2_turn_9 (by decide) (fun c9 => ?_) (fun c9 => ?_)
  · obtain ⟨a, b, rfl, rfl, hab, hbn⟩ := stP_of hn (tr_1 hs c9)
    refine lv_aload_n hx hb dX2_turn_14 rfl (lv_at hl 0 rfl) ?_
    refine va_get (D := (dC, dI)) (ci := 1) (v := .ref r) (C := RX2) (T := TX2) (N := 4) hx hb hts (by decide +kernel) hown hK hP 0 rfl rfl 0 (by decide) (hts (.fieldLink RX2 10 "RowPress" "row" "LRowPress$Row;") (by decide +kernel)) (fun _ h9 => h9) rfl dX2_turn_15 ?_
    refine lv_iload_n hx hb dX2_turn_18 rfl (lv_at hl 1 rfl) ?_
    refine lv_iload_n hx hb dX2_turn_19 rfl (lv_at hl 2 rfl) ?_
    have hPc := hP.sub (ws' := [(r, .inr (0, [.ref k, .ref t, .int (nI n), .int cm, .int wr])), (k, .inl (cA, 500, .inl K)), (t, .inl (cB, 500, .inl T))]) [1, 2, 3] rfl
    have hDc := hD.sub (ws' := [(r, .inr (0, [.ref k, .ref t, .int (nI n), .int cm, .int wr])), (k, .inl (cA, 500, .inl K)), (t, .inl (cB, 500, .inl T))]) [1, 2, 3] (by decide) rfl
    have hKc := hK.sub (tys' := [(cA, .int), (cB, .int)]) [0, 1] rfl
    have hFc := va_free (wc := [(r, .inr (0, [.ref k, .ref t, .int (nI n), .int cm, .int wr])), (k, .inl (cA, 500, .inl K)), (t, .inl (cB, 500, .inl T))]) hD hS hA [1, 2, 3] rfl
    refine va_callv (va_runV (As := [.int (nI a), .int (nI b)]) (rest := []) ⟨hx, hb, hml, hown, hts⟩ (c_X1_reverse l dC dI H.size r k t cA cB n cm wr K T a b hab (by omega)) (cwV 2 hts gX2_turn_X1_reverse rfl rfl rfl (by decide +kernel) ⟨Nat.le_of_ble_eq_true rfl, Nat.le_of_ble_eq_true rfl⟩) ⟨fun a U g mk q => by obtain ⟨q0, q1, qP, qK, qD⟩ := q; exact ⟨q0, q1, qP, va_K.moved (u := U) (U := U.calling g mk a) (Vm.Alike.refl U.vm) qK, qD⟩, va_recv hKc hPc (ci := 0) (q0 := 0) rfl rfl, fun U hU hW => ⟨rfl, by rw [hU], by rw [hU]; exact hPc, va_K.moved hW.alike hKc, hDc.weaken (fun _ _ _ _ => trivial)⟩⟩ rfl rfl hl.1 rfl (lv_room (Nat.le_of_ble_eq_true rfl)) dX2_turn_20 ⟨Nat.le_of_ble_eq_true rfl, Nat.le_of_ble_eq_true rfl⟩) hS (fun q _ h => hFc q h) hFc (fun u tS H1 locs ht hvm hw hB hz1 hk1 hS => ?_)
    obtain ⟨K1, T1, n1, c1, w1⟩ := u
    obtain ⟨hm1, hn1, hc1, d1, hd1, hw1⟩ := hw
    dsimp only at hm1 hn1 hc1 hw1
    subst hn1; subst hc1; subst hw1
    obtain ⟨hP1, hK1, hD1⟩ := hB
    rw [ht] at hP1
    obtain ⟨hP, hD⟩ := va_join (wr := [(h, .inr (1, [.ref r, .int lp, .int lc, .int lw]))]) (w1 := [(r, .inr (0, [.ref k, .ref t, .int (nI n), .int cm, .int (wr + nI d1)])), (k, .inl (cA, 500, .inl K1)), (t, .inl (cB, 500, .inl T1))]) hP hD [1, 2, 3] [0] rfl rfl (by decide) (by decide) hk1 hFc hP1 hD1
    generalize H1 = H at hP hS ⊢
    have hP : va_P (dC, dI) vwCl [(h, .inr (1, [.ref r, .int lp, .int lc, .int lw])), (r, .inr (0, [.ref k, .ref t, .int (nI n), .int cm, .int (wr + nI d1)])), (k, .inl (cA, 500, .inl K1)), (t, .inl (cB, 500, .inl T1))] H := hP
    have hD : va_D A [(h, .inr (1, [.ref r, .int lp, .int lc, .int lw])), (r, .inr (0, [.ref k, .ref t, .int (nI n), .int cm, .int (wr + nI d1)])), (k, .inl (cA, 500, .inl K1)), (t, .inl (cB, 500, .inl T1))] := hD
    refine lv_iconst (v := (nI 1)) hx hb dX2_turn_23 (by decide) ?_
    exact W.iret (v := (nI 1)) hx hb hr (fun tS ht hW => ⟨⟨(nI 1), (K1, T1, n, cm, (wr + nI d1), lp, lc, lw), rfl, ⟨Or.inr ⟨(a, b), ⟨rfl, rfl, hab, hbn⟩, rfl, rfl, fun j _ => by rw [hm1]⟩, ⟨hn, hck⟩⟩, by rw [ht]; exact hP, va_K.moved hW.alike hK, hD⟩, hS.F ht⟩) hS.2.2 dX2_turn_24
  · refine lv_iconst (v := (nI 0)) hx hb dX2_turn_12 (by decide) ?_
    exact W.iret (v := (nI 0)) hx hb hr (fun tS ht hW => ⟨⟨(nI 0), (K, T, n, cm, wr, lp, lc, lw), rfl, ⟨Or.inl ⟨⟨rfl, sam_rf⟩, fun z hz => tr_0 hs c9 (dT_e hn hz)⟩, ⟨hn, hck⟩⟩, by rw [ht]; exact hP, va_K.moved hW.alike hK, hD⟩, hS.F ht⟩) hS.2.2 dX2_turn_13
set_option maxHeartbeats 4000000 in
set_option maxRecDepth 100000 in
theorem c_X2_split (l : Launch) (dC : Nat → ClassId) (dI : Nat → Nat → Nat) (sz : Nat) (h r k t : Nat) (cA cB : ClassId) (n : Nat) (cm wr lp lc lw : Int32) (K T : Nat → Int32) (hn : n ≤ 500) (hck : ckI lp lc lw) (x y v o : Int32) : Met l yX2_split wsX2_split ({ frames := 4, cells := 0, slots := 0, locals := 130 }) (va_Pc [.ref h, .int x, .int y, .int v, .int o] (fun U => U.heap.size = sz ∧ va_P (dC, dI) vwCl [(h, .inr (1, [.ref r, .int lp, .int lc, .int lw])), (r, .inr (0, [.ref k, .ref t, .int (nI n), .int cm, .int wr])), (k, .inl (cA, 500, .inl K)), (t, .inl (cB, 500, .inl T))] U.heap ∧ va_K (dC, dI) vwCl [(cA, .int), (cB, .int)] U ∧ va_D (fun _ => True) [(h, .inr (1, [.ref r, .int lp, .int lc, .int lw])), (r, .inr (0, [.ref k, .ref t, .int (nI n), .int cm, .int wr])), (k, .inl (cA, 500, .inl K)), (t, .inl (cB, 500, .inl T))])) (va_Qi (fun r u => QspC n (mZ K T) x y v o r u.2.2.1 (mZ u.1 u.2.1) ∧ okU u) (atX dC dI (va_A [(h, .inr (1, [.ref r, .int lp, .int lc, .int lw])), (r, .inr (0, [.ref k, .ref t, .int (nI n), .int cm, .int wr])), (k, .inl (cA, 500, .inl K)), (t, .inl (cB, 500, .inl T))] sz) h r k t cA cB) (va_A [(h, .inr (1, [.ref r, .int lp, .int lc, .int lw])), (r, .inr (0, [.ref k, .ref t, .int (nI n), .int cm, .int wr])), (k, .inl (cA, 500, .inl K)), (t, .inl (cB, 500, .inl T))] sz)) 0 0 (va_A [(h, .inr (1, [.ref r, .int lp, .int lc, .int lw])), (r, .inr (0, [.ref k, .ref t, .int (nI n), .int cm, .int wr])), (k, .inl (cA, 500, .inl K)), (t, .inl (cB, 500, .inl T))] sz) := by
  refine Met.ofW (cc := cX2_split) (maxL := 5) (ret := (some .int)) (by decide) rfl ?_
  intro p e s m args below meth c s₁ B hml hv
  obtain ⟨rfl, hsz, hP, hK, hD0⟩ := hv
  have hx := B.exec
  have hb := B.bytes
  have hr := B.returns
  have hts := atoms_spec (ws := wsX2_split) B.pre
  have hown : s.vm.findClass RX2 = some m.cls := findClass_of_methodNamed B.named
  have hlocks := B.notSynchronized
  subst hsz
  have hD := hD0.self (sz := s.heap.size)
  generalize hAe : va_A [(h, .inr (1, [.ref r, .int lp, .int lc, .int lw])), (r, .inr (0, [.ref k, .ref t, .int (nI n), .int cm, .int wr])), (k, .inl (cA, 500, .inl K)), (t, .inl (cB, 500, .inl T))] s.heap.size = A at hD ⊢
  have hA : ∀ q : Nat, s.heap.size ≤ q → A q := fun q h => by rw [← hAe]; exact Or.inr h
  have hS : va_S A s.heap s.heap [] := va_S.rf
  have hP : va_P (dC, dI) vwCl [(h, .inr (1, [.ref r, .int lp, .int lc, .int lw])), (r, .inr (0, [.ref k, .ref t, .int (nI n), .int cm, .int wr])), (k, .inl (cA, 500, .inl K)), (t, .inl (cB, 500, .inl T))] s.heap := hP
  have hl := lv_entry ([.ref h, .int x, .int y, .int v, .int o]) (n := 5) (Nat.le_of_ble_eq_true rfl)
  rw [lg_entry_eq]
  generalize (lg_sl ([.ref h, .int x, .int y, .int v, .int o]) ++ List.replicate (5 - (lg_sl ([.ref h, .int x, .int y, .int v, .int o])).length) Slot.unset).toArray = ls at hl ⊢
  have hl : lv_has ls 5 [(0, .ref h), (1, .int x), (2, .int y), (3, .int v), (4, .int o)] := hl
  refine lv_iload hx hb dX2_split_0 (lv_at hl 4 rfl) ?_
  have hPc := hP.sub (ws' := []) [] rfl
  have hDc := hD.sub (ws' := []) [] (by decide) rfl
  have hKc := hK.sub (tys' := []) [] rfl
  have hFc := va_free (wc := []) hD hS hA [] rfl
  refine va_calli (va_runS (As := [.int o]) (rest := []) ⟨hx, hb, hml, hown, hts⟩ (c_X0_exists l dC dI s.heap.size o) (va_cwS 1 hts gX2_split_X0_exists rfl rfl rfl (by decide +kernel) ⟨Nat.le_of_ble_eq_true rfl, Nat.le_of_ble_eq_true rfl⟩) ⟨fun a U g mk q => by obtain ⟨q0, q1, qP, qK, qD⟩ := q; exact ⟨q0, q1, qP, va_K.moved (u := U) (U := U.calling g mk a) (Vm.Alike.refl U.vm) qK, qD⟩, fun U hU hW => ⟨rfl, by rw [hU], by rw [hU]; exact hPc, va_K.moved hW.alike hKc, hDc.weaken (fun _ _ _ _ => trivial)⟩⟩ rfl rfl hl.1 rfl (lv_room (Nat.le_of_ble_eq_true rfl)) dX2_split_2 ⟨Nat.le_of_ble_eq_true rfl, Nat.le_of_ble_eq_true rfl⟩) hS (fun q _ h => hFc q h) hFc (fun r_1 u tS H1 locs ht hvm hw hB hz1 hk1 hS => ?_)
  have he := hw
  obtain ⟨hP1, hK1, hD1⟩ := hB
  rw [ht] at hP1
  obtain ⟨hP, hD⟩ := va_join (wr := [(h, .inr (1, [.ref r, .int lp, .int lc, .int lw])), (r, .inr (0, [.ref k, .ref t, .int (nI n), .int cm, .int wr])), (k, .inl (cA, 500, .inl K)), (t, .inl (cB, 500, .inl T))]) (w1 := []) hP hD [] [0, 1, 2, 3] rfl rfl (by decide) (by decide) hk1 hFc hP1 hD1
  generalize H1 = H at hP hS ⊢
  have hP : va_P (dC, dI) vwCl [(h, .inr (1, [.ref r, .int lp, .int lc, .int lw])), (r, .inr (0, [.ref k, .ref t, .int (nI n), .int cm, .int wr])), (k, .inl (cA, 500, .inl K)), (t, .inl (cB, 500, .inl T))] H := hP
  have hD : va_D A [(h, .inr (1, [.ref r, .int lp, .int lc, .int lw])), (r, .inr (0, [.ref k, .ref t, .int (nI n), .int cm, .int wr])), (k, .inl (cA, 500, .inl K)), (t, .inl (cB, 500, .inl T))] := hD
  refine lv_if_eq (tgt := 20) hx hb dX2_split_5 (by decide) (fun c5 => ?_) (fun c5 => ?_)
  · refine lv_iconst (v := (-1)) hx hb dX2_split_20 (by decide) ?_
    exact W.iret (v := (-1)) hx hb hr (fun tS ht hW => ⟨⟨(-1), (K, T, n, cm, wr, lp, lc, lw), rfl, ⟨Or.inl ⟨⟨rfl, sam_rf⟩, fun z hz => tr_0 he c5 (dS_e hn hz).1⟩, ⟨hn, hck⟩⟩, by rw [ht]; exact hP, va_K.moved hW.alike hK, hD⟩, hS.F ht⟩) hS.2.2 dX2_split_21
  · refine lv_aload_n hx hb dX2_split_8 rfl (lv_at hl 0 rfl) ?_
    refine va_get (D := (dC, dI)) (ci := 1) (v := .ref r) (C := RX2) (T := TX2) (N := 4) hx hb hts (by decide +kernel) hown hK hP 0 rfl rfl 0 (by decide) (hts (.fieldLink RX2 10 "RowPress" "row" "LRowPress$Row;") (by decide +kernel)) (fun _ h9 => h9) rfl dX2_split_9 ?_
    refine lv_iload_n hx hb dX2_split_12 rfl (lv_at hl 1 rfl) ?_
    refine lv_iload_n hx hb dX2_split_13 rfl (lv_at hl 2 rfl) ?_
    have hPc := hP.sub (ws' := [(r, .inr (0, [.ref k, .ref t, .int (nI n), .int cm, .int wr])), (k, .inl (cA, 500, .inl K)), (t, .inl (cB, 500, .inl T))]) [1, 2, 3] rfl
    have hDc := hD.sub (ws' := [(r, .inr (0, [.ref k, .ref t, .int (nI n), .int cm, .int wr])), (k, .inl (cA, 500, .inl K)), (t, .inl (cB, 500, .inl T))]) [1, 2, 3] (by decide) rfl
    have hKc := hK.sub (tys' := [(cA, .int), (cB, .int)]) [0, 1] rfl
    have hFc := va_free (wc := [(r, .inr (0, [.ref k, .ref t, .int (nI n), .int cm, .int wr])), (k, .inl (cA, 500, .inl K)), (t, .inl (cB, 500, .inl T))]) hD hS hA [1, 2, 3] rfl
    refine va_calli (va_runV (As := [.int x, .int y]) (rest := []) ⟨hx, hb, hml, hown, hts⟩ (c_X1_hasStretch l dC dI H.size r k t cA cB n cm wr K T hn x y) (cwV 2 hts gX2_split_X1_hasStretch rfl rfl rfl (by decide +kernel) ⟨Nat.le_of_ble_eq_true rfl, Nat.le_of_ble_eq_true rfl⟩) ⟨fun a U g mk q => by obtain ⟨q0, q1, qP, qK, qD⟩ := q; exact ⟨q0, q1, qP, va_K.moved (u := U) (U := U.calling g mk a) (Vm.Alike.refl U.vm) qK, qD⟩, va_recv hKc hPc (ci := 0) (q0 := 0) rfl rfl, fun U hU hW => ⟨rfl, by rw [hU], by rw [hU]; exact hPc, va_K.moved hW.alike hKc, hDc.weaken (fun _ _ _ _ => trivial)⟩⟩ rfl rfl hl.1 rfl (lv_room (Nat.le_of_ble_eq_true rfl)) dX2_split_14 ⟨Nat.le_of_ble_eq_true rfl, Nat.le_of_ble_eq_true rfl⟩) hS (fun q _ h => hFc q h) hFc (fun r_2 u tS H1 locs ht hvm hw hB hz1 hk1 hS => ?_)
    obtain ⟨hs, rfl⟩ := hw
    obtain ⟨hP1, hK1, hD1⟩ := hB
    rw [ht] at hP1
    obtain ⟨hP, hD⟩ := va_join (wr := [(h, .inr (1, [.ref r, .int lp, .int lc, .int lw]))]) (w1 := [(r, .inr (0, [.ref k, .ref t, .int (nI n), .int cm, .int wr])), (k, .inl (cA, 500, .inl K)), (t, .inl (cB, 500, .inl T))]) hP hD [1, 2, 3] [0] rfl rfl (by decide) (by decide) hk1 hFc hP1 hD1
    generalize H1 = H at hP hS ⊢
    have hP : va_P (dC, dI) vwCl [(h, .inr (1, [.ref r, .int lp, .int lc, .int lw])), (r, .inr (0, [.ref k, .ref t, .int (nI n), .int cm, .int wr])), (k, .inl (cA, 500, .inl K)), (t, .inl (cB, 500, .inl T))] H := hP
    have hD : va_D A [(h, .inr (1, [.ref r, .int lp, .int lc, .int lw])), (r, .inr (0, [.ref k, .ref t, .int (nI n), .int cm, .int wr])), (k, .inl (cA, 500, .inl K)), (t, .inl (cB, 500, .inl T))] := hD
    refine lv_if_ne (tgt := 22) hx hb dX2_split_17 (by decide) (fun c17 => ?_) (fun c17 => ?_)
    · obtain ⟨o1, ho, rfl⟩ := exO_of (tr_1 he c5)
      obtain ⟨a, b, rfl, rfl, hab, hbn⟩ := stP_of hn (tr_1 hs c17)
      have hb5 : b ≤ 500 := by omega
      refine lv_aload_n hx hb dX2_split_22 rfl (lv_at hl 0 rfl) ?_
      refine va_get (D := (dC, dI)) (ci := 1) (v := .ref r) (C := RX2) (T := TX2) (N := 4) hx hb hts (by decide +kernel) hown hK hP 0 rfl rfl 0 (by decide) (hts (.fieldLink RX2 10 "RowPress" "row" "LRowPress$Row;") (by decide +kernel)) (fun _ h9 => h9) rfl dX2_split_23 ?_
      refine lv_iload_n hx hb dX2_split_26 rfl (lv_at hl 1 rfl) ?_
      refine lv_iload_n hx hb dX2_split_27 rfl (lv_at hl 2 rfl) ?_
      refine lv_iload_n hx hb dX2_split_28 rfl (lv_at hl 3 rfl) ?_
      refine lv_iload hx hb dX2_split_29 (lv_at hl 4 rfl) ?_
      have hPc := hP.sub (ws' := [(r, .inr (0, [.ref k, .ref t, .int (nI n), .int cm, .int wr])), (k, .inl (cA, 500, .inl K)), (t, .inl (cB, 500, .inl T))]) [1, 2, 3] rfl
      have hDc := hD.sub (ws' := [(r, .inr (0, [.ref k, .ref t, .int (nI n), .int cm, .int wr])), (k, .inl (cA, 500, .inl K)), (t, .inl (cB, 500, .inl T))]) [1, 2, 3] (by decide) rfl
      have hKc := hK.sub (tys' := [(cA, .int), (cB, .int)]) [0, 1] rfl
      have hFc := va_free (wc := [(r, .inr (0, [.ref k, .ref t, .int (nI n), .int cm, .int wr])), (k, .inl (cA, 500, .inl K)), (t, .inl (cB, 500, .inl T))]) hD hS hA [1, 2, 3] rfl
      refine va_callv (va_runV (As := [.int (nI a), .int (nI b), .int v, .int (nI o1)]) (rest := []) ⟨hx, hb, hml, hown, hts⟩ (c_X1_splitInPlace l dC dI H.size r k t cA cB n cm wr K T a b v o1 hab hb5 ho) (cwV 4 hts gX2_split_X1_splitInPlace rfl rfl rfl (by decide +kernel) ⟨Nat.le_of_ble_eq_true rfl, Nat.le_of_ble_eq_true rfl⟩) ⟨fun a U g mk q => by obtain ⟨q0, q1, qP, qK, qD⟩ := q; exact ⟨q0, q1, qP, va_K.moved (u := U) (U := U.calling g mk a) (Vm.Alike.refl U.vm) qK, qD⟩, va_recv hKc hPc (ci := 0) (q0 := 0) rfl rfl, fun U hU hW => ⟨rfl, by rw [hU], by rw [hU]; exact hPc, va_K.moved hW.alike hKc, hDc.weaken (fun _ _ _ _ => trivial)⟩⟩ rfl rfl hl.1 rfl (lv_room (Nat.le_of_ble_eq_true rfl)) dX2_split_31 ⟨Nat.le_of_ble_eq_true rfl, Nat.le_of_ble_eq_true rfl⟩) hS (fun q _ h => hFc q h) hFc (fun u tS H1 locs ht hvm hw hB hz1 hk1 hS => ?_)
      obtain ⟨K1, T1, n1, e1, w1⟩ := u
      obtain ⟨zo, zs, zm, zn⟩ := hw
      dsimp only at zo zs zm zn
      subst zn
      obtain ⟨hP1, hK1, hD1⟩ := hB
      rw [ht] at hP1
      obtain ⟨hP, hD⟩ := va_join (wr := [(h, .inr (1, [.ref r, .int lp, .int lc, .int lw]))]) (w1 := [(r, .inr (0, [.ref k, .ref t, .int (nI n), .int e1, .int w1])), (k, .inl (cA, 500, .inl K1)), (t, .inl (cB, 500, .inl T1))]) hP hD [1, 2, 3] [0] rfl rfl (by decide) (by decide) hk1 hFc hP1 hD1
      generalize H1 = H at hP hS ⊢
      have hP : va_P (dC, dI) vwCl [(h, .inr (1, [.ref r, .int lp, .int lc, .int lw])), (r, .inr (0, [.ref k, .ref t, .int (nI n), .int e1, .int w1])), (k, .inl (cA, 500, .inl K1)), (t, .inl (cB, 500, .inl T1))] H := hP
      have hD : va_D A [(h, .inr (1, [.ref r, .int lp, .int lc, .int lw])), (r, .inr (0, [.ref k, .ref t, .int (nI n), .int e1, .int w1])), (k, .inl (cA, 500, .inl K1)), (t, .inl (cB, 500, .inl T1))] := hD
      refine lv_aload_n hx hb dX2_split_34 rfl (lv_at hl 0 rfl) ?_
      refine va_get (D := (dC, dI)) (ci := 1) (v := .ref r) (C := RX2) (T := TX2) (N := 4) hx hb hts (by decide +kernel) hown hK hP 0 rfl rfl 0 (by decide) (hts (.fieldLink RX2 10 "RowPress" "row" "LRowPress$Row;") (by decide +kernel)) (fun _ h9 => h9) rfl dX2_split_35 ?_
      refine lv_iload_n hx hb dX2_split_38 rfl (lv_at hl 1 rfl) ?_
      refine lv_iload_n hx hb dX2_split_39 rfl (lv_at hl 2 rfl) ?_
      refine lv_iload_n hx hb dX2_split_40 rfl (lv_at hl 3 rfl) ?_
      refine lv_iload hx hb dX2_split_41 (lv_at hl 4 rfl) ?_
      have hPc := hP.sub (ws' := [(r, .inr (0, [.ref k, .ref t, .int (nI n), .int e1, .int w1])), (k, .inl (cA, 500, .inl K1)), (t, .inl (cB, 500, .inl T1))]) [1, 2, 3] rfl
      have hDc := hD.sub (ws' := [(r, .inr (0, [.ref k, .ref t, .int (nI n), .int e1, .int w1])), (k, .inl (cA, 500, .inl K1)), (t, .inl (cB, 500, .inl T1))]) [1, 2, 3] (by decide) rfl
      have hKc := hK.sub (tys' := [(cA, .int), (cB, .int)]) [0, 1] rfl
      have hFc := va_free (wc := [(r, .inr (0, [.ref k, .ref t, .int (nI n), .int e1, .int w1])), (k, .inl (cA, 500, .inl K1)), (t, .inl (cB, 500, .inl T1))]) hD hS hA [1, 2, 3] rfl
      refine va_calli (va_runV (As := [.int (nI a), .int (nI b), .int v, .int (nI o1)]) (rest := []) ⟨hx, hb, hml, hown, hts⟩ (c_X1_countLess l dC dI H.size r k t cA cB n e1 w1 K1 T1 a b v o1 hab hb5 ho) (cwV 4 hts gX2_split_X1_countLess rfl rfl rfl (by decide +kernel) ⟨Nat.le_of_ble_eq_true rfl, Nat.le_of_ble_eq_true rfl⟩) ⟨fun a U g mk q => by obtain ⟨q0, q1, qP, qK, qD⟩ := q; exact ⟨q0, q1, qP, va_K.moved (u := U) (U := U.calling g mk a) (Vm.Alike.refl U.vm) qK, qD⟩, va_recv hKc hPc (ci := 0) (q0 := 0) rfl rfl, fun U hU hW => ⟨rfl, by rw [hU], by rw [hU]; exact hPc, va_K.moved hW.alike hKc, hDc.weaken (fun _ _ _ _ => trivial)⟩⟩ rfl rfl hl.1 rfl (lv_room (Nat.le_of_ble_eq_true rfl)) dX2_split_43 ⟨Nat.le_of_ble_eq_true rfl, Nat.le_of_ble_eq_true rfl⟩) hS (fun q _ h => hFc q h) hFc (fun r_4 u tS H1 locs ht hvm hw hB hz1 hk1 hS => ?_)
      obtain ⟨hq, rfl⟩ := hw
      obtain ⟨hP1, hK1, hD1⟩ := hB
      rw [ht] at hP1
      obtain ⟨hP, hD⟩ := va_join (wr := [(h, .inr (1, [.ref r, .int lp, .int lc, .int lw]))]) (w1 := [(r, .inr (0, [.ref k, .ref t, .int (nI n), .int e1, .int w1])), (k, .inl (cA, 500, .inl K1)), (t, .inl (cB, 500, .inl T1))]) hP hD [1, 2, 3] [0] rfl rfl (by decide) (by decide) hk1 hFc hP1 hD1
      generalize H1 = H at hP hS ⊢
      have hP : va_P (dC, dI) vwCl [(h, .inr (1, [.ref r, .int lp, .int lc, .int lw])), (r, .inr (0, [.ref k, .ref t, .int (nI n), .int e1, .int w1])), (k, .inl (cA, 500, .inl K1)), (t, .inl (cB, 500, .inl T1))] H := hP
      have hD : va_D A [(h, .inr (1, [.ref r, .int lp, .int lc, .int lw])), (r, .inr (0, [.ref k, .ref t, .int (nI n), .int e1, .int w1])), (k, .inl (cA, 500, .inl K1)), (t, .inl (cB, 500, .inl T1))] := hD
      exact W.iret (v := r_4) hx hb hr (fun tS ht hW => ⟨⟨r_4, (K1, T1, n, e1, w1, lp, lc, lw), rfl, ⟨Or.inr ⟨(a, b, o1), ⟨rfl, rfl, rfl, hab, hbn, ho⟩, hq.trans (congrArg nI (ps_cnt (f := mZ K T) (g := mZ K1 T1) zm)), rfl, soC_of zo zs zm⟩, ⟨hn, hck⟩⟩, by rw [ht]; exact hP, va_K.moved hW.alike hK, hD⟩, hS.F ht⟩) hS.2.2 dX2_split_46
    · refine lv_iconst (v := (-1)) hx hb dX2_split_20 (by decide) ?_
      exact W.iret (v := (-1)) hx hb hr (fun tS ht hW => ⟨⟨(-1), (K, T, n, cm, wr, lp, lc, lw), rfl, ⟨Or.inl ⟨⟨rfl, sam_rf⟩, fun z hz => tr_0 hs c17 (dS_e hn hz).2⟩, ⟨hn, hck⟩⟩, by rw [ht]; exact hP, va_K.moved hW.alike hK, hD⟩, hS.F ht⟩) hS.2.2 dX2_split_21
set_option maxHeartbeats 4000000 in
set_option maxRecDepth 100000 in
theorem c_X2_thin (l : Launch) (dC : Nat → ClassId) (dI : Nat → Nat → Nat) (sz : Nat) (h r k t : Nat) (cA cB : ClassId) (n : Nat) (cm wr lp lc lw : Int32) (K T : Nat → Int32) (hn : n ≤ 500) (hck : ckI lp lc lw) (o : Int32) : Met l yX2_thin wsX2_thin ({ frames := 3, cells := 0, slots := 0, locals := 69 }) (va_Pc [.ref h, .int o] (fun U => U.heap.size = sz ∧ va_P (dC, dI) vwCl [(h, .inr (1, [.ref r, .int lp, .int lc, .int lw])), (r, .inr (0, [.ref k, .ref t, .int (nI n), .int cm, .int wr])), (k, .inl (cA, 500, .inl K)), (t, .inl (cB, 500, .inl T))] U.heap ∧ va_K (dC, dI) vwCl [(cA, .int), (cB, .int)] U ∧ va_D (fun _ => True) [(h, .inr (1, [.ref r, .int lp, .int lc, .int lw])), (r, .inr (0, [.ref k, .ref t, .int (nI n), .int cm, .int wr])), (k, .inl (cA, 500, .inl K)), (t, .inl (cB, 500, .inl T))])) (va_Qi (fun r u => Qthi n (mZ K T) o r u.2.2.1 (mZ u.1 u.2.1) ∧ okU u) (atX dC dI (va_A [(h, .inr (1, [.ref r, .int lp, .int lc, .int lw])), (r, .inr (0, [.ref k, .ref t, .int (nI n), .int cm, .int wr])), (k, .inl (cA, 500, .inl K)), (t, .inl (cB, 500, .inl T))] sz) h r k t cA cB) (va_A [(h, .inr (1, [.ref r, .int lp, .int lc, .int lw])), (r, .inr (0, [.ref k, .ref t, .int (nI n), .int cm, .int wr])), (k, .inl (cA, 500, .inl K)), (t, .inl (cB, 500, .inl T))] sz)) 0 0 (va_A [(h, .inr (1, [.ref r, .int lp, .int lc, .int lw])), (r, .inr (0, [.ref k, .ref t, .int (nI n), .int cm, .int wr])), (k, .inl (cA, 500, .inl K)), (t, .inl (cB, 500, .inl T))] sz) := by
  refine Met.ofW (cc := cX2_thin) (maxL := 2) (ret := (some .int)) (by decide) rfl ?_
  intro p e s m args below meth c s₁ B hml hv
  obtain ⟨rfl, hsz, hP, hK, hD0⟩ := hv
  have hx := B.exec
  have hb := B.bytes
  have hr := B.returns
  have hts := atoms_spec (ws := wsX2_thin) B.pre
  have hown : s.vm.findClass RX2 = some m.cls := findClass_of_methodNamed B.named
  have hlocks := B.notSynchronized
  subst hsz
  have hD := hD0.self (sz := s.heap.size)
  generalize hAe : va_A [(h, .inr (1, [.ref r, .int lp, .int lc, .int lw])), (r, .inr (0, [.ref k, .ref t, .int (nI n), .int cm, .int wr])), (k, .inl (cA, 500, .inl K)), (t, .inl (cB, 500, .inl T))] s.heap.size = A at hD ⊢
  have hA : ∀ q : Nat, s.heap.size ≤ q → A q := fun q h => by rw [← hAe]; exact Or.inr h
  have hS : va_S A s.heap s.heap [] := va_S.rf
  have hP : va_P (dC, dI) vwCl [(h, .inr (1, [.ref r, .int lp, .int lc, .int lw])), (r, .inr (0, [.ref k, .ref t, .int (nI n), .int cm, .int wr])), (k, .inl (cA, 500, .inl K)), (t, .inl (cB, 500, .inl T))] s.heap := hP
  have hl := lv_entry ([.ref h, .int o]) (n := 2) (Nat.le_of_ble_eq_true rfl)
  rw [lg_entry_eq]
  generalize (lg_sl ([.ref h, .int o]) ++ List.replicate (2 - (lg_sl ([.ref h, .int o])).length) Slot.unset).toArray = ls at hl ⊢
  have hl : lv_has ls 2 [(0, .ref h), (1, .int o)] := hl
  refine lv_iload_n hx hb dX2_thin_0 rfl (lv_at hl 1 rfl) ?_
  have hPc := hP.sub (ws' := []) [] rfl
  have hDc := hD.sub (ws' := []) [] (by decide) rfl
  have hKc := hK.sub (tys' := []) [] rfl
  have hFc := va_free (wc := []) hD hS hA [] rfl
  refine va_calli (va_runS (As := [.int o]) (rest := []) ⟨hx, hb, hml, hown, hts⟩ (c_X0_exists l dC dI s.heap.size o) (va_cwS 1 hts gX2_thin_X0_exists rfl rfl rfl (by decide +kernel) ⟨Nat.le_of_ble_eq_true rfl, Nat.le_of_ble_eq_true rfl⟩) ⟨fun a U g mk q => by obtain ⟨q0, q1, qP, qK, qD⟩ := q; exact ⟨q0, q1, qP, va_K.moved (u := U) (U := U.calling g mk a) (Vm.Alike.refl U.vm) qK, qD⟩, fun U hU hW => ⟨rfl, by rw [hU], by rw [hU]; exact hPc, va_K.moved hW.alike hKc, hDc.weaken (fun _ _ _ _ => trivial)⟩⟩ rfl rfl hl.1 rfl (lv_room (Nat.le_of_ble_eq_true rfl)) dX2_thin_1 ⟨Nat.le_of_ble_eq_true rfl, Nat.le_of_ble_eq_true rfl⟩) hS (fun q _ h => hFc q h) hFc (fun r_1 u tS H1 locs ht hvm hw hB hz1 hk1 hS => ?_)
  have he := hw
  obtain ⟨hP1, hK1, hD1⟩ := hB
  rw [ht] at hP1
  obtain ⟨hP, hD⟩ := va_join (wr := [(h, .inr (1, [.ref r, .int lp, .int lc, .int lw])), (r, .inr (0, [.ref k, .ref t, .int (nI n), .int cm, .int wr])), (k, .inl (cA, 500, .inl K)), (t, .inl (cB, 500, .inl T))]) (w1 := []) hP hD [] [0, 1, 2, 3] rfl rfl (by decide) (by decide) hk1 hFc hP1 hD1
  generalize H1 = H at hP hS ⊢
  have hP : va_P (dC, dI) vwCl [(h, .inr (1, [.ref r, .int lp, .int lc, .int lw])), (r, .inr (0, [.ref k, .ref t, .int (nI n), .int cm, .int wr])), (k, .inl (cA, 500, .inl K)), (t, .inl (cB, 500, .inl T))] H := hP
  have hD : va_D A [(h, .inr (1, [.ref r, .int lp, .int lc, .int lw])), (r, .inr (0, [.ref k, .ref t, .int (nI n), .int cm, .int wr])), (k, .inl (cA, 500, .inl K)), (t, .inl (cB, 500, .inl T))] := hD
  refine lv_if_eq (tgt := 26) hx hb dX2_thin_4 (by decide) (fun c4 => ?_) (fun c4 => ?_)
  · refine lv_iconst (v := (-1)) hx hb dX2_thin_26 (by decide) ?_
    exact W.iret (v := (-1)) hx hb hr (fun tS ht hW => ⟨⟨(-1), (K, T, n, cm, wr, lp, lc, lw), rfl, ⟨Or.inl ⟨⟨rfl, sam_rf⟩, fun z hz => tr_0 he c4 (dO_e hz)⟩, ⟨hn, hck⟩⟩, by rw [ht]; exact hP, va_K.moved hW.alike hK, hD⟩, hS.F ht⟩) hS.2.2 dX2_thin_27
  · obtain ⟨o1, ho, rfl⟩ := exO_of (tr_1 he c4)
    refine lv_aload_n hx hb dX2_thin_7 rfl (lv_at hl 0 rfl) ?_
    refine va_get (D := (dC, dI)) (ci := 1) (v := .ref r) (C := RX2) (T := TX2) (N := 4) hx hb hts (by decide +kernel) hown hK hP 0 rfl rfl 0 (by decide) (hts (.fieldLink RX2 10 "RowPress" "row" "LRowPress$Row;") (by decide +kernel)) (fun _ h9 => h9) rfl dX2_thin_8 ?_
    refine lv_iconst (v := (nI 0)) hx hb dX2_thin_11 (by decide) ?_
    refine lv_aload_n hx hb dX2_thin_12 rfl (lv_at hl 0 rfl) ?_
    refine va_get (D := (dC, dI)) (ci := 1) (v := .ref r) (C := RX2) (T := TX2) (N := 4) hx hb hts (by decide +kernel) hown hK hP 0 rfl rfl 0 (by decide) (hts (.fieldLink RX2 10 "RowPress" "row" "LRowPress$Row;") (by decide +kernel)) (fun _ h9 => h9) rfl dX2_thin_13 ?_
    refine va_get (D := (dC, dI)) (ci := 0) (v := .int (nI n)) (C := RX1) (T := TX1) (N := 5) hx hb hts (by decide +kernel) hown hK hP 1 rfl rfl 2 (by decide) (hts (.fieldLink RX2 24 "RowPress$Row" "size" "I") (by decide +kernel)) (fun _ h9 => h9) rfl dX2_thin_16 ?_
    refine lv_iload_n hx hb dX2_thin_19 rfl (lv_at hl 1 rfl) ?_
    have hPc := hP.sub (ws' := [(r, .inr (0, [.ref k, .ref t, .int (nI n), .int cm, .int wr])), (k, .inl (cA, 500, .inl K)), (t, .inl (cB, 500, .inl T))]) [1, 2, 3] rfl
    have hDc := hD.sub (ws' := [(r, .inr (0, [.ref k, .ref t, .int (nI n), .int cm, .int wr])), (k, .inl (cA, 500, .inl K)), (t, .inl (cB, 500, .inl T))]) [1, 2, 3] (by decide) rfl
    have hKc := hK.sub (tys' := [(cA, .int), (cB, .int)]) [0, 1] rfl
    have hFc := va_free (wc := [(r, .inr (0, [.ref k, .ref t, .int (nI n), .int cm, .int wr])), (k, .inl (cA, 500, .inl K)), (t, .inl (cB, 500, .inl T))]) hD hS hA [1, 2, 3] rfl
    refine va_calli (va_runV (As := [.int (nI 0), .int (nI n), .int (nI o1)]) (rest := []) ⟨hx, hb, hml, hown, hts⟩ (c_X1_inOrder l dC dI H.size r k t cA cB n cm wr K T 0 n o1 (Nat.zero_le _) hn ho) (cwV 3 hts gX2_thin_X1_inOrder rfl rfl rfl (by decide +kernel) ⟨Nat.le_of_ble_eq_true rfl, Nat.le_of_ble_eq_true rfl⟩) ⟨fun a U g mk q => by obtain ⟨q0, q1, qP, qK, qD⟩ := q; exact ⟨q0, q1, qP, va_K.moved (u := U) (U := U.calling g mk a) (Vm.Alike.refl U.vm) qK, qD⟩, va_recv hKc hPc (ci := 0) (q0 := 0) rfl rfl, fun U hU hW => ⟨rfl, by rw [hU], by rw [hU]; exact hPc, va_K.moved hW.alike hKc, hDc.weaken (fun _ _ _ _ => trivial)⟩⟩ rfl rfl hl.1 rfl (lv_room (Nat.le_of_ble_eq_true rfl)) dX2_thin_20 ⟨Nat.le_of_ble_eq_true rfl, Nat.le_of_ble_eq_true rfl⟩) hS (fun q _ h => hFc q h) hFc (fun r_2 u tS H1 locs ht hvm hw hB hz1 hk1 hS => ?_)
    obtain ⟨hi, d1, hd1, rfl⟩ := hw
    obtain ⟨hP1, hK1, hD1⟩ := hB
    rw [ht] at hP1
    obtain ⟨hP, hD⟩ := va_join (wr := [(h, .inr (1, [.ref r, .int lp, .int lc, .int lw]))]) (w1 := [(r, .inr (0, [.ref k, .ref t, .int (nI n), .int (cm + nI d1), .int wr])), (k, .inl (cA, 500, .inl K)), (t, .inl (cB, 500, .inl T))]) hP hD [1, 2, 3] [0] rfl rfl (by decide) (by decide) hk1 hFc hP1 hD1
    generalize H1 = H at hP hS ⊢
    have hP : va_P (dC, dI) vwCl [(h, .inr (1, [.ref r, .int lp, .int lc, .int lw])), (r, .inr (0, [.ref k, .ref t, .int (nI n), .int (cm + nI d1), .int wr])), (k, .inl (cA, 500, .inl K)), (t, .inl (cB, 500, .inl T))] H := hP
    have hD : va_D A [(h, .inr (1, [.ref r, .int lp, .int lc, .int lw])), (r, .inr (0, [.ref k, .ref t, .int (nI n), .int (cm + nI d1), .int wr])), (k, .inl (cA, 500, .inl K)), (t, .inl (cB, 500, .inl T))] := hD
    refine lv_if_ne (tgt := 28) hx hb dX2_thin_23 (by decide) (fun c23 => ?_) (fun c23 => ?_)
    · refine lv_aload_n hx hb dX2_thin_28 rfl (lv_at hl 0 rfl) ?_
      refine va_get (D := (dC, dI)) (ci := 1) (v := .ref r) (C := RX2) (T := TX2) (N := 4) hx hb hts (by decide +kernel) hown hK hP 0 rfl rfl 0 (by decide) (hts (.fieldLink RX2 10 "RowPress" "row" "LRowPress$Row;") (by decide +kernel)) (fun _ h9 => h9) rfl dX2_thin_29 ?_
      refine lv_iload_n hx hb dX2_thin_32 rfl (lv_at hl 1 rfl) ?_
      have hPc := hP.sub (ws' := [(r, .inr (0, [.ref k, .ref t, .int (nI n), .int (cm + nI d1), .int wr])), (k, .inl (cA, 500, .inl K)), (t, .inl (cB, 500, .inl T))]) [1, 2, 3] rfl
      have hDc := hD.sub (ws' := [(r, .inr (0, [.ref k, .ref t, .int (nI n), .int (cm + nI d1), .int wr])), (k, .inl (cA, 500, .inl K)), (t, .inl (cB, 500, .inl T))]) [1, 2, 3] (by decide) rfl
      have hKc := hK.sub (tys' := [(cA, .int), (cB, .int)]) [0, 1] rfl
      have hFc := va_free (wc := [(r, .inr (0, [.ref k, .ref t, .int (nI n), .int (cm + nI d1), .int wr])), (k, .inl (cA, 500, .inl K)), (t, .inl (cB, 500, .inl T))]) hD hS hA [1, 2, 3] rfl
      refine va_callv (va_runV (As := [.int (nI o1)]) (rest := []) ⟨hx, hb, hml, hown, hts⟩ (c_X1_dropAlike l dC dI H.size r k t cA cB n (cm + nI d1) wr K T o1 hn ho (tr_1 hi c23)) (cwV 1 hts gX2_thin_X1_dropAlike rfl rfl rfl (by decide +kernel) ⟨Nat.le_of_ble_eq_true rfl, Nat.le_of_ble_eq_true rfl⟩) ⟨fun a U g mk q => by obtain ⟨q0, q1, qP, qK, qD⟩ := q; exact ⟨q0, q1, qP, va_K.moved (u := U) (U := U.calling g mk a) (Vm.Alike.refl U.vm) qK, qD⟩, va_recv hKc hPc (ci := 0) (q0 := 0) rfl rfl, fun U hU hW => ⟨rfl, by rw [hU], by rw [hU]; exact hPc, va_K.moved hW.alike hKc, hDc.weaken (fun _ _ _ _ => trivial)⟩⟩ rfl rfl hl.1 rfl (lv_room (Nat.le_of_ble_eq_true rfl)) dX2_thin_33 ⟨Nat.le_of_ble_eq_true rfl, Nat.le_of_ble_eq_true rfl⟩) hS (fun q _ h => hFc q h) hFc (fun u tS H1 locs ht hvm hw hB hz1 hk1 hS => ?_)
      obtain ⟨K1, T1, n1, e1, w1⟩ := u
      obtain ⟨z1, z2, z3⟩ := hw
      dsimp only at z1 z2 z3
      obtain ⟨hP1, hK1, hD1⟩ := hB
      rw [ht] at hP1
      obtain ⟨hP, hD⟩ := va_join (wr := [(h, .inr (1, [.ref r, .int lp, .int lc, .int lw]))]) (w1 := [(r, .inr (0, [.ref k, .ref t, .int (nI n1), .int e1, .int w1])), (k, .inl (cA, 500, .inl K1)), (t, .inl (cB, 500, .inl T1))]) hP hD [1, 2, 3] [0] rfl rfl (by decide) (by decide) hk1 hFc hP1 hD1
      generalize H1 = H at hP hS ⊢
      have hP : va_P (dC, dI) vwCl [(h, .inr (1, [.ref r, .int lp, .int lc, .int lw])), (r, .inr (0, [.ref k, .ref t, .int (nI n1), .int e1, .int w1])), (k, .inl (cA, 500, .inl K1)), (t, .inl (cB, 500, .inl T1))] H := hP
      have hD : va_D A [(h, .inr (1, [.ref r, .int lp, .int lc, .int lw])), (r, .inr (0, [.ref k, .ref t, .int (nI n1), .int e1, .int w1])), (k, .inl (cA, 500, .inl K1)), (t, .inl (cB, 500, .inl T1))] := hD
      refine lv_aload_n hx hb dX2_thin_36 rfl (lv_at hl 0 rfl) ?_
      refine va_get (D := (dC, dI)) (ci := 1) (v := .ref r) (C := RX2) (T := TX2) (N := 4) hx hb hts (by decide +kernel) hown hK hP 0 rfl rfl 0 (by decide) (hts (.fieldLink RX2 10 "RowPress" "row" "LRowPress$Row;") (by decide +kernel)) (fun _ h9 => h9) rfl dX2_thin_37 ?_
      refine va_get (D := (dC, dI)) (ci := 0) (v := .int (nI n1)) (C := RX1) (T := TX1) (N := 5) hx hb hts (by decide +kernel) hown hK hP 1 rfl rfl 2 (by decide) (hts (.fieldLink RX2 24 "RowPress$Row" "size" "I") (by decide +kernel)) (fun _ h9 => h9) rfl dX2_thin_40 ?_
      exact W.iret (v := (nI n1)) hx hb hr (fun tS ht hW => ⟨⟨(nI n1), (K1, T1, n1, e1, w1, lp, lc, lw), rfl, ⟨Or.inr ⟨o1, ⟨rfl, ho⟩, Or.inr ⟨tr_1 hi c23, rfl, z1, z3⟩⟩, ⟨by show n1 ≤ 500; omega, hck⟩⟩, by rw [ht]; exact hP, va_K.moved hW.alike hK, hD⟩, hS.F ht⟩) hS.2.2 dX2_thin_43
    · refine lv_iconst (v := (-1)) hx hb dX2_thin_26 (by decide) ?_
      exact W.iret (v := (-1)) hx hb hr (fun tS ht hW => ⟨⟨(-1), (K, T, n, (cm + nI d1), wr, lp, lc, lw), rfl, ⟨Or.inr ⟨o1, ⟨rfl, ho⟩, Or.inl ⟨tr_0 hi c23, rfl, sam_rf⟩⟩, ⟨hn, hck⟩⟩, by rw [ht]; exact hP, va_K.moved hW.alike hK, hD⟩, hS.F ht⟩) hS.2.2 dX2_thin_27
set_option maxHeartbeats 4000000 in
set_option maxRecDepth 100000 in
theorem c_X2_sorted (l : Launch) (dC : Nat → ClassId) (dI : Nat → Nat → Nat) (sz : Nat) (h r k t : Nat) (cA cB : ClassId) (n : Nat) (cm wr lp lc lw : Int32) (K T : Nat → Int32) (hn : n ≤ 500) (hck : ckI lp lc lw) (x y o : Int32) : Met l yX2_sorted wsX2_sorted ({ frames := 3, cells := 0, slots := 0, locals := 69 }) (va_Pc [.ref h, .int x, .int y, .int o] (fun U => U.heap.size = sz ∧ va_P (dC, dI) vwCl [(h, .inr (1, [.ref r, .int lp, .int lc, .int lw])), (r, .inr (0, [.ref k, .ref t, .int (nI n), .int cm, .int wr])), (k, .inl (cA, 500, .inl K)), (t, .inl (cB, 500, .inl T))] U.heap ∧ va_K (dC, dI) vwCl [(cA, .int), (cB, .int)] U ∧ va_D (fun _ => True) [(h, .inr (1, [.ref r, .int lp, .int lc, .int lw])), (r, .inr (0, [.ref k, .ref t, .int (nI n), .int cm, .int wr])), (k, .inl (cA, 500, .inl K)), (t, .inl (cB, 500, .inl T))])) (va_Qi (fun r u => Qsrd n (mZ K T) x y o r ∧ (u.2.2.1 = n ∧ mZ u.1 u.2.1 = mZ K T) ∧ okU u) (atX dC dI (va_A [(h, .inr (1, [.ref r, .int lp, .int lc, .int lw])), (r, .inr (0, [.ref k, .ref t, .int (nI n), .int cm, .int wr])), (k, .inl (cA, 500, .inl K)), (t, .inl (cB, 500, .inl T))] sz) h r k t cA cB) (va_A [(h, .inr (1, [.ref r, .int lp, .int lc, .int lw])), (r, .inr (0, [.ref k, .ref t, .int (nI n), .int cm, .int wr])), (k, .inl (cA, 500, .inl K)), (t, .inl (cB, 500, .inl T))] sz)) 0 0 (va_A [(h, .inr (1, [.ref r, .int lp, .int lc, .int lw])), (r, .inr (0, [.ref k, .ref t, .int (nI n), .int cm, .int wr])), (k, .inl (cA, 500, .inl K)), (t, .inl (cB, 500, .inl T))] sz) := by
  refine Met.ofW (cc := cX2_sorted) (maxL := 4) (ret := (some .int)) (by decide) rfl ?_
  intro p e s m args below meth c s₁ B hml hv
  obtain ⟨rfl, hsz, hP, hK, hD0⟩ := hv
  have hx := B.exec
  have hb := B.bytes
  have hr := B.returns
  have hts := atoms_spec (ws := wsX2_sorted) B.pre
  have hown : s.vm.findClass RX2 = some m.cls := findClass_of_methodNamed B.named
  have hlocks := B.notSynchronized
  subst hsz
  have hD := hD0.self (sz := s.heap.size)
  generalize hAe : va_A [(h, .inr (1, [.ref r, .int lp, .int lc, .int lw])), (r, .inr (0, [.ref k, .ref t, .int (nI n), .int cm, .int wr])), (k, .inl (cA, 500, .inl K)), (t, .inl (cB, 500, .inl T))] s.heap.size = A at hD ⊢
  have hA : ∀ q : Nat, s.heap.size ≤ q → A q := fun q h => by rw [← hAe]; exact Or.inr h
  have hS : va_S A s.heap s.heap [] := va_S.rf
  have hP : va_P (dC, dI) vwCl [(h, .inr (1, [.ref r, .int lp, .int lc, .int lw])), (r, .inr (0, [.ref k, .ref t, .int (nI n), .int cm, .int wr])), (k, .inl (cA, 500, .inl K)), (t, .inl (cB, 500, .inl T))] s.heap := hP
  have hl := lv_entry ([.ref h, .int x, .int y, .int o]) (n := 4) (Nat.le_of_ble_eq_true rfl)
  rw [lg_entry_eq]
  generalize (lg_sl ([.ref h, .int x, .int y, .int o]) ++ List.replicate (4 - (lg_sl ([.ref h, .int x, .int y, .int o])).length) Slot.unset).toArray = ls at hl ⊢
  have hl : lv_has ls 4 [(0, .ref h), (1, .int x), (2, .int y), (3, .int o)] := hl
  refine lv_iload_n hx hb dX2_sorted_0 rfl (lv_at hl 3 rfl) ?_
  have hPc := hP.sub (ws' := []) [] rfl
  have hDc := hD.sub (ws' := []) [] (by decide) rfl
  have hKc := hK.sub (tys' := []) [] rfl
  have hFc := va_free (wc := []) hD hS hA [] rfl
  refine va_calli (va_runS (As := [.int o]) (rest := []) ⟨hx, hb, hml, hown, hts⟩ (c_X0_exists l dC dI s.heap.size o) (va_cwS 1 hts gX2_sorted_X0_exists rfl rfl rfl (by decide +kernel) ⟨Nat.le_of_ble_eq_true rfl, Nat.le_of_ble_eq_true rfl⟩) ⟨fun a U g mk q => by obtain ⟨q0, q1, qP, qK, qD⟩ := q; exact ⟨q0, q1, qP, va_K.moved (u := U) (U := U.calling g mk a) (Vm.Alike.refl U.vm) qK, qD⟩, fun U hU hW => ⟨rfl, by rw [hU], by rw [hU]; exact hPc, va_K.moved hW.alike hKc, hDc.weaken (fun _ _ _ _ => trivial)⟩⟩ rfl rfl hl.1 rfl (lv_room (Nat.le_of_ble_eq_true rfl)) dX2_sorted_1 ⟨Nat.le_of_ble_eq_true rfl, Nat.le_of_ble_eq_true rfl⟩) hS (fun q _ h => hFc q h) hFc (fun r_1 u tS H1 locs ht hvm hw hB hz1 hk1 hS => ?_)
  have he := hw
  obtain ⟨hP1, hK1, hD1⟩ := hB
  rw [ht] at hP1
  obtain ⟨hP, hD⟩ := va_join (wr := [(h, .inr (1, [.ref r, .int lp, .int lc, .int lw])), (r, .inr (0, [.ref k, .ref t, .int (nI n), .int cm, .int wr])), (k, .inl (cA, 500, .inl K)), (t, .inl (cB, 500, .inl T))]) (w1 := []) hP hD [] [0, 1, 2, 3] rfl rfl (by decide) (by decide) hk1 hFc hP1 hD1
  generalize H1 = H at hP hS ⊢
  have hP : va_P (dC, dI) vwCl [(h, .inr (1, [.ref r, .int lp, .int lc, .int lw])), (r, .inr (0, [.ref k, .ref t, .int (nI n), .int cm, .int wr])), (k, .inl (cA, 500, .inl K)), (t, .inl (cB, 500, .inl T))] H := hP
  have hD : va_D A [(h, .inr (1, [.ref r, .int lp, .int lc, .int lw])), (r, .inr (0, [.ref k, .ref t, .int (nI n), .int cm, .int wr])), (k, .inl (cA, 500, .inl K)), (t, .inl (cB, 500, .inl T))] := hD
  refine lv_if_eq (tgt := 19) hx hb dX2_sorted_4 (by decide) (fun c4 => ?_) (fun c4 => ?_)
  · refine lv_iconst (v := (-1)) hx hb dX2_sorted_19 (by decide) ?_
    exact W.iret (v := (-1)) hx hb hr (fun tS ht hW => ⟨⟨(-1), (K, T, n, cm, wr, lp, lc, lw), rfl, ⟨Or.inl ⟨rfl, fun z hz => tr_0 he c4 (dS_e hn hz).1⟩, ⟨rfl, rfl⟩, ⟨hn, hck⟩⟩, by rw [ht]; exact hP, va_K.moved hW.alike hK, hD⟩, hS.F ht⟩) hS.2.2 dX2_sorted_20
  · refine lv_aload_n hx hb dX2_sorted_7 rfl (lv_at hl 0 rfl) ?_
    refine va_get (D := (dC, dI)) (ci := 1) (v := .ref r) (C := RX2) (T := TX2) (N := 4) hx hb hts (by decide +kernel) hown hK hP 0 rfl rfl 0 (by decide) (hts (.fieldLink RX2 10 "RowPress" "row" "LRowPress$Row;") (by decide +kernel)) (fun _ h9 => h9) rfl dX2_sorted_8 ?_
    refine lv_iload_n hx hb dX2_sorted_11 rfl (lv_at hl 1 rfl) ?_
    refine lv_iload_n hx hb dX2_sorted_12 rfl (lv_at hl 2 rfl) ?_
    have hPc := hP.sub (ws' := [(r, .inr (0, [.ref k, .ref t, .int (nI n), .int cm, .int wr])), (k, .inl (cA, 500, .inl K)), (t, .inl (cB, 500, .inl T))]) [1, 2, 3] rfl
    have hDc := hD.sub (ws' := [(r, .inr (0, [.ref k, .ref t, .int (nI n), .int cm, .int wr])), (k, .inl (cA, 500, .inl K)), (t, .inl (cB, 500, .inl T))]) [1, 2, 3] (by decide) rfl
    have hKc := hK.sub (tys' := [(cA, .int), (cB, .int)]) [0, 1] rfl
    have hFc := va_free (wc := [(r, .inr (0, [.ref k, .ref t, .int (nI n), .int cm, .int wr])), (k, .inl (cA, 500, .inl K)), (t, .inl (cB, 500, .inl T))]) hD hS hA [1, 2, 3] rfl
    refine va_calli (va_runV (As := [.int x, .int y]) (rest := []) ⟨hx, hb, hml, hown, hts⟩ (c_X1_hasStretch l dC dI H.size r k t cA cB n cm wr K T hn x y) (cwV 2 hts gX2_sorted_X1_hasStretch rfl rfl rfl (by decide +kernel) ⟨Nat.le_of_ble_eq_true rfl, Nat.le_of_ble_eq_true rfl⟩) ⟨fun a U g mk q => by obtain ⟨q0, q1, qP, qK, qD⟩ := q; exact ⟨q0, q1, qP, va_K.moved (u := U) (U := U.calling g mk a) (Vm.Alike.refl U.vm) qK, qD⟩, va_recv hKc hPc (ci := 0) (q0 := 0) rfl rfl, fun U hU hW => ⟨rfl, by rw [hU], by rw [hU]; exact hPc, va_K.moved hW.alike hKc, hDc.weaken (fun _ _ _ _ => trivial)⟩⟩ rfl rfl hl.1 rfl (lv_room (Nat.le_of_ble_eq_true rfl)) dX2_sorted_13 ⟨Nat.le_of_ble_eq_true rfl, Nat.le_of_ble_eq_true rfl⟩) hS (fun q _ h => hFc q h) hFc (fun r_2 u tS H1 locs ht hvm hw hB hz1 hk1 hS => ?_)
    obtain ⟨hs, rfl⟩ := hw
    obtain ⟨hP1, hK1, hD1⟩ := hB
    rw [ht] at hP1
    obtain ⟨hP, hD⟩ := va_join (wr := [(h, .inr (1, [.ref r, .int lp, .int lc, .int lw]))]) (w1 := [(r, .inr (0, [.ref k, .ref t, .int (nI n), .int cm, .int wr])), (k, .inl (cA, 500, .inl K)), (t, .inl (cB, 500, .inl T))]) hP hD [1, 2, 3] [0] rfl rfl (by decide) (by decide) hk1 hFc hP1 hD1
    generalize H1 = H at hP hS ⊢
    have hP : va_P (dC, dI) vwCl [(h, .inr (1, [.ref r, .int lp, .int lc, .int lw])), (r, .inr (0, [.ref k, .ref t, .int (nI n), .int cm, .int wr])), (k, .inl (cA, 500, .inl K)), (t, .inl (cB, 500, .inl T))] H := hP
    have hD : va_D A [(h, .inr (1, [.ref r, .int lp, .int lc, .int lw])), (r, .inr (0, [.ref k, .ref t, .int (nI n), .int cm, .int wr])), (k, .inl (cA, 500, .inl K)), (t, .inl (cB, 500, .inl T))] := hD
    refine lv_if_ne (tgt := 21) hx hb dX2_sorted_16 (by decide) (fun c16 => ?_) (fun c16 => ?_)
    · obtain ⟨o1, ho, rfl⟩ := exO_of (tr_1 he c4)
      obtain ⟨a, b, rfl, rfl, hab, hbn⟩ := stP_of hn (tr_1 hs c16)
      have hb5 : b ≤ 500 := by omega
      refine lv_aload_n hx hb dX2_sorted_21 rfl (lv_at hl 0 rfl) ?_
      refine va_get (D := (dC, dI)) (ci := 1) (v := .ref r) (C := RX2) (T := TX2) (N := 4) hx hb hts (by decide +kernel) hown hK hP 0 rfl rfl 0 (by decide) (hts (.fieldLink RX2 10 "RowPress" "row" "LRowPress$Row;") (by decide +kernel)) (fun _ h9 => h9) rfl dX2_sorted_22 ?_
      refine lv_iload_n hx hb dX2_sorted_25 rfl (lv_at hl 1 rfl) ?_
      refine lv_iload_n hx hb dX2_sorted_26 rfl (lv_at hl 2 rfl) ?_
      refine lv_iload_n hx hb dX2_sorted_27 rfl (lv_at hl 3 rfl) ?_
      have hPc := hP.sub (ws' := [(r, .inr (0, [.ref k, .ref t, .int (nI n), .int cm, .int wr])), (k, .inl (cA, 500, .inl K)), (t, .inl (cB, 500, .inl T))]) [1, 2, 3] rfl
      have hDc := hD.sub (ws' := [(r, .inr (0, [.ref k, .ref t, .int (nI n), .int cm, .int wr])), (k, .inl (cA, 500, .inl K)), (t, .inl (cB, 500, .inl T))]) [1, 2, 3] (by decide) rfl
      have hKc := hK.sub (tys' := [(cA, .int), (cB, .int)]) [0, 1] rfl
      have hFc := va_free (wc := [(r, .inr (0, [.ref k, .ref t, .int (nI n), .int cm, .int wr])), (k, .inl (cA, 500, .inl K)), (t, .inl (cB, 500, .inl T))]) hD hS hA [1, 2, 3] rfl
      refine va_calli (va_runV (As := [.int (nI a), .int (nI b), .int (nI o1)]) (rest := []) ⟨hx, hb, hml, hown, hts⟩ (c_X1_inOrder l dC dI H.size r k t cA cB n cm wr K T a b o1 (by omega) (by omega) ho) (cwV 3 hts gX2_sorted_X1_inOrder rfl rfl rfl (by decide +kernel) ⟨Nat.le_of_ble_eq_true rfl, Nat.le_of_ble_eq_true rfl⟩) ⟨fun a U g mk q => by obtain ⟨q0, q1, qP, qK, qD⟩ := q; exact ⟨q0, q1, qP, va_K.moved (u := U) (U := U.calling g mk a) (Vm.Alike.refl U.vm) qK, qD⟩, va_recv hKc hPc (ci := 0) (q0 := 0) rfl rfl, fun U hU hW => ⟨rfl, by rw [hU], by rw [hU]; exact hPc, va_K.moved hW.alike hKc, hDc.weaken (fun _ _ _ _ => trivial)⟩⟩ rfl rfl hl.1 rfl (lv_room (Nat.le_of_ble_eq_true rfl)) dX2_sorted_28 ⟨Nat.le_of_ble_eq_true rfl, Nat.le_of_ble_eq_true rfl⟩) hS (fun q _ h => hFc q h) hFc (fun r_3 u tS H1 locs ht hvm hw hB hz1 hk1 hS => ?_)
      obtain ⟨hi, d1, hd1, rfl⟩ := hw
      obtain ⟨hP1, hK1, hD1⟩ := hB
      rw [ht] at hP1
      obtain ⟨hP, hD⟩ := va_join (wr := [(h, .inr (1, [.ref r, .int lp, .int lc, .int lw]))]) (w1 := [(r, .inr (0, [.ref k, .ref t, .int (nI n), .int (cm + nI d1), .int wr])), (k, .inl (cA, 500, .inl K)), (t, .inl (cB, 500, .inl T))]) hP hD [1, 2, 3] [0] rfl rfl (by decide) (by decide) hk1 hFc hP1 hD1
      generalize H1 = H at hP hS ⊢
      have hP : va_P (dC, dI) vwCl [(h, .inr (1, [.ref r, .int lp, .int lc, .int lw])), (r, .inr (0, [.ref k, .ref t, .int (nI n), .int (cm + nI d1), .int wr])), (k, .inl (cA, 500, .inl K)), (t, .inl (cB, 500, .inl T))] H := hP
      have hD : va_D A [(h, .inr (1, [.ref r, .int lp, .int lc, .int lw])), (r, .inr (0, [.ref k, .ref t, .int (nI n), .int (cm + nI d1), .int wr])), (k, .inl (cA, 500, .inl K)), (t, .inl (cB, 500, .inl T))] := hD
      refine lv_if_eq (tgt := 38) hx hb dX2_sorted_31 (by decide) (fun c31 => ?_) (fun c31 => ?_)
      · refine lv_iconst (v := (nI 0)) hx hb dX2_sorted_38 (by decide) ?_
        exact W.iret (v := (nI 0)) hx hb hr (fun tS ht hW => ⟨⟨(nI 0), (K, T, n, (cm + nI d1), wr, lp, lc, lw), rfl, ⟨Or.inr ⟨(a, b, o1), ⟨rfl, rfl, rfl, hab, hbn, ho⟩, tr_f (tr_0 hi c31)⟩, ⟨rfl, rfl⟩, ⟨hn, hck⟩⟩, by rw [ht]; exact hP, va_K.moved hW.alike hK, hD⟩, hS.F ht⟩) hS.2.2 dX2_sorted_39
      · refine lv_iconst (v := (nI 1)) hx hb dX2_sorted_34 (by decide) ?_
        refine lv_goto (tgt := 39) hx hb dX2_sorted_35 (by decide) ?_
        exact W.iret (v := (nI 1)) hx hb hr (fun tS ht hW => ⟨⟨(nI 1), (K, T, n, (cm + nI d1), wr, lp, lc, lw), rfl, ⟨Or.inr ⟨(a, b, o1), ⟨rfl, rfl, rfl, hab, hbn, ho⟩, tr_t (tr_1 hi c31)⟩, ⟨rfl, rfl⟩, ⟨hn, hck⟩⟩, by rw [ht]; exact hP, va_K.moved hW.alike hK, hD⟩, hS.F ht⟩) hS.2.2 dX2_sorted_39
    · refine lv_iconst (v := (-1)) hx hb dX2_sorted_19 (by decide) ?_
      exact W.iret (v := (-1)) hx hb hr (fun tS ht hW => ⟨⟨(-1), (K, T, n, cm, wr, lp, lc, lw), rfl, ⟨Or.inl ⟨rfl, fun z hz => tr_0 hs c16 (dS_e hn hz).2⟩, ⟨rfl, rfl⟩, ⟨hn, hck⟩⟩, by rw [ht]; exact hP, va_K.moved hW.alike hK, hD⟩, hS.F ht⟩) hS.2.2 dX2_sorted_20
set_option maxHeartbeats 4000000 in
set_option maxRecDepth 100000 in
theorem c_X2_find (l : Launch) (dC : Nat → ClassId) (dI : Nat → Nat → Nat) (sz : Nat) (h r k t : Nat) (cA cB : ClassId) (n : Nat) (cm wr lp lc lw : Int32) (K T : Nat → Int32) (hn : n ≤ 500) (hck : ckI lp lc lw) (x o w : Int32) : Met l yX2_find wsX2_find ({ frames := 3, cells := 0, slots := 0, locals := 69 }) (va_Pc [.ref h, .int x, .int o, .int w] (fun U => U.heap.size = sz ∧ va_P (dC, dI) vwCl [(h, .inr (1, [.ref r, .int lp, .int lc, .int lw])), (r, .inr (0, [.ref k, .ref t, .int (nI n), .int cm, .int wr])), (k, .inl (cA, 500, .inl K)), (t, .inl (cB, 500, .inl T))] U.heap ∧ va_K (dC, dI) vwCl [(cA, .int), (cB, .int)] U ∧ va_D (fun _ => True) [(h, .inr (1, [.ref r, .int lp, .int lc, .int lw])), (r, .inr (0, [.ref k, .ref t, .int (nI n), .int cm, .int wr])), (k, .inl (cA, 500, .inl K)), (t, .inl (cB, 500, .inl T))])) (va_Qi (fun r u => Qfin n (mZ K T) x o w r ∧ (u.2.2.1 = n ∧ mZ u.1 u.2.1 = mZ K T) ∧ okU u) (atX dC dI (va_A [(h, .inr (1, [.ref r, .int lp, .int lc, .int lw])), (r, .inr (0, [.ref k, .ref t, .int (nI n), .int cm, .int wr])), (k, .inl (cA, 500, .inl K)), (t, .inl (cB, 500, .inl T))] sz) h r k t cA cB) (va_A [(h, .inr (1, [.ref r, .int lp, .int lc, .int lw])), (r, .inr (0, [.ref k, .ref t, .int (nI n), .int cm, .int wr])), (k, .inl (cA, 500, .inl K)), (t, .inl (cB, 500, .inl T))] sz)) 0 0 (va_A [(h, .inr (1, [.ref r, .int lp, .int lc, .int lw])), (r, .inr (0, [.ref k, .ref t, .int (nI n), .int cm, .int wr])), (k, .inl (cA, 500, .inl K)), (t, .inl (cB, 500, .inl T))] sz) := by
  refine Met.ofW (cc := cX2_find) (maxL := 5) (ret := (some .int)) (by decide) rfl ?_
  intro p e s m args below meth c s₁ B hml hv
  obtain ⟨rfl, hsz, hP, hK, hD0⟩ := hv
  have hx := B.exec
  have hb := B.bytes
  have hr := B.returns
  have hts := atoms_spec (ws := wsX2_find) B.pre
  have hown : s.vm.findClass RX2 = some m.cls := findClass_of_methodNamed B.named
  have hlocks := B.notSynchronized
  subst hsz
  have hD := hD0.self (sz := s.heap.size)
  generalize hAe : va_A [(h, .inr (1, [.ref r, .int lp, .int lc, .int lw])), (r, .inr (0, [.ref k, .ref t, .int (nI n), .int cm, .int wr])), (k, .inl (cA, 500, .inl K)), (t, .inl (cB, 500, .inl T))] s.heap.size = A at hD ⊢
  have hA : ∀ q : Nat, s.heap.size ≤ q → A q := fun q h => by rw [← hAe]; exact Or.inr h
  have hS : va_S A s.heap s.heap [] := va_S.rf
  have hP : va_P (dC, dI) vwCl [(h, .inr (1, [.ref r, .int lp, .int lc, .int lw])), (r, .inr (0, [.ref k, .ref t, .int (nI n), .int cm, .int wr])), (k, .inl (cA, 500, .inl K)), (t, .inl (cB, 500, .inl T))] s.heap := hP
  have hl := lv_entry ([.ref h, .int x, .int o, .int w]) (n := 5) (Nat.le_of_ble_eq_true rfl)
  rw [lg_entry_eq]
  generalize (lg_sl ([.ref h, .int x, .int o, .int w]) ++ List.replicate (5 - (lg_sl ([.ref h, .int x, .int o, .int w])).length) Slot.unset).toArray = ls at hl ⊢
  have hl : lv_has ls 5 [(0, .ref h), (1, .int x), (2, .int o), (3, .int w)] := hl
  refine lv_iload_n hx hb dX2_find_0 rfl (lv_at hl 3 rfl) ?_
  refine lv_if_eq (tgt := 9) hx hb dX2_find_1 (by decide) (fun c1 => ?_) (fun c1 => ?_)
  · refine lv_iconst (v := (nI 1)) hx hb dX2_find_9 (by decide) ?_
    refine lv_goto (tgt := 14) hx hb dX2_find_10 (by decide) ?_
    refine lv_istore (lv' := [(4, .int (nI 1)), (0, .ref h), (1, .int x), (2, .int o), (3, .int w)]) hx hb dX2_find_14 hl (by decide) rfl (fun ls hl => ?_)
    refine lv_iload hx hb dX2_find_16 (lv_at hl 0 rfl) ?_
    refine lz_if_eq (tgt := 47) (by omega) hx hb dX2_find_18 (by decide) (fun c18 => ?_) (fun c18 => ?_)
    · exact absurd c18 (by decide)
    · refine lv_iload_n hx hb dX2_find_21 rfl (lv_at hl 3 rfl) ?_
      have hPc := hP.sub (ws' := []) [] rfl
      have hDc := hD.sub (ws' := []) [] (by decide) rfl
      have hKc := hK.sub (tys' := []) [] rfl
      have hFc := va_free (wc := []) hD hS hA [] rfl
      refine va_calli (va_runS (As := [.int o]) (rest := []) ⟨hx, hb, hml, hown, hts⟩ (c_X0_exists l dC dI s.heap.size o) (va_cwS 1 hts gX2_find_X0_exists rfl rfl rfl (by decide +kernel) ⟨Nat.le_of_ble_eq_true rfl, Nat.le_of_ble_eq_true rfl⟩) ⟨fun a U g mk q => by obtain ⟨q0, q1, qP, qK, qD⟩ := q; exact ⟨q0, q1, qP, va_K.moved (u := U) (U := U.calling g mk a) (Vm.Alike.refl U.vm) qK, qD⟩, fun U hU hW => ⟨rfl, by rw [hU], by rw [hU]; exact hPc, va_K.moved hW.alike hKc, hDc.weaken (fun _ _ _ _ => trivial)⟩⟩ rfl rfl hl.1 rfl (lv_room (Nat.le_of_ble_eq_true rfl)) dX2_find_22 ⟨Nat.le_of_ble_eq_true rfl, Nat.le_of_ble_eq_true rfl⟩) hS (fun q _ h => hFc q h) hFc (fun r_1 u tS H1 locs ht hvm hw hB hz1 hk1 hS => ?_)
      have he := hw
      obtain ⟨hP1, hK1, hD1⟩ := hB
      rw [ht] at hP1
      obtain ⟨hP, hD⟩ := va_join (wr := [(h, .inr (1, [.ref r, .int lp, .int lc, .int lw])), (r, .inr (0, [.ref k, .ref t, .int (nI n), .int cm, .int wr])), (k, .inl (cA, 500, .inl K)), (t, .inl (cB, 500, .inl T))]) (w1 := []) hP hD [] [0, 1, 2, 3] rfl rfl (by decide) (by decide) hk1 hFc hP1 hD1
      generalize H1 = H at hP hS ⊢
      have hP : va_P (dC, dI) vwCl [(h, .inr (1, [.ref r, .int lp, .int lc, .int lw])), (r, .inr (0, [.ref k, .ref t, .int (nI n), .int cm, .int wr])), (k, .inl (cA, 500, .inl K)), (t, .inl (cB, 500, .inl T))] H := hP
      have hD : va_D A [(h, .inr (1, [.ref r, .int lp, .int lc, .int lw])), (r, .inr (0, [.ref k, .ref t, .int (nI n), .int cm, .int wr])), (k, .inl (cA, 500, .inl K)), (t, .inl (cB, 500, .inl T))] := hD
      refine lv_if_eq (tgt := 47) hx hb dX2_find_25 (by decide) (fun c25 => ?_) (fun c25 => ?_)
      · refine lv_iconst (v := (-1)) hx hb dX2_find_47 (by decide) ?_
        exact W.iret (v := (-1)) hx hb hr (fun tS ht hW => ⟨⟨(-1), (K, T, n, cm, wr, lp, lc, lw), rfl, ⟨Or.inl ⟨rfl, fun z hz => tr_0 he c25 (dF_e hz).1⟩, ⟨rfl, rfl⟩, ⟨hn, hck⟩⟩, by rw [ht]; exact hP, va_K.moved hW.alike hK, hD⟩, hS.F ht⟩) hS.2.2 dX2_find_48
      · obtain ⟨o1, ho, rfl⟩ := exO_of (tr_1 he c25)
        refine lv_aload_n hx hb dX2_find_28 rfl (lv_at hl 1 rfl) ?_
        refine va_get (D := (dC, dI)) (ci := 1) (v := .ref r) (C := RX2) (T := TX2) (N := 4) hx hb hts (by decide +kernel) hown hK hP 0 rfl rfl 0 (by decide) (hts (.fieldLink RX2 10 "RowPress" "row" "LRowPress$Row;") (by decide +kernel)) (fun _ h9 => h9) rfl dX2_find_29 ?_
        refine lv_iconst (v := (nI 0)) hx hb dX2_find_32 (by decide) ?_
        refine lv_aload_n hx hb dX2_find_33 rfl (lv_at hl 1 rfl) ?_
        refine va_get (D := (dC, dI)) (ci := 1) (v := .ref r) (C := RX2) (T := TX2) (N := 4) hx hb hts (by decide +kernel) hown hK hP 0 rfl rfl 0 (by decide) (hts (.fieldLink RX2 10 "RowPress" "row" "LRowPress$Row;") (by decide +kernel)) (fun _ h9 => h9) rfl dX2_find_34 ?_
        refine va_get (D := (dC, dI)) (ci := 0) (v := .int (nI n)) (C := RX1) (T := TX1) (N := 5) hx hb hts (by decide +kernel) hown hK hP 1 rfl rfl 2 (by decide) (hts (.fieldLink RX2 24 "RowPress$Row" "size" "I") (by decide +kernel)) (fun _ h9 => h9) rfl dX2_find_37 ?_
        refine lv_iload_n hx hb dX2_find_40 rfl (lv_at hl 3 rfl) ?_
        have hPc := hP.sub (ws' := [(r, .inr (0, [.ref k, .ref t, .int (nI n), .int cm, .int wr])), (k, .inl (cA, 500, .inl K)), (t, .inl (cB, 500, .inl T))]) [1, 2, 3] rfl
        have hDc := hD.sub (ws' := [(r, .inr (0, [.ref k, .ref t, .int (nI n), .int cm, .int wr])), (k, .inl (cA, 500, .inl K)), (t, .inl (cB, 500, .inl T))]) [1, 2, 3] (by decide) rfl
        have hKc := hK.sub (tys' := [(cA, .int), (cB, .int)]) [0, 1] rfl
        have hFc := va_free (wc := [(r, .inr (0, [.ref k, .ref t, .int (nI n), .int cm, .int wr])), (k, .inl (cA, 500, .inl K)), (t, .inl (cB, 500, .inl T))]) hD hS hA [1, 2, 3] rfl
        refine va_calli (va_runV (As := [.int (nI 0), .int (nI n), .int (nI o1)]) (rest := []) ⟨hx, hb, hml, hown, hts⟩ (c_X1_inOrder l dC dI H.size r k t cA cB n cm wr K T 0 n o1 (Nat.zero_le _) hn ho) (cwV 3 hts gX2_find_X1_inOrder rfl rfl rfl (by decide +kernel) ⟨Nat.le_of_ble_eq_true rfl, Nat.le_of_ble_eq_true rfl⟩) ⟨fun a U g mk q => by obtain ⟨q0, q1, qP, qK, qD⟩ := q; exact ⟨q0, q1, qP, va_K.moved (u := U) (U := U.calling g mk a) (Vm.Alike.refl U.vm) qK, qD⟩, va_recv hKc hPc (ci := 0) (q0 := 0) rfl rfl, fun U hU hW => ⟨rfl, by rw [hU], by rw [hU]; exact hPc, va_K.moved hW.alike hKc, hDc.weaken (fun _ _ _ _ => trivial)⟩⟩ rfl rfl hl.1 rfl (lv_room (Nat.le_of_ble_eq_true rfl)) dX2_find_41 ⟨Nat.le_of_ble_eq_true rfl, Nat.le_of_ble_eq_true rfl⟩) hS (fun q _ h => hFc q h) hFc (fun r_2 u tS H1 locs ht hvm hw hB hz1 hk1 hS => ?_)
        obtain ⟨hi, d1, hd1, rfl⟩ := hw
        obtain ⟨hP1, hK1, hD1⟩ := hB
        rw [ht] at hP1
        obtain ⟨hP, hD⟩ := va_join (wr := [(h, .inr (1, [.ref r, .int lp, .int lc, .int lw]))]) (w1 := [(r, .inr (0, [.ref k, .ref t, .int (nI n), .int (cm + nI d1), .int wr])), (k, .inl (cA, 500, .inl K)), (t, .inl (cB, 500, .inl T))]) hP hD [1, 2, 3] [0] rfl rfl (by decide) (by decide) hk1 hFc hP1 hD1
        generalize H1 = H at hP hS ⊢
        have hP : va_P (dC, dI) vwCl [(h, .inr (1, [.ref r, .int lp, .int lc, .int lw])), (r, .inr (0, [.ref k, .ref t, .int (nI n), .int (cm + nI d1), .int wr])), (k, .inl (cA, 500, .inl K)), (t, .inl (cB, 500, .inl T))] H := hP
        have hD : va_D A [(h, .inr (1, [.ref r, .int lp, .int lc, .int lw])), (r, .inr (0, [.ref k, .ref t, .int (nI n), .int (cm + nI d1), .int wr])), (k, .inl (cA, 500, .inl K)), (t, .inl (cB, 500, .inl T))] := hD
        refine lv_if_ne (tgt := 49) hx hb dX2_find_44 (by decide) (fun c44 => ?_) (fun c44 => ?_)
        · refine lv_iload_n hx hb dX2_find_49 rfl (lv_at hl 4 rfl) ?_
          refine lv_if_ne (tgt := 73) hx hb dX2_find_50 (by decide) (fun c50 => ?_) (fun c50 => ?_)
          · exact absurd c1 c50
          · refine lv_aload_n hx hb dX2_find_53 rfl (lv_at hl 1 rfl) ?_
            refine va_get (D := (dC, dI)) (ci := 1) (v := .ref r) (C := RX2) (T := TX2) (N := 4) hx hb hts (by decide +kernel) hown hK hP 0 rfl rfl 0 (by decide) (hts (.fieldLink RX2 10 "RowPress" "row" "LRowPress$Row;") (by decide +kernel)) (fun _ h9 => h9) rfl dX2_find_54 ?_
            refine lv_iconst (v := (nI 0)) hx hb dX2_find_57 (by decide) ?_
            refine lv_aload_n hx hb dX2_find_58 rfl (lv_at hl 1 rfl) ?_
            refine va_get (D := (dC, dI)) (ci := 1) (v := .ref r) (C := RX2) (T := TX2) (N := 4) hx hb hts (by decide +kernel) hown hK hP 0 rfl rfl 0 (by decide) (hts (.fieldLink RX2 10 "RowPress" "row" "LRowPress$Row;") (by decide +kernel)) (fun _ h9 => h9) rfl dX2_find_59 ?_
            refine va_get (D := (dC, dI)) (ci := 0) (v := .int (nI n)) (C := RX1) (T := TX1) (N := 5) hx hb hts (by decide +kernel) hown hK hP 1 rfl rfl 2 (by decide) (hts (.fieldLink RX2 24 "RowPress$Row" "size" "I") (by decide +kernel)) (fun _ h9 => h9) rfl dX2_find_62 ?_
            refine lv_iload_n hx hb dX2_find_65 rfl (lv_at hl 2 rfl) ?_
            refine lv_iload_n hx hb dX2_find_66 rfl (lv_at hl 3 rfl) ?_
            have hPc := hP.sub (ws' := [(r, .inr (0, [.ref k, .ref t, .int (nI n), .int (cm + nI d1), .int wr])), (k, .inl (cA, 500, .inl K)), (t, .inl (cB, 500, .inl T))]) [1, 2, 3] rfl
            have hDc := hD.sub (ws' := [(r, .inr (0, [.ref k, .ref t, .int (nI n), .int (cm + nI d1), .int wr])), (k, .inl (cA, 500, .inl K)), (t, .inl (cB, 500, .inl T))]) [1, 2, 3] (by decide) rfl
            have hKc := hK.sub (tys' := [(cA, .int), (cB, .int)]) [0, 1] rfl
            have hFc := va_free (wc := [(r, .inr (0, [.ref k, .ref t, .int (nI n), .int (cm + nI d1), .int wr])), (k, .inl (cA, 500, .inl K)), (t, .inl (cB, 500, .inl T))]) hD hS hA [1, 2, 3] rfl
            refine va_calli (va_runV (As := [.int (nI 0), .int (nI n), .int x, .int (nI o1)]) (rest := []) ⟨hx, hb, hml, hown, hts⟩ (c_X1_countLess l dC dI H.size r k t cA cB n (cm + nI d1) wr K T 0 n x o1 (Nat.zero_le _) hn ho) (cwV 4 hts gX2_find_X1_countLess rfl rfl rfl (by decide +kernel) ⟨Nat.le_of_ble_eq_true rfl, Nat.le_of_ble_eq_true rfl⟩) ⟨fun a U g mk q => by obtain ⟨q0, q1, qP, qK, qD⟩ := q; exact ⟨q0, q1, qP, va_K.moved (u := U) (U := U.calling g mk a) (Vm.Alike.refl U.vm) qK, qD⟩, va_recv hKc hPc (ci := 0) (q0 := 0) rfl rfl, fun U hU hW => ⟨rfl, by rw [hU], by rw [hU]; exact hPc, va_K.moved hW.alike hKc, hDc.weaken (fun _ _ _ _ => trivial)⟩⟩ rfl rfl hl.1 rfl (lv_room (Nat.le_of_ble_eq_true rfl)) dX2_find_67 ⟨Nat.le_of_ble_eq_true rfl, Nat.le_of_ble_eq_true rfl⟩) hS (fun q _ h => hFc q h) hFc (fun r_3 u tS H1 locs ht hvm hw hB hz1 hk1 hS => ?_)
            obtain ⟨hq, rfl⟩ := hw
            obtain ⟨hP1, hK1, hD1⟩ := hB
            rw [ht] at hP1
            obtain ⟨hP, hD⟩ := va_join (wr := [(h, .inr (1, [.ref r, .int lp, .int lc, .int lw]))]) (w1 := [(r, .inr (0, [.ref k, .ref t, .int (nI n), .int (cm + nI d1), .int wr])), (k, .inl (cA, 500, .inl K)), (t, .inl (cB, 500, .inl T))]) hP hD [1, 2, 3] [0] rfl rfl (by decide) (by decide) hk1 hFc hP1 hD1
            generalize H1 = H at hP hS ⊢
            have hP : va_P (dC, dI) vwCl [(h, .inr (1, [.ref r, .int lp, .int lc, .int lw])), (r, .inr (0, [.ref k, .ref t, .int (nI n), .int (cm + nI d1), .int wr])), (k, .inl (cA, 500, .inl K)), (t, .inl (cB, 500, .inl T))] H := hP
            have hD : va_D A [(h, .inr (1, [.ref r, .int lp, .int lc, .int lw])), (r, .inr (0, [.ref k, .ref t, .int (nI n), .int (cm + nI d1), .int wr])), (k, .inl (cA, 500, .inl K)), (t, .inl (cB, 500, .inl T))] := hD
            refine lv_goto (tgt := 90) hx hb dX2_find_70 (by decide) ?_
            exact W.iret (v := r_3) hx hb hr (fun tS ht hW => ⟨⟨r_3, (K, T, n, (cm + nI d1), wr, lp, lc, lw), rfl, ⟨Or.inr ⟨(o1, 0), ⟨rfl, c1.trans nI_0.symm, ho, show (0 : Nat) < 2 by decide⟩, Or.inr ⟨tr_1 hi c44, fun _ => hq, fun z => absurd z (show ¬ (0 : Nat) = 1 by decide)⟩⟩, ⟨rfl, rfl⟩, ⟨hn, hck⟩⟩, by rw [ht]; exact hP, va_K.moved hW.alike hK, hD⟩, hS.F ht⟩) hS.2.2 dX2_find_90
        · refine lv_iconst (v := (-1)) hx hb dX2_find_47 (by decide) ?_
          exact W.iret (v := (-1)) hx hb hr (fun tS ht hW => ⟨⟨(-1), (K, T, n, (cm + nI d1), wr, lp, lc, lw), rfl, ⟨Or.inr ⟨(o1, 0), ⟨rfl, c1.trans nI_0.symm, ho, show (0 : Nat) < 2 by decide⟩, Or.inl ⟨tr_0 hi c44, rfl⟩⟩, ⟨rfl, rfl⟩, ⟨hn, hck⟩⟩, by rw [ht]; exact hP, va_K.moved hW.alike hK, hD⟩, hS.F ht⟩) hS.2.2 dX2_find_48
  · refine lv_iload_n hx hb dX2_find_4 rfl (lv_at hl 3 rfl) ?_
    refine lv_iconst (v := (nI 1)) hx hb dX2_find_5 (by decide) ?_
    refine lv_icmp_ne (tgt := 13) hx hb dX2_find_6 (by decide) (fun c6 => ?_) (fun c6 => ?_)
    · refine lv_iconst (v := (nI 0)) hx hb dX2_find_13 (by decide) ?_
      refine lv_istore (lv' := [(4, .int (nI 0)), (0, .ref h), (1, .int x), (2, .int o), (3, .int w)]) hx hb dX2_find_14 hl (by decide) rfl (fun ls hl => ?_)
      refine lv_iload hx hb dX2_find_16 (lv_at hl 0 rfl) ?_
      refine lz_if_eq (tgt := 47) (by omega) hx hb dX2_find_18 (by decide) (fun c18 => ?_) (fun c18 => ?_)
      · refine lv_iconst (v := (-1)) hx hb dX2_find_47 (by decide) ?_
        exact W.iret (v := (-1)) hx hb hr (fun tS ht hW => ⟨⟨(-1), (K, T, n, cm, wr, lp, lc, lw), rfl, ⟨Or.inl ⟨rfl, fun z hz => (dF_e hz).2.elim c1 c6⟩, ⟨rfl, rfl⟩, ⟨hn, hck⟩⟩, by rw [ht]; exact hP, va_K.moved hW.alike hK, hD⟩, hS.F ht⟩) hS.2.2 dX2_find_48
      · exact absurd rfl c18
    · refine lv_iconst (v := (nI 1)) hx hb dX2_find_9 (by decide) ?_
      refine lv_goto (tgt := 14) hx hb dX2_find_10 (by decide) ?_
      refine lv_istore (lv' := [(4, .int (nI 1)), (0, .ref h), (1, .int x), (2, .int o), (3, .int w)]) hx hb dX2_find_14 hl (by decide) rfl (fun ls hl => ?_)
      refine lv_iload hx hb dX2_find_16 (lv_at hl 0 rfl) ?_
      refine lz_if_eq (tgt := 47) (by omega) hx hb dX2_find_18 (by decide) (fun c18 => ?_) (fun c18 => ?_)
      · exact absurd c18 (by decide)
      · refine lv_iload_n hx hb dX2_find_21 rfl (lv_at hl 3 rfl) ?_
        have hPc := hP.sub (ws' := []) [] rfl
        have hDc := hD.sub (ws' := []) [] (by decide) rfl
        have hKc := hK.sub (tys' := []) [] rfl
        have hFc := va_free (wc := []) hD hS hA [] rfl
        refine va_calli (va_runS (As := [.int o]) (rest := []) ⟨hx, hb, hml, hown, hts⟩ (c_X0_exists l dC dI s.heap.size o) (va_cwS 1 hts gX2_find_X0_exists rfl rfl rfl (by decide +kernel) ⟨Nat.le_of_ble_eq_true rfl, Nat.le_of_ble_eq_true rfl⟩) ⟨fun a U g mk q => by obtain ⟨q0, q1, qP, qK, qD⟩ := q; exact ⟨q0, q1, qP, va_K.moved (u := U) (U := U.calling g mk a) (Vm.Alike.refl U.vm) qK, qD⟩, fun U hU hW => ⟨rfl, by rw [hU], by rw [hU]; exact hPc, va_K.moved hW.alike hKc, hDc.weaken (fun _ _ _ _ => trivial)⟩⟩ rfl rfl hl.1 rfl (lv_room (Nat.le_of_ble_eq_true rfl)) dX2_find_22 ⟨Nat.le_of_ble_eq_true rfl, Nat.le_of_ble_eq_true rfl⟩) hS (fun q _ h => hFc q h) hFc (fun r_4 u tS H1 locs ht hvm hw hB hz1 hk1 hS => ?_)
        have he := hw
        obtain ⟨hP1, hK1, hD1⟩ := hB
        rw [ht] at hP1
        obtain ⟨hP, hD⟩ := va_join (wr := [(h, .inr (1, [.ref r, .int lp, .int lc, .int lw])), (r, .inr (0, [.ref k, .ref t, .int (nI n), .int cm, .int wr])), (k, .inl (cA, 500, .inl K)), (t, .inl (cB, 500, .inl T))]) (w1 := []) hP hD [] [0, 1, 2, 3] rfl rfl (by decide) (by decide) hk1 hFc hP1 hD1
        generalize H1 = H at hP hS ⊢
        have hP : va_P (dC, dI) vwCl [(h, .inr (1, [.ref r, .int lp, .int lc, .int lw])), (r, .inr (0, [.ref k, .ref t, .int (nI n), .int cm, .int wr])), (k, .inl (cA, 500, .inl K)), (t, .inl (cB, 500, .inl T))] H := hP
        have hD : va_D A [(h, .inr (1, [.ref r, .int lp, .int lc, .int lw])), (r, .inr (0, [.ref k, .ref t, .int (nI n), .int cm, .int wr])), (k, .inl (cA, 500, .inl K)), (t, .inl (cB, 500, .inl T))] := hD
        refine lv_if_eq (tgt := 47) hx hb dX2_find_25 (by decide) (fun c25 => ?_) (fun c25 => ?_)
        · refine lv_iconst (v := (-1)) hx hb dX2_find_47 (by decide) ?_
          exact W.iret (v := (-1)) hx hb hr (fun tS ht hW => ⟨⟨(-1), (K, T, n, cm, wr, lp, lc, lw), rfl, ⟨Or.inl ⟨rfl, fun z hz => tr_0 he c25 (dF_e hz).1⟩, ⟨rfl, rfl⟩, ⟨hn, hck⟩⟩, by rw [ht]; exact hP, va_K.moved hW.alike hK, hD⟩, hS.F ht⟩) hS.2.2 dX2_find_48
        · obtain ⟨o1, ho, rfl⟩ := exO_of (tr_1 he c25)
          refine lv_aload_n hx hb dX2_find_28 rfl (lv_at hl 1 rfl) ?_
          refine va_get (D := (dC, dI)) (ci := 1) (v := .ref r) (C := RX2) (T := TX2) (N := 4) hx hb hts (by decide +kernel) hown hK hP 0 rfl rfl 0 (by decide) (hts (.fieldLink RX2 10 "RowPress" "row" "LRowPress$Row;") (by decide +kernel)) (fun _ h9 => h9) rfl dX2_find_29 ?_
          refine lv_iconst (v := (nI 0)) hx hb dX2_find_32 (by decide) ?_
          refine lv_aload_n hx hb dX2_find_33 rfl (lv_at hl 1 rfl) ?_
          refine va_get (D := (dC, dI)) (ci := 1) (v := .ref r) (C := RX2) (T := TX2) (N := 4) hx hb hts (by decide +kernel) hown hK hP 0 rfl rfl 0 (by decide) (hts (.fieldLink RX2 10 "RowPress" "row" "LRowPress$Row;") (by decide +kernel)) (fun _ h9 => h9) rfl dX2_find_34 ?_
          refine va_get (D := (dC, dI)) (ci := 0) (v := .int (nI n)) (C := RX1) (T := TX1) (N := 5) hx hb hts (by decide +kernel) hown hK hP 1 rfl rfl 2 (by decide) (hts (.fieldLink RX2 24 "RowPress$Row" "size" "I") (by decide +kernel)) (fun _ h9 => h9) rfl dX2_find_37 ?_
          refine lv_iload_n hx hb dX2_find_40 rfl (lv_at hl 3 rfl) ?_
          have hPc := hP.sub (ws' := [(r, .inr (0, [.ref k, .ref t, .int (nI n), .int cm, .int wr])), (k, .inl (cA, 500, .inl K)), (t, .inl (cB, 500, .inl T))]) [1, 2, 3] rfl
          have hDc := hD.sub (ws' := [(r, .inr (0, [.ref k, .ref t, .int (nI n), .int cm, .int wr])), (k, .inl (cA, 500, .inl K)), (t, .inl (cB, 500, .inl T))]) [1, 2, 3] (by decide) rfl
          have hKc := hK.sub (tys' := [(cA, .int), (cB, .int)]) [0, 1] rfl
          have hFc := va_free (wc := [(r, .inr (0, [.ref k, .ref t, .int (nI n), .int cm, .int wr])), (k, .inl (cA, 500, .inl K)), (t, .inl (cB, 500, .inl T))]) hD hS hA [1, 2, 3] rfl
          refine va_calli (va_runV (As := [.int (nI 0), .int (nI n), .int (nI o1)]) (rest := []) ⟨hx, hb, hml, hown, hts⟩ (c_X1_inOrder l dC dI H.size r k t cA cB n cm wr K T 0 n o1 (Nat.zero_le _) hn ho) (cwV 3 hts gX2_find_X1_inOrder rfl rfl rfl (by decide +kernel) ⟨Nat.le_of_ble_eq_true rfl, Nat.le_of_ble_eq_true rfl⟩) ⟨fun a U g mk q => by obtain ⟨q0, q1, qP, qK, qD⟩ := q; exact ⟨q0, q1, qP, va_K.moved (u := U) (U := U.calling g mk a) (Vm.Alike.refl U.vm) qK, qD⟩, va_recv hKc hPc (ci := 0) (q0 := 0) rfl rfl, fun U hU hW => ⟨rfl, by rw [hU], by rw [hU]; exact hPc, va_K.moved hW.alike hKc, hDc.weaken (fun _ _ _ _ => trivial)⟩⟩ rfl rfl hl.1 rfl (lv_room (Nat.le_of_ble_eq_true rfl)) dX2_find_41 ⟨Nat.le_of_ble_eq_true rfl, Nat.le_of_ble_eq_true rfl⟩) hS (fun q _ h => hFc q h) hFc (fun r_5 u tS H1 locs ht hvm hw hB hz1 hk1 hS => ?_)
          obtain ⟨hi, d1, hd1, rfl⟩ := hw
          obtain ⟨hP1, hK1, hD1⟩ := hB
          rw [ht] at hP1
          obtain ⟨hP, hD⟩ := va_join (wr := [(h, .inr (1, [.ref r, .int lp, .int lc, .int lw]))]) (w1 := [(r, .inr (0, [.ref k, .ref t, .int (nI n), .int (cm + nI d1), .int wr])), (k, .inl (cA, 500, .inl K)), (t, .inl (cB, 500, .inl T))]) hP hD [1, 2, 3] [0] rfl rfl (by decide) (by decide) hk1 hFc hP1 hD1
          generalize H1 = H at hP hS ⊢
          have hP : va_P (dC, dI) vwCl [(h, .inr (1, [.ref r, .int lp, .int lc, .int lw])), (r, .inr (0, [.ref k, .ref t, .int (nI n), .int (cm + nI d1), .int wr])), (k, .inl (cA, 500, .inl K)), (t, .inl (cB, 500, .inl T))] H := hP
          have hD : va_D A [(h, .inr (1, [.ref r, .int lp, .int lc, .int lw])), (r, .inr (0, [.ref k, .ref t, .int (nI n), .int (cm + nI d1), .int wr])), (k, .inl (cA, 500, .inl K)), (t, .inl (cB, 500, .inl T))] := hD
          refine lv_if_ne (tgt := 49) hx hb dX2_find_44 (by decide) (fun c44 => ?_) (fun c44 => ?_)
          · refine lv_iload_n hx hb dX2_find_49 rfl (lv_at hl 4 rfl) ?_
            refine lv_if_ne (tgt := 73) hx hb dX2_find_50 (by decide) (fun c50 => ?_) (fun c50 => ?_)
            · refine lv_aload_n hx hb dX2_find_73 rfl (lv_at hl 1 rfl) ?_
              refine va_get (D := (dC, dI)) (ci := 1) (v := .ref r) (C := RX2) (T := TX2) (N := 4) hx hb hts (by decide +kernel) hown hK hP 0 rfl rfl 0 (by decide) (hts (.fieldLink RX2 10 "RowPress" "row" "LRowPress$Row;") (by decide +kernel)) (fun _ h9 => h9) rfl dX2_find_74 ?_
              refine lv_iconst (v := (nI 0)) hx hb dX2_find_77 (by decide) ?_
              refine lv_aload_n hx hb dX2_find_78 rfl (lv_at hl 1 rfl) ?_
              refine va_get (D := (dC, dI)) (ci := 1) (v := .ref r) (C := RX2) (T := TX2) (N := 4) hx hb hts (by decide +kernel) hown hK hP 0 rfl rfl 0 (by decide) (hts (.fieldLink RX2 10 "RowPress" "row" "LRowPress$Row;") (by decide +kernel)) (fun _ h9 => h9) rfl dX2_find_79 ?_
              refine va_get (D := (dC, dI)) (ci := 0) (v := .int (nI n)) (C := RX1) (T := TX1) (N := 5) hx hb hts (by decide +kernel) hown hK hP 1 rfl rfl 2 (by decide) (hts (.fieldLink RX2 24 "RowPress$Row" "size" "I") (by decide +kernel)) (fun _ h9 => h9) rfl dX2_find_82 ?_
              refine lv_iload_n hx hb dX2_find_85 rfl (lv_at hl 2 rfl) ?_
              refine lv_iload_n hx hb dX2_find_86 rfl (lv_at hl 3 rfl) ?_
              have hPc := hP.sub (ws' := [(r, .inr (0, [.ref k, .ref t, .int (nI n), .int (cm + nI d1), .int wr])), (k, .inl (cA, 500, .inl K)), (t, .inl (cB, 500, .inl T))]) [1, 2, 3] rfl
              have hDc := hD.sub (ws' := [(r, .inr (0, [.ref k, .ref t, .int (nI n), .int (cm + nI d1), .int wr])), (k, .inl (cA, 500, .inl K)), (t, .inl (cB, 500, .inl T))]) [1, 2, 3] (by decide) rfl
              have hKc := hK.sub (tys' := [(cA, .int), (cB, .int)]) [0, 1] rfl
              have hFc := va_free (wc := [(r, .inr (0, [.ref k, .ref t, .int (nI n), .int (cm + nI d1), .int wr])), (k, .inl (cA, 500, .inl K)), (t, .inl (cB, 500, .inl T))]) hD hS hA [1, 2, 3] rfl
              refine va_calli (va_runV (As := [.int (nI 0), .int (nI n), .int x, .int (nI o1)]) (rest := []) ⟨hx, hb, hml, hown, hts⟩ (c_X1_countNotMore l dC dI H.size r k t cA cB n (cm + nI d1) wr K T 0 n x o1 (Nat.zero_le _) hn ho) (cwV 4 hts gX2_find_X1_countNotMore rfl rfl rfl (by decide +kernel) ⟨Nat.le_of_ble_eq_true rfl, Nat.le_of_ble_eq_true rfl⟩) ⟨fun a U g mk q => by obtain ⟨q0, q1, qP, qK, qD⟩ := q; exact ⟨q0, q1, qP, va_K.moved (u := U) (U := U.calling g mk a) (Vm.Alike.refl U.vm) qK, qD⟩, va_recv hKc hPc (ci := 0) (q0 := 0) rfl rfl, fun U hU hW => ⟨rfl, by rw [hU], by rw [hU]; exact hPc, va_K.moved hW.alike hKc, hDc.weaken (fun _ _ _ _ => trivial)⟩⟩ rfl rfl hl.1 rfl (lv_room (Nat.le_of_ble_eq_true rfl)) dX2_find_87 ⟨Nat.le_of_ble_eq_true rfl, Nat.le_of_ble_eq_true rfl⟩) hS (fun q _ h => hFc q h) hFc (fun r_6 u tS H1 locs ht hvm hw hB hz1 hk1 hS => ?_)
              obtain ⟨hq, rfl⟩ := hw
              obtain ⟨hP1, hK1, hD1⟩ := hB
              rw [ht] at hP1
              obtain ⟨hP, hD⟩ := va_join (wr := [(h, .inr (1, [.ref r, .int lp, .int lc, .int lw]))]) (w1 := [(r, .inr (0, [.ref k, .ref t, .int (nI n), .int (cm + nI d1), .int wr])), (k, .inl (cA, 500, .inl K)), (t, .inl (cB, 500, .inl T))]) hP hD [1, 2, 3] [0] rfl rfl (by decide) (by decide) hk1 hFc hP1 hD1
              generalize H1 = H at hP hS ⊢
              have hP : va_P (dC, dI) vwCl [(h, .inr (1, [.ref r, .int lp, .int lc, .int lw])), (r, .inr (0, [.ref k, .ref t, .int (nI n), .int (cm + nI d1), .int wr])), (k, .inl (cA, 500, .inl K)), (t, .inl (cB, 500, .inl T))] H := hP
              have hD : va_D A [(h, .inr (1, [.ref r, .int lp, .int lc, .int lw])), (r, .inr (0, [.ref k, .ref t, .int (nI n), .int (cm + nI d1), .int wr])), (k, .inl (cA, 500, .inl K)), (t, .inl (cB, 500, .inl T))] := hD
              exact W.iret (v := r_6) hx hb hr (fun tS ht hW => ⟨⟨r_6, (K, T, n, (cm + nI d1), wr, lp, lc, lw), rfl, ⟨Or.inr ⟨(o1, 1), ⟨rfl, c6, ho, show (1 : Nat) < 2 by decide⟩, Or.inr ⟨tr_1 hi c44, fun z => absurd z (show ¬ (1 : Nat) = 0 by decide), fun _ => hq⟩⟩, ⟨rfl, rfl⟩, ⟨hn, hck⟩⟩, by rw [ht]; exact hP, va_K.moved hW.alike hK, hD⟩, hS.F ht⟩) hS.2.2 dX2_find_90
            · exact absurd c50 (by rw [c6]; decide)
          · refine lv_iconst (v := (-1)) hx hb dX2_find_47 (by decide) ?_
            exact W.iret (v := (-1)) hx hb hr (fun tS ht hW => ⟨⟨(-1), (K, T, n, (cm + nI d1), wr, lp, lc, lw), rfl, ⟨Or.inr ⟨(o1, 1), ⟨rfl, c6, ho, show (1 : Nat) < 2 by decide⟩, Or.inl ⟨tr_0 hi c44, rfl⟩⟩, ⟨rfl, rfl⟩, ⟨hn, hck⟩⟩, by rw [ht]; exact hP, va_K.moved hW.alike hK, hD⟩, hS.F ht⟩) hS.2.2 dX2_find_48
set_option maxHeartbeats 4000000 in
set_option maxRecDepth 100000 in
theorem c_X2_rank (l : Launch) (dC : Nat → ClassId) (dI : Nat → Nat → Nat) (sz : Nat) (h r k t : Nat) (cA cB : ClassId) (n : Nat) (cm wr lp lc lw : Int32) (K T : Nat → Int32) (hn : n ≤ 500) (hck : ckI lp lc lw) (x o : Int32) : Met l yX2_rank wsX2_rank ({ frames := 2, cells := 0, slots := 0, locals := 48 }) (va_Pc [.ref h, .int x, .int o] (fun U => U.heap.size = sz ∧ va_P (dC, dI) vwCl [(h, .inr (1, [.ref r, .int lp, .int lc, .int lw])), (r, .inr (0, [.ref k, .ref t, .int (nI n), .int cm, .int wr])), (k, .inl (cA, 500, .inl K)), (t, .inl (cB, 500, .inl T))] U.heap ∧ va_K (dC, dI) vwCl [(cA, .int), (cB, .int)] U ∧ va_D (fun _ => True) [(h, .inr (1, [.ref r, .int lp, .int lc, .int lw])), (r, .inr (0, [.ref k, .ref t, .int (nI n), .int cm, .int wr])), (k, .inl (cA, 500, .inl K)), (t, .inl (cB, 500, .inl T))])) (va_Qi (fun r u => Qran n (mZ K T) x o r ∧ (u.2.2.1 = n ∧ mZ u.1 u.2.1 = mZ K T) ∧ okU u) (atX dC dI (va_A [(h, .inr (1, [.ref r, .int lp, .int lc, .int lw])), (r, .inr (0, [.ref k, .ref t, .int (nI n), .int cm, .int wr])), (k, .inl (cA, 500, .inl K)), (t, .inl (cB, 500, .inl T))] sz) h r k t cA cB) (va_A [(h, .inr (1, [.ref r, .int lp, .int lc, .int lw])), (r, .inr (0, [.ref k, .ref t, .int (nI n), .int cm, .int wr])), (k, .inl (cA, 500, .inl K)), (t, .inl (cB, 500, .inl T))] sz)) 0 0 (va_A [(h, .inr (1, [.ref r, .int lp, .int lc, .int lw])), (r, .inr (0, [.ref k, .ref t, .int (nI n), .int cm, .int wr])), (k, .inl (cA, 500, .inl K)), (t, .inl (cB, 500, .inl T))] sz) := by
  refine Met.ofW (cc := cX2_rank) (maxL := 4) (ret := (some .int)) (by decide) rfl ?_
  intro p e s m args below meth c s₁ B hml hv
  obtain ⟨rfl, hsz, hP, hK, hD0⟩ := hv
  have hx := B.exec
  have hb := B.bytes
  have hr := B.returns
  have hts := atoms_spec (ws := wsX2_rank) B.pre
  have hown : s.vm.findClass RX2 = some m.cls := findClass_of_methodNamed B.named
  have hlocks := B.notSynchronized
  subst hsz
  have hD := hD0.self (sz := s.heap.size)
  generalize hAe : va_A [(h, .inr (1, [.ref r, .int lp, .int lc, .int lw])), (r, .inr (0, [.ref k, .ref t, .int (nI n), .int cm, .int wr])), (k, .inl (cA, 500, .inl K)), (t, .inl (cB, 500, .inl T))] s.heap.size = A at hD ⊢
  have hA : ∀ q : Nat, s.heap.size ≤ q → A q := fun q h => by rw [← hAe]; exact Or.inr h
  have hS : va_S A s.heap s.heap [] := va_S.rf
  have hP : va_P (dC, dI) vwCl [(h, .inr (1, [.ref r, .int lp, .int lc, .int lw])), (r, .inr (0, [.ref k, .ref t, .int (nI n), .int cm, .int wr])), (k, .inl (cA, 500, .inl K)), (t, .inl (cB, 500, .inl T))] s.heap := hP
  have hl := lv_entry ([.ref h, .int x, .int o]) (n := 4) (Nat.le_of_ble_eq_true rfl)
  rw [lg_entry_eq]
  generalize (lg_sl ([.ref h, .int x, .int o]) ++ List.replicate (4 - (lg_sl ([.ref h, .int x, .int o])).length) Slot.unset).toArray = ls at hl ⊢
  have hl : lv_has ls 4 [(0, .ref h), (1, .int x), (2, .int o)] := hl
  refine lv_iload_n hx hb dX2_rank_0 rfl (lv_at hl 2 rfl) ?_
  have hPc := hP.sub (ws' := []) [] rfl
  have hDc := hD.sub (ws' := []) [] (by decide) rfl
  have hKc := hK.sub (tys' := []) [] rfl
  have hFc := va_free (wc := []) hD hS hA [] rfl
  refine va_calli (va_runS (As := [.int o]) (rest := []) ⟨hx, hb, hml, hown, hts⟩ (c_X0_exists l dC dI s.heap.size o) (va_cwS 1 hts gX2_rank_X0_exists rfl rfl rfl (by decide +kernel) ⟨Nat.le_of_ble_eq_true rfl, Nat.le_of_ble_eq_true rfl⟩) ⟨fun a U g mk q => by obtain ⟨q0, q1, qP, qK, qD⟩ := q; exact ⟨q0, q1, qP, va_K.moved (u := U) (U := U.calling g mk a) (Vm.Alike.refl U.vm) qK, qD⟩, fun U hU hW => ⟨rfl, by rw [hU], by rw [hU]; exact hPc, va_K.moved hW.alike hKc, hDc.weaken (fun _ _ _ _ => trivial)⟩⟩ rfl rfl hl.1 rfl (lv_room (Nat.le_of_ble_eq_true rfl)) dX2_rank_1 ⟨Nat.le_of_ble_eq_true rfl, Nat.le_of_ble_eq_true rfl⟩) hS (fun q _ h => hFc q h) hFc (fun r_1 u tS H1 locs ht hvm hw hB hz1 hk1 hS => ?_)
  have he := hw
  obtain ⟨hP1, hK1, hD1⟩ := hB
  rw [ht] at hP1
  obtain ⟨hP, hD⟩ := va_join (wr := [(h, .inr (1, [.ref r, .int lp, .int lc, .int lw])), (r, .inr (0, [.ref k, .ref t, .int (nI n), .int cm, .int wr])), (k, .inl (cA, 500, .inl K)), (t, .inl (cB, 500, .inl T))]) (w1 := []) hP hD [] [0, 1, 2, 3] rfl rfl (by decide) (by decide) hk1 hFc hP1 hD1
  generalize H1 = H at hP hS ⊢
  have hP : va_P (dC, dI) vwCl [(h, .inr (1, [.ref r, .int lp, .int lc, .int lw])), (r, .inr (0, [.ref k, .ref t, .int (nI n), .int cm, .int wr])), (k, .inl (cA, 500, .inl K)), (t, .inl (cB, 500, .inl T))] H := hP
  have hD : va_D A [(h, .inr (1, [.ref r, .int lp, .int lc, .int lw])), (r, .inr (0, [.ref k, .ref t, .int (nI n), .int cm, .int wr])), (k, .inl (cA, 500, .inl K)), (t, .inl (cB, 500, .inl T))] := hD
  refine lv_if_eq (tgt := 18) hx hb dX2_rank_4 (by decide) (fun c4 => ?_) (fun c4 => ?_)
  · refine lv_iconst (v := (-1)) hx hb dX2_rank_18 (by decide) ?_
    exact W.iret (v := (-1)) hx hb hr (fun tS ht hW => ⟨⟨(-1), (K, T, n, cm, wr, lp, lc, lw), rfl, ⟨Or.inl ⟨rfl, fun z hz => tr_0 he c4 (dR_e hn hz).1⟩, ⟨rfl, rfl⟩, ⟨hn, hck⟩⟩, by rw [ht]; exact hP, va_K.moved hW.alike hK, hD⟩, hS.F ht⟩) hS.2.2 dX2_rank_19
  · refine lv_aload_n hx hb dX2_rank_7 rfl (lv_at hl 0 rfl) ?_
    refine va_get (D := (dC, dI)) (ci := 1) (v := .ref r) (C := RX2) (T := TX2) (N := 4) hx hb hts (by decide +kernel) hown hK hP 0 rfl rfl 0 (by decide) (hts (.fieldLink RX2 10 "RowPress" "row" "LRowPress$Row;") (by decide +kernel)) (fun _ h9 => h9) rfl dX2_rank_8 ?_
    refine lv_iload_n hx hb dX2_rank_11 rfl (lv_at hl 1 rfl) ?_
    have hPc := hP.sub (ws' := [(r, .inr (0, [.ref k, .ref t, .int (nI n), .int cm, .int wr])), (k, .inl (cA, 500, .inl K)), (t, .inl (cB, 500, .inl T))]) [1, 2, 3] rfl
    have hDc := hD.sub (ws' := [(r, .inr (0, [.ref k, .ref t, .int (nI n), .int cm, .int wr])), (k, .inl (cA, 500, .inl K)), (t, .inl (cB, 500, .inl T))]) [1, 2, 3] (by decide) rfl
    have hKc := hK.sub (tys' := [(cA, .int), (cB, .int)]) [0, 1] rfl
    have hFc := va_free (wc := [(r, .inr (0, [.ref k, .ref t, .int (nI n), .int cm, .int wr])), (k, .inl (cA, 500, .inl K)), (t, .inl (cB, 500, .inl T))]) hD hS hA [1, 2, 3] rfl
    refine va_calli (va_runV (As := [.int x]) (rest := []) ⟨hx, hb, hml, hown, hts⟩ (c_X1_hasPlace l dC dI H.size r k t cA cB n cm wr K T hn x) (cwV 1 hts gX2_rank_X1_hasPlace rfl rfl rfl (by decide +kernel) ⟨Nat.le_of_ble_eq_true rfl, Nat.le_of_ble_eq_true rfl⟩) ⟨fun a U g mk q => by obtain ⟨q0, q1, qP, qK, qD⟩ := q; exact ⟨q0, q1, qP, va_K.moved (u := U) (U := U.calling g mk a) (Vm.Alike.refl U.vm) qK, qD⟩, va_recv hKc hPc (ci := 0) (q0 := 0) rfl rfl, fun U hU hW => ⟨rfl, by rw [hU], by rw [hU]; exact hPc, va_K.moved hW.alike hKc, hDc.weaken (fun _ _ _ _ => trivial)⟩⟩ rfl rfl hl.1 rfl (lv_room (Nat.le_of_ble_eq_true rfl)) dX2_rank_12 ⟨Nat.le_of_ble_eq_true rfl, Nat.le_of_ble_eq_true rfl⟩) hS (fun q _ h => hFc q h) hFc (fun r_2 u tS H1 locs ht hvm hw hB hz1 hk1 hS => ?_)
    obtain ⟨hp, rfl⟩ := hw
    obtain ⟨hP1, hK1, hD1⟩ := hB
    rw [ht] at hP1
    obtain ⟨hP, hD⟩ := va_join (wr := [(h, .inr (1, [.ref r, .int lp, .int lc, .int lw]))]) (w1 := [(r, .inr (0, [.ref k, .ref t, .int (nI n), .int cm, .int wr])), (k, .inl (cA, 500, .inl K)), (t, .inl (cB, 500, .inl T))]) hP hD [1, 2, 3] [0] rfl rfl (by decide) (by decide) hk1 hFc hP1 hD1
    generalize H1 = H at hP hS ⊢
    have hP : va_P (dC, dI) vwCl [(h, .inr (1, [.ref r, .int lp, .int lc, .int lw])), (r, .inr (0, [.ref k, .ref t, .int (nI n), .int cm, .int wr])), (k, .inl (cA, 500, .inl K)), (t, .inl (cB, 500, .inl T))] H := hP
    have hD : va_D A [(h, .inr (1, [.ref r, .int lp, .int lc, .int lw])), (r, .inr (0, [.ref k, .ref t, .int (nI n), .int cm, .int wr])), (k, .inl (cA, 500, .inl K)), (t, .inl (cB, 500, .inl T))] := hD
    refine lv_if_ne (tgt := 20) hx hb dX2_rank_15 (by decide) (fun c15 => ?_) (fun c15 => ?_)
    · obtain ⟨o1, ho, rfl⟩ := exO_of (tr_1 he c4)
      obtain ⟨z, hz, rfl⟩ := plO_of hn (tr_1 hp c15)
      refine lv_aload_n hx hb dX2_rank_20 rfl (lv_at hl 0 rfl) ?_
      refine va_get (D := (dC, dI)) (ci := 1) (v := .ref r) (C := RX2) (T := TX2) (N := 4) hx hb hts (by decide +kernel) hown hK hP 0 rfl rfl 0 (by decide) (hts (.fieldLink RX2 10 "RowPress" "row" "LRowPress$Row;") (by decide +kernel)) (fun _ h9 => h9) rfl dX2_rank_21 ?_
      refine va_get (D := (dC, dI)) (ci := 0) (v := .ref k) (C := RX1) (T := TX1) (N := 5) hx hb hts (by decide +kernel) hown hK hP 1 rfl rfl 0 (by decide) (hts (.fieldLink RX2 86 "RowPress$Row" "keys" "[I") (by decide +kernel)) (fun _ h9 => h9) rfl dX2_rank_24 ?_
      refine lv_iload_n hx hb dX2_rank_27 rfl (lv_at hl 1 rfl) ?_
      refine lz_iald hx hb hK hP 2 0 rfl rfl (j := z) (by omega) (by decide) dX2_rank_28 ?_
      refine lv_istore_n (lv' := [(3, .int (K z)), (0, .ref h), (1, .int (nI z)), (2, .int (nI o1))]) hx hb dX2_rank_29 rfl hl (by decide) rfl (fun ls hl => ?_)
      refine lv_aload_n hx hb dX2_rank_30 rfl (lv_at hl 1 rfl) ?_
      refine va_get (D := (dC, dI)) (ci := 1) (v := .ref r) (C := RX2) (T := TX2) (N := 4) hx hb hts (by decide +kernel) hown hK hP 0 rfl rfl 0 (by decide) (hts (.fieldLink RX2 10 "RowPress" "row" "LRowPress$Row;") (by decide +kernel)) (fun _ h9 => h9) rfl dX2_rank_31 ?_
      refine lv_iconst (v := (nI 0)) hx hb dX2_rank_34 (by decide) ?_
      refine lv_iload_n hx hb dX2_rank_35 rfl (lv_at hl 2 rfl) ?_
      refine lv_iload_n hx hb dX2_rank_36 rfl (lv_at hl 0 rfl) ?_
      refine lv_iload_n hx hb dX2_rank_37 rfl (lv_at hl 3 rfl) ?_
      have hPc := hP.sub (ws' := [(r, .inr (0, [.ref k, .ref t, .int (nI n), .int cm, .int wr])), (k, .inl (cA, 500, .inl K)), (t, .inl (cB, 500, .inl T))]) [1, 2, 3] rfl
      have hDc := hD.sub (ws' := [(r, .inr (0, [.ref k, .ref t, .int (nI n), .int cm, .int wr])), (k, .inl (cA, 500, .inl K)), (t, .inl (cB, 500, .inl T))]) [1, 2, 3] (by decide) rfl
      have hKc := hK.sub (tys' := [(cA, .int), (cB, .int)]) [0, 1] rfl
      have hFc := va_free (wc := [(r, .inr (0, [.ref k, .ref t, .int (nI n), .int cm, .int wr])), (k, .inl (cA, 500, .inl K)), (t, .inl (cB, 500, .inl T))]) hD hS hA [1, 2, 3] rfl
      refine va_calli (va_runV (As := [.int (nI 0), .int (nI z), .int (K z), .int (nI o1)]) (rest := []) ⟨hx, hb, hml, hown, hts⟩ (c_X1_countNotMore l dC dI H.size r k t cA cB n cm wr K T 0 z (K z) o1 (Nat.zero_le _) (by omega) ho) (cwV 4 hts gX2_rank_X1_countNotMore rfl rfl rfl (by decide +kernel) ⟨Nat.le_of_ble_eq_true rfl, Nat.le_of_ble_eq_true rfl⟩) ⟨fun a U g mk q => by obtain ⟨q0, q1, qP, qK, qD⟩ := q; exact ⟨q0, q1, qP, va_K.moved (u := U) (U := U.calling g mk a) (Vm.Alike.refl U.vm) qK, qD⟩, va_recv hKc hPc (ci := 0) (q0 := 0) rfl rfl, fun U hU hW => ⟨rfl, by rw [hU], by rw [hU]; exact hPc, va_K.moved hW.alike hKc, hDc.weaken (fun _ _ _ _ => trivial)⟩⟩ rfl rfl hl.1 rfl (lv_room (Nat.le_of_ble_eq_true rfl)) dX2_rank_38 ⟨Nat.le_of_ble_eq_true rfl, Nat.le_of_ble_eq_true rfl⟩) hS (fun q _ h => hFc q h) hFc (fun r_3 u tS H1 locs ht hvm hw hB hz1 hk1 hS => ?_)
      obtain ⟨hr1, rfl⟩ := hw
      obtain ⟨hP1, hK1, hD1⟩ := hB
      rw [ht] at hP1
      obtain ⟨hP, hD⟩ := va_join (wr := [(h, .inr (1, [.ref r, .int lp, .int lc, .int lw]))]) (w1 := [(r, .inr (0, [.ref k, .ref t, .int (nI n), .int cm, .int wr])), (k, .inl (cA, 500, .inl K)), (t, .inl (cB, 500, .inl T))]) hP hD [1, 2, 3] [0] rfl rfl (by decide) (by decide) hk1 hFc hP1 hD1
      generalize H1 = H at hP hS ⊢
      have hP : va_P (dC, dI) vwCl [(h, .inr (1, [.ref r, .int lp, .int lc, .int lw])), (r, .inr (0, [.ref k, .ref t, .int (nI n), .int cm, .int wr])), (k, .inl (cA, 500, .inl K)), (t, .inl (cB, 500, .inl T))] H := hP
      have hD : va_D A [(h, .inr (1, [.ref r, .int lp, .int lc, .int lw])), (r, .inr (0, [.ref k, .ref t, .int (nI n), .int cm, .int wr])), (k, .inl (cA, 500, .inl K)), (t, .inl (cB, 500, .inl T))] := hD
      subst hr1
      refine lv_aload_n hx hb dX2_rank_41 rfl (lv_at hl 1 rfl) ?_
      refine va_get (D := (dC, dI)) (ci := 1) (v := .ref r) (C := RX2) (T := TX2) (N := 4) hx hb hts (by decide +kernel) hown hK hP 0 rfl rfl 0 (by decide) (hts (.fieldLink RX2 10 "RowPress" "row" "LRowPress$Row;") (by decide +kernel)) (fun _ h9 => h9) rfl dX2_rank_42 ?_
      refine lv_iload_n hx hb dX2_rank_45 rfl (lv_at hl 2 rfl) ?_
      refine lv_aload_n hx hb dX2_rank_46 rfl (lv_at hl 1 rfl) ?_
      refine va_get (D := (dC, dI)) (ci := 1) (v := .ref r) (C := RX2) (T := TX2) (N := 4) hx hb hts (by decide +kernel) hown hK hP 0 rfl rfl 0 (by decide) (hts (.fieldLink RX2 10 "RowPress" "row" "LRowPress$Row;") (by decide +kernel)) (fun _ h9 => h9) rfl dX2_rank_47 ?_
      refine va_get (D := (dC, dI)) (ci := 0) (v := .int (nI n)) (C := RX1) (T := TX1) (N := 5) hx hb hts (by decide +kernel) hown hK hP 1 rfl rfl 2 (by decide) (hts (.fieldLink RX2 24 "RowPress$Row" "size" "I") (by decide +kernel)) (fun _ h9 => h9) rfl dX2_rank_50 ?_
      refine lv_iload_n hx hb dX2_rank_53 rfl (lv_at hl 0 rfl) ?_
      refine lv_iload_n hx hb dX2_rank_54 rfl (lv_at hl 3 rfl) ?_
      have hPc := hP.sub (ws' := [(r, .inr (0, [.ref k, .ref t, .int (nI n), .int cm, .int wr])), (k, .inl (cA, 500, .inl K)), (t, .inl (cB, 500, .inl T))]) [1, 2, 3] rfl
      have hDc := hD.sub (ws' := [(r, .inr (0, [.ref k, .ref t, .int (nI n), .int cm, .int wr])), (k, .inl (cA, 500, .inl K)), (t, .inl (cB, 500, .inl T))]) [1, 2, 3] (by decide) rfl
      have hKc := hK.sub (tys' := [(cA, .int), (cB, .int)]) [0, 1] rfl
      have hFc := va_free (wc := [(r, .inr (0, [.ref k, .ref t, .int (nI n), .int cm, .int wr])), (k, .inl (cA, 500, .inl K)), (t, .inl (cB, 500, .inl T))]) hD hS hA [1, 2, 3] rfl
      refine va_calli (va_runV (As := [.int (nI z), .int (nI n), .int (K z), .int (nI o1)]) (rest := [.int (nI (cn (fun j => ¬ mk o1 (K z) < mk o1 (K j)) 0 (z - 0)))]) ⟨hx, hb, hml, hown, hts⟩ (c_X1_countLess l dC dI H.size r k t cA cB n cm wr K T z n (K z) o1 (by omega) hn ho) (cwV 4 hts gX2_rank_X1_countLess rfl rfl rfl (by decide +kernel) ⟨Nat.le_of_ble_eq_true rfl, Nat.le_of_ble_eq_true rfl⟩) ⟨fun a U g mk q => by obtain ⟨q0, q1, qP, qK, qD⟩ := q; exact ⟨q0, q1, qP, va_K.moved (u := U) (U := U.calling g mk a) (Vm.Alike.refl U.vm) qK, qD⟩, va_recv hKc hPc (ci := 0) (q0 := 0) rfl rfl, fun U hU hW => ⟨rfl, by rw [hU], by rw [hU]; exact hPc, va_K.moved hW.alike hKc, hDc.weaken (fun _ _ _ _ => trivial)⟩⟩ rfl rfl hl.1 rfl (lv_room (Nat.le_of_ble_eq_true rfl)) dX2_rank_55 ⟨Nat.le_of_ble_eq_true rfl, Nat.le_of_ble_eq_true rfl⟩) hS (fun q _ h => hFc q h) hFc (fun r_4 u tS H1 locs ht hvm hw hB hz1 hk1 hS => ?_)
      obtain ⟨hr2, rfl⟩ := hw
      obtain ⟨hP1, hK1, hD1⟩ := hB
      rw [ht] at hP1
      obtain ⟨hP, hD⟩ := va_join (wr := [(h, .inr (1, [.ref r, .int lp, .int lc, .int lw]))]) (w1 := [(r, .inr (0, [.ref k, .ref t, .int (nI n), .int cm, .int wr])), (k, .inl (cA, 500, .inl K)), (t, .inl (cB, 500, .inl T))]) hP hD [1, 2, 3] [0] rfl rfl (by decide) (by decide) hk1 hFc hP1 hD1
      generalize H1 = H at hP hS ⊢
      have hP : va_P (dC, dI) vwCl [(h, .inr (1, [.ref r, .int lp, .int lc, .int lw])), (r, .inr (0, [.ref k, .ref t, .int (nI n), .int cm, .int wr])), (k, .inl (cA, 500, .inl K)), (t, .inl (cB, 500, .inl T))] H := hP
      have hD : va_D A [(h, .inr (1, [.ref r, .int lp, .int lc, .int lw])), (r, .inr (0, [.ref k, .ref t, .int (nI n), .int cm, .int wr])), (k, .inl (cA, 500, .inl K)), (t, .inl (cB, 500, .inl T))] := hD
      subst hr2
      refine lv_iadd hx hb dX2_rank_58 ?_
      refine lz_top (y := (nI ((cn (fun j => ¬ mk o1 (K z) < mk o1 (K j)) 0 (z - 0)) + (cn (fun j => mk o1 (K j) < mk o1 (K z)) z (n - z))))) (nI_add _ _) ?_
      exact W.iret (v := (nI ((cn (fun j => ¬ mk o1 (K z) < mk o1 (K j)) 0 (z - 0)) + (cn (fun j => mk o1 (K j) < mk o1 (K z)) z (n - z))))) hx hb hr (fun tS ht hW => ⟨⟨(nI ((cn (fun j => ¬ mk o1 (K z) < mk o1 (K j)) 0 (z - 0)) + (cn (fun j => mk o1 (K j) < mk o1 (K z)) z (n - z)))), (K, T, n, cm, wr, lp, lc, lw), rfl, ⟨Or.inr ⟨(z, o1), ⟨rfl, rfl, hz, ho⟩, congrArg nI (ran_eq (f := mZ K T) hz)⟩, ⟨rfl, rfl⟩, ⟨hn, hck⟩⟩, by rw [ht]; exact hP, va_K.moved hW.alike hK, hD⟩, hS.F ht⟩) hS.2.2 dX2_rank_59
    · refine lv_iconst (v := (-1)) hx hb dX2_rank_18 (by decide) ?_
      exact W.iret (v := (-1)) hx hb hr (fun tS ht hW => ⟨⟨(-1), (K, T, n, cm, wr, lp, lc, lw), rfl, ⟨Or.inl ⟨rfl, fun z hz => tr_0 hp c15 (dR_e hn hz).2⟩, ⟨rfl, rfl⟩, ⟨hn, hck⟩⟩, by rw [ht]; exact hP, va_K.moved hW.alike hK, hD⟩, hS.F ht⟩) hS.2.2 dX2_rank_19
set_option maxHeartbeats 4000000 in
set_option maxRecDepth 100000 in
theorem c_X2_key (l : Launch) (dC : Nat → ClassId) (dI : Nat → Nat → Nat) (sz : Nat) (h r k t : Nat) (cA cB : ClassId) (n : Nat) (cm wr lp lc lw : Int32) (K T : Nat → Int32) (hn : n ≤ 500) (hck : ckI lp lc lw) (x : Int32) : Met l yX2_key wsX2_key ({ frames := 1, cells := 0, slots := 0, locals := 21 }) (va_Pc [.ref h, .int x] (fun U => U.heap.size = sz ∧ va_P (dC, dI) vwCl [(h, .inr (1, [.ref r, .int lp, .int lc, .int lw])), (r, .inr (0, [.ref k, .ref t, .int (nI n), .int cm, .int wr])), (k, .inl (cA, 500, .inl K)), (t, .inl (cB, 500, .inl T))] U.heap ∧ va_K (dC, dI) vwCl [(cA, .int), (cB, .int)] U ∧ va_D (fun _ => True) [(h, .inr (1, [.ref r, .int lp, .int lc, .int lw])), (r, .inr (0, [.ref k, .ref t, .int (nI n), .int cm, .int wr])), (k, .inl (cA, 500, .inl K)), (t, .inl (cB, 500, .inl T))])) (va_Qi (fun r u => Qkey n (mZ K T) x r ∧ (u.2.2.1 = n ∧ mZ u.1 u.2.1 = mZ K T) ∧ okU u) (atX dC dI (va_A [(h, .inr (1, [.ref r, .int lp, .int lc, .int lw])), (r, .inr (0, [.ref k, .ref t, .int (nI n), .int cm, .int wr])), (k, .inl (cA, 500, .inl K)), (t, .inl (cB, 500, .inl T))] sz) h r k t cA cB) (va_A [(h, .inr (1, [.ref r, .int lp, .int lc, .int lw])), (r, .inr (0, [.ref k, .ref t, .int (nI n), .int cm, .int wr])), (k, .inl (cA, 500, .inl K)), (t, .inl (cB, 500, .inl T))] sz)) 0 0 (va_A [(h, .inr (1, [.ref r, .int lp, .int lc, .int lw])), (r, .inr (0, [.ref k, .ref t, .int (nI n), .int cm, .int wr])), (k, .inl (cA, 500, .inl K)), (t, .inl (cB, 500, .inl T))] sz) := by
  refine Met.ofW (cc := cX2_key) (maxL := 2) (ret := (some .int)) (by decide) rfl ?_
  intro p e s m args below meth c s₁ B hml hv
  obtain ⟨rfl, hsz, hP, hK, hD0⟩ := hv
  have hx := B.exec
  have hb := B.bytes
  have hr := B.returns
  have hts := atoms_spec (ws := wsX2_key) B.pre
  have hown : s.vm.findClass RX2 = some m.cls := findClass_of_methodNamed B.named
  have hlocks := B.notSynchronized
  subst hsz
  have hD := hD0.self (sz := s.heap.size)
  generalize hAe : va_A [(h, .inr (1, [.ref r, .int lp, .int lc, .int lw])), (r, .inr (0, [.ref k, .ref t, .int (nI n), .int cm, .int wr])), (k, .inl (cA, 500, .inl K)), (t, .inl (cB, 500, .inl T))] s.heap.size = A at hD ⊢
  have hA : ∀ q : Nat, s.heap.size ≤ q → A q := fun q h => by rw [← hAe]; exact Or.inr h
  have hS : va_S A s.heap s.heap [] := va_S.rf
  have hP : va_P (dC, dI) vwCl [(h, .inr (1, [.ref r, .int lp, .int lc, .int lw])), (r, .inr (0, [.ref k, .ref t, .int (nI n), .int cm, .int wr])), (k, .inl (cA, 500, .inl K)), (t, .inl (cB, 500, .inl T))] s.heap := hP
  have hl := lv_entry ([.ref h, .int x]) (n := 2) (Nat.le_of_ble_eq_true rfl)
  rw [lg_entry_eq]
  generalize (lg_sl ([.ref h, .int x]) ++ List.replicate (2 - (lg_sl ([.ref h, .int x])).length) Slot.unset).toArray = ls at hl ⊢
  have hl : lv_has ls 2 [(0, .ref h), (1, .int x)] := hl
  refine lv_aload_n hx hb dX2_key_0 rfl (lv_at hl 0 rfl) ?_
  refine va_get (D := (dC, dI)) (ci := 1) (v := .ref r) (C := RX2) (T := TX2) (N := 4) hx hb hts (by decide +kernel) hown hK hP 0 rfl rfl 0 (by decide) (hts (.fieldLink RX2 10 "RowPress" "row" "LRowPress$Row;") (by decide +kernel)) (fun _ h9 => h9) rfl dX2_key_1 ?_
  refine lv_iload_n hx hb dX2_key_4 rfl (lv_at hl 1 rfl) ?_
  have hPc := hP.sub (ws' := [(r, .inr (0, [.ref k, .ref t, .int (nI n), .int cm, .int wr])), (k, .inl (cA, 500, .inl K)), (t, .inl (cB, 500, .inl T))]) [1, 2, 3] rfl
  have hDc := hD.sub (ws' := [(r, .inr (0, [.ref k, .ref t, .int (nI n), .int cm, .int wr])), (k, .inl (cA, 500, .inl K)), (t, .inl (cB, 500, .inl T))]) [1, 2, 3] (by decide) rfl
  have hKc := hK.sub (tys' := [(cA, .int), (cB, .int)]) [0, 1] rfl
  have hFc := va_free (wc := [(r, .inr (0, [.ref k, .ref t, .int (nI n), .int cm, .int wr])), (k, .inl (cA, 500, .inl K)), (t, .inl (cB, 500, .inl T))]) hD hS hA [1, 2, 3] rfl
  refine va_calli (va_runV (As := [.int x]) (rest := []) ⟨hx, hb, hml, hown, hts⟩ (c_X1_hasPlace l dC dI s.heap.size r k t cA cB n cm wr K T hn x) (cwV 1 hts gX2_key_X1_hasPlace rfl rfl rfl (by decide +kernel) ⟨Nat.le_of_ble_eq_true rfl, Nat.le_of_ble_eq_true rfl⟩) ⟨fun a U g mk q => by obtain ⟨q0, q1, qP, qK, qD⟩ := q; exact ⟨q0, q1, qP, va_K.moved (u := U) (U := U.calling g mk a) (Vm.Alike.refl U.vm) qK, qD⟩, va_recv hKc hPc (ci := 0) (q0 := 0) rfl rfl, fun U hU hW => ⟨rfl, by rw [hU], by rw [hU]; exact hPc, va_K.moved hW.alike hKc, hDc.weaken (fun _ _ _ _ => trivial)⟩⟩ rfl rfl hl.1 rfl (lv_room (Nat.le_of_ble_eq_true rfl)) dX2_key_5 ⟨Nat.le_of_ble_eq_true rfl, Nat.le_of_ble_eq_true rfl⟩) hS (fun q _ h => hFc q h) hFc (fun r_1 u tS H1 locs ht hvm hw hB hz1 hk1 hS => ?_)
  obtain ⟨hp, rfl⟩ := hw
  obtain ⟨hP1, hK1, hD1⟩ := hB
  rw [ht] at hP1
  obtain ⟨hP, hD⟩ := va_join (wr := [(h, .inr (1, [.ref r, .int lp, .int lc, .int lw]))]) (w1 := [(r, .inr (0, [.ref k, .ref t, .int (nI n), .int cm, .int wr])), (k, .inl (cA, 500, .inl K)), (t, .inl (cB, 500, .inl T))]) hP hD [1, 2, 3] [0] rfl rfl (by decide) (by decide) hk1 hFc hP1 hD1
  generalize H1 = H at hP hS ⊢
  have hP : va_P (dC, dI) vwCl [(h, .inr (1, [.ref r, .int lp, .int lc, .int lw])), (r, .inr (0, [.ref k, .ref t, .int (nI n), .int cm, .int wr])), (k, .inl (cA, 500, .inl K)), (t, .inl (cB, 500, .inl T))] H := hP
  have hD : va_D A [(h, .inr (1, [.ref r, .int lp, .int lc, .int lw])), (r, .inr (0, [.ref k, .ref t, .int (nI n), .int cm, .int wr])), (k, .inl (cA, 500, .inl K)), (t, .inl (cB, 500, .inl T))] := hD
  refine lv_if_eq (tgt := 23) hx hb dX2_key_8 (by decide) (fun c8 => ?_) (fun c8 => ?_)
  · refine lv_iconst (v := (nI 0)) hx hb dX2_key_23 (by decide) ?_
    exact W.iret (v := (nI 0)) hx hb hr (fun tS ht hW => ⟨⟨(nI 0), (K, T, n, cm, wr, lp, lc, lw), rfl, ⟨Or.inl ⟨rfl, fun z hz => tr_0 hp c8 (dP_e hn hz)⟩, ⟨rfl, rfl⟩, ⟨hn, hck⟩⟩, by rw [ht]; exact hP, va_K.moved hW.alike hK, hD⟩, hS.F ht⟩) hS.2.2 dX2_key_24
  · obtain ⟨z, hz, rfl⟩ := plO_of hn (tr_1 hp c8)
    refine lv_aload_n hx hb dX2_key_11 rfl (lv_at hl 0 rfl) ?_
    refine va_get (D := (dC, dI)) (ci := 1) (v := .ref r) (C := RX2) (T := TX2) (N := 4) hx hb hts (by decide +kernel) hown hK hP 0 rfl rfl 0 (by decide) (hts (.fieldLink RX2 10 "RowPress" "row" "LRowPress$Row;") (by decide +kernel)) (fun _ h9 => h9) rfl dX2_key_12 ?_
    refine va_get (D := (dC, dI)) (ci := 0) (v := .ref k) (C := RX1) (T := TX1) (N := 5) hx hb hts (by decide +kernel) hown hK hP 1 rfl rfl 0 (by decide) (hts (.fieldLink RX2 86 "RowPress$Row" "keys" "[I") (by decide +kernel)) (fun _ h9 => h9) rfl dX2_key_15 ?_
    refine lv_iload_n hx hb dX2_key_18 rfl (lv_at hl 1 rfl) ?_
    refine lz_iald hx hb hK hP 2 0 rfl rfl (j := z) (by omega) (by decide) dX2_key_19 ?_
    refine lv_goto (tgt := 24) hx hb dX2_key_20 (by decide) ?_
    exact W.iret (v := (K z)) hx hb hr (fun tS ht hW => ⟨⟨(K z), (K, T, n, cm, wr, lp, lc, lw), rfl, ⟨Or.inr ⟨z, ⟨rfl, hz⟩, rfl⟩, ⟨rfl, rfl⟩, ⟨hn, hck⟩⟩, by rw [ht]; exact hP, va_K.moved hW.alike hK, hD⟩, hS.F ht⟩) hS.2.2 dX2_key_24
set_option maxHeartbeats 4000000 in
set_option maxRecDepth 100000 in
theorem c_X2_tag (l : Launch) (dC : Nat → ClassId) (dI : Nat → Nat → Nat) (sz : Nat) (h r k t : Nat) (cA cB : ClassId) (n : Nat) (cm wr lp lc lw : Int32) (K T : Nat → Int32) (hn : n ≤ 500) (hck : ckI lp lc lw) (x : Int32) : Met l yX2_tag wsX2_tag ({ frames := 1, cells := 0, slots := 0, locals := 21 }) (va_Pc [.ref h, .int x] (fun U => U.heap.size = sz ∧ va_P (dC, dI) vwCl [(h, .inr (1, [.ref r, .int lp, .int lc, .int lw])), (r, .inr (0, [.ref k, .ref t, .int (nI n), .int cm, .int wr])), (k, .inl (cA, 500, .inl K)), (t, .inl (cB, 500, .inl T))] U.heap ∧ va_K (dC, dI) vwCl [(cA, .int), (cB, .int)] U ∧ va_D (fun _ => True) [(h, .inr (1, [.ref r, .int lp, .int lc, .int lw])), (r, .inr (0, [.ref k, .ref t, .int (nI n), .int cm, .int wr])), (k, .inl (cA, 500, .inl K)), (t, .inl (cB, 500, .inl T))])) (va_Qi (fun r u => Qtag n (mZ K T) x r ∧ (u.2.2.1 = n ∧ mZ u.1 u.2.1 = mZ K T) ∧ okU u) (atX dC dI (va_A [(h, .inr (1, [.ref r, .int lp, .int lc, .int lw])), (r, .inr (0, [.ref k, .ref t, .int (nI n), .int cm, .int wr])), (k, .inl (cA, 500, .inl K)), (t, .inl (cB, 500, .inl T))] sz) h r k t cA cB) (va_A [(h, .inr (1, [.ref r, .int lp, .int lc, .int lw])), (r, .inr (0, [.ref k, .ref t, .int (nI n), .int cm, .int wr])), (k, .inl (cA, 500, .inl K)), (t, .inl (cB, 500, .inl T))] sz)) 0 0 (va_A [(h, .inr (1, [.ref r, .int lp, .int lc, .int lw])), (r, .inr (0, [.ref k, .ref t, .int (nI n), .int cm, .int wr])), (k, .inl (cA, 500, .inl K)), (t, .inl (cB, 500, .inl T))] sz) := by
  refine Met.ofW (cc := cX2_tag) (maxL := 2) (ret := (some .int)) (by decide) rfl ?_
  intro p e s m args below meth c s₁ B hml hv
  obtain ⟨rfl, hsz, hP, hK, hD0⟩ := hv
  have hx := B.exec
  have hb := B.bytes
  have hr := B.returns
  have hts := atoms_spec (ws := wsX2_tag) B.pre
  have hown : s.vm.findClass RX2 = some m.cls := findClass_of_methodNamed B.named
  have hlocks := B.notSynchronized
  subst hsz
  have hD := hD0.self (sz := s.heap.size)
  generalize hAe : va_A [(h, .inr (1, [.ref r, .int lp, .int lc, .int lw])), (r, .inr (0, [.ref k, .ref t, .int (nI n), .int cm, .int wr])), (k, .inl (cA, 500, .inl K)), (t, .inl (cB, 500, .inl T))] s.heap.size = A at hD ⊢
  have hA : ∀ q : Nat, s.heap.size ≤ q → A q := fun q h => by rw [← hAe]; exact Or.inr h
  have hS : va_S A s.heap s.heap [] := va_S.rf
  have hP : va_P (dC, dI) vwCl [(h, .inr (1, [.ref r, .int lp, .int lc, .int lw])), (r, .inr (0, [.ref k, .ref t, .int (nI n), .int cm, .int wr])), (k, .inl (cA, 500, .inl K)), (t, .inl (cB, 500, .inl T))] s.heap := hP
  have hl := lv_entry ([.ref h, .int x]) (n := 2) (Nat.le_of_ble_eq_true rfl)
  rw [lg_entry_eq]
  generalize (lg_sl ([.ref h, .int x]) ++ List.replicate (2 - (lg_sl ([.ref h, .int x])).length) Slot.unset).toArray = ls at hl ⊢
  have hl : lv_has ls 2 [(0, .ref h), (1, .int x)] := hl
  refine lv_aload_n hx hb dX2_tag_0 rfl (lv_at hl 0 rfl) ?_
  refine va_get (D := (dC, dI)) (ci := 1) (v := .ref r) (C := RX2) (T := TX2) (N := 4) hx hb hts (by decide +kernel) hown hK hP 0 rfl rfl 0 (by decide) (hts (.fieldLink RX2 10 "RowPress" "row" "LRowPress$Row;") (by decide +kernel)) (fun _ h9 => h9) rfl dX2_tag_1 ?_
  refine lv_iload_n hx hb dX2_tag_4 rfl (lv_at hl 1 rfl) ?_
  have hPc := hP.sub (ws' := [(r, .inr (0, [.ref k, .ref t, .int (nI n), .int cm, .int wr])), (k, .inl (cA, 500, .inl K)), (t, .inl (cB, 500, .inl T))]) [1, 2, 3] rfl
  have hDc := hD.sub (ws' := [(r, .inr (0, [.ref k, .ref t, .int (nI n), .int cm, .int wr])), (k, .inl (cA, 500, .inl K)), (t, .inl (cB, 500, .inl T))]) [1, 2, 3] (by decide) rfl
  have hKc := hK.sub (tys' := [(cA, .int), (cB, .int)]) [0, 1] rfl
  have hFc := va_free (wc := [(r, .inr (0, [.ref k, .ref t, .int (nI n), .int cm, .int wr])), (k, .inl (cA, 500, .inl K)), (t, .inl (cB, 500, .inl T))]) hD hS hA [1, 2, 3] rfl
  refine va_calli (va_runV (As := [.int x]) (rest := []) ⟨hx, hb, hml, hown, hts⟩ (c_X1_hasPlace l dC dI s.heap.size r k t cA cB n cm wr K T hn x) (cwV 1 hts gX2_tag_X1_hasPlace rfl rfl rfl (by decide +kernel) ⟨Nat.le_of_ble_eq_true rfl, Nat.le_of_ble_eq_true rfl⟩) ⟨fun a U g mk q => by obtain ⟨q0, q1, qP, qK, qD⟩ := q; exact ⟨q0, q1, qP, va_K.moved (u := U) (U := U.calling g mk a) (Vm.Alike.refl U.vm) qK, qD⟩, va_recv hKc hPc (ci := 0) (q0 := 0) rfl rfl, fun U hU hW => ⟨rfl, by rw [hU], by rw [hU]; exact hPc, va_K.moved hW.alike hKc, hDc.weaken (fun _ _ _ _ => trivial)⟩⟩ rfl rfl hl.1 rfl (lv_room (Nat.le_of_ble_eq_true rfl)) dX2_tag_5 ⟨Nat.le_of_ble_eq_true rfl, Nat.le_of_ble_eq_true rfl⟩) hS (fun q _ h => hFc q h) hFc (fun r_1 u tS H1 locs ht hvm hw hB hz1 hk1 hS => ?_)
  obtain ⟨hp, rfl⟩ := hw
  obtain ⟨hP1, hK1, hD1⟩ := hB
  rw [ht] at hP1
  obtain ⟨hP, hD⟩ := va_join (wr := [(h, .inr (1, [.ref r, .int lp, .int lc, .int lw]))]) (w1 := [(r, .inr (0, [.ref k, .ref t, .int (nI n), .int cm, .int wr])), (k, .inl (cA, 500, .inl K)), (t, .inl (cB, 500, .inl T))]) hP hD [1, 2, 3] [0] rfl rfl (by decide) (by decide) hk1 hFc hP1 hD1
  generalize H1 = H at hP hS ⊢
  have hP : va_P (dC, dI) vwCl [(h, .inr (1, [.ref r, .int lp, .int lc, .int lw])), (r, .inr (0, [.ref k, .ref t, .int (nI n), .int cm, .int wr])), (k, .inl (cA, 500, .inl K)), (t, .inl (cB, 500, .inl T))] H := hP
  have hD : va_D A [(h, .inr (1, [.ref r, .int lp, .int lc, .int lw])), (r, .inr (0, [.ref k, .ref t, .int (nI n), .int cm, .int wr])), (k, .inl (cA, 500, .inl K)), (t, .inl (cB, 500, .inl T))] := hD
  refine lv_if_eq (tgt := 23) hx hb dX2_tag_8 (by decide) (fun c8 => ?_) (fun c8 => ?_)
  · refine lv_iconst (v := (nI 0)) hx hb dX2_tag_23 (by decide) ?_
    exact W.iret (v := (nI 0)) hx hb hr (fun tS ht hW => ⟨⟨(nI 0), (K, T, n, cm, wr, lp, lc, lw), rfl, ⟨Or.inl ⟨rfl, fun z hz => tr_0 hp c8 (dP_e hn hz)⟩, ⟨rfl, rfl⟩, ⟨hn, hck⟩⟩, by rw [ht]; exact hP, va_K.moved hW.alike hK, hD⟩, hS.F ht⟩) hS.2.2 dX2_tag_24
  · obtain ⟨z, hz, rfl⟩ := plO_of hn (tr_1 hp c8)
    refine lv_aload_n hx hb dX2_tag_11 rfl (lv_at hl 0 rfl) ?_
    refine va_get (D := (dC, dI)) (ci := 1) (v := .ref r) (C := RX2) (T := TX2) (N := 4) hx hb hts (by decide +kernel) hown hK hP 0 rfl rfl 0 (by decide) (hts (.fieldLink RX2 10 "RowPress" "row" "LRowPress$Row;") (by decide +kernel)) (fun _ h9 => h9) rfl dX2_tag_12 ?_
    refine va_get (D := (dC, dI)) (ci := 0) (v := .ref t) (C := RX1) (T := TX1) (N := 5) hx hb hts (by decide +kernel) hown hK hP 1 rfl rfl 1 (by decide) (hts (.fieldLink RX2 90 "RowPress$Row" "tags" "[I") (by decide +kernel)) (fun _ h9 => h9) rfl dX2_tag_15 ?_
    refine lv_iload_n hx hb dX2_tag_18 rfl (lv_at hl 1 rfl) ?_
    refine lz_iald hx hb hK hP 3 1 rfl rfl (j := z) (by omega) (by decide) dX2_tag_19 ?_
    refine lv_goto (tgt := 24) hx hb dX2_tag_20 (by decide) ?_
    exact W.iret (v := (T z)) hx hb hr (fun tS ht hW => ⟨⟨(T z), (K, T, n, cm, wr, lp, lc, lw), rfl, ⟨Or.inr ⟨z, ⟨rfl, hz⟩, rfl⟩, ⟨rfl, rfl⟩, ⟨hn, hck⟩⟩, by rw [ht]; exact hP, va_K.moved hW.alike hK, hD⟩, hS.F ht⟩) hS.2.2 dX2_tag_24
set_option maxHeartbeats 4000000 in
set_option maxRecDepth 100000 in
theorem c_X2_count (l : Launch) (dC : Nat → ClassId) (dI : Nat → Nat → Nat) (sz : Nat) (h r k t : Nat) (cA cB : ClassId) (n : Nat) (cm wr lp lc lw : Int32) (K T : Nat → Int32) (hn : n ≤ 500) (hck : ckI lp lc lw) (x : Int32) : Met l yX2_count wsX2_count ({ frames := 2, cells := 0, slots := 0, locals := 44 }) (va_Pc [.ref h, .int x] (fun U => U.heap.size = sz ∧ va_P (dC, dI) vwCl [(h, .inr (1, [.ref r, .int lp, .int lc, .int lw])), (r, .inr (0, [.ref k, .ref t, .int (nI n), .int cm, .int wr])), (k, .inl (cA, 500, .inl K)), (t, .inl (cB, 500, .inl T))] U.heap ∧ va_K (dC, dI) vwCl [(cA, .int), (cB, .int)] U ∧ va_D (fun _ => True) [(h, .inr (1, [.ref r, .int lp, .int lc, .int lw])), (r, .inr (0, [.ref k, .ref t, .int (nI n), .int cm, .int wr])), (k, .inl (cA, 500, .inl K)), (t, .inl (cB, 500, .inl T))])) (va_Qi (fun r u => Qcou n (mZ K T) x r ∧ (u.2.2.1 = n ∧ mZ u.1 u.2.1 = mZ K T) ∧ okU u) (atX dC dI (va_A [(h, .inr (1, [.ref r, .int lp, .int lc, .int lw])), (r, .inr (0, [.ref k, .ref t, .int (nI n), .int cm, .int wr])), (k, .inl (cA, 500, .inl K)), (t, .inl (cB, 500, .inl T))] sz) h r k t cA cB) (va_A [(h, .inr (1, [.ref r, .int lp, .int lc, .int lw])), (r, .inr (0, [.ref k, .ref t, .int (nI n), .int cm, .int wr])), (k, .inl (cA, 500, .inl K)), (t, .inl (cB, 500, .inl T))] sz)) 0 0 (va_A [(h, .inr (1, [.ref r, .int lp, .int lc, .int lw])), (r, .inr (0, [.ref k, .ref t, .int (nI n), .int cm, .int wr])), (k, .inl (cA, 500, .inl K)), (t, .inl (cB, 500, .inl T))] sz) := by
  refine Met.ofW (cc := cX2_count) (maxL := 2) (ret := (some .int)) (by decide) rfl ?_
  intro p e s m args below meth c s₁ B hml hv
  obtain ⟨rfl, hsz, hP, hK, hD0⟩ := hv
  have hx := B.exec
  have hb := B.bytes
  have hr := B.returns
  have hts := atoms_spec (ws := wsX2_count) B.pre
  have hown : s.vm.findClass RX2 = some m.cls := findClass_of_methodNamed B.named
  have hlocks := B.notSynchronized
  subst hsz
  have hD := hD0.self (sz := s.heap.size)
  generalize hAe : va_A [(h, .inr (1, [.ref r, .int lp, .int lc, .int lw])), (r, .inr (0, [.ref k, .ref t, .int (nI n), .int cm, .int wr])), (k, .inl (cA, 500, .inl K)), (t, .inl (cB, 500, .inl T))] s.heap.size = A at hD ⊢
  have hA : ∀ q : Nat, s.heap.size ≤ q → A q := fun q h => by rw [← hAe]; exact Or.inr h
  have hS : va_S A s.heap s.heap [] := va_S.rf
  have hP : va_P (dC, dI) vwCl [(h, .inr (1, [.ref r, .int lp, .int lc, .int lw])), (r, .inr (0, [.ref k, .ref t, .int (nI n), .int cm, .int wr])), (k, .inl (cA, 500, .inl K)), (t, .inl (cB, 500, .inl T))] s.heap := hP
  have hl := lv_entry ([.ref h, .int x]) (n := 2) (Nat.le_of_ble_eq_true rfl)
  rw [lg_entry_eq]
  generalize (lg_sl ([.ref h, .int x]) ++ List.replicate (2 - (lg_sl ([.ref h, .int x])).length) Slot.unset).toArray = ls at hl ⊢
  have hl : lv_has ls 2 [(0, .ref h), (1, .int x)] := hl
  by_cases e0 : x = nI 0
  · subst e0
    refine lv_iload_n hx hb dX2_count_0 rfl (lv_at hl 1 rfl) ?_
    refine lv_tableIn (tgt := 28) (off := 27) hx hb dX2_count_1 (by decide) (by decide) (by decide) (by decide) ?_
    refine lv_aload_n hx hb dX2_count_28 rfl (lv_at hl 0 rfl) ?_
    refine va_get (D := (dC, dI)) (ci := 1) (v := .ref r) (C := RX2) (T := TX2) (N := 4) hx hb hts (by decide +kernel) hown hK hP 0 rfl rfl 0 (by decide) (hts (.fieldLink RX2 10 "RowPress" "row" "LRowPress$Row;") (by decide +kernel)) (fun _ h9 => h9) rfl dX2_count_29 ?_
    refine va_get (D := (dC, dI)) (ci := 0) (v := .int (nI n)) (C := RX1) (T := TX1) (N := 5) hx hb hts (by decide +kernel) hown hK hP 1 rfl rfl 2 (by decide) (hts (.fieldLink RX2 24 "RowPress$Row" "size" "I") (by decide +kernel)) (fun _ h9 => h9) rfl dX2_count_32 ?_
    exact W.iret (v := (nI n)) hx hb hr (fun tS ht hW => ⟨⟨(nI n), (K, T, n, cm, wr, lp, lc, lw), rfl, ⟨Or.inl ⟨rfl, rfl⟩, ⟨rfl, rfl⟩, ⟨hn, hck⟩⟩, by rw [ht]; exact hP, va_K.moved hW.alike hK, hD⟩, hS.F ht⟩) hS.2.2 dX2_count_35
  by_cases e1 : x = nI 1
  · subst e1
    refine lv_iload_n hx hb dX2_count_0 rfl (lv_at hl 1 rfl) ?_
    refine lv_tableIn (tgt := 36) (off := 35) hx hb dX2_count_1 (by decide) (by decide) (by decide) (by decide) ?_
    refine lv_aload_n hx hb dX2_count_36 rfl (lv_at hl 0 rfl) ?_
    refine va_get (D := (dC, dI)) (ci := 1) (v := .ref r) (C := RX2) (T := TX2) (N := 4) hx hb hts (by decide +kernel) hown hK hP 0 rfl rfl 0 (by decide) (hts (.fieldLink RX2 10 "RowPress" "row" "LRowPress$Row;") (by decide +kernel)) (fun _ h9 => h9) rfl dX2_count_37 ?_
    have hPc := hP.sub (ws' := [(r, .inr (0, [.ref k, .ref t, .int (nI n), .int cm, .int wr])), (k, .inl (cA, 500, .inl K)), (t, .inl (cB, 500, .inl T))]) [1, 2, 3] rfl
    have hDc := hD.sub (ws' := [(r, .inr (0, [.ref k, .ref t, .int (nI n), .int cm, .int wr])), (k, .inl (cA, 500, .inl K)), (t, .inl (cB, 500, .inl T))]) [1, 2, 3] (by decide) rfl
    have hKc := hK.sub (tys' := [(cA, .int), (cB, .int)]) [0, 1] rfl
    have hFc := va_free (wc := [(r, .inr (0, [.ref k, .ref t, .int (nI n), .int cm, .int wr])), (k, .inl (cA, 500, .inl K)), (t, .inl (cB, 500, .inl T))]) hD hS hA [1, 2, 3] rfl
    refine va_calli (va_runV (As := []) (rest := []) ⟨hx, hb, hml, hown, hts⟩ (c_X1_countSortedStretches l dC dI s.heap.size r k t cA cB n cm wr K T hn) (cwV 0 hts gX2_count_X1_countSortedStretches rfl rfl rfl (by decide +kernel) ⟨Nat.le_of_ble_eq_true rfl, Nat.le_of_ble_eq_true rfl⟩) ⟨fun a U g mk q => by obtain ⟨q0, q1, qP, qK, qD⟩ := q; exact ⟨q0, q1, qP, va_K.moved (u := U) (U := U.calling g mk a) (Vm.Alike.refl U.vm) qK, qD⟩, va_recv hKc hPc (ci := 0) (q0 := 0) rfl rfl, fun U hU hW => ⟨rfl, by rw [hU], by rw [hU]; exact hPc, va_K.moved hW.alike hKc, hDc.weaken (fun _ _ _ _ => trivial)⟩⟩ rfl rfl hl.1 rfl (lv_room (Nat.le_of_ble_eq_true rfl)) dX2_count_40 ⟨Nat.le_of_ble_eq_true rfl, Nat.le_of_ble_eq_true rfl⟩) hS (fun q _ h => hFc q h) hFc (fun r_1 u tS H1 locs ht hvm hw hB hz1 hk1 hS => ?_)
    obtain ⟨hq, rfl⟩ := hw
    obtain ⟨hP1, hK1, hD1⟩ := hB
    rw [ht] at hP1
    obtain ⟨hP, hD⟩ := va_join (wr := [(h, .inr (1, [.ref r, .int lp, .int lc, .int lw]))]) (w1 := [(r, .inr (0, [.ref k, .ref t, .int (nI n), .int cm, .int wr])), (k, .inl (cA, 500, .inl K)), (t, .inl (cB, 500, .inl T))]) hP hD [1, 2, 3] [0] rfl rfl (by decide) (by decide) hk1 hFc hP1 hD1
    generalize H1 = H at hP hS ⊢
    have hP : va_P (dC, dI) vwCl [(h, .inr (1, [.ref r, .int lp, .int lc, .int lw])), (r, .inr (0, [.ref k, .ref t, .int (nI n), .int cm, .int wr])), (k, .inl (cA, 500, .inl K)), (t, .inl (cB, 500, .inl T))] H := hP
    have hD : va_D A [(h, .inr (1, [.ref r, .int lp, .int lc, .int lw])), (r, .inr (0, [.ref k, .ref t, .int (nI n), .int cm, .int wr])), (k, .inl (cA, 500, .inl K)), (t, .inl (cB, 500, .inl T))] := hD
    exact W.iret (v := r_1) hx hb hr (fun tS ht hW => ⟨⟨r_1, (K, T, n, cm, wr, lp, lc, lw), rfl, ⟨Or.inr (Or.inl ⟨rfl, hq⟩), ⟨rfl, rfl⟩, ⟨hn, hck⟩⟩, by rw [ht]; exact hP, va_K.moved hW.alike hK, hD⟩, hS.F ht⟩) hS.2.2 dX2_count_43
  by_cases e2 : x = nI 2
  · subst e2
    refine lv_iload_n hx hb dX2_count_0 rfl (lv_at hl 1 rfl) ?_
    refine lv_tableIn (tgt := 44) (off := 43) hx hb dX2_count_1 (by decide) (by decide) (by decide) (by decide) ?_
    refine lv_aload_n hx hb dX2_count_44 rfl (lv_at hl 0 rfl) ?_
    refine va_get (D := (dC, dI)) (ci := 1) (v := .ref r) (C := RX2) (T := TX2) (N := 4) hx hb hts (by decide +kernel) hown hK hP 0 rfl rfl 0 (by decide) (hts (.fieldLink RX2 10 "RowPress" "row" "LRowPress$Row;") (by decide +kernel)) (fun _ h9 => h9) rfl dX2_count_45 ?_
    have hPc := hP.sub (ws' := [(r, .inr (0, [.ref k, .ref t, .int (nI n), .int cm, .int wr])), (k, .inl (cA, 500, .inl K)), (t, .inl (cB, 500, .inl T))]) [1, 2, 3] rfl
    have hDc := hD.sub (ws' := [(r, .inr (0, [.ref k, .ref t, .int (nI n), .int cm, .int wr])), (k, .inl (cA, 500, .inl K)), (t, .inl (cB, 500, .inl T))]) [1, 2, 3] (by decide) rfl
    have hKc := hK.sub (tys' := [(cA, .int), (cB, .int)]) [0, 1] rfl
    have hFc := va_free (wc := [(r, .inr (0, [.ref k, .ref t, .int (nI n), .int cm, .int wr])), (k, .inl (cA, 500, .inl K)), (t, .inl (cB, 500, .inl T))]) hD hS hA [1, 2, 3] rfl
    refine va_calli (va_runV (As := []) (rest := []) ⟨hx, hb, hml, hown, hts⟩ (c_X1_countDifferentKeys l dC dI s.heap.size r k t cA cB n cm wr K T hn) (cwV 0 hts gX2_count_X1_countDifferentKeys rfl rfl rfl (by decide +kernel) ⟨Nat.le_of_ble_eq_true rfl, Nat.le_of_ble_eq_true rfl⟩) ⟨fun a U g mk q => by obtain ⟨q0, q1, qP, qK, qD⟩ := q; exact ⟨q0, q1, qP, va_K.moved (u := U) (U := U.calling g mk a) (Vm.Alike.refl U.vm) qK, qD⟩, va_recv hKc hPc (ci := 0) (q0 := 0) rfl rfl, fun U hU hW => ⟨rfl, by rw [hU], by rw [hU]; exact hPc, va_K.moved hW.alike hKc, hDc.weaken (fun _ _ _ _ => trivial)⟩⟩ rfl rfl hl.1 rfl (lv_room (Nat.le_of_ble_eq_true rfl)) dX2_count_48 ⟨Nat.le_of_ble_eq_true rfl, Nat.le_of_ble_eq_true rfl⟩) hS (fun q _ h => hFc q h) hFc (fun r_2 u tS H1 locs ht hvm hw hB hz1 hk1 hS => ?_)
    obtain ⟨hq, rfl⟩ := hw
    obtain ⟨hP1, hK1, hD1⟩ := hB
    rw [ht] at hP1
    obtain ⟨hP, hD⟩ := va_join (wr := [(h, .inr (1, [.ref r, .int lp, .int lc, .int lw]))]) (w1 := [(r, .inr (0, [.ref k, .ref t, .int (nI n), .int cm, .int wr])), (k, .inl (cA, 500, .inl K)), (t, .inl (cB, 500, .inl T))]) hP hD [1, 2, 3] [0] rfl rfl (by decide) (by decide) hk1 hFc hP1 hD1
    generalize H1 = H at hP hS ⊢
    have hP : va_P (dC, dI) vwCl [(h, .inr (1, [.ref r, .int lp, .int lc, .int lw])), (r, .inr (0, [.ref k, .ref t, .int (nI n), .int cm, .int wr])), (k, .inl (cA, 500, .inl K)), (t, .inl (cB, 500, .inl T))] H := hP
    have hD : va_D A [(h, .inr (1, [.ref r, .int lp, .int lc, .int lw])), (r, .inr (0, [.ref k, .ref t, .int (nI n), .int cm, .int wr])), (k, .inl (cA, 500, .inl K)), (t, .inl (cB, 500, .inl T))] := hD
    exact W.iret (v := r_2) hx hb hr (fun tS ht hW => ⟨⟨r_2, (K, T, n, cm, wr, lp, lc, lw), rfl, ⟨Or.inr (Or.inr (Or.inl ⟨rfl, hq⟩)), ⟨rfl, rfl⟩, ⟨hn, hck⟩⟩, by rw [ht]; exact hP, va_K.moved hW.alike hK, hD⟩, hS.F ht⟩) hS.2.2 dX2_count_51
  refine lv_iload_n hx hb dX2_count_0 rfl (lv_at hl 1 rfl) ?_
  refine lv_tableOut (tgt := 52) hx hb dX2_count_1 (tb_out e0 e1 e2) (by decide) ?_
  refine lv_iconst (v := (-1)) hx hb dX2_count_52 (by decide) ?_
  exact W.iret (v := (-1)) hx hb hr (fun tS ht hW => ⟨⟨(-1), (K, T, n, cm, wr, lp, lc, lw), rfl, ⟨Or.inr (Or.inr (Or.inr ⟨e0, e1, e2, rfl⟩)), ⟨rfl, rfl⟩, ⟨hn, hck⟩⟩, by rw [ht]; exact hP, va_K.moved hW.alike hK, hD⟩, hS.F ht⟩) hS.2.2 dX2_count_53
set_option maxHeartbeats 4000000 in
set_option maxRecDepth 100000 in
theorem c_X2_levels (l : Launch) (dC : Nat → ClassId) (dI : Nat → Nat → Nat) (sz : Nat) (N : Nat) (hN : N ≤ 500) : Met l yX2_levels wsX2_levels ({ frames := 0, cells := 0, slots := 0, locals := 0 }) (va_Pc [.int (nI N)] (fun U => U.heap.size = sz ∧ va_P (dC, dI) vwCl [] U.heap ∧ va_K (dC, dI) vwCl [] U ∧ va_D (fun _ => True) [])) (va_Qi (fun r (_ : Unit) => ∃ L, r = nI L ∧ 1 ≤ L ∧ L ≤ 16 ∧ N ≤ 2 ^ L) (at0 dC dI (va_A [] sz)) (va_A [] sz)) 0 0 (va_A [] sz) := by
  refine Met.ofW (cc := cX2_levels) (maxL := 2) (ret := (some .int)) (by decide) rfl ?_
  intro p e s m args below meth c s₁ B hml hv
  obtain ⟨rfl, hsz, hP, hK, hD0⟩ := hv
  have hx := B.exec
  have hb := B.bytes
  have hr := B.returns
  have hts := atoms_spec (ws := wsX2_levels) B.pre
  have hown : s.vm.findClass RX2 = some m.cls := findClass_of_methodNamed B.named
  have hlocks := B.notSynchronized
  subst hsz
  have hD := hD0.self (sz := s.heap.size)
  generalize hAe : va_A [] s.heap.size = A at hD ⊢
  have hA : ∀ q : Nat, s.heap.size ≤ q → A q := fun q h => by rw [← hAe]; exact Or.inr h
  have hS : va_S A s.heap s.heap [] := va_S.rf
  have hP : va_P (dC, dI) vwCl [] s.heap := hP
  have hl := lv_entry ([.int (nI N)]) (n := 2) (Nat.le_of_ble_eq_true rfl)
  rw [lg_entry_eq]
  generalize (lg_sl ([.int (nI N)]) ++ List.replicate (2 - (lg_sl ([.int (nI N)])).length) Slot.unset).toArray = ls at hl ⊢
  have hl : lv_has ls 2 [(0, .int (nI N))] := hl
  refine lv_iconst (v := (nI 1)) hx hb dX2_levels_0 (by decide) ?_
  refine lv_istore_n (lv' := [(1, .int (nI 1)), (0, .int (nI N))]) hx hb dX2_levels_1 rfl hl (by decide) rfl (fun ls hl => ?_)
  refine lz_loop (σ := Nat) (μ := fun X_ => match X_ with | L => 16 - L) (Inv := fun X_ H locs ls => match X_ with | L => (1 ≤ L) ∧ (L ≤ 16) ∧ va_P (dC, dI) vwCl [] H ∧ va_D A [] ∧ va_S A s.heap H locs ∧ lv_has ls 2 [(0, .int (nI N)), (1, .int (nI L))]) ?_ 1 _ _ _ ?_
  · rintro L ihl H locs ls ⟨vl0, vl1, hP, hD, hS, hl⟩
    refine lv_iload_n hx hb dX2_levels_2 rfl (lv_at hl 1 rfl) ?_
    refine lv_bipush (v := (nI 16)) hx hb dX2_levels_3 (by decide) ?_
    refine lz_icmp_ge (tgt := 21) (by omega) (by omega) hx hb dX2_levels_5 (by decide) (fun c5 => ?_) (fun c5 => ?_)
    · refine lv_iload_n hx hb dX2_levels_21 rfl (lv_at hl 1 rfl) ?_
      have h16 : (2 : Nat) ^ 16 = 65536 := by decide
      have hfin : N ≤ 2 ^ L := by rw [show L = 16 by omega]; omega
      exact W.iret (v := (nI L)) hx hb hr (fun tS ht hW => ⟨⟨(nI L), (), rfl, ⟨L, rfl, vl0, vl1, hfin⟩, by rw [ht]; exact hP, va_K.moved hW.alike hK, hD⟩, hS.F ht⟩) hS.2.2 dX2_levels_22
    · refine lv_iconst (v := (nI 1)) hx hb dX2_levels_8 (by decide) ?_
      refine lv_iload_n hx hb dX2_levels_9 rfl (lv_at hl 1 rfl) ?_
      refine lv_ishl hx hb dX2_levels_10 ?_
      refine lz_top (y := (nI (2 ^ L))) (shl_nI L (by omega)) ?_
      have hpl : 2 ^ L ≤ 65536 := pw16 (by omega)
      refine lv_iload_n hx hb dX2_levels_11 rfl (lv_at hl 0 rfl) ?_
      refine lz_icmp_ge (tgt := 21) (by omega) (by omega) hx hb dX2_levels_12 (by decide) (fun c12 => ?_) (fun c12 => ?_)
      · refine lv_iload_n hx hb dX2_levels_21 rfl (lv_at hl 1 rfl) ?_
        have hfin : N ≤ 2 ^ L := c12
        exact W.iret (v := (nI L)) hx hb hr (fun tS ht hW => ⟨⟨(nI L), (), rfl, ⟨L, rfl, vl0, vl1, hfin⟩, by rw [ht]; exact hP, va_K.moved hW.alike hK, hD⟩, hS.F ht⟩) hS.2.2 dX2_levels_22
      · refine lv_iinc (v := (nI (L + 1))) (lv' := [(1, .int (nI (L + 1))), (0, .int (nI N))]) hx hb dX2_levels_15 hl (k := 1) rfl (by first | exact nI_add L 1 | (rw [← nI_add]; rfl)) (by decide) rfl (fun ls hl => ?_)
        refine lv_goto (tgt := 2) hx hb dX2_levels_18 (by decide) ?_
        exact ihl (L + 1) (by show 16 - (L + 1) < 16 - L; omega) _ _ _ ⟨by omega, by omega, hP, hD, hS, lv_sub hl [1, 0] rfl⟩
  · exact ⟨Nat.le_refl _, by decide, hP, hD, hS, lv_sub hl [1, 0] rfl⟩
set_option maxHeartbeats 4000000 in
set_option maxRecDepth 100000 in
theorem c_X2_check (l : Launch) (dC : Nat → ClassId) (dI : Nat → Nat → Nat) (sz : Nat) (h r k t : Nat) (cA cB : ClassId) (n : Nat) (cm wr lp lc lw : Int32) (K T : Nat → Int32) (hn : n ≤ 500) (hck : ckI lp lc lw) : Met l yX2_check wsX2_check ({ frames := 1, cells := 0, slots := 0, locals := 21 }) (va_Pc [.ref h] (fun U => U.heap.size = sz ∧ va_P (dC, dI) vwCl [(h, .inr (1, [.ref r, .int lp, .int lc, .int lw])), (r, .inr (0, [.ref k, .ref t, .int (nI n), .int cm, .int wr])), (k, .inl (cA, 500, .inl K)), (t, .inl (cB, 500, .inl T))] U.heap ∧ va_K (dC, dI) vwCl [(cA, .int), (cB, .int)] U ∧ va_D (fun _ => True) [(h, .inr (1, [.ref r, .int lp, .int lc, .int lw])), (r, .inr (0, [.ref k, .ref t, .int (nI n), .int cm, .int wr])), (k, .inl (cA, 500, .inl K)), (t, .inl (cB, 500, .inl T))])) (va_Qi (fun r u => r = 1 ∧ (u.2.2.1 = n ∧ mZ u.1 u.2.1 = mZ K T) ∧ okU u) (atX dC dI (va_A [(h, .inr (1, [.ref r, .int lp, .int lc, .int lw])), (r, .inr (0, [.ref k, .ref t, .int (nI n), .int cm, .int wr])), (k, .inl (cA, 500, .inl K)), (t, .inl (cB, 500, .inl T))] sz) h r k t cA cB) (va_A [(h, .inr (1, [.ref r, .int lp, .int lc, .int lw])), (r, .inr (0, [.ref k, .ref t, .int (nI n), .int cm, .int wr])), (k, .inl (cA, 500, .inl K)), (t, .inl (cB, 500, .inl T))] sz)) 0 0 (va_A [(h, .inr (1, [.ref r, .int lp, .int lc, .int lw])), (r, .inr (0, [.ref k, .ref t, .int (nI n), .int cm, .int wr])), (k, .inl (cA, 500, .inl K)), (t, .inl (cB, 500, .inl T))] sz) := by
  refine Met.ofW (cc := cX2_check) (maxL := 3) (ret := (some .int)) (by decide) rfl ?_
  intro p e s m args below meth c s₁ B hml hv
  obtain ⟨rfl, hsz, hP, hK, hD0⟩ := hv
  have hx := B.exec
  have hb := B.bytes
  have hr := B.returns
  have hts := atoms_spec (ws := wsX2_check) B.pre
  have hown : s.vm.findClass RX2 = some m.cls := findClass_of_methodNamed B.named
  have hlocks := B.notSynchronized
  subst hsz
  have hD := hD0.self (sz := s.heap.size)
  generalize hAe : va_A [(h, .inr (1, [.ref r, .int lp, .int lc, .int lw])), (r, .inr (0, [.ref k, .ref t, .int (nI n), .int cm, .int wr])), (k, .inl (cA, 500, .inl K)), (t, .inl (cB, 500, .inl T))] s.heap.size = A at hD ⊢
  have hA : ∀ q : Nat, s.heap.size ≤ q → A q := fun q h => by rw [← hAe]; exact Or.inr h
  have hS : va_S A s.heap s.heap [] := va_S.rf
  have hP : va_P (dC, dI) vwCl [(h, .inr (1, [.ref r, .int lp, .int lc, .int lw])), (r, .inr (0, [.ref k, .ref t, .int (nI n), .int cm, .int wr])), (k, .inl (cA, 500, .inl K)), (t, .inl (cB, 500, .inl T))] s.heap := hP
  have hl := lv_entry ([.ref h]) (n := 3) (Nat.le_of_ble_eq_true rfl)
  rw [lg_entry_eq]
  generalize (lg_sl ([.ref h]) ++ List.replicate (3 - (lg_sl ([.ref h])).length) Slot.unset).toArray = ls at hl ⊢
  have hl : lv_has ls 3 [(0, .ref h)] := hl
  obtain ⟨N, g, g2, rfl, hN, rfl, hg, hgb, rfl, hg2, hg2b⟩ := id hck
  refine lv_aload_n hx hb dX2_check_0 rfl (lv_at hl 0 rfl) ?_
  refine va_get (D := (dC, dI)) (ci := 1) (v := .int (nI N)) (C := RX2) (T := TX2) (N := 4) hx hb hts (by decide +kernel) hown hK hP 0 rfl rfl 1 (by decide) (hts (.fieldLink RX2 100 "RowPress" "latestPairs" "I") (by decide +kernel)) (fun _ h9 => h9) rfl dX2_check_1 ?_
  refine lv_aload_n hx hb dX2_check_4 rfl (lv_at hl 0 rfl) ?_
  refine va_get (D := (dC, dI)) (ci := 1) (v := .int (nI N)) (C := RX2) (T := TX2) (N := 4) hx hb hts (by decide +kernel) hown hK hP 0 rfl rfl 1 (by decide) (hts (.fieldLink RX2 100 "RowPress" "latestPairs" "I") (by decide +kernel)) (fun _ h9 => h9) rfl dX2_check_5 ?_
  have hPc := hP.sub (ws' := []) [] rfl
  have hDc := hD.sub (ws' := []) [] (by decide) rfl
  have hKc := hK.sub (tys' := []) [] rfl
  have hFc := va_free (wc := []) hD hS hA [] rfl
  refine va_calli (va_runS (As := [.int (nI N)]) (rest := [.int (nI N)]) ⟨hx, hb, hml, hown, hts⟩ (c_X2_levels l dC dI s.heap.size N hN) (va_cwS 1 hts gX2_check_X2_levels rfl rfl rfl (by decide +kernel) ⟨Nat.le_of_ble_eq_true rfl, Nat.le_of_ble_eq_true rfl⟩) ⟨fun a U g mk q => by obtain ⟨q0, q1, qP, qK, qD⟩ := q; exact ⟨q0, q1, qP, va_K.moved (u := U) (U := U.calling g mk a) (Vm.Alike.refl U.vm) qK, qD⟩, fun U hU hW => ⟨rfl, by rw [hU], by rw [hU]; exact hPc, va_K.moved hW.alike hKc, hDc.weaken (fun _ _ _ _ => trivial)⟩⟩ rfl rfl hl.1 rfl (lv_room (Nat.le_of_ble_eq_true rfl)) dX2_check_8 ⟨Nat.le_of_ble_eq_true rfl, Nat.le_of_ble_eq_true rfl⟩) hS (fun q _ h => hFc q h) hFc (fun r_1 u tS H1 locs ht hvm hw hB hz1 hk1 hS => ?_)
  obtain ⟨L, rfl, hL1, hL2, hL3⟩ := hw
  obtain ⟨hP1, hK1, hD1⟩ := hB
  rw [ht] at hP1
  obtain ⟨hP, hD⟩ := va_join (wr := [(h, .inr (1, [.ref r, .int (nI N), .int (nI g), .int (nI g2)])), (r, .inr (0, [.ref k, .ref t, .int (nI n), .int cm, .int wr])), (k, .inl (cA, 500, .inl K)), (t, .inl (cB, 500, .inl T))]) (w1 := []) hP hD [] [0, 1, 2, 3] rfl rfl (by decide) (by decide) hk1 hFc hP1 hD1
  generalize H1 = H at hP hS ⊢
  have hP : va_P (dC, dI) vwCl [(h, .inr (1, [.ref r, .int (nI N), .int (nI g), .int (nI g2)])), (r, .inr (0, [.ref k, .ref t, .int (nI n), .int cm, .int wr])), (k, .inl (cA, 500, .inl K)), (t, .inl (cB, 500, .inl T))] H := hP
  have hD : va_D A [(h, .inr (1, [.ref r, .int (nI N), .int (nI g), .int (nI g2)])), (r, .inr (0, [.ref k, .ref t, .int (nI n), .int cm, .int wr])), (k, .inl (cA, 500, .inl K)), (t, .inl (cB, 500, .inl T))] := hD
  have hnl : N * L ≤ 500 * 16 := Nat.mul_le_mul hN hL2
  have b8 := hg L hL1 hL3
  have b40 := hg2 L hL1 hL3
  rw [Nat.mul_assoc] at b8 b40
  refine lv_imul hx hb dX2_check_11 ?_
  refine lz_top (y := (nI (N * L))) (pk_mul _ _) ?_
  refine lv_istore_n (lv' := [(1, .int (nI (N * L))), (0, .ref h)]) hx hb dX2_check_12 rfl hl (by decide) rfl (fun ls hl => ?_)
  refine lv_aload_n hx hb dX2_check_13 rfl (lv_at hl 1 rfl) ?_
  refine va_get (D := (dC, dI)) (ci := 1) (v := .int (nI g)) (C := RX2) (T := TX2) (N := 4) hx hb hts (by decide +kernel) hown hK hP 0 rfl rfl 2 (by decide) (hts (.fieldLink RX2 107 "RowPress" "latestCompares" "I") (by decide +kernel)) (fun _ h9 => h9) rfl dX2_check_14 ?_
  refine lv_bipush (v := (nI 8)) hx hb dX2_check_17 (by decide) ?_
  refine lv_iload_n hx hb dX2_check_19 rfl (lv_at hl 0 rfl) ?_
  refine lv_imul hx hb dX2_check_20 ?_
  refine lz_top (y := (nI (8 * (N * L)))) (pk_mul _ _) ?_
  refine lz_icmp_gt (tgt := 39) (by omega) (by omega) hx hb dX2_check_21 (by decide) (fun c21 => ?_) (fun c21 => ?_)
  · exfalso; omega
  · refine lv_aload_n hx hb dX2_check_24 rfl (lv_at hl 1 rfl) ?_
    refine va_get (D := (dC, dI)) (ci := 1) (v := .int (nI g2)) (C := RX2) (T := TX2) (N := 4) hx hb hts (by decide +kernel) hown hK hP 0 rfl rfl 3 (by decide) (hts (.fieldLink RX2 110 "RowPress" "latestWrites" "I") (by decide +kernel)) (fun _ h9 => h9) rfl dX2_check_25 ?_
    refine lv_bipush (v := (nI 40)) hx hb dX2_check_28 (by decide) ?_
    refine lv_iload_n hx hb dX2_check_30 rfl (lv_at hl 0 rfl) ?_
    refine lv_imul hx hb dX2_check_31 ?_
    refine lz_top (y := (nI (40 * (N * L)))) (pk_mul _ _) ?_
    refine lz_icmp_gt (tgt := 39) (by omega) (by omega) hx hb dX2_check_32 (by decide) (fun c32 => ?_) (fun c32 => ?_)
    · exfalso; omega
    · refine lv_iconst (v := (nI 1)) hx hb dX2_check_35 (by decide) ?_
      refine lv_goto (tgt := 40) hx hb dX2_check_36 (by decide) ?_
      refine lv_istore_n (lv' := [(2, .int (nI 1)), (1, .int (nI (N * L))), (0, .ref h)]) hx hb dX2_check_40 rfl hl (by decide) rfl (fun ls hl => ?_)
      refine lv_iload_n hx hb dX2_check_41 rfl (lv_at hl 0 rfl) ?_
      refine lz_if_eq (tgt := 49) (by omega) hx hb dX2_check_42 (by decide) (fun c42 => ?_) (fun c42 => ?_)
      · exact absurd c42 (by decide)
      · refine lv_iconst (v := (nI 1)) hx hb dX2_check_45 (by decide) ?_
        refine lv_goto (tgt := 50) hx hb dX2_check_46 (by decide) ?_
        exact W.iret (v := (nI 1)) hx hb hr (fun tS ht hW => ⟨⟨(nI 1), (K, T, n, cm, wr, (nI N), (nI g), (nI g2)), rfl, ⟨rfl, ⟨rfl, rfl⟩, ⟨hn, hck⟩⟩, by rw [ht]; exact hP, va_K.moved hW.alike hK, hD⟩, hS.F ht⟩) hS.2.2 dX2_check_50
