set_option maxHeartbeats 4000000 in
set_option maxRecDepth 100000 in
theorem c_X2_put (l : Launch) (dC : Nat → ClassId) (dI : Nat → Nat → Nat) (sz : Nat) (h r k t : Nat) (cA cB : ClassId) (n : Nat) (cm wr lp lc lw : Int32) (K T : Nat → Int32) (hn : n ≤ 500) (hck : ckI lp lc lw) (x y : Int32) : Met l yX2_put wsX2_put ({ frames := 1, cells := 0, slots := 0, locals := 22 }) (va_Pc [.ref h, .int x, .int y] (fun U => U.heap.size = sz ∧ va_P (dC, dI) vwCl [(h, .inr (1, [.ref r, .int lp, .int lc, .int lw])), (r, .inr (0, [.ref k, .ref t, .int (nI n), .int cm, .int wr])), (k, .inl (cA, 500, .inl K)), (t, .inl (cB, 500, .inl T))] U.heap ∧ va_K (dC, dI) vwCl [(cA, .int), (cB, .int)] U ∧ va_D (fun _ => True) [(h, .inr (1, [.ref r, .int lp, .int lc, .int lw])), (r, .inr (0, [.ref k, .ref t, .int (nI n), .int cm, .int wr])), (k, .inl (cA, 500, .inl K)), (t, .inl (cB, 500, .inl T))])) (va_Qi (fun r u => Qput n (mZ K T) x y r u.2.2.1 (mZ u.1 u.2.1) ∧ okU u) (atX dC dI (va_A [(h, .inr (1, [.ref r, .int lp, .int lc, .int lw])), (r, .inr (0, [.ref k, .ref t, .int (nI n), .int cm, .int wr])), (k, .inl (cA, 500, .inl K)), (t, .inl (cB, 500, .inl T))] sz) h r k t cA cB) (va_A [(h, .inr (1, [.ref r, .int lp, .int lc, .int lw])), (r, .inr (0, [.ref k, .ref t, .int (nI n), .int cm, .int wr])), (k, .inl (cA, 500, .inl K)), (t, .inl (cB, 500, .inl T))] sz)) 0 0 (va_A [(h, .inr (1, [.ref r, .int lp, .int lc, .int lw])), (r, .inr (0, [.ref k, .ref t, .int (nI n), .int cm, .int wr])), (k, .inl (cA, 500, .inl K)), (t, .inl (cB, 500, .inl T))] sz) := by
  refine Met.ofW (cc := cX2_put) (maxL := 3) (ret := (some .int)) (by decide) rfl ?_
  intro p e s m args below meth c s₁ B hml hv
  obtain ⟨rfl, hsz, hP, hK, hD0⟩ := hv
  have hx := B.exec
  have hb := B.bytes
  have hr := B.returns
  have hts := atoms_spec (ws := wsX2_put) B.pre
  have hown : s.vm.findClass RX2 = some m.cls := findClass_of_methodNamed B.named
  have hlocks := B.notSynchronized
  subst hsz
  have hD := hD0.self (sz := s.heap.size)
  generalize hAe : va_A [(h, .inr (1, [.ref r, .int lp, .int lc, .int lw])), (r, .inr (0, [.ref k, .ref t, .int (nI n), .int cm, .int wr])), (k, .inl (cA, 500, .inl K)), (t, .inl (cB, 500, .inl T))] s.heap.size = A at hD ⊢
  have hA : ∀ q : Nat, s.heap.size ≤ q → A q := fun q h => by rw [← hAe]; exact Or.inr h
  have hS : va_S A s.heap s.heap [] := va_S.rf
  have hP : va_P (dC, dI) vwCl [(h, .inr (1, [.ref r, .int lp, .int lc, .int lw])), (r, .inr (0, [.ref k, .ref t, .int (nI n), .int cm, .int wr])), (k, .inl (cA, 500, .inl K)), (t, .inl (cB, 500, .inl T))] s.heap := hP
  have hl := lv_entry ([.ref h, .int x, .int y]) (n := 3) (Nat.le_of_ble_eq_true rfl)
  rw [lg_entry_eq]
  generalize (lg_sl ([.ref h, .int x, .int y]) ++ List.replicate (3 - (lg_sl ([.ref h, .int x, .int y])).length) Slot.unset).toArray = ls at hl ⊢
  have hl : lv_has ls 3 [(0, .ref h), (1, .int x), (2, .int y)] := hl
  refine lv_aload_n hx hb dX2_put_0 rfl (lv_at hl 0 rfl) ?_
  refine va_get (D := (dC, dI)) (ci := 1) (v := .ref r) (C := RX2) (T := TX2) (N := 4) hx hb hts (by decide +kernel) hown hK hP 0 rfl rfl 0 (by decide) (hts (.fieldLink RX2 10 "RowPress" "row" "LRowPress$Row;") (by decide +kernel)) (fun _ h9 => h9) rfl dX2_put_1 ?_
  refine lv_iconst (v := (nI 1)) hx hb dX2_put_4 (by decide) ?_
  have hPc := hP.sub (ws' := [(r, .inr (0, [.ref k, .ref t, .int (nI n), .int cm, .int wr])), (k, .inl (cA, 500, .inl K)), (t, .inl (cB, 500, .inl T))]) [1, 2, 3] rfl
  have hDc := hD.sub (ws' := [(r, .inr (0, [.ref k, .ref t, .int (nI n), .int cm, .int wr])), (k, .inl (cA, 500, .inl K)), (t, .inl (cB, 500, .inl T))]) [1, 2, 3] (by decide) rfl
  have hKc := hK.sub (tys' := [(cA, .int), (cB, .int)]) [0, 1] rfl
  have hFc := va_free (wc := [(r, .inr (0, [.ref k, .ref t, .int (nI n), .int cm, .int wr])), (k, .inl (cA, 500, .inl K)), (t, .inl (cB, 500, .inl T))]) hD hS hA [1, 2, 3] rfl
  refine va_calli (va_runV (As := [.int (nI 1)]) (rest := []) ⟨hx, hb, hml, hown, hts⟩ (c_X1_hasRoomFor l dC dI s.heap.size r k t cA cB n cm wr K T hn (nI 1)) (cwV 1 hts gX2_put_X1_hasRoomFor rfl rfl rfl (by decide +kernel) ⟨Nat.le_of_ble_eq_true rfl, Nat.le_of_ble_eq_true rfl⟩) ⟨fun a U g mk q => by obtain ⟨q0, q1, qP, qK, qD⟩ := q; exact ⟨q0, q1, qP, va_K.moved (u := U) (U := U.calling g mk a) (Vm.Alike.refl U.vm) qK, qD⟩, va_recv hKc hPc (ci := 0) (q0 := 0) rfl rfl, fun U hU hW => ⟨rfl, by rw [hU], by rw [hU]; exact hPc, va_K.moved hW.alike hKc, hDc.weaken (fun _ _ _ _ => trivial)⟩⟩ rfl rfl hl.1 rfl (lv_room (Nat.le_of_ble_eq_true rfl)) dX2_put_5 ⟨Nat.le_of_ble_eq_true rfl, Nat.le_of_ble_eq_true rfl⟩) hS (fun q _ h => hFc q h) hFc (fun r_1 u tS H1 locs ht hvm hw hB hz1 hk1 hS => ?_)
  obtain ⟨hq, rfl⟩ := hw
  obtain ⟨hP1, hK1, hD1⟩ := hB
  rw [ht] at hP1
  obtain ⟨hP, hD⟩ := va_join (wr := [(h, .inr (1, [.ref r, .int lp, .int lc, .int lw]))]) (w1 := [(r, .inr (0, [.ref k, .ref t, .int (nI n), .int cm, .int wr])), (k, .inl (cA, 500, .inl K)), (t, .inl (cB, 500, .inl T))]) hP hD [1, 2, 3] [0] rfl rfl (by decide) (by decide) hk1 hFc hP1 hD1
  generalize H1 = H at hP hS ⊢
  have hP : va_P (dC, dI) vwCl [(h, .inr (1, [.ref r, .int lp, .int lc, .int lw])), (r, .inr (0, [.ref k, .ref t, .int (nI n), .int cm, .int wr])), (k, .inl (cA, 500, .inl K)), (t, .inl (cB, 500, .inl T))] H := hP
  have hD : va_D A [(h, .inr (1, [.ref r, .int lp, .int lc, .int lw])), (r, .inr (0, [.ref k, .ref t, .int (nI n), .int cm, .int wr])), (k, .inl (cA, 500, .inl K)), (t, .inl (cB, 500, .inl T))] := hD
  refine lv_if_ne (tgt := 13) hx hb dX2_put_8 (by decide) (fun c8 => ?_) (fun c8 => ?_)
  · have hlt : n < 500 := rm_1 hn (tr_1 hq c8)
    refine lv_aload_n hx hb dX2_put_13 rfl (lv_at hl 0 rfl) ?_
    refine va_get (D := (dC, dI)) (ci := 1) (v := .ref r) (C := RX2) (T := TX2) (N := 4) hx hb hts (by decide +kernel) hown hK hP 0 rfl rfl 0 (by decide) (hts (.fieldLink RX2 10 "RowPress" "row" "LRowPress$Row;") (by decide +kernel)) (fun _ h9 => h9) rfl dX2_put_14 ?_
    refine lv_iload_n hx hb dX2_put_17 rfl (lv_at hl 1 rfl) ?_
    refine lv_iload_n hx hb dX2_put_18 rfl (lv_at hl 2 rfl) ?_
    have hPc := hP.sub (ws' := [(r, .inr (0, [.ref k, .ref t, .int (nI n), .int cm, .int wr])), (k, .inl (cA, 500, .inl K)), (t, .inl (cB, 500, .inl T))]) [1, 2, 3] rfl
    have hDc := hD.sub (ws' := [(r, .inr (0, [.ref k, .ref t, .int (nI n), .int cm, .int wr])), (k, .inl (cA, 500, .inl K)), (t, .inl (cB, 500, .inl T))]) [1, 2, 3] (by decide) rfl
    have hKc := hK.sub (tys' := [(cA, .int), (cB, .int)]) [0, 1] rfl
    have hFc := va_free (wc := [(r, .inr (0, [.ref k, .ref t, .int (nI n), .int cm, .int wr])), (k, .inl (cA, 500, .inl K)), (t, .inl (cB, 500, .inl T))]) hD hS hA [1, 2, 3] rfl
    refine va_callv (va_runV (As := [.int x, .int y]) (rest := []) ⟨hx, hb, hml, hown, hts⟩ (c_X1_append l dC dI H.size r k t cA cB n cm wr K T hlt x y) (cwV 2 hts gX2_put_X1_append rfl rfl rfl (by decide +kernel) ⟨Nat.le_of_ble_eq_true rfl, Nat.le_of_ble_eq_true rfl⟩) ⟨fun a U g mk q => by obtain ⟨q0, q1, qP, qK, qD⟩ := q; exact ⟨q0, q1, qP, va_K.moved (u := U) (U := U.calling g mk a) (Vm.Alike.refl U.vm) qK, qD⟩, va_recv hKc hPc (ci := 0) (q0 := 0) rfl rfl, fun U hU hW => ⟨rfl, by rw [hU], by rw [hU]; exact hPc, va_K.moved hW.alike hKc, hDc.weaken (fun _ _ _ _ => trivial)⟩⟩ rfl rfl hl.1 rfl (lv_room (Nat.le_of_ble_eq_true rfl)) dX2_put_19 ⟨Nat.le_of_ble_eq_true rfl, Nat.le_of_ble_eq_true rfl⟩) hS (fun q _ h => hFc q h) hFc (fun u tS H1 locs ht hvm hw hB hz1 hk1 hS => ?_)
    subst hw
    obtain ⟨hP1, hK1, hD1⟩ := hB
    rw [ht] at hP1
    obtain ⟨hP, hD⟩ := va_join (wr := [(h, .inr (1, [.ref r, .int lp, .int lc, .int lw]))]) (w1 := [(r, .inr (0, [.ref k, .ref t, .int (nI (n + 1)), .int cm, .int wr])), (k, .inl (cA, 500, .inl (upd K n x))), (t, .inl (cB, 500, .inl (upd T n y)))]) hP hD [1, 2, 3] [0] rfl rfl (by decide) (by decide) hk1 hFc hP1 hD1
    generalize H1 = H at hP hS ⊢
    have hP : va_P (dC, dI) vwCl [(h, .inr (1, [.ref r, .int lp, .int lc, .int lw])), (r, .inr (0, [.ref k, .ref t, .int (nI (n + 1)), .int cm, .int wr])), (k, .inl (cA, 500, .inl (upd K n x))), (t, .inl (cB, 500, .inl (upd T n y)))] H := hP
    have hD : va_D A [(h, .inr (1, [.ref r, .int lp, .int lc, .int lw])), (r, .inr (0, [.ref k, .ref t, .int (nI (n + 1)), .int cm, .int wr])), (k, .inl (cA, 500, .inl (upd K n x))), (t, .inl (cB, 500, .inl (upd T n y)))] := hD
    refine lv_aload_n hx hb dX2_put_22 rfl (lv_at hl 0 rfl) ?_
    refine va_get (D := (dC, dI)) (ci := 1) (v := .ref r) (C := RX2) (T := TX2) (N := 4) hx hb hts (by decide +kernel) hown hK hP 0 rfl rfl 0 (by decide) (hts (.fieldLink RX2 10 "RowPress" "row" "LRowPress$Row;") (by decide +kernel)) (fun _ h9 => h9) rfl dX2_put_23 ?_
    refine va_get (D := (dC, dI)) (ci := 0) (v := .int (nI (n + 1))) (C := RX1) (T := TX1) (N := 5) hx hb hts (by decide +kernel) hown hK hP 1 rfl rfl 2 (by decide) (hts (.fieldLink RX2 24 "RowPress$Row" "size" "I") (by decide +kernel)) (fun _ h9 => h9) rfl dX2_put_26 ?_
    exact W.iret (v := (nI (n + 1))) hx hb hr (fun tS ht hW => ⟨⟨(nI (n + 1)), (upd K n x, upd T n y, n + 1, cm, wr, lp, lc, lw), rfl, ⟨Or.inr ⟨hlt, rfl, rfl, by rw [mZ_put, if_pos rfl], fun j z => by rw [mZ_put, if_neg (by omega)]⟩, ⟨hlt, hck⟩⟩, by rw [ht]; exact hP, va_K.moved hW.alike hK, hD⟩, hS.F ht⟩) hS.2.2 dX2_put_29
  · refine lv_iconst (v := (-1)) hx hb dX2_put_11 (by decide) ?_
    exact W.iret (v := (-1)) hx hb hr (fun tS ht hW => ⟨⟨(-1), (K, T, n, cm, wr, lp, lc, lw), rfl, ⟨Or.inl ⟨rm_0 hn (tr_0 hq c8), rfl, sam_rf⟩, ⟨hn, hck⟩⟩, by rw [ht]; exact hP, va_K.moved hW.alike hK, hD⟩, hS.F ht⟩) hS.2.2 dX2_put_12
set_option maxHeartbeats 4000000 in
set_option maxRecDepth 100000 in
theorem c_X2_run (l : Launch) (dC : Nat → ClassId) (dI : Nat → Nat → Nat) (sz : Nat) (h r k t : Nat) (cA cB : ClassId) (n : Nat) (cm wr lp lc lw : Int32) (K T : Nat → Int32) (hn : n ≤ 500) (hck : ckI lp lc lw) (x y v w : Int32) : Met l yX2_run wsX2_run ({ frames := 1, cells := 0, slots := 0, locals := 22 }) (va_Pc [.ref h, .int x, .int y, .int v, .int w] (fun U => U.heap.size = sz ∧ va_P (dC, dI) vwCl [(h, .inr (1, [.ref r, .int lp, .int lc, .int lw])), (r, .inr (0, [.ref k, .ref t, .int (nI n), .int cm, .int wr])), (k, .inl (cA, 500, .inl K)), (t, .inl (cB, 500, .inl T))] U.heap ∧ va_K (dC, dI) vwCl [(cA, .int), (cB, .int)] U ∧ va_D (fun _ => True) [(h, .inr (1, [.ref r, .int lp, .int lc, .int lw])), (r, .inr (0, [.ref k, .ref t, .int (nI n), .int cm, .int wr])), (k, .inl (cA, 500, .inl K)), (t, .inl (cB, 500, .inl T))])) (va_Qi (fun r u => Qrun n (mZ K T) x y v w r u.2.2.1 (mZ u.1 u.2.1) ∧ okU u) (atX dC dI (va_A [(h, .inr (1, [.ref r, .int lp, .int lc, .int lw])), (r, .inr (0, [.ref k, .ref t, .int (nI n), .int cm, .int wr])), (k, .inl (cA, 500, .inl K)), (t, .inl (cB, 500, .inl T))] sz) h r k t cA cB) (va_A [(h, .inr (1, [.ref r, .int lp, .int lc, .int lw])), (r, .inr (0, [.ref k, .ref t, .int (nI n), .int cm, .int wr])), (k, .inl (cA, 500, .inl K)), (t, .inl (cB, 500, .inl T))] sz)) 0 0 (va_A [(h, .inr (1, [.ref r, .int lp, .int lc, .int lw])), (r, .inr (0, [.ref k, .ref t, .int (nI n), .int cm, .int wr])), (k, .inl (cA, 500, .inl K)), (t, .inl (cB, 500, .inl T))] sz) := by
  refine Met.ofW (cc := cX2_run) (maxL := 6) (ret := (some .int)) (by decide) rfl ?_
  intro p e s m args below meth c s₁ B hml hv
  obtain ⟨rfl, hsz, hP, hK, hD0⟩ := hv
  have hx := B.exec
  have hb := B.bytes
  have hr := B.returns
  have hts := atoms_spec (ws := wsX2_run) B.pre
  have hown : s.vm.findClass RX2 = some m.cls := findClass_of_methodNamed B.named
  have hlocks := B.notSynchronized
  subst hsz
  have hD := hD0.self (sz := s.heap.size)
  generalize hAe : va_A [(h, .inr (1, [.ref r, .int lp, .int lc, .int lw])), (r, .inr (0, [.ref k, .ref t, .int (nI n), .int cm, .int wr])), (k, .inl (cA, 500, .inl K)), (t, .inl (cB, 500, .inl T))] s.heap.size = A at hD ⊢
  have hA : ∀ q : Nat, s.heap.size ≤ q → A q := fun q h => by rw [← hAe]; exact Or.inr h
  have hS : va_S A s.heap s.heap [] := va_S.rf
  have hP : va_P (dC, dI) vwCl [(h, .inr (1, [.ref r, .int lp, .int lc, .int lw])), (r, .inr (0, [.ref k, .ref t, .int (nI n), .int cm, .int wr])), (k, .inl (cA, 500, .inl K)), (t, .inl (cB, 500, .inl T))] s.heap := hP
  have hl := lv_entry ([.ref h, .int x, .int y, .int v, .int w]) (n := 6) (Nat.le_of_ble_eq_true rfl)
  rw [lg_entry_eq]
  generalize (lg_sl ([.ref h, .int x, .int y, .int v, .int w]) ++ List.replicate (6 - (lg_sl ([.ref h, .int x, .int y, .int v, .int w])).length) Slot.unset).toArray = ls at hl ⊢
  have hl : lv_has ls 6 [(0, .ref h), (1, .int x), (2, .int y), (3, .int v), (4, .int w)] := hl
  refine lv_iload_n hx hb dX2_run_0 rfl (lv_at hl 1 rfl) ?_
  refine lv_iconst (v := (nI 1)) hx hb dX2_run_1 (by decide) ?_
  refine lv_icmp_lt (tgt := 16) hx hb dX2_run_2 (by decide) (fun c2 => ?_) (fun c2 => ?_)
  · refine lv_iconst (v := (-1)) hx hb dX2_run_16 (by decide) ?_
    exact W.iret (v := (-1)) hx hb hr (fun tS ht hW => ⟨⟨(-1), (K, T, n, cm, wr, lp, lc, lw), rfl, ⟨Or.inl ⟨⟨rfl, sam_rf⟩, fun z hz => (dN_e hz).1 c2⟩, ⟨hn, hck⟩⟩, by rw [ht]; exact hP, va_K.moved hW.alike hK, hD⟩, hS.F ht⟩) hS.2.2 dX2_run_17
  · refine lv_aload_n hx hb dX2_run_5 rfl (lv_at hl 0 rfl) ?_
    refine va_get (D := (dC, dI)) (ci := 1) (v := .ref r) (C := RX2) (T := TX2) (N := 4) hx hb hts (by decide +kernel) hown hK hP 0 rfl rfl 0 (by decide) (hts (.fieldLink RX2 10 "RowPress" "row" "LRowPress$Row;") (by decide +kernel)) (fun _ h9 => h9) rfl dX2_run_6 ?_
    refine lv_iload_n hx hb dX2_run_9 rfl (lv_at hl 1 rfl) ?_
    have hPc := hP.sub (ws' := [(r, .inr (0, [.ref k, .ref t, .int (nI n), .int cm, .int wr])), (k, .inl (cA, 500, .inl K)), (t, .inl (cB, 500, .inl T))]) [1, 2, 3] rfl
    have hDc := hD.sub (ws' := [(r, .inr (0, [.ref k, .ref t, .int (nI n), .int cm, .int wr])), (k, .inl (cA, 500, .inl K)), (t, .inl (cB, 500, .inl T))]) [1, 2, 3] (by decide) rfl
    have hKc := hK.sub (tys' := [(cA, .int), (cB, .int)]) [0, 1] rfl
    have hFc := va_free (wc := [(r, .inr (0, [.ref k, .ref t, .int (nI n), .int cm, .int wr])), (k, .inl (cA, 500, .inl K)), (t, .inl (cB, 500, .inl T))]) hD hS hA [1, 2, 3] rfl
    refine va_calli (va_runV (As := [.int x]) (rest := []) ⟨hx, hb, hml, hown, hts⟩ (c_X1_hasRoomFor l dC dI s.heap.size r k t cA cB n cm wr K T hn x) (cwV 1 hts gX2_run_X1_hasRoomFor rfl rfl rfl (by decide +kernel) ⟨Nat.le_of_ble_eq_true rfl, Nat.le_of_ble_eq_true rfl⟩) ⟨fun a U g mk q => by obtain ⟨q0, q1, qP, qK, qD⟩ := q; exact ⟨q0, q1, qP, va_K.moved (u := U) (U := U.calling g mk a) (Vm.Alike.refl U.vm) qK, qD⟩, va_recv hKc hPc (ci := 0) (q0 := 0) rfl rfl, fun U hU hW => ⟨rfl, by rw [hU], by rw [hU]; exact hPc, va_K.moved hW.alike hKc, hDc.weaken (fun _ _ _ _ => trivial)⟩⟩ rfl rfl hl.1 rfl (lv_room (Nat.le_of_ble_eq_true rfl)) dX2_run_10 ⟨Nat.le_of_ble_eq_true rfl, Nat.le_of_ble_eq_true rfl⟩) hS (fun q _ h => hFc q h) hFc (fun r_1 u tS H1 locs ht hvm hw hB hz1 hk1 hS => ?_)
    obtain ⟨hq, rfl⟩ := hw
    obtain ⟨hP1, hK1, hD1⟩ := hB
    rw [ht] at hP1
    obtain ⟨hP, hD⟩ := va_join (wr := [(h, .inr (1, [.ref r, .int lp, .int lc, .int lw]))]) (w1 := [(r, .inr (0, [.ref k, .ref t, .int (nI n), .int cm, .int wr])), (k, .inl (cA, 500, .inl K)), (t, .inl (cB, 500, .inl T))]) hP hD [1, 2, 3] [0] rfl rfl (by decide) (by decide) hk1 hFc hP1 hD1
    generalize H1 = H at hP hS ⊢
    have hP : va_P (dC, dI) vwCl [(h, .inr (1, [.ref r, .int lp, .int lc, .int lw])), (r, .inr (0, [.ref k, .ref t, .int (nI n), .int cm, .int wr])), (k, .inl (cA, 500, .inl K)), (t, .inl (cB, 500, .inl T))] H := hP
    have hD : va_D A [(h, .inr (1, [.ref r, .int lp, .int lc, .int lw])), (r, .inr (0, [.ref k, .ref t, .int (nI n), .int cm, .int wr])), (k, .inl (cA, 500, .inl K)), (t, .inl (cB, 500, .inl T))] := hD
    refine lv_if_ne (tgt := 18) hx hb dX2_run_13 (by decide) (fun c13 => ?_) (fun c13 => ?_)
    · obtain ⟨z, hz⟩ := dN_of hn c2 (tr_1 hq c13)
      obtain ⟨rfl, hz1, hz2⟩ := hz
      refine lv_iconst (v := (nI 0)) hx hb dX2_run_18 (by decide) ?_
      refine lv_istore (lv' := [(5, .int (nI 0)), (0, .ref h), (1, .int (nI z)), (2, .int y), (3, .int v), (4, .int w)]) hx hb dX2_run_19 hl (by decide) rfl (fun ls hl => ?_)
      refine lz_loop (σ := Nat × (Nat → Int32) × (Nat → Int32) × Nat) (μ := fun X_ => match X_ with | (q, K1, T1, n1) => z - q) (Inv := fun X_ H locs ls => match X_ with | (q, K1, T1, n1) => (q ≤ z) ∧ (n1 = n + q) ∧ (rnI K T K1 T1 n q y v w) ∧ va_P (dC, dI) vwCl [(h, .inr (1, [.ref r, .int lp, .int lc, .int lw])), (r, .inr (0, [.ref k, .ref t, .int (nI n1), .int cm, .int wr])), (k, .inl (cA, 500, .inl K1)), (t, .inl (cB, 500, .inl T1))] H ∧ va_D A [(h, .inr (1, [.ref r, .int lp, .int lc, .int lw])), (r, .inr (0, [.ref k, .ref t, .int (nI n1), .int cm, .int wr])), (k, .inl (cA, 500, .inl K1)), (t, .inl (cB, 500, .inl T1))] ∧ va_S A s.heap H locs ∧ lv_has ls 6 [(0, .ref h), (1, .int (nI z)), (2, .int y), (3, .int v), (4, .int w), (5, .int (nI q))]) ?_ (0, K, T, n) _ _ _ ?_
      · rintro ⟨q, K1, T1, n1⟩ ihk H locs ls ⟨vk0, vk1, vk2, hP, hD, hS, hl⟩
        refine lv_iload hx hb dX2_run_21 (lv_at hl 5 rfl) ?_
        refine lv_iload_n hx hb dX2_run_23 rfl (lv_at hl 1 rfl) ?_
        refine lz_icmp_ge (tgt := 51) (by omega) (by omega) hx hb dX2_run_24 (by decide) (fun c24 => ?_) (fun c24 => ?_)
        · refine lv_aload_n hx hb dX2_run_51 rfl (lv_at hl 0 rfl) ?_
          refine va_get (D := (dC, dI)) (ci := 1) (v := .ref r) (C := RX2) (T := TX2) (N := 4) hx hb hts (by decide +kernel) hown hK hP 0 rfl rfl 0 (by decide) (hts (.fieldLink RX2 10 "RowPress" "row" "LRowPress$Row;") (by decide +kernel)) (fun _ h9 => h9) rfl dX2_run_52 ?_
          refine va_get (D := (dC, dI)) (ci := 0) (v := .int (nI n1)) (C := RX1) (T := TX1) (N := 5) hx hb hts (by decide +kernel) hown hK hP 1 rfl rfl 2 (by decide) (hts (.fieldLink RX2 24 "RowPress$Row" "size" "I") (by decide +kernel)) (fun _ h9 => h9) rfl dX2_run_55 ?_
          exact W.iret (v := (nI n1)) hx hb hr (fun tS ht hW => ⟨⟨(nI n1), (K1, T1, n1, cm, wr, lp, lc, lw), rfl, ⟨Or.inr ⟨z, ⟨rfl, hz1, hz2⟩, by rw [vk1, show q = z by omega], by show n1 = n + z; omega, vk2.1, fun i hi => vk2.2 i (by omega)⟩, ⟨by show n1 ≤ 500; omega, hck⟩⟩, by rw [ht]; exact hP, va_K.moved hW.alike hK, hD⟩, hS.F ht⟩) hS.2.2 dX2_run_58
        · refine lv_aload_n hx hb dX2_run_27 rfl (lv_at hl 0 rfl) ?_
          refine va_get (D := (dC, dI)) (ci := 1) (v := .ref r) (C := RX2) (T := TX2) (N := 4) hx hb hts (by decide +kernel) hown hK hP 0 rfl rfl 0 (by decide) (hts (.fieldLink RX2 10 "RowPress" "row" "LRowPress$Row;") (by decide +kernel)) (fun _ h9 => h9) rfl dX2_run_28 ?_
          refine lv_iload_n hx hb dX2_run_31 rfl (lv_at hl 2 rfl) ?_
          refine lv_iload hx hb dX2_run_32 (lv_at hl 5 rfl) ?_
          refine lv_iload_n hx hb dX2_run_34 rfl (lv_at hl 3 rfl) ?_
          refine lv_imul hx hb dX2_run_35 ?_
          refine lv_iadd hx hb dX2_run_36 ?_
          refine lv_iload hx hb dX2_run_37 (lv_at hl 4 rfl) ?_
          refine lv_iload hx hb dX2_run_39 (lv_at hl 5 rfl) ?_
          refine lv_iadd hx hb dX2_run_41 ?_
          have hPc := hP.sub (ws' := [(r, .inr (0, [.ref k, .ref t, .int (nI n1), .int cm, .int wr])), (k, .inl (cA, 500, .inl K1)), (t, .inl (cB, 500, .inl T1))]) [1, 2, 3] rfl
          have hDc := hD.sub (ws' := [(r, .inr (0, [.ref k, .ref t, .int (nI n1), .int cm, .int wr])), (k, .inl (cA, 500, .inl K1)), (t, .inl (cB, 500, .inl T1))]) [1, 2, 3] (by decide) rfl
          have hKc := hK.sub (tys' := [(cA, .int), (cB, .int)]) [0, 1] rfl
          have hFc := va_free (wc := [(r, .inr (0, [.ref k, .ref t, .int (nI n1), .int cm, .int wr])), (k, .inl (cA, 500, .inl K1)), (t, .inl (cB, 500, .inl T1))]) hD hS hA [1, 2, 3] rfl
          refine va_callv (va_runV (As := [.int (y + ((nI q) * v)), .int (w + (nI q))]) (rest := []) ⟨hx, hb, hml, hown, hts⟩ (c_X1_append l dC dI H.size r k t cA cB n1 cm wr K1 T1 (by omega) (y + (nI q) * v) (w + (nI q))) (cwV 2 hts gX2_run_X1_append rfl rfl rfl (by decide +kernel) ⟨Nat.le_of_ble_eq_true rfl, Nat.le_of_ble_eq_true rfl⟩) ⟨fun a U g mk q => by obtain ⟨q0, q1, qP, qK, qD⟩ := q; exact ⟨q0, q1, qP, va_K.moved (u := U) (U := U.calling g mk a) (Vm.Alike.refl U.vm) qK, qD⟩, va_recv hKc hPc (ci := 0) (q0 := 0) rfl rfl, fun U hU hW => ⟨rfl, by rw [hU], by rw [hU]; exact hPc, va_K.moved hW.alike hKc, hDc.weaken (fun _ _ _ _ => trivial)⟩⟩ rfl rfl hl.1 rfl (lv_room (Nat.le_of_ble_eq_true rfl)) dX2_run_42 ⟨Nat.le_of_ble_eq_true rfl, Nat.le_of_ble_eq_true rfl⟩) hS (fun q _ h => hFc q h) hFc (fun u tS H1 locs ht hvm hw hB hz1 hk1 hS => ?_)
          subst hw
          obtain ⟨hP1, hK1, hD1⟩ := hB
          rw [ht] at hP1
          obtain ⟨hP, hD⟩ := va_join (wr := [(h, .inr (1, [.ref r, .int lp, .int lc, .int lw]))]) (w1 := [(r, .inr (0, [.ref k, .ref t, .int (nI (n1 + 1)), .int cm, .int wr])), (k, .inl (cA, 500, .inl (upd K1 n1 (y + (nI q) * v)))), (t, .inl (cB, 500, .inl (upd T1 n1 (w + (nI q)))))]) hP hD [1, 2, 3] [0] rfl rfl (by decide) (by decide) hk1 hFc hP1 hD1
          generalize H1 = H at hP hS ⊢
          have hP : va_P (dC, dI) vwCl [(h, .inr (1, [.ref r, .int lp, .int lc, .int lw])), (r, .inr (0, [.ref k, .ref t, .int (nI (n1 + 1)), .int cm, .int wr])), (k, .inl (cA, 500, .inl (upd K1 n1 (y + (nI q) * v)))), (t, .inl (cB, 500, .inl (upd T1 n1 (w + (nI q)))))] H := hP
          have hD : va_D A [(h, .inr (1, [.ref r, .int lp, .int lc, .int lw])), (r, .inr (0, [.ref k, .ref t, .int (nI (n1 + 1)), .int cm, .int wr])), (k, .inl (cA, 500, .inl (upd K1 n1 (y + (nI q) * v)))), (t, .inl (cB, 500, .inl (upd T1 n1 (w + (nI q)))))] := hD
          refine lv_iinc (v := (nI (q + 1))) (lv' := [(5, .int (nI (q + 1))), (0, .ref h), (1, .int (nI z)), (2, .int y), (3, .int v), (4, .int w)]) hx hb dX2_run_45 hl (k := 5) rfl (by first | exact nI_add q 1 | (rw [← nI_add]; rfl)) (by decide) rfl (fun ls hl => ?_)
          refine lv_goto (tgt := 21) hx hb dX2_run_48 (by decide) ?_
          exact ihk ((q + 1), (upd K1 n1 (y + (nI q) * v)), (upd T1 n1 (w + (nI q))), (n1 + 1)) (by show z - (q + 1) < z - q; omega) _ _ _ ⟨by omega, by omega, rnI_s vk2 vk1, hP, hD, hS, lv_sub hl [1, 2, 3, 4, 5, 0] rfl⟩
      · exact ⟨Nat.zero_le _, rfl, rnI_0, hP, hD, hS, lv_sub hl [1, 2, 3, 4, 5, 0] rfl⟩
    · refine lv_iconst (v := (-1)) hx hb dX2_run_16 (by decide) ?_
      exact W.iret (v := (-1)) hx hb hr (fun tS ht hW => ⟨⟨(-1), (K, T, n, cm, wr, lp, lc, lw), rfl, ⟨Or.inl ⟨⟨rfl, sam_rf⟩, fun z hz => tr_0 hq c13 (dN_e hz).2⟩, ⟨hn, hck⟩⟩, by rw [ht]; exact hP, va_K.moved hW.alike hK, hD⟩, hS.F ht⟩) hS.2.2 dX2_run_17
set_option maxHeartbeats 4000000 in
set_option maxRecDepth 100000 in
theorem c_X2_clear (l : Launch) (dC : Nat → ClassId) (dI : Nat → Nat → Nat) (sz : Nat) (h r k t : Nat) (cA cB : ClassId) (n : Nat) (cm wr lp lc lw : Int32) (K T : Nat → Int32) (hn : n ≤ 500) (hck : ckI lp lc lw) : Met l yX2_clear wsX2_clear ({ frames := 0, cells := 0, slots := 0, locals := 0 }) (va_Pc [.ref h] (fun U => U.heap.size = sz ∧ va_P (dC, dI) vwCl [(h, .inr (1, [.ref r, .int lp, .int lc, .int lw])), (r, .inr (0, [.ref k, .ref t, .int (nI n), .int cm, .int wr])), (k, .inl (cA, 500, .inl K)), (t, .inl (cB, 500, .inl T))] U.heap ∧ va_K (dC, dI) vwCl [(cA, .int), (cB, .int)] U ∧ va_D (fun _ => True) [(h, .inr (1, [.ref r, .int lp, .int lc, .int lw])), (r, .inr (0, [.ref k, .ref t, .int (nI n), .int cm, .int wr])), (k, .inl (cA, 500, .inl K)), (t, .inl (cB, 500, .inl T))])) (va_Qi (fun r u => (r = nI n ∧ u.2.2.1 = 0) ∧ okU u) (atX dC dI (va_A [(h, .inr (1, [.ref r, .int lp, .int lc, .int lw])), (r, .inr (0, [.ref k, .ref t, .int (nI n), .int cm, .int wr])), (k, .inl (cA, 500, .inl K)), (t, .inl (cB, 500, .inl T))] sz) h r k t cA cB) (va_A [(h, .inr (1, [.ref r, .int lp, .int lc, .int lw])), (r, .inr (0, [.ref k, .ref t, .int (nI n), .int cm, .int wr])), (k, .inl (cA, 500, .inl K)), (t, .inl (cB, 500, .inl T))] sz)) 0 0 (va_A [(h, .inr (1, [.ref r, .int lp, .int lc, .int lw])), (r, .inr (0, [.ref k, .ref t, .int (nI n), .int cm, .int wr])), (k, .inl (cA, 500, .inl K)), (t, .inl (cB, 500, .inl T))] sz) := by
  refine Met.ofW (cc := cX2_clear) (maxL := 2) (ret := (some .int)) (by decide) rfl ?_
  intro p e s m args below meth c s₁ B hml hv
  obtain ⟨rfl, hsz, hP, hK, hD0⟩ := hv
  have hx := B.exec
  have hb := B.bytes
  have hr := B.returns
  have hts := atoms_spec (ws := wsX2_clear) B.pre
  have hown : s.vm.findClass RX2 = some m.cls := findClass_of_methodNamed B.named
  have hlocks := B.notSynchronized
  subst hsz
  have hD := hD0.self (sz := s.heap.size)
  generalize hAe : va_A [(h, .inr (1, [.ref r, .int lp, .int lc, .int lw])), (r, .inr (0, [.ref k, .ref t, .int (nI n), .int cm, .int wr])), (k, .inl (cA, 500, .inl K)), (t, .inl (cB, 500, .inl T))] s.heap.size = A at hD ⊢
  have hA : ∀ q : Nat, s.heap.size ≤ q → A q := fun q h => by rw [← hAe]; exact Or.inr h
  have hS : va_S A s.heap s.heap [] := va_S.rf
  have hP : va_P (dC, dI) vwCl [(h, .inr (1, [.ref r, .int lp, .int lc, .int lw])), (r, .inr (0, [.ref k, .ref t, .int (nI n), .int cm, .int wr])), (k, .inl (cA, 500, .inl K)), (t, .inl (cB, 500, .inl T))] s.heap := hP
  have hl := lv_entry ([.ref h]) (n := 2) (Nat.le_of_ble_eq_true rfl)
  rw [lg_entry_eq]
  generalize (lg_sl ([.ref h]) ++ List.replicate (2 - (lg_sl ([.ref h])).length) Slot.unset).toArray = ls at hl ⊢
  have hl : lv_has ls 2 [(0, .ref h)] := hl
  refine lv_aload_n hx hb dX2_clear_0 rfl (lv_at hl 0 rfl) ?_
  refine va_get (D := (dC, dI)) (ci := 1) (v := .ref r) (C := RX2) (T := TX2) (N := 4) hx hb hts (by decide +kernel) hown hK hP 0 rfl rfl 0 (by decide) (hts (.fieldLink RX2 10 "RowPress" "row" "LRowPress$Row;") (by decide +kernel)) (fun _ h9 => h9) rfl dX2_clear_1 ?_
  refine va_get (D := (dC, dI)) (ci := 0) (v := .int (nI n)) (C := RX1) (T := TX1) (N := 5) hx hb hts (by decide +kernel) hown hK hP 1 rfl rfl 2 (by decide) (hts (.fieldLink RX2 24 "RowPress$Row" "size" "I") (by decide +kernel)) (fun _ h9 => h9) rfl dX2_clear_4 ?_
  refine lv_istore_n (lv' := [(1, .int (nI n)), (0, .ref h)]) hx hb dX2_clear_7 rfl hl (by decide) rfl (fun ls hl => ?_)
  refine lv_aload_n hx hb dX2_clear_8 rfl (lv_at hl 1 rfl) ?_
  refine va_get (D := (dC, dI)) (ci := 1) (v := .ref r) (C := RX2) (T := TX2) (N := 4) hx hb hts (by decide +kernel) hown hK hP 0 rfl rfl 0 (by decide) (hts (.fieldLink RX2 10 "RowPress" "row" "LRowPress$Row;") (by decide +kernel)) (fun _ h9 => h9) rfl dX2_clear_9 ?_
  refine lv_iconst (v := (nI 0)) hx hb dX2_clear_12 (by decide) ?_
  refine va_put (D := (dC, dI)) (ci := 0) (v := .int (nI 0)) (ty := .int) (C := RX1) (T := TX1) (N := 5) hx hb hts (by decide +kernel) tyX1 tyX1_ok nmX1 hown hK hP hD hS 1 rfl rfl 2 (by decide) (hts (.fieldLink RX2 24 "RowPress$Row" "size" "I") (by decide +kernel)) (fun _ h9 => h9) rfl (by decide +kernel) rfl rfl (Nat.le_of_ble_eq_true rfl) dX2_clear_13 (fun H locs hP hD hS => ?_)
  have hP : va_P (dC, dI) vwCl [(h, .inr (1, [.ref r, .int lp, .int lc, .int lw])), (r, .inr (0, [.ref k, .ref t, .int (nI 0), .int cm, .int wr])), (k, .inl (cA, 500, .inl K)), (t, .inl (cB, 500, .inl T))] H := hP
  have hD : va_D A [(h, .inr (1, [.ref r, .int lp, .int lc, .int lw])), (r, .inr (0, [.ref k, .ref t, .int (nI 0), .int cm, .int wr])), (k, .inl (cA, 500, .inl K)), (t, .inl (cB, 500, .inl T))] := hD
  refine lv_iload_n hx hb dX2_clear_16 rfl (lv_at hl 0 rfl) ?_
  exact W.iret (v := (nI n)) hx hb hr (fun tS ht hW => ⟨⟨(nI n), (K, T, 0, cm, wr, lp, lc, lw), rfl, ⟨⟨rfl, rfl⟩, ⟨Nat.zero_le _, hck⟩⟩, by rw [ht]; exact hP, va_K.moved hW.alike hK, hD⟩, hS.F ht⟩) hS.2.2 dX2_clear_17
set_option maxHeartbeats 4000000 in
set_option maxRecDepth 100000 in
theorem c_X2_keepCounts (l : Launch) (dC : Nat → ClassId) (dI : Nat → Nat → Nat) (sz : Nat) (h r k t : Nat) (cA cB : ClassId) (n : Nat) (cm wr lp lc lw : Int32) (K T : Nat → Int32) (x : Int32) : Met l yX2_keepCounts wsX2_keepCounts ({ frames := 0, cells := 0, slots := 0, locals := 0 }) (va_Pc [.ref h, .int x] (fun U => U.heap.size = sz ∧ va_P (dC, dI) vwCl [(h, .inr (1, [.ref r, .int lp, .int lc, .int lw])), (r, .inr (0, [.ref k, .ref t, .int (nI n), .int cm, .int wr])), (k, .inl (cA, 500, .inl K)), (t, .inl (cB, 500, .inl T))] U.heap ∧ va_K (dC, dI) vwCl [(cA, .int), (cB, .int)] U ∧ va_D (fun _ => True) [(h, .inr (1, [.ref r, .int lp, .int lc, .int lw])), (r, .inr (0, [.ref k, .ref t, .int (nI n), .int cm, .int wr])), (k, .inl (cA, 500, .inl K)), (t, .inl (cB, 500, .inl T))])) (va_Qv (fun u => u = (K, T, n, cm, wr, x, cm, wr)) (atX dC dI (va_A [(h, .inr (1, [.ref r, .int lp, .int lc, .int lw])), (r, .inr (0, [.ref k, .ref t, .int (nI n), .int cm, .int wr])), (k, .inl (cA, 500, .inl K)), (t, .inl (cB, 500, .inl T))] sz) h r k t cA cB) (va_A [(h, .inr (1, [.ref r, .int lp, .int lc, .int lw])), (r, .inr (0, [.ref k, .ref t, .int (nI n), .int cm, .int wr])), (k, .inl (cA, 500, .inl K)), (t, .inl (cB, 500, .inl T))] sz)) 0 0 (va_A [(h, .inr (1, [.ref r, .int lp, .int lc, .int lw])), (r, .inr (0, [.ref k, .ref t, .int (nI n), .int cm, .int wr])), (k, .inl (cA, 500, .inl K)), (t, .inl (cB, 500, .inl T))] sz) := by
  refine Met.ofW (cc := cX2_keepCounts) (maxL := 2) (ret := none) (by decide) rfl ?_
  intro p e s m args below meth c s₁ B hml hv
  obtain ⟨rfl, hsz, hP, hK, hD0⟩ := hv
  have hx := B.exec
  have hb := B.bytes
  have hr := B.returns
  have hts := atoms_spec (ws := wsX2_keepCounts) B.pre
  have hown : s.vm.findClass RX2 = some m.cls := findClass_of_methodNamed B.named
  have hlocks := B.notSynchronized
  subst hsz
  have hD := hD0.self (sz := s.heap.size)
  generalize hAe : va_A [(h, .inr (1, [.ref r, .int lp, .int lc, .int lw])), (r, .inr (0, [.ref k, .ref t, .int (nI n), .int cm, .int wr])), (k, .inl (cA, 500, .inl K)), (t, .inl (cB, 500, .inl T))] s.heap.size = A at hD ⊢
  have hA : ∀ q : Nat, s.heap.size ≤ q → A q := fun q h => by rw [← hAe]; exact Or.inr h
  have hS : va_S A s.heap s.heap [] := va_S.rf
  have hP : va_P (dC, dI) vwCl [(h, .inr (1, [.ref r, .int lp, .int lc, .int lw])), (r, .inr (0, [.ref k, .ref t, .int (nI n), .int cm, .int wr])), (k, .inl (cA, 500, .inl K)), (t, .inl (cB, 500, .inl T))] s.heap := hP
  have hl := lv_entry ([.ref h, .int x]) (n := 2) (Nat.le_of_ble_eq_true rfl)
  rw [lg_entry_eq]
  generalize (lg_sl ([.ref h, .int x]) ++ List.replicate (2 - (lg_sl ([.ref h, .int x])).length) Slot.unset).toArray = ls at hl ⊢
  have hl : lv_has ls 2 [(0, .ref h), (1, .int x)] := hl
  refine lv_aload_n hx hb dX2_keepCounts_0 rfl (lv_at hl 0 rfl) ?_
  refine lv_iload_n hx hb dX2_keepCounts_1 rfl (lv_at hl 1 rfl) ?_
  refine va_put (D := (dC, dI)) (ci := 1) (v := .int x) (ty := .int) (C := RX2) (T := TX2) (N := 4) hx hb hts (by decide +kernel) tyX2 tyX2_ok nmX2 hown hK hP hD hS 0 rfl rfl 1 (by decide) (hts (.fieldLink RX2 100 "RowPress" "latestPairs" "I") (by decide +kernel)) (fun _ h9 => h9) rfl (by decide +kernel) rfl rfl (Nat.le_of_ble_eq_true rfl) dX2_keepCounts_2 (fun H locs hP hD hS => ?_)
  have hP : va_P (dC, dI) vwCl [(h, .inr (1, [.ref r, .int x, .int lc, .int lw])), (r, .inr (0, [.ref k, .ref t, .int (nI n), .int cm, .int wr])), (k, .inl (cA, 500, .inl K)), (t, .inl (cB, 500, .inl T))] H := hP
  have hD : va_D A [(h, .inr (1, [.ref r, .int x, .int lc, .int lw])), (r, .inr (0, [.ref k, .ref t, .int (nI n), .int cm, .int wr])), (k, .inl (cA, 500, .inl K)), (t, .inl (cB, 500, .inl T))] := hD
  refine lv_aload_n hx hb dX2_keepCounts_5 rfl (lv_at hl 0 rfl) ?_
  refine lv_aload_n hx hb dX2_keepCounts_6 rfl (lv_at hl 0 rfl) ?_
  refine va_get (D := (dC, dI)) (ci := 1) (v := .ref r) (C := RX2) (T := TX2) (N := 4) hx hb hts (by decide +kernel) hown hK hP 0 rfl rfl 0 (by decide) (hts (.fieldLink RX2 10 "RowPress" "row" "LRowPress$Row;") (by decide +kernel)) (fun _ h9 => h9) rfl dX2_keepCounts_7 ?_
  refine va_get (D := (dC, dI)) (ci := 0) (v := .int cm) (C := RX1) (T := TX1) (N := 5) hx hb hts (by decide +kernel) hown hK hP 1 rfl rfl 3 (by decide) (hts (.fieldLink RX2 113 "RowPress$Row" "compares" "I") (by decide +kernel)) (fun _ h9 => h9) rfl dX2_keepCounts_10 ?_
  refine va_put (D := (dC, dI)) (ci := 1) (v := .int cm) (ty := .int) (C := RX2) (T := TX2) (N := 4) hx hb hts (by decide +kernel) tyX2 tyX2_ok nmX2 hown hK hP hD hS 0 rfl rfl 2 (by decide) (hts (.fieldLink RX2 107 "RowPress" "latestCompares" "I") (by decide +kernel)) (fun _ h9 => h9) rfl (by decide +kernel) rfl rfl (Nat.le_of_ble_eq_true rfl) dX2_keepCounts_13 (fun H locs hP hD hS => ?_)
  have hP : va_P (dC, dI) vwCl [(h, .inr (1, [.ref r, .int x, .int cm, .int lw])), (r, .inr (0, [.ref k, .ref t, .int (nI n), .int cm, .int wr])), (k, .inl (cA, 500, .inl K)), (t, .inl (cB, 500, .inl T))] H := hP
  have hD : va_D A [(h, .inr (1, [.ref r, .int x, .int cm, .int lw])), (r, .inr (0, [.ref k, .ref t, .int (nI n), .int cm, .int wr])), (k, .inl (cA, 500, .inl K)), (t, .inl (cB, 500, .inl T))] := hD
  refine lv_aload_n hx hb dX2_keepCounts_16 rfl (lv_at hl 0 rfl) ?_
  refine lv_aload_n hx hb dX2_keepCounts_17 rfl (lv_at hl 0 rfl) ?_
  refine va_get (D := (dC, dI)) (ci := 1) (v := .ref r) (C := RX2) (T := TX2) (N := 4) hx hb hts (by decide +kernel) hown hK hP 0 rfl rfl 0 (by decide) (hts (.fieldLink RX2 10 "RowPress" "row" "LRowPress$Row;") (by decide +kernel)) (fun _ h9 => h9) rfl dX2_keepCounts_18 ?_
  refine va_get (D := (dC, dI)) (ci := 0) (v := .int wr) (C := RX1) (T := TX1) (N := 5) hx hb hts (by decide +kernel) hown hK hP 1 rfl rfl 4 (by decide) (hts (.fieldLink RX2 116 "RowPress$Row" "writes" "I") (by decide +kernel)) (fun _ h9 => h9) rfl dX2_keepCounts_21 ?_
  refine va_put (D := (dC, dI)) (ci := 1) (v := .int wr) (ty := .int) (C := RX2) (T := TX2) (N := 4) hx hb hts (by decide +kernel) tyX2 tyX2_ok nmX2 hown hK hP hD hS 0 rfl rfl 3 (by decide) (hts (.fieldLink RX2 110 "RowPress" "latestWrites" "I") (by decide +kernel)) (fun _ h9 => h9) rfl (by decide +kernel) rfl rfl (Nat.le_of_ble_eq_true rfl) dX2_keepCounts_24 (fun H locs hP hD hS => ?_)
  have hP : va_P (dC, dI) vwCl [(h, .inr (1, [.ref r, .int x, .int cm, .int wr])), (r, .inr (0, [.ref k, .ref t, .int (nI n), .int cm, .int wr])), (k, .inl (cA, 500, .inl K)), (t, .inl (cB, 500, .inl T))] H := hP
  have hD : va_D A [(h, .inr (1, [.ref r, .int x, .int cm, .int wr])), (r, .inr (0, [.ref k, .ref t, .int (nI n), .int cm, .int wr])), (k, .inl (cA, 500, .inl K)), (t, .inl (cB, 500, .inl T))] := hD
  exact W.vret hx hb hr (fun tS ht hW => ⟨⟨(K, T, n, cm, wr, x, cm, wr), rfl, rfl, by rw [ht]; exact hP, va_K.moved hW.alike hK, hD⟩, hS.F ht⟩) hS.2.2 dX2_keepCounts_27
set_option maxHeartbeats 4000000 in
set_option maxRecDepth 100000 in
theorem c_X2_sortPart (l : Launch) (dC : Nat → ClassId) (dI : Nat → Nat → Nat) (sz : Nat) (h r k t : Nat) (cA cB : ClassId) (n : Nat) (cm wr lp lc lw : Int32) (K T : Nat → Int32) (hn : n ≤ 500) (hck : ckI lp lc lw) (x y o : Int32) : Met l yX2_sortPart wsX2_sortPart ({ frames := 14, cells := 0, slots := 0, locals := 380 }) (va_Pc [.ref h, .int x, .int y, .int o] (fun U => U.heap.size = sz ∧ va_P (dC, dI) vwCl [(h, .inr (1, [.ref r, .int lp, .int lc, .int lw])), (r, .inr (0, [.ref k, .ref t, .int (nI n), .int cm, .int wr])), (k, .inl (cA, 500, .inl K)), (t, .inl (cB, 500, .inl T))] U.heap ∧ va_K (dC, dI) vwCl [(cA, .int), (cB, .int)] U ∧ va_D (fun _ => True) [(h, .inr (1, [.ref r, .int lp, .int lc, .int lw])), (r, .inr (0, [.ref k, .ref t, .int (nI n), .int cm, .int wr])), (k, .inl (cA, 500, .inl K)), (t, .inl (cB, 500, .inl T))])) (va_Qi (fun r u => QsoC n (mZ K T) x y o r u.2.2.1 (mZ u.1 u.2.1) ∧ okU u) (atX dC dI (va_A [(h, .inr (1, [.ref r, .int lp, .int lc, .int lw])), (r, .inr (0, [.ref k, .ref t, .int (nI n), .int cm, .int wr])), (k, .inl (cA, 500, .inl K)), (t, .inl (cB, 500, .inl T))] sz) h r k t cA cB) (va_A [(h, .inr (1, [.ref r, .int lp, .int lc, .int lw])), (r, .inr (0, [.ref k, .ref t, .int (nI n), .int cm, .int wr])), (k, .inl (cA, 500, .inl K)), (t, .inl (cB, 500, .inl T))] sz)) 0 0 (va_A [(h, .inr (1, [.ref r, .int lp, .int lc, .int lw])), (r, .inr (0, [.ref k, .ref t, .int (nI n), .int cm, .int wr])), (k, .inl (cA, 500, .inl K)), (t, .inl (cB, 500, .inl T))] sz) := by
  refine Met.ofW (cc := cX2_sortPart) (maxL := 4) (ret := (some .int)) (by decide) rfl ?_
  intro p e s m args below meth c s₁ B hml hv
  obtain ⟨rfl, hsz, hP, hK, hD0⟩ := hv
  have hx := B.exec
  have hb := B.bytes
  have hr := B.returns
  have hts := atoms_spec (ws := wsX2_sortPart) B.pre
  have hown : s.vm.findClass RX2 = some m.cls := findClass_of_methodNamed B.named
  have hlocks := B.notSynchronized
  subst hsz
  have hD := hD0.self (sz := s.heap.size)
  generalize hAe : va_A [(h, .inr (1, [.ref r, .int lp, .int lc, .int lw])), (r, .inr (0, [.ref k, .ref t, .int (nI n), .int cm, .int wr])), (k, .inl (cA, 500, .inl K)), (t, .inl (cB, 500, .inl T))] s.heap.size = A at hD ⊢
  have hA : ∀ q : Nat, s.heap.size ≤ q → A q := fun q h => by rw [← hAe]; exact Or.inr h
  have hS : va_S A s.heap s.heap [] := va_S.rf
  have hP : va_P (dC, dI) vwCl [(h, .inr (1, [.ref r, .int lp, .int lc, .int lw])), (r, .inr (0, [.ref k, .ref t, .int (nI n), .int cm, .int wr])), (k, .inl (cA, 500, .inl K)), (t, .inl (cB, 500, .inl T))] s.heap := hP
  have hl := lv_entry ([.ref h, .int x, .int y, .int o]) (n := 4) (Nat.le_of_ble_eq_true rfl)
  rw [lg_entry_eq]
  generalize (lg_sl ([.ref h, .int x, .int y, .int o]) ++ List.replicate (4 - (lg_sl ([.ref h, .int x, .int y, .int o])).length) Slot.unset).toArray = ls at hl ⊢
  have hl : lv_has ls 4 [(0, .ref h), (1, .int x), (2, .int y), (3, .int o)] := hl
  refine lv_iload_n hx hb dX2_sortPart_0 rfl (lv_at hl 3 rfl) ?_
  have hPc := hP.sub (ws' := []) [] rfl
  have hDc := hD.sub (ws' := []) [] (by decide) rfl
  have hKc := hK.sub (tys' := []) [] rfl
  have hFc := va_free (wc := []) hD hS hA [] rfl
  refine va_calli (va_runS (As := [.int o]) (rest := []) ⟨hx, hb, hml, hown, hts⟩ (c_X0_exists l dC dI s.heap.size o) (va_cwS 1 hts gX2_sortPart_X0_exists rfl rfl rfl (by decide +kernel) ⟨Nat.le_of_ble_eq_true rfl, Nat.le_of_ble_eq_true rfl⟩) ⟨fun a U g mk q => by obtain ⟨q0, q1, qP, qK, qD⟩ := q; exact ⟨q0, q1, qP, va_K.moved (u := U) (U := U.calling g mk a) (Vm.Alike.refl U.vm) qK, qD⟩, fun U hU hW => ⟨rfl, by rw [hU], by rw [hU]; exact hPc, va_K.moved hW.alike hKc, hDc.weaken (fun _ _ _ _ => trivial)⟩⟩ rfl rfl hl.1 rfl (lv_room (Nat.le_of_ble_eq_true rfl)) dX2_sortPart_1 ⟨Nat.le_of_ble_eq_true rfl, Nat.le_of_ble_eq_true rfl⟩) hS (fun q _ h => hFc q h) hFc (fun r_1 u tS H1 locs ht hvm hw hB hz1 hk1 hS => ?_)
  have he := hw
  obtain ⟨hP1, hK1, hD1⟩ := hB
  rw [ht] at hP1
  obtain ⟨hP, hD⟩ := va_join (wr := [(h, .inr (1, [.ref r, .int lp, .int lc, .int lw])), (r, .inr (0, [.ref k, .ref t, .int (nI n), .int cm, .int wr])), (k, .inl (cA, 500, .inl K)), (t, .inl (cB, 500, .inl T))]) (w1 := []) hP hD [] [0, 1, 2, 3] rfl rfl (by decide) (by decide) hk1 hFc hP1 hD1
  generalize H1 = H at hP hS ⊢
  have hP : va_P (dC, dI) vwCl [(h, .inr (1, [.ref r, .int lp, .int lc, .int lw])), (r, .inr (0, [.ref k, .ref t, .int (nI n), .int cm, .int wr])), (k, .inl (cA, 500, .inl K)), (t, .inl (cB, 500, .inl T))] H := hP
  have hD : va_D A [(h, .inr (1, [.ref r, .int lp, .int lc, .int lw])), (r, .inr (0, [.ref k, .ref t, .int (nI n), .int cm, .int wr])), (k, .inl (cA, 500, .inl K)), (t, .inl (cB, 500, .inl T))] := hD
  refine lv_if_eq (tgt := 19) hx hb dX2_sortPart_4 (by decide) (fun c4 => ?_) (fun c4 => ?_)
  · refine lv_iconst (v := (nI 0)) hx hb dX2_sortPart_19 (by decide) ?_
    exact W.iret (v := (nI 0)) hx hb hr (fun tS ht hW => ⟨⟨(nI 0), (K, T, n, cm, wr, lp, lc, lw), rfl, ⟨Or.inl ⟨⟨rfl, sam_rf⟩, fun z hz => tr_0 he c4 (dS_e hn hz).1⟩, ⟨hn, hck⟩⟩, by rw [ht]; exact hP, va_K.moved hW.alike hK, hD⟩, hS.F ht⟩) hS.2.2 dX2_sortPart_20
  · refine lv_aload_n hx hb dX2_sortPart_7 rfl (lv_at hl 0 rfl) ?_
    refine va_get (D := (dC, dI)) (ci := 1) (v := .ref r) (C := RX2) (T := TX2) (N := 4) hx hb hts (by decide +kernel) hown hK hP 0 rfl rfl 0 (by decide) (hts (.fieldLink RX2 10 "RowPress" "row" "LRowPress$Row;") (by decide +kernel)) (fun _ h9 => h9) rfl dX2_sortPart_8 ?_
    refine lv_iload_n hx hb dX2_sortPart_11 rfl (lv_at hl 1 rfl) ?_
    refine lv_iload_n hx hb dX2_sortPart_12 rfl (lv_at hl 2 rfl) ?_
    have hPc := hP.sub (ws' := [(r, .inr (0, [.ref k, .ref t, .int (nI n), .int cm, .int wr])), (k, .inl (cA, 500, .inl K)), (t, .inl (cB, 500, .inl T))]) [1, 2, 3] rfl
    have hDc := hD.sub (ws' := [(r, .inr (0, [.ref k, .ref t, .int (nI n), .int cm, .int wr])), (k, .inl (cA, 500, .inl K)), (t, .inl (cB, 500, .inl T))]) [1, 2, 3] (by decide) rfl
    have hKc := hK.sub (tys' := [(cA, .int), (cB, .int)]) [0, 1] rfl
    have hFc := va_free (wc := [(r, .inr (0, [.ref k, .ref t, .int (nI n), .int cm, .int wr])), (k, .inl (cA, 500, .inl K)), (t, .inl (cB, 500, .inl T))]) hD hS hA [1, 2, 3] rfl
    refine va_calli (va_runV (As := [.int x, .int y]) (rest := []) ⟨hx, hb, hml, hown, hts⟩ (c_X1_hasStretch l dC dI H.size r k t cA cB n cm wr K T hn x y) (cwV 2 hts gX2_sortPart_X1_hasStretch rfl rfl rfl (by decide +kernel) ⟨Nat.le_of_ble_eq_true rfl, Nat.le_of_ble_eq_true rfl⟩) ⟨fun a U g mk q => by obtain ⟨q0, q1, qP, qK, qD⟩ := q; exact ⟨q0, q1, qP, va_K.moved (u := U) (U := U.calling g mk a) (Vm.Alike.refl U.vm) qK, qD⟩, va_recv hKc hPc (ci := 0) (q0 := 0) rfl rfl, fun U hU hW => ⟨rfl, by rw [hU], by rw [hU]; exact hPc, va_K.moved hW.alike hKc, hDc.weaken (fun _ _ _ _ => trivial)⟩⟩ rfl rfl hl.1 rfl (lv_room (Nat.le_of_ble_eq_true rfl)) dX2_sortPart_13 ⟨Nat.le_of_ble_eq_true rfl, Nat.le_of_ble_eq_true rfl⟩) hS (fun q _ h => hFc q h) hFc (fun r_2 u tS H1 locs ht hvm hw hB hz1 hk1 hS => ?_)
    obtain ⟨hs, rfl⟩ := hw
    obtain ⟨hP1, hK1, hD1⟩ := hB
    rw [ht] at hP1
    obtain ⟨hP, hD⟩ := va_join (wr := [(h, .inr (1, [.ref r, .int lp, .int lc, .int lw]))]) (w1 := [(r, .inr (0, [.ref k, .ref t, .int (nI n), .int cm, .int wr])), (k, .inl (cA, 500, .inl K)), (t, .inl (cB, 500, .inl T))]) hP hD [1, 2, 3] [0] rfl rfl (by decide) (by decide) hk1 hFc hP1 hD1
    generalize H1 = H at hP hS ⊢
    have hP : va_P (dC, dI) vwCl [(h, .inr (1, [.ref r, .int lp, .int lc, .int lw])), (r, .inr (0, [.ref k, .ref t, .int (nI n), .int cm, .int wr])), (k, .inl (cA, 500, .inl K)), (t, .inl (cB, 500, .inl T))] H := hP
    have hD : va_D A [(h, .inr (1, [.ref r, .int lp, .int lc, .int lw])), (r, .inr (0, [.ref k, .ref t, .int (nI n), .int cm, .int wr])), (k, .inl (cA, 500, .inl K)), (t, .inl (cB, 500, .inl T))] := hD
    refine lv_if_ne (tgt := 21) hx hb dX2_sortPart_16 (by decide) (fun c16 => ?_) (fun c16 => ?_)
    · obtain ⟨o1, ho, rfl⟩ := exO_of (tr_1 he c4)
      obtain ⟨a, b, rfl, rfl, hab, hbn⟩ := stP_of hn (tr_1 hs c16)
      have hb5 : b ≤ 500 := by omega
      refine lv_aload_n hx hb dX2_sortPart_21 rfl (lv_at hl 0 rfl) ?_
      refine va_get (D := (dC, dI)) (ci := 1) (v := .ref r) (C := RX2) (T := TX2) (N := 4) hx hb hts (by decide +kernel) hown hK hP 0 rfl rfl 0 (by decide) (hts (.fieldLink RX2 10 "RowPress" "row" "LRowPress$Row;") (by decide +kernel)) (fun _ h9 => h9) rfl dX2_sortPart_22 ?_
      have hPc := hP.sub (ws' := [(r, .inr (0, [.ref k, .ref t, .int (nI n), .int cm, .int wr])), (k, .inl (cA, 500, .inl K)), (t, .inl (cB, 500, .inl T))]) [1, 2, 3] rfl
      have hDc := hD.sub (ws' := [(r, .inr (0, [.ref k, .ref t, .int (nI n), .int cm, .int wr])), (k, .inl (cA, 500, .inl K)), (t, .inl (cB, 500, .inl T))]) [1, 2, 3] (by decide) rfl
      have hKc := hK.sub (tys' := [(cA, .int), (cB, .int)]) [0, 1] rfl
      have hFc := va_free (wc := [(r, .inr (0, [.ref k, .ref t, .int (nI n), .int cm, .int wr])), (k, .inl (cA, 500, .inl K)), (t, .inl (cB, 500, .inl T))]) hD hS hA [1, 2, 3] rfl
      refine va_callv (va_runV (As := []) (rest := []) ⟨hx, hb, hml, hown, hts⟩ (c_X1_startCounting l dC dI H.size r k t cA cB n cm wr K T ) (cwV 0 hts gX2_sortPart_X1_startCounting rfl rfl rfl (by decide +kernel) ⟨Nat.le_of_ble_eq_true rfl, Nat.le_of_ble_eq_true rfl⟩) ⟨fun a U g mk q => by obtain ⟨q0, q1, qP, qK, qD⟩ := q; exact ⟨q0, q1, qP, va_K.moved (u := U) (U := U.calling g mk a) (Vm.Alike.refl U.vm) qK, qD⟩, va_recv hKc hPc (ci := 0) (q0 := 0) rfl rfl, fun U hU hW => ⟨rfl, by rw [hU], by rw [hU]; exact hPc, va_K.moved hW.alike hKc, hDc.weaken (fun _ _ _ _ => trivial)⟩⟩ rfl rfl hl.1 rfl (lv_room (Nat.le_of_ble_eq_true rfl)) dX2_sortPart_25 ⟨Nat.le_of_ble_eq_true rfl, Nat.le_of_ble_eq_true rfl⟩) hS (fun q _ h => hFc q h) hFc (fun u tS H1 locs ht hvm hw hB hz1 hk1 hS => ?_)
      subst hw
      obtain ⟨hP1, hK1, hD1⟩ := hB
      rw [ht] at hP1
      obtain ⟨hP, hD⟩ := va_join (wr := [(h, .inr (1, [.ref r, .int lp, .int lc, .int lw]))]) (w1 := [(r, .inr (0, [.ref k, .ref t, .int (nI n), .int (nI 0), .int (nI 0)])), (k, .inl (cA, 500, .inl K)), (t, .inl (cB, 500, .inl T))]) hP hD [1, 2, 3] [0] rfl rfl (by decide) (by decide) hk1 hFc hP1 hD1
      generalize H1 = H at hP hS ⊢
      have hP : va_P (dC, dI) vwCl [(h, .inr (1, [.ref r, .int lp, .int lc, .int lw])), (r, .inr (0, [.ref k, .ref t, .int (nI n), .int (nI 0), .int (nI 0)])), (k, .inl (cA, 500, .inl K)), (t, .inl (cB, 500, .inl T))] H := hP
      have hD : va_D A [(h, .inr (1, [.ref r, .int lp, .int lc, .int lw])), (r, .inr (0, [.ref k, .ref t, .int (nI n), .int (nI 0), .int (nI 0)])), (k, .inl (cA, 500, .inl K)), (t, .inl (cB, 500, .inl T))] := hD
      refine lv_aload_n hx hb dX2_sortPart_28 rfl (lv_at hl 0 rfl) ?_
      refine va_get (D := (dC, dI)) (ci := 1) (v := .ref r) (C := RX2) (T := TX2) (N := 4) hx hb hts (by decide +kernel) hown hK hP 0 rfl rfl 0 (by decide) (hts (.fieldLink RX2 10 "RowPress" "row" "LRowPress$Row;") (by decide +kernel)) (fun _ h9 => h9) rfl dX2_sortPart_29 ?_
      refine lv_iload_n hx hb dX2_sortPart_32 rfl (lv_at hl 1 rfl) ?_
      refine lv_iload_n hx hb dX2_sortPart_33 rfl (lv_at hl 2 rfl) ?_
      refine lv_iload_n hx hb dX2_sortPart_34 rfl (lv_at hl 3 rfl) ?_
      have hPc := hP.sub (ws' := [(r, .inr (0, [.ref k, .ref t, .int (nI n), .int (nI 0), .int (nI 0)])), (k, .inl (cA, 500, .inl K)), (t, .inl (cB, 500, .inl T))]) [1, 2, 3] rfl
      have hDc := hD.sub (ws' := [(r, .inr (0, [.ref k, .ref t, .int (nI n), .int (nI 0), .int (nI 0)])), (k, .inl (cA, 500, .inl K)), (t, .inl (cB, 500, .inl T))]) [1, 2, 3] (by decide) rfl
      have hKc := hK.sub (tys' := [(cA, .int), (cB, .int)]) [0, 1] rfl
      have hFc := va_free (wc := [(r, .inr (0, [.ref k, .ref t, .int (nI n), .int (nI 0), .int (nI 0)])), (k, .inl (cA, 500, .inl K)), (t, .inl (cB, 500, .inl T))]) hD hS hA [1, 2, 3] rfl
      refine va_callv (va_runV (As := [.int (nI a), .int (nI b), .int (nI o1)]) (rest := []) ⟨hx, hb, hml, hown, hts⟩ (c_X1_sortInPlace l dC dI H.size r k t cA cB n (nI 0) (nI 0) K T a b o1 hab hb5 ho) (cwV 3 hts gX2_sortPart_X1_sortInPlace rfl rfl rfl (by decide +kernel) ⟨Nat.le_of_ble_eq_true rfl, Nat.le_of_ble_eq_true rfl⟩) ⟨fun a U g mk q => by obtain ⟨q0, q1, qP, qK, qD⟩ := q; exact ⟨q0, q1, qP, va_K.moved (u := U) (U := U.calling g mk a) (Vm.Alike.refl U.vm) qK, qD⟩, va_recv hKc hPc (ci := 0) (q0 := 0) rfl rfl, fun U hU hW => ⟨rfl, by rw [hU], by rw [hU]; exact hPc, va_K.moved hW.alike hKc, hDc.weaken (fun _ _ _ _ => trivial)⟩⟩ rfl rfl hl.1 rfl (lv_room (Nat.le_of_ble_eq_true rfl)) dX2_sortPart_35 ⟨Nat.le_of_ble_eq_true rfl, Nat.le_of_ble_eq_true rfl⟩) hS (fun q _ h => hFc q h) hFc (fun u tS H1 locs ht hvm hw hB hz1 hk1 hS => ?_)
      obtain ⟨K1, T1, n1, e1, w1⟩ := u
      obtain ⟨zo, zs, zm, zn, ⟨g1, zg1, zg1b, zc⟩, g2, zg2, zg2b, zw⟩ := hw
      dsimp only at zo zs zm zn zc zw
      subst zn; subst zc; subst zw
      obtain ⟨hP1, hK1, hD1⟩ := hB
      rw [ht] at hP1
      obtain ⟨hP, hD⟩ := va_join (wr := [(h, .inr (1, [.ref r, .int lp, .int lc, .int lw]))]) (w1 := [(r, .inr (0, [.ref k, .ref t, .int (nI n), .int ((nI 0) + nI g1), .int ((nI 0) + nI g2)])), (k, .inl (cA, 500, .inl K1)), (t, .inl (cB, 500, .inl T1))]) hP hD [1, 2, 3] [0] rfl rfl (by decide) (by decide) hk1 hFc hP1 hD1
      generalize H1 = H at hP hS ⊢
      have hP : va_P (dC, dI) vwCl [(h, .inr (1, [.ref r, .int lp, .int lc, .int lw])), (r, .inr (0, [.ref k, .ref t, .int (nI n), .int ((nI 0) + nI g1), .int ((nI 0) + nI g2)])), (k, .inl (cA, 500, .inl K1)), (t, .inl (cB, 500, .inl T1))] H := hP
      have hD : va_D A [(h, .inr (1, [.ref r, .int lp, .int lc, .int lw])), (r, .inr (0, [.ref k, .ref t, .int (nI n), .int ((nI 0) + nI g1), .int ((nI 0) + nI g2)])), (k, .inl (cA, 500, .inl K1)), (t, .inl (cB, 500, .inl T1))] := hD
      refine lv_aload_n hx hb dX2_sortPart_38 rfl (lv_at hl 0 rfl) ?_
      refine lv_iload_n hx hb dX2_sortPart_39 rfl (lv_at hl 2 rfl) ?_
      refine lv_iload_n hx hb dX2_sortPart_40 rfl (lv_at hl 1 rfl) ?_
      refine lv_isub hx hb dX2_sortPart_41 ?_
      refine lz_top (y := (nI (b - a))) (pk_sub (by omega)) ?_
      have hPc := hP.sub (ws' := [(h, .inr (1, [.ref r, .int lp, .int lc, .int lw])), (r, .inr (0, [.ref k, .ref t, .int (nI n), .int ((nI 0) + nI g1), .int ((nI 0) + nI g2)])), (k, .inl (cA, 500, .inl K1)), (t, .inl (cB, 500, .inl T1))]) [0, 1, 2, 3] rfl
      have hDc := hD.sub (ws' := [(h, .inr (1, [.ref r, .int lp, .int lc, .int lw])), (r, .inr (0, [.ref k, .ref t, .int (nI n), .int ((nI 0) + nI g1), .int ((nI 0) + nI g2)])), (k, .inl (cA, 500, .inl K1)), (t, .inl (cB, 500, .inl T1))]) [0, 1, 2, 3] (by decide) rfl
      have hKc := hK.sub (tys' := [(cA, .int), (cB, .int)]) [0, 1] rfl
      have hFc := va_free (wc := [(h, .inr (1, [.ref r, .int lp, .int lc, .int lw])), (r, .inr (0, [.ref k, .ref t, .int (nI n), .int ((nI 0) + nI g1), .int ((nI 0) + nI g2)])), (k, .inl (cA, 500, .inl K1)), (t, .inl (cB, 500, .inl T1))]) hD hS hA [0, 1, 2, 3] rfl
      refine va_callv (va_runV (As := [.int (nI (b - a))]) (rest := []) ⟨hx, hb, hml, hown, hts⟩ (c_X2_keepCounts l dC dI H.size h r k t cA cB n ((nI 0) + nI g1) ((nI 0) + nI g2) lp lc lw K1 T1 (nI (b - a))) (cwV 1 hts gX2_sortPart_X2_keepCounts rfl rfl rfl (by decide +kernel) ⟨Nat.le_of_ble_eq_true rfl, Nat.le_of_ble_eq_true rfl⟩) ⟨fun a U g mk q => by obtain ⟨q0, q1, qP, qK, qD⟩ := q; exact ⟨q0, q1, qP, va_K.moved (u := U) (U := U.calling g mk a) (Vm.Alike.refl U.vm) qK, qD⟩, va_recv hKc hPc (ci := 1) (q0 := 0) rfl rfl, fun U hU hW => ⟨rfl, by rw [hU], by rw [hU]; exact hPc, va_K.moved hW.alike hKc, hDc.weaken (fun _ _ _ _ => trivial)⟩⟩ rfl rfl hl.1 rfl (lv_room (Nat.le_of_ble_eq_true rfl)) dX2_sortPart_42 ⟨Nat.le_of_ble_eq_true rfl, Nat.le_of_ble_eq_true rfl⟩) hS (fun q _ h => hFc q h) hFc (fun u tS H1 locs ht hvm hw hB hz1 hk1 hS => ?_)
      subst hw
      obtain ⟨hP1, hK1, hD1⟩ := hB
      rw [ht] at hP1
      obtain ⟨hP, hD⟩ := va_join (wr := []) (w1 := [(h, .inr (1, [.ref r, .int (nI (b - a)), .int ((nI 0) + nI g1), .int ((nI 0) + nI g2)])), (r, .inr (0, [.ref k, .ref t, .int (nI n), .int ((nI 0) + nI g1), .int ((nI 0) + nI g2)])), (k, .inl (cA, 500, .inl K1)), (t, .inl (cB, 500, .inl T1))]) hP hD [0, 1, 2, 3] [] rfl rfl (by decide) (by decide) hk1 hFc hP1 hD1
      generalize H1 = H at hP hS ⊢
      have hP : va_P (dC, dI) vwCl [(h, .inr (1, [.ref r, .int (nI (b - a)), .int ((nI 0) + nI g1), .int ((nI 0) + nI g2)])), (r, .inr (0, [.ref k, .ref t, .int (nI n), .int ((nI 0) + nI g1), .int ((nI 0) + nI g2)])), (k, .inl (cA, 500, .inl K1)), (t, .inl (cB, 500, .inl T1))] H := hP
      have hD : va_D A [(h, .inr (1, [.ref r, .int (nI (b - a)), .int ((nI 0) + nI g1), .int ((nI 0) + nI g2)])), (r, .inr (0, [.ref k, .ref t, .int (nI n), .int ((nI 0) + nI g1), .int ((nI 0) + nI g2)])), (k, .inl (cA, 500, .inl K1)), (t, .inl (cB, 500, .inl T1))] := hD
      refine lv_iconst (v := (nI 1)) hx hb dX2_sortPart_45 (by decide) ?_
      exact W.iret (v := (nI 1)) hx hb hr (fun tS ht hW => ⟨⟨(nI 1), (K1, T1, n, ((nI 0) + nI g1), ((nI 0) + nI g2), (nI (b - a)), ((nI 0) + nI g1), ((nI 0) + nI g2)), rfl, ⟨Or.inr ⟨(a, b, o1), ⟨rfl, rfl, rfl, hab, hbn, ho⟩, rfl, rfl, soC_of zo zs zm⟩, ⟨hn, ⟨b - a, g1, g2, rfl, by omega, z_ad g1, zg1, zg1b, z_ad g2, zg2, zg2b⟩⟩⟩, by rw [ht]; exact hP, va_K.moved hW.alike hK, hD⟩, hS.F ht⟩) hS.2.2 dX2_sortPart_46
    · refine lv_iconst (v := (nI 0)) hx hb dX2_sortPart_19 (by decide) ?_
      exact W.iret (v := (nI 0)) hx hb hr (fun tS ht hW => ⟨⟨(nI 0), (K, T, n, cm, wr, lp, lc, lw), rfl, ⟨Or.inl ⟨⟨rfl, sam_rf⟩, fun z hz => tr_0 hs c16 (dS_e hn hz).2⟩, ⟨hn, hck⟩⟩, by rw [ht]; exact hP, va_K.moved hW.alike hK, hD⟩, hS.F ht⟩) hS.2.2 dX2_sortPart_20
set_option maxHeartbeats 4000000 in
set_option maxRecDepth 100000 in
theorem c_X2_sort (l : Launch) (dC : Nat → ClassId) (dI : Nat → Nat → Nat) (sz : Nat) (h r k t : Nat) (cA cB : ClassId) (n : Nat) (cm wr lp lc lw : Int32) (K T : Nat → Int32) (hn : n ≤ 500) (hck : ckI lp lc lw) (o : Int32) : Met l yX2_sort wsX2_sort ({ frames := 15, cells := 0, slots := 0, locals := 403 }) (va_Pc [.ref h, .int o] (fun U => U.heap.size = sz ∧ va_P (dC, dI) vwCl [(h, .inr (1, [.ref r, .int lp, .int lc, .int lw])), (r, .inr (0, [.ref k, .ref t, .int (nI n), .int cm, .int wr])), (k, .inl (cA, 500, .inl K)), (t, .inl (cB, 500, .inl T))] U.heap ∧ va_K (dC, dI) vwCl [(cA, .int), (cB, .int)] U ∧ va_D (fun _ => True) [(h, .inr (1, [.ref r, .int lp, .int lc, .int lw])), (r, .inr (0, [.ref k, .ref t, .int (nI n), .int cm, .int wr])), (k, .inl (cA, 500, .inl K)), (t, .inl (cB, 500, .inl T))])) (va_Qi (fun r u => QsoC n (mZ K T) (nI 0) (nI n) o r u.2.2.1 (mZ u.1 u.2.1) ∧ okU u) (atX dC dI (va_A [(h, .inr (1, [.ref r, .int lp, .int lc, .int lw])), (r, .inr (0, [.ref k, .ref t, .int (nI n), .int cm, .int wr])), (k, .inl (cA, 500, .inl K)), (t, .inl (cB, 500, .inl T))] sz) h r k t cA cB) (va_A [(h, .inr (1, [.ref r, .int lp, .int lc, .int lw])), (r, .inr (0, [.ref k, .ref t, .int (nI n), .int cm, .int wr])), (k, .inl (cA, 500, .inl K)), (t, .inl (cB, 500, .inl T))] sz)) 0 0 (va_A [(h, .inr (1, [.ref r, .int lp, .int lc, .int lw])), (r, .inr (0, [.ref k, .ref t, .int (nI n), .int cm, .int wr])), (k, .inl (cA, 500, .inl K)), (t, .inl (cB, 500, .inl T))] sz) := by
  refine Met.ofW (cc := cX2_sort) (maxL := 2) (ret := (some .int)) (by decide) rfl ?_
  intro p e s m args below meth c s₁ B hml hv
  obtain ⟨rfl, hsz, hP, hK, hD0⟩ := hv
  have hx := B.exec
  have hb := B.bytes
  have hr := B.returns
  have hts := atoms_spec (ws := wsX2_sort) B.pre
  have hown : s.vm.findClass RX2 = some m.cls := findClass_of_methodNamed B.named
  have hlocks := B.notSynchronized
  subst hsz
  have hD := hD0.self (sz := s.heap.size)
  generalize hAe : va_A [(h, .inr (1, [.ref r, .int lp, .int lc, .int lw])), (r, .inr (0, [.ref k, .ref t, .int (nI n), .int cm, .int wr])), (k, .inl (cA, 500, .inl K)), (t, .inl (cB, 500, .inl T))] s.heap.size = A at hD ⊢
  have hA : ∀ q : Nat, s.heap.size ≤ q → A q := fun q h => by rw [← hAe]; exact Or.inr h
  have hS : va_S A s.heap s.heap [] := va_S.rf
  have hP : va_P (dC, dI) vwCl [(h, .inr (1, [.ref r, .int lp, .int lc, .int lw])), (r, .inr (0, [.ref k, .ref t, .int (nI n), .int cm, .int wr])), (k, .inl (cA, 500, .inl K)), (t, .inl (cB, 500, .inl T))] s.heap := hP
  have hl := lv_entry ([.ref h, .int o]) (n := 2) (Nat.le_of_ble_eq_true rfl)
  rw [lg_entry_eq]
  generalize (lg_sl ([.ref h, .int o]) ++ List.replicate (2 - (lg_sl ([.ref h, .int o])).length) Slot.unset).toArray = ls at hl ⊢
  have hl : lv_has ls 2 [(0, .ref h), (1, .int o)] := hl
  refine lv_aload_n hx hb dX2_sort_0 rfl (lv_at hl 0 rfl) ?_
  refine lv_iconst (v := (nI 0)) hx hb dX2_sort_1 (by decide) ?_
  refine lv_aload_n hx hb dX2_sort_2 rfl (lv_at hl 0 rfl) ?_
  refine va_get (D := (dC, dI)) (ci := 1) (v := .ref r) (C := RX2) (T := TX2) (N := 4) hx hb hts (by decide +kernel) hown hK hP 0 rfl rfl 0 (by decide) (hts (.fieldLink RX2 10 "RowPress" "row" "LRowPress$Row;") (by decide +kernel)) (fun _ h9 => h9) rfl dX2_sort_3 ?_
  refine va_get (D := (dC, dI)) (ci := 0) (v := .int (nI n)) (C := RX1) (T := TX1) (N := 5) hx hb hts (by decide +kernel) hown hK hP 1 rfl rfl 2 (by decide) (hts (.fieldLink RX2 24 "RowPress$Row" "size" "I") (by decide +kernel)) (fun _ h9 => h9) rfl dX2_sort_6 ?_
  refine lv_iload_n hx hb dX2_sort_9 rfl (lv_at hl 1 rfl) ?_
  have hPc := hP.sub (ws' := [(h, .inr (1, [.ref r, .int lp, .int lc, .int lw])), (r, .inr (0, [.ref k, .ref t, .int (nI n), .int cm, .int wr])), (k, .inl (cA, 500, .inl K)), (t, .inl (cB, 500, .inl T))]) [0, 1, 2, 3] rfl
  have hDc := hD.sub (ws' := [(h, .inr (1, [.ref r, .int lp, .int lc, .int lw])), (r, .inr (0, [.ref k, .ref t, .int (nI n), .int cm, .int wr])), (k, .inl (cA, 500, .inl K)), (t, .inl (cB, 500, .inl T))]) [0, 1, 2, 3] (by decide) rfl
  have hKc := hK.sub (tys' := [(cA, .int), (cB, .int)]) [0, 1] rfl
  have hFc := va_free (wc := [(h, .inr (1, [.ref r, .int lp, .int lc, .int lw])), (r, .inr (0, [.ref k, .ref t, .int (nI n), .int cm, .int wr])), (k, .inl (cA, 500, .inl K)), (t, .inl (cB, 500, .inl T))]) hD hS hA [0, 1, 2, 3] rfl
  refine va_calli (va_runV (As := [.int (nI 0), .int (nI n), .int o]) (rest := []) ⟨hx, hb, hml, hown, hts⟩ (c_X2_sortPart l dC dI s.heap.size h r k t cA cB n cm wr lp lc lw K T hn hck (nI 0) (nI n) o) (cwV 3 hts gX2_sort_X2_sortPart rfl rfl rfl (by decide +kernel) ⟨Nat.le_of_ble_eq_true rfl, Nat.le_of_ble_eq_true rfl⟩) ⟨fun a U g mk q => by obtain ⟨q0, q1, qP, qK, qD⟩ := q; exact ⟨q0, q1, qP, va_K.moved (u := U) (U := U.calling g mk a) (Vm.Alike.refl U.vm) qK, qD⟩, va_recv hKc hPc (ci := 1) (q0 := 0) rfl rfl, fun U hU hW => ⟨rfl, by rw [hU], by rw [hU]; exact hPc, va_K.moved hW.alike hKc, hDc.weaken (fun _ _ _ _ => trivial)⟩⟩ rfl rfl hl.1 rfl (lv_room (Nat.le_of_ble_eq_true rfl)) dX2_sort_10 ⟨Nat.le_of_ble_eq_true rfl, Nat.le_of_ble_eq_true rfl⟩) hS (fun q _ h => hFc q h) hFc (fun r_1 u tS H1 locs ht hvm hw hB hz1 hk1 hS => ?_)
  obtain ⟨K1, T1, n1, e1, w1, p1, p2, p3⟩ := u
  obtain ⟨hP1, hK1, hD1⟩ := hB
  have hq := hw
  rw [ht] at hP1
  obtain ⟨hP, hD⟩ := va_join (wr := []) (w1 := [(h, .inr (1, [.ref r, .int p1, .int p2, .int p3])), (r, .inr (0, [.ref k, .ref t, .int (nI n1), .int e1, .int w1])), (k, .inl (cA, 500, .inl K1)), (t, .inl (cB, 500, .inl T1))]) hP hD [0, 1, 2, 3] [] rfl rfl (by decide) (by decide) hk1 hFc hP1 hD1
  generalize H1 = H at hP hS ⊢
  have hP : va_P (dC, dI) vwCl [(h, .inr (1, [.ref r, .int p1, .int p2, .int p3])), (r, .inr (0, [.ref k, .ref t, .int (nI n1), .int e1, .int w1])), (k, .inl (cA, 500, .inl K1)), (t, .inl (cB, 500, .inl T1))] H := hP
  have hD : va_D A [(h, .inr (1, [.ref r, .int p1, .int p2, .int p3])), (r, .inr (0, [.ref k, .ref t, .int (nI n1), .int e1, .int w1])), (k, .inl (cA, 500, .inl K1)), (t, .inl (cB, 500, .inl T1))] := hD
  exact W.iret (v := r_1) hx hb hr (fun tS ht hW => ⟨⟨r_1, (K1, T1, n1, e1, w1, p1, p2, p3), rfl, hq, by rw [ht]; exact hP, va_K.moved hW.alike hK, hD⟩, hS.F ht⟩) hS.2.2 dX2_sort_13
set_option maxHeartbeats 4000000 in
set_option maxRecDepth 100000 in
theorem c_X2_merge (l : Launch) (dC : Nat → ClassId) (dI : Nat → Nat → Nat) (sz : Nat) (h r k t : Nat) (cA cB : ClassId) (n : Nat) (cm wr lp lc lw : Int32) (K T : Nat → Int32) (hn : n ≤ 500) (hck : ckI lp lc lw) (x y v o : Int32) : Met l yX2_merge wsX2_merge ({ frames := 13, cells := 0, slots := 0, locals := 354 }) (va_Pc [.ref h, .int x, .int y, .int v, .int o] (fun U => U.heap.size = sz ∧ va_P (dC, dI) vwCl [(h, .inr (1, [.ref r, .int lp, .int lc, .int lw])), (r, .inr (0, [.ref k, .ref t, .int (nI n), .int cm, .int wr])), (k, .inl (cA, 500, .inl K)), (t, .inl (cB, 500, .inl T))] U.heap ∧ va_K (dC, dI) vwCl [(cA, .int), (cB, .int)] U ∧ va_D (fun _ => True) [(h, .inr (1, [.ref r, .int lp, .int lc, .int lw])), (r, .inr (0, [.ref k, .ref t, .int (nI n), .int cm, .int wr])), (k, .inl (cA, 500, .inl K)), (t, .inl (cB, 500, .inl T))] ∧ va_Nw (.methodLinkNest RX2 59 yX1_mergeInPlace RX2) U)) (va_Qi (fun r u => QmeC n (mZ K T) x y v o r u.2.2.1 (mZ u.1 u.2.1) ∧ okU u) (atX dC dI (va_A [(h, .inr (1, [.ref r, .int lp, .int lc, .int lw])), (r, .inr (0, [.ref k, .ref t, .int (nI n), .int cm, .int wr])), (k, .inl (cA, 500, .inl K)), (t, .inl (cB, 500, .inl T))] sz) h r k t cA cB) (va_A [(h, .inr (1, [.ref r, .int lp, .int lc, .int lw])), (r, .inr (0, [.ref k, .ref t, .int (nI n), .int cm, .int wr])), (k, .inl (cA, 500, .inl K)), (t, .inl (cB, 500, .inl T))] sz)) 0 0 (va_A [(h, .inr (1, [.ref r, .int lp, .int lc, .int lw])), (r, .inr (0, [.ref k, .ref t, .int (nI n), .int cm, .int wr])), (k, .inl (cA, 500, .inl K)), (t, .inl (cB, 500, .inl T))] sz) := by
  refine Met.ofW (cc := cX2_merge) (maxL := 5) (ret := (some .int)) (by decide) rfl ?_
  intro p e s m args below meth c s₁ B hml hv
  obtain ⟨rfl, hsz, hP, hK, hD0, hN0⟩ := hv
  have hx := B.exec
  have hb := B.bytes
  have hr := B.returns
  have hts := atoms_spec (ws := wsX2_merge) B.pre
  have hown : s.vm.findClass RX2 = some m.cls := findClass_of_methodNamed B.named
  have hlocks := B.notSynchronized
  subst hsz
  have hD := hD0.self (sz := s.heap.size)
  generalize hAe : va_A [(h, .inr (1, [.ref r, .int lp, .int lc, .int lw])), (r, .inr (0, [.ref k, .ref t, .int (nI n), .int cm, .int wr])), (k, .inl (cA, 500, .inl K)), (t, .inl (cB, 500, .inl T))] s.heap.size = A at hD ⊢
  have hA : ∀ q : Nat, s.heap.size ≤ q → A q := fun q h => by rw [← hAe]; exact Or.inr h
  have hS : va_S A s.heap s.heap [] := va_S.rf
  have hP : va_P (dC, dI) vwCl [(h, .inr (1, [.ref r, .int lp, .int lc, .int lw])), (r, .inr (0, [.ref k, .ref t, .int (nI n), .int cm, .int wr])), (k, .inl (cA, 500, .inl K)), (t, .inl (cB, 500, .inl T))] s.heap := hP
  have hl := lv_entry ([.ref h, .int x, .int y, .int v, .int o]) (n := 5) (Nat.le_of_ble_eq_true rfl)
  rw [lg_entry_eq]
  generalize (lg_sl ([.ref h, .int x, .int y, .int v, .int o]) ++ List.replicate (5 - (lg_sl ([.ref h, .int x, .int y, .int v, .int o])).length) Slot.unset).toArray = ls at hl ⊢
  have hl : lv_has ls 5 [(0, .ref h), (1, .int x), (2, .int y), (3, .int v), (4, .int o)] := hl
  refine lv_iload hx hb dX2_merge_0 (lv_at hl 4 rfl) ?_
  have hPc := hP.sub (ws' := []) [] rfl
  have hDc := hD.sub (ws' := []) [] (by decide) rfl
  have hKc := hK.sub (tys' := []) [] rfl
  have hFc := va_free (wc := []) hD hS hA [] rfl
  refine va_calli (va_runS (As := [.int o]) (rest := []) ⟨hx, hb, hml, hown, hts⟩ (c_X0_exists l dC dI s.heap.size o) (va_cwS 1 hts gX2_merge_X0_exists rfl rfl rfl (by decide +kernel) ⟨Nat.le_of_ble_eq_true rfl, Nat.le_of_ble_eq_true rfl⟩) ⟨fun a U g mk q => by obtain ⟨q0, q1, qP, qK, qD⟩ := q; exact ⟨q0, q1, qP, va_K.moved (u := U) (U := U.calling g mk a) (Vm.Alike.refl U.vm) qK, qD⟩, fun U hU hW => ⟨rfl, by rw [hU], by rw [hU]; exact hPc, va_K.moved hW.alike hKc, hDc.weaken (fun _ _ _ _ => trivial)⟩⟩ rfl rfl hl.1 rfl (lv_room (Nat.le_of_ble_eq_true rfl)) dX2_merge_2 ⟨Nat.le_of_ble_eq_true rfl, Nat.le_of_ble_eq_true rfl⟩) hS (fun q _ h => hFc q h) hFc (fun r_1 u tS H1 locs ht hvm hw hB hz1 hk1 hS => ?_)
  have he := hw
  obtain ⟨hP1, hK1, hD1⟩ := hB
  rw [ht] at hP1
  obtain ⟨hP, hD⟩ := va_join (wr := [(h, .inr (1, [.ref r, .int lp, .int lc, .int lw])), (r, .inr (0, [.ref k, .ref t, .int (nI n), .int cm, .int wr])), (k, .inl (cA, 500, .inl K)), (t, .inl (cB, 500, .inl T))]) (w1 := []) hP hD [] [0, 1, 2, 3] rfl rfl (by decide) (by decide) hk1 hFc hP1 hD1
  generalize H1 = H at hP hS ⊢
  have hP : va_P (dC, dI) vwCl [(h, .inr (1, [.ref r, .int lp, .int lc, .int lw])), (r, .inr (0, [.ref k, .ref t, .int (nI n), .int cm, .int wr])), (k, .inl (cA, 500, .inl K)), (t, .inl (cB, 500, .inl T))] H := hP
  have hD : va_D A [(h, .inr (1, [.ref r, .int lp, .int lc, .int lw])), (r, .inr (0, [.ref k, .ref t, .int (nI n), .int cm, .int wr])), (k, .inl (cA, 500, .inl K)), (t, .inl (cB, 500, .inl T))] := hD
  refine lv_if_eq (tgt := 21) hx hb dX2_merge_5 (by decide) (fun c5 => ?_) (fun c5 => ?_)
  · refine lv_iconst (v := (nI 0)) hx hb dX2_merge_21 (by decide) ?_
    exact W.iret (v := (nI 0)) hx hb hr (fun tS ht hW => ⟨⟨(nI 0), (K, T, n, cm, wr, lp, lc, lw), rfl, ⟨Or.inl ⟨⟨rfl, sam_rf⟩, fun z hz => tr_0 he c5 (dG_e hn hz).1⟩, ⟨hn, hck⟩⟩, by rw [ht]; exact hP, va_K.moved hW.alike hK, hD⟩, hS.F ht⟩) hS.2.2 dX2_merge_22
  · refine lv_aload_n hx hb dX2_merge_8 rfl (lv_at hl 0 rfl) ?_
    refine va_get (D := (dC, dI)) (ci := 1) (v := .ref r) (C := RX2) (T := TX2) (N := 4) hx hb hts (by decide +kernel) hown hK hP 0 rfl rfl 0 (by decide) (hts (.fieldLink RX2 10 "RowPress" "row" "LRowPress$Row;") (by decide +kernel)) (fun _ h9 => h9) rfl dX2_merge_9 ?_
    refine lv_iload_n hx hb dX2_merge_12 rfl (lv_at hl 1 rfl) ?_
    refine lv_iload_n hx hb dX2_merge_13 rfl (lv_at hl 2 rfl) ?_
    refine lv_iload_n hx hb dX2_merge_14 rfl (lv_at hl 3 rfl) ?_
    have hPc := hP.sub (ws' := [(r, .inr (0, [.ref k, .ref t, .int (nI n), .int cm, .int wr])), (k, .inl (cA, 500, .inl K)), (t, .inl (cB, 500, .inl T))]) [1, 2, 3] rfl
    have hDc := hD.sub (ws' := [(r, .inr (0, [.ref k, .ref t, .int (nI n), .int cm, .int wr])), (k, .inl (cA, 500, .inl K)), (t, .inl (cB, 500, .inl T))]) [1, 2, 3] (by decide) rfl
    have hKc := hK.sub (tys' := [(cA, .int), (cB, .int)]) [0, 1] rfl
    have hFc := va_free (wc := [(r, .inr (0, [.ref k, .ref t, .int (nI n), .int cm, .int wr])), (k, .inl (cA, 500, .inl K)), (t, .inl (cB, 500, .inl T))]) hD hS hA [1, 2, 3] rfl
    refine va_calli (va_runV (As := [.int x, .int y, .int v]) (rest := []) ⟨hx, hb, hml, hown, hts⟩ (c_X1_hasStretches l dC dI H.size r k t cA cB n cm wr K T hn x y v) (cwV 3 hts gX2_merge_X1_hasStretches rfl rfl rfl (by decide +kernel) ⟨Nat.le_of_ble_eq_true rfl, Nat.le_of_ble_eq_true rfl⟩) ⟨fun a U g mk q => by obtain ⟨q0, q1, qP, qK, qD⟩ := q; exact ⟨q0, q1, qP, va_K.moved (u := U) (U := U.calling g mk a) (Vm.Alike.refl U.vm) qK, qD⟩, va_recv hKc hPc (ci := 0) (q0 := 0) rfl rfl, fun U hU hW => ⟨rfl, by rw [hU], by rw [hU]; exact hPc, va_K.moved hW.alike hKc, hDc.weaken (fun _ _ _ _ => trivial)⟩⟩ rfl rfl hl.1 rfl (lv_room (Nat.le_of_ble_eq_true rfl)) dX2_merge_15 ⟨Nat.le_of_ble_eq_true rfl, Nat.le_of_ble_eq_true rfl⟩) hS (fun q _ h => hFc q h) hFc (fun r_2 u tS H1 locs ht hvm hw hB hz1 hk1 hS => ?_)
    obtain ⟨hs, rfl⟩ := hw
    obtain ⟨hP1, hK1, hD1⟩ := hB
    rw [ht] at hP1
    obtain ⟨hP, hD⟩ := va_join (wr := [(h, .inr (1, [.ref r, .int lp, .int lc, .int lw]))]) (w1 := [(r, .inr (0, [.ref k, .ref t, .int (nI n), .int cm, .int wr])), (k, .inl (cA, 500, .inl K)), (t, .inl (cB, 500, .inl T))]) hP hD [1, 2, 3] [0] rfl rfl (by decide) (by decide) hk1 hFc hP1 hD1
    generalize H1 = H at hP hS ⊢
    have hP : va_P (dC, dI) vwCl [(h, .inr (1, [.ref r, .int lp, .int lc, .int lw])), (r, .inr (0, [.ref k, .ref t, .int (nI n), .int cm, .int wr])), (k, .inl (cA, 500, .inl K)), (t, .inl (cB, 500, .inl T))] H := hP
    have hD : va_D A [(h, .inr (1, [.ref r, .int lp, .int lc, .int lw])), (r, .inr (0, [.ref k, .ref t, .int (nI n), .int cm, .int wr])), (k, .inl (cA, 500, .inl K)), (t, .inl (cB, 500, .inl T))] := hD
    refine lv_if_ne (tgt := 23) hx hb dX2_merge_18 (by decide) (fun c18 => ?_) (fun c18 => ?_)
    · obtain ⟨o1, ho, rfl⟩ := exO_of (tr_1 he c5)
      obtain ⟨hst1, hst2⟩ := tr_1 hs c18
      obtain ⟨a, d, rfl, rfl, had, hdn⟩ := stP_of hn hst1
      obtain ⟨d2, b, hd2, rfl, hdb, hbn⟩ := stP_of hn hst2
      obtain rfl : d = d2 := (nI_eq (by omega) (by omega)).mp hd2
      clear hd2
      have hb5 : b ≤ 500 := by omega
      refine lv_aload_n hx hb dX2_merge_23 rfl (lv_at hl 0 rfl) ?_
      refine va_get (D := (dC, dI)) (ci := 1) (v := .ref r) (C := RX2) (T := TX2) (N := 4) hx hb hts (by decide +kernel) hown hK hP 0 rfl rfl 0 (by decide) (hts (.fieldLink RX2 10 "RowPress" "row" "LRowPress$Row;") (by decide +kernel)) (fun _ h9 => h9) rfl dX2_merge_24 ?_
      have hPc := hP.sub (ws' := [(r, .inr (0, [.ref k, .ref t, .int (nI n), .int cm, .int wr])), (k, .inl (cA, 500, .inl K)), (t, .inl (cB, 500, .inl T))]) [1, 2, 3] rfl
      have hDc := hD.sub (ws' := [(r, .inr (0, [.ref k, .ref t, .int (nI n), .int cm, .int wr])), (k, .inl (cA, 500, .inl K)), (t, .inl (cB, 500, .inl T))]) [1, 2, 3] (by decide) rfl
      have hKc := hK.sub (tys' := [(cA, .int), (cB, .int)]) [0, 1] rfl
      have hFc := va_free (wc := [(r, .inr (0, [.ref k, .ref t, .int (nI n), .int cm, .int wr])), (k, .inl (cA, 500, .inl K)), (t, .inl (cB, 500, .inl T))]) hD hS hA [1, 2, 3] rfl
      refine va_callv (va_runV (As := []) (rest := []) ⟨hx, hb, hml, hown, hts⟩ (c_X1_startCounting l dC dI H.size r k t cA cB n cm wr K T ) (cwV 0 hts gX2_merge_X1_startCounting rfl rfl rfl (by decide +kernel) ⟨Nat.le_of_ble_eq_true rfl, Nat.le_of_ble_eq_true rfl⟩) ⟨fun a U g mk q => by obtain ⟨q0, q1, qP, qK, qD⟩ := q; exact ⟨q0, q1, qP, va_K.moved (u := U) (U := U.calling g mk a) (Vm.Alike.refl U.vm) qK, qD⟩, va_recv hKc hPc (ci := 0) (q0 := 0) rfl rfl, fun U hU hW => ⟨rfl, by rw [hU], by rw [hU]; exact hPc, va_K.moved hW.alike hKc, hDc.weaken (fun _ _ _ _ => trivial)⟩⟩ rfl rfl hl.1 rfl (lv_room (Nat.le_of_ble_eq_true rfl)) dX2_merge_27 ⟨Nat.le_of_ble_eq_true rfl, Nat.le_of_ble_eq_true rfl⟩) hS (fun q _ h => hFc q h) hFc (fun u tS H1 locs ht hvm hw hB hz1 hk1 hS => ?_)
      subst hw
      obtain ⟨hP1, hK1, hD1⟩ := hB
      rw [ht] at hP1
      obtain ⟨hP, hD⟩ := va_join (wr := [(h, .inr (1, [.ref r, .int lp, .int lc, .int lw]))]) (w1 := [(r, .inr (0, [.ref k, .ref t, .int (nI n), .int (nI 0), .int (nI 0)])), (k, .inl (cA, 500, .inl K)), (t, .inl (cB, 500, .inl T))]) hP hD [1, 2, 3] [0] rfl rfl (by decide) (by decide) hk1 hFc hP1 hD1
      generalize H1 = H at hP hS ⊢
      have hP : va_P (dC, dI) vwCl [(h, .inr (1, [.ref r, .int lp, .int lc, .int lw])), (r, .inr (0, [.ref k, .ref t, .int (nI n), .int (nI 0), .int (nI 0)])), (k, .inl (cA, 500, .inl K)), (t, .inl (cB, 500, .inl T))] H := hP
      have hD : va_D A [(h, .inr (1, [.ref r, .int lp, .int lc, .int lw])), (r, .inr (0, [.ref k, .ref t, .int (nI n), .int (nI 0), .int (nI 0)])), (k, .inl (cA, 500, .inl K)), (t, .inl (cB, 500, .inl T))] := hD
      refine lv_aload_n hx hb dX2_merge_30 rfl (lv_at hl 0 rfl) ?_
      refine va_get (D := (dC, dI)) (ci := 1) (v := .ref r) (C := RX2) (T := TX2) (N := 4) hx hb hts (by decide +kernel) hown hK hP 0 rfl rfl 0 (by decide) (hts (.fieldLink RX2 10 "RowPress" "row" "LRowPress$Row;") (by decide +kernel)) (fun _ h9 => h9) rfl dX2_merge_31 ?_
      refine lv_iload_n hx hb dX2_merge_34 rfl (lv_at hl 1 rfl) ?_
      refine lv_iload_n hx hb dX2_merge_35 rfl (lv_at hl 2 rfl) ?_
      refine lv_iload hx hb dX2_merge_36 (lv_at hl 4 rfl) ?_
      have hPc := hP.sub (ws' := [(r, .inr (0, [.ref k, .ref t, .int (nI n), .int (nI 0), .int (nI 0)])), (k, .inl (cA, 500, .inl K)), (t, .inl (cB, 500, .inl T))]) [1, 2, 3] rfl
      have hDc := hD.sub (ws' := [(r, .inr (0, [.ref k, .ref t, .int (nI n), .int (nI 0), .int (nI 0)])), (k, .inl (cA, 500, .inl K)), (t, .inl (cB, 500, .inl T))]) [1, 2, 3] (by decide) rfl
      have hKc := hK.sub (tys' := [(cA, .int), (cB, .int)]) [0, 1] rfl
      have hFc := va_free (wc := [(r, .inr (0, [.ref k, .ref t, .int (nI n), .int (nI 0), .int (nI 0)])), (k, .inl (cA, 500, .inl K)), (t, .inl (cB, 500, .inl T))]) hD hS hA [1, 2, 3] rfl
      refine va_calli (va_runV (As := [.int (nI a), .int (nI d), .int (nI o1)]) (rest := []) ⟨hx, hb, hml, hown, hts⟩ (c_X1_inOrder l dC dI H.size r k t cA cB n (nI 0) (nI 0) K T a d o1 (by omega) (by omega) ho) (cwV 3 hts gX2_merge_X1_inOrder rfl rfl rfl (by decide +kernel) ⟨Nat.le_of_ble_eq_true rfl, Nat.le_of_ble_eq_true rfl⟩) ⟨fun a U g mk q => by obtain ⟨q0, q1, qP, qK, qD⟩ := q; exact ⟨q0, q1, qP, va_K.moved (u := U) (U := U.calling g mk a) (Vm.Alike.refl U.vm) qK, qD⟩, va_recv hKc hPc (ci := 0) (q0 := 0) rfl rfl, fun U hU hW => ⟨rfl, by rw [hU], by rw [hU]; exact hPc, va_K.moved hW.alike hKc, hDc.weaken (fun _ _ _ _ => trivial)⟩⟩ rfl rfl hl.1 rfl (lv_room (Nat.le_of_ble_eq_true rfl)) dX2_merge_38 ⟨Nat.le_of_ble_eq_true rfl, Nat.le_of_ble_eq_true rfl⟩) hS (fun q _ h => hFc q h) hFc (fun r_4 u tS H1 locs ht hvm hw hB hz1 hk1 hS => ?_)
      obtain ⟨hi1, d1, hd1, rfl⟩ := hw
      obtain ⟨hP1, hK1, hD1⟩ := hB
      rw [ht] at hP1
      obtain ⟨hP, hD⟩ := va_join (wr := [(h, .inr (1, [.ref r, .int lp, .int lc, .int lw]))]) (w1 := [(r, .inr (0, [.ref k, .ref t, .int (nI n), .int ((nI 0) + nI d1), .int (nI 0)])), (k, .inl (cA, 500, .inl K)), (t, .inl (cB, 500, .inl T))]) hP hD [1, 2, 3] [0] rfl rfl (by decide) (by decide) hk1 hFc hP1 hD1
      generalize H1 = H at hP hS ⊢
      have hP : va_P (dC, dI) vwCl [(h, .inr (1, [.ref r, .int lp, .int lc, .int lw])), (r, .inr (0, [.ref k, .ref t, .int (nI n), .int ((nI 0) + nI d1), .int (nI 0)])), (k, .inl (cA, 500, .inl K)), (t, .inl (cB, 500, .inl T))] H := hP
      have hD : va_D A [(h, .inr (1, [.ref r, .int lp, .int lc, .int lw])), (r, .inr (0, [.ref k, .ref t, .int (nI n), .int ((nI 0) + nI d1), .int (nI 0)])), (k, .inl (cA, 500, .inl K)), (t, .inl (cB, 500, .inl T))] := hD
      refine lv_if_eq (tgt := 58) hx hb dX2_merge_41 (by decide) (fun c41 => ?_) (fun c41 => ?_)
      · refine lv_iconst (v := (nI 0)) hx hb dX2_merge_58 (by decide) ?_
        exact W.iret (v := (nI 0)) hx hb hr (fun tS ht hW => ⟨⟨(nI 0), (K, T, n, ((nI 0) + nI d1), (nI 0), lp, lc, lw), rfl, ⟨Or.inr ⟨(a, d, b, o1), ⟨rfl, rfl, rfl, rfl, had, hdb, hbn, ho⟩, Or.inl ⟨fun z => tr_0 hi1 c41 z.1, rfl, sam_rf⟩⟩, ⟨hn, hck⟩⟩, by rw [ht]; exact hP, va_K.moved hW.alike hK, hD⟩, hS.F ht⟩) hS.2.2 dX2_merge_59
      · refine lv_aload_n hx hb dX2_merge_44 rfl (lv_at hl 0 rfl) ?_
        refine va_get (D := (dC, dI)) (ci := 1) (v := .ref r) (C := RX2) (T := TX2) (N := 4) hx hb hts (by decide +kernel) hown hK hP 0 rfl rfl 0 (by decide) (hts (.fieldLink RX2 10 "RowPress" "row" "LRowPress$Row;") (by decide +kernel)) (fun _ h9 => h9) rfl dX2_merge_45 ?_
        refine lv_iload_n hx hb dX2_merge_48 rfl (lv_at hl 2 rfl) ?_
        refine lv_iload_n hx hb dX2_merge_49 rfl (lv_at hl 3 rfl) ?_
        refine lv_iload hx hb dX2_merge_50 (lv_at hl 4 rfl) ?_
        have hPc := hP.sub (ws' := [(r, .inr (0, [.ref k, .ref t, .int (nI n), .int ((nI 0) + nI d1), .int (nI 0)])), (k, .inl (cA, 500, .inl K)), (t, .inl (cB, 500, .inl T))]) [1, 2, 3] rfl
        have hDc := hD.sub (ws' := [(r, .inr (0, [.ref k, .ref t, .int (nI n), .int ((nI 0) + nI d1), .int (nI 0)])), (k, .inl (cA, 500, .inl K)), (t, .inl (cB, 500, .inl T))]) [1, 2, 3] (by decide) rfl
        have hKc := hK.sub (tys' := [(cA, .int), (cB, .int)]) [0, 1] rfl
        have hFc := va_free (wc := [(r, .inr (0, [.ref k, .ref t, .int (nI n), .int ((nI 0) + nI d1), .int (nI 0)])), (k, .inl (cA, 500, .inl K)), (t, .inl (cB, 500, .inl T))]) hD hS hA [1, 2, 3] rfl
        refine va_calli (va_runV (As := [.int (nI d), .int (nI b), .int (nI o1)]) (rest := []) ⟨hx, hb, hml, hown, hts⟩ (c_X1_inOrder l dC dI H.size r k t cA cB n ((nI 0) + nI d1) (nI 0) K T d b o1 (by omega) (by omega) ho) (cwV 3 hts gX2_merge_X1_inOrder rfl rfl rfl (by decide +kernel) ⟨Nat.le_of_ble_eq_true rfl, Nat.le_of_ble_eq_true rfl⟩) ⟨fun a U g mk q => by obtain ⟨q0, q1, qP, qK, qD⟩ := q; exact ⟨q0, q1, qP, va_K.moved (u := U) (U := U.calling g mk a) (Vm.Alike.refl U.vm) qK, qD⟩, va_recv hKc hPc (ci := 0) (q0 := 0) rfl rfl, fun U hU hW => ⟨rfl, by rw [hU], by rw [hU]; exact hPc, va_K.moved hW.alike hKc, hDc.weaken (fun _ _ _ _ => trivial)⟩⟩ rfl rfl hl.1 rfl (lv_room (Nat.le_of_ble_eq_true rfl)) dX2_merge_52 ⟨Nat.le_of_ble_eq_true rfl, Nat.le_of_ble_eq_true rfl⟩) hS (fun q _ h => hFc q h) hFc (fun r_5 u tS H1 locs ht hvm hw hB hz1 hk1 hS => ?_)
        obtain ⟨hi2, d2, hd2, rfl⟩ := hw
        obtain ⟨hP1, hK1, hD1⟩ := hB
        rw [ht] at hP1
        obtain ⟨hP, hD⟩ := va_join (wr := [(h, .inr (1, [.ref r, .int lp, .int lc, .int lw]))]) (w1 := [(r, .inr (0, [.ref k, .ref t, .int (nI n), .int (((nI 0) + nI d1) + nI d2), .int (nI 0)])), (k, .inl (cA, 500, .inl K)), (t, .inl (cB, 500, .inl T))]) hP hD [1, 2, 3] [0] rfl rfl (by decide) (by decide) hk1 hFc hP1 hD1
        generalize H1 = H at hP hS ⊢
        have hP : va_P (dC, dI) vwCl [(h, .inr (1, [.ref r, .int lp, .int lc, .int lw])), (r, .inr (0, [.ref k, .ref t, .int (nI n), .int (((nI 0) + nI d1) + nI d2), .int (nI 0)])), (k, .inl (cA, 500, .inl K)), (t, .inl (cB, 500, .inl T))] H := hP
        have hD : va_D A [(h, .inr (1, [.ref r, .int lp, .int lc, .int lw])), (r, .inr (0, [.ref k, .ref t, .int (nI n), .int (((nI 0) + nI d1) + nI d2), .int (nI 0)])), (k, .inl (cA, 500, .inl K)), (t, .inl (cB, 500, .inl T))] := hD
        refine lv_if_ne (tgt := 60) hx hb dX2_merge_55 (by decide) (fun c55 => ?_) (fun c55 => ?_)
        · refine lv_aload_n hx hb dX2_merge_60 rfl (lv_at hl 0 rfl) ?_
          refine va_get (D := (dC, dI)) (ci := 1) (v := .ref r) (C := RX2) (T := TX2) (N := 4) hx hb hts (by decide +kernel) hown hK hP 0 rfl rfl 0 (by decide) (hts (.fieldLink RX2 10 "RowPress" "row" "LRowPress$Row;") (by decide +kernel)) (fun _ h9 => h9) rfl dX2_merge_61 ?_
          refine lv_iload_n hx hb dX2_merge_64 rfl (lv_at hl 1 rfl) ?_
          refine lv_iload_n hx hb dX2_merge_65 rfl (lv_at hl 2 rfl) ?_
          refine lv_iload_n hx hb dX2_merge_66 rfl (lv_at hl 3 rfl) ?_
          refine lv_iload hx hb dX2_merge_67 (lv_at hl 4 rfl) ?_
          refine lv_iconst (v := (nI 0)) hx hb dX2_merge_69 (by decide) ?_
          obtain ⟨kk, hkk, hk1, hk2⟩ := mc_k (show b - a ≤ 500 by omega)
          have hPc := hP.sub (ws' := [(r, .inr (0, [.ref k, .ref t, .int (nI n), .int (((nI 0) + nI d1) + nI d2), .int (nI 0)])), (k, .inl (cA, 500, .inl K)), (t, .inl (cB, 500, .inl T))]) [1, 2, 3] rfl
          have hDc := hD.sub (ws' := [(r, .inr (0, [.ref k, .ref t, .int (nI n), .int (((nI 0) + nI d1) + nI d2), .int (nI 0)])), (k, .inl (cA, 500, .inl K)), (t, .inl (cB, 500, .inl T))]) [1, 2, 3] (by decide) rfl
          have hKc := hK.sub (tys' := [(cA, .int), (cB, .int)]) [0, 1] rfl
          have hFc := va_free (wc := [(r, .inr (0, [.ref k, .ref t, .int (nI n), .int (((nI 0) + nI d1) + nI d2), .int (nI 0)])), (k, .inl (cA, 500, .inl K)), (t, .inl (cB, 500, .inl T))]) hD hS hA [1, 2, 3] rfl
          refine va_callv (va_runSN (As := [.ref r, .int (nI a), .int (nI d), .int (nI b), .int (nI o1), .int (nI 0)]) (rest := []) ⟨hx, hb, hml, hown, hts⟩ (c_X1_mergeInPlace l dC dI r k t cA cB kk H.size n (((nI 0) + nI d1) + nI d2) (nI 0) K T a d b o1 0 had hdb hb5 ho hk1 (by omega) (tr_1 hi1 c41) (tr_1 hi2 c55)) ⟨va_cnB (own := RX2) (host := RX2) (index := 59) 6 hts gX2_merge_X1_mergeInPlace_n59 rfl rfl rfl hN0 (hts (.initialized RX1) (by decide +kernel)) (by decide +kernel) ⟨by show 3 + kk + 1 ≤ 13; omega, by show 8 + (9 + 11) + (74 + 28 * kk) ≤ 354; omega⟩, hts (.static yX1_mergeInPlace) (by decide +kernel), trivial⟩ ⟨fun a U g mk q => by obtain ⟨q0, q1, qP, qK, qD⟩ := q; exact ⟨q0, q1, qP, va_K.moved (u := U) (U := U.calling g mk a) (Vm.Alike.refl U.vm) qK, qD⟩, fun U hU hW => ⟨rfl, by rw [hU], by rw [hU]; exact hPc, va_K.moved hW.alike hKc, hDc.weaken (fun _ _ _ _ => trivial)⟩⟩ rfl rfl hl.1 rfl (lv_room (Nat.le_of_ble_eq_true rfl)) dX2_merge_70 ⟨Nat.le_of_ble_eq_true rfl, Nat.le_of_ble_eq_true rfl⟩) hS (fun q _ h => hFc q h) hFc (fun u tS H1 locs ht hvm hw hB hz1 hk1 hS => ?_)
          obtain ⟨K1, T1, n1, e1, w1⟩ := u
          obtain ⟨zo, zs, zm, zn, ⟨g1, zg1, zc⟩, g2, zg2, zw⟩ := hw
          dsimp only at zo zs zm zn zc zw
          subst zn; subst zc; subst zw
          obtain ⟨hP1, hK1, hD1⟩ := hB
          rw [ht] at hP1
          obtain ⟨hP, hD⟩ := va_join (wr := [(h, .inr (1, [.ref r, .int lp, .int lc, .int lw]))]) (w1 := [(r, .inr (0, [.ref k, .ref t, .int (nI n), .int ((((nI 0) + nI d1) + nI d2) + nI g1), .int ((nI 0) + nI g2)])), (k, .inl (cA, 500, .inl K1)), (t, .inl (cB, 500, .inl T1))]) hP hD [1, 2, 3] [0] rfl rfl (by decide) (by decide) hk1 hFc hP1 hD1
          generalize H1 = H at hP hS ⊢
          have hP : va_P (dC, dI) vwCl [(h, .inr (1, [.ref r, .int lp, .int lc, .int lw])), (r, .inr (0, [.ref k, .ref t, .int (nI n), .int ((((nI 0) + nI d1) + nI d2) + nI g1), .int ((nI 0) + nI g2)])), (k, .inl (cA, 500, .inl K1)), (t, .inl (cB, 500, .inl T1))] H := hP
          have hD : va_D A [(h, .inr (1, [.ref r, .int lp, .int lc, .int lw])), (r, .inr (0, [.ref k, .ref t, .int (nI n), .int ((((nI 0) + nI d1) + nI d2) + nI g1), .int ((nI 0) + nI g2)])), (k, .inl (cA, 500, .inl K1)), (t, .inl (cB, 500, .inl T1))] := hD
          refine lv_aload_n hx hb dX2_merge_73 rfl (lv_at hl 0 rfl) ?_
          refine lv_iload_n hx hb dX2_merge_74 rfl (lv_at hl 3 rfl) ?_
          refine lv_iload_n hx hb dX2_merge_75 rfl (lv_at hl 1 rfl) ?_
          refine lv_isub hx hb dX2_merge_76 ?_
          refine lz_top (y := (nI (b - a))) (pk_sub (by omega)) ?_
          have hPc := hP.sub (ws' := [(h, .inr (1, [.ref r, .int lp, .int lc, .int lw])), (r, .inr (0, [.ref k, .ref t, .int (nI n), .int ((((nI 0) + nI d1) + nI d2) + nI g1), .int ((nI 0) + nI g2)])), (k, .inl (cA, 500, .inl K1)), (t, .inl (cB, 500, .inl T1))]) [0, 1, 2, 3] rfl
          have hDc := hD.sub (ws' := [(h, .inr (1, [.ref r, .int lp, .int lc, .int lw])), (r, .inr (0, [.ref k, .ref t, .int (nI n), .int ((((nI 0) + nI d1) + nI d2) + nI g1), .int ((nI 0) + nI g2)])), (k, .inl (cA, 500, .inl K1)), (t, .inl (cB, 500, .inl T1))]) [0, 1, 2, 3] (by decide) rfl
          have hKc := hK.sub (tys' := [(cA, .int), (cB, .int)]) [0, 1] rfl
          have hFc := va_free (wc := [(h, .inr (1, [.ref r, .int lp, .int lc, .int lw])), (r, .inr (0, [.ref k, .ref t, .int (nI n), .int ((((nI 0) + nI d1) + nI d2) + nI g1), .int ((nI 0) + nI g2)])), (k, .inl (cA, 500, .inl K1)), (t, .inl (cB, 500, .inl T1))]) hD hS hA [0, 1, 2, 3] rfl
          refine va_callv (va_runV (As := [.int (nI (b - a))]) (rest := []) ⟨hx, hb, hml, hown, hts⟩ (c_X2_keepCounts l dC dI H.size h r k t cA cB n ((((nI 0) + nI d1) + nI d2) + nI g1) ((nI 0) + nI g2) lp lc lw K1 T1 (nI (b - a))) (cwV 1 hts gX2_merge_X2_keepCounts rfl rfl rfl (by decide +kernel) ⟨Nat.le_of_ble_eq_true rfl, Nat.le_of_ble_eq_true rfl⟩) ⟨fun a U g mk q => by obtain ⟨q0, q1, qP, qK, qD⟩ := q; exact ⟨q0, q1, qP, va_K.moved (u := U) (U := U.calling g mk a) (Vm.Alike.refl U.vm) qK, qD⟩, va_recv hKc hPc (ci := 1) (q0 := 0) rfl rfl, fun U hU hW => ⟨rfl, by rw [hU], by rw [hU]; exact hPc, va_K.moved hW.alike hKc, hDc.weaken (fun _ _ _ _ => trivial)⟩⟩ rfl rfl hl.1 rfl (lv_room (Nat.le_of_ble_eq_true rfl)) dX2_merge_77 ⟨Nat.le_of_ble_eq_true rfl, Nat.le_of_ble_eq_true rfl⟩) hS (fun q _ h => hFc q h) hFc (fun u tS H1 locs ht hvm hw hB hz1 hk1 hS => ?_)
          subst hw
          obtain ⟨hP1, hK1, hD1⟩ := hB
          rw [ht] at hP1
          obtain ⟨hP, hD⟩ := va_join (wr := []) (w1 := [(h, .inr (1, [.ref r, .int (nI (b - a)), .int ((((nI 0) + nI d1) + nI d2) + nI g1), .int ((nI 0) + nI g2)])), (r, .inr (0, [.ref k, .ref t, .int (nI n), .int ((((nI 0) + nI d1) + nI d2) + nI g1), .int ((nI 0) + nI g2)])), (k, .inl (cA, 500, .inl K1)), (t, .inl (cB, 500, .inl T1))]) hP hD [0, 1, 2, 3] [] rfl rfl (by decide) (by decide) hk1 hFc hP1 hD1
          generalize H1 = H at hP hS ⊢
          have hP : va_P (dC, dI) vwCl [(h, .inr (1, [.ref r, .int (nI (b - a)), .int ((((nI 0) + nI d1) + nI d2) + nI g1), .int ((nI 0) + nI g2)])), (r, .inr (0, [.ref k, .ref t, .int (nI n), .int ((((nI 0) + nI d1) + nI d2) + nI g1), .int ((nI 0) + nI g2)])), (k, .inl (cA, 500, .inl K1)), (t, .inl (cB, 500, .inl T1))] H := hP
          have hD : va_D A [(h, .inr (1, [.ref r, .int (nI (b - a)), .int ((((nI 0) + nI d1) + nI d2) + nI g1), .int ((nI 0) + nI g2)])), (r, .inr (0, [.ref k, .ref t, .int (nI n), .int ((((nI 0) + nI d1) + nI d2) + nI g1), .int ((nI 0) + nI g2)])), (k, .inl (cA, 500, .inl K1)), (t, .inl (cB, 500, .inl T1))] := hD
          refine lv_iconst (v := (nI 1)) hx hb dX2_merge_80 (by decide) ?_
          exact W.iret (v := (nI 1)) hx hb hr (fun tS ht hW => ⟨⟨(nI 1), (K1, T1, n, ((((nI 0) + nI d1) + nI d2) + nI g1), ((nI 0) + nI g2), (nI (b - a)), ((((nI 0) + nI d1) + nI d2) + nI g1), ((nI 0) + nI g2)), rfl, ⟨Or.inr ⟨(a, d, b, o1), ⟨rfl, rfl, rfl, rfl, had, hdb, hbn, ho⟩, Or.inr ⟨tr_1 hi1 c41, tr_1 hi2 c55, rfl, rfl, soC_of zo zs zm⟩⟩, ⟨hn, ⟨b - a, d1 + d2 + g1, g2, rfl, by omega, by rw [z_ad, nI_add, nI_add], mc_8 zg1 (by omega) hk2, by have := mc_g zg1 hkk; omega, z_ad g2, mc_40 zg2 hk2, by have := mc_w zg2 (by omega) hkk; omega⟩⟩⟩, by rw [ht]; exact hP, va_K.moved hW.alike hK, hD⟩, hS.F ht⟩) hS.2.2 dX2_merge_81
        · refine lv_iconst (v := (nI 0)) hx hb dX2_merge_58 (by decide) ?_
          exact W.iret (v := (nI 0)) hx hb hr (fun tS ht hW => ⟨⟨(nI 0), (K, T, n, (((nI 0) + nI d1) + nI d2), (nI 0), lp, lc, lw), rfl, ⟨Or.inr ⟨(a, d, b, o1), ⟨rfl, rfl, rfl, rfl, had, hdb, hbn, ho⟩, Or.inl ⟨fun z => tr_0 hi2 c55 z.2, rfl, sam_rf⟩⟩, ⟨hn, hck⟩⟩, by rw [ht]; exact hP, va_K.moved hW.alike hK, hD⟩, hS.F ht⟩) hS.2.2 dX2_merge_59
    · refine lv_iconst (v := (nI 0)) hx hb dX2_merge_21 (by decide) ?_
      exact W.iret (v := (nI 0)) hx hb hr (fun tS ht hW => ⟨⟨(nI 0), (K, T, n, cm, wr, lp, lc, lw), rfl, ⟨Or.inl ⟨⟨rfl, sam_rf⟩, fun z hz => tr_0 hs c18 (dG_e hn hz).2⟩, ⟨hn, hck⟩⟩, by rw [ht]; exact hP, va_K.moved hW.alike hK, hD⟩, hS.F ht⟩) hS.2.2 dX2_merge_22
