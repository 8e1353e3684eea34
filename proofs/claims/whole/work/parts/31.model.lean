set_option maxHeartbeats 4000000 in
set_option maxRecDepth 100000 in
theorem c_X3_sort (l : Launch) (dC : Nat → ClassId) (dI : Nat → Nat → Nat) (sz : Nat) (h k t k2 t2 : Nat) (cA cB cC cD : ClassId) (n : Nat) (K T NK NT : Nat → Int32) (hn : n ≤ 500) (o : Int32) : Met l yX3_sort wsX3_sort ({ frames := 3, cells := 0, slots := 0, locals := 73 }) (va_Pc [.ref h, .int o] (fun U => U.heap.size = sz ∧ va_P (dC, dI) vwCl [(h, .inr (2, [.ref k, .ref t, .int (nI n), .ref k2, .ref t2])), (k, .inl (cA, 500, .inl K)), (t, .inl (cB, 500, .inl T)), (k2, .inl (cC, 500, .inl NK)), (t2, .inl (cD, 500, .inl NT))] U.heap ∧ va_K (dC, dI) vwCl [(cA, .int), (cB, .int), (cC, .int), (cD, .int)] U ∧ va_D (fun _ => True) [(h, .inr (2, [.ref k, .ref t, .int (nI n), .ref k2, .ref t2])), (k, .inl (cA, 500, .inl K)), (t, .inl (cB, 500, .inl T)), (k2, .inl (cC, 500, .inl NK)), (t2, .inl (cD, 500, .inl NT))])) (va_Qi (fun r u => QsoR n (mZ K T) (nI 0) (nI n) o r u.2.2.1 (mZ u.1 u.2.1)) (atM dC dI (va_A [(h, .inr (2, [.ref k, .ref t, .int (nI n), .ref k2, .ref t2])), (k, .inl (cA, 500, .inl K)), (t, .inl (cB, 500, .inl T)), (k2, .inl (cC, 500, .inl NK)), (t2, .inl (cD, 500, .inl NT))] sz) h k t k2 t2 cA cB cC cD) (va_A [(h, .inr (2, [.ref k, .ref t, .int (nI n), .ref k2, .ref t2])), (k, .inl (cA, 500, .inl K)), (t, .inl (cB, 500, .inl T)), (k2, .inl (cC, 500, .inl NK)), (t2, .inl (cD, 500, .inl NT))] sz)) 0 0 (va_A [(h, .inr (2, [.ref k, .ref t, .int (nI n), .ref k2, .ref t2])), (k, .inl (cA, 500, .inl K)), (t, .inl (cB, 500, .inl T)), (k2, .inl (cC, 500, .inl NK)), (t2, .inl (cD, 500, .inl NT))] sz) := by
  refine Met.ofW (cc := cX3_sort) (maxL := 2) (ret := (some .int)) (by decide) rfl ?_
  intro p e s m args below meth c s₁ B hml hv
  obtain ⟨rfl, hsz, hP, hK, hD0⟩ := hv
  have hx := B.exec
  have hb := B.bytes
  have hr := B.returns
  have hts := atoms_spec (ws := wsX3_sort) B.pre
  have hown : s.vm.findClass RX3 = some m.cls := findClass_of_methodNamed B.named
  have hlocks := B.notSynchronized
  subst hsz
  have hD := hD0.self (sz := s.heap.size)
  generalize hAe : va_A [(h, .inr (2, [.ref k, .ref t, .int (nI n), .ref k2, .ref t2])), (k, .inl (cA, 500, .inl K)), (t, .inl (cB, 500, .inl T)), (k2, .inl (cC, 500, .inl NK)), (t2, .inl (cD, 500, .inl NT))] s.heap.size = A at hD ⊢
  have hA : ∀ q : Nat, s.heap.size ≤ q → A q := fun q h => by rw [← hAe]; exact Or.inr h
  have hS : va_S A s.heap s.heap [] := va_S.rf
  have hP : va_P (dC, dI) vwCl [(h, .inr (2, [.ref k, .ref t, .int (nI n), .ref k2, .ref t2])), (k, .inl (cA, 500, .inl K)), (t, .inl (cB, 500, .inl T)), (k2, .inl (cC, 500, .inl NK)), (t2, .inl (cD, 500, .inl NT))] s.heap := hP
  have hl := lv_entry ([.ref h, .int o]) (n := 2) (Nat.le_of_ble_eq_true rfl)
  rw [lg_entry_eq]
  generalize (lg_sl ([.ref h, .int o]) ++ List.replicate (2 - (lg_sl ([.ref h, .int o])).length) Slot.unset).toArray = ls at hl ⊢
  have hl : lv_has ls 2 [(0, .ref h), (1, .int o)] := hl
  refine lv_iload_n hx hb dX3_sort_0 rfl (lv_at hl 1 rfl) ?_
  have hPc := hP.sub (ws' := []) [] rfl
  have hDc := hD.sub (ws' := []) [] (by decide) rfl
  have hKc := hK.sub (tys' := []) [] rfl
  have hFc := va_free (wc := []) hD hS hA [] rfl
  refine va_calli (va_runS (As := [.int o]) (rest := []) ⟨hx, hb, hml, hown, hts⟩ (c_X3_isOrder l dC dI s.heap.size o) (va_cwS 1 hts gX3_sort_X3_isOrder rfl rfl rfl (by decide +kernel) ⟨Nat.le_of_ble_eq_true rfl, Nat.le_of_ble_eq_true rfl⟩) ⟨fun a U g mk q => by obtain ⟨q0, q1, qP, qK, qD⟩ := q; exact ⟨q0, q1, qP, va_K.moved (u := U) (U := U.calling g mk a) (Vm.Alike.refl U.vm) qK, qD⟩, fun U hU hW => ⟨rfl, by rw [hU], by rw [hU]; exact hPc, va_K.moved hW.alike hKc, hDc.weaken (fun _ _ _ _ => trivial)⟩⟩ rfl rfl hl.1 rfl (lv_room (Nat.le_of_ble_eq_true rfl)) dX3_sort_1 ⟨Nat.le_of_ble_eq_true rfl, Nat.le_of_ble_eq_true rfl⟩) hS (fun q _ h => hFc q h) hFc (fun r_1 u tS H1 locs ht hvm hw hB hz1 hk1 hS => ?_)
  have he := hw
  obtain ⟨hP1, hK1, hD1⟩ := hB
  rw [ht] at hP1
  obtain ⟨hP, hD⟩ := va_join (wr := [(h, .inr (2, [.ref k, .ref t, .int (nI n), .ref k2, .ref t2])), (k, .inl (cA, 500, .inl K)), (t, .inl (cB, 500, .inl T)), (k2, .inl (cC, 500, .inl NK)), (t2, .inl (cD, 500, .inl NT))]) (w1 := []) hP hD [] [0, 1, 2, 3, 4] rfl rfl (by decide) (by decide) hk1 hFc hP1 hD1
  generalize H1 = H at hP hS ⊢
  have hP : va_P (dC, dI) vwCl [(h, .inr (2, [.ref k, .ref t, .int (nI n), .ref k2, .ref t2])), (k, .inl (cA, 500, .inl K)), (t, .inl (cB, 500, .inl T)), (k2, .inl (cC, 500, .inl NK)), (t2, .inl (cD, 500, .inl NT))] H := hP
  have hD : va_D A [(h, .inr (2, [.ref k, .ref t, .int (nI n), .ref k2, .ref t2])), (k, .inl (cA, 500, .inl K)), (t, .inl (cB, 500, .inl T)), (k2, .inl (cC, 500, .inl NK)), (t2, .inl (cD, 500, .inl NT))] := hD
  refine lv_if_ne (tgt := 9) hx hb dX3_sort_4 (by decide) (fun c4 => ?_) (fun c4 => ?_)
  · obtain ⟨o1, ho, rfl⟩ := exO_of (tr_1 he c4)
    refine lv_aload_n hx hb dX3_sort_9 rfl (lv_at hl 0 rfl) ?_
    refine lv_iconst (v := (nI 0)) hx hb dX3_sort_10 (by decide) ?_
    refine lv_aload_n hx hb dX3_sort_11 rfl (lv_at hl 0 rfl) ?_
    refine va_get (D := (dC, dI)) (ci := 2) (v := .int (nI n)) (C := RX3) (T := TX3) (N := 5) hx hb hts (by decide +kernel) hown hK hP 0 rfl rfl 2 (by decide) (hts (.fieldLink RX3 22 "RowPressModel" "many" "I") (by decide +kernel)) (fun _ h9 => h9) rfl dX3_sort_12 ?_
    refine lv_iload_n hx hb dX3_sort_15 rfl (lv_at hl 1 rfl) ?_
    have hPc := hP.sub (ws' := [(h, .inr (2, [.ref k, .ref t, .int (nI n), .ref k2, .ref t2])), (k, .inl (cA, 500, .inl K)), (t, .inl (cB, 500, .inl T)), (k2, .inl (cC, 500, .inl NK)), (t2, .inl (cD, 500, .inl NT))]) [0, 1, 2, 3, 4] rfl
    have hDc := hD.sub (ws' := [(h, .inr (2, [.ref k, .ref t, .int (nI n), .ref k2, .ref t2])), (k, .inl (cA, 500, .inl K)), (t, .inl (cB, 500, .inl T)), (k2, .inl (cC, 500, .inl NK)), (t2, .inl (cD, 500, .inl NT))]) [0, 1, 2, 3, 4] (by decide) rfl
    have hKc := hK.sub (tys' := [(cA, .int), (cB, .int), (cC, .int), (cD, .int)]) [0, 1, 2, 3] rfl
    have hFc := va_free (wc := [(h, .inr (2, [.ref k, .ref t, .int (nI n), .ref k2, .ref t2])), (k, .inl (cA, 500, .inl K)), (t, .inl (cB, 500, .inl T)), (k2, .inl (cC, 500, .inl NK)), (t2, .inl (cD, 500, .inl NT))]) hD hS hA [0, 1, 2, 3, 4] rfl
    refine va_callv (va_runV (As := [.int (nI 0), .int (nI n), .int (nI o1)]) (rest := []) ⟨hx, hb, hml, hown, hts⟩ (c_X3_arrange l dC dI H.size h k t k2 t2 cA cB cC cD n K T NK NT 0 n o1 (Nat.zero_le _) hn ho) (cwV 3 hts gX3_sort_X3_arrange rfl rfl rfl (by decide +kernel) ⟨Nat.le_of_ble_eq_true rfl, Nat.le_of_ble_eq_true rfl⟩) ⟨fun a U g mk q => by obtain ⟨q0, q1, qP, qK, qD⟩ := q; exact ⟨q0, q1, qP, va_K.moved (u := U) (U := U.calling g mk a) (Vm.Alike.refl U.vm) qK, qD⟩, va_recv hKc hPc (ci := 2) (q0 := 0) rfl rfl, fun U hU hW => ⟨rfl, by rw [hU], by rw [hU]; exact hPc, va_K.moved hW.alike hKc, hDc.weaken (fun _ _ _ _ => trivial)⟩⟩ rfl rfl hl.1 rfl (lv_room (Nat.le_of_ble_eq_true rfl)) dX3_sort_16 ⟨Nat.le_of_ble_eq_true rfl, Nat.le_of_ble_eq_true rfl⟩) hS (fun q _ h => hFc q h) hFc (fun u tS H1 locs ht hvm hw hB hz1 hk1 hS => ?_)
    obtain ⟨K9, T9, n9, NK9, NT9⟩ := u
    obtain ⟨hso, hn9⟩ := hw
    dsimp only at hso hn9
    subst hn9
    obtain ⟨hP1, hK1, hD1⟩ := hB
    rw [ht] at hP1
    obtain ⟨hP, hD⟩ := va_join (wr := []) (w1 := [(h, .inr (2, [.ref k, .ref t, .int (nI n), .ref k2, .ref t2])), (k, .inl (cA, 500, .inl K9)), (t, .inl (cB, 500, .inl T9)), (k2, .inl (cC, 500, .inl NK9)), (t2, .inl (cD, 500, .inl NT9))]) hP hD [0, 1, 2, 3, 4] [] rfl rfl (by decide) (by decide) hk1 hFc hP1 hD1
    generalize H1 = H at hP hS ⊢
    have hP : va_P (dC, dI) vwCl [(h, .inr (2, [.ref k, .ref t, .int (nI n), .ref k2, .ref t2])), (k, .inl (cA, 500, .inl K9)), (t, .inl (cB, 500, .inl T9)), (k2, .inl (cC, 500, .inl NK9)), (t2, .inl (cD, 500, .inl NT9))] H := hP
    have hD : va_D A [(h, .inr (2, [.ref k, .ref t, .int (nI n), .ref k2, .ref t2])), (k, .inl (cA, 500, .inl K9)), (t, .inl (cB, 500, .inl T9)), (k2, .inl (cC, 500, .inl NK9)), (t2, .inl (cD, 500, .inl NT9))] := hD
    refine lv_iconst (v := (nI 1)) hx hb dX3_sort_19 (by decide) ?_
    exact W.iret (v := (nI 1)) hx hb hr (fun tS ht hW => ⟨⟨(nI 1), (K9, T9, n, NK9, NT9), rfl, Or.inr ⟨(0, n, o1), ⟨rfl, rfl, rfl, Nat.zero_le _, Nat.le_refl _, ho⟩, rfl, rfl, ⟨fun j hj z => hso.1 j (by omega) z, hso.2⟩⟩, by rw [ht]; exact hP, va_K.moved hW.alike hK, hD⟩, hS.F ht⟩) hS.2.2 dX3_sort_20
  · refine lv_iconst (v := (nI 0)) hx hb dX3_sort_7 (by decide) ?_
    exact W.iret (v := (nI 0)) hx hb hr (fun tS ht hW => ⟨⟨(nI 0), (K, T, n, NK, NT), rfl, Or.inl ⟨⟨rfl, sam_rf⟩, fun z hz => tr_0 he c4 (dS_e hn hz).1⟩, by rw [ht]; exact hP, va_K.moved hW.alike hK, hD⟩, hS.F ht⟩) hS.2.2 dX3_sort_8
set_option maxHeartbeats 4000000 in
set_option maxRecDepth 100000 in
theorem c_X3_sortPart (l : Launch) (dC : Nat → ClassId) (dI : Nat → Nat → Nat) (sz : Nat) (h k t k2 t2 : Nat) (cA cB cC cD : ClassId) (n : Nat) (K T NK NT : Nat → Int32) (hn : n ≤ 500) (x y o : Int32) : Met l yX3_sortPart wsX3_sortPart ({ frames := 3, cells := 0, slots := 0, locals := 73 }) (va_Pc [.ref h, .int x, .int y, .int o] (fun U => U.heap.size = sz ∧ va_P (dC, dI) vwCl [(h, .inr (2, [.ref k, .ref t, .int (nI n), .ref k2, .ref t2])), (k, .inl (cA, 500, .inl K)), (t, .inl (cB, 500, .inl T)), (k2, .inl (cC, 500, .inl NK)), (t2, .inl (cD, 500, .inl NT))] U.heap ∧ va_K (dC, dI) vwCl [(cA, .int), (cB, .int), (cC, .int), (cD, .int)] U ∧ va_D (fun _ => True) [(h, .inr (2, [.ref k, .ref t, .int (nI n), .ref k2, .ref t2])), (k, .inl (cA, 500, .inl K)), (t, .inl (cB, 500, .inl T)), (k2, .inl (cC, 500, .inl NK)), (t2, .inl (cD, 500, .inl NT))])) (va_Qi (fun r u => QsoR n (mZ K T) x y o r u.2.2.1 (mZ u.1 u.2.1)) (atM dC dI (va_A [(h, .inr (2, [.ref k, .ref t, .int (nI n), .ref k2, .ref t2])), (k, .inl (cA, 500, .inl K)), (t, .inl (cB, 500, .inl T)), (k2, .inl (cC, 500, .inl NK)), (t2, .inl (cD, 500, .inl NT))] sz) h k t k2 t2 cA cB cC cD) (va_A [(h, .inr (2, [.ref k, .ref t, .int (nI n), .ref k2, .ref t2])), (k, .inl (cA, 500, .inl K)), (t, .inl (cB, 500, .inl T)), (k2, .inl (cC, 500, .inl NK)), (t2, .inl (cD, 500, .inl NT))] sz)) 0 0 (va_A [(h, .inr (2, [.ref k, .ref t, .int (nI n), .ref k2, .ref t2])), (k, .inl (cA, 500, .inl K)), (t, .inl (cB, 500, .inl T)), (k2, .inl (cC, 500, .inl NK)), (t2, .inl (cD, 500, .inl NT))] sz) := by
  refine Met.ofW (cc := cX3_sortPart) (maxL := 4) (ret := (some .int)) (by decide) rfl ?_
  intro p e s m args below meth c s₁ B hml hv
  obtain ⟨rfl, hsz, hP, hK, hD0⟩ := hv
  have hx := B.exec
  have hb := B.bytes
  have hr := B.returns
  have hts := atoms_spec (ws := wsX3_sortPart) B.pre
  have hown : s.vm.findClass RX3 = some m.cls := findClass_of_methodNamed B.named
  have hlocks := B.notSynchronized
  subst hsz
  have hD := hD0.self (sz := s.heap.size)
  generalize hAe : va_A [(h, .inr (2, [.ref k, .ref t, .int (nI n), .ref k2, .ref t2])), (k, .inl (cA, 500, .inl K)), (t, .inl (cB, 500, .inl T)), (k2, .inl (cC, 500, .inl NK)), (t2, .inl (cD, 500, .inl NT))] s.heap.size = A at hD ⊢
  have hA : ∀ q : Nat, s.heap.size ≤ q → A q := fun q h => by rw [← hAe]; exact Or.inr h
  have hS : va_S A s.heap s.heap [] := va_S.rf
  have hP : va_P (dC, dI) vwCl [(h, .inr (2, [.ref k, .ref t, .int (nI n), .ref k2, .ref t2])), (k, .inl (cA, 500, .inl K)), (t, .inl (cB, 500, .inl T)), (k2, .inl (cC, 500, .inl NK)), (t2, .inl (cD, 500, .inl NT))] s.heap := hP
  have hl := lv_entry ([.ref h, .int x, .int y, .int o]) (n := 4) (Nat.le_of_ble_eq_true rfl)
  rw [lg_entry_eq]
  generalize (lg_sl ([.ref h, .int x, .int y, .int o]) ++ List.replicate (4 - (lg_sl ([.ref h, .int x, .int y, .int o])).length) Slot.unset).toArray = ls at hl ⊢
  have hl : lv_has ls 4 [(0, .ref h), (1, .int x), (2, .int y), (3, .int o)] := hl
  refine lv_aload_n hx hb dX3_sortPart_0 rfl (lv_at hl 0 rfl) ?_
  refine lv_iload_n hx hb dX3_sortPart_1 rfl (lv_at hl 1 rfl) ?_
  refine lv_iload_n hx hb dX3_sortPart_2 rfl (lv_at hl 2 rfl) ?_
  have hPc := hP.sub (ws' := [(h, .inr (2, [.ref k, .ref t, .int (nI n), .ref k2, .ref t2])), (k, .inl (cA, 500, .inl K)), (t, .inl (cB, 500, .inl T)), (k2, .inl (cC, 500, .inl NK)), (t2, .inl (cD, 500, .inl NT))]) [0, 1, 2, 3, 4] rfl
  have hDc := hD.sub (ws' := [(h, .inr (2, [.ref k, .ref t, .int (nI n), .ref k2, .ref t2])), (k, .inl (cA, 500, .inl K)), (t, .inl (cB, 500, .inl T)), (k2, .inl (cC, 500, .inl NK)), (t2, .inl (cD, 500, .inl NT))]) [0, 1, 2, 3, 4] (by decide) rfl
  have hKc := hK.sub (tys' := [(cA, .int), (cB, .int), (cC, .int), (cD, .int)]) [0, 1, 2, 3] rfl
  have hFc := va_free (wc := [(h, .inr (2, [.ref k, .ref t, .int (nI n), .ref k2, .ref t2])), (k, .inl (cA, 500, .inl K)), (t, .inl (cB, 500, .inl T)), (k2, .inl (cC, 500, .inl NK)), (t2, .inl (cD, 500, .inl NT))]) hD hS hA [0, 1, 2, 3, 4] rfl
  refine va_calli (va_runV (As := [.int x, .int y]) (rest := []) ⟨hx, hb, hml, hown, hts⟩ (c_X3_isStretch l dC dI s.heap.size h k t k2 t2 cA cB cC cD n K T NK NT hn x y) (cwV 2 hts gX3_sortPart_X3_isStretch rfl rfl rfl (by decide +kernel) ⟨Nat.le_of_ble_eq_true rfl, Nat.le_of_ble_eq_true rfl⟩) ⟨fun a U g mk q => by obtain ⟨q0, q1, qP, qK, qD⟩ := q; exact ⟨q0, q1, qP, va_K.moved (u := U) (U := U.calling g mk a) (Vm.Alike.refl U.vm) qK, qD⟩, va_recv hKc hPc (ci := 2) (q0 := 0) rfl rfl, fun U hU hW => ⟨rfl, by rw [hU], by rw [hU]; exact hPc, va_K.moved hW.alike hKc, hDc.weaken (fun _ _ _ _ => trivial)⟩⟩ rfl rfl hl.1 rfl (lv_room (Nat.le_of_ble_eq_true rfl)) dX3_sortPart_3 ⟨Nat.le_of_ble_eq_true rfl, Nat.le_of_ble_eq_true rfl⟩) hS (fun q _ h => hFc q h) hFc (fun r_1 u tS H1 locs ht hvm hw hB hz1 hk1 hS => ?_)
  obtain ⟨hs, rfl⟩ := hw
  obtain ⟨hP1, hK1, hD1⟩ := hB
  rw [ht] at hP1
  obtain ⟨hP, hD⟩ := va_join (wr := []) (w1 := [(h, .inr (2, [.ref k, .ref t, .int (nI n), .ref k2, .ref t2])), (k, .inl (cA, 500, .inl K)), (t, .inl (cB, 500, .inl T)), (k2, .inl (cC, 500, .inl NK)), (t2, .inl (cD, 500, .inl NT))]) hP hD [0, 1, 2, 3, 4] [] rfl rfl (by decide) (by decide) hk1 hFc hP1 hD1
  generalize H1 = H at hP hS ⊢
  have hP : va_P (dC, dI) vwCl [(h, .inr (2, [.ref k, .ref t, .int (nI n), .ref k2, .ref t2])), (k, .inl (cA, 500, .inl K)), (t, .inl (cB, 500, .inl T)), (k2, .inl (cC, 500, .inl NK)), (t2, .inl (cD, 500, .inl NT))] H := hP
  have hD : va_D A [(h, .inr (2, [.ref k, .ref t, .int (nI n), .ref k2, .ref t2])), (k, .inl (cA, 500, .inl K)), (t, .inl (cB, 500, .inl T)), (k2, .inl (cC, 500, .inl NK)), (t2, .inl (cD, 500, .inl NT))] := hD
  refine lv_if_eq (tgt := 16) hx hb dX3_sortPart_6 (by decide) (fun c6 => ?_) (fun c6 => ?_)
  · refine lv_iconst (v := (nI 0)) hx hb dX3_sortPart_16 (by decide) ?_
    exact W.iret (v := (nI 0)) hx hb hr (fun tS ht hW => ⟨⟨(nI 0), (K, T, n, NK, NT), rfl, Or.inl ⟨⟨rfl, sam_rf⟩, fun z hz => tr_0 hs c6 (dS_e hn hz).2⟩, by rw [ht]; exact hP, va_K.moved hW.alike hK, hD⟩, hS.F ht⟩) hS.2.2 dX3_sortPart_17
  · refine lv_iload_n hx hb dX3_sortPart_9 rfl (lv_at hl 3 rfl) ?_
    have hPc := hP.sub (ws' := []) [] rfl
    have hDc := hD.sub (ws' := []) [] (by decide) rfl
    have hKc := hK.sub (tys' := []) [] rfl
    have hFc := va_free (wc := []) hD hS hA [] rfl
    refine va_calli (va_runS (As := [.int o]) (rest := []) ⟨hx, hb, hml, hown, hts⟩ (c_X3_isOrder l dC dI H.size o) (va_cwS 1 hts gX3_sortPart_X3_isOrder rfl rfl rfl (by decide +kernel) ⟨Nat.le_of_ble_eq_true rfl, Nat.le_of_ble_eq_true rfl⟩) ⟨fun a U g mk q => by obtain ⟨q0, q1, qP, qK, qD⟩ := q; exact ⟨q0, q1, qP, va_K.moved (u := U) (U := U.calling g mk a) (Vm.Alike.refl U.vm) qK, qD⟩, fun U hU hW => ⟨rfl, by rw [hU], by rw [hU]; exact hPc, va_K.moved hW.alike hKc, hDc.weaken (fun _ _ _ _ => trivial)⟩⟩ rfl rfl hl.1 rfl (lv_room (Nat.le_of_ble_eq_true rfl)) dX3_sortPart_10 ⟨Nat.le_of_ble_eq_true rfl, Nat.le_of_ble_eq_true rfl⟩) hS (fun q _ h => hFc q h) hFc (fun r_2 u tS H1 locs ht hvm hw hB hz1 hk1 hS => ?_)
    have he := hw
    obtain ⟨hP1, hK1, hD1⟩ := hB
    rw [ht] at hP1
    obtain ⟨hP, hD⟩ := va_join (wr := [(h, .inr (2, [.ref k, .ref t, .int (nI n), .ref k2, .ref t2])), (k, .inl (cA, 500, .inl K)), (t, .inl (cB, 500, .inl T)), (k2, .inl (cC, 500, .inl NK)), (t2, .inl (cD, 500, .inl NT))]) (w1 := []) hP hD [] [0, 1, 2, 3, 4] rfl rfl (by decide) (by decide) hk1 hFc hP1 hD1
    generalize H1 = H at hP hS ⊢
    have hP : va_P (dC, dI) vwCl [(h, .inr (2, [.ref k, .ref t, .int (nI n), .ref k2, .ref t2])), (k, .inl (cA, 500, .inl K)), (t, .inl (cB, 500, .inl T)), (k2, .inl (cC, 500, .inl NK)), (t2, .inl (cD, 500, .inl NT))] H := hP
    have hD : va_D A [(h, .inr (2, [.ref k, .ref t, .int (nI n), .ref k2, .ref t2])), (k, .inl (cA, 500, .inl K)), (t, .inl (cB, 500, .inl T)), (k2, .inl (cC, 500, .inl NK)), (t2, .inl (cD, 500, .inl NT))] := hD
    refine lv_if_ne (tgt := 18) hx hb dX3_sortPart_13 (by decide) (fun c13 => ?_) (fun c13 => ?_)
    · obtain ⟨o1, ho, rfl⟩ := exO_of (tr_1 he c13)
      obtain ⟨a, b, rfl, rfl, hab, hbn⟩ := stP_of hn (tr_1 hs c6)
      have hb5 : b ≤ 500 := by omega
      refine lv_aload_n hx hb dX3_sortPart_18 rfl (lv_at hl 0 rfl) ?_
      refine lv_iload_n hx hb dX3_sortPart_19 rfl (lv_at hl 1 rfl) ?_
      refine lv_iload_n hx hb dX3_sortPart_20 rfl (lv_at hl 2 rfl) ?_
      refine lv_iload_n hx hb dX3_sortPart_21 rfl (lv_at hl 3 rfl) ?_
      have hPc := hP.sub (ws' := [(h, .inr (2, [.ref k, .ref t, .int (nI n), .ref k2, .ref t2])), (k, .inl (cA, 500, .inl K)), (t, .inl (cB, 500, .inl T)), (k2, .inl (cC, 500, .inl NK)), (t2, .inl (cD, 500, .inl NT))]) [0, 1, 2, 3, 4] rfl
      have hDc := hD.sub (ws' := [(h, .inr (2, [.ref k, .ref t, .int (nI n), .ref k2, .ref t2])), (k, .inl (cA, 500, .inl K)), (t, .inl (cB, 500, .inl T)), (k2, .inl (cC, 500, .inl NK)), (t2, .inl (cD, 500, .inl NT))]) [0, 1, 2, 3, 4] (by decide) rfl
      have hKc := hK.sub (tys' := [(cA, .int), (cB, .int), (cC, .int), (cD, .int)]) [0, 1, 2, 3] rfl
      have hFc := va_free (wc := [(h, .inr (2, [.ref k, .ref t, .int (nI n), .ref k2, .ref t2])), (k, .inl (cA, 500, .inl K)), (t, .inl (cB, 500, .inl T)), (k2, .inl (cC, 500, .inl NK)), (t2, .inl (cD, 500, .inl NT))]) hD hS hA [0, 1, 2, 3, 4] rfl
      refine va_callv (va_runV (As := [.int (nI a), .int (nI b), .int (nI o1)]) (rest := []) ⟨hx, hb, hml, hown, hts⟩ (c_X3_arrange l dC dI H.size h k t k2 t2 cA cB cC cD n K T NK NT a b o1 hab hb5 ho) (cwV 3 hts gX3_sortPart_X3_arrange rfl rfl rfl (by decide +kernel) ⟨Nat.le_of_ble_eq_true rfl, Nat.le_of_ble_eq_true rfl⟩) ⟨fun a U g mk q => by obtain ⟨q0, q1, qP, qK, qD⟩ := q; exact ⟨q0, q1, qP, va_K.moved (u := U) (U := U.calling g mk a) (Vm.Alike.refl U.vm) qK, qD⟩, va_recv hKc hPc (ci := 2) (q0 := 0) rfl rfl, fun U hU hW => ⟨rfl, by rw [hU], by rw [hU]; exact hPc, va_K.moved hW.alike hKc, hDc.weaken (fun _ _ _ _ => trivial)⟩⟩ rfl rfl hl.1 rfl (lv_room (Nat.le_of_ble_eq_true rfl)) dX3_sortPart_22 ⟨Nat.le_of_ble_eq_true rfl, Nat.le_of_ble_eq_true rfl⟩) hS (fun q _ h => hFc q h) hFc (fun u tS H1 locs ht hvm hw hB hz1 hk1 hS => ?_)
      obtain ⟨K9, T9, n9, NK9, NT9⟩ := u
      obtain ⟨hso, hn9⟩ := hw
      dsimp only at hso hn9
      subst hn9
      obtain ⟨hP1, hK1, hD1⟩ := hB
      rw [ht] at hP1
      obtain ⟨hP, hD⟩ := va_join (wr := []) (w1 := [(h, .inr (2, [.ref k, .ref t, .int (nI n), .ref k2, .ref t2])), (k, .inl (cA, 500, .inl K9)), (t, .inl (cB, 500, .inl T9)), (k2, .inl (cC, 500, .inl NK9)), (t2, .inl (cD, 500, .inl NT9))]) hP hD [0, 1, 2, 3, 4] [] rfl rfl (by decide) (by decide) hk1 hFc hP1 hD1
      generalize H1 = H at hP hS ⊢
      have hP : va_P (dC, dI) vwCl [(h, .inr (2, [.ref k, .ref t, .int (nI n), .ref k2, .ref t2])), (k, .inl (cA, 500, .inl K9)), (t, .inl (cB, 500, .inl T9)), (k2, .inl (cC, 500, .inl NK9)), (t2, .inl (cD, 500, .inl NT9))] H := hP
      have hD : va_D A [(h, .inr (2, [.ref k, .ref t, .int (nI n), .ref k2, .ref t2])), (k, .inl (cA, 500, .inl K9)), (t, .inl (cB, 500, .inl T9)), (k2, .inl (cC, 500, .inl NK9)), (t2, .inl (cD, 500, .inl NT9))] := hD
      refine lv_iconst (v := (nI 1)) hx hb dX3_sortPart_25 (by decide) ?_
      exact W.iret (v := (nI 1)) hx hb hr (fun tS ht hW => ⟨⟨(nI 1), (K9, T9, n, NK9, NT9), rfl, Or.inr ⟨(a, b, o1), ⟨rfl, rfl, rfl, hab, hbn, ho⟩, rfl, rfl, ⟨fun j hj z => hso.1 j (by omega) z, hso.2⟩⟩, by rw [ht]; exact hP, va_K.moved hW.alike hK, hD⟩, hS.F ht⟩) hS.2.2 dX3_sortPart_26
    · refine lv_iconst (v := (nI 0)) hx hb dX3_sortPart_16 (by decide) ?_
      exact W.iret (v := (nI 0)) hx hb hr (fun tS ht hW => ⟨⟨(nI 0), (K, T, n, NK, NT), rfl, Or.inl ⟨⟨rfl, sam_rf⟩, fun z hz => tr_0 he c13 (dS_e hn hz).1⟩, by rw [ht]; exact hP, va_K.moved hW.alike hK, hD⟩, hS.F ht⟩) hS.2.2 dX3_sortPart_17
set_option maxHeartbeats 4000000 in
set_option maxRecDepth 100000 in
theorem c_X3_merge (l : Launch) (dC : Nat → ClassId) (dI : Nat → Nat → Nat) (sz : Nat) (h k t k2 t2 : Nat) (cA cB cC cD : ClassId) (n : Nat) (K T NK NT : Nat → Int32) (hn : n ≤ 500) (x y v o : Int32) : Met l yX3_merge wsX3_merge ({ frames := 3, cells := 0, slots := 0, locals := 73 }) (va_Pc [.ref h, .int x, .int y, .int v, .int o] (fun U => U.heap.size = sz ∧ va_P (dC, dI) vwCl [(h, .inr (2, [.ref k, .ref t, .int (nI n), .ref k2, .ref t2])), (k, .inl (cA, 500, .inl K)), (t, .inl (cB, 500, .inl T)), (k2, .inl (cC, 500, .inl NK)), (t2, .inl (cD, 500, .inl NT))] U.heap ∧ va_K (dC, dI) vwCl [(cA, .int), (cB, .int), (cC, .int), (cD, .int)] U ∧ va_D (fun _ => True) [(h, .inr (2, [.ref k, .ref t, .int (nI n), .ref k2, .ref t2])), (k, .inl (cA, 500, .inl K)), (t, .inl (cB, 500, .inl T)), (k2, .inl (cC, 500, .inl NK)), (t2, .inl (cD, 500, .inl NT))])) (va_Qi (fun r u => QmeR n (mZ K T) x y v o r u.2.2.1 (mZ u.1 u.2.1)) (atM dC dI (va_A [(h, .inr (2, [.ref k, .ref t, .int (nI n), .ref k2, .ref t2])), (k, .inl (cA, 500, .inl K)), (t, .inl (cB, 500, .inl T)), (k2, .inl (cC, 500, .inl NK)), (t2, .inl (cD, 500, .inl NT))] sz) h k t k2 t2 cA cB cC cD) (va_A [(h, .inr (2, [.ref k, .ref t, .int (nI n), .ref k2, .ref t2])), (k, .inl (cA, 500, .inl K)), (t, .inl (cB, 500, .inl T)), (k2, .inl (cC, 500, .inl NK)), (t2, .inl (cD, 500, .inl NT))] sz)) 0 0 (va_A [(h, .inr (2, [.ref k, .ref t, .int (nI n), .ref k2, .ref t2])), (k, .inl (cA, 500, .inl K)), (t, .inl (cB, 500, .inl T)), (k2, .inl (cC, 500, .inl NK)), (t2, .inl (cD, 500, .inl NT))] sz) := by
  refine Met.ofW (cc := cX3_merge) (maxL := 6) (ret := (some .int)) (by decide) rfl ?_
  intro p e s m args below meth c s₁ B hml hv
  obtain ⟨rfl, hsz, hP, hK, hD0⟩ := hv
  have hx := B.exec
  have hb := B.bytes
  have hr := B.returns
  have hts := atoms_spec (ws := wsX3_merge) B.pre
  have hown : s.vm.findClass RX3 = some m.cls := findClass_of_methodNamed B.named
  have hlocks := B.notSynchronized
  subst hsz
  have hD := hD0.self (sz := s.heap.size)
  generalize hAe : va_A [(h, .inr (2, [.ref k, .ref t, .int (nI n), .ref k2, .ref t2])), (k, .inl (cA, 500, .inl K)), (t, .inl (cB, 500, .inl T)), (k2, .inl (cC, 500, .inl NK)), (t2, .inl (cD, 500, .inl NT))] s.heap.size = A at hD ⊢
  have hA : ∀ q : Nat, s.heap.size ≤ q → A q := fun q h => by rw [← hAe]; exact Or.inr h
  have hS : va_S A s.heap s.heap [] := va_S.rf
  have hP : va_P (dC, dI) vwCl [(h, .inr (2, [.ref k, .ref t, .int (nI n), .ref k2, .ref t2])), (k, .inl (cA, 500, .inl K)), (t, .inl (cB, 500, .inl T)), (k2, .inl (cC, 500, .inl NK)), (t2, .inl (cD, 500, .inl NT))] s.heap := hP
  have hl := lv_entry ([.ref h, .int x, .int y, .int v, .int o]) (n := 6) (Nat.le_of_ble_eq_true rfl)
  rw [lg_entry_eq]
  generalize (lg_sl ([.ref h, .int x, .int y, .int v, .int o]) ++ List.replicate (6 - (lg_sl ([.ref h, .int x, .int y, .int v, .int o])).length) Slot.unset).toArray = ls at hl ⊢
  have hl : lv_has ls 6 [(0, .ref h), (1, .int x), (2, .int y), (3, .int v), (4, .int o)] := hl
  refine lv_aload_n hx hb dX3_merge_0 rfl (lv_at hl 0 rfl) ?_
  refine lv_iload_n hx hb dX3_merge_1 rfl (lv_at hl 1 rfl) ?_
  refine lv_iload_n hx hb dX3_merge_2 rfl (lv_at hl 2 rfl) ?_
  have hPc := hP.sub (ws' := [(h, .inr (2, [.ref k, .ref t, .int (nI n), .ref k2, .ref t2])), (k, .inl (cA, 500, .inl K)), (t, .inl (cB, 500, .inl T)), (k2, .inl (cC, 500, .inl NK)), (t2, .inl (cD, 500, .inl NT))]) [0, 1, 2, 3, 4] rfl
  have hDc := hD.sub (ws' := [(h, .inr (2, [.ref k, .ref t, .int (nI n), .ref k2, .ref t2])), (k, .inl (cA, 500, .inl K)), (t, .inl (cB, 500, .inl T)), (k2, .inl (cC, 500, .inl NK)), (t2, .inl (cD, 500, .inl NT))]) [0, 1, 2, 3, 4] (by decide) rfl
  have hKc := hK.sub (tys' := [(cA, .int), (cB, .int), (cC, .int), (cD, .int)]) [0, 1, 2, 3] rfl
  have hFc := va_free (wc := [(h, .inr (2, [.ref k, .ref t, .int (nI n), .ref k2, .ref t2])), (k, .inl (cA, 500, .inl K)), (t, .inl (cB, 500, .inl T)), (k2, .inl (cC, 500, .inl NK)), (t2, .inl (cD, 500, .inl NT))]) hD hS hA [0, 1, 2, 3, 4] rfl
  refine va_calli (va_runV (As := [.int x, .int y]) (rest := []) ⟨hx, hb, hml, hown, hts⟩ (c_X3_isStretch l dC dI s.heap.size h k t k2 t2 cA cB cC cD n K T NK NT hn x y) (cwV 2 hts gX3_merge_X3_isStretch rfl rfl rfl (by decide +kernel) ⟨Nat.le_of_ble_eq_true rfl, Nat.le_of_ble_eq_true rfl⟩) ⟨fun a U g mk q => by obtain ⟨q0, q1, qP, qK, qD⟩ := q; exact ⟨q0, q1, qP, va_K.moved (u := U) (U := U.calling g mk a) (Vm.Alike.refl U.vm) qK, qD⟩, va_recv hKc hPc (ci := 2) (q0 := 0) rfl rfl, fun U hU hW => ⟨rfl, by rw [hU], by rw [hU]; exact hPc, va_K.moved hW.alike hKc, hDc.weaken (fun _ _ _ _ => trivial)⟩⟩ rfl rfl hl.1 rfl (lv_room (Nat.le_of_ble_eq_true rfl)) dX3_merge_3 ⟨Nat.le_of_ble_eq_true rfl, Nat.le_of_ble_eq_true rfl⟩) hS (fun q _ h => hFc q h) hFc (fun r_1 u tS H1 locs ht hvm hw hB hz1 hk1 hS => ?_)
  obtain ⟨hs1, rfl⟩ := hw
  obtain ⟨hP1, hK1, hD1⟩ := hB
  rw [ht] at hP1
  obtain ⟨hP, hD⟩ := va_join (wr := []) (w1 := [(h, .inr (2, [.ref k, .ref t, .int (nI n), .ref k2, .ref t2])), (k, .inl (cA, 500, .inl K)), (t, .inl (cB, 500, .inl T)), (k2, .inl (cC, 500, .inl NK)), (t2, .inl (cD, 500, .inl NT))]) hP hD [0, 1, 2, 3, 4] [] rfl rfl (by decide) (by decide) hk1 hFc hP1 hD1
  generalize H1 = H at hP hS ⊢
  have hP : va_P (dC, dI) vwCl [(h, .inr (2, [.ref k, .ref t, .int (nI n), .ref k2, .ref t2])), (k, .inl (cA, 500, .inl K)), (t, .inl (cB, 500, .inl T)), (k2, .inl (cC, 500, .inl NK)), (t2, .inl (cD, 500, .inl NT))] H := hP
  have hD : va_D A [(h, .inr (2, [.ref k, .ref t, .int (nI n), .ref k2, .ref t2])), (k, .inl (cA, 500, .inl K)), (t, .inl (cB, 500, .inl T)), (k2, .inl (cC, 500, .inl NK)), (t2, .inl (cD, 500, .inl NT))] := hD
  refine lv_if_eq (tgt := 30) hx hb dX3_merge_6 (by decide) (fun c6 => ?_) (fun c6 => ?_)
  · refine lv_iconst (v := (nI 0)) hx hb dX3_merge_30 (by decide) ?_
    refine lv_istore (lv' := [(5, .int (nI 0)), (0, .ref h), (1, .int x), (2, .int y), (3, .int v), (4, .int o)]) hx hb dX3_merge_31 hl (by decide) rfl (fun ls hl => ?_)
    refine lv_iload hx hb dX3_merge_33 (lv_at hl 0 rfl) ?_
    refine lz_if_eq (tgt := 60) (by omega) hx hb dX3_merge_35 (by decide) (fun c35 => ?_) (fun c35 => ?_)
    · refine lv_iconst (v := (nI 0)) hx hb dX3_merge_60 (by decide) ?_
      exact W.iret (v := (nI 0)) hx hb hr (fun tS ht hW => ⟨⟨(nI 0), (K, T, n, NK, NT), rfl, Or.inl ⟨⟨rfl, sam_rf⟩, fun z hz => tr_0 hs1 c6 (dG_e hn hz).2.1⟩, by rw [ht]; exact hP, va_K.moved hW.alike hK, hD⟩, hS.F ht⟩) hS.2.2 dX3_merge_61
    · exact absurd rfl c35
  · refine lv_aload_n hx hb dX3_merge_9 rfl (lv_at hl 0 rfl) ?_
    refine lv_iload_n hx hb dX3_merge_10 rfl (lv_at hl 2 rfl) ?_
    refine lv_iload_n hx hb dX3_merge_11 rfl (lv_at hl 3 rfl) ?_
    have hPc := hP.sub (ws' := [(h, .inr (2, [.ref k, .ref t, .int (nI n), .ref k2, .ref t2])), (k, .inl (cA, 500, .inl K)), (t, .inl (cB, 500, .inl T)), (k2, .inl (cC, 500, .inl NK)), (t2, .inl (cD, 500, .inl NT))]) [0, 1, 2, 3, 4] rfl
    have hDc := hD.sub (ws' := [(h, .inr (2, [.ref k, .ref t, .int (nI n), .ref k2, .ref t2])), (k, .inl (cA, 500, .inl K)), (t, .inl (cB, 500, .inl T)), (k2, .inl (cC, 500, .inl NK)), (t2, .inl (cD, 500, .inl NT))]) [0, 1, 2, 3, 4] (by decide) rfl
    have hKc := hK.sub (tys' := [(cA, .int), (cB, .int), (cC, .int), (cD, .int)]) [0, 1, 2, 3] rfl
    have hFc := va_free (wc := [(h, .inr (2, [.ref k, .ref t, .int (nI n), .ref k2, .ref t2])), (k, .inl (cA, 500, .inl K)), (t, .inl (cB, 500, .inl T)), (k2, .inl (cC, 500, .inl NK)), (t2, .inl (cD, 500, .inl NT))]) hD hS hA [0, 1, 2, 3, 4] rfl
    refine va_calli (va_runV (As := [.int y, .int v]) (rest := []) ⟨hx, hb, hml, hown, hts⟩ (c_X3_isStretch l dC dI H.size h k t k2 t2 cA cB cC cD n K T NK NT hn y v) (cwV 2 hts gX3_merge_X3_isStretch rfl rfl rfl (by decide +kernel) ⟨Nat.le_of_ble_eq_true rfl, Nat.le_of_ble_eq_true rfl⟩) ⟨fun a U g mk q => by obtain ⟨q0, q1, qP, qK, qD⟩ := q; exact ⟨q0, q1, qP, va_K.moved (u := U) (U := U.calling g mk a) (Vm.Alike.refl U.vm) qK, qD⟩, va_recv hKc hPc (ci := 2) (q0 := 0) rfl rfl, fun U hU hW => ⟨rfl, by rw [hU], by rw [hU]; exact hPc, va_K.moved hW.alike hKc, hDc.weaken (fun _ _ _ _ => trivial)⟩⟩ rfl rfl hl.1 rfl (lv_room (Nat.le_of_ble_eq_true rfl)) dX3_merge_12 ⟨Nat.le_of_ble_eq_true rfl, Nat.le_of_ble_eq_true rfl⟩) hS (fun q _ h => hFc q h) hFc (fun r_2 u tS H1 locs ht hvm hw hB hz1 hk1 hS => ?_)
    obtain ⟨hs2, rfl⟩ := hw
    obtain ⟨hP1, hK1, hD1⟩ := hB
    rw [ht] at hP1
    obtain ⟨hP, hD⟩ := va_join (wr := []) (w1 := [(h, .inr (2, [.ref k, .ref t, .int (nI n), .ref k2, .ref t2])), (k, .inl (cA, 500, .inl K)), (t, .inl (cB, 500, .inl T)), (k2, .inl (cC, 500, .inl NK)), (t2, .inl (cD, 500, .inl NT))]) hP hD [0, 1, 2, 3, 4] [] rfl rfl (by decide) (by decide) hk1 hFc hP1 hD1
    generalize H1 = H at hP hS ⊢
    have hP : va_P (dC, dI) vwCl [(h, .inr (2, [.ref k, .ref t, .int (nI n), .ref k2, .ref t2])), (k, .inl (cA, 500, .inl K)), (t, .inl (cB, 500, .inl T)), (k2, .inl (cC, 500, .inl NK)), (t2, .inl (cD, 500, .inl NT))] H := hP
    have hD : va_D A [(h, .inr (2, [.ref k, .ref t, .int (nI n), .ref k2, .ref t2])), (k, .inl (cA, 500, .inl K)), (t, .inl (cB, 500, .inl T)), (k2, .inl (cC, 500, .inl NK)), (t2, .inl (cD, 500, .inl NT))] := hD
    refine lv_if_eq (tgt := 30) hx hb dX3_merge_15 (by decide) (fun c15 => ?_) (fun c15 => ?_)
    · refine lv_iconst (v := (nI 0)) hx hb dX3_merge_30 (by decide) ?_
      refine lv_istore (lv' := [(5, .int (nI 0)), (0, .ref h), (1, .int x), (2, .int y), (3, .int v), (4, .int o)]) hx hb dX3_merge_31 hl (by decide) rfl (fun ls hl => ?_)
      refine lv_iload hx hb dX3_merge_33 (lv_at hl 0 rfl) ?_
      refine lz_if_eq (tgt := 60) (by omega) hx hb dX3_merge_35 (by decide) (fun c35 => ?_) (fun c35 => ?_)
      · refine lv_iconst (v := (nI 0)) hx hb dX3_merge_60 (by decide) ?_
        exact W.iret (v := (nI 0)) hx hb hr (fun tS ht hW => ⟨⟨(nI 0), (K, T, n, NK, NT), rfl, Or.inl ⟨⟨rfl, sam_rf⟩, fun z hz => tr_0 hs2 c15 (dG_e hn hz).2.2⟩, by rw [ht]; exact hP, va_K.moved hW.alike hK, hD⟩, hS.F ht⟩) hS.2.2 dX3_merge_61
      · exact absurd rfl c35
    · refine lv_iload hx hb dX3_merge_18 (lv_at hl 4 rfl) ?_
      have hPc := hP.sub (ws' := []) [] rfl
      have hDc := hD.sub (ws' := []) [] (by decide) rfl
      have hKc := hK.sub (tys' := []) [] rfl
      have hFc := va_free (wc := []) hD hS hA [] rfl
      refine va_calli (va_runS (As := [.int o]) (rest := []) ⟨hx, hb, hml, hown, hts⟩ (c_X3_isOrder l dC dI H.size o) (va_cwS 1 hts gX3_merge_X3_isOrder rfl rfl rfl (by decide +kernel) ⟨Nat.le_of_ble_eq_true rfl, Nat.le_of_ble_eq_true rfl⟩) ⟨fun a U g mk q => by obtain ⟨q0, q1, qP, qK, qD⟩ := q; exact ⟨q0, q1, qP, va_K.moved (u := U) (U := U.calling g mk a) (Vm.Alike.refl U.vm) qK, qD⟩, fun U hU hW => ⟨rfl, by rw [hU], by rw [hU]; exact hPc, va_K.moved hW.alike hKc, hDc.weaken (fun _ _ _ _ => trivial)⟩⟩ rfl rfl hl.1 rfl (lv_room (Nat.le_of_ble_eq_true rfl)) dX3_merge_20 ⟨Nat.le_of_ble_eq_true rfl, Nat.le_of_ble_eq_true rfl⟩) hS (fun q _ h => hFc q h) hFc (fun r_3 u tS H1 locs ht hvm hw hB hz1 hk1 hS => ?_)
      have he := hw
      obtain ⟨hP1, hK1, hD1⟩ := hB
      rw [ht] at hP1
      obtain ⟨hP, hD⟩ := va_join (wr := [(h, .inr (2, [.ref k, .ref t, .int (nI n), .ref k2, .ref t2])), (k, .inl (cA, 500, .inl K)), (t, .inl (cB, 500, .inl T)), (k2, .inl (cC, 500, .inl NK)), (t2, .inl (cD, 500, .inl NT))]) (w1 := []) hP hD [] [0, 1, 2, 3, 4] rfl rfl (by decide) (by decide) hk1 hFc hP1 hD1
      generalize H1 = H at hP hS ⊢
      have hP : va_P (dC, dI) vwCl [(h, .inr (2, [.ref k, .ref t, .int (nI n), .ref k2, .ref t2])), (k, .inl (cA, 500, .inl K)), (t, .inl (cB, 500, .inl T)), (k2, .inl (cC, 500, .inl NK)), (t2, .inl (cD, 500, .inl NT))] H := hP
      have hD : va_D A [(h, .inr (2, [.ref k, .ref t, .int (nI n), .ref k2, .ref t2])), (k, .inl (cA, 500, .inl K)), (t, .inl (cB, 500, .inl T)), (k2, .inl (cC, 500, .inl NK)), (t2, .inl (cD, 500, .inl NT))] := hD
      refine lv_if_eq (tgt := 30) hx hb dX3_merge_23 (by decide) (fun c23 => ?_) (fun c23 => ?_)
      · refine lv_iconst (v := (nI 0)) hx hb dX3_merge_30 (by decide) ?_
        refine lv_istore (lv' := [(5, .int (nI 0)), (0, .ref h), (1, .int x), (2, .int y), (3, .int v), (4, .int o)]) hx hb dX3_merge_31 hl (by decide) rfl (fun ls hl => ?_)
        refine lv_iload hx hb dX3_merge_33 (lv_at hl 0 rfl) ?_
        refine lz_if_eq (tgt := 60) (by omega) hx hb dX3_merge_35 (by decide) (fun c35 => ?_) (fun c35 => ?_)
        · refine lv_iconst (v := (nI 0)) hx hb dX3_merge_60 (by decide) ?_
          exact W.iret (v := (nI 0)) hx hb hr (fun tS ht hW => ⟨⟨(nI 0), (K, T, n, NK, NT), rfl, Or.inl ⟨⟨rfl, sam_rf⟩, fun z hz => tr_0 he c23 (dG_e hn hz).1⟩, by rw [ht]; exact hP, va_K.moved hW.alike hK, hD⟩, hS.F ht⟩) hS.2.2 dX3_merge_61
        · exact absurd rfl c35
      · refine lv_iconst (v := (nI 1)) hx hb dX3_merge_26 (by decide) ?_
        refine lv_goto (tgt := 31) hx hb dX3_merge_27 (by decide) ?_
        refine lv_istore (lv' := [(5, .int (nI 1)), (0, .ref h), (1, .int x), (2, .int y), (3, .int v), (4, .int o)]) hx hb dX3_merge_31 hl (by decide) rfl (fun ls hl => ?_)
        refine lv_iload hx hb dX3_merge_33 (lv_at hl 0 rfl) ?_
        refine lz_if_eq (tgt := 60) (by omega) hx hb dX3_merge_35 (by decide) (fun c35 => ?_) (fun c35 => ?_)
        · exact absurd c35 (by decide)
        · obtain ⟨o1, ho, rfl⟩ := exO_of (tr_1 he c23)
          obtain ⟨a, d, rfl, rfl, had, hdn⟩ := stP_of hn (tr_1 hs1 c6)
          obtain ⟨d2, b, hd2, rfl, hdb, hbn⟩ := stP_of hn (tr_1 hs2 c15)
          obtain rfl : d = d2 := (nI_eq (by omega) (by omega)).mp hd2
          clear hd2
          have hb5 : b ≤ 500 := by omega
          refine lv_aload_n hx hb dX3_merge_38 rfl (lv_at hl 1 rfl) ?_
          refine lv_iload_n hx hb dX3_merge_39 rfl (lv_at hl 2 rfl) ?_
          refine lv_iload_n hx hb dX3_merge_40 rfl (lv_at hl 3 rfl) ?_
          refine lv_iload hx hb dX3_merge_41 (lv_at hl 5 rfl) ?_
          have hPc := hP.sub (ws' := [(h, .inr (2, [.ref k, .ref t, .int (nI n), .ref k2, .ref t2])), (k, .inl (cA, 500, .inl K)), (t, .inl (cB, 500, .inl T)), (k2, .inl (cC, 500, .inl NK)), (t2, .inl (cD, 500, .inl NT))]) [0, 1, 2, 3, 4] rfl
          have hDc := hD.sub (ws' := [(h, .inr (2, [.ref k, .ref t, .int (nI n), .ref k2, .ref t2])), (k, .inl (cA, 500, .inl K)), (t, .inl (cB, 500, .inl T)), (k2, .inl (cC, 500, .inl NK)), (t2, .inl (cD, 500, .inl NT))]) [0, 1, 2, 3, 4] (by decide) rfl
          have hKc := hK.sub (tys' := [(cA, .int), (cB, .int), (cC, .int), (cD, .int)]) [0, 1, 2, 3] rfl
          have hFc := va_free (wc := [(h, .inr (2, [.ref k, .ref t, .int (nI n), .ref k2, .ref t2])), (k, .inl (cA, 500, .inl K)), (t, .inl (cB, 500, .inl T)), (k2, .inl (cC, 500, .inl NK)), (t2, .inl (cD, 500, .inl NT))]) hD hS hA [0, 1, 2, 3, 4] rfl
          refine va_calli (va_runV (As := [.int (nI a), .int (nI d), .int (nI o1)]) (rest := []) ⟨hx, hb, hml, hown, hts⟩ (c_X3_isSorted l dC dI H.size h k t k2 t2 cA cB cC cD n K T NK NT a d o1 (by omega) (by omega) ho) (cwV 3 hts gX3_merge_X3_isSorted rfl rfl rfl (by decide +kernel) ⟨Nat.le_of_ble_eq_true rfl, Nat.le_of_ble_eq_true rfl⟩) ⟨fun a U g mk q => by obtain ⟨q0, q1, qP, qK, qD⟩ := q; exact ⟨q0, q1, qP, va_K.moved (u := U) (U := U.calling g mk a) (Vm.Alike.refl U.vm) qK, qD⟩, va_recv hKc hPc (ci := 2) (q0 := 0) rfl rfl, fun U hU hW => ⟨rfl, by rw [hU], by rw [hU]; exact hPc, va_K.moved hW.alike hKc, hDc.weaken (fun _ _ _ _ => trivial)⟩⟩ rfl rfl hl.1 rfl (lv_room (Nat.le_of_ble_eq_true rfl)) dX3_merge_43 ⟨Nat.le_of_ble_eq_true rfl, Nat.le_of_ble_eq_true rfl⟩) hS (fun q _ h => hFc q h) hFc (fun r_4 u tS H1 locs ht hvm hw hB hz1 hk1 hS => ?_)
          obtain ⟨hi1, rfl⟩ := hw
          obtain ⟨hP1, hK1, hD1⟩ := hB
          rw [ht] at hP1
          obtain ⟨hP, hD⟩ := va_join (wr := []) (w1 := [(h, .inr (2, [.ref k, .ref t, .int (nI n), .ref k2, .ref t2])), (k, .inl (cA, 500, .inl K)), (t, .inl (cB, 500, .inl T)), (k2, .inl (cC, 500, .inl NK)), (t2, .inl (cD, 500, .inl NT))]) hP hD [0, 1, 2, 3, 4] [] rfl rfl (by decide) (by decide) hk1 hFc hP1 hD1
          generalize H1 = H at hP hS ⊢
          have hP : va_P (dC, dI) vwCl [(h, .inr (2, [.ref k, .ref t, .int (nI n), .ref k2, .ref t2])), (k, .inl (cA, 500, .inl K)), (t, .inl (cB, 500, .inl T)), (k2, .inl (cC, 500, .inl NK)), (t2, .inl (cD, 500, .inl NT))] H := hP
          have hD : va_D A [(h, .inr (2, [.ref k, .ref t, .int (nI n), .ref k2, .ref t2])), (k, .inl (cA, 500, .inl K)), (t, .inl (cB, 500, .inl T)), (k2, .inl (cC, 500, .inl NK)), (t2, .inl (cD, 500, .inl NT))] := hD
          refine lv_if_eq (tgt := 60) hx hb dX3_merge_46 (by decide) (fun c46 => ?_) (fun c46 => ?_)
          · refine lv_iconst (v := (nI 0)) hx hb dX3_merge_60 (by decide) ?_
            exact W.iret (v := (nI 0)) hx hb hr (fun tS ht hW => ⟨⟨(nI 0), (K, T, n, NK, NT), rfl, Or.inr ⟨(a, d, b, o1), ⟨rfl, rfl, rfl, rfl, had, hdb, hbn, ho⟩, Or.inl ⟨fun z => tr_0 hi1 c46 z.1, rfl, sam_rf⟩⟩, by rw [ht]; exact hP, va_K.moved hW.alike hK, hD⟩, hS.F ht⟩) hS.2.2 dX3_merge_61
          · refine lv_aload_n hx hb dX3_merge_49 rfl (lv_at hl 1 rfl) ?_
            refine lv_iload_n hx hb dX3_merge_50 rfl (lv_at hl 3 rfl) ?_
            refine lv_iload_n hx hb dX3_merge_51 rfl (lv_at hl 4 rfl) ?_
            refine lv_iload hx hb dX3_merge_52 (lv_at hl 5 rfl) ?_
            have hPc := hP.sub (ws' := [(h, .inr (2, [.ref k, .ref t, .int (nI n), .ref k2, .ref t2])), (k, .inl (cA, 500, .inl K)), (t, .inl (cB, 500, .inl T)), (k2, .inl (cC, 500, .inl NK)), (t2, .inl (cD, 500, .inl NT))]) [0, 1, 2, 3, 4] rfl
            have hDc := hD.sub (ws' := [(h, .inr (2, [.ref k, .ref t, .int (nI n), .ref k2, .ref t2])), (k, .inl (cA, 500, .inl K)), (t, .inl (cB, 500, .inl T)), (k2, .inl (cC, 500, .inl NK)), (t2, .inl (cD, 500, .inl NT))]) [0, 1, 2, 3, 4] (by decide) rfl
            have hKc := hK.sub (tys' := [(cA, .int), (cB, .int), (cC, .int), (cD, .int)]) [0, 1, 2, 3] rfl
            have hFc := va_free (wc := [(h, .inr (2, [.ref k, .ref t, .int (nI n), .ref k2, .ref t2])), (k, .inl (cA, 500, .inl K)), (t, .inl (cB, 500, .inl T)), (k2, .inl (cC, 500, .inl NK)), (t2, .inl (cD, 500, .inl NT))]) hD hS hA [0, 1, 2, 3, 4] rfl
            refine va_calli (va_runV (As := [.int (nI d), .int (nI b), .int (nI o1)]) (rest := []) ⟨hx, hb, hml, hown, hts⟩ (c_X3_isSorted l dC dI H.size h k t k2 t2 cA cB cC cD n K T NK NT d b o1 (by omega) (by omega) ho) (cwV 3 hts gX3_merge_X3_isSorted rfl rfl rfl (by decide +kernel) ⟨Nat.le_of_ble_eq_true rfl, Nat.le_of_ble_eq_true rfl⟩) ⟨fun a U g mk q => by obtain ⟨q0, q1, qP, qK, qD⟩ := q; exact ⟨q0, q1, qP, va_K.moved (u := U) (U := U.calling g mk a) (Vm.Alike.refl U.vm) qK, qD⟩, va_recv hKc hPc (ci := 2) (q0 := 0) rfl rfl, fun U hU hW => ⟨rfl, by rw [hU], by rw [hU]; exact hPc, va_K.moved hW.alike hKc, hDc.weaken (fun _ _ _ _ => trivial)⟩⟩ rfl rfl hl.1 rfl (lv_room (Nat.le_of_ble_eq_true rfl)) dX3_merge_54 ⟨Nat.le_of_ble_eq_true rfl, Nat.le_of_ble_eq_true rfl⟩) hS (fun q _ h => hFc q h) hFc (fun r_5 u tS H1 locs ht hvm hw hB hz1 hk1 hS => ?_)
            obtain ⟨hi2, rfl⟩ := hw
            obtain ⟨hP1, hK1, hD1⟩ := hB
            rw [ht] at hP1
            obtain ⟨hP, hD⟩ := va_join (wr := []) (w1 := [(h, .inr (2, [.ref k, .ref t, .int (nI n), .ref k2, .ref t2])), (k, .inl (cA, 500, .inl K)), (t, .inl (cB, 500, .inl T)), (k2, .inl (cC, 500, .inl NK)), (t2, .inl (cD, 500, .inl NT))]) hP hD [0, 1, 2, 3, 4] [] rfl rfl (by decide) (by decide) hk1 hFc hP1 hD1
            generalize H1 = H at hP hS ⊢
            have hP : va_P (dC, dI) vwCl [(h, .inr (2, [.ref k, .ref t, .int (nI n), .ref k2, .ref t2])), (k, .inl (cA, 500, .inl K)), (t, .inl (cB, 500, .inl T)), (k2, .inl (cC, 500, .inl NK)), (t2, .inl (cD, 500, .inl NT))] H := hP
            have hD : va_D A [(h, .inr (2, [.ref k, .ref t, .int (nI n), .ref k2, .ref t2])), (k, .inl (cA, 500, .inl K)), (t, .inl (cB, 500, .inl T)), (k2, .inl (cC, 500, .inl NK)), (t2, .inl (cD, 500, .inl NT))] := hD
            refine lv_if_ne (tgt := 62) hx hb dX3_merge_57 (by decide) (fun c57 => ?_) (fun c57 => ?_)
            · refine lv_aload_n hx hb dX3_merge_62 rfl (lv_at hl 1 rfl) ?_
              refine lv_iload_n hx hb dX3_merge_63 rfl (lv_at hl 2 rfl) ?_
              refine lv_iload_n hx hb dX3_merge_64 rfl (lv_at hl 4 rfl) ?_
              refine lv_iload hx hb dX3_merge_65 (lv_at hl 5 rfl) ?_
              have hPc := hP.sub (ws' := [(h, .inr (2, [.ref k, .ref t, .int (nI n), .ref k2, .ref t2])), (k, .inl (cA, 500, .inl K)), (t, .inl (cB, 500, .inl T)), (k2, .inl (cC, 500, .inl NK)), (t2, .inl (cD, 500, .inl NT))]) [0, 1, 2, 3, 4] rfl
              have hDc := hD.sub (ws' := [(h, .inr (2, [.ref k, .ref t, .int (nI n), .ref k2, .ref t2])), (k, .inl (cA, 500, .inl K)), (t, .inl (cB, 500, .inl T)), (k2, .inl (cC, 500, .inl NK)), (t2, .inl (cD, 500, .inl NT))]) [0, 1, 2, 3, 4] (by decide) rfl
              have hKc := hK.sub (tys' := [(cA, .int), (cB, .int), (cC, .int), (cD, .int)]) [0, 1, 2, 3] rfl
              have hFc := va_free (wc := [(h, .inr (2, [.ref k, .ref t, .int (nI n), .ref k2, .ref t2])), (k, .inl (cA, 500, .inl K)), (t, .inl (cB, 500, .inl T)), (k2, .inl (cC, 500, .inl NK)), (t2, .inl (cD, 500, .inl NT))]) hD hS hA [0, 1, 2, 3, 4] rfl
              refine va_callv (va_runV (As := [.int (nI a), .int (nI b), .int (nI o1)]) (rest := []) ⟨hx, hb, hml, hown, hts⟩ (c_X3_arrange l dC dI H.size h k t k2 t2 cA cB cC cD n K T NK NT a b o1 (by omega) hb5 ho) (cwV 3 hts gX3_merge_X3_arrange rfl rfl rfl (by decide +kernel) ⟨Nat.le_of_ble_eq_true rfl, Nat.le_of_ble_eq_true rfl⟩) ⟨fun a U g mk q => by obtain ⟨q0, q1, qP, qK, qD⟩ := q; exact ⟨q0, q1, qP, va_K.moved (u := U) (U := U.calling g mk a) (Vm.Alike.refl U.vm) qK, qD⟩, va_recv hKc hPc (ci := 2) (q0 := 0) rfl rfl, fun U hU hW => ⟨rfl, by rw [hU], by rw [hU]; exact hPc, va_K.moved hW.alike hKc, hDc.weaken (fun _ _ _ _ => trivial)⟩⟩ rfl rfl hl.1 rfl (lv_room (Nat.le_of_ble_eq_true rfl)) dX3_merge_67 ⟨Nat.le_of_ble_eq_true rfl, Nat.le_of_ble_eq_true rfl⟩) hS (fun q _ h => hFc q h) hFc (fun u tS H1 locs ht hvm hw hB hz1 hk1 hS => ?_)
              obtain ⟨K9, T9, n9, NK9, NT9⟩ := u
              obtain ⟨hso, hn9⟩ := hw
              dsimp only at hso hn9
              subst hn9
              obtain ⟨hP1, hK1, hD1⟩ := hB
              rw [ht] at hP1
              obtain ⟨hP, hD⟩ := va_join (wr := []) (w1 := [(h, .inr (2, [.ref k, .ref t, .int (nI n), .ref k2, .ref t2])), (k, .inl (cA, 500, .inl K9)), (t, .inl (cB, 500, .inl T9)), (k2, .inl (cC, 500, .inl NK9)), (t2, .inl (cD, 500, .inl NT9))]) hP hD [0, 1, 2, 3, 4] [] rfl rfl (by decide) (by decide) hk1 hFc hP1 hD1
              generalize H1 = H at hP hS ⊢
              have hP : va_P (dC, dI) vwCl [(h, .inr (2, [.ref k, .ref t, .int (nI n), .ref k2, .ref t2])), (k, .inl (cA, 500, .inl K9)), (t, .inl (cB, 500, .inl T9)), (k2, .inl (cC, 500, .inl NK9)), (t2, .inl (cD, 500, .inl NT9))] H := hP
              have hD : va_D A [(h, .inr (2, [.ref k, .ref t, .int (nI n), .ref k2, .ref t2])), (k, .inl (cA, 500, .inl K9)), (t, .inl (cB, 500, .inl T9)), (k2, .inl (cC, 500, .inl NK9)), (t2, .inl (cD, 500, .inl NT9))] := hD
              refine lv_iconst (v := (nI 1)) hx hb dX3_merge_70 (by decide) ?_
              exact W.iret (v := (nI 1)) hx hb hr (fun tS ht hW => ⟨⟨(nI 1), (K9, T9, n, NK9, NT9), rfl, Or.inr ⟨(a, d, b, o1), ⟨rfl, rfl, rfl, rfl, had, hdb, hbn, ho⟩, Or.inr ⟨tr_1 hi1 c46, tr_1 hi2 c57, rfl, rfl, ⟨fun j hj z => hso.1 j (by omega) z, hso.2⟩⟩⟩, by rw [ht]; exact hP, va_K.moved hW.alike hK, hD⟩, hS.F ht⟩) hS.2.2 dX3_merge_71
            · refine lv_iconst (v := (nI 0)) hx hb dX3_merge_60 (by decide) ?_
              exact W.iret (v := (nI 0)) hx hb hr (fun tS ht hW => ⟨⟨(nI 0), (K, T, n, NK, NT), rfl, Or.inr ⟨(a, d, b, o1), ⟨rfl, rfl, rfl, rfl, had, hdb, hbn, ho⟩, Or.inl ⟨fun z => tr_0 hi2 c57 z.2, rfl, sam_rf⟩⟩, by rw [ht]; exact hP, va_K.moved hW.alike hK, hD⟩, hS.F ht⟩) hS.2.2 dX3_merge_61
set_option maxHeartbeats 4000000 in
set_option maxRecDepth 100000 in
theorem c_X3_rotate (l : Launch) (dC : Nat → ClassId) (dI : Nat → Nat → Nat) (sz : Nat) (h k t k2 t2 : Nat) (cA cB cC cD : ClassId) (n : Nat) (K T NK NT : Nat → Int32) (hn : n ≤ 500) (x y v : Int32) : Met l yX3_rotate wsX3_rotate ({ frames := 1, cells := 0, slots := 0, locals := 23 }) (va_Pc [.ref h, .int x, .int y, .int v] (fun U => U.heap.size = sz ∧ va_P (dC, dI) vwCl [(h, .inr (2, [.ref k, .ref t, .int (nI n), .ref k2, .ref t2])), (k, .inl (cA, 500, .inl K)), (t, .inl (cB, 500, .inl T)), (k2, .inl (cC, 500, .inl NK)), (t2, .inl (cD, 500, .inl NT))] U.heap ∧ va_K (dC, dI) vwCl [(cA, .int), (cB, .int), (cC, .int), (cD, .int)] U ∧ va_D (fun _ => True) [(h, .inr (2, [.ref k, .ref t, .int (nI n), .ref k2, .ref t2])), (k, .inl (cA, 500, .inl K)), (t, .inl (cB, 500, .inl T)), (k2, .inl (cC, 500, .inl NK)), (t2, .inl (cD, 500, .inl NT))])) (va_Qi (fun r u => Qrot n (mZ K T) x y v r u.2.2.1 (mZ u.1 u.2.1)) (atM dC dI (va_A [(h, .inr (2, [.ref k, .ref t, .int (nI n), .ref k2, .ref t2])), (k, .inl (cA, 500, .inl K)), (t, .inl (cB, 500, .inl T)), (k2, .inl (cC, 500, .inl NK)), (t2, .inl (cD, 500, .inl NT))] sz) h k t k2 t2 cA cB cC cD) (va_A [(h, .inr (2, [.ref k, .ref t, .int (nI n), .ref k2, .ref t2])), (k, .inl (cA, 500, .inl K)), (t, .inl (cB, 500, .inl T)), (k2, .inl (cC, 500, .inl NK)), (t2, .inl (cD, 500, .inl NT))] sz)) 0 0 (va_A [(h, .inr (2, [.ref k, .ref t, .int (nI n), .ref k2, .ref t2])), (k, .inl (cA, 500, .inl K)), (t, .inl (cB, 500, .inl T)), (k2, .inl (cC, 500, .inl NK)), (t2, .inl (cD, 500, .inl NT))] sz) := by
  refine Met.ofW (cc := cX3_rotate) (maxL := 5) (ret := (some .int)) (by decide) rfl ?_
  intro p e s m args below meth c s₁ B hml hv
  obtain ⟨rfl, hsz, hP, hK, hD0⟩ := hv
  have hx := B.exec
  have hb := B.bytes
  have hr := B.returns
  have hts := atoms_spec (ws := wsX3_rotate) B.pre
  have hown : s.vm.findClass RX3 = some m.cls := findClass_of_methodNamed B.named
  have hlocks := B.notSynchronized
  subst hsz
  have hD := hD0.self (sz := s.heap.size)
  generalize hAe : va_A [(h, .inr (2, [.ref k, .ref t, .int (nI n), .ref k2, .ref t2])), (k, .inl (cA, 500, .inl K)), (t, .inl (cB, 500, .inl T)), (k2, .inl (cC, 500, .inl NK)), (t2, .inl (cD, 500, .inl NT))] s.heap.size = A at hD ⊢
  have hA : ∀ q : Nat, s.heap.size ≤ q → A q := fun q h => by rw [← hAe]; exact Or.inr h
  have hS : va_S A s.heap s.heap [] := va_S.rf
  have hP : va_P (dC, dI) vwCl [(h, .inr (2, [.ref k, .ref t, .int (nI n), .ref k2, .ref t2])), (k, .inl (cA, 500, .inl K)), (t, .inl (cB, 500, .inl T)), (k2, .inl (cC, 500, .inl NK)), (t2, .inl (cD, 500, .inl NT))] s.heap := hP
  have hl := lv_entry ([.ref h, .int x, .int y, .int v]) (n := 5) (Nat.le_of_ble_eq_true rfl)
  rw [lg_entry_eq]
  generalize (lg_sl ([.ref h, .int x, .int y, .int v]) ++ List.replicate (5 - (lg_sl ([.ref h, .int x, .int y, .int v])).length) Slot.unset).toArray = ls at hl ⊢
  have hl : lv_has ls 5 [(0, .ref h), (1, .int x), (2, .int y), (3, .int v)] := hl
  refine lv_aload_n hx hb dX3_rotate_0 rfl (lv_at hl 0 rfl) ?_
  refine lv_iload_n hx hb dX3_rotate_1 rfl (lv_at hl 1 rfl) ?_
  refine lv_iload_n hx hb dX3_rotate_2 rfl (lv_at hl 2 rfl) ?_
  have hPc := hP.sub (ws' := [(h, .inr (2, [.ref k, .ref t, .int (nI n), .ref k2, .ref t2])), (k, .inl (cA, 500, .inl K)), (t, .inl (cB, 500, .inl T)), (k2, .inl (cC, 500, .inl NK)), (t2, .inl (cD, 500, .inl NT))]) [0, 1, 2, 3, 4] rfl
  have hDc := hD.sub (ws' := [(h, .inr (2, [.ref k, .ref t, .int (nI n), .ref k2, .ref t2])), (k, .inl (cA, 500, .inl K)), (t, .inl (cB, 500, .inl T)), (k2, .inl (cC, 500, .inl NK)), (t2, .inl (cD, 500, .inl NT))]) [0, 1, 2, 3, 4] (by decide) rfl
  have hKc := hK.sub (tys' := [(cA, .int), (cB, .int), (cC, .int), (cD, .int)]) [0, 1, 2, 3] rfl
  have hFc := va_free (wc := [(h, .inr (2, [.ref k, .ref t, .int (nI n), .ref k2, .ref t2])), (k, .inl (cA, 500, .inl K)), (t, .inl (cB, 500, .inl T)), (k2, .inl (cC, 500, .inl NK)), (t2, .inl (cD, 500, .inl NT))]) hD hS hA [0, 1, 2, 3, 4] rfl
  refine va_calli (va_runV (As := [.int x, .int y]) (rest := []) ⟨hx, hb, hml, hown, hts⟩ (c_X3_isStretch l dC dI s.heap.size h k t k2 t2 cA cB cC cD n K T NK NT hn x y) (cwV 2 hts gX3_rotate_X3_isStretch rfl rfl rfl (by decide +kernel) ⟨Nat.le_of_ble_eq_true rfl, Nat.le_of_ble_eq_true rfl⟩) ⟨fun a U g mk q => by obtain ⟨q0, q1, qP, qK, qD⟩ := q; exact ⟨q0, q1, qP, va_K.moved (u := U) (U := U.calling g mk a) (Vm.Alike.refl U.vm) qK, qD⟩, va_recv hKc hPc (ci := 2) (q0 := 0) rfl rfl, fun U hU hW => ⟨rfl, by rw [hU], by rw [hU]; exact hPc, va_K.moved hW.alike hKc, hDc.weaken (fun _ _ _ _ => trivial)⟩⟩ rfl rfl hl.1 rfl (lv_room (Nat.le_of_ble_eq_true rfl)) dX3_rotate_3 ⟨Nat.le_of_ble_eq_true rfl, Nat.le_of_ble_eq_true rfl⟩) hS (fun q _ h => hFc q h) hFc (fun r_1 u tS H1 locs ht hvm hw hB hz1 hk1 hS => ?_)
  obtain ⟨hs1, rfl⟩ := hw
  obtain ⟨hP1, hK1, hD1⟩ := hB
  rw [ht] at hP1
  obtain ⟨hP, hD⟩ := va_join (wr := []) (w1 := [(h, .inr (2, [.ref k, .ref t, .int (nI n), .ref k2, .ref t2])), (k, .inl (cA, 500, .inl K)), (t, .inl (cB, 500, .inl T)), (k2, .inl (cC, 500, .inl NK)), (t2, .inl (cD, 500, .inl NT))]) hP hD [0, 1, 2, 3, 4] [] rfl rfl (by decide) (by decide) hk1 hFc hP1 hD1
  generalize H1 = H at hP hS ⊢
  have hP : va_P (dC, dI) vwCl [(h, .inr (2, [.ref k, .ref t, .int (nI n), .ref k2, .ref t2])), (k, .inl (cA, 500, .inl K)), (t, .inl (cB, 500, .inl T)), (k2, .inl (cC, 500, .inl NK)), (t2, .inl (cD, 500, .inl NT))] H := hP
  have hD : va_D A [(h, .inr (2, [.ref k, .ref t, .int (nI n), .ref k2, .ref t2])), (k, .inl (cA, 500, .inl K)), (t, .inl (cB, 500, .inl T)), (k2, .inl (cC, 500, .inl NK)), (t2, .inl (cD, 500, .inl NT))] := hD
  refine lv_if_eq (tgt := 18) hx hb dX3_rotate_6 (by decide) (fun c6 => ?_) (fun c6 => ?_)
  · refine lv_iconst (v := (nI 0)) hx hb dX3_rotate_18 (by decide) ?_
    exact W.iret (v := (nI 0)) hx hb hr (fun tS ht hW => ⟨⟨(nI 0), (K, T, n, NK, NT), rfl, Or.inl ⟨⟨rfl, sam_rf⟩, fun z hz => tr_0 hs1 c6 (dM_e hn hz).1⟩, by rw [ht]; exact hP, va_K.moved hW.alike hK, hD⟩, hS.F ht⟩) hS.2.2 dX3_rotate_19
  · refine lv_aload_n hx hb dX3_rotate_9 rfl (lv_at hl 0 rfl) ?_
    refine lv_iload_n hx hb dX3_rotate_10 rfl (lv_at hl 2 rfl) ?_
    refine lv_iload_n hx hb dX3_rotate_11 rfl (lv_at hl 3 rfl) ?_
    have hPc := hP.sub (ws' := [(h, .inr (2, [.ref k, .ref t, .int (nI n), .ref k2, .ref t2])), (k, .inl (cA, 500, .inl K)), (t, .inl (cB, 500, .inl T)), (k2, .inl (cC, 500, .inl NK)), (t2, .inl (cD, 500, .inl NT))]) [0, 1, 2, 3, 4] rfl
    have hDc := hD.sub (ws' := [(h, .inr (2, [.ref k, .ref t, .int (nI n), .ref k2, .ref t2])), (k, .inl (cA, 500, .inl K)), (t, .inl (cB, 500, .inl T)), (k2, .inl (cC, 500, .inl NK)), (t2, .inl (cD, 500, .inl NT))]) [0, 1, 2, 3, 4] (by decide) rfl
    have hKc := hK.sub (tys' := [(cA, .int), (cB, .int), (cC, .int), (cD, .int)]) [0, 1, 2, 3] rfl
    have hFc := va_free (wc := [(h, .inr (2, [.ref k, .ref t, .int (nI n), .ref k2, .ref t2])), (k, .inl (cA, 500, .inl K)), (t, .inl (cB, 500, .inl T)), (k2, .inl (cC, 500, .inl NK)), (t2, .inl (cD, 500, .inl NT))]) hD hS hA [0, 1, 2, 3, 4] rfl
    refine va_calli (va_runV (As := [.int y, .int v]) (rest := []) ⟨hx, hb, hml, hown, hts⟩ (c_X3_isStretch l dC dI H.size h k t k2 t2 cA cB cC cD n K T NK NT hn y v) (cwV 2 hts gX3_rotate_X3_isStretch rfl rfl rfl (by decide +kernel) ⟨Nat.le_of_ble_eq_true rfl, Nat.le_of_ble_eq_true rfl⟩) ⟨fun a U g mk q => by obtain ⟨q0, q1, qP, qK, qD⟩ := q; exact ⟨q0, q1, qP, va_K.moved (u := U) (U := U.calling g mk a) (Vm.Alike.refl U.vm) qK, qD⟩, va_recv hKc hPc (ci := 2) (q0 := 0) rfl rfl, fun U hU hW => ⟨rfl, by rw [hU], by rw [hU]; exact hPc, va_K.moved hW.alike hKc, hDc.weaken (fun _ _ _ _ => trivial)⟩⟩ rfl rfl hl.1 rfl (lv_room (Nat.le_of_ble_eq_true rfl)) dX3_rotate_12 ⟨Nat.le_of_ble_eq_true rfl, Nat.le_of_ble_eq_true rfl⟩) hS (fun q _ h => hFc q h) hFc (fun r_2 u tS H1 locs ht hvm hw hB hz1 hk1 hS => ?_)
    obtain ⟨hs2, rfl⟩ := hw
    obtain ⟨hP1, hK1, hD1⟩ := hB
    rw [ht] at hP1
    obtain ⟨hP, hD⟩ := va_join (wr := []) (w1 := [(h, .inr (2, [.ref k, .ref t, .int (nI n), .ref k2, .ref t2])), (k, .inl (cA, 500, .inl K)), (t, .inl (cB, 500, .inl T)), (k2, .inl (cC, 500, .inl NK)), (t2, .inl (cD, 500, .inl NT))]) hP hD [0, 1, 2, 3, 4] [] rfl rfl (by decide) (by decide) hk1 hFc hP1 hD1
    generalize H1 = H at hP hS ⊢
    have hP : va_P (dC, dI) vwCl [(h, .inr (2, [.ref k, .ref t, .int (nI n), .ref k2, .ref t2])), (k, .inl (cA, 500, .inl K)), (t, .inl (cB, 500, .inl T)), (k2, .inl (cC, 500, .inl NK)), (t2, .inl (cD, 500, .inl NT))] H := hP
    have hD : va_D A [(h, .inr (2, [.ref k, .ref t, .int (nI n), .ref k2, .ref t2])), (k, .inl (cA, 500, .inl K)), (t, .inl (cB, 500, .inl T)), (k2, .inl (cC, 500, .inl NK)), (t2, .inl (cD, 500, .inl NT))] := hD
    refine lv_if_ne (tgt := 20) hx hb dX3_rotate_15 (by decide) (fun c15 => ?_) (fun c15 => ?_)
    · obtain ⟨a, d, rfl, rfl, had, hdn⟩ := stP_of hn (tr_1 hs1 c6)
      obtain ⟨d2, b, hd2, rfl, hdb, hbn⟩ := stP_of hn (tr_1 hs2 c15)
      obtain rfl : d = d2 := (nI_eq (by omega) (by omega)).mp hd2
      clear hd2
      refine lv_iload_n hx hb dX3_rotate_20 rfl (lv_at hl 1 rfl) ?_
      refine lv_istore (lv' := [(4, .int (nI a)), (0, .ref h), (1, .int (nI a)), (2, .int (nI d)), (3, .int (nI b))]) hx hb dX3_rotate_21 hl (by decide) rfl (fun ls hl => ?_)
      refine lz_loop (σ := Nat × (Nat → Int32) × (Nat → Int32)) (μ := fun X_ => match X_ with | (q, NK1, NT1) => d - q) (Inv := fun X_ H locs ls => match X_ with | (q, NK1, NT1) => (a ≤ q) ∧ (q ≤ d) ∧ (mvI (mZ K T) (mZ NK1 NT1) (fun i => i + b - d) a q) ∧ va_P (dC, dI) vwCl [(h, .inr (2, [.ref k, .ref t, .int (nI n), .ref k2, .ref t2])), (k, .inl (cA, 500, .inl K)), (t, .inl (cB, 500, .inl T)), (k2, .inl (cC, 500, .inl NK1)), (t2, .inl (cD, 500, .inl NT1))] H ∧ va_D A [(h, .inr (2, [.ref k, .ref t, .int (nI n), .ref k2, .ref t2])), (k, .inl (cA, 500, .inl K)), (t, .inl (cB, 500, .inl T)), (k2, .inl (cC, 500, .inl NK1)), (t2, .inl (cD, 500, .inl NT1))] ∧ va_S A s.heap H locs ∧ lv_has ls 5 [(0, .ref h), (1, .int (nI a)), (2, .int (nI d)), (3, .int (nI b)), (4, .int (nI q))]) ?_ (a, NK, NT) _ _ _ ?_
      · rintro ⟨q, NK1, NT1⟩ ihf H locs ls ⟨vf0, vf1, vf2, hP, hD, hS, hl⟩
        refine lv_iload hx hb dX3_rotate_23 (lv_at hl 4 rfl) ?_
        refine lv_iload_n hx hb dX3_rotate_25 rfl (lv_at hl 2 rfl) ?_
        refine lz_icmp_ge (tgt := 47) (by omega) (by omega) hx hb dX3_rotate_26 (by decide) (fun c26 => ?_) (fun c26 => ?_)
        · refine lv_iload_n hx hb dX3_rotate_47 rfl (lv_at hl 2 rfl) ?_
          refine lv_istore (lv' := [(4, .int (nI d)), (0, .ref h), (1, .int (nI a)), (2, .int (nI d)), (3, .int (nI b))]) hx hb dX3_rotate_48 hl (by decide) rfl (fun ls hl => ?_)
          refine lz_loop (σ := Nat × (Nat → Int32) × (Nat → Int32)) (μ := fun X_ => match X_ with | (g, NK2, NT2) => b - g) (Inv := fun X_ H locs ls => match X_ with | (g, NK2, NT2) => (d ≤ g) ∧ (g ≤ b) ∧ (mvI (mZ K T) (mZ NK2 NT2) (fun i => i + b - d) a d) ∧ (mvI (mZ K T) (mZ NK2 NT2) (fun i => i - d + a) d g) ∧ va_P (dC, dI) vwCl [(h, .inr (2, [.ref k, .ref t, .int (nI n), .ref k2, .ref t2])), (k, .inl (cA, 500, .inl K)), (t, .inl (cB, 500, .inl T)), (k2, .inl (cC, 500, .inl NK2)), (t2, .inl (cD, 500, .inl NT2))] H ∧ va_D A [(h, .inr (2, [.ref k, .ref t, .int (nI n), .ref k2, .ref t2])), (k, .inl (cA, 500, .inl K)), (t, .inl (cB, 500, .inl T)), (k2, .inl (cC, 500, .inl NK2)), (t2, .inl (cD, 500, .inl NT2))] ∧ va_S A s.heap H locs ∧ lv_has ls 5 [(0, .ref h), (1, .int (nI a)), (2, .int (nI d)), (3, .int (nI b)), (4, .int (nI g))]) ?_ (d, NK1, NT1) _ _ _ ?_
          · rintro ⟨g, NK2, NT2⟩ ihg H locs ls ⟨vg0, vg1, vg2, vg3, hP, hD, hS, hl⟩
            refine lv_iload hx hb dX3_rotate_50 (lv_at hl 4 rfl) ?_
            refine lv_iload_n hx hb dX3_rotate_52 rfl (lv_at hl 3 rfl) ?_
            refine lz_icmp_ge (tgt := 74) (by omega) (by omega) hx hb dX3_rotate_53 (by decide) (fun c53 => ?_) (fun c53 => ?_)
            · refine lv_aload_n hx hb dX3_rotate_74 rfl (lv_at hl 0 rfl) ?_
              refine lv_iload_n hx hb dX3_rotate_75 rfl (lv_at hl 1 rfl) ?_
              refine lv_iload_n hx hb dX3_rotate_76 rfl (lv_at hl 3 rfl) ?_
              have hPc := hP.sub (ws' := [(h, .inr (2, [.ref k, .ref t, .int (nI n), .ref k2, .ref t2])), (k, .inl (cA, 500, .inl K)), (t, .inl (cB, 500, .inl T)), (k2, .inl (cC, 500, .inl NK2)), (t2, .inl (cD, 500, .inl NT2))]) [0, 1, 2, 3, 4] rfl
              have hDc := hD.sub (ws' := [(h, .inr (2, [.ref k, .ref t, .int (nI n), .ref k2, .ref t2])), (k, .inl (cA, 500, .inl K)), (t, .inl (cB, 500, .inl T)), (k2, .inl (cC, 500, .inl NK2)), (t2, .inl (cD, 500, .inl NT2))]) [0, 1, 2, 3, 4] (by decide) rfl
              have hKc := hK.sub (tys' := [(cA, .int), (cB, .int), (cC, .int), (cD, .int)]) [0, 1, 2, 3] rfl
              have hFc := va_free (wc := [(h, .inr (2, [.ref k, .ref t, .int (nI n), .ref k2, .ref t2])), (k, .inl (cA, 500, .inl K)), (t, .inl (cB, 500, .inl T)), (k2, .inl (cC, 500, .inl NK2)), (t2, .inl (cD, 500, .inl NT2))]) hD hS hA [0, 1, 2, 3, 4] rfl
              refine va_callv (va_runV (As := [.int (nI a), .int (nI b)]) (rest := []) ⟨hx, hb, hml, hown, hts⟩ (c_X3_take l dC dI H.size h k t k2 t2 cA cB cC cD n K T NK2 NT2 a b (by omega) (by omega)) (cwV 2 hts gX3_rotate_X3_take rfl rfl rfl (by decide +kernel) ⟨Nat.le_of_ble_eq_true rfl, Nat.le_of_ble_eq_true rfl⟩) ⟨fun a U g mk q => by obtain ⟨q0, q1, qP, qK, qD⟩ := q; exact ⟨q0, q1, qP, va_K.moved (u := U) (U := U.calling g mk a) (Vm.Alike.refl U.vm) qK, qD⟩, va_recv hKc hPc (ci := 2) (q0 := 0) rfl rfl, fun U hU hW => ⟨rfl, by rw [hU], by rw [hU]; exact hPc, va_K.moved hW.alike hKc, hDc.weaken (fun _ _ _ _ => trivial)⟩⟩ rfl rfl hl.1 rfl (lv_room (Nat.le_of_ble_eq_true rfl)) dX3_rotate_77 ⟨Nat.le_of_ble_eq_true rfl, Nat.le_of_ble_eq_true rfl⟩) hS (fun q _ h => hFc q h) hFc (fun u tS H1 locs ht hvm hw hB hz1 hk1 hS => ?_)
              obtain ⟨K9, T9, n9, NK9, NT9⟩ := u
              obtain ⟨htk, he9⟩ := hw
              dsimp only at htk he9
              cases he9
              obtain ⟨hP1, hK1, hD1⟩ := hB
              rw [ht] at hP1
              obtain ⟨hP, hD⟩ := va_join (wr := []) (w1 := [(h, .inr (2, [.ref k, .ref t, .int (nI n), .ref k2, .ref t2])), (k, .inl (cA, 500, .inl K9)), (t, .inl (cB, 500, .inl T9)), (k2, .inl (cC, 500, .inl NK2)), (t2, .inl (cD, 500, .inl NT2))]) hP hD [0, 1, 2, 3, 4] [] rfl rfl (by decide) (by decide) hk1 hFc hP1 hD1
              generalize H1 = H at hP hS ⊢
              have hP : va_P (dC, dI) vwCl [(h, .inr (2, [.ref k, .ref t, .int (nI n), .ref k2, .ref t2])), (k, .inl (cA, 500, .inl K9)), (t, .inl (cB, 500, .inl T9)), (k2, .inl (cC, 500, .inl NK2)), (t2, .inl (cD, 500, .inl NT2))] H := hP
              have hD : va_D A [(h, .inr (2, [.ref k, .ref t, .int (nI n), .ref k2, .ref t2])), (k, .inl (cA, 500, .inl K9)), (t, .inl (cB, 500, .inl T9)), (k2, .inl (cC, 500, .inl NK2)), (t2, .inl (cD, 500, .inl NT2))] := hD
              refine lv_iconst (v := (nI 1)) hx hb dX3_rotate_80 (by decide) ?_
              exact W.iret (v := (nI 1)) hx hb hr (fun tS ht hW => ⟨⟨(nI 1), (K9, T9, n, NK2, NT2), rfl, Or.inr ⟨(a, d, b), ⟨rfl, rfl, rfl, had, hdb, hbn⟩, rfl, rfl, fun j _ => ro_of had hdb vg2 (by rw [show g = b by omega] at vg3; exact vg3) htk j⟩, by rw [ht]; exact hP, va_K.moved hW.alike hK, hD⟩, hS.F ht⟩) hS.2.2 dX3_rotate_81
            · refine lv_aload_n hx hb dX3_rotate_56 rfl (lv_at hl 0 rfl) ?_
              refine lv_iload hx hb dX3_rotate_57 (lv_at hl 4 rfl) ?_
              refine lv_iload hx hb dX3_rotate_59 (lv_at hl 4 rfl) ?_
              refine lv_iload_n hx hb dX3_rotate_61 rfl (lv_at hl 2 rfl) ?_
              refine lv_isub hx hb dX3_rotate_62 ?_
              refine lz_top (y := (nI (g - d))) (pk_sub (by omega)) ?_
              refine lv_iload_n hx hb dX3_rotate_63 rfl (lv_at hl 1 rfl) ?_
              refine lv_iadd hx hb dX3_rotate_64 ?_
              refine lz_top (y := (nI ((g - d) + a))) (nI_add _ _) ?_
              have hPc := hP.sub (ws' := [(h, .inr (2, [.ref k, .ref t, .int (nI n), .ref k2, .ref t2])), (k, .inl (cA, 500, .inl K)), (t, .inl (cB, 500, .inl T)), (k2, .inl (cC, 500, .inl NK2)), (t2, .inl (cD, 500, .inl NT2))]) [0, 1, 2, 3, 4] rfl
              have hDc := hD.sub (ws' := [(h, .inr (2, [.ref k, .ref t, .int (nI n), .ref k2, .ref t2])), (k, .inl (cA, 500, .inl K)), (t, .inl (cB, 500, .inl T)), (k2, .inl (cC, 500, .inl NK2)), (t2, .inl (cD, 500, .inl NT2))]) [0, 1, 2, 3, 4] (by decide) rfl
              have hKc := hK.sub (tys' := [(cA, .int), (cB, .int), (cC, .int), (cD, .int)]) [0, 1, 2, 3] rfl
              have hFc := va_free (wc := [(h, .inr (2, [.ref k, .ref t, .int (nI n), .ref k2, .ref t2])), (k, .inl (cA, 500, .inl K)), (t, .inl (cB, 500, .inl T)), (k2, .inl (cC, 500, .inl NK2)), (t2, .inl (cD, 500, .inl NT2))]) hD hS hA [0, 1, 2, 3, 4] rfl
              refine va_callv (va_runV (As := [.int (nI g), .int (nI ((g - d) + a))]) (rest := []) ⟨hx, hb, hml, hown, hts⟩ (c_X3_move l dC dI H.size h k t k2 t2 cA cB cC cD n K T NK2 NT2 g (g - d + a) (by omega) (by omega)) (cwV 2 hts gX3_rotate_X3_move rfl rfl rfl (by decide +kernel) ⟨Nat.le_of_ble_eq_true rfl, Nat.le_of_ble_eq_true rfl⟩) ⟨fun a U g mk q => by obtain ⟨q0, q1, qP, qK, qD⟩ := q; exact ⟨q0, q1, qP, va_K.moved (u := U) (U := U.calling g mk a) (Vm.Alike.refl U.vm) qK, qD⟩, va_recv hKc hPc (ci := 2) (q0 := 0) rfl rfl, fun U hU hW => ⟨rfl, by rw [hU], by rw [hU]; exact hPc, va_K.moved hW.alike hKc, hDc.weaken (fun _ _ _ _ => trivial)⟩⟩ rfl rfl hl.1 rfl (lv_room (Nat.le_of_ble_eq_true rfl)) dX3_rotate_65 ⟨Nat.le_of_ble_eq_true rfl, Nat.le_of_ble_eq_true rfl⟩) hS (fun q _ h => hFc q h) hFc (fun u tS H1 locs ht hvm hw hB hz1 hk1 hS => ?_)
              subst hw
              obtain ⟨hP1, hK1, hD1⟩ := hB
              rw [ht] at hP1
              obtain ⟨hP, hD⟩ := va_join (wr := []) (w1 := [(h, .inr (2, [.ref k, .ref t, .int (nI n), .ref k2, .ref t2])), (k, .inl (cA, 500, .inl K)), (t, .inl (cB, 500, .inl T)), (k2, .inl (cC, 500, .inl (upd NK2 (g - d + a) (K g)))), (t2, .inl (cD, 500, .inl (upd NT2 (g - d + a) (T g))))]) hP hD [0, 1, 2, 3, 4] [] rfl rfl (by decide) (by decide) hk1 hFc hP1 hD1
              generalize H1 = H at hP hS ⊢
              have hP : va_P (dC, dI) vwCl [(h, .inr (2, [.ref k, .ref t, .int (nI n), .ref k2, .ref t2])), (k, .inl (cA, 500, .inl K)), (t, .inl (cB, 500, .inl T)), (k2, .inl (cC, 500, .inl (upd NK2 (g - d + a) (K g)))), (t2, .inl (cD, 500, .inl (upd NT2 (g - d + a) (T g))))] H := hP
              have hD : va_D A [(h, .inr (2, [.ref k, .ref t, .int (nI n), .ref k2, .ref t2])), (k, .inl (cA, 500, .inl K)), (t, .inl (cB, 500, .inl T)), (k2, .inl (cC, 500, .inl (upd NK2 (g - d + a) (K g)))), (t2, .inl (cD, 500, .inl (upd NT2 (g - d + a) (T g))))] := hD
              refine lv_iinc (v := (nI (g + 1))) (lv' := [(4, .int (nI (g + 1))), (0, .ref h), (1, .int (nI a)), (2, .int (nI d)), (3, .int (nI b))]) hx hb dX3_rotate_68 hl (k := 4) rfl (by first | exact nI_add g 1 | (rw [← nI_add]; rfl)) (by decide) rfl (fun ls hl => ?_)
              refine lv_goto (tgt := 50) hx hb dX3_rotate_71 (by decide) ?_
              exact ihg ((g + 1), (upd NK2 (g - d + a) (K g)), (upd NT2 (g - d + a) (T g))) (by show b - (g + 1) < b - g; omega) _ _ _ ⟨by omega, by omega, mvI_o vg2 (fun i i1 i2 => by omega) (mZ_put NK2 NT2 (g - d + a) (K g) (T g)), mvI_s vg3 rfl (fun i i1 i2 => by omega) (mZ_put NK2 NT2 (g - d + a) (K g) (T g)), hP, hD, hS, lv_sub hl [1, 2, 3, 4, 0] rfl⟩
          · exact ⟨Nat.le_refl _, by omega, by rw [show q = d by omega] at vf2; exact vf2, mvI_0, hP, hD, hS, lv_sub hl [1, 2, 3, 4, 0] rfl⟩
        · refine lv_aload_n hx hb dX3_rotate_29 rfl (lv_at hl 0 rfl) ?_
          refine lv_iload hx hb dX3_rotate_30 (lv_at hl 4 rfl) ?_
          refine lv_iload hx hb dX3_rotate_32 (lv_at hl 4 rfl) ?_
          refine lv_iload_n hx hb dX3_rotate_34 rfl (lv_at hl 3 rfl) ?_
          refine lv_iadd hx hb dX3_rotate_35 ?_
          refine lz_top (y := (nI (q + b))) (nI_add _ _) ?_
          refine lv_iload_n hx hb dX3_rotate_36 rfl (lv_at hl 2 rfl) ?_
          refine lv_isub hx hb dX3_rotate_37 ?_
          refine lz_top (y := (nI ((q + b) - d))) (pk_sub (by omega)) ?_
          have hPc := hP.sub (ws' := [(h, .inr (2, [.ref k, .ref t, .int (nI n), .ref k2, .ref t2])), (k, .inl (cA, 500, .inl K)), (t, .inl (cB, 500, .inl T)), (k2, .inl (cC, 500, .inl NK1)), (t2, .inl (cD, 500, .inl NT1))]) [0, 1, 2, 3, 4] rfl
          have hDc := hD.sub (ws' := [(h, .inr (2, [.ref k, .ref t, .int (nI n), .ref k2, .ref t2])), (k, .inl (cA, 500, .inl K)), (t, .inl (cB, 500, .inl T)), (k2, .inl (cC, 500, .inl NK1)), (t2, .inl (cD, 500, .inl NT1))]) [0, 1, 2, 3, 4] (by decide) rfl
          have hKc := hK.sub (tys' := [(cA, .int), (cB, .int), (cC, .int), (cD, .int)]) [0, 1, 2, 3] rfl
          have hFc := va_free (wc := [(h, .inr (2, [.ref k, .ref t, .int (nI n), .ref k2, .ref t2])), (k, .inl (cA, 500, .inl K)), (t, .inl (cB, 500, .inl T)), (k2, .inl (cC, 500, .inl NK1)), (t2, .inl (cD, 500, .inl NT1))]) hD hS hA [0, 1, 2, 3, 4] rfl
          refine va_callv (va_runV (As := [.int (nI q), .int (nI ((q + b) - d))]) (rest := []) ⟨hx, hb, hml, hown, hts⟩ (c_X3_move l dC dI H.size h k t k2 t2 cA cB cC cD n K T NK1 NT1 q (q + b - d) (by omega) (by omega)) (cwV 2 hts gX3_rotate_X3_move rfl rfl rfl (by decide +kernel) ⟨Nat.le_of_ble_eq_true rfl, Nat.le_of_ble_eq_true rfl⟩) ⟨fun a U g mk q => by obtain ⟨q0, q1, qP, qK, qD⟩ := q; exact ⟨q0, q1, qP, va_K.moved (u := U) (U := U.calling g mk a) (Vm.Alike.refl U.vm) qK, qD⟩, va_recv hKc hPc (ci := 2) (q0 := 0) rfl rfl, fun U hU hW => ⟨rfl, by rw [hU], by rw [hU]; exact hPc, va_K.moved hW.alike hKc, hDc.weaken (fun _ _ _ _ => trivial)⟩⟩ rfl rfl hl.1 rfl (lv_room (Nat.le_of_ble_eq_true rfl)) dX3_rotate_38 ⟨Nat.le_of_ble_eq_true rfl, Nat.le_of_ble_eq_true rfl⟩) hS (fun q _ h => hFc q h) hFc (fun u tS H1 locs ht hvm hw hB hz1 hk1 hS => ?_)
          subst hw
          obtain ⟨hP1, hK1, hD1⟩ := hB
          rw [ht] at hP1
          obtain ⟨hP, hD⟩ := va_join (wr := []) (w1 := [(h, .inr (2, [.ref k, .ref t, .int (nI n), .ref k2, .ref t2])), (k, .inl (cA, 500, .inl K)), (t, .inl (cB, 500, .inl T)), (k2, .inl (cC, 500, .inl (upd NK1 (q + b - d) (K q)))), (t2, .inl (cD, 500, .inl (upd NT1 (q + b - d) (T q))))]) hP hD [0, 1, 2, 3, 4] [] rfl rfl (by decide) (by decide) hk1 hFc hP1 hD1
          generalize H1 = H at hP hS ⊢
          have hP : va_P (dC, dI) vwCl [(h, .inr (2, [.ref k, .ref t, .int (nI n), .ref k2, .ref t2])), (k, .inl (cA, 500, .inl K)), (t, .inl (cB, 500, .inl T)), (k2, .inl (cC, 500, .inl (upd NK1 (q + b - d) (K q)))), (t2, .inl (cD, 500, .inl (upd NT1 (q + b - d) (T q))))] H := hP
          have hD : va_D A [(h, .inr (2, [.ref k, .ref t, .int (nI n), .ref k2, .ref t2])), (k, .inl (cA, 500, .inl K)), (t, .inl (cB, 500, .inl T)), (k2, .inl (cC, 500, .inl (upd NK1 (q + b - d) (K q)))), (t2, .inl (cD, 500, .inl (upd NT1 (q + b - d) (T q))))] := hD
          refine lv_iinc (v := (nI (q + 1))) (lv' := [(4, .int (nI (q + 1))), (0, .ref h), (1, .int (nI a)), (2, .int (nI d)), (3, .int (nI b))]) hx hb dX3_rotate_41 hl (k := 4) rfl (by first | exact nI_add q 1 | (rw [← nI_add]; rfl)) (by decide) rfl (fun ls hl => ?_)
          refine lv_goto (tgt := 23) hx hb dX3_rotate_44 (by decide) ?_
          exact ihf ((q + 1), (upd NK1 (q + b - d) (K q)), (upd NT1 (q + b - d) (T q))) (by show d - (q + 1) < d - q; omega) _ _ _ ⟨by omega, by omega, mvI_s vf2 rfl (fun i i1 i2 => by omega) (mZ_put NK1 NT1 (q + b - d) (K q) (T q)), hP, hD, hS, lv_sub hl [1, 2, 3, 4, 0] rfl⟩
      · exact ⟨Nat.le_refl _, by omega, mvI_0, hP, hD, hS, lv_sub hl [1, 2, 3, 4, 0] rfl⟩
    · refine lv_iconst (v := (nI 0)) hx hb dX3_rotate_18 (by decide) ?_
      exact W.iret (v := (nI 0)) hx hb hr (fun tS ht hW => ⟨⟨(nI 0), (K, T, n, NK, NT), rfl, Or.inl ⟨⟨rfl, sam_rf⟩, fun z hz => tr_0 hs2 c15 (dM_e hn hz).2⟩, by rw [ht]; exact hP, va_K.moved hW.alike hK, hD⟩, hS.F ht⟩) hS.2.2 dX3_rotate_19
set_option maxHeartbeats 4000000 in
set_option maxRecDepth 100000 in
theorem c_X3_turn (l : Launch) (dC : Nat → ClassId) (dI : Nat → Nat → Nat) (sz : Nat) (h k t k2 t2 : Nat) (cA cB cC cD : ClassId) (n : Nat) (K T NK NT : Nat → Int32) (hn : n ≤ 500) (x y : Int32) : Met l yX3_turn wsX3_turn ({ frames := 1, cells := 0, slots := 0, locals := 23 }) (va_Pc [.ref h, .int x, .int y] (fun U => U.heap.size = sz ∧ va_P (dC, dI) vwCl [(h, .inr (2, [.ref k, .ref t, .int (nI n), .ref k2, .ref t2])), (k, .inl (cA, 500, .inl K)), (t, .inl (cB, 500, .inl T)), (k2, .inl (cC, 500, .inl NK)), (t2, .inl (cD, 500, .inl NT))] U.heap ∧ va_K (dC, dI) vwCl [(cA, .int), (cB, .int), (cC, .int), (cD, .int)] U ∧ va_D (fun _ => True) [(h, .inr (2, [.ref k, .ref t, .int (nI n), .ref k2, .ref t2])), (k, .inl (cA, 500, .inl K)), (t, .inl (cB, 500, .inl T)), (k2, .inl (cC, 500, .inl NK)), (t2, .inl (cD, 500, .inl NT))])) (va_Qi (fun r u => Qtur n (mZ K T) x y r u.2.2.1 (mZ u.1 u.2.1)) (atM dC dI (va_A [(h, .inr (2, [.ref k, .ref t, .int (nI n), .ref k2, .ref t2])), (k, .inl (cA, 500, .inl K)), (t, .inl (cB, 500, .inl T)), (k2, .inl (cC, 500, .inl NK)), (t2, .inl (cD, 500, .inl NT))] sz) h k t k2 t2 cA cB cC cD) (va_A [(h, .inr (2, [.ref k, .ref t, .int (nI n), .ref k2, .ref t2])), (k, .inl (cA, 500, .inl K)), (t, .inl (cB, 500, .inl T)), (k2, .inl (cC, 500, .inl NK)), (t2, .inl (cD, 500, .inl NT))] sz)) 0 0 (va_A [(h, .inr (2, [.ref k, .ref t, .int (nI n), .ref k2, .ref t2])), (k, .inl (cA, 500, .inl K)), (t, .inl (cB, 500, .inl T)), (k2, .inl (cC, 500, .inl NK)), (t2, .inl (cD, 500, .inl NT))] sz) := by
  refine Met.ofW (cc := cX3_turn) (maxL := 4) (ret := (some .int)) (by decide) rfl ?_
  intro p e s m args below meth c s₁ B hml hv
  obtain ⟨rfl, hsz, hP, hK, hD0⟩ := hv
  have hx := B.exec
  have hb := B.bytes
  have hr := B.returns
  have hts := atoms_spec (ws := wsX3_turn) B.pre
  have hown : s.vm.findClass RX3 = some m.cls := findClass_of_methodNamed B.named
  have hlocks := B.notSynchronized
  subst hsz
  have hD := hD0.self (sz := s.heap.size)
  generalize hAe : va_A [(h, .inr (2, [.ref k, .ref t, .int (nI n), .ref k2, .ref t2])), (k, .inl (cA, 500, .inl K)), (t, .inl (cB, 500, .inl T)), (k2, .inl (cC, 500, .inl NK)), (t2, .inl (cD, 500, .inl NT))] s.heap.size = A at hD ⊢
  have hA : ∀ q : Nat, s.heap.size ≤ q → A q := fun q h => by rw [← hAe]; exact Or.inr h
  have hS : va_S A s.heap s.heap [] := va_S.rf
  have hP : va_P (dC, dI) vwCl [(h, .inr (2, [.ref k, .ref t, .int (nI n), .ref k2, .ref t2])), (k, .inl (cA, 500, .inl K)), (t, .inl (cB, 500, .inl T)), (k2, .inl (cC, 500, .inl NK)), (t2, .inl (cD, 500, .inl NT))] s.heap := hP
  have hl := lv_entry ([.ref h, .int x, .int y]) (n := 4) (Nat.le_of_ble_eq_true rfl)
  rw [lg_entry_eq]
  generalize (lg_sl ([.ref h, .int x, .int y]) ++ List.replicate (4 - (lg_sl ([.ref h, .int x, .int y])).length) Slot.unset).toArray = ls at hl ⊢
  have hl : lv_has ls 4 [(0, .ref h), (1, .int x), (2, .int y)] := hl
  refine lv_aload_n hx hb dX3_turn_0 rfl (lv_at hl 0 rfl) ?_
  refine lv_iload_n hx hb dX3_turn_1 rfl (lv_at hl 1 rfl) ?_
  refine lv_iload_n hx hb dX3_turn_2 rfl (lv_at hl 2 rfl) ?_
  have hPc := hP.sub (ws' := [(h, .inr (2, [.ref k, .ref t, .int (nI n), .ref k2, .ref t2])), (k, .inl (cA, 500, .inl K)), (t, .inl (cB, 500, .inl T)), (k2, .inl (cC, 500, .inl NK)), (t2, .inl (cD, 500, .inl NT))]) [0, 1, 2, 3, 4] rfl
  have hDc := hD.sub (ws' := [(h, .inr (2, [.ref k, .ref t, .int (nI n), .ref k2, .ref t2])), (k, .inl (cA, 500, .inl K)), (t, .inl (cB, 500, .inl T)), (k2, .inl (cC, 500, .inl NK)), (t2, .inl (cD, 500, .inl NT))]) [0, 1, 2, 3, 4] (by decide) rfl
  have hKc := hK.sub (tys' := [(cA, .int), (cB, .int), (cC, .int), (cD, .int)]) [0, 1, 2, 3] rfl
  have hFc := va_free (wc := [(h, .inr (2, [.ref k, .ref t, .int (nI n), .ref k2, .ref t2])), (k, .inl (cA, 500, .inl K)), (t, .inl (cB, 500, .inl T)), (k2, .inl (cC, 500, .inl NK)), (t2, .inl (cD, 500, .inl NT))]) hD hS hA [0, 1, 2, 3, 4] rfl
  refine va_calli (va_runV (As := [.int x, .int y]) (rest := []) ⟨hx, hb, hml, hown, hts⟩ (c_X3_isStretch l dC dI s.heap.size h k t k2 t2 cA cB cC cD n K T NK NT hn x y) (cwV 2 hts gX3_turn_X3_isStretch rfl rfl rfl (by decide +kernel) ⟨Nat.le_of_ble_eq_true rfl, Nat.le_of_ble_eq_true rfl⟩) ⟨fun a U g mk q => by obtain ⟨q0, q1, qP, qK, qD⟩ := q; exact ⟨q0, q1, qP, va_K.moved (u := U) (U := U.calling g mk a) (Vm.Alike.refl U.vm) qK, qD⟩, va_recv hKc hPc (ci := 2) (q0 := 0) rfl rfl, fun U hU hW => ⟨rfl, by rw [hU], by rw [hU]; exact hPc, va_K.moved hW.alike hKc, hDc.weaken (fun _ _ _ _ => trivial)⟩⟩ rfl rfl hl.1 rfl (lv_room (Nat.le_of_ble_eq_true rfl)) dX3_turn_3 ⟨Nat.le_of_ble_eq_true rfl, Nat.le_of_ble_eq_true rfl⟩) hS (fun q _ h => hFc q h) hFc (fun r_1 u tS H1 locs ht hvm hw hB hz1 hk1 hS => ?_)
  obtain ⟨hs, rfl⟩ := hw
  obtain ⟨hP1, hK1, hD1⟩ := hB
  rw [ht] at hP1
  obtain ⟨hP, hD⟩ := va_join (wr := []) (w1 := [(h, .inr (2, [.ref k, .ref t, .int (nI n), .ref k2, .ref t2])), (k, .inl (cA, 500, .inl K)), (t, .inl (cB, 500, .inl T)), (k2, .inl (cC, 500, .inl NK)), (t2, .inl (cD, 500, .inl NT))]) hP hD [0, 1, 2, 3, 4] [] rfl rfl (by decide) (by decide) hk1 hFc hP1 hD1
  generalize H1 = H at hP hS ⊢
  have hP : va_P (dC, dI) vwCl [(h, .inr (2, [.ref k, .ref t, .int (nI n), .ref k2, .ref t2])), (k, .inl (cA, 500, .inl K)), (t, .inl (cB, 500, .inl T)), (k2, .inl (cC, 500, .inl NK)), (t2, .inl (cD, 500, .inl NT))] H := hP
  have hD : va_D A [(h, .inr (2, [.ref k, .ref t, .int (nI n), .ref k2, .ref t2])), (k, .inl (cA, 500, .inl K)), (t, .inl (cB, 500, .inl T)), (k2, .inl (cC, 500, .inl NK)), (t2, .inl (cD, 500, .inl NT))] := hD
  refine lv_if_ne (tgt := 11) hx hb dX3_turn_6 (by decide) (fun c6 => ?_) (fun c6 => ?_)
  · obtain ⟨a, b, rfl, rfl, hab, hbn⟩ := stP_of hn (tr_1 hs c6)
    refine lv_iload_n hx hb dX3_turn_11 rfl (lv_at hl 1 rfl) ?_
    refine lv_istore_n (lv' := [(3, .int (nI a)), (0, .ref h), (1, .int (nI a)), (2, .int (nI b))]) hx hb dX3_turn_12 rfl hl (by decide) rfl (fun ls hl => ?_)
    refine lz_loop (σ := Nat × (Nat → Int32) × (Nat → Int32)) (μ := fun X_ => match X_ with | (q, NK1, NT1) => b - q) (Inv := fun X_ H locs ls => match X_ with | (q, NK1, NT1) => (a ≤ q) ∧ (q ≤ b) ∧ (mvI (mZ K T) (mZ NK1 NT1) (fun i => a + b - 1 - i) a q) ∧ va_P (dC, dI) vwCl [(h, .inr (2, [.ref k, .ref t, .int (nI n), .ref k2, .ref t2])), (k, .inl (cA, 500, .inl K)), (t, .inl (cB, 500, .inl T)), (k2, .inl (cC, 500, .inl NK1)), (t2, .inl (cD, 500, .inl NT1))] H ∧ va_D A [(h, .inr (2, [.ref k, .ref t, .int (nI n), .ref k2, .ref t2])), (k, .inl (cA, 500, .inl K)), (t, .inl (cB, 500, .inl T)), (k2, .inl (cC, 500, .inl NK1)), (t2, .inl (cD, 500, .inl NT1))] ∧ va_S A s.heap H locs ∧ lv_has ls 4 [(0, .ref h), (1, .int (nI a)), (2, .int (nI b)), (3, .int (nI q))]) ?_ (a, NK, NT) _ _ _ ?_
    · rintro ⟨q, NK1, NT1⟩ ihf H locs ls ⟨vf0, vf1, vf2, hP, hD, hS, hl⟩
      refine lv_iload_n hx hb dX3_turn_13 rfl (lv_at hl 3 rfl) ?_
      refine lv_iload_n hx hb dX3_turn_14 rfl (lv_at hl 2 rfl) ?_
      refine lz_icmp_ge (tgt := 36) (by omega) (by omega) hx hb dX3_turn_15 (by decide) (fun c15 => ?_) (fun c15 => ?_)
      · refine lv_aload_n hx hb dX3_turn_36 rfl (lv_at hl 0 rfl) ?_
        refine lv_iload_n hx hb dX3_turn_37 rfl (lv_at hl 1 rfl) ?_
        refine lv_iload_n hx hb dX3_turn_38 rfl (lv_at hl 2 rfl) ?_
        have hPc := hP.sub (ws' := [(h, .inr (2, [.ref k, .ref t, .int (nI n), .ref k2, .ref t2])), (k, .inl (cA, 500, .inl K)), (t, .inl (cB, 500, .inl T)), (k2, .inl (cC, 500, .inl NK1)), (t2, .inl (cD, 500, .inl NT1))]) [0, 1, 2, 3, 4] rfl
        have hDc := hD.sub (ws' := [(h, .inr (2, [.ref k, .ref t, .int (nI n), .ref k2, .ref t2])), (k, .inl (cA, 500, .inl K)), (t, .inl (cB, 500, .inl T)), (k2, .inl (cC, 500, .inl NK1)), (t2, .inl (cD, 500, .inl NT1))]) [0, 1, 2, 3, 4] (by decide) rfl
        have hKc := hK.sub (tys' := [(cA, .int), (cB, .int), (cC, .int), (cD, .int)]) [0, 1, 2, 3] rfl
        have hFc := va_free (wc := [(h, .inr (2, [.ref k, .ref t, .int (nI n), .ref k2, .ref t2])), (k, .inl (cA, 500, .inl K)), (t, .inl (cB, 500, .inl T)), (k2, .inl (cC, 500, .inl NK1)), (t2, .inl (cD, 500, .inl NT1))]) hD hS hA [0, 1, 2, 3, 4] rfl
        refine va_callv (va_runV (As := [.int (nI a), .int (nI b)]) (rest := []) ⟨hx, hb, hml, hown, hts⟩ (c_X3_take l dC dI H.size h k t k2 t2 cA cB cC cD n K T NK1 NT1 a b hab (by omega)) (cwV 2 hts gX3_turn_X3_take rfl rfl rfl (by decide +kernel) ⟨Nat.le_of_ble_eq_true rfl, Nat.le_of_ble_eq_true rfl⟩) ⟨fun a U g mk q => by obtain ⟨q0, q1, qP, qK, qD⟩ := q; exact ⟨q0, q1, qP, va_K.moved (u := U) (U := U.calling g mk a) (Vm.Alike.refl U.vm) qK, qD⟩, va_recv hKc hPc (ci := 2) (q0 := 0) rfl rfl, fun U hU hW => ⟨rfl, by rw [hU], by rw [hU]; exact hPc, va_K.moved hW.alike hKc, hDc.weaken (fun _ _ _ _ => trivial)⟩⟩ rfl rfl hl.1 rfl (lv_room (Nat.le_of_ble_eq_true rfl)) dX3_turn_39 ⟨Nat.le_of_ble_eq_true rfl, Nat.le_of_ble_eq_true rfl⟩) hS (fun q _ h => hFc q h) hFc (fun u tS H1 locs ht hvm hw hB hz1 hk1 hS => ?_)
        obtain ⟨K9, T9, n9, NK9, NT9⟩ := u
        obtain ⟨htk, he9⟩ := hw
        dsimp only at htk he9
        cases he9
        obtain ⟨hP1, hK1, hD1⟩ := hB
        rw [ht] at hP1
        obtain ⟨hP, hD⟩ := va_join (wr := []) (w1 := [(h, .inr (2, [.ref k, .ref t, .int (nI n), .ref k2, .ref t2])), (k, .inl (cA, 500, .inl K9)), (t, .inl (cB, 500, .inl T9)), (k2, .inl (cC, 500, .inl NK1)), (t2, .inl (cD, 500, .inl NT1))]) hP hD [0, 1, 2, 3, 4] [] rfl rfl (by decide) (by decide) hk1 hFc hP1 hD1
        generalize H1 = H at hP hS ⊢
        have hP : va_P (dC, dI) vwCl [(h, .inr (2, [.ref k, .ref t, .int (nI n), .ref k2, .ref t2])), (k, .inl (cA, 500, .inl K9)), (t, .inl (cB, 500, .inl T9)), (k2, .inl (cC, 500, .inl NK1)), (t2, .inl (cD, 500, .inl NT1))] H := hP
        have hD : va_D A [(h, .inr (2, [.ref k, .ref t, .int (nI n), .ref k2, .ref t2])), (k, .inl (cA, 500, .inl K9)), (t, .inl (cB, 500, .inl T9)), (k2, .inl (cC, 500, .inl NK1)), (t2, .inl (cD, 500, .inl NT1))] := hD
        refine lv_iconst (v := (nI 1)) hx hb dX3_turn_42 (by decide) ?_
        exact W.iret (v := (nI 1)) hx hb hr (fun tS ht hW => ⟨⟨(nI 1), (K9, T9, n, NK1, NT1), rfl, Or.inr ⟨(a, b), ⟨rfl, rfl, hab, hbn⟩, rfl, rfl, fun j _ => rv_of (by rw [show q = b by omega] at vf2; exact vf2) htk j⟩, by rw [ht]; exact hP, va_K.moved hW.alike hK, hD⟩, hS.F ht⟩) hS.2.2 dX3_turn_43
      · refine lv_aload_n hx hb dX3_turn_18 rfl (lv_at hl 0 rfl) ?_
        refine lv_iload_n hx hb dX3_turn_19 rfl (lv_at hl 3 rfl) ?_
        refine lv_iload_n hx hb dX3_turn_20 rfl (lv_at hl 1 rfl) ?_
        refine lv_iload_n hx hb dX3_turn_21 rfl (lv_at hl 2 rfl) ?_
        refine lv_iadd hx hb dX3_turn_22 ?_
        refine lz_top (y := (nI (a + b))) (nI_add _ _) ?_
        refine lv_iconst (v := (nI 1)) hx hb dX3_turn_23 (by decide) ?_
        refine lv_isub hx hb dX3_turn_24 ?_
        refine lz_top (y := (nI ((a + b) - 1))) (pk_sub (by omega)) ?_
        refine lv_iload_n hx hb dX3_turn_25 rfl (lv_at hl 3 rfl) ?_
        refine lv_isub hx hb dX3_turn_26 ?_
        refine lz_top (y := (nI (((a + b) - 1) - q))) (pk_sub (by omega)) ?_
        have hPc := hP.sub (ws' := [(h, .inr (2, [.ref k, .ref t, .int (nI n), .ref k2, .ref t2])), (k, .inl (cA, 500, .inl K)), (t, .inl (cB, 500, .inl T)), (k2, .inl (cC, 500, .inl NK1)), (t2, .inl (cD, 500, .inl NT1))]) [0, 1, 2, 3, 4] rfl
        have hDc := hD.sub (ws' := [(h, .inr (2, [.ref k, .ref t, .int (nI n), .ref k2, .ref t2])), (k, .inl (cA, 500, .inl K)), (t, .inl (cB, 500, .inl T)), (k2, .inl (cC, 500, .inl NK1)), (t2, .inl (cD, 500, .inl NT1))]) [0, 1, 2, 3, 4] (by decide) rfl
        have hKc := hK.sub (tys' := [(cA, .int), (cB, .int), (cC, .int), (cD, .int)]) [0, 1, 2, 3] rfl
        have hFc := va_free (wc := [(h, .inr (2, [.ref k, .ref t, .int (nI n), .ref k2, .ref t2])), (k, .inl (cA, 500, .inl K)), (t, .inl (cB, 500, .inl T)), (k2, .inl (cC, 500, .inl NK1)), (t2, .inl (cD, 500, .inl NT1))]) hD hS hA [0, 1, 2, 3, 4] rfl
        refine va_callv (va_runV (As := [.int (nI q), .int (nI (((a + b) - 1) - q))]) (rest := []) ⟨hx, hb, hml, hown, hts⟩ (c_X3_move l dC dI H.size h k t k2 t2 cA cB cC cD n K T NK1 NT1 q (a + b - 1 - q) (by omega) (by omega)) (cwV 2 hts gX3_turn_X3_move rfl rfl rfl (by decide +kernel) ⟨Nat.le_of_ble_eq_true rfl, Nat.le_of_ble_eq_true rfl⟩) ⟨fun a U g mk q => by obtain ⟨q0, q1, qP, qK, qD⟩ := q; exact ⟨q0, q1, qP, va_K.moved (u := U) (U := U.calling g mk a) (Vm.Alike.refl U.vm) qK, qD⟩, va_recv hKc hPc (ci := 2) (q0 := 0) rfl rfl, fun U hU hW => ⟨rfl, by rw [hU], by rw [hU]; exact hPc, va_K.moved hW.alike hKc, hDc.weaken (fun _ _ _ _ => trivial)⟩⟩ rfl rfl hl.1 rfl (lv_room (Nat.le_of_ble_eq_true rfl)) dX3_turn_27 ⟨Nat.le_of_ble_eq_true rfl, Nat.le_of_ble_eq_true rfl⟩) hS (fun q _ h => hFc q h) hFc (fun u tS H1 locs ht hvm hw hB hz1 hk1 hS => ?_)
        subst hw
        obtain ⟨hP1, hK1, hD1⟩ := hB
        rw [ht] at hP1
        obtain ⟨hP, hD⟩ := va_join (wr := []) (w1 := [(h, .inr (2, [.ref k, .ref t, .int (nI n), .ref k2, .ref t2])), (k, .inl (cA, 500, .inl K)), (t, .inl (cB, 500, .inl T)), (k2, .inl (cC, 500, .inl (upd NK1 (a + b - 1 - q) (K q)))), (t2, .inl (cD, 500, .inl (upd NT1 (a + b - 1 - q) (T q))))]) hP hD [0, 1, 2, 3, 4] [] rfl rfl (by decide) (by decide) hk1 hFc hP1 hD1
        generalize H1 = H at hP hS ⊢
        have hP : va_P (dC, dI) vwCl [(h, .inr (2, [.ref k, .ref t, .int (nI n), .ref k2, .ref t2])), (k, .inl (cA, 500, .inl K)), (t, .inl (cB, 500, .inl T)), (k2, .inl (cC, 500, .inl (upd NK1 (a + b - 1 - q) (K q)))), (t2, .inl (cD, 500, .inl (upd NT1 (a + b - 1 - q) (T q))))] H := hP
        have hD : va_D A [(h, .inr (2, [.ref k, .ref t, .int (nI n), .ref k2, .ref t2])), (k, .inl (cA, 500, .inl K)), (t, .inl (cB, 500, .inl T)), (k2, .inl (cC, 500, .inl (upd NK1 (a + b - 1 - q) (K q)))), (t2, .inl (cD, 500, .inl (upd NT1 (a + b - 1 - q) (T q))))] := hD
        refine lv_iinc (v := (nI (q + 1))) (lv' := [(3, .int (nI (q + 1))), (0, .ref h), (1, .int (nI a)), (2, .int (nI b))]) hx hb dX3_turn_30 hl (k := 3) rfl (by first | exact nI_add q 1 | (rw [← nI_add]; rfl)) (by decide) rfl (fun ls hl => ?_)
        refine lv_goto (tgt := 13) hx hb dX3_turn_33 (by decide) ?_
        exact ihf ((q + 1), (upd NK1 (a + b - 1 - q) (K q)), (upd NT1 (a + b - 1 - q) (T q))) (by show b - (q + 1) < b - q; omega) _ _ _ ⟨by omega, by omega, mvI_s vf2 rfl (fun i i1 i2 => by omega) (mZ_put NK1 NT1 (a + b - 1 - q) (K q) (T q)), hP, hD, hS, lv_sub hl [1, 2, 3, 0] rfl⟩
    · exact ⟨Nat.le_refl _, by omega, mvI_0, hP, hD, hS, lv_sub hl [1, 2, 3, 0] rfl⟩
  · refine lv_iconst (v := (nI 0)) hx hb dX3_turn_9 (by decide) ?_
    exact W.iret (v := (nI 0)) hx hb hr (fun tS ht hW => ⟨⟨(nI 0), (K, T, n, NK, NT), rfl, Or.inl ⟨⟨rfl, sam_rf⟩, fun z hz => tr_0 hs c6 (dT_e hn hz)⟩, by rw [ht]; exact hP, va_K.moved hW.alike hK, hD⟩, hS.F ht⟩) hS.2.2 dX3_turn_10
set_option maxHeartbeats 4000000 in
set_option maxRecDepth 100000 in
theorem c_X3_split (l : Launch) (dC : Nat → ClassId) (dI : Nat → Nat → Nat) (sz : Nat) (h k t k2 t2 : Nat) (cA cB cC cD : ClassId) (n : Nat) (K T NK NT : Nat → Int32) (hn : n ≤ 500) (x y v o : Int32) : Met l yX3_split wsX3_split ({ frames := 1, cells := 0, slots := 0, locals := 23 }) (va_Pc [.ref h, .int x, .int y, .int v, .int o] (fun U => U.heap.size = sz ∧ va_P (dC, dI) vwCl [(h, .inr (2, [.ref k, .ref t, .int (nI n), .ref k2, .ref t2])), (k, .inl (cA, 500, .inl K)), (t, .inl (cB, 500, .inl T)), (k2, .inl (cC, 500, .inl NK)), (t2, .inl (cD, 500, .inl NT))] U.heap ∧ va_K (dC, dI) vwCl [(cA, .int), (cB, .int), (cC, .int), (cD, .int)] U ∧ va_D (fun _ => True) [(h, .inr (2, [.ref k, .ref t, .int (nI n), .ref k2, .ref t2])), (k, .inl (cA, 500, .inl K)), (t, .inl (cB, 500, .inl T)), (k2, .inl (cC, 500, .inl NK)), (t2, .inl (cD, 500, .inl NT))])) (va_Qi (fun r u => QspR n (mZ K T) x y v o r u.2.2.1 (mZ u.1 u.2.1)) (atM dC dI (va_A [(h, .inr (2, [.ref k, .ref t, .int (nI n), .ref k2, .ref t2])), (k, .inl (cA, 500, .inl K)), (t, .inl (cB, 500, .inl T)), (k2, .inl (cC, 500, .inl NK)), (t2, .inl (cD, 500, .inl NT))] sz) h k t k2 t2 cA cB cC cD) (va_A [(h, .inr (2, [.ref k, .ref t, .int (nI n), .ref k2, .ref t2])), (k, .inl (cA, 500, .inl K)), (t, .inl (cB, 500, .inl T)), (k2, .inl (cC, 500, .inl NK)), (t2, .inl (cD, 500, .inl NT))] sz)) 0 0 (va_A [(h, .inr (2, [.ref k, .ref t, .int (nI n), .ref k2, .ref t2])), (k, .inl (cA, 500, .inl K)), (t, .inl (cB, 500, .inl T)), (k2, .inl (cC, 500, .inl NK)), (t2, .inl (cD, 500, .inl NT))] sz) := by
  refine Met.ofW (cc := cX3_split) (maxL := 8) (ret := (some .int)) (by decide) rfl ?_
  intro p e s m args below meth c s₁ B hml hv
  obtain ⟨rfl, hsz, hP, hK, hD0⟩ := hv
  have hx := B.exec
  have hb := B.bytes
  have hr := B.returns
  have hts := atoms_spec (ws := wsX3_split) B.pre
  have hown : s.vm.findClass RX3 = some m.cls := findClass_of_methodNamed B.named
  have hlocks := B.notSynchronized
  subst hsz
  have hD := hD0.self (sz := s.heap.size)
  generalize hAe : va_A [(h, .inr (2, [.ref k, .ref t, .int (nI n), .ref k2, .ref t2])), (k, .inl (cA, 500, .inl K)), (t, .inl (cB, 500, .inl T)), (k2, .inl (cC, 500, .inl NK)), (t2, .inl (cD, 500, .inl NT))] s.heap.size = A at hD ⊢
  have hA : ∀ q : Nat, s.heap.size ≤ q → A q := fun q h => by rw [← hAe]; exact Or.inr h
  have hS : va_S A s.heap s.heap [] := va_S.rf
  have hP : va_P (dC, dI) vwCl [(h, .inr (2, [.ref k, .ref t, .int (nI n), .ref k2, .ref t2])), (k, .inl (cA, 500, .inl K)), (t, .inl (cB, 500, .inl T)), (k2, .inl (cC, 500, .inl NK)), (t2, .inl (cD, 500, .inl NT))] s.heap := hP
  have hl := lv_entry ([.ref h, .int x, .int y, .int v, .int o]) (n := 8) (Nat.le_of_ble_eq_true rfl)
  rw [lg_entry_eq]
  generalize (lg_sl ([.ref h, .int x, .int y, .int v, .int o]) ++ List.replicate (8 - (lg_sl ([.ref h, .int x, .int y, .int v, .int o])).length) Slot.unset).toArray = ls at hl ⊢
  have hl : lv_has ls 8 [(0, .ref h), (1, .int x), (2, .int y), (3, .int v), (4, .int o)] := hl
  refine lv_aload_n hx hb dX3_split_0 rfl (lv_at hl 0 rfl) ?_
  refine lv_iload_n hx hb dX3_split_1 rfl (lv_at hl 1 rfl) ?_
  refine lv_iload_n hx hb dX3_split_2 rfl (lv_at hl 2 rfl) ?_
  have hPc := hP.sub (ws' := [(h, .inr (2, [.ref k, .ref t, .int (nI n), .ref k2, .ref t2])), (k, .inl (cA, 500, .inl K)), (t, .inl (cB, 500, .inl T)), (k2, .inl (cC, 500, .inl NK)), (t2, .inl (cD, 500, .inl NT))]) [0, 1, 2, 3, 4] rfl
  have hDc := hD.sub (ws' := [(h, .inr (2, [.ref k, .ref t, .int (nI n), .ref k2, .ref t2])), (k, .inl (cA, 500, .inl K)), (t, .inl (cB, 500, .inl T)), (k2, .inl (cC, 500, .inl NK)), (t2, .inl (cD, 500, .inl NT))]) [0, 1, 2, 3, 4] (by decide) rfl
  have hKc := hK.sub (tys' := [(cA, .int), (cB, .int), (cC, .int), (cD, .int)]) [0, 1, 2, 3] rfl
  have hFc := va_free (wc := [(h, .inr (2, [.ref k, .ref t, .int (nI n), .ref k2, .ref t2])), (k, .inl (cA, 500, .inl K)), (t, .inl (cB, 500, .inl T)), (k2, .inl (cC, 500, .inl NK)), (t2, .inl (cD, 500, .inl NT))]) hD hS hA [0, 1, 2, 3, 4] rfl
  refine va_calli (va_runV (As := [.int x, .int y]) (rest := []) ⟨hx, hb, hml, hown, hts⟩ (c_X3_isStretch l dC dI s.heap.size h k t k2 t2 cA cB cC cD n K T NK NT hn x y) (cwV 2 hts gX3_split_X3_isStretch rfl rfl rfl (by decide +kernel) ⟨Nat.le_of_ble_eq_true rfl, Nat.le_of_ble_eq_true rfl⟩) ⟨fun a U g mk q => by obtain ⟨q0, q1, qP, qK, qD⟩ := q; exact ⟨q0, q1, qP, va_K.moved (u := U) (U := U.calling g mk a) (Vm.Alike.refl U.vm) qK, qD⟩, va_recv hKc hPc (ci := 2) (q0 := 0) rfl rfl, fun U hU hW => ⟨rfl, by rw [hU], by rw [hU]; exact hPc, va_K.moved hW.alike hKc, hDc.weaken (fun _ _ _ _ => trivial)⟩⟩ rfl rfl hl.1 rfl (lv_room (Nat.le_of_ble_eq_true rfl)) dX3_split_3 ⟨Nat.le_of_ble_eq_true rfl, Nat.le_of_ble_eq_true rfl⟩) hS (fun q _ h => hFc q h) hFc (fun r_1 u tS H1 locs ht hvm hw hB hz1 hk1 hS => ?_)
  obtain ⟨hs, rfl⟩ := hw
  obtain ⟨hP1, hK1, hD1⟩ := hB
  rw [ht] at hP1
  obtain ⟨hP, hD⟩ := va_join (wr := []) (w1 := [(h, .inr (2, [.ref k, .ref t, .int (nI n), .ref k2, .ref t2])), (k, .inl (cA, 500, .inl K)), (t, .inl (cB, 500, .inl T)), (k2, .inl (cC, 500, .inl NK)), (t2, .inl (cD, 500, .inl NT))]) hP hD [0, 1, 2, 3, 4] [] rfl rfl (by decide) (by decide) hk1 hFc hP1 hD1
  generalize H1 = H at hP hS ⊢
  have hP : va_P (dC, dI) vwCl [(h, .inr (2, [.ref k, .ref t, .int (nI n), .ref k2, .ref t2])), (k, .inl (cA, 500, .inl K)), (t, .inl (cB, 500, .inl T)), (k2, .inl (cC, 500, .inl NK)), (t2, .inl (cD, 500, .inl NT))] H := hP
  have hD : va_D A [(h, .inr (2, [.ref k, .ref t, .int (nI n), .ref k2, .ref t2])), (k, .inl (cA, 500, .inl K)), (t, .inl (cB, 500, .inl T)), (k2, .inl (cC, 500, .inl NK)), (t2, .inl (cD, 500, .inl NT))] := hD
  refine lv_if_eq (tgt := 17) hx hb dX3_split_6 (by decide) (fun c6 => ?_) (fun c6 => ?_)
  · refine lv_iconst (v := (-1)) hx hb dX3_split_17 (by decide) ?_
    exact W.iret (v := (-1)) hx hb hr (fun tS ht hW => ⟨⟨(-1), (K, T, n, NK, NT), rfl, Or.inl ⟨⟨rfl, sam_rf⟩, fun z hz => tr_0 hs c6 (dS_e hn hz).2⟩, by rw [ht]; exact hP, va_K.moved hW.alike hK, hD⟩, hS.F ht⟩) hS.2.2 dX3_split_18
  · refine lv_iload hx hb dX3_split_9 (lv_at hl 4 rfl) ?_
    have hPc := hP.sub (ws' := []) [] rfl
    have hDc := hD.sub (ws' := []) [] (by decide) rfl
    have hKc := hK.sub (tys' := []) [] rfl
    have hFc := va_free (wc := []) hD hS hA [] rfl
    refine va_calli (va_runS (As := [.int o]) (rest := []) ⟨hx, hb, hml, hown, hts⟩ (c_X3_isOrder l dC dI H.size o) (va_cwS 1 hts gX3_split_X3_isOrder rfl rfl rfl (by decide +kernel) ⟨Nat.le_of_ble_eq_true rfl, Nat.le_of_ble_eq_true rfl⟩) ⟨fun a U g mk q => by obtain ⟨q0, q1, qP, qK, qD⟩ := q; exact ⟨q0, q1, qP, va_K.moved (u := U) (U := U.calling g mk a) (Vm.Alike.refl U.vm) qK, qD⟩, fun U hU hW => ⟨rfl, by rw [hU], by rw [hU]; exact hPc, va_K.moved hW.alike hKc, hDc.weaken (fun _ _ _ _ => trivial)⟩⟩ rfl rfl hl.1 rfl (lv_room (Nat.le_of_ble_eq_true rfl)) dX3_split_11 ⟨Nat.le_of_ble_eq_true rfl, Nat.le_of_ble_eq_true rfl⟩) hS (fun q _ h => hFc q h) hFc (fun r_2 u tS H1 locs ht hvm hw hB hz1 hk1 hS => ?_)
    have he := hw
    obtain ⟨hP1, hK1, hD1⟩ := hB
    rw [ht] at hP1
    obtain ⟨hP, hD⟩ := va_join (wr := [(h, .inr (2, [.ref k, .ref t, .int (nI n), .ref k2, .ref t2])), (k, .inl (cA, 500, .inl K)), (t, .inl (cB, 500, .inl T)), (k2, .inl (cC, 500, .inl NK)), (t2, .inl (cD, 500, .inl NT))]) (w1 := []) hP hD [] [0, 1, 2, 3, 4] rfl rfl (by decide) (by decide) hk1 hFc hP1 hD1
    generalize H1 = H at hP hS ⊢
    have hP : va_P (dC, dI) vwCl [(h, .inr (2, [.ref k, .ref t, .int (nI n), .ref k2, .ref t2])), (k, .inl (cA, 500, .inl K)), (t, .inl (cB, 500, .inl T)), (k2, .inl (cC, 500, .inl NK)), (t2, .inl (cD, 500, .inl NT))] H := hP
    have hD : va_D A [(h, .inr (2, [.ref k, .ref t, .int (nI n), .ref k2, .ref t2])), (k, .inl (cA, 500, .inl K)), (t, .inl (cB, 500, .inl T)), (k2, .inl (cC, 500, .inl NK)), (t2, .inl (cD, 500, .inl NT))] := hD
    refine lv_if_ne (tgt := 19) hx hb dX3_split_14 (by decide) (fun c14 => ?_) (fun c14 => ?_)
    · obtain ⟨o1, ho, rfl⟩ := exO_of (tr_1 he c14)
      obtain ⟨a, b, rfl, rfl, hab, hbn⟩ := stP_of hn (tr_1 hs c6)
      have hb5 : b ≤ 500 := by omega
      refine lv_iconst (v := (nI 0)) hx hb dX3_split_19 (by decide) ?_
      refine lv_istore (lv' := [(5, .int (nI 0)), (0, .ref h), (1, .int (nI a)), (2, .int (nI b)), (3, .int v), (4, .int (nI o1))]) hx hb dX3_split_20 hl (by decide) rfl (fun ls hl => ?_)
      refine lv_iload_n hx hb dX3_split_22 rfl (lv_at hl 2 rfl) ?_
      refine lv_istore (lv' := [(6, .int (nI a)), (5, .int (nI 0)), (0, .ref h), (1, .int (nI a)), (2, .int (nI b)), (3, .int v), (4, .int (nI o1))]) hx hb dX3_split_23 hl (by decide) rfl (fun ls hl => ?_)
      refine lz_loop (σ := Nat × Nat × (Nat → Int32) × (Nat → Int32)) (μ := fun X_ => match X_ with | (x5, q, NK1, NT1) => b - q) (Inv := fun X_ H locs ls => match X_ with | (x5, q, NK1, NT1) => (a ≤ q) ∧ (q ≤ b) ∧ (x5 = cn (fun j => mk o1 (mZ K T j).1 < mk o1 v) a (q - a)) ∧ (flI (fun j => mk o1 (mZ K T j).1 < mk o1 v) (mZ K T) (mZ NK1 NT1) a a q) ∧ va_P (dC, dI) vwCl [(h, .inr (2, [.ref k, .ref t, .int (nI n), .ref k2, .ref t2])), (k, .inl (cA, 500, .inl K)), (t, .inl (cB, 500, .inl T)), (k2, .inl (cC, 500, .inl NK1)), (t2, .inl (cD, 500, .inl NT1))] H ∧ va_D A [(h, .inr (2, [.ref k, .ref t, .int (nI n), .ref k2, .ref t2])), (k, .inl (cA, 500, .inl K)), (t, .inl (cB, 500, .inl T)), (k2, .inl (cC, 500, .inl NK1)), (t2, .inl (cD, 500, .inl NT1))] ∧ va_S A s.heap H locs ∧ lv_has ls 8 [(0, .ref h), (1, .int (nI a)), (2, .int (nI b)), (3, .int v), (4, .int (nI o1)), (5, .int (nI x5)), (6, .int (nI q))]) ?_ (0, a, NK, NT) _ _ _ ?_
      · rintro ⟨x5, q, NK1, NT1⟩ ihf H locs ls ⟨vf0, vf1, vf2, vf3, hP, hD, hS, hl⟩
        refine lv_iload hx hb dX3_split_25 (lv_at hl 6 rfl) ?_
        refine lv_iload_n hx hb dX3_split_27 rfl (lv_at hl 2 rfl) ?_
        refine lz_icmp_ge (tgt := 66) (by omega) (by omega) hx hb dX3_split_28 (by decide) (fun c28 => ?_) (fun c28 => ?_)
        · refine lv_iconst (v := (nI 0)) hx hb dX3_split_66 (by decide) ?_
          refine lv_istore (lv' := [(6, .int (nI 0)), (0, .ref h), (1, .int (nI a)), (2, .int (nI b)), (3, .int v), (4, .int (nI o1)), (5, .int (nI x5))]) hx hb dX3_split_67 hl (by decide) rfl (fun ls hl => ?_)
          refine lv_iload_n hx hb dX3_split_69 rfl (lv_at hl 2 rfl) ?_
          refine lv_istore (lv' := [(7, .int (nI a)), (6, .int (nI 0)), (0, .ref h), (1, .int (nI a)), (2, .int (nI b)), (3, .int v), (4, .int (nI o1)), (5, .int (nI x5))]) hx hb dX3_split_70 hl (by decide) rfl (fun ls hl => ?_)
          have hqb : q = b := by omega
          rw [hqb] at vf2 vf3
          have hL5 : x5 ≤ b - a := by rw [vf2]; exact cn_le _ _ _
          refine lz_loop (σ := Nat × Nat × (Nat → Int32) × (Nat → Int32)) (μ := fun X_ => match X_ with | (x6, g, NK2, NT2) => b - g) (Inv := fun X_ H locs ls => match X_ with | (x6, g, NK2, NT2) => (a ≤ g) ∧ (g ≤ b) ∧ (x6 = cn (fun j => ¬ mk o1 (mZ K T j).1 < mk o1 v) a (g - a)) ∧ (flI (fun j => mk o1 (mZ K T j).1 < mk o1 v) (mZ K T) (mZ NK2 NT2) a a b) ∧ (flI (fun j => ¬ mk o1 (mZ K T j).1 < mk o1 v) (mZ K T) (mZ NK2 NT2) a (a + x5) g) ∧ va_P (dC, dI) vwCl [(h, .inr (2, [.ref k, .ref t, .int (nI n), .ref k2, .ref t2])), (k, .inl (cA, 500, .inl K)), (t, .inl (cB, 500, .inl T)), (k2, .inl (cC, 500, .inl NK2)), (t2, .inl (cD, 500, .inl NT2))] H ∧ va_D A [(h, .inr (2, [.ref k, .ref t, .int (nI n), .ref k2, .ref t2])), (k, .inl (cA, 500, .inl K)), (t, .inl (cB, 500, .inl T)), (k2, .inl (cC, 500, .inl NK2)), (t2, .inl (cD, 500, .inl NT2))] ∧ va_S A s.heap H locs ∧ lv_has ls 8 [(0, .ref h), (1, .int (nI a)), (2, .int (nI b)), (3, .int v), (4, .int (nI o1)), (5, .int (nI x5)), (6, .int (nI x6)), (7, .int (nI g))]) ?_ (0, a, NK1, NT1) _ _ _ ?_
          · rintro ⟨x6, g, NK2, NT2⟩ ihg H locs ls ⟨vg0, vg1, vg2, vg3, vg4, hP, hD, hS, hl⟩
            refine lv_iload hx hb dX3_split_72 (lv_at hl 7 rfl) ?_
            refine lv_iload_n hx hb dX3_split_74 rfl (lv_at hl 2 rfl) ?_
            refine lz_icmp_ge (tgt := 116) (by omega) (by omega) hx hb dX3_split_75 (by decide) (fun c75 => ?_) (fun c75 => ?_)
            · refine lv_aload_n hx hb dX3_split_116 rfl (lv_at hl 0 rfl) ?_
              refine lv_iload_n hx hb dX3_split_117 rfl (lv_at hl 1 rfl) ?_
              refine lv_iload_n hx hb dX3_split_118 rfl (lv_at hl 2 rfl) ?_
              have hPc := hP.sub (ws' := [(h, .inr (2, [.ref k, .ref t, .int (nI n), .ref k2, .ref t2])), (k, .inl (cA, 500, .inl K)), (t, .inl (cB, 500, .inl T)), (k2, .inl (cC, 500, .inl NK2)), (t2, .inl (cD, 500, .inl NT2))]) [0, 1, 2, 3, 4] rfl
              have hDc := hD.sub (ws' := [(h, .inr (2, [.ref k, .ref t, .int (nI n), .ref k2, .ref t2])), (k, .inl (cA, 500, .inl K)), (t, .inl (cB, 500, .inl T)), (k2, .inl (cC, 500, .inl NK2)), (t2, .inl (cD, 500, .inl NT2))]) [0, 1, 2, 3, 4] (by decide) rfl
              have hKc := hK.sub (tys' := [(cA, .int), (cB, .int), (cC, .int), (cD, .int)]) [0, 1, 2, 3] rfl
              have hFc := va_free (wc := [(h, .inr (2, [.ref k, .ref t, .int (nI n), .ref k2, .ref t2])), (k, .inl (cA, 500, .inl K)), (t, .inl (cB, 500, .inl T)), (k2, .inl (cC, 500, .inl NK2)), (t2, .inl (cD, 500, .inl NT2))]) hD hS hA [0, 1, 2, 3, 4] rfl
              refine va_callv (va_runV (As := [.int (nI a), .int (nI b)]) (rest := []) ⟨hx, hb, hml, hown, hts⟩ (c_X3_take l dC dI H.size h k t k2 t2 cA cB cC cD n K T NK2 NT2 a b hab (by omega)) (cwV 2 hts gX3_split_X3_take rfl rfl rfl (by decide +kernel) ⟨Nat.le_of_ble_eq_true rfl, Nat.le_of_ble_eq_true rfl⟩) ⟨fun a U g mk q => by obtain ⟨q0, q1, qP, qK, qD⟩ := q; exact ⟨q0, q1, qP, va_K.moved (u := U) (U := U.calling g mk a) (Vm.Alike.refl U.vm) qK, qD⟩, va_recv hKc hPc (ci := 2) (q0 := 0) rfl rfl, fun U hU hW => ⟨rfl, by rw [hU], by rw [hU]; exact hPc, va_K.moved hW.alike hKc, hDc.weaken (fun _ _ _ _ => trivial)⟩⟩ rfl rfl hl.1 rfl (lv_room (Nat.le_of_ble_eq_true rfl)) dX3_split_119 ⟨Nat.le_of_ble_eq_true rfl, Nat.le_of_ble_eq_true rfl⟩) hS (fun q _ h => hFc q h) hFc (fun u tS H1 locs ht hvm hw hB hz1 hk1 hS => ?_)
              obtain ⟨K9, T9, n9, NK9, NT9⟩ := u
              obtain ⟨htk, he9⟩ := hw
              dsimp only at htk he9
              cases he9
              obtain ⟨hP1, hK1, hD1⟩ := hB
              rw [ht] at hP1
              obtain ⟨hP, hD⟩ := va_join (wr := []) (w1 := [(h, .inr (2, [.ref k, .ref t, .int (nI n), .ref k2, .ref t2])), (k, .inl (cA, 500, .inl K9)), (t, .inl (cB, 500, .inl T9)), (k2, .inl (cC, 500, .inl NK2)), (t2, .inl (cD, 500, .inl NT2))]) hP hD [0, 1, 2, 3, 4] [] rfl rfl (by decide) (by decide) hk1 hFc hP1 hD1
              generalize H1 = H at hP hS ⊢
              have hP : va_P (dC, dI) vwCl [(h, .inr (2, [.ref k, .ref t, .int (nI n), .ref k2, .ref t2])), (k, .inl (cA, 500, .inl K9)), (t, .inl (cB, 500, .inl T9)), (k2, .inl (cC, 500, .inl NK2)), (t2, .inl (cD, 500, .inl NT2))] H := hP
              have hD : va_D A [(h, .inr (2, [.ref k, .ref t, .int (nI n), .ref k2, .ref t2])), (k, .inl (cA, 500, .inl K9)), (t, .inl (cB, 500, .inl T9)), (k2, .inl (cC, 500, .inl NK2)), (t2, .inl (cD, 500, .inl NT2))] := hD
              refine lv_iload hx hb dX3_split_122 (lv_at hl 5 rfl) ?_
              exact W.iret (v := (nI x5)) hx hb hr (fun tS ht hW => ⟨⟨(nI x5), (K9, T9, n, NK2, NT2), rfl, Or.inr ⟨(a, b, o1), ⟨rfl, rfl, rfl, hab, hbn, ho⟩, congrArg nI vf2, rfl, spR_of vf2 vg3 (by rw [show g = b by omega] at vg4; exact vg4) htk⟩, by rw [ht]; exact hP, va_K.moved hW.alike hK, hD⟩, hS.F ht⟩) hS.2.2 dX3_split_124
            · have hx6l : x6 ≤ g - a := by rw [vg2]; exact cn_le _ _ _
              refine lv_aload_n hx hb dX3_split_78 rfl (lv_at hl 0 rfl) ?_
              refine va_get (D := (dC, dI)) (ci := 2) (v := .ref k) (C := RX3) (T := TX3) (N := 5) hx hb hts (by decide +kernel) hown hK hP 0 rfl rfl 0 (by decide) (hts (.fieldLink RX3 7 "RowPressModel" "keys" "[I") (by decide +kernel)) (fun _ h9 => h9) rfl dX3_split_79 ?_
              refine lv_iload hx hb dX3_split_82 (lv_at hl 7 rfl) ?_
              refine lz_iald hx hb hK hP 1 0 rfl rfl (j := g) (by omega) (by decide) dX3_split_84 ?_
              refine lv_iload_n hx hb dX3_split_85 rfl (lv_at hl 3 rfl) ?_
              refine lv_iload hx hb dX3_split_86 (lv_at hl 4 rfl) ?_
              have hPc := hP.sub (ws' := []) [] rfl
              have hDc := hD.sub (ws' := []) [] (by decide) rfl
              have hKc := hK.sub (tys' := []) [] rfl
              have hFc := va_free (wc := []) hD hS hA [] rfl
              refine va_calli (va_runS (As := [.int (K g), .int v, .int (nI o1)]) (rest := []) ⟨hx, hb, hml, hown, hts⟩ (c_X3_isLess l dC dI H.size (K g) v o1 ho) (va_cwS 3 hts gX3_split_X3_isLess rfl rfl rfl (by decide +kernel) ⟨Nat.le_of_ble_eq_true rfl, Nat.le_of_ble_eq_true rfl⟩) ⟨fun a U g mk q => by obtain ⟨q0, q1, qP, qK, qD⟩ := q; exact ⟨q0, q1, qP, va_K.moved (u := U) (U := U.calling g mk a) (Vm.Alike.refl U.vm) qK, qD⟩, fun U hU hW => ⟨rfl, by rw [hU], by rw [hU]; exact hPc, va_K.moved hW.alike hKc, hDc.weaken (fun _ _ _ _ => trivial)⟩⟩ rfl rfl hl.1 rfl (lv_room (Nat.le_of_ble_eq_true rfl)) dX3_split_88 ⟨Nat.le_of_ble_eq_true rfl, Nat.le_of_ble_eq_true rfl⟩) hS (fun q _ h => hFc q h) hFc (fun r_4 u tS H1 locs ht hvm hw hB hz1 hk1 hS => ?_)
              have hq9 := hw
              obtain ⟨hP1, hK1, hD1⟩ := hB
              rw [ht] at hP1
              obtain ⟨hP, hD⟩ := va_join (wr := [(h, .inr (2, [.ref k, .ref t, .int (nI n), .ref k2, .ref t2])), (k, .inl (cA, 500, .inl K)), (t, .inl (cB, 500, .inl T)), (k2, .inl (cC, 500, .inl NK2)), (t2, .inl (cD, 500, .inl NT2))]) (w1 := []) hP hD [] [0, 1, 2, 3, 4] rfl rfl (by decide) (by decide) hk1 hFc hP1 hD1
              generalize H1 = H at hP hS ⊢
              have hP : va_P (dC, dI) vwCl [(h, .inr (2, [.ref k, .ref t, .int (nI n), .ref k2, .ref t2])), (k, .inl (cA, 500, .inl K)), (t, .inl (cB, 500, .inl T)), (k2, .inl (cC, 500, .inl NK2)), (t2, .inl (cD, 500, .inl NT2))] H := hP
              have hD : va_D A [(h, .inr (2, [.ref k, .ref t, .int (nI n), .ref k2, .ref t2])), (k, .inl (cA, 500, .inl K)), (t, .inl (cB, 500, .inl T)), (k2, .inl (cC, 500, .inl NK2)), (t2, .inl (cD, 500, .inl NT2))] := hD
              refine lv_if_ne (tgt := 110) hx hb dX3_split_91 (by decide) (fun c91 => ?_) (fun c91 => ?_)
              · refine lv_iinc (v := (nI (g + 1))) (lv' := [(7, .int (nI (g + 1))), (0, .ref h), (1, .int (nI a)), (2, .int (nI b)), (3, .int v), (4, .int (nI o1)), (5, .int (nI x5)), (6, .int (nI x6))]) hx hb dX3_split_110 hl (k := 7) rfl (by first | exact nI_add g 1 | (rw [← nI_add]; rfl)) (by decide) rfl (fun ls hl => ?_)
                refine lv_goto (tgt := 72) hx hb dX3_split_113 (by decide) ?_
                exact ihg (x6, (g + 1), NK2, NT2) (by show b - (g + 1) < b - g; omega) _ _ _ ⟨by omega, by omega, by rw [cn_sf (P := fun j => ¬ mk o1 (mZ K T j).1 < mk o1 v) (by omega) (fun z => z (tr_1 hq9 c91))]; exact vg2, vg3, flI_n vg4 (fun z => z (tr_1 hq9 c91)), hP, hD, hS, lv_sub hl [1, 2, 3, 4, 5, 6, 7, 0] rfl⟩
              · have hx6 : x6 < cn (fun j => ¬ mk o1 (mZ K T j).1 < mk o1 v) a (b - a) := by rw [vg2]; exact cn_less (by omega) (by omega) (tr_0 hq9 c91)
                have hxx := cn_not (fun j => mk o1 (mZ K T j).1 < mk o1 v) a (b - a)
                rw [← vf2] at hxx
                have hx7 : x5 + x6 < b - a := by omega
                refine lv_aload_n hx hb dX3_split_94 rfl (lv_at hl 0 rfl) ?_
                refine lv_iload hx hb dX3_split_95 (lv_at hl 7 rfl) ?_
                refine lv_iload_n hx hb dX3_split_97 rfl (lv_at hl 1 rfl) ?_
                refine lv_iload hx hb dX3_split_98 (lv_at hl 5 rfl) ?_
                refine lv_iadd hx hb dX3_split_100 ?_
                refine lz_top (y := (nI (a + x5))) (nI_add _ _) ?_
                refine lv_iload hx hb dX3_split_101 (lv_at hl 6 rfl) ?_
                refine lv_iadd hx hb dX3_split_103 ?_
                refine lz_top (y := (nI ((a + x5) + x6))) (nI_add _ _) ?_
                have hPc := hP.sub (ws' := [(h, .inr (2, [.ref k, .ref t, .int (nI n), .ref k2, .ref t2])), (k, .inl (cA, 500, .inl K)), (t, .inl (cB, 500, .inl T)), (k2, .inl (cC, 500, .inl NK2)), (t2, .inl (cD, 500, .inl NT2))]) [0, 1, 2, 3, 4] rfl
                have hDc := hD.sub (ws' := [(h, .inr (2, [.ref k, .ref t, .int (nI n), .ref k2, .ref t2])), (k, .inl (cA, 500, .inl K)), (t, .inl (cB, 500, .inl T)), (k2, .inl (cC, 500, .inl NK2)), (t2, .inl (cD, 500, .inl NT2))]) [0, 1, 2, 3, 4] (by decide) rfl
                have hKc := hK.sub (tys' := [(cA, .int), (cB, .int), (cC, .int), (cD, .int)]) [0, 1, 2, 3] rfl
                have hFc := va_free (wc := [(h, .inr (2, [.ref k, .ref t, .int (nI n), .ref k2, .ref t2])), (k, .inl (cA, 500, .inl K)), (t, .inl (cB, 500, .inl T)), (k2, .inl (cC, 500, .inl NK2)), (t2, .inl (cD, 500, .inl NT2))]) hD hS hA [0, 1, 2, 3, 4] rfl
                refine va_callv (va_runV (As := [.int (nI g), .int (nI ((a + x5) + x6))]) (rest := []) ⟨hx, hb, hml, hown, hts⟩ (c_X3_move l dC dI H.size h k t k2 t2 cA cB cC cD n K T NK2 NT2 g (a + x5 + x6) (by omega) (by omega)) (cwV 2 hts gX3_split_X3_move rfl rfl rfl (by decide +kernel) ⟨Nat.le_of_ble_eq_true rfl, Nat.le_of_ble_eq_true rfl⟩) ⟨fun a U g mk q => by obtain ⟨q0, q1, qP, qK, qD⟩ := q; exact ⟨q0, q1, qP, va_K.moved (u := U) (U := U.calling g mk a) (Vm.Alike.refl U.vm) qK, qD⟩, va_recv hKc hPc (ci := 2) (q0 := 0) rfl rfl, fun U hU hW => ⟨rfl, by rw [hU], by rw [hU]; exact hPc, va_K.moved hW.alike hKc, hDc.weaken (fun _ _ _ _ => trivial)⟩⟩ rfl rfl hl.1 rfl (lv_room (Nat.le_of_ble_eq_true rfl)) dX3_split_104 ⟨Nat.le_of_ble_eq_true rfl, Nat.le_of_ble_eq_true rfl⟩) hS (fun q _ h => hFc q h) hFc (fun u tS H1 locs ht hvm hw hB hz1 hk1 hS => ?_)
                subst hw
                obtain ⟨hP1, hK1, hD1⟩ := hB
                rw [ht] at hP1
                obtain ⟨hP, hD⟩ := va_join (wr := []) (w1 := [(h, .inr (2, [.ref k, .ref t, .int (nI n), .ref k2, .ref t2])), (k, .inl (cA, 500, .inl K)), (t, .inl (cB, 500, .inl T)), (k2, .inl (cC, 500, .inl (upd NK2 (a + x5 + x6) (K g)))), (t2, .inl (cD, 500, .inl (upd NT2 (a + x5 + x6) (T g))))]) hP hD [0, 1, 2, 3, 4] [] rfl rfl (by decide) (by decide) hk1 hFc hP1 hD1
                generalize H1 = H at hP hS ⊢
                have hP : va_P (dC, dI) vwCl [(h, .inr (2, [.ref k, .ref t, .int (nI n), .ref k2, .ref t2])), (k, .inl (cA, 500, .inl K)), (t, .inl (cB, 500, .inl T)), (k2, .inl (cC, 500, .inl (upd NK2 (a + x5 + x6) (K g)))), (t2, .inl (cD, 500, .inl (upd NT2 (a + x5 + x6) (T g))))] H := hP
                have hD : va_D A [(h, .inr (2, [.ref k, .ref t, .int (nI n), .ref k2, .ref t2])), (k, .inl (cA, 500, .inl K)), (t, .inl (cB, 500, .inl T)), (k2, .inl (cC, 500, .inl (upd NK2 (a + x5 + x6) (K g)))), (t2, .inl (cD, 500, .inl (upd NT2 (a + x5 + x6) (T g))))] := hD
                refine lv_iinc (v := (nI (x6 + 1))) (lv' := [(6, .int (nI (x6 + 1))), (0, .ref h), (1, .int (nI a)), (2, .int (nI b)), (3, .int v), (4, .int (nI o1)), (5, .int (nI x5)), (7, .int (nI g))]) hx hb dX3_split_107 hl (k := 6) rfl (by first | exact nI_add x6 1 | (rw [← nI_add]; rfl)) (by decide) rfl (fun ls hl => ?_)
                refine lv_iinc (v := (nI (g + 1))) (lv' := [(7, .int (nI (g + 1))), (6, .int (nI (x6 + 1))), (0, .ref h), (1, .int (nI a)), (2, .int (nI b)), (3, .int v), (4, .int (nI o1)), (5, .int (nI x5))]) hx hb dX3_split_110 hl (k := 7) rfl (by first | exact nI_add g 1 | (rw [← nI_add]; rfl)) (by decide) rfl (fun ls hl => ?_)
                refine lv_goto (tgt := 72) hx hb dX3_split_113 (by decide) ?_
                exact ihg ((x6 + 1), (g + 1), (upd NK2 (a + x5 + x6) (K g)), (upd NT2 (a + x5 + x6) (T g))) (by show b - (g + 1) < b - g; omega) _ _ _ ⟨by omega, by omega, by rw [cn_st (P := fun j => ¬ mk o1 (mZ K T j).1 < mk o1 v) (by omega) (tr_0 hq9 c91), ← vg2], flI_o vg3 (by rw [← vf2]; omega) (mZ_put NK2 NT2 (a + x5 + x6) (K g) (T g)), flI_y vg4 (by omega) (by rw [← vg2]; exact mZ_put NK2 NT2 (a + x5 + x6) (K g) (T g)), hP, hD, hS, lv_sub hl [2, 3, 4, 5, 6, 7, 1, 0] rfl⟩
          · exact ⟨Nat.le_refl _, by omega, cn_s0, vf3, flI_0, hP, hD, hS, lv_sub hl [2, 3, 4, 5, 6, 7, 1, 0] rfl⟩
        · have hx5 : x5 ≤ q - a := by rw [vf2]; exact cn_le _ _ _
          refine lv_aload_n hx hb dX3_split_31 rfl (lv_at hl 0 rfl) ?_
          refine va_get (D := (dC, dI)) (ci := 2) (v := .ref k) (C := RX3) (T := TX3) (N := 5) hx hb hts (by decide +kernel) hown hK hP 0 rfl rfl 0 (by decide) (hts (.fieldLink RX3 7 "RowPressModel" "keys" "[I") (by decide +kernel)) (fun _ h9 => h9) rfl dX3_split_32 ?_
          refine lv_iload hx hb dX3_split_35 (lv_at hl 6 rfl) ?_
          refine lz_iald hx hb hK hP 1 0 rfl rfl (j := q) (by omega) (by decide) dX3_split_37 ?_
          refine lv_iload_n hx hb dX3_split_38 rfl (lv_at hl 3 rfl) ?_
          refine lv_iload hx hb dX3_split_39 (lv_at hl 4 rfl) ?_
          have hPc := hP.sub (ws' := []) [] rfl
          have hDc := hD.sub (ws' := []) [] (by decide) rfl
          have hKc := hK.sub (tys' := []) [] rfl
          have hFc := va_free (wc := []) hD hS hA [] rfl
          refine va_calli (va_runS (As := [.int (K q), .int v, .int (nI o1)]) (rest := []) ⟨hx, hb, hml, hown, hts⟩ (c_X3_isLess l dC dI H.size (K q) v o1 ho) (va_cwS 3 hts gX3_split_X3_isLess rfl rfl rfl (by decide +kernel) ⟨Nat.le_of_ble_eq_true rfl, Nat.le_of_ble_eq_true rfl⟩) ⟨fun a U g mk q => by obtain ⟨q0, q1, qP, qK, qD⟩ := q; exact ⟨q0, q1, qP, va_K.moved (u := U) (U := U.calling g mk a) (Vm.Alike.refl U.vm) qK, qD⟩, fun U hU hW => ⟨rfl, by rw [hU], by rw [hU]; exact hPc, va_K.moved hW.alike hKc, hDc.weaken (fun _ _ _ _ => trivial)⟩⟩ rfl rfl hl.1 rfl (lv_room (Nat.le_of_ble_eq_true rfl)) dX3_split_41 ⟨Nat.le_of_ble_eq_true rfl, Nat.le_of_ble_eq_true rfl⟩) hS (fun q _ h => hFc q h) hFc (fun r_6 u tS H1 locs ht hvm hw hB hz1 hk1 hS => ?_)
          have hq := hw
          obtain ⟨hP1, hK1, hD1⟩ := hB
          rw [ht] at hP1
          obtain ⟨hP, hD⟩ := va_join (wr := [(h, .inr (2, [.ref k, .ref t, .int (nI n), .ref k2, .ref t2])), (k, .inl (cA, 500, .inl K)), (t, .inl (cB, 500, .inl T)), (k2, .inl (cC, 500, .inl NK1)), (t2, .inl (cD, 500, .inl NT1))]) (w1 := []) hP hD [] [0, 1, 2, 3, 4] rfl rfl (by decide) (by decide) hk1 hFc hP1 hD1
          generalize H1 = H at hP hS ⊢
          have hP : va_P (dC, dI) vwCl [(h, .inr (2, [.ref k, .ref t, .int (nI n), .ref k2, .ref t2])), (k, .inl (cA, 500, .inl K)), (t, .inl (cB, 500, .inl T)), (k2, .inl (cC, 500, .inl NK1)), (t2, .inl (cD, 500, .inl NT1))] H := hP
          have hD : va_D A [(h, .inr (2, [.ref k, .ref t, .int (nI n), .ref k2, .ref t2])), (k, .inl (cA, 500, .inl K)), (t, .inl (cB, 500, .inl T)), (k2, .inl (cC, 500, .inl NK1)), (t2, .inl (cD, 500, .inl NT1))] := hD
          refine lv_if_eq (tgt := 60) hx hb dX3_split_44 (by decide) (fun c44 => ?_) (fun c44 => ?_)
          · refine lv_iinc (v := (nI (q + 1))) (lv' := [(6, .int (nI (q + 1))), (0, .ref h), (1, .int (nI a)), (2, .int (nI b)), (3, .int v), (4, .int (nI o1)), (5, .int (nI x5))]) hx hb dX3_split_60 hl (k := 6) rfl (by first | exact nI_add q 1 | (rw [← nI_add]; rfl)) (by decide) rfl (fun ls hl => ?_)
            refine lv_goto (tgt := 25) hx hb dX3_split_63 (by decide) ?_
            exact ihf (x5, (q + 1), NK1, NT1) (by show b - (q + 1) < b - q; omega) _ _ _ ⟨by omega, by omega, by rw [cn_sf (P := fun j => mk o1 (mZ K T j).1 < mk o1 v) (by omega) (tr_0 hq c44)]; exact vf2, flI_n vf3 (tr_0 hq c44), hP, hD, hS, lv_sub hl [1, 2, 3, 4, 5, 6, 0] rfl⟩
          · refine lv_aload_n hx hb dX3_split_47 rfl (lv_at hl 0 rfl) ?_
            refine lv_iload hx hb dX3_split_48 (lv_at hl 6 rfl) ?_
            refine lv_iload_n hx hb dX3_split_50 rfl (lv_at hl 1 rfl) ?_
            refine lv_iload hx hb dX3_split_51 (lv_at hl 5 rfl) ?_
            refine lv_iadd hx hb dX3_split_53 ?_
            refine lz_top (y := (nI (a + x5))) (nI_add _ _) ?_
            have hPc := hP.sub (ws' := [(h, .inr (2, [.ref k, .ref t, .int (nI n), .ref k2, .ref t2])), (k, .inl (cA, 500, .inl K)), (t, .inl (cB, 500, .inl T)), (k2, .inl (cC, 500, .inl NK1)), (t2, .inl (cD, 500, .inl NT1))]) [0, 1, 2, 3, 4] rfl
            have hDc := hD.sub (ws' := [(h, .inr (2, [.ref k, .ref t, .int (nI n), .ref k2, .ref t2])), (k, .inl (cA, 500, .inl K)), (t, .inl (cB, 500, .inl T)), (k2, .inl (cC, 500, .inl NK1)), (t2, .inl (cD, 500, .inl NT1))]) [0, 1, 2, 3, 4] (by decide) rfl
            have hKc := hK.sub (tys' := [(cA, .int), (cB, .int), (cC, .int), (cD, .int)]) [0, 1, 2, 3] rfl
            have hFc := va_free (wc := [(h, .inr (2, [.ref k, .ref t, .int (nI n), .ref k2, .ref t2])), (k, .inl (cA, 500, .inl K)), (t, .inl (cB, 500, .inl T)), (k2, .inl (cC, 500, .inl NK1)), (t2, .inl (cD, 500, .inl NT1))]) hD hS hA [0, 1, 2, 3, 4] rfl
            refine va_callv (va_runV (As := [.int (nI q), .int (nI (a + x5))]) (rest := []) ⟨hx, hb, hml, hown, hts⟩ (c_X3_move l dC dI H.size h k t k2 t2 cA cB cC cD n K T NK1 NT1 q (a + x5) (by omega) (by omega)) (cwV 2 hts gX3_split_X3_move rfl rfl rfl (by decide +kernel) ⟨Nat.le_of_ble_eq_true rfl, Nat.le_of_ble_eq_true rfl⟩) ⟨fun a U g mk q => by obtain ⟨q0, q1, qP, qK, qD⟩ := q; exact ⟨q0, q1, qP, va_K.moved (u := U) (U := U.calling g mk a) (Vm.Alike.refl U.vm) qK, qD⟩, va_recv hKc hPc (ci := 2) (q0 := 0) rfl rfl, fun U hU hW => ⟨rfl, by rw [hU], by rw [hU]; exact hPc, va_K.moved hW.alike hKc, hDc.weaken (fun _ _ _ _ => trivial)⟩⟩ rfl rfl hl.1 rfl (lv_room (Nat.le_of_ble_eq_true rfl)) dX3_split_54 ⟨Nat.le_of_ble_eq_true rfl, Nat.le_of_ble_eq_true rfl⟩) hS (fun q _ h => hFc q h) hFc (fun u tS H1 locs ht hvm hw hB hz1 hk1 hS => ?_)
            subst hw
            obtain ⟨hP1, hK1, hD1⟩ := hB
            rw [ht] at hP1
            obtain ⟨hP, hD⟩ := va_join (wr := []) (w1 := [(h, .inr (2, [.ref k, .ref t, .int (nI n), .ref k2, .ref t2])), (k, .inl (cA, 500, .inl K)), (t, .inl (cB, 500, .inl T)), (k2, .inl (cC, 500, .inl (upd NK1 (a + x5) (K q)))), (t2, .inl (cD, 500, .inl (upd NT1 (a + x5) (T q))))]) hP hD [0, 1, 2, 3, 4] [] rfl rfl (by decide) (by decide) hk1 hFc hP1 hD1
            generalize H1 = H at hP hS ⊢
            have hP : va_P (dC, dI) vwCl [(h, .inr (2, [.ref k, .ref t, .int (nI n), .ref k2, .ref t2])), (k, .inl (cA, 500, .inl K)), (t, .inl (cB, 500, .inl T)), (k2, .inl (cC, 500, .inl (upd NK1 (a + x5) (K q)))), (t2, .inl (cD, 500, .inl (upd NT1 (a + x5) (T q))))] H := hP
            have hD : va_D A [(h, .inr (2, [.ref k, .ref t, .int (nI n), .ref k2, .ref t2])), (k, .inl (cA, 500, .inl K)), (t, .inl (cB, 500, .inl T)), (k2, .inl (cC, 500, .inl (upd NK1 (a + x5) (K q)))), (t2, .inl (cD, 500, .inl (upd NT1 (a + x5) (T q))))] := hD
            refine lv_iinc (v := (nI (x5 + 1))) (lv' := [(5, .int (nI (x5 + 1))), (0, .ref h), (1, .int (nI a)), (2, .int (nI b)), (3, .int v), (4, .int (nI o1)), (6, .int (nI q))]) hx hb dX3_split_57 hl (k := 5) rfl (by first | exact nI_add x5 1 | (rw [← nI_add]; rfl)) (by decide) rfl (fun ls hl => ?_)
            refine lv_iinc (v := (nI (q + 1))) (lv' := [(6, .int (nI (q + 1))), (5, .int (nI (x5 + 1))), (0, .ref h), (1, .int (nI a)), (2, .int (nI b)), (3, .int v), (4, .int (nI o1))]) hx hb dX3_split_60 hl (k := 6) rfl (by first | exact nI_add q 1 | (rw [← nI_add]; rfl)) (by decide) rfl (fun ls hl => ?_)
            refine lv_goto (tgt := 25) hx hb dX3_split_63 (by decide) ?_
            exact ihf ((x5 + 1), (q + 1), (upd NK1 (a + x5) (K q)), (upd NT1 (a + x5) (T q))) (by show b - (q + 1) < b - q; omega) _ _ _ ⟨by omega, by omega, by rw [cn_st (P := fun j => mk o1 (mZ K T j).1 < mk o1 v) (by omega) (tr_1 hq c44), ← vf2], flI_y vf3 (by omega) (by rw [← vf2]; exact mZ_put NK1 NT1 (a + x5) (K q) (T q)), hP, hD, hS, lv_sub hl [2, 3, 4, 5, 6, 1, 0] rfl⟩
      · exact ⟨Nat.le_refl _, by omega, cn_s0, flI_0, hP, hD, hS, lv_sub hl [2, 3, 4, 5, 6, 1, 0] rfl⟩
    · refine lv_iconst (v := (-1)) hx hb dX3_split_17 (by decide) ?_
      exact W.iret (v := (-1)) hx hb hr (fun tS ht hW => ⟨⟨(-1), (K, T, n, NK, NT), rfl, Or.inl ⟨⟨rfl, sam_rf⟩, fun z hz => tr_0 he c14 (dS_e hn hz).1⟩, by rw [ht]; exact hP, va_K.moved hW.alike hK, hD⟩, hS.F ht⟩) hS.2.2 dX3_split_18
