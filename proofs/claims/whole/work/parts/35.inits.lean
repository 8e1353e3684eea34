set_option maxHeartbeats 4000000 in
set_option maxRecDepth 100000 in
theorem c_X1_init (l : Launch) (dC : Nat → ClassId) (dI : Nat → Nat → Nat) (sz : Nat) (r : Nat) : Met l yX1_init wsX1_init ({ frames := 1, cells := 2, slots := 1000, locals := 12 }) (va_Pc [.ref r] (fun U => U.heap.size = sz ∧ va_P (dC, dI) vwCl [(r, .inr (0, [.null, .null, .int 0, .int 0, .int 0]))] U.heap ∧ va_K (dC, dI) vwCl [] U ∧ va_D (fun _ => True) [(r, .inr (0, [.null, .null, .int 0, .int 0, .int 0]))])) (va_Qv (fun (_ : Unit) => True) (atR0 dC dI (va_A [(r, .inr (0, [.null, .null, .int 0, .int 0, .int 0]))] sz) r) (va_A [(r, .inr (0, [.null, .null, .int 0, .int 0, .int 0]))] sz)) 2 1000 (va_A [(r, .inr (0, [.null, .null, .int 0, .int 0, .int 0]))] sz) := by
  refine Met.ofW (cc := cX1_init) (maxL := 1) (ret := none) (by decide) rfl ?_
  intro p e s m args below meth c s₁ B hml hv
  obtain ⟨rfl, hsz, hP, hK, hD0⟩ := hv
  have hx := B.exec
  have hb := B.bytes
  have hr := B.returns
  have hts := atoms_spec (ws := wsX1_init) B.pre
  have hown : s.vm.findClass RX1 = some m.cls := findClass_of_methodNamed B.named
  have hlocks := B.notSynchronized
  have hin : meth.name = "<init>" := (name_of_methodNamed B.named B.method).1
  subst hsz
  have hD := hD0.self (sz := s.heap.size)
  generalize hAe : va_A [(r, .inr (0, [.null, .null, .int 0, .int 0, .int 0]))] s.heap.size = A at hD ⊢
  have hA : ∀ q : Nat, s.heap.size ≤ q → A q := fun q h => by rw [← hAe]; exact Or.inr h
  have hS : va_S A s.heap s.heap [] := va_S.rf
  have hP : va_P (dC, dI) vwCl [(r, .inr (0, [.null, .null, .int 0, .int 0, .int 0]))] s.heap := hP
  have hl := lv_entry ([.ref r]) (n := 1) (Nat.le_of_ble_eq_true rfl)
  rw [lg_entry_eq]
  generalize (lg_sl ([.ref r]) ++ List.replicate (1 - (lg_sl ([.ref r])).length) Slot.unset).toArray = ls at hl ⊢
  have hl : lv_has ls 1 [(0, .ref r)] := hl
  refine lv_aload_n hx hb dX1_init_0 rfl (lv_at hl 0 rfl) ?_
  refine W.objInit hx hb hown (hts (.methodLink RX1 1 objectInit) (by decide +kernel)) (hts (.instanceMethod objectInit) (by decide +kernel)) (hts _ (List.mem_cons_of_mem _ (List.mem_append_left _ (List.mem_of_getElem? (i := 2) rfl)))) rfl (by rw [hml]; exact hl.1) rfl dX1_init_1 (Nat.le_of_ble_eq_true rfl) (Nat.le_of_ble_eq_true rfl) ?_
  refine W.eq (g2 := F0 m 4 ls []) rfl ?_
  refine lv_aload_n hx hb dX1_init_4 rfl (lv_at hl 0 rfl) ?_
  refine lv_sipush (v := (nI 500)) hx hb dX1_init_5 (by decide) ?_
  refine va_newa (atype := .int) (n := (nI 500)) (ty := .int) (a0 := (500, .inl (fun _ => 0))) (N' := 500) hx hb (hts (.arrayClass .int) (by decide +kernel)) rfl hK hP hD hS hA (fun _ => rfl) (by decide) (by decide) (by decide) (Nat.le_of_ble_eq_true rfl) (Nat.le_of_ble_eq_true rfl) dX1_init_8 (fun k cA H hK hP hD hS => ?_)
  have hP : va_P (dC, dI) vwCl [(r, .inr (0, [.null, .null, .int 0, .int 0, .int 0])), (k, .inl (cA, 500, .inl (fun _ => 0)))] H := hP
  have hD : va_D A [(r, .inr (0, [.null, .null, .int 0, .int 0, .int 0])), (k, .inl (cA, 500, .inl (fun _ => 0)))] := hD
  have hK : va_K (dC, dI) vwCl [(cA, .int)] s := hK
  refine va_putF (D := (dC, dI)) (ci := 0) (v := .ref k) (ty := .array .int) (C := RX1) (T := TX1) (N := 5) hx hb hts (by decide +kernel) tyX1 tyX1_ok nmX1 hown hK hP hD hS 0 rfl rfl 0 (by decide) (hts (.fieldLink RX1 9 "RowPress$Row" "keys" "[I") (by decide +kernel)) (fun _ h9 => h9) rfl hin rfl (by decide +kernel) rfl rfl (Nat.le_of_ble_eq_true rfl) dX1_init_10 (fun H locs hP hD hS => ?_)
  have hP : va_P (dC, dI) vwCl [(r, .inr (0, [.ref k, .null, .int 0, .int 0, .int 0])), (k, .inl (cA, 500, .inl (fun _ => 0)))] H := hP
  have hD : va_D A [(r, .inr (0, [.ref k, .null, .int 0, .int 0, .int 0])), (k, .inl (cA, 500, .inl (fun _ => 0)))] := hD
  refine lv_aload_n hx hb dX1_init_13 rfl (lv_at hl 0 rfl) ?_
  refine lv_sipush (v := (nI 500)) hx hb dX1_init_14 (by decide) ?_
  refine va_newa (atype := .int) (n := (nI 500)) (ty := .int) (a0 := (500, .inl (fun _ => 0))) (N' := 500) hx hb (hts (.arrayClass .int) (by decide +kernel)) rfl hK hP hD hS hA (fun _ => rfl) (by decide) (by decide) (by decide) (Nat.le_of_ble_eq_true rfl) (Nat.le_of_ble_eq_true rfl) dX1_init_17 (fun t cB H hK hP hD hS => ?_)
  have hP : va_P (dC, dI) vwCl [(r, .inr (0, [.ref k, .null, .int 0, .int 0, .int 0])), (k, .inl (cA, 500, .inl (fun _ => 0))), (t, .inl (cB, 500, .inl (fun _ => 0)))] H := hP
  have hD : va_D A [(r, .inr (0, [.ref k, .null, .int 0, .int 0, .int 0])), (k, .inl (cA, 500, .inl (fun _ => 0))), (t, .inl (cB, 500, .inl (fun _ => 0)))] := hD
  have hK : va_K (dC, dI) vwCl [(cA, .int), (cB, .int)] s := hK
  refine va_putF (D := (dC, dI)) (ci := 0) (v := .ref t) (ty := .array .int) (C := RX1) (T := TX1) (N := 5) hx hb hts (by decide +kernel) tyX1 tyX1_ok nmX1 hown hK hP hD hS 0 rfl rfl 1 (by decide) (hts (.fieldLink RX1 13 "RowPress$Row" "tags" "[I") (by decide +kernel)) (fun _ h9 => h9) rfl hin rfl (by decide +kernel) rfl rfl (Nat.le_of_ble_eq_true rfl) dX1_init_19 (fun H locs hP hD hS => ?_)
  have hP : va_P (dC, dI) vwCl [(r, .inr (0, [.ref k, .ref t, .int 0, .int 0, .int 0])), (k, .inl (cA, 500, .inl (fun _ => 0))), (t, .inl (cB, 500, .inl (fun _ => 0)))] H := hP
  have hD : va_D A [(r, .inr (0, [.ref k, .ref t, .int 0, .int 0, .int 0])), (k, .inl (cA, 500, .inl (fun _ => 0))), (t, .inl (cB, 500, .inl (fun _ => 0)))] := hD
  refine W.widen (k := 2) (n := 1000) (Nat.le_of_ble_eq_true rfl) (Nat.le_of_ble_eq_true rfl) ?_
  exact W.vret hx hb hr (fun tS ht hW => ⟨⟨(), rfl, trivial, k, t, cA, cB, by rw [ht]; exact hP, va_K.moved hW.alike hK, hD⟩, hS.F ht⟩) hS.2.2 dX1_init_22
set_option maxHeartbeats 4000000 in
set_option maxRecDepth 100000 in
theorem c_X2_init (l : Launch) (dC : Nat → ClassId) (dI : Nat → Nat → Nat) (sz : Nat) (h : Nat) : Met l yX2_init wsX2_init ({ frames := 2, cells := 3, slots := 1005, locals := 32 }) (va_Pc [.ref h] (fun U => U.heap.size = sz ∧ va_P (dC, dI) vwCl [(h, .inr (1, [.null, .int 0, .int 0, .int 0]))] U.heap ∧ va_K (dC, dI) vwCl [] U ∧ va_D (fun _ => True) [(h, .inr (1, [.null, .int 0, .int 0, .int 0]))] ∧ va_Nw (.methodLinkNest RX2 9 yX1_init RX2) U)) (va_Qv (fun (_ : Unit) => True) (atX0 dC dI (va_A [(h, .inr (1, [.null, .int 0, .int 0, .int 0]))] sz) h) (va_A [(h, .inr (1, [.null, .int 0, .int 0, .int 0]))] sz)) 3 1005 (va_A [(h, .inr (1, [.null, .int 0, .int 0, .int 0]))] sz) := by
  refine Met.ofW (cc := cX2_init) (maxL := 1) (ret := none) (by decide) rfl ?_
  intro p e s m args below meth c s₁ B hml hv
  obtain ⟨rfl, hsz, hP, hK, hD0, hN0⟩ := hv
  have hx := B.exec
  have hb := B.bytes
  have hr := B.returns
  have hts := atoms_spec (ws := wsX2_init) B.pre
  have hown : s.vm.findClass RX2 = some m.cls := findClass_of_methodNamed B.named
  have hlocks := B.notSynchronized
  have hin : meth.name = "<init>" := (name_of_methodNamed B.named B.method).1
  subst hsz
  have hD := hD0.self (sz := s.heap.size)
  generalize hAe : va_A [(h, .inr (1, [.null, .int 0, .int 0, .int 0]))] s.heap.size = A at hD ⊢
  have hA : ∀ q : Nat, s.heap.size ≤ q → A q := fun q h => by rw [← hAe]; exact Or.inr h
  have hS : va_S A s.heap s.heap [] := va_S.rf
  have hP : va_P (dC, dI) vwCl [(h, .inr (1, [.null, .int 0, .int 0, .int 0]))] s.heap := hP
  have hl := lv_entry ([.ref h]) (n := 1) (Nat.le_of_ble_eq_true rfl)
  rw [lg_entry_eq]
  generalize (lg_sl ([.ref h]) ++ List.replicate (1 - (lg_sl ([.ref h])).length) Slot.unset).toArray = ls at hl ⊢
  have hl : lv_has ls 1 [(0, .ref h)] := hl
  refine lv_aload_n hx hb dX2_init_0 rfl (lv_at hl 0 rfl) ?_
  refine W.objInit hx hb hown (hts (.methodLink RX2 1 objectInit) (by decide +kernel)) (hts (.instanceMethod objectInit) (by decide +kernel)) (hts _ (List.mem_cons_of_mem _ (List.mem_append_left _ (List.mem_of_getElem? (i := 2) rfl)))) rfl (by rw [hml]; exact hl.1) rfl dX2_init_1 (Nat.le_of_ble_eq_true rfl) (Nat.le_of_ble_eq_true rfl) ?_
  refine W.eq (g2 := F0 m 4 ls []) rfl ?_
  refine lv_aload_n hx hb dX2_init_4 rfl (lv_at hl 0 rfl) ?_
  refine va_new (ci := 0) (fs := [.null, .null, .int 0, .int 0, .int 0]) (C := RX1) (T := TX1) (N := 5) hx hb hts (by decide +kernel) tyX1 tyX1_ok hown (hts (.classLink RX2 7 RX1) (by decide +kernel)) (hts (.instantiable RX1 5) (by decide +kernel)) (hts (.initialized RX1) (by decide +kernel)) hK hP hD hS hA rfl (fun j hj => by rcases (show j = 0 ∨ j = 1 ∨ j = 2 ∨ j = 3 ∨ j = 4 by omega) with rfl | rfl | rfl | rfl | rfl <;> rfl) (Nat.le_of_ble_eq_true rfl) (Nat.le_of_ble_eq_true rfl) dX2_init_5 (fun r H hP hD hS => ?_)
  have hP : va_P (dC, dI) vwCl [(h, .inr (1, [.null, .int 0, .int 0, .int 0])), (r, .inr (0, [.null, .null, .int 0, .int 0, .int 0]))] H := hP
  have hD : va_D A [(h, .inr (1, [.null, .int 0, .int 0, .int 0])), (r, .inr (0, [.null, .null, .int 0, .int 0, .int 0]))] := hD
  refine W.widen (k := 1) (n := 5) (Nat.le_of_ble_eq_true rfl) (Nat.le_of_ble_eq_true rfl) ?_
  refine lv_dup hx hb dX2_init_8 rfl ?_
  have hPc := hP.sub (ws' := [(r, .inr (0, [.null, .null, .int 0, .int 0, .int 0]))]) [1] rfl
  have hDc := hD.sub (ws' := [(r, .inr (0, [.null, .null, .int 0, .int 0, .int 0]))]) [1] (by decide) rfl
  have hKc := hK.sub (tys' := []) [] rfl
  have hFc := va_free (wc := [(r, .inr (0, [.null, .null, .int 0, .int 0, .int 0]))]) hD hS hA [1] rfl
  refine va_callv (va_runIN (As := []) (rest := [.ref r, .ref h]) ⟨hx, hb, hml, hown, hts⟩ (c_X1_init l dC dI H.size r) ⟨va_cnB (own := RX2) (host := RX2) (index := 9) 0 hts gX2_init_X1_init_n9 rfl rfl rfl hN0 (hts (.initialized RX1) (by decide +kernel)) (by decide +kernel) ⟨Nat.le_of_ble_eq_true rfl, Nat.le_of_ble_eq_true rfl⟩, rfl, hts (.instanceMethod yX1_init) (by decide +kernel)⟩ ⟨fun a U g mk q => by obtain ⟨q0, q1, qP, qK, qD⟩ := q; exact ⟨q0, q1, qP, va_K.moved (u := U) (U := U.calling g mk a) (Vm.Alike.refl U.vm) qK, qD⟩, fun U hU hW => ⟨rfl, by rw [hU], by rw [hU]; exact hPc, va_K.moved hW.alike hKc, hDc.weaken (fun _ _ _ _ => trivial)⟩⟩ rfl rfl hl.1 rfl (lv_room (Nat.le_of_ble_eq_true rfl)) dX2_init_9 ⟨Nat.le_of_ble_eq_true rfl, Nat.le_of_ble_eq_true rfl⟩) hS (fun q _ h => hFc q h) hFc (fun u tS H1 locs ht hvm hw hB hz1 hk1 hS => ?_)
  obtain ⟨k, t, cA, cB, hP1, hK1, hD1⟩ := hB
  have hK1 := va_K.moved hvm.symm hK1
  rw [ht] at hP1
  obtain ⟨hP, hD⟩ := va_join (wr := [(h, .inr (1, [.null, .int 0, .int 0, .int 0]))]) (w1 := [(r, .inr (0, [.ref k, .ref t, .int 0, .int 0, .int 0])), (k, .inl (cA, 500, .inl (fun _ => 0))), (t, .inl (cB, 500, .inl (fun _ => 0)))]) hP hD [1] [0] rfl rfl (by decide) (by decide) hk1 hFc hP1 hD1
  generalize H1 = H at hP hS ⊢
  have hP : va_P (dC, dI) vwCl [(h, .inr (1, [.null, .int 0, .int 0, .int 0])), (r, .inr (0, [.ref k, .ref t, .int 0, .int 0, .int 0])), (k, .inl (cA, 500, .inl (fun _ => 0))), (t, .inl (cB, 500, .inl (fun _ => 0)))] H := hP
  have hD : va_D A [(h, .inr (1, [.null, .int 0, .int 0, .int 0])), (r, .inr (0, [.ref k, .ref t, .int 0, .int 0, .int 0])), (k, .inl (cA, 500, .inl (fun _ => 0))), (t, .inl (cB, 500, .inl (fun _ => 0)))] := hD
  have hK := (hK.sub (tys' := []) [] rfl).app hK1
  have hK : va_K (dC, dI) vwCl [(cA, .int), (cB, .int)] s := hK
  refine W.widen (k := 3) (n := 1005) (Nat.le_of_ble_eq_true rfl) (Nat.le_of_ble_eq_true rfl) ?_
  refine va_putF (D := (dC, dI)) (ci := 1) (v := .ref r) (ty := .object "RowPress$Row") (C := RX2) (T := TX2) (N := 4) hx hb hts (by decide +kernel) tyX2 tyX2_ok nmX2 hown hK hP hD hS 0 rfl rfl 0 (by decide) (hts (.fieldLink RX2 10 "RowPress" "row" "LRowPress$Row;") (by decide +kernel)) (fun _ h9 => h9) rfl hin rfl (by decide +kernel) rfl rfl (Nat.le_of_ble_eq_true rfl) dX2_init_12 (fun H locs hP hD hS => ?_)
  have hP : va_P (dC, dI) vwCl [(h, .inr (1, [.ref r, .int 0, .int 0, .int 0])), (r, .inr (0, [.ref k, .ref t, .int 0, .int 0, .int 0])), (k, .inl (cA, 500, .inl (fun _ => 0))), (t, .inl (cB, 500, .inl (fun _ => 0)))] H := hP
  have hD : va_D A [(h, .inr (1, [.ref r, .int 0, .int 0, .int 0])), (r, .inr (0, [.ref k, .ref t, .int 0, .int 0, .int 0])), (k, .inl (cA, 500, .inl (fun _ => 0))), (t, .inl (cB, 500, .inl (fun _ => 0)))] := hD
  refine W.widen (k := 3) (n := 1005) (Nat.le_of_ble_eq_true rfl) (Nat.le_of_ble_eq_true rfl) ?_
  exact W.vret hx hb hr (fun tS ht hW => ⟨⟨(), rfl, trivial, r, k, t, cA, cB, by rw [ht]; exact hP, va_K.moved hW.alike hK, hD⟩, hS.F ht⟩) hS.2.2 dX2_init_15
set_option maxHeartbeats 4000000 in
set_option maxRecDepth 100000 in
theorem c_X3_init (l : Launch) (dC : Nat → ClassId) (dI : Nat → Nat → Nat) (sz : Nat) (h : Nat) : Met l yX3_init wsX3_init ({ frames := 1, cells := 4, slots := 2000, locals := 12 }) (va_Pc [.ref h] (fun U => U.heap.size = sz ∧ va_P (dC, dI) vwCl [(h, .inr (2, [.null, .null, .int 0, .null, .null]))] U.heap ∧ va_K (dC, dI) vwCl [] U ∧ va_D (fun _ => True) [(h, .inr (2, [.null, .null, .int 0, .null, .null]))])) (va_Qv (fun (_ : Unit) => True) (atM0 dC dI (va_A [(h, .inr (2, [.null, .null, .int 0, .null, .null]))] sz) h) (va_A [(h, .inr (2, [.null, .null, .int 0, .null, .null]))] sz)) 4 2000 (va_A [(h, .inr (2, [.null, .null, .int 0, .null, .null]))] sz) := by
  refine Met.ofW (cc := cX3_init) (maxL := 1) (ret := none) (by decide) rfl ?_
  intro p e s m args below meth c s₁ B hml hv
  obtain ⟨rfl, hsz, hP, hK, hD0⟩ := hv
  have hx := B.exec
  have hb := B.bytes
  have hr := B.returns
  have hts := atoms_spec (ws := wsX3_init) B.pre
  have hown : s.vm.findClass RX3 = some m.cls := findClass_of_methodNamed B.named
  have hlocks := B.notSynchronized
  have hin : meth.name = "<init>" := (name_of_methodNamed B.named B.method).1
  subst hsz
  have hD := hD0.self (sz := s.heap.size)
  generalize hAe : va_A [(h, .inr (2, [.null, .null, .int 0, .null, .null]))] s.heap.size = A at hD ⊢
  have hA : ∀ q : Nat, s.heap.size ≤ q → A q := fun q h => by rw [← hAe]; exact Or.inr h
  have hS : va_S A s.heap s.heap [] := va_S.rf
  have hP : va_P (dC, dI) vwCl [(h, .inr (2, [.null, .null, .int 0, .null, .null]))] s.heap := hP
  have hl := lv_entry ([.ref h]) (n := 1) (Nat.le_of_ble_eq_true rfl)
  rw [lg_entry_eq]
  generalize (lg_sl ([.ref h]) ++ List.replicate (1 - (lg_sl ([.ref h])).length) Slot.unset).toArray = ls at hl ⊢
  have hl : lv_has ls 1 [(0, .ref h)] := hl
  refine lv_aload_n hx hb dX3_init_0 rfl (lv_at hl 0 rfl) ?_
  refine W.objInit hx hb hown (hts (.methodLink RX3 1 objectInit) (by decide +kernel)) (hts (.instanceMethod objectInit) (by decide +kernel)) (hts _ (List.mem_cons_of_mem _ (List.mem_append_left _ (List.mem_of_getElem? (i := 2) rfl)))) rfl (by rw [hml]; exact hl.1) rfl dX3_init_1 (Nat.le_of_ble_eq_true rfl) (Nat.le_of_ble_eq_true rfl) ?_
  refine W.eq (g2 := F0 m 4 ls []) rfl ?_
  refine lv_aload_n hx hb dX3_init_4 rfl (lv_at hl 0 rfl) ?_
  refine lv_sipush (v := (nI 500)) hx hb dX3_init_5 (by decide) ?_
  refine va_newa (atype := .int) (n := (nI 500)) (ty := .int) (a0 := (500, .inl (fun _ => 0))) (N' := 500) hx hb (hts (.arrayClass .int) (by decide +kernel)) rfl hK hP hD hS hA (fun _ => rfl) (by decide) (by decide) (by decide) (Nat.le_of_ble_eq_true rfl) (Nat.le_of_ble_eq_true rfl) dX3_init_8 (fun k cA H hK hP hD hS => ?_)
  have hP : va_P (dC, dI) vwCl [(h, .inr (2, [.null, .null, .int 0, .null, .null])), (k, .inl (cA, 500, .inl (fun _ => 0)))] H := hP
  have hD : va_D A [(h, .inr (2, [.null, .null, .int 0, .null, .null])), (k, .inl (cA, 500, .inl (fun _ => 0)))] := hD
  have hK : va_K (dC, dI) vwCl [(cA, .int)] s := hK
  refine va_putF (D := (dC, dI)) (ci := 2) (v := .ref k) (ty := .array .int) (C := RX3) (T := TX3) (N := 5) hx hb hts (by decide +kernel) tyX3 tyX3_ok nmX3 hown hK hP hD hS 0 rfl rfl 0 (by decide) (hts (.fieldLink RX3 7 "RowPressModel" "keys" "[I") (by decide +kernel)) (fun _ h9 => h9) rfl hin rfl (by decide +kernel) rfl rfl (Nat.le_of_ble_eq_true rfl) dX3_init_10 (fun H locs hP hD hS => ?_)
  have hP : va_P (dC, dI) vwCl [(h, .inr (2, [.ref k, .null, .int 0, .null, .null])), (k, .inl (cA, 500, .inl (fun _ => 0)))] H := hP
  have hD : va_D A [(h, .inr (2, [.ref k, .null, .int 0, .null, .null])), (k, .inl (cA, 500, .inl (fun _ => 0)))] := hD
  refine lv_aload_n hx hb dX3_init_13 rfl (lv_at hl 0 rfl) ?_
  refine lv_sipush (v := (nI 500)) hx hb dX3_init_14 (by decide) ?_
  refine va_newa (atype := .int) (n := (nI 500)) (ty := .int) (a0 := (500, .inl (fun _ => 0))) (N' := 500) hx hb (hts (.arrayClass .int) (by decide +kernel)) rfl hK hP hD hS hA (fun _ => rfl) (by decide) (by decide) (by decide) (Nat.le_of_ble_eq_true rfl) (Nat.le_of_ble_eq_true rfl) dX3_init_17 (fun t cB H hK hP hD hS => ?_)
  have hP : va_P (dC, dI) vwCl [(h, .inr (2, [.ref k, .null, .int 0, .null, .null])), (k, .inl (cA, 500, .inl (fun _ => 0))), (t, .inl (cB, 500, .inl (fun _ => 0)))] H := hP
  have hD : va_D A [(h, .inr (2, [.ref k, .null, .int 0, .null, .null])), (k, .inl (cA, 500, .inl (fun _ => 0))), (t, .inl (cB, 500, .inl (fun _ => 0)))] := hD
  have hK : va_K (dC, dI) vwCl [(cA, .int), (cB, .int)] s := hK
  refine va_putF (D := (dC, dI)) (ci := 2) (v := .ref t) (ty := .array .int) (C := RX3) (T := TX3) (N := 5) hx hb hts (by decide +kernel) tyX3 tyX3_ok nmX3 hown hK hP hD hS 0 rfl rfl 1 (by decide) (hts (.fieldLink RX3 13 "RowPressModel" "tags" "[I") (by decide +kernel)) (fun _ h9 => h9) rfl hin rfl (by decide +kernel) rfl rfl (Nat.le_of_ble_eq_true rfl) dX3_init_19 (fun H locs hP hD hS => ?_)
  have hP : va_P (dC, dI) vwCl [(h, .inr (2, [.ref k, .ref t, .int 0, .null, .null])), (k, .inl (cA, 500, .inl (fun _ => 0))), (t, .inl (cB, 500, .inl (fun _ => 0)))] H := hP
  have hD : va_D A [(h, .inr (2, [.ref k, .ref t, .int 0, .null, .null])), (k, .inl (cA, 500, .inl (fun _ => 0))), (t, .inl (cB, 500, .inl (fun _ => 0)))] := hD
  refine lv_aload_n hx hb dX3_init_22 rfl (lv_at hl 0 rfl) ?_
  refine lv_sipush (v := (nI 500)) hx hb dX3_init_23 (by decide) ?_
  refine va_newa (atype := .int) (n := (nI 500)) (ty := .int) (a0 := (500, .inl (fun _ => 0))) (N' := 500) hx hb (hts (.arrayClass .int) (by decide +kernel)) rfl hK hP hD hS hA (fun _ => rfl) (by decide) (by decide) (by decide) (Nat.le_of_ble_eq_true rfl) (Nat.le_of_ble_eq_true rfl) dX3_init_26 (fun k2 cC H hK hP hD hS => ?_)
  have hP : va_P (dC, dI) vwCl [(h, .inr (2, [.ref k, .ref t, .int 0, .null, .null])), (k, .inl (cA, 500, .inl (fun _ => 0))), (t, .inl (cB, 500, .inl (fun _ => 0))), (k2, .inl (cC, 500, .inl (fun _ => 0)))] H := hP
  have hD : va_D A [(h, .inr (2, [.ref k, .ref t, .int 0, .null, .null])), (k, .inl (cA, 500, .inl (fun _ => 0))), (t, .inl (cB, 500, .inl (fun _ => 0))), (k2, .inl (cC, 500, .inl (fun _ => 0)))] := hD
  have hK : va_K (dC, dI) vwCl [(cA, .int), (cB, .int), (cC, .int)] s := hK
  refine va_putF (D := (dC, dI)) (ci := 2) (v := .ref k2) (ty := .array .int) (C := RX3) (T := TX3) (N := 5) hx hb hts (by decide +kernel) tyX3 tyX3_ok nmX3 hown hK hP hD hS 0 rfl rfl 3 (by decide) (hts (.fieldLink RX3 16 "RowPressModel" "nextKeys" "[I") (by decide +kernel)) (fun _ h9 => h9) rfl hin rfl (by decide +kernel) rfl rfl (Nat.le_of_ble_eq_true rfl) dX3_init_28 (fun H locs hP hD hS => ?_)
  have hP : va_P (dC, dI) vwCl [(h, .inr (2, [.ref k, .ref t, .int 0, .ref k2, .null])), (k, .inl (cA, 500, .inl (fun _ => 0))), (t, .inl (cB, 500, .inl (fun _ => 0))), (k2, .inl (cC, 500, .inl (fun _ => 0)))] H := hP
  have hD : va_D A [(h, .inr (2, [.ref k, .ref t, .int 0, .ref k2, .null])), (k, .inl (cA, 500, .inl (fun _ => 0))), (t, .inl (cB, 500, .inl (fun _ => 0))), (k2, .inl (cC, 500, .inl (fun _ => 0)))] := hD
  refine lv_aload_n hx hb dX3_init_31 rfl (lv_at hl 0 rfl) ?_
  refine lv_sipush (v := (nI 500)) hx hb dX3_init_32 (by decide) ?_
  refine va_newa (atype := .int) (n := (nI 500)) (ty := .int) (a0 := (500, .inl (fun _ => 0))) (N' := 500) hx hb (hts (.arrayClass .int) (by decide +kernel)) rfl hK hP hD hS hA (fun _ => rfl) (by decide) (by decide) (by decide) (Nat.le_of_ble_eq_true rfl) (Nat.le_of_ble_eq_true rfl) dX3_init_35 (fun t2 cD H hK hP hD hS => ?_)
  have hP : va_P (dC, dI) vwCl [(h, .inr (2, [.ref k, .ref t, .int 0, .ref k2, .null])), (k, .inl (cA, 500, .inl (fun _ => 0))), (t, .inl (cB, 500, .inl (fun _ => 0))), (k2, .inl (cC, 500, .inl (fun _ => 0))), (t2, .inl (cD, 500, .inl (fun _ => 0)))] H := hP
  have hD : va_D A [(h, .inr (2, [.ref k, .ref t, .int 0, .ref k2, .null])), (k, .inl (cA, 500, .inl (fun _ => 0))), (t, .inl (cB, 500, .inl (fun _ => 0))), (k2, .inl (cC, 500, .inl (fun _ => 0))), (t2, .inl (cD, 500, .inl (fun _ => 0)))] := hD
  have hK : va_K (dC, dI) vwCl [(cA, .int), (cB, .int), (cC, .int), (cD, .int)] s := hK
  refine va_putF (D := (dC, dI)) (ci := 2) (v := .ref t2) (ty := .array .int) (C := RX3) (T := TX3) (N := 5) hx hb hts (by decide +kernel) tyX3 tyX3_ok nmX3 hown hK hP hD hS 0 rfl rfl 4 (by decide) (hts (.fieldLink RX3 19 "RowPressModel" "nextTags" "[I") (by decide +kernel)) (fun _ h9 => h9) rfl hin rfl (by decide +kernel) rfl rfl (Nat.le_of_ble_eq_true rfl) dX3_init_37 (fun H locs hP hD hS => ?_)
  have hP : va_P (dC, dI) vwCl [(h, .inr (2, [.ref k, .ref t, .int 0, .ref k2, .ref t2])), (k, .inl (cA, 500, .inl (fun _ => 0))), (t, .inl (cB, 500, .inl (fun _ => 0))), (k2, .inl (cC, 500, .inl (fun _ => 0))), (t2, .inl (cD, 500, .inl (fun _ => 0)))] H := hP
  have hD : va_D A [(h, .inr (2, [.ref k, .ref t, .int 0, .ref k2, .ref t2])), (k, .inl (cA, 500, .inl (fun _ => 0))), (t, .inl (cB, 500, .inl (fun _ => 0))), (k2, .inl (cC, 500, .inl (fun _ => 0))), (t2, .inl (cD, 500, .inl (fun _ => 0)))] := hD
  refine lv_aload_n hx hb dX3_init_40 rfl (lv_at hl 0 rfl) ?_
  refine lv_iconst (v := (nI 0)) hx hb dX3_init_41 (by decide) ?_
  refine va_put (D := (dC, dI)) (ci := 2) (v := .int (nI 0)) (ty := .int) (C := RX3) (T := TX3) (N := 5) hx hb hts (by decide +kernel) tyX3 tyX3_ok nmX3 hown hK hP hD hS 0 rfl rfl 2 (by decide) (hts (.fieldLink RX3 22 "RowPressModel" "many" "I") (by decide +kernel)) (fun _ h9 => h9) rfl (by decide +kernel) rfl rfl (Nat.le_of_ble_eq_true rfl) dX3_init_42 (fun H locs hP hD hS => ?_)
  have hP : va_P (dC, dI) vwCl [(h, .inr (2, [.ref k, .ref t, .int (nI 0), .ref k2, .ref t2])), (k, .inl (cA, 500, .inl (fun _ => 0))), (t, .inl (cB, 500, .inl (fun _ => 0))), (k2, .inl (cC, 500, .inl (fun _ => 0))), (t2, .inl (cD, 500, .inl (fun _ => 0)))] H := hP
  have hD : va_D A [(h, .inr (2, [.ref k, .ref t, .int (nI 0), .ref k2, .ref t2])), (k, .inl (cA, 500, .inl (fun _ => 0))), (t, .inl (cB, 500, .inl (fun _ => 0))), (k2, .inl (cC, 500, .inl (fun _ => 0))), (t2, .inl (cD, 500, .inl (fun _ => 0)))] := hD
  refine W.widen (k := 4) (n := 2000) (Nat.le_of_ble_eq_true rfl) (Nat.le_of_ble_eq_true rfl) ?_
  exact W.vret hx hb hr (fun tS ht hW => ⟨⟨(), rfl, trivial, k, t, k2, t2, cA, cB, cC, cD, by rw [ht]; exact hP, va_K.moved hW.alike hK, hD⟩, hS.F ht⟩) hS.2.2 dX3_init_45
