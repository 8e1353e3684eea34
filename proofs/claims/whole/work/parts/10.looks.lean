set_option maxHeartbeats 4000000 in
set_option maxRecDepth 100000 in
/-- is there such an order -/
theorem c_X0_exists (l : Launch) (dC : Nat → ClassId) (dI : Nat → Nat → Nat) (sz : Nat) (o : Int32) : Met l yX0_exists wsX0_exists ({ frames := 0, cells := 0, slots := 0, locals := 0 }) (va_Pc [.int o] (fun U => U.heap.size = sz ∧ va_P (dC, dI) vwCl [] U.heap ∧ va_K (dC, dI) vwCl [] U ∧ va_D (fun _ => True) [])) (va_Qi (fun r (_ : Unit) => tr r (exO o)) (at0 dC dI (va_A [] sz)) (va_A [] sz)) 0 0 (va_A [] sz) := by
  refine Met.ofW (cc := cX0_exists) (maxL := 1) (ret := (some .boolean)) (by decide) rfl ?_
  intro p e s m args below meth c s₁ B hml hv
  obtain ⟨rfl, hsz, hP, hK, hD0⟩ := hv
  have hx := B.exec
  have hb := B.bytes
  have hr := B.returns
  have hts := atoms_spec (ws := wsX0_exists) B.pre
  have hown : s.vm.findClass RX0 = some m.cls := findClass_of_methodNamed B.named
  have hlocks := B.notSynchronized
  subst hsz
  have hD := hD0.self (sz := s.heap.size)
  generalize hAe : va_A [] s.heap.size = A at hD ⊢
  have hA : ∀ q : Nat, s.heap.size ≤ q → A q := fun q h => by rw [← hAe]; exact Or.inr h
  have hS : va_S A s.heap s.heap [] := va_S.rf
  have hP : va_P (dC, dI) vwCl [] s.heap := hP
  have hl := lv_entry ([.int o]) (n := 1) (Nat.le_of_ble_eq_true rfl)
  rw [lg_entry_eq]
  generalize (lg_sl ([.int o]) ++ List.replicate (1 - (lg_sl ([.int o])).length) Slot.unset).toArray = ls at hl ⊢
  have hl : lv_has ls 1 [(0, .int o)] := hl
  refine lv_iload_n hx hb dX0_exists_0 rfl (lv_at hl 0 rfl) ?_
  refine lv_if_lt (tgt := 13) hx hb dX0_exists_1 (by decide) (fun c1 => ?_) (fun c1 => ?_)
  · refine lv_iconst (v := (nI 0)) hx hb dX0_exists_13 (by decide) ?_
    exact W.zret (v := (nI 0)) hx hb hr rfl (fun tS ht hW => ⟨⟨(nI 0), (), rfl, tr_f (fun q => q.1 c1), by rw [ht]; exact hP, va_K.moved hW.alike hK, hD⟩, hS.F ht⟩) hS.2.2 dX0_exists_14
  · refine lv_iload_n hx hb dX0_exists_4 rfl (lv_at hl 0 rfl) ?_
    refine lv_iconst (v := (nI 3)) hx hb dX0_exists_5 (by decide) ?_
    refine lv_icmp_gt (tgt := 13) hx hb dX0_exists_6 (by decide) (fun c6 => ?_) (fun c6 => ?_)
    · refine lv_iconst (v := (nI 0)) hx hb dX0_exists_13 (by decide) ?_
      exact W.zret (v := (nI 0)) hx hb hr rfl (fun tS ht hW => ⟨⟨(nI 0), (), rfl, tr_f (fun q => q.2 c6), by rw [ht]; exact hP, va_K.moved hW.alike hK, hD⟩, hS.F ht⟩) hS.2.2 dX0_exists_14
    · refine lv_iconst (v := (nI 1)) hx hb dX0_exists_9 (by decide) ?_
      refine lv_goto (tgt := 14) hx hb dX0_exists_10 (by decide) ?_
      exact W.zret (v := (nI 1)) hx hb hr rfl (fun tS ht hW => ⟨⟨(nI 1), (), rfl, tr_t ⟨c1, c6⟩, by rw [ht]; exact hP, va_K.moved hW.alike hK, hD⟩, hS.F ht⟩) hS.2.2 dX0_exists_14
set_option maxHeartbeats 4000000 in
set_option maxRecDepth 100000 in
/-- is a key less by an order -/
theorem c_X0_isLess (l : Launch) (dC : Nat → ClassId) (dI : Nat → Nat → Nat) (sz : Nat) (x y : Int32) (o : Nat) (ho : o < 4) : Met l yX0_isLess wsX0_isLess ({ frames := 0, cells := 0, slots := 0, locals := 0 }) (va_Pc [.int x, .int y, .int (nI o)] (fun U => U.heap.size = sz ∧ va_P (dC, dI) vwCl [] U.heap ∧ va_K (dC, dI) vwCl [] U ∧ va_D (fun _ => True) [])) (va_Qi (fun r (_ : Unit) => tr r (mk o x < mk o y)) (at0 dC dI (va_A [] sz)) (va_A [] sz)) 0 0 (va_A [] sz) := by
  refine Met.ofW (cc := cX0_isLess) (maxL := 3) (ret := (some .boolean)) (by decide) rfl ?_
  intro p e s m args below meth c s₁ B hml hv
  obtain ⟨rfl, hsz, hP, hK, hD0⟩ := hv
  have hx := B.exec
  have hb := B.bytes
  have hr := B.returns
  have hts := atoms_spec (ws := wsX0_isLess) B.pre
  have hown : s.vm.findClass RX0 = some m.cls := findClass_of_methodNamed B.named
  have hlocks := B.notSynchronized
  subst hsz
  have hD := hD0.self (sz := s.heap.size)
  generalize hAe : va_A [] s.heap.size = A at hD ⊢
  have hA : ∀ q : Nat, s.heap.size ≤ q → A q := fun q h => by rw [← hAe]; exact Or.inr h
  have hS : va_S A s.heap s.heap [] := va_S.rf
  have hP : va_P (dC, dI) vwCl [] s.heap := hP
  have hl := lv_entry ([.int x, .int y, .int (nI o)]) (n := 3) (Nat.le_of_ble_eq_true rfl)
  rw [lg_entry_eq]
  generalize (lg_sl ([.int x, .int y, .int (nI o)]) ++ List.replicate (3 - (lg_sl ([.int x, .int y, .int (nI o)])).length) Slot.unset).toArray = ls at hl ⊢
  have hl : lv_has ls 3 [(0, .int x), (1, .int y), (2, .int (nI o))] := hl
  rcases (show o = 0 ∨ o = 1 ∨ o = 2 ∨ o = 3 by omega) with rfl | rfl | rfl | rfl
  · refine lv_iload_n hx hb dX0_isLess_0 rfl (lv_at hl 2 rfl) ?_
    refine lv_tableOut (tgt := 75) hx hb dX0_isLess_1 (by decide) (by decide) ?_
    refine lv_iload_n hx hb dX0_isLess_75 rfl (lv_at hl 0 rfl) ?_
    refine lv_iload_n hx hb dX0_isLess_76 rfl (lv_at hl 1 rfl) ?_
    refine lv_icmp_ge (tgt := 84) hx hb dX0_isLess_77 (by decide) (fun c77 => ?_) (fun c77 => ?_)
    · refine lv_iconst (v := (nI 0)) hx hb dX0_isLess_84 (by decide) ?_
      exact W.zret (v := (nI 0)) hx hb hr rfl (fun tS ht hW => ⟨⟨(nI 0), (), rfl, tr_f (fun q => ng_lt (mk0.mp q) c77), by rw [ht]; exact hP, va_K.moved hW.alike hK, hD⟩, hS.F ht⟩) hS.2.2 dX0_isLess_85
    · refine lv_iconst (v := (nI 1)) hx hb dX0_isLess_80 (by decide) ?_
      refine lv_goto (tgt := 85) hx hb dX0_isLess_81 (by decide) ?_
      exact W.zret (v := (nI 1)) hx hb hr rfl (fun tS ht hW => ⟨⟨(nI 1), (), rfl, tr_t (mk0.mpr (ng_le c77)), by rw [ht]; exact hP, va_K.moved hW.alike hK, hD⟩, hS.F ht⟩) hS.2.2 dX0_isLess_85
  · refine lv_iload_n hx hb dX0_isLess_0 rfl (lv_at hl 2 rfl) ?_
    refine lv_tableIn (tgt := 28) (off := 27) hx hb dX0_isLess_1 (by decide) (by decide) (by decide) (by decide) ?_
    refine lv_iload_n hx hb dX0_isLess_28 rfl (lv_at hl 0 rfl) ?_
    refine lv_ldc hx hb hown (hts (.constant RX0 9 (-2147483648)) (by decide +kernel)) dX0_isLess_29 ?_
    refine lv_ixor hx hb dX0_isLess_31 ?_
    refine lv_iload_n hx hb dX0_isLess_32 rfl (lv_at hl 1 rfl) ?_
    refine lv_ldc hx hb hown (hts (.constant RX0 9 (-2147483648)) (by decide +kernel)) dX0_isLess_33 ?_
    refine lv_ixor hx hb dX0_isLess_35 ?_
    refine lv_icmp_ge (tgt := 43) hx hb dX0_isLess_36 (by decide) (fun c36 => ?_) (fun c36 => ?_)
    · refine lv_iconst (v := (nI 0)) hx hb dX0_isLess_43 (by decide) ?_
      exact W.zret (v := (nI 0)) hx hb hr rfl (fun tS ht hW => ⟨⟨(nI 0), (), rfl, tr_f (fun q => ng_lt (mk1.mp q) c36), by rw [ht]; exact hP, va_K.moved hW.alike hK, hD⟩, hS.F ht⟩) hS.2.2 dX0_isLess_44
    · refine lv_iconst (v := (nI 1)) hx hb dX0_isLess_39 (by decide) ?_
      refine lv_goto (tgt := 44) hx hb dX0_isLess_40 (by decide) ?_
      exact W.zret (v := (nI 1)) hx hb hr rfl (fun tS ht hW => ⟨⟨(nI 1), (), rfl, tr_t (mk1.mpr (ng_le c36)), by rw [ht]; exact hP, va_K.moved hW.alike hK, hD⟩, hS.F ht⟩) hS.2.2 dX0_isLess_44
  · refine lv_iload_n hx hb dX0_isLess_0 rfl (lv_at hl 2 rfl) ?_
    refine lv_tableIn (tgt := 45) (off := 44) hx hb dX0_isLess_1 (by decide) (by decide) (by decide) (by decide) ?_
    refine lv_iload_n hx hb dX0_isLess_45 rfl (lv_at hl 0 rfl) ?_
    refine lv_iload_n hx hb dX0_isLess_46 rfl (lv_at hl 1 rfl) ?_
    refine lv_icmp_le (tgt := 54) hx hb dX0_isLess_47 (by decide) (fun c47 => ?_) (fun c47 => ?_)
    · refine lv_iconst (v := (nI 0)) hx hb dX0_isLess_54 (by decide) ?_
      exact W.zret (v := (nI 0)) hx hb hr rfl (fun tS ht hW => ⟨⟨(nI 0), (), rfl, tr_f (fun q => ng_lt (mk2.mp q) c47), by rw [ht]; exact hP, va_K.moved hW.alike hK, hD⟩, hS.F ht⟩) hS.2.2 dX0_isLess_55
    · refine lv_iconst (v := (nI 1)) hx hb dX0_isLess_50 (by decide) ?_
      refine lv_goto (tgt := 55) hx hb dX0_isLess_51 (by decide) ?_
      exact W.zret (v := (nI 1)) hx hb hr rfl (fun tS ht hW => ⟨⟨(nI 1), (), rfl, tr_t (mk2.mpr (ng_le c47)), by rw [ht]; exact hP, va_K.moved hW.alike hK, hD⟩, hS.F ht⟩) hS.2.2 dX0_isLess_55
  · refine lv_iload_n hx hb dX0_isLess_0 rfl (lv_at hl 2 rfl) ?_
    refine lv_tableIn (tgt := 56) (off := 55) hx hb dX0_isLess_1 (by decide) (by decide) (by decide) (by decide) ?_
    refine lv_iload_n hx hb dX0_isLess_56 rfl (lv_at hl 0 rfl) ?_
    refine lv_sipush (v := (nI 255)) hx hb dX0_isLess_57 (by decide) ?_
    refine lv_iand hx hb dX0_isLess_60 ?_
    refine lv_iload_n hx hb dX0_isLess_61 rfl (lv_at hl 1 rfl) ?_
    refine lv_sipush (v := (nI 255)) hx hb dX0_isLess_62 (by decide) ?_
    refine lv_iand hx hb dX0_isLess_65 ?_
    refine lv_icmp_ge (tgt := 73) hx hb dX0_isLess_66 (by decide) (fun c66 => ?_) (fun c66 => ?_)
    · refine lv_iconst (v := (nI 0)) hx hb dX0_isLess_73 (by decide) ?_
      exact W.zret (v := (nI 0)) hx hb hr rfl (fun tS ht hW => ⟨⟨(nI 0), (), rfl, tr_f (fun q => ng_lt (mk3.mp q) c66), by rw [ht]; exact hP, va_K.moved hW.alike hK, hD⟩, hS.F ht⟩) hS.2.2 dX0_isLess_74
    · refine lv_iconst (v := (nI 1)) hx hb dX0_isLess_69 (by decide) ?_
      refine lv_goto (tgt := 74) hx hb dX0_isLess_70 (by decide) ?_
      exact W.zret (v := (nI 1)) hx hb hr rfl (fun tS ht hW => ⟨⟨(nI 1), (), rfl, tr_t (mk3.mpr (ng_le c66)), by rw [ht]; exact hP, va_K.moved hW.alike hK, hD⟩, hS.F ht⟩) hS.2.2 dX0_isLess_74
set_option maxHeartbeats 4000000 in
set_option maxRecDepth 100000 in
theorem c_X1_hasRoomFor (l : Launch) (dC : Nat → ClassId) (dI : Nat → Nat → Nat) (sz : Nat) (r k t : Nat) (cA cB : ClassId) (n : Nat) (cm wr : Int32) (K T : Nat → Int32) (hn : n ≤ 500) (x : Int32) : Met l yX1_hasRoomFor wsX1_hasRoomFor ({ frames := 0, cells := 0, slots := 0, locals := 0 }) (va_Pc [.ref r, .int x] (fun U => U.heap.size = sz ∧ va_P (dC, dI) vwCl [(r, .inr (0, [.ref k, .ref t, .int (nI n), .int cm, .int wr])), (k, .inl (cA, 500, .inl K)), (t, .inl (cB, 500, .inl T))] U.heap ∧ va_K (dC, dI) vwCl [(cA, .int), (cB, .int)] U ∧ va_D (fun _ => True) [(r, .inr (0, [.ref k, .ref t, .int (nI n), .int cm, .int wr])), (k, .inl (cA, 500, .inl K)), (t, .inl (cB, 500, .inl T))])) (va_Qi (fun r u => tr r (¬ nI (500 - n) < x) ∧ u = (K, T, n, cm, wr)) (atR dC dI (va_A [(r, .inr (0, [.ref k, .ref t, .int (nI n), .int cm, .int wr])), (k, .inl (cA, 500, .inl K)), (t, .inl (cB, 500, .inl T))] sz) r k t cA cB) (va_A [(r, .inr (0, [.ref k, .ref t, .int (nI n), .int cm, .int wr])), (k, .inl (cA, 500, .inl K)), (t, .inl (cB, 500, .inl T))] sz)) 0 0 (va_A [(r, .inr (0, [.ref k, .ref t, .int (nI n), .int cm, .int wr])), (k, .inl (cA, 500, .inl K)), (t, .inl (cB, 500, .inl T))] sz) := by
  refine Met.ofW (cc := cX1_hasRoomFor) (maxL := 2) (ret := (some .boolean)) (by decide) rfl ?_
  intro p e s m args below meth c s₁ B hml hv
  obtain ⟨rfl, hsz, hP, hK, hD0⟩ := hv
  have hx := B.exec
  have hb := B.bytes
  have hr := B.returns
  have hts := atoms_spec (ws := wsX1_hasRoomFor) B.pre
  have hown : s.vm.findClass RX1 = some m.cls := findClass_of_methodNamed B.named
  have hlocks := B.notSynchronized
  subst hsz
  have hD := hD0.self (sz := s.heap.size)
  generalize hAe : va_A [(r, .inr (0, [.ref k, .ref t, .int (nI n), .int cm, .int wr])), (k, .inl (cA, 500, .inl K)), (t, .inl (cB, 500, .inl T))] s.heap.size = A at hD ⊢
  have hA : ∀ q : Nat, s.heap.size ≤ q → A q := fun q h => by rw [← hAe]; exact Or.inr h
  have hS : va_S A s.heap s.heap [] := va_S.rf
  have hP : va_P (dC, dI) vwCl [(r, .inr (0, [.ref k, .ref t, .int (nI n), .int cm, .int wr])), (k, .inl (cA, 500, .inl K)), (t, .inl (cB, 500, .inl T))] s.heap := hP
  have hl := lv_entry ([.ref r, .int x]) (n := 2) (Nat.le_of_ble_eq_true rfl)
  rw [lg_entry_eq]
  generalize (lg_sl ([.ref r, .int x]) ++ List.replicate (2 - (lg_sl ([.ref r, .int x])).length) Slot.unset).toArray = ls at hl ⊢
  have hl : lv_has ls 2 [(0, .ref r), (1, .int x)] := hl
  refine lv_iload_n hx hb dX1_hasRoomFor_0 rfl (lv_at hl 1 rfl) ?_
  refine lv_sipush (v := (nI 500)) hx hb dX1_hasRoomFor_1 (by decide) ?_
  refine lv_aload_n hx hb dX1_hasRoomFor_4 rfl (lv_at hl 0 rfl) ?_
  refine va_get (D := (dC, dI)) (ci := 0) (v := .int (nI n)) (C := RX1) (T := TX1) (N := 5) hx hb hts (by decide +kernel) hown hK hP 0 rfl rfl 2 (by decide) (hts (.fieldLink RX1 16 "RowPress$Row" "size" "I") (by decide +kernel)) (fun _ h9 => h9) rfl dX1_hasRoomFor_5 ?_
  refine lv_isub hx hb dX1_hasRoomFor_8 ?_
  refine lz_top (y := (nI (500 - n))) (pk_sub (by omega)) ?_
  refine lv_icmp_gt (tgt := 16) hx hb dX1_hasRoomFor_9 (by decide) (fun c9 => ?_) (fun c9 => ?_)
  · refine lv_iconst (v := (nI 0)) hx hb dX1_hasRoomFor_16 (by decide) ?_
    exact W.zret (v := (nI 0)) hx hb hr rfl (fun tS ht hW => ⟨⟨(nI 0), (K, T, n, cm, wr), rfl, ⟨tr_f (fun q => q c9), rfl⟩, by rw [ht]; exact hP, va_K.moved hW.alike hK, hD⟩, hS.F ht⟩) hS.2.2 dX1_hasRoomFor_17
  · refine lv_iconst (v := (nI 1)) hx hb dX1_hasRoomFor_12 (by decide) ?_
    refine lv_goto (tgt := 17) hx hb dX1_hasRoomFor_13 (by decide) ?_
    exact W.zret (v := (nI 1)) hx hb hr rfl (fun tS ht hW => ⟨⟨(nI 1), (K, T, n, cm, wr), rfl, ⟨tr_t c9, rfl⟩, by rw [ht]; exact hP, va_K.moved hW.alike hK, hD⟩, hS.F ht⟩) hS.2.2 dX1_hasRoomFor_17
set_option maxHeartbeats 4000000 in
set_option maxRecDepth 100000 in
theorem c_X1_hasPlace (l : Launch) (dC : Nat → ClassId) (dI : Nat → Nat → Nat) (sz : Nat) (r k t : Nat) (cA cB : ClassId) (n : Nat) (cm wr : Int32) (K T : Nat → Int32) (hn : n ≤ 500) (x : Int32) : Met l yX1_hasPlace wsX1_hasPlace ({ frames := 0, cells := 0, slots := 0, locals := 0 }) (va_Pc [.ref r, .int x] (fun U => U.heap.size = sz ∧ va_P (dC, dI) vwCl [(r, .inr (0, [.ref k, .ref t, .int (nI n), .int cm, .int wr])), (k, .inl (cA, 500, .inl K)), (t, .inl (cB, 500, .inl T))] U.heap ∧ va_K (dC, dI) vwCl [(cA, .int), (cB, .int)] U ∧ va_D (fun _ => True) [(r, .inr (0, [.ref k, .ref t, .int (nI n), .int cm, .int wr])), (k, .inl (cA, 500, .inl K)), (t, .inl (cB, 500, .inl T))])) (va_Qi (fun r u => tr r (plO n x) ∧ u = (K, T, n, cm, wr)) (atR dC dI (va_A [(r, .inr (0, [.ref k, .ref t, .int (nI n), .int cm, .int wr])), (k, .inl (cA, 500, .inl K)), (t, .inl (cB, 500, .inl T))] sz) r k t cA cB) (va_A [(r, .inr (0, [.ref k, .ref t, .int (nI n), .int cm, .int wr])), (k, .inl (cA, 500, .inl K)), (t, .inl (cB, 500, .inl T))] sz)) 0 0 (va_A [(r, .inr (0, [.ref k, .ref t, .int (nI n), .int cm, .int wr])), (k, .inl (cA, 500, .inl K)), (t, .inl (cB, 500, .inl T))] sz) := by
  refine Met.ofW (cc := cX1_hasPlace) (maxL := 2) (ret := (some .boolean)) (by decide) rfl ?_
  intro p e s m args below meth c s₁ B hml hv
  obtain ⟨rfl, hsz, hP, hK, hD0⟩ := hv
  have hx := B.exec
  have hb := B.bytes
  have hr := B.returns
  have hts := atoms_spec (ws := wsX1_hasPlace) B.pre
  have hown : s.vm.findClass RX1 = some m.cls := findClass_of_methodNamed B.named
  have hlocks := B.notSynchronized
  subst hsz
  have hD := hD0.self (sz := s.heap.size)
  generalize hAe : va_A [(r, .inr (0, [.ref k, .ref t, .int (nI n), .int cm, .int wr])), (k, .inl (cA, 500, .inl K)), (t, .inl (cB, 500, .inl T))] s.heap.size = A at hD ⊢
  have hA : ∀ q : Nat, s.heap.size ≤ q → A q := fun q h => by rw [← hAe]; exact Or.inr h
  have hS : va_S A s.heap s.heap [] := va_S.rf
  have hP : va_P (dC, dI) vwCl [(r, .inr (0, [.ref k, .ref t, .int (nI n), .int cm, .int wr])), (k, .inl (cA, 500, .inl K)), (t, .inl (cB, 500, .inl T))] s.heap := hP
  have hl := lv_entry ([.ref r, .int x]) (n := 2) (Nat.le_of_ble_eq_true rfl)
  rw [lg_entry_eq]
  generalize (lg_sl ([.ref r, .int x]) ++ List.replicate (2 - (lg_sl ([.ref r, .int x])).length) Slot.unset).toArray = ls at hl ⊢
  have hl : lv_has ls 2 [(0, .ref r), (1, .int x)] := hl
  refine lv_iload_n hx hb dX1_hasPlace_0 rfl (lv_at hl 1 rfl) ?_
  refine lv_if_lt (tgt := 16) hx hb dX1_hasPlace_1 (by decide) (fun c1 => ?_) (fun c1 => ?_)
  · refine lv_iconst (v := (nI 0)) hx hb dX1_hasPlace_16 (by decide) ?_
    exact W.zret (v := (nI 0)) hx hb hr rfl (fun tS ht hW => ⟨⟨(nI 0), (K, T, n, cm, wr), rfl, ⟨tr_f (fun q => q.1 c1), rfl⟩, by rw [ht]; exact hP, va_K.moved hW.alike hK, hD⟩, hS.F ht⟩) hS.2.2 dX1_hasPlace_17
  · refine lv_iload_n hx hb dX1_hasPlace_4 rfl (lv_at hl 1 rfl) ?_
    refine lv_aload_n hx hb dX1_hasPlace_5 rfl (lv_at hl 0 rfl) ?_
    refine va_get (D := (dC, dI)) (ci := 0) (v := .int (nI n)) (C := RX1) (T := TX1) (N := 5) hx hb hts (by decide +kernel) hown hK hP 0 rfl rfl 2 (by decide) (hts (.fieldLink RX1 16 "RowPress$Row" "size" "I") (by decide +kernel)) (fun _ h9 => h9) rfl dX1_hasPlace_6 ?_
    refine lv_icmp_ge (tgt := 16) hx hb dX1_hasPlace_9 (by decide) (fun c9 => ?_) (fun c9 => ?_)
    · refine lv_iconst (v := (nI 0)) hx hb dX1_hasPlace_16 (by decide) ?_
      exact W.zret (v := (nI 0)) hx hb hr rfl (fun tS ht hW => ⟨⟨(nI 0), (K, T, n, cm, wr), rfl, ⟨tr_f (fun q => q.2 c9), rfl⟩, by rw [ht]; exact hP, va_K.moved hW.alike hK, hD⟩, hS.F ht⟩) hS.2.2 dX1_hasPlace_17
    · refine lv_iconst (v := (nI 1)) hx hb dX1_hasPlace_12 (by decide) ?_
      refine lv_goto (tgt := 17) hx hb dX1_hasPlace_13 (by decide) ?_
      exact W.zret (v := (nI 1)) hx hb hr rfl (fun tS ht hW => ⟨⟨(nI 1), (K, T, n, cm, wr), rfl, ⟨tr_t ⟨c1, c9⟩, rfl⟩, by rw [ht]; exact hP, va_K.moved hW.alike hK, hD⟩, hS.F ht⟩) hS.2.2 dX1_hasPlace_17
set_option maxHeartbeats 4000000 in
set_option maxRecDepth 100000 in
theorem c_X1_hasStretch (l : Launch) (dC : Nat → ClassId) (dI : Nat → Nat → Nat) (sz : Nat) (r k t : Nat) (cA cB : ClassId) (n : Nat) (cm wr : Int32) (K T : Nat → Int32) (hn : n ≤ 500) (x y : Int32) : Met l yX1_hasStretch wsX1_hasStretch ({ frames := 0, cells := 0, slots := 0, locals := 0 }) (va_Pc [.ref r, .int x, .int y] (fun U => U.heap.size = sz ∧ va_P (dC, dI) vwCl [(r, .inr (0, [.ref k, .ref t, .int (nI n), .int cm, .int wr])), (k, .inl (cA, 500, .inl K)), (t, .inl (cB, 500, .inl T))] U.heap ∧ va_K (dC, dI) vwCl [(cA, .int), (cB, .int)] U ∧ va_D (fun _ => True) [(r, .inr (0, [.ref k, .ref t, .int (nI n), .int cm, .int wr])), (k, .inl (cA, 500, .inl K)), (t, .inl (cB, 500, .inl T))])) (va_Qi (fun r u => tr r (stP n x y) ∧ u = (K, T, n, cm, wr)) (atR dC dI (va_A [(r, .inr (0, [.ref k, .ref t, .int (nI n), .int cm, .int wr])), (k, .inl (cA, 500, .inl K)), (t, .inl (cB, 500, .inl T))] sz) r k t cA cB) (va_A [(r, .inr (0, [.ref k, .ref t, .int (nI n), .int cm, .int wr])), (k, .inl (cA, 500, .inl K)), (t, .inl (cB, 500, .inl T))] sz)) 0 0 (va_A [(r, .inr (0, [.ref k, .ref t, .int (nI n), .int cm, .int wr])), (k, .inl (cA, 500, .inl K)), (t, .inl (cB, 500, .inl T))] sz) := by
  refine Met.ofW (cc := cX1_hasStretch) (maxL := 3) (ret := (some .boolean)) (by decide) rfl ?_
  intro p e s m args below meth c s₁ B hml hv
  obtain ⟨rfl, hsz, hP, hK, hD0⟩ := hv
  have hx := B.exec
  have hb := B.bytes
  have hr := B.returns
  have hts := atoms_spec (ws := wsX1_hasStretch) B.pre
  have hown : s.vm.findClass RX1 = some m.cls := findClass_of_methodNamed B.named
  have hlocks := B.notSynchronized
  subst hsz
  have hD := hD0.self (sz := s.heap.size)
  generalize hAe : va_A [(r, .inr (0, [.ref k, .ref t, .int (nI n), .int cm, .int wr])), (k, .inl (cA, 500, .inl K)), (t, .inl (cB, 500, .inl T))] s.heap.size = A at hD ⊢
  have hA : ∀ q : Nat, s.heap.size ≤ q → A q := fun q h => by rw [← hAe]; exact Or.inr h
  have hS : va_S A s.heap s.heap [] := va_S.rf
  have hP : va_P (dC, dI) vwCl [(r, .inr (0, [.ref k, .ref t, .int (nI n), .int cm, .int wr])), (k, .inl (cA, 500, .inl K)), (t, .inl (cB, 500, .inl T))] s.heap := hP
  have hl := lv_entry ([.ref r, .int x, .int y]) (n := 3) (Nat.le_of_ble_eq_true rfl)
  rw [lg_entry_eq]
  generalize (lg_sl ([.ref r, .int x, .int y]) ++ List.replicate (3 - (lg_sl ([.ref r, .int x, .int y])).length) Slot.unset).toArray = ls at hl ⊢
  have hl : lv_has ls 3 [(0, .ref r), (1, .int x), (2, .int y)] := hl
  refine lv_iload_n hx hb dX1_hasStretch_0 rfl (lv_at hl 1 rfl) ?_
  refine lv_if_lt (tgt := 21) hx hb dX1_hasStretch_1 (by decide) (fun c1 => ?_) (fun c1 => ?_)
  · refine lv_iconst (v := (nI 0)) hx hb dX1_hasStretch_21 (by decide) ?_
    exact W.zret (v := (nI 0)) hx hb hr rfl (fun tS ht hW => ⟨⟨(nI 0), (K, T, n, cm, wr), rfl, ⟨tr_f (fun q => q.1 c1), rfl⟩, by rw [ht]; exact hP, va_K.moved hW.alike hK, hD⟩, hS.F ht⟩) hS.2.2 dX1_hasStretch_22
  · refine lv_iload_n hx hb dX1_hasStretch_4 rfl (lv_at hl 1 rfl) ?_
    refine lv_iload_n hx hb dX1_hasStretch_5 rfl (lv_at hl 2 rfl) ?_
    refine lv_icmp_gt (tgt := 21) hx hb dX1_hasStretch_6 (by decide) (fun c6 => ?_) (fun c6 => ?_)
    · refine lv_iconst (v := (nI 0)) hx hb dX1_hasStretch_21 (by decide) ?_
      exact W.zret (v := (nI 0)) hx hb hr rfl (fun tS ht hW => ⟨⟨(nI 0), (K, T, n, cm, wr), rfl, ⟨tr_f (fun q => q.2.1 c6), rfl⟩, by rw [ht]; exact hP, va_K.moved hW.alike hK, hD⟩, hS.F ht⟩) hS.2.2 dX1_hasStretch_22
    · refine lv_iload_n hx hb dX1_hasStretch_9 rfl (lv_at hl 2 rfl) ?_
      refine lv_aload_n hx hb dX1_hasStretch_10 rfl (lv_at hl 0 rfl) ?_
      refine va_get (D := (dC, dI)) (ci := 0) (v := .int (nI n)) (C := RX1) (T := TX1) (N := 5) hx hb hts (by decide +kernel) hown hK hP 0 rfl rfl 2 (by decide) (hts (.fieldLink RX1 16 "RowPress$Row" "size" "I") (by decide +kernel)) (fun _ h9 => h9) rfl dX1_hasStretch_11 ?_
      refine lv_icmp_gt (tgt := 21) hx hb dX1_hasStretch_14 (by decide) (fun c14 => ?_) (fun c14 => ?_)
      · refine lv_iconst (v := (nI 0)) hx hb dX1_hasStretch_21 (by decide) ?_
        exact W.zret (v := (nI 0)) hx hb hr rfl (fun tS ht hW => ⟨⟨(nI 0), (K, T, n, cm, wr), rfl, ⟨tr_f (fun q => q.2.2 c14), rfl⟩, by rw [ht]; exact hP, va_K.moved hW.alike hK, hD⟩, hS.F ht⟩) hS.2.2 dX1_hasStretch_22
      · refine lv_iconst (v := (nI 1)) hx hb dX1_hasStretch_17 (by decide) ?_
        refine lv_goto (tgt := 22) hx hb dX1_hasStretch_18 (by decide) ?_
        exact W.zret (v := (nI 1)) hx hb hr rfl (fun tS ht hW => ⟨⟨(nI 1), (K, T, n, cm, wr), rfl, ⟨tr_t ⟨c1, c6, c14⟩, rfl⟩, by rw [ht]; exact hP, va_K.moved hW.alike hK, hD⟩, hS.F ht⟩) hS.2.2 dX1_hasStretch_22
set_option maxHeartbeats 4000000 in
set_option maxRecDepth 100000 in
theorem c_X1_hasStretches (l : Launch) (dC : Nat → ClassId) (dI : Nat → Nat → Nat) (sz : Nat) (r k t : Nat) (cA cB : ClassId) (n : Nat) (cm wr : Int32) (K T : Nat → Int32) (hn : n ≤ 500) (x y z : Int32) : Met l yX1_hasStretches wsX1_hasStretches ({ frames := 1, cells := 0, slots := 0, locals := 22 }) (va_Pc [.ref r, .int x, .int y, .int z] (fun U => U.heap.size = sz ∧ va_P (dC, dI) vwCl [(r, .inr (0, [.ref k, .ref t, .int (nI n), .int cm, .int wr])), (k, .inl (cA, 500, .inl K)), (t, .inl (cB, 500, .inl T))] U.heap ∧ va_K (dC, dI) vwCl [(cA, .int), (cB, .int)] U ∧ va_D (fun _ => True) [(r, .inr (0, [.ref k, .ref t, .int (nI n), .int cm, .int wr])), (k, .inl (cA, 500, .inl K)), (t, .inl (cB, 500, .inl T))])) (va_Qi (fun r u => tr r (stP n x y ∧ stP n y z) ∧ u = (K, T, n, cm, wr)) (atR dC dI (va_A [(r, .inr (0, [.ref k, .ref t, .int (nI n), .int cm, .int wr])), (k, .inl (cA, 500, .inl K)), (t, .inl (cB, 500, .inl T))] sz) r k t cA cB) (va_A [(r, .inr (0, [.ref k, .ref t, .int (nI n), .int cm, .int wr])), (k, .inl (cA, 500, .inl K)), (t, .inl (cB, 500, .inl T))] sz)) 0 0 (va_A [(r, .inr (0, [.ref k, .ref t, .int (nI n), .int cm, .int wr])), (k, .inl (cA, 500, .inl K)), (t, .inl (cB, 500, .inl T))] sz) := by
  refine Met.ofW (cc := cX1_hasStretches) (maxL := 4) (ret := (some .boolean)) (by decide) rfl ?_
  intro p e s m args below meth c s₁ B hml hv
  obtain ⟨rfl, hsz, hP, hK, hD0⟩ := hv
  have hx := B.exec
  have hb := B.bytes
  have hr := B.returns
  have hts := atoms_spec (ws := wsX1_hasStretches) B.pre
  have hown : s.vm.findClass RX1 = some m.cls := findClass_of_methodNamed B.named
  have hlocks := B.notSynchronized
  subst hsz
  have hD := hD0.self (sz := s.heap.size)
  generalize hAe : va_A [(r, .inr (0, [.ref k, .ref t, .int (nI n), .int cm, .int wr])), (k, .inl (cA, 500, .inl K)), (t, .inl (cB, 500, .inl T))] s.heap.size = A at hD ⊢
  have hA : ∀ q : Nat, s.heap.size ≤ q → A q := fun q h => by rw [← hAe]; exact Or.inr h
  have hS : va_S A s.heap s.heap [] := va_S.rf
  have hP : va_P (dC, dI) vwCl [(r, .inr (0, [.ref k, .ref t, .int (nI n), .int cm, .int wr])), (k, .inl (cA, 500, .inl K)), (t, .inl (cB, 500, .inl T))] s.heap := hP
  have hl := lv_entry ([.ref r, .int x, .int y, .int z]) (n := 4) (Nat.le_of_ble_eq_true rfl)
  rw [lg_entry_eq]
  generalize (lg_sl ([.ref r, .int x, .int y, .int z]) ++ List.replicate (4 - (lg_sl ([.ref r, .int x, .int y, .int z])).length) Slot.unset).toArray = ls at hl ⊢
  have hl : lv_has ls 4 [(0, .ref r), (1, .int x), (2, .int y), (3, .int z)] := hl
  refine lv_aload_n hx hb dX1_hasStretches_0 rfl (lv_at hl 0 rfl) ?_
  refine lv_iload_n hx hb dX1_hasStretches_1 rfl (lv_at hl 1 rfl) ?_
  refine lv_iload_n hx hb dX1_hasStretches_2 rfl (lv_at hl 2 rfl) ?_
  have hPc := hP.sub (ws' := [(r, .inr (0, [.ref k, .ref t, .int (nI n), .int cm, .int wr])), (k, .inl (cA, 500, .inl K)), (t, .inl (cB, 500, .inl T))]) [0, 1, 2] rfl
  have hDc := hD.sub (ws' := [(r, .inr (0, [.ref k, .ref t, .int (nI n), .int cm, .int wr])), (k, .inl (cA, 500, .inl K)), (t, .inl (cB, 500, .inl T))]) [0, 1, 2] (by decide) rfl
  have hKc := hK.sub (tys' := [(cA, .int), (cB, .int)]) [0, 1] rfl
  have hFc := va_free (wc := [(r, .inr (0, [.ref k, .ref t, .int (nI n), .int cm, .int wr])), (k, .inl (cA, 500, .inl K)), (t, .inl (cB, 500, .inl T))]) hD hS hA [0, 1, 2] rfl
  refine va_calli (va_runV (As := [.int x, .int y]) (rest := []) ⟨hx, hb, hml, hown, hts⟩ (c_X1_hasStretch l dC dI s.heap.size r k t cA cB n cm wr K T hn x y) (cwV 2 hts gX1_hasStretches_X1_hasStretch rfl rfl rfl (by decide +kernel) ⟨Nat.le_of_ble_eq_true rfl, Nat.le_of_ble_eq_true rfl⟩) ⟨fun a U g mk q => by obtain ⟨q0, q1, qP, qK, qD⟩ := q; exact ⟨q0, q1, qP, va_K.moved (u := U) (U := U.calling g mk a) (Vm.Alike.refl U.vm) qK, qD⟩, va_recv hKc hPc (ci := 0) (q0 := 0) rfl rfl, fun U hU hW => ⟨rfl, by rw [hU], by rw [hU]; exact hPc, va_K.moved hW.alike hKc, hDc.weaken (fun _ _ _ _ => trivial)⟩⟩ rfl rfl hl.1 rfl (lv_room (Nat.le_of_ble_eq_true rfl)) dX1_hasStretches_3 ⟨Nat.le_of_ble_eq_true rfl, Nat.le_of_ble_eq_true rfl⟩) hS (fun q _ h => hFc q h) hFc (fun r_1 u tS H1 locs ht hvm hw hB hz1 hk1 hS => ?_)
  obtain ⟨hs1, rfl⟩ := hw
  obtain ⟨hP1, hK1, hD1⟩ := hB
  rw [ht] at hP1
  obtain ⟨hP, hD⟩ := va_join (wr := []) (w1 := [(r, .inr (0, [.ref k, .ref t, .int (nI n), .int cm, .int wr])), (k, .inl (cA, 500, .inl K)), (t, .inl (cB, 500, .inl T))]) hP hD [0, 1, 2] [] rfl rfl (by decide) (by decide) hk1 hFc hP1 hD1
  generalize H1 = H at hP hS ⊢
  have hP : va_P (dC, dI) vwCl [(r, .inr (0, [.ref k, .ref t, .int (nI n), .int cm, .int wr])), (k, .inl (cA, 500, .inl K)), (t, .inl (cB, 500, .inl T))] H := hP
  have hD : va_D A [(r, .inr (0, [.ref k, .ref t, .int (nI n), .int cm, .int wr])), (k, .inl (cA, 500, .inl K)), (t, .inl (cB, 500, .inl T))] := hD
  refine lv_if_eq (tgt := 22) hx hb dX1_hasStretches_6 (by decide) (fun c6 => ?_) (fun c6 => ?_)
  · refine lv_iconst (v := (nI 0)) hx hb dX1_hasStretches_22 (by decide) ?_
    exact W.zret (v := (nI 0)) hx hb hr rfl (fun tS ht hW => ⟨⟨(nI 0), (K, T, n, cm, wr), rfl, ⟨tr_f (fun q => tr_0 hs1 c6 q.1), rfl⟩, by rw [ht]; exact hP, va_K.moved hW.alike hK, hD⟩, hS.F ht⟩) hS.2.2 dX1_hasStretches_23
  · refine lv_aload_n hx hb dX1_hasStretches_9 rfl (lv_at hl 0 rfl) ?_
    refine lv_iload_n hx hb dX1_hasStretches_10 rfl (lv_at hl 2 rfl) ?_
    refine lv_iload_n hx hb dX1_hasStretches_11 rfl (lv_at hl 3 rfl) ?_
    have hPc := hP.sub (ws' := [(r, .inr (0, [.ref k, .ref t, .int (nI n), .int cm, .int wr])), (k, .inl (cA, 500, .inl K)), (t, .inl (cB, 500, .inl T))]) [0, 1, 2] rfl
    have hDc := hD.sub (ws' := [(r, .inr (0, [.ref k, .ref t, .int (nI n), .int cm, .int wr])), (k, .inl (cA, 500, .inl K)), (t, .inl (cB, 500, .inl T))]) [0, 1, 2] (by decide) rfl
    have hKc := hK.sub (tys' := [(cA, .int), (cB, .int)]) [0, 1] rfl
    have hFc := va_free (wc := [(r, .inr (0, [.ref k, .ref t, .int (nI n), .int cm, .int wr])), (k, .inl (cA, 500, .inl K)), (t, .inl (cB, 500, .inl T))]) hD hS hA [0, 1, 2] rfl
    refine va_calli (va_runV (As := [.int y, .int z]) (rest := []) ⟨hx, hb, hml, hown, hts⟩ (c_X1_hasStretch l dC dI H.size r k t cA cB n cm wr K T hn y z) (cwV 2 hts gX1_hasStretches_X1_hasStretch rfl rfl rfl (by decide +kernel) ⟨Nat.le_of_ble_eq_true rfl, Nat.le_of_ble_eq_true rfl⟩) ⟨fun a U g mk q => by obtain ⟨q0, q1, qP, qK, qD⟩ := q; exact ⟨q0, q1, qP, va_K.moved (u := U) (U := U.calling g mk a) (Vm.Alike.refl U.vm) qK, qD⟩, va_recv hKc hPc (ci := 0) (q0 := 0) rfl rfl, fun U hU hW => ⟨rfl, by rw [hU], by rw [hU]; exact hPc, va_K.moved hW.alike hKc, hDc.weaken (fun _ _ _ _ => trivial)⟩⟩ rfl rfl hl.1 rfl (lv_room (Nat.le_of_ble_eq_true rfl)) dX1_hasStretches_12 ⟨Nat.le_of_ble_eq_true rfl, Nat.le_of_ble_eq_true rfl⟩) hS (fun q _ h => hFc q h) hFc (fun r_2 u tS H1 locs ht hvm hw hB hz1 hk1 hS => ?_)
    obtain ⟨hs2, rfl⟩ := hw
    obtain ⟨hP1, hK1, hD1⟩ := hB
    rw [ht] at hP1
    obtain ⟨hP, hD⟩ := va_join (wr := []) (w1 := [(r, .inr (0, [.ref k, .ref t, .int (nI n), .int cm, .int wr])), (k, .inl (cA, 500, .inl K)), (t, .inl (cB, 500, .inl T))]) hP hD [0, 1, 2] [] rfl rfl (by decide) (by decide) hk1 hFc hP1 hD1
    generalize H1 = H at hP hS ⊢
    have hP : va_P (dC, dI) vwCl [(r, .inr (0, [.ref k, .ref t, .int (nI n), .int cm, .int wr])), (k, .inl (cA, 500, .inl K)), (t, .inl (cB, 500, .inl T))] H := hP
    have hD : va_D A [(r, .inr (0, [.ref k, .ref t, .int (nI n), .int cm, .int wr])), (k, .inl (cA, 500, .inl K)), (t, .inl (cB, 500, .inl T))] := hD
    refine lv_if_eq (tgt := 22) hx hb dX1_hasStretches_15 (by decide) (fun c15 => ?_) (fun c15 => ?_)
    · refine lv_iconst (v := (nI 0)) hx hb dX1_hasStretches_22 (by decide) ?_
      exact W.zret (v := (nI 0)) hx hb hr rfl (fun tS ht hW => ⟨⟨(nI 0), (K, T, n, cm, wr), rfl, ⟨tr_f (fun q => tr_0 hs2 c15 q.2), rfl⟩, by rw [ht]; exact hP, va_K.moved hW.alike hK, hD⟩, hS.F ht⟩) hS.2.2 dX1_hasStretches_23
    · refine lv_iconst (v := (nI 1)) hx hb dX1_hasStretches_18 (by decide) ?_
      refine lv_goto (tgt := 23) hx hb dX1_hasStretches_19 (by decide) ?_
      exact W.zret (v := (nI 1)) hx hb hr rfl (fun tS ht hW => ⟨⟨(nI 1), (K, T, n, cm, wr), rfl, ⟨tr_t ⟨tr_1 hs1 c6, tr_1 hs2 c15⟩, rfl⟩, by rw [ht]; exact hP, va_K.moved hW.alike hK, hD⟩, hS.F ht⟩) hS.2.2 dX1_hasStretches_23
set_option maxHeartbeats 4000000 in
set_option maxRecDepth 100000 in
theorem c_X1_append (l : Launch) (dC : Nat → ClassId) (dI : Nat → Nat → Nat) (sz : Nat) (r k t : Nat) (cA cB : ClassId) (n : Nat) (cm wr : Int32) (K T : Nat → Int32) (hn : n < 500) (x y : Int32) : Met l yX1_append wsX1_append ({ frames := 0, cells := 0, slots := 0, locals := 0 }) (va_Pc [.ref r, .int x, .int y] (fun U => U.heap.size = sz ∧ va_P (dC, dI) vwCl [(r, .inr (0, [.ref k, .ref t, .int (nI n), .int cm, .int wr])), (k, .inl (cA, 500, .inl K)), (t, .inl (cB, 500, .inl T))] U.heap ∧ va_K (dC, dI) vwCl [(cA, .int), (cB, .int)] U ∧ va_D (fun _ => True) [(r, .inr (0, [.ref k, .ref t, .int (nI n), .int cm, .int wr])), (k, .inl (cA, 500, .inl K)), (t, .inl (cB, 500, .inl T))])) (va_Qv (fun u => u = (upd K n x, upd T n y, n + 1, cm, wr)) (atR dC dI (va_A [(r, .inr (0, [.ref k, .ref t, .int (nI n), .int cm, .int wr])), (k, .inl (cA, 500, .inl K)), (t, .inl (cB, 500, .inl T))] sz) r k t cA cB) (va_A [(r, .inr (0, [.ref k, .ref t, .int (nI n), .int cm, .int wr])), (k, .inl (cA, 500, .inl K)), (t, .inl (cB, 500, .inl T))] sz)) 0 0 (va_A [(r, .inr (0, [.ref k, .ref t, .int (nI n), .int cm, .int wr])), (k, .inl (cA, 500, .inl K)), (t, .inl (cB, 500, .inl T))] sz) := by
  refine Met.ofW (cc := cX1_append) (maxL := 3) (ret := none) (by decide) rfl ?_
  intro p e s m args below meth c s₁ B hml hv
  obtain ⟨rfl, hsz, hP, hK, hD0⟩ := hv
  have hx := B.exec
  have hb := B.bytes
  have hr := B.returns
  have hts := atoms_spec (ws := wsX1_append) B.pre
  have hown : s.vm.findClass RX1 = some m.cls := findClass_of_methodNamed B.named
  have hlocks := B.notSynchronized
  subst hsz
  have hD := hD0.self (sz := s.heap.size)
  generalize hAe : va_A [(r, .inr (0, [.ref k, .ref t, .int (nI n), .int cm, .int wr])), (k, .inl (cA, 500, .inl K)), (t, .inl (cB, 500, .inl T))] s.heap.size = A at hD ⊢
  have hA : ∀ q : Nat, s.heap.size ≤ q → A q := fun q h => by rw [← hAe]; exact Or.inr h
  have hS : va_S A s.heap s.heap [] := va_S.rf
  have hP : va_P (dC, dI) vwCl [(r, .inr (0, [.ref k, .ref t, .int (nI n), .int cm, .int wr])), (k, .inl (cA, 500, .inl K)), (t, .inl (cB, 500, .inl T))] s.heap := hP
  have hl := lv_entry ([.ref r, .int x, .int y]) (n := 3) (Nat.le_of_ble_eq_true rfl)
  rw [lg_entry_eq]
  generalize (lg_sl ([.ref r, .int x, .int y]) ++ List.replicate (3 - (lg_sl ([.ref r, .int x, .int y])).length) Slot.unset).toArray = ls at hl ⊢
  have hl : lv_has ls 3 [(0, .ref r), (1, .int x), (2, .int y)] := hl
  refine lv_aload_n hx hb dX1_append_0 rfl (lv_at hl 0 rfl) ?_
  refine va_get (D := (dC, dI)) (ci := 0) (v := .ref k) (C := RX1) (T := TX1) (N := 5) hx hb hts (by decide +kernel) hown hK hP 0 rfl rfl 0 (by decide) (hts (.fieldLink RX1 9 "RowPress$Row" "keys" "[I") (by decide +kernel)) (fun _ h9 => h9) rfl dX1_append_1 ?_
  refine lv_aload_n hx hb dX1_append_4 rfl (lv_at hl 0 rfl) ?_
  refine va_get (D := (dC, dI)) (ci := 0) (v := .int (nI n)) (C := RX1) (T := TX1) (N := 5) hx hb hts (by decide +kernel) hown hK hP 0 rfl rfl 2 (by decide) (hts (.fieldLink RX1 16 "RowPress$Row" "size" "I") (by decide +kernel)) (fun _ h9 => h9) rfl dX1_append_5 ?_
  refine lv_iload_n hx hb dX1_append_8 rfl (lv_at hl 1 rfl) ?_
  refine lz_iast hx hb hK hP hD hS 1 0 rfl rfl (j := n) (x := x) (by omega) (by decide) dX1_append_9 (fun H locs hP hD hS => ?_)
  have hP : va_P (dC, dI) vwCl [(r, .inr (0, [.ref k, .ref t, .int (nI n), .int cm, .int wr])), (k, .inl (cA, 500, .inl (upd K n x))), (t, .inl (cB, 500, .inl T))] H := hP
  have hD : va_D A [(r, .inr (0, [.ref k, .ref t, .int (nI n), .int cm, .int wr])), (k, .inl (cA, 500, .inl (upd K n x))), (t, .inl (cB, 500, .inl T))] := hD
  refine lv_aload_n hx hb dX1_append_10 rfl (lv_at hl 0 rfl) ?_
  refine va_get (D := (dC, dI)) (ci := 0) (v := .ref t) (C := RX1) (T := TX1) (N := 5) hx hb hts (by decide +kernel) hown hK hP 0 rfl rfl 1 (by decide) (hts (.fieldLink RX1 13 "RowPress$Row" "tags" "[I") (by decide +kernel)) (fun _ h9 => h9) rfl dX1_append_11 ?_
  refine lv_aload_n hx hb dX1_append_14 rfl (lv_at hl 0 rfl) ?_
  refine va_get (D := (dC, dI)) (ci := 0) (v := .int (nI n)) (C := RX1) (T := TX1) (N := 5) hx hb hts (by decide +kernel) hown hK hP 0 rfl rfl 2 (by decide) (hts (.fieldLink RX1 16 "RowPress$Row" "size" "I") (by decide +kernel)) (fun _ h9 => h9) rfl dX1_append_15 ?_
  refine lv_iload_n hx hb dX1_append_18 rfl (lv_at hl 2 rfl) ?_
  refine lz_iast hx hb hK hP hD hS 2 1 rfl rfl (j := n) (x := y) (by omega) (by decide) dX1_append_19 (fun H locs hP hD hS => ?_)
  have hP : va_P (dC, dI) vwCl [(r, .inr (0, [.ref k, .ref t, .int (nI n), .int cm, .int wr])), (k, .inl (cA, 500, .inl (upd K n x))), (t, .inl (cB, 500, .inl (upd T n y)))] H := hP
  have hD : va_D A [(r, .inr (0, [.ref k, .ref t, .int (nI n), .int cm, .int wr])), (k, .inl (cA, 500, .inl (upd K n x))), (t, .inl (cB, 500, .inl (upd T n y)))] := hD
  refine lv_aload_n hx hb dX1_append_20 rfl (lv_at hl 0 rfl) ?_
  refine lv_dup hx hb dX1_append_21 rfl ?_
  refine va_get (D := (dC, dI)) (ci := 0) (v := .int (nI n)) (C := RX1) (T := TX1) (N := 5) hx hb hts (by decide +kernel) hown hK hP 0 rfl rfl 2 (by decide) (hts (.fieldLink RX1 16 "RowPress$Row" "size" "I") (by decide +kernel)) (fun _ h9 => h9) rfl dX1_append_22 ?_
  refine lv_iconst (v := (nI 1)) hx hb dX1_append_25 (by decide) ?_
  refine lv_iadd hx hb dX1_append_26 ?_
  refine lz_top (y := (nI (n + 1))) (nI_add _ _) ?_
  refine va_put (D := (dC, dI)) (ci := 0) (v := .int (nI (n + 1))) (ty := .int) (C := RX1) (T := TX1) (N := 5) hx hb hts (by decide +kernel) tyX1 tyX1_ok nmX1 hown hK hP hD hS 0 rfl rfl 2 (by decide) (hts (.fieldLink RX1 16 "RowPress$Row" "size" "I") (by decide +kernel)) (fun _ h9 => h9) rfl (by decide +kernel) rfl rfl (Nat.le_of_ble_eq_true rfl) dX1_append_27 (fun H locs hP hD hS => ?_)
  have hP : va_P (dC, dI) vwCl [(r, .inr (0, [.ref k, .ref t, .int (nI (n + 1)), .int cm, .int wr])), (k, .inl (cA, 500, .inl (upd K n x))), (t, .inl (cB, 500, .inl (upd T n y)))] H := hP
  have hD : va_D A [(r, .inr (0, [.ref k, .ref t, .int (nI (n + 1)), .int cm, .int wr])), (k, .inl (cA, 500, .inl (upd K n x))), (t, .inl (cB, 500, .inl (upd T n y)))] := hD
  exact W.vret hx hb hr (fun tS ht hW => ⟨⟨(upd K n x, upd T n y, n + 1, cm, wr), rfl, rfl, by rw [ht]; exact hP, va_K.moved hW.alike hK, hD⟩, hS.F ht⟩) hS.2.2 dX1_append_30
set_option maxHeartbeats 4000000 in
set_option maxRecDepth 100000 in
theorem c_X1_startCounting (l : Launch) (dC : Nat → ClassId) (dI : Nat → Nat → Nat) (sz : Nat) (r k t : Nat) (cA cB : ClassId) (n : Nat) (cm wr : Int32) (K T : Nat → Int32) : Met l yX1_startCounting wsX1_startCounting ({ frames := 0, cells := 0, slots := 0, locals := 0 }) (va_Pc [.ref r] (fun U => U.heap.size = sz ∧ va_P (dC, dI) vwCl [(r, .inr (0, [.ref k, .ref t, .int (nI n), .int cm, .int wr])), (k, .inl (cA, 500, .inl K)), (t, .inl (cB, 500, .inl T))] U.heap ∧ va_K (dC, dI) vwCl [(cA, .int), (cB, .int)] U ∧ va_D (fun _ => True) [(r, .inr (0, [.ref k, .ref t, .int (nI n), .int cm, .int wr])), (k, .inl (cA, 500, .inl K)), (t, .inl (cB, 500, .inl T))])) (va_Qv (fun u => u = (K, T, n, nI 0, nI 0)) (atR dC dI (va_A [(r, .inr (0, [.ref k, .ref t, .int (nI n), .int cm, .int wr])), (k, .inl (cA, 500, .inl K)), (t, .inl (cB, 500, .inl T))] sz) r k t cA cB) (va_A [(r, .inr (0, [.ref k, .ref t, .int (nI n), .int cm, .int wr])), (k, .inl (cA, 500, .inl K)), (t, .inl (cB, 500, .inl T))] sz)) 0 0 (va_A [(r, .inr (0, [.ref k, .ref t, .int (nI n), .int cm, .int wr])), (k, .inl (cA, 500, .inl K)), (t, .inl (cB, 500, .inl T))] sz) := by
  refine Met.ofW (cc := cX1_startCounting) (maxL := 1) (ret := none) (by decide) rfl ?_
  intro p e s m args below meth c s₁ B hml hv
  obtain ⟨rfl, hsz, hP, hK, hD0⟩ := hv
  have hx := B.exec
  have hb := B.bytes
  have hr := B.returns
  have hts := atoms_spec (ws := wsX1_startCounting) B.pre
  have hown : s.vm.findClass RX1 = some m.cls := findClass_of_methodNamed B.named
  have hlocks := B.notSynchronized
  subst hsz
  have hD := hD0.self (sz := s.heap.size)
  generalize hAe : va_A [(r, .inr (0, [.ref k, .ref t, .int (nI n), .int cm, .int wr])), (k, .inl (cA, 500, .inl K)), (t, .inl (cB, 500, .inl T))] s.heap.size = A at hD ⊢
  have hA : ∀ q : Nat, s.heap.size ≤ q → A q := fun q h => by rw [← hAe]; exact Or.inr h
  have hS : va_S A s.heap s.heap [] := va_S.rf
  have hP : va_P (dC, dI) vwCl [(r, .inr (0, [.ref k, .ref t, .int (nI n), .int cm, .int wr])), (k, .inl (cA, 500, .inl K)), (t, .inl (cB, 500, .inl T))] s.heap := hP
  have hl := lv_entry ([.ref r]) (n := 1) (Nat.le_of_ble_eq_true rfl)
  rw [lg_entry_eq]
  generalize (lg_sl ([.ref r]) ++ List.replicate (1 - (lg_sl ([.ref r])).length) Slot.unset).toArray = ls at hl ⊢
  have hl : lv_has ls 1 [(0, .ref r)] := hl
  refine lv_aload_n hx hb dX1_startCounting_0 rfl (lv_at hl 0 rfl) ?_
  refine lv_iconst (v := (nI 0)) hx hb dX1_startCounting_1 (by decide) ?_
  refine va_put (D := (dC, dI)) (ci := 0) (v := .int (nI 0)) (ty := .int) (C := RX1) (T := TX1) (N := 5) hx hb hts (by decide +kernel) tyX1 tyX1_ok nmX1 hown hK hP hD hS 0 rfl rfl 3 (by decide) (hts (.fieldLink RX1 24 "RowPress$Row" "compares" "I") (by decide +kernel)) (fun _ h9 => h9) rfl (by decide +kernel) rfl rfl (Nat.le_of_ble_eq_true rfl) dX1_startCounting_2 (fun H locs hP hD hS => ?_)
  have hP : va_P (dC, dI) vwCl [(r, .inr (0, [.ref k, .ref t, .int (nI n), .int (nI 0), .int wr])), (k, .inl (cA, 500, .inl K)), (t, .inl (cB, 500, .inl T))] H := hP
  have hD : va_D A [(r, .inr (0, [.ref k, .ref t, .int (nI n), .int (nI 0), .int wr])), (k, .inl (cA, 500, .inl K)), (t, .inl (cB, 500, .inl T))] := hD
  refine lv_aload_n hx hb dX1_startCounting_5 rfl (lv_at hl 0 rfl) ?_
  refine lv_iconst (v := (nI 0)) hx hb dX1_startCounting_6 (by decide) ?_
  refine va_put (D := (dC, dI)) (ci := 0) (v := .int (nI 0)) (ty := .int) (C := RX1) (T := TX1) (N := 5) hx hb hts (by decide +kernel) tyX1 tyX1_ok nmX1 hown hK hP hD hS 0 rfl rfl 4 (by decide) (hts (.fieldLink RX1 27 "RowPress$Row" "writes" "I") (by decide +kernel)) (fun _ h9 => h9) rfl (by decide +kernel) rfl rfl (Nat.le_of_ble_eq_true rfl) dX1_startCounting_7 (fun H locs hP hD hS => ?_)
  have hP : va_P (dC, dI) vwCl [(r, .inr (0, [.ref k, .ref t, .int (nI n), .int (nI 0), .int (nI 0)])), (k, .inl (cA, 500, .inl K)), (t, .inl (cB, 500, .inl T))] H := hP
  have hD : va_D A [(r, .inr (0, [.ref k, .ref t, .int (nI n), .int (nI 0), .int (nI 0)])), (k, .inl (cA, 500, .inl K)), (t, .inl (cB, 500, .inl T))] := hD
  exact W.vret hx hb hr (fun tS ht hW => ⟨⟨(K, T, n, (nI 0), (nI 0)), rfl, rfl, by rw [ht]; exact hP, va_K.moved hW.alike hK, hD⟩, hS.F ht⟩) hS.2.2 dX1_startCounting_10
set_option maxHeartbeats 4000000 in
set_option maxRecDepth 100000 in
theorem c_X1_lessAt (l : Launch) (dC : Nat → ClassId) (dI : Nat → Nat → Nat) (sz : Nat) (r k t : Nat) (cA cB : ClassId) (n : Nat) (cm wr : Int32) (K T : Nat → Int32) (i j o : Nat) (hi : i < 500) (hj : j < 500) (ho : o < 4) : Met l yX1_lessAt wsX1_lessAt ({ frames := 1, cells := 0, slots := 0, locals := 22 }) (va_Pc [.ref r, .int (nI i), .int (nI j), .int (nI o)] (fun U => U.heap.size = sz ∧ va_P (dC, dI) vwCl [(r, .inr (0, [.ref k, .ref t, .int (nI n), .int cm, .int wr])), (k, .inl (cA, 500, .inl K)), (t, .inl (cB, 500, .inl T))] U.heap ∧ va_K (dC, dI) vwCl [(cA, .int), (cB, .int)] U ∧ va_D (fun _ => True) [(r, .inr (0, [.ref k, .ref t, .int (nI n), .int cm, .int wr])), (k, .inl (cA, 500, .inl K)), (t, .inl (cB, 500, .inl T))])) (va_Qi (fun r u => tr r (mk o (K i) < mk o (K j)) ∧ u = (K, T, n, cm + nI 1, wr)) (atR dC dI (va_A [(r, .inr (0, [.ref k, .ref t, .int (nI n), .int cm, .int wr])), (k, .inl (cA, 500, .inl K)), (t, .inl (cB, 500, .inl T))] sz) r k t cA cB) (va_A [(r, .inr (0, [.ref k, .ref t, .int (nI n), .int cm, .int wr])), (k, .inl (cA, 500, .inl K)), (t, .inl (cB, 500, .inl T))] sz)) 0 0 (va_A [(r, .inr (0, [.ref k, .ref t, .int (nI n), .int cm, .int wr])), (k, .inl (cA, 500, .inl K)), (t, .inl (cB, 500, .inl T))] sz) := by
  refine Met.ofW (cc := cX1_lessAt) (maxL := 4) (ret := (some .boolean)) (by decide) rfl ?_
  intro p e s m args below meth c s₁ B hml hv
  obtain ⟨rfl, hsz, hP, hK, hD0⟩ := hv
  have hx := B.exec
  have hb := B.bytes
  have hr := B.returns
  have hts := atoms_spec (ws := wsX1_lessAt) B.pre
  have hown : s.vm.findClass RX1 = some m.cls := findClass_of_methodNamed B.named
  have hlocks := B.notSynchronized
  subst hsz
  have hD := hD0.self (sz := s.heap.size)
  generalize hAe : va_A [(r, .inr (0, [.ref k, .ref t, .int (nI n), .int cm, .int wr])), (k, .inl (cA, 500, .inl K)), (t, .inl (cB, 500, .inl T))] s.heap.size = A at hD ⊢
  have hA : ∀ q : Nat, s.heap.size ≤ q → A q := fun q h => by rw [← hAe]; exact Or.inr h
  have hS : va_S A s.heap s.heap [] := va_S.rf
  have hP : va_P (dC, dI) vwCl [(r, .inr (0, [.ref k, .ref t, .int (nI n), .int cm, .int wr])), (k, .inl (cA, 500, .inl K)), (t, .inl (cB, 500, .inl T))] s.heap := hP
  have hl := lv_entry ([.ref r, .int (nI i), .int (nI j), .int (nI o)]) (n := 4) (Nat.le_of_ble_eq_true rfl)
  rw [lg_entry_eq]
  generalize (lg_sl ([.ref r, .int (nI i), .int (nI j), .int (nI o)]) ++ List.replicate (4 - (lg_sl ([.ref r, .int (nI i), .int (nI j), .int (nI o)])).length) Slot.unset).toArray = ls at hl ⊢
  have hl : lv_has ls 4 [(0, .ref r), (1, .int (nI i)), (2, .int (nI j)), (3, .int (nI o))] := hl
  refine lv_aload_n hx hb dX1_lessAt_0 rfl (lv_at hl 0 rfl) ?_
  refine lv_dup hx hb dX1_lessAt_1 rfl ?_
  refine va_get (D := (dC, dI)) (ci := 0) (v := .int cm) (C := RX1) (T := TX1) (N := 5) hx hb hts (by decide +kernel) hown hK hP 0 rfl rfl 3 (by decide) (hts (.fieldLink RX1 24 "RowPress$Row" "compares" "I") (by decide +kernel)) (fun _ h9 => h9) rfl dX1_lessAt_2 ?_
  refine lv_iconst (v := (nI 1)) hx hb dX1_lessAt_5 (by decide) ?_
  refine lv_iadd hx hb dX1_lessAt_6 ?_
  refine va_put (D := (dC, dI)) (ci := 0) (v := .int (cm + (nI 1))) (ty := .int) (C := RX1) (T := TX1) (N := 5) hx hb hts (by decide +kernel) tyX1 tyX1_ok nmX1 hown hK hP hD hS 0 rfl rfl 3 (by decide) (hts (.fieldLink RX1 24 "RowPress$Row" "compares" "I") (by decide +kernel)) (fun _ h9 => h9) rfl (by decide +kernel) rfl rfl (Nat.le_of_ble_eq_true rfl) dX1_lessAt_7 (fun H locs hP hD hS => ?_)
  have hP : va_P (dC, dI) vwCl [(r, .inr (0, [.ref k, .ref t, .int (nI n), .int (cm + (nI 1)), .int wr])), (k, .inl (cA, 500, .inl K)), (t, .inl (cB, 500, .inl T))] H := hP
  have hD : va_D A [(r, .inr (0, [.ref k, .ref t, .int (nI n), .int (cm + (nI 1)), .int wr])), (k, .inl (cA, 500, .inl K)), (t, .inl (cB, 500, .inl T))] := hD
  refine lv_aload_n hx hb dX1_lessAt_10 rfl (lv_at hl 0 rfl) ?_
  refine va_get (D := (dC, dI)) (ci := 0) (v := .ref k) (C := RX1) (T := TX1) (N := 5) hx hb hts (by decide +kernel) hown hK hP 0 rfl rfl 0 (by decide) (hts (.fieldLink RX1 9 "RowPress$Row" "keys" "[I") (by decide +kernel)) (fun _ h9 => h9) rfl dX1_lessAt_11 ?_
  refine lv_iload_n hx hb dX1_lessAt_14 rfl (lv_at hl 1 rfl) ?_
  refine lz_iald hx hb hK hP 1 0 rfl rfl (j := i) (by omega) (by decide) dX1_lessAt_15 ?_
  refine lv_aload_n hx hb dX1_lessAt_16 rfl (lv_at hl 0 rfl) ?_
  refine va_get (D := (dC, dI)) (ci := 0) (v := .ref k) (C := RX1) (T := TX1) (N := 5) hx hb hts (by decide +kernel) hown hK hP 0 rfl rfl 0 (by decide) (hts (.fieldLink RX1 9 "RowPress$Row" "keys" "[I") (by decide +kernel)) (fun _ h9 => h9) rfl dX1_lessAt_17 ?_
  refine lv_iload_n hx hb dX1_lessAt_20 rfl (lv_at hl 2 rfl) ?_
  refine lz_iald hx hb hK hP 1 0 rfl rfl (j := j) (by omega) (by decide) dX1_lessAt_21 ?_
  refine lv_iload_n hx hb dX1_lessAt_22 rfl (lv_at hl 3 rfl) ?_
  have hPc := hP.sub (ws' := []) [] rfl
  have hDc := hD.sub (ws' := []) [] (by decide) rfl
  have hKc := hK.sub (tys' := []) [] rfl
  have hFc := va_free (wc := []) hD hS hA [] rfl
  refine va_calli (va_runS (As := [.int (K i), .int (K j), .int (nI o)]) (rest := []) ⟨hx, hb, hml, hown, hts⟩ (c_X0_isLess l dC dI H.size (K i) (K j) o ho) (va_cwS 3 hts gX1_lessAt_X0_isLess rfl rfl rfl (by decide +kernel) ⟨Nat.le_of_ble_eq_true rfl, Nat.le_of_ble_eq_true rfl⟩) ⟨fun a U g mk q => by obtain ⟨q0, q1, qP, qK, qD⟩ := q; exact ⟨q0, q1, qP, va_K.moved (u := U) (U := U.calling g mk a) (Vm.Alike.refl U.vm) qK, qD⟩, fun U hU hW => ⟨rfl, by rw [hU], by rw [hU]; exact hPc, va_K.moved hW.alike hKc, hDc.weaken (fun _ _ _ _ => trivial)⟩⟩ rfl rfl hl.1 rfl (lv_room (Nat.le_of_ble_eq_true rfl)) dX1_lessAt_23 ⟨Nat.le_of_ble_eq_true rfl, Nat.le_of_ble_eq_true rfl⟩) hS (fun q _ h => hFc q h) hFc (fun r_1 u tS H1 locs ht hvm hw hB hz1 hk1 hS => ?_)
  have hq := hw
  obtain ⟨hP1, hK1, hD1⟩ := hB
  rw [ht] at hP1
  obtain ⟨hP, hD⟩ := va_join (wr := [(r, .inr (0, [.ref k, .ref t, .int (nI n), .int (cm + (nI 1)), .int wr])), (k, .inl (cA, 500, .inl K)), (t, .inl (cB, 500, .inl T))]) (w1 := []) hP hD [] [0, 1, 2] rfl rfl (by decide) (by decide) hk1 hFc hP1 hD1
  generalize H1 = H at hP hS ⊢
  have hP : va_P (dC, dI) vwCl [(r, .inr (0, [.ref k, .ref t, .int (nI n), .int (cm + (nI 1)), .int wr])), (k, .inl (cA, 500, .inl K)), (t, .inl (cB, 500, .inl T))] H := hP
  have hD : va_D A [(r, .inr (0, [.ref k, .ref t, .int (nI n), .int (cm + (nI 1)), .int wr])), (k, .inl (cA, 500, .inl K)), (t, .inl (cB, 500, .inl T))] := hD
  have hz : narrow .boolean (.int r_1) = .int r_1 := tr_nar hq
  exact W.zret (v := r_1) hx hb hr hz (fun tS ht hW => ⟨⟨r_1, (K, T, n, (cm + (nI 1)), wr), rfl, ⟨hq, rfl⟩, by rw [ht]; exact hP, va_K.moved hW.alike hK, hD⟩, hS.F ht⟩) hS.2.2 dX1_lessAt_26
set_option maxHeartbeats 4000000 in
set_option maxRecDepth 100000 in
theorem c_X1_swapPairs (l : Launch) (dC : Nat → ClassId) (dI : Nat → Nat → Nat) (sz : Nat) (r k t : Nat) (cA cB : ClassId) (n : Nat) (cm wr : Int32) (K T : Nat → Int32) (i j : Nat) (hi : i < 500) (hj : j < 500) : Met l yX1_swapPairs wsX1_swapPairs ({ frames := 0, cells := 0, slots := 0, locals := 0 }) (va_Pc [.ref r, .int (nI i), .int (nI j)] (fun U => U.heap.size = sz ∧ va_P (dC, dI) vwCl [(r, .inr (0, [.ref k, .ref t, .int (nI n), .int cm, .int wr])), (k, .inl (cA, 500, .inl K)), (t, .inl (cB, 500, .inl T))] U.heap ∧ va_K (dC, dI) vwCl [(cA, .int), (cB, .int)] U ∧ va_D (fun _ => True) [(r, .inr (0, [.ref k, .ref t, .int (nI n), .int cm, .int wr])), (k, .inl (cA, 500, .inl K)), (t, .inl (cB, 500, .inl T))])) (va_Qv (fun u => u = (upd (upd K i (K j)) j (K i), upd (upd T i (T j)) j (T i), n, cm, wr + nI 2)) (atR dC dI (va_A [(r, .inr (0, [.ref k, .ref t, .int (nI n), .int cm, .int wr])), (k, .inl (cA, 500, .inl K)), (t, .inl (cB, 500, .inl T))] sz) r k t cA cB) (va_A [(r, .inr (0, [.ref k, .ref t, .int (nI n), .int cm, .int wr])), (k, .inl (cA, 500, .inl K)), (t, .inl (cB, 500, .inl T))] sz)) 0 0 (va_A [(r, .inr (0, [.ref k, .ref t, .int (nI n), .int cm, .int wr])), (k, .inl (cA, 500, .inl K)), (t, .inl (cB, 500, .inl T))] sz) := by
  refine Met.ofW (cc := cX1_swapPairs) (maxL := 5) (ret := none) (by decide) rfl ?_
  intro p e s m args below meth c s₁ B hml hv
  obtain ⟨rfl, hsz, hP, hK, hD0⟩ := hv
  have hx := B.exec
  have hb := B.bytes
  have hr := B.returns
  have hts := atoms_spec (ws := wsX1_swapPairs) B.pre
  have hown : s.vm.findClass RX1 = some m.cls := findClass_of_methodNamed B.named
  have hlocks := B.notSynchronized
  subst hsz
  have hD := hD0.self (sz := s.heap.size)
  generalize hAe : va_A [(r, .inr (0, [.ref k, .ref t, .int (nI n), .int cm, .int wr])), (k, .inl (cA, 500, .inl K)), (t, .inl (cB, 500, .inl T))] s.heap.size = A at hD ⊢
  have hA : ∀ q : Nat, s.heap.size ≤ q → A q := fun q h => by rw [← hAe]; exact Or.inr h
  have hS : va_S A s.heap s.heap [] := va_S.rf
  have hP : va_P (dC, dI) vwCl [(r, .inr (0, [.ref k, .ref t, .int (nI n), .int cm, .int wr])), (k, .inl (cA, 500, .inl K)), (t, .inl (cB, 500, .inl T))] s.heap := hP
  have hl := lv_entry ([.ref r, .int (nI i), .int (nI j)]) (n := 5) (Nat.le_of_ble_eq_true rfl)
  rw [lg_entry_eq]
  generalize (lg_sl ([.ref r, .int (nI i), .int (nI j)]) ++ List.replicate (5 - (lg_sl ([.ref r, .int (nI i), .int (nI j)])).length) Slot.unset).toArray = ls at hl ⊢
  have hl : lv_has ls 5 [(0, .ref r), (1, .int (nI i)), (2, .int (nI j))] := hl
  refine lv_aload_n hx hb dX1_swapPairs_0 rfl (lv_at hl 0 rfl) ?_
  refine va_get (D := (dC, dI)) (ci := 0) (v := .ref k) (C := RX1) (T := TX1) (N := 5) hx hb hts (by decide +kernel) hown hK hP 0 rfl rfl 0 (by decide) (hts (.fieldLink RX1 9 "RowPress$Row" "keys" "[I") (by decide +kernel)) (fun _ h9 => h9) rfl dX1_swapPairs_1 ?_
  refine lv_iload_n hx hb dX1_swapPairs_4 rfl (lv_at hl 1 rfl) ?_
  refine lz_iald hx hb hK hP 1 0 rfl rfl (j := i) (by omega) (by decide) dX1_swapPairs_5 ?_
  refine lv_istore_n (lv' := [(3, .int (K i)), (0, .ref r), (1, .int (nI i)), (2, .int (nI j))]) hx hb dX1_swapPairs_6 rfl hl (by decide) rfl (fun ls hl => ?_)
  refine lv_aload_n hx hb dX1_swapPairs_7 rfl (lv_at hl 1 rfl) ?_
  refine va_get (D := (dC, dI)) (ci := 0) (v := .ref k) (C := RX1) (T := TX1) (N := 5) hx hb hts (by decide +kernel) hown hK hP 0 rfl rfl 0 (by decide) (hts (.fieldLink RX1 9 "RowPress$Row" "keys" "[I") (by decide +kernel)) (fun _ h9 => h9) rfl dX1_swapPairs_8 ?_
  refine lv_iload_n hx hb dX1_swapPairs_11 rfl (lv_at hl 2 rfl) ?_
  refine lv_aload_n hx hb dX1_swapPairs_12 rfl (lv_at hl 1 rfl) ?_
  refine va_get (D := (dC, dI)) (ci := 0) (v := .ref k) (C := RX1) (T := TX1) (N := 5) hx hb hts (by decide +kernel) hown hK hP 0 rfl rfl 0 (by decide) (hts (.fieldLink RX1 9 "RowPress$Row" "keys" "[I") (by decide +kernel)) (fun _ h9 => h9) rfl dX1_swapPairs_13 ?_
  refine lv_iload_n hx hb dX1_swapPairs_16 rfl (lv_at hl 3 rfl) ?_
  refine lz_iald hx hb hK hP 1 0 rfl rfl (j := j) (by omega) (by decide) dX1_swapPairs_17 ?_
  refine lz_iast hx hb hK hP hD hS 1 0 rfl rfl (j := i) (x := (K j)) (by omega) (by decide) dX1_swapPairs_18 (fun H locs hP hD hS => ?_)
  have hP : va_P (dC, dI) vwCl [(r, .inr (0, [.ref k, .ref t, .int (nI n), .int cm, .int wr])), (k, .inl (cA, 500, .inl (upd K i (K j)))), (t, .inl (cB, 500, .inl T))] H := hP
  have hD : va_D A [(r, .inr (0, [.ref k, .ref t, .int (nI n), .int cm, .int wr])), (k, .inl (cA, 500, .inl (upd K i (K j)))), (t, .inl (cB, 500, .inl T))] := hD
  refine lv_aload_n hx hb dX1_swapPairs_19 rfl (lv_at hl 1 rfl) ?_
  refine va_get (D := (dC, dI)) (ci := 0) (v := .ref k) (C := RX1) (T := TX1) (N := 5) hx hb hts (by decide +kernel) hown hK hP 0 rfl rfl 0 (by decide) (hts (.fieldLink RX1 9 "RowPress$Row" "keys" "[I") (by decide +kernel)) (fun _ h9 => h9) rfl dX1_swapPairs_20 ?_
  refine lv_iload_n hx hb dX1_swapPairs_23 rfl (lv_at hl 3 rfl) ?_
  refine lv_iload_n hx hb dX1_swapPairs_24 rfl (lv_at hl 0 rfl) ?_
  refine lz_iast hx hb hK hP hD hS 1 0 rfl rfl (j := j) (x := (K i)) (by omega) (by decide) dX1_swapPairs_25 (fun H locs hP hD hS => ?_)
  have hP : va_P (dC, dI) vwCl [(r, .inr (0, [.ref k, .ref t, .int (nI n), .int cm, .int wr])), (k, .inl (cA, 500, .inl (upd (upd K i (K j)) j (K i)))), (t, .inl (cB, 500, .inl T))] H := hP
  have hD : va_D A [(r, .inr (0, [.ref k, .ref t, .int (nI n), .int cm, .int wr])), (k, .inl (cA, 500, .inl (upd (upd K i (K j)) j (K i)))), (t, .inl (cB, 500, .inl T))] := hD
  refine lv_aload_n hx hb dX1_swapPairs_26 rfl (lv_at hl 1 rfl) ?_
  refine lv_dup hx hb dX1_swapPairs_27 rfl ?_
  refine va_get (D := (dC, dI)) (ci := 0) (v := .int wr) (C := RX1) (T := TX1) (N := 5) hx hb hts (by decide +kernel) hown hK hP 0 rfl rfl 4 (by decide) (hts (.fieldLink RX1 27 "RowPress$Row" "writes" "I") (by decide +kernel)) (fun _ h9 => h9) rfl dX1_swapPairs_28 ?_
  refine lv_iconst (v := (nI 2)) hx hb dX1_swapPairs_31 (by decide) ?_
  refine lv_iadd hx hb dX1_swapPairs_32 ?_
  refine va_put (D := (dC, dI)) (ci := 0) (v := .int (wr + (nI 2))) (ty := .int) (C := RX1) (T := TX1) (N := 5) hx hb hts (by decide +kernel) tyX1 tyX1_ok nmX1 hown hK hP hD hS 0 rfl rfl 4 (by decide) (hts (.fieldLink RX1 27 "RowPress$Row" "writes" "I") (by decide +kernel)) (fun _ h9 => h9) rfl (by decide +kernel) rfl rfl (Nat.le_of_ble_eq_true rfl) dX1_swapPairs_33 (fun H locs hP hD hS => ?_)
  have hP : va_P (dC, dI) vwCl [(r, .inr (0, [.ref k, .ref t, .int (nI n), .int cm, .int (wr + (nI 2))])), (k, .inl (cA, 500, .inl (upd (upd K i (K j)) j (K i)))), (t, .inl (cB, 500, .inl T))] H := hP
  have hD : va_D A [(r, .inr (0, [.ref k, .ref t, .int (nI n), .int cm, .int (wr + (nI 2))])), (k, .inl (cA, 500, .inl (upd (upd K i (K j)) j (K i)))), (t, .inl (cB, 500, .inl T))] := hD
  refine lv_aload_n hx hb dX1_swapPairs_36 rfl (lv_at hl 1 rfl) ?_
  refine va_get (D := (dC, dI)) (ci := 0) (v := .ref t) (C := RX1) (T := TX1) (N := 5) hx hb hts (by decide +kernel) hown hK hP 0 rfl rfl 1 (by decide) (hts (.fieldLink RX1 13 "RowPress$Row" "tags" "[I") (by decide +kernel)) (fun _ h9 => h9) rfl dX1_swapPairs_37 ?_
  refine lv_iload_n hx hb dX1_swapPairs_40 rfl (lv_at hl 2 rfl) ?_
  refine lz_iald hx hb hK hP 2 1 rfl rfl (j := i) (by omega) (by decide) dX1_swapPairs_41 ?_
  refine lv_istore (lv' := [(4, .int (T i)), (3, .int (K i)), (0, .ref r), (1, .int (nI i)), (2, .int (nI j))]) hx hb dX1_swapPairs_42 hl (by decide) rfl (fun ls hl => ?_)
  refine lv_aload_n hx hb dX1_swapPairs_44 rfl (lv_at hl 2 rfl) ?_
  refine va_get (D := (dC, dI)) (ci := 0) (v := .ref t) (C := RX1) (T := TX1) (N := 5) hx hb hts (by decide +kernel) hown hK hP 0 rfl rfl 1 (by decide) (hts (.fieldLink RX1 13 "RowPress$Row" "tags" "[I") (by decide +kernel)) (fun _ h9 => h9) rfl dX1_swapPairs_45 ?_
  refine lv_iload_n hx hb dX1_swapPairs_48 rfl (lv_at hl 3 rfl) ?_
  refine lv_aload_n hx hb dX1_swapPairs_49 rfl (lv_at hl 2 rfl) ?_
  refine va_get (D := (dC, dI)) (ci := 0) (v := .ref t) (C := RX1) (T := TX1) (N := 5) hx hb hts (by decide +kernel) hown hK hP 0 rfl rfl 1 (by decide) (hts (.fieldLink RX1 13 "RowPress$Row" "tags" "[I") (by decide +kernel)) (fun _ h9 => h9) rfl dX1_swapPairs_50 ?_
  refine lv_iload_n hx hb dX1_swapPairs_53 rfl (lv_at hl 4 rfl) ?_
  refine lz_iald hx hb hK hP 2 1 rfl rfl (j := j) (by omega) (by decide) dX1_swapPairs_54 ?_
  refine lz_iast hx hb hK hP hD hS 2 1 rfl rfl (j := i) (x := (T j)) (by omega) (by decide) dX1_swapPairs_55 (fun H locs hP hD hS => ?_)
  have hP : va_P (dC, dI) vwCl [(r, .inr (0, [.ref k, .ref t, .int (nI n), .int cm, .int (wr + (nI 2))])), (k, .inl (cA, 500, .inl (upd (upd K i (K j)) j (K i)))), (t, .inl (cB, 500, .inl (upd T i (T j))))] H := hP
  have hD : va_D A [(r, .inr (0, [.ref k, .ref t, .int (nI n), .int cm, .int (wr + (nI 2))])), (k, .inl (cA, 500, .inl (upd (upd K i (K j)) j (K i)))), (t, .inl (cB, 500, .inl (upd T i (T j))))] := hD
  refine lv_aload_n hx hb dX1_swapPairs_56 rfl (lv_at hl 2 rfl) ?_
  refine va_get (D := (dC, dI)) (ci := 0) (v := .ref t) (C := RX1) (T := TX1) (N := 5) hx hb hts (by decide +kernel) hown hK hP 0 rfl rfl 1 (by decide) (hts (.fieldLink RX1 13 "RowPress$Row" "tags" "[I") (by decide +kernel)) (fun _ h9 => h9) rfl dX1_swapPairs_57 ?_
  refine lv_iload_n hx hb dX1_swapPairs_60 rfl (lv_at hl 4 rfl) ?_
  refine lv_iload hx hb dX1_swapPairs_61 (lv_at hl 0 rfl) ?_
  refine lz_iast hx hb hK hP hD hS 2 1 rfl rfl (j := j) (x := (T i)) (by omega) (by decide) dX1_swapPairs_63 (fun H locs hP hD hS => ?_)
  have hP : va_P (dC, dI) vwCl [(r, .inr (0, [.ref k, .ref t, .int (nI n), .int cm, .int (wr + (nI 2))])), (k, .inl (cA, 500, .inl (upd (upd K i (K j)) j (K i)))), (t, .inl (cB, 500, .inl (upd (upd T i (T j)) j (T i))))] H := hP
  have hD : va_D A [(r, .inr (0, [.ref k, .ref t, .int (nI n), .int cm, .int (wr + (nI 2))])), (k, .inl (cA, 500, .inl (upd (upd K i (K j)) j (K i)))), (t, .inl (cB, 500, .inl (upd (upd T i (T j)) j (T i))))] := hD
  exact W.vret hx hb hr (fun tS ht hW => ⟨⟨(upd (upd K i (K j)) j (K i), upd (upd T i (T j)) j (T i), n, cm, (wr + (nI 2))), rfl, rfl, by rw [ht]; exact hP, va_K.moved hW.alike hK, hD⟩, hS.F ht⟩) hS.2.2 dX1_swapPairs_64
