set_option maxHeartbeats 4000000 in
set_option maxRecDepth 100000 in
theorem c_X3_isOrder (l : Launch) (dC : Nat → ClassId) (dI : Nat → Nat → Nat) (sz : Nat) (o : Int32) : Met l yX3_isOrder wsX3_isOrder ({ frames := 0, cells := 0, slots := 0, locals := 0 }) (va_Pc [.int o] (fun U => U.heap.size = sz ∧ va_P (dC, dI) vwCl [] U.heap ∧ va_K (dC, dI) vwCl [] U ∧ va_D (fun _ => True) [])) (va_Qi (fun r (_ : Unit) => tr r (exO o)) (at0 dC dI (va_A [] sz)) (va_A [] sz)) 0 0 (va_A [] sz) := by
  refine Met.ofW (cc := cX3_isOrder) (maxL := 1) (ret := (some .boolean)) (by decide) rfl ?_
  intro p e s m args below meth c s₁ B hml hv
  obtain ⟨rfl, hsz, hP, hK, hD0⟩ := hv
  have hx := B.exec
  have hb := B.bytes
  have hr := B.returns
  have hts := atoms_spec (ws := wsX3_isOrder) B.pre
  have hown : s.vm.findClass RX3 = some m.cls := findClass_of_methodNamed B.named
  have hlocks := B.notSynchronized
  subst hsz
  have hD := hD0.self (sz := s.heap.size)
  generalize hAe : va_A [] s.heap.size = A at hD ⊢
  have hA : ∀ q : Nat, s.heap.size ≤ q → A q := fun q h => by rw [← hAe]; exact Or.inr h
  have hS : va_S A s.heap s.heap [] := va_S.rf
  have hP : va_P (dC, dI) vwCl [] s.heap := hP
  have hl := lv_entry ([.int o]) (n := 1) (Nat.le_of_ble_eq_true rfl)
  rw [lg_entry_eq]
  generalize (lg_sl ([.int o]) ++ List.replicate (1 - (lg_sl ([.int o])).length) Slot.unset).toArray = ls at hl ⊢
  have hl : lv_has ls 1 [(0, .int o)] := hl
  refine lv_iload_n hx hb dX3_isOrder_0 rfl (lv_at hl 0 rfl) ?_
  refine lv_if_lt (tgt := 13) hx hb dX3_isOrder_1 (by decide) (fun c1 => ?_) (fun c1 => ?_)
  · refine lv_iconst (v := (nI 0)) hx hb dX3_isOrder_13 (by decide) ?_
    exact W.zret (v := (nI 0)) hx hb hr rfl (fun tS ht hW => ⟨⟨(nI 0), (), rfl, tr_f (fun q => q.1 c1), by rw [ht]; exact hP, va_K.moved hW.alike hK, hD⟩, hS.F ht⟩) hS.2.2 dX3_isOrder_14
  · refine lv_iload_n hx hb dX3_isOrder_4 rfl (lv_at hl 0 rfl) ?_
    refine lv_iconst (v := (nI 3)) hx hb dX3_isOrder_5 (by decide) ?_
    refine lv_icmp_gt (tgt := 13) hx hb dX3_isOrder_6 (by decide) (fun c6 => ?_) (fun c6 => ?_)
    · refine lv_iconst (v := (nI 0)) hx hb dX3_isOrder_13 (by decide) ?_
      exact W.zret (v := (nI 0)) hx hb hr rfl (fun tS ht hW => ⟨⟨(nI 0), (), rfl, tr_f (fun q => q.2 c6), by rw [ht]; exact hP, va_K.moved hW.alike hK, hD⟩, hS.F ht⟩) hS.2.2 dX3_isOrder_14
    · refine lv_iconst (v := (nI 1)) hx hb dX3_isOrder_9 (by decide) ?_
      refine lv_goto (tgt := 14) hx hb dX3_isOrder_10 (by decide) ?_
      exact W.zret (v := (nI 1)) hx hb hr rfl (fun tS ht hW => ⟨⟨(nI 1), (), rfl, tr_t ⟨c1, c6⟩, by rw [ht]; exact hP, va_K.moved hW.alike hK, hD⟩, hS.F ht⟩) hS.2.2 dX3_isOrder_14
set_option maxHeartbeats 4000000 in
set_option maxRecDepth 100000 in
theorem c_X3_isLess (l : Launch) (dC : Nat → ClassId) (dI : Nat → Nat → Nat) (sz : Nat) (x y : Int32) (o : Nat) (ho : o < 4) : Met l yX3_isLess wsX3_isLess ({ frames := 0, cells := 0, slots := 0, locals := 0 }) (va_Pc [.int x, .int y, .int (nI o)] (fun U => U.heap.size = sz ∧ va_P (dC, dI) vwCl [] U.heap ∧ va_K (dC, dI) vwCl [] U ∧ va_D (fun _ => True) [])) (va_Qi (fun r (_ : Unit) => tr r (mk o x < mk o y)) (at0 dC dI (va_A [] sz)) (va_A [] sz)) 0 0 (va_A [] sz) := by
  refine Met.ofW (cc := cX3_isLess) (maxL := 3) (ret := (some .boolean)) (by decide) rfl ?_
  intro p e s m args below meth c s₁ B hml hv
  obtain ⟨rfl, hsz, hP, hK, hD0⟩ := hv
  have hx := B.exec
  have hb := B.bytes
  have hr := B.returns
  have hts := atoms_spec (ws := wsX3_isLess) B.pre
  have hown : s.vm.findClass RX3 = some m.cls := findClass_of_methodNamed B.named
  have hlocks := B.notSynchronized
  subst hsz
  have hD := hD0.self (sz := s.heap.size)
  generalize hAe : va_A [] s.heap.size = A at hD ⊢
  have hA : ∀ q : Nat, s.heap.size ≤ q → A q := fun q h => by rw [← hAe]; exact Or.inr h
  have hS : va_S A s.heap s.heap [] := va_S.rf
  have hP : va_P (dC, dI) vwCl [] s.heap := hP
  have hl := lv_entry ([.int x, .int y, .int (nI o)]) (n := 3) (Nat.le_of_ble_eq_true rfl)
  rw [lg_entry_eq]
  generalize (lg_sl ([.int x, .int y, .int (nI o)]) ++ List.replicate (3 - (lg_sl ([.int x, .int y, .int (nI o)])).length) Slot.unset).toArray = ls at hl ⊢
  have hl : lv_has ls 3 [(0, .int x), (1, .int y), (2, .int (nI o))] := hl
  rcases (show o = 0 ∨ o = 1 ∨ o = 2 ∨ o = 3 by omega) with rfl | rfl | rfl | rfl
  · refine lv_iload_n hx hb dX3_isLess_0 rfl (lv_at hl 2 rfl) ?_
    refine lv_tableIn (tgt := 28) (off := 27) hx hb dX3_isLess_1 (by decide) (by decide) (by decide) (by decide) ?_
    refine lv_iload_n hx hb dX3_isLess_28 rfl (lv_at hl 0 rfl) ?_
    refine lv_iload_n hx hb dX3_isLess_29 rfl (lv_at hl 1 rfl) ?_
    refine lv_icmp_ge (tgt := 37) hx hb dX3_isLess_30 (by decide) (fun c30 => ?_) (fun c30 => ?_)
    · refine lv_iconst (v := (nI 0)) hx hb dX3_isLess_37 (by decide) ?_
      exact W.zret (v := (nI 0)) hx hb hr rfl (fun tS ht hW => ⟨⟨(nI 0), (), rfl, tr_f (fun q => ng_lt (mk0.mp q) c30), by rw [ht]; exact hP, va_K.moved hW.alike hK, hD⟩, hS.F ht⟩) hS.2.2 dX3_isLess_38
    · refine lv_iconst (v := (nI 1)) hx hb dX3_isLess_33 (by decide) ?_
      refine lv_goto (tgt := 38) hx hb dX3_isLess_34 (by decide) ?_
      exact W.zret (v := (nI 1)) hx hb hr rfl (fun tS ht hW => ⟨⟨(nI 1), (), rfl, tr_t (mk0.mpr (ng_le c30)), by rw [ht]; exact hP, va_K.moved hW.alike hK, hD⟩, hS.F ht⟩) hS.2.2 dX3_isLess_38
  · refine lv_iload_n hx hb dX3_isLess_0 rfl (lv_at hl 2 rfl) ?_
    refine lv_tableIn (tgt := 39) (off := 38) hx hb dX3_isLess_1 (by decide) (by decide) (by decide) (by decide) ?_
    refine lv_iload_n hx hb dX3_isLess_39 rfl (lv_at hl 0 rfl) ?_
    refine lv_i2l hx hb dX3_isLess_40 rfl ?_
    refine lv_ldc2 hx hb hown (hts (.constantLong RX3 26 4294967295) (by decide +kernel)) dX3_isLess_41 ?_
    refine lv_land hx hb dX3_isLess_44 ?_
    refine lv_iload_n hx hb dX3_isLess_45 rfl (lv_at hl 1 rfl) ?_
    refine lv_i2l hx hb dX3_isLess_46 rfl ?_
    refine lv_ldc2 hx hb hown (hts (.constantLong RX3 26 4294967295) (by decide +kernel)) dX3_isLess_47 ?_
    refine lv_land hx hb dX3_isLess_50 ?_
    refine W.lcmp hx hb dX3_isLess_51 ?_
    refine lv_if_ge (tgt := 59) hx hb dX3_isLess_52 (by decide) (fun c52 => ?_) (fun c52 => ?_)
    · refine lv_iconst (v := (nI 0)) hx hb dX3_isLess_59 (by decide) ?_
      exact W.zret (v := (nI 0)) hx hb hr rfl (fun tS ht hW => ⟨⟨(nI 0), (), rfl, tr_f (fun q => by rw [lg_cmp_ge] at c52; have q := mkU.mp q; rw [Int64.le_iff_toInt_le] at c52; rw [Int64.lt_iff_toInt_lt] at q; omega), by rw [ht]; exact hP, va_K.moved hW.alike hK, hD⟩, hS.F ht⟩) hS.2.2 dX3_isLess_60
    · refine lv_iconst (v := (nI 1)) hx hb dX3_isLess_55 (by decide) ?_
      refine lv_goto (tgt := 60) hx hb dX3_isLess_56 (by decide) ?_
      exact W.zret (v := (nI 1)) hx hb hr rfl (fun tS ht hW => ⟨⟨(nI 1), (), rfl, tr_t (mkU.mpr (by rw [lg_cmp_ge] at c52; rw [Int64.le_iff_toInt_le] at c52; rw [Int64.lt_iff_toInt_lt]; omega)), by rw [ht]; exact hP, va_K.moved hW.alike hK, hD⟩, hS.F ht⟩) hS.2.2 dX3_isLess_60
  · refine lv_iload_n hx hb dX3_isLess_0 rfl (lv_at hl 2 rfl) ?_
    refine lv_tableIn (tgt := 61) (off := 60) hx hb dX3_isLess_1 (by decide) (by decide) (by decide) (by decide) ?_
    refine lv_iload_n hx hb dX3_isLess_61 rfl (lv_at hl 1 rfl) ?_
    refine lv_iload_n hx hb dX3_isLess_62 rfl (lv_at hl 0 rfl) ?_
    refine lv_icmp_ge (tgt := 70) hx hb dX3_isLess_63 (by decide) (fun c63 => ?_) (fun c63 => ?_)
    · refine lv_iconst (v := (nI 0)) hx hb dX3_isLess_70 (by decide) ?_
      exact W.zret (v := (nI 0)) hx hb hr rfl (fun tS ht hW => ⟨⟨(nI 0), (), rfl, tr_f (fun q => ng_lt (mk2.mp q) c63), by rw [ht]; exact hP, va_K.moved hW.alike hK, hD⟩, hS.F ht⟩) hS.2.2 dX3_isLess_71
    · refine lv_iconst (v := (nI 1)) hx hb dX3_isLess_66 (by decide) ?_
      refine lv_goto (tgt := 71) hx hb dX3_isLess_67 (by decide) ?_
      exact W.zret (v := (nI 1)) hx hb hr rfl (fun tS ht hW => ⟨⟨(nI 1), (), rfl, tr_t (mk2.mpr (ng_le c63)), by rw [ht]; exact hP, va_K.moved hW.alike hK, hD⟩, hS.F ht⟩) hS.2.2 dX3_isLess_71
  · refine lv_iload_n hx hb dX3_isLess_0 rfl (lv_at hl 2 rfl) ?_
    refine lv_tableOut (tgt := 72) hx hb dX3_isLess_1 (by decide) (by decide) ?_
    refine lv_iload_n hx hb dX3_isLess_72 rfl (lv_at hl 0 rfl) ?_
    refine lv_sipush (v := (nI 255)) hx hb dX3_isLess_73 (by decide) ?_
    refine lv_iand hx hb dX3_isLess_76 ?_
    refine lv_iload_n hx hb dX3_isLess_77 rfl (lv_at hl 1 rfl) ?_
    refine lv_sipush (v := (nI 255)) hx hb dX3_isLess_78 (by decide) ?_
    refine lv_iand hx hb dX3_isLess_81 ?_
    refine lv_icmp_ge (tgt := 89) hx hb dX3_isLess_82 (by decide) (fun c82 => ?_) (fun c82 => ?_)
    · refine lv_iconst (v := (nI 0)) hx hb dX3_isLess_89 (by decide) ?_
      exact W.zret (v := (nI 0)) hx hb hr rfl (fun tS ht hW => ⟨⟨(nI 0), (), rfl, tr_f (fun q => ng_lt (mk3.mp q) c82), by rw [ht]; exact hP, va_K.moved hW.alike hK, hD⟩, hS.F ht⟩) hS.2.2 dX3_isLess_90
    · refine lv_iconst (v := (nI 1)) hx hb dX3_isLess_85 (by decide) ?_
      refine lv_goto (tgt := 90) hx hb dX3_isLess_86 (by decide) ?_
      exact W.zret (v := (nI 1)) hx hb hr rfl (fun tS ht hW => ⟨⟨(nI 1), (), rfl, tr_t (mk3.mpr (ng_le c82)), by rw [ht]; exact hP, va_K.moved hW.alike hK, hD⟩, hS.F ht⟩) hS.2.2 dX3_isLess_90
set_option maxHeartbeats 4000000 in
set_option maxRecDepth 100000 in
theorem c_X3_isStretch (l : Launch) (dC : Nat → ClassId) (dI : Nat → Nat → Nat) (sz : Nat) (h k t k2 t2 : Nat) (cA cB cC cD : ClassId) (n : Nat) (K T NK NT : Nat → Int32) (hn : n ≤ 500) (x y : Int32) : Met l yX3_isStretch wsX3_isStretch ({ frames := 0, cells := 0, slots := 0, locals := 0 }) (va_Pc [.ref h, .int x, .int y] (fun U => U.heap.size = sz ∧ va_P (dC, dI) vwCl [(h, .inr (2, [.ref k, .ref t, .int (nI n), .ref k2, .ref t2])), (k, .inl (cA, 500, .inl K)), (t, .inl (cB, 500, .inl T)), (k2, .inl (cC, 500, .inl NK)), (t2, .inl (cD, 500, .inl NT))] U.heap ∧ va_K (dC, dI) vwCl [(cA, .int), (cB, .int), (cC, .int), (cD, .int)] U ∧ va_D (fun _ => True) [(h, .inr (2, [.ref k, .ref t, .int (nI n), .ref k2, .ref t2])), (k, .inl (cA, 500, .inl K)), (t, .inl (cB, 500, .inl T)), (k2, .inl (cC, 500, .inl NK)), (t2, .inl (cD, 500, .inl NT))])) (va_Qi (fun r u => tr r (stP n x y) ∧ u = (K, T, n, NK, NT)) (atM dC dI (va_A [(h, .inr (2, [.ref k, .ref t, .int (nI n), .ref k2, .ref t2])), (k, .inl (cA, 500, .inl K)), (t, .inl (cB, 500, .inl T)), (k2, .inl (cC, 500, .inl NK)), (t2, .inl (cD, 500, .inl NT))] sz) h k t k2 t2 cA cB cC cD) (va_A [(h, .inr (2, [.ref k, .ref t, .int (nI n), .ref k2, .ref t2])), (k, .inl (cA, 500, .inl K)), (t, .inl (cB, 500, .inl T)), (k2, .inl (cC, 500, .inl NK)), (t2, .inl (cD, 500, .inl NT))] sz)) 0 0 (va_A [(h, .inr (2, [.ref k, .ref t, .int (nI n), .ref k2, .ref t2])), (k, .inl (cA, 500, .inl K)), (t, .inl (cB, 500, .inl T)), (k2, .inl (cC, 500, .inl NK)), (t2, .inl (cD, 500, .inl NT))] sz) := by
  refine Met.ofW (cc := cX3_isStretch) (maxL := 3) (ret := (some .boolean)) (by decide) rfl ?_
  intro p e s m args below meth c s₁ B hml hv
  obtain ⟨rfl, hsz, hP, hK, hD0⟩ := hv
  have hx := B.exec
  have hb := B.bytes
  have hr := B.returns
  have hts := atoms_spec (ws := wsX3_isStretch) B.pre
  have hown : s.vm.findClass RX3 = some m.cls := findClass_of_methodNamed B.named
  have hlocks := B.notSynchronized
  subst hsz
  have hD := hD0.self (sz := s.heap.size)
  generalize hAe : va_A [(h, .inr (2, [.ref k, .ref t, .int (nI n), .ref k2, .ref t2])), (k, .inl (cA, 500, .inl K)), (t, .inl (cB, 500, .inl T)), (k2, .inl (cC, 500, .inl NK)), (t2, .inl (cD, 500, .inl NT))] s.heap.size = A at hD ⊢
  have hA : ∀ q : Nat, s.heap.size ≤ q → A q := fun q h => by rw [← hAe]; exact Or.inr h
  have hS : va_S A s.heap s.heap [] := va_S.rf
  have hP : va_P (dC, dI) vwCl [(h, .inr (2, [.ref k, .ref t, .int (nI n), .ref k2, .ref t2])), (k, .inl (cA, 500, .inl K)), (t, .inl (cB, 500, .inl T)), (k2, .inl (cC, 500, .inl NK)), (t2, .inl (cD, 500, .inl NT))] s.heap := hP
  have hl := lv_entry ([.ref h, .int x, .int y]) (n := 3) (Nat.le_of_ble_eq_true rfl)
  rw [lg_entry_eq]
  generalize (lg_sl ([.ref h, .int x, .int y]) ++ List.replicate (3 - (lg_sl ([.ref h, .int x, .int y])).length) Slot.unset).toArray = ls at hl ⊢
  have hl : lv_has ls 3 [(0, .ref h), (1, .int x), (2, .int y)] := hl
  refine lv_iload_n hx hb dX3_isStretch_0 rfl (lv_at hl 1 rfl) ?_
  refine lv_if_lt (tgt := 21) hx hb dX3_isStretch_1 (by decide) (fun c1 => ?_) (fun c1 => ?_)
  · refine lv_iconst (v := (nI 0)) hx hb dX3_isStretch_21 (by decide) ?_
    exact W.zret (v := (nI 0)) hx hb hr rfl (fun tS ht hW => ⟨⟨(nI 0), (K, T, n, NK, NT), rfl, ⟨tr_f (fun q => q.1 c1), rfl⟩, by rw [ht]; exact hP, va_K.moved hW.alike hK, hD⟩, hS.F ht⟩) hS.2.2 dX3_isStretch_22
  · refine lv_iload_n hx hb dX3_isStretch_4 rfl (lv_at hl 1 rfl) ?_
    refine lv_iload_n hx hb dX3_isStretch_5 rfl (lv_at hl 2 rfl) ?_
    refine lv_icmp_gt (tgt := 21) hx hb dX3_isStretch_6 (by decide) (fun c6 => ?_) (fun c6 => ?_)
    · refine lv_iconst (v := (nI 0)) hx hb dX3_isStretch_21 (by decide) ?_
      exact W.zret (v := (nI 0)) hx hb hr rfl (fun tS ht hW => ⟨⟨(nI 0), (K, T, n, NK, NT), rfl, ⟨tr_f (fun q => q.2.1 c6), rfl⟩, by rw [ht]; exact hP, va_K.moved hW.alike hK, hD⟩, hS.F ht⟩) hS.2.2 dX3_isStretch_22
    · refine lv_iload_n hx hb dX3_isStretch_9 rfl (lv_at hl 2 rfl) ?_
      refine lv_aload_n hx hb dX3_isStretch_10 rfl (lv_at hl 0 rfl) ?_
      refine va_get (D := (dC, dI)) (ci := 2) (v := .int (nI n)) (C := RX3) (T := TX3) (N := 5) hx hb hts (by decide +kernel) hown hK hP 0 rfl rfl 2 (by decide) (hts (.fieldLink RX3 22 "RowPressModel" "many" "I") (by decide +kernel)) (fun _ h9 => h9) rfl dX3_isStretch_11 ?_
      refine lv_icmp_gt (tgt := 21) hx hb dX3_isStretch_14 (by decide) (fun c14 => ?_) (fun c14 => ?_)
      · refine lv_iconst (v := (nI 0)) hx hb dX3_isStretch_21 (by decide) ?_
        exact W.zret (v := (nI 0)) hx hb hr rfl (fun tS ht hW => ⟨⟨(nI 0), (K, T, n, NK, NT), rfl, ⟨tr_f (fun q => q.2.2 c14), rfl⟩, by rw [ht]; exact hP, va_K.moved hW.alike hK, hD⟩, hS.F ht⟩) hS.2.2 dX3_isStretch_22
      · refine lv_iconst (v := (nI 1)) hx hb dX3_isStretch_17 (by decide) ?_
        refine lv_goto (tgt := 22) hx hb dX3_isStretch_18 (by decide) ?_
        exact W.zret (v := (nI 1)) hx hb hr rfl (fun tS ht hW => ⟨⟨(nI 1), (K, T, n, NK, NT), rfl, ⟨tr_t ⟨c1, c6, c14⟩, rfl⟩, by rw [ht]; exact hP, va_K.moved hW.alike hK, hD⟩, hS.F ht⟩) hS.2.2 dX3_isStretch_22
set_option maxHeartbeats 4000000 in
set_option maxRecDepth 100000 in
theorem c_X3_isSorted (l : Launch) (dC : Nat → ClassId) (dI : Nat → Nat → Nat) (sz : Nat) (h k t k2 t2 : Nat) (cA cB cC cD : ClassId) (n : Nat) (K T NK NT : Nat → Int32) (a b o : Nat) (hab : a ≤ b) (hb5 : b ≤ 500) (ho : o < 4) : Met l yX3_isSorted wsX3_isSorted ({ frames := 1, cells := 0, slots := 0, locals := 22 }) (va_Pc [.ref h, .int (nI a), .int (nI b), .int (nI o)] (fun U => U.heap.size = sz ∧ va_P (dC, dI) vwCl [(h, .inr (2, [.ref k, .ref t, .int (nI n), .ref k2, .ref t2])), (k, .inl (cA, 500, .inl K)), (t, .inl (cB, 500, .inl T)), (k2, .inl (cC, 500, .inl NK)), (t2, .inl (cD, 500, .inl NT))] U.heap ∧ va_K (dC, dI) vwCl [(cA, .int), (cB, .int), (cC, .int), (cD, .int)] U ∧ va_D (fun _ => True) [(h, .inr (2, [.ref k, .ref t, .int (nI n), .ref k2, .ref t2])), (k, .inl (cA, 500, .inl K)), (t, .inl (cB, 500, .inl T)), (k2, .inl (cC, 500, .inl NK)), (t2, .inl (cD, 500, .inl NT))])) (va_Qi (fun r u => tr r (srt (mk o) (mZ K T) a b) ∧ u = (K, T, n, NK, NT)) (atM dC dI (va_A [(h, .inr (2, [.ref k, .ref t, .int (nI n), .ref k2, .ref t2])), (k, .inl (cA, 500, .inl K)), (t, .inl (cB, 500, .inl T)), (k2, .inl (cC, 500, .inl NK)), (t2, .inl (cD, 500, .inl NT))] sz) h k t k2 t2 cA cB cC cD) (va_A [(h, .inr (2, [.ref k, .ref t, .int (nI n), .ref k2, .ref t2])), (k, .inl (cA, 500, .inl K)), (t, .inl (cB, 500, .inl T)), (k2, .inl (cC, 500, .inl NK)), (t2, .inl (cD, 500, .inl NT))] sz)) 0 0 (va_A [(h, .inr (2, [.ref k, .ref t, .int (nI n), .ref k2, .ref t2])), (k, .inl (cA, 500, .inl K)), (t, .inl (cB, 500, .inl T)), (k2, .inl (cC, 500, .inl NK)), (t2, .inl (cD, 500, .inl NT))] sz) := by
  refine Met.ofW (cc := cX3_isSorted) (maxL := 5) (ret := (some .boolean)) (by decide) rfl ?_
  intro p e s m args below meth c s₁ B hml hv
  obtain ⟨rfl, hsz, hP, hK, hD0⟩ := hv
  have hx := B.exec
  have hb := B.bytes
  have hr := B.returns
  have hts := atoms_spec (ws := wsX3_isSorted) B.pre
  have hown : s.vm.findClass RX3 = some m.cls := findClass_of_methodNamed B.named
  have hlocks := B.notSynchronized
  subst hsz
  have hD := hD0.self (sz := s.heap.size)
  generalize hAe : va_A [(h, .inr (2, [.ref k, .ref t, .int (nI n), .ref k2, .ref t2])), (k, .inl (cA, 500, .inl K)), (t, .inl (cB, 500, .inl T)), (k2, .inl (cC, 500, .inl NK)), (t2, .inl (cD, 500, .inl NT))] s.heap.size = A at hD ⊢
  have hA : ∀ q : Nat, s.heap.size ≤ q → A q := fun q h => by rw [← hAe]; exact Or.inr h
  have hS : va_S A s.heap s.heap [] := va_S.rf
  have hP : va_P (dC, dI) vwCl [(h, .inr (2, [.ref k, .ref t, .int (nI n), .ref k2, .ref t2])), (k, .inl (cA, 500, .inl K)), (t, .inl (cB, 500, .inl T)), (k2, .inl (cC, 500, .inl NK)), (t2, .inl (cD, 500, .inl NT))] s.heap := hP
  have hl := lv_entry ([.ref h, .int (nI a), .int (nI b), .int (nI o)]) (n := 5) (Nat.le_of_ble_eq_true rfl)
  rw [lg_entry_eq]
  generalize (lg_sl ([.ref h, .int (nI a), .int (nI b), .int (nI o)]) ++ List.replicate (5 - (lg_sl ([.ref h, .int (nI a), .int (nI b), .int (nI o)])).length) Slot.unset).toArray = ls at hl ⊢
  have hl : lv_has ls 5 [(0, .ref h), (1, .int (nI a)), (2, .int (nI b)), (3, .int (nI o))] := hl
  refine lv_iload_n hx hb dX3_isSorted_0 rfl (lv_at hl 1 rfl) ?_
  refine lv_iconst (v := (nI 1)) hx hb dX3_isSorted_1 (by decide) ?_
  refine lv_iadd hx hb dX3_isSorted_2 ?_
  refine lz_top (y := (nI (a + 1))) (nI_add _ _) ?_
  refine lv_istore (lv' := [(4, .int (nI (a + 1))), (0, .ref h), (1, .int (nI a)), (2, .int (nI b)), (3, .int (nI o))]) hx hb dX3_isSorted_3 hl (by decide) rfl (fun ls hl => ?_)
  refine lz_loop (σ := Nat) (μ := fun X_ => match X_ with | q => b + 1 - q) (Inv := fun X_ H locs ls => match X_ with | q => (a + 1 ≤ q) ∧ (q ≤ b + 1) ∧ (srt (mk o) (mZ K T) a q) ∧ va_P (dC, dI) vwCl [(h, .inr (2, [.ref k, .ref t, .int (nI n), .ref k2, .ref t2])), (k, .inl (cA, 500, .inl K)), (t, .inl (cB, 500, .inl T)), (k2, .inl (cC, 500, .inl NK)), (t2, .inl (cD, 500, .inl NT))] H ∧ va_D A [(h, .inr (2, [.ref k, .ref t, .int (nI n), .ref k2, .ref t2])), (k, .inl (cA, 500, .inl K)), (t, .inl (cB, 500, .inl T)), (k2, .inl (cC, 500, .inl NK)), (t2, .inl (cD, 500, .inl NT))] ∧ va_S A s.heap H locs ∧ lv_has ls 5 [(0, .ref h), (1, .int (nI a)), (2, .int (nI b)), (3, .int (nI o)), (4, .int (nI q))]) ?_ (a + 1) _ _ _ ?_
  · rintro q iha H locs ls ⟨va0, va1, va2, hP, hD, hS, hl⟩
    refine lv_iload hx hb dX3_isSorted_5 (lv_at hl 4 rfl) ?_
    refine lv_iload_n hx hb dX3_isSorted_7 rfl (lv_at hl 2 rfl) ?_
    refine lz_icmp_ge (tgt := 42) (by omega) (by omega) hx hb dX3_isSorted_8 (by decide) (fun c8 => ?_) (fun c8 => ?_)
    · refine lv_iconst (v := (nI 1)) hx hb dX3_isSorted_42 (by decide) ?_
      exact W.zret (v := (nI 1)) hx hb hr rfl (fun tS ht hW => ⟨⟨(nI 1), (K, T, n, NK, NT), rfl, ⟨tr_t (srt_sub va2 (Nat.le_refl _) (by omega)), rfl⟩, by rw [ht]; exact hP, va_K.moved hW.alike hK, hD⟩, hS.F ht⟩) hS.2.2 dX3_isSorted_43
    · refine lv_aload_n hx hb dX3_isSorted_11 rfl (lv_at hl 0 rfl) ?_
      refine va_get (D := (dC, dI)) (ci := 2) (v := .ref k) (C := RX3) (T := TX3) (N := 5) hx hb hts (by decide +kernel) hown hK hP 0 rfl rfl 0 (by decide) (hts (.fieldLink RX3 7 "RowPressModel" "keys" "[I") (by decide +kernel)) (fun _ h9 => h9) rfl dX3_isSorted_12 ?_
      refine lv_iload hx hb dX3_isSorted_15 (lv_at hl 4 rfl) ?_
      refine lz_iald hx hb hK hP 1 0 rfl rfl (j := q) (by omega) (by decide) dX3_isSorted_17 ?_
      refine lv_aload_n hx hb dX3_isSorted_18 rfl (lv_at hl 0 rfl) ?_
      refine va_get (D := (dC, dI)) (ci := 2) (v := .ref k) (C := RX3) (T := TX3) (N := 5) hx hb hts (by decide +kernel) hown hK hP 0 rfl rfl 0 (by decide) (hts (.fieldLink RX3 7 "RowPressModel" "keys" "[I") (by decide +kernel)) (fun _ h9 => h9) rfl dX3_isSorted_19 ?_
      refine lv_iload hx hb dX3_isSorted_22 (lv_at hl 4 rfl) ?_
      refine lv_iconst (v := (nI 1)) hx hb dX3_isSorted_24 (by decide) ?_
      refine lv_isub hx hb dX3_isSorted_25 ?_
      refine lz_top (y := (nI (q - 1))) (pk_sub (by omega)) ?_
      refine lz_iald hx hb hK hP 1 0 rfl rfl (j := q - 1) (by omega) (by decide) dX3_isSorted_26 ?_
      refine lv_iload_n hx hb dX3_isSorted_27 rfl (lv_at hl 3 rfl) ?_
      have hPc := hP.sub (ws' := []) [] rfl
      have hDc := hD.sub (ws' := []) [] (by decide) rfl
      have hKc := hK.sub (tys' := []) [] rfl
      have hFc := va_free (wc := []) hD hS hA [] rfl
      refine va_calli (va_runS (As := [.int (K q), .int (K (q - 1)), .int (nI o)]) (rest := []) ⟨hx, hb, hml, hown, hts⟩ (c_X3_isLess l dC dI H.size (K q) (K (q - 1)) o ho) (va_cwS 3 hts gX3_isSorted_X3_isLess rfl rfl rfl (by decide +kernel) ⟨Nat.le_of_ble_eq_true rfl, Nat.le_of_ble_eq_true rfl⟩) ⟨fun a U g mk q => by obtain ⟨q0, q1, qP, qK, qD⟩ := q; exact ⟨q0, q1, qP, va_K.moved (u := U) (U := U.calling g mk a) (Vm.Alike.refl U.vm) qK, qD⟩, fun U hU hW => ⟨rfl, by rw [hU], by rw [hU]; exact hPc, va_K.moved hW.alike hKc, hDc.weaken (fun _ _ _ _ => trivial)⟩⟩ rfl rfl hl.1 rfl (lv_room (Nat.le_of_ble_eq_true rfl)) dX3_isSorted_28 ⟨Nat.le_of_ble_eq_true rfl, Nat.le_of_ble_eq_true rfl⟩) hS (fun q _ h => hFc q h) hFc (fun r_1 u tS H1 locs ht hvm hw hB hz1 hk1 hS => ?_)
      have hq := hw
      obtain ⟨hP1, hK1, hD1⟩ := hB
      rw [ht] at hP1
      obtain ⟨hP, hD⟩ := va_join (wr := [(h, .inr (2, [.ref k, .ref t, .int (nI n), .ref k2, .ref t2])), (k, .inl (cA, 500, .inl K)), (t, .inl (cB, 500, .inl T)), (k2, .inl (cC, 500, .inl NK)), (t2, .inl (cD, 500, .inl NT))]) (w1 := []) hP hD [] [0, 1, 2, 3, 4] rfl rfl (by decide) (by decide) hk1 hFc hP1 hD1
      generalize H1 = H at hP hS ⊢
      have hP : va_P (dC, dI) vwCl [(h, .inr (2, [.ref k, .ref t, .int (nI n), .ref k2, .ref t2])), (k, .inl (cA, 500, .inl K)), (t, .inl (cB, 500, .inl T)), (k2, .inl (cC, 500, .inl NK)), (t2, .inl (cD, 500, .inl NT))] H := hP
      have hD : va_D A [(h, .inr (2, [.ref k, .ref t, .int (nI n), .ref k2, .ref t2])), (k, .inl (cA, 500, .inl K)), (t, .inl (cB, 500, .inl T)), (k2, .inl (cC, 500, .inl NK)), (t2, .inl (cD, 500, .inl NT))] := hD
      refine lv_if_eq (tgt := 36) hx hb dX3_isSorted_31 (by decide) (fun c31 => ?_) (fun c31 => ?_)
      · refine lv_iinc (v := (nI (q + 1))) (lv' := [(4, .int (nI (q + 1))), (0, .ref h), (1, .int (nI a)), (2, .int (nI b)), (3, .int (nI o))]) hx hb dX3_isSorted_36 hl (k := 4) rfl (by first | exact nI_add q 1 | (rw [← nI_add]; rfl)) (by decide) rfl (fun ls hl => ?_)
        refine lv_goto (tgt := 5) hx hb dX3_isSorted_39 (by decide) ?_
        exact iha (q + 1) (by show b + 1 - (q + 1) < b + 1 - q; omega) _ _ _ ⟨by omega, by omega, srt_snoc va2 (fun _ => Int.not_lt.mp (tr_0 hq c31)), hP, hD, hS, lv_sub hl [1, 2, 3, 4, 0] rfl⟩
      · refine lv_iconst (v := (nI 0)) hx hb dX3_isSorted_34 (by decide) ?_
        exact W.zret (v := (nI 0)) hx hb hr rfl (fun tS ht hW => ⟨⟨(nI 0), (K, T, n, NK, NT), rfl, ⟨tr_f (fun z => absurd (tr_1 hq c31) (Int.not_lt.mpr (z (q - 1) q (by omega) (by omega) (by omega)))), rfl⟩, by rw [ht]; exact hP, va_K.moved hW.alike hK, hD⟩, hS.F ht⟩) hS.2.2 dX3_isSorted_35
  · exact ⟨Nat.le_refl _, by omega, srt_short (by omega), hP, hD, hS, lv_sub hl [1, 2, 3, 4, 0] rfl⟩
set_option maxHeartbeats 4000000 in
set_option maxRecDepth 100000 in
theorem c_X3_put (l : Launch) (dC : Nat → ClassId) (dI : Nat → Nat → Nat) (sz : Nat) (h k t k2 t2 : Nat) (cA cB cC cD : ClassId) (n : Nat) (K T NK NT : Nat → Int32) (hn : n ≤ 500) (x y : Int32) : Met l yX3_put wsX3_put ({ frames := 0, cells := 0, slots := 0, locals := 0 }) (va_Pc [.ref h, .int x, .int y] (fun U => U.heap.size = sz ∧ va_P (dC, dI) vwCl [(h, .inr (2, [.ref k, .ref t, .int (nI n), .ref k2, .ref t2])), (k, .inl (cA, 500, .inl K)), (t, .inl (cB, 500, .inl T)), (k2, .inl (cC, 500, .inl NK)), (t2, .inl (cD, 500, .inl NT))] U.heap ∧ va_K (dC, dI) vwCl [(cA, .int), (cB, .int), (cC, .int), (cD, .int)] U ∧ va_D (fun _ => True) [(h, .inr (2, [.ref k, .ref t, .int (nI n), .ref k2, .ref t2])), (k, .inl (cA, 500, .inl K)), (t, .inl (cB, 500, .inl T)), (k2, .inl (cC, 500, .inl NK)), (t2, .inl (cD, 500, .inl NT))])) (va_Qi (fun r u => Qput n (mZ K T) x y r u.2.2.1 (mZ u.1 u.2.1)) (atM dC dI (va_A [(h, .inr (2, [.ref k, .ref t, .int (nI n), .ref k2, .ref t2])), (k, .inl (cA, 500, .inl K)), (t, .inl (cB, 500, .inl T)), (k2, .inl (cC, 500, .inl NK)), (t2, .inl (cD, 500, .inl NT))] sz) h k t k2 t2 cA cB cC cD) (va_A [(h, .inr (2, [.ref k, .ref t, .int (nI n), .ref k2, .ref t2])), (k, .inl (cA, 500, .inl K)), (t, .inl (cB, 500, .inl T)), (k2, .inl (cC, 500, .inl NK)), (t2, .inl (cD, 500, .inl NT))] sz)) 0 0 (va_A [(h, .inr (2, [.ref k, .ref t, .int (nI n), .ref k2, .ref t2])), (k, .inl (cA, 500, .inl K)), (t, .inl (cB, 500, .inl T)), (k2, .inl (cC, 500, .inl NK)), (t2, .inl (cD, 500, .inl NT))] sz) := by
  refine Met.ofW (cc := cX3_put) (maxL := 3) (ret := (some .int)) (by decide) rfl ?_
  intro p e s m args below meth c s₁ B hml hv
  obtain ⟨rfl, hsz, hP, hK, hD0⟩ := hv
  have hx := B.exec
  have hb := B.bytes
  have hr := B.returns
  have hts := atoms_spec (ws := wsX3_put) B.pre
  have hown : s.vm.findClass RX3 = some m.cls := findClass_of_methodNamed B.named
  have hlocks := B.notSynchronized
  subst hsz
  have hD := hD0.self (sz := s.heap.size)
  generalize hAe : va_A [(h, .inr (2, [.ref k, .ref t, .int (nI n), .ref k2, .ref t2])), (k, .inl (cA, 500, .inl K)), (t, .inl (cB, 500, .inl T)), (k2, .inl (cC, 500, .inl NK)), (t2, .inl (cD, 500, .inl NT))] s.heap.size = A at hD ⊢
  have hA : ∀ q : Nat, s.heap.size ≤ q → A q := fun q h => by rw [← hAe]; exact Or.inr h
  have hS : va_S A s.heap s.heap [] := va_S.rf
  have hP : va_P (dC, dI) vwCl [(h, .inr (2, [.ref k, .ref t, .int (nI n), .ref k2, .ref t2])), (k, .inl (cA, 500, .inl K)), (t, .inl (cB, 500, .inl T)), (k2, .inl (cC, 500, .inl NK)), (t2, .inl (cD, 500, .inl NT))] s.heap := hP
  have hl := lv_entry ([.ref h, .int x, .int y]) (n := 3) (Nat.le_of_ble_eq_true rfl)
  rw [lg_entry_eq]
  generalize (lg_sl ([.ref h, .int x, .int y]) ++ List.replicate (3 - (lg_sl ([.ref h, .int x, .int y])).length) Slot.unset).toArray = ls at hl ⊢
  have hl : lv_has ls 3 [(0, .ref h), (1, .int x), (2, .int y)] := hl
  refine lv_aload_n hx hb dX3_put_0 rfl (lv_at hl 0 rfl) ?_
  refine va_get (D := (dC, dI)) (ci := 2) (v := .int (nI n)) (C := RX3) (T := TX3) (N := 5) hx hb hts (by decide +kernel) hown hK hP 0 rfl rfl 2 (by decide) (hts (.fieldLink RX3 22 "RowPressModel" "many" "I") (by decide +kernel)) (fun _ h9 => h9) rfl dX3_put_1 ?_
  refine lv_sipush (v := (nI 500)) hx hb dX3_put_4 (by decide) ?_
  refine lz_icmp_ne (tgt := 12) (by omega) (by omega) hx hb dX3_put_7 (by decide) (fun c7 => ?_) (fun c7 => ?_)
  · have hlt : n < 500 := by omega
    refine lv_aload_n hx hb dX3_put_12 rfl (lv_at hl 0 rfl) ?_
    refine va_get (D := (dC, dI)) (ci := 2) (v := .ref k) (C := RX3) (T := TX3) (N := 5) hx hb hts (by decide +kernel) hown hK hP 0 rfl rfl 0 (by decide) (hts (.fieldLink RX3 7 "RowPressModel" "keys" "[I") (by decide +kernel)) (fun _ h9 => h9) rfl dX3_put_13 ?_
    refine lv_aload_n hx hb dX3_put_16 rfl (lv_at hl 0 rfl) ?_
    refine va_get (D := (dC, dI)) (ci := 2) (v := .int (nI n)) (C := RX3) (T := TX3) (N := 5) hx hb hts (by decide +kernel) hown hK hP 0 rfl rfl 2 (by decide) (hts (.fieldLink RX3 22 "RowPressModel" "many" "I") (by decide +kernel)) (fun _ h9 => h9) rfl dX3_put_17 ?_
    refine lv_iload_n hx hb dX3_put_20 rfl (lv_at hl 1 rfl) ?_
    refine lz_iast hx hb hK hP hD hS 1 0 rfl rfl (j := n) (x := x) (by omega) (by decide) dX3_put_21 (fun H locs hP hD hS => ?_)
    have hP : va_P (dC, dI) vwCl [(h, .inr (2, [.ref k, .ref t, .int (nI n), .ref k2, .ref t2])), (k, .inl (cA, 500, .inl (upd K n x))), (t, .inl (cB, 500, .inl T)), (k2, .inl (cC, 500, .inl NK)), (t2, .inl (cD, 500, .inl NT))] H := hP
    have hD : va_D A [(h, .inr (2, [.ref k, .ref t, .int (nI n), .ref k2, .ref t2])), (k, .inl (cA, 500, .inl (upd K n x))), (t, .inl (cB, 500, .inl T)), (k2, .inl (cC, 500, .inl NK)), (t2, .inl (cD, 500, .inl NT))] := hD
    refine lv_aload_n hx hb dX3_put_22 rfl (lv_at hl 0 rfl) ?_
    refine va_get (D := (dC, dI)) (ci := 2) (v := .ref t) (C := RX3) (T := TX3) (N := 5) hx hb hts (by decide +kernel) hown hK hP 0 rfl rfl 1 (by decide) (hts (.fieldLink RX3 13 "RowPressModel" "tags" "[I") (by decide +kernel)) (fun _ h9 => h9) rfl dX3_put_23 ?_
    refine lv_aload_n hx hb dX3_put_26 rfl (lv_at hl 0 rfl) ?_
    refine va_get (D := (dC, dI)) (ci := 2) (v := .int (nI n)) (C := RX3) (T := TX3) (N := 5) hx hb hts (by decide +kernel) hown hK hP 0 rfl rfl 2 (by decide) (hts (.fieldLink RX3 22 "RowPressModel" "many" "I") (by decide +kernel)) (fun _ h9 => h9) rfl dX3_put_27 ?_
    refine lv_iload_n hx hb dX3_put_30 rfl (lv_at hl 2 rfl) ?_
    refine lz_iast hx hb hK hP hD hS 2 1 rfl rfl (j := n) (x := y) (by omega) (by decide) dX3_put_31 (fun H locs hP hD hS => ?_)
    have hP : va_P (dC, dI) vwCl [(h, .inr (2, [.ref k, .ref t, .int (nI n), .ref k2, .ref t2])), (k, .inl (cA, 500, .inl (upd K n x))), (t, .inl (cB, 500, .inl (upd T n y))), (k2, .inl (cC, 500, .inl NK)), (t2, .inl (cD, 500, .inl NT))] H := hP
    have hD : va_D A [(h, .inr (2, [.ref k, .ref t, .int (nI n), .ref k2, .ref t2])), (k, .inl (cA, 500, .inl (upd K n x))), (t, .inl (cB, 500, .inl (upd T n y))), (k2, .inl (cC, 500, .inl NK)), (t2, .inl (cD, 500, .inl NT))] := hD
    refine lv_aload_n hx hb dX3_put_32 rfl (lv_at hl 0 rfl) ?_
    refine lv_dup hx hb dX3_put_33 rfl ?_
    refine va_get (D := (dC, dI)) (ci := 2) (v := .int (nI n)) (C := RX3) (T := TX3) (N := 5) hx hb hts (by decide +kernel) hown hK hP 0 rfl rfl 2 (by decide) (hts (.fieldLink RX3 22 "RowPressModel" "many" "I") (by decide +kernel)) (fun _ h9 => h9) rfl dX3_put_34 ?_
    refine lv_iconst (v := (nI 1)) hx hb dX3_put_37 (by decide) ?_
    refine lv_iadd hx hb dX3_put_38 ?_
    refine lz_top (y := (nI (n + 1))) (nI_add _ _) ?_
    refine va_put (D := (dC, dI)) (ci := 2) (v := .int (nI (n + 1))) (ty := .int) (C := RX3) (T := TX3) (N := 5) hx hb hts (by decide +kernel) tyX3 tyX3_ok nmX3 hown hK hP hD hS 0 rfl rfl 2 (by decide) (hts (.fieldLink RX3 22 "RowPressModel" "many" "I") (by decide +kernel)) (fun _ h9 => h9) rfl (by decide +kernel) rfl rfl (Nat.le_of_ble_eq_true rfl) dX3_put_39 (fun H locs hP hD hS => ?_)
    have hP : va_P (dC, dI) vwCl [(h, .inr (2, [.ref k, .ref t, .int (nI (n + 1)), .ref k2, .ref t2])), (k, .inl (cA, 500, .inl (upd K n x))), (t, .inl (cB, 500, .inl (upd T n y))), (k2, .inl (cC, 500, .inl NK)), (t2, .inl (cD, 500, .inl NT))] H := hP
    have hD : va_D A [(h, .inr (2, [.ref k, .ref t, .int (nI (n + 1)), .ref k2, .ref t2])), (k, .inl (cA, 500, .inl (upd K n x))), (t, .inl (cB, 500, .inl (upd T n y))), (k2, .inl (cC, 500, .inl NK)), (t2, .inl (cD, 500, .inl NT))] := hD
    refine lv_aload_n hx hb dX3_put_42 rfl (lv_at hl 0 rfl) ?_
    refine va_get (D := (dC, dI)) (ci := 2) (v := .int (nI (n + 1))) (C := RX3) (T := TX3) (N := 5) hx hb hts (by decide +kernel) hown hK hP 0 rfl rfl 2 (by decide) (hts (.fieldLink RX3 22 "RowPressModel" "many" "I") (by decide +kernel)) (fun _ h9 => h9) rfl dX3_put_43 ?_
    exact W.iret (v := (nI (n + 1))) hx hb hr (fun tS ht hW => ⟨⟨(nI (n + 1)), (upd K n x, upd T n y, n + 1, NK, NT), rfl, Or.inr ⟨hlt, rfl, rfl, by rw [mZ_put, if_pos rfl], fun j z => by rw [mZ_put, if_neg (by omega)]⟩, by rw [ht]; exact hP, va_K.moved hW.alike hK, hD⟩, hS.F ht⟩) hS.2.2 dX3_put_46
  · refine lv_iconst (v := (-1)) hx hb dX3_put_10 (by decide) ?_
    exact W.iret (v := (-1)) hx hb hr (fun tS ht hW => ⟨⟨(-1), (K, T, n, NK, NT), rfl, Or.inl ⟨c7, rfl, sam_rf⟩, by rw [ht]; exact hP, va_K.moved hW.alike hK, hD⟩, hS.F ht⟩) hS.2.2 dX3_put_11
set_option maxHeartbeats 4000000 in
set_option maxRecDepth 100000 in
theorem c_X3_run (l : Launch) (dC : Nat → ClassId) (dI : Nat → Nat → Nat) (sz : Nat) (h k t k2 t2 : Nat) (cA cB cC cD : ClassId) (n : Nat) (K T NK NT : Nat → Int32) (hn : n ≤ 500) (x y v w : Int32) : Met l yX3_run wsX3_run ({ frames := 0, cells := 0, slots := 0, locals := 0 }) (va_Pc [.ref h, .int x, .int y, .int v, .int w] (fun U => U.heap.size = sz ∧ va_P (dC, dI) vwCl [(h, .inr (2, [.ref k, .ref t, .int (nI n), .ref k2, .ref t2])), (k, .inl (cA, 500, .inl K)), (t, .inl (cB, 500, .inl T)), (k2, .inl (cC, 500, .inl NK)), (t2, .inl (cD, 500, .inl NT))] U.heap ∧ va_K (dC, dI) vwCl [(cA, .int), (cB, .int), (cC, .int), (cD, .int)] U ∧ va_D (fun _ => True) [(h, .inr (2, [.ref k, .ref t, .int (nI n), .ref k2, .ref t2])), (k, .inl (cA, 500, .inl K)), (t, .inl (cB, 500, .inl T)), (k2, .inl (cC, 500, .inl NK)), (t2, .inl (cD, 500, .inl NT))])) (va_Qi (fun r u => Qrun n (mZ K T) x y v w r u.2.2.1 (mZ u.1 u.2.1)) (atM dC dI (va_A [(h, .inr (2, [.ref k, .ref t, .int (nI n), .ref k2, .ref t2])), (k, .inl (cA, 500, .inl K)), (t, .inl (cB, 500, .inl T)), (k2, .inl (cC, 500, .inl NK)), (t2, .inl (cD, 500, .inl NT))] sz) h k t k2 t2 cA cB cC cD) (va_A [(h, .inr (2, [.ref k, .ref t, .int (nI n), .ref k2, .ref t2])), (k, .inl (cA, 500, .inl K)), (t, .inl (cB, 500, .inl T)), (k2, .inl (cC, 500, .inl NK)), (t2, .inl (cD, 500, .inl NT))] sz)) 0 0 (va_A [(h, .inr (2, [.ref k, .ref t, .int (nI n), .ref k2, .ref t2])), (k, .inl (cA, 500, .inl K)), (t, .inl (cB, 500, .inl T)), (k2, .inl (cC, 500, .inl NK)), (t2, .inl (cD, 500, .inl NT))] sz) := by
  refine Met.ofW (cc := cX3_run) (maxL := 6) (ret := (some .int)) (by decide) rfl ?_
  intro p e s m args below meth c s₁ B hml hv
  obtain ⟨rfl, hsz, hP, hK, hD0⟩ := hv
  have hx := B.exec
  have hb := B.bytes
  have hr := B.returns
  have hts := atoms_spec (ws := wsX3_run) B.pre
  have hown : s.vm.findClass RX3 = some m.cls := findClass_of_methodNamed B.named
  have hlocks := B.notSynchronized
  subst hsz
  have hD := hD0.self (sz := s.heap.size)
  generalize hAe : va_A [(h, .inr (2, [.ref k, .ref t, .int (nI n), .ref k2, .ref t2])), (k, .inl (cA, 500, .inl K)), (t, .inl (cB, 500, .inl T)), (k2, .inl (cC, 500, .inl NK)), (t2, .inl (cD, 500, .inl NT))] s.heap.size = A at hD ⊢
  have hA : ∀ q : Nat, s.heap.size ≤ q → A q := fun q h => by rw [← hAe]; exact Or.inr h
  have hS : va_S A s.heap s.heap [] := va_S.rf
  have hP : va_P (dC, dI) vwCl [(h, .inr (2, [.ref k, .ref t, .int (nI n), .ref k2, .ref t2])), (k, .inl (cA, 500, .inl K)), (t, .inl (cB, 500, .inl T)), (k2, .inl (cC, 500, .inl NK)), (t2, .inl (cD, 500, .inl NT))] s.heap := hP
  have hl := lv_entry ([.ref h, .int x, .int y, .int v, .int w]) (n := 6) (Nat.le_of_ble_eq_true rfl)
  rw [lg_entry_eq]
  generalize (lg_sl ([.ref h, .int x, .int y, .int v, .int w]) ++ List.replicate (6 - (lg_sl ([.ref h, .int x, .int y, .int v, .int w])).length) Slot.unset).toArray = ls at hl ⊢
  have hl : lv_has ls 6 [(0, .ref h), (1, .int x), (2, .int y), (3, .int v), (4, .int w)] := hl
  refine lv_iload_n hx hb dX3_run_0 rfl (lv_at hl 1 rfl) ?_
  refine lv_iconst (v := (nI 1)) hx hb dX3_run_1 (by decide) ?_
  refine lv_icmp_lt (tgt := 24) hx hb dX3_run_2 (by decide) (fun c2 => ?_) (fun c2 => ?_)
  · refine lv_iconst (v := (-1)) hx hb dX3_run_24 (by decide) ?_
    exact W.iret (v := (-1)) hx hb hr (fun tS ht hW => ⟨⟨(-1), (K, T, n, NK, NT), rfl, Or.inl ⟨⟨rfl, sam_rf⟩, fun z hz => (dN_e hz).1 c2⟩, by rw [ht]; exact hP, va_K.moved hW.alike hK, hD⟩, hS.F ht⟩) hS.2.2 dX3_run_25
  · refine lv_iload_n hx hb dX3_run_5 rfl (lv_at hl 1 rfl) ?_
    refine lv_sipush (v := (nI 500)) hx hb dX3_run_6 (by decide) ?_
    refine lv_icmp_gt (tgt := 24) hx hb dX3_run_9 (by decide) (fun c9 => ?_) (fun c9 => ?_)
    · refine lv_iconst (v := (-1)) hx hb dX3_run_24 (by decide) ?_
      exact W.iret (v := (-1)) hx hb hr (fun tS ht hW => ⟨⟨(-1), (K, T, n, NK, NT), rfl, Or.inl ⟨⟨rfl, sam_rf⟩, fun z hz => by obtain ⟨rfl, z1, z2⟩ := hz; exact absurd c9 (nI_nlt (by omega) (by omega))⟩, by rw [ht]; exact hP, va_K.moved hW.alike hK, hD⟩, hS.F ht⟩) hS.2.2 dX3_run_25
    · obtain ⟨z, rfl, hz1, hz5⟩ := rn_of c2 c9
      refine lv_aload_n hx hb dX3_run_12 rfl (lv_at hl 0 rfl) ?_
      refine va_get (D := (dC, dI)) (ci := 2) (v := .int (nI n)) (C := RX3) (T := TX3) (N := 5) hx hb hts (by decide +kernel) hown hK hP 0 rfl rfl 2 (by decide) (hts (.fieldLink RX3 22 "RowPressModel" "many" "I") (by decide +kernel)) (fun _ h9 => h9) rfl dX3_run_13 ?_
      refine lv_iload_n hx hb dX3_run_16 rfl (lv_at hl 1 rfl) ?_
      refine lv_iadd hx hb dX3_run_17 ?_
      refine lz_top (y := (nI (n + z))) (nI_add _ _) ?_
      refine lv_sipush (v := (nI 500)) hx hb dX3_run_18 (by decide) ?_
      refine lz_icmp_le (tgt := 26) (by omega) (by omega) hx hb dX3_run_21 (by decide) (fun c21 => ?_) (fun c21 => ?_)
      · refine lv_iconst (v := (nI 0)) hx hb dX3_run_26 (by decide) ?_
        refine lv_istore (lv' := [(5, .int (nI 0)), (0, .ref h), (1, .int (nI z)), (2, .int y), (3, .int v), (4, .int w)]) hx hb dX3_run_27 hl (by decide) rfl (fun ls hl => ?_)
        refine lz_loop (σ := Nat × (Nat → Int32) × (Nat → Int32)) (μ := fun X_ => match X_ with | (q, K1, T1) => z - q) (Inv := fun X_ H locs ls => match X_ with | (q, K1, T1) => (q ≤ z) ∧ (rnI K T K1 T1 n q y v w) ∧ va_P (dC, dI) vwCl [(h, .inr (2, [.ref k, .ref t, .int (nI n), .ref k2, .ref t2])), (k, .inl (cA, 500, .inl K1)), (t, .inl (cB, 500, .inl T1)), (k2, .inl (cC, 500, .inl NK)), (t2, .inl (cD, 500, .inl NT))] H ∧ va_D A [(h, .inr (2, [.ref k, .ref t, .int (nI n), .ref k2, .ref t2])), (k, .inl (cA, 500, .inl K1)), (t, .inl (cB, 500, .inl T1)), (k2, .inl (cC, 500, .inl NK)), (t2, .inl (cD, 500, .inl NT))] ∧ va_S A s.heap H locs ∧ lv_has ls 6 [(0, .ref h), (1, .int (nI z)), (2, .int y), (3, .int v), (4, .int w), (5, .int (nI q))]) ?_ (0, K, T) _ _ _ ?_
        · rintro ⟨q, K1, T1⟩ ihk H locs ls ⟨vk0, vk1, hP, hD, hS, hl⟩
          refine lv_iload hx hb dX3_run_29 (lv_at hl 5 rfl) ?_
          refine lv_iload_n hx hb dX3_run_31 rfl (lv_at hl 1 rfl) ?_
          refine lz_icmp_ge (tgt := 76) (by omega) (by omega) hx hb dX3_run_32 (by decide) (fun c32 => ?_) (fun c32 => ?_)
          · refine lv_aload_n hx hb dX3_run_76 rfl (lv_at hl 0 rfl) ?_
            refine lv_aload_n hx hb dX3_run_77 rfl (lv_at hl 0 rfl) ?_
            refine va_get (D := (dC, dI)) (ci := 2) (v := .int (nI n)) (C := RX3) (T := TX3) (N := 5) hx hb hts (by decide +kernel) hown hK hP 0 rfl rfl 2 (by decide) (hts (.fieldLink RX3 22 "RowPressModel" "many" "I") (by decide +kernel)) (fun _ h9 => h9) rfl dX3_run_78 ?_
            refine lv_iload_n hx hb dX3_run_81 rfl (lv_at hl 1 rfl) ?_
            refine lv_iadd hx hb dX3_run_82 ?_
            refine lz_top (y := (nI (n + z))) (nI_add _ _) ?_
            refine va_put (D := (dC, dI)) (ci := 2) (v := .int (nI (n + z))) (ty := .int) (C := RX3) (T := TX3) (N := 5) hx hb hts (by decide +kernel) tyX3 tyX3_ok nmX3 hown hK hP hD hS 0 rfl rfl 2 (by decide) (hts (.fieldLink RX3 22 "RowPressModel" "many" "I") (by decide +kernel)) (fun _ h9 => h9) rfl (by decide +kernel) rfl rfl (Nat.le_of_ble_eq_true rfl) dX3_run_83 (fun H locs hP hD hS => ?_)
            have hP : va_P (dC, dI) vwCl [(h, .inr (2, [.ref k, .ref t, .int (nI (n + z)), .ref k2, .ref t2])), (k, .inl (cA, 500, .inl K1)), (t, .inl (cB, 500, .inl T1)), (k2, .inl (cC, 500, .inl NK)), (t2, .inl (cD, 500, .inl NT))] H := hP
            have hD : va_D A [(h, .inr (2, [.ref k, .ref t, .int (nI (n + z)), .ref k2, .ref t2])), (k, .inl (cA, 500, .inl K1)), (t, .inl (cB, 500, .inl T1)), (k2, .inl (cC, 500, .inl NK)), (t2, .inl (cD, 500, .inl NT))] := hD
            refine lv_aload_n hx hb dX3_run_86 rfl (lv_at hl 0 rfl) ?_
            refine va_get (D := (dC, dI)) (ci := 2) (v := .int (nI (n + z))) (C := RX3) (T := TX3) (N := 5) hx hb hts (by decide +kernel) hown hK hP 0 rfl rfl 2 (by decide) (hts (.fieldLink RX3 22 "RowPressModel" "many" "I") (by decide +kernel)) (fun _ h9 => h9) rfl dX3_run_87 ?_
            exact W.iret (v := (nI (n + z))) hx hb hr (fun tS ht hW => ⟨⟨(nI (n + z)), (K1, T1, n + z, NK, NT), rfl, Or.inr ⟨z, ⟨rfl, hz1, c21⟩, rfl, rfl, vk1.1, fun i hi => vk1.2 i (by omega)⟩, by rw [ht]; exact hP, va_K.moved hW.alike hK, hD⟩, hS.F ht⟩) hS.2.2 dX3_run_90
          · refine lv_aload_n hx hb dX3_run_35 rfl (lv_at hl 0 rfl) ?_
            refine va_get (D := (dC, dI)) (ci := 2) (v := .ref k) (C := RX3) (T := TX3) (N := 5) hx hb hts (by decide +kernel) hown hK hP 0 rfl rfl 0 (by decide) (hts (.fieldLink RX3 7 "RowPressModel" "keys" "[I") (by decide +kernel)) (fun _ h9 => h9) rfl dX3_run_36 ?_
            refine lv_aload_n hx hb dX3_run_39 rfl (lv_at hl 0 rfl) ?_
            refine va_get (D := (dC, dI)) (ci := 2) (v := .int (nI n)) (C := RX3) (T := TX3) (N := 5) hx hb hts (by decide +kernel) hown hK hP 0 rfl rfl 2 (by decide) (hts (.fieldLink RX3 22 "RowPressModel" "many" "I") (by decide +kernel)) (fun _ h9 => h9) rfl dX3_run_40 ?_
            refine lv_iload hx hb dX3_run_43 (lv_at hl 5 rfl) ?_
            refine lv_iadd hx hb dX3_run_45 ?_
            refine lz_top (y := (nI (n + q))) (nI_add _ _) ?_
            refine lv_iload_n hx hb dX3_run_46 rfl (lv_at hl 2 rfl) ?_
            refine lv_iload hx hb dX3_run_47 (lv_at hl 5 rfl) ?_
            refine lv_iload_n hx hb dX3_run_49 rfl (lv_at hl 3 rfl) ?_
            refine lv_imul hx hb dX3_run_50 ?_
            refine lv_iadd hx hb dX3_run_51 ?_
            refine lz_iast hx hb hK hP hD hS 1 0 rfl rfl (j := n + q) (x := (y + ((nI q) * v))) (by omega) (by decide) dX3_run_52 (fun H locs hP hD hS => ?_)
            have hP : va_P (dC, dI) vwCl [(h, .inr (2, [.ref k, .ref t, .int (nI n), .ref k2, .ref t2])), (k, .inl (cA, 500, .inl (upd K1 (n + q) (y + ((nI q) * v))))), (t, .inl (cB, 500, .inl T1)), (k2, .inl (cC, 500, .inl NK)), (t2, .inl (cD, 500, .inl NT))] H := hP
            have hD : va_D A [(h, .inr (2, [.ref k, .ref t, .int (nI n), .ref k2, .ref t2])), (k, .inl (cA, 500, .inl (upd K1 (n + q) (y + ((nI q) * v))))), (t, .inl (cB, 500, .inl T1)), (k2, .inl (cC, 500, .inl NK)), (t2, .inl (cD, 500, .inl NT))] := hD
            refine lv_aload_n hx hb dX3_run_53 rfl (lv_at hl 0 rfl) ?_
            refine va_get (D := (dC, dI)) (ci := 2) (v := .ref t) (C := RX3) (T := TX3) (N := 5) hx hb hts (by decide +kernel) hown hK hP 0 rfl rfl 1 (by decide) (hts (.fieldLink RX3 13 "RowPressModel" "tags" "[I") (by decide +kernel)) (fun _ h9 => h9) rfl dX3_run_54 ?_
            refine lv_aload_n hx hb dX3_run_57 rfl (lv_at hl 0 rfl) ?_
            refine va_get (D := (dC, dI)) (ci := 2) (v := .int (nI n)) (C := RX3) (T := TX3) (N := 5) hx hb hts (by decide +kernel) hown hK hP 0 rfl rfl 2 (by decide) (hts (.fieldLink RX3 22 "RowPressModel" "many" "I") (by decide +kernel)) (fun _ h9 => h9) rfl dX3_run_58 ?_
            refine lv_iload hx hb dX3_run_61 (lv_at hl 5 rfl) ?_
            refine lv_iadd hx hb dX3_run_63 ?_
            refine lz_top (y := (nI (n + q))) (nI_add _ _) ?_
            refine lv_iload hx hb dX3_run_64 (lv_at hl 4 rfl) ?_
            refine lv_iload hx hb dX3_run_66 (lv_at hl 5 rfl) ?_
            refine lv_iadd hx hb dX3_run_68 ?_
            refine lz_iast hx hb hK hP hD hS 2 1 rfl rfl (j := n + q) (x := (w + (nI q))) (by omega) (by decide) dX3_run_69 (fun H locs hP hD hS => ?_)
            have hP : va_P (dC, dI) vwCl [(h, .inr (2, [.ref k, .ref t, .int (nI n), .ref k2, .ref t2])), (k, .inl (cA, 500, .inl (upd K1 (n + q) (y + ((nI q) * v))))), (t, .inl (cB, 500, .inl (upd T1 (n + q) (w + (nI q))))), (k2, .inl (cC, 500, .inl NK)), (t2, .inl (cD, 500, .inl NT))] H := hP
            have hD : va_D A [(h, .inr (2, [.ref k, .ref t, .int (nI n), .ref k2, .ref t2])), (k, .inl (cA, 500, .inl (upd K1 (n + q) (y + ((nI q) * v))))), (t, .inl (cB, 500, .inl (upd T1 (n + q) (w + (nI q))))), (k2, .inl (cC, 500, .inl NK)), (t2, .inl (cD, 500, .inl NT))] := hD
            refine lv_iinc (v := (nI (q + 1))) (lv' := [(5, .int (nI (q + 1))), (0, .ref h), (1, .int (nI z)), (2, .int y), (3, .int v), (4, .int w)]) hx hb dX3_run_70 hl (k := 5) rfl (by first | exact nI_add q 1 | (rw [← nI_add]; rfl)) (by decide) rfl (fun ls hl => ?_)
            refine lv_goto (tgt := 29) hx hb dX3_run_73 (by decide) ?_
            exact ihk ((q + 1), (upd K1 (n + q) (y + ((nI q) * v))), (upd T1 (n + q) (w + (nI q)))) (by show z - (q + 1) < z - q; omega) _ _ _ ⟨by omega, rnI_s vk1 rfl, hP, hD, hS, lv_sub hl [1, 2, 3, 4, 5, 0] rfl⟩
        · exact ⟨Nat.zero_le _, rnI_0, hP, hD, hS, lv_sub hl [1, 2, 3, 4, 5, 0] rfl⟩
      · refine lv_iconst (v := (-1)) hx hb dX3_run_24 (by decide) ?_
        exact W.iret (v := (-1)) hx hb hr (fun tS ht hW => ⟨⟨(-1), (K, T, n, NK, NT), rfl, Or.inl ⟨⟨rfl, sam_rf⟩, fun z9 hz => by obtain ⟨z0, z1, z2⟩ := hz; have z3 := (nI_eq (by omega) (by omega)).mp z0; omega⟩, by rw [ht]; exact hP, va_K.moved hW.alike hK, hD⟩, hS.F ht⟩) hS.2.2 dX3_run_25
set_option maxHeartbeats 4000000 in
set_option maxRecDepth 100000 in
theorem c_X3_clear (l : Launch) (dC : Nat → ClassId) (dI : Nat → Nat → Nat) (sz : Nat) (h k t k2 t2 : Nat) (cA cB cC cD : ClassId) (n : Nat) (K T NK NT : Nat → Int32) (hn : n ≤ 500) : Met l yX3_clear wsX3_clear ({ frames := 0, cells := 0, slots := 0, locals := 0 }) (va_Pc [.ref h] (fun U => U.heap.size = sz ∧ va_P (dC, dI) vwCl [(h, .inr (2, [.ref k, .ref t, .int (nI n), .ref k2, .ref t2])), (k, .inl (cA, 500, .inl K)), (t, .inl (cB, 500, .inl T)), (k2, .inl (cC, 500, .inl NK)), (t2, .inl (cD, 500, .inl NT))] U.heap ∧ va_K (dC, dI) vwCl [(cA, .int), (cB, .int), (cC, .int), (cD, .int)] U ∧ va_D (fun _ => True) [(h, .inr (2, [.ref k, .ref t, .int (nI n), .ref k2, .ref t2])), (k, .inl (cA, 500, .inl K)), (t, .inl (cB, 500, .inl T)), (k2, .inl (cC, 500, .inl NK)), (t2, .inl (cD, 500, .inl NT))])) (va_Qi (fun r u => r = nI n ∧ u.2.2.1 = 0) (atM dC dI (va_A [(h, .inr (2, [.ref k, .ref t, .int (nI n), .ref k2, .ref t2])), (k, .inl (cA, 500, .inl K)), (t, .inl (cB, 500, .inl T)), (k2, .inl (cC, 500, .inl NK)), (t2, .inl (cD, 500, .inl NT))] sz) h k t k2 t2 cA cB cC cD) (va_A [(h, .inr (2, [.ref k, .ref t, .int (nI n), .ref k2, .ref t2])), (k, .inl (cA, 500, .inl K)), (t, .inl (cB, 500, .inl T)), (k2, .inl (cC, 500, .inl NK)), (t2, .inl (cD, 500, .inl NT))] sz)) 0 0 (va_A [(h, .inr (2, [.ref k, .ref t, .int (nI n), .ref k2, .ref t2])), (k, .inl (cA, 500, .inl K)), (t, .inl (cB, 500, .inl T)), (k2, .inl (cC, 500, .inl NK)), (t2, .inl (cD, 500, .inl NT))] sz) := by
  refine Met.ofW (cc := cX3_clear) (maxL := 2) (ret := (some .int)) (by decide) rfl ?_
  intro p e s m args below meth c s₁ B hml hv
  obtain ⟨rfl, hsz, hP, hK, hD0⟩ := hv
  have hx := B.exec
  have hb := B.bytes
  have hr := B.returns
  have hts := atoms_spec (ws := wsX3_clear) B.pre
  have hown : s.vm.findClass RX3 = some m.cls := findClass_of_methodNamed B.named
  have hlocks := B.notSynchronized
  subst hsz
  have hD := hD0.self (sz := s.heap.size)
  generalize hAe : va_A [(h, .inr (2, [.ref k, .ref t, .int (nI n), .ref k2, .ref t2])), (k, .inl (cA, 500, .inl K)), (t, .inl (cB, 500, .inl T)), (k2, .inl (cC, 500, .inl NK)), (t2, .inl (cD, 500, .inl NT))] s.heap.size = A at hD ⊢
  have hA : ∀ q : Nat, s.heap.size ≤ q → A q := fun q h => by rw [← hAe]; exact Or.inr h
  have hS : va_S A s.heap s.heap [] := va_S.rf
  have hP : va_P (dC, dI) vwCl [(h, .inr (2, [.ref k, .ref t, .int (nI n), .ref k2, .ref t2])), (k, .inl (cA, 500, .inl K)), (t, .inl (cB, 500, .inl T)), (k2, .inl (cC, 500, .inl NK)), (t2, .inl (cD, 500, .inl NT))] s.heap := hP
  have hl := lv_entry ([.ref h]) (n := 2) (Nat.le_of_ble_eq_true rfl)
  rw [lg_entry_eq]
  generalize (lg_sl ([.ref h]) ++ List.replicate (2 - (lg_sl ([.ref h])).length) Slot.unset).toArray = ls at hl ⊢
  have hl : lv_has ls 2 [(0, .ref h)] := hl
  refine lv_aload_n hx hb dX3_clear_0 rfl (lv_at hl 0 rfl) ?_
  refine va_get (D := (dC, dI)) (ci := 2) (v := .int (nI n)) (C := RX3) (T := TX3) (N := 5) hx hb hts (by decide +kernel) hown hK hP 0 rfl rfl 2 (by decide) (hts (.fieldLink RX3 22 "RowPressModel" "many" "I") (by decide +kernel)) (fun _ h9 => h9) rfl dX3_clear_1 ?_
  refine lv_istore_n (lv' := [(1, .int (nI n)), (0, .ref h)]) hx hb dX3_clear_4 rfl hl (by decide) rfl (fun ls hl => ?_)
  refine lv_aload_n hx hb dX3_clear_5 rfl (lv_at hl 1 rfl) ?_
  refine lv_iconst (v := (nI 0)) hx hb dX3_clear_6 (by decide) ?_
  refine va_put (D := (dC, dI)) (ci := 2) (v := .int (nI 0)) (ty := .int) (C := RX3) (T := TX3) (N := 5) hx hb hts (by decide +kernel) tyX3 tyX3_ok nmX3 hown hK hP hD hS 0 rfl rfl 2 (by decide) (hts (.fieldLink RX3 22 "RowPressModel" "many" "I") (by decide +kernel)) (fun _ h9 => h9) rfl (by decide +kernel) rfl rfl (Nat.le_of_ble_eq_true rfl) dX3_clear_7 (fun H locs hP hD hS => ?_)
  have hP : va_P (dC, dI) vwCl [(h, .inr (2, [.ref k, .ref t, .int (nI 0), .ref k2, .ref t2])), (k, .inl (cA, 500, .inl K)), (t, .inl (cB, 500, .inl T)), (k2, .inl (cC, 500, .inl NK)), (t2, .inl (cD, 500, .inl NT))] H := hP
  have hD : va_D A [(h, .inr (2, [.ref k, .ref t, .int (nI 0), .ref k2, .ref t2])), (k, .inl (cA, 500, .inl K)), (t, .inl (cB, 500, .inl T)), (k2, .inl (cC, 500, .inl NK)), (t2, .inl (cD, 500, .inl NT))] := hD
  refine lv_iload_n hx hb dX3_clear_10 rfl (lv_at hl 0 rfl) ?_
  exact W.iret (v := (nI n)) hx hb hr (fun tS ht hW => ⟨⟨(nI n), (K, T, 0, NK, NT), rfl, ⟨rfl, rfl⟩, by rw [ht]; exact hP, va_K.moved hW.alike hK, hD⟩, hS.F ht⟩) hS.2.2 dX3_clear_11
set_option maxHeartbeats 4000000 in
set_option maxRecDepth 100000 in
theorem c_X3_place (l : Launch) (dC : Nat → ClassId) (dI : Nat → Nat → Nat) (sz : Nat) (h k t k2 t2 : Nat) (cA cB cC cD : ClassId) (n : Nat) (K T NK NT : Nat → Int32) (i a b o : Nat) (hi : i < 500) (hab : a ≤ b) (hb5 : b ≤ 500) (ho : o < 4) : Met l yX3_place wsX3_place ({ frames := 1, cells := 0, slots := 0, locals := 22 }) (va_Pc [.ref h, .int (nI i), .int (nI a), .int (nI b), .int (nI o)] (fun U => U.heap.size = sz ∧ va_P (dC, dI) vwCl [(h, .inr (2, [.ref k, .ref t, .int (nI n), .ref k2, .ref t2])), (k, .inl (cA, 500, .inl K)), (t, .inl (cB, 500, .inl T)), (k2, .inl (cC, 500, .inl NK)), (t2, .inl (cD, 500, .inl NT))] U.heap ∧ va_K (dC, dI) vwCl [(cA, .int), (cB, .int), (cC, .int), (cD, .int)] U ∧ va_D (fun _ => True) [(h, .inr (2, [.ref k, .ref t, .int (nI n), .ref k2, .ref t2])), (k, .inl (cA, 500, .inl K)), (t, .inl (cB, 500, .inl T)), (k2, .inl (cC, 500, .inl NK)), (t2, .inl (cD, 500, .inl NT))])) (va_Qi (fun r u => r = nI (pl (mk o) (mZ K T) a b i) ∧ u = (K, T, n, NK, NT)) (atM dC dI (va_A [(h, .inr (2, [.ref k, .ref t, .int (nI n), .ref k2, .ref t2])), (k, .inl (cA, 500, .inl K)), (t, .inl (cB, 500, .inl T)), (k2, .inl (cC, 500, .inl NK)), (t2, .inl (cD, 500, .inl NT))] sz) h k t k2 t2 cA cB cC cD) (va_A [(h, .inr (2, [.ref k, .ref t, .int (nI n), .ref k2, .ref t2])), (k, .inl (cA, 500, .inl K)), (t, .inl (cB, 500, .inl T)), (k2, .inl (cC, 500, .inl NK)), (t2, .inl (cD, 500, .inl NT))] sz)) 0 0 (va_A [(h, .inr (2, [.ref k, .ref t, .int (nI n), .ref k2, .ref t2])), (k, .inl (cA, 500, .inl K)), (t, .inl (cB, 500, .inl T)), (k2, .inl (cC, 500, .inl NK)), (t2, .inl (cD, 500, .inl NT))] sz) := by
  refine Met.ofW (cc := cX3_place) (maxL := 8) (ret := (some .int)) (by decide) rfl ?_
  intro p e s m args below meth c s₁ B hml hv
  obtain ⟨rfl, hsz, hP, hK, hD0⟩ := hv
  have hx := B.exec
  have hb := B.bytes
  have hr := B.returns
  have hts := atoms_spec (ws := wsX3_place) B.pre
  have hown : s.vm.findClass RX3 = some m.cls := findClass_of_methodNamed B.named
  have hlocks := B.notSynchronized
  subst hsz
  have hD := hD0.self (sz := s.heap.size)
  generalize hAe : va_A [(h, .inr (2, [.ref k, .ref t, .int (nI n), .ref k2, .ref t2])), (k, .inl (cA, 500, .inl K)), (t, .inl (cB, 500, .inl T)), (k2, .inl (cC, 500, .inl NK)), (t2, .inl (cD, 500, .inl NT))] s.heap.size = A at hD ⊢
  have hA : ∀ q : Nat, s.heap.size ≤ q → A q := fun q h => by rw [← hAe]; exact Or.inr h
  have hS : va_S A s.heap s.heap [] := va_S.rf
  have hP : va_P (dC, dI) vwCl [(h, .inr (2, [.ref k, .ref t, .int (nI n), .ref k2, .ref t2])), (k, .inl (cA, 500, .inl K)), (t, .inl (cB, 500, .inl T)), (k2, .inl (cC, 500, .inl NK)), (t2, .inl (cD, 500, .inl NT))] s.heap := hP
  have hl := lv_entry ([.ref h, .int (nI i), .int (nI a), .int (nI b), .int (nI o)]) (n := 8) (Nat.le_of_ble_eq_true rfl)
  rw [lg_entry_eq]
  generalize (lg_sl ([.ref h, .int (nI i), .int (nI a), .int (nI b), .int (nI o)]) ++ List.replicate (8 - (lg_sl ([.ref h, .int (nI i), .int (nI a), .int (nI b), .int (nI o)])).length) Slot.unset).toArray = ls at hl ⊢
  have hl : lv_has ls 8 [(0, .ref h), (1, .int (nI i)), (2, .int (nI a)), (3, .int (nI b)), (4, .int (nI o))] := hl
  refine lv_iload_n hx hb dX3_place_0 rfl (lv_at hl 2 rfl) ?_
  refine lv_istore (lv' := [(5, .int (nI a)), (0, .ref h), (1, .int (nI i)), (2, .int (nI a)), (3, .int (nI b)), (4, .int (nI o))]) hx hb dX3_place_1 hl (by decide) rfl (fun ls hl => ?_)
  refine lv_iload_n hx hb dX3_place_3 rfl (lv_at hl 3 rfl) ?_
  refine lv_istore (lv' := [(6, .int (nI a)), (5, .int (nI a)), (0, .ref h), (1, .int (nI i)), (2, .int (nI a)), (3, .int (nI b)), (4, .int (nI o))]) hx hb dX3_place_4 hl (by decide) rfl (fun ls hl => ?_)
  refine lz_loop (σ := Nat × Nat) (μ := fun X_ => match X_ with | (x5, q) => b - q) (Inv := fun X_ H locs ls => match X_ with | (x5, q) => (a ≤ q) ∧ (q ≤ b) ∧ (x5 = a + cn (plP (mk o) (mZ K T) i) a (q - a)) ∧ va_P (dC, dI) vwCl [(h, .inr (2, [.ref k, .ref t, .int (nI n), .ref k2, .ref t2])), (k, .inl (cA, 500, .inl K)), (t, .inl (cB, 500, .inl T)), (k2, .inl (cC, 500, .inl NK)), (t2, .inl (cD, 500, .inl NT))] H ∧ va_D A [(h, .inr (2, [.ref k, .ref t, .int (nI n), .ref k2, .ref t2])), (k, .inl (cA, 500, .inl K)), (t, .inl (cB, 500, .inl T)), (k2, .inl (cC, 500, .inl NK)), (t2, .inl (cD, 500, .inl NT))] ∧ va_S A s.heap H locs ∧ lv_has ls 8 [(0, .ref h), (1, .int (nI i)), (2, .int (nI a)), (3, .int (nI b)), (4, .int (nI o)), (5, .int (nI x5)), (6, .int (nI q))]) ?_ (a, a) _ _ _ ?_
  · rintro ⟨x5, q⟩ ihb H locs ls ⟨vb0, vb1, vb2, hP, hD, hS, hl⟩
    refine lv_iload hx hb dX3_place_6 (lv_at hl 6 rfl) ?_
    refine lv_iload_n hx hb dX3_place_8 rfl (lv_at hl 3 rfl) ?_
    refine lz_icmp_ge (tgt := 89) (by omega) (by omega) hx hb dX3_place_9 (by decide) (fun c9 => ?_) (fun c9 => ?_)
    · refine lv_iload hx hb dX3_place_89 (lv_at hl 5 rfl) ?_
      exact W.iret (v := (nI x5)) hx hb hr (fun tS ht hW => ⟨⟨(nI x5), (K, T, n, NK, NT), rfl, ⟨by rw [vb2, show q = b by omega]; rfl, rfl⟩, by rw [ht]; exact hP, va_K.moved hW.alike hK, hD⟩, hS.F ht⟩) hS.2.2 dX3_place_91
    · have hx5 := cn_le (plP (mk o) (mZ K T) i) a (q - a)
      refine lv_aload_n hx hb dX3_place_12 rfl (lv_at hl 0 rfl) ?_
      refine va_get (D := (dC, dI)) (ci := 2) (v := .ref k) (C := RX3) (T := TX3) (N := 5) hx hb hts (by decide +kernel) hown hK hP 0 rfl rfl 0 (by decide) (hts (.fieldLink RX3 7 "RowPressModel" "keys" "[I") (by decide +kernel)) (fun _ h9 => h9) rfl dX3_place_13 ?_
      refine lv_iload hx hb dX3_place_16 (lv_at hl 6 rfl) ?_
      refine lz_iald hx hb hK hP 1 0 rfl rfl (j := q) (by omega) (by decide) dX3_place_18 ?_
      refine lv_aload_n hx hb dX3_place_19 rfl (lv_at hl 0 rfl) ?_
      refine va_get (D := (dC, dI)) (ci := 2) (v := .ref k) (C := RX3) (T := TX3) (N := 5) hx hb hts (by decide +kernel) hown hK hP 0 rfl rfl 0 (by decide) (hts (.fieldLink RX3 7 "RowPressModel" "keys" "[I") (by decide +kernel)) (fun _ h9 => h9) rfl dX3_place_20 ?_
      refine lv_iload_n hx hb dX3_place_23 rfl (lv_at hl 1 rfl) ?_
      refine lz_iald hx hb hK hP 1 0 rfl rfl (j := i) (by omega) (by decide) dX3_place_24 ?_
      refine lv_iload hx hb dX3_place_25 (lv_at hl 4 rfl) ?_
      have hPc := hP.sub (ws' := []) [] rfl
      have hDc := hD.sub (ws' := []) [] (by decide) rfl
      have hKc := hK.sub (tys' := []) [] rfl
      have hFc := va_free (wc := []) hD hS hA [] rfl
      refine va_calli (va_runS (As := [.int (K q), .int (K i), .int (nI o)]) (rest := []) ⟨hx, hb, hml, hown, hts⟩ (c_X3_isLess l dC dI H.size (K q) (K i) o ho) (va_cwS 3 hts gX3_place_X3_isLess rfl rfl rfl (by decide +kernel) ⟨Nat.le_of_ble_eq_true rfl, Nat.le_of_ble_eq_true rfl⟩) ⟨fun a U g mk q => by obtain ⟨q0, q1, qP, qK, qD⟩ := q; exact ⟨q0, q1, qP, va_K.moved (u := U) (U := U.calling g mk a) (Vm.Alike.refl U.vm) qK, qD⟩, fun U hU hW => ⟨rfl, by rw [hU], by rw [hU]; exact hPc, va_K.moved hW.alike hKc, hDc.weaken (fun _ _ _ _ => trivial)⟩⟩ rfl rfl hl.1 rfl (lv_room (Nat.le_of_ble_eq_true rfl)) dX3_place_27 ⟨Nat.le_of_ble_eq_true rfl, Nat.le_of_ble_eq_true rfl⟩) hS (fun q _ h => hFc q h) hFc (fun r_1 u tS H1 locs ht hvm hw hB hz1 hk1 hS => ?_)
      have hq1 := hw
      obtain ⟨hP1, hK1, hD1⟩ := hB
      rw [ht] at hP1
      obtain ⟨hP, hD⟩ := va_join (wr := [(h, .inr (2, [.ref k, .ref t, .int (nI n), .ref k2, .ref t2])), (k, .inl (cA, 500, .inl K)), (t, .inl (cB, 500, .inl T)), (k2, .inl (cC, 500, .inl NK)), (t2, .inl (cD, 500, .inl NT))]) (w1 := []) hP hD [] [0, 1, 2, 3, 4] rfl rfl (by decide) (by decide) hk1 hFc hP1 hD1
      generalize H1 = H at hP hS ⊢
      have hP : va_P (dC, dI) vwCl [(h, .inr (2, [.ref k, .ref t, .int (nI n), .ref k2, .ref t2])), (k, .inl (cA, 500, .inl K)), (t, .inl (cB, 500, .inl T)), (k2, .inl (cC, 500, .inl NK)), (t2, .inl (cD, 500, .inl NT))] H := hP
      have hD : va_D A [(h, .inr (2, [.ref k, .ref t, .int (nI n), .ref k2, .ref t2])), (k, .inl (cA, 500, .inl K)), (t, .inl (cB, 500, .inl T)), (k2, .inl (cC, 500, .inl NK)), (t2, .inl (cD, 500, .inl NT))] := hD
      refine lv_if_ne (tgt := 60) hx hb dX3_place_30 (by decide) (fun c30 => ?_) (fun c30 => ?_)
      · refine lv_iconst (v := (nI 1)) hx hb dX3_place_60 (by decide) ?_
        refine lv_goto (tgt := 65) hx hb dX3_place_61 (by decide) ?_
        refine lv_istore (lv' := [(7, .int (nI 1)), (0, .ref h), (1, .int (nI i)), (2, .int (nI a)), (3, .int (nI b)), (4, .int (nI o)), (5, .int (nI x5)), (6, .int (nI q))]) hx hb dX3_place_65 hl (by decide) rfl (fun ls hl => ?_)
        refine lv_iload hx hb dX3_place_67 (lv_at hl 0 rfl) ?_
        refine lz_if_eq (tgt := 79) (by omega) hx hb dX3_place_69 (by decide) (fun c69 => ?_) (fun c69 => ?_)
        · exact absurd c69 (by decide)
        · refine lv_iload hx hb dX3_place_72 (lv_at hl 6 rfl) ?_
          refine lv_iconst (v := (nI 1)) hx hb dX3_place_74 (by decide) ?_
          refine lv_iadd hx hb dX3_place_75 ?_
          refine lz_top (y := (nI (x5 + 1))) (nI_add _ _) ?_
          refine lv_goto (tgt := 81) hx hb dX3_place_76 (by decide) ?_
          refine lv_istore (lv' := [(5, .int (nI (x5 + 1))), (7, .int (nI 1)), (0, .ref h), (1, .int (nI i)), (2, .int (nI a)), (3, .int (nI b)), (4, .int (nI o)), (6, .int (nI q))]) hx hb dX3_place_81 hl (by decide) rfl (fun ls hl => ?_)
          refine lv_iinc (v := (nI (q + 1))) (lv' := [(6, .int (nI (q + 1))), (5, .int (nI (x5 + 1))), (7, .int (nI 1)), (0, .ref h), (1, .int (nI i)), (2, .int (nI a)), (3, .int (nI b)), (4, .int (nI o))]) hx hb dX3_place_83 hl (k := 7) rfl (by first | exact nI_add q 1 | (rw [← nI_add]; rfl)) (by decide) rfl (fun ls hl => ?_)
          refine lv_goto (tgt := 6) hx hb dX3_place_86 (by decide) ?_
          exact ihb ((x5 + 1), (q + 1)) (by show b - (q + 1) < b - q; omega) _ _ _ ⟨by omega, by omega, by rw [cn_st (P := plP (mk o) (mZ K T) i) (by omega) (Or.inl (tr_1 hq1 c30)), vb2]; rfl, hP, hD, hS, lv_sub hl [3, 4, 5, 6, 7, 1, 0] rfl⟩
      · refine lv_iload hx hb dX3_place_33 (lv_at hl 6 rfl) ?_
        refine lv_iload_n hx hb dX3_place_35 rfl (lv_at hl 1 rfl) ?_
        refine lz_icmp_ge (tgt := 64) (by omega) (by omega) hx hb dX3_place_36 (by decide) (fun c36 => ?_) (fun c36 => ?_)
        · refine lv_iconst (v := (nI 0)) hx hb dX3_place_64 (by decide) ?_
          refine lv_istore (lv' := [(7, .int (nI 0)), (0, .ref h), (1, .int (nI i)), (2, .int (nI a)), (3, .int (nI b)), (4, .int (nI o)), (5, .int (nI x5)), (6, .int (nI q))]) hx hb dX3_place_65 hl (by decide) rfl (fun ls hl => ?_)
          refine lv_iload hx hb dX3_place_67 (lv_at hl 0 rfl) ?_
          refine lz_if_eq (tgt := 79) (by omega) hx hb dX3_place_69 (by decide) (fun c69 => ?_) (fun c69 => ?_)
          · refine lv_iload hx hb dX3_place_79 (lv_at hl 6 rfl) ?_
            refine lv_istore (lv' := [(5, .int (nI x5)), (7, .int (nI 0)), (0, .ref h), (1, .int (nI i)), (2, .int (nI a)), (3, .int (nI b)), (4, .int (nI o)), (6, .int (nI q))]) hx hb dX3_place_81 hl (by decide) rfl (fun ls hl => ?_)
            refine lv_iinc (v := (nI (q + 1))) (lv' := [(6, .int (nI (q + 1))), (5, .int (nI x5)), (7, .int (nI 0)), (0, .ref h), (1, .int (nI i)), (2, .int (nI a)), (3, .int (nI b)), (4, .int (nI o))]) hx hb dX3_place_83 hl (k := 7) rfl (by first | exact nI_add q 1 | (rw [← nI_add]; rfl)) (by decide) rfl (fun ls hl => ?_)
            refine lv_goto (tgt := 6) hx hb dX3_place_86 (by decide) ?_
            exact ihb (x5, (q + 1)) (by show b - (q + 1) < b - q; omega) _ _ _ ⟨by omega, by omega, by rw [cn_sf (P := plP (mk o) (mZ K T) i) (by omega) (fun z => z.elim (tr_0 hq1 c30) (fun z => by omega))]; exact vb2, hP, hD, hS, lv_sub hl [3, 4, 5, 6, 7, 1, 0] rfl⟩
          · exact absurd rfl c69
        · refine lv_aload_n hx hb dX3_place_39 rfl (lv_at hl 0 rfl) ?_
          refine va_get (D := (dC, dI)) (ci := 2) (v := .ref k) (C := RX3) (T := TX3) (N := 5) hx hb hts (by decide +kernel) hown hK hP 0 rfl rfl 0 (by decide) (hts (.fieldLink RX3 7 "RowPressModel" "keys" "[I") (by decide +kernel)) (fun _ h9 => h9) rfl dX3_place_40 ?_
          refine lv_iload_n hx hb dX3_place_43 rfl (lv_at hl 1 rfl) ?_
          refine lz_iald hx hb hK hP 1 0 rfl rfl (j := i) (by omega) (by decide) dX3_place_44 ?_
          refine lv_aload_n hx hb dX3_place_45 rfl (lv_at hl 0 rfl) ?_
          refine va_get (D := (dC, dI)) (ci := 2) (v := .ref k) (C := RX3) (T := TX3) (N := 5) hx hb hts (by decide +kernel) hown hK hP 0 rfl rfl 0 (by decide) (hts (.fieldLink RX3 7 "RowPressModel" "keys" "[I") (by decide +kernel)) (fun _ h9 => h9) rfl dX3_place_46 ?_
          refine lv_iload hx hb dX3_place_49 (lv_at hl 6 rfl) ?_
          refine lz_iald hx hb hK hP 1 0 rfl rfl (j := q) (by omega) (by decide) dX3_place_51 ?_
          refine lv_iload hx hb dX3_place_52 (lv_at hl 4 rfl) ?_
          have hPc := hP.sub (ws' := []) [] rfl
          have hDc := hD.sub (ws' := []) [] (by decide) rfl
          have hKc := hK.sub (tys' := []) [] rfl
          have hFc := va_free (wc := []) hD hS hA [] rfl
          refine va_calli (va_runS (As := [.int (K i), .int (K q), .int (nI o)]) (rest := []) ⟨hx, hb, hml, hown, hts⟩ (c_X3_isLess l dC dI H.size (K i) (K q) o ho) (va_cwS 3 hts gX3_place_X3_isLess rfl rfl rfl (by decide +kernel) ⟨Nat.le_of_ble_eq_true rfl, Nat.le_of_ble_eq_true rfl⟩) ⟨fun a U g mk q => by obtain ⟨q0, q1, qP, qK, qD⟩ := q; exact ⟨q0, q1, qP, va_K.moved (u := U) (U := U.calling g mk a) (Vm.Alike.refl U.vm) qK, qD⟩, fun U hU hW => ⟨rfl, by rw [hU], by rw [hU]; exact hPc, va_K.moved hW.alike hKc, hDc.weaken (fun _ _ _ _ => trivial)⟩⟩ rfl rfl hl.1 rfl (lv_room (Nat.le_of_ble_eq_true rfl)) dX3_place_54 ⟨Nat.le_of_ble_eq_true rfl, Nat.le_of_ble_eq_true rfl⟩) hS (fun q _ h => hFc q h) hFc (fun r_2 u tS H1 locs ht hvm hw hB hz1 hk1 hS => ?_)
          have hq2 := hw
          obtain ⟨hP1, hK1, hD1⟩ := hB
          rw [ht] at hP1
          obtain ⟨hP, hD⟩ := va_join (wr := [(h, .inr (2, [.ref k, .ref t, .int (nI n), .ref k2, .ref t2])), (k, .inl (cA, 500, .inl K)), (t, .inl (cB, 500, .inl T)), (k2, .inl (cC, 500, .inl NK)), (t2, .inl (cD, 500, .inl NT))]) (w1 := []) hP hD [] [0, 1, 2, 3, 4] rfl rfl (by decide) (by decide) hk1 hFc hP1 hD1
          generalize H1 = H at hP hS ⊢
          have hP : va_P (dC, dI) vwCl [(h, .inr (2, [.ref k, .ref t, .int (nI n), .ref k2, .ref t2])), (k, .inl (cA, 500, .inl K)), (t, .inl (cB, 500, .inl T)), (k2, .inl (cC, 500, .inl NK)), (t2, .inl (cD, 500, .inl NT))] H := hP
          have hD : va_D A [(h, .inr (2, [.ref k, .ref t, .int (nI n), .ref k2, .ref t2])), (k, .inl (cA, 500, .inl K)), (t, .inl (cB, 500, .inl T)), (k2, .inl (cC, 500, .inl NK)), (t2, .inl (cD, 500, .inl NT))] := hD
          refine lv_if_ne (tgt := 64) hx hb dX3_place_57 (by decide) (fun c57 => ?_) (fun c57 => ?_)
          · refine lv_iconst (v := (nI 0)) hx hb dX3_place_64 (by decide) ?_
            refine lv_istore (lv' := [(7, .int (nI 0)), (0, .ref h), (1, .int (nI i)), (2, .int (nI a)), (3, .int (nI b)), (4, .int (nI o)), (5, .int (nI x5)), (6, .int (nI q))]) hx hb dX3_place_65 hl (by decide) rfl (fun ls hl => ?_)
            refine lv_iload hx hb dX3_place_67 (lv_at hl 0 rfl) ?_
            refine lz_if_eq (tgt := 79) (by omega) hx hb dX3_place_69 (by decide) (fun c69 => ?_) (fun c69 => ?_)
            · refine lv_iload hx hb dX3_place_79 (lv_at hl 6 rfl) ?_
              refine lv_istore (lv' := [(5, .int (nI x5)), (7, .int (nI 0)), (0, .ref h), (1, .int (nI i)), (2, .int (nI a)), (3, .int (nI b)), (4, .int (nI o)), (6, .int (nI q))]) hx hb dX3_place_81 hl (by decide) rfl (fun ls hl => ?_)
              refine lv_iinc (v := (nI (q + 1))) (lv' := [(6, .int (nI (q + 1))), (5, .int (nI x5)), (7, .int (nI 0)), (0, .ref h), (1, .int (nI i)), (2, .int (nI a)), (3, .int (nI b)), (4, .int (nI o))]) hx hb dX3_place_83 hl (k := 7) rfl (by first | exact nI_add q 1 | (rw [← nI_add]; rfl)) (by decide) rfl (fun ls hl => ?_)
              refine lv_goto (tgt := 6) hx hb dX3_place_86 (by decide) ?_
              exact ihb (x5, (q + 1)) (by show b - (q + 1) < b - q; omega) _ _ _ ⟨by omega, by omega, by rw [cn_sf (P := plP (mk o) (mZ K T) i) (by omega) (fun z => z.elim (tr_0 hq1 c30) (fun z => z.2 (tr_1 hq2 c57)))]; exact vb2, hP, hD, hS, lv_sub hl [3, 4, 5, 6, 7, 1, 0] rfl⟩
            · exact absurd rfl c69
          · refine lv_iconst (v := (nI 1)) hx hb dX3_place_60 (by decide) ?_
            refine lv_goto (tgt := 65) hx hb dX3_place_61 (by decide) ?_
            refine lv_istore (lv' := [(7, .int (nI 1)), (0, .ref h), (1, .int (nI i)), (2, .int (nI a)), (3, .int (nI b)), (4, .int (nI o)), (5, .int (nI x5)), (6, .int (nI q))]) hx hb dX3_place_65 hl (by decide) rfl (fun ls hl => ?_)
            refine lv_iload hx hb dX3_place_67 (lv_at hl 0 rfl) ?_
            refine lz_if_eq (tgt := 79) (by omega) hx hb dX3_place_69 (by decide) (fun c69 => ?_) (fun c69 => ?_)
            · exact absurd c69 (by decide)
            · refine lv_iload hx hb dX3_place_72 (lv_at hl 6 rfl) ?_
              refine lv_iconst (v := (nI 1)) hx hb dX3_place_74 (by decide) ?_
              refine lv_iadd hx hb dX3_place_75 ?_
              refine lz_top (y := (nI (x5 + 1))) (nI_add _ _) ?_
              refine lv_goto (tgt := 81) hx hb dX3_place_76 (by decide) ?_
              refine lv_istore (lv' := [(5, .int (nI (x5 + 1))), (7, .int (nI 1)), (0, .ref h), (1, .int (nI i)), (2, .int (nI a)), (3, .int (nI b)), (4, .int (nI o)), (6, .int (nI q))]) hx hb dX3_place_81 hl (by decide) rfl (fun ls hl => ?_)
              refine lv_iinc (v := (nI (q + 1))) (lv' := [(6, .int (nI (q + 1))), (5, .int (nI (x5 + 1))), (7, .int (nI 1)), (0, .ref h), (1, .int (nI i)), (2, .int (nI a)), (3, .int (nI b)), (4, .int (nI o))]) hx hb dX3_place_83 hl (k := 7) rfl (by first | exact nI_add q 1 | (rw [← nI_add]; rfl)) (by decide) rfl (fun ls hl => ?_)
              refine lv_goto (tgt := 6) hx hb dX3_place_86 (by decide) ?_
              exact ihb ((x5 + 1), (q + 1)) (by show b - (q + 1) < b - q; omega) _ _ _ ⟨by omega, by omega, by rw [cn_st (P := plP (mk o) (mZ K T) i) (by omega) (Or.inr ⟨c36, tr_0 hq2 c57⟩), vb2]; rfl, hP, hD, hS, lv_sub hl [3, 4, 5, 6, 7, 1, 0] rfl⟩
  · exact ⟨Nat.le_refl _, by omega, by rw [Nat.sub_self]; rfl, hP, hD, hS, lv_sub hl [2, 3, 4, 5, 6, 1, 0] rfl⟩
set_option maxHeartbeats 4000000 in
set_option maxRecDepth 100000 in
theorem c_X3_move (l : Launch) (dC : Nat → ClassId) (dI : Nat → Nat → Nat) (sz : Nat) (h k t k2 t2 : Nat) (cA cB cC cD : ClassId) (n : Nat) (K T NK NT : Nat → Int32) (i j : Nat) (hi : i < 500) (hj : j < 500) : Met l yX3_move wsX3_move ({ frames := 0, cells := 0, slots := 0, locals := 0 }) (va_Pc [.ref h, .int (nI i), .int (nI j)] (fun U => U.heap.size = sz ∧ va_P (dC, dI) vwCl [(h, .inr (2, [.ref k, .ref t, .int (nI n), .ref k2, .ref t2])), (k, .inl (cA, 500, .inl K)), (t, .inl (cB, 500, .inl T)), (k2, .inl (cC, 500, .inl NK)), (t2, .inl (cD, 500, .inl NT))] U.heap ∧ va_K (dC, dI) vwCl [(cA, .int), (cB, .int), (cC, .int), (cD, .int)] U ∧ va_D (fun _ => True) [(h, .inr (2, [.ref k, .ref t, .int (nI n), .ref k2, .ref t2])), (k, .inl (cA, 500, .inl K)), (t, .inl (cB, 500, .inl T)), (k2, .inl (cC, 500, .inl NK)), (t2, .inl (cD, 500, .inl NT))])) (va_Qv (fun u => u = (K, T, n, upd NK j (K i), upd NT j (T i))) (atM dC dI (va_A [(h, .inr (2, [.ref k, .ref t, .int (nI n), .ref k2, .ref t2])), (k, .inl (cA, 500, .inl K)), (t, .inl (cB, 500, .inl T)), (k2, .inl (cC, 500, .inl NK)), (t2, .inl (cD, 500, .inl NT))] sz) h k t k2 t2 cA cB cC cD) (va_A [(h, .inr (2, [.ref k, .ref t, .int (nI n), .ref k2, .ref t2])), (k, .inl (cA, 500, .inl K)), (t, .inl (cB, 500, .inl T)), (k2, .inl (cC, 500, .inl NK)), (t2, .inl (cD, 500, .inl NT))] sz)) 0 0 (va_A [(h, .inr (2, [.ref k, .ref t, .int (nI n), .ref k2, .ref t2])), (k, .inl (cA, 500, .inl K)), (t, .inl (cB, 500, .inl T)), (k2, .inl (cC, 500, .inl NK)), (t2, .inl (cD, 500, .inl NT))] sz) := by
  refine Met.ofW (cc := cX3_move) (maxL := 3) (ret := none) (by decide) rfl ?_
  intro p e s m args below meth c s₁ B hml hv
  obtain ⟨rfl, hsz, hP, hK, hD0⟩ := hv
  have hx := B.exec
  have hb := B.bytes
  have hr := B.returns
  have hts := atoms_spec (ws := wsX3_move) B.pre
  have hown : s.vm.findClass RX3 = some m.cls := findClass_of_methodNamed B.named
  have hlocks := B.notSynchronized
  subst hsz
  have hD := hD0.self (sz := s.heap.size)
  generalize hAe : va_A [(h, .inr (2, [.ref k, .ref t, .int (nI n), .ref k2, .ref t2])), (k, .inl (cA, 500, .inl K)), (t, .inl (cB, 500, .inl T)), (k2, .inl (cC, 500, .inl NK)), (t2, .inl (cD, 500, .inl NT))] s.heap.size = A at hD ⊢
  have hA : ∀ q : Nat, s.heap.size ≤ q → A q := fun q h => by rw [← hAe]; exact Or.inr h
  have hS : va_S A s.heap s.heap [] := va_S.rf
  have hP : va_P (dC, dI) vwCl [(h, .inr (2, [.ref k, .ref t, .int (nI n), .ref k2, .ref t2])), (k, .inl (cA, 500, .inl K)), (t, .inl (cB, 500, .inl T)), (k2, .inl (cC, 500, .inl NK)), (t2, .inl (cD, 500, .inl NT))] s.heap := hP
  have hl := lv_entry ([.ref h, .int (nI i), .int (nI j)]) (n := 3) (Nat.le_of_ble_eq_true rfl)
  rw [lg_entry_eq]
  generalize (lg_sl ([.ref h, .int (nI i), .int (nI j)]) ++ List.replicate (3 - (lg_sl ([.ref h, .int (nI i), .int (nI j)])).length) Slot.unset).toArray = ls at hl ⊢
  have hl : lv_has ls 3 [(0, .ref h), (1, .int (nI i)), (2, .int (nI j))] := hl
  refine lv_aload_n hx hb dX3_move_0 rfl (lv_at hl 0 rfl) ?_
  refine va_get (D := (dC, dI)) (ci := 2) (v := .ref k2) (C := RX3) (T := TX3) (N := 5) hx hb hts (by decide +kernel) hown hK hP 0 rfl rfl 3 (by decide) (hts (.fieldLink RX3 16 "RowPressModel" "nextKeys" "[I") (by decide +kernel)) (fun _ h9 => h9) rfl dX3_move_1 ?_
  refine lv_iload_n hx hb dX3_move_4 rfl (lv_at hl 2 rfl) ?_
  refine lv_aload_n hx hb dX3_move_5 rfl (lv_at hl 0 rfl) ?_
  refine va_get (D := (dC, dI)) (ci := 2) (v := .ref k) (C := RX3) (T := TX3) (N := 5) hx hb hts (by decide +kernel) hown hK hP 0 rfl rfl 0 (by decide) (hts (.fieldLink RX3 7 "RowPressModel" "keys" "[I") (by decide +kernel)) (fun _ h9 => h9) rfl dX3_move_6 ?_
  refine lv_iload_n hx hb dX3_move_9 rfl (lv_at hl 1 rfl) ?_
  refine lz_iald hx hb hK hP 1 0 rfl rfl (j := i) (by omega) (by decide) dX3_move_10 ?_
  refine lz_iast hx hb hK hP hD hS 3 2 rfl rfl (j := j) (x := (K i)) (by omega) (by decide) dX3_move_11 (fun H locs hP hD hS => ?_)
  have hP : va_P (dC, dI) vwCl [(h, .inr (2, [.ref k, .ref t, .int (nI n), .ref k2, .ref t2])), (k, .inl (cA, 500, .inl K)), (t, .inl (cB, 500, .inl T)), (k2, .inl (cC, 500, .inl (upd NK j (K i)))), (t2, .inl (cD, 500, .inl NT))] H := hP
  have hD : va_D A [(h, .inr (2, [.ref k, .ref t, .int (nI n), .ref k2, .ref t2])), (k, .inl (cA, 500, .inl K)), (t, .inl (cB, 500, .inl T)), (k2, .inl (cC, 500, .inl (upd NK j (K i)))), (t2, .inl (cD, 500, .inl NT))] := hD
  refine lv_aload_n hx hb dX3_move_12 rfl (lv_at hl 0 rfl) ?_
  refine va_get (D := (dC, dI)) (ci := 2) (v := .ref t2) (C := RX3) (T := TX3) (N := 5) hx hb hts (by decide +kernel) hown hK hP 0 rfl rfl 4 (by decide) (hts (.fieldLink RX3 19 "RowPressModel" "nextTags" "[I") (by decide +kernel)) (fun _ h9 => h9) rfl dX3_move_13 ?_
  refine lv_iload_n hx hb dX3_move_16 rfl (lv_at hl 2 rfl) ?_
  refine lv_aload_n hx hb dX3_move_17 rfl (lv_at hl 0 rfl) ?_
  refine va_get (D := (dC, dI)) (ci := 2) (v := .ref t) (C := RX3) (T := TX3) (N := 5) hx hb hts (by decide +kernel) hown hK hP 0 rfl rfl 1 (by decide) (hts (.fieldLink RX3 13 "RowPressModel" "tags" "[I") (by decide +kernel)) (fun _ h9 => h9) rfl dX3_move_18 ?_
  refine lv_iload_n hx hb dX3_move_21 rfl (lv_at hl 1 rfl) ?_
  refine lz_iald hx hb hK hP 2 1 rfl rfl (j := i) (by omega) (by decide) dX3_move_22 ?_
  refine lz_iast hx hb hK hP hD hS 4 3 rfl rfl (j := j) (x := (T i)) (by omega) (by decide) dX3_move_23 (fun H locs hP hD hS => ?_)
  have hP : va_P (dC, dI) vwCl [(h, .inr (2, [.ref k, .ref t, .int (nI n), .ref k2, .ref t2])), (k, .inl (cA, 500, .inl K)), (t, .inl (cB, 500, .inl T)), (k2, .inl (cC, 500, .inl (upd NK j (K i)))), (t2, .inl (cD, 500, .inl (upd NT j (T i))))] H := hP
  have hD : va_D A [(h, .inr (2, [.ref k, .ref t, .int (nI n), .ref k2, .ref t2])), (k, .inl (cA, 500, .inl K)), (t, .inl (cB, 500, .inl T)), (k2, .inl (cC, 500, .inl (upd NK j (K i)))), (t2, .inl (cD, 500, .inl (upd NT j (T i))))] := hD
  exact W.vret hx hb hr (fun tS ht hW => ⟨⟨(K, T, n, upd NK j (K i), upd NT j (T i)), rfl, rfl, by rw [ht]; exact hP, va_K.moved hW.alike hK, hD⟩, hS.F ht⟩) hS.2.2 dX3_move_24
set_option maxHeartbeats 4000000 in
set_option maxRecDepth 100000 in
theorem c_X3_take (l : Launch) (dC : Nat → ClassId) (dI : Nat → Nat → Nat) (sz : Nat) (h k t k2 t2 : Nat) (cA cB cC cD : ClassId) (n : Nat) (K T NK NT : Nat → Int32) (a b : Nat) (hab : a ≤ b) (hb5 : b ≤ 500) : Met l yX3_take wsX3_take ({ frames := 0, cells := 0, slots := 0, locals := 0 }) (va_Pc [.ref h, .int (nI a), .int (nI b)] (fun U => U.heap.size = sz ∧ va_P (dC, dI) vwCl [(h, .inr (2, [.ref k, .ref t, .int (nI n), .ref k2, .ref t2])), (k, .inl (cA, 500, .inl K)), (t, .inl (cB, 500, .inl T)), (k2, .inl (cC, 500, .inl NK)), (t2, .inl (cD, 500, .inl NT))] U.heap ∧ va_K (dC, dI) vwCl [(cA, .int), (cB, .int), (cC, .int), (cD, .int)] U ∧ va_D (fun _ => True) [(h, .inr (2, [.ref k, .ref t, .int (nI n), .ref k2, .ref t2])), (k, .inl (cA, 500, .inl K)), (t, .inl (cB, 500, .inl T)), (k2, .inl (cC, 500, .inl NK)), (t2, .inl (cD, 500, .inl NT))])) (va_Qv (fun u => tkI (mZ K T) (mZ NK NT) (mZ u.1 u.2.1) a b ∧ u.2.2 = (n, NK, NT)) (atM dC dI (va_A [(h, .inr (2, [.ref k, .ref t, .int (nI n), .ref k2, .ref t2])), (k, .inl (cA, 500, .inl K)), (t, .inl (cB, 500, .inl T)), (k2, .inl (cC, 500, .inl NK)), (t2, .inl (cD, 500, .inl NT))] sz) h k t k2 t2 cA cB cC cD) (va_A [(h, .inr (2, [.ref k, .ref t, .int (nI n), .ref k2, .ref t2])), (k, .inl (cA, 500, .inl K)), (t, .inl (cB, 500, .inl T)), (k2, .inl (cC, 500, .inl NK)), (t2, .inl (cD, 500, .inl NT))] sz)) 0 0 (va_A [(h, .inr (2, [.ref k, .ref t, .int (nI n), .ref k2, .ref t2])), (k, .inl (cA, 500, .inl K)), (t, .inl (cB, 500, .inl T)), (k2, .inl (cC, 500, .inl NK)), (t2, .inl (cD, 500, .inl NT))] sz) := by
  refine Met.ofW (cc := cX3_take) (maxL := 4) (ret := none) (by decide) rfl ?_
  intro p e s m args below meth c s₁ B hml hv
  obtain ⟨rfl, hsz, hP, hK, hD0⟩ := hv
  have hx := B.exec
  have hb := B.bytes
  have hr := B.returns
  have hts := atoms_spec (ws := wsX3_take) B.pre
  have hown : s.vm.findClass RX3 = some m.cls := findClass_of_methodNamed B.named
  have hlocks := B.notSynchronized
  subst hsz
  have hD := hD0.self (sz := s.heap.size)
  generalize hAe : va_A [(h, .inr (2, [.ref k, .ref t, .int (nI n), .ref k2, .ref t2])), (k, .inl (cA, 500, .inl K)), (t, .inl (cB, 500, .inl T)), (k2, .inl (cC, 500, .inl NK)), (t2, .inl (cD, 500, .inl NT))] s.heap.size = A at hD ⊢
  have hA : ∀ q : Nat, s.heap.size ≤ q → A q := fun q h => by rw [← hAe]; exact Or.inr h
  have hS : va_S A s.heap s.heap [] := va_S.rf
  have hP : va_P (dC, dI) vwCl [(h, .inr (2, [.ref k, .ref t, .int (nI n), .ref k2, .ref t2])), (k, .inl (cA, 500, .inl K)), (t, .inl (cB, 500, .inl T)), (k2, .inl (cC, 500, .inl NK)), (t2, .inl (cD, 500, .inl NT))] s.heap := hP
  have hl := lv_entry ([.ref h, .int (nI a), .int (nI b)]) (n := 4) (Nat.le_of_ble_eq_true rfl)
  rw [lg_entry_eq]
  generalize (lg_sl ([.ref h, .int (nI a), .int (nI b)]) ++ List.replicate (4 - (lg_sl ([.ref h, .int (nI a), .int (nI b)])).length) Slot.unset).toArray = ls at hl ⊢
  have hl : lv_has ls 4 [(0, .ref h), (1, .int (nI a)), (2, .int (nI b))] := hl
  refine lv_iload_n hx hb dX3_take_0 rfl (lv_at hl 1 rfl) ?_
  refine lv_istore_n (lv' := [(3, .int (nI a)), (0, .ref h), (1, .int (nI a)), (2, .int (nI b))]) hx hb dX3_take_1 rfl hl (by decide) rfl (fun ls hl => ?_)
  refine lz_loop (σ := Nat × (Nat → Int32) × (Nat → Int32)) (μ := fun X_ => match X_ with | (q, K1, T1) => b - q) (Inv := fun X_ H locs ls => match X_ with | (q, K1, T1) => (a ≤ q) ∧ (q ≤ b) ∧ (tkI (mZ K T) (mZ NK NT) (mZ K1 T1) a q) ∧ va_P (dC, dI) vwCl [(h, .inr (2, [.ref k, .ref t, .int (nI n), .ref k2, .ref t2])), (k, .inl (cA, 500, .inl K1)), (t, .inl (cB, 500, .inl T1)), (k2, .inl (cC, 500, .inl NK)), (t2, .inl (cD, 500, .inl NT))] H ∧ va_D A [(h, .inr (2, [.ref k, .ref t, .int (nI n), .ref k2, .ref t2])), (k, .inl (cA, 500, .inl K1)), (t, .inl (cB, 500, .inl T1)), (k2, .inl (cC, 500, .inl NK)), (t2, .inl (cD, 500, .inl NT))] ∧ va_S A s.heap H locs ∧ lv_has ls 4 [(0, .ref h), (1, .int (nI a)), (2, .int (nI b)), (3, .int (nI q))]) ?_ (a, K, T) _ _ _ ?_
  · rintro ⟨q, K1, T1⟩ ihd H locs ls ⟨vd0, vd1, vd2, hP, hD, hS, hl⟩
    refine lv_iload_n hx hb dX3_take_2 rfl (lv_at hl 3 rfl) ?_
    refine lv_iload_n hx hb dX3_take_3 rfl (lv_at hl 2 rfl) ?_
    refine lz_icmp_ge (tgt := 37) (by omega) (by omega) hx hb dX3_take_4 (by decide) (fun c4 => ?_) (fun c4 => ?_)
    · exact W.vret hx hb hr (fun tS ht hW => ⟨⟨(K1, T1, n, NK, NT), rfl, ⟨by rw [show b = q by omega]; exact vd2, rfl⟩, by rw [ht]; exact hP, va_K.moved hW.alike hK, hD⟩, hS.F ht⟩) hS.2.2 dX3_take_37
    · refine lv_aload_n hx hb dX3_take_7 rfl (lv_at hl 0 rfl) ?_
      refine va_get (D := (dC, dI)) (ci := 2) (v := .ref k) (C := RX3) (T := TX3) (N := 5) hx hb hts (by decide +kernel) hown hK hP 0 rfl rfl 0 (by decide) (hts (.fieldLink RX3 7 "RowPressModel" "keys" "[I") (by decide +kernel)) (fun _ h9 => h9) rfl dX3_take_8 ?_
      refine lv_iload_n hx hb dX3_take_11 rfl (lv_at hl 3 rfl) ?_
      refine lv_aload_n hx hb dX3_take_12 rfl (lv_at hl 0 rfl) ?_
      refine va_get (D := (dC, dI)) (ci := 2) (v := .ref k2) (C := RX3) (T := TX3) (N := 5) hx hb hts (by decide +kernel) hown hK hP 0 rfl rfl 3 (by decide) (hts (.fieldLink RX3 16 "RowPressModel" "nextKeys" "[I") (by decide +kernel)) (fun _ h9 => h9) rfl dX3_take_13 ?_
      refine lv_iload_n hx hb dX3_take_16 rfl (lv_at hl 3 rfl) ?_
      refine lz_iald hx hb hK hP 3 2 rfl rfl (j := q) (by omega) (by decide) dX3_take_17 ?_
      refine lz_iast hx hb hK hP hD hS 1 0 rfl rfl (j := q) (x := (NK q)) (by omega) (by decide) dX3_take_18 (fun H locs hP hD hS => ?_)
      have hP : va_P (dC, dI) vwCl [(h, .inr (2, [.ref k, .ref t, .int (nI n), .ref k2, .ref t2])), (k, .inl (cA, 500, .inl (upd K1 q (NK q)))), (t, .inl (cB, 500, .inl T1)), (k2, .inl (cC, 500, .inl NK)), (t2, .inl (cD, 500, .inl NT))] H := hP
      have hD : va_D A [(h, .inr (2, [.ref k, .ref t, .int (nI n), .ref k2, .ref t2])), (k, .inl (cA, 500, .inl (upd K1 q (NK q)))), (t, .inl (cB, 500, .inl T1)), (k2, .inl (cC, 500, .inl NK)), (t2, .inl (cD, 500, .inl NT))] := hD
      refine lv_aload_n hx hb dX3_take_19 rfl (lv_at hl 0 rfl) ?_
      refine va_get (D := (dC, dI)) (ci := 2) (v := .ref t) (C := RX3) (T := TX3) (N := 5) hx hb hts (by decide +kernel) hown hK hP 0 rfl rfl 1 (by decide) (hts (.fieldLink RX3 13 "RowPressModel" "tags" "[I") (by decide +kernel)) (fun _ h9 => h9) rfl dX3_take_20 ?_
      refine lv_iload_n hx hb dX3_take_23 rfl (lv_at hl 3 rfl) ?_
      refine lv_aload_n hx hb dX3_take_24 rfl (lv_at hl 0 rfl) ?_
      refine va_get (D := (dC, dI)) (ci := 2) (v := .ref t2) (C := RX3) (T := TX3) (N := 5) hx hb hts (by decide +kernel) hown hK hP 0 rfl rfl 4 (by decide) (hts (.fieldLink RX3 19 "RowPressModel" "nextTags" "[I") (by decide +kernel)) (fun _ h9 => h9) rfl dX3_take_25 ?_
      refine lv_iload_n hx hb dX3_take_28 rfl (lv_at hl 3 rfl) ?_
      refine lz_iald hx hb hK hP 4 3 rfl rfl (j := q) (by omega) (by decide) dX3_take_29 ?_
      refine lz_iast hx hb hK hP hD hS 2 1 rfl rfl (j := q) (x := (NT q)) (by omega) (by decide) dX3_take_30 (fun H locs hP hD hS => ?_)
      have hP : va_P (dC, dI) vwCl [(h, .inr (2, [.ref k, .ref t, .int (nI n), .ref k2, .ref t2])), (k, .inl (cA, 500, .inl (upd K1 q (NK q)))), (t, .inl (cB, 500, .inl (upd T1 q (NT q)))), (k2, .inl (cC, 500, .inl NK)), (t2, .inl (cD, 500, .inl NT))] H := hP
      have hD : va_D A [(h, .inr (2, [.ref k, .ref t, .int (nI n), .ref k2, .ref t2])), (k, .inl (cA, 500, .inl (upd K1 q (NK q)))), (t, .inl (cB, 500, .inl (upd T1 q (NT q)))), (k2, .inl (cC, 500, .inl NK)), (t2, .inl (cD, 500, .inl NT))] := hD
      refine lv_iinc (v := (nI (q + 1))) (lv' := [(3, .int (nI (q + 1))), (0, .ref h), (1, .int (nI a)), (2, .int (nI b))]) hx hb dX3_take_31 hl (k := 3) rfl (by first | exact nI_add q 1 | (rw [← nI_add]; rfl)) (by decide) rfl (fun ls hl => ?_)
      refine lv_goto (tgt := 2) hx hb dX3_take_34 (by decide) ?_
      exact ihd ((q + 1), (upd K1 q (NK q)), (upd T1 q (NT q))) (by show b - (q + 1) < b - q; omega) _ _ _ ⟨by omega, by omega, tkI_s vd2 (by omega) (mZ_put K1 T1 q (NK q) (NT q)), hP, hD, hS, lv_sub hl [1, 2, 3, 0] rfl⟩
  · exact ⟨Nat.le_refl _, by omega, tkI_0, hP, hD, hS, lv_sub hl [1, 2, 3, 0] rfl⟩
set_option maxHeartbeats 4000000 in
set_option maxRecDepth 100000 in
theorem c_X3_arrange (l : Launch) (dC : Nat → ClassId) (dI : Nat → Nat → Nat) (sz : Nat) (h k t k2 t2 : Nat) (cA cB cC cD : ClassId) (n : Nat) (K T NK NT : Nat → Int32) (a b o : Nat) (hab : a ≤ b) (hb5 : b ≤ 500) (ho : o < 4) : Met l yX3_arrange wsX3_arrange ({ frames := 2, cells := 0, slots := 0, locals := 49 }) (va_Pc [.ref h, .int (nI a), .int (nI b), .int (nI o)] (fun U => U.heap.size = sz ∧ va_P (dC, dI) vwCl [(h, .inr (2, [.ref k, .ref t, .int (nI n), .ref k2, .ref t2])), (k, .inl (cA, 500, .inl K)), (t, .inl (cB, 500, .inl T)), (k2, .inl (cC, 500, .inl NK)), (t2, .inl (cD, 500, .inl NT))] U.heap ∧ va_K (dC, dI) vwCl [(cA, .int), (cB, .int), (cC, .int), (cD, .int)] U ∧ va_D (fun _ => True) [(h, .inr (2, [.ref k, .ref t, .int (nI n), .ref k2, .ref t2])), (k, .inl (cA, 500, .inl K)), (t, .inl (cB, 500, .inl T)), (k2, .inl (cC, 500, .inl NK)), (t2, .inl (cD, 500, .inl NT))])) (va_Qv (fun u => soR (mk o) 500 (mZ K T) (mZ u.1 u.2.1) a b ∧ n = u.2.2.1) (atM dC dI (va_A [(h, .inr (2, [.ref k, .ref t, .int (nI n), .ref k2, .ref t2])), (k, .inl (cA, 500, .inl K)), (t, .inl (cB, 500, .inl T)), (k2, .inl (cC, 500, .inl NK)), (t2, .inl (cD, 500, .inl NT))] sz) h k t k2 t2 cA cB cC cD) (va_A [(h, .inr (2, [.ref k, .ref t, .int (nI n), .ref k2, .ref t2])), (k, .inl (cA, 500, .inl K)), (t, .inl (cB, 500, .inl T)), (k2, .inl (cC, 500, .inl NK)), (t2, .inl (cD, 500, .inl NT))] sz)) 0 0 (va_A [(h, .inr (2, [.ref k, .ref t, .int (nI n), .ref k2, .ref t2])), (k, .inl (cA, 500, .inl K)), (t, .inl (cB, 500, .inl T)), (k2, .inl (cC, 500, .inl NK)), (t2, .inl (cD, 500, .inl NT))] sz) := by
  refine Met.ofW (cc := cX3_arrange) (maxL := 5) (ret := none) (by decide) rfl ?_
  intro p e s m args below meth c s₁ B hml hv
  obtain ⟨rfl, hsz, hP, hK, hD0⟩ := hv
  have hx := B.exec
  have hb := B.bytes
  have hr := B.returns
  have hts := atoms_spec (ws := wsX3_arrange) B.pre
  have hown : s.vm.findClass RX3 = some m.cls := findClass_of_methodNamed B.named
  have hlocks := B.notSynchronized
  subst hsz
  have hD := hD0.self (sz := s.heap.size)
  generalize hAe : va_A [(h, .inr (2, [.ref k, .ref t, .int (nI n), .ref k2, .ref t2])), (k, .inl (cA, 500, .inl K)), (t, .inl (cB, 500, .inl T)), (k2, .inl (cC, 500, .inl NK)), (t2, .inl (cD, 500, .inl NT))] s.heap.size = A at hD ⊢
  have hA : ∀ q : Nat, s.heap.size ≤ q → A q := fun q h => by rw [← hAe]; exact Or.inr h
  have hS : va_S A s.heap s.heap [] := va_S.rf
  have hP : va_P (dC, dI) vwCl [(h, .inr (2, [.ref k, .ref t, .int (nI n), .ref k2, .ref t2])), (k, .inl (cA, 500, .inl K)), (t, .inl (cB, 500, .inl T)), (k2, .inl (cC, 500, .inl NK)), (t2, .inl (cD, 500, .inl NT))] s.heap := hP
  have hl := lv_entry ([.ref h, .int (nI a), .int (nI b), .int (nI o)]) (n := 5) (Nat.le_of_ble_eq_true rfl)
  rw [lg_entry_eq]
  generalize (lg_sl ([.ref h, .int (nI a), .int (nI b), .int (nI o)]) ++ List.replicate (5 - (lg_sl ([.ref h, .int (nI a), .int (nI b), .int (nI o)])).length) Slot.unset).toArray = ls at hl ⊢
  have hl : lv_has ls 5 [(0, .ref h), (1, .int (nI a)), (2, .int (nI b)), (3, .int (nI o))] := hl
  refine lv_iload_n hx hb dX3_arrange_0 rfl (lv_at hl 1 rfl) ?_
  refine lv_istore (lv' := [(4, .int (nI a)), (0, .ref h), (1, .int (nI a)), (2, .int (nI b)), (3, .int (nI o))]) hx hb dX3_arrange_1 hl (by decide) rfl (fun ls hl => ?_)
  refine lz_loop (σ := Nat × (Nat → Int32) × (Nat → Int32)) (μ := fun X_ => match X_ with | (q, NK1, NT1) => b - q) (Inv := fun X_ H locs ls => match X_ with | (q, NK1, NT1) => (a ≤ q) ∧ (q ≤ b) ∧ (arI (mk o) (mZ K T) (mZ NK1 NT1) a b q) ∧ va_P (dC, dI) vwCl [(h, .inr (2, [.ref k, .ref t, .int (nI n), .ref k2, .ref t2])), (k, .inl (cA, 500, .inl K)), (t, .inl (cB, 500, .inl T)), (k2, .inl (cC, 500, .inl NK1)), (t2, .inl (cD, 500, .inl NT1))] H ∧ va_D A [(h, .inr (2, [.ref k, .ref t, .int (nI n), .ref k2, .ref t2])), (k, .inl (cA, 500, .inl K)), (t, .inl (cB, 500, .inl T)), (k2, .inl (cC, 500, .inl NK1)), (t2, .inl (cD, 500, .inl NT1))] ∧ va_S A s.heap H locs ∧ lv_has ls 5 [(0, .ref h), (1, .int (nI a)), (2, .int (nI b)), (3, .int (nI o)), (4, .int (nI q))]) ?_ (a, NK, NT) _ _ _ ?_
  · rintro ⟨q, NK1, NT1⟩ ihe H locs ls ⟨ve0, ve1, ve2, hP, hD, hS, hl⟩
    refine lv_iload hx hb dX3_arrange_3 (lv_at hl 4 rfl) ?_
    refine lv_iload_n hx hb dX3_arrange_5 rfl (lv_at hl 2 rfl) ?_
    refine lz_icmp_ge (tgt := 30) (by omega) (by omega) hx hb dX3_arrange_6 (by decide) (fun c6 => ?_) (fun c6 => ?_)
    · refine lv_aload_n hx hb dX3_arrange_30 rfl (lv_at hl 0 rfl) ?_
      refine lv_iload_n hx hb dX3_arrange_31 rfl (lv_at hl 1 rfl) ?_
      refine lv_iload_n hx hb dX3_arrange_32 rfl (lv_at hl 2 rfl) ?_
      have hPc := hP.sub (ws' := [(h, .inr (2, [.ref k, .ref t, .int (nI n), .ref k2, .ref t2])), (k, .inl (cA, 500, .inl K)), (t, .inl (cB, 500, .inl T)), (k2, .inl (cC, 500, .inl NK1)), (t2, .inl (cD, 500, .inl NT1))]) [0, 1, 2, 3, 4] rfl
      have hDc := hD.sub (ws' := [(h, .inr (2, [.ref k, .ref t, .int (nI n), .ref k2, .ref t2])), (k, .inl (cA, 500, .inl K)), (t, .inl (cB, 500, .inl T)), (k2, .inl (cC, 500, .inl NK1)), (t2, .inl (cD, 500, .inl NT1))]) [0, 1, 2, 3, 4] (by decide) rfl
      have hKc := hK.sub (tys' := [(cA, .int), (cB, .int), (cC, .int), (cD, .int)]) [0, 1, 2, 3] rfl
      have hFc := va_free (wc := [(h, .inr (2, [.ref k, .ref t, .int (nI n), .ref k2, .ref t2])), (k, .inl (cA, 500, .inl K)), (t, .inl (cB, 500, .inl T)), (k2, .inl (cC, 500, .inl NK1)), (t2, .inl (cD, 500, .inl NT1))]) hD hS hA [0, 1, 2, 3, 4] rfl
      refine va_callv (va_runV (As := [.int (nI a), .int (nI b)]) (rest := []) ⟨hx, hb, hml, hown, hts⟩ (c_X3_take l dC dI H.size h k t k2 t2 cA cB cC cD n K T NK1 NT1 a b hab hb5) (cwV 2 hts gX3_arrange_X3_take rfl rfl rfl (by decide +kernel) ⟨Nat.le_of_ble_eq_true rfl, Nat.le_of_ble_eq_true rfl⟩) ⟨fun a U g mk q => by obtain ⟨q0, q1, qP, qK, qD⟩ := q; exact ⟨q0, q1, qP, va_K.moved (u := U) (U := U.calling g mk a) (Vm.Alike.refl U.vm) qK, qD⟩, va_recv hKc hPc (ci := 2) (q0 := 0) rfl rfl, fun U hU hW => ⟨rfl, by rw [hU], by rw [hU]; exact hPc, va_K.moved hW.alike hKc, hDc.weaken (fun _ _ _ _ => trivial)⟩⟩ rfl rfl hl.1 rfl (lv_room (Nat.le_of_ble_eq_true rfl)) dX3_arrange_33 ⟨Nat.le_of_ble_eq_true rfl, Nat.le_of_ble_eq_true rfl⟩) hS (fun q _ h => hFc q h) hFc (fun u tS H1 locs ht hvm hw hB hz1 hk1 hS => ?_)
      obtain ⟨K9, T9, n9, NK9, NT9⟩ := u
      obtain ⟨htk, he9⟩ := hw
      dsimp only at htk he9
      cases he9
      obtain ⟨hP1, hK1, hD1⟩ := hB
      rw [ht] at hP1
      obtain ⟨hP, hD⟩ := va_join (wr := []) (w1 := [(h, .inr (2, [.ref k, .ref t, .int (nI n), .ref k2, .ref t2])), (k, .inl (cA, 500, .inl K9)), (t, .inl (cB, 500, .inl T9)), (k2, .inl (cC, 500, .inl NK1)), (t2, .inl (cD, 500, .inl NT1))]) hP hD [0, 1, 2, 3, 4] [] rfl rfl (by decide) (by decide) hk1 hFc hP1 hD1
      generalize H1 = H at hP hS ⊢
      have hP : va_P (dC, dI) vwCl [(h, .inr (2, [.ref k, .ref t, .int (nI n), .ref k2, .ref t2])), (k, .inl (cA, 500, .inl K9)), (t, .inl (cB, 500, .inl T9)), (k2, .inl (cC, 500, .inl NK1)), (t2, .inl (cD, 500, .inl NT1))] H := hP
      have hD : va_D A [(h, .inr (2, [.ref k, .ref t, .int (nI n), .ref k2, .ref t2])), (k, .inl (cA, 500, .inl K9)), (t, .inl (cB, 500, .inl T9)), (k2, .inl (cC, 500, .inl NK1)), (t2, .inl (cD, 500, .inl NT1))] := hD
      exact W.vret hx hb hr (fun tS ht hW => ⟨⟨(K9, T9, n, NK1, NT1), rfl, ⟨soR_of (by have z := ve2; rw [show q = b by omega] at z; exact z) htk, rfl⟩, by rw [ht]; exact hP, va_K.moved hW.alike hK, hD⟩, hS.F ht⟩) hS.2.2 dX3_arrange_36
    · refine lv_aload_n hx hb dX3_arrange_9 rfl (lv_at hl 0 rfl) ?_
      refine lv_iload hx hb dX3_arrange_10 (lv_at hl 4 rfl) ?_
      refine lv_aload_n hx hb dX3_arrange_12 rfl (lv_at hl 0 rfl) ?_
      refine lv_iload hx hb dX3_arrange_13 (lv_at hl 4 rfl) ?_
      refine lv_iload_n hx hb dX3_arrange_15 rfl (lv_at hl 1 rfl) ?_
      refine lv_iload_n hx hb dX3_arrange_16 rfl (lv_at hl 2 rfl) ?_
      refine lv_iload_n hx hb dX3_arrange_17 rfl (lv_at hl 3 rfl) ?_
      have hPc := hP.sub (ws' := [(h, .inr (2, [.ref k, .ref t, .int (nI n), .ref k2, .ref t2])), (k, .inl (cA, 500, .inl K)), (t, .inl (cB, 500, .inl T)), (k2, .inl (cC, 500, .inl NK1)), (t2, .inl (cD, 500, .inl NT1))]) [0, 1, 2, 3, 4] rfl
      have hDc := hD.sub (ws' := [(h, .inr (2, [.ref k, .ref t, .int (nI n), .ref k2, .ref t2])), (k, .inl (cA, 500, .inl K)), (t, .inl (cB, 500, .inl T)), (k2, .inl (cC, 500, .inl NK1)), (t2, .inl (cD, 500, .inl NT1))]) [0, 1, 2, 3, 4] (by decide) rfl
      have hKc := hK.sub (tys' := [(cA, .int), (cB, .int), (cC, .int), (cD, .int)]) [0, 1, 2, 3] rfl
      have hFc := va_free (wc := [(h, .inr (2, [.ref k, .ref t, .int (nI n), .ref k2, .ref t2])), (k, .inl (cA, 500, .inl K)), (t, .inl (cB, 500, .inl T)), (k2, .inl (cC, 500, .inl NK1)), (t2, .inl (cD, 500, .inl NT1))]) hD hS hA [0, 1, 2, 3, 4] rfl
      refine va_calli (va_runV (As := [.int (nI q), .int (nI a), .int (nI b), .int (nI o)]) (rest := [.int (nI q), .ref h]) ⟨hx, hb, hml, hown, hts⟩ (c_X3_place l dC dI H.size h k t k2 t2 cA cB cC cD n K T NK1 NT1 q a b o (by omega) hab hb5 ho) (cwV 4 hts gX3_arrange_X3_place rfl rfl rfl (by decide +kernel) ⟨Nat.le_of_ble_eq_true rfl, Nat.le_of_ble_eq_true rfl⟩) ⟨fun a U g mk q => by obtain ⟨q0, q1, qP, qK, qD⟩ := q; exact ⟨q0, q1, qP, va_K.moved (u := U) (U := U.calling g mk a) (Vm.Alike.refl U.vm) qK, qD⟩, va_recv hKc hPc (ci := 2) (q0 := 0) rfl rfl, fun U hU hW => ⟨rfl, by rw [hU], by rw [hU]; exact hPc, va_K.moved hW.alike hKc, hDc.weaken (fun _ _ _ _ => trivial)⟩⟩ rfl rfl hl.1 rfl (lv_room (Nat.le_of_ble_eq_true rfl)) dX3_arrange_18 ⟨Nat.le_of_ble_eq_true rfl, Nat.le_of_ble_eq_true rfl⟩) hS (fun q _ h => hFc q h) hFc (fun r_2 u tS H1 locs ht hvm hw hB hz1 hk1 hS => ?_)
      obtain ⟨hrp, rfl⟩ := hw
      obtain ⟨hP1, hK1, hD1⟩ := hB
      rw [ht] at hP1
      obtain ⟨hP, hD⟩ := va_join (wr := []) (w1 := [(h, .inr (2, [.ref k, .ref t, .int (nI n), .ref k2, .ref t2])), (k, .inl (cA, 500, .inl K)), (t, .inl (cB, 500, .inl T)), (k2, .inl (cC, 500, .inl NK1)), (t2, .inl (cD, 500, .inl NT1))]) hP hD [0, 1, 2, 3, 4] [] rfl rfl (by decide) (by decide) hk1 hFc hP1 hD1
      generalize H1 = H at hP hS ⊢
      have hP : va_P (dC, dI) vwCl [(h, .inr (2, [.ref k, .ref t, .int (nI n), .ref k2, .ref t2])), (k, .inl (cA, 500, .inl K)), (t, .inl (cB, 500, .inl T)), (k2, .inl (cC, 500, .inl NK1)), (t2, .inl (cD, 500, .inl NT1))] H := hP
      have hD : va_D A [(h, .inr (2, [.ref k, .ref t, .int (nI n), .ref k2, .ref t2])), (k, .inl (cA, 500, .inl K)), (t, .inl (cB, 500, .inl T)), (k2, .inl (cC, 500, .inl NK1)), (t2, .inl (cD, 500, .inl NT1))] := hD
      subst hrp
      have hpl : pl (mk o) (mZ K T) a b q < b := pl_lt (by omega) (by omega)
      have hPc := hP.sub (ws' := [(h, .inr (2, [.ref k, .ref t, .int (nI n), .ref k2, .ref t2])), (k, .inl (cA, 500, .inl K)), (t, .inl (cB, 500, .inl T)), (k2, .inl (cC, 500, .inl NK1)), (t2, .inl (cD, 500, .inl NT1))]) [0, 1, 2, 3, 4] rfl
      have hDc := hD.sub (ws' := [(h, .inr (2, [.ref k, .ref t, .int (nI n), .ref k2, .ref t2])), (k, .inl (cA, 500, .inl K)), (t, .inl (cB, 500, .inl T)), (k2, .inl (cC, 500, .inl NK1)), (t2, .inl (cD, 500, .inl NT1))]) [0, 1, 2, 3, 4] (by decide) rfl
      have hKc := hK.sub (tys' := [(cA, .int), (cB, .int), (cC, .int), (cD, .int)]) [0, 1, 2, 3] rfl
      have hFc := va_free (wc := [(h, .inr (2, [.ref k, .ref t, .int (nI n), .ref k2, .ref t2])), (k, .inl (cA, 500, .inl K)), (t, .inl (cB, 500, .inl T)), (k2, .inl (cC, 500, .inl NK1)), (t2, .inl (cD, 500, .inl NT1))]) hD hS hA [0, 1, 2, 3, 4] rfl
      refine va_callv (va_runV (As := [.int (nI q), .int (nI (pl (mk o) (mZ K T) a b q))]) (rest := []) ⟨hx, hb, hml, hown, hts⟩ (c_X3_move l dC dI H.size h k t k2 t2 cA cB cC cD n K T NK1 NT1 q (pl (mk o) (mZ K T) a b q) (by omega) (by omega)) (cwV 2 hts gX3_arrange_X3_move rfl rfl rfl (by decide +kernel) ⟨Nat.le_of_ble_eq_true rfl, Nat.le_of_ble_eq_true rfl⟩) ⟨fun a U g mk q => by obtain ⟨q0, q1, qP, qK, qD⟩ := q; exact ⟨q0, q1, qP, va_K.moved (u := U) (U := U.calling g mk a) (Vm.Alike.refl U.vm) qK, qD⟩, va_recv hKc hPc (ci := 2) (q0 := 0) rfl rfl, fun U hU hW => ⟨rfl, by rw [hU], by rw [hU]; exact hPc, va_K.moved hW.alike hKc, hDc.weaken (fun _ _ _ _ => trivial)⟩⟩ rfl rfl hl.1 rfl (lv_room (Nat.le_of_ble_eq_true rfl)) dX3_arrange_21 ⟨Nat.le_of_ble_eq_true rfl, Nat.le_of_ble_eq_true rfl⟩) hS (fun q _ h => hFc q h) hFc (fun u tS H1 locs ht hvm hw hB hz1 hk1 hS => ?_)
      subst hw
      obtain ⟨hP1, hK1, hD1⟩ := hB
      rw [ht] at hP1
      obtain ⟨hP, hD⟩ := va_join (wr := []) (w1 := [(h, .inr (2, [.ref k, .ref t, .int (nI n), .ref k2, .ref t2])), (k, .inl (cA, 500, .inl K)), (t, .inl (cB, 500, .inl T)), (k2, .inl (cC, 500, .inl (upd NK1 (pl (mk o) (mZ K T) a b q) (K q)))), (t2, .inl (cD, 500, .inl (upd NT1 (pl (mk o) (mZ K T) a b q) (T q))))]) hP hD [0, 1, 2, 3, 4] [] rfl rfl (by decide) (by decide) hk1 hFc hP1 hD1
      generalize H1 = H at hP hS ⊢
      have hP : va_P (dC, dI) vwCl [(h, .inr (2, [.ref k, .ref t, .int (nI n), .ref k2, .ref t2])), (k, .inl (cA, 500, .inl K)), (t, .inl (cB, 500, .inl T)), (k2, .inl (cC, 500, .inl (upd NK1 (pl (mk o) (mZ K T) a b q) (K q)))), (t2, .inl (cD, 500, .inl (upd NT1 (pl (mk o) (mZ K T) a b q) (T q))))] H := hP
      have hD : va_D A [(h, .inr (2, [.ref k, .ref t, .int (nI n), .ref k2, .ref t2])), (k, .inl (cA, 500, .inl K)), (t, .inl (cB, 500, .inl T)), (k2, .inl (cC, 500, .inl (upd NK1 (pl (mk o) (mZ K T) a b q) (K q)))), (t2, .inl (cD, 500, .inl (upd NT1 (pl (mk o) (mZ K T) a b q) (T q))))] := hD
      refine lv_iinc (v := (nI (q + 1))) (lv' := [(4, .int (nI (q + 1))), (0, .ref h), (1, .int (nI a)), (2, .int (nI b)), (3, .int (nI o))]) hx hb dX3_arrange_24 hl (k := 4) rfl (by first | exact nI_add q 1 | (rw [← nI_add]; rfl)) (by decide) rfl (fun ls hl => ?_)
      refine lv_goto (tgt := 3) hx hb dX3_arrange_27 (by decide) ?_
      exact ihe ((q + 1), (upd NK1 (pl (mk o) (mZ K T) a b q) (K q)), (upd NT1 (pl (mk o) (mZ K T) a b q) (T q))) (by show b - (q + 1) < b - q; omega) _ _ _ ⟨by omega, by omega, arI_s ve2 (by omega) (by omega) (mZ_put NK1 NT1 (pl (mk o) (mZ K T) a b q) (K q) (T q)), hP, hD, hS, lv_sub hl [1, 2, 3, 4, 0] rfl⟩
  · exact ⟨Nat.le_refl _, by omega, arI_0, hP, hD, hS, lv_sub hl [1, 2, 3, 4, 0] rfl⟩
