set_option maxHeartbeats 4000000 in
set_option maxRecDepth 100000 in
theorem c_X1_inOrder (l : Launch) (dC : Nat → ClassId) (dI : Nat → Nat → Nat) (sz : Nat) (r k t : Nat) (cA cB : ClassId) (n : Nat) (cm wr : Int32) (K T : Nat → Int32) (a b o : Nat) (hab : a ≤ b) (hb5 : b ≤ 500) (ho : o < 4) : Met l yX1_inOrder wsX1_inOrder ({ frames := 2, cells := 0, slots := 0, locals := 45 }) (va_Pc [.ref r, .int (nI a), .int (nI b), .int (nI o)] (fun U => U.heap.size = sz ∧ va_P (dC, dI) vwCl [(r, .inr (0, [.ref k, .ref t, .int (nI n), .int cm, .int wr])), (k, .inl (cA, 500, .inl K)), (t, .inl (cB, 500, .inl T))] U.heap ∧ va_K (dC, dI) vwCl [(cA, .int), (cB, .int)] U ∧ va_D (fun _ => True) [(r, .inr (0, [.ref k, .ref t, .int (nI n), .int cm, .int wr])), (k, .inl (cA, 500, .inl K)), (t, .inl (cB, 500, .inl T))])) (va_Qi (fun r u => tr r (srt (mk o) (mZ K T) a b) ∧ ∃ d, d ≤ b - a ∧ u = (K, T, n, cm + nI d, wr)) (atR dC dI (va_A [(r, .inr (0, [.ref k, .ref t, .int (nI n), .int cm, .int wr])), (k, .inl (cA, 500, .inl K)), (t, .inl (cB, 500, .inl T))] sz) r k t cA cB) (va_A [(r, .inr (0, [.ref k, .ref t, .int (nI n), .int cm, .int wr])), (k, .inl (cA, 500, .inl K)), (t, .inl (cB, 500, .inl T))] sz)) 0 0 (va_A [(r, .inr (0, [.ref k, .ref t, .int (nI n), .int cm, .int wr])), (k, .inl (cA, 500, .inl K)), (t, .inl (cB, 500, .inl T))] sz) := by
  refine Met.ofW (cc := cX1_inOrder) (maxL := 5) (ret := (some .boolean)) (by decide) rfl ?_
  intro p e s m args below meth c s₁ B hml hv
  obtain ⟨rfl, hsz, hP, hK, hD0⟩ := hv
  have hx := B.exec
  have hb := B.bytes
  have hr := B.returns
  have hts := atoms_spec (ws := wsX1_inOrder) B.pre
  have hown : s.vm.findClass RX1 = some m.cls := findClass_of_methodNamed B.named
  have hlocks := B.notSynchronized
  subst hsz
  have hD := hD0.self (sz := s.heap.size)
  generalize hAe : va_A [(r, .inr (0, [.ref k, .ref t, .int (nI n), .int cm, .int wr])), (k, .inl (cA, 500, .inl K)), (t, .inl (cB, 500, .inl T))] s.heap.size = A at hD ⊢
  have hA : ∀ q : Nat, s.heap.size ≤ q → A q := fun q h => by rw [← hAe]; exact Or.inr h
  have hS : va_S A s.heap s.heap [] := va_S.rf
  have hP : va_P (dC, dI) vwCl [(r, .inr (0, [.ref k, .ref t, .int (nI n), .int cm, .int wr])), (k, .inl (cA, 500, .inl K)), (t, .inl (cB, 500, .inl T))] s.heap := hP
  have hl := lv_entry ([.ref r, .int (nI a), .int (nI b), .int (nI o)]) (n := 5) (Nat.le_of_ble_eq_true rfl)
  rw [lg_entry_eq]
  generalize (lg_sl ([.ref r, .int (nI a), .int (nI b), .int (nI o)]) ++ List.replicate (5 - (lg_sl ([.ref r, .int (nI a), .int (nI b), .int (nI o)])).length) Slot.unset).toArray = ls at hl ⊢
  have hl : lv_has ls 5 [(0, .ref r), (1, .int (nI a)), (2, .int (nI b)), (3, .int (nI o))] := hl
  refine lv_iload_n hx hb dX1_inOrder_0 rfl (lv_at hl 1 rfl) ?_
  refine lv_iconst (v := (nI 1)) hx hb dX1_inOrder_1 (by decide) ?_
  refine lv_iadd hx hb dX1_inOrder_2 ?_
  refine lz_top (y := (nI (a + 1))) (nI_add _ _) ?_
  refine lv_istore (lv' := [(4, .int (nI (a + 1))), (0, .ref r), (1, .int (nI a)), (2, .int (nI b)), (3, .int (nI o))]) hx hb dX1_inOrder_3 hl (by decide) rfl (fun ls hl => ?_)
  refine lz_loop (σ := Nat × Int32 × Nat) (μ := fun X_ => match X_ with | (q, c1, d) => b + 1 - q) (Inv := fun X_ H locs ls => match X_ with | (q, c1, d) => (a + 1 ≤ q) ∧ (q ≤ b + 1) ∧ (srt (mk o) (mZ K T) a q) ∧ (c1 = cm + nI d) ∧ (d + (a + 1) ≤ q) ∧ va_P (dC, dI) vwCl [(r, .inr (0, [.ref k, .ref t, .int (nI n), .int c1, .int wr])), (k, .inl (cA, 500, .inl K)), (t, .inl (cB, 500, .inl T))] H ∧ va_D A [(r, .inr (0, [.ref k, .ref t, .int (nI n), .int c1, .int wr])), (k, .inl (cA, 500, .inl K)), (t, .inl (cB, 500, .inl T))] ∧ va_S A s.heap H locs ∧ lv_has ls 5 [(0, .ref r), (1, .int (nI a)), (2, .int (nI b)), (3, .int (nI o)), (4, .int (nI q))]) ?_ ((a + 1), cm, 0) _ _ _ ?_
  · rintro ⟨q, c1, d⟩ iha H locs ls ⟨va0, va1, va2, va3, va4, hP, hD, hS, hl⟩
    refine lv_iload hx hb dX1_inOrder_5 (lv_at hl 4 rfl) ?_
    refine lv_iload_n hx hb dX1_inOrder_7 rfl (lv_at hl 2 rfl) ?_
    refine lz_icmp_ge (tgt := 33) (by omega) (by omega) hx hb dX1_inOrder_8 (by decide) (fun c8 => ?_) (fun c8 => ?_)
    · refine lv_iconst (v := (nI 1)) hx hb dX1_inOrder_33 (by decide) ?_
      exact W.zret (v := (nI 1)) hx hb hr rfl (fun tS ht hW => ⟨⟨(nI 1), (K, T, n, c1, wr), rfl, ⟨tr_t (srt_sub va2 (Nat.le_refl _) (by omega)), d, by omega, by rw [va3]⟩, by rw [ht]; exact hP, va_K.moved hW.alike hK, hD⟩, hS.F ht⟩) hS.2.2 dX1_inOrder_34
    · refine lv_aload_n hx hb dX1_inOrder_11 rfl (lv_at hl 0 rfl) ?_
      refine lv_iload hx hb dX1_inOrder_12 (lv_at hl 4 rfl) ?_
      refine lv_iload hx hb dX1_inOrder_14 (lv_at hl 4 rfl) ?_
      refine lv_iconst (v := (nI 1)) hx hb dX1_inOrder_16 (by decide) ?_
      refine lv_isub hx hb dX1_inOrder_17 ?_
      refine lz_top (y := (nI (q - 1))) (pk_sub (by omega)) ?_
      refine lv_iload_n hx hb dX1_inOrder_18 rfl (lv_at hl 3 rfl) ?_
      have hPc := hP.sub (ws' := [(r, .inr (0, [.ref k, .ref t, .int (nI n), .int c1, .int wr])), (k, .inl (cA, 500, .inl K)), (t, .inl (cB, 500, .inl T))]) [0, 1, 2] rfl
      have hDc := hD.sub (ws' := [(r, .inr (0, [.ref k, .ref t, .int (nI n), .int c1, .int wr])), (k, .inl (cA, 500, .inl K)), (t, .inl (cB, 500, .inl T))]) [0, 1, 2] (by decide) rfl
      have hKc := hK.sub (tys' := [(cA, .int), (cB, .int)]) [0, 1] rfl
      have hFc := va_free (wc := [(r, .inr (0, [.ref k, .ref t, .int (nI n), .int c1, .int wr])), (k, .inl (cA, 500, .inl K)), (t, .inl (cB, 500, .inl T))]) hD hS hA [0, 1, 2] rfl
      refine va_calli (va_runV (As := [.int (nI q), .int (nI (q - 1)), .int (nI o)]) (rest := []) ⟨hx, hb, hml, hown, hts⟩ (c_X1_lessAt l dC dI H.size r k t cA cB n c1 wr K T q (q - 1) o (by omega) (by omega) ho) (cwV 3 hts gX1_inOrder_X1_lessAt rfl rfl rfl (by decide +kernel) ⟨Nat.le_of_ble_eq_true rfl, Nat.le_of_ble_eq_true rfl⟩) ⟨fun a U g mk q => by obtain ⟨q0, q1, qP, qK, qD⟩ := q; exact ⟨q0, q1, qP, va_K.moved (u := U) (U := U.calling g mk a) (Vm.Alike.refl U.vm) qK, qD⟩, va_recv hKc hPc (ci := 0) (q0 := 0) rfl rfl, fun U hU hW => ⟨rfl, by rw [hU], by rw [hU]; exact hPc, va_K.moved hW.alike hKc, hDc.weaken (fun _ _ _ _ => trivial)⟩⟩ rfl rfl hl.1 rfl (lv_room (Nat.le_of_ble_eq_true rfl)) dX1_inOrder_19 ⟨Nat.le_of_ble_eq_true rfl, Nat.le_of_ble_eq_true rfl⟩) hS (fun q _ h => hFc q h) hFc (fun r_1 u tS H1 locs ht hvm hw hB hz1 hk1 hS => ?_)
      obtain ⟨hq, rfl⟩ := hw
      obtain ⟨hP1, hK1, hD1⟩ := hB
      rw [ht] at hP1
      obtain ⟨hP, hD⟩ := va_join (wr := []) (w1 := [(r, .inr (0, [.ref k, .ref t, .int (nI n), .int (c1 + nI 1), .int wr])), (k, .inl (cA, 500, .inl K)), (t, .inl (cB, 500, .inl T))]) hP hD [0, 1, 2] [] rfl rfl (by decide) (by decide) hk1 hFc hP1 hD1
      generalize H1 = H at hP hS ⊢
      have hP : va_P (dC, dI) vwCl [(r, .inr (0, [.ref k, .ref t, .int (nI n), .int (c1 + nI 1), .int wr])), (k, .inl (cA, 500, .inl K)), (t, .inl (cB, 500, .inl T))] H := hP
      have hD : va_D A [(r, .inr (0, [.ref k, .ref t, .int (nI n), .int (c1 + nI 1), .int wr])), (k, .inl (cA, 500, .inl K)), (t, .inl (cB, 500, .inl T))] := hD
      refine lv_if_eq (tgt := 27) hx hb dX1_inOrder_22 (by decide) (fun c22 => ?_) (fun c22 => ?_)
      · refine lv_iinc (v := (nI (q + 1))) (lv' := [(4, .int (nI (q + 1))), (0, .ref r), (1, .int (nI a)), (2, .int (nI b)), (3, .int (nI o))]) hx hb dX1_inOrder_27 hl (k := 4) rfl (by first | exact nI_add q 1 | (rw [← nI_add]; rfl)) (by decide) rfl (fun ls hl => ?_)
        refine lv_goto (tgt := 5) hx hb dX1_inOrder_30 (by decide) ?_
        exact iha ((q + 1), (c1 + nI 1), (d + 1)) (by show b + 1 - (q + 1) < b + 1 - q; omega) _ _ _ ⟨by omega, by omega, srt_snoc va2 (fun _ => Int.not_lt.mp (tr_0 hq c22)), ad1 va3 1, by omega, hP, hD, hS, lv_sub hl [1, 2, 3, 4, 0] rfl⟩
      · refine lv_iconst (v := (nI 0)) hx hb dX1_inOrder_25 (by decide) ?_
        exact W.zret (v := (nI 0)) hx hb hr rfl (fun tS ht hW => ⟨⟨(nI 0), (K, T, n, (c1 + nI 1), wr), rfl, ⟨tr_f (fun z => absurd (tr_1 hq c22) (Int.not_lt.mpr (z (q - 1) q (by omega) (by omega) (by omega)))), d + 1, by omega, by rw [ad1 va3 1]⟩, by rw [ht]; exact hP, va_K.moved hW.alike hK, hD⟩, hS.F ht⟩) hS.2.2 dX1_inOrder_26
  · exact ⟨Nat.le_refl _, by omega, srt_short (by omega), ad0 cm, by omega, hP, hD, hS, lv_sub hl [1, 2, 3, 4, 0] rfl⟩
set_option maxHeartbeats 4000000 in
set_option maxRecDepth 100000 in
theorem c_X1_countLess (l : Launch) (dC : Nat → ClassId) (dI : Nat → Nat → Nat) (sz : Nat) (r k t : Nat) (cA cB : ClassId) (n : Nat) (cm wr : Int32) (K T : Nat → Int32) (a b : Nat) (x : Int32) (o : Nat) (hab : a ≤ b) (hb5 : b ≤ 500) (ho : o < 4) : Met l yX1_countLess wsX1_countLess ({ frames := 1, cells := 0, slots := 0, locals := 22 }) (va_Pc [.ref r, .int (nI a), .int (nI b), .int x, .int (nI o)] (fun U => U.heap.size = sz ∧ va_P (dC, dI) vwCl [(r, .inr (0, [.ref k, .ref t, .int (nI n), .int cm, .int wr])), (k, .inl (cA, 500, .inl K)), (t, .inl (cB, 500, .inl T))] U.heap ∧ va_K (dC, dI) vwCl [(cA, .int), (cB, .int)] U ∧ va_D (fun _ => True) [(r, .inr (0, [.ref k, .ref t, .int (nI n), .int cm, .int wr])), (k, .inl (cA, 500, .inl K)), (t, .inl (cB, 500, .inl T))])) (va_Qi (fun r u => r = nI (cn (fun j => mk o (K j) < mk o x) a (b - a)) ∧ u = (K, T, n, cm, wr)) (atR dC dI (va_A [(r, .inr (0, [.ref k, .ref t, .int (nI n), .int cm, .int wr])), (k, .inl (cA, 500, .inl K)), (t, .inl (cB, 500, .inl T))] sz) r k t cA cB) (va_A [(r, .inr (0, [.ref k, .ref t, .int (nI n), .int cm, .int wr])), (k, .inl (cA, 500, .inl K)), (t, .inl (cB, 500, .inl T))] sz)) 0 0 (va_A [(r, .inr (0, [.ref k, .ref t, .int (nI n), .int cm, .int wr])), (k, .inl (cA, 500, .inl K)), (t, .inl (cB, 500, .inl T))] sz) := by
  refine Met.ofW (cc := cX1_countLess) (maxL := 7) (ret := (some .int)) (by decide) rfl ?_
  intro p e s m args below meth c s₁ B hml hv
  obtain ⟨rfl, hsz, hP, hK, hD0⟩ := hv
  have hx := B.exec
  have hb := B.bytes
  have hr := B.returns
  have hts := atoms_spec (ws := wsX1_countLess) B.pre
  have hown : s.vm.findClass RX1 = some m.cls := findClass_of_methodNamed B.named
  have hlocks := B.notSynchronized
  subst hsz
  have hD := hD0.self (sz := s.heap.size)
  generalize hAe : va_A [(r, .inr (0, [.ref k, .ref t, .int (nI n), .int cm, .int wr])), (k, .inl (cA, 500, .inl K)), (t, .inl (cB, 500, .inl T))] s.heap.size = A at hD ⊢
  have hA : ∀ q : Nat, s.heap.size ≤ q → A q := fun q h => by rw [← hAe]; exact Or.inr h
  have hS : va_S A s.heap s.heap [] := va_S.rf
  have hP : va_P (dC, dI) vwCl [(r, .inr (0, [.ref k, .ref t, .int (nI n), .int cm, .int wr])), (k, .inl (cA, 500, .inl K)), (t, .inl (cB, 500, .inl T))] s.heap := hP
  have hl := lv_entry ([.ref r, .int (nI a), .int (nI b), .int x, .int (nI o)]) (n := 7) (Nat.le_of_ble_eq_true rfl)
  rw [lg_entry_eq]
  generalize (lg_sl ([.ref r, .int (nI a), .int (nI b), .int x, .int (nI o)]) ++ List.replicate (7 - (lg_sl ([.ref r, .int (nI a), .int (nI b), .int x, .int (nI o)])).length) Slot.unset).toArray = ls at hl ⊢
  have hl : lv_has ls 7 [(0, .ref r), (1, .int (nI a)), (2, .int (nI b)), (3, .int x), (4, .int (nI o))] := hl
  refine lv_iconst (v := (nI 0)) hx hb dX1_countLess_0 (by decide) ?_
  refine lv_istore (lv' := [(5, .int (nI 0)), (0, .ref r), (1, .int (nI a)), (2, .int (nI b)), (3, .int x), (4, .int (nI o))]) hx hb dX1_countLess_1 hl (by decide) rfl (fun ls hl => ?_)
  refine lv_iload_n hx hb dX1_countLess_3 rfl (lv_at hl 2 rfl) ?_
  refine lv_istore (lv' := [(6, .int (nI a)), (5, .int (nI 0)), (0, .ref r), (1, .int (nI a)), (2, .int (nI b)), (3, .int x), (4, .int (nI o))]) hx hb dX1_countLess_4 hl (by decide) rfl (fun ls hl => ?_)
  refine lz_loop (σ := Nat × Nat) (μ := fun X_ => match X_ with | (x5, q) => b - q) (Inv := fun X_ H locs ls => match X_ with | (x5, q) => (a ≤ q) ∧ (q ≤ b) ∧ (x5 = cn (fun j => mk o (K j) < mk o x) a (q - a)) ∧ va_P (dC, dI) vwCl [(r, .inr (0, [.ref k, .ref t, .int (nI n), .int cm, .int wr])), (k, .inl (cA, 500, .inl K)), (t, .inl (cB, 500, .inl T))] H ∧ va_D A [(r, .inr (0, [.ref k, .ref t, .int (nI n), .int cm, .int wr])), (k, .inl (cA, 500, .inl K)), (t, .inl (cB, 500, .inl T))] ∧ va_S A s.heap H locs ∧ lv_has ls 7 [(0, .ref r), (1, .int (nI a)), (2, .int (nI b)), (3, .int x), (4, .int (nI o)), (5, .int (nI x5)), (6, .int (nI q))]) ?_ (0, a) _ _ _ ?_
  · rintro ⟨x5, q⟩ ihb H locs ls ⟨vb0, vb1, vb2, hP, hD, hS, hl⟩
    refine lv_iload hx hb dX1_countLess_6 (lv_at hl 6 rfl) ?_
    refine lv_iload_n hx hb dX1_countLess_8 rfl (lv_at hl 2 rfl) ?_
    refine lz_icmp_ge (tgt := 37) (by omega) (by omega) hx hb dX1_countLess_9 (by decide) (fun c9 => ?_) (fun c9 => ?_)
    · refine lv_iload hx hb dX1_countLess_37 (lv_at hl 5 rfl) ?_
      exact W.iret (v := (nI x5)) hx hb hr (fun tS ht hW => ⟨⟨(nI x5), (K, T, n, cm, wr), rfl, ⟨by rw [vb2, show q = b by omega], rfl⟩, by rw [ht]; exact hP, va_K.moved hW.alike hK, hD⟩, hS.F ht⟩) hS.2.2 dX1_countLess_39
    · refine lv_aload_n hx hb dX1_countLess_12 rfl (lv_at hl 0 rfl) ?_
      refine va_get (D := (dC, dI)) (ci := 0) (v := .ref k) (C := RX1) (T := TX1) (N := 5) hx hb hts (by decide +kernel) hown hK hP 0 rfl rfl 0 (by decide) (hts (.fieldLink RX1 9 "RowPress$Row" "keys" "[I") (by decide +kernel)) (fun _ h9 => h9) rfl dX1_countLess_13 ?_
      refine lv_iload hx hb dX1_countLess_16 (lv_at hl 6 rfl) ?_
      refine lz_iald hx hb hK hP 1 0 rfl rfl (j := q) (by omega) (by decide) dX1_countLess_18 ?_
      refine lv_iload_n hx hb dX1_countLess_19 rfl (lv_at hl 3 rfl) ?_
      refine lv_iload hx hb dX1_countLess_20 (lv_at hl 4 rfl) ?_
      have hPc := hP.sub (ws' := []) [] rfl
      have hDc := hD.sub (ws' := []) [] (by decide) rfl
      have hKc := hK.sub (tys' := []) [] rfl
      have hFc := va_free (wc := []) hD hS hA [] rfl
      refine va_calli (va_runS (As := [.int (K q), .int x, .int (nI o)]) (rest := []) ⟨hx, hb, hml, hown, hts⟩ (c_X0_isLess l dC dI H.size (K q) x o ho) (va_cwS 3 hts gX1_countLess_X0_isLess rfl rfl rfl (by decide +kernel) ⟨Nat.le_of_ble_eq_true rfl, Nat.le_of_ble_eq_true rfl⟩) ⟨fun a U g mk q => by obtain ⟨q0, q1, qP, qK, qD⟩ := q; exact ⟨q0, q1, qP, va_K.moved (u := U) (U := U.calling g mk a) (Vm.Alike.refl U.vm) qK, qD⟩, fun U hU hW => ⟨rfl, by rw [hU], by rw [hU]; exact hPc, va_K.moved hW.alike hKc, hDc.weaken (fun _ _ _ _ => trivial)⟩⟩ rfl rfl hl.1 rfl (lv_room (Nat.le_of_ble_eq_true rfl)) dX1_countLess_22 ⟨Nat.le_of_ble_eq_true rfl, Nat.le_of_ble_eq_true rfl⟩) hS (fun q _ h => hFc q h) hFc (fun r_1 u tS H1 locs ht hvm hw hB hz1 hk1 hS => ?_)
      have hq := hw
      obtain ⟨hP1, hK1, hD1⟩ := hB
      rw [ht] at hP1
      obtain ⟨hP, hD⟩ := va_join (wr := [(r, .inr (0, [.ref k, .ref t, .int (nI n), .int cm, .int wr])), (k, .inl (cA, 500, .inl K)), (t, .inl (cB, 500, .inl T))]) (w1 := []) hP hD [] [0, 1, 2] rfl rfl (by decide) (by decide) hk1 hFc hP1 hD1
      generalize H1 = H at hP hS ⊢
      have hP : va_P (dC, dI) vwCl [(r, .inr (0, [.ref k, .ref t, .int (nI n), .int cm, .int wr])), (k, .inl (cA, 500, .inl K)), (t, .inl (cB, 500, .inl T))] H := hP
      have hD : va_D A [(r, .inr (0, [.ref k, .ref t, .int (nI n), .int cm, .int wr])), (k, .inl (cA, 500, .inl K)), (t, .inl (cB, 500, .inl T))] := hD
      refine lv_if_eq (tgt := 31) hx hb dX1_countLess_25 (by decide) (fun c25 => ?_) (fun c25 => ?_)
      · refine lv_iinc (v := (nI (q + 1))) (lv' := [(6, .int (nI (q + 1))), (0, .ref r), (1, .int (nI a)), (2, .int (nI b)), (3, .int x), (4, .int (nI o)), (5, .int (nI x5))]) hx hb dX1_countLess_31 hl (k := 6) rfl (by first | exact nI_add q 1 | (rw [← nI_add]; rfl)) (by decide) rfl (fun ls hl => ?_)
        refine lv_goto (tgt := 6) hx hb dX1_countLess_34 (by decide) ?_
        exact ihb (x5, (q + 1)) (by show b - (q + 1) < b - q; omega) _ _ _ ⟨by omega, by omega, by rw [cn_sf (P := fun j => mk o (K j) < mk o x) (by omega) (tr_0 hq c25)]; exact vb2, hP, hD, hS, lv_sub hl [1, 2, 3, 4, 5, 6, 0] rfl⟩
      · refine lv_iinc (v := (nI (x5 + 1))) (lv' := [(5, .int (nI (x5 + 1))), (0, .ref r), (1, .int (nI a)), (2, .int (nI b)), (3, .int x), (4, .int (nI o)), (6, .int (nI q))]) hx hb dX1_countLess_28 hl (k := 5) rfl (by first | exact nI_add x5 1 | (rw [← nI_add]; rfl)) (by decide) rfl (fun ls hl => ?_)
        refine lv_iinc (v := (nI (q + 1))) (lv' := [(6, .int (nI (q + 1))), (5, .int (nI (x5 + 1))), (0, .ref r), (1, .int (nI a)), (2, .int (nI b)), (3, .int x), (4, .int (nI o))]) hx hb dX1_countLess_31 hl (k := 6) rfl (by first | exact nI_add q 1 | (rw [← nI_add]; rfl)) (by decide) rfl (fun ls hl => ?_)
        refine lv_goto (tgt := 6) hx hb dX1_countLess_34 (by decide) ?_
        exact ihb ((x5 + 1), (q + 1)) (by show b - (q + 1) < b - q; omega) _ _ _ ⟨by omega, by omega, by rw [cn_st (P := fun j => mk o (K j) < mk o x) (by omega) (tr_1 hq c25), ← vb2], hP, hD, hS, lv_sub hl [2, 3, 4, 5, 6, 1, 0] rfl⟩
  · exact ⟨Nat.le_refl _, by omega, cn_s0, hP, hD, hS, lv_sub hl [2, 3, 4, 5, 6, 1, 0] rfl⟩
set_option maxHeartbeats 4000000 in
set_option maxRecDepth 100000 in
theorem c_X1_countNotMore (l : Launch) (dC : Nat → ClassId) (dI : Nat → Nat → Nat) (sz : Nat) (r k t : Nat) (cA cB : ClassId) (n : Nat) (cm wr : Int32) (K T : Nat → Int32) (a b : Nat) (x : Int32) (o : Nat) (hab : a ≤ b) (hb5 : b ≤ 500) (ho : o < 4) : Met l yX1_countNotMore wsX1_countNotMore ({ frames := 1, cells := 0, slots := 0, locals := 22 }) (va_Pc [.ref r, .int (nI a), .int (nI b), .int x, .int (nI o)] (fun U => U.heap.size = sz ∧ va_P (dC, dI) vwCl [(r, .inr (0, [.ref k, .ref t, .int (nI n), .int cm, .int wr])), (k, .inl (cA, 500, .inl K)), (t, .inl (cB, 500, .inl T))] U.heap ∧ va_K (dC, dI) vwCl [(cA, .int), (cB, .int)] U ∧ va_D (fun _ => True) [(r, .inr (0, [.ref k, .ref t, .int (nI n), .int cm, .int wr])), (k, .inl (cA, 500, .inl K)), (t, .inl (cB, 500, .inl T))])) (va_Qi (fun r u => r = nI (cn (fun j => ¬ mk o x < mk o (K j)) a (b - a)) ∧ u = (K, T, n, cm, wr)) (atR dC dI (va_A [(r, .inr (0, [.ref k, .ref t, .int (nI n), .int cm, .int wr])), (k, .inl (cA, 500, .inl K)), (t, .inl (cB, 500, .inl T))] sz) r k t cA cB) (va_A [(r, .inr (0, [.ref k, .ref t, .int (nI n), .int cm, .int wr])), (k, .inl (cA, 500, .inl K)), (t, .inl (cB, 500, .inl T))] sz)) 0 0 (va_A [(r, .inr (0, [.ref k, .ref t, .int (nI n), .int cm, .int wr])), (k, .inl (cA, 500, .inl K)), (t, .inl (cB, 500, .inl T))] sz) := by
  refine Met.ofW (cc := cX1_countNotMore) (maxL := 7) (ret := (some .int)) (by decide) rfl ?_
  intro p e s m args below meth c s₁ B hml hv
  obtain ⟨rfl, hsz, hP, hK, hD0⟩ := hv
  have hx := B.exec
  have hb := B.bytes
  have hr := B.returns
  have hts := atoms_spec (ws := wsX1_countNotMore) B.pre
  have hown : s.vm.findClass RX1 = some m.cls := findClass_of_methodNamed B.named
  have hlocks := B.notSynchronized
  subst hsz
  have hD := hD0.self (sz := s.heap.size)
  generalize hAe : va_A [(r, .inr (0, [.ref k, .ref t, .int (nI n), .int cm, .int wr])), (k, .inl (cA, 500, .inl K)), (t, .inl (cB, 500, .inl T))] s.heap.size = A at hD ⊢
  have hA : ∀ q : Nat, s.heap.size ≤ q → A q := fun q h => by rw [← hAe]; exact Or.inr h
  have hS : va_S A s.heap s.heap [] := va_S.rf
  have hP : va_P (dC, dI) vwCl [(r, .inr (0, [.ref k, .ref t, .int (nI n), .int cm, .int wr])), (k, .inl (cA, 500, .inl K)), (t, .inl (cB, 500, .inl T))] s.heap := hP
  have hl := lv_entry ([.ref r, .int (nI a), .int (nI b), .int x, .int (nI o)]) (n := 7) (Nat.le_of_ble_eq_true rfl)
  rw [lg_entry_eq]
  generalize (lg_sl ([.ref r, .int (nI a), .int (nI b), .int x, .int (nI o)]) ++ List.replicate (7 - (lg_sl ([.ref r, .int (nI a), .int (nI b), .int x, .int (nI o)])).length) Slot.unset).toArray = ls at hl ⊢
  have hl : lv_has ls 7 [(0, .ref r), (1, .int (nI a)), (2, .int (nI b)), (3, .int x), (4, .int (nI o))] := hl
  refine lv_iconst (v := (nI 0)) hx hb dX1_countNotMore_0 (by decide) ?_
  refine lv_istore (lv' := [(5, .int (nI 0)), (0, .ref r), (1, .int (nI a)), (2, .int (nI b)), (3, .int x), (4, .int (nI o))]) hx hb dX1_countNotMore_1 hl (by decide) rfl (fun ls hl => ?_)
  refine lv_iload_n hx hb dX1_countNotMore_3 rfl (lv_at hl 2 rfl) ?_
  refine lv_istore (lv' := [(6, .int (nI a)), (5, .int (nI 0)), (0, .ref r), (1, .int (nI a)), (2, .int (nI b)), (3, .int x), (4, .int (nI o))]) hx hb dX1_countNotMore_4 hl (by decide) rfl (fun ls hl => ?_)
  refine lz_loop (σ := Nat × Nat) (μ := fun X_ => match X_ with | (x5, q) => b - q) (Inv := fun X_ H locs ls => match X_ with | (x5, q) => (a ≤ q) ∧ (q ≤ b) ∧ (x5 = cn (fun j => ¬ mk o x < mk o (K j)) a (q - a)) ∧ va_P (dC, dI) vwCl [(r, .inr (0, [.ref k, .ref t, .int (nI n), .int cm, .int wr])), (k, .inl (cA, 500, .inl K)), (t, .inl (cB, 500, .inl T))] H ∧ va_D A [(r, .inr (0, [.ref k, .ref t, .int (nI n), .int cm, .int wr])), (k, .inl (cA, 500, .inl K)), (t, .inl (cB, 500, .inl T))] ∧ va_S A s.heap H locs ∧ lv_has ls 7 [(0, .ref r), (1, .int (nI a)), (2, .int (nI b)), (3, .int x), (4, .int (nI o)), (5, .int (nI x5)), (6, .int (nI q))]) ?_ (0, a) _ _ _ ?_
  · rintro ⟨x5, q⟩ ihb H locs ls ⟨vb0, vb1, vb2, hP, hD, hS, hl⟩
    refine lv_iload hx hb dX1_countNotMore_6 (lv_at hl 6 rfl) ?_
    refine lv_iload_n hx hb dX1_countNotMore_8 rfl (lv_at hl 2 rfl) ?_
    refine lz_icmp_ge (tgt := 37) (by omega) (by omega) hx hb dX1_countNotMore_9 (by decide) (fun c9 => ?_) (fun c9 => ?_)
    · refine lv_iload hx hb dX1_countNotMore_37 (lv_at hl 5 rfl) ?_
      exact W.iret (v := (nI x5)) hx hb hr (fun tS ht hW => ⟨⟨(nI x5), (K, T, n, cm, wr), rfl, ⟨by rw [vb2, show q = b by omega], rfl⟩, by rw [ht]; exact hP, va_K.moved hW.alike hK, hD⟩, hS.F ht⟩) hS.2.2 dX1_countNotMore_39
    · refine lv_iload_n hx hb dX1_countNotMore_12 rfl (lv_at hl 3 rfl) ?_
      refine lv_aload_n hx hb dX1_countNotMore_13 rfl (lv_at hl 0 rfl) ?_
      refine va_get (D := (dC, dI)) (ci := 0) (v := .ref k) (C := RX1) (T := TX1) (N := 5) hx hb hts (by decide +kernel) hown hK hP 0 rfl rfl 0 (by decide) (hts (.fieldLink RX1 9 "RowPress$Row" "keys" "[I") (by decide +kernel)) (fun _ h9 => h9) rfl dX1_countNotMore_14 ?_
      refine lv_iload hx hb dX1_countNotMore_17 (lv_at hl 6 rfl) ?_
      refine lz_iald hx hb hK hP 1 0 rfl rfl (j := q) (by omega) (by decide) dX1_countNotMore_19 ?_
      refine lv_iload hx hb dX1_countNotMore_20 (lv_at hl 4 rfl) ?_
      have hPc := hP.sub (ws' := []) [] rfl
      have hDc := hD.sub (ws' := []) [] (by decide) rfl
      have hKc := hK.sub (tys' := []) [] rfl
      have hFc := va_free (wc := []) hD hS hA [] rfl
      refine va_calli (va_runS (As := [.int x, .int (K q), .int (nI o)]) (rest := []) ⟨hx, hb, hml, hown, hts⟩ (c_X0_isLess l dC dI H.size x (K q) o ho) (va_cwS 3 hts gX1_countNotMore_X0_isLess rfl rfl rfl (by decide +kernel) ⟨Nat.le_of_ble_eq_true rfl, Nat.le_of_ble_eq_true rfl⟩) ⟨fun a U g mk q => by obtain ⟨q0, q1, qP, qK, qD⟩ := q; exact ⟨q0, q1, qP, va_K.moved (u := U) (U := U.calling g mk a) (Vm.Alike.refl U.vm) qK, qD⟩, fun U hU hW => ⟨rfl, by rw [hU], by rw [hU]; exact hPc, va_K.moved hW.alike hKc, hDc.weaken (fun _ _ _ _ => trivial)⟩⟩ rfl rfl hl.1 rfl (lv_room (Nat.le_of_ble_eq_true rfl)) dX1_countNotMore_22 ⟨Nat.le_of_ble_eq_true rfl, Nat.le_of_ble_eq_true rfl⟩) hS (fun q _ h => hFc q h) hFc (fun r_1 u tS H1 locs ht hvm hw hB hz1 hk1 hS => ?_)
      have hq := hw
      obtain ⟨hP1, hK1, hD1⟩ := hB
      rw [ht] at hP1
      obtain ⟨hP, hD⟩ := va_join (wr := [(r, .inr (0, [.ref k, .ref t, .int (nI n), .int cm, .int wr])), (k, .inl (cA, 500, .inl K)), (t, .inl (cB, 500, .inl T))]) (w1 := []) hP hD [] [0, 1, 2] rfl rfl (by decide) (by decide) hk1 hFc hP1 hD1
      generalize H1 = H at hP hS ⊢
      have hP : va_P (dC, dI) vwCl [(r, .inr (0, [.ref k, .ref t, .int (nI n), .int cm, .int wr])), (k, .inl (cA, 500, .inl K)), (t, .inl (cB, 500, .inl T))] H := hP
      have hD : va_D A [(r, .inr (0, [.ref k, .ref t, .int (nI n), .int cm, .int wr])), (k, .inl (cA, 500, .inl K)), (t, .inl (cB, 500, .inl T))] := hD
      refine lv_if_ne (tgt := 31) hx hb dX1_countNotMore_25 (by decide) (fun c25 => ?_) (fun c25 => ?_)
      · refine lv_iinc (v := (nI (q + 1))) (lv' := [(6, .int (nI (q + 1))), (0, .ref r), (1, .int (nI a)), (2, .int (nI b)), (3, .int x), (4, .int (nI o)), (5, .int (nI x5))]) hx hb dX1_countNotMore_31 hl (k := 6) rfl (by first | exact nI_add q 1 | (rw [← nI_add]; rfl)) (by decide) rfl (fun ls hl => ?_)
        refine lv_goto (tgt := 6) hx hb dX1_countNotMore_34 (by decide) ?_
        exact ihb (x5, (q + 1)) (by show b - (q + 1) < b - q; omega) _ _ _ ⟨by omega, by omega, by rw [cn_sf (P := fun j => ¬ mk o x < mk o (K j)) (by omega) (fun z => z (tr_1 hq c25))]; exact vb2, hP, hD, hS, lv_sub hl [1, 2, 3, 4, 5, 6, 0] rfl⟩
      · refine lv_iinc (v := (nI (x5 + 1))) (lv' := [(5, .int (nI (x5 + 1))), (0, .ref r), (1, .int (nI a)), (2, .int (nI b)), (3, .int x), (4, .int (nI o)), (6, .int (nI q))]) hx hb dX1_countNotMore_28 hl (k := 5) rfl (by first | exact nI_add x5 1 | (rw [← nI_add]; rfl)) (by decide) rfl (fun ls hl => ?_)
        refine lv_iinc (v := (nI (q + 1))) (lv' := [(6, .int (nI (q + 1))), (5, .int (nI (x5 + 1))), (0, .ref r), (1, .int (nI a)), (2, .int (nI b)), (3, .int x), (4, .int (nI o))]) hx hb dX1_countNotMore_31 hl (k := 6) rfl (by first | exact nI_add q 1 | (rw [← nI_add]; rfl)) (by decide) rfl (fun ls hl => ?_)
        refine lv_goto (tgt := 6) hx hb dX1_countNotMore_34 (by decide) ?_
        exact ihb ((x5 + 1), (q + 1)) (by show b - (q + 1) < b - q; omega) _ _ _ ⟨by omega, by omega, by rw [cn_st (P := fun j => ¬ mk o x < mk o (K j)) (by omega) (tr_0 hq c25), ← vb2], hP, hD, hS, lv_sub hl [2, 3, 4, 5, 6, 1, 0] rfl⟩
  · exact ⟨Nat.le_refl _, by omega, cn_s0, hP, hD, hS, lv_sub hl [2, 3, 4, 5, 6, 1, 0] rfl⟩
set_option maxHeartbeats 4000000 in
set_option maxRecDepth 100000 in
theorem c_X1_countSortedStretches (l : Launch) (dC : Nat → ClassId) (dI : Nat → Nat → Nat) (sz : Nat) (r k t : Nat) (cA cB : ClassId) (n : Nat) (cm wr : Int32) (K T : Nat → Int32) (hn : n ≤ 500) : Met l yX1_countSortedStretches wsX1_countSortedStretches ({ frames := 0, cells := 0, slots := 0, locals := 0 }) (va_Pc [.ref r] (fun U => U.heap.size = sz ∧ va_P (dC, dI) vwCl [(r, .inr (0, [.ref k, .ref t, .int (nI n), .int cm, .int wr])), (k, .inl (cA, 500, .inl K)), (t, .inl (cB, 500, .inl T))] U.heap ∧ va_K (dC, dI) vwCl [(cA, .int), (cB, .int)] U ∧ va_D (fun _ => True) [(r, .inr (0, [.ref k, .ref t, .int (nI n), .int cm, .int wr])), (k, .inl (cA, 500, .inl K)), (t, .inl (cB, 500, .inl T))])) (va_Qi (fun r u => r = nI (cn (fun j => j = 0 ∨ K j < K (j - 1)) 0 (n - 0)) ∧ u = (K, T, n, cm, wr)) (atR dC dI (va_A [(r, .inr (0, [.ref k, .ref t, .int (nI n), .int cm, .int wr])), (k, .inl (cA, 500, .inl K)), (t, .inl (cB, 500, .inl T))] sz) r k t cA cB) (va_A [(r, .inr (0, [.ref k, .ref t, .int (nI n), .int cm, .int wr])), (k, .inl (cA, 500, .inl K)), (t, .inl (cB, 500, .inl T))] sz)) 0 0 (va_A [(r, .inr (0, [.ref k, .ref t, .int (nI n), .int cm, .int wr])), (k, .inl (cA, 500, .inl K)), (t, .inl (cB, 500, .inl T))] sz) := by
  refine Met.ofW (cc := cX1_countSortedStretches) (maxL := 3) (ret := (some .int)) (by decide) rfl ?_
  intro p e s m args below meth c s₁ B hml hv
  obtain ⟨rfl, hsz, hP, hK, hD0⟩ := hv
  have hx := B.exec
  have hb := B.bytes
  have hr := B.returns
  have hts := atoms_spec (ws := wsX1_countSortedStretches) B.pre
  have hown : s.vm.findClass RX1 = some m.cls := findClass_of_methodNamed B.named
  have hlocks := B.notSynchronized
  subst hsz
  have hD := hD0.self (sz := s.heap.size)
  generalize hAe : va_A [(r, .inr (0, [.ref k, .ref t, .int (nI n), .int cm, .int wr])), (k, .inl (cA, 500, .inl K)), (t, .inl (cB, 500, .inl T))] s.heap.size = A at hD ⊢
  have hA : ∀ q : Nat, s.heap.size ≤ q → A q := fun q h => by rw [← hAe]; exact Or.inr h
  have hS : va_S A s.heap s.heap [] := va_S.rf
  have hP : va_P (dC, dI) vwCl [(r, .inr (0, [.ref k, .ref t, .int (nI n), .int cm, .int wr])), (k, .inl (cA, 500, .inl K)), (t, .inl (cB, 500, .inl T))] s.heap := hP
  have hl := lv_entry ([.ref r]) (n := 3) (Nat.le_of_ble_eq_true rfl)
  rw [lg_entry_eq]
  generalize (lg_sl ([.ref r]) ++ List.replicate (3 - (lg_sl ([.ref r])).length) Slot.unset).toArray = ls at hl ⊢
  have hl : lv_has ls 3 [(0, .ref r)] := hl
  refine lv_iconst (v := (nI 0)) hx hb dX1_countSortedStretches_0 (by decide) ?_
  refine lv_istore_n (lv' := [(1, .int (nI 0)), (0, .ref r)]) hx hb dX1_countSortedStretches_1 rfl hl (by decide) rfl (fun ls hl => ?_)
  refine lv_iconst (v := (nI 0)) hx hb dX1_countSortedStretches_2 (by decide) ?_
  refine lv_istore_n (lv' := [(2, .int (nI 0)), (1, .int (nI 0)), (0, .ref r)]) hx hb dX1_countSortedStretches_3 rfl hl (by decide) rfl (fun ls hl => ?_)
  refine lz_loop (σ := Nat × Nat) (μ := fun X_ => match X_ with | (x1, q) => n - q) (Inv := fun X_ H locs ls => match X_ with | (x1, q) => (q ≤ n) ∧ (x1 = cn (fun j => j = 0 ∨ K j < K (j - 1)) 0 (q - 0)) ∧ va_P (dC, dI) vwCl [(r, .inr (0, [.ref k, .ref t, .int (nI n), .int cm, .int wr])), (k, .inl (cA, 500, .inl K)), (t, .inl (cB, 500, .inl T))] H ∧ va_D A [(r, .inr (0, [.ref k, .ref t, .int (nI n), .int cm, .int wr])), (k, .inl (cA, 500, .inl K)), (t, .inl (cB, 500, .inl T))] ∧ va_S A s.heap H locs ∧ lv_has ls 3 [(0, .ref r), (1, .int (nI x1)), (2, .int (nI q))]) ?_ (0, 0) _ _ _ ?_
  · rintro ⟨x1, q⟩ ihc H locs ls ⟨vc0, vc1, hP, hD, hS, hl⟩
    refine lv_iload_n hx hb dX1_countSortedStretches_4 rfl (lv_at hl 2 rfl) ?_
    refine lv_aload_n hx hb dX1_countSortedStretches_5 rfl (lv_at hl 0 rfl) ?_
    refine va_get (D := (dC, dI)) (ci := 0) (v := .int (nI n)) (C := RX1) (T := TX1) (N := 5) hx hb hts (by decide +kernel) hown hK hP 0 rfl rfl 2 (by decide) (hts (.fieldLink RX1 16 "RowPress$Row" "size" "I") (by decide +kernel)) (fun _ h9 => h9) rfl dX1_countSortedStretches_6 ?_
    refine lz_icmp_ge (tgt := 42) (by omega) (by omega) hx hb dX1_countSortedStretches_9 (by decide) (fun c9 => ?_) (fun c9 => ?_)
    · refine lv_iload_n hx hb dX1_countSortedStretches_42 rfl (lv_at hl 1 rfl) ?_
      exact W.iret (v := (nI x1)) hx hb hr (fun tS ht hW => ⟨⟨(nI x1), (K, T, n, cm, wr), rfl, ⟨by rw [vc1, show q = n by omega], rfl⟩, by rw [ht]; exact hP, va_K.moved hW.alike hK, hD⟩, hS.F ht⟩) hS.2.2 dX1_countSortedStretches_43
    · refine lv_iload_n hx hb dX1_countSortedStretches_12 rfl (lv_at hl 2 rfl) ?_
      refine lz_if_eq (tgt := 33) (by omega) hx hb dX1_countSortedStretches_13 (by decide) (fun c13 => ?_) (fun c13 => ?_)
      · refine lv_iinc (v := (nI (x1 + 1))) (lv' := [(1, .int (nI (x1 + 1))), (0, .ref r), (2, .int (nI q))]) hx hb dX1_countSortedStretches_33 hl (k := 1) rfl (by first | exact nI_add x1 1 | (rw [← nI_add]; rfl)) (by decide) rfl (fun ls hl => ?_)
        refine lv_iinc (v := (nI (q + 1))) (lv' := [(2, .int (nI (q + 1))), (1, .int (nI (x1 + 1))), (0, .ref r)]) hx hb dX1_countSortedStretches_36 hl (k := 2) rfl (by first | exact nI_add q 1 | (rw [← nI_add]; rfl)) (by decide) rfl (fun ls hl => ?_)
        refine lv_goto (tgt := 4) hx hb dX1_countSortedStretches_39 (by decide) ?_
        exact ihc ((x1 + 1), (q + 1)) (by show n - (q + 1) < n - q; omega) _ _ _ ⟨by omega, by rw [cn_st (P := fun j => j = 0 ∨ K j < K (j - 1)) (by omega) (Or.inl c13), ← vc1], hP, hD, hS, lv_sub hl [2, 1, 0] rfl⟩
      · refine lv_aload_n hx hb dX1_countSortedStretches_16 rfl (lv_at hl 0 rfl) ?_
        refine va_get (D := (dC, dI)) (ci := 0) (v := .ref k) (C := RX1) (T := TX1) (N := 5) hx hb hts (by decide +kernel) hown hK hP 0 rfl rfl 0 (by decide) (hts (.fieldLink RX1 9 "RowPress$Row" "keys" "[I") (by decide +kernel)) (fun _ h9 => h9) rfl dX1_countSortedStretches_17 ?_
        refine lv_iload_n hx hb dX1_countSortedStretches_20 rfl (lv_at hl 2 rfl) ?_
        refine lz_iald hx hb hK hP 1 0 rfl rfl (j := q) (by omega) (by decide) dX1_countSortedStretches_21 ?_
        refine lv_aload_n hx hb dX1_countSortedStretches_22 rfl (lv_at hl 0 rfl) ?_
        refine va_get (D := (dC, dI)) (ci := 0) (v := .ref k) (C := RX1) (T := TX1) (N := 5) hx hb hts (by decide +kernel) hown hK hP 0 rfl rfl 0 (by decide) (hts (.fieldLink RX1 9 "RowPress$Row" "keys" "[I") (by decide +kernel)) (fun _ h9 => h9) rfl dX1_countSortedStretches_23 ?_
        refine lv_iload_n hx hb dX1_countSortedStretches_26 rfl (lv_at hl 2 rfl) ?_
        refine lv_iconst (v := (nI 1)) hx hb dX1_countSortedStretches_27 (by decide) ?_
        refine lv_isub hx hb dX1_countSortedStretches_28 ?_
        refine lz_top (y := (nI (q - 1))) (pk_sub (by omega)) ?_
        refine lz_iald hx hb hK hP 1 0 rfl rfl (j := q - 1) (by omega) (by decide) dX1_countSortedStretches_29 ?_
        refine lv_icmp_ge (tgt := 36) hx hb dX1_countSortedStretches_30 (by decide) (fun c30 => ?_) (fun c30 => ?_)
        · refine lv_iinc (v := (nI (q + 1))) (lv' := [(2, .int (nI (q + 1))), (0, .ref r), (1, .int (nI x1))]) hx hb dX1_countSortedStretches_36 hl (k := 2) rfl (by first | exact nI_add q 1 | (rw [← nI_add]; rfl)) (by decide) rfl (fun ls hl => ?_)
          refine lv_goto (tgt := 4) hx hb dX1_countSortedStretches_39 (by decide) ?_
          exact ihc (x1, (q + 1)) (by show n - (q + 1) < n - q; omega) _ _ _ ⟨by omega, by rw [cn_sf (P := fun j => j = 0 ∨ K j < K (j - 1)) (by omega) (fun z => z.elim c13 (fun z => ng_lt z c30))]; exact vc1, hP, hD, hS, lv_sub hl [1, 2, 0] rfl⟩
        · refine lv_iinc (v := (nI (x1 + 1))) (lv' := [(1, .int (nI (x1 + 1))), (0, .ref r), (2, .int (nI q))]) hx hb dX1_countSortedStretches_33 hl (k := 1) rfl (by first | exact nI_add x1 1 | (rw [← nI_add]; rfl)) (by decide) rfl (fun ls hl => ?_)
          refine lv_iinc (v := (nI (q + 1))) (lv' := [(2, .int (nI (q + 1))), (1, .int (nI (x1 + 1))), (0, .ref r)]) hx hb dX1_countSortedStretches_36 hl (k := 2) rfl (by first | exact nI_add q 1 | (rw [← nI_add]; rfl)) (by decide) rfl (fun ls hl => ?_)
          refine lv_goto (tgt := 4) hx hb dX1_countSortedStretches_39 (by decide) ?_
          exact ihc ((x1 + 1), (q + 1)) (by show n - (q + 1) < n - q; omega) _ _ _ ⟨by omega, by rw [cn_st (P := fun j => j = 0 ∨ K j < K (j - 1)) (by omega) (Or.inr (ng_le c30)), ← vc1], hP, hD, hS, lv_sub hl [2, 1, 0] rfl⟩
  · exact ⟨Nat.zero_le _, cn_s0, hP, hD, hS, lv_sub hl [2, 1, 0] rfl⟩
set_option maxHeartbeats 4000000 in
set_option maxRecDepth 100000 in
theorem c_X1_standsBefore (l : Launch) (dC : Nat → ClassId) (dI : Nat → Nat → Nat) (sz : Nat) (r k t : Nat) (cA cB : ClassId) (n : Nat) (cm wr : Int32) (K T : Nat → Int32) (i : Nat) (hi : i < 500) : Met l yX1_standsBefore wsX1_standsBefore ({ frames := 0, cells := 0, slots := 0, locals := 0 }) (va_Pc [.ref r, .int (nI i)] (fun U => U.heap.size = sz ∧ va_P (dC, dI) vwCl [(r, .inr (0, [.ref k, .ref t, .int (nI n), .int cm, .int wr])), (k, .inl (cA, 500, .inl K)), (t, .inl (cB, 500, .inl T))] U.heap ∧ va_K (dC, dI) vwCl [(cA, .int), (cB, .int)] U ∧ va_D (fun _ => True) [(r, .inr (0, [.ref k, .ref t, .int (nI n), .int cm, .int wr])), (k, .inl (cA, 500, .inl K)), (t, .inl (cB, 500, .inl T))])) (va_Qi (fun r u => tr r (∃ j, j < i ∧ K j = K i) ∧ u = (K, T, n, cm, wr)) (atR dC dI (va_A [(r, .inr (0, [.ref k, .ref t, .int (nI n), .int cm, .int wr])), (k, .inl (cA, 500, .inl K)), (t, .inl (cB, 500, .inl T))] sz) r k t cA cB) (va_A [(r, .inr (0, [.ref k, .ref t, .int (nI n), .int cm, .int wr])), (k, .inl (cA, 500, .inl K)), (t, .inl (cB, 500, .inl T))] sz)) 0 0 (va_A [(r, .inr (0, [.ref k, .ref t, .int (nI n), .int cm, .int wr])), (k, .inl (cA, 500, .inl K)), (t, .inl (cB, 500, .inl T))] sz) := by
  refine Met.ofW (cc := cX1_standsBefore) (maxL := 3) (ret := (some .boolean)) (by decide) rfl ?_
  intro p e s m args below meth c s₁ B hml hv
  obtain ⟨rfl, hsz, hP, hK, hD0⟩ := hv
  have hx := B.exec
  have hb := B.bytes
  have hr := B.returns
  have hts := atoms_spec (ws := wsX1_standsBefore) B.pre
  have hown : s.vm.findClass RX1 = some m.cls := findClass_of_methodNamed B.named
  have hlocks := B.notSynchronized
  subst hsz
  have hD := hD0.self (sz := s.heap.size)
  generalize hAe : va_A [(r, .inr (0, [.ref k, .ref t, .int (nI n), .int cm, .int wr])), (k, .inl (cA, 500, .inl K)), (t, .inl (cB, 500, .inl T))] s.heap.size = A at hD ⊢
  have hA : ∀ q : Nat, s.heap.size ≤ q → A q := fun q h => by rw [← hAe]; exact Or.inr h
  have hS : va_S A s.heap s.heap [] := va_S.rf
  have hP : va_P (dC, dI) vwCl [(r, .inr (0, [.ref k, .ref t, .int (nI n), .int cm, .int wr])), (k, .inl (cA, 500, .inl K)), (t, .inl (cB, 500, .inl T))] s.heap := hP
  have hl := lv_entry ([.ref r, .int (nI i)]) (n := 3) (Nat.le_of_ble_eq_true rfl)
  rw [lg_entry_eq]
  generalize (lg_sl ([.ref r, .int (nI i)]) ++ List.replicate (3 - (lg_sl ([.ref r, .int (nI i)])).length) Slot.unset).toArray = ls at hl ⊢
  have hl : lv_has ls 3 [(0, .ref r), (1, .int (nI i))] := hl
  refine lv_iconst (v := (nI 0)) hx hb dX1_standsBefore_0 (by decide) ?_
  refine lv_istore_n (lv' := [(2, .int (nI 0)), (0, .ref r), (1, .int (nI i))]) hx hb dX1_standsBefore_1 rfl hl (by decide) rfl (fun ls hl => ?_)
  refine lz_loop (σ := Nat) (μ := fun X_ => match X_ with | q => i - q) (Inv := fun X_ H locs ls => match X_ with | q => (q ≤ i) ∧ (∀ j, j < q → K j ≠ K i) ∧ va_P (dC, dI) vwCl [(r, .inr (0, [.ref k, .ref t, .int (nI n), .int cm, .int wr])), (k, .inl (cA, 500, .inl K)), (t, .inl (cB, 500, .inl T))] H ∧ va_D A [(r, .inr (0, [.ref k, .ref t, .int (nI n), .int cm, .int wr])), (k, .inl (cA, 500, .inl K)), (t, .inl (cB, 500, .inl T))] ∧ va_S A s.heap H locs ∧ lv_has ls 3 [(0, .ref r), (1, .int (nI i)), (2, .int (nI q))]) ?_ 0 _ _ _ ?_
  · rintro q ihd H locs ls ⟨vd0, vd1, hP, hD, hS, hl⟩
    refine lv_iload_n hx hb dX1_standsBefore_2 rfl (lv_at hl 2 rfl) ?_
    refine lv_iload_n hx hb dX1_standsBefore_3 rfl (lv_at hl 1 rfl) ?_
    refine lz_icmp_ge (tgt := 30) (by omega) (by omega) hx hb dX1_standsBefore_4 (by decide) (fun c4 => ?_) (fun c4 => ?_)
    · refine lv_iconst (v := (nI 0)) hx hb dX1_standsBefore_30 (by decide) ?_
      exact W.zret (v := (nI 0)) hx hb hr rfl (fun tS ht hW => ⟨⟨(nI 0), (K, T, n, cm, wr), rfl, ⟨tr_f (fun z => by obtain ⟨j, z1, z2⟩ := z; exact vd1 j (by omega) z2), rfl⟩, by rw [ht]; exact hP, va_K.moved hW.alike hK, hD⟩, hS.F ht⟩) hS.2.2 dX1_standsBefore_31
    · refine lv_aload_n hx hb dX1_standsBefore_7 rfl (lv_at hl 0 rfl) ?_
      refine va_get (D := (dC, dI)) (ci := 0) (v := .ref k) (C := RX1) (T := TX1) (N := 5) hx hb hts (by decide +kernel) hown hK hP 0 rfl rfl 0 (by decide) (hts (.fieldLink RX1 9 "RowPress$Row" "keys" "[I") (by decide +kernel)) (fun _ h9 => h9) rfl dX1_standsBefore_8 ?_
      refine lv_iload_n hx hb dX1_standsBefore_11 rfl (lv_at hl 2 rfl) ?_
      refine lz_iald hx hb hK hP 1 0 rfl rfl (j := q) (by omega) (by decide) dX1_standsBefore_12 ?_
      refine lv_aload_n hx hb dX1_standsBefore_13 rfl (lv_at hl 0 rfl) ?_
      refine va_get (D := (dC, dI)) (ci := 0) (v := .ref k) (C := RX1) (T := TX1) (N := 5) hx hb hts (by decide +kernel) hown hK hP 0 rfl rfl 0 (by decide) (hts (.fieldLink RX1 9 "RowPress$Row" "keys" "[I") (by decide +kernel)) (fun _ h9 => h9) rfl dX1_standsBefore_14 ?_
      refine lv_iload_n hx hb dX1_standsBefore_17 rfl (lv_at hl 1 rfl) ?_
      refine lz_iald hx hb hK hP 1 0 rfl rfl (j := i) (by omega) (by decide) dX1_standsBefore_18 ?_
      refine lv_icmp_ne (tgt := 24) hx hb dX1_standsBefore_19 (by decide) (fun c19 => ?_) (fun c19 => ?_)
      · refine lv_iinc (v := (nI (q + 1))) (lv' := [(2, .int (nI (q + 1))), (0, .ref r), (1, .int (nI i))]) hx hb dX1_standsBefore_24 hl (k := 2) rfl (by first | exact nI_add q 1 | (rw [← nI_add]; rfl)) (by decide) rfl (fun ls hl => ?_)
        refine lv_goto (tgt := 2) hx hb dX1_standsBefore_27 (by decide) ?_
        exact ihd (q + 1) (by show i - (q + 1) < i - q; omega) _ _ _ ⟨by omega, lt_s vd1 c19, hP, hD, hS, lv_sub hl [1, 2, 0] rfl⟩
      · refine lv_iconst (v := (nI 1)) hx hb dX1_standsBefore_22 (by decide) ?_
        exact W.zret (v := (nI 1)) hx hb hr rfl (fun tS ht hW => ⟨⟨(nI 1), (K, T, n, cm, wr), rfl, ⟨tr_t ⟨q, c4, c19⟩, rfl⟩, by rw [ht]; exact hP, va_K.moved hW.alike hK, hD⟩, hS.F ht⟩) hS.2.2 dX1_standsBefore_23
  · exact ⟨Nat.zero_le _, fun j h => absurd h (Nat.not_lt_zero j), hP, hD, hS, lv_sub hl [1, 2, 0] rfl⟩
set_option maxHeartbeats 4000000 in
set_option maxRecDepth 100000 in
theorem c_X1_countDifferentKeys (l : Launch) (dC : Nat → ClassId) (dI : Nat → Nat → Nat) (sz : Nat) (r k t : Nat) (cA cB : ClassId) (n : Nat) (cm wr : Int32) (K T : Nat → Int32) (hn : n ≤ 500) : Met l yX1_countDifferentKeys wsX1_countDifferentKeys ({ frames := 1, cells := 0, slots := 0, locals := 22 }) (va_Pc [.ref r] (fun U => U.heap.size = sz ∧ va_P (dC, dI) vwCl [(r, .inr (0, [.ref k, .ref t, .int (nI n), .int cm, .int wr])), (k, .inl (cA, 500, .inl K)), (t, .inl (cB, 500, .inl T))] U.heap ∧ va_K (dC, dI) vwCl [(cA, .int), (cB, .int)] U ∧ va_D (fun _ => True) [(r, .inr (0, [.ref k, .ref t, .int (nI n), .int cm, .int wr])), (k, .inl (cA, 500, .inl K)), (t, .inl (cB, 500, .inl T))])) (va_Qi (fun r u => r = nI (cn (fun j => ¬ ∃ i, i < j ∧ K i = K j) 0 (n - 0)) ∧ u = (K, T, n, cm, wr)) (atR dC dI (va_A [(r, .inr (0, [.ref k, .ref t, .int (nI n), .int cm, .int wr])), (k, .inl (cA, 500, .inl K)), (t, .inl (cB, 500, .inl T))] sz) r k t cA cB) (va_A [(r, .inr (0, [.ref k, .ref t, .int (nI n), .int cm, .int wr])), (k, .inl (cA, 500, .inl K)), (t, .inl (cB, 500, .inl T))] sz)) 0 0 (va_A [(r, .inr (0, [.ref k, .ref t, .int (nI n), .int cm, .int wr])), (k, .inl (cA, 500, .inl K)), (t, .inl (cB, 500, .inl T))] sz) := by
  refine Met.ofW (cc := cX1_countDifferentKeys) (maxL := 3) (ret := (some .int)) (by decide) rfl ?_
  intro p e s m args below meth c s₁ B hml hv
  obtain ⟨rfl, hsz, hP, hK, hD0⟩ := hv
  have hx := B.exec
  have hb := B.bytes
  have hr := B.returns
  have hts := atoms_spec (ws := wsX1_countDifferentKeys) B.pre
  have hown : s.vm.findClass RX1 = some m.cls := findClass_of_methodNamed B.named
  have hlocks := B.notSynchronized
  subst hsz
  have hD := hD0.self (sz := s.heap.size)
  generalize hAe : va_A [(r, .inr (0, [.ref k, .ref t, .int (nI n), .int cm, .int wr])), (k, .inl (cA, 500, .inl K)), (t, .inl (cB, 500, .inl T))] s.heap.size = A at hD ⊢
  have hA : ∀ q : Nat, s.heap.size ≤ q → A q := fun q h => by rw [← hAe]; exact Or.inr h
  have hS : va_S A s.heap s.heap [] := va_S.rf
  have hP : va_P (dC, dI) vwCl [(r, .inr (0, [.ref k, .ref t, .int (nI n), .int cm, .int wr])), (k, .inl (cA, 500, .inl K)), (t, .inl (cB, 500, .inl T))] s.heap := hP
  have hl := lv_entry ([.ref r]) (n := 3) (Nat.le_of_ble_eq_true rfl)
  rw [lg_entry_eq]
  generalize (lg_sl ([.ref r]) ++ List.replicate (3 - (lg_sl ([.ref r])).length) Slot.unset).toArray = ls at hl ⊢
  have hl : lv_has ls 3 [(0, .ref r)] := hl
  refine lv_iconst (v := (nI 0)) hx hb dX1_countDifferentKeys_0 (by decide) ?_
  refine lv_istore_n (lv' := [(1, .int (nI 0)), (0, .ref r)]) hx hb dX1_countDifferentKeys_1 rfl hl (by decide) rfl (fun ls hl => ?_)
  refine lv_iconst (v := (nI 0)) hx hb dX1_countDifferentKeys_2 (by decide) ?_
  refine lv_istore_n (lv' := [(2, .int (nI 0)), (1, .int (nI 0)), (0, .ref r)]) hx hb dX1_countDifferentKeys_3 rfl hl (by decide) rfl (fun ls hl => ?_)
  refine lz_loop (σ := Nat × Nat) (μ := fun X_ => match X_ with | (x1, q) => n - q) (Inv := fun X_ H locs ls => match X_ with | (x1, q) => (q ≤ n) ∧ (x1 = cn (fun j => ¬ ∃ i, i < j ∧ K i = K j) 0 (q - 0)) ∧ va_P (dC, dI) vwCl [(r, .inr (0, [.ref k, .ref t, .int (nI n), .int cm, .int wr])), (k, .inl (cA, 500, .inl K)), (t, .inl (cB, 500, .inl T))] H ∧ va_D A [(r, .inr (0, [.ref k, .ref t, .int (nI n), .int cm, .int wr])), (k, .inl (cA, 500, .inl K)), (t, .inl (cB, 500, .inl T))] ∧ va_S A s.heap H locs ∧ lv_has ls 3 [(0, .ref r), (1, .int (nI x1)), (2, .int (nI q))]) ?_ (0, 0) _ _ _ ?_
  · rintro ⟨x1, q⟩ ihe H locs ls ⟨ve0, ve1, hP, hD, hS, hl⟩
    refine lv_iload_n hx hb dX1_countDifferentKeys_4 rfl (lv_at hl 2 rfl) ?_
    refine lv_aload_n hx hb dX1_countDifferentKeys_5 rfl (lv_at hl 0 rfl) ?_
    refine va_get (D := (dC, dI)) (ci := 0) (v := .int (nI n)) (C := RX1) (T := TX1) (N := 5) hx hb hts (by decide +kernel) hown hK hP 0 rfl rfl 2 (by decide) (hts (.fieldLink RX1 16 "RowPress$Row" "size" "I") (by decide +kernel)) (fun _ h9 => h9) rfl dX1_countDifferentKeys_6 ?_
    refine lz_icmp_ge (tgt := 29) (by omega) (by omega) hx hb dX1_countDifferentKeys_9 (by decide) (fun c9 => ?_) (fun c9 => ?_)
    · refine lv_iload_n hx hb dX1_countDifferentKeys_29 rfl (lv_at hl 1 rfl) ?_
      exact W.iret (v := (nI x1)) hx hb hr (fun tS ht hW => ⟨⟨(nI x1), (K, T, n, cm, wr), rfl, ⟨by rw [ve1, show q = n by omega], rfl⟩, by rw [ht]; exact hP, va_K.moved hW.alike hK, hD⟩, hS.F ht⟩) hS.2.2 dX1_countDifferentKeys_30
    · refine lv_aload_n hx hb dX1_countDifferentKeys_12 rfl (lv_at hl 0 rfl) ?_
      refine lv_iload_n hx hb dX1_countDifferentKeys_13 rfl (lv_at hl 2 rfl) ?_
      have hPc := hP.sub (ws' := [(r, .inr (0, [.ref k, .ref t, .int (nI n), .int cm, .int wr])), (k, .inl (cA, 500, .inl K)), (t, .inl (cB, 500, .inl T))]) [0, 1, 2] rfl
      have hDc := hD.sub (ws' := [(r, .inr (0, [.ref k, .ref t, .int (nI n), .int cm, .int wr])), (k, .inl (cA, 500, .inl K)), (t, .inl (cB, 500, .inl T))]) [0, 1, 2] (by decide) rfl
      have hKc := hK.sub (tys' := [(cA, .int), (cB, .int)]) [0, 1] rfl
      have hFc := va_free (wc := [(r, .inr (0, [.ref k, .ref t, .int (nI n), .int cm, .int wr])), (k, .inl (cA, 500, .inl K)), (t, .inl (cB, 500, .inl T))]) hD hS hA [0, 1, 2] rfl
      refine va_calli (va_runV (As := [.int (nI q)]) (rest := []) ⟨hx, hb, hml, hown, hts⟩ (c_X1_standsBefore l dC dI H.size r k t cA cB n cm wr K T q (by omega)) (cwV 1 hts gX1_countDifferentKeys_X1_standsBefore rfl rfl rfl (by decide +kernel) ⟨Nat.le_of_ble_eq_true rfl, Nat.le_of_ble_eq_true rfl⟩) ⟨fun a U g mk q => by obtain ⟨q0, q1, qP, qK, qD⟩ := q; exact ⟨q0, q1, qP, va_K.moved (u := U) (U := U.calling g mk a) (Vm.Alike.refl U.vm) qK, qD⟩, va_recv hKc hPc (ci := 0) (q0 := 0) rfl rfl, fun U hU hW => ⟨rfl, by rw [hU], by rw [hU]; exact hPc, va_K.moved hW.alike hKc, hDc.weaken (fun _ _ _ _ => trivial)⟩⟩ rfl rfl hl.1 rfl (lv_room (Nat.le_of_ble_eq_true rfl)) dX1_countDifferentKeys_14 ⟨Nat.le_of_ble_eq_true rfl, Nat.le_of_ble_eq_true rfl⟩) hS (fun q _ h => hFc q h) hFc (fun r_1 u tS H1 locs ht hvm hw hB hz1 hk1 hS => ?_)
      obtain ⟨hq, rfl⟩ := hw
      obtain ⟨hP1, hK1, hD1⟩ := hB
      rw [ht] at hP1
      obtain ⟨hP, hD⟩ := va_join (wr := []) (w1 := [(r, .inr (0, [.ref k, .ref t, .int (nI n), .int cm, .int wr])), (k, .inl (cA, 500, .inl K)), (t, .inl (cB, 500, .inl T))]) hP hD [0, 1, 2] [] rfl rfl (by decide) (by decide) hk1 hFc hP1 hD1
      generalize H1 = H at hP hS ⊢
      have hP : va_P (dC, dI) vwCl [(r, .inr (0, [.ref k, .ref t, .int (nI n), .int cm, .int wr])), (k, .inl (cA, 500, .inl K)), (t, .inl (cB, 500, .inl T))] H := hP
      have hD : va_D A [(r, .inr (0, [.ref k, .ref t, .int (nI n), .int cm, .int wr])), (k, .inl (cA, 500, .inl K)), (t, .inl (cB, 500, .inl T))] := hD
      refine lv_if_ne (tgt := 23) hx hb dX1_countDifferentKeys_17 (by decide) (fun c17 => ?_) (fun c17 => ?_)
      · refine lv_iinc (v := (nI (q + 1))) (lv' := [(2, .int (nI (q + 1))), (0, .ref r), (1, .int (nI x1))]) hx hb dX1_countDifferentKeys_23 hl (k := 2) rfl (by first | exact nI_add q 1 | (rw [← nI_add]; rfl)) (by decide) rfl (fun ls hl => ?_)
        refine lv_goto (tgt := 4) hx hb dX1_countDifferentKeys_26 (by decide) ?_
        exact ihe (x1, (q + 1)) (by show n - (q + 1) < n - q; omega) _ _ _ ⟨by omega, by rw [cn_sf (P := fun j => ¬ ∃ i, i < j ∧ K i = K j) (by omega) (fun z => z (tr_1 hq c17))]; exact ve1, hP, hD, hS, lv_sub hl [1, 2, 0] rfl⟩
      · refine lv_iinc (v := (nI (x1 + 1))) (lv' := [(1, .int (nI (x1 + 1))), (0, .ref r), (2, .int (nI q))]) hx hb dX1_countDifferentKeys_20 hl (k := 1) rfl (by first | exact nI_add x1 1 | (rw [← nI_add]; rfl)) (by decide) rfl (fun ls hl => ?_)
        refine lv_iinc (v := (nI (q + 1))) (lv' := [(2, .int (nI (q + 1))), (1, .int (nI (x1 + 1))), (0, .ref r)]) hx hb dX1_countDifferentKeys_23 hl (k := 2) rfl (by first | exact nI_add q 1 | (rw [← nI_add]; rfl)) (by decide) rfl (fun ls hl => ?_)
        refine lv_goto (tgt := 4) hx hb dX1_countDifferentKeys_26 (by decide) ?_
        exact ihe ((x1 + 1), (q + 1)) (by show n - (q + 1) < n - q; omega) _ _ _ ⟨by omega, by rw [cn_st (P := fun j => ¬ ∃ i, i < j ∧ K i = K j) (by omega) (tr_0 hq c17), ← ve1], hP, hD, hS, lv_sub hl [2, 1, 0] rfl⟩
  · exact ⟨Nat.zero_le _, cn_s0, hP, hD, hS, lv_sub hl [2, 1, 0] rfl⟩
set_option maxHeartbeats 4000000 in
set_option maxRecDepth 100000 in
theorem c_X1_reverse (l : Launch) (dC : Nat → ClassId) (dI : Nat → Nat → Nat) (sz : Nat) (r k t : Nat) (cA cB : ClassId) (n : Nat) (cm wr : Int32) (K T : Nat → Int32) (a b : Nat) (hab : a ≤ b) (hb5 : b ≤ 500) : Met l yX1_reverse wsX1_reverse ({ frames := 1, cells := 0, slots := 0, locals := 24 }) (va_Pc [.ref r, .int (nI a), .int (nI b)] (fun U => U.heap.size = sz ∧ va_P (dC, dI) vwCl [(r, .inr (0, [.ref k, .ref t, .int (nI n), .int cm, .int wr])), (k, .inl (cA, 500, .inl K)), (t, .inl (cB, 500, .inl T))] U.heap ∧ va_K (dC, dI) vwCl [(cA, .int), (cB, .int)] U ∧ va_D (fun _ => True) [(r, .inr (0, [.ref k, .ref t, .int (nI n), .int cm, .int wr])), (k, .inl (cA, 500, .inl K)), (t, .inl (cB, 500, .inl T))])) (va_Qv (fun u => mZ u.1 u.2.1 = rv (mZ K T) a b ∧ n = u.2.2.1 ∧ cm = u.2.2.2.1 ∧ ∃ d, d ≤ b - a ∧ u.2.2.2.2 = wr + nI d) (atR dC dI (va_A [(r, .inr (0, [.ref k, .ref t, .int (nI n), .int cm, .int wr])), (k, .inl (cA, 500, .inl K)), (t, .inl (cB, 500, .inl T))] sz) r k t cA cB) (va_A [(r, .inr (0, [.ref k, .ref t, .int (nI n), .int cm, .int wr])), (k, .inl (cA, 500, .inl K)), (t, .inl (cB, 500, .inl T))] sz)) 0 0 (va_A [(r, .inr (0, [.ref k, .ref t, .int (nI n), .int cm, .int wr])), (k, .inl (cA, 500, .inl K)), (t, .inl (cB, 500, .inl T))] sz) := by
  refine Met.ofW (cc := cX1_reverse) (maxL := 5) (ret := none) (by decide) rfl ?_
  intro p e s m args below meth c s₁ B hml hv
  obtain ⟨rfl, hsz, hP, hK, hD0⟩ := hv
  have hx := B.exec
  have hb := B.bytes
  have hr := B.returns
  have hts := atoms_spec (ws := wsX1_reverse) B.pre
  have hown : s.vm.findClass RX1 = some m.cls := findClass_of_methodNamed B.named
  have hlocks := B.notSynchronized
  subst hsz
  have hD := hD0.self (sz := s.heap.size)
  generalize hAe : va_A [(r, .inr (0, [.ref k, .ref t, .int (nI n), .int cm, .int wr])), (k, .inl (cA, 500, .inl K)), (t, .inl (cB, 500, .inl T))] s.heap.size = A at hD ⊢
  have hA : ∀ q : Nat, s.heap.size ≤ q → A q := fun q h => by rw [← hAe]; exact Or.inr h
  have hS : va_S A s.heap s.heap [] := va_S.rf
  have hP : va_P (dC, dI) vwCl [(r, .inr (0, [.ref k, .ref t, .int (nI n), .int cm, .int wr])), (k, .inl (cA, 500, .inl K)), (t, .inl (cB, 500, .inl T))] s.heap := hP
  have hl := lv_entry ([.ref r, .int (nI a), .int (nI b)]) (n := 5) (Nat.le_of_ble_eq_true rfl)
  rw [lg_entry_eq]
  generalize (lg_sl ([.ref r, .int (nI a), .int (nI b)]) ++ List.replicate (5 - (lg_sl ([.ref r, .int (nI a), .int (nI b)])).length) Slot.unset).toArray = ls at hl ⊢
  have hl : lv_has ls 5 [(0, .ref r), (1, .int (nI a)), (2, .int (nI b))] := hl
  rcases Nat.eq_zero_or_pos b with rfl | hb0
  · obtain rfl : a = 0 := by omega
    refine lv_iload_n hx hb dX1_reverse_0 rfl (lv_at hl 1 rfl) ?_
    refine lv_istore_n (lv' := [(3, .int (nI 0)), (0, .ref r), (1, .int (nI 0)), (2, .int (nI 0))]) hx hb dX1_reverse_1 rfl hl (by decide) rfl (fun ls hl => ?_)
    refine lv_iload_n hx hb dX1_reverse_2 rfl (lv_at hl 3 rfl) ?_
    refine lv_iconst (v := (nI 1)) hx hb dX1_reverse_3 (by decide) ?_
    refine lv_isub hx hb dX1_reverse_4 ?_
    refine lv_istore (lv' := [(4, .int ((nI 0) - (nI 1))), (3, .int (nI 0)), (0, .ref r), (1, .int (nI 0)), (2, .int (nI 0))]) hx hb dX1_reverse_5 hl (by decide) rfl (fun ls hl => ?_)
    refine lv_iload_n hx hb dX1_reverse_7 rfl (lv_at hl 1 rfl) ?_
    refine lv_iload hx hb dX1_reverse_8 (lv_at hl 0 rfl) ?_
    refine lv_icmp_ge (tgt := 29) hx hb dX1_reverse_10 (by decide) (fun c10 => ?_) (fun c10 => ?_)
    · exact W.vret hx hb hr (fun tS ht hW => ⟨⟨(K, T, n, cm, wr), rfl, ⟨(rv_id (by omega)).symm, rfl, rfl, 0, by omega, ad0 wr⟩, by rw [ht]; exact hP, va_K.moved hW.alike hK, hD⟩, hS.F ht⟩) hS.2.2 dX1_reverse_29
    · exact absurd (by decide) c10
  · refine lv_iload_n hx hb dX1_reverse_0 rfl (lv_at hl 1 rfl) ?_
    refine lv_istore_n (lv' := [(3, .int (nI a)), (0, .ref r), (1, .int (nI a)), (2, .int (nI b))]) hx hb dX1_reverse_1 rfl hl (by decide) rfl (fun ls hl => ?_)
    refine lv_iload_n hx hb dX1_reverse_2 rfl (lv_at hl 3 rfl) ?_
    refine lv_iconst (v := (nI 1)) hx hb dX1_reverse_3 (by decide) ?_
    refine lv_isub hx hb dX1_reverse_4 ?_
    refine lz_top (y := (nI (b - 1))) (pk_sub (by omega)) ?_
    refine lv_istore (lv' := [(4, .int (nI (b - 1))), (3, .int (nI a)), (0, .ref r), (1, .int (nI a)), (2, .int (nI b))]) hx hb dX1_reverse_5 hl (by decide) rfl (fun ls hl => ?_)
    refine lz_loop (σ := Nat × Nat × (Nat → Int32) × (Nat → Int32) × Int32) (μ := fun X_ => match X_ with | (lo, hi, K1, T1, w1) => b - lo) (Inv := fun X_ H locs ls => match X_ with | (lo, hi, K1, T1, w1) => (a ≤ lo) ∧ (lo ≤ b) ∧ (lo + hi + 1 = a + b) ∧ (2 * lo ≤ a + b) ∧ (rvI (mZ K T) (mZ K1 T1) a b lo hi) ∧ (w1 = wr + nI (2 * (lo - a))) ∧ va_P (dC, dI) vwCl [(r, .inr (0, [.ref k, .ref t, .int (nI n), .int cm, .int w1])), (k, .inl (cA, 500, .inl K1)), (t, .inl (cB, 500, .inl T1))] H ∧ va_D A [(r, .inr (0, [.ref k, .ref t, .int (nI n), .int cm, .int w1])), (k, .inl (cA, 500, .inl K1)), (t, .inl (cB, 500, .inl T1))] ∧ va_S A s.heap H locs ∧ lv_has ls 5 [(0, .ref r), (1, .int (nI a)), (2, .int (nI b)), (3, .int (nI lo)), (4, .int (nI hi))]) ?_ (a, (b - 1), K, T, wr) _ _ _ ?_
    · rintro ⟨lo, hi, K1, T1, w1⟩ ihf H locs ls ⟨vf0, vf1, vf2, vf3, vf4, vf5, hP, hD, hS, hl⟩
      refine lv_iload_n hx hb dX1_reverse_7 rfl (lv_at hl 3 rfl) ?_
      refine lv_iload hx hb dX1_reverse_8 (lv_at hl 4 rfl) ?_
      refine lz_icmp_ge (tgt := 29) (by omega) (by omega) hx hb dX1_reverse_10 (by decide) (fun c10 => ?_) (fun c10 => ?_)
      · exact W.vret hx hb hr (fun tS ht hW => ⟨⟨(K1, T1, n, cm, w1), rfl, ⟨rvI_end vf4 (by omega) (by omega) (by omega) (by omega), rfl, rfl, 2 * (lo - a), by omega, vf5⟩, by rw [ht]; exact hP, va_K.moved hW.alike hK, hD⟩, hS.F ht⟩) hS.2.2 dX1_reverse_29
      · refine lv_aload_n hx hb dX1_reverse_13 rfl (lv_at hl 0 rfl) ?_
        refine lv_iload_n hx hb dX1_reverse_14 rfl (lv_at hl 3 rfl) ?_
        refine lv_iload hx hb dX1_reverse_15 (lv_at hl 4 rfl) ?_
        have hPc := hP.sub (ws' := [(r, .inr (0, [.ref k, .ref t, .int (nI n), .int cm, .int w1])), (k, .inl (cA, 500, .inl K1)), (t, .inl (cB, 500, .inl T1))]) [0, 1, 2] rfl
        have hDc := hD.sub (ws' := [(r, .inr (0, [.ref k, .ref t, .int (nI n), .int cm, .int w1])), (k, .inl (cA, 500, .inl K1)), (t, .inl (cB, 500, .inl T1))]) [0, 1, 2] (by decide) rfl
        have hKc := hK.sub (tys' := [(cA, .int), (cB, .int)]) [0, 1] rfl
        have hFc := va_free (wc := [(r, .inr (0, [.ref k, .ref t, .int (nI n), .int cm, .int w1])), (k, .inl (cA, 500, .inl K1)), (t, .inl (cB, 500, .inl T1))]) hD hS hA [0, 1, 2] rfl
        refine va_callv (va_runV (As := [.int (nI lo), .int (nI hi)]) (rest := []) ⟨hx, hb, hml, hown, hts⟩ (c_X1_swapPairs l dC dI H.size r k t cA cB n cm w1 K1 T1 lo hi (by omega) (by omega)) (cwV 2 hts gX1_reverse_X1_swapPairs rfl rfl rfl (by decide +kernel) ⟨Nat.le_of_ble_eq_true rfl, Nat.le_of_ble_eq_true rfl⟩) ⟨fun a U g mk q => by obtain ⟨q0, q1, qP, qK, qD⟩ := q; exact ⟨q0, q1, qP, va_K.moved (u := U) (U := U.calling g mk a) (Vm.Alike.refl U.vm) qK, qD⟩, va_recv hKc hPc (ci := 0) (q0 := 0) rfl rfl, fun U hU hW => ⟨rfl, by rw [hU], by rw [hU]; exact hPc, va_K.moved hW.alike hKc, hDc.weaken (fun _ _ _ _ => trivial)⟩⟩ rfl rfl hl.1 rfl (lv_room (Nat.le_of_ble_eq_true rfl)) dX1_reverse_17 ⟨Nat.le_of_ble_eq_true rfl, Nat.le_of_ble_eq_true rfl⟩) hS (fun q _ h => hFc q h) hFc (fun u tS H1 locs ht hvm hw hB hz1 hk1 hS => ?_)
        subst hw
        obtain ⟨hP1, hK1, hD1⟩ := hB
        rw [ht] at hP1
        obtain ⟨hP, hD⟩ := va_join (wr := []) (w1 := [(r, .inr (0, [.ref k, .ref t, .int (nI n), .int cm, .int (w1 + nI 2)])), (k, .inl (cA, 500, .inl (upd (upd K1 lo (K1 hi)) hi (K1 lo)))), (t, .inl (cB, 500, .inl (upd (upd T1 lo (T1 hi)) hi (T1 lo))))]) hP hD [0, 1, 2] [] rfl rfl (by decide) (by decide) hk1 hFc hP1 hD1
        generalize H1 = H at hP hS ⊢
        have hP : va_P (dC, dI) vwCl [(r, .inr (0, [.ref k, .ref t, .int (nI n), .int cm, .int (w1 + nI 2)])), (k, .inl (cA, 500, .inl (upd (upd K1 lo (K1 hi)) hi (K1 lo)))), (t, .inl (cB, 500, .inl (upd (upd T1 lo (T1 hi)) hi (T1 lo))))] H := hP
        have hD : va_D A [(r, .inr (0, [.ref k, .ref t, .int (nI n), .int cm, .int (w1 + nI 2)])), (k, .inl (cA, 500, .inl (upd (upd K1 lo (K1 hi)) hi (K1 lo)))), (t, .inl (cB, 500, .inl (upd (upd T1 lo (T1 hi)) hi (T1 lo))))] := hD
        refine lv_iinc (v := (nI (lo + 1))) (lv' := [(3, .int (nI (lo + 1))), (0, .ref r), (1, .int (nI a)), (2, .int (nI b)), (4, .int (nI hi))]) hx hb dX1_reverse_20 hl (k := 3) rfl (by first | exact nI_add lo 1 | (rw [← nI_add]; rfl)) (by decide) rfl (fun ls hl => ?_)
        refine lv_iinc (v := (nI (hi - 1))) (lv' := [(4, .int (nI (hi - 1))), (3, .int (nI (lo + 1))), (0, .ref r), (1, .int (nI a)), (2, .int (nI b))]) hx hb dX1_reverse_23 hl (k := 4) rfl (by rw [show Int32.ofInt (-1) = -1 from by decide]; exact sb_m1 (by omega)) (by decide) rfl (fun ls hl => ?_)
        refine lv_goto (tgt := 7) hx hb dX1_reverse_26 (by decide) ?_
        exact ihf ((lo + 1), (hi - 1), (upd (upd K1 lo (K1 hi)) hi (K1 lo)), (upd (upd T1 lo (T1 hi)) hi (T1 lo)), (w1 + nI 2)) (by show b - (lo + 1) < b - lo; omega) _ _ _ ⟨by omega, by omega, by omega, by omega, rvI_step vf4 (by omega) (by omega) (by omega) (mZ_swap K1 T1 lo hi), by rw [ad1 vf5 2, show 2 * (lo - a) + 2 = 2 * (lo + 1 - a) by omega], hP, hD, hS, lv_sub hl [2, 3, 4, 1, 0] rfl⟩
    · exact ⟨Nat.le_refl _, by omega, by omega, by omega, rvI_0, by rw [Nat.sub_self]; exact ad0 wr, hP, hD, hS, lv_sub hl [2, 3, 4, 1, 0] rfl⟩
set_option maxHeartbeats 4000000 in
set_option maxRecDepth 100000 in
theorem c_X1_swapBlocks (l : Launch) (dC : Nat → ClassId) (dI : Nat → Nat → Nat) (sz : Nat) (r k t : Nat) (cA cB : ClassId) (n : Nat) (cm wr : Int32) (K T : Nat → Int32) (a d b : Nat) (had : a ≤ d) (hdb : d ≤ b) (hb5 : b ≤ 500) : Met l yX1_swapBlocks wsX1_swapBlocks ({ frames := 2, cells := 0, slots := 0, locals := 48 }) (va_Pc [.ref r, .int (nI a), .int (nI d), .int (nI b)] (fun U => U.heap.size = sz ∧ va_P (dC, dI) vwCl [(r, .inr (0, [.ref k, .ref t, .int (nI n), .int cm, .int wr])), (k, .inl (cA, 500, .inl K)), (t, .inl (cB, 500, .inl T))] U.heap ∧ va_K (dC, dI) vwCl [(cA, .int), (cB, .int)] U ∧ va_D (fun _ => True) [(r, .inr (0, [.ref k, .ref t, .int (nI n), .int cm, .int wr])), (k, .inl (cA, 500, .inl K)), (t, .inl (cB, 500, .inl T))])) (va_Qv (fun u => mZ u.1 u.2.1 = ro (mZ K T) a d b ∧ n = u.2.2.1 ∧ cm = u.2.2.2.1 ∧ ∃ w, w ≤ 2 * (b - a) ∧ u.2.2.2.2 = wr + nI w) (atR dC dI (va_A [(r, .inr (0, [.ref k, .ref t, .int (nI n), .int cm, .int wr])), (k, .inl (cA, 500, .inl K)), (t, .inl (cB, 500, .inl T))] sz) r k t cA cB) (va_A [(r, .inr (0, [.ref k, .ref t, .int (nI n), .int cm, .int wr])), (k, .inl (cA, 500, .inl K)), (t, .inl (cB, 500, .inl T))] sz)) 0 0 (va_A [(r, .inr (0, [.ref k, .ref t, .int (nI n), .int cm, .int wr])), (k, .inl (cA, 500, .inl K)), (t, .inl (cB, 500, .inl T))] sz) := by
  refine Met.ofW (cc := cX1_swapBlocks) (maxL := 4) (ret := none) (by decide) rfl ?_
  intro p e s m args below meth c s₁ B hml hv
  obtain ⟨rfl, hsz, hP, hK, hD0⟩ := hv
  have hx := B.exec
  have hb := B.bytes
  have hr := B.returns
  have hts := atoms_spec (ws := wsX1_swapBlocks) B.pre
  have hown : s.vm.findClass RX1 = some m.cls := findClass_of_methodNamed B.named
  have hlocks := B.notSynchronized
  subst hsz
  have hD := hD0.self (sz := s.heap.size)
  generalize hAe : va_A [(r, .inr (0, [.ref k, .ref t, .int (nI n), .int cm, .int wr])), (k, .inl (cA, 500, .inl K)), (t, .inl (cB, 500, .inl T))] s.heap.size = A at hD ⊢
  have hA : ∀ q : Nat, s.heap.size ≤ q → A q := fun q h => by rw [← hAe]; exact Or.inr h
  have hS : va_S A s.heap s.heap [] := va_S.rf
  have hP : va_P (dC, dI) vwCl [(r, .inr (0, [.ref k, .ref t, .int (nI n), .int cm, .int wr])), (k, .inl (cA, 500, .inl K)), (t, .inl (cB, 500, .inl T))] s.heap := hP
  have hl := lv_entry ([.ref r, .int (nI a), .int (nI d), .int (nI b)]) (n := 4) (Nat.le_of_ble_eq_true rfl)
  rw [lg_entry_eq]
  generalize (lg_sl ([.ref r, .int (nI a), .int (nI d), .int (nI b)]) ++ List.replicate (4 - (lg_sl ([.ref r, .int (nI a), .int (nI d), .int (nI b)])).length) Slot.unset).toArray = ls at hl ⊢
  have hl : lv_has ls 4 [(0, .ref r), (1, .int (nI a)), (2, .int (nI d)), (3, .int (nI b))] := hl
  refine lv_iload_n hx hb dX1_swapBlocks_0 rfl (lv_at hl 1 rfl) ?_
  refine lv_iload_n hx hb dX1_swapBlocks_1 rfl (lv_at hl 2 rfl) ?_
  refine lz_icmp_ge (tgt := 10) (by omega) (by omega) hx hb dX1_swapBlocks_2 (by decide) (fun c2 => ?_) (fun c2 => ?_)
  · exact W.vret hx hb hr (fun tS ht hW => ⟨⟨(K, T, n, cm, wr), rfl, ⟨(ro_id had hdb (by omega)).symm, rfl, rfl, 0, by omega, ad0 wr⟩, by rw [ht]; exact hP, va_K.moved hW.alike hK, hD⟩, hS.F ht⟩) hS.2.2 dX1_swapBlocks_10
  · refine lv_iload_n hx hb dX1_swapBlocks_5 rfl (lv_at hl 2 rfl) ?_
    refine lv_iload_n hx hb dX1_swapBlocks_6 rfl (lv_at hl 3 rfl) ?_
    refine lz_icmp_lt (tgt := 11) (by omega) (by omega) hx hb dX1_swapBlocks_7 (by decide) (fun c7 => ?_) (fun c7 => ?_)
    · refine lv_aload_n hx hb dX1_swapBlocks_11 rfl (lv_at hl 0 rfl) ?_
      refine lv_iload_n hx hb dX1_swapBlocks_12 rfl (lv_at hl 1 rfl) ?_
      refine lv_iload_n hx hb dX1_swapBlocks_13 rfl (lv_at hl 2 rfl) ?_
      have hPc := hP.sub (ws' := [(r, .inr (0, [.ref k, .ref t, .int (nI n), .int cm, .int wr])), (k, .inl (cA, 500, .inl K)), (t, .inl (cB, 500, .inl T))]) [0, 1, 2] rfl
      have hDc := hD.sub (ws' := [(r, .inr (0, [.ref k, .ref t, .int (nI n), .int cm, .int wr])), (k, .inl (cA, 500, .inl K)), (t, .inl (cB, 500, .inl T))]) [0, 1, 2] (by decide) rfl
      have hKc := hK.sub (tys' := [(cA, .int), (cB, .int)]) [0, 1] rfl
      have hFc := va_free (wc := [(r, .inr (0, [.ref k, .ref t, .int (nI n), .int cm, .int wr])), (k, .inl (cA, 500, .inl K)), (t, .inl (cB, 500, .inl T))]) hD hS hA [0, 1, 2] rfl
      refine va_callv (va_runV (As := [.int (nI a), .int (nI d)]) (rest := []) ⟨hx, hb, hml, hown, hts⟩ (c_X1_reverse l dC dI s.heap.size r k t cA cB n cm wr K T a d (by omega) (by omega)) (cwV 2 hts gX1_swapBlocks_X1_reverse rfl rfl rfl (by decide +kernel) ⟨Nat.le_of_ble_eq_true rfl, Nat.le_of_ble_eq_true rfl⟩) ⟨fun a U g mk q => by obtain ⟨q0, q1, qP, qK, qD⟩ := q; exact ⟨q0, q1, qP, va_K.moved (u := U) (U := U.calling g mk a) (Vm.Alike.refl U.vm) qK, qD⟩, va_recv hKc hPc (ci := 0) (q0 := 0) rfl rfl, fun U hU hW => ⟨rfl, by rw [hU], by rw [hU]; exact hPc, va_K.moved hW.alike hKc, hDc.weaken (fun _ _ _ _ => trivial)⟩⟩ rfl rfl hl.1 rfl (lv_room (Nat.le_of_ble_eq_true rfl)) dX1_swapBlocks_14 ⟨Nat.le_of_ble_eq_true rfl, Nat.le_of_ble_eq_true rfl⟩) hS (fun q _ h => hFc q h) hFc (fun u tS H1 locs ht hvm hw hB hz1 hk1 hS => ?_)
      obtain ⟨K1, T1, n1, c1, w1⟩ := u
      obtain ⟨hm1, hn1, hc1, d1, hd1, hw1⟩ := hw
      dsimp only at hm1 hn1 hc1 hw1
      subst hn1; subst hc1; subst hw1
      obtain ⟨hP1, hK1, hD1⟩ := hB
      rw [ht] at hP1
      obtain ⟨hP, hD⟩ := va_join (wr := []) (w1 := [(r, .inr (0, [.ref k, .ref t, .int (nI n), .int cm, .int (wr + nI d1)])), (k, .inl (cA, 500, .inl K1)), (t, .inl (cB, 500, .inl T1))]) hP hD [0, 1, 2] [] rfl rfl (by decide) (by decide) hk1 hFc hP1 hD1
      generalize H1 = H at hP hS ⊢
      have hP : va_P (dC, dI) vwCl [(r, .inr (0, [.ref k, .ref t, .int (nI n), .int cm, .int (wr + nI d1)])), (k, .inl (cA, 500, .inl K1)), (t, .inl (cB, 500, .inl T1))] H := hP
      have hD : va_D A [(r, .inr (0, [.ref k, .ref t, .int (nI n), .int cm, .int (wr + nI d1)])), (k, .inl (cA, 500, .inl K1)), (t, .inl (cB, 500, .inl T1))] := hD
      refine lv_aload_n hx hb dX1_swapBlocks_17 rfl (lv_at hl 0 rfl) ?_
      refine lv_iload_n hx hb dX1_swapBlocks_18 rfl (lv_at hl 2 rfl) ?_
      refine lv_iload_n hx hb dX1_swapBlocks_19 rfl (lv_at hl 3 rfl) ?_
      have hPc := hP.sub (ws' := [(r, .inr (0, [.ref k, .ref t, .int (nI n), .int cm, .int (wr + nI d1)])), (k, .inl (cA, 500, .inl K1)), (t, .inl (cB, 500, .inl T1))]) [0, 1, 2] rfl
      have hDc := hD.sub (ws' := [(r, .inr (0, [.ref k, .ref t, .int (nI n), .int cm, .int (wr + nI d1)])), (k, .inl (cA, 500, .inl K1)), (t, .inl (cB, 500, .inl T1))]) [0, 1, 2] (by decide) rfl
      have hKc := hK.sub (tys' := [(cA, .int), (cB, .int)]) [0, 1] rfl
      have hFc := va_free (wc := [(r, .inr (0, [.ref k, .ref t, .int (nI n), .int cm, .int (wr + nI d1)])), (k, .inl (cA, 500, .inl K1)), (t, .inl (cB, 500, .inl T1))]) hD hS hA [0, 1, 2] rfl
      refine va_callv (va_runV (As := [.int (nI d), .int (nI b)]) (rest := []) ⟨hx, hb, hml, hown, hts⟩ (c_X1_reverse l dC dI H.size r k t cA cB n cm (wr + nI d1) K1 T1 d b (by omega) (by omega)) (cwV 2 hts gX1_swapBlocks_X1_reverse rfl rfl rfl (by decide +kernel) ⟨Nat.le_of_ble_eq_true rfl, Nat.le_of_ble_eq_true rfl⟩) ⟨fun a U g mk q => by obtain ⟨q0, q1, qP, qK, qD⟩ := q; exact ⟨q0, q1, qP, va_K.moved (u := U) (U := U.calling g mk a) (Vm.Alike.refl U.vm) qK, qD⟩, va_recv hKc hPc (ci := 0) (q0 := 0) rfl rfl, fun U hU hW => ⟨rfl, by rw [hU], by rw [hU]; exact hPc, va_K.moved hW.alike hKc, hDc.weaken (fun _ _ _ _ => trivial)⟩⟩ rfl rfl hl.1 rfl (lv_room (Nat.le_of_ble_eq_true rfl)) dX1_swapBlocks_20 ⟨Nat.le_of_ble_eq_true rfl, Nat.le_of_ble_eq_true rfl⟩) hS (fun q _ h => hFc q h) hFc (fun u tS H1 locs ht hvm hw hB hz1 hk1 hS => ?_)
      obtain ⟨K2, T2, n2, c2, w2⟩ := u
      obtain ⟨hm2, hn2, hc2, d2, hd2, hw2⟩ := hw
      dsimp only at hm2 hn2 hc2 hw2
      subst hn2; subst hc2; subst hw2
      obtain ⟨hP1, hK1, hD1⟩ := hB
      rw [ht] at hP1
      obtain ⟨hP, hD⟩ := va_join (wr := []) (w1 := [(r, .inr (0, [.ref k, .ref t, .int (nI n), .int cm, .int ((wr + nI d1) + nI d2)])), (k, .inl (cA, 500, .inl K2)), (t, .inl (cB, 500, .inl T2))]) hP hD [0, 1, 2] [] rfl rfl (by decide) (by decide) hk1 hFc hP1 hD1
      generalize H1 = H at hP hS ⊢
      have hP : va_P (dC, dI) vwCl [(r, .inr (0, [.ref k, .ref t, .int (nI n), .int cm, .int ((wr + nI d1) + nI d2)])), (k, .inl (cA, 500, .inl K2)), (t, .inl (cB, 500, .inl T2))] H := hP
      have hD : va_D A [(r, .inr (0, [.ref k, .ref t, .int (nI n), .int cm, .int ((wr + nI d1) + nI d2)])), (k, .inl (cA, 500, .inl K2)), (t, .inl (cB, 500, .inl T2))] := hD
      refine lv_aload_n hx hb dX1_swapBlocks_23 rfl (lv_at hl 0 rfl) ?_
      refine lv_iload_n hx hb dX1_swapBlocks_24 rfl (lv_at hl 1 rfl) ?_
      refine lv_iload_n hx hb dX1_swapBlocks_25 rfl (lv_at hl 3 rfl) ?_
      have hPc := hP.sub (ws' := [(r, .inr (0, [.ref k, .ref t, .int (nI n), .int cm, .int ((wr + nI d1) + nI d2)])), (k, .inl (cA, 500, .inl K2)), (t, .inl (cB, 500, .inl T2))]) [0, 1, 2] rfl
      have hDc := hD.sub (ws' := [(r, .inr (0, [.ref k, .ref t, .int (nI n), .int cm, .int ((wr + nI d1) + nI d2)])), (k, .inl (cA, 500, .inl K2)), (t, .inl (cB, 500, .inl T2))]) [0, 1, 2] (by decide) rfl
      have hKc := hK.sub (tys' := [(cA, .int), (cB, .int)]) [0, 1] rfl
      have hFc := va_free (wc := [(r, .inr (0, [.ref k, .ref t, .int (nI n), .int cm, .int ((wr + nI d1) + nI d2)])), (k, .inl (cA, 500, .inl K2)), (t, .inl (cB, 500, .inl T2))]) hD hS hA [0, 1, 2] rfl
      refine va_callv (va_runV (As := [.int (nI a), .int (nI b)]) (rest := []) ⟨hx, hb, hml, hown, hts⟩ (c_X1_reverse l dC dI H.size r k t cA cB n cm ((wr + nI d1) + nI d2) K2 T2 a b (by omega) (by omega)) (cwV 2 hts gX1_swapBlocks_X1_reverse rfl rfl rfl (by decide +kernel) ⟨Nat.le_of_ble_eq_true rfl, Nat.le_of_ble_eq_true rfl⟩) ⟨fun a U g mk q => by obtain ⟨q0, q1, qP, qK, qD⟩ := q; exact ⟨q0, q1, qP, va_K.moved (u := U) (U := U.calling g mk a) (Vm.Alike.refl U.vm) qK, qD⟩, va_recv hKc hPc (ci := 0) (q0 := 0) rfl rfl, fun U hU hW => ⟨rfl, by rw [hU], by rw [hU]; exact hPc, va_K.moved hW.alike hKc, hDc.weaken (fun _ _ _ _ => trivial)⟩⟩ rfl rfl hl.1 rfl (lv_room (Nat.le_of_ble_eq_true rfl)) dX1_swapBlocks_26 ⟨Nat.le_of_ble_eq_true rfl, Nat.le_of_ble_eq_true rfl⟩) hS (fun q _ h => hFc q h) hFc (fun u tS H1 locs ht hvm hw hB hz1 hk1 hS => ?_)
      obtain ⟨K3, T3, n3, c3, w3⟩ := u
      obtain ⟨hm3, hn3, hc3, d3, hd3, hw3⟩ := hw
      dsimp only at hm3 hn3 hc3 hw3
      subst hn3; subst hc3; subst hw3
      obtain ⟨hP1, hK1, hD1⟩ := hB
      rw [ht] at hP1
      obtain ⟨hP, hD⟩ := va_join (wr := []) (w1 := [(r, .inr (0, [.ref k, .ref t, .int (nI n), .int cm, .int (((wr + nI d1) + nI d2) + nI d3)])), (k, .inl (cA, 500, .inl K3)), (t, .inl (cB, 500, .inl T3))]) hP hD [0, 1, 2] [] rfl rfl (by decide) (by decide) hk1 hFc hP1 hD1
      generalize H1 = H at hP hS ⊢
      have hP : va_P (dC, dI) vwCl [(r, .inr (0, [.ref k, .ref t, .int (nI n), .int cm, .int (((wr + nI d1) + nI d2) + nI d3)])), (k, .inl (cA, 500, .inl K3)), (t, .inl (cB, 500, .inl T3))] H := hP
      have hD : va_D A [(r, .inr (0, [.ref k, .ref t, .int (nI n), .int cm, .int (((wr + nI d1) + nI d2) + nI d3)])), (k, .inl (cA, 500, .inl K3)), (t, .inl (cB, 500, .inl T3))] := hD
      exact W.vret hx hb hr (fun tS ht hW => ⟨⟨(K3, T3, n, cm, (((wr + nI d1) + nI d2) + nI d3)), rfl, ⟨by rw [hm3, hm2, hm1, ro_rv had hdb], rfl, rfl, d1 + d2 + d3, by omega, ad1 (ad1 rfl d2) d3⟩, by rw [ht]; exact hP, va_K.moved hW.alike hK, hD⟩, hS.F ht⟩) hS.2.2 dX1_swapBlocks_29
    · exact W.vret hx hb hr (fun tS ht hW => ⟨⟨(K, T, n, cm, wr), rfl, ⟨(ro_id had hdb (by omega)).symm, rfl, rfl, 0, by omega, ad0 wr⟩, by rw [ht]; exact hP, va_K.moved hW.alike hK, hD⟩, hS.F ht⟩) hS.2.2 dX1_swapBlocks_10
