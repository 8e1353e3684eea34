set_option maxHeartbeats 4000000 in
set_option maxRecDepth 100000 in
theorem c_X3_thin (l : Launch) (dC : Nat → ClassId) (dI : Nat → Nat → Nat) (sz : Nat) (h k t k2 t2 : Nat) (cA cB cC cD : ClassId) (n : Nat) (K T NK NT : Nat → Int32) (hn : n ≤ 500) (o : Int32) : Met l yX3_thin wsX3_thin ({ frames := 2, cells := 0, slots := 0, locals := 46 }) (va_Pc [.ref h, .int o] (fun U => U.heap.size = sz ∧ va_P (dC, dI) vwCl [(h, .inr (2, [.ref k, .ref t, .int (nI n), .ref k2, .ref t2])), (k, .inl (cA, 500, .inl K)), (t, .inl (cB, 500, .inl T)), (k2, .inl (cC, 500, .inl NK)), (t2, .inl (cD, 500, .inl NT))] U.heap ∧ va_K (dC, dI) vwCl [(cA, .int), (cB, .int), (cC, .int), (cD, .int)] U ∧ va_D (fun _ => True) [(h, .inr (2, [.ref k, .ref t, .int (nI n), .ref k2, .ref t2])), (k, .inl (cA, 500, .inl K)), (t, .inl (cB, 500, .inl T)), (k2, .inl (cC, 500, .inl NK)), (t2, .inl (cD, 500, .inl NT))])) (va_Qi (fun r u => Qthi n (mZ K T) o r u.2.2.1 (mZ u.1 u.2.1)) (atM dC dI (va_A [(h, .inr (2, [.ref k, .ref t, .int (nI n), .ref k2, .ref t2])), (k, .inl (cA, 500, .inl K)), (t, .inl (cB, 500, .inl T)), (k2, .inl (cC, 500, .inl NK)), (t2, .inl (cD, 500, .inl NT))] sz) h k t k2 t2 cA cB cC cD) (va_A [(h, .inr (2, [.ref k, .ref t, .int (nI n), .ref k2, .ref t2])), (k, .inl (cA, 500, .inl K)), (t, .inl (cB, 500, .inl T)), (k2, .inl (cC, 500, .inl NK)), (t2, .inl (cD, 500, .inl NT))] sz)) 0 0 (va_A [(h, .inr (2, [.ref k, .ref t, .int (nI n), .ref k2, .ref t2])), (k, .inl (cA, 500, .inl K)), (t, .inl (cB, 500, .inl T)), (k2, .inl (cC, 500, .inl NK)), (t2, .inl (cD, 500, .inl NT))] sz) := by
  refine Met.ofW (cc := cX3_thin) (maxL := 4) (ret := (some .int)) (by decide) rfl ?_
  intro p e s m args below meth c s₁ B hml hv
  obtain ⟨rfl, hsz, hP, hK, hD0⟩ := hv
  have hx := B.exec
  have hb := B.bytes
  have hr := B.returns
  have hts := atoms_spec (ws := wsX3_thin) B.pre
  have hown : s.vm.findClass RX3 = some m.cls := findClass_of_methodNamed B.named
  have hlocks := B.notSynchronized
  subst hsz
  have hD := hD0.self (sz := s.heap.size)
  generalize hAe : va_A [(h, .inr (2, [.ref k, .ref t, .int (nI n), .ref k2, .ref t2])), (k, .inl (cA, 500, .inl K)), (t, .inl (cB, 500, .inl T)), (k2, .inl (cC, 500, .inl NK)), (t2, .inl (cD, 500, .inl NT))] s.heap.size = A at hD ⊢
  have hA : ∀ q : Nat, s.heap.size ≤ q → A q := fun q h => by rw [← hAe]; exact Or.inr h
  have hS : va_S A s.heap s.heap [] := va_S.rf
  have hP : va_P (dC, dI) vwCl [(h, .inr (2, [.ref k, .ref t, .int (nI n), .ref k2, .ref t2])), (k, .inl (cA, 500, .inl K)), (t, .inl (cB, 500, .inl T)), (k2, .inl (cC, 500, .inl NK)), (t2, .inl (cD, 500, .inl NT))] s.heap := hP
  have hl := lv_entry ([.ref h, .int o]) (n := 4) (Nat.le_of_ble_eq_true rfl)
  rw [lg_entry_eq]
  generalize (lg_sl ([.ref h, .int o]) ++ List.replicate (4 - (lg_sl ([.ref h, .int o])).length) Slot.unset).toArray = ls at hl ⊢
  have hl : lv_has ls 4 [(0, .ref h), (1, .int o)] := hl
  refine lv_iload_n hx hb dX3_thin_0 rfl (lv_at hl 1 rfl) ?_
  have hPc := hP.sub (ws' := []) [] rfl
  have hDc := hD.sub (ws' := []) [] (by decide) rfl
  have hKc := hK.sub (tys' := []) [] rfl
  have hFc := va_free (wc := []) hD hS hA [] rfl
  refine va_calli (va_runS (As := [.int o]) (rest := []) ⟨hx, hb, hml, hown, hts⟩ (c_X3_isOrder l dC dI s.heap.size o) (va_cwS 1 hts gX3_thin_X3_isOrder rfl rfl rfl (by decide +kernel) ⟨Nat.le_of_ble_eq_true rfl, Nat.le_of_ble_eq_true rfl⟩) ⟨fun a U g mk q => by obtain ⟨q0, q1, qP, qK, qD⟩ := q; exact ⟨q0, q1, qP, va_K.moved (u := U) (U := U.calling g mk a) (Vm.Alike.refl U.vm) qK, qD⟩, fun U hU hW => ⟨rfl, by rw [hU], by rw [hU]; exact hPc, va_K.moved hW.alike hKc, hDc.weaken (fun _ _ _ _ => trivial)⟩⟩ rfl rfl hl.1 rfl (lv_room (Nat.le_of_ble_eq_true rfl)) dX3_thin_1 ⟨Nat.le_of_ble_eq_true rfl, Nat.le_of_ble_eq_true rfl⟩) hS (fun q _ h => hFc q h) hFc (fun r_1 u tS H1 locs ht hvm hw hB hz1 hk1 hS => ?_)
  have he := hw
  obtain ⟨hP1, hK1, hD1⟩ := hB
  rw [ht] at hP1
  obtain ⟨hP, hD⟩ := va_join (wr := [(h, .inr (2, [.ref k, .ref t, .int (nI n), .ref k2, .ref t2])), (k, .inl (cA, 500, .inl K)), (t, .inl (cB, 500, .inl T)), (k2, .inl (cC, 500, .inl NK)), (t2, .inl (cD, 500, .inl NT))]) (w1 := []) hP hD [] [0, 1, 2, 3, 4] rfl rfl (by decide) (by decide) hk1 hFc hP1 hD1
  generalize H1 = H at hP hS ⊢
  have hP : va_P (dC, dI) vwCl [(h, .inr (2, [.ref k, .ref t, .int (nI n), .ref k2, .ref t2])), (k, .inl (cA, 500, .inl K)), (t, .inl (cB, 500, .inl T)), (k2, .inl (cC, 500, .inl NK)), (t2, .inl (cD, 500, .inl NT))] H := hP
  have hD : va_D A [(h, .inr (2, [.ref k, .ref t, .int (nI n), .ref k2, .ref t2])), (k, .inl (cA, 500, .inl K)), (t, .inl (cB, 500, .inl T)), (k2, .inl (cC, 500, .inl NK)), (t2, .inl (cD, 500, .inl NT))] := hD
  refine lv_if_eq (tgt := 20) hx hb dX3_thin_4 (by decide) (fun c4 => ?_) (fun c4 => ?_)
  · refine lv_iconst (v := (-1)) hx hb dX3_thin_20 (by decide) ?_
    exact W.iret (v := (-1)) hx hb hr (fun tS ht hW => ⟨⟨(-1), (K, T, n, NK, NT), rfl, Or.inl ⟨⟨rfl, sam_rf⟩, fun z hz => tr_0 he c4 (dO_e hz)⟩, by rw [ht]; exact hP, va_K.moved hW.alike hK, hD⟩, hS.F ht⟩) hS.2.2 dX3_thin_21
  · obtain ⟨o1, ho, rfl⟩ := exO_of (tr_1 he c4)
    refine lv_aload_n hx hb dX3_thin_7 rfl (lv_at hl 0 rfl) ?_
    refine lv_iconst (v := (nI 0)) hx hb dX3_thin_8 (by decide) ?_
    refine lv_aload_n hx hb dX3_thin_9 rfl (lv_at hl 0 rfl) ?_
    refine va_get (D := (dC, dI)) (ci := 2) (v := .int (nI n)) (C := RX3) (T := TX3) (N := 5) hx hb hts (by decide +kernel) hown hK hP 0 rfl rfl 2 (by decide) (hts (.fieldLink RX3 22 "RowPressModel" "many" "I") (by decide +kernel)) (fun _ h9 => h9) rfl dX3_thin_10 ?_
    refine lv_iload_n hx hb dX3_thin_13 rfl (lv_at hl 1 rfl) ?_
    have hPc := hP.sub (ws' := [(h, .inr (2, [.ref k, .ref t, .int (nI n), .ref k2, .ref t2])), (k, .inl (cA, 500, .inl K)), (t, .inl (cB, 500, .inl T)), (k2, .inl (cC, 500, .inl NK)), (t2, .inl (cD, 500, .inl NT))]) [0, 1, 2, 3, 4] rfl
    have hDc := hD.sub (ws' := [(h, .inr (2, [.ref k, .ref t, .int (nI n), .ref k2, .ref t2])), (k, .inl (cA, 500, .inl K)), (t, .inl (cB, 500, .inl T)), (k2, .inl (cC, 500, .inl NK)), (t2, .inl (cD, 500, .inl NT))]) [0, 1, 2, 3, 4] (by decide) rfl
    have hKc := hK.sub (tys' := [(cA, .int), (cB, .int), (cC, .int), (cD, .int)]) [0, 1, 2, 3] rfl
    have hFc := va_free (wc := [(h, .inr (2, [.ref k, .ref t, .int (nI n), .ref k2, .ref t2])), (k, .inl (cA, 500, .inl K)), (t, .inl (cB, 500, .inl T)), (k2, .inl (cC, 500, .inl NK)), (t2, .inl (cD, 500, .inl NT))]) hD hS hA [0, 1, 2, 3, 4] rfl
    refine va_calli (va_runV (As := [.int (nI 0), .int (nI n), .int (nI o1)]) (rest := []) ⟨hx, hb, hml, hown, hts⟩ (c_X3_isSorted l dC dI H.size h k t k2 t2 cA cB cC cD n K T NK NT 0 n o1 (Nat.zero_le _) hn ho) (cwV 3 hts gX3_thin_X3_isSorted rfl rfl rfl (by decide +kernel) ⟨Nat.le_of_ble_eq_true rfl, Nat.le_of_ble_eq_true rfl⟩) ⟨fun a U g mk q => by obtain ⟨q0, q1, qP, qK, qD⟩ := q; exact ⟨q0, q1, qP, va_K.moved (u := U) (U := U.calling g mk a) (Vm.Alike.refl U.vm) qK, qD⟩, va_recv hKc hPc (ci := 2) (q0 := 0) rfl rfl, fun U hU hW => ⟨rfl, by rw [hU], by rw [hU]; exact hPc, va_K.moved hW.alike hKc, hDc.weaken (fun _ _ _ _ => trivial)⟩⟩ rfl rfl hl.1 rfl (lv_room (Nat.le_of_ble_eq_true rfl)) dX3_thin_14 ⟨Nat.le_of_ble_eq_true rfl, Nat.le_of_ble_eq_true rfl⟩) hS (fun q _ h => hFc q h) hFc (fun r_2 u tS H1 locs ht hvm hw hB hz1 hk1 hS => ?_)
    obtain ⟨hi, rfl⟩ := hw
    obtain ⟨hP1, hK1, hD1⟩ := hB
    rw [ht] at hP1
    obtain ⟨hP, hD⟩ := va_join (wr := []) (w1 := [(h, .inr (2, [.ref k, .ref t, .int (nI n), .ref k2, .ref t2])), (k, .inl (cA, 500, .inl K)), (t, .inl (cB, 500, .inl T)), (k2, .inl (cC, 500, .inl NK)), (t2, .inl (cD, 500, .inl NT))]) hP hD [0, 1, 2, 3, 4] [] rfl rfl (by decide) (by decide) hk1 hFc hP1 hD1
    generalize H1 = H at hP hS ⊢
    have hP : va_P (dC, dI) vwCl [(h, .inr (2, [.ref k, .ref t, .int (nI n), .ref k2, .ref t2])), (k, .inl (cA, 500, .inl K)), (t, .inl (cB, 500, .inl T)), (k2, .inl (cC, 500, .inl NK)), (t2, .inl (cD, 500, .inl NT))] H := hP
    have hD : va_D A [(h, .inr (2, [.ref k, .ref t, .int (nI n), .ref k2, .ref t2])), (k, .inl (cA, 500, .inl K)), (t, .inl (cB, 500, .inl T)), (k2, .inl (cC, 500, .inl NK)), (t2, .inl (cD, 500, .inl NT))] := hD
    refine lv_if_ne (tgt := 22) hx hb dX3_thin_17 (by decide) (fun c17 => ?_) (fun c17 => ?_)
    · refine lv_iconst (v := (nI 0)) hx hb dX3_thin_22 (by decide) ?_
      refine lv_istore_n (lv' := [(2, .int (nI 0)), (0, .ref h), (1, .int (nI o1))]) hx hb dX3_thin_23 rfl hl (by decide) rfl (fun ls hl => ?_)
      refine lv_iconst (v := (nI 0)) hx hb dX3_thin_24 (by decide) ?_
      refine lv_istore_n (lv' := [(3, .int (nI 0)), (2, .int (nI 0)), (0, .ref h), (1, .int (nI o1))]) hx hb dX3_thin_25 rfl hl (by decide) rfl (fun ls hl => ?_)
      refine lz_loop (σ := Nat × Nat × (Nat → Int32) × (Nat → Int32)) (μ := fun X_ => match X_ with | (lf, q, NK1, NT1) => n - q) (Inv := fun X_ H locs ls => match X_ with | (lf, q, NK1, NT1) => (q ≤ n) ∧ (lf = cn (kp o1 (mZ K T)) 0 (q - 0)) ∧ (flI (kp o1 (mZ K T)) (mZ K T) (mZ NK1 NT1) 0 0 q) ∧ va_P (dC, dI) vwCl [(h, .inr (2, [.ref k, .ref t, .int (nI n), .ref k2, .ref t2])), (k, .inl (cA, 500, .inl K)), (t, .inl (cB, 500, .inl T)), (k2, .inl (cC, 500, .inl NK1)), (t2, .inl (cD, 500, .inl NT1))] H ∧ va_D A [(h, .inr (2, [.ref k, .ref t, .int (nI n), .ref k2, .ref t2])), (k, .inl (cA, 500, .inl K)), (t, .inl (cB, 500, .inl T)), (k2, .inl (cC, 500, .inl NK1)), (t2, .inl (cD, 500, .inl NT1))] ∧ va_S A s.heap H locs ∧ lv_has ls 4 [(0, .ref h), (1, .int (nI o1)), (2, .int (nI lf)), (3, .int (nI q))]) ?_ (0, 0, NK, NT) _ _ _ ?_
      · rintro ⟨lf, q, NK1, NT1⟩ ihf H locs ls ⟨vf0, vf1, vf2, hP, hD, hS, hl⟩
        refine lv_iload_n hx hb dX3_thin_26 rfl (lv_at hl 3 rfl) ?_
        refine lv_aload_n hx hb dX3_thin_27 rfl (lv_at hl 0 rfl) ?_
        refine va_get (D := (dC, dI)) (ci := 2) (v := .int (nI n)) (C := RX3) (T := TX3) (N := 5) hx hb hts (by decide +kernel) hown hK hP 0 rfl rfl 2 (by decide) (hts (.fieldLink RX3 22 "RowPressModel" "many" "I") (by decide +kernel)) (fun _ h9 => h9) rfl dX3_thin_28 ?_
        refine lz_icmp_ge (tgt := 74) (by omega) (by omega) hx hb dX3_thin_31 (by decide) (fun c31 => ?_) (fun c31 => ?_)
        · have hqn : q = n := by omega
          rw [hqn] at vf1 vf2
          have hlf : lf ≤ n - 0 := by rw [vf1]; exact cn_le _ _ _
          refine lv_aload_n hx hb dX3_thin_74 rfl (lv_at hl 0 rfl) ?_
          refine lv_iconst (v := (nI 0)) hx hb dX3_thin_75 (by decide) ?_
          refine lv_iload_n hx hb dX3_thin_76 rfl (lv_at hl 2 rfl) ?_
          have hPc := hP.sub (ws' := [(h, .inr (2, [.ref k, .ref t, .int (nI n), .ref k2, .ref t2])), (k, .inl (cA, 500, .inl K)), (t, .inl (cB, 500, .inl T)), (k2, .inl (cC, 500, .inl NK1)), (t2, .inl (cD, 500, .inl NT1))]) [0, 1, 2, 3, 4] rfl
          have hDc := hD.sub (ws' := [(h, .inr (2, [.ref k, .ref t, .int (nI n), .ref k2, .ref t2])), (k, .inl (cA, 500, .inl K)), (t, .inl (cB, 500, .inl T)), (k2, .inl (cC, 500, .inl NK1)), (t2, .inl (cD, 500, .inl NT1))]) [0, 1, 2, 3, 4] (by decide) rfl
          have hKc := hK.sub (tys' := [(cA, .int), (cB, .int), (cC, .int), (cD, .int)]) [0, 1, 2, 3] rfl
          have hFc := va_free (wc := [(h, .inr (2, [.ref k, .ref t, .int (nI n), .ref k2, .ref t2])), (k, .inl (cA, 500, .inl K)), (t, .inl (cB, 500, .inl T)), (k2, .inl (cC, 500, .inl NK1)), (t2, .inl (cD, 500, .inl NT1))]) hD hS hA [0, 1, 2, 3, 4] rfl
          refine va_callv (va_runV (As := [.int (nI 0), .int (nI lf)]) (rest := []) ⟨hx, hb, hml, hown, hts⟩ (c_X3_take l dC dI H.size h k t k2 t2 cA cB cC cD n K T NK1 NT1 0 lf (Nat.zero_le _) (by omega)) (cwV 2 hts gX3_thin_X3_take rfl rfl rfl (by decide +kernel) ⟨Nat.le_of_ble_eq_true rfl, Nat.le_of_ble_eq_true rfl⟩) ⟨fun a U g mk q => by obtain ⟨q0, q1, qP, qK, qD⟩ := q; exact ⟨q0, q1, qP, va_K.moved (u := U) (U := U.calling g mk a) (Vm.Alike.refl U.vm) qK, qD⟩, va_recv hKc hPc (ci := 2) (q0 := 0) rfl rfl, fun U hU hW => ⟨rfl, by rw [hU], by rw [hU]; exact hPc, va_K.moved hW.alike hKc, hDc.weaken (fun _ _ _ _ => trivial)⟩⟩ rfl rfl hl.1 rfl (lv_room (Nat.le_of_ble_eq_true rfl)) dX3_thin_77 ⟨Nat.le_of_ble_eq_true rfl, Nat.le_of_ble_eq_true rfl⟩) hS (fun q _ h => hFc q h) hFc (fun u tS H1 locs ht hvm hw hB hz1 hk1 hS => ?_)
          obtain ⟨K9, T9, n9, NK9, NT9⟩ := u
          obtain ⟨htk, he9⟩ := hw
          dsimp only at htk he9
          cases he9
          obtain ⟨hP1, hK1, hD1⟩ := hB
          rw [ht] at hP1
          obtain ⟨hP, hD⟩ := va_join (wr := []) (w1 := [(h, .inr (2, [.ref k, .ref t, .int (nI n), .ref k2, .ref t2])), (k, .inl (cA, 500, .inl K9)), (t, .inl (cB, 500, .inl T9)), (k2, .inl (cC, 500, .inl NK1)), (t2, .inl (cD, 500, .inl NT1))]) hP hD [0, 1, 2, 3, 4] [] rfl rfl (by decide) (by decide) hk1 hFc hP1 hD1
          generalize H1 = H at hP hS ⊢
          have hP : va_P (dC, dI) vwCl [(h, .inr (2, [.ref k, .ref t, .int (nI n), .ref k2, .ref t2])), (k, .inl (cA, 500, .inl K9)), (t, .inl (cB, 500, .inl T9)), (k2, .inl (cC, 500, .inl NK1)), (t2, .inl (cD, 500, .inl NT1))] H := hP
          have hD : va_D A [(h, .inr (2, [.ref k, .ref t, .int (nI n), .ref k2, .ref t2])), (k, .inl (cA, 500, .inl K9)), (t, .inl (cB, 500, .inl T9)), (k2, .inl (cC, 500, .inl NK1)), (t2, .inl (cD, 500, .inl NT1))] := hD
          refine lv_aload_n hx hb dX3_thin_80 rfl (lv_at hl 0 rfl) ?_
          refine lv_iload_n hx hb dX3_thin_81 rfl (lv_at hl 2 rfl) ?_
          refine va_put (D := (dC, dI)) (ci := 2) (v := .int (nI lf)) (ty := .int) (C := RX3) (T := TX3) (N := 5) hx hb hts (by decide +kernel) tyX3 tyX3_ok nmX3 hown hK hP hD hS 0 rfl rfl 2 (by decide) (hts (.fieldLink RX3 22 "RowPressModel" "many" "I") (by decide +kernel)) (fun _ h9 => h9) rfl (by decide +kernel) rfl rfl (Nat.le_of_ble_eq_true rfl) dX3_thin_82 (fun H locs hP hD hS => ?_)
          have hP : va_P (dC, dI) vwCl [(h, .inr (2, [.ref k, .ref t, .int (nI lf), .ref k2, .ref t2])), (k, .inl (cA, 500, .inl K9)), (t, .inl (cB, 500, .inl T9)), (k2, .inl (cC, 500, .inl NK1)), (t2, .inl (cD, 500, .inl NT1))] H := hP
          have hD : va_D A [(h, .inr (2, [.ref k, .ref t, .int (nI lf), .ref k2, .ref t2])), (k, .inl (cA, 500, .inl K9)), (t, .inl (cB, 500, .inl T9)), (k2, .inl (cC, 500, .inl NK1)), (t2, .inl (cD, 500, .inl NT1))] := hD
          refine lv_iload_n hx hb dX3_thin_85 rfl (lv_at hl 2 rfl) ?_
          exact W.iret (v := (nI lf)) hx hb hr (fun tS ht hW => ⟨⟨(nI lf), (K9, T9, lf, NK1, NT1), rfl, Or.inr ⟨o1, ⟨rfl, ho⟩, Or.inr ⟨tr_1 hi c17, rfl, vf1, fun i hi9 hk9 => by have z1 := vf2 i (Nat.zero_le _) hi9 hk9; rw [Nat.zero_add] at z1; have z2 := cn_less (Nat.zero_le i) hi9 hk9; rw [← vf1] at z2; rw [htk, if_pos ⟨Nat.zero_le _, z2⟩]; exact z1⟩⟩, by rw [ht]; exact hP, va_K.moved hW.alike hK, hD⟩, hS.F ht⟩) hS.2.2 dX3_thin_86
        · have hlf : lf ≤ q - 0 := by rw [vf1]; exact cn_le _ _ _
          refine lv_iload_n hx hb dX3_thin_34 rfl (lv_at hl 3 rfl) ?_
          refine lz_if_eq (tgt := 59) (by omega) hx hb dX3_thin_35 (by decide) (fun c35 => ?_) (fun c35 => ?_)
          · refine lv_aload_n hx hb dX3_thin_59 rfl (lv_at hl 0 rfl) ?_
            refine lv_iload_n hx hb dX3_thin_60 rfl (lv_at hl 3 rfl) ?_
            refine lv_iload_n hx hb dX3_thin_61 rfl (lv_at hl 2 rfl) ?_
            have hPc := hP.sub (ws' := [(h, .inr (2, [.ref k, .ref t, .int (nI n), .ref k2, .ref t2])), (k, .inl (cA, 500, .inl K)), (t, .inl (cB, 500, .inl T)), (k2, .inl (cC, 500, .inl NK1)), (t2, .inl (cD, 500, .inl NT1))]) [0, 1, 2, 3, 4] rfl
            have hDc := hD.sub (ws' := [(h, .inr (2, [.ref k, .ref t, .int (nI n), .ref k2, .ref t2])), (k, .inl (cA, 500, .inl K)), (t, .inl (cB, 500, .inl T)), (k2, .inl (cC, 500, .inl NK1)), (t2, .inl (cD, 500, .inl NT1))]) [0, 1, 2, 3, 4] (by decide) rfl
            have hKc := hK.sub (tys' := [(cA, .int), (cB, .int), (cC, .int), (cD, .int)]) [0, 1, 2, 3] rfl
            have hFc := va_free (wc := [(h, .inr (2, [.ref k, .ref t, .int (nI n), .ref k2, .ref t2])), (k, .inl (cA, 500, .inl K)), (t, .inl (cB, 500, .inl T)), (k2, .inl (cC, 500, .inl NK1)), (t2, .inl (cD, 500, .inl NT1))]) hD hS hA [0, 1, 2, 3, 4] rfl
            refine va_callv (va_runV (As := [.int (nI q), .int (nI lf)]) (rest := []) ⟨hx, hb, hml, hown, hts⟩ (c_X3_move l dC dI H.size h k t k2 t2 cA cB cC cD n K T NK1 NT1 q lf (by omega) (by omega)) (cwV 2 hts gX3_thin_X3_move rfl rfl rfl (by decide +kernel) ⟨Nat.le_of_ble_eq_true rfl, Nat.le_of_ble_eq_true rfl⟩) ⟨fun a U g mk q => by obtain ⟨q0, q1, qP, qK, qD⟩ := q; exact ⟨q0, q1, qP, va_K.moved (u := U) (U := U.calling g mk a) (Vm.Alike.refl U.vm) qK, qD⟩, va_recv hKc hPc (ci := 2) (q0 := 0) rfl rfl, fun U hU hW => ⟨rfl, by rw [hU], by rw [hU]; exact hPc, va_K.moved hW.alike hKc, hDc.weaken (fun _ _ _ _ => trivial)⟩⟩ rfl rfl hl.1 rfl (lv_room (Nat.le_of_ble_eq_true rfl)) dX3_thin_62 ⟨Nat.le_of_ble_eq_true rfl, Nat.le_of_ble_eq_true rfl⟩) hS (fun q _ h => hFc q h) hFc (fun u tS H1 locs ht hvm hw hB hz1 hk1 hS => ?_)
            subst hw
            obtain ⟨hP1, hK1, hD1⟩ := hB
            rw [ht] at hP1
            obtain ⟨hP, hD⟩ := va_join (wr := []) (w1 := [(h, .inr (2, [.ref k, .ref t, .int (nI n), .ref k2, .ref t2])), (k, .inl (cA, 500, .inl K)), (t, .inl (cB, 500, .inl T)), (k2, .inl (cC, 500, .inl (upd NK1 lf (K q)))), (t2, .inl (cD, 500, .inl (upd NT1 lf (T q))))]) hP hD [0, 1, 2, 3, 4] [] rfl rfl (by decide) (by decide) hk1 hFc hP1 hD1
            generalize H1 = H at hP hS ⊢
            have hP : va_P (dC, dI) vwCl [(h, .inr (2, [.ref k, .ref t, .int (nI n), .ref k2, .ref t2])), (k, .inl (cA, 500, .inl K)), (t, .inl (cB, 500, .inl T)), (k2, .inl (cC, 500, .inl (upd NK1 lf (K q)))), (t2, .inl (cD, 500, .inl (upd NT1 lf (T q))))] H := hP
            have hD : va_D A [(h, .inr (2, [.ref k, .ref t, .int (nI n), .ref k2, .ref t2])), (k, .inl (cA, 500, .inl K)), (t, .inl (cB, 500, .inl T)), (k2, .inl (cC, 500, .inl (upd NK1 lf (K q)))), (t2, .inl (cD, 500, .inl (upd NT1 lf (T q))))] := hD
            refine lv_iinc (v := (nI (lf + 1))) (lv' := [(2, .int (nI (lf + 1))), (0, .ref h), (1, .int (nI o1)), (3, .int (nI q))]) hx hb dX3_thin_65 hl (k := 2) rfl (by first | exact nI_add lf 1 | (rw [← nI_add]; rfl)) (by decide) rfl (fun ls hl => ?_)
            refine lv_iinc (v := (nI (q + 1))) (lv' := [(3, .int (nI (q + 1))), (2, .int (nI (lf + 1))), (0, .ref h), (1, .int (nI o1))]) hx hb dX3_thin_68 hl (k := 3) rfl (by first | exact nI_add q 1 | (rw [← nI_add]; rfl)) (by decide) rfl (fun ls hl => ?_)
            refine lv_goto (tgt := 26) hx hb dX3_thin_71 (by decide) ?_
            exact ihf ((lf + 1), (q + 1), (upd NK1 lf (K q)), (upd NT1 lf (T q))) (by show n - (q + 1) < n - q; omega) _ _ _ ⟨by omega, by rw [cn_st (P := kp o1 (mZ K T)) (by omega) (Or.inl c35), ← vf1], flI_y vf2 (by omega) (by rw [← vf1, Nat.zero_add]; exact mZ_put NK1 NT1 lf (K q) (T q)), hP, hD, hS, lv_sub hl [2, 3, 1, 0] rfl⟩
          · refine lv_aload_n hx hb dX3_thin_38 rfl (lv_at hl 0 rfl) ?_
            refine va_get (D := (dC, dI)) (ci := 2) (v := .ref k) (C := RX3) (T := TX3) (N := 5) hx hb hts (by decide +kernel) hown hK hP 0 rfl rfl 0 (by decide) (hts (.fieldLink RX3 7 "RowPressModel" "keys" "[I") (by decide +kernel)) (fun _ h9 => h9) rfl dX3_thin_39 ?_
            refine lv_iload_n hx hb dX3_thin_42 rfl (lv_at hl 3 rfl) ?_
            refine lv_iconst (v := (nI 1)) hx hb dX3_thin_43 (by decide) ?_
            refine lv_isub hx hb dX3_thin_44 ?_
            refine lz_top (y := (nI (q - 1))) (pk_sub (by omega)) ?_
            refine lz_iald hx hb hK hP 1 0 rfl rfl (j := q - 1) (by omega) (by decide) dX3_thin_45 ?_
            refine lv_aload_n hx hb dX3_thin_46 rfl (lv_at hl 0 rfl) ?_
            refine va_get (D := (dC, dI)) (ci := 2) (v := .ref k) (C := RX3) (T := TX3) (N := 5) hx hb hts (by decide +kernel) hown hK hP 0 rfl rfl 0 (by decide) (hts (.fieldLink RX3 7 "RowPressModel" "keys" "[I") (by decide +kernel)) (fun _ h9 => h9) rfl dX3_thin_47 ?_
            refine lv_iload_n hx hb dX3_thin_50 rfl (lv_at hl 3 rfl) ?_
            refine lz_iald hx hb hK hP 1 0 rfl rfl (j := q) (by omega) (by decide) dX3_thin_51 ?_
            refine lv_iload_n hx hb dX3_thin_52 rfl (lv_at hl 1 rfl) ?_
            have hPc := hP.sub (ws' := []) [] rfl
            have hDc := hD.sub (ws' := []) [] (by decide) rfl
            have hKc := hK.sub (tys' := []) [] rfl
            have hFc := va_free (wc := []) hD hS hA [] rfl
            refine va_calli (va_runS (As := [.int (K (q - 1)), .int (K q), .int (nI o1)]) (rest := []) ⟨hx, hb, hml, hown, hts⟩ (c_X3_isLess l dC dI H.size (K (q - 1)) (K q) o1 ho) (va_cwS 3 hts gX3_thin_X3_isLess rfl rfl rfl (by decide +kernel) ⟨Nat.le_of_ble_eq_true rfl, Nat.le_of_ble_eq_true rfl⟩) ⟨fun a U g mk q => by obtain ⟨q0, q1, qP, qK, qD⟩ := q; exact ⟨q0, q1, qP, va_K.moved (u := U) (U := U.calling g mk a) (Vm.Alike.refl U.vm) qK, qD⟩, fun U hU hW => ⟨rfl, by rw [hU], by rw [hU]; exact hPc, va_K.moved hW.alike hKc, hDc.weaken (fun _ _ _ _ => trivial)⟩⟩ rfl rfl hl.1 rfl (lv_room (Nat.le_of_ble_eq_true rfl)) dX3_thin_53 ⟨Nat.le_of_ble_eq_true rfl, Nat.le_of_ble_eq_true rfl⟩) hS (fun q _ h => hFc q h) hFc (fun r_5 u tS H1 locs ht hvm hw hB hz1 hk1 hS => ?_)
            have hq := hw
            obtain ⟨hP1, hK1, hD1⟩ := hB
            rw [ht] at hP1
            obtain ⟨hP, hD⟩ := va_join (wr := [(h, .inr (2, [.ref k, .ref t, .int (nI n), .ref k2, .ref t2])), (k, .inl (cA, 500, .inl K)), (t, .inl (cB, 500, .inl T)), (k2, .inl (cC, 500, .inl NK1)), (t2, .inl (cD, 500, .inl NT1))]) (w1 := []) hP hD [] [0, 1, 2, 3, 4] rfl rfl (by decide) (by decide) hk1 hFc hP1 hD1
            generalize H1 = H at hP hS ⊢
            have hP : va_P (dC, dI) vwCl [(h, .inr (2, [.ref k, .ref t, .int (nI n), .ref k2, .ref t2])), (k, .inl (cA, 500, .inl K)), (t, .inl (cB, 500, .inl T)), (k2, .inl (cC, 500, .inl NK1)), (t2, .inl (cD, 500, .inl NT1))] H := hP
            have hD : va_D A [(h, .inr (2, [.ref k, .ref t, .int (nI n), .ref k2, .ref t2])), (k, .inl (cA, 500, .inl K)), (t, .inl (cB, 500, .inl T)), (k2, .inl (cC, 500, .inl NK1)), (t2, .inl (cD, 500, .inl NT1))] := hD
            refine lv_if_eq (tgt := 68) hx hb dX3_thin_56 (by decide) (fun c56 => ?_) (fun c56 => ?_)
            · refine lv_iinc (v := (nI (q + 1))) (lv' := [(3, .int (nI (q + 1))), (0, .ref h), (1, .int (nI o1)), (2, .int (nI lf))]) hx hb dX3_thin_68 hl (k := 3) rfl (by first | exact nI_add q 1 | (rw [← nI_add]; rfl)) (by decide) rfl (fun ls hl => ?_)
              refine lv_goto (tgt := 26) hx hb dX3_thin_71 (by decide) ?_
              exact ihf (lf, (q + 1), NK1, NT1) (by show n - (q + 1) < n - q; omega) _ _ _ ⟨by omega, by rw [cn_sf (P := kp o1 (mZ K T)) (by omega) (fun z => z.elim c35 (tr_0 hq c56))]; exact vf1, flI_n vf2 (fun z => z.elim c35 (tr_0 hq c56)), hP, hD, hS, lv_sub hl [1, 2, 3, 0] rfl⟩
            · refine lv_aload_n hx hb dX3_thin_59 rfl (lv_at hl 0 rfl) ?_
              refine lv_iload_n hx hb dX3_thin_60 rfl (lv_at hl 3 rfl) ?_
              refine lv_iload_n hx hb dX3_thin_61 rfl (lv_at hl 2 rfl) ?_
              have hPc := hP.sub (ws' := [(h, .inr (2, [.ref k, .ref t, .int (nI n), .ref k2, .ref t2])), (k, .inl (cA, 500, .inl K)), (t, .inl (cB, 500, .inl T)), (k2, .inl (cC, 500, .inl NK1)), (t2, .inl (cD, 500, .inl NT1))]) [0, 1, 2, 3, 4] rfl
              have hDc := hD.sub (ws' := [(h, .inr (2, [.ref k, .ref t, .int (nI n), .ref k2, .ref t2])), (k, .inl (cA, 500, .inl K)), (t, .inl (cB, 500, .inl T)), (k2, .inl (cC, 500, .inl NK1)), (t2, .inl (cD, 500, .inl NT1))]) [0, 1, 2, 3, 4] (by decide) rfl
              have hKc := hK.sub (tys' := [(cA, .int), (cB, .int), (cC, .int), (cD, .int)]) [0, 1, 2, 3] rfl
              have hFc := va_free (wc := [(h, .inr (2, [.ref k, .ref t, .int (nI n), .ref k2, .ref t2])), (k, .inl (cA, 500, .inl K)), (t, .inl (cB, 500, .inl T)), (k2, .inl (cC, 500, .inl NK1)), (t2, .inl (cD, 500, .inl NT1))]) hD hS hA [0, 1, 2, 3, 4] rfl
              refine va_callv (va_runV (As := [.int (nI q), .int (nI lf)]) (rest := []) ⟨hx, hb, hml, hown, hts⟩ (c_X3_move l dC dI H.size h k t k2 t2 cA cB cC cD n K T NK1 NT1 q lf (by omega) (by omega)) (cwV 2 hts gX3_thin_X3_move rfl rfl rfl (by decide +kernel) ⟨Nat.le_of_ble_eq_true rfl, Nat.le_of_ble_eq_true rfl⟩) ⟨fun a U g mk q => by obtain ⟨q0, q1, qP, qK, qD⟩ := q; exact ⟨q0, q1, qP, va_K.moved (u := U) (U := U.calling g mk a) (Vm.Alike.refl U.vm) qK, qD⟩, va_recv hKc hPc (ci := 2) (q0 := 0) rfl rfl, fun U hU hW => ⟨rfl, by rw [hU], by rw [hU]; exact hPc, va_K.moved hW.alike hKc, hDc.weaken (fun _ _ _ _ => trivial)⟩⟩ rfl rfl hl.1 rfl (lv_room (Nat.le_of_ble_eq_true rfl)) dX3_thin_62 ⟨Nat.le_of_ble_eq_true rfl, Nat.le_of_ble_eq_true rfl⟩) hS (fun q _ h => hFc q h) hFc (fun u tS H1 locs ht hvm hw hB hz1 hk1 hS => ?_)
              subst hw
              obtain ⟨hP1, hK1, hD1⟩ := hB
              rw [ht] at hP1
              obtain ⟨hP, hD⟩ := va_join (wr := []) (w1 := [(h, .inr (2, [.ref k, .ref t, .int (nI n), .ref k2, .ref t2])), (k, .inl (cA, 500, .inl K)), (t, .inl (cB, 500, .inl T)), (k2, .inl (cC, 500, .inl (upd NK1 lf (K q)))), (t2, .inl (cD, 500, .inl (upd NT1 lf (T q))))]) hP hD [0, 1, 2, 3, 4] [] rfl rfl (by decide) (by decide) hk1 hFc hP1 hD1
              generalize H1 = H at hP hS ⊢
              have hP : va_P (dC, dI) vwCl [(h, .inr (2, [.ref k, .ref t, .int (nI n), .ref k2, .ref t2])), (k, .inl (cA, 500, .inl K)), (t, .inl (cB, 500, .inl T)), (k2, .inl (cC, 500, .inl (upd NK1 lf (K q)))), (t2, .inl (cD, 500, .inl (upd NT1 lf (T q))))] H := hP
              have hD : va_D A [(h, .inr (2, [.ref k, .ref t, .int (nI n), .ref k2, .ref t2])), (k, .inl (cA, 500, .inl K)), (t, .inl (cB, 500, .inl T)), (k2, .inl (cC, 500, .inl (upd NK1 lf (K q)))), (t2, .inl (cD, 500, .inl (upd NT1 lf (T q))))] := hD
              refine lv_iinc (v := (nI (lf + 1))) (lv' := [(2, .int (nI (lf + 1))), (0, .ref h), (1, .int (nI o1)), (3, .int (nI q))]) hx hb dX3_thin_65 hl (k := 2) rfl (by first | exact nI_add lf 1 | (rw [← nI_add]; rfl)) (by decide) rfl (fun ls hl => ?_)
              refine lv_iinc (v := (nI (q + 1))) (lv' := [(3, .int (nI (q + 1))), (2, .int (nI (lf + 1))), (0, .ref h), (1, .int (nI o1))]) hx hb dX3_thin_68 hl (k := 3) rfl (by first | exact nI_add q 1 | (rw [← nI_add]; rfl)) (by decide) rfl (fun ls hl => ?_)
              refine lv_goto (tgt := 26) hx hb dX3_thin_71 (by decide) ?_
              exact ihf ((lf + 1), (q + 1), (upd NK1 lf (K q)), (upd NT1 lf (T q))) (by show n - (q + 1) < n - q; omega) _ _ _ ⟨by omega, by rw [cn_st (P := kp o1 (mZ K T)) (by omega) (Or.inr (tr_1 hq c56)), ← vf1], flI_y vf2 (by omega) (by rw [← vf1, Nat.zero_add]; exact mZ_put NK1 NT1 lf (K q) (T q)), hP, hD, hS, lv_sub hl [2, 3, 1, 0] rfl⟩
      · exact ⟨Nat.zero_le _, cn_s0, flI_0, hP, hD, hS, lv_sub hl [2, 3, 1, 0] rfl⟩
    · refine lv_iconst (v := (-1)) hx hb dX3_thin_20 (by decide) ?_
      exact W.iret (v := (-1)) hx hb hr (fun tS ht hW => ⟨⟨(-1), (K, T, n, NK, NT), rfl, Or.inr ⟨o1, ⟨rfl, ho⟩, Or.inl ⟨tr_0 hi c17, rfl, sam_rf⟩⟩, by rw [ht]; exact hP, va_K.moved hW.alike hK, hD⟩, hS.F ht⟩) hS.2.2 dX3_thin_21
set_option maxHeartbeats 4000000 in
set_option maxRecDepth 100000 in
theorem c_X3_sorted (l : Launch) (dC : Nat → ClassId) (dI : Nat → Nat → Nat) (sz : Nat) (h k t k2 t2 : Nat) (cA cB cC cD : ClassId) (n : Nat) (K T NK NT : Nat → Int32) (hn : n ≤ 500) (x y o : Int32) : Met l yX3_sorted wsX3_sorted ({ frames := 2, cells := 0, slots := 0, locals := 46 }) (va_Pc [.ref h, .int x, .int y, .int o] (fun U => U.heap.size = sz ∧ va_P (dC, dI) vwCl [(h, .inr (2, [.ref k, .ref t, .int (nI n), .ref k2, .ref t2])), (k, .inl (cA, 500, .inl K)), (t, .inl (cB, 500, .inl T)), (k2, .inl (cC, 500, .inl NK)), (t2, .inl (cD, 500, .inl NT))] U.heap ∧ va_K (dC, dI) vwCl [(cA, .int), (cB, .int), (cC, .int), (cD, .int)] U ∧ va_D (fun _ => True) [(h, .inr (2, [.ref k, .ref t, .int (nI n), .ref k2, .ref t2])), (k, .inl (cA, 500, .inl K)), (t, .inl (cB, 500, .inl T)), (k2, .inl (cC, 500, .inl NK)), (t2, .inl (cD, 500, .inl NT))])) (va_Qi (fun r u => Qsrd n (mZ K T) x y o r ∧ u = (K, T, n, NK, NT)) (atM dC dI (va_A [(h, .inr (2, [.ref k, .ref t, .int (nI n), .ref k2, .ref t2])), (k, .inl (cA, 500, .inl K)), (t, .inl (cB, 500, .inl T)), (k2, .inl (cC, 500, .inl NK)), (t2, .inl (cD, 500, .inl NT))] sz) h k t k2 t2 cA cB cC cD) (va_A [(h, .inr (2, [.ref k, .ref t, .int (nI n), .ref k2, .ref t2])), (k, .inl (cA, 500, .inl K)), (t, .inl (cB, 500, .inl T)), (k2, .inl (cC, 500, .inl NK)), (t2, .inl (cD, 500, .inl NT))] sz)) 0 0 (va_A [(h, .inr (2, [.ref k, .ref t, .int (nI n), .ref k2, .ref t2])), (k, .inl (cA, 500, .inl K)), (t, .inl (cB, 500, .inl T)), (k2, .inl (cC, 500, .inl NK)), (t2, .inl (cD, 500, .inl NT))] sz) := by
  refine Met.ofW (cc := cX3_sorted) (maxL := 4) (ret := (some .int)) (by decide) rfl ?_
  intro p e s m args below meth c s₁ B hml hv
  obtain ⟨rfl, hsz, hP, hK, hD0⟩ := hv
  have hx := B.exec
  have hb := B.bytes
  have hr := B.returns
  have hts := atoms_spec (ws := wsX3_sorted) B.pre
  have hown : s.vm.findClass RX3 = some m.cls := findClass_of_methodNamed B.named
  have hlocks := B.notSynchronized
  subst hsz
  have hD := hD0.self (sz := s.heap.size)
  generalize hAe : va_A [(h, .inr (2, [.ref k, .ref t, .int (nI n), .ref k2, .ref t2])), (k, .inl (cA, 500, .inl K)), (t, .inl (cB, 500, .inl T)), (k2, .inl (cC, 500, .inl NK)), (t2, .inl (cD, 500, .inl NT))] s.heap.size = A at hD ⊢
  have hA : ∀ q : Nat, s.heap.size ≤ q → A q := fun q h => by rw [← hAe]; exact Or.inr h
  have hS : va_S A s.heap s.heap [] := va_S.rf
  have hP : va_P (dC, dI) vwCl [(h, .inr (2, [.ref k, .ref t, .int (nI n), .ref k2, .ref t2])), (k, .inl (cA, 500, .inl K)), (t, .inl (cB, 500, .inl T)), (k2, .inl (cC, 500, .inl NK)), (t2, .inl (cD, 500, .inl NT))] s.heap := hP
  have hl := lv_entry ([.ref h, .int x, .int y, .int o]) (n := 4) (Nat.le_of_ble_eq_true rfl)
  rw [lg_entry_eq]
  generalize (lg_sl ([.ref h, .int x, .int y, .int o]) ++ List.replicate (4 - (lg_sl ([.ref h, .int x, .int y, .int o])).length) Slot.unset).toArray = ls at hl ⊢
  have hl : lv_has ls 4 [(0, .ref h), (1, .int x), (2, .int y), (3, .int o)] := hl
  refine lv_aload_n hx hb dX3_sorted_0 rfl (lv_at hl 0 rfl) ?_
  refine lv_iload_n hx hb dX3_sorted_1 rfl (lv_at hl 1 rfl) ?_
  refine lv_iload_n hx hb dX3_sorted_2 rfl (lv_at hl 2 rfl) ?_
  have hPc := hP.sub (ws' := [(h, .inr (2, [.ref k, .ref t, .int (nI n), .ref k2, .ref t2])), (k, .inl (cA, 500, .inl K)), (t, .inl (cB, 500, .inl T)), (k2, .inl (cC, 500, .inl NK)), (t2, .inl (cD, 500, .inl NT))]) [0, 1, 2, 3, 4] rfl
  have hDc := hD.sub (ws' := [(h, .inr (2, [.ref k, .ref t, .int (nI n), .ref k2, .ref t2])), (k, .inl (cA, 500, .inl K)), (t, .inl (cB, 500, .inl T)), (k2, .inl (cC, 500, .inl NK)), (t2, .inl (cD, 500, .inl NT))]) [0, 1, 2, 3, 4] (by decide) rfl
  have hKc := hK.sub (tys' := [(cA, .int), (cB, .int), (cC, .int), (cD, .int)]) [0, 1, 2, 3] rfl
  have hFc := va_free (wc := [(h, .inr (2, [.ref k, .ref t, .int (nI n), .ref k2, .ref t2])), (k, .inl (cA, 500, .inl K)), (t, .inl (cB, 500, .inl T)), (k2, .inl (cC, 500, .inl NK)), (t2, .inl (cD, 500, .inl NT))]) hD hS hA [0, 1, 2, 3, 4] rfl
  refine va_calli (va_runV (As := [.int x, .int y]) (rest := []) ⟨hx, hb, hml, hown, hts⟩ (c_X3_isStretch l dC dI s.heap.size h k t k2 t2 cA cB cC cD n K T NK NT hn x y) (cwV 2 hts gX3_sorted_X3_isStretch rfl rfl rfl (by decide +kernel) ⟨Nat.le_of_ble_eq_true rfl, Nat.le_of_ble_eq_true rfl⟩) ⟨fun a U g mk q => by obtain ⟨q0, q1, qP, qK, qD⟩ := q; exact ⟨q0, q1, qP, va_K.moved (u := U) (U := U.calling g mk a) (Vm.Alike.refl U.vm) qK, qD⟩, va_recv hKc hPc (ci := 2) (q0 := 0) rfl rfl, fun U hU hW => ⟨rfl, by rw [hU], by rw [hU]; exact hPc, va_K.moved hW.alike hKc, hDc.weaken (fun _ _ _ _ => trivial)⟩⟩ rfl rfl hl.1 rfl (lv_room (Nat.le_of_ble_eq_true rfl)) dX3_sorted_3 ⟨Nat.le_of_ble_eq_true rfl, Nat.le_of_ble_eq_true rfl⟩) hS (fun q _ h => hFc q h) hFc (fun r_1 u tS H1 locs ht hvm hw hB hz1 hk1 hS => ?_)
  obtain ⟨hs, rfl⟩ := hw
  obtain ⟨hP1, hK1, hD1⟩ := hB
  rw [ht] at hP1
  obtain ⟨hP, hD⟩ := va_join (wr := []) (w1 := [(h, .inr (2, [.ref k, .ref t, .int (nI n), .ref k2, .ref t2])), (k, .inl (cA, 500, .inl K)), (t, .inl (cB, 500, .inl T)), (k2, .inl (cC, 500, .inl NK)), (t2, .inl (cD, 500, .inl NT))]) hP hD [0, 1, 2, 3, 4] [] rfl rfl (by decide) (by decide) hk1 hFc hP1 hD1
  generalize H1 = H at hP hS ⊢
  have hP : va_P (dC, dI) vwCl [(h, .inr (2, [.ref k, .ref t, .int (nI n), .ref k2, .ref t2])), (k, .inl (cA, 500, .inl K)), (t, .inl (cB, 500, .inl T)), (k2, .inl (cC, 500, .inl NK)), (t2, .inl (cD, 500, .inl NT))] H := hP
  have hD : va_D A [(h, .inr (2, [.ref k, .ref t, .int (nI n), .ref k2, .ref t2])), (k, .inl (cA, 500, .inl K)), (t, .inl (cB, 500, .inl T)), (k2, .inl (cC, 500, .inl NK)), (t2, .inl (cD, 500, .inl NT))] := hD
  refine lv_if_eq (tgt := 16) hx hb dX3_sorted_6 (by decide) (fun c6 => ?_) (fun c6 => ?_)
  · refine lv_iconst (v := (-1)) hx hb dX3_sorted_16 (by decide) ?_
    exact W.iret (v := (-1)) hx hb hr (fun tS ht hW => ⟨⟨(-1), (K, T, n, NK, NT), rfl, ⟨Or.inl ⟨rfl, fun z hz => tr_0 hs c6 (dS_e hn hz).2⟩, rfl⟩, by rw [ht]; exact hP, va_K.moved hW.alike hK, hD⟩, hS.F ht⟩) hS.2.2 dX3_sorted_17
  · refine lv_iload_n hx hb dX3_sorted_9 rfl (lv_at hl 3 rfl) ?_
    have hPc := hP.sub (ws' := []) [] rfl
    have hDc := hD.sub (ws' := []) [] (by decide) rfl
    have hKc := hK.sub (tys' := []) [] rfl
    have hFc := va_free (wc := []) hD hS hA [] rfl
    refine va_calli (va_runS (As := [.int o]) (rest := []) ⟨hx, hb, hml, hown, hts⟩ (c_X3_isOrder l dC dI H.size o) (va_cwS 1 hts gX3_sorted_X3_isOrder rfl rfl rfl (by decide +kernel) ⟨Nat.le_of_ble_eq_true rfl, Nat.le_of_ble_eq_true rfl⟩) ⟨fun a U g mk q => by obtain ⟨q0, q1, qP, qK, qD⟩ := q; exact ⟨q0, q1, qP, va_K.moved (u := U) (U := U.calling g mk a) (Vm.Alike.refl U.vm) qK, qD⟩, fun U hU hW => ⟨rfl, by rw [hU], by rw [hU]; exact hPc, va_K.moved hW.alike hKc, hDc.weaken (fun _ _ _ _ => trivial)⟩⟩ rfl rfl hl.1 rfl (lv_room (Nat.le_of_ble_eq_true rfl)) dX3_sorted_10 ⟨Nat.le_of_ble_eq_true rfl, Nat.le_of_ble_eq_true rfl⟩) hS (fun q _ h => hFc q h) hFc (fun r_2 u tS H1 locs ht hvm hw hB hz1 hk1 hS => ?_)
    have he := hw
    obtain ⟨hP1, hK1, hD1⟩ := hB
    rw [ht] at hP1
    obtain ⟨hP, hD⟩ := va_join (wr := [(h, .inr (2, [.ref k, .ref t, .int (nI n), .ref k2, .ref t2])), (k, .inl (cA, 500, .inl K)), (t, .inl (cB, 500, .inl T)), (k2, .inl (cC, 500, .inl NK)), (t2, .inl (cD, 500, .inl NT))]) (w1 := []) hP hD [] [0, 1, 2, 3, 4] rfl rfl (by decide) (by decide) hk1 hFc hP1 hD1
    generalize H1 = H at hP hS ⊢
    have hP : va_P (dC, dI) vwCl [(h, .inr (2, [.ref k, .ref t, .int (nI n), .ref k2, .ref t2])), (k, .inl (cA, 500, .inl K)), (t, .inl (cB, 500, .inl T)), (k2, .inl (cC, 500, .inl NK)), (t2, .inl (cD, 500, .inl NT))] H := hP
    have hD : va_D A [(h, .inr (2, [.ref k, .ref t, .int (nI n), .ref k2, .ref t2])), (k, .inl (cA, 500, .inl K)), (t, .inl (cB, 500, .inl T)), (k2, .inl (cC, 500, .inl NK)), (t2, .inl (cD, 500, .inl NT))] := hD
    refine lv_if_ne (tgt := 18) hx hb dX3_sorted_13 (by decide) (fun c13 => ?_) (fun c13 => ?_)
    · obtain ⟨o1, ho, rfl⟩ := exO_of (tr_1 he c13)
      obtain ⟨a, b, rfl, rfl, hab, hbn⟩ := stP_of hn (tr_1 hs c6)
      have hb5 : b ≤ 500 := by omega
      refine lv_aload_n hx hb dX3_sorted_18 rfl (lv_at hl 0 rfl) ?_
      refine lv_iload_n hx hb dX3_sorted_19 rfl (lv_at hl 1 rfl) ?_
      refine lv_iload_n hx hb dX3_sorted_20 rfl (lv_at hl 2 rfl) ?_
      refine lv_iload_n hx hb dX3_sorted_21 rfl (lv_at hl 3 rfl) ?_
      have hPc := hP.sub (ws' := [(h, .inr (2, [.ref k, .ref t, .int (nI n), .ref k2, .ref t2])), (k, .inl (cA, 500, .inl K)), (t, .inl (cB, 500, .inl T)), (k2, .inl (cC, 500, .inl NK)), (t2, .inl (cD, 500, .inl NT))]) [0, 1, 2, 3, 4] rfl
      have hDc := hD.sub (ws' := [(h, .inr (2, [.ref k, .ref t, .int (nI n), .ref k2, .ref t2])), (k, .inl (cA, 500, .inl K)), (t, .inl (cB, 500, .inl T)), (k2, .inl (cC, 500, .inl NK)), (t2, .inl (cD, 500, .inl NT))]) [0, 1, 2, 3, 4] (by decide) rfl
      have hKc := hK.sub (tys' := [(cA, .int), (cB, .int), (cC, .int), (cD, .int)]) [0, 1, 2, 3] rfl
      have hFc := va_free (wc := [(h, .inr (2, [.ref k, .ref t, .int (nI n), .ref k2, .ref t2])), (k, .inl (cA, 500, .inl K)), (t, .inl (cB, 500, .inl T)), (k2, .inl (cC, 500, .inl NK)), (t2, .inl (cD, 500, .inl NT))]) hD hS hA [0, 1, 2, 3, 4] rfl
      refine va_calli (va_runV (As := [.int (nI a), .int (nI b), .int (nI o1)]) (rest := []) ⟨hx, hb, hml, hown, hts⟩ (c_X3_isSorted l dC dI H.size h k t k2 t2 cA cB cC cD n K T NK NT a b o1 hab hb5 ho) (cwV 3 hts gX3_sorted_X3_isSorted rfl rfl rfl (by decide +kernel) ⟨Nat.le_of_ble_eq_true rfl, Nat.le_of_ble_eq_true rfl⟩) ⟨fun a U g mk q => by obtain ⟨q0, q1, qP, qK, qD⟩ := q; exact ⟨q0, q1, qP, va_K.moved (u := U) (U := U.calling g mk a) (Vm.Alike.refl U.vm) qK, qD⟩, va_recv hKc hPc (ci := 2) (q0 := 0) rfl rfl, fun U hU hW => ⟨rfl, by rw [hU], by rw [hU]; exact hPc, va_K.moved hW.alike hKc, hDc.weaken (fun _ _ _ _ => trivial)⟩⟩ rfl rfl hl.1 rfl (lv_room (Nat.le_of_ble_eq_true rfl)) dX3_sorted_22 ⟨Nat.le_of_ble_eq_true rfl, Nat.le_of_ble_eq_true rfl⟩) hS (fun q _ h => hFc q h) hFc (fun r_3 u tS H1 locs ht hvm hw hB hz1 hk1 hS => ?_)
      obtain ⟨hi, rfl⟩ := hw
      obtain ⟨hP1, hK1, hD1⟩ := hB
      rw [ht] at hP1
      obtain ⟨hP, hD⟩ := va_join (wr := []) (w1 := [(h, .inr (2, [.ref k, .ref t, .int (nI n), .ref k2, .ref t2])), (k, .inl (cA, 500, .inl K)), (t, .inl (cB, 500, .inl T)), (k2, .inl (cC, 500, .inl NK)), (t2, .inl (cD, 500, .inl NT))]) hP hD [0, 1, 2, 3, 4] [] rfl rfl (by decide) (by decide) hk1 hFc hP1 hD1
      generalize H1 = H at hP hS ⊢
      have hP : va_P (dC, dI) vwCl [(h, .inr (2, [.ref k, .ref t, .int (nI n), .ref k2, .ref t2])), (k, .inl (cA, 500, .inl K)), (t, .inl (cB, 500, .inl T)), (k2, .inl (cC, 500, .inl NK)), (t2, .inl (cD, 500, .inl NT))] H := hP
      have hD : va_D A [(h, .inr (2, [.ref k, .ref t, .int (nI n), .ref k2, .ref t2])), (k, .inl (cA, 500, .inl K)), (t, .inl (cB, 500, .inl T)), (k2, .inl (cC, 500, .inl NK)), (t2, .inl (cD, 500, .inl NT))] := hD
      refine lv_if_eq (tgt := 32) hx hb dX3_sorted_25 (by decide) (fun c25 => ?_) (fun c25 => ?_)
      · refine lv_iconst (v := (nI 0)) hx hb dX3_sorted_32 (by decide) ?_
        exact W.iret (v := (nI 0)) hx hb hr (fun tS ht hW => ⟨⟨(nI 0), (K, T, n, NK, NT), rfl, ⟨Or.inr ⟨(a, b, o1), ⟨rfl, rfl, rfl, hab, hbn, ho⟩, tr_f (tr_0 hi c25)⟩, rfl⟩, by rw [ht]; exact hP, va_K.moved hW.alike hK, hD⟩, hS.F ht⟩) hS.2.2 dX3_sorted_33
      · refine lv_iconst (v := (nI 1)) hx hb dX3_sorted_28 (by decide) ?_
        refine lv_goto (tgt := 33) hx hb dX3_sorted_29 (by decide) ?_
        exact W.iret (v := (nI 1)) hx hb hr (fun tS ht hW => ⟨⟨(nI 1), (K, T, n, NK, NT), rfl, ⟨Or.inr ⟨(a, b, o1), ⟨rfl, rfl, rfl, hab, hbn, ho⟩, tr_t (tr_1 hi c25)⟩, rfl⟩, by rw [ht]; exact hP, va_K.moved hW.alike hK, hD⟩, hS.F ht⟩) hS.2.2 dX3_sorted_33
    · refine lv_iconst (v := (-1)) hx hb dX3_sorted_16 (by decide) ?_
      exact W.iret (v := (-1)) hx hb hr (fun tS ht hW => ⟨⟨(-1), (K, T, n, NK, NT), rfl, ⟨Or.inl ⟨rfl, fun z hz => tr_0 he c13 (dS_e hn hz).1⟩, rfl⟩, by rw [ht]; exact hP, va_K.moved hW.alike hK, hD⟩, hS.F ht⟩) hS.2.2 dX3_sorted_17
set_option maxHeartbeats 4000000 in
set_option maxRecDepth 100000 in
theorem c_X3_find (l : Launch) (dC : Nat → ClassId) (dI : Nat → Nat → Nat) (sz : Nat) (h k t k2 t2 : Nat) (cA cB cC cD : ClassId) (n : Nat) (K T NK NT : Nat → Int32) (hn : n ≤ 500) (x o w : Int32) : Met l yX3_find wsX3_find ({ frames := 2, cells := 0, slots := 0, locals := 46 }) (va_Pc [.ref h, .int x, .int o, .int w] (fun U => U.heap.size = sz ∧ va_P (dC, dI) vwCl [(h, .inr (2, [.ref k, .ref t, .int (nI n), .ref k2, .ref t2])), (k, .inl (cA, 500, .inl K)), (t, .inl (cB, 500, .inl T)), (k2, .inl (cC, 500, .inl NK)), (t2, .inl (cD, 500, .inl NT))] U.heap ∧ va_K (dC, dI) vwCl [(cA, .int), (cB, .int), (cC, .int), (cD, .int)] U ∧ va_D (fun _ => True) [(h, .inr (2, [.ref k, .ref t, .int (nI n), .ref k2, .ref t2])), (k, .inl (cA, 500, .inl K)), (t, .inl (cB, 500, .inl T)), (k2, .inl (cC, 500, .inl NK)), (t2, .inl (cD, 500, .inl NT))])) (va_Qi (fun r u => Qfin n (mZ K T) x o w r ∧ u = (K, T, n, NK, NT)) (atM dC dI (va_A [(h, .inr (2, [.ref k, .ref t, .int (nI n), .ref k2, .ref t2])), (k, .inl (cA, 500, .inl K)), (t, .inl (cB, 500, .inl T)), (k2, .inl (cC, 500, .inl NK)), (t2, .inl (cD, 500, .inl NT))] sz) h k t k2 t2 cA cB cC cD) (va_A [(h, .inr (2, [.ref k, .ref t, .int (nI n), .ref k2, .ref t2])), (k, .inl (cA, 500, .inl K)), (t, .inl (cB, 500, .inl T)), (k2, .inl (cC, 500, .inl NK)), (t2, .inl (cD, 500, .inl NT))] sz)) 0 0 (va_A [(h, .inr (2, [.ref k, .ref t, .int (nI n), .ref k2, .ref t2])), (k, .inl (cA, 500, .inl K)), (t, .inl (cB, 500, .inl T)), (k2, .inl (cC, 500, .inl NK)), (t2, .inl (cD, 500, .inl NT))] sz) := by
  refine Met.ofW (cc := cX3_find) (maxL := 7) (ret := (some .int)) (by decide) rfl ?_
  intro p e s m args below meth c s₁ B hml hv
  obtain ⟨rfl, hsz, hP, hK, hD0⟩ := hv
  have hx := B.exec
  have hb := B.bytes
  have hr := B.returns
  have hts := atoms_spec (ws := wsX3_find) B.pre
  have hown : s.vm.findClass RX3 = some m.cls := findClass_of_methodNamed B.named
  have hlocks := B.notSynchronized
  subst hsz
  have hD := hD0.self (sz := s.heap.size)
  generalize hAe : va_A [(h, .inr (2, [.ref k, .ref t, .int (nI n), .ref k2, .ref t2])), (k, .inl (cA, 500, .inl K)), (t, .inl (cB, 500, .inl T)), (k2, .inl (cC, 500, .inl NK)), (t2, .inl (cD, 500, .inl NT))] s.heap.size = A at hD ⊢
  have hA : ∀ q : Nat, s.heap.size ≤ q → A q := fun q h => by rw [← hAe]; exact Or.inr h
  have hS : va_S A s.heap s.heap [] := va_S.rf
  have hP : va_P (dC, dI) vwCl [(h, .inr (2, [.ref k, .ref t, .int (nI n), .ref k2, .ref t2])), (k, .inl (cA, 500, .inl K)), (t, .inl (cB, 500, .inl T)), (k2, .inl (cC, 500, .inl NK)), (t2, .inl (cD, 500, .inl NT))] s.heap := hP
  have hl := lv_entry ([.ref h, .int x, .int o, .int w]) (n := 7) (Nat.le_of_ble_eq_true rfl)
  rw [lg_entry_eq]
  generalize (lg_sl ([.ref h, .int x, .int o, .int w]) ++ List.replicate (7 - (lg_sl ([.ref h, .int x, .int o, .int w])).length) Slot.unset).toArray = ls at hl ⊢
  have hl : lv_has ls 7 [(0, .ref h), (1, .int x), (2, .int o), (3, .int w)] := hl
  refine lv_iload_n hx hb dX3_find_0 rfl (lv_at hl 2 rfl) ?_
  have hPc := hP.sub (ws' := []) [] rfl
  have hDc := hD.sub (ws' := []) [] (by decide) rfl
  have hKc := hK.sub (tys' := []) [] rfl
  have hFc := va_free (wc := []) hD hS hA [] rfl
  refine va_calli (va_runS (As := [.int o]) (rest := []) ⟨hx, hb, hml, hown, hts⟩ (c_X3_isOrder l dC dI s.heap.size o) (va_cwS 1 hts gX3_find_X3_isOrder rfl rfl rfl (by decide +kernel) ⟨Nat.le_of_ble_eq_true rfl, Nat.le_of_ble_eq_true rfl⟩) ⟨fun a U g mk q => by obtain ⟨q0, q1, qP, qK, qD⟩ := q; exact ⟨q0, q1, qP, va_K.moved (u := U) (U := U.calling g mk a) (Vm.Alike.refl U.vm) qK, qD⟩, fun U hU hW => ⟨rfl, by rw [hU], by rw [hU]; exact hPc, va_K.moved hW.alike hKc, hDc.weaken (fun _ _ _ _ => trivial)⟩⟩ rfl rfl hl.1 rfl (lv_room (Nat.le_of_ble_eq_true rfl)) dX3_find_1 ⟨Nat.le_of_ble_eq_true rfl, Nat.le_of_ble_eq_true rfl⟩) hS (fun q _ h => hFc q h) hFc (fun r_1 u tS H1 locs ht hvm hw hB hz1 hk1 hS => ?_)
  have he := hw
  obtain ⟨hP1, hK1, hD1⟩ := hB
  rw [ht] at hP1
  obtain ⟨hP, hD⟩ := va_join (wr := [(h, .inr (2, [.ref k, .ref t, .int (nI n), .ref k2, .ref t2])), (k, .inl (cA, 500, .inl K)), (t, .inl (cB, 500, .inl T)), (k2, .inl (cC, 500, .inl NK)), (t2, .inl (cD, 500, .inl NT))]) (w1 := []) hP hD [] [0, 1, 2, 3, 4] rfl rfl (by decide) (by decide) hk1 hFc hP1 hD1
  generalize H1 = H at hP hS ⊢
  have hP : va_P (dC, dI) vwCl [(h, .inr (2, [.ref k, .ref t, .int (nI n), .ref k2, .ref t2])), (k, .inl (cA, 500, .inl K)), (t, .inl (cB, 500, .inl T)), (k2, .inl (cC, 500, .inl NK)), (t2, .inl (cD, 500, .inl NT))] H := hP
  have hD : va_D A [(h, .inr (2, [.ref k, .ref t, .int (nI n), .ref k2, .ref t2])), (k, .inl (cA, 500, .inl K)), (t, .inl (cB, 500, .inl T)), (k2, .inl (cC, 500, .inl NK)), (t2, .inl (cD, 500, .inl NT))] := hD
  refine lv_if_eq (tgt := 29) hx hb dX3_find_4 (by decide) (fun c4 => ?_) (fun c4 => ?_)
  · refine lv_iconst (v := (-1)) hx hb dX3_find_29 (by decide) ?_
    exact W.iret (v := (-1)) hx hb hr (fun tS ht hW => ⟨⟨(-1), (K, T, n, NK, NT), rfl, ⟨Or.inl ⟨rfl, fun z hz => tr_0 he c4 (dF_e2 hz).1⟩, rfl⟩, by rw [ht]; exact hP, va_K.moved hW.alike hK, hD⟩, hS.F ht⟩) hS.2.2 dX3_find_30
  · refine lv_iload_n hx hb dX3_find_7 rfl (lv_at hl 3 rfl) ?_
    refine lv_if_lt (tgt := 29) hx hb dX3_find_8 (by decide) (fun c8 => ?_) (fun c8 => ?_)
    · refine lv_iconst (v := (-1)) hx hb dX3_find_29 (by decide) ?_
      exact W.iret (v := (-1)) hx hb hr (fun tS ht hW => ⟨⟨(-1), (K, T, n, NK, NT), rfl, ⟨Or.inl ⟨rfl, fun z hz => (dF_e2 hz).2.1 c8⟩, rfl⟩, by rw [ht]; exact hP, va_K.moved hW.alike hK, hD⟩, hS.F ht⟩) hS.2.2 dX3_find_30
    · refine lv_iload_n hx hb dX3_find_11 rfl (lv_at hl 3 rfl) ?_
      refine lv_iconst (v := (nI 1)) hx hb dX3_find_12 (by decide) ?_
      refine lv_icmp_gt (tgt := 29) hx hb dX3_find_13 (by decide) (fun c13 => ?_) (fun c13 => ?_)
      · refine lv_iconst (v := (-1)) hx hb dX3_find_29 (by decide) ?_
        exact W.iret (v := (-1)) hx hb hr (fun tS ht hW => ⟨⟨(-1), (K, T, n, NK, NT), rfl, ⟨Or.inl ⟨rfl, fun z hz => (dF_e2 hz).2.2 c13⟩, rfl⟩, by rw [ht]; exact hP, va_K.moved hW.alike hK, hD⟩, hS.F ht⟩) hS.2.2 dX3_find_30
      · obtain ⟨o1, ho, rfl⟩ := exO_of (tr_1 he c4)
        obtain ⟨w1, rfl, hw1⟩ := w01 c8 c13
        refine lv_aload_n hx hb dX3_find_16 rfl (lv_at hl 0 rfl) ?_
        refine lv_iconst (v := (nI 0)) hx hb dX3_find_17 (by decide) ?_
        refine lv_aload_n hx hb dX3_find_18 rfl (lv_at hl 0 rfl) ?_
        refine va_get (D := (dC, dI)) (ci := 2) (v := .int (nI n)) (C := RX3) (T := TX3) (N := 5) hx hb hts (by decide +kernel) hown hK hP 0 rfl rfl 2 (by decide) (hts (.fieldLink RX3 22 "RowPressModel" "many" "I") (by decide +kernel)) (fun _ h9 => h9) rfl dX3_find_19 ?_
        refine lv_iload_n hx hb dX3_find_22 rfl (lv_at hl 2 rfl) ?_
        have hPc := hP.sub (ws' := [(h, .inr (2, [.ref k, .ref t, .int (nI n), .ref k2, .ref t2])), (k, .inl (cA, 500, .inl K)), (t, .inl (cB, 500, .inl T)), (k2, .inl (cC, 500, .inl NK)), (t2, .inl (cD, 500, .inl NT))]) [0, 1, 2, 3, 4] rfl
        have hDc := hD.sub (ws' := [(h, .inr (2, [.ref k, .ref t, .int (nI n), .ref k2, .ref t2])), (k, .inl (cA, 500, .inl K)), (t, .inl (cB, 500, .inl T)), (k2, .inl (cC, 500, .inl NK)), (t2, .inl (cD, 500, .inl NT))]) [0, 1, 2, 3, 4] (by decide) rfl
        have hKc := hK.sub (tys' := [(cA, .int), (cB, .int), (cC, .int), (cD, .int)]) [0, 1, 2, 3] rfl
        have hFc := va_free (wc := [(h, .inr (2, [.ref k, .ref t, .int (nI n), .ref k2, .ref t2])), (k, .inl (cA, 500, .inl K)), (t, .inl (cB, 500, .inl T)), (k2, .inl (cC, 500, .inl NK)), (t2, .inl (cD, 500, .inl NT))]) hD hS hA [0, 1, 2, 3, 4] rfl
        refine va_calli (va_runV (As := [.int (nI 0), .int (nI n), .int (nI o1)]) (rest := []) ⟨hx, hb, hml, hown, hts⟩ (c_X3_isSorted l dC dI H.size h k t k2 t2 cA cB cC cD n K T NK NT 0 n o1 (Nat.zero_le _) hn ho) (cwV 3 hts gX3_find_X3_isSorted rfl rfl rfl (by decide +kernel) ⟨Nat.le_of_ble_eq_true rfl, Nat.le_of_ble_eq_true rfl⟩) ⟨fun a U g mk q => by obtain ⟨q0, q1, qP, qK, qD⟩ := q; exact ⟨q0, q1, qP, va_K.moved (u := U) (U := U.calling g mk a) (Vm.Alike.refl U.vm) qK, qD⟩, va_recv hKc hPc (ci := 2) (q0 := 0) rfl rfl, fun U hU hW => ⟨rfl, by rw [hU], by rw [hU]; exact hPc, va_K.moved hW.alike hKc, hDc.weaken (fun _ _ _ _ => trivial)⟩⟩ rfl rfl hl.1 rfl (lv_room (Nat.le_of_ble_eq_true rfl)) dX3_find_23 ⟨Nat.le_of_ble_eq_true rfl, Nat.le_of_ble_eq_true rfl⟩) hS (fun q _ h => hFc q h) hFc (fun r_2 u tS H1 locs ht hvm hw hB hz1 hk1 hS => ?_)
        obtain ⟨hi, rfl⟩ := hw
        obtain ⟨hP1, hK1, hD1⟩ := hB
        rw [ht] at hP1
        obtain ⟨hP, hD⟩ := va_join (wr := []) (w1 := [(h, .inr (2, [.ref k, .ref t, .int (nI n), .ref k2, .ref t2])), (k, .inl (cA, 500, .inl K)), (t, .inl (cB, 500, .inl T)), (k2, .inl (cC, 500, .inl NK)), (t2, .inl (cD, 500, .inl NT))]) hP hD [0, 1, 2, 3, 4] [] rfl rfl (by decide) (by decide) hk1 hFc hP1 hD1
        generalize H1 = H at hP hS ⊢
        have hP : va_P (dC, dI) vwCl [(h, .inr (2, [.ref k, .ref t, .int (nI n), .ref k2, .ref t2])), (k, .inl (cA, 500, .inl K)), (t, .inl (cB, 500, .inl T)), (k2, .inl (cC, 500, .inl NK)), (t2, .inl (cD, 500, .inl NT))] H := hP
        have hD : va_D A [(h, .inr (2, [.ref k, .ref t, .int (nI n), .ref k2, .ref t2])), (k, .inl (cA, 500, .inl K)), (t, .inl (cB, 500, .inl T)), (k2, .inl (cC, 500, .inl NK)), (t2, .inl (cD, 500, .inl NT))] := hD
        refine lv_if_ne (tgt := 31) hx hb dX3_find_26 (by decide) (fun c26 => ?_) (fun c26 => ?_)
        · refine lv_iconst (v := (nI 0)) hx hb dX3_find_31 (by decide) ?_
          refine lv_istore (lv' := [(4, .int (nI 0)), (0, .ref h), (1, .int x), (2, .int (nI o1)), (3, .int (nI w1))]) hx hb dX3_find_32 hl (by decide) rfl (fun ls hl => ?_)
          refine lv_iconst (v := (nI 0)) hx hb dX3_find_34 (by decide) ?_
          refine lv_istore (lv' := [(5, .int (nI 0)), (4, .int (nI 0)), (0, .ref h), (1, .int x), (2, .int (nI o1)), (3, .int (nI w1))]) hx hb dX3_find_35 hl (by decide) rfl (fun ls hl => ?_)
          refine lz_loop (σ := Nat × Nat) (μ := fun X_ => match X_ with | (x4, q) => n - q) (Inv := fun X_ H locs ls => match X_ with | (x4, q) => (q ≤ n) ∧ (x4 = cn (fnP o1 x w1 (mZ K T)) 0 (q - 0)) ∧ va_P (dC, dI) vwCl [(h, .inr (2, [.ref k, .ref t, .int (nI n), .ref k2, .ref t2])), (k, .inl (cA, 500, .inl K)), (t, .inl (cB, 500, .inl T)), (k2, .inl (cC, 500, .inl NK)), (t2, .inl (cD, 500, .inl NT))] H ∧ va_D A [(h, .inr (2, [.ref k, .ref t, .int (nI n), .ref k2, .ref t2])), (k, .inl (cA, 500, .inl K)), (t, .inl (cB, 500, .inl T)), (k2, .inl (cC, 500, .inl NK)), (t2, .inl (cD, 500, .inl NT))] ∧ va_S A s.heap H locs ∧ lv_has ls 7 [(0, .ref h), (1, .int x), (2, .int (nI o1)), (3, .int (nI w1)), (4, .int (nI x4)), (5, .int (nI q))]) ?_ (0, 0) _ _ _ ?_
          · rintro ⟨x4, q⟩ ihf H locs ls ⟨vf0, vf1, hP, hD, hS, hl⟩
            refine lv_iload hx hb dX3_find_37 (lv_at hl 5 rfl) ?_
            refine lv_aload_n hx hb dX3_find_39 rfl (lv_at hl 0 rfl) ?_
            refine va_get (D := (dC, dI)) (ci := 2) (v := .int (nI n)) (C := RX3) (T := TX3) (N := 5) hx hb hts (by decide +kernel) hown hK hP 0 rfl rfl 2 (by decide) (hts (.fieldLink RX3 22 "RowPressModel" "many" "I") (by decide +kernel)) (fun _ h9 => h9) rfl dX3_find_40 ?_
            refine lz_icmp_ge (tgt := 109) (by omega) (by omega) hx hb dX3_find_43 (by decide) (fun c43 => ?_) (fun c43 => ?_)
            · refine lv_iload hx hb dX3_find_109 (lv_at hl 4 rfl) ?_
              exact W.iret (v := (nI x4)) hx hb hr (fun tS ht hW => ⟨⟨(nI x4), (K, T, n, NK, NT), rfl, ⟨Or.inr ⟨(o1, w1), ⟨rfl, rfl, ho, hw1⟩, Or.inr ⟨tr_1 hi c26, fun z => by rw [vf1, show q = n by omega]; exact congrArg nI (fn_0 z), fun z => by rw [vf1, show q = n by omega]; exact congrArg nI (fn_1 z)⟩⟩, rfl⟩, by rw [ht]; exact hP, va_K.moved hW.alike hK, hD⟩, hS.F ht⟩) hS.2.2 dX3_find_111
            · refine lv_iload_n hx hb dX3_find_46 rfl (lv_at hl 3 rfl) ?_
              refine lz_if_ne (tgt := 65) (by omega) hx hb dX3_find_47 (by decide) (fun c47 => ?_) (fun c47 => ?_)
              · refine lv_iload_n hx hb dX3_find_65 rfl (lv_at hl 1 rfl) ?_
                refine lv_aload_n hx hb dX3_find_66 rfl (lv_at hl 0 rfl) ?_
                refine va_get (D := (dC, dI)) (ci := 2) (v := .ref k) (C := RX3) (T := TX3) (N := 5) hx hb hts (by decide +kernel) hown hK hP 0 rfl rfl 0 (by decide) (hts (.fieldLink RX3 7 "RowPressModel" "keys" "[I") (by decide +kernel)) (fun _ h9 => h9) rfl dX3_find_67 ?_
                refine lv_iload hx hb dX3_find_70 (lv_at hl 5 rfl) ?_
                refine lz_iald hx hb hK hP 1 0 rfl rfl (j := q) (by omega) (by decide) dX3_find_72 ?_
                refine lv_iload_n hx hb dX3_find_73 rfl (lv_at hl 2 rfl) ?_
                have hPc := hP.sub (ws' := []) [] rfl
                have hDc := hD.sub (ws' := []) [] (by decide) rfl
                have hKc := hK.sub (tys' := []) [] rfl
                have hFc := va_free (wc := []) hD hS hA [] rfl
                refine va_calli (va_runS (As := [.int x, .int (K q), .int (nI o1)]) (rest := []) ⟨hx, hb, hml, hown, hts⟩ (c_X3_isLess l dC dI H.size x (K q) o1 ho) (va_cwS 3 hts gX3_find_X3_isLess rfl rfl rfl (by decide +kernel) ⟨Nat.le_of_ble_eq_true rfl, Nat.le_of_ble_eq_true rfl⟩) ⟨fun a U g mk q => by obtain ⟨q0, q1, qP, qK, qD⟩ := q; exact ⟨q0, q1, qP, va_K.moved (u := U) (U := U.calling g mk a) (Vm.Alike.refl U.vm) qK, qD⟩, fun U hU hW => ⟨rfl, by rw [hU], by rw [hU]; exact hPc, va_K.moved hW.alike hKc, hDc.weaken (fun _ _ _ _ => trivial)⟩⟩ rfl rfl hl.1 rfl (lv_room (Nat.le_of_ble_eq_true rfl)) dX3_find_74 ⟨Nat.le_of_ble_eq_true rfl, Nat.le_of_ble_eq_true rfl⟩) hS (fun q _ h => hFc q h) hFc (fun r_3 u tS H1 locs ht hvm hw hB hz1 hk1 hS => ?_)
                have hq2 := hw
                obtain ⟨hP1, hK1, hD1⟩ := hB
                rw [ht] at hP1
                obtain ⟨hP, hD⟩ := va_join (wr := [(h, .inr (2, [.ref k, .ref t, .int (nI n), .ref k2, .ref t2])), (k, .inl (cA, 500, .inl K)), (t, .inl (cB, 500, .inl T)), (k2, .inl (cC, 500, .inl NK)), (t2, .inl (cD, 500, .inl NT))]) (w1 := []) hP hD [] [0, 1, 2, 3, 4] rfl rfl (by decide) (by decide) hk1 hFc hP1 hD1
                generalize H1 = H at hP hS ⊢
                have hP : va_P (dC, dI) vwCl [(h, .inr (2, [.ref k, .ref t, .int (nI n), .ref k2, .ref t2])), (k, .inl (cA, 500, .inl K)), (t, .inl (cB, 500, .inl T)), (k2, .inl (cC, 500, .inl NK)), (t2, .inl (cD, 500, .inl NT))] H := hP
                have hD : va_D A [(h, .inr (2, [.ref k, .ref t, .int (nI n), .ref k2, .ref t2])), (k, .inl (cA, 500, .inl K)), (t, .inl (cB, 500, .inl T)), (k2, .inl (cC, 500, .inl NK)), (t2, .inl (cD, 500, .inl NT))] := hD
                refine lv_if_ne (tgt := 84) hx hb dX3_find_77 (by decide) (fun c77 => ?_) (fun c77 => ?_)
                · refine lv_iconst (v := (nI 0)) hx hb dX3_find_84 (by decide) ?_
                  refine lv_istore (lv' := [(6, .int (nI 0)), (0, .ref h), (1, .int x), (2, .int (nI o1)), (3, .int (nI w1)), (4, .int (nI x4)), (5, .int (nI q))]) hx hb dX3_find_85 hl (by decide) rfl (fun ls hl => ?_)
                  refine lv_iload hx hb dX3_find_87 (lv_at hl 0 rfl) ?_
                  refine lz_if_eq (tgt := 99) (by omega) hx hb dX3_find_89 (by decide) (fun c89 => ?_) (fun c89 => ?_)
                  · refine lv_iload hx hb dX3_find_99 (lv_at hl 5 rfl) ?_
                    refine lv_istore (lv' := [(4, .int (nI x4)), (6, .int (nI 0)), (0, .ref h), (1, .int x), (2, .int (nI o1)), (3, .int (nI w1)), (5, .int (nI q))]) hx hb dX3_find_101 hl (by decide) rfl (fun ls hl => ?_)
                    refine lv_iinc (v := (nI (q + 1))) (lv' := [(5, .int (nI (q + 1))), (4, .int (nI x4)), (6, .int (nI 0)), (0, .ref h), (1, .int x), (2, .int (nI o1)), (3, .int (nI w1))]) hx hb dX3_find_103 hl (k := 6) rfl (by first | exact nI_add q 1 | (rw [← nI_add]; rfl)) (by decide) rfl (fun ls hl => ?_)
                    refine lv_goto (tgt := 37) hx hb dX3_find_106 (by decide) ?_
                    exact ihf (x4, (q + 1)) (by show n - (q + 1) < n - q; omega) _ _ _ ⟨by omega, by rw [cn_sf (P := fnP o1 x w1 (mZ K T)) (by omega) (fun z => z.2 c47 (tr_1 hq2 c77))]; exact vf1, hP, hD, hS, lv_sub hl [3, 4, 5, 6, 1, 0] rfl⟩
                  · exact absurd rfl c89
                · refine lv_iconst (v := (nI 1)) hx hb dX3_find_80 (by decide) ?_
                  refine lv_goto (tgt := 85) hx hb dX3_find_81 (by decide) ?_
                  refine lv_istore (lv' := [(6, .int (nI 1)), (0, .ref h), (1, .int x), (2, .int (nI o1)), (3, .int (nI w1)), (4, .int (nI x4)), (5, .int (nI q))]) hx hb dX3_find_85 hl (by decide) rfl (fun ls hl => ?_)
                  refine lv_iload hx hb dX3_find_87 (lv_at hl 0 rfl) ?_
                  refine lz_if_eq (tgt := 99) (by omega) hx hb dX3_find_89 (by decide) (fun c89 => ?_) (fun c89 => ?_)
                  · exact absurd c89 (by decide)
                  · refine lv_iload hx hb dX3_find_92 (lv_at hl 5 rfl) ?_
                    refine lv_iconst (v := (nI 1)) hx hb dX3_find_94 (by decide) ?_
                    refine lv_iadd hx hb dX3_find_95 ?_
                    refine lz_top (y := (nI (x4 + 1))) (nI_add _ _) ?_
                    refine lv_goto (tgt := 101) hx hb dX3_find_96 (by decide) ?_
                    refine lv_istore (lv' := [(4, .int (nI (x4 + 1))), (6, .int (nI 1)), (0, .ref h), (1, .int x), (2, .int (nI o1)), (3, .int (nI w1)), (5, .int (nI q))]) hx hb dX3_find_101 hl (by decide) rfl (fun ls hl => ?_)
                    refine lv_iinc (v := (nI (q + 1))) (lv' := [(5, .int (nI (q + 1))), (4, .int (nI (x4 + 1))), (6, .int (nI 1)), (0, .ref h), (1, .int x), (2, .int (nI o1)), (3, .int (nI w1))]) hx hb dX3_find_103 hl (k := 6) rfl (by first | exact nI_add q 1 | (rw [← nI_add]; rfl)) (by decide) rfl (fun ls hl => ?_)
                    refine lv_goto (tgt := 37) hx hb dX3_find_106 (by decide) ?_
                    exact ihf ((x4 + 1), (q + 1)) (by show n - (q + 1) < n - q; omega) _ _ _ ⟨by omega, by rw [cn_st (P := fnP o1 x w1 (mZ K T)) (by omega) ⟨fun z => absurd z c47, fun _ => tr_0 hq2 c77⟩, ← vf1], hP, hD, hS, lv_sub hl [3, 4, 5, 6, 1, 0] rfl⟩
              · refine lv_aload_n hx hb dX3_find_50 rfl (lv_at hl 0 rfl) ?_
                refine va_get (D := (dC, dI)) (ci := 2) (v := .ref k) (C := RX3) (T := TX3) (N := 5) hx hb hts (by decide +kernel) hown hK hP 0 rfl rfl 0 (by decide) (hts (.fieldLink RX3 7 "RowPressModel" "keys" "[I") (by decide +kernel)) (fun _ h9 => h9) rfl dX3_find_51 ?_
                refine lv_iload hx hb dX3_find_54 (lv_at hl 5 rfl) ?_
                refine lz_iald hx hb hK hP 1 0 rfl rfl (j := q) (by omega) (by decide) dX3_find_56 ?_
                refine lv_iload_n hx hb dX3_find_57 rfl (lv_at hl 1 rfl) ?_
                refine lv_iload_n hx hb dX3_find_58 rfl (lv_at hl 2 rfl) ?_
                have hPc := hP.sub (ws' := []) [] rfl
                have hDc := hD.sub (ws' := []) [] (by decide) rfl
                have hKc := hK.sub (tys' := []) [] rfl
                have hFc := va_free (wc := []) hD hS hA [] rfl
                refine va_calli (va_runS (As := [.int (K q), .int x, .int (nI o1)]) (rest := []) ⟨hx, hb, hml, hown, hts⟩ (c_X3_isLess l dC dI H.size (K q) x o1 ho) (va_cwS 3 hts gX3_find_X3_isLess rfl rfl rfl (by decide +kernel) ⟨Nat.le_of_ble_eq_true rfl, Nat.le_of_ble_eq_true rfl⟩) ⟨fun a U g mk q => by obtain ⟨q0, q1, qP, qK, qD⟩ := q; exact ⟨q0, q1, qP, va_K.moved (u := U) (U := U.calling g mk a) (Vm.Alike.refl U.vm) qK, qD⟩, fun U hU hW => ⟨rfl, by rw [hU], by rw [hU]; exact hPc, va_K.moved hW.alike hKc, hDc.weaken (fun _ _ _ _ => trivial)⟩⟩ rfl rfl hl.1 rfl (lv_room (Nat.le_of_ble_eq_true rfl)) dX3_find_59 ⟨Nat.le_of_ble_eq_true rfl, Nat.le_of_ble_eq_true rfl⟩) hS (fun q _ h => hFc q h) hFc (fun r_4 u tS H1 locs ht hvm hw hB hz1 hk1 hS => ?_)
                have hq1 := hw
                obtain ⟨hP1, hK1, hD1⟩ := hB
                rw [ht] at hP1
                obtain ⟨hP, hD⟩ := va_join (wr := [(h, .inr (2, [.ref k, .ref t, .int (nI n), .ref k2, .ref t2])), (k, .inl (cA, 500, .inl K)), (t, .inl (cB, 500, .inl T)), (k2, .inl (cC, 500, .inl NK)), (t2, .inl (cD, 500, .inl NT))]) (w1 := []) hP hD [] [0, 1, 2, 3, 4] rfl rfl (by decide) (by decide) hk1 hFc hP1 hD1
                generalize H1 = H at hP hS ⊢
                have hP : va_P (dC, dI) vwCl [(h, .inr (2, [.ref k, .ref t, .int (nI n), .ref k2, .ref t2])), (k, .inl (cA, 500, .inl K)), (t, .inl (cB, 500, .inl T)), (k2, .inl (cC, 500, .inl NK)), (t2, .inl (cD, 500, .inl NT))] H := hP
                have hD : va_D A [(h, .inr (2, [.ref k, .ref t, .int (nI n), .ref k2, .ref t2])), (k, .inl (cA, 500, .inl K)), (t, .inl (cB, 500, .inl T)), (k2, .inl (cC, 500, .inl NK)), (t2, .inl (cD, 500, .inl NT))] := hD
                refine lv_goto (tgt := 85) hx hb dX3_find_62 (by decide) ?_
                refine lv_istore (lv' := [(6, .int r_4), (0, .ref h), (1, .int x), (2, .int (nI o1)), (3, .int (nI w1)), (4, .int (nI x4)), (5, .int (nI q))]) hx hb dX3_find_85 hl (by decide) rfl (fun ls hl => ?_)
                refine lv_iload hx hb dX3_find_87 (lv_at hl 0 rfl) ?_
                refine lv_if_eq (tgt := 99) hx hb dX3_find_89 (by decide) (fun c89 => ?_) (fun c89 => ?_)
                · refine lv_iload hx hb dX3_find_99 (lv_at hl 5 rfl) ?_
                  refine lv_istore (lv' := [(4, .int (nI x4)), (6, .int r_4), (0, .ref h), (1, .int x), (2, .int (nI o1)), (3, .int (nI w1)), (5, .int (nI q))]) hx hb dX3_find_101 hl (by decide) rfl (fun ls hl => ?_)
                  refine lv_iinc (v := (nI (q + 1))) (lv' := [(5, .int (nI (q + 1))), (4, .int (nI x4)), (6, .int r_4), (0, .ref h), (1, .int x), (2, .int (nI o1)), (3, .int (nI w1))]) hx hb dX3_find_103 hl (k := 6) rfl (by first | exact nI_add q 1 | (rw [← nI_add]; rfl)) (by decide) rfl (fun ls hl => ?_)
                  refine lv_goto (tgt := 37) hx hb dX3_find_106 (by decide) ?_
                  exact ihf (x4, (q + 1)) (by show n - (q + 1) < n - q; omega) _ _ _ ⟨by omega, by rw [cn_sf (P := fnP o1 x w1 (mZ K T)) (by omega) (fun z => tr_0 hq1 c89 (z.1 c47))]; exact vf1, hP, hD, hS, lv_sub hl [3, 4, 5, 6, 1, 0] rfl⟩
                · refine lv_iload hx hb dX3_find_92 (lv_at hl 5 rfl) ?_
                  refine lv_iconst (v := (nI 1)) hx hb dX3_find_94 (by decide) ?_
                  refine lv_iadd hx hb dX3_find_95 ?_
                  refine lz_top (y := (nI (x4 + 1))) (nI_add _ _) ?_
                  refine lv_goto (tgt := 101) hx hb dX3_find_96 (by decide) ?_
                  refine lv_istore (lv' := [(4, .int (nI (x4 + 1))), (6, .int r_4), (0, .ref h), (1, .int x), (2, .int (nI o1)), (3, .int (nI w1)), (5, .int (nI q))]) hx hb dX3_find_101 hl (by decide) rfl (fun ls hl => ?_)
                  refine lv_iinc (v := (nI (q + 1))) (lv' := [(5, .int (nI (q + 1))), (4, .int (nI (x4 + 1))), (6, .int r_4), (0, .ref h), (1, .int x), (2, .int (nI o1)), (3, .int (nI w1))]) hx hb dX3_find_103 hl (k := 6) rfl (by first | exact nI_add q 1 | (rw [← nI_add]; rfl)) (by decide) rfl (fun ls hl => ?_)
                  refine lv_goto (tgt := 37) hx hb dX3_find_106 (by decide) ?_
                  exact ihf ((x4 + 1), (q + 1)) (by show n - (q + 1) < n - q; omega) _ _ _ ⟨by omega, by rw [cn_st (P := fnP o1 x w1 (mZ K T)) (by omega) ⟨fun _ => tr_1 hq1 c89, fun z => absurd c47 z⟩, ← vf1], hP, hD, hS, lv_sub hl [3, 4, 5, 6, 1, 0] rfl⟩
          · exact ⟨Nat.zero_le _, cn_s0, hP, hD, hS, lv_sub hl [2, 3, 4, 5, 1, 0] rfl⟩
        · refine lv_iconst (v := (-1)) hx hb dX3_find_29 (by decide) ?_
          exact W.iret (v := (-1)) hx hb hr (fun tS ht hW => ⟨⟨(-1), (K, T, n, NK, NT), rfl, ⟨Or.inr ⟨(o1, w1), ⟨rfl, rfl, ho, hw1⟩, Or.inl ⟨tr_0 hi c26, rfl⟩⟩, rfl⟩, by rw [ht]; exact hP, va_K.moved hW.alike hK, hD⟩, hS.F ht⟩) hS.2.2 dX3_find_30
set_option maxHeartbeats 4000000 in
set_option maxRecDepth 100000 in
theorem c_X3_rank (l : Launch) (dC : Nat → ClassId) (dI : Nat → Nat → Nat) (sz : Nat) (h k t k2 t2 : Nat) (cA cB cC cD : ClassId) (n : Nat) (K T NK NT : Nat → Int32) (hn : n ≤ 500) (x o : Int32) : Met l yX3_rank wsX3_rank ({ frames := 2, cells := 0, slots := 0, locals := 49 }) (va_Pc [.ref h, .int x, .int o] (fun U => U.heap.size = sz ∧ va_P (dC, dI) vwCl [(h, .inr (2, [.ref k, .ref t, .int (nI n), .ref k2, .ref t2])), (k, .inl (cA, 500, .inl K)), (t, .inl (cB, 500, .inl T)), (k2, .inl (cC, 500, .inl NK)), (t2, .inl (cD, 500, .inl NT))] U.heap ∧ va_K (dC, dI) vwCl [(cA, .int), (cB, .int), (cC, .int), (cD, .int)] U ∧ va_D (fun _ => True) [(h, .inr (2, [.ref k, .ref t, .int (nI n), .ref k2, .ref t2])), (k, .inl (cA, 500, .inl K)), (t, .inl (cB, 500, .inl T)), (k2, .inl (cC, 500, .inl NK)), (t2, .inl (cD, 500, .inl NT))])) (va_Qi (fun r u => Qran n (mZ K T) x o r ∧ u = (K, T, n, NK, NT)) (atM dC dI (va_A [(h, .inr (2, [.ref k, .ref t, .int (nI n), .ref k2, .ref t2])), (k, .inl (cA, 500, .inl K)), (t, .inl (cB, 500, .inl T)), (k2, .inl (cC, 500, .inl NK)), (t2, .inl (cD, 500, .inl NT))] sz) h k t k2 t2 cA cB cC cD) (va_A [(h, .inr (2, [.ref k, .ref t, .int (nI n), .ref k2, .ref t2])), (k, .inl (cA, 500, .inl K)), (t, .inl (cB, 500, .inl T)), (k2, .inl (cC, 500, .inl NK)), (t2, .inl (cD, 500, .inl NT))] sz)) 0 0 (va_A [(h, .inr (2, [.ref k, .ref t, .int (nI n), .ref k2, .ref t2])), (k, .inl (cA, 500, .inl K)), (t, .inl (cB, 500, .inl T)), (k2, .inl (cC, 500, .inl NK)), (t2, .inl (cD, 500, .inl NT))] sz) := by
  refine Met.ofW (cc := cX3_rank) (maxL := 3) (ret := (some .int)) (by decide) rfl ?_
  intro p e s m args below meth c s₁ B hml hv
  obtain ⟨rfl, hsz, hP, hK, hD0⟩ := hv
  have hx := B.exec
  have hb := B.bytes
  have hr := B.returns
  have hts := atoms_spec (ws := wsX3_rank) B.pre
  have hown : s.vm.findClass RX3 = some m.cls := findClass_of_methodNamed B.named
  have hlocks := B.notSynchronized
  subst hsz
  have hD := hD0.self (sz := s.heap.size)
  generalize hAe : va_A [(h, .inr (2, [.ref k, .ref t, .int (nI n), .ref k2, .ref t2])), (k, .inl (cA, 500, .inl K)), (t, .inl (cB, 500, .inl T)), (k2, .inl (cC, 500, .inl NK)), (t2, .inl (cD, 500, .inl NT))] s.heap.size = A at hD ⊢
  have hA : ∀ q : Nat, s.heap.size ≤ q → A q := fun q h => by rw [← hAe]; exact Or.inr h
  have hS : va_S A s.heap s.heap [] := va_S.rf
  have hP : va_P (dC, dI) vwCl [(h, .inr (2, [.ref k, .ref t, .int (nI n), .ref k2, .ref t2])), (k, .inl (cA, 500, .inl K)), (t, .inl (cB, 500, .inl T)), (k2, .inl (cC, 500, .inl NK)), (t2, .inl (cD, 500, .inl NT))] s.heap := hP
  have hl := lv_entry ([.ref h, .int x, .int o]) (n := 3) (Nat.le_of_ble_eq_true rfl)
  rw [lg_entry_eq]
  generalize (lg_sl ([.ref h, .int x, .int o]) ++ List.replicate (3 - (lg_sl ([.ref h, .int x, .int o])).length) Slot.unset).toArray = ls at hl ⊢
  have hl : lv_has ls 3 [(0, .ref h), (1, .int x), (2, .int o)] := hl
  refine lv_iload_n hx hb dX3_rank_0 rfl (lv_at hl 1 rfl) ?_
  refine lv_if_lt (tgt := 19) hx hb dX3_rank_1 (by decide) (fun c1 => ?_) (fun c1 => ?_)
  · refine lv_iconst (v := (-1)) hx hb dX3_rank_19 (by decide) ?_
    exact W.iret (v := (-1)) hx hb hr (fun tS ht hW => ⟨⟨(-1), (K, T, n, NK, NT), rfl, ⟨Or.inl ⟨rfl, fun z hz => (dR_e hn hz).2.1 c1⟩, rfl⟩, by rw [ht]; exact hP, va_K.moved hW.alike hK, hD⟩, hS.F ht⟩) hS.2.2 dX3_rank_20
  · refine lv_iload_n hx hb dX3_rank_4 rfl (lv_at hl 1 rfl) ?_
    refine lv_aload_n hx hb dX3_rank_5 rfl (lv_at hl 0 rfl) ?_
    refine va_get (D := (dC, dI)) (ci := 2) (v := .int (nI n)) (C := RX3) (T := TX3) (N := 5) hx hb hts (by decide +kernel) hown hK hP 0 rfl rfl 2 (by decide) (hts (.fieldLink RX3 22 "RowPressModel" "many" "I") (by decide +kernel)) (fun _ h9 => h9) rfl dX3_rank_6 ?_
    refine lv_icmp_ge (tgt := 19) hx hb dX3_rank_9 (by decide) (fun c9 => ?_) (fun c9 => ?_)
    · refine lv_iconst (v := (-1)) hx hb dX3_rank_19 (by decide) ?_
      exact W.iret (v := (-1)) hx hb hr (fun tS ht hW => ⟨⟨(-1), (K, T, n, NK, NT), rfl, ⟨Or.inl ⟨rfl, fun z hz => (dR_e hn hz).2.2 c9⟩, rfl⟩, by rw [ht]; exact hP, va_K.moved hW.alike hK, hD⟩, hS.F ht⟩) hS.2.2 dX3_rank_20
    · refine lv_iload_n hx hb dX3_rank_12 rfl (lv_at hl 2 rfl) ?_
      have hPc := hP.sub (ws' := []) [] rfl
      have hDc := hD.sub (ws' := []) [] (by decide) rfl
      have hKc := hK.sub (tys' := []) [] rfl
      have hFc := va_free (wc := []) hD hS hA [] rfl
      refine va_calli (va_runS (As := [.int o]) (rest := []) ⟨hx, hb, hml, hown, hts⟩ (c_X3_isOrder l dC dI s.heap.size o) (va_cwS 1 hts gX3_rank_X3_isOrder rfl rfl rfl (by decide +kernel) ⟨Nat.le_of_ble_eq_true rfl, Nat.le_of_ble_eq_true rfl⟩) ⟨fun a U g mk q => by obtain ⟨q0, q1, qP, qK, qD⟩ := q; exact ⟨q0, q1, qP, va_K.moved (u := U) (U := U.calling g mk a) (Vm.Alike.refl U.vm) qK, qD⟩, fun U hU hW => ⟨rfl, by rw [hU], by rw [hU]; exact hPc, va_K.moved hW.alike hKc, hDc.weaken (fun _ _ _ _ => trivial)⟩⟩ rfl rfl hl.1 rfl (lv_room (Nat.le_of_ble_eq_true rfl)) dX3_rank_13 ⟨Nat.le_of_ble_eq_true rfl, Nat.le_of_ble_eq_true rfl⟩) hS (fun q _ h => hFc q h) hFc (fun r_1 u tS H1 locs ht hvm hw hB hz1 hk1 hS => ?_)
      have he := hw
      obtain ⟨hP1, hK1, hD1⟩ := hB
      rw [ht] at hP1
      obtain ⟨hP, hD⟩ := va_join (wr := [(h, .inr (2, [.ref k, .ref t, .int (nI n), .ref k2, .ref t2])), (k, .inl (cA, 500, .inl K)), (t, .inl (cB, 500, .inl T)), (k2, .inl (cC, 500, .inl NK)), (t2, .inl (cD, 500, .inl NT))]) (w1 := []) hP hD [] [0, 1, 2, 3, 4] rfl rfl (by decide) (by decide) hk1 hFc hP1 hD1
      generalize H1 = H at hP hS ⊢
      have hP : va_P (dC, dI) vwCl [(h, .inr (2, [.ref k, .ref t, .int (nI n), .ref k2, .ref t2])), (k, .inl (cA, 500, .inl K)), (t, .inl (cB, 500, .inl T)), (k2, .inl (cC, 500, .inl NK)), (t2, .inl (cD, 500, .inl NT))] H := hP
      have hD : va_D A [(h, .inr (2, [.ref k, .ref t, .int (nI n), .ref k2, .ref t2])), (k, .inl (cA, 500, .inl K)), (t, .inl (cB, 500, .inl T)), (k2, .inl (cC, 500, .inl NK)), (t2, .inl (cD, 500, .inl NT))] := hD
      refine lv_if_ne (tgt := 21) hx hb dX3_rank_16 (by decide) (fun c16 => ?_) (fun c16 => ?_)
      · obtain ⟨o1, ho, rfl⟩ := exO_of (tr_1 he c16)
        obtain ⟨z, hz, rfl⟩ := plO_of hn ⟨c1, c9⟩
        refine lv_aload_n hx hb dX3_rank_21 rfl (lv_at hl 0 rfl) ?_
        refine lv_iload_n hx hb dX3_rank_22 rfl (lv_at hl 1 rfl) ?_
        refine lv_iconst (v := (nI 0)) hx hb dX3_rank_23 (by decide) ?_
        refine lv_aload_n hx hb dX3_rank_24 rfl (lv_at hl 0 rfl) ?_
        refine va_get (D := (dC, dI)) (ci := 2) (v := .int (nI n)) (C := RX3) (T := TX3) (N := 5) hx hb hts (by decide +kernel) hown hK hP 0 rfl rfl 2 (by decide) (hts (.fieldLink RX3 22 "RowPressModel" "many" "I") (by decide +kernel)) (fun _ h9 => h9) rfl dX3_rank_25 ?_
        refine lv_iload_n hx hb dX3_rank_28 rfl (lv_at hl 2 rfl) ?_
        have hPc := hP.sub (ws' := [(h, .inr (2, [.ref k, .ref t, .int (nI n), .ref k2, .ref t2])), (k, .inl (cA, 500, .inl K)), (t, .inl (cB, 500, .inl T)), (k2, .inl (cC, 500, .inl NK)), (t2, .inl (cD, 500, .inl NT))]) [0, 1, 2, 3, 4] rfl
        have hDc := hD.sub (ws' := [(h, .inr (2, [.ref k, .ref t, .int (nI n), .ref k2, .ref t2])), (k, .inl (cA, 500, .inl K)), (t, .inl (cB, 500, .inl T)), (k2, .inl (cC, 500, .inl NK)), (t2, .inl (cD, 500, .inl NT))]) [0, 1, 2, 3, 4] (by decide) rfl
        have hKc := hK.sub (tys' := [(cA, .int), (cB, .int), (cC, .int), (cD, .int)]) [0, 1, 2, 3] rfl
        have hFc := va_free (wc := [(h, .inr (2, [.ref k, .ref t, .int (nI n), .ref k2, .ref t2])), (k, .inl (cA, 500, .inl K)), (t, .inl (cB, 500, .inl T)), (k2, .inl (cC, 500, .inl NK)), (t2, .inl (cD, 500, .inl NT))]) hD hS hA [0, 1, 2, 3, 4] rfl
        refine va_calli (va_runV (As := [.int (nI z), .int (nI 0), .int (nI n), .int (nI o1)]) (rest := []) ⟨hx, hb, hml, hown, hts⟩ (c_X3_place l dC dI H.size h k t k2 t2 cA cB cC cD n K T NK NT z 0 n o1 (by omega) (Nat.zero_le _) hn ho) (cwV 4 hts gX3_rank_X3_place rfl rfl rfl (by decide +kernel) ⟨Nat.le_of_ble_eq_true rfl, Nat.le_of_ble_eq_true rfl⟩) ⟨fun a U g mk q => by obtain ⟨q0, q1, qP, qK, qD⟩ := q; exact ⟨q0, q1, qP, va_K.moved (u := U) (U := U.calling g mk a) (Vm.Alike.refl U.vm) qK, qD⟩, va_recv hKc hPc (ci := 2) (q0 := 0) rfl rfl, fun U hU hW => ⟨rfl, by rw [hU], by rw [hU]; exact hPc, va_K.moved hW.alike hKc, hDc.weaken (fun _ _ _ _ => trivial)⟩⟩ rfl rfl hl.1 rfl (lv_room (Nat.le_of_ble_eq_true rfl)) dX3_rank_29 ⟨Nat.le_of_ble_eq_true rfl, Nat.le_of_ble_eq_true rfl⟩) hS (fun q _ h => hFc q h) hFc (fun r_2 u tS H1 locs ht hvm hw hB hz1 hk1 hS => ?_)
        obtain ⟨hq, rfl⟩ := hw
        obtain ⟨hP1, hK1, hD1⟩ := hB
        rw [ht] at hP1
        obtain ⟨hP, hD⟩ := va_join (wr := []) (w1 := [(h, .inr (2, [.ref k, .ref t, .int (nI n), .ref k2, .ref t2])), (k, .inl (cA, 500, .inl K)), (t, .inl (cB, 500, .inl T)), (k2, .inl (cC, 500, .inl NK)), (t2, .inl (cD, 500, .inl NT))]) hP hD [0, 1, 2, 3, 4] [] rfl rfl (by decide) (by decide) hk1 hFc hP1 hD1
        generalize H1 = H at hP hS ⊢
        have hP : va_P (dC, dI) vwCl [(h, .inr (2, [.ref k, .ref t, .int (nI n), .ref k2, .ref t2])), (k, .inl (cA, 500, .inl K)), (t, .inl (cB, 500, .inl T)), (k2, .inl (cC, 500, .inl NK)), (t2, .inl (cD, 500, .inl NT))] H := hP
        have hD : va_D A [(h, .inr (2, [.ref k, .ref t, .int (nI n), .ref k2, .ref t2])), (k, .inl (cA, 500, .inl K)), (t, .inl (cB, 500, .inl T)), (k2, .inl (cC, 500, .inl NK)), (t2, .inl (cD, 500, .inl NT))] := hD
        exact W.iret (v := r_2) hx hb hr (fun tS ht hW => ⟨⟨r_2, (K, T, n, NK, NT), rfl, ⟨Or.inr ⟨(z, o1), ⟨rfl, rfl, hz, ho⟩, hq⟩, rfl⟩, by rw [ht]; exact hP, va_K.moved hW.alike hK, hD⟩, hS.F ht⟩) hS.2.2 dX3_rank_32
      · refine lv_iconst (v := (-1)) hx hb dX3_rank_19 (by decide) ?_
        exact W.iret (v := (-1)) hx hb hr (fun tS ht hW => ⟨⟨(-1), (K, T, n, NK, NT), rfl, ⟨Or.inl ⟨rfl, fun z hz => tr_0 he c16 (dR_e hn hz).1⟩, rfl⟩, by rw [ht]; exact hP, va_K.moved hW.alike hK, hD⟩, hS.F ht⟩) hS.2.2 dX3_rank_20
set_option maxHeartbeats 4000000 in
set_option maxRecDepth 100000 in
theorem c_X3_key (l : Launch) (dC : Nat → ClassId) (dI : Nat → Nat → Nat) (sz : Nat) (h k t k2 t2 : Nat) (cA cB cC cD : ClassId) (n : Nat) (K T NK NT : Nat → Int32) (hn : n ≤ 500) (x : Int32) : Met l yX3_key wsX3_key ({ frames := 0, cells := 0, slots := 0, locals := 0 }) (va_Pc [.ref h, .int x] (fun U => U.heap.size = sz ∧ va_P (dC, dI) vwCl [(h, .inr (2, [.ref k, .ref t, .int (nI n), .ref k2, .ref t2])), (k, .inl (cA, 500, .inl K)), (t, .inl (cB, 500, .inl T)), (k2, .inl (cC, 500, .inl NK)), (t2, .inl (cD, 500, .inl NT))] U.heap ∧ va_K (dC, dI) vwCl [(cA, .int), (cB, .int), (cC, .int), (cD, .int)] U ∧ va_D (fun _ => True) [(h, .inr (2, [.ref k, .ref t, .int (nI n), .ref k2, .ref t2])), (k, .inl (cA, 500, .inl K)), (t, .inl (cB, 500, .inl T)), (k2, .inl (cC, 500, .inl NK)), (t2, .inl (cD, 500, .inl NT))])) (va_Qi (fun r u => Qkey n (mZ K T) x r ∧ u = (K, T, n, NK, NT)) (atM dC dI (va_A [(h, .inr (2, [.ref k, .ref t, .int (nI n), .ref k2, .ref t2])), (k, .inl (cA, 500, .inl K)), (t, .inl (cB, 500, .inl T)), (k2, .inl (cC, 500, .inl NK)), (t2, .inl (cD, 500, .inl NT))] sz) h k t k2 t2 cA cB cC cD) (va_A [(h, .inr (2, [.ref k, .ref t, .int (nI n), .ref k2, .ref t2])), (k, .inl (cA, 500, .inl K)), (t, .inl (cB, 500, .inl T)), (k2, .inl (cC, 500, .inl NK)), (t2, .inl (cD, 500, .inl NT))] sz)) 0 0 (va_A [(h, .inr (2, [.ref k, .ref t, .int (nI n), .ref k2, .ref t2])), (k, .inl (cA, 500, .inl K)), (t, .inl (cB, 500, .inl T)), (k2, .inl (cC, 500, .inl NK)), (t2, .inl (cD, 500, .inl NT))] sz) := by
  refine Met.ofW (cc := cX3_key) (maxL := 2) (ret := (some .int)) (by decide) rfl ?_
  intro p e s m args below meth c s₁ B hml hv
  obtain ⟨rfl, hsz, hP, hK, hD0⟩ := hv
  have hx := B.exec
  have hb := B.bytes
  have hr := B.returns
  have hts := atoms_spec (ws := wsX3_key) B.pre
  have hown : s.vm.findClass RX3 = some m.cls := findClass_of_methodNamed B.named
  have hlocks := B.notSynchronized
  subst hsz
  have hD := hD0.self (sz := s.heap.size)
  generalize hAe : va_A [(h, .inr (2, [.ref k, .ref t, .int (nI n), .ref k2, .ref t2])), (k, .inl (cA, 500, .inl K)), (t, .inl (cB, 500, .inl T)), (k2, .inl (cC, 500, .inl NK)), (t2, .inl (cD, 500, .inl NT))] s.heap.size = A at hD ⊢
  have hA : ∀ q : Nat, s.heap.size ≤ q → A q := fun q h => by rw [← hAe]; exact Or.inr h
  have hS : va_S A s.heap s.heap [] := va_S.rf
  have hP : va_P (dC, dI) vwCl [(h, .inr (2, [.ref k, .ref t, .int (nI n), .ref k2, .ref t2])), (k, .inl (cA, 500, .inl K)), (t, .inl (cB, 500, .inl T)), (k2, .inl (cC, 500, .inl NK)), (t2, .inl (cD, 500, .inl NT))] s.heap := hP
  have hl := lv_entry ([.ref h, .int x]) (n := 2) (Nat.le_of_ble_eq_true rfl)
  rw [lg_entry_eq]
  generalize (lg_sl ([.ref h, .int x]) ++ List.replicate (2 - (lg_sl ([.ref h, .int x])).length) Slot.unset).toArray = ls at hl ⊢
  have hl : lv_has ls 2 [(0, .ref h), (1, .int x)] := hl
  refine lv_iload_n hx hb dX3_key_0 rfl (lv_at hl 1 rfl) ?_
  refine lv_if_lt (tgt := 21) hx hb dX3_key_1 (by decide) (fun c1 => ?_) (fun c1 => ?_)
  · refine lv_iconst (v := (nI 0)) hx hb dX3_key_21 (by decide) ?_
    exact W.iret (v := (nI 0)) hx hb hr (fun tS ht hW => ⟨⟨(nI 0), (K, T, n, NK, NT), rfl, ⟨Or.inl ⟨rfl, fun z hz => (dP_e hn hz).1 c1⟩, rfl⟩, by rw [ht]; exact hP, va_K.moved hW.alike hK, hD⟩, hS.F ht⟩) hS.2.2 dX3_key_22
  · refine lv_iload_n hx hb dX3_key_4 rfl (lv_at hl 1 rfl) ?_
    refine lv_aload_n hx hb dX3_key_5 rfl (lv_at hl 0 rfl) ?_
    refine va_get (D := (dC, dI)) (ci := 2) (v := .int (nI n)) (C := RX3) (T := TX3) (N := 5) hx hb hts (by decide +kernel) hown hK hP 0 rfl rfl 2 (by decide) (hts (.fieldLink RX3 22 "RowPressModel" "many" "I") (by decide +kernel)) (fun _ h9 => h9) rfl dX3_key_6 ?_
    refine lv_icmp_ge (tgt := 21) hx hb dX3_key_9 (by decide) (fun c9 => ?_) (fun c9 => ?_)
    · refine lv_iconst (v := (nI 0)) hx hb dX3_key_21 (by decide) ?_
      exact W.iret (v := (nI 0)) hx hb hr (fun tS ht hW => ⟨⟨(nI 0), (K, T, n, NK, NT), rfl, ⟨Or.inl ⟨rfl, fun z hz => (dP_e hn hz).2 c9⟩, rfl⟩, by rw [ht]; exact hP, va_K.moved hW.alike hK, hD⟩, hS.F ht⟩) hS.2.2 dX3_key_22
    · obtain ⟨z, hz, rfl⟩ := plO_of hn ⟨c1, c9⟩
      refine lv_aload_n hx hb dX3_key_12 rfl (lv_at hl 0 rfl) ?_
      refine va_get (D := (dC, dI)) (ci := 2) (v := .ref k) (C := RX3) (T := TX3) (N := 5) hx hb hts (by decide +kernel) hown hK hP 0 rfl rfl 0 (by decide) (hts (.fieldLink RX3 7 "RowPressModel" "keys" "[I") (by decide +kernel)) (fun _ h9 => h9) rfl dX3_key_13 ?_
      refine lv_iload_n hx hb dX3_key_16 rfl (lv_at hl 1 rfl) ?_
      refine lz_iald hx hb hK hP 1 0 rfl rfl (j := z) (by omega) (by decide) dX3_key_17 ?_
      refine lv_goto (tgt := 22) hx hb dX3_key_18 (by decide) ?_
      exact W.iret (v := (K z)) hx hb hr (fun tS ht hW => ⟨⟨(K z), (K, T, n, NK, NT), rfl, ⟨Or.inr ⟨z, ⟨rfl, hz⟩, rfl⟩, rfl⟩, by rw [ht]; exact hP, va_K.moved hW.alike hK, hD⟩, hS.F ht⟩) hS.2.2 dX3_key_22
set_option maxHeartbeats 4000000 in
set_option maxRecDepth 100000 in
theorem c_X3_tag (l : Launch) (dC : Nat → ClassId) (dI : Nat → Nat → Nat) (sz : Nat) (h k t k2 t2 : Nat) (cA cB cC cD : ClassId) (n : Nat) (K T NK NT : Nat → Int32) (hn : n ≤ 500) (x : Int32) : Met l yX3_tag wsX3_tag ({ frames := 0, cells := 0, slots := 0, locals := 0 }) (va_Pc [.ref h, .int x] (fun U => U.heap.size = sz ∧ va_P (dC, dI) vwCl [(h, .inr (2, [.ref k, .ref t, .int (nI n), .ref k2, .ref t2])), (k, .inl (cA, 500, .inl K)), (t, .inl (cB, 500, .inl T)), (k2, .inl (cC, 500, .inl NK)), (t2, .inl (cD, 500, .inl NT))] U.heap ∧ va_K (dC, dI) vwCl [(cA, .int), (cB, .int), (cC, .int), (cD, .int)] U ∧ va_D (fun _ => True) [(h, .inr (2, [.ref k, .ref t, .int (nI n), .ref k2, .ref t2])), (k, .inl (cA, 500, .inl K)), (t, .inl (cB, 500, .inl T)), (k2, .inl (cC, 500, .inl NK)), (t2, .inl (cD, 500, .inl NT))])) (va_Qi (fun r u => Qtag n (mZ K T) x r ∧ u = (K, T, n, NK, NT)) (atM dC dI (va_A [(h, .inr (2, [.ref k, .ref t, .int (nI n), .ref k2, .ref t2])), (k, .inl (cA, 500, .inl K)), (t, .inl (cB, 500, .inl T)), (k2, .inl (cC, 500, .inl NK)), (t2, .inl (cD, 500, .inl NT))] sz) h k t k2 t2 cA cB cC cD) (va_A [(h, .inr (2, [.ref k, .ref t, .int (nI n), .ref k2, .ref t2])), (k, .inl (cA, 500, .inl K)), (t, .inl (cB, 500, .inl T)), (k2, .inl (cC, 500, .inl NK)), (t2, .inl (cD, 500, .inl NT))] sz)) 0 0 (va_A [(h, .inr (2, [.ref k, .ref t, .int (nI n), .ref k2, .ref t2])), (k, .inl (cA, 500, .inl K)), (t, .inl (cB, 500, .inl T)), (k2, .inl (cC, 500, .inl NK)), (t2, .inl (cD, 500, .inl NT))] sz) := by
  refine Met.ofW (cc := cX3_tag) (maxL := 2) (ret := (some .int)) (by decide) rfl ?_
  intro p e s m args below meth c s₁ B hml hv
  obtain ⟨rfl, hsz, hP, hK, hD0⟩ := hv
  have hx := B.exec
  have hb := B.bytes
  have hr := B.returns
  have hts := atoms_spec (ws := wsX3_tag) B.pre
  have hown : s.vm.findClass RX3 = some m.cls := findClass_of_methodNamed B.named
  have hlocks := B.notSynchronized
  subst hsz
  have hD := hD0.self (sz := s.heap.size)
  generalize hAe : va_A [(h, .inr (2, [.ref k, .ref t, .int (nI n), .ref k2, .ref t2])), (k, .inl (cA, 500, .inl K)), (t, .inl (cB, 500, .inl T)), (k2, .inl (cC, 500, .inl NK)), (t2, .inl (cD, 500, .inl NT))] s.heap.size = A at hD ⊢
  have hA : ∀ q : Nat, s.heap.size ≤ q → A q := fun q h => by rw [← hAe]; exact Or.inr h
  have hS : va_S A s.heap s.heap [] := va_S.rf
  have hP : va_P (dC, dI) vwCl [(h, .inr (2, [.ref k, .ref t, .int (nI n), .ref k2, .ref t2])), (k, .inl (cA, 500, .inl K)), (t, .inl (cB, 500, .inl T)), (k2, .inl (cC, 500, .inl NK)), (t2, .inl (cD, 500, .inl NT))] s.heap := hP
  have hl := lv_entry ([.ref h, .int x]) (n := 2) (Nat.le_of_ble_eq_true rfl)
  rw [lg_entry_eq]
  generalize (lg_sl ([.ref h, .int x]) ++ List.replicate (2 - (lg_sl ([.ref h, .int x])).length) Slot.unset).toArray = ls at hl ⊢
  have hl : lv_has ls 2 [(0, .ref h), (1, .int x)] := hl
  refine lv_iload_n hx hb dX3_tag_0 rfl (lv_at hl 1 rfl) ?_
  refine lv_if_lt (tgt := 21) hx hb dX3_tag_1 (by decide) (fun c1 => ?_) (fun c1 => ?_)
  · refine lv_iconst (v := (nI 0)) hx hb dX3_tag_21 (by decide) ?_
    exact W.iret (v := (nI 0)) hx hb hr (fun tS ht hW => ⟨⟨(nI 0), (K, T, n, NK, NT), rfl, ⟨Or.inl ⟨rfl, fun z hz => (dP_e hn hz).1 c1⟩, rfl⟩, by rw [ht]; exact hP, va_K.moved hW.alike hK, hD⟩, hS.F ht⟩) hS.2.2 dX3_tag_22
  · refine lv_iload_n hx hb dX3_tag_4 rfl (lv_at hl 1 rfl) ?_
    refine lv_aload_n hx hb dX3_tag_5 rfl (lv_at hl 0 rfl) ?_
    refine va_get (D := (dC, dI)) (ci := 2) (v := .int (nI n)) (C := RX3) (T := TX3) (N := 5) hx hb hts (by decide +kernel) hown hK hP 0 rfl rfl 2 (by decide) (hts (.fieldLink RX3 22 "RowPressModel" "many" "I") (by decide +kernel)) (fun _ h9 => h9) rfl dX3_tag_6 ?_
    refine lv_icmp_ge (tgt := 21) hx hb dX3_tag_9 (by decide) (fun c9 => ?_) (fun c9 => ?_)
    · refine lv_iconst (v := (nI 0)) hx hb dX3_tag_21 (by decide) ?_
      exact W.iret (v := (nI 0)) hx hb hr (fun tS ht hW => ⟨⟨(nI 0), (K, T, n, NK, NT), rfl, ⟨Or.inl ⟨rfl, fun z hz => (dP_e hn hz).2 c9⟩, rfl⟩, by rw [ht]; exact hP, va_K.moved hW.alike hK, hD⟩, hS.F ht⟩) hS.2.2 dX3_tag_22
    · obtain ⟨z, hz, rfl⟩ := plO_of hn ⟨c1, c9⟩
      refine lv_aload_n hx hb dX3_tag_12 rfl (lv_at hl 0 rfl) ?_
      refine va_get (D := (dC, dI)) (ci := 2) (v := .ref t) (C := RX3) (T := TX3) (N := 5) hx hb hts (by decide +kernel) hown hK hP 0 rfl rfl 1 (by decide) (hts (.fieldLink RX3 13 "RowPressModel" "tags" "[I") (by decide +kernel)) (fun _ h9 => h9) rfl dX3_tag_13 ?_
      refine lv_iload_n hx hb dX3_tag_16 rfl (lv_at hl 1 rfl) ?_
      refine lz_iald hx hb hK hP 2 1 rfl rfl (j := z) (by omega) (by decide) dX3_tag_17 ?_
      refine lv_goto (tgt := 22) hx hb dX3_tag_18 (by decide) ?_
      exact W.iret (v := (T z)) hx hb hr (fun tS ht hW => ⟨⟨(T z), (K, T, n, NK, NT), rfl, ⟨Or.inr ⟨z, ⟨rfl, hz⟩, rfl⟩, rfl⟩, by rw [ht]; exact hP, va_K.moved hW.alike hK, hD⟩, hS.F ht⟩) hS.2.2 dX3_tag_22
set_option maxHeartbeats 4000000 in
set_option maxRecDepth 100000 in
theorem c_X3_stretches (l : Launch) (dC : Nat → ClassId) (dI : Nat → Nat → Nat) (sz : Nat) (h k t k2 t2 : Nat) (cA cB cC cD : ClassId) (n : Nat) (K T NK NT : Nat → Int32) (hn : n ≤ 500) : Met l yX3_stretches wsX3_stretches ({ frames := 0, cells := 0, slots := 0, locals := 0 }) (va_Pc [.ref h] (fun U => U.heap.size = sz ∧ va_P (dC, dI) vwCl [(h, .inr (2, [.ref k, .ref t, .int (nI n), .ref k2, .ref t2])), (k, .inl (cA, 500, .inl K)), (t, .inl (cB, 500, .inl T)), (k2, .inl (cC, 500, .inl NK)), (t2, .inl (cD, 500, .inl NT))] U.heap ∧ va_K (dC, dI) vwCl [(cA, .int), (cB, .int), (cC, .int), (cD, .int)] U ∧ va_D (fun _ => True) [(h, .inr (2, [.ref k, .ref t, .int (nI n), .ref k2, .ref t2])), (k, .inl (cA, 500, .inl K)), (t, .inl (cB, 500, .inl T)), (k2, .inl (cC, 500, .inl NK)), (t2, .inl (cD, 500, .inl NT))])) (va_Qi (fun r u => r = nI (cn (fun j => j = 0 ∨ K j < K (j - 1)) 0 (n - 0)) ∧ u = (K, T, n, NK, NT)) (atM dC dI (va_A [(h, .inr (2, [.ref k, .ref t, .int (nI n), .ref k2, .ref t2])), (k, .inl (cA, 500, .inl K)), (t, .inl (cB, 500, .inl T)), (k2, .inl (cC, 500, .inl NK)), (t2, .inl (cD, 500, .inl NT))] sz) h k t k2 t2 cA cB cC cD) (va_A [(h, .inr (2, [.ref k, .ref t, .int (nI n), .ref k2, .ref t2])), (k, .inl (cA, 500, .inl K)), (t, .inl (cB, 500, .inl T)), (k2, .inl (cC, 500, .inl NK)), (t2, .inl (cD, 500, .inl NT))] sz)) 0 0 (va_A [(h, .inr (2, [.ref k, .ref t, .int (nI n), .ref k2, .ref t2])), (k, .inl (cA, 500, .inl K)), (t, .inl (cB, 500, .inl T)), (k2, .inl (cC, 500, .inl NK)), (t2, .inl (cD, 500, .inl NT))] sz) := by
  refine Met.ofW (cc := cX3_stretches) (maxL := 3) (ret := (some .int)) (by decide) rfl ?_
  intro p e s m args below meth c s₁ B hml hv
  obtain ⟨rfl, hsz, hP, hK, hD0⟩ := hv
  have hx := B.exec
  have hb := B.bytes
  have hr := B.returns
  have hts := atoms_spec (ws := wsX3_stretches) B.pre
  have hown : s.vm.findClass RX3 = some m.cls := findClass_of_methodNamed B.named
  have hlocks := B.notSynchronized
  subst hsz
  have hD := hD0.self (sz := s.heap.size)
  generalize hAe : va_A [(h, .inr (2, [.ref k, .ref t, .int (nI n), .ref k2, .ref t2])), (k, .inl (cA, 500, .inl K)), (t, .inl (cB, 500, .inl T)), (k2, .inl (cC, 500, .inl NK)), (t2, .inl (cD, 500, .inl NT))] s.heap.size = A at hD ⊢
  have hA : ∀ q : Nat, s.heap.size ≤ q → A q := fun q h => by rw [← hAe]; exact Or.inr h
  have hS : va_S A s.heap s.heap [] := va_S.rf
  have hP : va_P (dC, dI) vwCl [(h, .inr (2, [.ref k, .ref t, .int (nI n), .ref k2, .ref t2])), (k, .inl (cA, 500, .inl K)), (t, .inl (cB, 500, .inl T)), (k2, .inl (cC, 500, .inl NK)), (t2, .inl (cD, 500, .inl NT))] s.heap := hP
  have hl := lv_entry ([.ref h]) (n := 3) (Nat.le_of_ble_eq_true rfl)
  rw [lg_entry_eq]
  generalize (lg_sl ([.ref h]) ++ List.replicate (3 - (lg_sl ([.ref h])).length) Slot.unset).toArray = ls at hl ⊢
  have hl : lv_has ls 3 [(0, .ref h)] := hl
  refine lv_iconst (v := (nI 0)) hx hb dX3_stretches_0 (by decide) ?_
  refine lv_istore_n (lv' := [(1, .int (nI 0)), (0, .ref h)]) hx hb dX3_stretches_1 rfl hl (by decide) rfl (fun ls hl => ?_)
  refine lv_iconst (v := (nI 0)) hx hb dX3_stretches_2 (by decide) ?_
  refine lv_istore_n (lv' := [(2, .int (nI 0)), (1, .int (nI 0)), (0, .ref h)]) hx hb dX3_stretches_3 rfl hl (by decide) rfl (fun ls hl => ?_)
  refine lz_loop (σ := Nat × Nat) (μ := fun X_ => match X_ with | (x1, q) => n - q) (Inv := fun X_ H locs ls => match X_ with | (x1, q) => (q ≤ n) ∧ (x1 = cn (fun j => j = 0 ∨ K j < K (j - 1)) 0 (q - 0)) ∧ va_P (dC, dI) vwCl [(h, .inr (2, [.ref k, .ref t, .int (nI n), .ref k2, .ref t2])), (k, .inl (cA, 500, .inl K)), (t, .inl (cB, 500, .inl T)), (k2, .inl (cC, 500, .inl NK)), (t2, .inl (cD, 500, .inl NT))] H ∧ va_D A [(h, .inr (2, [.ref k, .ref t, .int (nI n), .ref k2, .ref t2])), (k, .inl (cA, 500, .inl K)), (t, .inl (cB, 500, .inl T)), (k2, .inl (cC, 500, .inl NK)), (t2, .inl (cD, 500, .inl NT))] ∧ va_S A s.heap H locs ∧ lv_has ls 3 [(0, .ref h), (1, .int (nI x1)), (2, .int (nI q))]) ?_ (0, 0) _ _ _ ?_
  · rintro ⟨x1, q⟩ ihc H locs ls ⟨vc0, vc1, hP, hD, hS, hl⟩
    refine lv_iload_n hx hb dX3_stretches_4 rfl (lv_at hl 2 rfl) ?_
    refine lv_aload_n hx hb dX3_stretches_5 rfl (lv_at hl 0 rfl) ?_
    refine va_get (D := (dC, dI)) (ci := 2) (v := .int (nI n)) (C := RX3) (T := TX3) (N := 5) hx hb hts (by decide +kernel) hown hK hP 0 rfl rfl 2 (by decide) (hts (.fieldLink RX3 22 "RowPressModel" "many" "I") (by decide +kernel)) (fun _ h9 => h9) rfl dX3_stretches_6 ?_
    refine lz_icmp_ge (tgt := 47) (by omega) (by omega) hx hb dX3_stretches_9 (by decide) (fun c9 => ?_) (fun c9 => ?_)
    · refine lv_iload_n hx hb dX3_stretches_47 rfl (lv_at hl 1 rfl) ?_
      exact W.iret (v := (nI x1)) hx hb hr (fun tS ht hW => ⟨⟨(nI x1), (K, T, n, NK, NT), rfl, ⟨by rw [vc1, show q = n by omega], rfl⟩, by rw [ht]; exact hP, va_K.moved hW.alike hK, hD⟩, hS.F ht⟩) hS.2.2 dX3_stretches_48
    · refine lv_iload_n hx hb dX3_stretches_12 rfl (lv_at hl 2 rfl) ?_
      refine lz_if_eq (tgt := 33) (by omega) hx hb dX3_stretches_13 (by decide) (fun c13 => ?_) (fun c13 => ?_)
      · refine lv_iload_n hx hb dX3_stretches_33 rfl (lv_at hl 1 rfl) ?_
        refine lv_iconst (v := (nI 1)) hx hb dX3_stretches_34 (by decide) ?_
        refine lv_iadd hx hb dX3_stretches_35 ?_
        refine lz_top (y := (nI (x1 + 1))) (nI_add _ _) ?_
        refine lv_goto (tgt := 40) hx hb dX3_stretches_36 (by decide) ?_
        refine lv_istore_n (lv' := [(1, .int (nI (x1 + 1))), (0, .ref h), (2, .int (nI q))]) hx hb dX3_stretches_40 rfl hl (by decide) rfl (fun ls hl => ?_)
        refine lv_iinc (v := (nI (q + 1))) (lv' := [(2, .int (nI (q + 1))), (1, .int (nI (x1 + 1))), (0, .ref h)]) hx hb dX3_stretches_41 hl (k := 2) rfl (by first | exact nI_add q 1 | (rw [← nI_add]; rfl)) (by decide) rfl (fun ls hl => ?_)
        refine lv_goto (tgt := 4) hx hb dX3_stretches_44 (by decide) ?_
        exact ihc ((x1 + 1), (q + 1)) (by show n - (q + 1) < n - q; omega) _ _ _ ⟨by omega, by rw [cn_st (P := fun j => j = 0 ∨ K j < K (j - 1)) (by omega) (Or.inl c13), ← vc1], hP, hD, hS, lv_sub hl [2, 1, 0] rfl⟩
      · refine lv_aload_n hx hb dX3_stretches_16 rfl (lv_at hl 0 rfl) ?_
        refine va_get (D := (dC, dI)) (ci := 2) (v := .ref k) (C := RX3) (T := TX3) (N := 5) hx hb hts (by decide +kernel) hown hK hP 0 rfl rfl 0 (by decide) (hts (.fieldLink RX3 7 "RowPressModel" "keys" "[I") (by decide +kernel)) (fun _ h9 => h9) rfl dX3_stretches_17 ?_
        refine lv_iload_n hx hb dX3_stretches_20 rfl (lv_at hl 2 rfl) ?_
        refine lz_iald hx hb hK hP 1 0 rfl rfl (j := q) (by omega) (by decide) dX3_stretches_21 ?_
        refine lv_aload_n hx hb dX3_stretches_22 rfl (lv_at hl 0 rfl) ?_
        refine va_get (D := (dC, dI)) (ci := 2) (v := .ref k) (C := RX3) (T := TX3) (N := 5) hx hb hts (by decide +kernel) hown hK hP 0 rfl rfl 0 (by decide) (hts (.fieldLink RX3 7 "RowPressModel" "keys" "[I") (by decide +kernel)) (fun _ h9 => h9) rfl dX3_stretches_23 ?_
        refine lv_iload_n hx hb dX3_stretches_26 rfl (lv_at hl 2 rfl) ?_
        refine lv_iconst (v := (nI 1)) hx hb dX3_stretches_27 (by decide) ?_
        refine lv_isub hx hb dX3_stretches_28 ?_
        refine lz_top (y := (nI (q - 1))) (pk_sub (by omega)) ?_
        refine lz_iald hx hb hK hP 1 0 rfl rfl (j := q - 1) (by omega) (by decide) dX3_stretches_29 ?_
        refine lv_icmp_ge (tgt := 39) hx hb dX3_stretches_30 (by decide) (fun c30 => ?_) (fun c30 => ?_)
        · refine lv_iload_n hx hb dX3_stretches_39 rfl (lv_at hl 1 rfl) ?_
          refine lv_istore_n (lv' := [(1, .int (nI x1)), (0, .ref h), (2, .int (nI q))]) hx hb dX3_stretches_40 rfl hl (by decide) rfl (fun ls hl => ?_)
          refine lv_iinc (v := (nI (q + 1))) (lv' := [(2, .int (nI (q + 1))), (1, .int (nI x1)), (0, .ref h)]) hx hb dX3_stretches_41 hl (k := 2) rfl (by first | exact nI_add q 1 | (rw [← nI_add]; rfl)) (by decide) rfl (fun ls hl => ?_)
          refine lv_goto (tgt := 4) hx hb dX3_stretches_44 (by decide) ?_
          exact ihc (x1, (q + 1)) (by show n - (q + 1) < n - q; omega) _ _ _ ⟨by omega, by rw [cn_sf (P := fun j => j = 0 ∨ K j < K (j - 1)) (by omega) (fun z => z.elim c13 (fun z => ng_lt z c30))]; exact vc1, hP, hD, hS, lv_sub hl [2, 1, 0] rfl⟩
        · refine lv_iload_n hx hb dX3_stretches_33 rfl (lv_at hl 1 rfl) ?_
          refine lv_iconst (v := (nI 1)) hx hb dX3_stretches_34 (by decide) ?_
          refine lv_iadd hx hb dX3_stretches_35 ?_
          refine lz_top (y := (nI (x1 + 1))) (nI_add _ _) ?_
          refine lv_goto (tgt := 40) hx hb dX3_stretches_36 (by decide) ?_
          refine lv_istore_n (lv' := [(1, .int (nI (x1 + 1))), (0, .ref h), (2, .int (nI q))]) hx hb dX3_stretches_40 rfl hl (by decide) rfl (fun ls hl => ?_)
          refine lv_iinc (v := (nI (q + 1))) (lv' := [(2, .int (nI (q + 1))), (1, .int (nI (x1 + 1))), (0, .ref h)]) hx hb dX3_stretches_41 hl (k := 2) rfl (by first | exact nI_add q 1 | (rw [← nI_add]; rfl)) (by decide) rfl (fun ls hl => ?_)
          refine lv_goto (tgt := 4) hx hb dX3_stretches_44 (by decide) ?_
          exact ihc ((x1 + 1), (q + 1)) (by show n - (q + 1) < n - q; omega) _ _ _ ⟨by omega, by rw [cn_st (P := fun j => j = 0 ∨ K j < K (j - 1)) (by omega) (Or.inr (ng_le c30)), ← vc1], hP, hD, hS, lv_sub hl [2, 1, 0] rfl⟩
  · exact ⟨Nat.zero_le _, cn_s0, hP, hD, hS, lv_sub hl [2, 1, 0] rfl⟩
set_option maxHeartbeats 4000000 in
set_option maxRecDepth 100000 in
theorem c_X3_different (l : Launch) (dC : Nat → ClassId) (dI : Nat → Nat → Nat) (sz : Nat) (h k t k2 t2 : Nat) (cA cB cC cD : ClassId) (n : Nat) (K T NK NT : Nat → Int32) (hn : n ≤ 500) : Met l yX3_different wsX3_different ({ frames := 0, cells := 0, slots := 0, locals := 0 }) (va_Pc [.ref h] (fun U => U.heap.size = sz ∧ va_P (dC, dI) vwCl [(h, .inr (2, [.ref k, .ref t, .int (nI n), .ref k2, .ref t2])), (k, .inl (cA, 500, .inl K)), (t, .inl (cB, 500, .inl T)), (k2, .inl (cC, 500, .inl NK)), (t2, .inl (cD, 500, .inl NT))] U.heap ∧ va_K (dC, dI) vwCl [(cA, .int), (cB, .int), (cC, .int), (cD, .int)] U ∧ va_D (fun _ => True) [(h, .inr (2, [.ref k, .ref t, .int (nI n), .ref k2, .ref t2])), (k, .inl (cA, 500, .inl K)), (t, .inl (cB, 500, .inl T)), (k2, .inl (cC, 500, .inl NK)), (t2, .inl (cD, 500, .inl NT))])) (va_Qi (fun r u => r = nI (cn (fun j => ¬ ∃ i, i < j ∧ K i = K j) 0 (n - 0)) ∧ u = (K, T, n, NK, NT)) (atM dC dI (va_A [(h, .inr (2, [.ref k, .ref t, .int (nI n), .ref k2, .ref t2])), (k, .inl (cA, 500, .inl K)), (t, .inl (cB, 500, .inl T)), (k2, .inl (cC, 500, .inl NK)), (t2, .inl (cD, 500, .inl NT))] sz) h k t k2 t2 cA cB cC cD) (va_A [(h, .inr (2, [.ref k, .ref t, .int (nI n), .ref k2, .ref t2])), (k, .inl (cA, 500, .inl K)), (t, .inl (cB, 500, .inl T)), (k2, .inl (cC, 500, .inl NK)), (t2, .inl (cD, 500, .inl NT))] sz)) 0 0 (va_A [(h, .inr (2, [.ref k, .ref t, .int (nI n), .ref k2, .ref t2])), (k, .inl (cA, 500, .inl K)), (t, .inl (cB, 500, .inl T)), (k2, .inl (cC, 500, .inl NK)), (t2, .inl (cD, 500, .inl NT))] sz) := by
  refine Met.ofW (cc := cX3_different) (maxL := 5) (ret := (some .int)) (by decide) rfl ?_
  intro p e s m args below meth c s₁ B hml hv
  obtain ⟨rfl, hsz, hP, hK, hD0⟩ := hv
  have hx := B.exec
  have hb := B.bytes
  have hr := B.returns
  have hts := atoms_spec (ws := wsX3_different) B.pre
  have hown : s.vm.findClass RX3 = some m.cls := findClass_of_methodNamed B.named
  have hlocks := B.notSynchronized
  subst hsz
  have hD := hD0.self (sz := s.heap.size)
  generalize hAe : va_A [(h, .inr (2, [.ref k, .ref t, .int (nI n), .ref k2, .ref t2])), (k, .inl (cA, 500, .inl K)), (t, .inl (cB, 500, .inl T)), (k2, .inl (cC, 500, .inl NK)), (t2, .inl (cD, 500, .inl NT))] s.heap.size = A at hD ⊢
  have hA : ∀ q : Nat, s.heap.size ≤ q → A q := fun q h => by rw [← hAe]; exact Or.inr h
  have hS : va_S A s.heap s.heap [] := va_S.rf
  have hP : va_P (dC, dI) vwCl [(h, .inr (2, [.ref k, .ref t, .int (nI n), .ref k2, .ref t2])), (k, .inl (cA, 500, .inl K)), (t, .inl (cB, 500, .inl T)), (k2, .inl (cC, 500, .inl NK)), (t2, .inl (cD, 500, .inl NT))] s.heap := hP
  have hl := lv_entry ([.ref h]) (n := 5) (Nat.le_of_ble_eq_true rfl)
  rw [lg_entry_eq]
  generalize (lg_sl ([.ref h]) ++ List.replicate (5 - (lg_sl ([.ref h])).length) Slot.unset).toArray = ls at hl ⊢
  have hl : lv_has ls 5 [(0, .ref h)] := hl
  refine lv_iconst (v := (nI 0)) hx hb dX3_different_0 (by decide) ?_
  refine lv_istore_n (lv' := [(1, .int (nI 0)), (0, .ref h)]) hx hb dX3_different_1 rfl hl (by decide) rfl (fun ls hl => ?_)
  refine lv_iconst (v := (nI 0)) hx hb dX3_different_2 (by decide) ?_
  refine lv_istore_n (lv' := [(2, .int (nI 0)), (1, .int (nI 0)), (0, .ref h)]) hx hb dX3_different_3 rfl hl (by decide) rfl (fun ls hl => ?_)
  refine lz_loop (σ := Nat × Nat) (μ := fun X_ => match X_ with | (x1, q) => n - q) (Inv := fun X_ H locs ls => match X_ with | (x1, q) => (q ≤ n) ∧ (x1 = cn (fun j => ¬ ∃ i, i < j ∧ K i = K j) 0 (q - 0)) ∧ va_P (dC, dI) vwCl [(h, .inr (2, [.ref k, .ref t, .int (nI n), .ref k2, .ref t2])), (k, .inl (cA, 500, .inl K)), (t, .inl (cB, 500, .inl T)), (k2, .inl (cC, 500, .inl NK)), (t2, .inl (cD, 500, .inl NT))] H ∧ va_D A [(h, .inr (2, [.ref k, .ref t, .int (nI n), .ref k2, .ref t2])), (k, .inl (cA, 500, .inl K)), (t, .inl (cB, 500, .inl T)), (k2, .inl (cC, 500, .inl NK)), (t2, .inl (cD, 500, .inl NT))] ∧ va_S A s.heap H locs ∧ lv_has ls 5 [(0, .ref h), (1, .int (nI x1)), (2, .int (nI q))]) ?_ (0, 0) _ _ _ ?_
  · rintro ⟨x1, q⟩ ihe H locs ls ⟨ve0, ve1, hP, hD, hS, hl⟩
    refine lv_iload_n hx hb dX3_different_4 rfl (lv_at hl 2 rfl) ?_
    refine lv_aload_n hx hb dX3_different_5 rfl (lv_at hl 0 rfl) ?_
    refine va_get (D := (dC, dI)) (ci := 2) (v := .int (nI n)) (C := RX3) (T := TX3) (N := 5) hx hb hts (by decide +kernel) hown hK hP 0 rfl rfl 2 (by decide) (hts (.fieldLink RX3 22 "RowPressModel" "many" "I") (by decide +kernel)) (fun _ h9 => h9) rfl dX3_different_6 ?_
    refine lz_icmp_ge (tgt := 73) (by omega) (by omega) hx hb dX3_different_9 (by decide) (fun c9 => ?_) (fun c9 => ?_)
    · refine lv_iload_n hx hb dX3_different_73 rfl (lv_at hl 1 rfl) ?_
      exact W.iret (v := (nI x1)) hx hb hr (fun tS ht hW => ⟨⟨(nI x1), (K, T, n, NK, NT), rfl, ⟨by rw [ve1, show q = n by omega], rfl⟩, by rw [ht]; exact hP, va_K.moved hW.alike hK, hD⟩, hS.F ht⟩) hS.2.2 dX3_different_74
    · refine lv_iconst (v := (nI 1)) hx hb dX3_different_12 (by decide) ?_
      refine lv_istore_n (lv' := [(3, .int (nI 1)), (0, .ref h), (1, .int (nI x1)), (2, .int (nI q))]) hx hb dX3_different_13 rfl hl (by decide) rfl (fun ls hl => ?_)
      refine lv_iconst (v := (nI 0)) hx hb dX3_different_14 (by decide) ?_
      refine lv_istore (lv' := [(4, .int (nI 0)), (3, .int (nI 1)), (0, .ref h), (1, .int (nI x1)), (2, .int (nI q))]) hx hb dX3_different_15 hl (by decide) rfl (fun ls hl => ?_)
      refine lz_loop (σ := Nat × Nat) (μ := fun X_ => match X_ with | (fl, g) => q - g) (Inv := fun X_ H locs ls => match X_ with | (fl, g) => (g ≤ q) ∧ (fl < 2) ∧ ((fl = 1 ∧ ∀ j, j < g → K j ≠ K q) ∨ (fl = 0 ∧ ∃ j, j < g ∧ K j = K q)) ∧ va_P (dC, dI) vwCl [(h, .inr (2, [.ref k, .ref t, .int (nI n), .ref k2, .ref t2])), (k, .inl (cA, 500, .inl K)), (t, .inl (cB, 500, .inl T)), (k2, .inl (cC, 500, .inl NK)), (t2, .inl (cD, 500, .inl NT))] H ∧ va_D A [(h, .inr (2, [.ref k, .ref t, .int (nI n), .ref k2, .ref t2])), (k, .inl (cA, 500, .inl K)), (t, .inl (cB, 500, .inl T)), (k2, .inl (cC, 500, .inl NK)), (t2, .inl (cD, 500, .inl NT))] ∧ va_S A s.heap H locs ∧ lv_has ls 5 [(0, .ref h), (1, .int (nI x1)), (2, .int (nI q)), (3, .int (nI fl)), (4, .int (nI g))]) ?_ (1, 0) _ _ _ ?_
      · rintro ⟨fl, g⟩ ihf H locs ls ⟨vf0, vf1, vf2, hP, hD, hS, hl⟩
        refine lv_iload hx hb dX3_different_17 (lv_at hl 4 rfl) ?_
        refine lv_iload_n hx hb dX3_different_19 rfl (lv_at hl 2 rfl) ?_
        refine lz_icmp_ge (tgt := 55) (by omega) (by omega) hx hb dX3_different_20 (by decide) (fun c20 => ?_) (fun c20 => ?_)
        · refine lv_iload_n hx hb dX3_different_55 rfl (lv_at hl 3 rfl) ?_
          refine lz_if_eq (tgt := 65) (by omega) hx hb dX3_different_56 (by decide) (fun c56 => ?_) (fun c56 => ?_)
          · refine lv_iload_n hx hb dX3_different_65 rfl (lv_at hl 1 rfl) ?_
            refine lv_istore_n (lv' := [(1, .int (nI x1)), (0, .ref h), (2, .int (nI q)), (3, .int (nI fl)), (4, .int (nI g))]) hx hb dX3_different_66 rfl hl (by decide) rfl (fun ls hl => ?_)
            refine lv_iinc (v := (nI (q + 1))) (lv' := [(2, .int (nI (q + 1))), (1, .int (nI x1)), (0, .ref h), (3, .int (nI fl)), (4, .int (nI g))]) hx hb dX3_different_67 hl (k := 2) rfl (by first | exact nI_add q 1 | (rw [← nI_add]; rfl)) (by decide) rfl (fun ls hl => ?_)
            refine lv_goto (tgt := 4) hx hb dX3_different_70 (by decide) ?_
            exact ihe (x1, (q + 1)) (by show n - (q + 1) < n - q; omega) _ _ _ ⟨by omega, by rw [cn_sf (P := fun j => ¬ ∃ i, i < j ∧ K i = K j) (by omega) (fun z => (vf2.elim (fun y => by omega) (fun y => by obtain ⟨y0, i9, y1, y2⟩ := y; exact z ⟨i9, by omega, y2⟩)))]; exact ve1, hP, hD, hS, lv_sub hl [2, 1, 0] rfl⟩
          · refine lv_iload_n hx hb dX3_different_59 rfl (lv_at hl 1 rfl) ?_
            refine lv_iconst (v := (nI 1)) hx hb dX3_different_60 (by decide) ?_
            refine lv_iadd hx hb dX3_different_61 ?_
            refine lz_top (y := (nI (x1 + 1))) (nI_add _ _) ?_
            refine lv_goto (tgt := 66) hx hb dX3_different_62 (by decide) ?_
            refine lv_istore_n (lv' := [(1, .int (nI (x1 + 1))), (0, .ref h), (2, .int (nI q)), (3, .int (nI fl)), (4, .int (nI g))]) hx hb dX3_different_66 rfl hl (by decide) rfl (fun ls hl => ?_)
            refine lv_iinc (v := (nI (q + 1))) (lv' := [(2, .int (nI (q + 1))), (1, .int (nI (x1 + 1))), (0, .ref h), (3, .int (nI fl)), (4, .int (nI g))]) hx hb dX3_different_67 hl (k := 2) rfl (by first | exact nI_add q 1 | (rw [← nI_add]; rfl)) (by decide) rfl (fun ls hl => ?_)
            refine lv_goto (tgt := 4) hx hb dX3_different_70 (by decide) ?_
            exact ihe ((x1 + 1), (q + 1)) (by show n - (q + 1) < n - q; omega) _ _ _ ⟨by omega, by rw [cn_st (P := fun j => ¬ ∃ i, i < j ∧ K i = K j) (by omega) (fun z => (vf2.elim (fun y => by obtain ⟨i9, y1, y2⟩ := z; exact y.2 i9 (by omega) y2) (fun y => c56 y.1))), ← ve1], hP, hD, hS, lv_sub hl [2, 1, 0] rfl⟩
        · refine lv_iload_n hx hb dX3_different_23 rfl (lv_at hl 3 rfl) ?_
          refine lz_if_eq (tgt := 47) (by omega) hx hb dX3_different_24 (by decide) (fun c24 => ?_) (fun c24 => ?_)
          · refine lv_iconst (v := (nI 0)) hx hb dX3_different_47 (by decide) ?_
            refine lv_istore_n (lv' := [(3, .int (nI 0)), (0, .ref h), (1, .int (nI x1)), (2, .int (nI q)), (4, .int (nI g))]) hx hb dX3_different_48 rfl hl (by decide) rfl (fun ls hl => ?_)
            refine lv_iinc (v := (nI (g + 1))) (lv' := [(4, .int (nI (g + 1))), (3, .int (nI 0)), (0, .ref h), (1, .int (nI x1)), (2, .int (nI q))]) hx hb dX3_different_49 hl (k := 4) rfl (by first | exact nI_add g 1 | (rw [← nI_add]; rfl)) (by decide) rfl (fun ls hl => ?_)
            refine lv_goto (tgt := 17) hx hb dX3_different_52 (by decide) ?_
            exact ihf (0, (g + 1)) (by show q - (g + 1) < q - g; omega) _ _ _ ⟨by omega, by omega, Or.inr ⟨rfl, vf2.elim (fun y => by omega) (fun y => by obtain ⟨y0, i9, y1, y2⟩ := y; exact ⟨i9, by omega, y2⟩)⟩, hP, hD, hS, lv_sub hl [2, 3, 4, 1, 0] rfl⟩
          · refine lv_aload_n hx hb dX3_different_27 rfl (lv_at hl 0 rfl) ?_
            refine va_get (D := (dC, dI)) (ci := 2) (v := .ref k) (C := RX3) (T := TX3) (N := 5) hx hb hts (by decide +kernel) hown hK hP 0 rfl rfl 0 (by decide) (hts (.fieldLink RX3 7 "RowPressModel" "keys" "[I") (by decide +kernel)) (fun _ h9 => h9) rfl dX3_different_28 ?_
            refine lv_iload hx hb dX3_different_31 (lv_at hl 4 rfl) ?_
            refine lz_iald hx hb hK hP 1 0 rfl rfl (j := g) (by omega) (by decide) dX3_different_33 ?_
            refine lv_aload_n hx hb dX3_different_34 rfl (lv_at hl 0 rfl) ?_
            refine va_get (D := (dC, dI)) (ci := 2) (v := .ref k) (C := RX3) (T := TX3) (N := 5) hx hb hts (by decide +kernel) hown hK hP 0 rfl rfl 0 (by decide) (hts (.fieldLink RX3 7 "RowPressModel" "keys" "[I") (by decide +kernel)) (fun _ h9 => h9) rfl dX3_different_35 ?_
            refine lv_iload_n hx hb dX3_different_38 rfl (lv_at hl 2 rfl) ?_
            refine lz_iald hx hb hK hP 1 0 rfl rfl (j := q) (by omega) (by decide) dX3_different_39 ?_
            refine lv_icmp_eq (tgt := 47) hx hb dX3_different_40 (by decide) (fun c40 => ?_) (fun c40 => ?_)
            · refine lv_iconst (v := (nI 0)) hx hb dX3_different_47 (by decide) ?_
              refine lv_istore_n (lv' := [(3, .int (nI 0)), (0, .ref h), (1, .int (nI x1)), (2, .int (nI q)), (4, .int (nI g))]) hx hb dX3_different_48 rfl hl (by decide) rfl (fun ls hl => ?_)
              refine lv_iinc (v := (nI (g + 1))) (lv' := [(4, .int (nI (g + 1))), (3, .int (nI 0)), (0, .ref h), (1, .int (nI x1)), (2, .int (nI q))]) hx hb dX3_different_49 hl (k := 4) rfl (by first | exact nI_add g 1 | (rw [← nI_add]; rfl)) (by decide) rfl (fun ls hl => ?_)
              refine lv_goto (tgt := 17) hx hb dX3_different_52 (by decide) ?_
              exact ihf (0, (g + 1)) (by show q - (g + 1) < q - g; omega) _ _ _ ⟨by omega, by omega, Or.inr ⟨rfl, g, by omega, c40⟩, hP, hD, hS, lv_sub hl [2, 3, 4, 1, 0] rfl⟩
            · refine lv_iconst (v := (nI 1)) hx hb dX3_different_43 (by decide) ?_
              refine lv_goto (tgt := 48) hx hb dX3_different_44 (by decide) ?_
              refine lv_istore_n (lv' := [(3, .int (nI 1)), (0, .ref h), (1, .int (nI x1)), (2, .int (nI q)), (4, .int (nI g))]) hx hb dX3_different_48 rfl hl (by decide) rfl (fun ls hl => ?_)
              refine lv_iinc (v := (nI (g + 1))) (lv' := [(4, .int (nI (g + 1))), (3, .int (nI 1)), (0, .ref h), (1, .int (nI x1)), (2, .int (nI q))]) hx hb dX3_different_49 hl (k := 4) rfl (by first | exact nI_add g 1 | (rw [← nI_add]; rfl)) (by decide) rfl (fun ls hl => ?_)
              refine lv_goto (tgt := 17) hx hb dX3_different_52 (by decide) ?_
              exact ihf (1, (g + 1)) (by show q - (g + 1) < q - g; omega) _ _ _ ⟨by omega, by omega, Or.inl ⟨rfl, vf2.elim (fun y => lt_s y.2 c40) (fun y => absurd y.1 c24)⟩, hP, hD, hS, lv_sub hl [2, 3, 4, 1, 0] rfl⟩
      · exact ⟨Nat.zero_le _, by decide, Or.inl ⟨rfl, fun j h9 => absurd h9 (Nat.not_lt_zero j)⟩, hP, hD, hS, lv_sub hl [2, 3, 4, 1, 0] rfl⟩
  · exact ⟨Nat.zero_le _, cn_s0, hP, hD, hS, lv_sub hl [2, 1, 0] rfl⟩
set_option maxHeartbeats 4000000 in
set_option maxRecDepth 100000 in
theorem c_X3_count (l : Launch) (dC : Nat → ClassId) (dI : Nat → Nat → Nat) (sz : Nat) (h k t k2 t2 : Nat) (cA cB cC cD : ClassId) (n : Nat) (K T NK NT : Nat → Int32) (hn : n ≤ 500) (x : Int32) : Met l yX3_count wsX3_count ({ frames := 1, cells := 0, slots := 0, locals := 24 }) (va_Pc [.ref h, .int x] (fun U => U.heap.size = sz ∧ va_P (dC, dI) vwCl [(h, .inr (2, [.ref k, .ref t, .int (nI n), .ref k2, .ref t2])), (k, .inl (cA, 500, .inl K)), (t, .inl (cB, 500, .inl T)), (k2, .inl (cC, 500, .inl NK)), (t2, .inl (cD, 500, .inl NT))] U.heap ∧ va_K (dC, dI) vwCl [(cA, .int), (cB, .int), (cC, .int), (cD, .int)] U ∧ va_D (fun _ => True) [(h, .inr (2, [.ref k, .ref t, .int (nI n), .ref k2, .ref t2])), (k, .inl (cA, 500, .inl K)), (t, .inl (cB, 500, .inl T)), (k2, .inl (cC, 500, .inl NK)), (t2, .inl (cD, 500, .inl NT))])) (va_Qi (fun r u => Qcou n (mZ K T) x r ∧ u = (K, T, n, NK, NT)) (atM dC dI (va_A [(h, .inr (2, [.ref k, .ref t, .int (nI n), .ref k2, .ref t2])), (k, .inl (cA, 500, .inl K)), (t, .inl (cB, 500, .inl T)), (k2, .inl (cC, 500, .inl NK)), (t2, .inl (cD, 500, .inl NT))] sz) h k t k2 t2 cA cB cC cD) (va_A [(h, .inr (2, [.ref k, .ref t, .int (nI n), .ref k2, .ref t2])), (k, .inl (cA, 500, .inl K)), (t, .inl (cB, 500, .inl T)), (k2, .inl (cC, 500, .inl NK)), (t2, .inl (cD, 500, .inl NT))] sz)) 0 0 (va_A [(h, .inr (2, [.ref k, .ref t, .int (nI n), .ref k2, .ref t2])), (k, .inl (cA, 500, .inl K)), (t, .inl (cB, 500, .inl T)), (k2, .inl (cC, 500, .inl NK)), (t2, .inl (cD, 500, .inl NT))] sz) := by
  refine Met.ofW (cc := cX3_count) (maxL := 2) (ret := (some .int)) (by decide) rfl ?_
  intro p e s m args below meth c s₁ B hml hv
  obtain ⟨rfl, hsz, hP, hK, hD0⟩ := hv
  have hx := B.exec
  have hb := B.bytes
  have hr := B.returns
  have hts := atoms_spec (ws := wsX3_count) B.pre
  have hown : s.vm.findClass RX3 = some m.cls := findClass_of_methodNamed B.named
  have hlocks := B.notSynchronized
  subst hsz
  have hD := hD0.self (sz := s.heap.size)
  generalize hAe : va_A [(h, .inr (2, [.ref k, .ref t, .int (nI n), .ref k2, .ref t2])), (k, .inl (cA, 500, .inl K)), (t, .inl (cB, 500, .inl T)), (k2, .inl (cC, 500, .inl NK)), (t2, .inl (cD, 500, .inl NT))] s.heap.size = A at hD ⊢
  have hA : ∀ q : Nat, s.heap.size ≤ q → A q := fun q h => by rw [← hAe]; exact Or.inr h
  have hS : va_S A s.heap s.heap [] := va_S.rf
  have hP : va_P (dC, dI) vwCl [(h, .inr (2, [.ref k, .ref t, .int (nI n), .ref k2, .ref t2])), (k, .inl (cA, 500, .inl K)), (t, .inl (cB, 500, .inl T)), (k2, .inl (cC, 500, .inl NK)), (t2, .inl (cD, 500, .inl NT))] s.heap := hP
  have hl := lv_entry ([.ref h, .int x]) (n := 2) (Nat.le_of_ble_eq_true rfl)
  rw [lg_entry_eq]
  generalize (lg_sl ([.ref h, .int x]) ++ List.replicate (2 - (lg_sl ([.ref h, .int x])).length) Slot.unset).toArray = ls at hl ⊢
  have hl : lv_has ls 2 [(0, .ref h), (1, .int x)] := hl
  by_cases e0 : x = nI 0
  · subst e0
    refine lv_iload_n hx hb dX3_count_0 rfl (lv_at hl 1 rfl) ?_
    refine lv_tableIn (tgt := 28) (off := 27) hx hb dX3_count_1 (by decide) (by decide) (by decide) (by decide) ?_
    refine lv_aload_n hx hb dX3_count_28 rfl (lv_at hl 0 rfl) ?_
    refine va_get (D := (dC, dI)) (ci := 2) (v := .int (nI n)) (C := RX3) (T := TX3) (N := 5) hx hb hts (by decide +kernel) hown hK hP 0 rfl rfl 2 (by decide) (hts (.fieldLink RX3 22 "RowPressModel" "many" "I") (by decide +kernel)) (fun _ h9 => h9) rfl dX3_count_29 ?_
    exact W.iret (v := (nI n)) hx hb hr (fun tS ht hW => ⟨⟨(nI n), (K, T, n, NK, NT), rfl, ⟨Or.inl ⟨rfl, rfl⟩, rfl⟩, by rw [ht]; exact hP, va_K.moved hW.alike hK, hD⟩, hS.F ht⟩) hS.2.2 dX3_count_32
  by_cases e1 : x = nI 1
  · subst e1
    refine lv_iload_n hx hb dX3_count_0 rfl (lv_at hl 1 rfl) ?_
    refine lv_tableIn (tgt := 33) (off := 32) hx hb dX3_count_1 (by decide) (by decide) (by decide) (by decide) ?_
    refine lv_aload_n hx hb dX3_count_33 rfl (lv_at hl 0 rfl) ?_
    have hPc := hP.sub (ws' := [(h, .inr (2, [.ref k, .ref t, .int (nI n), .ref k2, .ref t2])), (k, .inl (cA, 500, .inl K)), (t, .inl (cB, 500, .inl T)), (k2, .inl (cC, 500, .inl NK)), (t2, .inl (cD, 500, .inl NT))]) [0, 1, 2, 3, 4] rfl
    have hDc := hD.sub (ws' := [(h, .inr (2, [.ref k, .ref t, .int (nI n), .ref k2, .ref t2])), (k, .inl (cA, 500, .inl K)), (t, .inl (cB, 500, .inl T)), (k2, .inl (cC, 500, .inl NK)), (t2, .inl (cD, 500, .inl NT))]) [0, 1, 2, 3, 4] (by decide) rfl
    have hKc := hK.sub (tys' := [(cA, .int), (cB, .int), (cC, .int), (cD, .int)]) [0, 1, 2, 3] rfl
    have hFc := va_free (wc := [(h, .inr (2, [.ref k, .ref t, .int (nI n), .ref k2, .ref t2])), (k, .inl (cA, 500, .inl K)), (t, .inl (cB, 500, .inl T)), (k2, .inl (cC, 500, .inl NK)), (t2, .inl (cD, 500, .inl NT))]) hD hS hA [0, 1, 2, 3, 4] rfl
    refine va_calli (va_runV (As := []) (rest := []) ⟨hx, hb, hml, hown, hts⟩ (c_X3_stretches l dC dI s.heap.size h k t k2 t2 cA cB cC cD n K T NK NT hn) (cwV 0 hts gX3_count_X3_stretches rfl rfl rfl (by decide +kernel) ⟨Nat.le_of_ble_eq_true rfl, Nat.le_of_ble_eq_true rfl⟩) ⟨fun a U g mk q => by obtain ⟨q0, q1, qP, qK, qD⟩ := q; exact ⟨q0, q1, qP, va_K.moved (u := U) (U := U.calling g mk a) (Vm.Alike.refl U.vm) qK, qD⟩, va_recv hKc hPc (ci := 2) (q0 := 0) rfl rfl, fun U hU hW => ⟨rfl, by rw [hU], by rw [hU]; exact hPc, va_K.moved hW.alike hKc, hDc.weaken (fun _ _ _ _ => trivial)⟩⟩ rfl rfl hl.1 rfl (lv_room (Nat.le_of_ble_eq_true rfl)) dX3_count_34 ⟨Nat.le_of_ble_eq_true rfl, Nat.le_of_ble_eq_true rfl⟩) hS (fun q _ h => hFc q h) hFc (fun r_1 u tS H1 locs ht hvm hw hB hz1 hk1 hS => ?_)
    obtain ⟨hq, rfl⟩ := hw
    obtain ⟨hP1, hK1, hD1⟩ := hB
    rw [ht] at hP1
    obtain ⟨hP, hD⟩ := va_join (wr := []) (w1 := [(h, .inr (2, [.ref k, .ref t, .int (nI n), .ref k2, .ref t2])), (k, .inl (cA, 500, .inl K)), (t, .inl (cB, 500, .inl T)), (k2, .inl (cC, 500, .inl NK)), (t2, .inl (cD, 500, .inl NT))]) hP hD [0, 1, 2, 3, 4] [] rfl rfl (by decide) (by decide) hk1 hFc hP1 hD1
    generalize H1 = H at hP hS ⊢
    have hP : va_P (dC, dI) vwCl [(h, .inr (2, [.ref k, .ref t, .int (nI n), .ref k2, .ref t2])), (k, .inl (cA, 500, .inl K)), (t, .inl (cB, 500, .inl T)), (k2, .inl (cC, 500, .inl NK)), (t2, .inl (cD, 500, .inl NT))] H := hP
    have hD : va_D A [(h, .inr (2, [.ref k, .ref t, .int (nI n), .ref k2, .ref t2])), (k, .inl (cA, 500, .inl K)), (t, .inl (cB, 500, .inl T)), (k2, .inl (cC, 500, .inl NK)), (t2, .inl (cD, 500, .inl NT))] := hD
    exact W.iret (v := r_1) hx hb hr (fun tS ht hW => ⟨⟨r_1, (K, T, n, NK, NT), rfl, ⟨Or.inr (Or.inl ⟨rfl, hq⟩), rfl⟩, by rw [ht]; exact hP, va_K.moved hW.alike hK, hD⟩, hS.F ht⟩) hS.2.2 dX3_count_37
  by_cases e2 : x = nI 2
  · subst e2
    refine lv_iload_n hx hb dX3_count_0 rfl (lv_at hl 1 rfl) ?_
    refine lv_tableIn (tgt := 38) (off := 37) hx hb dX3_count_1 (by decide) (by decide) (by decide) (by decide) ?_
    refine lv_aload_n hx hb dX3_count_38 rfl (lv_at hl 0 rfl) ?_
    have hPc := hP.sub (ws' := [(h, .inr (2, [.ref k, .ref t, .int (nI n), .ref k2, .ref t2])), (k, .inl (cA, 500, .inl K)), (t, .inl (cB, 500, .inl T)), (k2, .inl (cC, 500, .inl NK)), (t2, .inl (cD, 500, .inl NT))]) [0, 1, 2, 3, 4] rfl
    have hDc := hD.sub (ws' := [(h, .inr (2, [.ref k, .ref t, .int (nI n), .ref k2, .ref t2])), (k, .inl (cA, 500, .inl K)), (t, .inl (cB, 500, .inl T)), (k2, .inl (cC, 500, .inl NK)), (t2, .inl (cD, 500, .inl NT))]) [0, 1, 2, 3, 4] (by decide) rfl
    have hKc := hK.sub (tys' := [(cA, .int), (cB, .int), (cC, .int), (cD, .int)]) [0, 1, 2, 3] rfl
    have hFc := va_free (wc := [(h, .inr (2, [.ref k, .ref t, .int (nI n), .ref k2, .ref t2])), (k, .inl (cA, 500, .inl K)), (t, .inl (cB, 500, .inl T)), (k2, .inl (cC, 500, .inl NK)), (t2, .inl (cD, 500, .inl NT))]) hD hS hA [0, 1, 2, 3, 4] rfl
    refine va_calli (va_runV (As := []) (rest := []) ⟨hx, hb, hml, hown, hts⟩ (c_X3_different l dC dI s.heap.size h k t k2 t2 cA cB cC cD n K T NK NT hn) (cwV 0 hts gX3_count_X3_different rfl rfl rfl (by decide +kernel) ⟨Nat.le_of_ble_eq_true rfl, Nat.le_of_ble_eq_true rfl⟩) ⟨fun a U g mk q => by obtain ⟨q0, q1, qP, qK, qD⟩ := q; exact ⟨q0, q1, qP, va_K.moved (u := U) (U := U.calling g mk a) (Vm.Alike.refl U.vm) qK, qD⟩, va_recv hKc hPc (ci := 2) (q0 := 0) rfl rfl, fun U hU hW => ⟨rfl, by rw [hU], by rw [hU]; exact hPc, va_K.moved hW.alike hKc, hDc.weaken (fun _ _ _ _ => trivial)⟩⟩ rfl rfl hl.1 rfl (lv_room (Nat.le_of_ble_eq_true rfl)) dX3_count_39 ⟨Nat.le_of_ble_eq_true rfl, Nat.le_of_ble_eq_true rfl⟩) hS (fun q _ h => hFc q h) hFc (fun r_2 u tS H1 locs ht hvm hw hB hz1 hk1 hS => ?_)
    obtain ⟨hq, rfl⟩ := hw
    obtain ⟨hP1, hK1, hD1⟩ := hB
    rw [ht] at hP1
    obtain ⟨hP, hD⟩ := va_join (wr := []) (w1 := [(h, .inr (2, [.ref k, .ref t, .int (nI n), .ref k2, .ref t2])), (k, .inl (cA, 500, .inl K)), (t, .inl (cB, 500, .inl T)), (k2, .inl (cC, 500, .inl NK)), (t2, .inl (cD, 500, .inl NT))]) hP hD [0, 1, 2, 3, 4] [] rfl rfl (by decide) (by decide) hk1 hFc hP1 hD1
    generalize H1 = H at hP hS ⊢
    have hP : va_P (dC, dI) vwCl [(h, .inr (2, [.ref k, .ref t, .int (nI n), .ref k2, .ref t2])), (k, .inl (cA, 500, .inl K)), (t, .inl (cB, 500, .inl T)), (k2, .inl (cC, 500, .inl NK)), (t2, .inl (cD, 500, .inl NT))] H := hP
    have hD : va_D A [(h, .inr (2, [.ref k, .ref t, .int (nI n), .ref k2, .ref t2])), (k, .inl (cA, 500, .inl K)), (t, .inl (cB, 500, .inl T)), (k2, .inl (cC, 500, .inl NK)), (t2, .inl (cD, 500, .inl NT))] := hD
    exact W.iret (v := r_2) hx hb hr (fun tS ht hW => ⟨⟨r_2, (K, T, n, NK, NT), rfl, ⟨Or.inr (Or.inr (Or.inl ⟨rfl, hq⟩)), rfl⟩, by rw [ht]; exact hP, va_K.moved hW.alike hK, hD⟩, hS.F ht⟩) hS.2.2 dX3_count_42
  refine lv_iload_n hx hb dX3_count_0 rfl (lv_at hl 1 rfl) ?_
  refine lv_tableOut (tgt := 43) hx hb dX3_count_1 (tb_out e0 e1 e2) (by decide) ?_
  refine lv_iconst (v := (-1)) hx hb dX3_count_43 (by decide) ?_
  exact W.iret (v := (-1)) hx hb hr (fun tS ht hW => ⟨⟨(-1), (K, T, n, NK, NT), rfl, ⟨Or.inr (Or.inr (Or.inr ⟨e0, e1, e2, rfl⟩)), rfl⟩, by rw [ht]; exact hP, va_K.moved hW.alike hK, hD⟩, hS.F ht⟩) hS.2.2 dX3_count_44
set_option maxHeartbeats 4000000 in
set_option maxRecDepth 100000 in
theorem c_X3_check (l : Launch) (dC : Nat → ClassId) (dI : Nat → Nat → Nat) (sz : Nat) (h k t k2 t2 : Nat) (cA cB cC cD : ClassId) (n : Nat) (K T NK NT : Nat → Int32) (hn : n ≤ 500) : Met l yX3_check wsX3_check ({ frames := 0, cells := 0, slots := 0, locals := 0 }) (va_Pc [.ref h] (fun U => U.heap.size = sz ∧ va_P (dC, dI) vwCl [(h, .inr (2, [.ref k, .ref t, .int (nI n), .ref k2, .ref t2])), (k, .inl (cA, 500, .inl K)), (t, .inl (cB, 500, .inl T)), (k2, .inl (cC, 500, .inl NK)), (t2, .inl (cD, 500, .inl NT))] U.heap ∧ va_K (dC, dI) vwCl [(cA, .int), (cB, .int), (cC, .int), (cD, .int)] U ∧ va_D (fun _ => True) [(h, .inr (2, [.ref k, .ref t, .int (nI n), .ref k2, .ref t2])), (k, .inl (cA, 500, .inl K)), (t, .inl (cB, 500, .inl T)), (k2, .inl (cC, 500, .inl NK)), (t2, .inl (cD, 500, .inl NT))])) (va_Qi (fun r u => r = 1 ∧ u = (K, T, n, NK, NT)) (atM dC dI (va_A [(h, .inr (2, [.ref k, .ref t, .int (nI n), .ref k2, .ref t2])), (k, .inl (cA, 500, .inl K)), (t, .inl (cB, 500, .inl T)), (k2, .inl (cC, 500, .inl NK)), (t2, .inl (cD, 500, .inl NT))] sz) h k t k2 t2 cA cB cC cD) (va_A [(h, .inr (2, [.ref k, .ref t, .int (nI n), .ref k2, .ref t2])), (k, .inl (cA, 500, .inl K)), (t, .inl (cB, 500, .inl T)), (k2, .inl (cC, 500, .inl NK)), (t2, .inl (cD, 500, .inl NT))] sz)) 0 0 (va_A [(h, .inr (2, [.ref k, .ref t, .int (nI n), .ref k2, .ref t2])), (k, .inl (cA, 500, .inl K)), (t, .inl (cB, 500, .inl T)), (k2, .inl (cC, 500, .inl NK)), (t2, .inl (cD, 500, .inl NT))] sz) := by
  refine Met.ofW (cc := cX3_check) (maxL := 1) (ret := (some .int)) (by decide) rfl ?_
  intro p e s m args below meth c s₁ B hml hv
  obtain ⟨rfl, hsz, hP, hK, hD0⟩ := hv
  have hx := B.exec
  have hb := B.bytes
  have hr := B.returns
  have hts := atoms_spec (ws := wsX3_check) B.pre
  have hown : s.vm.findClass RX3 = some m.cls := findClass_of_methodNamed B.named
  have hlocks := B.notSynchronized
  subst hsz
  have hD := hD0.self (sz := s.heap.size)
  generalize hAe : va_A [(h, .inr (2, [.ref k, .ref t, .int (nI n), .ref k2, .ref t2])), (k, .inl (cA, 500, .inl K)), (t, .inl (cB, 500, .inl T)), (k2, .inl (cC, 500, .inl NK)), (t2, .inl (cD, 500, .inl NT))] s.heap.size = A at hD ⊢
  have hA : ∀ q : Nat, s.heap.size ≤ q → A q := fun q h => by rw [← hAe]; exact Or.inr h
  have hS : va_S A s.heap s.heap [] := va_S.rf
  have hP : va_P (dC, dI) vwCl [(h, .inr (2, [.ref k, .ref t, .int (nI n), .ref k2, .ref t2])), (k, .inl (cA, 500, .inl K)), (t, .inl (cB, 500, .inl T)), (k2, .inl (cC, 500, .inl NK)), (t2, .inl (cD, 500, .inl NT))] s.heap := hP
  have hl := lv_entry ([.ref h]) (n := 1) (Nat.le_of_ble_eq_true rfl)
  rw [lg_entry_eq]
  generalize (lg_sl ([.ref h]) ++ List.replicate (1 - (lg_sl ([.ref h])).length) Slot.unset).toArray = ls at hl ⊢
  have hl : lv_has ls 1 [(0, .ref h)] := hl
  refine lv_iconst (v := (nI 1)) hx hb dX3_check_0 (by decide) ?_
  exact W.iret (v := (nI 1)) hx hb hr (fun tS ht hW => ⟨⟨(nI 1), (K, T, n, NK, NT), rfl, ⟨rfl, rfl⟩, by rw [ht]; exact hP, va_K.moved hW.alike hK, hD⟩, hS.F ht⟩) hS.2.2 dX3_check_1
