set_option maxHeartbeats 4000000 in
set_option maxRecDepth 100000 in
theorem c_X1_sortInPlace (l : Launch) (dC : Nat → ClassId) (dI : Nat → Nat → Nat) (sz : Nat) (r k t : Nat) (cA cB : ClassId) (n : Nat) (cm wr : Int32) (K T : Nat → Int32) (a b o : Nat) (hab : a ≤ b) (hb5 : b ≤ 500) (ho : o < 4) : Met l yX1_sortInPlace wsX1_sortInPlace ({ frames := 13, cells := 0, slots := 0, locals := 354 }) (va_Pc [.ref r, .int (nI a), .int (nI b), .int (nI o)] (fun U => U.heap.size = sz ∧ va_P (dC, dI) vwCl [(r, .inr (0, [.ref k, .ref t, .int (nI n), .int cm, .int wr])), (k, .inl (cA, 500, .inl K)), (t, .inl (cB, 500, .inl T))] U.heap ∧ va_K (dC, dI) vwCl [(cA, .int), (cB, .int)] U ∧ va_D (fun _ => True) [(r, .inr (0, [.ref k, .ref t, .int (nI n), .int cm, .int wr])), (k, .inl (cA, 500, .inl K)), (t, .inl (cB, 500, .inl T))])) (va_Qv (fun u => (∀ i, i < a ∨ b ≤ i → mZ u.1 u.2.1 i = mZ K T i) ∧ srt (mk o) (mZ u.1 u.2.1) a b ∧ sm (mk o) (sg (mZ K T) a b) (sg (mZ u.1 u.2.1) a b) ∧ n = u.2.2.1 ∧ (∃ g, cO 8 (b - a) g ∧ g ≤ 40000 ∧ u.2.2.2.1 = cm + nI g) ∧ ∃ g, cO 40 (b - a) g ∧ g ≤ 90000 ∧ u.2.2.2.2 = wr + nI g) (atR dC dI (va_A [(r, .inr (0, [.ref k, .ref t, .int (nI n), .int cm, .int wr])), (k, .inl (cA, 500, .inl K)), (t, .inl (cB, 500, .inl T))] sz) r k t cA cB) (va_A [(r, .inr (0, [.ref k, .ref t, .int (nI n), .int cm, .int wr])), (k, .inl (cA, 500, .inl K)), (t, .inl (cB, 500, .inl T))] sz)) 0 0 (va_A [(r, .inr (0, [.ref k, .ref t, .int (nI n), .int cm, .int wr])), (k, .inl (cA, 500, .inl K)), (t, .inl (cB, 500, .inl T))] sz) := by
  refine Met.ofW (cc := cX1_sortInPlace) (maxL := 7) (ret := none) (by decide) rfl ?_
  intro p e s m args below meth c s₁ B hml hv
  obtain ⟨rfl, hsz, hP, hK, hD0⟩ := hv
  have hx := B.exec
  have hb := B.bytes
  have hr := B.returns
  have hts := atoms_spec (ws := wsX1_sortInPlace) B.pre
  have hown : s.vm.findClass RX1 = some m.cls := findClass_of_methodNamed B.named
  have hlocks := B.notSynchronized
  subst hsz
  have hD := hD0.self (sz := s.heap.size)
  generalize hAe : va_A [(r, .inr (0, [.ref k, .ref t, .int (nI n), .int cm, .int wr])), (k, .inl (cA, 500, .inl K)), (t, .inl (cB, 500, .inl T))] s.heap.size = A at hD ⊢
  have hA : ∀ q : Nat, s.heap.size ≤ q → A q := fun q h => by rw [← hAe]; exact Or.inr h
  have hS : va_S A s.heap s.heap [] := va_S.rf
  have hP : va_P (dC, dI) vwCl [(r, .inr (0, [.ref k, .ref t, .int (nI n), .int cm, .int wr])), (k, .inl (cA, 500, .inl K)), (t, .inl (cB, 500, .inl T))] s.heap := hP
  have hl := lv_entry ([.ref r, .int (nI a), .int (nI b), .int (nI o)]) (n := 7) (Nat.le_of_ble_eq_true rfl)
  rw [lg_entry_eq]
  generalize (lg_sl ([.ref r, .int (nI a), .int (nI b), .int (nI o)]) ++ List.replicate (7 - (lg_sl ([.ref r, .int (nI a), .int (nI b), .int (nI o)])).length) Slot.unset).toArray = ls at hl ⊢
  have hl : lv_has ls 7 [(0, .ref r), (1, .int (nI a)), (2, .int (nI b)), (3, .int (nI o))] := hl
  refine lv_iconst (v := (nI 1)) hx hb dX1_sortInPlace_0 (by decide) ?_
  refine lv_istore (lv' := [(4, .int (nI 1)), (0, .ref r), (1, .int (nI a)), (2, .int (nI b)), (3, .int (nI o))]) hx hb dX1_sortInPlace_1 hl (by decide) rfl (fun ls hl => ?_)
  refine lz_loop (σ := Nat × (Nat → Int32) × (Nat → Int32) × Int32 × Int32 × Nat × Nat × Nat) (μ := fun X_ => match X_ with | (wd, K1, T1, c1, w1, j, gc, gw) => b - a - wd) (Inv := fun X_ H locs ls => match X_ with | (wd, K1, T1, c1, w1, j, gc, gw) => (wd = 2 ^ j) ∧ (j = 0 ∨ 2 ^ j < 2 * (b - a)) ∧ (bs (mk o) (mZ K1 T1) wd a b) ∧ (∀ i, i < a ∨ b ≤ i → mZ K1 T1 i = mZ K T i) ∧ (sm (mk o) (sg (mZ K T) a b) (sg (mZ K1 T1) a b)) ∧ (c1 = cm + nI gc) ∧ (gc ≤ 4 * (b - a) * j) ∧ (w1 = wr + nI gw) ∧ (gw ≤ 18 * (b - a) * j) ∧ (j ≤ 9) ∧ (wd < 1024) ∧ va_P (dC, dI) vwCl [(r, .inr (0, [.ref k, .ref t, .int (nI n), .int c1, .int w1])), (k, .inl (cA, 500, .inl K1)), (t, .inl (cB, 500, .inl T1))] H ∧ va_D A [(r, .inr (0, [.ref k, .ref t, .int (nI n), .int c1, .int w1])), (k, .inl (cA, 500, .inl K1)), (t, .inl (cB, 500, .inl T1))] ∧ va_S A s.heap H locs ∧ lv_has ls 7 [(0, .ref r), (1, .int (nI a)), (2, .int (nI b)), (3, .int (nI o)), (4, .int (nI wd))]) ?_ (1, K, T, cm, wr, 0, 0, 0) _ _ _ ?_
  · rintro ⟨wd, K1, T1, c1, w1, j, gc, gw⟩ ihh H locs ls ⟨vh0, vh1, vh2, vh3, vh4, vh5, vh6, vh7, vh8, vh9, vh10, hP, hD, hS, hl⟩
    refine lv_iload hx hb dX1_sortInPlace_3 (lv_at hl 4 rfl) ?_
    refine lv_iload_n hx hb dX1_sortInPlace_5 rfl (lv_at hl 2 rfl) ?_
    refine lv_iload_n hx hb dX1_sortInPlace_6 rfl (lv_at hl 1 rfl) ?_
    refine lv_isub hx hb dX1_sortInPlace_7 ?_
    refine lz_top (y := (nI (b - a))) (pk_sub (by omega)) ?_
    refine lz_icmp_ge (tgt := 72) (by omega) (by omega) hx hb dX1_sortInPlace_8 (by decide) (fun c8 => ?_) (fun c8 => ?_)
    · exact W.vret hx hb hr (fun tS ht hW => ⟨⟨(K1, T1, n, c1, w1), rfl, ⟨vh3, bs_all vh2 (by omega), vh4, rfl, ⟨gc, cO_of vh6 (by decide) vh1, by have hmu : 4 * (b - a) * j ≤ 4 * 500 * 9 := Nat.mul_le_mul (Nat.mul_le_mul_left _ (by omega)) vh9; omega, vh5⟩, gw, cO_of vh8 (by decide) vh1, by have hmu : 18 * (b - a) * j ≤ 18 * 500 * 9 := Nat.mul_le_mul (Nat.mul_le_mul_left _ (by omega)) vh9; omega, vh7⟩, by rw [ht]; exact hP, va_K.moved hW.alike hK, hD⟩, hS.F ht⟩) hS.2.2 dX1_sortInPlace_72
    · refine lv_iload_n hx hb dX1_sortInPlace_11 rfl (lv_at hl 1 rfl) ?_
      refine lv_istore (lv' := [(5, .int (nI a)), (0, .ref r), (1, .int (nI a)), (2, .int (nI b)), (3, .int (nI o)), (4, .int (nI wd))]) hx hb dX1_sortInPlace_12 hl (by decide) rfl (fun ls hl => ?_)
      have hw0 : 0 < wd := by rw [vh0]; exact Nat.two_pow_pos j
      have hj8 : j + 1 ≤ 9 := pw9 (by omega)
      refine lz_loop (σ := Nat × (Nat → Int32) × (Nat → Int32) × Int32 × Int32 × Nat × Nat × Nat) (μ := fun X_ => match X_ with | (ss, K2, T2, c2, w2, q, hc, hwv) => b + wd - ss) (Inv := fun X_ H locs ls => match X_ with | (ss, K2, T2, c2, w2, q, hc, hwv) => (ss = a + q * (2 * wd)) ∧ (pr (mk o) (mZ K2 T2) wd a b q) ∧ (bs (mk o) (mZ K2 T2) wd ss b) ∧ (∀ i, i < a ∨ b ≤ i → mZ K2 T2 i = mZ K T i) ∧ (sm (mk o) (sg (mZ K T) a b) (sg (mZ K2 T2) a b)) ∧ (c2 = cm + nI hc) ∧ (hc ≤ 4 * (b - a) * j + 4 * (min ss b - a)) ∧ (w2 = wr + nI hwv) ∧ (hwv ≤ 18 * (b - a) * j + 18 * (min ss b - a)) ∧ (ss < b + wd) ∧ va_P (dC, dI) vwCl [(r, .inr (0, [.ref k, .ref t, .int (nI n), .int c2, .int w2])), (k, .inl (cA, 500, .inl K2)), (t, .inl (cB, 500, .inl T2))] H ∧ va_D A [(r, .inr (0, [.ref k, .ref t, .int (nI n), .int c2, .int w2])), (k, .inl (cA, 500, .inl K2)), (t, .inl (cB, 500, .inl T2))] ∧ va_S A s.heap H locs ∧ lv_has ls 7 [(0, .ref r), (1, .int (nI a)), (2, .int (nI b)), (3, .int (nI o)), (4, .int (nI wd)), (5, .int (nI ss))]) ?_ (a, K1, T1, c1, w1, 0, gc, gw) _ _ _ ?_
      · rintro ⟨ss, K2, T2, c2, w2, q, hc, hwv⟩ ihi H locs ls ⟨vi0, vi1, vi2, vi3, vi4, vi5, vi6, vi7, vi8, vi9, hP, hD, hS, hl⟩
        refine lv_iload hx hb dX1_sortInPlace_14 (lv_at hl 5 rfl) ?_
        refine lv_iload_n hx hb dX1_sortInPlace_16 rfl (lv_at hl 2 rfl) ?_
        refine lv_iload hx hb dX1_sortInPlace_17 (lv_at hl 4 rfl) ?_
        refine lv_isub hx hb dX1_sortInPlace_19 ?_
        refine lz_top (y := (nI (b - wd))) (pk_sub (by omega)) ?_
        refine lz_icmp_ge (tgt := 63) (by omega) (by omega) hx hb dX1_sortInPlace_20 (by decide) (fun c20 => ?_) (fun c20 => ?_)
        · refine lv_iload hx hb dX1_sortInPlace_63 (lv_at hl 4 rfl) ?_
          refine lv_iconst (v := (nI 2)) hx hb dX1_sortInPlace_65 (by decide) ?_
          refine lv_imul hx hb dX1_sortInPlace_66 ?_
          refine lz_top (y := (nI (wd * 2))) (pk_mul _ _) ?_
          refine lv_istore (lv' := [(4, .int (nI (wd * 2))), (0, .ref r), (1, .int (nI a)), (2, .int (nI b)), (3, .int (nI o)), (5, .int (nI ss))]) hx hb dX1_sortInPlace_67 hl (by decide) rfl (fun ls hl => ?_)
          refine lv_goto (tgt := 3) hx hb dX1_sortInPlace_69 (by decide) ?_
          exact ihh ((wd * 2), K2, T2, c2, w2, (j + 1), hc, hwv) (by show b - a - wd * 2 < b - a - wd; omega) _ _ _ ⟨by rw [Nat.pow_succ, ← vh0], Or.inr (by rw [Nat.pow_succ, ← vh0]; omega), by rw [Nat.mul_comm]; exact bs_end vi0 vi1 vi2 (by omega), vi3, vi4, vi5, by rw [Nat.mul_succ]; omega, vi7, by rw [Nat.mul_succ]; omega, pw9 (by omega), by omega, hP, hD, hS, lv_sub hl [1, 2, 3, 4, 0] rfl⟩
        · refine lv_iload hx hb dX1_sortInPlace_23 (lv_at hl 5 rfl) ?_
          refine lv_iconst (v := (nI 2)) hx hb dX1_sortInPlace_25 (by decide) ?_
          refine lv_iload hx hb dX1_sortInPlace_26 (lv_at hl 4 rfl) ?_
          refine lv_imul hx hb dX1_sortInPlace_28 ?_
          refine lz_top (y := (nI (2 * wd))) (pk_mul _ _) ?_
          refine lv_iadd hx hb dX1_sortInPlace_29 ?_
          refine lz_top (y := (nI (ss + (2 * wd)))) (nI_add _ _) ?_
          refine lv_iload_n hx hb dX1_sortInPlace_30 rfl (lv_at hl 2 rfl) ?_
          refine va_mmin hx hb (hml.trans hl.1.symm) hown (hts (.methodLink RX1 43 Lib.Math.min.name) (by decide +kernel)) (hts (.static Lib.Math.min.name) (by decide +kernel)) (hts (.initialized "java/lang/Math") (by decide +kernel)) (hts _ (List.mem_cons_of_mem _ (List.mem_append_left _ (List.mem_append_left _ (List.mem_of_getElem? (i := 3) rfl))))) (Nat.le_of_ble_eq_true rfl) (Nat.le_of_ble_eq_true rfl) (Nat.le_of_ble_eq_true rfl) (Nat.le_of_ble_eq_true rfl) dX1_sortInPlace_31 ?_
          refine lz_top (y := (nI (min (ss + 2 * wd) b))) (mn_nI (by omega) (by omega)) ?_
          refine lv_istore (lv' := [(6, .int (nI (min (ss + 2 * wd) b))), (0, .ref r), (1, .int (nI a)), (2, .int (nI b)), (3, .int (nI o)), (4, .int (nI wd)), (5, .int (nI ss))]) hx hb dX1_sortInPlace_34 hl (by decide) rfl (fun ls hl => ?_)
          refine lv_aload_n hx hb dX1_sortInPlace_36 rfl (lv_at hl 1 rfl) ?_
          refine lv_iload hx hb dX1_sortInPlace_37 (lv_at hl 6 rfl) ?_
          refine lv_iload hx hb dX1_sortInPlace_39 (lv_at hl 6 rfl) ?_
          refine lv_iload hx hb dX1_sortInPlace_41 (lv_at hl 5 rfl) ?_
          refine lv_iadd hx hb dX1_sortInPlace_43 ?_
          refine lz_top (y := (nI (ss + wd))) (nI_add _ _) ?_
          refine lv_iload hx hb dX1_sortInPlace_44 (lv_at hl 0 rfl) ?_
          refine lv_iload_n hx hb dX1_sortInPlace_46 rfl (lv_at hl 4 rfl) ?_
          refine lv_iconst (v := (nI 0)) hx hb dX1_sortInPlace_47 (by decide) ?_
          have hsa : a ≤ ss := by omega
          obtain ⟨s1, s2⟩ := bs_two vi2
          rw [show min (ss + wd) b = ss + wd by omega] at s1
          have hPc := hP.sub (ws' := [(r, .inr (0, [.ref k, .ref t, .int (nI n), .int c2, .int w2])), (k, .inl (cA, 500, .inl K2)), (t, .inl (cB, 500, .inl T2))]) [0, 1, 2] rfl
          have hDc := hD.sub (ws' := [(r, .inr (0, [.ref k, .ref t, .int (nI n), .int c2, .int w2])), (k, .inl (cA, 500, .inl K2)), (t, .inl (cB, 500, .inl T2))]) [0, 1, 2] (by decide) rfl
          have hKc := hK.sub (tys' := [(cA, .int), (cB, .int)]) [0, 1] rfl
          have hFc := va_free (wc := [(r, .inr (0, [.ref k, .ref t, .int (nI n), .int c2, .int w2])), (k, .inl (cA, 500, .inl K2)), (t, .inl (cB, 500, .inl T2))]) hD hS hA [0, 1, 2] rfl
          refine va_callv (va_runS (As := [.ref r, .int (nI ss), .int (nI (ss + wd)), .int (nI (min (ss + 2 * wd) b)), .int (nI o), .int (nI 0)]) (rest := []) ⟨hx, hb, hml, hown, hts⟩ (c_X1_mergeInPlace l dC dI r k t cA cB (j + 1) H.size n c2 w2 K2 T2 ss (ss + wd) (min (ss + 2 * wd) b) o 0 (by omega) (by omega) (by omega) ho (by rw [Nat.pow_succ, ← vh0]; omega) (by omega) s1 s2) (va_cwS 6 hts gX1_sortInPlace_X1_mergeInPlace rfl rfl rfl (by decide +kernel) ⟨by show 3 + (j + 1) + 1 ≤ 13; omega, by show 8 + (9 + 11) + (74 + 28 * (j + 1)) ≤ 354; omega⟩) ⟨fun a U g mk q => by obtain ⟨q0, q1, qP, qK, qD⟩ := q; exact ⟨q0, q1, qP, va_K.moved (u := U) (U := U.calling g mk a) (Vm.Alike.refl U.vm) qK, qD⟩, fun U hU hW => ⟨rfl, by rw [hU], by rw [hU]; exact hPc, va_K.moved hW.alike hKc, hDc.weaken (fun _ _ _ _ => trivial)⟩⟩ rfl rfl hl.1 rfl (lv_room (Nat.le_of_ble_eq_true rfl)) dX1_sortInPlace_48 ⟨Nat.le_of_ble_eq_true rfl, Nat.le_of_ble_eq_true rfl⟩) hS (fun q _ h => hFc q h) hFc (fun u tS H1 locs ht hvm hw hB hz1 hk1 hS => ?_)
          obtain ⟨K5, T5, n5, e5, w5⟩ := u
          obtain ⟨ho5, hs5, hm5, hn5, ⟨x5, hx5, hc5⟩, y5, hy5, hw5⟩ := hw
          dsimp only at ho5 hs5 hm5 hn5 hc5 hw5
          subst hn5; subst hc5; subst hw5
          obtain ⟨hP1, hK1, hD1⟩ := hB
          rw [ht] at hP1
          obtain ⟨hP, hD⟩ := va_join (wr := []) (w1 := [(r, .inr (0, [.ref k, .ref t, .int (nI n), .int (c2 + nI x5), .int (w2 + nI y5)])), (k, .inl (cA, 500, .inl K5)), (t, .inl (cB, 500, .inl T5))]) hP hD [0, 1, 2] [] rfl rfl (by decide) (by decide) hk1 hFc hP1 hD1
          generalize H1 = H at hP hS ⊢
          have hP : va_P (dC, dI) vwCl [(r, .inr (0, [.ref k, .ref t, .int (nI n), .int (c2 + nI x5), .int (w2 + nI y5)])), (k, .inl (cA, 500, .inl K5)), (t, .inl (cB, 500, .inl T5))] H := hP
          have hD : va_D A [(r, .inr (0, [.ref k, .ref t, .int (nI n), .int (c2 + nI x5), .int (w2 + nI y5)])), (k, .inl (cA, 500, .inl K5)), (t, .inl (cB, 500, .inl T5))] := hD
          refine lv_iload hx hb dX1_sortInPlace_51 (lv_at hl 6 rfl) ?_
          refine lv_iconst (v := (nI 2)) hx hb dX1_sortInPlace_53 (by decide) ?_
          refine lv_iload hx hb dX1_sortInPlace_54 (lv_at hl 5 rfl) ?_
          refine lv_imul hx hb dX1_sortInPlace_56 ?_
          refine lz_top (y := (nI (2 * wd))) (pk_mul _ _) ?_
          refine lv_iadd hx hb dX1_sortInPlace_57 ?_
          refine lz_top (y := (nI (ss + (2 * wd)))) (nI_add _ _) ?_
          refine lv_istore (lv' := [(5, .int (nI (ss + (2 * wd)))), (6, .int (nI (min (ss + 2 * wd) b))), (0, .ref r), (1, .int (nI a)), (2, .int (nI b)), (3, .int (nI o)), (4, .int (nI wd))]) hx hb dX1_sortInPlace_58 hl (by decide) rfl (fun ls hl => ?_)
          refine lv_goto (tgt := 14) hx hb dX1_sortInPlace_60 (by decide) ?_
          exact ihi ((ss + (2 * wd)), K5, T5, (c2 + nI x5), (w2 + nI y5), (q + 1), (hc + x5), (hwv + y5)) (by show b + wd - (ss + 2 * wd) < b + wd - ss; omega) _ _ _ ⟨by rw [Nat.add_mul, Nat.one_mul]; omega, (bs_step vi0 vi1 vi2 ho5 hs5).1, (bs_step vi0 vi1 vi2 ho5 hs5).2, fun i z => (ho5 i (by omega)).trans (vi3 i z), sm_tr vi4 (sm_wide (by omega) (by omega) (by omega) ho5 hm5), ad1 vi5 x5, by rw [Nat.pow_succ, ← vh0] at hx5; omega, ad1 vi7 y5, by have hmu : 2 * (min (ss + 2 * wd) b - ss) * (j + 1) ≤ 2 * (min (ss + 2 * wd) b - ss) * 9 := Nat.mul_le_mul_left _ hj8; omega, by omega, hP, hD, hS, lv_sub hl [2, 3, 4, 5, 6, 0] rfl⟩
      · exact ⟨by omega, pr_0, vh2, vh3, vh4, vh5, by omega, vh7, by omega, by omega, hP, hD, hS, lv_sub hl [1, 2, 3, 4, 5, 0] rfl⟩
  · exact ⟨rfl, Or.inl rfl, bs_one, fun _ _ => rfl, sm_rf, ad0 cm, Nat.zero_le _, ad0 wr, Nat.zero_le _, Nat.zero_le _, by decide, hP, hD, hS, lv_sub hl [1, 2, 3, 4, 0] rfl⟩
set_option maxHeartbeats 4000000 in
set_option maxRecDepth 100000 in
theorem c_X1_splitInPlace (l : Launch) (dC : Nat → ClassId) (dI : Nat → Nat → Nat) (sz : Nat) (r k t : Nat) (cA cB : ClassId) (n : Nat) (cm wr : Int32) (K T : Nat → Int32) (a b : Nat) (x : Int32) (o : Nat) (hab : a ≤ b) (hb5 : b ≤ 500) (ho : o < 4) : Met l yX1_splitInPlace wsX1_splitInPlace ({ frames := 3, cells := 0, slots := 0, locals := 100 }) (va_Pc [.ref r, .int (nI a), .int (nI b), .int x, .int (nI o)] (fun U => U.heap.size = sz ∧ va_P (dC, dI) vwCl [(r, .inr (0, [.ref k, .ref t, .int (nI n), .int cm, .int wr])), (k, .inl (cA, 500, .inl K)), (t, .inl (cB, 500, .inl T))] U.heap ∧ va_K (dC, dI) vwCl [(cA, .int), (cB, .int)] U ∧ va_D (fun _ => True) [(r, .inr (0, [.ref k, .ref t, .int (nI n), .int cm, .int wr])), (k, .inl (cA, 500, .inl K)), (t, .inl (cB, 500, .inl T))])) (va_Qv (fun u => (∀ i, i < a ∨ b ≤ i → mZ u.1 u.2.1 i = mZ K T i) ∧ srt (ps o x) (mZ u.1 u.2.1) a b ∧ sm (ps o x) (sg (mZ K T) a b) (sg (mZ u.1 u.2.1) a b) ∧ n = u.2.2.1) (atR dC dI (va_A [(r, .inr (0, [.ref k, .ref t, .int (nI n), .int cm, .int wr])), (k, .inl (cA, 500, .inl K)), (t, .inl (cB, 500, .inl T))] sz) r k t cA cB) (va_A [(r, .inr (0, [.ref k, .ref t, .int (nI n), .int cm, .int wr])), (k, .inl (cA, 500, .inl K)), (t, .inl (cB, 500, .inl T))] sz)) 0 0 (va_A [(r, .inr (0, [.ref k, .ref t, .int (nI n), .int cm, .int wr])), (k, .inl (cA, 500, .inl K)), (t, .inl (cB, 500, .inl T))] sz) := by
  refine Met.ofW (cc := cX1_splitInPlace) (maxL := 11) (ret := none) (by decide) rfl ?_
  intro p e s m args below meth c s₁ B hml hv
  obtain ⟨rfl, hsz, hP, hK, hD0⟩ := hv
  have hx := B.exec
  have hb := B.bytes
  have hr := B.returns
  have hts := atoms_spec (ws := wsX1_splitInPlace) B.pre
  have hown : s.vm.findClass RX1 = some m.cls := findClass_of_methodNamed B.named
  have hlocks := B.notSynchronized
  subst hsz
  have hD := hD0.self (sz := s.heap.size)
  generalize hAe : va_A [(r, .inr (0, [.ref k, .ref t, .int (nI n), .int cm, .int wr])), (k, .inl (cA, 500, .inl K)), (t, .inl (cB, 500, .inl T))] s.heap.size = A at hD ⊢
  have hA : ∀ q : Nat, s.heap.size ≤ q → A q := fun q h => by rw [← hAe]; exact Or.inr h
  have hS : va_S A s.heap s.heap [] := va_S.rf
  have hP : va_P (dC, dI) vwCl [(r, .inr (0, [.ref k, .ref t, .int (nI n), .int cm, .int wr])), (k, .inl (cA, 500, .inl K)), (t, .inl (cB, 500, .inl T))] s.heap := hP
  have hl := lv_entry ([.ref r, .int (nI a), .int (nI b), .int x, .int (nI o)]) (n := 11) (Nat.le_of_ble_eq_true rfl)
  rw [lg_entry_eq]
  generalize (lg_sl ([.ref r, .int (nI a), .int (nI b), .int x, .int (nI o)]) ++ List.replicate (11 - (lg_sl ([.ref r, .int (nI a), .int (nI b), .int x, .int (nI o)])).length) Slot.unset).toArray = ls at hl ⊢
  have hl : lv_has ls 11 [(0, .ref r), (1, .int (nI a)), (2, .int (nI b)), (3, .int x), (4, .int (nI o))] := hl
  refine lv_iconst (v := (nI 1)) hx hb dX1_splitInPlace_0 (by decide) ?_
  refine lv_istore (lv' := [(5, .int (nI 1)), (0, .ref r), (1, .int (nI a)), (2, .int (nI b)), (3, .int x), (4, .int (nI o))]) hx hb dX1_splitInPlace_1 hl (by decide) rfl (fun ls hl => ?_)
  refine lz_loop (σ := Nat × (Nat → Int32) × (Nat → Int32) × Int32) (μ := fun X_ => match X_ with | (wd, K1, T1, w1) => b - a - wd) (Inv := fun X_ H locs ls => match X_ with | (wd, K1, T1, w1) => (0 < wd ∧ wd < 1024) ∧ (bs (ps o x) (mZ K1 T1) wd a b) ∧ (∀ i, i < a ∨ b ≤ i → mZ K1 T1 i = mZ K T i) ∧ (sm (ps o x) (sg (mZ K T) a b) (sg (mZ K1 T1) a b)) ∧ va_P (dC, dI) vwCl [(r, .inr (0, [.ref k, .ref t, .int (nI n), .int cm, .int w1])), (k, .inl (cA, 500, .inl K1)), (t, .inl (cB, 500, .inl T1))] H ∧ va_D A [(r, .inr (0, [.ref k, .ref t, .int (nI n), .int cm, .int w1])), (k, .inl (cA, 500, .inl K1)), (t, .inl (cB, 500, .inl T1))] ∧ va_S A s.heap H locs ∧ lv_has ls 11 [(0, .ref r), (1, .int (nI a)), (2, .int (nI b)), (3, .int x), (4, .int (nI o)), (5, .int (nI wd))]) ?_ (1, K, T, wr) _ _ _ ?_
  · rintro ⟨wd, K1, T1, w1⟩ ihh H locs ls ⟨vh0, vh1, vh2, vh3, hP, hD, hS, hl⟩
    refine lv_iload hx hb dX1_splitInPlace_3 (lv_at hl 5 rfl) ?_
    refine lv_iload_n hx hb dX1_splitInPlace_5 rfl (lv_at hl 2 rfl) ?_
    refine lv_iload_n hx hb dX1_splitInPlace_6 rfl (lv_at hl 1 rfl) ?_
    refine lv_isub hx hb dX1_splitInPlace_7 ?_
    refine lz_top (y := (nI (b - a))) (pk_sub (by omega)) ?_
    refine lz_icmp_ge (tgt := 104) (by omega) (by omega) hx hb dX1_splitInPlace_8 (by decide) (fun c8 => ?_) (fun c8 => ?_)
    · exact W.vret hx hb hr (fun tS ht hW => ⟨⟨(K1, T1, n, cm, w1), rfl, ⟨vh2, bs_all vh1 (by omega), vh3, rfl⟩, by rw [ht]; exact hP, va_K.moved hW.alike hK, hD⟩, hS.F ht⟩) hS.2.2 dX1_splitInPlace_104
    · refine lv_iload_n hx hb dX1_splitInPlace_11 rfl (lv_at hl 1 rfl) ?_
      refine lv_istore (lv' := [(6, .int (nI a)), (0, .ref r), (1, .int (nI a)), (2, .int (nI b)), (3, .int x), (4, .int (nI o)), (5, .int (nI wd))]) hx hb dX1_splitInPlace_12 hl (by decide) rfl (fun ls hl => ?_)
      refine lz_loop (σ := Nat × (Nat → Int32) × (Nat → Int32) × Int32 × Nat) (μ := fun X_ => match X_ with | (ss, K2, T2, w2, q) => b + wd - ss) (Inv := fun X_ H locs ls => match X_ with | (ss, K2, T2, w2, q) => (ss = a + q * (2 * wd)) ∧ (pr (ps o x) (mZ K2 T2) wd a b q) ∧ (bs (ps o x) (mZ K2 T2) wd ss b) ∧ (∀ i, i < a ∨ b ≤ i → mZ K2 T2 i = mZ K T i) ∧ (sm (ps o x) (sg (mZ K T) a b) (sg (mZ K2 T2) a b)) ∧ (ss < b + wd) ∧ va_P (dC, dI) vwCl [(r, .inr (0, [.ref k, .ref t, .int (nI n), .int cm, .int w2])), (k, .inl (cA, 500, .inl K2)), (t, .inl (cB, 500, .inl T2))] H ∧ va_D A [(r, .inr (0, [.ref k, .ref t, .int (nI n), .int cm, .int w2])), (k, .inl (cA, 500, .inl K2)), (t, .inl (cB, 500, .inl T2))] ∧ va_S A s.heap H locs ∧ lv_has ls 11 [(0, .ref r), (1, .int (nI a)), (2, .int (nI b)), (3, .int x), (4, .int (nI o)), (5, .int (nI wd)), (6, .int (nI ss))]) ?_ (a, K1, T1, w1, 0) _ _ _ ?_
      · rintro ⟨ss, K2, T2, w2, q⟩ ihi H locs ls ⟨vi0, vi1, vi2, vi3, vi4, vi5, hP, hD, hS, hl⟩
        refine lv_iload hx hb dX1_splitInPlace_14 (lv_at hl 6 rfl) ?_
        refine lv_iload_n hx hb dX1_splitInPlace_16 rfl (lv_at hl 2 rfl) ?_
        refine lv_iload hx hb dX1_splitInPlace_17 (lv_at hl 5 rfl) ?_
        refine lv_isub hx hb dX1_splitInPlace_19 ?_
        refine lz_top (y := (nI (b - wd))) (pk_sub (by omega)) ?_
        refine lz_icmp_ge (tgt := 95) (by omega) (by omega) hx hb dX1_splitInPlace_20 (by decide) (fun c20 => ?_) (fun c20 => ?_)
        · refine lv_iload hx hb dX1_splitInPlace_95 (lv_at hl 5 rfl) ?_
          refine lv_iconst (v := (nI 2)) hx hb dX1_splitInPlace_97 (by decide) ?_
          refine lv_imul hx hb dX1_splitInPlace_98 ?_
          refine lz_top (y := (nI (wd * 2))) (pk_mul _ _) ?_
          refine lv_istore (lv' := [(5, .int (nI (wd * 2))), (0, .ref r), (1, .int (nI a)), (2, .int (nI b)), (3, .int x), (4, .int (nI o)), (6, .int (nI ss))]) hx hb dX1_splitInPlace_99 hl (by decide) rfl (fun ls hl => ?_)
          refine lv_goto (tgt := 3) hx hb dX1_splitInPlace_101 (by decide) ?_
          exact ihh ((wd * 2), K2, T2, w2) (by show b - a - wd * 2 < b - a - wd; omega) _ _ _ ⟨by omega, by rw [Nat.mul_comm]; exact bs_end vi0 vi1 vi2 (by omega), vi3, vi4, hP, hD, hS, lv_sub hl [1, 2, 3, 4, 5, 0] rfl⟩
        · refine lv_iload hx hb dX1_splitInPlace_23 (lv_at hl 6 rfl) ?_
          refine lv_iload hx hb dX1_splitInPlace_25 (lv_at hl 5 rfl) ?_
          refine lv_iadd hx hb dX1_splitInPlace_27 ?_
          refine lz_top (y := (nI (ss + wd))) (nI_add _ _) ?_
          refine lv_istore (lv' := [(7, .int (nI (ss + wd))), (0, .ref r), (1, .int (nI a)), (2, .int (nI b)), (3, .int x), (4, .int (nI o)), (5, .int (nI wd)), (6, .int (nI ss))]) hx hb dX1_splitInPlace_28 hl (by decide) rfl (fun ls hl => ?_)
          refine lv_iload hx hb dX1_splitInPlace_30 (lv_at hl 0 rfl) ?_
          refine lv_iload hx hb dX1_splitInPlace_32 (lv_at hl 6 rfl) ?_
          refine lv_iadd hx hb dX1_splitInPlace_34 ?_
          refine lz_top (y := (nI ((ss + wd) + wd))) (nI_add _ _) ?_
          refine lv_iload_n hx hb dX1_splitInPlace_35 rfl (lv_at hl 3 rfl) ?_
          refine va_mmin hx hb (hml.trans hl.1.symm) hown (hts (.methodLink RX1 43 Lib.Math.min.name) (by decide +kernel)) (hts (.static Lib.Math.min.name) (by decide +kernel)) (hts (.initialized "java/lang/Math") (by decide +kernel)) (hts _ (List.mem_cons_of_mem _ (List.mem_append_left _ (List.mem_append_left _ (List.mem_of_getElem? (i := 3) rfl))))) (Nat.le_of_ble_eq_true rfl) (Nat.le_of_ble_eq_true rfl) (Nat.le_of_ble_eq_true rfl) (Nat.le_of_ble_eq_true rfl) dX1_splitInPlace_36 ?_
          refine lz_top (y := (nI (min (ss + 2 * wd) b))) ((mn_nI (by omega) (by omega)).trans (by rw [show ss + wd + wd = ss + 2 * wd by omega])) ?_
          refine lv_istore (lv' := [(8, .int (nI (min (ss + 2 * wd) b))), (7, .int (nI (ss + wd))), (0, .ref r), (1, .int (nI a)), (2, .int (nI b)), (3, .int x), (4, .int (nI o)), (5, .int (nI wd)), (6, .int (nI ss))]) hx hb dX1_splitInPlace_39 hl (by decide) rfl (fun ls hl => ?_)
          refine lv_iload hx hb dX1_splitInPlace_41 (lv_at hl 8 rfl) ?_
          refine lv_aload_n hx hb dX1_splitInPlace_43 rfl (lv_at hl 2 rfl) ?_
          refine lv_iload hx hb dX1_splitInPlace_44 (lv_at hl 8 rfl) ?_
          refine lv_iload hx hb dX1_splitInPlace_46 (lv_at hl 1 rfl) ?_
          refine lv_iload_n hx hb dX1_splitInPlace_48 rfl (lv_at hl 5 rfl) ?_
          refine lv_iload hx hb dX1_splitInPlace_49 (lv_at hl 6 rfl) ?_
          have hsa : a ≤ ss := by omega
          have hPc := hP.sub (ws' := [(r, .inr (0, [.ref k, .ref t, .int (nI n), .int cm, .int w2])), (k, .inl (cA, 500, .inl K2)), (t, .inl (cB, 500, .inl T2))]) [0, 1, 2] rfl
          have hDc := hD.sub (ws' := [(r, .inr (0, [.ref k, .ref t, .int (nI n), .int cm, .int w2])), (k, .inl (cA, 500, .inl K2)), (t, .inl (cB, 500, .inl T2))]) [0, 1, 2] (by decide) rfl
          have hKc := hK.sub (tys' := [(cA, .int), (cB, .int)]) [0, 1] rfl
          have hFc := va_free (wc := [(r, .inr (0, [.ref k, .ref t, .int (nI n), .int cm, .int w2])), (k, .inl (cA, 500, .inl K2)), (t, .inl (cB, 500, .inl T2))]) hD hS hA [0, 1, 2] rfl
          refine va_calli (va_runV (As := [.int (nI ss), .int (nI (ss + wd)), .int x, .int (nI o)]) (rest := [.int (nI ss)]) ⟨hx, hb, hml, hown, hts⟩ (c_X1_countLess l dC dI H.size r k t cA cB n cm w2 K2 T2 ss (ss + wd) x o (by omega) (by omega) ho) (cwV 4 hts gX1_splitInPlace_X1_countLess rfl rfl rfl (by decide +kernel) ⟨Nat.le_of_ble_eq_true rfl, Nat.le_of_ble_eq_true rfl⟩) ⟨fun a U g mk q => by obtain ⟨q0, q1, qP, qK, qD⟩ := q; exact ⟨q0, q1, qP, va_K.moved (u := U) (U := U.calling g mk a) (Vm.Alike.refl U.vm) qK, qD⟩, va_recv hKc hPc (ci := 0) (q0 := 0) rfl rfl, fun U hU hW => ⟨rfl, by rw [hU], by rw [hU]; exact hPc, va_K.moved hW.alike hKc, hDc.weaken (fun _ _ _ _ => trivial)⟩⟩ rfl rfl hl.1 rfl (lv_room (Nat.le_of_ble_eq_true rfl)) dX1_splitInPlace_51 ⟨Nat.le_of_ble_eq_true rfl, Nat.le_of_ble_eq_true rfl⟩) hS (fun q _ h => hFc q h) hFc (fun r_1 u tS H1 locs ht hvm hw hB hz1 hk1 hS => ?_)
          obtain ⟨hr1, rfl⟩ := hw
          obtain ⟨hP1, hK1, hD1⟩ := hB
          rw [ht] at hP1
          obtain ⟨hP, hD⟩ := va_join (wr := []) (w1 := [(r, .inr (0, [.ref k, .ref t, .int (nI n), .int cm, .int w2])), (k, .inl (cA, 500, .inl K2)), (t, .inl (cB, 500, .inl T2))]) hP hD [0, 1, 2] [] rfl rfl (by decide) (by decide) hk1 hFc hP1 hD1
          generalize H1 = H at hP hS ⊢
          have hP : va_P (dC, dI) vwCl [(r, .inr (0, [.ref k, .ref t, .int (nI n), .int cm, .int w2])), (k, .inl (cA, 500, .inl K2)), (t, .inl (cB, 500, .inl T2))] H := hP
          have hD : va_D A [(r, .inr (0, [.ref k, .ref t, .int (nI n), .int cm, .int w2])), (k, .inl (cA, 500, .inl K2)), (t, .inl (cB, 500, .inl T2))] := hD
          obtain ⟨f1, hf1⟩ : ∃ f1, f1 = cn (fun j => mk o (K2 j) < mk o x) ss ((ss + wd) - ss) := ⟨_, rfl⟩
          rw [← hf1] at hr1
          subst hr1
          have hg1 : f1 ≤ (ss + wd) - ss := by rw [hf1]; exact cn_le _ _ _
          refine lv_iadd hx hb dX1_splitInPlace_54 ?_
          refine lz_top (y := (nI (ss + f1))) (nI_add _ _) ?_
          refine lv_istore (lv' := [(9, .int (nI (ss + f1))), (8, .int (nI (min (ss + 2 * wd) b))), (7, .int (nI (ss + wd))), (0, .ref r), (1, .int (nI a)), (2, .int (nI b)), (3, .int x), (4, .int (nI o)), (5, .int (nI wd)), (6, .int (nI ss))]) hx hb dX1_splitInPlace_55 hl (by decide) rfl (fun ls hl => ?_)
          refine lv_iload hx hb dX1_splitInPlace_57 (lv_at hl 2 rfl) ?_
          refine lv_aload_n hx hb dX1_splitInPlace_59 rfl (lv_at hl 3 rfl) ?_
          refine lv_iload hx hb dX1_splitInPlace_60 (lv_at hl 2 rfl) ?_
          refine lv_iload hx hb dX1_splitInPlace_62 (lv_at hl 1 rfl) ?_
          refine lv_iload_n hx hb dX1_splitInPlace_64 rfl (lv_at hl 6 rfl) ?_
          refine lv_iload hx hb dX1_splitInPlace_65 (lv_at hl 7 rfl) ?_
          have hPc := hP.sub (ws' := [(r, .inr (0, [.ref k, .ref t, .int (nI n), .int cm, .int w2])), (k, .inl (cA, 500, .inl K2)), (t, .inl (cB, 500, .inl T2))]) [0, 1, 2] rfl
          have hDc := hD.sub (ws' := [(r, .inr (0, [.ref k, .ref t, .int (nI n), .int cm, .int w2])), (k, .inl (cA, 500, .inl K2)), (t, .inl (cB, 500, .inl T2))]) [0, 1, 2] (by decide) rfl
          have hKc := hK.sub (tys' := [(cA, .int), (cB, .int)]) [0, 1] rfl
          have hFc := va_free (wc := [(r, .inr (0, [.ref k, .ref t, .int (nI n), .int cm, .int w2])), (k, .inl (cA, 500, .inl K2)), (t, .inl (cB, 500, .inl T2))]) hD hS hA [0, 1, 2] rfl
          refine va_calli (va_runV (As := [.int (nI (ss + wd)), .int (nI (min (ss + 2 * wd) b)), .int x, .int (nI o)]) (rest := [.int (nI (ss + wd))]) ⟨hx, hb, hml, hown, hts⟩ (c_X1_countLess l dC dI H.size r k t cA cB n cm w2 K2 T2 (ss + wd) (min (ss + 2 * wd) b) x o (by omega) (by omega) ho) (cwV 4 hts gX1_splitInPlace_X1_countLess rfl rfl rfl (by decide +kernel) ⟨Nat.le_of_ble_eq_true rfl, Nat.le_of_ble_eq_true rfl⟩) ⟨fun a U g mk q => by obtain ⟨q0, q1, qP, qK, qD⟩ := q; exact ⟨q0, q1, qP, va_K.moved (u := U) (U := U.calling g mk a) (Vm.Alike.refl U.vm) qK, qD⟩, va_recv hKc hPc (ci := 0) (q0 := 0) rfl rfl, fun U hU hW => ⟨rfl, by rw [hU], by rw [hU]; exact hPc, va_K.moved hW.alike hKc, hDc.weaken (fun _ _ _ _ => trivial)⟩⟩ rfl rfl hl.1 rfl (lv_room (Nat.le_of_ble_eq_true rfl)) dX1_splitInPlace_67 ⟨Nat.le_of_ble_eq_true rfl, Nat.le_of_ble_eq_true rfl⟩) hS (fun q _ h => hFc q h) hFc (fun r_2 u tS H1 locs ht hvm hw hB hz1 hk1 hS => ?_)
          obtain ⟨hr2, rfl⟩ := hw
          obtain ⟨hP1, hK1, hD1⟩ := hB
          rw [ht] at hP1
          obtain ⟨hP, hD⟩ := va_join (wr := []) (w1 := [(r, .inr (0, [.ref k, .ref t, .int (nI n), .int cm, .int w2])), (k, .inl (cA, 500, .inl K2)), (t, .inl (cB, 500, .inl T2))]) hP hD [0, 1, 2] [] rfl rfl (by decide) (by decide) hk1 hFc hP1 hD1
          generalize H1 = H at hP hS ⊢
          have hP : va_P (dC, dI) vwCl [(r, .inr (0, [.ref k, .ref t, .int (nI n), .int cm, .int w2])), (k, .inl (cA, 500, .inl K2)), (t, .inl (cB, 500, .inl T2))] H := hP
          have hD : va_D A [(r, .inr (0, [.ref k, .ref t, .int (nI n), .int cm, .int w2])), (k, .inl (cA, 500, .inl K2)), (t, .inl (cB, 500, .inl T2))] := hD
          obtain ⟨f2, hf2⟩ : ∃ f2, f2 = cn (fun j => mk o (K2 j) < mk o x) (ss + wd) ((min (ss + 2 * wd) b) - (ss + wd)) := ⟨_, rfl⟩
          rw [← hf2] at hr2
          subst hr2
          have hg2 : f2 ≤ (min (ss + 2 * wd) b) - (ss + wd) := by rw [hf2]; exact cn_le _ _ _
          refine lv_iadd hx hb dX1_splitInPlace_70 ?_
          refine lz_top (y := (nI ((ss + wd) + f2))) (nI_add _ _) ?_
          refine lv_istore (lv' := [(10, .int (nI ((ss + wd) + f2))), (9, .int (nI (ss + f1))), (8, .int (nI (min (ss + 2 * wd) b))), (7, .int (nI (ss + wd))), (0, .ref r), (1, .int (nI a)), (2, .int (nI b)), (3, .int x), (4, .int (nI o)), (5, .int (nI wd)), (6, .int (nI ss))]) hx hb dX1_splitInPlace_71 hl (by decide) rfl (fun ls hl => ?_)
          refine lv_aload_n hx hb dX1_splitInPlace_73 rfl (lv_at hl 4 rfl) ?_
          refine lv_iload hx hb dX1_splitInPlace_74 (lv_at hl 1 rfl) ?_
          refine lv_iload hx hb dX1_splitInPlace_76 (lv_at hl 3 rfl) ?_
          refine lv_iload hx hb dX1_splitInPlace_78 (lv_at hl 0 rfl) ?_
          have hPc := hP.sub (ws' := [(r, .inr (0, [.ref k, .ref t, .int (nI n), .int cm, .int w2])), (k, .inl (cA, 500, .inl K2)), (t, .inl (cB, 500, .inl T2))]) [0, 1, 2] rfl
          have hDc := hD.sub (ws' := [(r, .inr (0, [.ref k, .ref t, .int (nI n), .int cm, .int w2])), (k, .inl (cA, 500, .inl K2)), (t, .inl (cB, 500, .inl T2))]) [0, 1, 2] (by decide) rfl
          have hKc := hK.sub (tys' := [(cA, .int), (cB, .int)]) [0, 1] rfl
          have hFc := va_free (wc := [(r, .inr (0, [.ref k, .ref t, .int (nI n), .int cm, .int w2])), (k, .inl (cA, 500, .inl K2)), (t, .inl (cB, 500, .inl T2))]) hD hS hA [0, 1, 2] rfl
          refine va_callv (va_runV (As := [.int (nI (ss + f1)), .int (nI (ss + wd)), .int (nI ((ss + wd) + f2))]) (rest := []) ⟨hx, hb, hml, hown, hts⟩ (c_X1_swapBlocks l dC dI H.size r k t cA cB n cm w2 K2 T2 (ss + f1) (ss + wd) (ss + wd + f2) (by omega) (by omega) (by omega)) (cwV 3 hts gX1_splitInPlace_X1_swapBlocks rfl rfl rfl (by decide +kernel) ⟨Nat.le_of_ble_eq_true rfl, Nat.le_of_ble_eq_true rfl⟩) ⟨fun a U g mk q => by obtain ⟨q0, q1, qP, qK, qD⟩ := q; exact ⟨q0, q1, qP, va_K.moved (u := U) (U := U.calling g mk a) (Vm.Alike.refl U.vm) qK, qD⟩, va_recv hKc hPc (ci := 0) (q0 := 0) rfl rfl, fun U hU hW => ⟨rfl, by rw [hU], by rw [hU]; exact hPc, va_K.moved hW.alike hKc, hDc.weaken (fun _ _ _ _ => trivial)⟩⟩ rfl rfl hl.1 rfl (lv_room (Nat.le_of_ble_eq_true rfl)) dX1_splitInPlace_80 ⟨Nat.le_of_ble_eq_true rfl, Nat.le_of_ble_eq_true rfl⟩) hS (fun q _ h => hFc q h) hFc (fun u tS H1 locs ht hvm hw hB hz1 hk1 hS => ?_)
          obtain ⟨K5, T5, n5, c5, w5⟩ := u
          obtain ⟨hm5, hn5, hc5, d5, hd5, hw5⟩ := hw
          dsimp only at hm5 hn5 hc5 hw5
          subst hn5; subst hc5; subst hw5
          obtain ⟨hP1, hK1, hD1⟩ := hB
          rw [ht] at hP1
          obtain ⟨hP, hD⟩ := va_join (wr := []) (w1 := [(r, .inr (0, [.ref k, .ref t, .int (nI n), .int cm, .int (w2 + nI d5)])), (k, .inl (cA, 500, .inl K5)), (t, .inl (cB, 500, .inl T5))]) hP hD [0, 1, 2] [] rfl rfl (by decide) (by decide) hk1 hFc hP1 hD1
          generalize H1 = H at hP hS ⊢
          have hP : va_P (dC, dI) vwCl [(r, .inr (0, [.ref k, .ref t, .int (nI n), .int cm, .int (w2 + nI d5)])), (k, .inl (cA, 500, .inl K5)), (t, .inl (cB, 500, .inl T5))] H := hP
          have hD : va_D A [(r, .inr (0, [.ref k, .ref t, .int (nI n), .int cm, .int (w2 + nI d5)])), (k, .inl (cA, 500, .inl K5)), (t, .inl (cB, 500, .inl T5))] := hD
          obtain ⟨s1, s2⟩ := bs_two vi2
          rw [show min (ss + wd) b = ss + wd by omega] at s1
          obtain ⟨zo, zs, zm⟩ := split_step (f := mZ K2 T2) (by omega) (by omega) s1 s2 hf1 hf2
          rw [← hm5] at zo zs zm
          refine lv_iload hx hb dX1_splitInPlace_83 (lv_at hl 10 rfl) ?_
          refine lv_iconst (v := (nI 2)) hx hb dX1_splitInPlace_85 (by decide) ?_
          refine lv_iload hx hb dX1_splitInPlace_86 (lv_at hl 9 rfl) ?_
          refine lv_imul hx hb dX1_splitInPlace_88 ?_
          refine lz_top (y := (nI (2 * wd))) (pk_mul _ _) ?_
          refine lv_iadd hx hb dX1_splitInPlace_89 ?_
          refine lz_top (y := (nI (ss + (2 * wd)))) (nI_add _ _) ?_
          refine lv_istore (lv' := [(6, .int (nI (ss + (2 * wd)))), (10, .int (nI ((ss + wd) + f2))), (9, .int (nI (ss + f1))), (8, .int (nI (min (ss + 2 * wd) b))), (7, .int (nI (ss + wd))), (0, .ref r), (1, .int (nI a)), (2, .int (nI b)), (3, .int x), (4, .int (nI o)), (5, .int (nI wd))]) hx hb dX1_splitInPlace_90 hl (by decide) rfl (fun ls hl => ?_)
          refine lv_goto (tgt := 14) hx hb dX1_splitInPlace_92 (by decide) ?_
          exact ihi ((ss + (2 * wd)), K5, T5, (w2 + nI d5), (q + 1)) (by show b + wd - (ss + 2 * wd) < b + wd - ss; omega) _ _ _ ⟨by rw [Nat.add_mul, Nat.one_mul]; omega, (bs_step vi0 vi1 vi2 zo zs).1, (bs_step vi0 vi1 vi2 zo zs).2, fun i z => (zo i (by omega)).trans (vi3 i z), sm_tr vi4 (sm_wide (by omega) (by omega) (by omega) zo zm), by omega, hP, hD, hS, lv_sub hl [5, 6, 7, 8, 9, 10, 0] rfl⟩
      · exact ⟨by omega, pr_0, vh1, vh2, vh3, by omega, hP, hD, hS, lv_sub hl [1, 2, 3, 4, 5, 6, 0] rfl⟩
  · exact ⟨by decide, bs_one, fun _ _ => rfl, sm_rf, hP, hD, hS, lv_sub hl [1, 2, 3, 4, 5, 0] rfl⟩
set_option maxHeartbeats 4000000 in
set_option maxRecDepth 100000 in
theorem c_X1_dropAlike (l : Launch) (dC : Nat → ClassId) (dI : Nat → Nat → Nat) (sz : Nat) (r k t : Nat) (cA cB : ClassId) (n : Nat) (cm wr : Int32) (K T : Nat → Int32) (o : Nat) (hn : n ≤ 500) (ho : o < 4) (hs : srt (mk o) (mZ K T) 0 n) : Met l yX1_dropAlike wsX1_dropAlike ({ frames := 2, cells := 0, slots := 0, locals := 45 }) (va_Pc [.ref r, .int (nI o)] (fun U => U.heap.size = sz ∧ va_P (dC, dI) vwCl [(r, .inr (0, [.ref k, .ref t, .int (nI n), .int cm, .int wr])), (k, .inl (cA, 500, .inl K)), (t, .inl (cB, 500, .inl T))] U.heap ∧ va_K (dC, dI) vwCl [(cA, .int), (cB, .int)] U ∧ va_D (fun _ => True) [(r, .inr (0, [.ref k, .ref t, .int (nI n), .int cm, .int wr])), (k, .inl (cA, 500, .inl K)), (t, .inl (cB, 500, .inl T))])) (va_Qv (fun u => u.2.2.1 = cn (kp o (mZ K T)) 0 (n - 0) ∧ u.2.2.1 ≤ n ∧ ∀ i, i < n → kp o (mZ K T) i → mZ u.1 u.2.1 (cn (kp o (mZ K T)) 0 (i - 0)) = mZ K T i) (atR dC dI (va_A [(r, .inr (0, [.ref k, .ref t, .int (nI n), .int cm, .int wr])), (k, .inl (cA, 500, .inl K)), (t, .inl (cB, 500, .inl T))] sz) r k t cA cB) (va_A [(r, .inr (0, [.ref k, .ref t, .int (nI n), .int cm, .int wr])), (k, .inl (cA, 500, .inl K)), (t, .inl (cB, 500, .inl T))] sz)) 0 0 (va_A [(r, .inr (0, [.ref k, .ref t, .int (nI n), .int cm, .int wr])), (k, .inl (cA, 500, .inl K)), (t, .inl (cB, 500, .inl T))] sz) := by
  refine Met.ofW (cc := cX1_dropAlike) (maxL := 4) (ret := none) (by decide) rfl ?_
  intro p e s m args below meth c s₁ B hml hv
  obtain ⟨rfl, hsz, hP, hK, hD0⟩ := hv
  have hx := B.exec
  have hb := B.bytes
  have hr := B.returns
  have hts := atoms_spec (ws := wsX1_dropAlike) B.pre
  have hown : s.vm.findClass RX1 = some m.cls := findClass_of_methodNamed B.named
  have hlocks := B.notSynchronized
  subst hsz
  have hD := hD0.self (sz := s.heap.size)
  generalize hAe : va_A [(r, .inr (0, [.ref k, .ref t, .int (nI n), .int cm, .int wr])), (k, .inl (cA, 500, .inl K)), (t, .inl (cB, 500, .inl T))] s.heap.size = A at hD ⊢
  have hA : ∀ q : Nat, s.heap.size ≤ q → A q := fun q h => by rw [← hAe]; exact Or.inr h
  have hS : va_S A s.heap s.heap [] := va_S.rf
  have hP : va_P (dC, dI) vwCl [(r, .inr (0, [.ref k, .ref t, .int (nI n), .int cm, .int wr])), (k, .inl (cA, 500, .inl K)), (t, .inl (cB, 500, .inl T))] s.heap := hP
  have hl := lv_entry ([.ref r, .int (nI o)]) (n := 4) (Nat.le_of_ble_eq_true rfl)
  rw [lg_entry_eq]
  generalize (lg_sl ([.ref r, .int (nI o)]) ++ List.replicate (4 - (lg_sl ([.ref r, .int (nI o)])).length) Slot.unset).toArray = ls at hl ⊢
  have hl : lv_has ls 4 [(0, .ref r), (1, .int (nI o))] := hl
  refine lv_iconst (v := (nI 0)) hx hb dX1_dropAlike_0 (by decide) ?_
  refine lv_istore_n (lv' := [(2, .int (nI 0)), (0, .ref r), (1, .int (nI o))]) hx hb dX1_dropAlike_1 rfl hl (by decide) rfl (fun ls hl => ?_)
  refine lv_iconst (v := (nI 0)) hx hb dX1_dropAlike_2 (by decide) ?_
  refine lv_istore_n (lv' := [(3, .int (nI 0)), (2, .int (nI 0)), (0, .ref r), (1, .int (nI o))]) hx hb dX1_dropAlike_3 rfl hl (by decide) rfl (fun ls hl => ?_)
  refine lz_loop (σ := Nat × Nat × (Nat → Int32) × (Nat → Int32) × Int32) (μ := fun X_ => match X_ with | (lf, q, K1, T1, c1) => n - q) (Inv := fun X_ H locs ls => match X_ with | (lf, q, K1, T1, c1) => (q ≤ n) ∧ (thI o (mZ K T) (mZ K1 T1) lf q) ∧ va_P (dC, dI) vwCl [(r, .inr (0, [.ref k, .ref t, .int (nI n), .int c1, .int wr])), (k, .inl (cA, 500, .inl K1)), (t, .inl (cB, 500, .inl T1))] H ∧ va_D A [(r, .inr (0, [.ref k, .ref t, .int (nI n), .int c1, .int wr])), (k, .inl (cA, 500, .inl K1)), (t, .inl (cB, 500, .inl T1))] ∧ va_S A s.heap H locs ∧ lv_has ls 4 [(0, .ref r), (1, .int (nI o)), (2, .int (nI lf)), (3, .int (nI q))]) ?_ (0, 0, K, T, cm) _ _ _ ?_
  · rintro ⟨lf, q, K1, T1, c1⟩ ihj H locs ls ⟨vj0, vj1, hP, hD, hS, hl⟩
    refine lv_iload_n hx hb dX1_dropAlike_4 rfl (lv_at hl 3 rfl) ?_
    refine lv_aload_n hx hb dX1_dropAlike_5 rfl (lv_at hl 0 rfl) ?_
    refine va_get (D := (dC, dI)) (ci := 0) (v := .int (nI n)) (C := RX1) (T := TX1) (N := 5) hx hb hts (by decide +kernel) hown hK hP 0 rfl rfl 2 (by decide) (hts (.fieldLink RX1 16 "RowPress$Row" "size" "I") (by decide +kernel)) (fun _ h9 => h9) rfl dX1_dropAlike_6 ?_
    refine lz_icmp_ge (tgt := 61) (by omega) (by omega) hx hb dX1_dropAlike_9 (by decide) (fun c9 => ?_) (fun c9 => ?_)
    · refine lv_aload_n hx hb dX1_dropAlike_61 rfl (lv_at hl 0 rfl) ?_
      refine lv_iload_n hx hb dX1_dropAlike_62 rfl (lv_at hl 2 rfl) ?_
      refine va_put (D := (dC, dI)) (ci := 0) (v := .int (nI lf)) (ty := .int) (C := RX1) (T := TX1) (N := 5) hx hb hts (by decide +kernel) tyX1 tyX1_ok nmX1 hown hK hP hD hS 0 rfl rfl 2 (by decide) (hts (.fieldLink RX1 16 "RowPress$Row" "size" "I") (by decide +kernel)) (fun _ h9 => h9) rfl (by decide +kernel) rfl rfl (Nat.le_of_ble_eq_true rfl) dX1_dropAlike_63 (fun H locs hP hD hS => ?_)
      have hP : va_P (dC, dI) vwCl [(r, .inr (0, [.ref k, .ref t, .int (nI lf), .int c1, .int wr])), (k, .inl (cA, 500, .inl K1)), (t, .inl (cB, 500, .inl T1))] H := hP
      have hD : va_D A [(r, .inr (0, [.ref k, .ref t, .int (nI lf), .int c1, .int wr])), (k, .inl (cA, 500, .inl K1)), (t, .inl (cB, 500, .inl T1))] := hD
      exact W.vret hx hb hr (fun tS ht hW => ⟨⟨(K1, T1, lf, c1, wr), rfl, ⟨by rw [show n = q by omega]; exact vj1.1, by have := vj1.2.1; show lf ≤ n; omega, fun i z => vj1.2.2.1 i (by omega)⟩, by rw [ht]; exact hP, va_K.moved hW.alike hK, hD⟩, hS.F ht⟩) hS.2.2 dX1_dropAlike_66
    · have hlq : lf ≤ q := vj1.2.1
      refine lv_iload_n hx hb dX1_dropAlike_12 rfl (lv_at hl 2 rfl) ?_
      refine lz_if_eq (tgt := 28) (by omega) hx hb dX1_dropAlike_13 (by decide) (fun c13 => ?_) (fun c13 => ?_)
      · refine lv_aload_n hx hb dX1_dropAlike_28 rfl (lv_at hl 0 rfl) ?_
        refine va_get (D := (dC, dI)) (ci := 0) (v := .ref k) (C := RX1) (T := TX1) (N := 5) hx hb hts (by decide +kernel) hown hK hP 0 rfl rfl 0 (by decide) (hts (.fieldLink RX1 9 "RowPress$Row" "keys" "[I") (by decide +kernel)) (fun _ h9 => h9) rfl dX1_dropAlike_29 ?_
        refine lv_iload_n hx hb dX1_dropAlike_32 rfl (lv_at hl 2 rfl) ?_
        refine lv_aload_n hx hb dX1_dropAlike_33 rfl (lv_at hl 0 rfl) ?_
        refine va_get (D := (dC, dI)) (ci := 0) (v := .ref k) (C := RX1) (T := TX1) (N := 5) hx hb hts (by decide +kernel) hown hK hP 0 rfl rfl 0 (by decide) (hts (.fieldLink RX1 9 "RowPress$Row" "keys" "[I") (by decide +kernel)) (fun _ h9 => h9) rfl dX1_dropAlike_34 ?_
        refine lv_iload_n hx hb dX1_dropAlike_37 rfl (lv_at hl 3 rfl) ?_
        refine lz_iald hx hb hK hP 1 0 rfl rfl (j := q) (by omega) (by decide) dX1_dropAlike_38 ?_
        refine lz_iast hx hb hK hP hD hS 1 0 rfl rfl (j := lf) (x := (K1 q)) (by omega) (by decide) dX1_dropAlike_39 (fun H locs hP hD hS => ?_)
        have hP : va_P (dC, dI) vwCl [(r, .inr (0, [.ref k, .ref t, .int (nI n), .int c1, .int wr])), (k, .inl (cA, 500, .inl (upd K1 lf (K1 q)))), (t, .inl (cB, 500, .inl T1))] H := hP
        have hD : va_D A [(r, .inr (0, [.ref k, .ref t, .int (nI n), .int c1, .int wr])), (k, .inl (cA, 500, .inl (upd K1 lf (K1 q)))), (t, .inl (cB, 500, .inl T1))] := hD
        refine lv_aload_n hx hb dX1_dropAlike_40 rfl (lv_at hl 0 rfl) ?_
        refine va_get (D := (dC, dI)) (ci := 0) (v := .ref t) (C := RX1) (T := TX1) (N := 5) hx hb hts (by decide +kernel) hown hK hP 0 rfl rfl 1 (by decide) (hts (.fieldLink RX1 13 "RowPress$Row" "tags" "[I") (by decide +kernel)) (fun _ h9 => h9) rfl dX1_dropAlike_41 ?_
        refine lv_iload_n hx hb dX1_dropAlike_44 rfl (lv_at hl 2 rfl) ?_
        refine lv_aload_n hx hb dX1_dropAlike_45 rfl (lv_at hl 0 rfl) ?_
        refine va_get (D := (dC, dI)) (ci := 0) (v := .ref t) (C := RX1) (T := TX1) (N := 5) hx hb hts (by decide +kernel) hown hK hP 0 rfl rfl 1 (by decide) (hts (.fieldLink RX1 13 "RowPress$Row" "tags" "[I") (by decide +kernel)) (fun _ h9 => h9) rfl dX1_dropAlike_46 ?_
        refine lv_iload_n hx hb dX1_dropAlike_49 rfl (lv_at hl 3 rfl) ?_
        refine lz_iald hx hb hK hP 2 1 rfl rfl (j := q) (by omega) (by decide) dX1_dropAlike_50 ?_
        refine lz_iast hx hb hK hP hD hS 2 1 rfl rfl (j := lf) (x := (T1 q)) (by omega) (by decide) dX1_dropAlike_51 (fun H locs hP hD hS => ?_)
        have hP : va_P (dC, dI) vwCl [(r, .inr (0, [.ref k, .ref t, .int (nI n), .int c1, .int wr])), (k, .inl (cA, 500, .inl (upd K1 lf (K1 q)))), (t, .inl (cB, 500, .inl (upd T1 lf (T1 q))))] H := hP
        have hD : va_D A [(r, .inr (0, [.ref k, .ref t, .int (nI n), .int c1, .int wr])), (k, .inl (cA, 500, .inl (upd K1 lf (K1 q)))), (t, .inl (cB, 500, .inl (upd T1 lf (T1 q))))] := hD
        refine lv_iinc (v := (nI (lf + 1))) (lv' := [(2, .int (nI (lf + 1))), (0, .ref r), (1, .int (nI o)), (3, .int (nI q))]) hx hb dX1_dropAlike_52 hl (k := 2) rfl (by first | exact nI_add lf 1 | (rw [← nI_add]; rfl)) (by decide) rfl (fun ls hl => ?_)
        refine lv_iinc (v := (nI (q + 1))) (lv' := [(3, .int (nI (q + 1))), (2, .int (nI (lf + 1))), (0, .ref r), (1, .int (nI o))]) hx hb dX1_dropAlike_55 hl (k := 3) rfl (by first | exact nI_add q 1 | (rw [← nI_add]; rfl)) (by decide) rfl (fun ls hl => ?_)
        refine lv_goto (tgt := 4) hx hb dX1_dropAlike_58 (by decide) ?_
        exact ihj ((lf + 1), (q + 1), (upd K1 lf (K1 q)), (upd T1 lf (T1 q)), c1) (by show n - (q + 1) < n - q; omega) _ _ _ ⟨by omega, thI_keep vj1 (Or.inl (by have := vj1.2.2.2.2; omega)) (mZ_put K1 T1 lf (K1 q) (T1 q)), hP, hD, hS, lv_sub hl [2, 3, 1, 0] rfl⟩
      · refine lv_aload_n hx hb dX1_dropAlike_16 rfl (lv_at hl 0 rfl) ?_
        refine lv_iload_n hx hb dX1_dropAlike_17 rfl (lv_at hl 2 rfl) ?_
        refine lv_iconst (v := (nI 1)) hx hb dX1_dropAlike_18 (by decide) ?_
        refine lv_isub hx hb dX1_dropAlike_19 ?_
        refine lz_top (y := (nI (lf - 1))) (pk_sub (by omega)) ?_
        refine lv_iload_n hx hb dX1_dropAlike_20 rfl (lv_at hl 3 rfl) ?_
        refine lv_iload_n hx hb dX1_dropAlike_21 rfl (lv_at hl 1 rfl) ?_
        have hPc := hP.sub (ws' := [(r, .inr (0, [.ref k, .ref t, .int (nI n), .int c1, .int wr])), (k, .inl (cA, 500, .inl K1)), (t, .inl (cB, 500, .inl T1))]) [0, 1, 2] rfl
        have hDc := hD.sub (ws' := [(r, .inr (0, [.ref k, .ref t, .int (nI n), .int c1, .int wr])), (k, .inl (cA, 500, .inl K1)), (t, .inl (cB, 500, .inl T1))]) [0, 1, 2] (by decide) rfl
        have hKc := hK.sub (tys' := [(cA, .int), (cB, .int)]) [0, 1] rfl
        have hFc := va_free (wc := [(r, .inr (0, [.ref k, .ref t, .int (nI n), .int c1, .int wr])), (k, .inl (cA, 500, .inl K1)), (t, .inl (cB, 500, .inl T1))]) hD hS hA [0, 1, 2] rfl
        refine va_calli (va_runV (As := [.int (nI (lf - 1)), .int (nI q), .int (nI o)]) (rest := []) ⟨hx, hb, hml, hown, hts⟩ (c_X1_lessAt l dC dI H.size r k t cA cB n c1 wr K1 T1 (lf - 1) q o (by omega) (by omega) ho) (cwV 3 hts gX1_dropAlike_X1_lessAt rfl rfl rfl (by decide +kernel) ⟨Nat.le_of_ble_eq_true rfl, Nat.le_of_ble_eq_true rfl⟩) ⟨fun a U g mk q => by obtain ⟨q0, q1, qP, qK, qD⟩ := q; exact ⟨q0, q1, qP, va_K.moved (u := U) (U := U.calling g mk a) (Vm.Alike.refl U.vm) qK, qD⟩, va_recv hKc hPc (ci := 0) (q0 := 0) rfl rfl, fun U hU hW => ⟨rfl, by rw [hU], by rw [hU]; exact hPc, va_K.moved hW.alike hKc, hDc.weaken (fun _ _ _ _ => trivial)⟩⟩ rfl rfl hl.1 rfl (lv_room (Nat.le_of_ble_eq_true rfl)) dX1_dropAlike_22 ⟨Nat.le_of_ble_eq_true rfl, Nat.le_of_ble_eq_true rfl⟩) hS (fun q _ h => hFc q h) hFc (fun r_1 u tS H1 locs ht hvm hw hB hz1 hk1 hS => ?_)
        obtain ⟨hq, rfl⟩ := hw
        obtain ⟨hP1, hK1, hD1⟩ := hB
        rw [ht] at hP1
        obtain ⟨hP, hD⟩ := va_join (wr := []) (w1 := [(r, .inr (0, [.ref k, .ref t, .int (nI n), .int (c1 + nI 1), .int wr])), (k, .inl (cA, 500, .inl K1)), (t, .inl (cB, 500, .inl T1))]) hP hD [0, 1, 2] [] rfl rfl (by decide) (by decide) hk1 hFc hP1 hD1
        generalize H1 = H at hP hS ⊢
        have hP : va_P (dC, dI) vwCl [(r, .inr (0, [.ref k, .ref t, .int (nI n), .int (c1 + nI 1), .int wr])), (k, .inl (cA, 500, .inl K1)), (t, .inl (cB, 500, .inl T1))] H := hP
        have hD : va_D A [(r, .inr (0, [.ref k, .ref t, .int (nI n), .int (c1 + nI 1), .int wr])), (k, .inl (cA, 500, .inl K1)), (t, .inl (cB, 500, .inl T1))] := hD
        refine lv_if_eq (tgt := 55) hx hb dX1_dropAlike_25 (by decide) (fun c25 => ?_) (fun c25 => ?_)
        · refine lv_iinc (v := (nI (q + 1))) (lv' := [(3, .int (nI (q + 1))), (0, .ref r), (1, .int (nI o)), (2, .int (nI lf))]) hx hb dX1_dropAlike_55 hl (k := 3) rfl (by first | exact nI_add q 1 | (rw [← nI_add]; rfl)) (by decide) rfl (fun ls hl => ?_)
          refine lv_goto (tgt := 4) hx hb dX1_dropAlike_58 (by decide) ?_
          exact ihj (lf, (q + 1), K1, T1, (c1 + nI 1)) (by show n - (q + 1) < n - q; omega) _ _ _ ⟨by omega, thI_skip vj1 (by omega) hs c13 (fun z => tr_0 hq c25 ((thI_ask vj1 c13).mpr z)), hP, hD, hS, lv_sub hl [1, 2, 3, 0] rfl⟩
        · refine lv_aload_n hx hb dX1_dropAlike_28 rfl (lv_at hl 0 rfl) ?_
          refine va_get (D := (dC, dI)) (ci := 0) (v := .ref k) (C := RX1) (T := TX1) (N := 5) hx hb hts (by decide +kernel) hown hK hP 0 rfl rfl 0 (by decide) (hts (.fieldLink RX1 9 "RowPress$Row" "keys" "[I") (by decide +kernel)) (fun _ h9 => h9) rfl dX1_dropAlike_29 ?_
          refine lv_iload_n hx hb dX1_dropAlike_32 rfl (lv_at hl 2 rfl) ?_
          refine lv_aload_n hx hb dX1_dropAlike_33 rfl (lv_at hl 0 rfl) ?_
          refine va_get (D := (dC, dI)) (ci := 0) (v := .ref k) (C := RX1) (T := TX1) (N := 5) hx hb hts (by decide +kernel) hown hK hP 0 rfl rfl 0 (by decide) (hts (.fieldLink RX1 9 "RowPress$Row" "keys" "[I") (by decide +kernel)) (fun _ h9 => h9) rfl dX1_dropAlike_34 ?_
          refine lv_iload_n hx hb dX1_dropAlike_37 rfl (lv_at hl 3 rfl) ?_
          refine lz_iald hx hb hK hP 1 0 rfl rfl (j := q) (by omega) (by decide) dX1_dropAlike_38 ?_
          refine lz_iast hx hb hK hP hD hS 1 0 rfl rfl (j := lf) (x := (K1 q)) (by omega) (by decide) dX1_dropAlike_39 (fun H locs hP hD hS => ?_)
          have hP : va_P (dC, dI) vwCl [(r, .inr (0, [.ref k, .ref t, .int (nI n), .int (c1 + nI 1), .int wr])), (k, .inl (cA, 500, .inl (upd K1 lf (K1 q)))), (t, .inl (cB, 500, .inl T1))] H := hP
          have hD : va_D A [(r, .inr (0, [.ref k, .ref t, .int (nI n), .int (c1 + nI 1), .int wr])), (k, .inl (cA, 500, .inl (upd K1 lf (K1 q)))), (t, .inl (cB, 500, .inl T1))] := hD
          refine lv_aload_n hx hb dX1_dropAlike_40 rfl (lv_at hl 0 rfl) ?_
          refine va_get (D := (dC, dI)) (ci := 0) (v := .ref t) (C := RX1) (T := TX1) (N := 5) hx hb hts (by decide +kernel) hown hK hP 0 rfl rfl 1 (by decide) (hts (.fieldLink RX1 13 "RowPress$Row" "tags" "[I") (by decide +kernel)) (fun _ h9 => h9) rfl dX1_dropAlike_41 ?_
          refine lv_iload_n hx hb dX1_dropAlike_44 rfl (lv_at hl 2 rfl) ?_
          refine lv_aload_n hx hb dX1_dropAlike_45 rfl (lv_at hl 0 rfl) ?_
          refine va_get (D := (dC, dI)) (ci := 0) (v := .ref t) (C := RX1) (T := TX1) (N := 5) hx hb hts (by decide +kernel) hown hK hP 0 rfl rfl 1 (by decide) (hts (.fieldLink RX1 13 "RowPress$Row" "tags" "[I") (by decide +kernel)) (fun _ h9 => h9) rfl dX1_dropAlike_46 ?_
          refine lv_iload_n hx hb dX1_dropAlike_49 rfl (lv_at hl 3 rfl) ?_
          refine lz_iald hx hb hK hP 2 1 rfl rfl (j := q) (by omega) (by decide) dX1_dropAlike_50 ?_
          refine lz_iast hx hb hK hP hD hS 2 1 rfl rfl (j := lf) (x := (T1 q)) (by omega) (by decide) dX1_dropAlike_51 (fun H locs hP hD hS => ?_)
          have hP : va_P (dC, dI) vwCl [(r, .inr (0, [.ref k, .ref t, .int (nI n), .int (c1 + nI 1), .int wr])), (k, .inl (cA, 500, .inl (upd K1 lf (K1 q)))), (t, .inl (cB, 500, .inl (upd T1 lf (T1 q))))] H := hP
          have hD : va_D A [(r, .inr (0, [.ref k, .ref t, .int (nI n), .int (c1 + nI 1), .int wr])), (k, .inl (cA, 500, .inl (upd K1 lf (K1 q)))), (t, .inl (cB, 500, .inl (upd T1 lf (T1 q))))] := hD
          refine lv_iinc (v := (nI (lf + 1))) (lv' := [(2, .int (nI (lf + 1))), (0, .ref r), (1, .int (nI o)), (3, .int (nI q))]) hx hb dX1_dropAlike_52 hl (k := 2) rfl (by first | exact nI_add lf 1 | (rw [← nI_add]; rfl)) (by decide) rfl (fun ls hl => ?_)
          refine lv_iinc (v := (nI (q + 1))) (lv' := [(3, .int (nI (q + 1))), (2, .int (nI (lf + 1))), (0, .ref r), (1, .int (nI o))]) hx hb dX1_dropAlike_55 hl (k := 3) rfl (by first | exact nI_add q 1 | (rw [← nI_add]; rfl)) (by decide) rfl (fun ls hl => ?_)
          refine lv_goto (tgt := 4) hx hb dX1_dropAlike_58 (by decide) ?_
          exact ihj ((lf + 1), (q + 1), (upd K1 lf (K1 q)), (upd T1 lf (T1 q)), (c1 + nI 1)) (by show n - (q + 1) < n - q; omega) _ _ _ ⟨by omega, thI_keep vj1 ((thI_ask vj1 c13).mp (tr_1 hq c25)) (mZ_put K1 T1 lf (K1 q) (T1 q)), hP, hD, hS, lv_sub hl [2, 3, 1, 0] rfl⟩
  · exact ⟨Nat.zero_le _, thI_0, hP, hD, hS, lv_sub hl [2, 3, 1, 0] rfl⟩
