set_option maxHeartbeats 4000000 in
set_option maxRecDepth 100000 in
theorem c_X1_startOfBlocks (l : Launch) (dC : Nat → ClassId) (dI : Nat → Nat → Nat) (sz : Nat) (r k t : Nat) (cA cB : ClassId) (n : Nat) (cm wr : Int32) (K T : Nat → Int32) (a d b o kk : Nat) (had : a < d) (hdb : d < b) (hb5 : b ≤ 500) (ho : o < 4) (hk : b - a ≤ 2 ^ kk) : Met l yX1_startOfBlocks wsX1_startOfBlocks ({ frames := 2, cells := 0, slots := 0, locals := 45 }) (va_Pc [.ref r, .int (nI a), .int (nI d), .int (nI b), .int (nI o)] (fun U => U.heap.size = sz ∧ va_P (dC, dI) vwCl [(r, .inr (0, [.ref k, .ref t, .int (nI n), .int cm, .int wr])), (k, .inl (cA, 500, .inl K)), (t, .inl (cB, 500, .inl T))] U.heap ∧ va_K (dC, dI) vwCl [(cA, .int), (cB, .int)] U ∧ va_D (fun _ => True) [(r, .inr (0, [.ref k, .ref t, .int (nI n), .int cm, .int wr])), (k, .inl (cA, 500, .inl K)), (t, .inl (cB, 500, .inl T))])) (va_Qi (fun r u => ∃ q g, r = nI q ∧ u = (K, T, n, cm + nI g, wr) ∧ g ≤ kk ∧ a ≤ q ∧ q ≤ d ∧ d ≤ (a + b) / 2 + d - q ∧ (a + b) / 2 + d - q ≤ b ∧ (q < d → d < (a + b) / 2 + d - q → mk o (K ((a + b) / 2 + d - q - 1)) < mk o (K q)) ∧ (a < q → (a + b) / 2 + d - q < b → mk o (K (q - 1)) ≤ mk o (K ((a + b) / 2 + d - q)))) (atR dC dI (va_A [(r, .inr (0, [.ref k, .ref t, .int (nI n), .int cm, .int wr])), (k, .inl (cA, 500, .inl K)), (t, .inl (cB, 500, .inl T))] sz) r k t cA cB) (va_A [(r, .inr (0, [.ref k, .ref t, .int (nI n), .int cm, .int wr])), (k, .inl (cA, 500, .inl K)), (t, .inl (cB, 500, .inl T))] sz)) 0 0 (va_A [(r, .inr (0, [.ref k, .ref t, .int (nI n), .int cm, .int wr])), (k, .inl (cA, 500, .inl K)), (t, .inl (cB, 500, .inl T))] sz) := by
  refine Met.ofW (cc := cX1_startOfBlocks) (maxL := 10) (ret := (some .int)) (by decide) rfl ?_
  intro p e s m args below meth c s₁ B hml hv
  obtain ⟨rfl, hsz, hP, hK, hD0⟩ := hv
  have hx := B.exec
  have hb := B.bytes
  have hr := B.returns
  have hts := atoms_spec (ws := wsX1_startOfBlocks) B.pre
  have hown : s.vm.findClass RX1 = some m.cls := findClass_of_methodNamed B.named
  have hlocks := B.notSynchronized
  subst hsz
  have hD := hD0.self (sz := s.heap.size)
  generalize hAe : va_A [(r, .inr (0, [.ref k, .ref t, .int (nI n), .int cm, .int wr])), (k, .inl (cA, 500, .inl K)), (t, .inl (cB, 500, .inl T))] s.heap.size = A at hD ⊢
  have hA : ∀ q : Nat, s.heap.size ≤ q → A q := fun q h => by rw [← hAe]; exact Or.inr h
  have hS : va_S A s.heap s.heap [] := va_S.rf
  have hP : va_P (dC, dI) vwCl [(r, .inr (0, [.ref k, .ref t, .int (nI n), .int cm, .int wr])), (k, .inl (cA, 500, .inl K)), (t, .inl (cB, 500, .inl T))] s.heap := hP
  have hl := lv_entry ([.ref r, .int (nI a), .int (nI d), .int (nI b), .int (nI o)]) (n := 10) (Nat.le_of_ble_eq_true rfl)
  rw [lg_entry_eq]
  generalize (lg_sl ([.ref r, .int (nI a), .int (nI d), .int (nI b), .int (nI o)]) ++ List.replicate (10 - (lg_sl ([.ref r, .int (nI a), .int (nI d), .int (nI b), .int (nI o)])).length) Slot.unset).toArray = ls at hl ⊢
  have hl : lv_has ls 10 [(0, .ref r), (1, .int (nI a)), (2, .int (nI d)), (3, .int (nI b)), (4, .int (nI o))] := hl
  refine lv_iload_n hx hb dX1_startOfBlocks_0 rfl (lv_at hl 1 rfl) ?_
  refine lv_iload_n hx hb dX1_startOfBlocks_1 rfl (lv_at hl 3 rfl) ?_
  refine lv_iadd hx hb dX1_startOfBlocks_2 ?_
  refine lz_top (y := (nI (a + b))) (nI_add _ _) ?_
  refine lv_iconst (v := (nI 2)) hx hb dX1_startOfBlocks_3 (by decide) ?_
  refine lv_idiv hx hb dX1_startOfBlocks_4 (nI_ne0 (by omega) (by omega)) ?_
  refine lz_top (y := (nI ((a + b) / 2))) (pk_div (by omega) (by omega) (by omega)) ?_
  refine lv_istore (lv' := [(5, .int (nI ((a + b) / 2))), (0, .ref r), (1, .int (nI a)), (2, .int (nI d)), (3, .int (nI b)), (4, .int (nI o))]) hx hb dX1_startOfBlocks_5 hl (by decide) rfl (fun ls hl => ?_)
  refine lv_iload hx hb dX1_startOfBlocks_7 (lv_at hl 0 rfl) ?_
  refine lv_iload_n hx hb dX1_startOfBlocks_9 rfl (lv_at hl 3 rfl) ?_
  refine lv_iadd hx hb dX1_startOfBlocks_10 ?_
  refine lz_top (y := (nI (((a + b) / 2) + d))) (nI_add _ _) ?_
  refine lv_iconst (v := (nI 1)) hx hb dX1_startOfBlocks_11 (by decide) ?_
  refine lv_isub hx hb dX1_startOfBlocks_12 ?_
  refine lz_top (y := (nI ((((a + b) / 2) + d) - 1))) (pk_sub (by omega)) ?_
  refine lv_istore (lv' := [(6, .int (nI ((((a + b) / 2) + d) - 1))), (5, .int (nI ((a + b) / 2))), (0, .ref r), (1, .int (nI a)), (2, .int (nI d)), (3, .int (nI b)), (4, .int (nI o))]) hx hb dX1_startOfBlocks_13 hl (by decide) rfl (fun ls hl => ?_)
  refine lv_iload_n hx hb dX1_startOfBlocks_15 rfl (lv_at hl 4 rfl) ?_
  refine lv_iload hx hb dX1_startOfBlocks_16 (lv_at hl 1 rfl) ?_
  refine lz_icmp_le (tgt := 30) (by omega) (by omega) hx hb dX1_startOfBlocks_18 (by decide) (fun c18 => ?_) (fun c18 => ?_)
  · refine lv_iload_n hx hb dX1_startOfBlocks_30 rfl (lv_at hl 3 rfl) ?_
    refine lv_istore (lv' := [(7, .int (nI a)), (6, .int (nI ((((a + b) / 2) + d) - 1))), (5, .int (nI ((a + b) / 2))), (0, .ref r), (1, .int (nI a)), (2, .int (nI d)), (3, .int (nI b)), (4, .int (nI o))]) hx hb dX1_startOfBlocks_31 hl (by decide) rfl (fun ls hl => ?_)
    refine lv_iload_n hx hb dX1_startOfBlocks_33 rfl (lv_at hl 5 rfl) ?_
    refine lv_iload hx hb dX1_startOfBlocks_34 (lv_at hl 2 rfl) ?_
    refine lz_icmp_le (tgt := 44) (by omega) (by omega) hx hb dX1_startOfBlocks_36 (by decide) (fun c36 => ?_) (fun c36 => ?_)
    · refine lv_iload_n hx hb dX1_startOfBlocks_44 rfl (lv_at hl 5 rfl) ?_
      refine lv_istore (lv' := [(8, .int (nI d)), (7, .int (nI a)), (6, .int (nI ((((a + b) / 2) + d) - 1))), (5, .int (nI ((a + b) / 2))), (0, .ref r), (1, .int (nI a)), (2, .int (nI d)), (3, .int (nI b)), (4, .int (nI o))]) hx hb dX1_startOfBlocks_45 hl (by decide) rfl (fun ls hl => ?_)
      refine lz_loop (σ := Nat × Nat × Int32 × Nat × Nat) (μ := fun X_ => match X_ with | (lo, hi, c1, g, j) => hi - lo) (Inv := fun X_ H locs ls => match X_ with | (lo, hi, c1, g, j) => (a ≤ lo) ∧ (lo ≤ hi) ∧ (hi ≤ d) ∧ (c1 = cm + nI g) ∧ (hi - lo < 2 ^ j) ∧ (g + j ≤ kk) ∧ (lo = a ∨ ¬ mk o (K ((a + b) / 2 + d - lo)) < mk o (K (lo - 1))) ∧ (hi = d ∨ mk o (K ((a + b) / 2 + d - 1 - hi)) < mk o (K hi)) ∧ va_P (dC, dI) vwCl [(r, .inr (0, [.ref k, .ref t, .int (nI n), .int c1, .int wr])), (k, .inl (cA, 500, .inl K)), (t, .inl (cB, 500, .inl T))] H ∧ va_D A [(r, .inr (0, [.ref k, .ref t, .int (nI n), .int c1, .int wr])), (k, .inl (cA, 500, .inl K)), (t, .inl (cB, 500, .inl T))] ∧ va_S A s.heap H locs ∧ lv_has ls 10 [(0, .ref r), (1, .int (nI a)), (2, .int (nI d)), (3, .int (nI b)), (4, .int (nI o)), (5, .int (nI ((a + b) / 2))), (6, .int (nI ((((a + b) / 2) + d) - 1))), (7, .int (nI lo)), (8, .int (nI hi))]) ?_ (a, d, cm, 0, kk) _ _ _ ?_
      · rintro ⟨lo, hi, c1, g, j⟩ ihg H locs ls ⟨vg0, vg1, vg2, vg3, vg4, vg5, vg6, vg7, hP, hD, hS, hl⟩
        refine lv_iload hx hb dX1_startOfBlocks_47 (lv_at hl 7 rfl) ?_
        refine lv_iload hx hb dX1_startOfBlocks_49 (lv_at hl 8 rfl) ?_
        refine lz_icmp_ge (tgt := 95) (by omega) (by omega) hx hb dX1_startOfBlocks_51 (by decide) (fun c51 => ?_) (fun c51 => ?_)
        · refine lv_iload hx hb dX1_startOfBlocks_95 (lv_at hl 7 rfl) ?_
          have hlh : hi = lo := by omega
          subst hlh
          exact W.iret (v := (nI hi)) hx hb hr (fun tS ht hW => ⟨⟨(nI hi), (K, T, n, c1, wr), rfl, ⟨hi, g, rfl, by rw [vg3], by omega, by omega, by omega, by omega, by omega, fun z1 z2 => (vg7.elim (fun z => by omega) (fun z => by rw [show (a + b) / 2 + d - hi - 1 = (a + b) / 2 + d - 1 - hi by omega]; exact z)), fun z1 z2 => (vg6.elim (fun z => by omega) (fun z => Int.not_lt.mp z))⟩, by rw [ht]; exact hP, va_K.moved hW.alike hK, hD⟩, hS.F ht⟩) hS.2.2 dX1_startOfBlocks_97
        · obtain ⟨j1, rfl⟩ : ∃ j1, j = j1 + 1 := by
            cases j with
            | zero => exfalso; rw [Nat.pow_zero] at vg4; omega
            | succ j1 => exact ⟨j1, rfl⟩
          rw [Nat.pow_succ] at vg4
          refine lv_iload hx hb dX1_startOfBlocks_54 (lv_at hl 7 rfl) ?_
          refine lv_iload hx hb dX1_startOfBlocks_56 (lv_at hl 8 rfl) ?_
          refine lv_iadd hx hb dX1_startOfBlocks_58 ?_
          refine lz_top (y := (nI (lo + hi))) (nI_add _ _) ?_
          refine lv_iconst (v := (nI 2)) hx hb dX1_startOfBlocks_59 (by decide) ?_
          refine lv_idiv hx hb dX1_startOfBlocks_60 (nI_ne0 (by omega) (by omega)) ?_
          refine lz_top (y := (nI ((lo + hi) / 2))) (pk_div (by omega) (by omega) (by omega)) ?_
          refine lv_istore (lv' := [(9, .int (nI ((lo + hi) / 2))), (0, .ref r), (1, .int (nI a)), (2, .int (nI d)), (3, .int (nI b)), (4, .int (nI o)), (5, .int (nI ((a + b) / 2))), (6, .int (nI ((((a + b) / 2) + d) - 1))), (7, .int (nI lo)), (8, .int (nI hi))]) hx hb dX1_startOfBlocks_61 hl (by decide) rfl (fun ls hl => ?_)
          refine lv_aload_n hx hb dX1_startOfBlocks_63 rfl (lv_at hl 1 rfl) ?_
          refine lv_iload hx hb dX1_startOfBlocks_64 (lv_at hl 7 rfl) ?_
          refine lv_iload hx hb dX1_startOfBlocks_66 (lv_at hl 0 rfl) ?_
          refine lv_isub hx hb dX1_startOfBlocks_68 ?_
          refine lz_top (y := (nI (((((a + b) / 2) + d) - 1) - ((lo + hi) / 2)))) (pk_sub (by omega)) ?_
          refine lv_iload hx hb dX1_startOfBlocks_69 (lv_at hl 0 rfl) ?_
          refine lv_iload hx hb dX1_startOfBlocks_71 (lv_at hl 5 rfl) ?_
          have hPc := hP.sub (ws' := [(r, .inr (0, [.ref k, .ref t, .int (nI n), .int c1, .int wr])), (k, .inl (cA, 500, .inl K)), (t, .inl (cB, 500, .inl T))]) [0, 1, 2] rfl
          have hDc := hD.sub (ws' := [(r, .inr (0, [.ref k, .ref t, .int (nI n), .int c1, .int wr])), (k, .inl (cA, 500, .inl K)), (t, .inl (cB, 500, .inl T))]) [0, 1, 2] (by decide) rfl
          have hKc := hK.sub (tys' := [(cA, .int), (cB, .int)]) [0, 1] rfl
          have hFc := va_free (wc := [(r, .inr (0, [.ref k, .ref t, .int (nI n), .int c1, .int wr])), (k, .inl (cA, 500, .inl K)), (t, .inl (cB, 500, .inl T))]) hD hS hA [0, 1, 2] rfl
          refine va_calli (va_runV (As := [.int (nI (((((a + b) / 2) + d) - 1) - ((lo + hi) / 2))), .int (nI ((lo + hi) / 2)), .int (nI o)]) (rest := []) ⟨hx, hb, hml, hown, hts⟩ (c_X1_lessAt l dC dI H.size r k t cA cB n c1 wr K T ((a + b) / 2 + d - 1 - (lo + hi) / 2) ((lo + hi) / 2) o (by omega) (by omega) ho) (cwV 3 hts gX1_startOfBlocks_X1_lessAt rfl rfl rfl (by decide +kernel) ⟨Nat.le_of_ble_eq_true rfl, Nat.le_of_ble_eq_true rfl⟩) ⟨fun a U g mk q => by obtain ⟨q0, q1, qP, qK, qD⟩ := q; exact ⟨q0, q1, qP, va_K.moved (u := U) (U := U.calling g mk a) (Vm.Alike.refl U.vm) qK, qD⟩, va_recv hKc hPc (ci := 0) (q0 := 0) rfl rfl, fun U hU hW => ⟨rfl, by rw [hU], by rw [hU]; exact hPc, va_K.moved hW.alike hKc, hDc.weaken (fun _ _ _ _ => trivial)⟩⟩ rfl rfl hl.1 rfl (lv_room (Nat.le_of_ble_eq_true rfl)) dX1_startOfBlocks_73 ⟨Nat.le_of_ble_eq_true rfl, Nat.le_of_ble_eq_true rfl⟩) hS (fun q _ h => hFc q h) hFc (fun r_1 u tS H1 locs ht hvm hw hB hz1 hk1 hS => ?_)
          obtain ⟨hq, rfl⟩ := hw
          obtain ⟨hP1, hK1, hD1⟩ := hB
          rw [ht] at hP1
          obtain ⟨hP, hD⟩ := va_join (wr := []) (w1 := [(r, .inr (0, [.ref k, .ref t, .int (nI n), .int (c1 + nI 1), .int wr])), (k, .inl (cA, 500, .inl K)), (t, .inl (cB, 500, .inl T))]) hP hD [0, 1, 2] [] rfl rfl (by decide) (by decide) hk1 hFc hP1 hD1
          generalize H1 = H at hP hS ⊢
          have hP : va_P (dC, dI) vwCl [(r, .inr (0, [.ref k, .ref t, .int (nI n), .int (c1 + nI 1), .int wr])), (k, .inl (cA, 500, .inl K)), (t, .inl (cB, 500, .inl T))] H := hP
          have hD : va_D A [(r, .inr (0, [.ref k, .ref t, .int (nI n), .int (c1 + nI 1), .int wr])), (k, .inl (cA, 500, .inl K)), (t, .inl (cB, 500, .inl T))] := hD
          refine lv_if_eq (tgt := 86) hx hb dX1_startOfBlocks_76 (by decide) (fun c76 => ?_) (fun c76 => ?_)
          · refine lv_iload hx hb dX1_startOfBlocks_86 (lv_at hl 0 rfl) ?_
            refine lv_iconst (v := (nI 1)) hx hb dX1_startOfBlocks_88 (by decide) ?_
            refine lv_iadd hx hb dX1_startOfBlocks_89 ?_
            refine lz_top (y := (nI (((lo + hi) / 2) + 1))) (nI_add _ _) ?_
            refine lv_istore (lv' := [(7, .int (nI (((lo + hi) / 2) + 1))), (9, .int (nI ((lo + hi) / 2))), (0, .ref r), (1, .int (nI a)), (2, .int (nI d)), (3, .int (nI b)), (4, .int (nI o)), (5, .int (nI ((a + b) / 2))), (6, .int (nI ((((a + b) / 2) + d) - 1))), (8, .int (nI hi))]) hx hb dX1_startOfBlocks_90 hl (by decide) rfl (fun ls hl => ?_)
            refine lv_goto (tgt := 47) hx hb dX1_startOfBlocks_92 (by decide) ?_
            exact ihg ((((lo + hi) / 2) + 1), hi, (c1 + nI 1), (g + 1), j1) (by show hi - (((lo + hi) / 2) + 1) < hi - lo; omega) _ _ _ ⟨by omega, by omega, by omega, ad1 vg3 1, by omega, by omega, Or.inr (by have z := tr_0 hq c76; rw [show (a + b) / 2 + d - ((lo + hi) / 2 + 1) = (a + b) / 2 + d - 1 - (lo + hi) / 2 by omega, show (lo + hi) / 2 + 1 - 1 = (lo + hi) / 2 by omega]; exact z), vg7, hP, hD, hS, lv_sub hl [2, 3, 4, 5, 6, 7, 8, 0, 9] rfl⟩
          · refine lv_iload hx hb dX1_startOfBlocks_79 (lv_at hl 0 rfl) ?_
            refine lv_istore (lv' := [(8, .int (nI ((lo + hi) / 2))), (9, .int (nI ((lo + hi) / 2))), (0, .ref r), (1, .int (nI a)), (2, .int (nI d)), (3, .int (nI b)), (4, .int (nI o)), (5, .int (nI ((a + b) / 2))), (6, .int (nI ((((a + b) / 2) + d) - 1))), (7, .int (nI lo))]) hx hb dX1_startOfBlocks_81 hl (by decide) rfl (fun ls hl => ?_)
            refine lv_goto (tgt := 92) hx hb dX1_startOfBlocks_83 (by decide) ?_
            refine lv_goto (tgt := 47) hx hb dX1_startOfBlocks_92 (by decide) ?_
            exact ihg (lo, ((lo + hi) / 2), (c1 + nI 1), (g + 1), j1) (by show ((lo + hi) / 2) - lo < hi - lo; omega) _ _ _ ⟨by omega, by omega, by omega, ad1 vg3 1, by omega, by omega, vg6, Or.inr (tr_1 hq c76), hP, hD, hS, lv_sub hl [2, 3, 4, 5, 6, 7, 8, 9, 0] rfl⟩
      · exact ⟨by omega, by omega, by omega, ad0 cm, by omega, by omega, Or.inl rfl, Or.inl rfl, hP, hD, hS, lv_sub hl [4, 5, 6, 7, 8, 3, 2, 1, 0] rfl⟩
    · exfalso; omega
  · refine lv_iload hx hb dX1_startOfBlocks_21 (lv_at hl 1 rfl) ?_
    refine lv_iload_n hx hb dX1_startOfBlocks_23 rfl (lv_at hl 4 rfl) ?_
    refine lv_iadd hx hb dX1_startOfBlocks_24 ?_
    refine lz_top (y := (nI (((a + b) / 2) + d))) (nI_add _ _) ?_
    refine lv_iload_n hx hb dX1_startOfBlocks_25 rfl (lv_at hl 5 rfl) ?_
    refine lv_isub hx hb dX1_startOfBlocks_26 ?_
    refine lz_top (y := (nI ((((a + b) / 2) + d) - b))) (pk_sub (by omega)) ?_
    refine lv_goto (tgt := 31) hx hb dX1_startOfBlocks_27 (by decide) ?_
    refine lv_istore (lv' := [(7, .int (nI ((((a + b) / 2) + d) - b))), (6, .int (nI ((((a + b) / 2) + d) - 1))), (5, .int (nI ((a + b) / 2))), (0, .ref r), (1, .int (nI a)), (2, .int (nI d)), (3, .int (nI b)), (4, .int (nI o))]) hx hb dX1_startOfBlocks_31 hl (by decide) rfl (fun ls hl => ?_)
    refine lv_iload_n hx hb dX1_startOfBlocks_33 rfl (lv_at hl 5 rfl) ?_
    refine lv_iload hx hb dX1_startOfBlocks_34 (lv_at hl 2 rfl) ?_
    refine lz_icmp_le (tgt := 44) (by omega) (by omega) hx hb dX1_startOfBlocks_36 (by decide) (fun c36 => ?_) (fun c36 => ?_)
    · exfalso; omega
    · refine lv_iload hx hb dX1_startOfBlocks_39 (lv_at hl 2 rfl) ?_
      refine lv_goto (tgt := 45) hx hb dX1_startOfBlocks_41 (by decide) ?_
      refine lv_istore (lv' := [(8, .int (nI ((a + b) / 2))), (7, .int (nI ((((a + b) / 2) + d) - b))), (6, .int (nI ((((a + b) / 2) + d) - 1))), (5, .int (nI ((a + b) / 2))), (0, .ref r), (1, .int (nI a)), (2, .int (nI d)), (3, .int (nI b)), (4, .int (nI o))]) hx hb dX1_startOfBlocks_45 hl (by decide) rfl (fun ls hl => ?_)
      refine lz_loop (σ := Nat × Nat × Int32 × Nat × Nat) (μ := fun X_ => match X_ with | (lo, hi, c1, g, j) => hi - lo) (Inv := fun X_ H locs ls => match X_ with | (lo, hi, c1, g, j) => (((a + b) / 2 + d - b) ≤ lo) ∧ (lo ≤ hi) ∧ (hi ≤ ((a + b) / 2)) ∧ (c1 = cm + nI g) ∧ (hi - lo < 2 ^ j) ∧ (g + j ≤ kk) ∧ (lo = ((a + b) / 2 + d - b) ∨ ¬ mk o (K ((a + b) / 2 + d - lo)) < mk o (K (lo - 1))) ∧ (hi = ((a + b) / 2) ∨ mk o (K ((a + b) / 2 + d - 1 - hi)) < mk o (K hi)) ∧ va_P (dC, dI) vwCl [(r, .inr (0, [.ref k, .ref t, .int (nI n), .int c1, .int wr])), (k, .inl (cA, 500, .inl K)), (t, .inl (cB, 500, .inl T))] H ∧ va_D A [(r, .inr (0, [.ref k, .ref t, .int (nI n), .int c1, .int wr])), (k, .inl (cA, 500, .inl K)), (t, .inl (cB, 500, .inl T))] ∧ va_S A s.heap H locs ∧ lv_has ls 10 [(0, .ref r), (1, .int (nI a)), (2, .int (nI d)), (3, .int (nI b)), (4, .int (nI o)), (5, .int (nI ((a + b) / 2))), (6, .int (nI ((((a + b) / 2) + d) - 1))), (7, .int (nI lo)), (8, .int (nI hi))]) ?_ (((((a + b) / 2) + d) - b), ((a + b) / 2), cm, 0, kk) _ _ _ ?_
      · rintro ⟨lo, hi, c1, g, j⟩ ihg H locs ls ⟨vg0, vg1, vg2, vg3, vg4, vg5, vg6, vg7, hP, hD, hS, hl⟩
        refine lv_iload hx hb dX1_startOfBlocks_47 (lv_at hl 7 rfl) ?_
        refine lv_iload hx hb dX1_startOfBlocks_49 (lv_at hl 8 rfl) ?_
        refine lz_icmp_ge (tgt := 95) (by omega) (by omega) hx hb dX1_startOfBlocks_51 (by decide) (fun c51 => ?_) (fun c51 => ?_)
        · refine lv_iload hx hb dX1_startOfBlocks_95 (lv_at hl 7 rfl) ?_
          have hlh : hi = lo := by omega
          subst hlh
          exact W.iret (v := (nI hi)) hx hb hr (fun tS ht hW => ⟨⟨(nI hi), (K, T, n, c1, wr), rfl, ⟨hi, g, rfl, by rw [vg3], by omega, by omega, by omega, by omega, by omega, fun z1 z2 => (vg7.elim (fun z => by omega) (fun z => by rw [show (a + b) / 2 + d - hi - 1 = (a + b) / 2 + d - 1 - hi by omega]; exact z)), fun z1 z2 => (vg6.elim (fun z => by omega) (fun z => Int.not_lt.mp z))⟩, by rw [ht]; exact hP, va_K.moved hW.alike hK, hD⟩, hS.F ht⟩) hS.2.2 dX1_startOfBlocks_97
        · obtain ⟨j1, rfl⟩ : ∃ j1, j = j1 + 1 := by
            cases j with
            | zero => exfalso; rw [Nat.pow_zero] at vg4; omega
            | succ j1 => exact ⟨j1, rfl⟩
          rw [Nat.pow_succ] at vg4
          refine lv_iload hx hb dX1_startOfBlocks_54 (lv_at hl 7 rfl) ?_
          refine lv_iload hx hb dX1_startOfBlocks_56 (lv_at hl 8 rfl) ?_
          refine lv_iadd hx hb dX1_startOfBlocks_58 ?_
          refine lz_top (y := (nI (lo + hi))) (nI_add _ _) ?_
          refine lv_iconst (v := (nI 2)) hx hb dX1_startOfBlocks_59 (by decide) ?_
          refine lv_idiv hx hb dX1_startOfBlocks_60 (nI_ne0 (by omega) (by omega)) ?_
          refine lz_top (y := (nI ((lo + hi) / 2))) (pk_div (by omega) (by omega) (by omega)) ?_
          refine lv_istore (lv' := [(9, .int (nI ((lo + hi) / 2))), (0, .ref r), (1, .int (nI a)), (2, .int (nI d)), (3, .int (nI b)), (4, .int (nI o)), (5, .int (nI ((a + b) / 2))), (6, .int (nI ((((a + b) / 2) + d) - 1))), (7, .int (nI lo)), (8, .int (nI hi))]) hx hb dX1_startOfBlocks_61 hl (by decide) rfl (fun ls hl => ?_)
          refine lv_aload_n hx hb dX1_startOfBlocks_63 rfl (lv_at hl 1 rfl) ?_
          refine lv_iload hx hb dX1_startOfBlocks_64 (lv_at hl 7 rfl) ?_
          refine lv_iload hx hb dX1_startOfBlocks_66 (lv_at hl 0 rfl) ?_
          refine lv_isub hx hb dX1_startOfBlocks_68 ?_
          refine lz_top (y := (nI (((((a + b) / 2) + d) - 1) - ((lo + hi) / 2)))) (pk_sub (by omega)) ?_
          refine lv_iload hx hb dX1_startOfBlocks_69 (lv_at hl 0 rfl) ?_
          refine lv_iload hx hb dX1_startOfBlocks_71 (lv_at hl 5 rfl) ?_
          have hPc := hP.sub (ws' := [(r, .inr (0, [.ref k, .ref t, .int (nI n), .int c1, .int wr])), (k, .inl (cA, 500, .inl K)), (t, .inl (cB, 500, .inl T))]) [0, 1, 2] rfl
          have hDc := hD.sub (ws' := [(r, .inr (0, [.ref k, .ref t, .int (nI n), .int c1, .int wr])), (k, .inl (cA, 500, .inl K)), (t, .inl (cB, 500, .inl T))]) [0, 1, 2] (by decide) rfl
          have hKc := hK.sub (tys' := [(cA, .int), (cB, .int)]) [0, 1] rfl
          have hFc := va_free (wc := [(r, .inr (0, [.ref k, .ref t, .int (nI n), .int c1, .int wr])), (k, .inl (cA, 500, .inl K)), (t, .inl (cB, 500, .inl T))]) hD hS hA [0, 1, 2] rfl
          refine va_calli (va_runV (As := [.int (nI (((((a + b) / 2) + d) - 1) - ((lo + hi) / 2))), .int (nI ((lo + hi) / 2)), .int (nI o)]) (rest := []) ⟨hx, hb, hml, hown, hts⟩ (c_X1_lessAt l dC dI H.size r k t cA cB n c1 wr K T ((a + b) / 2 + d - 1 - (lo + hi) / 2) ((lo + hi) / 2) o (by omega) (by omega) ho) (cwV 3 hts gX1_startOfBlocks_X1_lessAt rfl rfl rfl (by decide +kernel) ⟨Nat.le_of_ble_eq_true rfl, Nat.le_of_ble_eq_true rfl⟩) ⟨fun a U g mk q => by obtain ⟨q0, q1, qP, qK, qD⟩ := q; exact ⟨q0, q1, qP, va_K.moved (u := U) (U := U.calling g mk a) (Vm.Alike.refl U.vm) qK, qD⟩, va_recv hKc hPc (ci := 0) (q0 := 0) rfl rfl, fun U hU hW => ⟨rfl, by rw [hU], by rw [hU]; exact hPc, va_K.moved hW.alike hKc, hDc.weaken (fun _ _ _ _ => trivial)⟩⟩ rfl rfl hl.1 rfl (lv_room (Nat.le_of_ble_eq_true rfl)) dX1_startOfBlocks_73 ⟨Nat.le_of_ble_eq_true rfl, Nat.le_of_ble_eq_true rfl⟩) hS (fun q _ h => hFc q h) hFc (fun r_2 u tS H1 locs ht hvm hw hB hz1 hk1 hS => ?_)
          obtain ⟨hq, rfl⟩ := hw
          obtain ⟨hP1, hK1, hD1⟩ := hB
          rw [ht] at hP1
          obtain ⟨hP, hD⟩ := va_join (wr := []) (w1 := [(r, .inr (0, [.ref k, .ref t, .int (nI n), .int (c1 + nI 1), .int wr])), (k, .inl (cA, 500, .inl K)), (t, .inl (cB, 500, .inl T))]) hP hD [0, 1, 2] [] rfl rfl (by decide) (by decide) hk1 hFc hP1 hD1
          generalize H1 = H at hP hS ⊢
          have hP : va_P (dC, dI) vwCl [(r, .inr (0, [.ref k, .ref t, .int (nI n), .int (c1 + nI 1), .int wr])), (k, .inl (cA, 500, .inl K)), (t, .inl (cB, 500, .inl T))] H := hP
          have hD : va_D A [(r, .inr (0, [.ref k, .ref t, .int (nI n), .int (c1 + nI 1), .int wr])), (k, .inl (cA, 500, .inl K)), (t, .inl (cB, 500, .inl T))] := hD
          refine lv_if_eq (tgt := 86) hx hb dX1_startOfBlocks_76 (by decide) (fun c76 => ?_) (fun c76 => ?_)
          · refine lv_iload hx hb dX1_startOfBlocks_86 (lv_at hl 0 rfl) ?_
            refine lv_iconst (v := (nI 1)) hx hb dX1_startOfBlocks_88 (by decide) ?_
            refine lv_iadd hx hb dX1_startOfBlocks_89 ?_
            refine lz_top (y := (nI (((lo + hi) / 2) + 1))) (nI_add _ _) ?_
            refine lv_istore (lv' := [(7, .int (nI (((lo + hi) / 2) + 1))), (9, .int (nI ((lo + hi) / 2))), (0, .ref r), (1, .int (nI a)), (2, .int (nI d)), (3, .int (nI b)), (4, .int (nI o)), (5, .int (nI ((a + b) / 2))), (6, .int (nI ((((a + b) / 2) + d) - 1))), (8, .int (nI hi))]) hx hb dX1_startOfBlocks_90 hl (by decide) rfl (fun ls hl => ?_)
            refine lv_goto (tgt := 47) hx hb dX1_startOfBlocks_92 (by decide) ?_
            exact ihg ((((lo + hi) / 2) + 1), hi, (c1 + nI 1), (g + 1), j1) (by show hi - (((lo + hi) / 2) + 1) < hi - lo; omega) _ _ _ ⟨by omega, by omega, by omega, ad1 vg3 1, by omega, by omega, Or.inr (by have z := tr_0 hq c76; rw [show (a + b) / 2 + d - ((lo + hi) / 2 + 1) = (a + b) / 2 + d - 1 - (lo + hi) / 2 by omega, show (lo + hi) / 2 + 1 - 1 = (lo + hi) / 2 by omega]; exact z), vg7, hP, hD, hS, lv_sub hl [2, 3, 4, 5, 6, 7, 8, 0, 9] rfl⟩
          · refine lv_iload hx hb dX1_startOfBlocks_79 (lv_at hl 0 rfl) ?_
            refine lv_istore (lv' := [(8, .int (nI ((lo + hi) / 2))), (9, .int (nI ((lo + hi) / 2))), (0, .ref r), (1, .int (nI a)), (2, .int (nI d)), (3, .int (nI b)), (4, .int (nI o)), (5, .int (nI ((a + b) / 2))), (6, .int (nI ((((a + b) / 2) + d) - 1))), (7, .int (nI lo))]) hx hb dX1_startOfBlocks_81 hl (by decide) rfl (fun ls hl => ?_)
            refine lv_goto (tgt := 92) hx hb dX1_startOfBlocks_83 (by decide) ?_
            refine lv_goto (tgt := 47) hx hb dX1_startOfBlocks_92 (by decide) ?_
            exact ihg (lo, ((lo + hi) / 2), (c1 + nI 1), (g + 1), j1) (by show ((lo + hi) / 2) - lo < hi - lo; omega) _ _ _ ⟨by omega, by omega, by omega, ad1 vg3 1, by omega, by omega, vg6, Or.inr (tr_1 hq c76), hP, hD, hS, lv_sub hl [2, 3, 4, 5, 6, 7, 8, 9, 0] rfl⟩
      · exact ⟨by omega, by omega, by omega, ad0 cm, by omega, by omega, Or.inl rfl, Or.inl rfl, hP, hD, hS, lv_sub hl [4, 5, 6, 7, 8, 3, 2, 1, 0] rfl⟩
set_option maxHeartbeats 4000000 in
set_option maxRecDepth 100000 in
/-- the merge in its place -/
theorem c_X1_mergeInPlace (l : Launch) (dC : Nat → ClassId) (dI : Nat → Nat → Nat) (r k t : Nat) (cA cB : ClassId) : ∀ (kk : Nat) (sz n : Nat) (cm wr : Int32) (K T : Nat → Int32) (a d b o dp : Nat) (had : a ≤ d) (hdb : d ≤ b) (hb5 : b ≤ 500) (ho : o < 4) (hk : b - a ≤ 2 ^ kk) (hdp : dp + kk ≤ 16) (sA : srt (mk o) (mZ K T) a d) (sB : srt (mk o) (mZ K T) d b), Met l yX1_mergeInPlace wsX1_mergeInPlace ({ frames := 3 + kk, cells := 0, slots := 0, locals := 74 + 28 * kk }) (va_Pc [.ref r, .int (nI a), .int (nI d), .int (nI b), .int (nI o), .int (nI dp)] (fun U => U.heap.size = sz ∧ va_P (dC, dI) vwCl [(r, .inr (0, [.ref k, .ref t, .int (nI n), .int cm, .int wr])), (k, .inl (cA, 500, .inl K)), (t, .inl (cB, 500, .inl T))] U.heap ∧ va_K (dC, dI) vwCl [(cA, .int), (cB, .int)] U ∧ va_D (fun _ => True) [(r, .inr (0, [.ref k, .ref t, .int (nI n), .int cm, .int wr])), (k, .inl (cA, 500, .inl K)), (t, .inl (cB, 500, .inl T))])) (va_Qv (fun u => (∀ j, j < a ∨ b ≤ j → mZ u.1 u.2.1 j = mZ K T j) ∧ srt (mk o) (mZ u.1 u.2.1) a b ∧ sm (mk o) (sg (mZ K T) a b) (sg (mZ u.1 u.2.1) a b) ∧ n = u.2.2.1 ∧ (∃ g, g + kk + 2 ≤ 2 * 2 ^ kk ∧ u.2.2.2.1 = cm + nI g) ∧ ∃ g, g ≤ 2 * (b - a) * kk ∧ u.2.2.2.2 = wr + nI g) (atR dC dI (va_A [(r, .inr (0, [.ref k, .ref t, .int (nI n), .int cm, .int wr])), (k, .inl (cA, 500, .inl K)), (t, .inl (cB, 500, .inl T))] sz) r k t cA cB) (va_A [(r, .inr (0, [.ref k, .ref t, .int (nI n), .int cm, .int wr])), (k, .inl (cA, 500, .inl K)), (t, .inl (cB, 500, .inl T))] sz)) 0 0 (va_A [(r, .inr (0, [.ref k, .ref t, .int (nI n), .int cm, .int wr])), (k, .inl (cA, 500, .inl K)), (t, .inl (cB, 500, .inl T))] sz) := by
  intro kk
  induction kk with
  | zero =>
    intro sz n cm wr K T a d b o dp had hdb hb5 ho hk hdp sA sB
    refine Met.ofW (cc := cX1_mergeInPlace) (maxL := 9) (ret := none) (by decide) rfl ?_
    intro p e s m args below meth c s₁ B hml hv
    obtain ⟨rfl, hsz, hP, hK, hD0⟩ := hv
    have hx := B.exec
    have hb := B.bytes
    have hr := B.returns
    have hts := atoms_spec (ws := wsX1_mergeInPlace) B.pre
    have hown : s.vm.findClass RX1 = some m.cls := findClass_of_methodNamed B.named
    have hlocks := B.notSynchronized
    subst hsz
    have hD := hD0.self (sz := s.heap.size)
    generalize hAe : va_A [(r, .inr (0, [.ref k, .ref t, .int (nI n), .int cm, .int wr])), (k, .inl (cA, 500, .inl K)), (t, .inl (cB, 500, .inl T))] s.heap.size = A at hD ⊢
    have hA : ∀ q : Nat, s.heap.size ≤ q → A q := fun q h => by rw [← hAe]; exact Or.inr h
    have hS : va_S A s.heap s.heap [] := va_S.rf
    have hP : va_P (dC, dI) vwCl [(r, .inr (0, [.ref k, .ref t, .int (nI n), .int cm, .int wr])), (k, .inl (cA, 500, .inl K)), (t, .inl (cB, 500, .inl T))] s.heap := hP
    have hl := lv_entry ([.ref r, .int (nI a), .int (nI d), .int (nI b), .int (nI o), .int (nI dp)]) (n := 9) (Nat.le_of_ble_eq_true rfl)
    rw [lg_entry_eq]
    generalize (lg_sl ([.ref r, .int (nI a), .int (nI d), .int (nI b), .int (nI o), .int (nI dp)]) ++ List.replicate (9 - (lg_sl ([.ref r, .int (nI a), .int (nI d), .int (nI b), .int (nI o), .int (nI dp)])).length) Slot.unset).toArray = ls at hl ⊢
    have hl : lv_has ls 9 [(0, .ref r), (1, .int (nI a)), (2, .int (nI d)), (3, .int (nI b)), (4, .int (nI o)), (5, .int (nI dp))] := hl
    refine lv_iload_n hx hb dX1_mergeInPlace_0 rfl (lv_at hl 1 rfl) ?_
    refine lv_iload_n hx hb dX1_mergeInPlace_1 rfl (lv_at hl 2 rfl) ?_
    refine lz_icmp_ge (tgt := 17) (by omega) (by omega) hx hb dX1_mergeInPlace_2 (by decide) (fun c2 => ?_) (fun c2 => ?_)
    · exact W.vret hx hb hr (fun tS ht hW => ⟨⟨(K, T, n, cm, wr), rfl, ⟨fun _ _ => rfl, by rw [show a = d by omega]; exact sB, sm_rf, rfl, ⟨0, by have := pw2 0; omega, ad0 cm⟩, 0, by omega, ad0 wr⟩, by rw [ht]; exact hP, va_K.moved hW.alike hK, hD⟩, hS.F ht⟩) hS.2.2 dX1_mergeInPlace_17
    · refine lv_iload_n hx hb dX1_mergeInPlace_5 rfl (lv_at hl 2 rfl) ?_
      refine lv_iload_n hx hb dX1_mergeInPlace_6 rfl (lv_at hl 3 rfl) ?_
      refine lz_icmp_ge (tgt := 17) (by omega) (by omega) hx hb dX1_mergeInPlace_7 (by decide) (fun c7 => ?_) (fun c7 => ?_)
      · exact W.vret hx hb hr (fun tS ht hW => ⟨⟨(K, T, n, cm, wr), rfl, ⟨fun _ _ => rfl, by rw [show b = d by omega]; exact sA, sm_rf, rfl, ⟨0, by have := pw2 0; omega, ad0 cm⟩, 0, by omega, ad0 wr⟩, by rw [ht]; exact hP, va_K.moved hW.alike hK, hD⟩, hS.F ht⟩) hS.2.2 dX1_mergeInPlace_17
      · refine lv_iload hx hb dX1_mergeInPlace_10 (lv_at hl 5 rfl) ?_
        refine lv_bipush (v := (nI 16)) hx hb dX1_mergeInPlace_12 (by decide) ?_
        refine lz_icmp_lt (tgt := 18) (by omega) (by omega) hx hb dX1_mergeInPlace_14 (by decide) (fun c14 => ?_) (fun c14 => ?_)
        · exfalso; rw [Nat.pow_zero] at hk; omega
        · exfalso; omega
  | succ kk ih =>
    intro sz n cm wr K T a d b o dp had hdb hb5 ho hk hdp sA sB
    refine Met.ofW (cc := cX1_mergeInPlace) (maxL := 9) (ret := none) (by decide) rfl ?_
    intro p e s m args below meth c s₁ B hml hv
    obtain ⟨rfl, hsz, hP, hK, hD0⟩ := hv
    have hx := B.exec
    have hb := B.bytes
    have hr := B.returns
    have hts := atoms_spec (ws := wsX1_mergeInPlace) B.pre
    have hown : s.vm.findClass RX1 = some m.cls := findClass_of_methodNamed B.named
    have hlocks := B.notSynchronized
    subst hsz
    have hD := hD0.self (sz := s.heap.size)
    generalize hAe : va_A [(r, .inr (0, [.ref k, .ref t, .int (nI n), .int cm, .int wr])), (k, .inl (cA, 500, .inl K)), (t, .inl (cB, 500, .inl T))] s.heap.size = A at hD ⊢
    have hA : ∀ q : Nat, s.heap.size ≤ q → A q := fun q h => by rw [← hAe]; exact Or.inr h
    have hS : va_S A s.heap s.heap [] := va_S.rf
    have hP : va_P (dC, dI) vwCl [(r, .inr (0, [.ref k, .ref t, .int (nI n), .int cm, .int wr])), (k, .inl (cA, 500, .inl K)), (t, .inl (cB, 500, .inl T))] s.heap := hP
    have hl := lv_entry ([.ref r, .int (nI a), .int (nI d), .int (nI b), .int (nI o), .int (nI dp)]) (n := 9) (Nat.le_of_ble_eq_true rfl)
    rw [lg_entry_eq]
    generalize (lg_sl ([.ref r, .int (nI a), .int (nI d), .int (nI b), .int (nI o), .int (nI dp)]) ++ List.replicate (9 - (lg_sl ([.ref r, .int (nI a), .int (nI d), .int (nI b), .int (nI o), .int (nI dp)])).length) Slot.unset).toArray = ls at hl ⊢
    have hl : lv_has ls 9 [(0, .ref r), (1, .int (nI a)), (2, .int (nI d)), (3, .int (nI b)), (4, .int (nI o)), (5, .int (nI dp))] := hl
    refine lv_iload_n hx hb dX1_mergeInPlace_0 rfl (lv_at hl 1 rfl) ?_
    refine lv_iload_n hx hb dX1_mergeInPlace_1 rfl (lv_at hl 2 rfl) ?_
    refine lz_icmp_ge (tgt := 17) (by omega) (by omega) hx hb dX1_mergeInPlace_2 (by decide) (fun c2 => ?_) (fun c2 => ?_)
    · exact W.vret hx hb hr (fun tS ht hW => ⟨⟨(K, T, n, cm, wr), rfl, ⟨fun _ _ => rfl, by rw [show a = d by omega]; exact sB, sm_rf, rfl, ⟨0, by have := pw2 (kk + 1); omega, ad0 cm⟩, 0, by omega, ad0 wr⟩, by rw [ht]; exact hP, va_K.moved hW.alike hK, hD⟩, hS.F ht⟩) hS.2.2 dX1_mergeInPlace_17
    · refine lv_iload_n hx hb dX1_mergeInPlace_5 rfl (lv_at hl 2 rfl) ?_
      refine lv_iload_n hx hb dX1_mergeInPlace_6 rfl (lv_at hl 3 rfl) ?_
      refine lz_icmp_ge (tgt := 17) (by omega) (by omega) hx hb dX1_mergeInPlace_7 (by decide) (fun c7 => ?_) (fun c7 => ?_)
      · exact W.vret hx hb hr (fun tS ht hW => ⟨⟨(K, T, n, cm, wr), rfl, ⟨fun _ _ => rfl, by rw [show b = d by omega]; exact sA, sm_rf, rfl, ⟨0, by have := pw2 (kk + 1); omega, ad0 cm⟩, 0, by omega, ad0 wr⟩, by rw [ht]; exact hP, va_K.moved hW.alike hK, hD⟩, hS.F ht⟩) hS.2.2 dX1_mergeInPlace_17
      · refine lv_iload hx hb dX1_mergeInPlace_10 (lv_at hl 5 rfl) ?_
        refine lv_bipush (v := (nI 16)) hx hb dX1_mergeInPlace_12 (by decide) ?_
        refine lz_icmp_lt (tgt := 18) (by omega) (by omega) hx hb dX1_mergeInPlace_14 (by decide) (fun c14 => ?_) (fun c14 => ?_)
        · rw [Nat.pow_succ] at hk
          refine lv_iload_n hx hb dX1_mergeInPlace_18 rfl (lv_at hl 1 rfl) ?_
          refine lv_iload_n hx hb dX1_mergeInPlace_19 rfl (lv_at hl 3 rfl) ?_
          refine lv_iadd hx hb dX1_mergeInPlace_20 ?_
          refine lz_top (y := (nI (a + b))) (nI_add _ _) ?_
          refine lv_iconst (v := (nI 2)) hx hb dX1_mergeInPlace_21 (by decide) ?_
          refine lv_idiv hx hb dX1_mergeInPlace_22 (nI_ne0 (by omega) (by omega)) ?_
          refine lz_top (y := (nI ((a + b) / 2))) (pk_div (by omega) (by omega) (by omega)) ?_
          refine lv_istore (lv' := [(6, .int (nI ((a + b) / 2))), (0, .ref r), (1, .int (nI a)), (2, .int (nI d)), (3, .int (nI b)), (4, .int (nI o)), (5, .int (nI dp))]) hx hb dX1_mergeInPlace_23 hl (by decide) rfl (fun ls hl => ?_)
          refine lv_aload_n hx hb dX1_mergeInPlace_25 rfl (lv_at hl 1 rfl) ?_
          refine lv_iload_n hx hb dX1_mergeInPlace_26 rfl (lv_at hl 2 rfl) ?_
          refine lv_iload_n hx hb dX1_mergeInPlace_27 rfl (lv_at hl 3 rfl) ?_
          refine lv_iload_n hx hb dX1_mergeInPlace_28 rfl (lv_at hl 4 rfl) ?_
          refine lv_iload hx hb dX1_mergeInPlace_29 (lv_at hl 5 rfl) ?_
          have hPc := hP.sub (ws' := [(r, .inr (0, [.ref k, .ref t, .int (nI n), .int cm, .int wr])), (k, .inl (cA, 500, .inl K)), (t, .inl (cB, 500, .inl T))]) [0, 1, 2] rfl
          have hDc := hD.sub (ws' := [(r, .inr (0, [.ref k, .ref t, .int (nI n), .int cm, .int wr])), (k, .inl (cA, 500, .inl K)), (t, .inl (cB, 500, .inl T))]) [0, 1, 2] (by decide) rfl
          have hKc := hK.sub (tys' := [(cA, .int), (cB, .int)]) [0, 1] rfl
          have hFc := va_free (wc := [(r, .inr (0, [.ref k, .ref t, .int (nI n), .int cm, .int wr])), (k, .inl (cA, 500, .inl K)), (t, .inl (cB, 500, .inl T))]) hD hS hA [0, 1, 2] rfl
          refine va_calli (va_runV (As := [.int (nI a), .int (nI d), .int (nI b), .int (nI o)]) (rest := []) ⟨hx, hb, hml, hown, hts⟩ (c_X1_startOfBlocks l dC dI s.heap.size r k t cA cB n cm wr K T a d b o (kk + 1) (by omega) (by omega) hb5 ho (by rw [Nat.pow_succ]; exact hk)) (cwV 4 hts gX1_mergeInPlace_X1_startOfBlocks rfl rfl rfl (by decide +kernel) ⟨by show 2 + 1 ≤ 3 + (kk + 1); omega, by show 8 + (10 + 11) + 45 ≤ 74 + 28 * (kk + 1); omega⟩) ⟨fun a U g mk q => by obtain ⟨q0, q1, qP, qK, qD⟩ := q; exact ⟨q0, q1, qP, va_K.moved (u := U) (U := U.calling g mk a) (Vm.Alike.refl U.vm) qK, qD⟩, va_recv hKc hPc (ci := 0) (q0 := 0) rfl rfl, fun U hU hW => ⟨rfl, by rw [hU], by rw [hU]; exact hPc, va_K.moved hW.alike hKc, hDc.weaken (fun _ _ _ _ => trivial)⟩⟩ rfl rfl hl.1 rfl (lv_room (Nat.le_of_ble_eq_true rfl)) dX1_mergeInPlace_31 ⟨Nat.le_of_ble_eq_true rfl, Nat.le_of_ble_eq_true rfl⟩) hS (fun q _ h => hFc q h) hFc (fun r_1 u tS H1 locs ht hvm hw hB hz1 hk1 hS => ?_)
          obtain ⟨q, g1, rfl, rfl, hg1, q1, q2, q3, q4, cA1, cB1⟩ := hw
          obtain ⟨hP1, hK1, hD1⟩ := hB
          rw [ht] at hP1
          obtain ⟨hP, hD⟩ := va_join (wr := []) (w1 := [(r, .inr (0, [.ref k, .ref t, .int (nI n), .int (cm + nI g1), .int wr])), (k, .inl (cA, 500, .inl K)), (t, .inl (cB, 500, .inl T))]) hP hD [0, 1, 2] [] rfl rfl (by decide) (by decide) hk1 hFc hP1 hD1
          generalize H1 = H at hP hS ⊢
          have hP : va_P (dC, dI) vwCl [(r, .inr (0, [.ref k, .ref t, .int (nI n), .int (cm + nI g1), .int wr])), (k, .inl (cA, 500, .inl K)), (t, .inl (cB, 500, .inl T))] H := hP
          have hD : va_D A [(r, .inr (0, [.ref k, .ref t, .int (nI n), .int (cm + nI g1), .int wr])), (k, .inl (cA, 500, .inl K)), (t, .inl (cB, 500, .inl T))] := hD
          refine lv_istore (lv' := [(7, .int (nI q)), (6, .int (nI ((a + b) / 2))), (0, .ref r), (1, .int (nI a)), (2, .int (nI d)), (3, .int (nI b)), (4, .int (nI o)), (5, .int (nI dp))]) hx hb dX1_mergeInPlace_34 hl (by decide) rfl (fun ls hl => ?_)
          refine lv_iload hx hb dX1_mergeInPlace_36 (lv_at hl 1 rfl) ?_
          refine lv_iload_n hx hb dX1_mergeInPlace_38 rfl (lv_at hl 4 rfl) ?_
          refine lv_iadd hx hb dX1_mergeInPlace_39 ?_
          refine lz_top (y := (nI (((a + b) / 2) + d))) (nI_add _ _) ?_
          refine lv_iload hx hb dX1_mergeInPlace_40 (lv_at hl 0 rfl) ?_
          refine lv_isub hx hb dX1_mergeInPlace_42 ?_
          refine lz_top (y := (nI ((((a + b) / 2) + d) - q))) (pk_sub (by omega)) ?_
          refine lv_istore (lv' := [(8, .int (nI ((((a + b) / 2) + d) - q))), (7, .int (nI q)), (6, .int (nI ((a + b) / 2))), (0, .ref r), (1, .int (nI a)), (2, .int (nI d)), (3, .int (nI b)), (4, .int (nI o)), (5, .int (nI dp))]) hx hb dX1_mergeInPlace_43 hl (by decide) rfl (fun ls hl => ?_)
          refine lv_aload_n hx hb dX1_mergeInPlace_45 rfl (lv_at hl 3 rfl) ?_
          refine lv_iload hx hb dX1_mergeInPlace_46 (lv_at hl 1 rfl) ?_
          refine lv_iload_n hx hb dX1_mergeInPlace_48 rfl (lv_at hl 5 rfl) ?_
          refine lv_iload hx hb dX1_mergeInPlace_49 (lv_at hl 0 rfl) ?_
          have hPc := hP.sub (ws' := [(r, .inr (0, [.ref k, .ref t, .int (nI n), .int (cm + nI g1), .int wr])), (k, .inl (cA, 500, .inl K)), (t, .inl (cB, 500, .inl T))]) [0, 1, 2] rfl
          have hDc := hD.sub (ws' := [(r, .inr (0, [.ref k, .ref t, .int (nI n), .int (cm + nI g1), .int wr])), (k, .inl (cA, 500, .inl K)), (t, .inl (cB, 500, .inl T))]) [0, 1, 2] (by decide) rfl
          have hKc := hK.sub (tys' := [(cA, .int), (cB, .int)]) [0, 1] rfl
          have hFc := va_free (wc := [(r, .inr (0, [.ref k, .ref t, .int (nI n), .int (cm + nI g1), .int wr])), (k, .inl (cA, 500, .inl K)), (t, .inl (cB, 500, .inl T))]) hD hS hA [0, 1, 2] rfl
          refine va_callv (va_runV (As := [.int (nI q), .int (nI d), .int (nI ((((a + b) / 2) + d) - q))]) (rest := []) ⟨hx, hb, hml, hown, hts⟩ (c_X1_swapBlocks l dC dI H.size r k t cA cB n (cm + nI g1) wr K T q d ((a + b) / 2 + d - q) (by omega) (by omega) (by omega)) (cwV 3 hts gX1_mergeInPlace_X1_swapBlocks rfl rfl rfl (by decide +kernel) ⟨by show 2 + 1 ≤ 3 + (kk + 1); omega, by show 8 + (4 + 11) + 48 ≤ 74 + 28 * (kk + 1); omega⟩) ⟨fun a U g mk q => by obtain ⟨q0, q1, qP, qK, qD⟩ := q; exact ⟨q0, q1, qP, va_K.moved (u := U) (U := U.calling g mk a) (Vm.Alike.refl U.vm) qK, qD⟩, va_recv hKc hPc (ci := 0) (q0 := 0) rfl rfl, fun U hU hW => ⟨rfl, by rw [hU], by rw [hU]; exact hPc, va_K.moved hW.alike hKc, hDc.weaken (fun _ _ _ _ => trivial)⟩⟩ rfl rfl hl.1 rfl (lv_room (Nat.le_of_ble_eq_true rfl)) dX1_mergeInPlace_51 ⟨Nat.le_of_ble_eq_true rfl, Nat.le_of_ble_eq_true rfl⟩) hS (fun q _ h => hFc q h) hFc (fun u tS H1 locs ht hvm hw hB hz1 hk1 hS => ?_)
          obtain ⟨K1, T1, n1, c1, w1⟩ := u
          obtain ⟨hm1, hn1, hc1, d1, hd1, hw1⟩ := hw
          dsimp only at hm1 hn1 hc1 hw1
          subst hn1; subst hc1; subst hw1
          obtain ⟨hP1, hK1, hD1⟩ := hB
          rw [ht] at hP1
          obtain ⟨hP, hD⟩ := va_join (wr := []) (w1 := [(r, .inr (0, [.ref k, .ref t, .int (nI n), .int (cm + nI g1), .int (wr + nI d1)])), (k, .inl (cA, 500, .inl K1)), (t, .inl (cB, 500, .inl T1))]) hP hD [0, 1, 2] [] rfl rfl (by decide) (by decide) hk1 hFc hP1 hD1
          generalize H1 = H at hP hS ⊢
          have hP : va_P (dC, dI) vwCl [(r, .inr (0, [.ref k, .ref t, .int (nI n), .int (cm + nI g1), .int (wr + nI d1)])), (k, .inl (cA, 500, .inl K1)), (t, .inl (cB, 500, .inl T1))] H := hP
          have hD : va_D A [(r, .inr (0, [.ref k, .ref t, .int (nI n), .int (cm + nI g1), .int (wr + nI d1)])), (k, .inl (cA, 500, .inl K1)), (t, .inl (cB, 500, .inl T1))] := hD
          refine lv_aload_n hx hb dX1_mergeInPlace_54 rfl (lv_at hl 3 rfl) ?_
          refine lv_iload_n hx hb dX1_mergeInPlace_55 rfl (lv_at hl 4 rfl) ?_
          refine lv_iload hx hb dX1_mergeInPlace_56 (lv_at hl 1 rfl) ?_
          refine lv_iload hx hb dX1_mergeInPlace_58 (lv_at hl 2 rfl) ?_
          refine lv_iload hx hb dX1_mergeInPlace_60 (lv_at hl 7 rfl) ?_
          refine lv_iload hx hb dX1_mergeInPlace_62 (lv_at hl 8 rfl) ?_
          refine lv_iconst (v := (nI 1)) hx hb dX1_mergeInPlace_64 (by decide) ?_
          refine lv_iadd hx hb dX1_mergeInPlace_65 ?_
          refine lz_top (y := (nI (dp + 1))) (nI_add _ _) ?_
          have hPc := hP.sub (ws' := [(r, .inr (0, [.ref k, .ref t, .int (nI n), .int (cm + nI g1), .int (wr + nI d1)])), (k, .inl (cA, 500, .inl K1)), (t, .inl (cB, 500, .inl T1))]) [0, 1, 2] rfl
          have hDc := hD.sub (ws' := [(r, .inr (0, [.ref k, .ref t, .int (nI n), .int (cm + nI g1), .int (wr + nI d1)])), (k, .inl (cA, 500, .inl K1)), (t, .inl (cB, 500, .inl T1))]) [0, 1, 2] (by decide) rfl
          have hKc := hK.sub (tys' := [(cA, .int), (cB, .int)]) [0, 1] rfl
          have hFc := va_free (wc := [(r, .inr (0, [.ref k, .ref t, .int (nI n), .int (cm + nI g1), .int (wr + nI d1)])), (k, .inl (cA, 500, .inl K1)), (t, .inl (cB, 500, .inl T1))]) hD hS hA [0, 1, 2] rfl
          refine va_callv (va_runS (As := [.ref r, .int (nI a), .int (nI q), .int (nI ((a + b) / 2)), .int (nI o), .int (nI (dp + 1))]) (rest := []) ⟨hx, hb, hml, hown, hts⟩ (ih H.size n (cm + nI g1) (wr + nI d1) K1 T1 a q ((a + b) / 2) o (dp + 1) (by omega) (by omega) (by omega) ho (by omega) (by omega) (by rw [hm1]; exact ms_1 (b := b) (by omega) (by omega) sA) (by rw [hm1]; exact ms_2 (b := b) (by omega) (by omega) (by omega) (by omega) sB)) (va_cwS 6 hts gX1_mergeInPlace_X1_mergeInPlace rfl rfl rfl (by decide +kernel) ⟨by show 3 + kk + 1 ≤ 3 + (kk + 1); omega, by show 8 + (9 + 11) + (74 + 28 * kk) ≤ 74 + 28 * (kk + 1); omega⟩) ⟨fun a U g mk q => by obtain ⟨q0, q1, qP, qK, qD⟩ := q; exact ⟨q0, q1, qP, va_K.moved (u := U) (U := U.calling g mk a) (Vm.Alike.refl U.vm) qK, qD⟩, fun U hU hW => ⟨rfl, by rw [hU], by rw [hU]; exact hPc, va_K.moved hW.alike hKc, hDc.weaken (fun _ _ _ _ => trivial)⟩⟩ rfl rfl hl.1 rfl (lv_room (Nat.le_of_ble_eq_true rfl)) dX1_mergeInPlace_66 ⟨Nat.le_of_ble_eq_true rfl, Nat.le_of_ble_eq_true rfl⟩) hS (fun q _ h => hFc q h) hFc (fun u tS H1 locs ht hvm hw hB hz1 hk1 hS => ?_)
          obtain ⟨K2, T2, n2, e2, w2⟩ := u
          obtain ⟨ho2, hs2, hm2, hn2, ⟨x2, hx2, hc2⟩, y2, hy2, hw2⟩ := hw
          dsimp only at ho2 hs2 hm2 hn2 hc2 hw2
          subst hn2; subst hc2; subst hw2
          obtain ⟨hP1, hK1, hD1⟩ := hB
          rw [ht] at hP1
          obtain ⟨hP, hD⟩ := va_join (wr := []) (w1 := [(r, .inr (0, [.ref k, .ref t, .int (nI n), .int ((cm + nI g1) + nI x2), .int ((wr + nI d1) + nI y2)])), (k, .inl (cA, 500, .inl K2)), (t, .inl (cB, 500, .inl T2))]) hP hD [0, 1, 2] [] rfl rfl (by decide) (by decide) hk1 hFc hP1 hD1
          generalize H1 = H at hP hS ⊢
          have hP : va_P (dC, dI) vwCl [(r, .inr (0, [.ref k, .ref t, .int (nI n), .int ((cm + nI g1) + nI x2), .int ((wr + nI d1) + nI y2)])), (k, .inl (cA, 500, .inl K2)), (t, .inl (cB, 500, .inl T2))] H := hP
          have hD : va_D A [(r, .inr (0, [.ref k, .ref t, .int (nI n), .int ((cm + nI g1) + nI x2), .int ((wr + nI d1) + nI y2)])), (k, .inl (cA, 500, .inl K2)), (t, .inl (cB, 500, .inl T2))] := hD
          refine lv_aload_n hx hb dX1_mergeInPlace_69 rfl (lv_at hl 3 rfl) ?_
          refine lv_iload hx hb dX1_mergeInPlace_70 (lv_at hl 2 rfl) ?_
          refine lv_iload hx hb dX1_mergeInPlace_72 (lv_at hl 0 rfl) ?_
          refine lv_iload_n hx hb dX1_mergeInPlace_74 rfl (lv_at hl 6 rfl) ?_
          refine lv_iload hx hb dX1_mergeInPlace_75 (lv_at hl 7 rfl) ?_
          refine lv_iload hx hb dX1_mergeInPlace_77 (lv_at hl 8 rfl) ?_
          refine lv_iconst (v := (nI 1)) hx hb dX1_mergeInPlace_79 (by decide) ?_
          refine lv_iadd hx hb dX1_mergeInPlace_80 ?_
          refine lz_top (y := (nI (dp + 1))) (nI_add _ _) ?_
          have hPc := hP.sub (ws' := [(r, .inr (0, [.ref k, .ref t, .int (nI n), .int ((cm + nI g1) + nI x2), .int ((wr + nI d1) + nI y2)])), (k, .inl (cA, 500, .inl K2)), (t, .inl (cB, 500, .inl T2))]) [0, 1, 2] rfl
          have hDc := hD.sub (ws' := [(r, .inr (0, [.ref k, .ref t, .int (nI n), .int ((cm + nI g1) + nI x2), .int ((wr + nI d1) + nI y2)])), (k, .inl (cA, 500, .inl K2)), (t, .inl (cB, 500, .inl T2))]) [0, 1, 2] (by decide) rfl
          have hKc := hK.sub (tys' := [(cA, .int), (cB, .int)]) [0, 1] rfl
          have hFc := va_free (wc := [(r, .inr (0, [.ref k, .ref t, .int (nI n), .int ((cm + nI g1) + nI x2), .int ((wr + nI d1) + nI y2)])), (k, .inl (cA, 500, .inl K2)), (t, .inl (cB, 500, .inl T2))]) hD hS hA [0, 1, 2] rfl
          refine va_callv (va_runS (As := [.ref r, .int (nI ((a + b) / 2)), .int (nI ((((a + b) / 2) + d) - q)), .int (nI b), .int (nI o), .int (nI (dp + 1))]) (rest := []) ⟨hx, hb, hml, hown, hts⟩ (ih H.size n ((cm + nI g1) + nI x2) ((wr + nI d1) + nI y2) K2 T2 ((a + b) / 2) ((a + b) / 2 + d - q) b o (dp + 1) (by omega) (by omega) (by omega) ho (by omega) (by omega) (ms_3 (f := mZ K T) (a := a) (q := q) (d := d) (by omega) (by omega) (by omega) (by omega) sA (fun j z => by rw [ho2 j (Or.inr z), hm1])) (ms_4 (f := mZ K T) (q := q) (d := d) (h := (a + b) / 2) (by omega) (by omega) (by omega) sB (fun j z => by rw [ho2 j (Or.inr z), hm1]))) (va_cwS 6 hts gX1_mergeInPlace_X1_mergeInPlace rfl rfl rfl (by decide +kernel) ⟨by show 3 + kk + 1 ≤ 3 + (kk + 1); omega, by show 8 + (9 + 11) + (74 + 28 * kk) ≤ 74 + 28 * (kk + 1); omega⟩) ⟨fun a U g mk q => by obtain ⟨q0, q1, qP, qK, qD⟩ := q; exact ⟨q0, q1, qP, va_K.moved (u := U) (U := U.calling g mk a) (Vm.Alike.refl U.vm) qK, qD⟩, fun U hU hW => ⟨rfl, by rw [hU], by rw [hU]; exact hPc, va_K.moved hW.alike hKc, hDc.weaken (fun _ _ _ _ => trivial)⟩⟩ rfl rfl hl.1 rfl (lv_room (Nat.le_of_ble_eq_true rfl)) dX1_mergeInPlace_81 ⟨Nat.le_of_ble_eq_true rfl, Nat.le_of_ble_eq_true rfl⟩) hS (fun q _ h => hFc q h) hFc (fun u tS H1 locs ht hvm hw hB hz1 hk1 hS => ?_)
          obtain ⟨K3, T3, n3, e3, w3⟩ := u
          obtain ⟨ho3, hs3, hm3, hn3, ⟨x3, hx3, hc3⟩, y3, hy3, hw3⟩ := hw
          dsimp only at ho3 hs3 hm3 hn3 hc3 hw3
          subst hn3; subst hc3; subst hw3
          obtain ⟨hP1, hK1, hD1⟩ := hB
          rw [ht] at hP1
          obtain ⟨hP, hD⟩ := va_join (wr := []) (w1 := [(r, .inr (0, [.ref k, .ref t, .int (nI n), .int (((cm + nI g1) + nI x2) + nI x3), .int (((wr + nI d1) + nI y2) + nI y3)])), (k, .inl (cA, 500, .inl K3)), (t, .inl (cB, 500, .inl T3))]) hP hD [0, 1, 2] [] rfl rfl (by decide) (by decide) hk1 hFc hP1 hD1
          generalize H1 = H at hP hS ⊢
          have hP : va_P (dC, dI) vwCl [(r, .inr (0, [.ref k, .ref t, .int (nI n), .int (((cm + nI g1) + nI x2) + nI x3), .int (((wr + nI d1) + nI y2) + nI y3)])), (k, .inl (cA, 500, .inl K3)), (t, .inl (cB, 500, .inl T3))] H := hP
          have hD : va_D A [(r, .inr (0, [.ref k, .ref t, .int (nI n), .int (((cm + nI g1) + nI x2) + nI x3), .int (((wr + nI d1) + nI y2) + nI y3)])), (k, .inl (cA, 500, .inl K3)), (t, .inl (cB, 500, .inl T3))] := hD
          obtain ⟨z1, z2, z3⟩ := merge_step (φ := mk o) (f := mZ K T) (g := mZ K2 T2) (h := mZ K3 T3) (a := a) (s := q) (m := d) (e := ((a + b) / 2 + d - q)) (h2 := (a + b) / 2) (b := b) (by omega) (by omega) (by omega) (by omega) (by omega) sA sB cA1 cB1 (fun j z => by rw [ho2 j z, hm1]) hs2 (by rw [← hm1]; exact hm2) (fun j z => ho3 j z) hs3 hm3
          have hmul : 2 * ((a + b) / 2 - a) * kk + 2 * (b - (a + b) / 2) * kk = 2 * (b - a) * kk := by rw [← Nat.add_mul]; congr 1; omega
          exact W.vret hx hb hr (fun tS ht hW => ⟨⟨(K3, T3, n, (((cm + nI g1) + nI x2) + nI x3), (((wr + nI d1) + nI y2) + nI y3)), rfl, ⟨z1, z2, z3, rfl, ⟨g1 + x2 + x3, by rw [Nat.pow_succ]; omega, ad1 (ad1 rfl x2) x3⟩, d1 + y2 + y3, by rw [Nat.mul_succ]; omega, ad1 (ad1 rfl y2) y3⟩, by rw [ht]; exact hP, va_K.moved hW.alike hK, hD⟩, hS.F ht⟩) hS.2.2 dX1_mergeInPlace_84
        · exfalso; omega
