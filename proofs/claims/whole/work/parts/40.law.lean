set_option maxHeartbeats 8000000 in
set_option maxRecDepth 100000 in
/-- THE LAW, from its entry: two objects, and a loop in which both answer alike -/
theorem whole_start {p : Program} {e : Env} {s : State} {m : MethodId} {below : List Frame} {meth : Method} {c : Code} (l : Launch) {b L : Nat} {xs : Nat → Int32} (hL : L ≤ 2560) (C0 : lw_At p s m meth c b L xs) : W p l e room_1 s m #[Value.ref b] below meth c s.heap [] 0 0 (lw_Z below #[Value.ref b] s) (entryFrame m ([Value.ref b] : List Value).toArray 4) := by
  obtain ⟨hx, hb, hr, hml, hown, hts0, hX, hbl, hlocks, hgv⟩ := id C0
  have hN59 := va_Nw.of rfl (hts0 (.methodLinkNest RX2 59 yX1_mergeInPlace RX2) (by decide +kernel))
  have hN9 := va_Nw.of rfl (hts0 (.methodLinkNest RX2 9 yX1_init RX2) (by decide +kernel))
  have hts : ∀ w ∈ wsL_law, w.before #[Value.ref b] s = true := fun w h => hts0 w (wsL_law_in w h)
  have hown : s.vm.findClass RL = some m.cls := hown
  have hA : ∀ q : Nat, s.heap.size ≤ q → (fun q : Nat => s.heap.size ≤ q) q := fun _ h => h
  have hbA : ¬ (fun q : Nat => s.heap.size ≤ q) b := Nat.not_le.mpr hbl
  obtain ⟨c0, iS0, hKn0⟩ := u_known (C := RX1) (T := TX1) (N := 5) (n := 5) hts inlX1 (hts (.instantiable RX1 5) (by decide +kernel))
  obtain ⟨c1, iS1, hKn1⟩ := u_known (C := RX2) (T := TX2) (N := 4) (n := 4) hts inlX2 (hts (.instantiable RX2 4) (by decide +kernel))
  obtain ⟨c2, iS2, hKn2⟩ := u_known (C := RX3) (T := TX3) (N := 5) (n := 5) hts inlX3 (hts (.instantiable RX3 5) (by decide +kernel))
  obtain ⟨dC, dI, hKc⟩ : ∃ (dC : Nat → ClassId) (dI : Nat → Nat → Nat), ∀ (k : Nat) (q : vw_C), vwCl[k]? = some q → u_Kn s q.1 q.2.1 q.2.2 (dC k) (dI k) := by
    refine ⟨fun k => if k = 0 then c0 else if k = 1 then c1 else c2, fun k => if k = 0 then iS0 else if k = 1 then iS1 else iS2, ?_⟩
    intro k q hq
    match k, hq with
    | 0, hq => cases hq; exact hKn0
    | 1, hq => cases hq; exact hKn1
    | 2, hq => cases hq; exact hKn2
    | k + 3, hq => simp [vwCl] at hq
  have hS : va_S (fun q : Nat => s.heap.size ≤ q) s.heap s.heap [] := va_S.rf
  have hK : va_K (dC, dI) vwCl [] s := ⟨hKc, fun k q h => by simp at h⟩
  have hP : va_P (dC, dI) vwCl [] s.heap := fun k q h => by simp at h
  have hD : va_D (fun q : Nat => s.heap.size ≤ q) [] := ⟨fun i j p q h => by simp at h, fun k q h => by simp at h⟩
  have hl := lv_entry ([.ref b]) (n := 4) (Nat.le_of_ble_eq_true rfl)
  rw [lg_entry_eq]
  generalize (lg_sl ([.ref b]) ++ List.replicate (4 - (lg_sl ([.ref b])).length) Slot.unset).toArray = ls at hl ⊢
  have hl : lv_has ls 4 [(0, .ref b)] := hl
  refine va_new (ci := 1) (fs := [.null, .int 0, .int 0, .int 0]) (C := RX2) (T := TX2) (N := 4) hx hb hts inlX2 tyX2 tyX2_ok hown (hts (.classLink RL 7 RX2) (by decide +kernel)) (hts (.instantiable RX2 4) (by decide +kernel)) (hts (.initialized RX2) (by decide +kernel)) hK hP hD hS hA rfl (fun j hj => by rcases (show j = 0 ∨ j = 1 ∨ j = 2 ∨ j = 3 by omega) with rfl | rfl | rfl | rfl <;> rfl) (Nat.le_of_ble_eq_true rfl) (Nat.le_of_ble_eq_true rfl) dL_law_0 (fun h H hP hD hS => ?_)
  have hP : va_P (dC, dI) vwCl [(h, .inr (1, [.null, .int 0, .int 0, .int 0]))] H := hP
  have hD : va_D (fun q : Nat => s.heap.size ≤ q) [(h, .inr (1, [.null, .int 0, .int 0, .int 0]))] := hD
  refine W.widen (k := 1) (n := 4) (Nat.le_of_ble_eq_true rfl) (Nat.le_of_ble_eq_true rfl) ?_
  refine lv_dup hx hb dL_law_3 rfl ?_
  have hPc := hP.sub (ws' := [(h, .inr (1, [.null, .int 0, .int 0, .int 0]))]) [0] rfl
  have hDc := hD.sub (ws' := [(h, .inr (1, [.null, .int 0, .int 0, .int 0]))]) [0] (by decide) rfl
  have hKc := hK.sub (tys' := []) [] rfl
  have hFc := va_free (wc := [(h, .inr (1, [.null, .int 0, .int 0, .int 0]))]) hD hS hA [0] rfl
  refine va_callv (va_runI (As := []) (rest := [.ref h]) ⟨hx, hb, hml, hown, hts⟩ (c_X2_init l dC dI H.size h) (cwI 0 hts gL_law_X2_init rfl rfl rfl (hts (.initialized RX2) (by decide +kernel)) (hts (.methodLink RL 9 yX2_init) (by decide +kernel)) (hts (.instanceMethod yX2_init) (by decide +kernel)) rfl (by decide +kernel) ⟨Nat.le_of_ble_eq_true rfl, Nat.le_of_ble_eq_true rfl⟩) ⟨fun a U g mk q => by obtain ⟨q0, q1, qP, qK, qD, q0n⟩ := q; exact ⟨q0, q1, qP, va_K.moved (u := U) (U := U.calling g mk a) (Vm.Alike.refl U.vm) qK, qD, va_Nw.same rfl rfl q0n⟩, fun U hU hW => ⟨rfl, by rw [hU], by rw [hU]; exact hPc, va_K.moved hW.alike hKc, hDc.weaken (fun _ _ _ _ => trivial), va_Nw.warmM hW hN9⟩⟩ rfl rfl hl.1 rfl (lv_room (Nat.le_of_ble_eq_true rfl)) dL_law_4 ⟨Nat.le_of_ble_eq_true rfl, Nat.le_of_ble_eq_true rfl⟩) hS (fun q _ h => hFc q h) hFc (fun u tS H1 locs ht hvm hw hB hz1 hk1 hS => ?_)
  obtain ⟨r, k, t, cA, cB, hP1, hK1, hD1⟩ := hB
  have hK1 := va_K.moved hvm.symm hK1
  rw [ht] at hP1
  obtain ⟨hP, hD⟩ := va_join (wr := []) (w1 := [(h, .inr (1, [.ref r, .int (nI 0), .int (nI 0), .int (nI 0)])), (r, .inr (0, [.ref k, .ref t, .int (nI 0), .int (nI 0), .int (nI 0)])), (k, .inl (cA, 500, .inl (fun _ => 0))), (t, .inl (cB, 500, .inl (fun _ => 0)))]) hP hD [0] [] rfl rfl (by decide) (by decide) hk1 hFc hP1 hD1
  generalize H1 = H at hP hS ⊢
  have hP : va_P (dC, dI) vwCl [(h, .inr (1, [.ref r, .int (nI 0), .int (nI 0), .int (nI 0)])), (r, .inr (0, [.ref k, .ref t, .int (nI 0), .int (nI 0), .int (nI 0)])), (k, .inl (cA, 500, .inl (fun _ => 0))), (t, .inl (cB, 500, .inl (fun _ => 0)))] H := hP
  have hD : va_D (fun q : Nat => s.heap.size ≤ q) [(h, .inr (1, [.ref r, .int (nI 0), .int (nI 0), .int (nI 0)])), (r, .inr (0, [.ref k, .ref t, .int (nI 0), .int (nI 0), .int (nI 0)])), (k, .inl (cA, 500, .inl (fun _ => 0))), (t, .inl (cB, 500, .inl (fun _ => 0)))] := hD
  have hK := (hK.sub (tys' := []) [] rfl).app hK1
  have hK : va_K (dC, dI) vwCl [(cA, .int), (cB, .int)] s := hK
  refine W.widen (k := 4) (n := 1009) (Nat.le_of_ble_eq_true rfl) (Nat.le_of_ble_eq_true rfl) ?_
  refine lv_astore_n (lv' := [(1, .ref h), (0, .ref b)]) hx hb dL_law_7 rfl hl (by decide) rfl (fun ls hl => ?_)
  refine va_new (ci := 2) (fs := [.null, .null, .int 0, .null, .null]) (C := RX3) (T := TX3) (N := 5) hx hb hts inlX3 tyX3 tyX3_ok hown (hts (.classLink RL 10 RX3) (by decide +kernel)) (hts (.instantiable RX3 5) (by decide +kernel)) (hts (.initialized RX3) (by decide +kernel)) hK hP hD hS hA rfl (fun j hj => by rcases (show j = 0 ∨ j = 1 ∨ j = 2 ∨ j = 3 ∨ j = 4 by omega) with rfl | rfl | rfl | rfl | rfl <;> rfl) (Nat.le_of_ble_eq_true rfl) (Nat.le_of_ble_eq_true rfl) dL_law_8 (fun h3 H hP hD hS => ?_)
  have hP : va_P (dC, dI) vwCl [(h, .inr (1, [.ref r, .int (nI 0), .int (nI 0), .int (nI 0)])), (r, .inr (0, [.ref k, .ref t, .int (nI 0), .int (nI 0), .int (nI 0)])), (k, .inl (cA, 500, .inl (fun _ => 0))), (t, .inl (cB, 500, .inl (fun _ => 0))), (h3, .inr (2, [.null, .null, .int 0, .null, .null]))] H := hP
  have hD : va_D (fun q : Nat => s.heap.size ≤ q) [(h, .inr (1, [.ref r, .int (nI 0), .int (nI 0), .int (nI 0)])), (r, .inr (0, [.ref k, .ref t, .int (nI 0), .int (nI 0), .int (nI 0)])), (k, .inl (cA, 500, .inl (fun _ => 0))), (t, .inl (cB, 500, .inl (fun _ => 0))), (h3, .inr (2, [.null, .null, .int 0, .null, .null]))] := hD
  refine W.widen (k := 5) (n := 1014) (Nat.le_of_ble_eq_true rfl) (Nat.le_of_ble_eq_true rfl) ?_
  refine lv_dup hx hb dL_law_11 rfl ?_
  have hPc := hP.sub (ws' := [(h3, .inr (2, [.null, .null, .int 0, .null, .null]))]) [4] rfl
  have hDc := hD.sub (ws' := [(h3, .inr (2, [.null, .null, .int 0, .null, .null]))]) [4] (by decide) rfl
  have hKc := hK.sub (tys' := []) [] rfl
  have hFc := va_free (wc := [(h3, .inr (2, [.null, .null, .int 0, .null, .null]))]) hD hS hA [4] rfl
  refine va_callv (va_runI (As := []) (rest := [.ref h3]) ⟨hx, hb, hml, hown, hts⟩ (c_X3_init l dC dI H.size h3) (cwI 0 hts gL_law_X3_init rfl rfl rfl (hts (.initialized RX3) (by decide +kernel)) (hts (.methodLink RL 12 yX3_init) (by decide +kernel)) (hts (.instanceMethod yX3_init) (by decide +kernel)) rfl (by decide +kernel) ⟨Nat.le_of_ble_eq_true rfl, Nat.le_of_ble_eq_true rfl⟩) ⟨fun a U g mk q => by obtain ⟨q0, q1, qP, qK, qD⟩ := q; exact ⟨q0, q1, qP, va_K.moved (u := U) (U := U.calling g mk a) (Vm.Alike.refl U.vm) qK, qD⟩, fun U hU hW => ⟨rfl, by rw [hU], by rw [hU]; exact hPc, va_K.moved hW.alike hKc, hDc.weaken (fun _ _ _ _ => trivial)⟩⟩ rfl rfl hl.1 rfl (lv_room (Nat.le_of_ble_eq_true rfl)) dL_law_12 ⟨Nat.le_of_ble_eq_true rfl, Nat.le_of_ble_eq_true rfl⟩) hS (fun q _ h => hFc q h) hFc (fun u tS H1 locs ht hvm hw hB hz1 hk1 hS => ?_)
  obtain ⟨k3, t3, k4, t4, cC, cD, cE, cF, hP1, hK1, hD1⟩ := hB
  have hK1 := va_K.moved hvm.symm hK1
  rw [ht] at hP1
  obtain ⟨hP, hD⟩ := va_join (wr := [(h, .inr (1, [.ref r, .int (nI 0), .int (nI 0), .int (nI 0)])), (r, .inr (0, [.ref k, .ref t, .int (nI 0), .int (nI 0), .int (nI 0)])), (k, .inl (cA, 500, .inl (fun _ => 0))), (t, .inl (cB, 500, .inl (fun _ => 0)))]) (w1 := [(h3, .inr (2, [.ref k3, .ref t3, .int (nI 0), .ref k4, .ref t4])), (k3, .inl (cC, 500, .inl (fun _ => 0))), (t3, .inl (cD, 500, .inl (fun _ => 0))), (k4, .inl (cE, 500, .inl (fun _ => 0))), (t4, .inl (cF, 500, .inl (fun _ => 0)))]) hP hD [4] [0, 1, 2, 3] rfl rfl (by decide) (by decide) hk1 hFc hP1 hD1
  generalize H1 = H at hP hS ⊢
  have hP : va_P (dC, dI) vwCl [(h, .inr (1, [.ref r, .int (nI 0), .int (nI 0), .int (nI 0)])), (r, .inr (0, [.ref k, .ref t, .int (nI 0), .int (nI 0), .int (nI 0)])), (k, .inl (cA, 500, .inl (fun _ => 0))), (t, .inl (cB, 500, .inl (fun _ => 0))), (h3, .inr (2, [.ref k3, .ref t3, .int (nI 0), .ref k4, .ref t4])), (k3, .inl (cC, 500, .inl (fun _ => 0))), (t3, .inl (cD, 500, .inl (fun _ => 0))), (k4, .inl (cE, 500, .inl (fun _ => 0))), (t4, .inl (cF, 500, .inl (fun _ => 0)))] H := hP
  have hD : va_D (fun q : Nat => s.heap.size ≤ q) [(h, .inr (1, [.ref r, .int (nI 0), .int (nI 0), .int (nI 0)])), (r, .inr (0, [.ref k, .ref t, .int (nI 0), .int (nI 0), .int (nI 0)])), (k, .inl (cA, 500, .inl (fun _ => 0))), (t, .inl (cB, 500, .inl (fun _ => 0))), (h3, .inr (2, [.ref k3, .ref t3, .int (nI 0), .ref k4, .ref t4])), (k3, .inl (cC, 500, .inl (fun _ => 0))), (t3, .inl (cD, 500, .inl (fun _ => 0))), (k4, .inl (cE, 500, .inl (fun _ => 0))), (t4, .inl (cF, 500, .inl (fun _ => 0)))] := hD
  have hK := (hK.sub (tys' := [(cA, .int), (cB, .int)]) [0, 1] rfl).app hK1
  have hK : va_K (dC, dI) vwCl [(cA, .int), (cB, .int), (cC, .int), (cD, .int), (cE, .int), (cF, .int)] s := hK
  refine W.widen (k := 9) (n := 3014) (Nat.le_of_ble_eq_true rfl) (Nat.le_of_ble_eq_true rfl) ?_
  refine lv_astore_n (lv' := [(2, .ref h3), (1, .ref h), (0, .ref b)]) hx hb dL_law_15 rfl hl (by decide) rfl (fun ls hl => ?_)
  refine lv_iconst (v := (nI 0)) hx hb dL_law_16 (by decide) ?_
  refine lv_istore_n (lv' := [(3, .int (nI 0)), (2, .ref h3), (1, .ref h), (0, .ref b)]) hx hb dL_law_17 rfl hl (by decide) rfl (fun ls hl => ?_)
  refine lz_loop (σ := Nat × (Nat → Int32) × (Nat → Int32) × Nat × Int32 × Int32 × Int32 × Int32 × Int32 × (Nat → Int32) × (Nat → Int32) × (Nat → Int32) × (Nat → Int32)) (μ := fun X_ => match X_ with | (i, K, T, n, cm, wr, lp, lc, lw, K3, T3, NK, NT) => L - i) (Inv := fun X_ H locs ls => match X_ with | (i, K, T, n, cm, wr, lp, lc, lw, K3, T3, NK, NT) => (i ≤ L) ∧ (n ≤ 500) ∧ (ckI lp lc lw) ∧ (∀ j, j < n → mZ K T j = mZ K3 T3 j) ∧ va_P (dC, dI) vwCl [(h, .inr (1, [.ref r, .int lp, .int lc, .int lw])), (r, .inr (0, [.ref k, .ref t, .int (nI n), .int cm, .int wr])), (k, .inl (cA, 500, .inl K)), (t, .inl (cB, 500, .inl T)), (h3, .inr (2, [.ref k3, .ref t3, .int (nI n), .ref k4, .ref t4])), (k3, .inl (cC, 500, .inl K3)), (t3, .inl (cD, 500, .inl T3)), (k4, .inl (cE, 500, .inl NK)), (t4, .inl (cF, 500, .inl NT))] H ∧ va_D (fun q : Nat => s.heap.size ≤ q) [(h, .inr (1, [.ref r, .int lp, .int lc, .int lw])), (r, .inr (0, [.ref k, .ref t, .int (nI n), .int cm, .int wr])), (k, .inl (cA, 500, .inl K)), (t, .inl (cB, 500, .inl T)), (h3, .inr (2, [.ref k3, .ref t3, .int (nI n), .ref k4, .ref t4])), (k3, .inl (cC, 500, .inl K3)), (t3, .inl (cD, 500, .inl T3)), (k4, .inl (cE, 500, .inl NK)), (t4, .inl (cF, 500, .inl NT))] ∧ va_S (fun q : Nat => s.heap.size ≤ q) s.heap H locs ∧ lv_has ls 4 [(0, .ref b), (1, .ref h), (2, .ref h3), (3, .int (nI i))]) ?_ (0, (fun _ => 0), (fun _ => 0), 0, (nI 0), (nI 0), (nI 0), (nI 0), (nI 0), (fun _ => 0), (fun _ => 0), (fun _ => 0), (fun _ => 0)) _ _ _ ?_
  · rintro ⟨i, K, T, n, cm, wr, lp, lc, lw, K3, T3, NK, NT⟩ ihz H locs ls ⟨vz0, vz1, vz2, vz3, hP, hD, hS, hl⟩
    refine lv_iload_n hx hb dL_law_18 rfl (lv_at hl 3 rfl) ?_
    refine lv_aload_n hx hb dL_law_19 rfl (lv_at hl 0 rfl) ?_
    have hi := vz0
    have hn := vz1
    have hck := vz2
    have heq := vz3
    refine va_slen hx hb hX hbl hbA hS dL_law_20 ?_
    refine lv_iconst (v := (nI 5)) hx hb dL_law_21 (by decide) ?_
    refine lv_isub hx hb dL_law_22 ?_
    refine lv_icmp_gt (tgt := 693) hx hb dL_law_23 (by decide) (fun c23 => ?_) (fun c23 => ?_)
    · refine lv_iconst (v := 1) hx hb dL_law_693 (by decide) ?_
      refine va_forget (fun q hq => hS.2.2 q hq) ?_
      refine W.widen (k := 600000) (n := 7302250) (Nat.le_of_ble_eq_true rfl) (Nat.le_of_ble_eq_true rfl) ?_
      exact lw_ret hx hb hr hlocks dL_law_694
    · have hi5 : i + 5 ≤ L := lw_in hL hi c23
      refine lv_aload_n hx hb dL_law_26 rfl (lv_at hl 0 rfl) ?_
      refine lv_iload_n hx hb dL_law_27 rfl (lv_at hl 3 rfl) ?_
      refine lz_sld hx hb hX hbl hbA hS (i := i) (by omega) hL dL_law_28 ?_
      refine lv_bipush (v := (nI 31)) hx hb dL_law_29 (by decide) ?_
      refine lv_iand hx hb dL_law_31 ?_
      obtain ⟨g, hg, hge⟩ := and31 (xs i)
      refine lz_top hge ?_
      rcases Nat.lt_or_ge g 17 with hg17 | hg17
      · rcases (show g = 0 ∨ g = 1 ∨ g = 2 ∨ g = 3 ∨ g = 4 ∨ g = 5 ∨ g = 6 ∨ g = 7 ∨ g = 8 ∨ g = 9 ∨ g = 10 ∨ g = 11 ∨ g = 12 ∨ g = 13 ∨ g = 14 ∨ g = 15 ∨ g = 16 by omega) with rfl | rfl | rfl | rfl | rfl | rfl | rfl | rfl | rfl | rfl | rfl | rfl | rfl | rfl | rfl | rfl | rfl
        · refine lv_tableIn (tgt := 116) (off := 84) hx hb dL_law_32 (by decide) (by decide) (by decide) (by decide) ?_
          refine lv_aload_n hx hb dL_law_116 rfl (lv_at hl 1 rfl) ?_
          refine lv_aload_n hx hb dL_law_117 rfl (lv_at hl 0 rfl) ?_
          refine lv_iload_n hx hb dL_law_118 rfl (lv_at hl 3 rfl) ?_
          refine lv_iconst (v := (nI 1)) hx hb dL_law_119 (by decide) ?_
          refine lv_iadd hx hb dL_law_120 ?_
          refine lz_top (y := (nI (i + 1))) (nI_add _ _) ?_
          refine lz_sld hx hb hX hbl hbA hS (i := i + 1) (by omega) hL dL_law_121 ?_
          refine lv_aload_n hx hb dL_law_122 rfl (lv_at hl 0 rfl) ?_
          refine lv_iload_n hx hb dL_law_123 rfl (lv_at hl 3 rfl) ?_
          refine lv_iconst (v := (nI 2)) hx hb dL_law_124 (by decide) ?_
          refine lv_iadd hx hb dL_law_125 ?_
          refine lz_top (y := (nI (i + 2))) (nI_add _ _) ?_
          refine lz_sld hx hb hX hbl hbA hS (i := i + 2) (by omega) hL dL_law_126 ?_
          have hPc := hP.sub (ws' := [(h, .inr (1, [.ref r, .int lp, .int lc, .int lw])), (r, .inr (0, [.ref k, .ref t, .int (nI n), .int cm, .int wr])), (k, .inl (cA, 500, .inl K)), (t, .inl (cB, 500, .inl T))]) [0, 1, 2, 3] rfl
          have hDc := hD.sub (ws' := [(h, .inr (1, [.ref r, .int lp, .int lc, .int lw])), (r, .inr (0, [.ref k, .ref t, .int (nI n), .int cm, .int wr])), (k, .inl (cA, 500, .inl K)), (t, .inl (cB, 500, .inl T))]) [0, 1, 2, 3] (by decide) rfl
          have hKc := hK.sub (tys' := [(cA, .int), (cB, .int)]) [0, 1] rfl
          have hFc := va_free (wc := [(h, .inr (1, [.ref r, .int lp, .int lc, .int lw])), (r, .inr (0, [.ref k, .ref t, .int (nI n), .int cm, .int wr])), (k, .inl (cA, 500, .inl K)), (t, .inl (cB, 500, .inl T))]) hD hS hA [0, 1, 2, 3] rfl
          refine va_calli (va_runV (As := [.int (xs (i + 1)), .int (xs (i + 2))]) (rest := []) ⟨hx, hb, hml, hown, hts⟩ (c_X2_put l dC dI H.size h r k t cA cB n cm wr lp lc lw K T hn hck (xs (i + 1)) (xs (i + 2))) (cwV 2 hts gL_law_X2_put rfl rfl rfl (by decide +kernel) ⟨Nat.le_of_ble_eq_true rfl, Nat.le_of_ble_eq_true rfl⟩) ⟨fun a U g mk q => by obtain ⟨q0, q1, qP, qK, qD⟩ := q; exact ⟨q0, q1, qP, va_K.moved (u := U) (U := U.calling g mk a) (Vm.Alike.refl U.vm) qK, qD⟩, va_recv hKc hPc (ci := 1) (q0 := 0) rfl rfl, fun U hU hW => ⟨rfl, by rw [hU], by rw [hU]; exact hPc, va_K.moved hW.alike hKc, hDc.weaken (fun _ _ _ _ => trivial)⟩⟩ rfl rfl hl.1 rfl (lv_room (Nat.le_of_ble_eq_true rfl)) dL_law_127 ⟨Nat.le_of_ble_eq_true rfl, Nat.le_of_ble_eq_true rfl⟩) hS (fun q _ h => hFc q h) hFc (fun r_3 u tS H1 locs ht hvm hw hB hz1 hk1 hS => ?_)
          obtain ⟨K1, T1, n1, e1, w1, p1, p2, p3⟩ := u
          obtain ⟨hP1, hK1, hD1⟩ := hB
          obtain ⟨hq1, hok⟩ := hw
          dsimp only at hq1
          obtain ⟨hn1, hck1⟩ := hok
          dsimp only at hn1 hck1
          rw [ht] at hP1
          obtain ⟨hP, hD⟩ := va_join (wr := [(h3, .inr (2, [.ref k3, .ref t3, .int (nI n), .ref k4, .ref t4])), (k3, .inl (cC, 500, .inl K3)), (t3, .inl (cD, 500, .inl T3)), (k4, .inl (cE, 500, .inl NK)), (t4, .inl (cF, 500, .inl NT))]) (w1 := [(h, .inr (1, [.ref r, .int p1, .int p2, .int p3])), (r, .inr (0, [.ref k, .ref t, .int (nI n1), .int e1, .int w1])), (k, .inl (cA, 500, .inl K1)), (t, .inl (cB, 500, .inl T1))]) hP hD [0, 1, 2, 3] [4, 5, 6, 7, 8] rfl rfl (by decide) (by decide) hk1 hFc hP1 hD1
          generalize H1 = H at hP hS ⊢
          have hP : va_P (dC, dI) vwCl [(h3, .inr (2, [.ref k3, .ref t3, .int (nI n), .ref k4, .ref t4])), (k3, .inl (cC, 500, .inl K3)), (t3, .inl (cD, 500, .inl T3)), (k4, .inl (cE, 500, .inl NK)), (t4, .inl (cF, 500, .inl NT)), (h, .inr (1, [.ref r, .int p1, .int p2, .int p3])), (r, .inr (0, [.ref k, .ref t, .int (nI n1), .int e1, .int w1])), (k, .inl (cA, 500, .inl K1)), (t, .inl (cB, 500, .inl T1))] H := hP
          have hD : va_D (fun q : Nat => s.heap.size ≤ q) [(h3, .inr (2, [.ref k3, .ref t3, .int (nI n), .ref k4, .ref t4])), (k3, .inl (cC, 500, .inl K3)), (t3, .inl (cD, 500, .inl T3)), (k4, .inl (cE, 500, .inl NK)), (t4, .inl (cF, 500, .inl NT)), (h, .inr (1, [.ref r, .int p1, .int p2, .int p3])), (r, .inr (0, [.ref k, .ref t, .int (nI n1), .int e1, .int w1])), (k, .inl (cA, 500, .inl K1)), (t, .inl (cB, 500, .inl T1))] := hD
          refine lv_aload_n hx hb dL_law_130 rfl (lv_at hl 2 rfl) ?_
          refine lv_aload_n hx hb dL_law_131 rfl (lv_at hl 0 rfl) ?_
          refine lv_iload_n hx hb dL_law_132 rfl (lv_at hl 3 rfl) ?_
          refine lv_iconst (v := (nI 1)) hx hb dL_law_133 (by decide) ?_
          refine lv_iadd hx hb dL_law_134 ?_
          refine lz_top (y := (nI (i + 1))) (nI_add _ _) ?_
          refine lz_sld hx hb hX hbl hbA hS (i := i + 1) (by omega) hL dL_law_135 ?_
          refine lv_aload_n hx hb dL_law_136 rfl (lv_at hl 0 rfl) ?_
          refine lv_iload_n hx hb dL_law_137 rfl (lv_at hl 3 rfl) ?_
          refine lv_iconst (v := (nI 2)) hx hb dL_law_138 (by decide) ?_
          refine lv_iadd hx hb dL_law_139 ?_
          refine lz_top (y := (nI (i + 2))) (nI_add _ _) ?_
          refine lz_sld hx hb hX hbl hbA hS (i := i + 2) (by omega) hL dL_law_140 ?_
          have hPc := hP.sub (ws' := [(h3, .inr (2, [.ref k3, .ref t3, .int (nI n), .ref k4, .ref t4])), (k3, .inl (cC, 500, .inl K3)), (t3, .inl (cD, 500, .inl T3)), (k4, .inl (cE, 500, .inl NK)), (t4, .inl (cF, 500, .inl NT))]) [0, 1, 2, 3, 4] rfl
          have hDc := hD.sub (ws' := [(h3, .inr (2, [.ref k3, .ref t3, .int (nI n), .ref k4, .ref t4])), (k3, .inl (cC, 500, .inl K3)), (t3, .inl (cD, 500, .inl T3)), (k4, .inl (cE, 500, .inl NK)), (t4, .inl (cF, 500, .inl NT))]) [0, 1, 2, 3, 4] (by decide) rfl
          have hKc := hK.sub (tys' := [(cC, .int), (cD, .int), (cE, .int), (cF, .int)]) [2, 3, 4, 5] rfl
          have hFc := va_free (wc := [(h3, .inr (2, [.ref k3, .ref t3, .int (nI n), .ref k4, .ref t4])), (k3, .inl (cC, 500, .inl K3)), (t3, .inl (cD, 500, .inl T3)), (k4, .inl (cE, 500, .inl NK)), (t4, .inl (cF, 500, .inl NT))]) hD hS hA [0, 1, 2, 3, 4] rfl
          refine va_calli (va_runV (As := [.int (xs (i + 1)), .int (xs (i + 2))]) (rest := [.int r_3]) ⟨hx, hb, hml, hown, hts⟩ (c_X3_put l dC dI H.size h3 k3 t3 k4 t4 cC cD cE cF n K3 T3 NK NT hn (xs (i + 1)) (xs (i + 2))) (cwV 2 hts gL_law_X3_put rfl rfl rfl (by decide +kernel) ⟨Nat.le_of_ble_eq_true rfl, Nat.le_of_ble_eq_true rfl⟩) ⟨fun a U g mk q => by obtain ⟨q0, q1, qP, qK, qD⟩ := q; exact ⟨q0, q1, qP, va_K.moved (u := U) (U := U.calling g mk a) (Vm.Alike.refl U.vm) qK, qD⟩, va_recv hKc hPc (ci := 2) (q0 := 0) rfl rfl, fun U hU hW => ⟨rfl, by rw [hU], by rw [hU]; exact hPc, va_K.moved hW.alike hKc, hDc.weaken (fun _ _ _ _ => trivial)⟩⟩ rfl rfl hl.1 rfl (lv_room (Nat.le_of_ble_eq_true rfl)) dL_law_141 ⟨Nat.le_of_ble_eq_true rfl, Nat.le_of_ble_eq_true rfl⟩) hS (fun q _ h => hFc q h) hFc (fun r_4 u tS H1 locs ht hvm hw hB hz1 hk1 hS => ?_)
          obtain ⟨K2, T2, n2, NK2, NT2⟩ := u
          obtain ⟨hP1, hK1, hD1⟩ := hB
          have hq2 := hw
          dsimp only at hq2
          rw [ht] at hP1
          obtain ⟨hP, hD⟩ := va_join (wr := [(h, .inr (1, [.ref r, .int p1, .int p2, .int p3])), (r, .inr (0, [.ref k, .ref t, .int (nI n1), .int e1, .int w1])), (k, .inl (cA, 500, .inl K1)), (t, .inl (cB, 500, .inl T1))]) (w1 := [(h3, .inr (2, [.ref k3, .ref t3, .int (nI n2), .ref k4, .ref t4])), (k3, .inl (cC, 500, .inl K2)), (t3, .inl (cD, 500, .inl T2)), (k4, .inl (cE, 500, .inl NK2)), (t4, .inl (cF, 500, .inl NT2))]) hP hD [0, 1, 2, 3, 4] [5, 6, 7, 8] rfl rfl (by decide) (by decide) hk1 hFc hP1 hD1
          generalize H1 = H at hP hS ⊢
          have hP : va_P (dC, dI) vwCl [(h, .inr (1, [.ref r, .int p1, .int p2, .int p3])), (r, .inr (0, [.ref k, .ref t, .int (nI n1), .int e1, .int w1])), (k, .inl (cA, 500, .inl K1)), (t, .inl (cB, 500, .inl T1)), (h3, .inr (2, [.ref k3, .ref t3, .int (nI n2), .ref k4, .ref t4])), (k3, .inl (cC, 500, .inl K2)), (t3, .inl (cD, 500, .inl T2)), (k4, .inl (cE, 500, .inl NK2)), (t4, .inl (cF, 500, .inl NT2))] H := hP
          have hD : va_D (fun q : Nat => s.heap.size ≤ q) [(h, .inr (1, [.ref r, .int p1, .int p2, .int p3])), (r, .inr (0, [.ref k, .ref t, .int (nI n1), .int e1, .int w1])), (k, .inl (cA, 500, .inl K1)), (t, .inl (cB, 500, .inl T1)), (h3, .inr (2, [.ref k3, .ref t3, .int (nI n2), .ref k4, .ref t4])), (k3, .inl (cC, 500, .inl K2)), (t3, .inl (cD, 500, .inl T2)), (k4, .inl (cE, 500, .inl NK2)), (t4, .inl (cF, 500, .inl NT2))] := hD
          obtain ⟨hrr, hn12, hag⟩ := A_put heq hq1 hq2
          subst hn12
          refine lv_icmp_eq (tgt := 687) hx hb dL_law_144 (by decide) (fun c144 => ?_) (fun c144 => ?_)
          · refine lv_iinc (v := (nI (i + 5))) (lv' := [(3, .int (nI (i + 5))), (0, .ref b), (1, .ref h), (2, .ref h3)]) hx hb dL_law_687 hl (k := 3) rfl (by first | exact nI_add i 5 | (rw [← nI_add]; rfl)) (by decide) rfl (fun ls hl => ?_)
            refine lv_goto (tgt := 18) hx hb dL_law_690 (by decide) ?_
            exact ihz ((i + 5), K1, T1, n1, e1, w1, p1, p2, p3, K2, T2, NK2, NT2) (by show L - (i + 5) < L - i; omega) _ _ _ ⟨by omega, hn1, hck1, hag, hP, hD, hS, lv_sub hl [1, 2, 3, 0] rfl⟩
          · exact absurd hrr c144
        · refine lv_tableIn (tgt := 149) (off := 117) hx hb dL_law_32 (by decide) (by decide) (by decide) (by decide) ?_
          refine lv_aload_n hx hb dL_law_149 rfl (lv_at hl 1 rfl) ?_
          refine lv_aload_n hx hb dL_law_150 rfl (lv_at hl 0 rfl) ?_
          refine lv_iload_n hx hb dL_law_151 rfl (lv_at hl 3 rfl) ?_
          refine lv_iconst (v := (nI 1)) hx hb dL_law_152 (by decide) ?_
          refine lv_iadd hx hb dL_law_153 ?_
          refine lz_top (y := (nI (i + 1))) (nI_add _ _) ?_
          refine lz_sld hx hb hX hbl hbA hS (i := i + 1) (by omega) hL dL_law_154 ?_
          refine lv_aload_n hx hb dL_law_155 rfl (lv_at hl 0 rfl) ?_
          refine lv_iload_n hx hb dL_law_156 rfl (lv_at hl 3 rfl) ?_
          refine lv_iconst (v := (nI 2)) hx hb dL_law_157 (by decide) ?_
          refine lv_iadd hx hb dL_law_158 ?_
          refine lz_top (y := (nI (i + 2))) (nI_add _ _) ?_
          refine lz_sld hx hb hX hbl hbA hS (i := i + 2) (by omega) hL dL_law_159 ?_
          refine lv_aload_n hx hb dL_law_160 rfl (lv_at hl 0 rfl) ?_
          refine lv_iload_n hx hb dL_law_161 rfl (lv_at hl 3 rfl) ?_
          refine lv_iconst (v := (nI 3)) hx hb dL_law_162 (by decide) ?_
          refine lv_iadd hx hb dL_law_163 ?_
          refine lz_top (y := (nI (i + 3))) (nI_add _ _) ?_
          refine lz_sld hx hb hX hbl hbA hS (i := i + 3) (by omega) hL dL_law_164 ?_
          refine lv_aload_n hx hb dL_law_165 rfl (lv_at hl 0 rfl) ?_
          refine lv_iload_n hx hb dL_law_166 rfl (lv_at hl 3 rfl) ?_
          refine lv_iconst (v := (nI 4)) hx hb dL_law_167 (by decide) ?_
          refine lv_iadd hx hb dL_law_168 ?_
          refine lz_top (y := (nI (i + 4))) (nI_add _ _) ?_
          refine lz_sld hx hb hX hbl hbA hS (i := i + 4) (by omega) hL dL_law_169 ?_
          have hPc := hP.sub (ws' := [(h, .inr (1, [.ref r, .int lp, .int lc, .int lw])), (r, .inr (0, [.ref k, .ref t, .int (nI n), .int cm, .int wr])), (k, .inl (cA, 500, .inl K)), (t, .inl (cB, 500, .inl T))]) [0, 1, 2, 3] rfl
          have hDc := hD.sub (ws' := [(h, .inr (1, [.ref r, .int lp, .int lc, .int lw])), (r, .inr (0, [.ref k, .ref t, .int (nI n), .int cm, .int wr])), (k, .inl (cA, 500, .inl K)), (t, .inl (cB, 500, .inl T))]) [0, 1, 2, 3] (by decide) rfl
          have hKc := hK.sub (tys' := [(cA, .int), (cB, .int)]) [0, 1] rfl
          have hFc := va_free (wc := [(h, .inr (1, [.ref r, .int lp, .int lc, .int lw])), (r, .inr (0, [.ref k, .ref t, .int (nI n), .int cm, .int wr])), (k, .inl (cA, 500, .inl K)), (t, .inl (cB, 500, .inl T))]) hD hS hA [0, 1, 2, 3] rfl
          refine va_calli (va_runV (As := [.int (xs (i + 1)), .int (xs (i + 2)), .int (xs (i + 3)), .int (xs (i + 4))]) (rest := []) ⟨hx, hb, hml, hown, hts⟩ (c_X2_run l dC dI H.size h r k t cA cB n cm wr lp lc lw K T hn hck (xs (i + 1)) (xs (i + 2)) (xs (i + 3)) (xs (i + 4))) (cwV 4 hts gL_law_X2_run rfl rfl rfl (by decide +kernel) ⟨Nat.le_of_ble_eq_true rfl, Nat.le_of_ble_eq_true rfl⟩) ⟨fun a U g mk q => by obtain ⟨q0, q1, qP, qK, qD⟩ := q; exact ⟨q0, q1, qP, va_K.moved (u := U) (U := U.calling g mk a) (Vm.Alike.refl U.vm) qK, qD⟩, va_recv hKc hPc (ci := 1) (q0 := 0) rfl rfl, fun U hU hW => ⟨rfl, by rw [hU], by rw [hU]; exact hPc, va_K.moved hW.alike hKc, hDc.weaken (fun _ _ _ _ => trivial)⟩⟩ rfl rfl hl.1 rfl (lv_room (Nat.le_of_ble_eq_true rfl)) dL_law_170 ⟨Nat.le_of_ble_eq_true rfl, Nat.le_of_ble_eq_true rfl⟩) hS (fun q _ h => hFc q h) hFc (fun r_5 u tS H1 locs ht hvm hw hB hz1 hk1 hS => ?_)
          obtain ⟨K1, T1, n1, e1, w1, p1, p2, p3⟩ := u
          obtain ⟨hP1, hK1, hD1⟩ := hB
          obtain ⟨hq1, hok⟩ := hw
          dsimp only at hq1
          obtain ⟨hn1, hck1⟩ := hok
          dsimp only at hn1 hck1
          rw [ht] at hP1
          obtain ⟨hP, hD⟩ := va_join (wr := [(h3, .inr (2, [.ref k3, .ref t3, .int (nI n), .ref k4, .ref t4])), (k3, .inl (cC, 500, .inl K3)), (t3, .inl (cD, 500, .inl T3)), (k4, .inl (cE, 500, .inl NK)), (t4, .inl (cF, 500, .inl NT))]) (w1 := [(h, .inr (1, [.ref r, .int p1, .int p2, .int p3])), (r, .inr (0, [.ref k, .ref t, .int (nI n1), .int e1, .int w1])), (k, .inl (cA, 500, .inl K1)), (t, .inl (cB, 500, .inl T1))]) hP hD [0, 1, 2, 3] [4, 5, 6, 7, 8] rfl rfl (by decide) (by decide) hk1 hFc hP1 hD1
          generalize H1 = H at hP hS ⊢
          have hP : va_P (dC, dI) vwCl [(h3, .inr (2, [.ref k3, .ref t3, .int (nI n), .ref k4, .ref t4])), (k3, .inl (cC, 500, .inl K3)), (t3, .inl (cD, 500, .inl T3)), (k4, .inl (cE, 500, .inl NK)), (t4, .inl (cF, 500, .inl NT)), (h, .inr (1, [.ref r, .int p1, .int p2, .int p3])), (r, .inr (0, [.ref k, .ref t, .int (nI n1), .int e1, .int w1])), (k, .inl (cA, 500, .inl K1)), (t, .inl (cB, 500, .inl T1))] H := hP
          have hD : va_D (fun q : Nat => s.heap.size ≤ q) [(h3, .inr (2, [.ref k3, .ref t3, .int (nI n), .ref k4, .ref t4])), (k3, .inl (cC, 500, .inl K3)), (t3, .inl (cD, 500, .inl T3)), (k4, .inl (cE, 500, .inl NK)), (t4, .inl (cF, 500, .inl NT)), (h, .inr (1, [.ref r, .int p1, .int p2, .int p3])), (r, .inr (0, [.ref k, .ref t, .int (nI n1), .int e1, .int w1])), (k, .inl (cA, 500, .inl K1)), (t, .inl (cB, 500, .inl T1))] := hD
          refine lv_aload_n hx hb dL_law_173 rfl (lv_at hl 2 rfl) ?_
          refine lv_aload_n hx hb dL_law_174 rfl (lv_at hl 0 rfl) ?_
          refine lv_iload_n hx hb dL_law_175 rfl (lv_at hl 3 rfl) ?_
          refine lv_iconst (v := (nI 1)) hx hb dL_law_176 (by decide) ?_
          refine lv_iadd hx hb dL_law_177 ?_
          refine lz_top (y := (nI (i + 1))) (nI_add _ _) ?_
          refine lz_sld hx hb hX hbl hbA hS (i := i + 1) (by omega) hL dL_law_178 ?_
          refine lv_aload_n hx hb dL_law_179 rfl (lv_at hl 0 rfl) ?_
          refine lv_iload_n hx hb dL_law_180 rfl (lv_at hl 3 rfl) ?_
          refine lv_iconst (v := (nI 2)) hx hb dL_law_181 (by decide) ?_
          refine lv_iadd hx hb dL_law_182 ?_
          refine lz_top (y := (nI (i + 2))) (nI_add _ _) ?_
          refine lz_sld hx hb hX hbl hbA hS (i := i + 2) (by omega) hL dL_law_183 ?_
          refine lv_aload_n hx hb dL_law_184 rfl (lv_at hl 0 rfl) ?_
          refine lv_iload_n hx hb dL_law_185 rfl (lv_at hl 3 rfl) ?_
          refine lv_iconst (v := (nI 3)) hx hb dL_law_186 (by decide) ?_
          refine lv_iadd hx hb dL_law_187 ?_
          refine lz_top (y := (nI (i + 3))) (nI_add _ _) ?_
          refine lz_sld hx hb hX hbl hbA hS (i := i + 3) (by omega) hL dL_law_188 ?_
          refine lv_aload_n hx hb dL_law_189 rfl (lv_at hl 0 rfl) ?_
          refine lv_iload_n hx hb dL_law_190 rfl (lv_at hl 3 rfl) ?_
          refine lv_iconst (v := (nI 4)) hx hb dL_law_191 (by decide) ?_
          refine lv_iadd hx hb dL_law_192 ?_
          refine lz_top (y := (nI (i + 4))) (nI_add _ _) ?_
          refine lz_sld hx hb hX hbl hbA hS (i := i + 4) (by omega) hL dL_law_193 ?_
          have hPc := hP.sub (ws' := [(h3, .inr (2, [.ref k3, .ref t3, .int (nI n), .ref k4, .ref t4])), (k3, .inl (cC, 500, .inl K3)), (t3, .inl (cD, 500, .inl T3)), (k4, .inl (cE, 500, .inl NK)), (t4, .inl (cF, 500, .inl NT))]) [0, 1, 2, 3, 4] rfl
          have hDc := hD.sub (ws' := [(h3, .inr (2, [.ref k3, .ref t3, .int (nI n), .ref k4, .ref t4])), (k3, .inl (cC, 500, .inl K3)), (t3, .inl (cD, 500, .inl T3)), (k4, .inl (cE, 500, .inl NK)), (t4, .inl (cF, 500, .inl NT))]) [0, 1, 2, 3, 4] (by decide) rfl
          have hKc := hK.sub (tys' := [(cC, .int), (cD, .int), (cE, .int), (cF, .int)]) [2, 3, 4, 5] rfl
          have hFc := va_free (wc := [(h3, .inr (2, [.ref k3, .ref t3, .int (nI n), .ref k4, .ref t4])), (k3, .inl (cC, 500, .inl K3)), (t3, .inl (cD, 500, .inl T3)), (k4, .inl (cE, 500, .inl NK)), (t4, .inl (cF, 500, .inl NT))]) hD hS hA [0, 1, 2, 3, 4] rfl
          refine va_calli (va_runV (As := [.int (xs (i + 1)), .int (xs (i + 2)), .int (xs (i + 3)), .int (xs (i + 4))]) (rest := [.int r_5]) ⟨hx, hb, hml, hown, hts⟩ (c_X3_run l dC dI H.size h3 k3 t3 k4 t4 cC cD cE cF n K3 T3 NK NT hn (xs (i + 1)) (xs (i + 2)) (xs (i + 3)) (xs (i + 4))) (cwV 4 hts gL_law_X3_run rfl rfl rfl (by decide +kernel) ⟨Nat.le_of_ble_eq_true rfl, Nat.le_of_ble_eq_true rfl⟩) ⟨fun a U g mk q => by obtain ⟨q0, q1, qP, qK, qD⟩ := q; exact ⟨q0, q1, qP, va_K.moved (u := U) (U := U.calling g mk a) (Vm.Alike.refl U.vm) qK, qD⟩, va_recv hKc hPc (ci := 2) (q0 := 0) rfl rfl, fun U hU hW => ⟨rfl, by rw [hU], by rw [hU]; exact hPc, va_K.moved hW.alike hKc, hDc.weaken (fun _ _ _ _ => trivial)⟩⟩ rfl rfl hl.1 rfl (lv_room (Nat.le_of_ble_eq_true rfl)) dL_law_194 ⟨Nat.le_of_ble_eq_true rfl, Nat.le_of_ble_eq_true rfl⟩) hS (fun q _ h => hFc q h) hFc (fun r_6 u tS H1 locs ht hvm hw hB hz1 hk1 hS => ?_)
          obtain ⟨K2, T2, n2, NK2, NT2⟩ := u
          obtain ⟨hP1, hK1, hD1⟩ := hB
          have hq2 := hw
          dsimp only at hq2
          rw [ht] at hP1
          obtain ⟨hP, hD⟩ := va_join (wr := [(h, .inr (1, [.ref r, .int p1, .int p2, .int p3])), (r, .inr (0, [.ref k, .ref t, .int (nI n1), .int e1, .int w1])), (k, .inl (cA, 500, .inl K1)), (t, .inl (cB, 500, .inl T1))]) (w1 := [(h3, .inr (2, [.ref k3, .ref t3, .int (nI n2), .ref k4, .ref t4])), (k3, .inl (cC, 500, .inl K2)), (t3, .inl (cD, 500, .inl T2)), (k4, .inl (cE, 500, .inl NK2)), (t4, .inl (cF, 500, .inl NT2))]) hP hD [0, 1, 2, 3, 4] [5, 6, 7, 8] rfl rfl (by decide) (by decide) hk1 hFc hP1 hD1
          generalize H1 = H at hP hS ⊢
          have hP : va_P (dC, dI) vwCl [(h, .inr (1, [.ref r, .int p1, .int p2, .int p3])), (r, .inr (0, [.ref k, .ref t, .int (nI n1), .int e1, .int w1])), (k, .inl (cA, 500, .inl K1)), (t, .inl (cB, 500, .inl T1)), (h3, .inr (2, [.ref k3, .ref t3, .int (nI n2), .ref k4, .ref t4])), (k3, .inl (cC, 500, .inl K2)), (t3, .inl (cD, 500, .inl T2)), (k4, .inl (cE, 500, .inl NK2)), (t4, .inl (cF, 500, .inl NT2))] H := hP
          have hD : va_D (fun q : Nat => s.heap.size ≤ q) [(h, .inr (1, [.ref r, .int p1, .int p2, .int p3])), (r, .inr (0, [.ref k, .ref t, .int (nI n1), .int e1, .int w1])), (k, .inl (cA, 500, .inl K1)), (t, .inl (cB, 500, .inl T1)), (h3, .inr (2, [.ref k3, .ref t3, .int (nI n2), .ref k4, .ref t4])), (k3, .inl (cC, 500, .inl K2)), (t3, .inl (cD, 500, .inl T2)), (k4, .inl (cE, 500, .inl NK2)), (t4, .inl (cF, 500, .inl NT2))] := hD
          obtain ⟨hrr, hn12, hag⟩ := A_run heq hq1 hq2
          subst hn12
          refine lv_icmp_eq (tgt := 687) hx hb dL_law_197 (by decide) (fun c197 => ?_) (fun c197 => ?_)
          · refine lv_iinc (v := (nI (i + 5))) (lv' := [(3, .int (nI (i + 5))), (0, .ref b), (1, .ref h), (2, .ref h3)]) hx hb dL_law_687 hl (k := 3) rfl (by first | exact nI_add i 5 | (rw [← nI_add]; rfl)) (by decide) rfl (fun ls hl => ?_)
            refine lv_goto (tgt := 18) hx hb dL_law_690 (by decide) ?_
            exact ihz ((i + 5), K1, T1, n1, e1, w1, p1, p2, p3, K2, T2, NK2, NT2) (by show L - (i + 5) < L - i; omega) _ _ _ ⟨by omega, hn1, hck1, hag, hP, hD, hS, lv_sub hl [1, 2, 3, 0] rfl⟩
          · exact absurd hrr c197
        · refine lv_tableIn (tgt := 202) (off := 170) hx hb dL_law_32 (by decide) (by decide) (by decide) (by decide) ?_
          refine lv_aload_n hx hb dL_law_202 rfl (lv_at hl 1 rfl) ?_
          have hPc := hP.sub (ws' := [(h, .inr (1, [.ref r, .int lp, .int lc, .int lw])), (r, .inr (0, [.ref k, .ref t, .int (nI n), .int cm, .int wr])), (k, .inl (cA, 500, .inl K)), (t, .inl (cB, 500, .inl T))]) [0, 1, 2, 3] rfl
          have hDc := hD.sub (ws' := [(h, .inr (1, [.ref r, .int lp, .int lc, .int lw])), (r, .inr (0, [.ref k, .ref t, .int (nI n), .int cm, .int wr])), (k, .inl (cA, 500, .inl K)), (t, .inl (cB, 500, .inl T))]) [0, 1, 2, 3] (by decide) rfl
          have hKc := hK.sub (tys' := [(cA, .int), (cB, .int)]) [0, 1] rfl
          have hFc := va_free (wc := [(h, .inr (1, [.ref r, .int lp, .int lc, .int lw])), (r, .inr (0, [.ref k, .ref t, .int (nI n), .int cm, .int wr])), (k, .inl (cA, 500, .inl K)), (t, .inl (cB, 500, .inl T))]) hD hS hA [0, 1, 2, 3] rfl
          refine va_calli (va_runV (As := []) (rest := []) ⟨hx, hb, hml, hown, hts⟩ (c_X2_clear l dC dI H.size h r k t cA cB n cm wr lp lc lw K T hn hck ) (cwV 0 hts gL_law_X2_clear rfl rfl rfl (by decide +kernel) ⟨Nat.le_of_ble_eq_true rfl, Nat.le_of_ble_eq_true rfl⟩) ⟨fun a U g mk q => by obtain ⟨q0, q1, qP, qK, qD⟩ := q; exact ⟨q0, q1, qP, va_K.moved (u := U) (U := U.calling g mk a) (Vm.Alike.refl U.vm) qK, qD⟩, va_recv hKc hPc (ci := 1) (q0 := 0) rfl rfl, fun U hU hW => ⟨rfl, by rw [hU], by rw [hU]; exact hPc, va_K.moved hW.alike hKc, hDc.weaken (fun _ _ _ _ => trivial)⟩⟩ rfl rfl hl.1 rfl (lv_room (Nat.le_of_ble_eq_true rfl)) dL_law_203 ⟨Nat.le_of_ble_eq_true rfl, Nat.le_of_ble_eq_true rfl⟩) hS (fun q _ h => hFc q h) hFc (fun r_7 u tS H1 locs ht hvm hw hB hz1 hk1 hS => ?_)
          obtain ⟨K1, T1, n1, e1, w1, p1, p2, p3⟩ := u
          obtain ⟨hP1, hK1, hD1⟩ := hB
          obtain ⟨hq1, hok⟩ := hw
          dsimp only at hq1
          obtain ⟨hn1, hck1⟩ := hok
          dsimp only at hn1 hck1
          rw [ht] at hP1
          obtain ⟨hP, hD⟩ := va_join (wr := [(h3, .inr (2, [.ref k3, .ref t3, .int (nI n), .ref k4, .ref t4])), (k3, .inl (cC, 500, .inl K3)), (t3, .inl (cD, 500, .inl T3)), (k4, .inl (cE, 500, .inl NK)), (t4, .inl (cF, 500, .inl NT))]) (w1 := [(h, .inr (1, [.ref r, .int p1, .int p2, .int p3])), (r, .inr (0, [.ref k, .ref t, .int (nI n1), .int e1, .int w1])), (k, .inl (cA, 500, .inl K1)), (t, .inl (cB, 500, .inl T1))]) hP hD [0, 1, 2, 3] [4, 5, 6, 7, 8] rfl rfl (by decide) (by decide) hk1 hFc hP1 hD1
          generalize H1 = H at hP hS ⊢
          have hP : va_P (dC, dI) vwCl [(h3, .inr (2, [.ref k3, .ref t3, .int (nI n), .ref k4, .ref t4])), (k3, .inl (cC, 500, .inl K3)), (t3, .inl (cD, 500, .inl T3)), (k4, .inl (cE, 500, .inl NK)), (t4, .inl (cF, 500, .inl NT)), (h, .inr (1, [.ref r, .int p1, .int p2, .int p3])), (r, .inr (0, [.ref k, .ref t, .int (nI n1), .int e1, .int w1])), (k, .inl (cA, 500, .inl K1)), (t, .inl (cB, 500, .inl T1))] H := hP
          have hD : va_D (fun q : Nat => s.heap.size ≤ q) [(h3, .inr (2, [.ref k3, .ref t3, .int (nI n), .ref k4, .ref t4])), (k3, .inl (cC, 500, .inl K3)), (t3, .inl (cD, 500, .inl T3)), (k4, .inl (cE, 500, .inl NK)), (t4, .inl (cF, 500, .inl NT)), (h, .inr (1, [.ref r, .int p1, .int p2, .int p3])), (r, .inr (0, [.ref k, .ref t, .int (nI n1), .int e1, .int w1])), (k, .inl (cA, 500, .inl K1)), (t, .inl (cB, 500, .inl T1))] := hD
          refine lv_aload_n hx hb dL_law_206 rfl (lv_at hl 2 rfl) ?_
          have hPc := hP.sub (ws' := [(h3, .inr (2, [.ref k3, .ref t3, .int (nI n), .ref k4, .ref t4])), (k3, .inl (cC, 500, .inl K3)), (t3, .inl (cD, 500, .inl T3)), (k4, .inl (cE, 500, .inl NK)), (t4, .inl (cF, 500, .inl NT))]) [0, 1, 2, 3, 4] rfl
          have hDc := hD.sub (ws' := [(h3, .inr (2, [.ref k3, .ref t3, .int (nI n), .ref k4, .ref t4])), (k3, .inl (cC, 500, .inl K3)), (t3, .inl (cD, 500, .inl T3)), (k4, .inl (cE, 500, .inl NK)), (t4, .inl (cF, 500, .inl NT))]) [0, 1, 2, 3, 4] (by decide) rfl
          have hKc := hK.sub (tys' := [(cC, .int), (cD, .int), (cE, .int), (cF, .int)]) [2, 3, 4, 5] rfl
          have hFc := va_free (wc := [(h3, .inr (2, [.ref k3, .ref t3, .int (nI n), .ref k4, .ref t4])), (k3, .inl (cC, 500, .inl K3)), (t3, .inl (cD, 500, .inl T3)), (k4, .inl (cE, 500, .inl NK)), (t4, .inl (cF, 500, .inl NT))]) hD hS hA [0, 1, 2, 3, 4] rfl
          refine va_calli (va_runV (As := []) (rest := [.int r_7]) ⟨hx, hb, hml, hown, hts⟩ (c_X3_clear l dC dI H.size h3 k3 t3 k4 t4 cC cD cE cF n K3 T3 NK NT hn ) (cwV 0 hts gL_law_X3_clear rfl rfl rfl (by decide +kernel) ⟨Nat.le_of_ble_eq_true rfl, Nat.le_of_ble_eq_true rfl⟩) ⟨fun a U g mk q => by obtain ⟨q0, q1, qP, qK, qD⟩ := q; exact ⟨q0, q1, qP, va_K.moved (u := U) (U := U.calling g mk a) (Vm.Alike.refl U.vm) qK, qD⟩, va_recv hKc hPc (ci := 2) (q0 := 0) rfl rfl, fun U hU hW => ⟨rfl, by rw [hU], by rw [hU]; exact hPc, va_K.moved hW.alike hKc, hDc.weaken (fun _ _ _ _ => trivial)⟩⟩ rfl rfl hl.1 rfl (lv_room (Nat.le_of_ble_eq_true rfl)) dL_law_207 ⟨Nat.le_of_ble_eq_true rfl, Nat.le_of_ble_eq_true rfl⟩) hS (fun q _ h => hFc q h) hFc (fun r_8 u tS H1 locs ht hvm hw hB hz1 hk1 hS => ?_)
          obtain ⟨K2, T2, n2, NK2, NT2⟩ := u
          obtain ⟨hP1, hK1, hD1⟩ := hB
          have hq2 := hw
          dsimp only at hq2
          rw [ht] at hP1
          obtain ⟨hP, hD⟩ := va_join (wr := [(h, .inr (1, [.ref r, .int p1, .int p2, .int p3])), (r, .inr (0, [.ref k, .ref t, .int (nI n1), .int e1, .int w1])), (k, .inl (cA, 500, .inl K1)), (t, .inl (cB, 500, .inl T1))]) (w1 := [(h3, .inr (2, [.ref k3, .ref t3, .int (nI n2), .ref k4, .ref t4])), (k3, .inl (cC, 500, .inl K2)), (t3, .inl (cD, 500, .inl T2)), (k4, .inl (cE, 500, .inl NK2)), (t4, .inl (cF, 500, .inl NT2))]) hP hD [0, 1, 2, 3, 4] [5, 6, 7, 8] rfl rfl (by decide) (by decide) hk1 hFc hP1 hD1
          generalize H1 = H at hP hS ⊢
          have hP : va_P (dC, dI) vwCl [(h, .inr (1, [.ref r, .int p1, .int p2, .int p3])), (r, .inr (0, [.ref k, .ref t, .int (nI n1), .int e1, .int w1])), (k, .inl (cA, 500, .inl K1)), (t, .inl (cB, 500, .inl T1)), (h3, .inr (2, [.ref k3, .ref t3, .int (nI n2), .ref k4, .ref t4])), (k3, .inl (cC, 500, .inl K2)), (t3, .inl (cD, 500, .inl T2)), (k4, .inl (cE, 500, .inl NK2)), (t4, .inl (cF, 500, .inl NT2))] H := hP
          have hD : va_D (fun q : Nat => s.heap.size ≤ q) [(h, .inr (1, [.ref r, .int p1, .int p2, .int p3])), (r, .inr (0, [.ref k, .ref t, .int (nI n1), .int e1, .int w1])), (k, .inl (cA, 500, .inl K1)), (t, .inl (cB, 500, .inl T1)), (h3, .inr (2, [.ref k3, .ref t3, .int (nI n2), .ref k4, .ref t4])), (k3, .inl (cC, 500, .inl K2)), (t3, .inl (cD, 500, .inl T2)), (k4, .inl (cE, 500, .inl NK2)), (t4, .inl (cF, 500, .inl NT2))] := hD
          obtain ⟨hq1a, hq1b⟩ := hq1
          obtain ⟨hq2a, hq2b⟩ := hq2
          have hrr : r_7 = r_8 := by rw [hq1a, hq2a]
          have hag : ∀ j, j < n1 → mZ K1 T1 j = mZ K2 T2 j := fun j hj => by omega
          obtain rfl : n1 = n2 := by omega
          refine lv_icmp_eq (tgt := 687) hx hb dL_law_210 (by decide) (fun c210 => ?_) (fun c210 => ?_)
          · refine lv_iinc (v := (nI (i + 5))) (lv' := [(3, .int (nI (i + 5))), (0, .ref b), (1, .ref h), (2, .ref h3)]) hx hb dL_law_687 hl (k := 3) rfl (by first | exact nI_add i 5 | (rw [← nI_add]; rfl)) (by decide) rfl (fun ls hl => ?_)
            refine lv_goto (tgt := 18) hx hb dL_law_690 (by decide) ?_
            exact ihz ((i + 5), K1, T1, n1, e1, w1, p1, p2, p3, K2, T2, NK2, NT2) (by show L - (i + 5) < L - i; omega) _ _ _ ⟨by omega, hn1, hck1, hag, hP, hD, hS, lv_sub hl [1, 2, 3, 0] rfl⟩
          · exact absurd hrr c210
        · refine lv_tableIn (tgt := 215) (off := 183) hx hb dL_law_32 (by decide) (by decide) (by decide) (by decide) ?_
          refine lv_aload_n hx hb dL_law_215 rfl (lv_at hl 1 rfl) ?_
          refine lv_aload_n hx hb dL_law_216 rfl (lv_at hl 0 rfl) ?_
          refine lv_iload_n hx hb dL_law_217 rfl (lv_at hl 3 rfl) ?_
          refine lv_iconst (v := (nI 1)) hx hb dL_law_218 (by decide) ?_
          refine lv_iadd hx hb dL_law_219 ?_
          refine lz_top (y := (nI (i + 1))) (nI_add _ _) ?_
          refine lz_sld hx hb hX hbl hbA hS (i := i + 1) (by omega) hL dL_law_220 ?_
          have hPc := hP.sub (ws' := [(h, .inr (1, [.ref r, .int lp, .int lc, .int lw])), (r, .inr (0, [.ref k, .ref t, .int (nI n), .int cm, .int wr])), (k, .inl (cA, 500, .inl K)), (t, .inl (cB, 500, .inl T))]) [0, 1, 2, 3] rfl
          have hDc := hD.sub (ws' := [(h, .inr (1, [.ref r, .int lp, .int lc, .int lw])), (r, .inr (0, [.ref k, .ref t, .int (nI n), .int cm, .int wr])), (k, .inl (cA, 500, .inl K)), (t, .inl (cB, 500, .inl T))]) [0, 1, 2, 3] (by decide) rfl
          have hKc := hK.sub (tys' := [(cA, .int), (cB, .int)]) [0, 1] rfl
          have hFc := va_free (wc := [(h, .inr (1, [.ref r, .int lp, .int lc, .int lw])), (r, .inr (0, [.ref k, .ref t, .int (nI n), .int cm, .int wr])), (k, .inl (cA, 500, .inl K)), (t, .inl (cB, 500, .inl T))]) hD hS hA [0, 1, 2, 3] rfl
          refine va_calli (va_runV (As := [.int (xs (i + 1))]) (rest := []) ⟨hx, hb, hml, hown, hts⟩ (c_X2_sort l dC dI H.size h r k t cA cB n cm wr lp lc lw K T hn hck (xs (i + 1))) (cwV 1 hts gL_law_X2_sort rfl rfl rfl (by decide +kernel) ⟨Nat.le_of_ble_eq_true rfl, Nat.le_of_ble_eq_true rfl⟩) ⟨fun a U g mk q => by obtain ⟨q0, q1, qP, qK, qD⟩ := q; exact ⟨q0, q1, qP, va_K.moved (u := U) (U := U.calling g mk a) (Vm.Alike.refl U.vm) qK, qD⟩, va_recv hKc hPc (ci := 1) (q0 := 0) rfl rfl, fun U hU hW => ⟨rfl, by rw [hU], by rw [hU]; exact hPc, va_K.moved hW.alike hKc, hDc.weaken (fun _ _ _ _ => trivial)⟩⟩ rfl rfl hl.1 rfl (lv_room (Nat.le_of_ble_eq_true rfl)) dL_law_221 ⟨Nat.le_of_ble_eq_true rfl, Nat.le_of_ble_eq_true rfl⟩) hS (fun q _ h => hFc q h) hFc (fun r_9 u tS H1 locs ht hvm hw hB hz1 hk1 hS => ?_)
          obtain ⟨K1, T1, n1, e1, w1, p1, p2, p3⟩ := u
          obtain ⟨hP1, hK1, hD1⟩ := hB
          obtain ⟨hq1, hok⟩ := hw
          dsimp only at hq1
          obtain ⟨hn1, hck1⟩ := hok
          dsimp only at hn1 hck1
          rw [ht] at hP1
          obtain ⟨hP, hD⟩ := va_join (wr := [(h3, .inr (2, [.ref k3, .ref t3, .int (nI n), .ref k4, .ref t4])), (k3, .inl (cC, 500, .inl K3)), (t3, .inl (cD, 500, .inl T3)), (k4, .inl (cE, 500, .inl NK)), (t4, .inl (cF, 500, .inl NT))]) (w1 := [(h, .inr (1, [.ref r, .int p1, .int p2, .int p3])), (r, .inr (0, [.ref k, .ref t, .int (nI n1), .int e1, .int w1])), (k, .inl (cA, 500, .inl K1)), (t, .inl (cB, 500, .inl T1))]) hP hD [0, 1, 2, 3] [4, 5, 6, 7, 8] rfl rfl (by decide) (by decide) hk1 hFc hP1 hD1
          generalize H1 = H at hP hS ⊢
          have hP : va_P (dC, dI) vwCl [(h3, .inr (2, [.ref k3, .ref t3, .int (nI n), .ref k4, .ref t4])), (k3, .inl (cC, 500, .inl K3)), (t3, .inl (cD, 500, .inl T3)), (k4, .inl (cE, 500, .inl NK)), (t4, .inl (cF, 500, .inl NT)), (h, .inr (1, [.ref r, .int p1, .int p2, .int p3])), (r, .inr (0, [.ref k, .ref t, .int (nI n1), .int e1, .int w1])), (k, .inl (cA, 500, .inl K1)), (t, .inl (cB, 500, .inl T1))] H := hP
          have hD : va_D (fun q : Nat => s.heap.size ≤ q) [(h3, .inr (2, [.ref k3, .ref t3, .int (nI n), .ref k4, .ref t4])), (k3, .inl (cC, 500, .inl K3)), (t3, .inl (cD, 500, .inl T3)), (k4, .inl (cE, 500, .inl NK)), (t4, .inl (cF, 500, .inl NT)), (h, .inr (1, [.ref r, .int p1, .int p2, .int p3])), (r, .inr (0, [.ref k, .ref t, .int (nI n1), .int e1, .int w1])), (k, .inl (cA, 500, .inl K1)), (t, .inl (cB, 500, .inl T1))] := hD
          refine lv_aload_n hx hb dL_law_224 rfl (lv_at hl 2 rfl) ?_
          refine lv_aload_n hx hb dL_law_225 rfl (lv_at hl 0 rfl) ?_
          refine lv_iload_n hx hb dL_law_226 rfl (lv_at hl 3 rfl) ?_
          refine lv_iconst (v := (nI 1)) hx hb dL_law_227 (by decide) ?_
          refine lv_iadd hx hb dL_law_228 ?_
          refine lz_top (y := (nI (i + 1))) (nI_add _ _) ?_
          refine lz_sld hx hb hX hbl hbA hS (i := i + 1) (by omega) hL dL_law_229 ?_
          have hPc := hP.sub (ws' := [(h3, .inr (2, [.ref k3, .ref t3, .int (nI n), .ref k4, .ref t4])), (k3, .inl (cC, 500, .inl K3)), (t3, .inl (cD, 500, .inl T3)), (k4, .inl (cE, 500, .inl NK)), (t4, .inl (cF, 500, .inl NT))]) [0, 1, 2, 3, 4] rfl
          have hDc := hD.sub (ws' := [(h3, .inr (2, [.ref k3, .ref t3, .int (nI n), .ref k4, .ref t4])), (k3, .inl (cC, 500, .inl K3)), (t3, .inl (cD, 500, .inl T3)), (k4, .inl (cE, 500, .inl NK)), (t4, .inl (cF, 500, .inl NT))]) [0, 1, 2, 3, 4] (by decide) rfl
          have hKc := hK.sub (tys' := [(cC, .int), (cD, .int), (cE, .int), (cF, .int)]) [2, 3, 4, 5] rfl
          have hFc := va_free (wc := [(h3, .inr (2, [.ref k3, .ref t3, .int (nI n), .ref k4, .ref t4])), (k3, .inl (cC, 500, .inl K3)), (t3, .inl (cD, 500, .inl T3)), (k4, .inl (cE, 500, .inl NK)), (t4, .inl (cF, 500, .inl NT))]) hD hS hA [0, 1, 2, 3, 4] rfl
          refine va_calli (va_runV (As := [.int (xs (i + 1))]) (rest := [.int r_9]) ⟨hx, hb, hml, hown, hts⟩ (c_X3_sort l dC dI H.size h3 k3 t3 k4 t4 cC cD cE cF n K3 T3 NK NT hn (xs (i + 1))) (cwV 1 hts gL_law_X3_sort rfl rfl rfl (by decide +kernel) ⟨Nat.le_of_ble_eq_true rfl, Nat.le_of_ble_eq_true rfl⟩) ⟨fun a U g mk q => by obtain ⟨q0, q1, qP, qK, qD⟩ := q; exact ⟨q0, q1, qP, va_K.moved (u := U) (U := U.calling g mk a) (Vm.Alike.refl U.vm) qK, qD⟩, va_recv hKc hPc (ci := 2) (q0 := 0) rfl rfl, fun U hU hW => ⟨rfl, by rw [hU], by rw [hU]; exact hPc, va_K.moved hW.alike hKc, hDc.weaken (fun _ _ _ _ => trivial)⟩⟩ rfl rfl hl.1 rfl (lv_room (Nat.le_of_ble_eq_true rfl)) dL_law_230 ⟨Nat.le_of_ble_eq_true rfl, Nat.le_of_ble_eq_true rfl⟩) hS (fun q _ h => hFc q h) hFc (fun r_10 u tS H1 locs ht hvm hw hB hz1 hk1 hS => ?_)
          obtain ⟨K2, T2, n2, NK2, NT2⟩ := u
          obtain ⟨hP1, hK1, hD1⟩ := hB
          have hq2 := hw
          dsimp only at hq2
          rw [ht] at hP1
          obtain ⟨hP, hD⟩ := va_join (wr := [(h, .inr (1, [.ref r, .int p1, .int p2, .int p3])), (r, .inr (0, [.ref k, .ref t, .int (nI n1), .int e1, .int w1])), (k, .inl (cA, 500, .inl K1)), (t, .inl (cB, 500, .inl T1))]) (w1 := [(h3, .inr (2, [.ref k3, .ref t3, .int (nI n2), .ref k4, .ref t4])), (k3, .inl (cC, 500, .inl K2)), (t3, .inl (cD, 500, .inl T2)), (k4, .inl (cE, 500, .inl NK2)), (t4, .inl (cF, 500, .inl NT2))]) hP hD [0, 1, 2, 3, 4] [5, 6, 7, 8] rfl rfl (by decide) (by decide) hk1 hFc hP1 hD1
          generalize H1 = H at hP hS ⊢
          have hP : va_P (dC, dI) vwCl [(h, .inr (1, [.ref r, .int p1, .int p2, .int p3])), (r, .inr (0, [.ref k, .ref t, .int (nI n1), .int e1, .int w1])), (k, .inl (cA, 500, .inl K1)), (t, .inl (cB, 500, .inl T1)), (h3, .inr (2, [.ref k3, .ref t3, .int (nI n2), .ref k4, .ref t4])), (k3, .inl (cC, 500, .inl K2)), (t3, .inl (cD, 500, .inl T2)), (k4, .inl (cE, 500, .inl NK2)), (t4, .inl (cF, 500, .inl NT2))] H := hP
          have hD : va_D (fun q : Nat => s.heap.size ≤ q) [(h, .inr (1, [.ref r, .int p1, .int p2, .int p3])), (r, .inr (0, [.ref k, .ref t, .int (nI n1), .int e1, .int w1])), (k, .inl (cA, 500, .inl K1)), (t, .inl (cB, 500, .inl T1)), (h3, .inr (2, [.ref k3, .ref t3, .int (nI n2), .ref k4, .ref t4])), (k3, .inl (cC, 500, .inl K2)), (t3, .inl (cD, 500, .inl T2)), (k4, .inl (cE, 500, .inl NK2)), (t4, .inl (cF, 500, .inl NT2))] := hD
          obtain ⟨hrr, hn12, hag⟩ := A_so hn heq hq1 hq2
          subst hn12
          refine lv_icmp_eq (tgt := 687) hx hb dL_law_233 (by decide) (fun c233 => ?_) (fun c233 => ?_)
          · refine lv_iinc (v := (nI (i + 5))) (lv' := [(3, .int (nI (i + 5))), (0, .ref b), (1, .ref h), (2, .ref h3)]) hx hb dL_law_687 hl (k := 3) rfl (by first | exact nI_add i 5 | (rw [← nI_add]; rfl)) (by decide) rfl (fun ls hl => ?_)
            refine lv_goto (tgt := 18) hx hb dL_law_690 (by decide) ?_
            exact ihz ((i + 5), K1, T1, n1, e1, w1, p1, p2, p3, K2, T2, NK2, NT2) (by show L - (i + 5) < L - i; omega) _ _ _ ⟨by omega, hn1, hck1, hag, hP, hD, hS, lv_sub hl [1, 2, 3, 0] rfl⟩
          · exact absurd hrr c233
        · refine lv_tableIn (tgt := 238) (off := 206) hx hb dL_law_32 (by decide) (by decide) (by decide) (by decide) ?_
          refine lv_aload_n hx hb dL_law_238 rfl (lv_at hl 1 rfl) ?_
          refine lv_aload_n hx hb dL_law_239 rfl (lv_at hl 0 rfl) ?_
          refine lv_iload_n hx hb dL_law_240 rfl (lv_at hl 3 rfl) ?_
          refine lv_iconst (v := (nI 1)) hx hb dL_law_241 (by decide) ?_
          refine lv_iadd hx hb dL_law_242 ?_
          refine lz_top (y := (nI (i + 1))) (nI_add _ _) ?_
          refine lz_sld hx hb hX hbl hbA hS (i := i + 1) (by omega) hL dL_law_243 ?_
          refine lv_aload_n hx hb dL_law_244 rfl (lv_at hl 0 rfl) ?_
          refine lv_iload_n hx hb dL_law_245 rfl (lv_at hl 3 rfl) ?_
          refine lv_iconst (v := (nI 2)) hx hb dL_law_246 (by decide) ?_
          refine lv_iadd hx hb dL_law_247 ?_
          refine lz_top (y := (nI (i + 2))) (nI_add _ _) ?_
          refine lz_sld hx hb hX hbl hbA hS (i := i + 2) (by omega) hL dL_law_248 ?_
          refine lv_aload_n hx hb dL_law_249 rfl (lv_at hl 0 rfl) ?_
          refine lv_iload_n hx hb dL_law_250 rfl (lv_at hl 3 rfl) ?_
          refine lv_iconst (v := (nI 3)) hx hb dL_law_251 (by decide) ?_
          refine lv_iadd hx hb dL_law_252 ?_
          refine lz_top (y := (nI (i + 3))) (nI_add _ _) ?_
          refine lz_sld hx hb hX hbl hbA hS (i := i + 3) (by omega) hL dL_law_253 ?_
          have hPc := hP.sub (ws' := [(h, .inr (1, [.ref r, .int lp, .int lc, .int lw])), (r, .inr (0, [.ref k, .ref t, .int (nI n), .int cm, .int wr])), (k, .inl (cA, 500, .inl K)), (t, .inl (cB, 500, .inl T))]) [0, 1, 2, 3] rfl
          have hDc := hD.sub (ws' := [(h, .inr (1, [.ref r, .int lp, .int lc, .int lw])), (r, .inr (0, [.ref k, .ref t, .int (nI n), .int cm, .int wr])), (k, .inl (cA, 500, .inl K)), (t, .inl (cB, 500, .inl T))]) [0, 1, 2, 3] (by decide) rfl
          have hKc := hK.sub (tys' := [(cA, .int), (cB, .int)]) [0, 1] rfl
          have hFc := va_free (wc := [(h, .inr (1, [.ref r, .int lp, .int lc, .int lw])), (r, .inr (0, [.ref k, .ref t, .int (nI n), .int cm, .int wr])), (k, .inl (cA, 500, .inl K)), (t, .inl (cB, 500, .inl T))]) hD hS hA [0, 1, 2, 3] rfl
          refine va_calli (va_runV (As := [.int (xs (i + 1)), .int (xs (i + 2)), .int (xs (i + 3))]) (rest := []) ⟨hx, hb, hml, hown, hts⟩ (c_X2_sortPart l dC dI H.size h r k t cA cB n cm wr lp lc lw K T hn hck (xs (i + 1)) (xs (i + 2)) (xs (i + 3))) (cwV 3 hts gL_law_X2_sortPart rfl rfl rfl (by decide +kernel) ⟨Nat.le_of_ble_eq_true rfl, Nat.le_of_ble_eq_true rfl⟩) ⟨fun a U g mk q => by obtain ⟨q0, q1, qP, qK, qD⟩ := q; exact ⟨q0, q1, qP, va_K.moved (u := U) (U := U.calling g mk a) (Vm.Alike.refl U.vm) qK, qD⟩, va_recv hKc hPc (ci := 1) (q0 := 0) rfl rfl, fun U hU hW => ⟨rfl, by rw [hU], by rw [hU]; exact hPc, va_K.moved hW.alike hKc, hDc.weaken (fun _ _ _ _ => trivial)⟩⟩ rfl rfl hl.1 rfl (lv_room (Nat.le_of_ble_eq_true rfl)) dL_law_254 ⟨Nat.le_of_ble_eq_true rfl, Nat.le_of_ble_eq_true rfl⟩) hS (fun q _ h => hFc q h) hFc (fun r_11 u tS H1 locs ht hvm hw hB hz1 hk1 hS => ?_)
          obtain ⟨K1, T1, n1, e1, w1, p1, p2, p3⟩ := u
          obtain ⟨hP1, hK1, hD1⟩ := hB
          obtain ⟨hq1, hok⟩ := hw
          dsimp only at hq1
          obtain ⟨hn1, hck1⟩ := hok
          dsimp only at hn1 hck1
          rw [ht] at hP1
          obtain ⟨hP, hD⟩ := va_join (wr := [(h3, .inr (2, [.ref k3, .ref t3, .int (nI n), .ref k4, .ref t4])), (k3, .inl (cC, 500, .inl K3)), (t3, .inl (cD, 500, .inl T3)), (k4, .inl (cE, 500, .inl NK)), (t4, .inl (cF, 500, .inl NT))]) (w1 := [(h, .inr (1, [.ref r, .int p1, .int p2, .int p3])), (r, .inr (0, [.ref k, .ref t, .int (nI n1), .int e1, .int w1])), (k, .inl (cA, 500, .inl K1)), (t, .inl (cB, 500, .inl T1))]) hP hD [0, 1, 2, 3] [4, 5, 6, 7, 8] rfl rfl (by decide) (by decide) hk1 hFc hP1 hD1
          generalize H1 = H at hP hS ⊢
          have hP : va_P (dC, dI) vwCl [(h3, .inr (2, [.ref k3, .ref t3, .int (nI n), .ref k4, .ref t4])), (k3, .inl (cC, 500, .inl K3)), (t3, .inl (cD, 500, .inl T3)), (k4, .inl (cE, 500, .inl NK)), (t4, .inl (cF, 500, .inl NT)), (h, .inr (1, [.ref r, .int p1, .int p2, .int p3])), (r, .inr (0, [.ref k, .ref t, .int (nI n1), .int e1, .int w1])), (k, .inl (cA, 500, .inl K1)), (t, .inl (cB, 500, .inl T1))] H := hP
          have hD : va_D (fun q : Nat => s.heap.size ≤ q) [(h3, .inr (2, [.ref k3, .ref t3, .int (nI n), .ref k4, .ref t4])), (k3, .inl (cC, 500, .inl K3)), (t3, .inl (cD, 500, .inl T3)), (k4, .inl (cE, 500, .inl NK)), (t4, .inl (cF, 500, .inl NT)), (h, .inr (1, [.ref r, .int p1, .int p2, .int p3])), (r, .inr (0, [.ref k, .ref t, .int (nI n1), .int e1, .int w1])), (k, .inl (cA, 500, .inl K1)), (t, .inl (cB, 500, .inl T1))] := hD
          refine lv_aload_n hx hb dL_law_257 rfl (lv_at hl 2 rfl) ?_
          refine lv_aload_n hx hb dL_law_258 rfl (lv_at hl 0 rfl) ?_
          refine lv_iload_n hx hb dL_law_259 rfl (lv_at hl 3 rfl) ?_
          refine lv_iconst (v := (nI 1)) hx hb dL_law_260 (by decide) ?_
          refine lv_iadd hx hb dL_law_261 ?_
          refine lz_top (y := (nI (i + 1))) (nI_add _ _) ?_
          refine lz_sld hx hb hX hbl hbA hS (i := i + 1) (by omega) hL dL_law_262 ?_
          refine lv_aload_n hx hb dL_law_263 rfl (lv_at hl 0 rfl) ?_
          refine lv_iload_n hx hb dL_law_264 rfl (lv_at hl 3 rfl) ?_
          refine lv_iconst (v := (nI 2)) hx hb dL_law_265 (by decide) ?_
          refine lv_iadd hx hb dL_law_266 ?_
          refine lz_top (y := (nI (i + 2))) (nI_add _ _) ?_
          refine lz_sld hx hb hX hbl hbA hS (i := i + 2) (by omega) hL dL_law_267 ?_
          refine lv_aload_n hx hb dL_law_268 rfl (lv_at hl 0 rfl) ?_
          refine lv_iload_n hx hb dL_law_269 rfl (lv_at hl 3 rfl) ?_
          refine lv_iconst (v := (nI 3)) hx hb dL_law_270 (by decide) ?_
          refine lv_iadd hx hb dL_law_271 ?_
          refine lz_top (y := (nI (i + 3))) (nI_add _ _) ?_
          refine lz_sld hx hb hX hbl hbA hS (i := i + 3) (by omega) hL dL_law_272 ?_
          have hPc := hP.sub (ws' := [(h3, .inr (2, [.ref k3, .ref t3, .int (nI n), .ref k4, .ref t4])), (k3, .inl (cC, 500, .inl K3)), (t3, .inl (cD, 500, .inl T3)), (k4, .inl (cE, 500, .inl NK)), (t4, .inl (cF, 500, .inl NT))]) [0, 1, 2, 3, 4] rfl
          have hDc := hD.sub (ws' := [(h3, .inr (2, [.ref k3, .ref t3, .int (nI n), .ref k4, .ref t4])), (k3, .inl (cC, 500, .inl K3)), (t3, .inl (cD, 500, .inl T3)), (k4, .inl (cE, 500, .inl NK)), (t4, .inl (cF, 500, .inl NT))]) [0, 1, 2, 3, 4] (by decide) rfl
          have hKc := hK.sub (tys' := [(cC, .int), (cD, .int), (cE, .int), (cF, .int)]) [2, 3, 4, 5] rfl
          have hFc := va_free (wc := [(h3, .inr (2, [.ref k3, .ref t3, .int (nI n), .ref k4, .ref t4])), (k3, .inl (cC, 500, .inl K3)), (t3, .inl (cD, 500, .inl T3)), (k4, .inl (cE, 500, .inl NK)), (t4, .inl (cF, 500, .inl NT))]) hD hS hA [0, 1, 2, 3, 4] rfl
          refine va_calli (va_runV (As := [.int (xs (i + 1)), .int (xs (i + 2)), .int (xs (i + 3))]) (rest := [.int r_11]) ⟨hx, hb, hml, hown, hts⟩ (c_X3_sortPart l dC dI H.size h3 k3 t3 k4 t4 cC cD cE cF n K3 T3 NK NT hn (xs (i + 1)) (xs (i + 2)) (xs (i + 3))) (cwV 3 hts gL_law_X3_sortPart rfl rfl rfl (by decide +kernel) ⟨Nat.le_of_ble_eq_true rfl, Nat.le_of_ble_eq_true rfl⟩) ⟨fun a U g mk q => by obtain ⟨q0, q1, qP, qK, qD⟩ := q; exact ⟨q0, q1, qP, va_K.moved (u := U) (U := U.calling g mk a) (Vm.Alike.refl U.vm) qK, qD⟩, va_recv hKc hPc (ci := 2) (q0 := 0) rfl rfl, fun U hU hW => ⟨rfl, by rw [hU], by rw [hU]; exact hPc, va_K.moved hW.alike hKc, hDc.weaken (fun _ _ _ _ => trivial)⟩⟩ rfl rfl hl.1 rfl (lv_room (Nat.le_of_ble_eq_true rfl)) dL_law_273 ⟨Nat.le_of_ble_eq_true rfl, Nat.le_of_ble_eq_true rfl⟩) hS (fun q _ h => hFc q h) hFc (fun r_12 u tS H1 locs ht hvm hw hB hz1 hk1 hS => ?_)
          obtain ⟨K2, T2, n2, NK2, NT2⟩ := u
          obtain ⟨hP1, hK1, hD1⟩ := hB
          have hq2 := hw
          dsimp only at hq2
          rw [ht] at hP1
          obtain ⟨hP, hD⟩ := va_join (wr := [(h, .inr (1, [.ref r, .int p1, .int p2, .int p3])), (r, .inr (0, [.ref k, .ref t, .int (nI n1), .int e1, .int w1])), (k, .inl (cA, 500, .inl K1)), (t, .inl (cB, 500, .inl T1))]) (w1 := [(h3, .inr (2, [.ref k3, .ref t3, .int (nI n2), .ref k4, .ref t4])), (k3, .inl (cC, 500, .inl K2)), (t3, .inl (cD, 500, .inl T2)), (k4, .inl (cE, 500, .inl NK2)), (t4, .inl (cF, 500, .inl NT2))]) hP hD [0, 1, 2, 3, 4] [5, 6, 7, 8] rfl rfl (by decide) (by decide) hk1 hFc hP1 hD1
          generalize H1 = H at hP hS ⊢
          have hP : va_P (dC, dI) vwCl [(h, .inr (1, [.ref r, .int p1, .int p2, .int p3])), (r, .inr (0, [.ref k, .ref t, .int (nI n1), .int e1, .int w1])), (k, .inl (cA, 500, .inl K1)), (t, .inl (cB, 500, .inl T1)), (h3, .inr (2, [.ref k3, .ref t3, .int (nI n2), .ref k4, .ref t4])), (k3, .inl (cC, 500, .inl K2)), (t3, .inl (cD, 500, .inl T2)), (k4, .inl (cE, 500, .inl NK2)), (t4, .inl (cF, 500, .inl NT2))] H := hP
          have hD : va_D (fun q : Nat => s.heap.size ≤ q) [(h, .inr (1, [.ref r, .int p1, .int p2, .int p3])), (r, .inr (0, [.ref k, .ref t, .int (nI n1), .int e1, .int w1])), (k, .inl (cA, 500, .inl K1)), (t, .inl (cB, 500, .inl T1)), (h3, .inr (2, [.ref k3, .ref t3, .int (nI n2), .ref k4, .ref t4])), (k3, .inl (cC, 500, .inl K2)), (t3, .inl (cD, 500, .inl T2)), (k4, .inl (cE, 500, .inl NK2)), (t4, .inl (cF, 500, .inl NT2))] := hD
          obtain ⟨hrr, hn12, hag⟩ := A_so hn heq hq1 hq2
          subst hn12
          refine lv_icmp_eq (tgt := 687) hx hb dL_law_276 (by decide) (fun c276 => ?_) (fun c276 => ?_)
          · refine lv_iinc (v := (nI (i + 5))) (lv' := [(3, .int (nI (i + 5))), (0, .ref b), (1, .ref h), (2, .ref h3)]) hx hb dL_law_687 hl (k := 3) rfl (by first | exact nI_add i 5 | (rw [← nI_add]; rfl)) (by decide) rfl (fun ls hl => ?_)
            refine lv_goto (tgt := 18) hx hb dL_law_690 (by decide) ?_
            exact ihz ((i + 5), K1, T1, n1, e1, w1, p1, p2, p3, K2, T2, NK2, NT2) (by show L - (i + 5) < L - i; omega) _ _ _ ⟨by omega, hn1, hck1, hag, hP, hD, hS, lv_sub hl [1, 2, 3, 0] rfl⟩
          · exact absurd hrr c276
        · refine lv_tableIn (tgt := 281) (off := 249) hx hb dL_law_32 (by decide) (by decide) (by decide) (by decide) ?_
          refine lv_aload_n hx hb dL_law_281 rfl (lv_at hl 1 rfl) ?_
          refine lv_aload_n hx hb dL_law_282 rfl (lv_at hl 0 rfl) ?_
          refine lv_iload_n hx hb dL_law_283 rfl (lv_at hl 3 rfl) ?_
          refine lv_iconst (v := (nI 1)) hx hb dL_law_284 (by decide) ?_
          refine lv_iadd hx hb dL_law_285 ?_
          refine lz_top (y := (nI (i + 1))) (nI_add _ _) ?_
          refine lz_sld hx hb hX hbl hbA hS (i := i + 1) (by omega) hL dL_law_286 ?_
          refine lv_aload_n hx hb dL_law_287 rfl (lv_at hl 0 rfl) ?_
          refine lv_iload_n hx hb dL_law_288 rfl (lv_at hl 3 rfl) ?_
          refine lv_iconst (v := (nI 2)) hx hb dL_law_289 (by decide) ?_
          refine lv_iadd hx hb dL_law_290 ?_
          refine lz_top (y := (nI (i + 2))) (nI_add _ _) ?_
          refine lz_sld hx hb hX hbl hbA hS (i := i + 2) (by omega) hL dL_law_291 ?_
          refine lv_aload_n hx hb dL_law_292 rfl (lv_at hl 0 rfl) ?_
          refine lv_iload_n hx hb dL_law_293 rfl (lv_at hl 3 rfl) ?_
          refine lv_iconst (v := (nI 3)) hx hb dL_law_294 (by decide) ?_
          refine lv_iadd hx hb dL_law_295 ?_
          refine lz_top (y := (nI (i + 3))) (nI_add _ _) ?_
          refine lz_sld hx hb hX hbl hbA hS (i := i + 3) (by omega) hL dL_law_296 ?_
          refine lv_aload_n hx hb dL_law_297 rfl (lv_at hl 0 rfl) ?_
          refine lv_iload_n hx hb dL_law_298 rfl (lv_at hl 3 rfl) ?_
          refine lv_iconst (v := (nI 4)) hx hb dL_law_299 (by decide) ?_
          refine lv_iadd hx hb dL_law_300 ?_
          refine lz_top (y := (nI (i + 4))) (nI_add _ _) ?_
          refine lz_sld hx hb hX hbl hbA hS (i := i + 4) (by omega) hL dL_law_301 ?_
          have hPc := hP.sub (ws' := [(h, .inr (1, [.ref r, .int lp, .int lc, .int lw])), (r, .inr (0, [.ref k, .ref t, .int (nI n), .int cm, .int wr])), (k, .inl (cA, 500, .inl K)), (t, .inl (cB, 500, .inl T))]) [0, 1, 2, 3] rfl
          have hDc := hD.sub (ws' := [(h, .inr (1, [.ref r, .int lp, .int lc, .int lw])), (r, .inr (0, [.ref k, .ref t, .int (nI n), .int cm, .int wr])), (k, .inl (cA, 500, .inl K)), (t, .inl (cB, 500, .inl T))]) [0, 1, 2, 3] (by decide) rfl
          have hKc := hK.sub (tys' := [(cA, .int), (cB, .int)]) [0, 1] rfl
          have hFc := va_free (wc := [(h, .inr (1, [.ref r, .int lp, .int lc, .int lw])), (r, .inr (0, [.ref k, .ref t, .int (nI n), .int cm, .int wr])), (k, .inl (cA, 500, .inl K)), (t, .inl (cB, 500, .inl T))]) hD hS hA [0, 1, 2, 3] rfl
          refine va_calli (va_runV (As := [.int (xs (i + 1)), .int (xs (i + 2)), .int (xs (i + 3)), .int (xs (i + 4))]) (rest := []) ⟨hx, hb, hml, hown, hts⟩ (c_X2_merge l dC dI H.size h r k t cA cB n cm wr lp lc lw K T hn hck (xs (i + 1)) (xs (i + 2)) (xs (i + 3)) (xs (i + 4))) (cwV 4 hts gL_law_X2_merge rfl rfl rfl (by decide +kernel) ⟨Nat.le_of_ble_eq_true rfl, Nat.le_of_ble_eq_true rfl⟩) ⟨fun a U g mk q => by obtain ⟨q0, q1, qP, qK, qD, q0n⟩ := q; exact ⟨q0, q1, qP, va_K.moved (u := U) (U := U.calling g mk a) (Vm.Alike.refl U.vm) qK, qD, va_Nw.same rfl rfl q0n⟩, va_recv hKc hPc (ci := 1) (q0 := 0) rfl rfl, fun U hU hW => ⟨rfl, by rw [hU], by rw [hU]; exact hPc, va_K.moved hW.alike hKc, hDc.weaken (fun _ _ _ _ => trivial), va_Nw.warmM hW hN59⟩⟩ rfl rfl hl.1 rfl (lv_room (Nat.le_of_ble_eq_true rfl)) dL_law_302 ⟨Nat.le_of_ble_eq_true rfl, Nat.le_of_ble_eq_true rfl⟩) hS (fun q _ h => hFc q h) hFc (fun r_13 u tS H1 locs ht hvm hw hB hz1 hk1 hS => ?_)
          obtain ⟨K1, T1, n1, e1, w1, p1, p2, p3⟩ := u
          obtain ⟨hP1, hK1, hD1⟩ := hB
          obtain ⟨hq1, hok⟩ := hw
          dsimp only at hq1
          obtain ⟨hn1, hck1⟩ := hok
          dsimp only at hn1 hck1
          rw [ht] at hP1
          obtain ⟨hP, hD⟩ := va_join (wr := [(h3, .inr (2, [.ref k3, .ref t3, .int (nI n), .ref k4, .ref t4])), (k3, .inl (cC, 500, .inl K3)), (t3, .inl (cD, 500, .inl T3)), (k4, .inl (cE, 500, .inl NK)), (t4, .inl (cF, 500, .inl NT))]) (w1 := [(h, .inr (1, [.ref r, .int p1, .int p2, .int p3])), (r, .inr (0, [.ref k, .ref t, .int (nI n1), .int e1, .int w1])), (k, .inl (cA, 500, .inl K1)), (t, .inl (cB, 500, .inl T1))]) hP hD [0, 1, 2, 3] [4, 5, 6, 7, 8] rfl rfl (by decide) (by decide) hk1 hFc hP1 hD1
          generalize H1 = H at hP hS ⊢
          have hP : va_P (dC, dI) vwCl [(h3, .inr (2, [.ref k3, .ref t3, .int (nI n), .ref k4, .ref t4])), (k3, .inl (cC, 500, .inl K3)), (t3, .inl (cD, 500, .inl T3)), (k4, .inl (cE, 500, .inl NK)), (t4, .inl (cF, 500, .inl NT)), (h, .inr (1, [.ref r, .int p1, .int p2, .int p3])), (r, .inr (0, [.ref k, .ref t, .int (nI n1), .int e1, .int w1])), (k, .inl (cA, 500, .inl K1)), (t, .inl (cB, 500, .inl T1))] H := hP
          have hD : va_D (fun q : Nat => s.heap.size ≤ q) [(h3, .inr (2, [.ref k3, .ref t3, .int (nI n), .ref k4, .ref t4])), (k3, .inl (cC, 500, .inl K3)), (t3, .inl (cD, 500, .inl T3)), (k4, .inl (cE, 500, .inl NK)), (t4, .inl (cF, 500, .inl NT)), (h, .inr (1, [.ref r, .int p1, .int p2, .int p3])), (r, .inr (0, [.ref k, .ref t, .int (nI n1), .int e1, .int w1])), (k, .inl (cA, 500, .inl K1)), (t, .inl (cB, 500, .inl T1))] := hD
          refine lv_aload_n hx hb dL_law_305 rfl (lv_at hl 2 rfl) ?_
          refine lv_aload_n hx hb dL_law_306 rfl (lv_at hl 0 rfl) ?_
          refine lv_iload_n hx hb dL_law_307 rfl (lv_at hl 3 rfl) ?_
          refine lv_iconst (v := (nI 1)) hx hb dL_law_308 (by decide) ?_
          refine lv_iadd hx hb dL_law_309 ?_
          refine lz_top (y := (nI (i + 1))) (nI_add _ _) ?_
          refine lz_sld hx hb hX hbl hbA hS (i := i + 1) (by omega) hL dL_law_310 ?_
          refine lv_aload_n hx hb dL_law_311 rfl (lv_at hl 0 rfl) ?_
          refine lv_iload_n hx hb dL_law_312 rfl (lv_at hl 3 rfl) ?_
          refine lv_iconst (v := (nI 2)) hx hb dL_law_313 (by decide) ?_
          refine lv_iadd hx hb dL_law_314 ?_
          refine lz_top (y := (nI (i + 2))) (nI_add _ _) ?_
          refine lz_sld hx hb hX hbl hbA hS (i := i + 2) (by omega) hL dL_law_315 ?_
          refine lv_aload_n hx hb dL_law_316 rfl (lv_at hl 0 rfl) ?_
          refine lv_iload_n hx hb dL_law_317 rfl (lv_at hl 3 rfl) ?_
          refine lv_iconst (v := (nI 3)) hx hb dL_law_318 (by decide) ?_
          refine lv_iadd hx hb dL_law_319 ?_
          refine lz_top (y := (nI (i + 3))) (nI_add _ _) ?_
          refine lz_sld hx hb hX hbl hbA hS (i := i + 3) (by omega) hL dL_law_320 ?_
          refine lv_aload_n hx hb dL_law_321 rfl (lv_at hl 0 rfl) ?_
          refine lv_iload_n hx hb dL_law_322 rfl (lv_at hl 3 rfl) ?_
          refine lv_iconst (v := (nI 4)) hx hb dL_law_323 (by decide) ?_
          refine lv_iadd hx hb dL_law_324 ?_
          refine lz_top (y := (nI (i + 4))) (nI_add _ _) ?_
          refine lz_sld hx hb hX hbl hbA hS (i := i + 4) (by omega) hL dL_law_325 ?_
          have hPc := hP.sub (ws' := [(h3, .inr (2, [.ref k3, .ref t3, .int (nI n), .ref k4, .ref t4])), (k3, .inl (cC, 500, .inl K3)), (t3, .inl (cD, 500, .inl T3)), (k4, .inl (cE, 500, .inl NK)), (t4, .inl (cF, 500, .inl NT))]) [0, 1, 2, 3, 4] rfl
          have hDc := hD.sub (ws' := [(h3, .inr (2, [.ref k3, .ref t3, .int (nI n), .ref k4, .ref t4])), (k3, .inl (cC, 500, .inl K3)), (t3, .inl (cD, 500, .inl T3)), (k4, .inl (cE, 500, .inl NK)), (t4, .inl (cF, 500, .inl NT))]) [0, 1, 2, 3, 4] (by decide) rfl
          have hKc := hK.sub (tys' := [(cC, .int), (cD, .int), (cE, .int), (cF, .int)]) [2, 3, 4, 5] rfl
          have hFc := va_free (wc := [(h3, .inr (2, [.ref k3, .ref t3, .int (nI n), .ref k4, .ref t4])), (k3, .inl (cC, 500, .inl K3)), (t3, .inl (cD, 500, .inl T3)), (k4, .inl (cE, 500, .inl NK)), (t4, .inl (cF, 500, .inl NT))]) hD hS hA [0, 1, 2, 3, 4] rfl
          refine va_calli (va_runV (As := [.int (xs (i + 1)), .int (xs (i + 2)), .int (xs (i + 3)), .int (xs (i + 4))]) (rest := [.int r_13]) ⟨hx, hb, hml, hown, hts⟩ (c_X3_merge l dC dI H.size h3 k3 t3 k4 t4 cC cD cE cF n K3 T3 NK NT hn (xs (i + 1)) (xs (i + 2)) (xs (i + 3)) (xs (i + 4))) (cwV 4 hts gL_law_X3_merge rfl rfl rfl (by decide +kernel) ⟨Nat.le_of_ble_eq_true rfl, Nat.le_of_ble_eq_true rfl⟩) ⟨fun a U g mk q => by obtain ⟨q0, q1, qP, qK, qD⟩ := q; exact ⟨q0, q1, qP, va_K.moved (u := U) (U := U.calling g mk a) (Vm.Alike.refl U.vm) qK, qD⟩, va_recv hKc hPc (ci := 2) (q0 := 0) rfl rfl, fun U hU hW => ⟨rfl, by rw [hU], by rw [hU]; exact hPc, va_K.moved hW.alike hKc, hDc.weaken (fun _ _ _ _ => trivial)⟩⟩ rfl rfl hl.1 rfl (lv_room (Nat.le_of_ble_eq_true rfl)) dL_law_326 ⟨Nat.le_of_ble_eq_true rfl, Nat.le_of_ble_eq_true rfl⟩) hS (fun q _ h => hFc q h) hFc (fun r_14 u tS H1 locs ht hvm hw hB hz1 hk1 hS => ?_)
          obtain ⟨K2, T2, n2, NK2, NT2⟩ := u
          obtain ⟨hP1, hK1, hD1⟩ := hB
          have hq2 := hw
          dsimp only at hq2
          rw [ht] at hP1
          obtain ⟨hP, hD⟩ := va_join (wr := [(h, .inr (1, [.ref r, .int p1, .int p2, .int p3])), (r, .inr (0, [.ref k, .ref t, .int (nI n1), .int e1, .int w1])), (k, .inl (cA, 500, .inl K1)), (t, .inl (cB, 500, .inl T1))]) (w1 := [(h3, .inr (2, [.ref k3, .ref t3, .int (nI n2), .ref k4, .ref t4])), (k3, .inl (cC, 500, .inl K2)), (t3, .inl (cD, 500, .inl T2)), (k4, .inl (cE, 500, .inl NK2)), (t4, .inl (cF, 500, .inl NT2))]) hP hD [0, 1, 2, 3, 4] [5, 6, 7, 8] rfl rfl (by decide) (by decide) hk1 hFc hP1 hD1
          generalize H1 = H at hP hS ⊢
          have hP : va_P (dC, dI) vwCl [(h, .inr (1, [.ref r, .int p1, .int p2, .int p3])), (r, .inr (0, [.ref k, .ref t, .int (nI n1), .int e1, .int w1])), (k, .inl (cA, 500, .inl K1)), (t, .inl (cB, 500, .inl T1)), (h3, .inr (2, [.ref k3, .ref t3, .int (nI n2), .ref k4, .ref t4])), (k3, .inl (cC, 500, .inl K2)), (t3, .inl (cD, 500, .inl T2)), (k4, .inl (cE, 500, .inl NK2)), (t4, .inl (cF, 500, .inl NT2))] H := hP
          have hD : va_D (fun q : Nat => s.heap.size ≤ q) [(h, .inr (1, [.ref r, .int p1, .int p2, .int p3])), (r, .inr (0, [.ref k, .ref t, .int (nI n1), .int e1, .int w1])), (k, .inl (cA, 500, .inl K1)), (t, .inl (cB, 500, .inl T1)), (h3, .inr (2, [.ref k3, .ref t3, .int (nI n2), .ref k4, .ref t4])), (k3, .inl (cC, 500, .inl K2)), (t3, .inl (cD, 500, .inl T2)), (k4, .inl (cE, 500, .inl NK2)), (t4, .inl (cF, 500, .inl NT2))] := hD
          obtain ⟨hrr, hn12, hag⟩ := A_me hn heq hq1 hq2
          subst hn12
          refine lv_icmp_eq (tgt := 687) hx hb dL_law_329 (by decide) (fun c329 => ?_) (fun c329 => ?_)
          · refine lv_iinc (v := (nI (i + 5))) (lv' := [(3, .int (nI (i + 5))), (0, .ref b), (1, .ref h), (2, .ref h3)]) hx hb dL_law_687 hl (k := 3) rfl (by first | exact nI_add i 5 | (rw [← nI_add]; rfl)) (by decide) rfl (fun ls hl => ?_)
            refine lv_goto (tgt := 18) hx hb dL_law_690 (by decide) ?_
            exact ihz ((i + 5), K1, T1, n1, e1, w1, p1, p2, p3, K2, T2, NK2, NT2) (by show L - (i + 5) < L - i; omega) _ _ _ ⟨by omega, hn1, hck1, hag, hP, hD, hS, lv_sub hl [1, 2, 3, 0] rfl⟩
          · exact absurd hrr c329
        · refine lv_tableIn (tgt := 334) (off := 302) hx hb dL_law_32 (by decide) (by decide) (by decide) (by decide) ?_
          refine lv_aload_n hx hb dL_law_334 rfl (lv_at hl 1 rfl) ?_
          refine lv_aload_n hx hb dL_law_335 rfl (lv_at hl 0 rfl) ?_
          refine lv_iload_n hx hb dL_law_336 rfl (lv_at hl 3 rfl) ?_
          refine lv_iconst (v := (nI 1)) hx hb dL_law_337 (by decide) ?_
          refine lv_iadd hx hb dL_law_338 ?_
          refine lz_top (y := (nI (i + 1))) (nI_add _ _) ?_
          refine lz_sld hx hb hX hbl hbA hS (i := i + 1) (by omega) hL dL_law_339 ?_
          refine lv_aload_n hx hb dL_law_340 rfl (lv_at hl 0 rfl) ?_
          refine lv_iload_n hx hb dL_law_341 rfl (lv_at hl 3 rfl) ?_
          refine lv_iconst (v := (nI 2)) hx hb dL_law_342 (by decide) ?_
          refine lv_iadd hx hb dL_law_343 ?_
          refine lz_top (y := (nI (i + 2))) (nI_add _ _) ?_
          refine lz_sld hx hb hX hbl hbA hS (i := i + 2) (by omega) hL dL_law_344 ?_
          refine lv_aload_n hx hb dL_law_345 rfl (lv_at hl 0 rfl) ?_
          refine lv_iload_n hx hb dL_law_346 rfl (lv_at hl 3 rfl) ?_
          refine lv_iconst (v := (nI 3)) hx hb dL_law_347 (by decide) ?_
          refine lv_iadd hx hb dL_law_348 ?_
          refine lz_top (y := (nI (i + 3))) (nI_add _ _) ?_
          refine lz_sld hx hb hX hbl hbA hS (i := i + 3) (by omega) hL dL_law_349 ?_
          have hPc := hP.sub (ws' := [(h, .inr (1, [.ref r, .int lp, .int lc, .int lw])), (r, .inr (0, [.ref k, .ref t, .int (nI n), .int cm, .int wr])), (k, .inl (cA, 500, .inl K)), (t, .inl (cB, 500, .inl T))]) [0, 1, 2, 3] rfl
          have hDc := hD.sub (ws' := [(h, .inr (1, [.ref r, .int lp, .int lc, .int lw])), (r, .inr (0, [.ref k, .ref t, .int (nI n), .int cm, .int wr])), (k, .inl (cA, 500, .inl K)), (t, .inl (cB, 500, .inl T))]) [0, 1, 2, 3] (by decide) rfl
          have hKc := hK.sub (tys' := [(cA, .int), (cB, .int)]) [0, 1] rfl
          have hFc := va_free (wc := [(h, .inr (1, [.ref r, .int lp, .int lc, .int lw])), (r, .inr (0, [.ref k, .ref t, .int (nI n), .int cm, .int wr])), (k, .inl (cA, 500, .inl K)), (t, .inl (cB, 500, .inl T))]) hD hS hA [0, 1, 2, 3] rfl
          refine va_calli (va_runV (As := [.int (xs (i + 1)), .int (xs (i + 2)), .int (xs (i + 3))]) (rest := []) ⟨hx, hb, hml, hown, hts⟩ (c_X2_rotate l dC dI H.size h r k t cA cB n cm wr lp lc lw K T hn hck (xs (i + 1)) (xs (i + 2)) (xs (i + 3))) (cwV 3 hts gL_law_X2_rotate rfl rfl rfl (by decide +kernel) ⟨Nat.le_of_ble_eq_true rfl, Nat.le_of_ble_eq_true rfl⟩) ⟨fun a U g mk q => by obtain ⟨q0, q1, qP, qK, qD⟩ := q; exact ⟨q0, q1, qP, va_K.moved (u := U) (U := U.calling g mk a) (Vm.Alike.refl U.vm) qK, qD⟩, va_recv hKc hPc (ci := 1) (q0 := 0) rfl rfl, fun U hU hW => ⟨rfl, by rw [hU], by rw [hU]; exact hPc, va_K.moved hW.alike hKc, hDc.weaken (fun _ _ _ _ => trivial)⟩⟩ rfl rfl hl.1 rfl (lv_room (Nat.le_of_ble_eq_true rfl)) dL_law_350 ⟨Nat.le_of_ble_eq_true rfl, Nat.le_of_ble_eq_true rfl⟩) hS (fun q _ h => hFc q h) hFc (fun r_15 u tS H1 locs ht hvm hw hB hz1 hk1 hS => ?_)
          obtain ⟨K1, T1, n1, e1, w1, p1, p2, p3⟩ := u
          obtain ⟨hP1, hK1, hD1⟩ := hB
          obtain ⟨hq1, hok⟩ := hw
          dsimp only at hq1
          obtain ⟨hn1, hck1⟩ := hok
          dsimp only at hn1 hck1
          rw [ht] at hP1
          obtain ⟨hP, hD⟩ := va_join (wr := [(h3, .inr (2, [.ref k3, .ref t3, .int (nI n), .ref k4, .ref t4])), (k3, .inl (cC, 500, .inl K3)), (t3, .inl (cD, 500, .inl T3)), (k4, .inl (cE, 500, .inl NK)), (t4, .inl (cF, 500, .inl NT))]) (w1 := [(h, .inr (1, [.ref r, .int p1, .int p2, .int p3])), (r, .inr (0, [.ref k, .ref t, .int (nI n1), .int e1, .int w1])), (k, .inl (cA, 500, .inl K1)), (t, .inl (cB, 500, .inl T1))]) hP hD [0, 1, 2, 3] [4, 5, 6, 7, 8] rfl rfl (by decide) (by decide) hk1 hFc hP1 hD1
          generalize H1 = H at hP hS ⊢
          have hP : va_P (dC, dI) vwCl [(h3, .inr (2, [.ref k3, .ref t3, .int (nI n), .ref k4, .ref t4])), (k3, .inl (cC, 500, .inl K3)), (t3, .inl (cD, 500, .inl T3)), (k4, .inl (cE, 500, .inl NK)), (t4, .inl (cF, 500, .inl NT)), (h, .inr (1, [.ref r, .int p1, .int p2, .int p3])), (r, .inr (0, [.ref k, .ref t, .int (nI n1), .int e1, .int w1])), (k, .inl (cA, 500, .inl K1)), (t, .inl (cB, 500, .inl T1))] H := hP
          have hD : va_D (fun q : Nat => s.heap.size ≤ q) [(h3, .inr (2, [.ref k3, .ref t3, .int (nI n), .ref k4, .ref t4])), (k3, .inl (cC, 500, .inl K3)), (t3, .inl (cD, 500, .inl T3)), (k4, .inl (cE, 500, .inl NK)), (t4, .inl (cF, 500, .inl NT)), (h, .inr (1, [.ref r, .int p1, .int p2, .int p3])), (r, .inr (0, [.ref k, .ref t, .int (nI n1), .int e1, .int w1])), (k, .inl (cA, 500, .inl K1)), (t, .inl (cB, 500, .inl T1))] := hD
          refine lv_aload_n hx hb dL_law_353 rfl (lv_at hl 2 rfl) ?_
          refine lv_aload_n hx hb dL_law_354 rfl (lv_at hl 0 rfl) ?_
          refine lv_iload_n hx hb dL_law_355 rfl (lv_at hl 3 rfl) ?_
          refine lv_iconst (v := (nI 1)) hx hb dL_law_356 (by decide) ?_
          refine lv_iadd hx hb dL_law_357 ?_
          refine lz_top (y := (nI (i + 1))) (nI_add _ _) ?_
          refine lz_sld hx hb hX hbl hbA hS (i := i + 1) (by omega) hL dL_law_358 ?_
          refine lv_aload_n hx hb dL_law_359 rfl (lv_at hl 0 rfl) ?_
          refine lv_iload_n hx hb dL_law_360 rfl (lv_at hl 3 rfl) ?_
          refine lv_iconst (v := (nI 2)) hx hb dL_law_361 (by decide) ?_
          refine lv_iadd hx hb dL_law_362 ?_
          refine lz_top (y := (nI (i + 2))) (nI_add _ _) ?_
          refine lz_sld hx hb hX hbl hbA hS (i := i + 2) (by omega) hL dL_law_363 ?_
          refine lv_aload_n hx hb dL_law_364 rfl (lv_at hl 0 rfl) ?_
          refine lv_iload_n hx hb dL_law_365 rfl (lv_at hl 3 rfl) ?_
          refine lv_iconst (v := (nI 3)) hx hb dL_law_366 (by decide) ?_
          refine lv_iadd hx hb dL_law_367 ?_
          refine lz_top (y := (nI (i + 3))) (nI_add _ _) ?_
          refine lz_sld hx hb hX hbl hbA hS (i := i + 3) (by omega) hL dL_law_368 ?_
          have hPc := hP.sub (ws' := [(h3, .inr (2, [.ref k3, .ref t3, .int (nI n), .ref k4, .ref t4])), (k3, .inl (cC, 500, .inl K3)), (t3, .inl (cD, 500, .inl T3)), (k4, .inl (cE, 500, .inl NK)), (t4, .inl (cF, 500, .inl NT))]) [0, 1, 2, 3, 4] rfl
          have hDc := hD.sub (ws' := [(h3, .inr (2, [.ref k3, .ref t3, .int (nI n), .ref k4, .ref t4])), (k3, .inl (cC, 500, .inl K3)), (t3, .inl (cD, 500, .inl T3)), (k4, .inl (cE, 500, .inl NK)), (t4, .inl (cF, 500, .inl NT))]) [0, 1, 2, 3, 4] (by decide) rfl
          have hKc := hK.sub (tys' := [(cC, .int), (cD, .int), (cE, .int), (cF, .int)]) [2, 3, 4, 5] rfl
          have hFc := va_free (wc := [(h3, .inr (2, [.ref k3, .ref t3, .int (nI n), .ref k4, .ref t4])), (k3, .inl (cC, 500, .inl K3)), (t3, .inl (cD, 500, .inl T3)), (k4, .inl (cE, 500, .inl NK)), (t4, .inl (cF, 500, .inl NT))]) hD hS hA [0, 1, 2, 3, 4] rfl
          refine va_calli (va_runV (As := [.int (xs (i + 1)), .int (xs (i + 2)), .int (xs (i + 3))]) (rest := [.int r_15]) ⟨hx, hb, hml, hown, hts⟩ (c_X3_rotate l dC dI H.size h3 k3 t3 k4 t4 cC cD cE cF n K3 T3 NK NT hn (xs (i + 1)) (xs (i + 2)) (xs (i + 3))) (cwV 3 hts gL_law_X3_rotate rfl rfl rfl (by decide +kernel) ⟨Nat.le_of_ble_eq_true rfl, Nat.le_of_ble_eq_true rfl⟩) ⟨fun a U g mk q => by obtain ⟨q0, q1, qP, qK, qD⟩ := q; exact ⟨q0, q1, qP, va_K.moved (u := U) (U := U.calling g mk a) (Vm.Alike.refl U.vm) qK, qD⟩, va_recv hKc hPc (ci := 2) (q0 := 0) rfl rfl, fun U hU hW => ⟨rfl, by rw [hU], by rw [hU]; exact hPc, va_K.moved hW.alike hKc, hDc.weaken (fun _ _ _ _ => trivial)⟩⟩ rfl rfl hl.1 rfl (lv_room (Nat.le_of_ble_eq_true rfl)) dL_law_369 ⟨Nat.le_of_ble_eq_true rfl, Nat.le_of_ble_eq_true rfl⟩) hS (fun q _ h => hFc q h) hFc (fun r_16 u tS H1 locs ht hvm hw hB hz1 hk1 hS => ?_)
          obtain ⟨K2, T2, n2, NK2, NT2⟩ := u
          obtain ⟨hP1, hK1, hD1⟩ := hB
          have hq2 := hw
          dsimp only at hq2
          rw [ht] at hP1
          obtain ⟨hP, hD⟩ := va_join (wr := [(h, .inr (1, [.ref r, .int p1, .int p2, .int p3])), (r, .inr (0, [.ref k, .ref t, .int (nI n1), .int e1, .int w1])), (k, .inl (cA, 500, .inl K1)), (t, .inl (cB, 500, .inl T1))]) (w1 := [(h3, .inr (2, [.ref k3, .ref t3, .int (nI n2), .ref k4, .ref t4])), (k3, .inl (cC, 500, .inl K2)), (t3, .inl (cD, 500, .inl T2)), (k4, .inl (cE, 500, .inl NK2)), (t4, .inl (cF, 500, .inl NT2))]) hP hD [0, 1, 2, 3, 4] [5, 6, 7, 8] rfl rfl (by decide) (by decide) hk1 hFc hP1 hD1
          generalize H1 = H at hP hS ⊢
          have hP : va_P (dC, dI) vwCl [(h, .inr (1, [.ref r, .int p1, .int p2, .int p3])), (r, .inr (0, [.ref k, .ref t, .int (nI n1), .int e1, .int w1])), (k, .inl (cA, 500, .inl K1)), (t, .inl (cB, 500, .inl T1)), (h3, .inr (2, [.ref k3, .ref t3, .int (nI n2), .ref k4, .ref t4])), (k3, .inl (cC, 500, .inl K2)), (t3, .inl (cD, 500, .inl T2)), (k4, .inl (cE, 500, .inl NK2)), (t4, .inl (cF, 500, .inl NT2))] H := hP
          have hD : va_D (fun q : Nat => s.heap.size ≤ q) [(h, .inr (1, [.ref r, .int p1, .int p2, .int p3])), (r, .inr (0, [.ref k, .ref t, .int (nI n1), .int e1, .int w1])), (k, .inl (cA, 500, .inl K1)), (t, .inl (cB, 500, .inl T1)), (h3, .inr (2, [.ref k3, .ref t3, .int (nI n2), .ref k4, .ref t4])), (k3, .inl (cC, 500, .inl K2)), (t3, .inl (cD, 500, .inl T2)), (k4, .inl (cE, 500, .inl NK2)), (t4, .inl (cF, 500, .inl NT2))] := hD
          obtain ⟨hrr, hn12, hag⟩ := A_rot hn heq hq1 hq2
          subst hn12
          refine lv_icmp_eq (tgt := 687) hx hb dL_law_372 (by decide) (fun c372 => ?_) (fun c372 => ?_)
          · refine lv_iinc (v := (nI (i + 5))) (lv' := [(3, .int (nI (i + 5))), (0, .ref b), (1, .ref h), (2, .ref h3)]) hx hb dL_law_687 hl (k := 3) rfl (by first | exact nI_add i 5 | (rw [← nI_add]; rfl)) (by decide) rfl (fun ls hl => ?_)
            refine lv_goto (tgt := 18) hx hb dL_law_690 (by decide) ?_
            exact ihz ((i + 5), K1, T1, n1, e1, w1, p1, p2, p3, K2, T2, NK2, NT2) (by show L - (i + 5) < L - i; omega) _ _ _ ⟨by omega, hn1, hck1, hag, hP, hD, hS, lv_sub hl [1, 2, 3, 0] rfl⟩
          · exact absurd hrr c372
        · refine lv_tableIn (tgt := 377) (off := 345) hx hb dL_law_32 (by decide) (by decide) (by decide) (by decide) ?_
          refine lv_aload_n hx hb dL_law_377 rfl (lv_at hl 1 rfl) ?_
          refine lv_aload_n hx hb dL_law_378 rfl (lv_at hl 0 rfl) ?_
          refine lv_iload_n hx hb dL_law_379 rfl (lv_at hl 3 rfl) ?_
          refine lv_iconst (v := (nI 1)) hx hb dL_law_380 (by decide) ?_
          refine lv_iadd hx hb dL_law_381 ?_
          refine lz_top (y := (nI (i + 1))) (nI_add _ _) ?_
          refine lz_sld hx hb hX hbl hbA hS (i := i + 1) (by omega) hL dL_law_382 ?_
          refine lv_aload_n hx hb dL_law_383 rfl (lv_at hl 0 rfl) ?_
          refine lv_iload_n hx hb dL_law_384 rfl (lv_at hl 3 rfl) ?_
          refine lv_iconst (v := (nI 2)) hx hb dL_law_385 (by decide) ?_
          refine lv_iadd hx hb dL_law_386 ?_
          refine lz_top (y := (nI (i + 2))) (nI_add _ _) ?_
          refine lz_sld hx hb hX hbl hbA hS (i := i + 2) (by omega) hL dL_law_387 ?_
          have hPc := hP.sub (ws' := [(h, .inr (1, [.ref r, .int lp, .int lc, .int lw])), (r, .inr (0, [.ref k, .ref t, .int (nI n), .int cm, .int wr])), (k, .inl (cA, 500, .inl K)), (t, .inl (cB, 500, .inl T))]) [0, 1, 2, 3] rfl
          have hDc := hD.sub (ws' := [(h, .inr (1, [.ref r, .int lp, .int lc, .int lw])), (r, .inr (0, [.ref k, .ref t, .int (nI n), .int cm, .int wr])), (k, .inl (cA, 500, .inl K)), (t, .inl (cB, 500, .inl T))]) [0, 1, 2, 3] (by decide) rfl
          have hKc := hK.sub (tys' := [(cA, .int), (cB, .int)]) [0, 1] rfl
          have hFc := va_free (wc := [(h, .inr (1, [.ref r, .int lp, .int lc, .int lw])), (r, .inr (0, [.ref k, .ref t, .int (nI n), .int cm, .int wr])), (k, .inl (cA, 500, .inl K)), (t, .inl (cB, 500, .inl T))]) hD hS hA [0, 1, 2, 3] rfl
          refine va_calli (va_runV (As := [.int (xs (i + 1)), .int (xs (i + 2))]) (rest := []) ⟨hx, hb, hml, hown, hts⟩ (c_X2_turn l dC dI H.size h r k t cA cB n cm wr lp lc lw K T hn hck (xs (i + 1)) (xs (i + 2))) (cwV 2 hts gL_law_X2_turn rfl rfl rfl (by decide +kernel) ⟨Nat.le_of_ble_eq_true rfl, Nat.le_of_ble_eq_true rfl⟩) ⟨fun a U g mk q => by obtain ⟨q0, q1, qP, qK, qD⟩ := q; exact ⟨q0, q1, qP, va_K.moved (u := U) (U := U.calling g mk a) (Vm.Alike.refl U.vm) qK, qD⟩, va_recv hKc hPc (ci := 1) (q0 := 0) rfl rfl, fun U hU hW => ⟨rfl, by rw [hU], by rw [hU]; exact hPc, va_K.moved hW.alike hKc, hDc.weaken (fun _ _ _ _ => trivial)⟩⟩ rfl rfl hl.1 rfl (lv_room (Nat.le_of_ble_eq_true rfl)) dL_law_388 ⟨Nat.le_of_ble_eq_true rfl, Nat.le_of_ble_eq_true rfl⟩) hS (fun q _ h => hFc q h) hFc (fun r_17 u tS H1 locs ht hvm hw hB hz1 hk1 hS => ?_)
          obtain ⟨K1, T1, n1, e1, w1, p1, p2, p3⟩ := u
          obtain ⟨hP1, hK1, hD1⟩ := hB
          obtain ⟨hq1, hok⟩ := hw
          dsimp only at hq1
          obtain ⟨hn1, hck1⟩ := hok
          dsimp only at hn1 hck1
          rw [ht] at hP1
          obtain ⟨hP, hD⟩ := va_join (wr := [(h3, .inr (2, [.ref k3, .ref t3, .int (nI n), .ref k4, .ref t4])), (k3, .inl (cC, 500, .inl K3)), (t3, .inl (cD, 500, .inl T3)), (k4, .inl (cE, 500, .inl NK)), (t4, .inl (cF, 500, .inl NT))]) (w1 := [(h, .inr (1, [.ref r, .int p1, .int p2, .int p3])), (r, .inr (0, [.ref k, .ref t, .int (nI n1), .int e1, .int w1])), (k, .inl (cA, 500, .inl K1)), (t, .inl (cB, 500, .inl T1))]) hP hD [0, 1, 2, 3] [4, 5, 6, 7, 8] rfl rfl (by decide) (by decide) hk1 hFc hP1 hD1
          generalize H1 = H at hP hS ⊢
          have hP : va_P (dC, dI) vwCl [(h3, .inr (2, [.ref k3, .ref t3, .int (nI n), .ref k4, .ref t4])), (k3, .inl (cC, 500, .inl K3)), (t3, .inl (cD, 500, .inl T3)), (k4, .inl (cE, 500, .inl NK)), (t4, .inl (cF, 500, .inl NT)), (h, .inr (1, [.ref r, .int p1, .int p2, .int p3])), (r, .inr (0, [.ref k, .ref t, .int (nI n1), .int e1, .int w1])), (k, .inl (cA, 500, .inl K1)), (t, .inl (cB, 500, .inl T1))] H := hP
          have hD : va_D (fun q : Nat => s.heap.size ≤ q) [(h3, .inr (2, [.ref k3, .ref t3, .int (nI n), .ref k4, .ref t4])), (k3, .inl (cC, 500, .inl K3)), (t3, .inl (cD, 500, .inl T3)), (k4, .inl (cE, 500, .inl NK)), (t4, .inl (cF, 500, .inl NT)), (h, .inr (1, [.ref r, .int p1, .int p2, .int p3])), (r, .inr (0, [.ref k, .ref t, .int (nI n1), .int e1, .int w1])), (k, .inl (cA, 500, .inl K1)), (t, .inl (cB, 500, .inl T1))] := hD
          refine lv_aload_n hx hb dL_law_391 rfl (lv_at hl 2 rfl) ?_
          refine lv_aload_n hx hb dL_law_392 rfl (lv_at hl 0 rfl) ?_
          refine lv_iload_n hx hb dL_law_393 rfl (lv_at hl 3 rfl) ?_
          refine lv_iconst (v := (nI 1)) hx hb dL_law_394 (by decide) ?_
          refine lv_iadd hx hb dL_law_395 ?_
          refine lz_top (y := (nI (i + 1))) (nI_add _ _) ?_
          refine lz_sld hx hb hX hbl hbA hS (i := i + 1) (by omega) hL dL_law_396 ?_
          refine lv_aload_n hx hb dL_law_397 rfl (lv_at hl 0 rfl) ?_
          refine lv_iload_n hx hb dL_law_398 rfl (lv_at hl 3 rfl) ?_
          refine lv_iconst (v := (nI 2)) hx hb dL_law_399 (by decide) ?_
          refine lv_iadd hx hb dL_law_400 ?_
          refine lz_top (y := (nI (i + 2))) (nI_add _ _) ?_
          refine lz_sld hx hb hX hbl hbA hS (i := i + 2) (by omega) hL dL_law_401 ?_
          have hPc := hP.sub (ws' := [(h3, .inr (2, [.ref k3, .ref t3, .int (nI n), .ref k4, .ref t4])), (k3, .inl (cC, 500, .inl K3)), (t3, .inl (cD, 500, .inl T3)), (k4, .inl (cE, 500, .inl NK)), (t4, .inl (cF, 500, .inl NT))]) [0, 1, 2, 3, 4] rfl
          have hDc := hD.sub (ws' := [(h3, .inr (2, [.ref k3, .ref t3, .int (nI n), .ref k4, .ref t4])), (k3, .inl (cC, 500, .inl K3)), (t3, .inl (cD, 500, .inl T3)), (k4, .inl (cE, 500, .inl NK)), (t4, .inl (cF, 500, .inl NT))]) [0, 1, 2, 3, 4] (by decide) rfl
          have hKc := hK.sub (tys' := [(cC, .int), (cD, .int), (cE, .int), (cF, .int)]) [2, 3, 4, 5] rfl
          have hFc := va_free (wc := [(h3, .inr (2, [.ref k3, .ref t3, .int (nI n), .ref k4, .ref t4])), (k3, .inl (cC, 500, .inl K3)), (t3, .inl (cD, 500, .inl T3)), (k4, .inl (cE, 500, .inl NK)), (t4, .inl (cF, 500, .inl NT))]) hD hS hA [0, 1, 2, 3, 4] rfl
          refine va_calli (va_runV (As := [.int (xs (i + 1)), .int (xs (i + 2))]) (rest := [.int r_17]) ⟨hx, hb, hml, hown, hts⟩ (c_X3_turn l dC dI H.size h3 k3 t3 k4 t4 cC cD cE cF n K3 T3 NK NT hn (xs (i + 1)) (xs (i + 2))) (cwV 2 hts gL_law_X3_turn rfl rfl rfl (by decide +kernel) ⟨Nat.le_of_ble_eq_true rfl, Nat.le_of_ble_eq_true rfl⟩) ⟨fun a U g mk q => by obtain ⟨q0, q1, qP, qK, qD⟩ := q; exact ⟨q0, q1, qP, va_K.moved (u := U) (U := U.calling g mk a) (Vm.Alike.refl U.vm) qK, qD⟩, va_recv hKc hPc (ci := 2) (q0 := 0) rfl rfl, fun U hU hW => ⟨rfl, by rw [hU], by rw [hU]; exact hPc, va_K.moved hW.alike hKc, hDc.weaken (fun _ _ _ _ => trivial)⟩⟩ rfl rfl hl.1 rfl (lv_room (Nat.le_of_ble_eq_true rfl)) dL_law_402 ⟨Nat.le_of_ble_eq_true rfl, Nat.le_of_ble_eq_true rfl⟩) hS (fun q _ h => hFc q h) hFc (fun r_18 u tS H1 locs ht hvm hw hB hz1 hk1 hS => ?_)
          obtain ⟨K2, T2, n2, NK2, NT2⟩ := u
          obtain ⟨hP1, hK1, hD1⟩ := hB
          have hq2 := hw
          dsimp only at hq2
          rw [ht] at hP1
          obtain ⟨hP, hD⟩ := va_join (wr := [(h, .inr (1, [.ref r, .int p1, .int p2, .int p3])), (r, .inr (0, [.ref k, .ref t, .int (nI n1), .int e1, .int w1])), (k, .inl (cA, 500, .inl K1)), (t, .inl (cB, 500, .inl T1))]) (w1 := [(h3, .inr (2, [.ref k3, .ref t3, .int (nI n2), .ref k4, .ref t4])), (k3, .inl (cC, 500, .inl K2)), (t3, .inl (cD, 500, .inl T2)), (k4, .inl (cE, 500, .inl NK2)), (t4, .inl (cF, 500, .inl NT2))]) hP hD [0, 1, 2, 3, 4] [5, 6, 7, 8] rfl rfl (by decide) (by decide) hk1 hFc hP1 hD1
          generalize H1 = H at hP hS ⊢
          have hP : va_P (dC, dI) vwCl [(h, .inr (1, [.ref r, .int p1, .int p2, .int p3])), (r, .inr (0, [.ref k, .ref t, .int (nI n1), .int e1, .int w1])), (k, .inl (cA, 500, .inl K1)), (t, .inl (cB, 500, .inl T1)), (h3, .inr (2, [.ref k3, .ref t3, .int (nI n2), .ref k4, .ref t4])), (k3, .inl (cC, 500, .inl K2)), (t3, .inl (cD, 500, .inl T2)), (k4, .inl (cE, 500, .inl NK2)), (t4, .inl (cF, 500, .inl NT2))] H := hP
          have hD : va_D (fun q : Nat => s.heap.size ≤ q) [(h, .inr (1, [.ref r, .int p1, .int p2, .int p3])), (r, .inr (0, [.ref k, .ref t, .int (nI n1), .int e1, .int w1])), (k, .inl (cA, 500, .inl K1)), (t, .inl (cB, 500, .inl T1)), (h3, .inr (2, [.ref k3, .ref t3, .int (nI n2), .ref k4, .ref t4])), (k3, .inl (cC, 500, .inl K2)), (t3, .inl (cD, 500, .inl T2)), (k4, .inl (cE, 500, .inl NK2)), (t4, .inl (cF, 500, .inl NT2))] := hD
          obtain ⟨hrr, hn12, hag⟩ := A_tur hn heq hq1 hq2
          subst hn12
          refine lv_icmp_eq (tgt := 687) hx hb dL_law_405 (by decide) (fun c405 => ?_) (fun c405 => ?_)
          · refine lv_iinc (v := (nI (i + 5))) (lv' := [(3, .int (nI (i + 5))), (0, .ref b), (1, .ref h), (2, .ref h3)]) hx hb dL_law_687 hl (k := 3) rfl (by first | exact nI_add i 5 | (rw [← nI_add]; rfl)) (by decide) rfl (fun ls hl => ?_)
            refine lv_goto (tgt := 18) hx hb dL_law_690 (by decide) ?_
            exact ihz ((i + 5), K1, T1, n1, e1, w1, p1, p2, p3, K2, T2, NK2, NT2) (by show L - (i + 5) < L - i; omega) _ _ _ ⟨by omega, hn1, hck1, hag, hP, hD, hS, lv_sub hl [1, 2, 3, 0] rfl⟩
          · exact absurd hrr c405
        · refine lv_tableIn (tgt := 410) (off := 378) hx hb dL_law_32 (by decide) (by decide) (by decide) (by decide) ?_
          refine lv_aload_n hx hb dL_law_410 rfl (lv_at hl 1 rfl) ?_
          refine lv_aload_n hx hb dL_law_411 rfl (lv_at hl 0 rfl) ?_
          refine lv_iload_n hx hb dL_law_412 rfl (lv_at hl 3 rfl) ?_
          refine lv_iconst (v := (nI 1)) hx hb dL_law_413 (by decide) ?_
          refine lv_iadd hx hb dL_law_414 ?_
          refine lz_top (y := (nI (i + 1))) (nI_add _ _) ?_
          refine lz_sld hx hb hX hbl hbA hS (i := i + 1) (by omega) hL dL_law_415 ?_
          refine lv_aload_n hx hb dL_law_416 rfl (lv_at hl 0 rfl) ?_
          refine lv_iload_n hx hb dL_law_417 rfl (lv_at hl 3 rfl) ?_
          refine lv_iconst (v := (nI 2)) hx hb dL_law_418 (by decide) ?_
          refine lv_iadd hx hb dL_law_419 ?_
          refine lz_top (y := (nI (i + 2))) (nI_add _ _) ?_
          refine lz_sld hx hb hX hbl hbA hS (i := i + 2) (by omega) hL dL_law_420 ?_
          refine lv_aload_n hx hb dL_law_421 rfl (lv_at hl 0 rfl) ?_
          refine lv_iload_n hx hb dL_law_422 rfl (lv_at hl 3 rfl) ?_
          refine lv_iconst (v := (nI 3)) hx hb dL_law_423 (by decide) ?_
          refine lv_iadd hx hb dL_law_424 ?_
          refine lz_top (y := (nI (i + 3))) (nI_add _ _) ?_
          refine lz_sld hx hb hX hbl hbA hS (i := i + 3) (by omega) hL dL_law_425 ?_
          refine lv_aload_n hx hb dL_law_426 rfl (lv_at hl 0 rfl) ?_
          refine lv_iload_n hx hb dL_law_427 rfl (lv_at hl 3 rfl) ?_
          refine lv_iconst (v := (nI 4)) hx hb dL_law_428 (by decide) ?_
          refine lv_iadd hx hb dL_law_429 ?_
          refine lz_top (y := (nI (i + 4))) (nI_add _ _) ?_
          refine lz_sld hx hb hX hbl hbA hS (i := i + 4) (by omega) hL dL_law_430 ?_
          have hPc := hP.sub (ws' := [(h, .inr (1, [.ref r, .int lp, .int lc, .int lw])), (r, .inr (0, [.ref k, .ref t, .int (nI n), .int cm, .int wr])), (k, .inl (cA, 500, .inl K)), (t, .inl (cB, 500, .inl T))]) [0, 1, 2, 3] rfl
          have hDc := hD.sub (ws' := [(h, .inr (1, [.ref r, .int lp, .int lc, .int lw])), (r, .inr (0, [.ref k, .ref t, .int (nI n), .int cm, .int wr])), (k, .inl (cA, 500, .inl K)), (t, .inl (cB, 500, .inl T))]) [0, 1, 2, 3] (by decide) rfl
          have hKc := hK.sub (tys' := [(cA, .int), (cB, .int)]) [0, 1] rfl
          have hFc := va_free (wc := [(h, .inr (1, [.ref r, .int lp, .int lc, .int lw])), (r, .inr (0, [.ref k, .ref t, .int (nI n), .int cm, .int wr])), (k, .inl (cA, 500, .inl K)), (t, .inl (cB, 500, .inl T))]) hD hS hA [0, 1, 2, 3] rfl
          refine va_calli (va_runV (As := [.int (xs (i + 1)), .int (xs (i + 2)), .int (xs (i + 3)), .int (xs (i + 4))]) (rest := []) ⟨hx, hb, hml, hown, hts⟩ (c_X2_split l dC dI H.size h r k t cA cB n cm wr lp lc lw K T hn hck (xs (i + 1)) (xs (i + 2)) (xs (i + 3)) (xs (i + 4))) (cwV 4 hts gL_law_X2_split rfl rfl rfl (by decide +kernel) ⟨Nat.le_of_ble_eq_true rfl, Nat.le_of_ble_eq_true rfl⟩) ⟨fun a U g mk q => by obtain ⟨q0, q1, qP, qK, qD⟩ := q; exact ⟨q0, q1, qP, va_K.moved (u := U) (U := U.calling g mk a) (Vm.Alike.refl U.vm) qK, qD⟩, va_recv hKc hPc (ci := 1) (q0 := 0) rfl rfl, fun U hU hW => ⟨rfl, by rw [hU], by rw [hU]; exact hPc, va_K.moved hW.alike hKc, hDc.weaken (fun _ _ _ _ => trivial)⟩⟩ rfl rfl hl.1 rfl (lv_room (Nat.le_of_ble_eq_true rfl)) dL_law_431 ⟨Nat.le_of_ble_eq_true rfl, Nat.le_of_ble_eq_true rfl⟩) hS (fun q _ h => hFc q h) hFc (fun r_19 u tS H1 locs ht hvm hw hB hz1 hk1 hS => ?_)
          obtain ⟨K1, T1, n1, e1, w1, p1, p2, p3⟩ := u
          obtain ⟨hP1, hK1, hD1⟩ := hB
          obtain ⟨hq1, hok⟩ := hw
          dsimp only at hq1
          obtain ⟨hn1, hck1⟩ := hok
          dsimp only at hn1 hck1
          rw [ht] at hP1
          obtain ⟨hP, hD⟩ := va_join (wr := [(h3, .inr (2, [.ref k3, .ref t3, .int (nI n), .ref k4, .ref t4])), (k3, .inl (cC, 500, .inl K3)), (t3, .inl (cD, 500, .inl T3)), (k4, .inl (cE, 500, .inl NK)), (t4, .inl (cF, 500, .inl NT))]) (w1 := [(h, .inr (1, [.ref r, .int p1, .int p2, .int p3])), (r, .inr (0, [.ref k, .ref t, .int (nI n1), .int e1, .int w1])), (k, .inl (cA, 500, .inl K1)), (t, .inl (cB, 500, .inl T1))]) hP hD [0, 1, 2, 3] [4, 5, 6, 7, 8] rfl rfl (by decide) (by decide) hk1 hFc hP1 hD1
          generalize H1 = H at hP hS ⊢
          have hP : va_P (dC, dI) vwCl [(h3, .inr (2, [.ref k3, .ref t3, .int (nI n), .ref k4, .ref t4])), (k3, .inl (cC, 500, .inl K3)), (t3, .inl (cD, 500, .inl T3)), (k4, .inl (cE, 500, .inl NK)), (t4, .inl (cF, 500, .inl NT)), (h, .inr (1, [.ref r, .int p1, .int p2, .int p3])), (r, .inr (0, [.ref k, .ref t, .int (nI n1), .int e1, .int w1])), (k, .inl (cA, 500, .inl K1)), (t, .inl (cB, 500, .inl T1))] H := hP
          have hD : va_D (fun q : Nat => s.heap.size ≤ q) [(h3, .inr (2, [.ref k3, .ref t3, .int (nI n), .ref k4, .ref t4])), (k3, .inl (cC, 500, .inl K3)), (t3, .inl (cD, 500, .inl T3)), (k4, .inl (cE, 500, .inl NK)), (t4, .inl (cF, 500, .inl NT)), (h, .inr (1, [.ref r, .int p1, .int p2, .int p3])), (r, .inr (0, [.ref k, .ref t, .int (nI n1), .int e1, .int w1])), (k, .inl (cA, 500, .inl K1)), (t, .inl (cB, 500, .inl T1))] := hD
          refine lv_aload_n hx hb dL_law_434 rfl (lv_at hl 2 rfl) ?_
          refine lv_aload_n hx hb dL_law_435 rfl (lv_at hl 0 rfl) ?_
          refine lv_iload_n hx hb dL_law_436 rfl (lv_at hl 3 rfl) ?_
          refine lv_iconst (v := (nI 1)) hx hb dL_law_437 (by decide) ?_
          refine lv_iadd hx hb dL_law_438 ?_
          refine lz_top (y := (nI (i + 1))) (nI_add _ _) ?_
          refine lz_sld hx hb hX hbl hbA hS (i := i + 1) (by omega) hL dL_law_439 ?_
          refine lv_aload_n hx hb dL_law_440 rfl (lv_at hl 0 rfl) ?_
          refine lv_iload_n hx hb dL_law_441 rfl (lv_at hl 3 rfl) ?_
          refine lv_iconst (v := (nI 2)) hx hb dL_law_442 (by decide) ?_
          refine lv_iadd hx hb dL_law_443 ?_
          refine lz_top (y := (nI (i + 2))) (nI_add _ _) ?_
          refine lz_sld hx hb hX hbl hbA hS (i := i + 2) (by omega) hL dL_law_444 ?_
          refine lv_aload_n hx hb dL_law_445 rfl (lv_at hl 0 rfl) ?_
          refine lv_iload_n hx hb dL_law_446 rfl (lv_at hl 3 rfl) ?_
          refine lv_iconst (v := (nI 3)) hx hb dL_law_447 (by decide) ?_
          refine lv_iadd hx hb dL_law_448 ?_
          refine lz_top (y := (nI (i + 3))) (nI_add _ _) ?_
          refine lz_sld hx hb hX hbl hbA hS (i := i + 3) (by omega) hL dL_law_449 ?_
          refine lv_aload_n hx hb dL_law_450 rfl (lv_at hl 0 rfl) ?_
          refine lv_iload_n hx hb dL_law_451 rfl (lv_at hl 3 rfl) ?_
          refine lv_iconst (v := (nI 4)) hx hb dL_law_452 (by decide) ?_
          refine lv_iadd hx hb dL_law_453 ?_
          refine lz_top (y := (nI (i + 4))) (nI_add _ _) ?_
          refine lz_sld hx hb hX hbl hbA hS (i := i + 4) (by omega) hL dL_law_454 ?_
          have hPc := hP.sub (ws' := [(h3, .inr (2, [.ref k3, .ref t3, .int (nI n), .ref k4, .ref t4])), (k3, .inl (cC, 500, .inl K3)), (t3, .inl (cD, 500, .inl T3)), (k4, .inl (cE, 500, .inl NK)), (t4, .inl (cF, 500, .inl NT))]) [0, 1, 2, 3, 4] rfl
          have hDc := hD.sub (ws' := [(h3, .inr (2, [.ref k3, .ref t3, .int (nI n), .ref k4, .ref t4])), (k3, .inl (cC, 500, .inl K3)), (t3, .inl (cD, 500, .inl T3)), (k4, .inl (cE, 500, .inl NK)), (t4, .inl (cF, 500, .inl NT))]) [0, 1, 2, 3, 4] (by decide) rfl
          have hKc := hK.sub (tys' := [(cC, .int), (cD, .int), (cE, .int), (cF, .int)]) [2, 3, 4, 5] rfl
          have hFc := va_free (wc := [(h3, .inr (2, [.ref k3, .ref t3, .int (nI n), .ref k4, .ref t4])), (k3, .inl (cC, 500, .inl K3)), (t3, .inl (cD, 500, .inl T3)), (k4, .inl (cE, 500, .inl NK)), (t4, .inl (cF, 500, .inl NT))]) hD hS hA [0, 1, 2, 3, 4] rfl
          refine va_calli (va_runV (As := [.int (xs (i + 1)), .int (xs (i + 2)), .int (xs (i + 3)), .int (xs (i + 4))]) (rest := [.int r_19]) ⟨hx, hb, hml, hown, hts⟩ (c_X3_split l dC dI H.size h3 k3 t3 k4 t4 cC cD cE cF n K3 T3 NK NT hn (xs (i + 1)) (xs (i + 2)) (xs (i + 3)) (xs (i + 4))) (cwV 4 hts gL_law_X3_split rfl rfl rfl (by decide +kernel) ⟨Nat.le_of_ble_eq_true rfl, Nat.le_of_ble_eq_true rfl⟩) ⟨fun a U g mk q => by obtain ⟨q0, q1, qP, qK, qD⟩ := q; exact ⟨q0, q1, qP, va_K.moved (u := U) (U := U.calling g mk a) (Vm.Alike.refl U.vm) qK, qD⟩, va_recv hKc hPc (ci := 2) (q0 := 0) rfl rfl, fun U hU hW => ⟨rfl, by rw [hU], by rw [hU]; exact hPc, va_K.moved hW.alike hKc, hDc.weaken (fun _ _ _ _ => trivial)⟩⟩ rfl rfl hl.1 rfl (lv_room (Nat.le_of_ble_eq_true rfl)) dL_law_455 ⟨Nat.le_of_ble_eq_true rfl, Nat.le_of_ble_eq_true rfl⟩) hS (fun q _ h => hFc q h) hFc (fun r_20 u tS H1 locs ht hvm hw hB hz1 hk1 hS => ?_)
          obtain ⟨K2, T2, n2, NK2, NT2⟩ := u
          obtain ⟨hP1, hK1, hD1⟩ := hB
          have hq2 := hw
          dsimp only at hq2
          rw [ht] at hP1
          obtain ⟨hP, hD⟩ := va_join (wr := [(h, .inr (1, [.ref r, .int p1, .int p2, .int p3])), (r, .inr (0, [.ref k, .ref t, .int (nI n1), .int e1, .int w1])), (k, .inl (cA, 500, .inl K1)), (t, .inl (cB, 500, .inl T1))]) (w1 := [(h3, .inr (2, [.ref k3, .ref t3, .int (nI n2), .ref k4, .ref t4])), (k3, .inl (cC, 500, .inl K2)), (t3, .inl (cD, 500, .inl T2)), (k4, .inl (cE, 500, .inl NK2)), (t4, .inl (cF, 500, .inl NT2))]) hP hD [0, 1, 2, 3, 4] [5, 6, 7, 8] rfl rfl (by decide) (by decide) hk1 hFc hP1 hD1
          generalize H1 = H at hP hS ⊢
          have hP : va_P (dC, dI) vwCl [(h, .inr (1, [.ref r, .int p1, .int p2, .int p3])), (r, .inr (0, [.ref k, .ref t, .int (nI n1), .int e1, .int w1])), (k, .inl (cA, 500, .inl K1)), (t, .inl (cB, 500, .inl T1)), (h3, .inr (2, [.ref k3, .ref t3, .int (nI n2), .ref k4, .ref t4])), (k3, .inl (cC, 500, .inl K2)), (t3, .inl (cD, 500, .inl T2)), (k4, .inl (cE, 500, .inl NK2)), (t4, .inl (cF, 500, .inl NT2))] H := hP
          have hD : va_D (fun q : Nat => s.heap.size ≤ q) [(h, .inr (1, [.ref r, .int p1, .int p2, .int p3])), (r, .inr (0, [.ref k, .ref t, .int (nI n1), .int e1, .int w1])), (k, .inl (cA, 500, .inl K1)), (t, .inl (cB, 500, .inl T1)), (h3, .inr (2, [.ref k3, .ref t3, .int (nI n2), .ref k4, .ref t4])), (k3, .inl (cC, 500, .inl K2)), (t3, .inl (cD, 500, .inl T2)), (k4, .inl (cE, 500, .inl NK2)), (t4, .inl (cF, 500, .inl NT2))] := hD
          obtain ⟨hrr, hn12, hag⟩ := A_sp hn heq hq1 hq2
          subst hn12
          refine lv_icmp_eq (tgt := 687) hx hb dL_law_458 (by decide) (fun c458 => ?_) (fun c458 => ?_)
          · refine lv_iinc (v := (nI (i + 5))) (lv' := [(3, .int (nI (i + 5))), (0, .ref b), (1, .ref h), (2, .ref h3)]) hx hb dL_law_687 hl (k := 3) rfl (by first | exact nI_add i 5 | (rw [← nI_add]; rfl)) (by decide) rfl (fun ls hl => ?_)
            refine lv_goto (tgt := 18) hx hb dL_law_690 (by decide) ?_
            exact ihz ((i + 5), K1, T1, n1, e1, w1, p1, p2, p3, K2, T2, NK2, NT2) (by show L - (i + 5) < L - i; omega) _ _ _ ⟨by omega, hn1, hck1, hag, hP, hD, hS, lv_sub hl [1, 2, 3, 0] rfl⟩
          · exact absurd hrr c458
        · refine lv_tableIn (tgt := 463) (off := 431) hx hb dL_law_32 (by decide) (by decide) (by decide) (by decide) ?_
          refine lv_aload_n hx hb dL_law_463 rfl (lv_at hl 1 rfl) ?_
          refine lv_aload_n hx hb dL_law_464 rfl (lv_at hl 0 rfl) ?_
          refine lv_iload_n hx hb dL_law_465 rfl (lv_at hl 3 rfl) ?_
          refine lv_iconst (v := (nI 1)) hx hb dL_law_466 (by decide) ?_
          refine lv_iadd hx hb dL_law_467 ?_
          refine lz_top (y := (nI (i + 1))) (nI_add _ _) ?_
          refine lz_sld hx hb hX hbl hbA hS (i := i + 1) (by omega) hL dL_law_468 ?_
          have hPc := hP.sub (ws' := [(h, .inr (1, [.ref r, .int lp, .int lc, .int lw])), (r, .inr (0, [.ref k, .ref t, .int (nI n), .int cm, .int wr])), (k, .inl (cA, 500, .inl K)), (t, .inl (cB, 500, .inl T))]) [0, 1, 2, 3] rfl
          have hDc := hD.sub (ws' := [(h, .inr (1, [.ref r, .int lp, .int lc, .int lw])), (r, .inr (0, [.ref k, .ref t, .int (nI n), .int cm, .int wr])), (k, .inl (cA, 500, .inl K)), (t, .inl (cB, 500, .inl T))]) [0, 1, 2, 3] (by decide) rfl
          have hKc := hK.sub (tys' := [(cA, .int), (cB, .int)]) [0, 1] rfl
          have hFc := va_free (wc := [(h, .inr (1, [.ref r, .int lp, .int lc, .int lw])), (r, .inr (0, [.ref k, .ref t, .int (nI n), .int cm, .int wr])), (k, .inl (cA, 500, .inl K)), (t, .inl (cB, 500, .inl T))]) hD hS hA [0, 1, 2, 3] rfl
          refine va_calli (va_runV (As := [.int (xs (i + 1))]) (rest := []) ⟨hx, hb, hml, hown, hts⟩ (c_X2_thin l dC dI H.size h r k t cA cB n cm wr lp lc lw K T hn hck (xs (i + 1))) (cwV 1 hts gL_law_X2_thin rfl rfl rfl (by decide +kernel) ⟨Nat.le_of_ble_eq_true rfl, Nat.le_of_ble_eq_true rfl⟩) ⟨fun a U g mk q => by obtain ⟨q0, q1, qP, qK, qD⟩ := q; exact ⟨q0, q1, qP, va_K.moved (u := U) (U := U.calling g mk a) (Vm.Alike.refl U.vm) qK, qD⟩, va_recv hKc hPc (ci := 1) (q0 := 0) rfl rfl, fun U hU hW => ⟨rfl, by rw [hU], by rw [hU]; exact hPc, va_K.moved hW.alike hKc, hDc.weaken (fun _ _ _ _ => trivial)⟩⟩ rfl rfl hl.1 rfl (lv_room (Nat.le_of_ble_eq_true rfl)) dL_law_469 ⟨Nat.le_of_ble_eq_true rfl, Nat.le_of_ble_eq_true rfl⟩) hS (fun q _ h => hFc q h) hFc (fun r_21 u tS H1 locs ht hvm hw hB hz1 hk1 hS => ?_)
          obtain ⟨K1, T1, n1, e1, w1, p1, p2, p3⟩ := u
          obtain ⟨hP1, hK1, hD1⟩ := hB
          obtain ⟨hq1, hok⟩ := hw
          dsimp only at hq1
          obtain ⟨hn1, hck1⟩ := hok
          dsimp only at hn1 hck1
          rw [ht] at hP1
          obtain ⟨hP, hD⟩ := va_join (wr := [(h3, .inr (2, [.ref k3, .ref t3, .int (nI n), .ref k4, .ref t4])), (k3, .inl (cC, 500, .inl K3)), (t3, .inl (cD, 500, .inl T3)), (k4, .inl (cE, 500, .inl NK)), (t4, .inl (cF, 500, .inl NT))]) (w1 := [(h, .inr (1, [.ref r, .int p1, .int p2, .int p3])), (r, .inr (0, [.ref k, .ref t, .int (nI n1), .int e1, .int w1])), (k, .inl (cA, 500, .inl K1)), (t, .inl (cB, 500, .inl T1))]) hP hD [0, 1, 2, 3] [4, 5, 6, 7, 8] rfl rfl (by decide) (by decide) hk1 hFc hP1 hD1
          generalize H1 = H at hP hS ⊢
          have hP : va_P (dC, dI) vwCl [(h3, .inr (2, [.ref k3, .ref t3, .int (nI n), .ref k4, .ref t4])), (k3, .inl (cC, 500, .inl K3)), (t3, .inl (cD, 500, .inl T3)), (k4, .inl (cE, 500, .inl NK)), (t4, .inl (cF, 500, .inl NT)), (h, .inr (1, [.ref r, .int p1, .int p2, .int p3])), (r, .inr (0, [.ref k, .ref t, .int (nI n1), .int e1, .int w1])), (k, .inl (cA, 500, .inl K1)), (t, .inl (cB, 500, .inl T1))] H := hP
          have hD : va_D (fun q : Nat => s.heap.size ≤ q) [(h3, .inr (2, [.ref k3, .ref t3, .int (nI n), .ref k4, .ref t4])), (k3, .inl (cC, 500, .inl K3)), (t3, .inl (cD, 500, .inl T3)), (k4, .inl (cE, 500, .inl NK)), (t4, .inl (cF, 500, .inl NT)), (h, .inr (1, [.ref r, .int p1, .int p2, .int p3])), (r, .inr (0, [.ref k, .ref t, .int (nI n1), .int e1, .int w1])), (k, .inl (cA, 500, .inl K1)), (t, .inl (cB, 500, .inl T1))] := hD
          refine lv_aload_n hx hb dL_law_472 rfl (lv_at hl 2 rfl) ?_
          refine lv_aload_n hx hb dL_law_473 rfl (lv_at hl 0 rfl) ?_
          refine lv_iload_n hx hb dL_law_474 rfl (lv_at hl 3 rfl) ?_
          refine lv_iconst (v := (nI 1)) hx hb dL_law_475 (by decide) ?_
          refine lv_iadd hx hb dL_law_476 ?_
          refine lz_top (y := (nI (i + 1))) (nI_add _ _) ?_
          refine lz_sld hx hb hX hbl hbA hS (i := i + 1) (by omega) hL dL_law_477 ?_
          have hPc := hP.sub (ws' := [(h3, .inr (2, [.ref k3, .ref t3, .int (nI n), .ref k4, .ref t4])), (k3, .inl (cC, 500, .inl K3)), (t3, .inl (cD, 500, .inl T3)), (k4, .inl (cE, 500, .inl NK)), (t4, .inl (cF, 500, .inl NT))]) [0, 1, 2, 3, 4] rfl
          have hDc := hD.sub (ws' := [(h3, .inr (2, [.ref k3, .ref t3, .int (nI n), .ref k4, .ref t4])), (k3, .inl (cC, 500, .inl K3)), (t3, .inl (cD, 500, .inl T3)), (k4, .inl (cE, 500, .inl NK)), (t4, .inl (cF, 500, .inl NT))]) [0, 1, 2, 3, 4] (by decide) rfl
          have hKc := hK.sub (tys' := [(cC, .int), (cD, .int), (cE, .int), (cF, .int)]) [2, 3, 4, 5] rfl
          have hFc := va_free (wc := [(h3, .inr (2, [.ref k3, .ref t3, .int (nI n), .ref k4, .ref t4])), (k3, .inl (cC, 500, .inl K3)), (t3, .inl (cD, 500, .inl T3)), (k4, .inl (cE, 500, .inl NK)), (t4, .inl (cF, 500, .inl NT))]) hD hS hA [0, 1, 2, 3, 4] rfl
          refine va_calli (va_runV (As := [.int (xs (i + 1))]) (rest := [.int r_21]) ⟨hx, hb, hml, hown, hts⟩ (c_X3_thin l dC dI H.size h3 k3 t3 k4 t4 cC cD cE cF n K3 T3 NK NT hn (xs (i + 1))) (cwV 1 hts gL_law_X3_thin rfl rfl rfl (by decide +kernel) ⟨Nat.le_of_ble_eq_true rfl, Nat.le_of_ble_eq_true rfl⟩) ⟨fun a U g mk q => by obtain ⟨q0, q1, qP, qK, qD⟩ := q; exact ⟨q0, q1, qP, va_K.moved (u := U) (U := U.calling g mk a) (Vm.Alike.refl U.vm) qK, qD⟩, va_recv hKc hPc (ci := 2) (q0 := 0) rfl rfl, fun U hU hW => ⟨rfl, by rw [hU], by rw [hU]; exact hPc, va_K.moved hW.alike hKc, hDc.weaken (fun _ _ _ _ => trivial)⟩⟩ rfl rfl hl.1 rfl (lv_room (Nat.le_of_ble_eq_true rfl)) dL_law_478 ⟨Nat.le_of_ble_eq_true rfl, Nat.le_of_ble_eq_true rfl⟩) hS (fun q _ h => hFc q h) hFc (fun r_22 u tS H1 locs ht hvm hw hB hz1 hk1 hS => ?_)
          obtain ⟨K2, T2, n2, NK2, NT2⟩ := u
          obtain ⟨hP1, hK1, hD1⟩ := hB
          have hq2 := hw
          dsimp only at hq2
          rw [ht] at hP1
          obtain ⟨hP, hD⟩ := va_join (wr := [(h, .inr (1, [.ref r, .int p1, .int p2, .int p3])), (r, .inr (0, [.ref k, .ref t, .int (nI n1), .int e1, .int w1])), (k, .inl (cA, 500, .inl K1)), (t, .inl (cB, 500, .inl T1))]) (w1 := [(h3, .inr (2, [.ref k3, .ref t3, .int (nI n2), .ref k4, .ref t4])), (k3, .inl (cC, 500, .inl K2)), (t3, .inl (cD, 500, .inl T2)), (k4, .inl (cE, 500, .inl NK2)), (t4, .inl (cF, 500, .inl NT2))]) hP hD [0, 1, 2, 3, 4] [5, 6, 7, 8] rfl rfl (by decide) (by decide) hk1 hFc hP1 hD1
          generalize H1 = H at hP hS ⊢
          have hP : va_P (dC, dI) vwCl [(h, .inr (1, [.ref r, .int p1, .int p2, .int p3])), (r, .inr (0, [.ref k, .ref t, .int (nI n1), .int e1, .int w1])), (k, .inl (cA, 500, .inl K1)), (t, .inl (cB, 500, .inl T1)), (h3, .inr (2, [.ref k3, .ref t3, .int (nI n2), .ref k4, .ref t4])), (k3, .inl (cC, 500, .inl K2)), (t3, .inl (cD, 500, .inl T2)), (k4, .inl (cE, 500, .inl NK2)), (t4, .inl (cF, 500, .inl NT2))] H := hP
          have hD : va_D (fun q : Nat => s.heap.size ≤ q) [(h, .inr (1, [.ref r, .int p1, .int p2, .int p3])), (r, .inr (0, [.ref k, .ref t, .int (nI n1), .int e1, .int w1])), (k, .inl (cA, 500, .inl K1)), (t, .inl (cB, 500, .inl T1)), (h3, .inr (2, [.ref k3, .ref t3, .int (nI n2), .ref k4, .ref t4])), (k3, .inl (cC, 500, .inl K2)), (t3, .inl (cD, 500, .inl T2)), (k4, .inl (cE, 500, .inl NK2)), (t4, .inl (cF, 500, .inl NT2))] := hD
          obtain ⟨hrr, hn12, hag⟩ := A_thi heq hq1 hq2
          subst hn12
          refine lv_icmp_eq (tgt := 687) hx hb dL_law_481 (by decide) (fun c481 => ?_) (fun c481 => ?_)
          · refine lv_iinc (v := (nI (i + 5))) (lv' := [(3, .int (nI (i + 5))), (0, .ref b), (1, .ref h), (2, .ref h3)]) hx hb dL_law_687 hl (k := 3) rfl (by first | exact nI_add i 5 | (rw [← nI_add]; rfl)) (by decide) rfl (fun ls hl => ?_)
            refine lv_goto (tgt := 18) hx hb dL_law_690 (by decide) ?_
            exact ihz ((i + 5), K1, T1, n1, e1, w1, p1, p2, p3, K2, T2, NK2, NT2) (by show L - (i + 5) < L - i; omega) _ _ _ ⟨by omega, hn1, hck1, hag, hP, hD, hS, lv_sub hl [1, 2, 3, 0] rfl⟩
          · exact absurd hrr c481
        · refine lv_tableIn (tgt := 486) (off := 454) hx hb dL_law_32 (by decide) (by decide) (by decide) (by decide) ?_
          refine lv_aload_n hx hb dL_law_486 rfl (lv_at hl 1 rfl) ?_
          refine lv_aload_n hx hb dL_law_487 rfl (lv_at hl 0 rfl) ?_
          refine lv_iload_n hx hb dL_law_488 rfl (lv_at hl 3 rfl) ?_
          refine lv_iconst (v := (nI 1)) hx hb dL_law_489 (by decide) ?_
          refine lv_iadd hx hb dL_law_490 ?_
          refine lz_top (y := (nI (i + 1))) (nI_add _ _) ?_
          refine lz_sld hx hb hX hbl hbA hS (i := i + 1) (by omega) hL dL_law_491 ?_
          refine lv_aload_n hx hb dL_law_492 rfl (lv_at hl 0 rfl) ?_
          refine lv_iload_n hx hb dL_law_493 rfl (lv_at hl 3 rfl) ?_
          refine lv_iconst (v := (nI 2)) hx hb dL_law_494 (by decide) ?_
          refine lv_iadd hx hb dL_law_495 ?_
          refine lz_top (y := (nI (i + 2))) (nI_add _ _) ?_
          refine lz_sld hx hb hX hbl hbA hS (i := i + 2) (by omega) hL dL_law_496 ?_
          refine lv_aload_n hx hb dL_law_497 rfl (lv_at hl 0 rfl) ?_
          refine lv_iload_n hx hb dL_law_498 rfl (lv_at hl 3 rfl) ?_
          refine lv_iconst (v := (nI 3)) hx hb dL_law_499 (by decide) ?_
          refine lv_iadd hx hb dL_law_500 ?_
          refine lz_top (y := (nI (i + 3))) (nI_add _ _) ?_
          refine lz_sld hx hb hX hbl hbA hS (i := i + 3) (by omega) hL dL_law_501 ?_
          have hPc := hP.sub (ws' := [(h, .inr (1, [.ref r, .int lp, .int lc, .int lw])), (r, .inr (0, [.ref k, .ref t, .int (nI n), .int cm, .int wr])), (k, .inl (cA, 500, .inl K)), (t, .inl (cB, 500, .inl T))]) [0, 1, 2, 3] rfl
          have hDc := hD.sub (ws' := [(h, .inr (1, [.ref r, .int lp, .int lc, .int lw])), (r, .inr (0, [.ref k, .ref t, .int (nI n), .int cm, .int wr])), (k, .inl (cA, 500, .inl K)), (t, .inl (cB, 500, .inl T))]) [0, 1, 2, 3] (by decide) rfl
          have hKc := hK.sub (tys' := [(cA, .int), (cB, .int)]) [0, 1] rfl
          have hFc := va_free (wc := [(h, .inr (1, [.ref r, .int lp, .int lc, .int lw])), (r, .inr (0, [.ref k, .ref t, .int (nI n), .int cm, .int wr])), (k, .inl (cA, 500, .inl K)), (t, .inl (cB, 500, .inl T))]) hD hS hA [0, 1, 2, 3] rfl
          refine va_calli (va_runV (As := [.int (xs (i + 1)), .int (xs (i + 2)), .int (xs (i + 3))]) (rest := []) ⟨hx, hb, hml, hown, hts⟩ (c_X2_sorted l dC dI H.size h r k t cA cB n cm wr lp lc lw K T hn hck (xs (i + 1)) (xs (i + 2)) (xs (i + 3))) (cwV 3 hts gL_law_X2_sorted rfl rfl rfl (by decide +kernel) ⟨Nat.le_of_ble_eq_true rfl, Nat.le_of_ble_eq_true rfl⟩) ⟨fun a U g mk q => by obtain ⟨q0, q1, qP, qK, qD⟩ := q; exact ⟨q0, q1, qP, va_K.moved (u := U) (U := U.calling g mk a) (Vm.Alike.refl U.vm) qK, qD⟩, va_recv hKc hPc (ci := 1) (q0 := 0) rfl rfl, fun U hU hW => ⟨rfl, by rw [hU], by rw [hU]; exact hPc, va_K.moved hW.alike hKc, hDc.weaken (fun _ _ _ _ => trivial)⟩⟩ rfl rfl hl.1 rfl (lv_room (Nat.le_of_ble_eq_true rfl)) dL_law_502 ⟨Nat.le_of_ble_eq_true rfl, Nat.le_of_ble_eq_true rfl⟩) hS (fun q _ h => hFc q h) hFc (fun r_23 u tS H1 locs ht hvm hw hB hz1 hk1 hS => ?_)
          obtain ⟨K1, T1, n1, e1, w1, p1, p2, p3⟩ := u
          obtain ⟨hP1, hK1, hD1⟩ := hB
          obtain ⟨hq1, hsm, hok⟩ := hw
          dsimp only at hq1 hsm
          obtain ⟨hn1, hck1⟩ := hok
          dsimp only at hn1 hck1
          rw [ht] at hP1
          obtain ⟨hP, hD⟩ := va_join (wr := [(h3, .inr (2, [.ref k3, .ref t3, .int (nI n), .ref k4, .ref t4])), (k3, .inl (cC, 500, .inl K3)), (t3, .inl (cD, 500, .inl T3)), (k4, .inl (cE, 500, .inl NK)), (t4, .inl (cF, 500, .inl NT))]) (w1 := [(h, .inr (1, [.ref r, .int p1, .int p2, .int p3])), (r, .inr (0, [.ref k, .ref t, .int (nI n1), .int e1, .int w1])), (k, .inl (cA, 500, .inl K1)), (t, .inl (cB, 500, .inl T1))]) hP hD [0, 1, 2, 3] [4, 5, 6, 7, 8] rfl rfl (by decide) (by decide) hk1 hFc hP1 hD1
          generalize H1 = H at hP hS ⊢
          have hP : va_P (dC, dI) vwCl [(h3, .inr (2, [.ref k3, .ref t3, .int (nI n), .ref k4, .ref t4])), (k3, .inl (cC, 500, .inl K3)), (t3, .inl (cD, 500, .inl T3)), (k4, .inl (cE, 500, .inl NK)), (t4, .inl (cF, 500, .inl NT)), (h, .inr (1, [.ref r, .int p1, .int p2, .int p3])), (r, .inr (0, [.ref k, .ref t, .int (nI n1), .int e1, .int w1])), (k, .inl (cA, 500, .inl K1)), (t, .inl (cB, 500, .inl T1))] H := hP
          have hD : va_D (fun q : Nat => s.heap.size ≤ q) [(h3, .inr (2, [.ref k3, .ref t3, .int (nI n), .ref k4, .ref t4])), (k3, .inl (cC, 500, .inl K3)), (t3, .inl (cD, 500, .inl T3)), (k4, .inl (cE, 500, .inl NK)), (t4, .inl (cF, 500, .inl NT)), (h, .inr (1, [.ref r, .int p1, .int p2, .int p3])), (r, .inr (0, [.ref k, .ref t, .int (nI n1), .int e1, .int w1])), (k, .inl (cA, 500, .inl K1)), (t, .inl (cB, 500, .inl T1))] := hD
          refine lv_aload_n hx hb dL_law_505 rfl (lv_at hl 2 rfl) ?_
          refine lv_aload_n hx hb dL_law_506 rfl (lv_at hl 0 rfl) ?_
          refine lv_iload_n hx hb dL_law_507 rfl (lv_at hl 3 rfl) ?_
          refine lv_iconst (v := (nI 1)) hx hb dL_law_508 (by decide) ?_
          refine lv_iadd hx hb dL_law_509 ?_
          refine lz_top (y := (nI (i + 1))) (nI_add _ _) ?_
          refine lz_sld hx hb hX hbl hbA hS (i := i + 1) (by omega) hL dL_law_510 ?_
          refine lv_aload_n hx hb dL_law_511 rfl (lv_at hl 0 rfl) ?_
          refine lv_iload_n hx hb dL_law_512 rfl (lv_at hl 3 rfl) ?_
          refine lv_iconst (v := (nI 2)) hx hb dL_law_513 (by decide) ?_
          refine lv_iadd hx hb dL_law_514 ?_
          refine lz_top (y := (nI (i + 2))) (nI_add _ _) ?_
          refine lz_sld hx hb hX hbl hbA hS (i := i + 2) (by omega) hL dL_law_515 ?_
          refine lv_aload_n hx hb dL_law_516 rfl (lv_at hl 0 rfl) ?_
          refine lv_iload_n hx hb dL_law_517 rfl (lv_at hl 3 rfl) ?_
          refine lv_iconst (v := (nI 3)) hx hb dL_law_518 (by decide) ?_
          refine lv_iadd hx hb dL_law_519 ?_
          refine lz_top (y := (nI (i + 3))) (nI_add _ _) ?_
          refine lz_sld hx hb hX hbl hbA hS (i := i + 3) (by omega) hL dL_law_520 ?_
          have hPc := hP.sub (ws' := [(h3, .inr (2, [.ref k3, .ref t3, .int (nI n), .ref k4, .ref t4])), (k3, .inl (cC, 500, .inl K3)), (t3, .inl (cD, 500, .inl T3)), (k4, .inl (cE, 500, .inl NK)), (t4, .inl (cF, 500, .inl NT))]) [0, 1, 2, 3, 4] rfl
          have hDc := hD.sub (ws' := [(h3, .inr (2, [.ref k3, .ref t3, .int (nI n), .ref k4, .ref t4])), (k3, .inl (cC, 500, .inl K3)), (t3, .inl (cD, 500, .inl T3)), (k4, .inl (cE, 500, .inl NK)), (t4, .inl (cF, 500, .inl NT))]) [0, 1, 2, 3, 4] (by decide) rfl
          have hKc := hK.sub (tys' := [(cC, .int), (cD, .int), (cE, .int), (cF, .int)]) [2, 3, 4, 5] rfl
          have hFc := va_free (wc := [(h3, .inr (2, [.ref k3, .ref t3, .int (nI n), .ref k4, .ref t4])), (k3, .inl (cC, 500, .inl K3)), (t3, .inl (cD, 500, .inl T3)), (k4, .inl (cE, 500, .inl NK)), (t4, .inl (cF, 500, .inl NT))]) hD hS hA [0, 1, 2, 3, 4] rfl
          refine va_calli (va_runV (As := [.int (xs (i + 1)), .int (xs (i + 2)), .int (xs (i + 3))]) (rest := [.int r_23]) ⟨hx, hb, hml, hown, hts⟩ (c_X3_sorted l dC dI H.size h3 k3 t3 k4 t4 cC cD cE cF n K3 T3 NK NT hn (xs (i + 1)) (xs (i + 2)) (xs (i + 3))) (cwV 3 hts gL_law_X3_sorted rfl rfl rfl (by decide +kernel) ⟨Nat.le_of_ble_eq_true rfl, Nat.le_of_ble_eq_true rfl⟩) ⟨fun a U g mk q => by obtain ⟨q0, q1, qP, qK, qD⟩ := q; exact ⟨q0, q1, qP, va_K.moved (u := U) (U := U.calling g mk a) (Vm.Alike.refl U.vm) qK, qD⟩, va_recv hKc hPc (ci := 2) (q0 := 0) rfl rfl, fun U hU hW => ⟨rfl, by rw [hU], by rw [hU]; exact hPc, va_K.moved hW.alike hKc, hDc.weaken (fun _ _ _ _ => trivial)⟩⟩ rfl rfl hl.1 rfl (lv_room (Nat.le_of_ble_eq_true rfl)) dL_law_521 ⟨Nat.le_of_ble_eq_true rfl, Nat.le_of_ble_eq_true rfl⟩) hS (fun q _ h => hFc q h) hFc (fun r_24 u tS H1 locs ht hvm hw hB hz1 hk1 hS => ?_)
          obtain ⟨hq2, rfl⟩ := hw
          obtain ⟨hP1, hK1, hD1⟩ := hB
          rw [ht] at hP1
          obtain ⟨hP, hD⟩ := va_join (wr := [(h, .inr (1, [.ref r, .int p1, .int p2, .int p3])), (r, .inr (0, [.ref k, .ref t, .int (nI n1), .int e1, .int w1])), (k, .inl (cA, 500, .inl K1)), (t, .inl (cB, 500, .inl T1))]) (w1 := [(h3, .inr (2, [.ref k3, .ref t3, .int (nI n), .ref k4, .ref t4])), (k3, .inl (cC, 500, .inl K3)), (t3, .inl (cD, 500, .inl T3)), (k4, .inl (cE, 500, .inl NK)), (t4, .inl (cF, 500, .inl NT))]) hP hD [0, 1, 2, 3, 4] [5, 6, 7, 8] rfl rfl (by decide) (by decide) hk1 hFc hP1 hD1
          generalize H1 = H at hP hS ⊢
          have hP : va_P (dC, dI) vwCl [(h, .inr (1, [.ref r, .int p1, .int p2, .int p3])), (r, .inr (0, [.ref k, .ref t, .int (nI n1), .int e1, .int w1])), (k, .inl (cA, 500, .inl K1)), (t, .inl (cB, 500, .inl T1)), (h3, .inr (2, [.ref k3, .ref t3, .int (nI n), .ref k4, .ref t4])), (k3, .inl (cC, 500, .inl K3)), (t3, .inl (cD, 500, .inl T3)), (k4, .inl (cE, 500, .inl NK)), (t4, .inl (cF, 500, .inl NT))] H := hP
          have hD : va_D (fun q : Nat => s.heap.size ≤ q) [(h, .inr (1, [.ref r, .int p1, .int p2, .int p3])), (r, .inr (0, [.ref k, .ref t, .int (nI n1), .int e1, .int w1])), (k, .inl (cA, 500, .inl K1)), (t, .inl (cB, 500, .inl T1)), (h3, .inr (2, [.ref k3, .ref t3, .int (nI n), .ref k4, .ref t4])), (k3, .inl (cC, 500, .inl K3)), (t3, .inl (cD, 500, .inl T3)), (k4, .inl (cE, 500, .inl NK)), (t4, .inl (cF, 500, .inl NT))] := hD
          have hrr := A_srd hn heq hq1 hq2
          have hag := ag_rd heq hsm.1 hsm.2
          have hn12 := hsm.1
          clear hsm
          subst hn12
          refine lv_icmp_eq (tgt := 687) hx hb dL_law_524 (by decide) (fun c524 => ?_) (fun c524 => ?_)
          · refine lv_iinc (v := (nI (i + 5))) (lv' := [(3, .int (nI (i + 5))), (0, .ref b), (1, .ref h), (2, .ref h3)]) hx hb dL_law_687 hl (k := 3) rfl (by first | exact nI_add i 5 | (rw [← nI_add]; rfl)) (by decide) rfl (fun ls hl => ?_)
            refine lv_goto (tgt := 18) hx hb dL_law_690 (by decide) ?_
            exact ihz ((i + 5), K1, T1, n1, e1, w1, p1, p2, p3, K3, T3, NK, NT) (by show L - (i + 5) < L - i; omega) _ _ _ ⟨by omega, hn1, hck1, hag, hP, hD, hS, lv_sub hl [1, 2, 3, 0] rfl⟩
          · exact absurd hrr c524
        · refine lv_tableIn (tgt := 529) (off := 497) hx hb dL_law_32 (by decide) (by decide) (by decide) (by decide) ?_
          refine lv_aload_n hx hb dL_law_529 rfl (lv_at hl 1 rfl) ?_
          refine lv_aload_n hx hb dL_law_530 rfl (lv_at hl 0 rfl) ?_
          refine lv_iload_n hx hb dL_law_531 rfl (lv_at hl 3 rfl) ?_
          refine lv_iconst (v := (nI 1)) hx hb dL_law_532 (by decide) ?_
          refine lv_iadd hx hb dL_law_533 ?_
          refine lz_top (y := (nI (i + 1))) (nI_add _ _) ?_
          refine lz_sld hx hb hX hbl hbA hS (i := i + 1) (by omega) hL dL_law_534 ?_
          refine lv_aload_n hx hb dL_law_535 rfl (lv_at hl 0 rfl) ?_
          refine lv_iload_n hx hb dL_law_536 rfl (lv_at hl 3 rfl) ?_
          refine lv_iconst (v := (nI 2)) hx hb dL_law_537 (by decide) ?_
          refine lv_iadd hx hb dL_law_538 ?_
          refine lz_top (y := (nI (i + 2))) (nI_add _ _) ?_
          refine lz_sld hx hb hX hbl hbA hS (i := i + 2) (by omega) hL dL_law_539 ?_
          refine lv_aload_n hx hb dL_law_540 rfl (lv_at hl 0 rfl) ?_
          refine lv_iload_n hx hb dL_law_541 rfl (lv_at hl 3 rfl) ?_
          refine lv_iconst (v := (nI 3)) hx hb dL_law_542 (by decide) ?_
          refine lv_iadd hx hb dL_law_543 ?_
          refine lz_top (y := (nI (i + 3))) (nI_add _ _) ?_
          refine lz_sld hx hb hX hbl hbA hS (i := i + 3) (by omega) hL dL_law_544 ?_
          have hPc := hP.sub (ws' := [(h, .inr (1, [.ref r, .int lp, .int lc, .int lw])), (r, .inr (0, [.ref k, .ref t, .int (nI n), .int cm, .int wr])), (k, .inl (cA, 500, .inl K)), (t, .inl (cB, 500, .inl T))]) [0, 1, 2, 3] rfl
          have hDc := hD.sub (ws' := [(h, .inr (1, [.ref r, .int lp, .int lc, .int lw])), (r, .inr (0, [.ref k, .ref t, .int (nI n), .int cm, .int wr])), (k, .inl (cA, 500, .inl K)), (t, .inl (cB, 500, .inl T))]) [0, 1, 2, 3] (by decide) rfl
          have hKc := hK.sub (tys' := [(cA, .int), (cB, .int)]) [0, 1] rfl
          have hFc := va_free (wc := [(h, .inr (1, [.ref r, .int lp, .int lc, .int lw])), (r, .inr (0, [.ref k, .ref t, .int (nI n), .int cm, .int wr])), (k, .inl (cA, 500, .inl K)), (t, .inl (cB, 500, .inl T))]) hD hS hA [0, 1, 2, 3] rfl
          refine va_calli (va_runV (As := [.int (xs (i + 1)), .int (xs (i + 2)), .int (xs (i + 3))]) (rest := []) ⟨hx, hb, hml, hown, hts⟩ (c_X2_find l dC dI H.size h r k t cA cB n cm wr lp lc lw K T hn hck (xs (i + 1)) (xs (i + 2)) (xs (i + 3))) (cwV 3 hts gL_law_X2_find rfl rfl rfl (by decide +kernel) ⟨Nat.le_of_ble_eq_true rfl, Nat.le_of_ble_eq_true rfl⟩) ⟨fun a U g mk q => by obtain ⟨q0, q1, qP, qK, qD⟩ := q; exact ⟨q0, q1, qP, va_K.moved (u := U) (U := U.calling g mk a) (Vm.Alike.refl U.vm) qK, qD⟩, va_recv hKc hPc (ci := 1) (q0 := 0) rfl rfl, fun U hU hW => ⟨rfl, by rw [hU], by rw [hU]; exact hPc, va_K.moved hW.alike hKc, hDc.weaken (fun _ _ _ _ => trivial)⟩⟩ rfl rfl hl.1 rfl (lv_room (Nat.le_of_ble_eq_true rfl)) dL_law_545 ⟨Nat.le_of_ble_eq_true rfl, Nat.le_of_ble_eq_true rfl⟩) hS (fun q _ h => hFc q h) hFc (fun r_25 u tS H1 locs ht hvm hw hB hz1 hk1 hS => ?_)
          obtain ⟨K1, T1, n1, e1, w1, p1, p2, p3⟩ := u
          obtain ⟨hP1, hK1, hD1⟩ := hB
          obtain ⟨hq1, hsm, hok⟩ := hw
          dsimp only at hq1 hsm
          obtain ⟨hn1, hck1⟩ := hok
          dsimp only at hn1 hck1
          rw [ht] at hP1
          obtain ⟨hP, hD⟩ := va_join (wr := [(h3, .inr (2, [.ref k3, .ref t3, .int (nI n), .ref k4, .ref t4])), (k3, .inl (cC, 500, .inl K3)), (t3, .inl (cD, 500, .inl T3)), (k4, .inl (cE, 500, .inl NK)), (t4, .inl (cF, 500, .inl NT))]) (w1 := [(h, .inr (1, [.ref r, .int p1, .int p2, .int p3])), (r, .inr (0, [.ref k, .ref t, .int (nI n1), .int e1, .int w1])), (k, .inl (cA, 500, .inl K1)), (t, .inl (cB, 500, .inl T1))]) hP hD [0, 1, 2, 3] [4, 5, 6, 7, 8] rfl rfl (by decide) (by decide) hk1 hFc hP1 hD1
          generalize H1 = H at hP hS ⊢
          have hP : va_P (dC, dI) vwCl [(h3, .inr (2, [.ref k3, .ref t3, .int (nI n), .ref k4, .ref t4])), (k3, .inl (cC, 500, .inl K3)), (t3, .inl (cD, 500, .inl T3)), (k4, .inl (cE, 500, .inl NK)), (t4, .inl (cF, 500, .inl NT)), (h, .inr (1, [.ref r, .int p1, .int p2, .int p3])), (r, .inr (0, [.ref k, .ref t, .int (nI n1), .int e1, .int w1])), (k, .inl (cA, 500, .inl K1)), (t, .inl (cB, 500, .inl T1))] H := hP
          have hD : va_D (fun q : Nat => s.heap.size ≤ q) [(h3, .inr (2, [.ref k3, .ref t3, .int (nI n), .ref k4, .ref t4])), (k3, .inl (cC, 500, .inl K3)), (t3, .inl (cD, 500, .inl T3)), (k4, .inl (cE, 500, .inl NK)), (t4, .inl (cF, 500, .inl NT)), (h, .inr (1, [.ref r, .int p1, .int p2, .int p3])), (r, .inr (0, [.ref k, .ref t, .int (nI n1), .int e1, .int w1])), (k, .inl (cA, 500, .inl K1)), (t, .inl (cB, 500, .inl T1))] := hD
          refine lv_aload_n hx hb dL_law_548 rfl (lv_at hl 2 rfl) ?_
          refine lv_aload_n hx hb dL_law_549 rfl (lv_at hl 0 rfl) ?_
          refine lv_iload_n hx hb dL_law_550 rfl (lv_at hl 3 rfl) ?_
          refine lv_iconst (v := (nI 1)) hx hb dL_law_551 (by decide) ?_
          refine lv_iadd hx hb dL_law_552 ?_
          refine lz_top (y := (nI (i + 1))) (nI_add _ _) ?_
          refine lz_sld hx hb hX hbl hbA hS (i := i + 1) (by omega) hL dL_law_553 ?_
          refine lv_aload_n hx hb dL_law_554 rfl (lv_at hl 0 rfl) ?_
          refine lv_iload_n hx hb dL_law_555 rfl (lv_at hl 3 rfl) ?_
          refine lv_iconst (v := (nI 2)) hx hb dL_law_556 (by decide) ?_
          refine lv_iadd hx hb dL_law_557 ?_
          refine lz_top (y := (nI (i + 2))) (nI_add _ _) ?_
          refine lz_sld hx hb hX hbl hbA hS (i := i + 2) (by omega) hL dL_law_558 ?_
          refine lv_aload_n hx hb dL_law_559 rfl (lv_at hl 0 rfl) ?_
          refine lv_iload_n hx hb dL_law_560 rfl (lv_at hl 3 rfl) ?_
          refine lv_iconst (v := (nI 3)) hx hb dL_law_561 (by decide) ?_
          refine lv_iadd hx hb dL_law_562 ?_
          refine lz_top (y := (nI (i + 3))) (nI_add _ _) ?_
          refine lz_sld hx hb hX hbl hbA hS (i := i + 3) (by omega) hL dL_law_563 ?_
          have hPc := hP.sub (ws' := [(h3, .inr (2, [.ref k3, .ref t3, .int (nI n), .ref k4, .ref t4])), (k3, .inl (cC, 500, .inl K3)), (t3, .inl (cD, 500, .inl T3)), (k4, .inl (cE, 500, .inl NK)), (t4, .inl (cF, 500, .inl NT))]) [0, 1, 2, 3, 4] rfl
          have hDc := hD.sub (ws' := [(h3, .inr (2, [.ref k3, .ref t3, .int (nI n), .ref k4, .ref t4])), (k3, .inl (cC, 500, .inl K3)), (t3, .inl (cD, 500, .inl T3)), (k4, .inl (cE, 500, .inl NK)), (t4, .inl (cF, 500, .inl NT))]) [0, 1, 2, 3, 4] (by decide) rfl
          have hKc := hK.sub (tys' := [(cC, .int), (cD, .int), (cE, .int), (cF, .int)]) [2, 3, 4, 5] rfl
          have hFc := va_free (wc := [(h3, .inr (2, [.ref k3, .ref t3, .int (nI n), .ref k4, .ref t4])), (k3, .inl (cC, 500, .inl K3)), (t3, .inl (cD, 500, .inl T3)), (k4, .inl (cE, 500, .inl NK)), (t4, .inl (cF, 500, .inl NT))]) hD hS hA [0, 1, 2, 3, 4] rfl
          refine va_calli (va_runV (As := [.int (xs (i + 1)), .int (xs (i + 2)), .int (xs (i + 3))]) (rest := [.int r_25]) ⟨hx, hb, hml, hown, hts⟩ (c_X3_find l dC dI H.size h3 k3 t3 k4 t4 cC cD cE cF n K3 T3 NK NT hn (xs (i + 1)) (xs (i + 2)) (xs (i + 3))) (cwV 3 hts gL_law_X3_find rfl rfl rfl (by decide +kernel) ⟨Nat.le_of_ble_eq_true rfl, Nat.le_of_ble_eq_true rfl⟩) ⟨fun a U g mk q => by obtain ⟨q0, q1, qP, qK, qD⟩ := q; exact ⟨q0, q1, qP, va_K.moved (u := U) (U := U.calling g mk a) (Vm.Alike.refl U.vm) qK, qD⟩, va_recv hKc hPc (ci := 2) (q0 := 0) rfl rfl, fun U hU hW => ⟨rfl, by rw [hU], by rw [hU]; exact hPc, va_K.moved hW.alike hKc, hDc.weaken (fun _ _ _ _ => trivial)⟩⟩ rfl rfl hl.1 rfl (lv_room (Nat.le_of_ble_eq_true rfl)) dL_law_564 ⟨Nat.le_of_ble_eq_true rfl, Nat.le_of_ble_eq_true rfl⟩) hS (fun q _ h => hFc q h) hFc (fun r_26 u tS H1 locs ht hvm hw hB hz1 hk1 hS => ?_)
          obtain ⟨hq2, rfl⟩ := hw
          obtain ⟨hP1, hK1, hD1⟩ := hB
          rw [ht] at hP1
          obtain ⟨hP, hD⟩ := va_join (wr := [(h, .inr (1, [.ref r, .int p1, .int p2, .int p3])), (r, .inr (0, [.ref k, .ref t, .int (nI n1), .int e1, .int w1])), (k, .inl (cA, 500, .inl K1)), (t, .inl (cB, 500, .inl T1))]) (w1 := [(h3, .inr (2, [.ref k3, .ref t3, .int (nI n), .ref k4, .ref t4])), (k3, .inl (cC, 500, .inl K3)), (t3, .inl (cD, 500, .inl T3)), (k4, .inl (cE, 500, .inl NK)), (t4, .inl (cF, 500, .inl NT))]) hP hD [0, 1, 2, 3, 4] [5, 6, 7, 8] rfl rfl (by decide) (by decide) hk1 hFc hP1 hD1
          generalize H1 = H at hP hS ⊢
          have hP : va_P (dC, dI) vwCl [(h, .inr (1, [.ref r, .int p1, .int p2, .int p3])), (r, .inr (0, [.ref k, .ref t, .int (nI n1), .int e1, .int w1])), (k, .inl (cA, 500, .inl K1)), (t, .inl (cB, 500, .inl T1)), (h3, .inr (2, [.ref k3, .ref t3, .int (nI n), .ref k4, .ref t4])), (k3, .inl (cC, 500, .inl K3)), (t3, .inl (cD, 500, .inl T3)), (k4, .inl (cE, 500, .inl NK)), (t4, .inl (cF, 500, .inl NT))] H := hP
          have hD : va_D (fun q : Nat => s.heap.size ≤ q) [(h, .inr (1, [.ref r, .int p1, .int p2, .int p3])), (r, .inr (0, [.ref k, .ref t, .int (nI n1), .int e1, .int w1])), (k, .inl (cA, 500, .inl K1)), (t, .inl (cB, 500, .inl T1)), (h3, .inr (2, [.ref k3, .ref t3, .int (nI n), .ref k4, .ref t4])), (k3, .inl (cC, 500, .inl K3)), (t3, .inl (cD, 500, .inl T3)), (k4, .inl (cE, 500, .inl NK)), (t4, .inl (cF, 500, .inl NT))] := hD
          have hrr := A_fin heq hq1 hq2
          have hag := ag_rd heq hsm.1 hsm.2
          have hn12 := hsm.1
          clear hsm
          subst hn12
          refine lv_icmp_eq (tgt := 687) hx hb dL_law_567 (by decide) (fun c567 => ?_) (fun c567 => ?_)
          · refine lv_iinc (v := (nI (i + 5))) (lv' := [(3, .int (nI (i + 5))), (0, .ref b), (1, .ref h), (2, .ref h3)]) hx hb dL_law_687 hl (k := 3) rfl (by first | exact nI_add i 5 | (rw [← nI_add]; rfl)) (by decide) rfl (fun ls hl => ?_)
            refine lv_goto (tgt := 18) hx hb dL_law_690 (by decide) ?_
            exact ihz ((i + 5), K1, T1, n1, e1, w1, p1, p2, p3, K3, T3, NK, NT) (by show L - (i + 5) < L - i; omega) _ _ _ ⟨by omega, hn1, hck1, hag, hP, hD, hS, lv_sub hl [1, 2, 3, 0] rfl⟩
          · exact absurd hrr c567
        · refine lv_tableIn (tgt := 572) (off := 540) hx hb dL_law_32 (by decide) (by decide) (by decide) (by decide) ?_
          refine lv_aload_n hx hb dL_law_572 rfl (lv_at hl 1 rfl) ?_
          refine lv_aload_n hx hb dL_law_573 rfl (lv_at hl 0 rfl) ?_
          refine lv_iload_n hx hb dL_law_574 rfl (lv_at hl 3 rfl) ?_
          refine lv_iconst (v := (nI 1)) hx hb dL_law_575 (by decide) ?_
          refine lv_iadd hx hb dL_law_576 ?_
          refine lz_top (y := (nI (i + 1))) (nI_add _ _) ?_
          refine lz_sld hx hb hX hbl hbA hS (i := i + 1) (by omega) hL dL_law_577 ?_
          refine lv_aload_n hx hb dL_law_578 rfl (lv_at hl 0 rfl) ?_
          refine lv_iload_n hx hb dL_law_579 rfl (lv_at hl 3 rfl) ?_
          refine lv_iconst (v := (nI 2)) hx hb dL_law_580 (by decide) ?_
          refine lv_iadd hx hb dL_law_581 ?_
          refine lz_top (y := (nI (i + 2))) (nI_add _ _) ?_
          refine lz_sld hx hb hX hbl hbA hS (i := i + 2) (by omega) hL dL_law_582 ?_
          have hPc := hP.sub (ws' := [(h, .inr (1, [.ref r, .int lp, .int lc, .int lw])), (r, .inr (0, [.ref k, .ref t, .int (nI n), .int cm, .int wr])), (k, .inl (cA, 500, .inl K)), (t, .inl (cB, 500, .inl T))]) [0, 1, 2, 3] rfl
          have hDc := hD.sub (ws' := [(h, .inr (1, [.ref r, .int lp, .int lc, .int lw])), (r, .inr (0, [.ref k, .ref t, .int (nI n), .int cm, .int wr])), (k, .inl (cA, 500, .inl K)), (t, .inl (cB, 500, .inl T))]) [0, 1, 2, 3] (by decide) rfl
          have hKc := hK.sub (tys' := [(cA, .int), (cB, .int)]) [0, 1] rfl
          have hFc := va_free (wc := [(h, .inr (1, [.ref r, .int lp, .int lc, .int lw])), (r, .inr (0, [.ref k, .ref t, .int (nI n), .int cm, .int wr])), (k, .inl (cA, 500, .inl K)), (t, .inl (cB, 500, .inl T))]) hD hS hA [0, 1, 2, 3] rfl
          refine va_calli (va_runV (As := [.int (xs (i + 1)), .int (xs (i + 2))]) (rest := []) ⟨hx, hb, hml, hown, hts⟩ (c_X2_rank l dC dI H.size h r k t cA cB n cm wr lp lc lw K T hn hck (xs (i + 1)) (xs (i + 2))) (cwV 2 hts gL_law_X2_rank rfl rfl rfl (by decide +kernel) ⟨Nat.le_of_ble_eq_true rfl, Nat.le_of_ble_eq_true rfl⟩) ⟨fun a U g mk q => by obtain ⟨q0, q1, qP, qK, qD⟩ := q; exact ⟨q0, q1, qP, va_K.moved (u := U) (U := U.calling g mk a) (Vm.Alike.refl U.vm) qK, qD⟩, va_recv hKc hPc (ci := 1) (q0 := 0) rfl rfl, fun U hU hW => ⟨rfl, by rw [hU], by rw [hU]; exact hPc, va_K.moved hW.alike hKc, hDc.weaken (fun _ _ _ _ => trivial)⟩⟩ rfl rfl hl.1 rfl (lv_room (Nat.le_of_ble_eq_true rfl)) dL_law_583 ⟨Nat.le_of_ble_eq_true rfl, Nat.le_of_ble_eq_true rfl⟩) hS (fun q _ h => hFc q h) hFc (fun r_27 u tS H1 locs ht hvm hw hB hz1 hk1 hS => ?_)
          obtain ⟨K1, T1, n1, e1, w1, p1, p2, p3⟩ := u
          obtain ⟨hP1, hK1, hD1⟩ := hB
          obtain ⟨hq1, hsm, hok⟩ := hw
          dsimp only at hq1 hsm
          obtain ⟨hn1, hck1⟩ := hok
          dsimp only at hn1 hck1
          rw [ht] at hP1
          obtain ⟨hP, hD⟩ := va_join (wr := [(h3, .inr (2, [.ref k3, .ref t3, .int (nI n), .ref k4, .ref t4])), (k3, .inl (cC, 500, .inl K3)), (t3, .inl (cD, 500, .inl T3)), (k4, .inl (cE, 500, .inl NK)), (t4, .inl (cF, 500, .inl NT))]) (w1 := [(h, .inr (1, [.ref r, .int p1, .int p2, .int p3])), (r, .inr (0, [.ref k, .ref t, .int (nI n1), .int e1, .int w1])), (k, .inl (cA, 500, .inl K1)), (t, .inl (cB, 500, .inl T1))]) hP hD [0, 1, 2, 3] [4, 5, 6, 7, 8] rfl rfl (by decide) (by decide) hk1 hFc hP1 hD1
          generalize H1 = H at hP hS ⊢
          have hP : va_P (dC, dI) vwCl [(h3, .inr (2, [.ref k3, .ref t3, .int (nI n), .ref k4, .ref t4])), (k3, .inl (cC, 500, .inl K3)), (t3, .inl (cD, 500, .inl T3)), (k4, .inl (cE, 500, .inl NK)), (t4, .inl (cF, 500, .inl NT)), (h, .inr (1, [.ref r, .int p1, .int p2, .int p3])), (r, .inr (0, [.ref k, .ref t, .int (nI n1), .int e1, .int w1])), (k, .inl (cA, 500, .inl K1)), (t, .inl (cB, 500, .inl T1))] H := hP
          have hD : va_D (fun q : Nat => s.heap.size ≤ q) [(h3, .inr (2, [.ref k3, .ref t3, .int (nI n), .ref k4, .ref t4])), (k3, .inl (cC, 500, .inl K3)), (t3, .inl (cD, 500, .inl T3)), (k4, .inl (cE, 500, .inl NK)), (t4, .inl (cF, 500, .inl NT)), (h, .inr (1, [.ref r, .int p1, .int p2, .int p3])), (r, .inr (0, [.ref k, .ref t, .int (nI n1), .int e1, .int w1])), (k, .inl (cA, 500, .inl K1)), (t, .inl (cB, 500, .inl T1))] := hD
          refine lv_aload_n hx hb dL_law_586 rfl (lv_at hl 2 rfl) ?_
          refine lv_aload_n hx hb dL_law_587 rfl (lv_at hl 0 rfl) ?_
          refine lv_iload_n hx hb dL_law_588 rfl (lv_at hl 3 rfl) ?_
          refine lv_iconst (v := (nI 1)) hx hb dL_law_589 (by decide) ?_
          refine lv_iadd hx hb dL_law_590 ?_
          refine lz_top (y := (nI (i + 1))) (nI_add _ _) ?_
          refine lz_sld hx hb hX hbl hbA hS (i := i + 1) (by omega) hL dL_law_591 ?_
          refine lv_aload_n hx hb dL_law_592 rfl (lv_at hl 0 rfl) ?_
          refine lv_iload_n hx hb dL_law_593 rfl (lv_at hl 3 rfl) ?_
          refine lv_iconst (v := (nI 2)) hx hb dL_law_594 (by decide) ?_
          refine lv_iadd hx hb dL_law_595 ?_
          refine lz_top (y := (nI (i + 2))) (nI_add _ _) ?_
          refine lz_sld hx hb hX hbl hbA hS (i := i + 2) (by omega) hL dL_law_596 ?_
          have hPc := hP.sub (ws' := [(h3, .inr (2, [.ref k3, .ref t3, .int (nI n), .ref k4, .ref t4])), (k3, .inl (cC, 500, .inl K3)), (t3, .inl (cD, 500, .inl T3)), (k4, .inl (cE, 500, .inl NK)), (t4, .inl (cF, 500, .inl NT))]) [0, 1, 2, 3, 4] rfl
          have hDc := hD.sub (ws' := [(h3, .inr (2, [.ref k3, .ref t3, .int (nI n), .ref k4, .ref t4])), (k3, .inl (cC, 500, .inl K3)), (t3, .inl (cD, 500, .inl T3)), (k4, .inl (cE, 500, .inl NK)), (t4, .inl (cF, 500, .inl NT))]) [0, 1, 2, 3, 4] (by decide) rfl
          have hKc := hK.sub (tys' := [(cC, .int), (cD, .int), (cE, .int), (cF, .int)]) [2, 3, 4, 5] rfl
          have hFc := va_free (wc := [(h3, .inr (2, [.ref k3, .ref t3, .int (nI n), .ref k4, .ref t4])), (k3, .inl (cC, 500, .inl K3)), (t3, .inl (cD, 500, .inl T3)), (k4, .inl (cE, 500, .inl NK)), (t4, .inl (cF, 500, .inl NT))]) hD hS hA [0, 1, 2, 3, 4] rfl
          refine va_calli (va_runV (As := [.int (xs (i + 1)), .int (xs (i + 2))]) (rest := [.int r_27]) ⟨hx, hb, hml, hown, hts⟩ (c_X3_rank l dC dI H.size h3 k3 t3 k4 t4 cC cD cE cF n K3 T3 NK NT hn (xs (i + 1)) (xs (i + 2))) (cwV 2 hts gL_law_X3_rank rfl rfl rfl (by decide +kernel) ⟨Nat.le_of_ble_eq_true rfl, Nat.le_of_ble_eq_true rfl⟩) ⟨fun a U g mk q => by obtain ⟨q0, q1, qP, qK, qD⟩ := q; exact ⟨q0, q1, qP, va_K.moved (u := U) (U := U.calling g mk a) (Vm.Alike.refl U.vm) qK, qD⟩, va_recv hKc hPc (ci := 2) (q0 := 0) rfl rfl, fun U hU hW => ⟨rfl, by rw [hU], by rw [hU]; exact hPc, va_K.moved hW.alike hKc, hDc.weaken (fun _ _ _ _ => trivial)⟩⟩ rfl rfl hl.1 rfl (lv_room (Nat.le_of_ble_eq_true rfl)) dL_law_597 ⟨Nat.le_of_ble_eq_true rfl, Nat.le_of_ble_eq_true rfl⟩) hS (fun q _ h => hFc q h) hFc (fun r_28 u tS H1 locs ht hvm hw hB hz1 hk1 hS => ?_)
          obtain ⟨hq2, rfl⟩ := hw
          obtain ⟨hP1, hK1, hD1⟩ := hB
          rw [ht] at hP1
          obtain ⟨hP, hD⟩ := va_join (wr := [(h, .inr (1, [.ref r, .int p1, .int p2, .int p3])), (r, .inr (0, [.ref k, .ref t, .int (nI n1), .int e1, .int w1])), (k, .inl (cA, 500, .inl K1)), (t, .inl (cB, 500, .inl T1))]) (w1 := [(h3, .inr (2, [.ref k3, .ref t3, .int (nI n), .ref k4, .ref t4])), (k3, .inl (cC, 500, .inl K3)), (t3, .inl (cD, 500, .inl T3)), (k4, .inl (cE, 500, .inl NK)), (t4, .inl (cF, 500, .inl NT))]) hP hD [0, 1, 2, 3, 4] [5, 6, 7, 8] rfl rfl (by decide) (by decide) hk1 hFc hP1 hD1
          generalize H1 = H at hP hS ⊢
          have hP : va_P (dC, dI) vwCl [(h, .inr (1, [.ref r, .int p1, .int p2, .int p3])), (r, .inr (0, [.ref k, .ref t, .int (nI n1), .int e1, .int w1])), (k, .inl (cA, 500, .inl K1)), (t, .inl (cB, 500, .inl T1)), (h3, .inr (2, [.ref k3, .ref t3, .int (nI n), .ref k4, .ref t4])), (k3, .inl (cC, 500, .inl K3)), (t3, .inl (cD, 500, .inl T3)), (k4, .inl (cE, 500, .inl NK)), (t4, .inl (cF, 500, .inl NT))] H := hP
          have hD : va_D (fun q : Nat => s.heap.size ≤ q) [(h, .inr (1, [.ref r, .int p1, .int p2, .int p3])), (r, .inr (0, [.ref k, .ref t, .int (nI n1), .int e1, .int w1])), (k, .inl (cA, 500, .inl K1)), (t, .inl (cB, 500, .inl T1)), (h3, .inr (2, [.ref k3, .ref t3, .int (nI n), .ref k4, .ref t4])), (k3, .inl (cC, 500, .inl K3)), (t3, .inl (cD, 500, .inl T3)), (k4, .inl (cE, 500, .inl NK)), (t4, .inl (cF, 500, .inl NT))] := hD
          have hrr := A_ran hn heq hq1 hq2
          have hag := ag_rd heq hsm.1 hsm.2
          have hn12 := hsm.1
          clear hsm
          subst hn12
          refine lv_icmp_eq (tgt := 687) hx hb dL_law_600 (by decide) (fun c600 => ?_) (fun c600 => ?_)
          · refine lv_iinc (v := (nI (i + 5))) (lv' := [(3, .int (nI (i + 5))), (0, .ref b), (1, .ref h), (2, .ref h3)]) hx hb dL_law_687 hl (k := 3) rfl (by first | exact nI_add i 5 | (rw [← nI_add]; rfl)) (by decide) rfl (fun ls hl => ?_)
            refine lv_goto (tgt := 18) hx hb dL_law_690 (by decide) ?_
            exact ihz ((i + 5), K1, T1, n1, e1, w1, p1, p2, p3, K3, T3, NK, NT) (by show L - (i + 5) < L - i; omega) _ _ _ ⟨by omega, hn1, hck1, hag, hP, hD, hS, lv_sub hl [1, 2, 3, 0] rfl⟩
          · exact absurd hrr c600
        · refine lv_tableIn (tgt := 605) (off := 573) hx hb dL_law_32 (by decide) (by decide) (by decide) (by decide) ?_
          refine lv_aload_n hx hb dL_law_605 rfl (lv_at hl 1 rfl) ?_
          refine lv_aload_n hx hb dL_law_606 rfl (lv_at hl 0 rfl) ?_
          refine lv_iload_n hx hb dL_law_607 rfl (lv_at hl 3 rfl) ?_
          refine lv_iconst (v := (nI 1)) hx hb dL_law_608 (by decide) ?_
          refine lv_iadd hx hb dL_law_609 ?_
          refine lz_top (y := (nI (i + 1))) (nI_add _ _) ?_
          refine lz_sld hx hb hX hbl hbA hS (i := i + 1) (by omega) hL dL_law_610 ?_
          have hPc := hP.sub (ws' := [(h, .inr (1, [.ref r, .int lp, .int lc, .int lw])), (r, .inr (0, [.ref k, .ref t, .int (nI n), .int cm, .int wr])), (k, .inl (cA, 500, .inl K)), (t, .inl (cB, 500, .inl T))]) [0, 1, 2, 3] rfl
          have hDc := hD.sub (ws' := [(h, .inr (1, [.ref r, .int lp, .int lc, .int lw])), (r, .inr (0, [.ref k, .ref t, .int (nI n), .int cm, .int wr])), (k, .inl (cA, 500, .inl K)), (t, .inl (cB, 500, .inl T))]) [0, 1, 2, 3] (by decide) rfl
          have hKc := hK.sub (tys' := [(cA, .int), (cB, .int)]) [0, 1] rfl
          have hFc := va_free (wc := [(h, .inr (1, [.ref r, .int lp, .int lc, .int lw])), (r, .inr (0, [.ref k, .ref t, .int (nI n), .int cm, .int wr])), (k, .inl (cA, 500, .inl K)), (t, .inl (cB, 500, .inl T))]) hD hS hA [0, 1, 2, 3] rfl
          refine va_calli (va_runV (As := [.int (xs (i + 1))]) (rest := []) ⟨hx, hb, hml, hown, hts⟩ (c_X2_key l dC dI H.size h r k t cA cB n cm wr lp lc lw K T hn hck (xs (i + 1))) (cwV 1 hts gL_law_X2_key rfl rfl rfl (by decide +kernel) ⟨Nat.le_of_ble_eq_true rfl, Nat.le_of_ble_eq_true rfl⟩) ⟨fun a U g mk q => by obtain ⟨q0, q1, qP, qK, qD⟩ := q; exact ⟨q0, q1, qP, va_K.moved (u := U) (U := U.calling g mk a) (Vm.Alike.refl U.vm) qK, qD⟩, va_recv hKc hPc (ci := 1) (q0 := 0) rfl rfl, fun U hU hW => ⟨rfl, by rw [hU], by rw [hU]; exact hPc, va_K.moved hW.alike hKc, hDc.weaken (fun _ _ _ _ => trivial)⟩⟩ rfl rfl hl.1 rfl (lv_room (Nat.le_of_ble_eq_true rfl)) dL_law_611 ⟨Nat.le_of_ble_eq_true rfl, Nat.le_of_ble_eq_true rfl⟩) hS (fun q _ h => hFc q h) hFc (fun r_29 u tS H1 locs ht hvm hw hB hz1 hk1 hS => ?_)
          obtain ⟨K1, T1, n1, e1, w1, p1, p2, p3⟩ := u
          obtain ⟨hP1, hK1, hD1⟩ := hB
          obtain ⟨hq1, hsm, hok⟩ := hw
          dsimp only at hq1 hsm
          obtain ⟨hn1, hck1⟩ := hok
          dsimp only at hn1 hck1
          rw [ht] at hP1
          obtain ⟨hP, hD⟩ := va_join (wr := [(h3, .inr (2, [.ref k3, .ref t3, .int (nI n), .ref k4, .ref t4])), (k3, .inl (cC, 500, .inl K3)), (t3, .inl (cD, 500, .inl T3)), (k4, .inl (cE, 500, .inl NK)), (t4, .inl (cF, 500, .inl NT))]) (w1 := [(h, .inr (1, [.ref r, .int p1, .int p2, .int p3])), (r, .inr (0, [.ref k, .ref t, .int (nI n1), .int e1, .int w1])), (k, .inl (cA, 500, .inl K1)), (t, .inl (cB, 500, .inl T1))]) hP hD [0, 1, 2, 3] [4, 5, 6, 7, 8] rfl rfl (by decide) (by decide) hk1 hFc hP1 hD1
          generalize H1 = H at hP hS ⊢
          have hP : va_P (dC, dI) vwCl [(h3, .inr (2, [.ref k3, .ref t3, .int (nI n), .ref k4, .ref t4])), (k3, .inl (cC, 500, .inl K3)), (t3, .inl (cD, 500, .inl T3)), (k4, .inl (cE, 500, .inl NK)), (t4, .inl (cF, 500, .inl NT)), (h, .inr (1, [.ref r, .int p1, .int p2, .int p3])), (r, .inr (0, [.ref k, .ref t, .int (nI n1), .int e1, .int w1])), (k, .inl (cA, 500, .inl K1)), (t, .inl (cB, 500, .inl T1))] H := hP
          have hD : va_D (fun q : Nat => s.heap.size ≤ q) [(h3, .inr (2, [.ref k3, .ref t3, .int (nI n), .ref k4, .ref t4])), (k3, .inl (cC, 500, .inl K3)), (t3, .inl (cD, 500, .inl T3)), (k4, .inl (cE, 500, .inl NK)), (t4, .inl (cF, 500, .inl NT)), (h, .inr (1, [.ref r, .int p1, .int p2, .int p3])), (r, .inr (0, [.ref k, .ref t, .int (nI n1), .int e1, .int w1])), (k, .inl (cA, 500, .inl K1)), (t, .inl (cB, 500, .inl T1))] := hD
          refine lv_aload_n hx hb dL_law_614 rfl (lv_at hl 2 rfl) ?_
          refine lv_aload_n hx hb dL_law_615 rfl (lv_at hl 0 rfl) ?_
          refine lv_iload_n hx hb dL_law_616 rfl (lv_at hl 3 rfl) ?_
          refine lv_iconst (v := (nI 1)) hx hb dL_law_617 (by decide) ?_
          refine lv_iadd hx hb dL_law_618 ?_
          refine lz_top (y := (nI (i + 1))) (nI_add _ _) ?_
          refine lz_sld hx hb hX hbl hbA hS (i := i + 1) (by omega) hL dL_law_619 ?_
          have hPc := hP.sub (ws' := [(h3, .inr (2, [.ref k3, .ref t3, .int (nI n), .ref k4, .ref t4])), (k3, .inl (cC, 500, .inl K3)), (t3, .inl (cD, 500, .inl T3)), (k4, .inl (cE, 500, .inl NK)), (t4, .inl (cF, 500, .inl NT))]) [0, 1, 2, 3, 4] rfl
          have hDc := hD.sub (ws' := [(h3, .inr (2, [.ref k3, .ref t3, .int (nI n), .ref k4, .ref t4])), (k3, .inl (cC, 500, .inl K3)), (t3, .inl (cD, 500, .inl T3)), (k4, .inl (cE, 500, .inl NK)), (t4, .inl (cF, 500, .inl NT))]) [0, 1, 2, 3, 4] (by decide) rfl
          have hKc := hK.sub (tys' := [(cC, .int), (cD, .int), (cE, .int), (cF, .int)]) [2, 3, 4, 5] rfl
          have hFc := va_free (wc := [(h3, .inr (2, [.ref k3, .ref t3, .int (nI n), .ref k4, .ref t4])), (k3, .inl (cC, 500, .inl K3)), (t3, .inl (cD, 500, .inl T3)), (k4, .inl (cE, 500, .inl NK)), (t4, .inl (cF, 500, .inl NT))]) hD hS hA [0, 1, 2, 3, 4] rfl
          refine va_calli (va_runV (As := [.int (xs (i + 1))]) (rest := [.int r_29]) ⟨hx, hb, hml, hown, hts⟩ (c_X3_key l dC dI H.size h3 k3 t3 k4 t4 cC cD cE cF n K3 T3 NK NT hn (xs (i + 1))) (cwV 1 hts gL_law_X3_key rfl rfl rfl (by decide +kernel) ⟨Nat.le_of_ble_eq_true rfl, Nat.le_of_ble_eq_true rfl⟩) ⟨fun a U g mk q => by obtain ⟨q0, q1, qP, qK, qD⟩ := q; exact ⟨q0, q1, qP, va_K.moved (u := U) (U := U.calling g mk a) (Vm.Alike.refl U.vm) qK, qD⟩, va_recv hKc hPc (ci := 2) (q0 := 0) rfl rfl, fun U hU hW => ⟨rfl, by rw [hU], by rw [hU]; exact hPc, va_K.moved hW.alike hKc, hDc.weaken (fun _ _ _ _ => trivial)⟩⟩ rfl rfl hl.1 rfl (lv_room (Nat.le_of_ble_eq_true rfl)) dL_law_620 ⟨Nat.le_of_ble_eq_true rfl, Nat.le_of_ble_eq_true rfl⟩) hS (fun q _ h => hFc q h) hFc (fun r_30 u tS H1 locs ht hvm hw hB hz1 hk1 hS => ?_)
          obtain ⟨hq2, rfl⟩ := hw
          obtain ⟨hP1, hK1, hD1⟩ := hB
          rw [ht] at hP1
          obtain ⟨hP, hD⟩ := va_join (wr := [(h, .inr (1, [.ref r, .int p1, .int p2, .int p3])), (r, .inr (0, [.ref k, .ref t, .int (nI n1), .int e1, .int w1])), (k, .inl (cA, 500, .inl K1)), (t, .inl (cB, 500, .inl T1))]) (w1 := [(h3, .inr (2, [.ref k3, .ref t3, .int (nI n), .ref k4, .ref t4])), (k3, .inl (cC, 500, .inl K3)), (t3, .inl (cD, 500, .inl T3)), (k4, .inl (cE, 500, .inl NK)), (t4, .inl (cF, 500, .inl NT))]) hP hD [0, 1, 2, 3, 4] [5, 6, 7, 8] rfl rfl (by decide) (by decide) hk1 hFc hP1 hD1
          generalize H1 = H at hP hS ⊢
          have hP : va_P (dC, dI) vwCl [(h, .inr (1, [.ref r, .int p1, .int p2, .int p3])), (r, .inr (0, [.ref k, .ref t, .int (nI n1), .int e1, .int w1])), (k, .inl (cA, 500, .inl K1)), (t, .inl (cB, 500, .inl T1)), (h3, .inr (2, [.ref k3, .ref t3, .int (nI n), .ref k4, .ref t4])), (k3, .inl (cC, 500, .inl K3)), (t3, .inl (cD, 500, .inl T3)), (k4, .inl (cE, 500, .inl NK)), (t4, .inl (cF, 500, .inl NT))] H := hP
          have hD : va_D (fun q : Nat => s.heap.size ≤ q) [(h, .inr (1, [.ref r, .int p1, .int p2, .int p3])), (r, .inr (0, [.ref k, .ref t, .int (nI n1), .int e1, .int w1])), (k, .inl (cA, 500, .inl K1)), (t, .inl (cB, 500, .inl T1)), (h3, .inr (2, [.ref k3, .ref t3, .int (nI n), .ref k4, .ref t4])), (k3, .inl (cC, 500, .inl K3)), (t3, .inl (cD, 500, .inl T3)), (k4, .inl (cE, 500, .inl NK)), (t4, .inl (cF, 500, .inl NT))] := hD
          have hrr := A_key hn heq hq1 hq2
          have hag := ag_rd heq hsm.1 hsm.2
          have hn12 := hsm.1
          clear hsm
          subst hn12
          refine lv_icmp_eq (tgt := 687) hx hb dL_law_623 (by decide) (fun c623 => ?_) (fun c623 => ?_)
          · refine lv_iinc (v := (nI (i + 5))) (lv' := [(3, .int (nI (i + 5))), (0, .ref b), (1, .ref h), (2, .ref h3)]) hx hb dL_law_687 hl (k := 3) rfl (by first | exact nI_add i 5 | (rw [← nI_add]; rfl)) (by decide) rfl (fun ls hl => ?_)
            refine lv_goto (tgt := 18) hx hb dL_law_690 (by decide) ?_
            exact ihz ((i + 5), K1, T1, n1, e1, w1, p1, p2, p3, K3, T3, NK, NT) (by show L - (i + 5) < L - i; omega) _ _ _ ⟨by omega, hn1, hck1, hag, hP, hD, hS, lv_sub hl [1, 2, 3, 0] rfl⟩
          · exact absurd hrr c623
        · refine lv_tableIn (tgt := 628) (off := 596) hx hb dL_law_32 (by decide) (by decide) (by decide) (by decide) ?_
          refine lv_aload_n hx hb dL_law_628 rfl (lv_at hl 1 rfl) ?_
          refine lv_aload_n hx hb dL_law_629 rfl (lv_at hl 0 rfl) ?_
          refine lv_iload_n hx hb dL_law_630 rfl (lv_at hl 3 rfl) ?_
          refine lv_iconst (v := (nI 1)) hx hb dL_law_631 (by decide) ?_
          refine lv_iadd hx hb dL_law_632 ?_
          refine lz_top (y := (nI (i + 1))) (nI_add _ _) ?_
          refine lz_sld hx hb hX hbl hbA hS (i := i + 1) (by omega) hL dL_law_633 ?_
          have hPc := hP.sub (ws' := [(h, .inr (1, [.ref r, .int lp, .int lc, .int lw])), (r, .inr (0, [.ref k, .ref t, .int (nI n), .int cm, .int wr])), (k, .inl (cA, 500, .inl K)), (t, .inl (cB, 500, .inl T))]) [0, 1, 2, 3] rfl
          have hDc := hD.sub (ws' := [(h, .inr (1, [.ref r, .int lp, .int lc, .int lw])), (r, .inr (0, [.ref k, .ref t, .int (nI n), .int cm, .int wr])), (k, .inl (cA, 500, .inl K)), (t, .inl (cB, 500, .inl T))]) [0, 1, 2, 3] (by decide) rfl
          have hKc := hK.sub (tys' := [(cA, .int), (cB, .int)]) [0, 1] rfl
          have hFc := va_free (wc := [(h, .inr (1, [.ref r, .int lp, .int lc, .int lw])), (r, .inr (0, [.ref k, .ref t, .int (nI n), .int cm, .int wr])), (k, .inl (cA, 500, .inl K)), (t, .inl (cB, 500, .inl T))]) hD hS hA [0, 1, 2, 3] rfl
          refine va_calli (va_runV (As := [.int (xs (i + 1))]) (rest := []) ⟨hx, hb, hml, hown, hts⟩ (c_X2_tag l dC dI H.size h r k t cA cB n cm wr lp lc lw K T hn hck (xs (i + 1))) (cwV 1 hts gL_law_X2_tag rfl rfl rfl (by decide +kernel) ⟨Nat.le_of_ble_eq_true rfl, Nat.le_of_ble_eq_true rfl⟩) ⟨fun a U g mk q => by obtain ⟨q0, q1, qP, qK, qD⟩ := q; exact ⟨q0, q1, qP, va_K.moved (u := U) (U := U.calling g mk a) (Vm.Alike.refl U.vm) qK, qD⟩, va_recv hKc hPc (ci := 1) (q0 := 0) rfl rfl, fun U hU hW => ⟨rfl, by rw [hU], by rw [hU]; exact hPc, va_K.moved hW.alike hKc, hDc.weaken (fun _ _ _ _ => trivial)⟩⟩ rfl rfl hl.1 rfl (lv_room (Nat.le_of_ble_eq_true rfl)) dL_law_634 ⟨Nat.le_of_ble_eq_true rfl, Nat.le_of_ble_eq_true rfl⟩) hS (fun q _ h => hFc q h) hFc (fun r_31 u tS H1 locs ht hvm hw hB hz1 hk1 hS => ?_)
          obtain ⟨K1, T1, n1, e1, w1, p1, p2, p3⟩ := u
          obtain ⟨hP1, hK1, hD1⟩ := hB
          obtain ⟨hq1, hsm, hok⟩ := hw
          dsimp only at hq1 hsm
          obtain ⟨hn1, hck1⟩ := hok
          dsimp only at hn1 hck1
          rw [ht] at hP1
          obtain ⟨hP, hD⟩ := va_join (wr := [(h3, .inr (2, [.ref k3, .ref t3, .int (nI n), .ref k4, .ref t4])), (k3, .inl (cC, 500, .inl K3)), (t3, .inl (cD, 500, .inl T3)), (k4, .inl (cE, 500, .inl NK)), (t4, .inl (cF, 500, .inl NT))]) (w1 := [(h, .inr (1, [.ref r, .int p1, .int p2, .int p3])), (r, .inr (0, [.ref k, .ref t, .int (nI n1), .int e1, .int w1])), (k, .inl (cA, 500, .inl K1)), (t, .inl (cB, 500, .inl T1))]) hP hD [0, 1, 2, 3] [4, 5, 6, 7, 8] rfl rfl (by decide) (by decide) hk1 hFc hP1 hD1
          generalize H1 = H at hP hS ⊢
          have hP : va_P (dC, dI) vwCl [(h3, .inr (2, [.ref k3, .ref t3, .int (nI n), .ref k4, .ref t4])), (k3, .inl (cC, 500, .inl K3)), (t3, .inl (cD, 500, .inl T3)), (k4, .inl (cE, 500, .inl NK)), (t4, .inl (cF, 500, .inl NT)), (h, .inr (1, [.ref r, .int p1, .int p2, .int p3])), (r, .inr (0, [.ref k, .ref t, .int (nI n1), .int e1, .int w1])), (k, .inl (cA, 500, .inl K1)), (t, .inl (cB, 500, .inl T1))] H := hP
          have hD : va_D (fun q : Nat => s.heap.size ≤ q) [(h3, .inr (2, [.ref k3, .ref t3, .int (nI n), .ref k4, .ref t4])), (k3, .inl (cC, 500, .inl K3)), (t3, .inl (cD, 500, .inl T3)), (k4, .inl (cE, 500, .inl NK)), (t4, .inl (cF, 500, .inl NT)), (h, .inr (1, [.ref r, .int p1, .int p2, .int p3])), (r, .inr (0, [.ref k, .ref t, .int (nI n1), .int e1, .int w1])), (k, .inl (cA, 500, .inl K1)), (t, .inl (cB, 500, .inl T1))] := hD
          refine lv_aload_n hx hb dL_law_637 rfl (lv_at hl 2 rfl) ?_
          refine lv_aload_n hx hb dL_law_638 rfl (lv_at hl 0 rfl) ?_
          refine lv_iload_n hx hb dL_law_639 rfl (lv_at hl 3 rfl) ?_
          refine lv_iconst (v := (nI 1)) hx hb dL_law_640 (by decide) ?_
          refine lv_iadd hx hb dL_law_641 ?_
          refine lz_top (y := (nI (i + 1))) (nI_add _ _) ?_
          refine lz_sld hx hb hX hbl hbA hS (i := i + 1) (by omega) hL dL_law_642 ?_
          have hPc := hP.sub (ws' := [(h3, .inr (2, [.ref k3, .ref t3, .int (nI n), .ref k4, .ref t4])), (k3, .inl (cC, 500, .inl K3)), (t3, .inl (cD, 500, .inl T3)), (k4, .inl (cE, 500, .inl NK)), (t4, .inl (cF, 500, .inl NT))]) [0, 1, 2, 3, 4] rfl
          have hDc := hD.sub (ws' := [(h3, .inr (2, [.ref k3, .ref t3, .int (nI n), .ref k4, .ref t4])), (k3, .inl (cC, 500, .inl K3)), (t3, .inl (cD, 500, .inl T3)), (k4, .inl (cE, 500, .inl NK)), (t4, .inl (cF, 500, .inl NT))]) [0, 1, 2, 3, 4] (by decide) rfl
          have hKc := hK.sub (tys' := [(cC, .int), (cD, .int), (cE, .int), (cF, .int)]) [2, 3, 4, 5] rfl
          have hFc := va_free (wc := [(h3, .inr (2, [.ref k3, .ref t3, .int (nI n), .ref k4, .ref t4])), (k3, .inl (cC, 500, .inl K3)), (t3, .inl (cD, 500, .inl T3)), (k4, .inl (cE, 500, .inl NK)), (t4, .inl (cF, 500, .inl NT))]) hD hS hA [0, 1, 2, 3, 4] rfl
          refine va_calli (va_runV (As := [.int (xs (i + 1))]) (rest := [.int r_31]) ⟨hx, hb, hml, hown, hts⟩ (c_X3_tag l dC dI H.size h3 k3 t3 k4 t4 cC cD cE cF n K3 T3 NK NT hn (xs (i + 1))) (cwV 1 hts gL_law_X3_tag rfl rfl rfl (by decide +kernel) ⟨Nat.le_of_ble_eq_true rfl, Nat.le_of_ble_eq_true rfl⟩) ⟨fun a U g mk q => by obtain ⟨q0, q1, qP, qK, qD⟩ := q; exact ⟨q0, q1, qP, va_K.moved (u := U) (U := U.calling g mk a) (Vm.Alike.refl U.vm) qK, qD⟩, va_recv hKc hPc (ci := 2) (q0 := 0) rfl rfl, fun U hU hW => ⟨rfl, by rw [hU], by rw [hU]; exact hPc, va_K.moved hW.alike hKc, hDc.weaken (fun _ _ _ _ => trivial)⟩⟩ rfl rfl hl.1 rfl (lv_room (Nat.le_of_ble_eq_true rfl)) dL_law_643 ⟨Nat.le_of_ble_eq_true rfl, Nat.le_of_ble_eq_true rfl⟩) hS (fun q _ h => hFc q h) hFc (fun r_32 u tS H1 locs ht hvm hw hB hz1 hk1 hS => ?_)
          obtain ⟨hq2, rfl⟩ := hw
          obtain ⟨hP1, hK1, hD1⟩ := hB
          rw [ht] at hP1
          obtain ⟨hP, hD⟩ := va_join (wr := [(h, .inr (1, [.ref r, .int p1, .int p2, .int p3])), (r, .inr (0, [.ref k, .ref t, .int (nI n1), .int e1, .int w1])), (k, .inl (cA, 500, .inl K1)), (t, .inl (cB, 500, .inl T1))]) (w1 := [(h3, .inr (2, [.ref k3, .ref t3, .int (nI n), .ref k4, .ref t4])), (k3, .inl (cC, 500, .inl K3)), (t3, .inl (cD, 500, .inl T3)), (k4, .inl (cE, 500, .inl NK)), (t4, .inl (cF, 500, .inl NT))]) hP hD [0, 1, 2, 3, 4] [5, 6, 7, 8] rfl rfl (by decide) (by decide) hk1 hFc hP1 hD1
          generalize H1 = H at hP hS ⊢
          have hP : va_P (dC, dI) vwCl [(h, .inr (1, [.ref r, .int p1, .int p2, .int p3])), (r, .inr (0, [.ref k, .ref t, .int (nI n1), .int e1, .int w1])), (k, .inl (cA, 500, .inl K1)), (t, .inl (cB, 500, .inl T1)), (h3, .inr (2, [.ref k3, .ref t3, .int (nI n), .ref k4, .ref t4])), (k3, .inl (cC, 500, .inl K3)), (t3, .inl (cD, 500, .inl T3)), (k4, .inl (cE, 500, .inl NK)), (t4, .inl (cF, 500, .inl NT))] H := hP
          have hD : va_D (fun q : Nat => s.heap.size ≤ q) [(h, .inr (1, [.ref r, .int p1, .int p2, .int p3])), (r, .inr (0, [.ref k, .ref t, .int (nI n1), .int e1, .int w1])), (k, .inl (cA, 500, .inl K1)), (t, .inl (cB, 500, .inl T1)), (h3, .inr (2, [.ref k3, .ref t3, .int (nI n), .ref k4, .ref t4])), (k3, .inl (cC, 500, .inl K3)), (t3, .inl (cD, 500, .inl T3)), (k4, .inl (cE, 500, .inl NK)), (t4, .inl (cF, 500, .inl NT))] := hD
          have hrr := A_tag hn heq hq1 hq2
          have hag := ag_rd heq hsm.1 hsm.2
          have hn12 := hsm.1
          clear hsm
          subst hn12
          refine lv_icmp_eq (tgt := 687) hx hb dL_law_646 (by decide) (fun c646 => ?_) (fun c646 => ?_)
          · refine lv_iinc (v := (nI (i + 5))) (lv' := [(3, .int (nI (i + 5))), (0, .ref b), (1, .ref h), (2, .ref h3)]) hx hb dL_law_687 hl (k := 3) rfl (by first | exact nI_add i 5 | (rw [← nI_add]; rfl)) (by decide) rfl (fun ls hl => ?_)
            refine lv_goto (tgt := 18) hx hb dL_law_690 (by decide) ?_
            exact ihz ((i + 5), K1, T1, n1, e1, w1, p1, p2, p3, K3, T3, NK, NT) (by show L - (i + 5) < L - i; omega) _ _ _ ⟨by omega, hn1, hck1, hag, hP, hD, hS, lv_sub hl [1, 2, 3, 0] rfl⟩
          · exact absurd hrr c646
        · refine lv_tableIn (tgt := 651) (off := 619) hx hb dL_law_32 (by decide) (by decide) (by decide) (by decide) ?_
          refine lv_aload_n hx hb dL_law_651 rfl (lv_at hl 1 rfl) ?_
          refine lv_aload_n hx hb dL_law_652 rfl (lv_at hl 0 rfl) ?_
          refine lv_iload_n hx hb dL_law_653 rfl (lv_at hl 3 rfl) ?_
          refine lv_iconst (v := (nI 1)) hx hb dL_law_654 (by decide) ?_
          refine lv_iadd hx hb dL_law_655 ?_
          refine lz_top (y := (nI (i + 1))) (nI_add _ _) ?_
          refine lz_sld hx hb hX hbl hbA hS (i := i + 1) (by omega) hL dL_law_656 ?_
          have hPc := hP.sub (ws' := [(h, .inr (1, [.ref r, .int lp, .int lc, .int lw])), (r, .inr (0, [.ref k, .ref t, .int (nI n), .int cm, .int wr])), (k, .inl (cA, 500, .inl K)), (t, .inl (cB, 500, .inl T))]) [0, 1, 2, 3] rfl
          have hDc := hD.sub (ws' := [(h, .inr (1, [.ref r, .int lp, .int lc, .int lw])), (r, .inr (0, [.ref k, .ref t, .int (nI n), .int cm, .int wr])), (k, .inl (cA, 500, .inl K)), (t, .inl (cB, 500, .inl T))]) [0, 1, 2, 3] (by decide) rfl
          have hKc := hK.sub (tys' := [(cA, .int), (cB, .int)]) [0, 1] rfl
          have hFc := va_free (wc := [(h, .inr (1, [.ref r, .int lp, .int lc, .int lw])), (r, .inr (0, [.ref k, .ref t, .int (nI n), .int cm, .int wr])), (k, .inl (cA, 500, .inl K)), (t, .inl (cB, 500, .inl T))]) hD hS hA [0, 1, 2, 3] rfl
          refine va_calli (va_runV (As := [.int (xs (i + 1))]) (rest := []) ⟨hx, hb, hml, hown, hts⟩ (c_X2_count l dC dI H.size h r k t cA cB n cm wr lp lc lw K T hn hck (xs (i + 1))) (cwV 1 hts gL_law_X2_count rfl rfl rfl (by decide +kernel) ⟨Nat.le_of_ble_eq_true rfl, Nat.le_of_ble_eq_true rfl⟩) ⟨fun a U g mk q => by obtain ⟨q0, q1, qP, qK, qD⟩ := q; exact ⟨q0, q1, qP, va_K.moved (u := U) (U := U.calling g mk a) (Vm.Alike.refl U.vm) qK, qD⟩, va_recv hKc hPc (ci := 1) (q0 := 0) rfl rfl, fun U hU hW => ⟨rfl, by rw [hU], by rw [hU]; exact hPc, va_K.moved hW.alike hKc, hDc.weaken (fun _ _ _ _ => trivial)⟩⟩ rfl rfl hl.1 rfl (lv_room (Nat.le_of_ble_eq_true rfl)) dL_law_657 ⟨Nat.le_of_ble_eq_true rfl, Nat.le_of_ble_eq_true rfl⟩) hS (fun q _ h => hFc q h) hFc (fun r_33 u tS H1 locs ht hvm hw hB hz1 hk1 hS => ?_)
          obtain ⟨K1, T1, n1, e1, w1, p1, p2, p3⟩ := u
          obtain ⟨hP1, hK1, hD1⟩ := hB
          obtain ⟨hq1, hsm, hok⟩ := hw
          dsimp only at hq1 hsm
          obtain ⟨hn1, hck1⟩ := hok
          dsimp only at hn1 hck1
          rw [ht] at hP1
          obtain ⟨hP, hD⟩ := va_join (wr := [(h3, .inr (2, [.ref k3, .ref t3, .int (nI n), .ref k4, .ref t4])), (k3, .inl (cC, 500, .inl K3)), (t3, .inl (cD, 500, .inl T3)), (k4, .inl (cE, 500, .inl NK)), (t4, .inl (cF, 500, .inl NT))]) (w1 := [(h, .inr (1, [.ref r, .int p1, .int p2, .int p3])), (r, .inr (0, [.ref k, .ref t, .int (nI n1), .int e1, .int w1])), (k, .inl (cA, 500, .inl K1)), (t, .inl (cB, 500, .inl T1))]) hP hD [0, 1, 2, 3] [4, 5, 6, 7, 8] rfl rfl (by decide) (by decide) hk1 hFc hP1 hD1
          generalize H1 = H at hP hS ⊢
          have hP : va_P (dC, dI) vwCl [(h3, .inr (2, [.ref k3, .ref t3, .int (nI n), .ref k4, .ref t4])), (k3, .inl (cC, 500, .inl K3)), (t3, .inl (cD, 500, .inl T3)), (k4, .inl (cE, 500, .inl NK)), (t4, .inl (cF, 500, .inl NT)), (h, .inr (1, [.ref r, .int p1, .int p2, .int p3])), (r, .inr (0, [.ref k, .ref t, .int (nI n1), .int e1, .int w1])), (k, .inl (cA, 500, .inl K1)), (t, .inl (cB, 500, .inl T1))] H := hP
          have hD : va_D (fun q : Nat => s.heap.size ≤ q) [(h3, .inr (2, [.ref k3, .ref t3, .int (nI n), .ref k4, .ref t4])), (k3, .inl (cC, 500, .inl K3)), (t3, .inl (cD, 500, .inl T3)), (k4, .inl (cE, 500, .inl NK)), (t4, .inl (cF, 500, .inl NT)), (h, .inr (1, [.ref r, .int p1, .int p2, .int p3])), (r, .inr (0, [.ref k, .ref t, .int (nI n1), .int e1, .int w1])), (k, .inl (cA, 500, .inl K1)), (t, .inl (cB, 500, .inl T1))] := hD
          refine lv_aload_n hx hb dL_law_660 rfl (lv_at hl 2 rfl) ?_
          refine lv_aload_n hx hb dL_law_661 rfl (lv_at hl 0 rfl) ?_
          refine lv_iload_n hx hb dL_law_662 rfl (lv_at hl 3 rfl) ?_
          refine lv_iconst (v := (nI 1)) hx hb dL_law_663 (by decide) ?_
          refine lv_iadd hx hb dL_law_664 ?_
          refine lz_top (y := (nI (i + 1))) (nI_add _ _) ?_
          refine lz_sld hx hb hX hbl hbA hS (i := i + 1) (by omega) hL dL_law_665 ?_
          have hPc := hP.sub (ws' := [(h3, .inr (2, [.ref k3, .ref t3, .int (nI n), .ref k4, .ref t4])), (k3, .inl (cC, 500, .inl K3)), (t3, .inl (cD, 500, .inl T3)), (k4, .inl (cE, 500, .inl NK)), (t4, .inl (cF, 500, .inl NT))]) [0, 1, 2, 3, 4] rfl
          have hDc := hD.sub (ws' := [(h3, .inr (2, [.ref k3, .ref t3, .int (nI n), .ref k4, .ref t4])), (k3, .inl (cC, 500, .inl K3)), (t3, .inl (cD, 500, .inl T3)), (k4, .inl (cE, 500, .inl NK)), (t4, .inl (cF, 500, .inl NT))]) [0, 1, 2, 3, 4] (by decide) rfl
          have hKc := hK.sub (tys' := [(cC, .int), (cD, .int), (cE, .int), (cF, .int)]) [2, 3, 4, 5] rfl
          have hFc := va_free (wc := [(h3, .inr (2, [.ref k3, .ref t3, .int (nI n), .ref k4, .ref t4])), (k3, .inl (cC, 500, .inl K3)), (t3, .inl (cD, 500, .inl T3)), (k4, .inl (cE, 500, .inl NK)), (t4, .inl (cF, 500, .inl NT))]) hD hS hA [0, 1, 2, 3, 4] rfl
          refine va_calli (va_runV (As := [.int (xs (i + 1))]) (rest := [.int r_33]) ⟨hx, hb, hml, hown, hts⟩ (c_X3_count l dC dI H.size h3 k3 t3 k4 t4 cC cD cE cF n K3 T3 NK NT hn (xs (i + 1))) (cwV 1 hts gL_law_X3_count rfl rfl rfl (by decide +kernel) ⟨Nat.le_of_ble_eq_true rfl, Nat.le_of_ble_eq_true rfl⟩) ⟨fun a U g mk q => by obtain ⟨q0, q1, qP, qK, qD⟩ := q; exact ⟨q0, q1, qP, va_K.moved (u := U) (U := U.calling g mk a) (Vm.Alike.refl U.vm) qK, qD⟩, va_recv hKc hPc (ci := 2) (q0 := 0) rfl rfl, fun U hU hW => ⟨rfl, by rw [hU], by rw [hU]; exact hPc, va_K.moved hW.alike hKc, hDc.weaken (fun _ _ _ _ => trivial)⟩⟩ rfl rfl hl.1 rfl (lv_room (Nat.le_of_ble_eq_true rfl)) dL_law_666 ⟨Nat.le_of_ble_eq_true rfl, Nat.le_of_ble_eq_true rfl⟩) hS (fun q _ h => hFc q h) hFc (fun r_34 u tS H1 locs ht hvm hw hB hz1 hk1 hS => ?_)
          obtain ⟨hq2, rfl⟩ := hw
          obtain ⟨hP1, hK1, hD1⟩ := hB
          rw [ht] at hP1
          obtain ⟨hP, hD⟩ := va_join (wr := [(h, .inr (1, [.ref r, .int p1, .int p2, .int p3])), (r, .inr (0, [.ref k, .ref t, .int (nI n1), .int e1, .int w1])), (k, .inl (cA, 500, .inl K1)), (t, .inl (cB, 500, .inl T1))]) (w1 := [(h3, .inr (2, [.ref k3, .ref t3, .int (nI n), .ref k4, .ref t4])), (k3, .inl (cC, 500, .inl K3)), (t3, .inl (cD, 500, .inl T3)), (k4, .inl (cE, 500, .inl NK)), (t4, .inl (cF, 500, .inl NT))]) hP hD [0, 1, 2, 3, 4] [5, 6, 7, 8] rfl rfl (by decide) (by decide) hk1 hFc hP1 hD1
          generalize H1 = H at hP hS ⊢
          have hP : va_P (dC, dI) vwCl [(h, .inr (1, [.ref r, .int p1, .int p2, .int p3])), (r, .inr (0, [.ref k, .ref t, .int (nI n1), .int e1, .int w1])), (k, .inl (cA, 500, .inl K1)), (t, .inl (cB, 500, .inl T1)), (h3, .inr (2, [.ref k3, .ref t3, .int (nI n), .ref k4, .ref t4])), (k3, .inl (cC, 500, .inl K3)), (t3, .inl (cD, 500, .inl T3)), (k4, .inl (cE, 500, .inl NK)), (t4, .inl (cF, 500, .inl NT))] H := hP
          have hD : va_D (fun q : Nat => s.heap.size ≤ q) [(h, .inr (1, [.ref r, .int p1, .int p2, .int p3])), (r, .inr (0, [.ref k, .ref t, .int (nI n1), .int e1, .int w1])), (k, .inl (cA, 500, .inl K1)), (t, .inl (cB, 500, .inl T1)), (h3, .inr (2, [.ref k3, .ref t3, .int (nI n), .ref k4, .ref t4])), (k3, .inl (cC, 500, .inl K3)), (t3, .inl (cD, 500, .inl T3)), (k4, .inl (cE, 500, .inl NK)), (t4, .inl (cF, 500, .inl NT))] := hD
          have hrr := A_cou heq hq1 hq2
          have hag := ag_rd heq hsm.1 hsm.2
          have hn12 := hsm.1
          clear hsm
          subst hn12
          refine lv_icmp_eq (tgt := 687) hx hb dL_law_669 (by decide) (fun c669 => ?_) (fun c669 => ?_)
          · refine lv_iinc (v := (nI (i + 5))) (lv' := [(3, .int (nI (i + 5))), (0, .ref b), (1, .ref h), (2, .ref h3)]) hx hb dL_law_687 hl (k := 3) rfl (by first | exact nI_add i 5 | (rw [← nI_add]; rfl)) (by decide) rfl (fun ls hl => ?_)
            refine lv_goto (tgt := 18) hx hb dL_law_690 (by decide) ?_
            exact ihz ((i + 5), K1, T1, n1, e1, w1, p1, p2, p3, K3, T3, NK, NT) (by show L - (i + 5) < L - i; omega) _ _ _ ⟨by omega, hn1, hck1, hag, hP, hD, hS, lv_sub hl [1, 2, 3, 0] rfl⟩
          · exact absurd hrr c669
        · refine lv_tableIn (tgt := 674) (off := 642) hx hb dL_law_32 (by decide) (by decide) (by decide) (by decide) ?_
          refine lv_aload_n hx hb dL_law_674 rfl (lv_at hl 1 rfl) ?_
          have hPc := hP.sub (ws' := [(h, .inr (1, [.ref r, .int lp, .int lc, .int lw])), (r, .inr (0, [.ref k, .ref t, .int (nI n), .int cm, .int wr])), (k, .inl (cA, 500, .inl K)), (t, .inl (cB, 500, .inl T))]) [0, 1, 2, 3] rfl
          have hDc := hD.sub (ws' := [(h, .inr (1, [.ref r, .int lp, .int lc, .int lw])), (r, .inr (0, [.ref k, .ref t, .int (nI n), .int cm, .int wr])), (k, .inl (cA, 500, .inl K)), (t, .inl (cB, 500, .inl T))]) [0, 1, 2, 3] (by decide) rfl
          have hKc := hK.sub (tys' := [(cA, .int), (cB, .int)]) [0, 1] rfl
          have hFc := va_free (wc := [(h, .inr (1, [.ref r, .int lp, .int lc, .int lw])), (r, .inr (0, [.ref k, .ref t, .int (nI n), .int cm, .int wr])), (k, .inl (cA, 500, .inl K)), (t, .inl (cB, 500, .inl T))]) hD hS hA [0, 1, 2, 3] rfl
          refine va_calli (va_runV (As := []) (rest := []) ⟨hx, hb, hml, hown, hts⟩ (c_X2_check l dC dI H.size h r k t cA cB n cm wr lp lc lw K T hn hck ) (cwV 0 hts gL_law_X2_check rfl rfl rfl (by decide +kernel) ⟨Nat.le_of_ble_eq_true rfl, Nat.le_of_ble_eq_true rfl⟩) ⟨fun a U g mk q => by obtain ⟨q0, q1, qP, qK, qD⟩ := q; exact ⟨q0, q1, qP, va_K.moved (u := U) (U := U.calling g mk a) (Vm.Alike.refl U.vm) qK, qD⟩, va_recv hKc hPc (ci := 1) (q0 := 0) rfl rfl, fun U hU hW => ⟨rfl, by rw [hU], by rw [hU]; exact hPc, va_K.moved hW.alike hKc, hDc.weaken (fun _ _ _ _ => trivial)⟩⟩ rfl rfl hl.1 rfl (lv_room (Nat.le_of_ble_eq_true rfl)) dL_law_675 ⟨Nat.le_of_ble_eq_true rfl, Nat.le_of_ble_eq_true rfl⟩) hS (fun q _ h => hFc q h) hFc (fun r_35 u tS H1 locs ht hvm hw hB hz1 hk1 hS => ?_)
          obtain ⟨K1, T1, n1, e1, w1, p1, p2, p3⟩ := u
          obtain ⟨hP1, hK1, hD1⟩ := hB
          obtain ⟨hq1, hsm, hok⟩ := hw
          dsimp only at hq1 hsm
          obtain ⟨hn1, hck1⟩ := hok
          dsimp only at hn1 hck1
          rw [ht] at hP1
          obtain ⟨hP, hD⟩ := va_join (wr := [(h3, .inr (2, [.ref k3, .ref t3, .int (nI n), .ref k4, .ref t4])), (k3, .inl (cC, 500, .inl K3)), (t3, .inl (cD, 500, .inl T3)), (k4, .inl (cE, 500, .inl NK)), (t4, .inl (cF, 500, .inl NT))]) (w1 := [(h, .inr (1, [.ref r, .int p1, .int p2, .int p3])), (r, .inr (0, [.ref k, .ref t, .int (nI n1), .int e1, .int w1])), (k, .inl (cA, 500, .inl K1)), (t, .inl (cB, 500, .inl T1))]) hP hD [0, 1, 2, 3] [4, 5, 6, 7, 8] rfl rfl (by decide) (by decide) hk1 hFc hP1 hD1
          generalize H1 = H at hP hS ⊢
          have hP : va_P (dC, dI) vwCl [(h3, .inr (2, [.ref k3, .ref t3, .int (nI n), .ref k4, .ref t4])), (k3, .inl (cC, 500, .inl K3)), (t3, .inl (cD, 500, .inl T3)), (k4, .inl (cE, 500, .inl NK)), (t4, .inl (cF, 500, .inl NT)), (h, .inr (1, [.ref r, .int p1, .int p2, .int p3])), (r, .inr (0, [.ref k, .ref t, .int (nI n1), .int e1, .int w1])), (k, .inl (cA, 500, .inl K1)), (t, .inl (cB, 500, .inl T1))] H := hP
          have hD : va_D (fun q : Nat => s.heap.size ≤ q) [(h3, .inr (2, [.ref k3, .ref t3, .int (nI n), .ref k4, .ref t4])), (k3, .inl (cC, 500, .inl K3)), (t3, .inl (cD, 500, .inl T3)), (k4, .inl (cE, 500, .inl NK)), (t4, .inl (cF, 500, .inl NT)), (h, .inr (1, [.ref r, .int p1, .int p2, .int p3])), (r, .inr (0, [.ref k, .ref t, .int (nI n1), .int e1, .int w1])), (k, .inl (cA, 500, .inl K1)), (t, .inl (cB, 500, .inl T1))] := hD
          refine lv_aload_n hx hb dL_law_678 rfl (lv_at hl 2 rfl) ?_
          have hPc := hP.sub (ws' := [(h3, .inr (2, [.ref k3, .ref t3, .int (nI n), .ref k4, .ref t4])), (k3, .inl (cC, 500, .inl K3)), (t3, .inl (cD, 500, .inl T3)), (k4, .inl (cE, 500, .inl NK)), (t4, .inl (cF, 500, .inl NT))]) [0, 1, 2, 3, 4] rfl
          have hDc := hD.sub (ws' := [(h3, .inr (2, [.ref k3, .ref t3, .int (nI n), .ref k4, .ref t4])), (k3, .inl (cC, 500, .inl K3)), (t3, .inl (cD, 500, .inl T3)), (k4, .inl (cE, 500, .inl NK)), (t4, .inl (cF, 500, .inl NT))]) [0, 1, 2, 3, 4] (by decide) rfl
          have hKc := hK.sub (tys' := [(cC, .int), (cD, .int), (cE, .int), (cF, .int)]) [2, 3, 4, 5] rfl
          have hFc := va_free (wc := [(h3, .inr (2, [.ref k3, .ref t3, .int (nI n), .ref k4, .ref t4])), (k3, .inl (cC, 500, .inl K3)), (t3, .inl (cD, 500, .inl T3)), (k4, .inl (cE, 500, .inl NK)), (t4, .inl (cF, 500, .inl NT))]) hD hS hA [0, 1, 2, 3, 4] rfl
          refine va_calli (va_runV (As := []) (rest := [.int r_35]) ⟨hx, hb, hml, hown, hts⟩ (c_X3_check l dC dI H.size h3 k3 t3 k4 t4 cC cD cE cF n K3 T3 NK NT hn ) (cwV 0 hts gL_law_X3_check rfl rfl rfl (by decide +kernel) ⟨Nat.le_of_ble_eq_true rfl, Nat.le_of_ble_eq_true rfl⟩) ⟨fun a U g mk q => by obtain ⟨q0, q1, qP, qK, qD⟩ := q; exact ⟨q0, q1, qP, va_K.moved (u := U) (U := U.calling g mk a) (Vm.Alike.refl U.vm) qK, qD⟩, va_recv hKc hPc (ci := 2) (q0 := 0) rfl rfl, fun U hU hW => ⟨rfl, by rw [hU], by rw [hU]; exact hPc, va_K.moved hW.alike hKc, hDc.weaken (fun _ _ _ _ => trivial)⟩⟩ rfl rfl hl.1 rfl (lv_room (Nat.le_of_ble_eq_true rfl)) dL_law_679 ⟨Nat.le_of_ble_eq_true rfl, Nat.le_of_ble_eq_true rfl⟩) hS (fun q _ h => hFc q h) hFc (fun r_36 u tS H1 locs ht hvm hw hB hz1 hk1 hS => ?_)
          obtain ⟨hq2, rfl⟩ := hw
          obtain ⟨hP1, hK1, hD1⟩ := hB
          rw [ht] at hP1
          obtain ⟨hP, hD⟩ := va_join (wr := [(h, .inr (1, [.ref r, .int p1, .int p2, .int p3])), (r, .inr (0, [.ref k, .ref t, .int (nI n1), .int e1, .int w1])), (k, .inl (cA, 500, .inl K1)), (t, .inl (cB, 500, .inl T1))]) (w1 := [(h3, .inr (2, [.ref k3, .ref t3, .int (nI n), .ref k4, .ref t4])), (k3, .inl (cC, 500, .inl K3)), (t3, .inl (cD, 500, .inl T3)), (k4, .inl (cE, 500, .inl NK)), (t4, .inl (cF, 500, .inl NT))]) hP hD [0, 1, 2, 3, 4] [5, 6, 7, 8] rfl rfl (by decide) (by decide) hk1 hFc hP1 hD1
          generalize H1 = H at hP hS ⊢
          have hP : va_P (dC, dI) vwCl [(h, .inr (1, [.ref r, .int p1, .int p2, .int p3])), (r, .inr (0, [.ref k, .ref t, .int (nI n1), .int e1, .int w1])), (k, .inl (cA, 500, .inl K1)), (t, .inl (cB, 500, .inl T1)), (h3, .inr (2, [.ref k3, .ref t3, .int (nI n), .ref k4, .ref t4])), (k3, .inl (cC, 500, .inl K3)), (t3, .inl (cD, 500, .inl T3)), (k4, .inl (cE, 500, .inl NK)), (t4, .inl (cF, 500, .inl NT))] H := hP
          have hD : va_D (fun q : Nat => s.heap.size ≤ q) [(h, .inr (1, [.ref r, .int p1, .int p2, .int p3])), (r, .inr (0, [.ref k, .ref t, .int (nI n1), .int e1, .int w1])), (k, .inl (cA, 500, .inl K1)), (t, .inl (cB, 500, .inl T1)), (h3, .inr (2, [.ref k3, .ref t3, .int (nI n), .ref k4, .ref t4])), (k3, .inl (cC, 500, .inl K3)), (t3, .inl (cD, 500, .inl T3)), (k4, .inl (cE, 500, .inl NK)), (t4, .inl (cF, 500, .inl NT))] := hD
          have hrr : r_35 = r_36 := by rw [hq1, hq2]
          have hag := ag_rd heq hsm.1 hsm.2
          have hn12 := hsm.1
          clear hsm
          subst hn12
          refine lv_icmp_eq (tgt := 687) hx hb dL_law_682 (by decide) (fun c682 => ?_) (fun c682 => ?_)
          · refine lv_iinc (v := (nI (i + 5))) (lv' := [(3, .int (nI (i + 5))), (0, .ref b), (1, .ref h), (2, .ref h3)]) hx hb dL_law_687 hl (k := 3) rfl (by first | exact nI_add i 5 | (rw [← nI_add]; rfl)) (by decide) rfl (fun ls hl => ?_)
            refine lv_goto (tgt := 18) hx hb dL_law_690 (by decide) ?_
            exact ihz ((i + 5), K1, T1, n1, e1, w1, p1, p2, p3, K3, T3, NK, NT) (by show L - (i + 5) < L - i; omega) _ _ _ ⟨by omega, hn1, hck1, hag, hP, hD, hS, lv_sub hl [1, 2, 3, 0] rfl⟩
          · exact absurd hrr c682
      · refine lv_tableOut (tgt := 687) hx hb dL_law_32 (tb_hi hg17 hg) (by decide) ?_
        refine lv_iinc (v := (nI (i + 5))) (lv' := [(3, .int (nI (i + 5))), (0, .ref b), (1, .ref h), (2, .ref h3)]) hx hb dL_law_687 hl (k := 3) rfl (by first | exact nI_add i 5 | (rw [← nI_add]; rfl)) (by decide) rfl (fun ls hl => ?_)
        refine lv_goto (tgt := 18) hx hb dL_law_690 (by decide) ?_
        exact ihz ((i + 5), K, T, n, cm, wr, lp, lc, lw, K3, T3, NK, NT) (by show L - (i + 5) < L - i; omega) _ _ _ ⟨by omega, hn, hck, heq, hP, hD, hS, lv_sub hl [1, 2, 3, 0] rfl⟩
  · exact ⟨Nat.zero_le _, Nat.zero_le _, ck_0, fun j hj => absurd hj (Nat.not_lt_zero j), hP, hD, hS, lv_sub hl [3, 2, 1, 0] rfl⟩
