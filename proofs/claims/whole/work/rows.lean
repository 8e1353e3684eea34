section
-- ===== PART A: goes FIRST, ahead of the names: the tables' words, and 'selects' of the private methods out of them =====
/-- a private method of a class that the tables say can be made, by its rows of tables_1 -/
def lw_okq (q : MethodName × Nat) : Prop := (q.1.cls ≠ "java/lang/invoke/MethodHandle" ∧ q.1.cls ≠ "java/lang/invoke/VarHandle") ∧ Cond.instantiable q.1.cls q.2 ∈ tables_1 ∧ Cond.privateMethod q.1 ∈ tables_1 ∧ Cond.instanceMethod q.1 ∈ tables_1
theorem lw_p0 : lw_okq (⟨"RowPress$Row", "startOfBlocks", "(IIII)I"⟩, 5) := ⟨⟨by decide +kernel, by decide +kernel⟩, List.mem_of_getElem? (i := 15) (by decide +kernel), List.mem_of_getElem? (i := 105) (by decide +kernel), List.mem_of_getElem? (i := 106) (by decide +kernel)⟩
theorem lw_p1 : lw_okq (⟨"RowPress$Row", "lessAt", "(III)Z"⟩, 5) := ⟨⟨by decide +kernel, by decide +kernel⟩, List.mem_of_getElem? (i := 15) (by decide +kernel), List.mem_of_getElem? (i := 109) (by decide +kernel), List.mem_of_getElem? (i := 110) (by decide +kernel)⟩
theorem lw_p2 : lw_okq (⟨"RowPress$Row", "swapPairs", "(II)V"⟩, 5) := ⟨⟨by decide +kernel, by decide +kernel⟩, List.mem_of_getElem? (i := 15) (by decide +kernel), List.mem_of_getElem? (i := 125) (by decide +kernel), List.mem_of_getElem? (i := 126) (by decide +kernel)⟩
theorem lw_p3 : lw_okq (⟨"RowPress", "keepCounts", "(I)V"⟩, 4) := ⟨⟨by decide +kernel, by decide +kernel⟩, List.mem_of_getElem? (i := 7) (by decide +kernel), List.mem_of_getElem? (i := 129) (by decide +kernel), List.mem_of_getElem? (i := 130) (by decide +kernel)⟩
theorem lw_p4 : lw_okq (⟨"RowPress$Row", "standsBefore", "(I)Z"⟩, 5) := ⟨⟨by decide +kernel, by decide +kernel⟩, List.mem_of_getElem? (i := 15) (by decide +kernel), List.mem_of_getElem? (i := 219) (by decide +kernel), List.mem_of_getElem? (i := 220) (by decide +kernel)⟩
theorem lw_p5 : lw_okq (⟨"RowPressModel", "arrange", "(III)V"⟩, 5) := ⟨⟨by decide +kernel, by decide +kernel⟩, List.mem_of_getElem? (i := 230) (by decide +kernel), List.mem_of_getElem? (i := 271) (by decide +kernel), List.mem_of_getElem? (i := 272) (by decide +kernel)⟩
theorem lw_p6 : lw_okq (⟨"RowPressModel", "place", "(IIII)I"⟩, 5) := ⟨⟨by decide +kernel, by decide +kernel⟩, List.mem_of_getElem? (i := 230) (by decide +kernel), List.mem_of_getElem? (i := 275) (by decide +kernel), List.mem_of_getElem? (i := 276) (by decide +kernel)⟩
theorem lw_p7 : lw_okq (⟨"RowPressModel", "move", "(II)V"⟩, 5) := ⟨⟨by decide +kernel, by decide +kernel⟩, List.mem_of_getElem? (i := 230) (by decide +kernel), List.mem_of_getElem? (i := 283) (by decide +kernel), List.mem_of_getElem? (i := 284) (by decide +kernel)⟩
theorem lw_p8 : lw_okq (⟨"RowPressModel", "take", "(II)V"⟩, 5) := ⟨⟨by decide +kernel, by decide +kernel⟩, List.mem_of_getElem? (i := 230) (by decide +kernel), List.mem_of_getElem? (i := 287) (by decide +kernel), List.mem_of_getElem? (i := 288) (by decide +kernel)⟩
theorem lw_p9 : lw_okq (⟨"RowPressModel", "isStretch", "(II)Z"⟩, 5) := ⟨⟨by decide +kernel, by decide +kernel⟩, List.mem_of_getElem? (i := 230) (by decide +kernel), List.mem_of_getElem? (i := 295) (by decide +kernel), List.mem_of_getElem? (i := 296) (by decide +kernel)⟩
theorem lw_p10 : lw_okq (⟨"RowPressModel", "isSorted", "(III)Z"⟩, 5) := ⟨⟨by decide +kernel, by decide +kernel⟩, List.mem_of_getElem? (i := 230) (by decide +kernel), List.mem_of_getElem? (i := 303) (by decide +kernel), List.mem_of_getElem? (i := 304) (by decide +kernel)⟩
theorem lw_p11 : lw_okq (⟨"RowPressModel", "stretches", "()I"⟩, 5) := ⟨⟨by decide +kernel, by decide +kernel⟩, List.mem_of_getElem? (i := 230) (by decide +kernel), List.mem_of_getElem? (i := 347) (by decide +kernel), List.mem_of_getElem? (i := 348) (by decide +kernel)⟩
theorem lw_p12 : lw_okq (⟨"RowPressModel", "different", "()I"⟩, 5) := ⟨⟨by decide +kernel, by decide +kernel⟩, List.mem_of_getElem? (i := 230) (by decide +kernel), List.mem_of_getElem? (i := 351) (by decide +kernel), List.mem_of_getElem? (i := 352) (by decide +kernel)⟩
def lw_privs_1 : List (MethodName × Nat) := [(⟨"RowPress$Row", "startOfBlocks", "(IIII)I"⟩, 5), (⟨"RowPress$Row", "lessAt", "(III)Z"⟩, 5), (⟨"RowPress$Row", "swapPairs", "(II)V"⟩, 5), (⟨"RowPress", "keepCounts", "(I)V"⟩, 4), (⟨"RowPress$Row", "standsBefore", "(I)Z"⟩, 5), (⟨"RowPressModel", "arrange", "(III)V"⟩, 5), (⟨"RowPressModel", "place", "(IIII)I"⟩, 5), (⟨"RowPressModel", "move", "(II)V"⟩, 5), (⟨"RowPressModel", "take", "(II)V"⟩, 5), (⟨"RowPressModel", "isStretch", "(II)Z"⟩, 5), (⟨"RowPressModel", "isSorted", "(III)Z"⟩, 5), (⟨"RowPressModel", "stretches", "()I"⟩, 5), (⟨"RowPressModel", "different", "()I"⟩, 5)]
theorem lw_r1 : ∀ q ∈ lw_privs_1, lw_okq q := List.forall_mem_cons.mpr ⟨lw_p0, List.forall_mem_cons.mpr ⟨lw_p1, List.forall_mem_cons.mpr ⟨lw_p2, List.forall_mem_cons.mpr ⟨lw_p3, List.forall_mem_cons.mpr ⟨lw_p4, List.forall_mem_cons.mpr ⟨lw_p5, List.forall_mem_cons.mpr ⟨lw_p6, List.forall_mem_cons.mpr ⟨lw_p7, List.forall_mem_cons.mpr ⟨lw_p8, List.forall_mem_cons.mpr ⟨lw_p9, List.forall_mem_cons.mpr ⟨lw_p10, List.forall_mem_cons.mpr ⟨lw_p11, List.forall_mem_cons.mpr ⟨lw_p12, fun _ h => absurd h List.not_mem_nil⟩⟩⟩⟩⟩⟩⟩⟩⟩⟩⟩⟩⟩
def lw_privs : List (MethodName × Nat) := lw_privs_1
def lw_tbl : List Cond := k2_sels lw_privs ++ tables_1
theorem lw_privs_ok : ∀ q ∈ lw_privs, lw_okq q := lw_r1
end
section
/-! ROWS OF MY OWN: the kit's rows at numbers that are known as naturals. -/
section LZ
variable {p : Program} {l : Launch} {e : Env} {R : Room} {s : State} {m : MethodId} {args : Array Value} {below : List Frame} {meth : Method} {c : Code} {H H0 : Heap} {locs : List Loc} {cells slots : Nat} {Q : State → Prop} {cc : ByteArray} {pc : Nat} {ls : Array Slot} {rest : List Value} {D : va_G} {cl : List vw_C} {tys : List (ClassId × FieldType)} {ws : va_W} {a : Nat} {A : Nat → Prop}
theorem lz_top {x y : Int32} (h : x = y) (k : W p l e R s m args below meth c H locs cells slots Q (F0 m pc ls (.int y :: rest))) : W p l e R s m args below meth c H locs cells slots Q (F0 m pc ls (.int x :: rest)) := by rw [h]; exact k
theorem lz_iald (hexec : p.tables.exec = Jvm.exec) (hb : c.code = cc) (hK : va_K D cl tys s) (hP : va_P D cl ws H) (q0 t0 : Nat) {cA : ClassId} {n : Nat} {f : Nat → Int32} (ha : ws[q0]? = some (a, .inl (cA, n, .inl f))) (ht : tys[t0]? = some (cA, .int)) {j : Nat} (hj : j < n) (hn : n < 2 ^ 31) (hdg : decode cc pc = .ok (.iaload, 1))
    (kk : W p l e R s m args below meth c H locs cells slots Q (F0 m (pc + 1) ls (.int (f j) :: rest))) : W p l e R s m args below meth c H locs cells slots Q (F0 m pc ls (.int (nI j) :: .ref a :: rest)) :=
  va_iald hexec hb hK hP q0 t0 ha ht (vp_in_nI hj hn) hdg (by rw [nI_clamp (by omega)]; exact kk)
theorem lz_iast (hexec : p.tables.exec = Jvm.exec) (hb : c.code = cc) (hK : va_K D cl tys s) (hP : va_P D cl ws H) (hD : va_D A ws) (hS : va_S A H0 H locs) (q0 t0 : Nat) {cA : ClassId} {n : Nat} {f : Nat → Int32} (ha : ws[q0]? = some (a, .inl (cA, n, .inl f))) (ht : tys[t0]? = some (cA, .int)) {j : Nat} {x : Int32} (hj : j < n) (hn : n < 2 ^ 31) (hdg : decode cc pc = .ok (.iastore, 1))
    (kk : ∀ (H1 : Heap) (locs1 : List Loc), va_P D cl (ws.set q0 (a, .inl (cA, n, .inl (upd f j x)))) H1 → va_D A (ws.set q0 (a, .inl (cA, n, .inl (upd f j x)))) → va_S A H0 H1 locs1 → W p l e R s m args below meth c H1 locs1 cells slots Q (F0 m (pc + 1) ls rest)) : W p l e R s m args below meth c H locs cells slots Q (F0 m pc ls (.int x :: .int (nI j) :: .ref a :: rest)) :=
  va_iast hexec hb hK hP hD hS q0 t0 ha ht (vp_in_nI hj hn) hdg (by rw [nI_clamp (by omega)]; exact kk)
theorem lz_icmp_ge {a b : Nat} (ha : a < 2 ^ 31) (hb2 : b < 2 ^ 31) (hexec : p.tables.exec = Jvm.exec) (hb : c.code = cc) {off : Int} {tgt : Nat} (hdg : decode cc pc = .ok (.if_icmp .ge off, 3)) (ht : (pc : Int) + off = (tgt : Int))
    (kt : b ≤ a → W p l e R s m args below meth c H locs cells slots Q (F0 m tgt ls rest)) (kf : a < b → W p l e R s m args below meth c H locs cells slots Q (F0 m (pc + 3) ls rest)) : W p l e R s m args below meth c H locs cells slots Q (F0 m pc ls (.int (nI b) :: .int (nI a) :: rest)) :=
  lv_icmp_ge hexec hb hdg ht (fun h => kt ((nI_leI hb2 ha).mp h)) (fun h => kf (Nat.lt_of_not_le (fun q => h ((nI_leI hb2 ha).mpr q))))
theorem lz_icmp_le {a b : Nat} (ha : a < 2 ^ 31) (hb2 : b < 2 ^ 31) (hexec : p.tables.exec = Jvm.exec) (hb : c.code = cc) {off : Int} {tgt : Nat} (hdg : decode cc pc = .ok (.if_icmp .le off, 3)) (ht : (pc : Int) + off = (tgt : Int))
    (kt : a ≤ b → W p l e R s m args below meth c H locs cells slots Q (F0 m tgt ls rest)) (kf : b < a → W p l e R s m args below meth c H locs cells slots Q (F0 m (pc + 3) ls rest)) : W p l e R s m args below meth c H locs cells slots Q (F0 m pc ls (.int (nI b) :: .int (nI a) :: rest)) :=
  lv_icmp_le hexec hb hdg ht (fun h => kt ((nI_leI ha hb2).mp h)) (fun h => kf (Nat.lt_of_not_le (fun q => h ((nI_leI ha hb2).mpr q))))
theorem lz_icmp_lt {a b : Nat} (ha : a < 2 ^ 31) (hb2 : b < 2 ^ 31) (hexec : p.tables.exec = Jvm.exec) (hb : c.code = cc) {off : Int} {tgt : Nat} (hdg : decode cc pc = .ok (.if_icmp .lt off, 3)) (ht : (pc : Int) + off = (tgt : Int))
    (kt : a < b → W p l e R s m args below meth c H locs cells slots Q (F0 m tgt ls rest)) (kf : b ≤ a → W p l e R s m args below meth c H locs cells slots Q (F0 m (pc + 3) ls rest)) : W p l e R s m args below meth c H locs cells slots Q (F0 m pc ls (.int (nI b) :: .int (nI a) :: rest)) :=
  lv_icmp_lt hexec hb hdg ht (fun h => kt ((nI_ltI ha hb2).mp h)) (fun h => kf (Nat.le_of_not_lt (fun q => h ((nI_ltI ha hb2).mpr q))))
theorem lz_icmp_gt {a b : Nat} (ha : a < 2 ^ 31) (hb2 : b < 2 ^ 31) (hexec : p.tables.exec = Jvm.exec) (hb : c.code = cc) {off : Int} {tgt : Nat} (hdg : decode cc pc = .ok (.if_icmp .gt off, 3)) (ht : (pc : Int) + off = (tgt : Int))
    (kt : b < a → W p l e R s m args below meth c H locs cells slots Q (F0 m tgt ls rest)) (kf : a ≤ b → W p l e R s m args below meth c H locs cells slots Q (F0 m (pc + 3) ls rest)) : W p l e R s m args below meth c H locs cells slots Q (F0 m pc ls (.int (nI b) :: .int (nI a) :: rest)) :=
  lv_icmp_gt hexec hb hdg ht (fun h => kt ((nI_ltI hb2 ha).mp h)) (fun h => kf (Nat.le_of_not_lt (fun q => h ((nI_ltI hb2 ha).mpr q))))
theorem lz_icmp_eq {a b : Nat} (ha : a < 2 ^ 31) (hb2 : b < 2 ^ 31) (hexec : p.tables.exec = Jvm.exec) (hb : c.code = cc) {off : Int} {tgt : Nat} (hdg : decode cc pc = .ok (.if_icmp .eq off, 3)) (ht : (pc : Int) + off = (tgt : Int))
    (kt : a = b → W p l e R s m args below meth c H locs cells slots Q (F0 m tgt ls rest)) (kf : a ≠ b → W p l e R s m args below meth c H locs cells slots Q (F0 m (pc + 3) ls rest)) : W p l e R s m args below meth c H locs cells slots Q (F0 m pc ls (.int (nI b) :: .int (nI a) :: rest)) :=
  lv_icmp_eq hexec hb hdg ht (fun h => kt ((nI_eq ha hb2).mp h)) (fun h => kf (fun q => h ((nI_eq ha hb2).mpr q)))
theorem lz_icmp_ne {a b : Nat} (ha : a < 2 ^ 31) (hb2 : b < 2 ^ 31) (hexec : p.tables.exec = Jvm.exec) (hb : c.code = cc) {off : Int} {tgt : Nat} (hdg : decode cc pc = .ok (.if_icmp .ne off, 3)) (ht : (pc : Int) + off = (tgt : Int))
    (kt : a ≠ b → W p l e R s m args below meth c H locs cells slots Q (F0 m tgt ls rest)) (kf : a = b → W p l e R s m args below meth c H locs cells slots Q (F0 m (pc + 3) ls rest)) : W p l e R s m args below meth c H locs cells slots Q (F0 m pc ls (.int (nI b) :: .int (nI a) :: rest)) :=
  lv_icmp_ne hexec hb hdg ht (fun h => kt (fun q => h ((nI_eq ha hb2).mpr q))) (fun h => kf ((nI_eq ha hb2).mp h))
theorem lz_if_eq {a : Nat} (ha : a < 2 ^ 31) (hexec : p.tables.exec = Jvm.exec) (hb : c.code = cc) {off : Int} {tgt : Nat} (hdg : decode cc pc = .ok (.ifCond .eq off, 3)) (ht : (pc : Int) + off = (tgt : Int))
    (kt : a = 0 → W p l e R s m args below meth c H locs cells slots Q (F0 m tgt ls rest)) (kf : a ≠ 0 → W p l e R s m args below meth c H locs cells slots Q (F0 m (pc + 3) ls rest)) : W p l e R s m args below meth c H locs cells slots Q (F0 m pc ls (.int (nI a) :: rest)) :=
  lv_if_eq hexec hb hdg ht (fun h => kt ((nI_eq ha (by decide)).mp (by rw [h, nI_0]))) (fun h => kf (fun q => h (by rw [q, nI_0])))
theorem lz_if_ne {a : Nat} (ha : a < 2 ^ 31) (hexec : p.tables.exec = Jvm.exec) (hb : c.code = cc) {off : Int} {tgt : Nat} (hdg : decode cc pc = .ok (.ifCond .ne off, 3)) (ht : (pc : Int) + off = (tgt : Int))
    (kt : a ≠ 0 → W p l e R s m args below meth c H locs cells slots Q (F0 m tgt ls rest)) (kf : a = 0 → W p l e R s m args below meth c H locs cells slots Q (F0 m (pc + 3) ls rest)) : W p l e R s m args below meth c H locs cells slots Q (F0 m pc ls (.int (nI a) :: rest)) :=
  lv_if_ne hexec hb hdg ht (fun h => kt (fun q => h (by rw [q, nI_0]))) (fun h => kf ((nI_eq ha (by decide)).mp (by rw [h, nI_0])))
theorem lz_if_le {a : Nat} (ha : a < 2 ^ 31) (hexec : p.tables.exec = Jvm.exec) (hb : c.code = cc) {off : Int} {tgt : Nat} (hdg : decode cc pc = .ok (.ifCond .le off, 3)) (ht : (pc : Int) + off = (tgt : Int))
    (kt : a = 0 → W p l e R s m args below meth c H locs cells slots Q (F0 m tgt ls rest)) (kf : a ≠ 0 → W p l e R s m args below meth c H locs cells slots Q (F0 m (pc + 3) ls rest)) : W p l e R s m args below meth c H locs cells slots Q (F0 m pc ls (.int (nI a) :: rest)) :=
  lv_if_le hexec hb hdg ht (fun h => kt (by rw [← nI_0] at h; have := (nI_leI ha (by decide)).mp h; omega)) (fun h => kf (fun q => h (by rw [q, nI_0]; exact Int32.le_refl _)))
theorem lz_if_gt {a : Nat} (ha : a < 2 ^ 31) (hexec : p.tables.exec = Jvm.exec) (hb : c.code = cc) {off : Int} {tgt : Nat} (hdg : decode cc pc = .ok (.ifCond .gt off, 3)) (ht : (pc : Int) + off = (tgt : Int))
    (kt : a ≠ 0 → W p l e R s m args below meth c H locs cells slots Q (F0 m tgt ls rest)) (kf : a = 0 → W p l e R s m args below meth c H locs cells slots Q (F0 m (pc + 3) ls rest)) : W p l e R s m args below meth c H locs cells slots Q (F0 m pc ls (.int (nI a) :: rest)) :=
  lv_if_gt hexec hb hdg ht (fun h => kt (by rw [← nI_0] at h; have := (nI_ltI (by decide) ha).mp h; omega)) (fun h => kf (Nat.eq_zero_of_not_pos (fun q => h (by rw [← nI_0]; exact (nI_ltI (by decide) ha).mpr q))))
theorem lz_if_lt {a : Nat} (ha : a < 2 ^ 31) (hexec : p.tables.exec = Jvm.exec) (hb : c.code = cc) {off : Int} {tgt : Nat} (hdg : decode cc pc = .ok (.ifCond .lt off, 3)) (ht : (pc : Int) + off = (tgt : Int))
    (kf : W p l e R s m args below meth c H locs cells slots Q (F0 m (pc + 3) ls rest)) : W p l e R s m args below meth c H locs cells slots Q (F0 m pc ls (.int (nI a) :: rest)) :=
  lv_if_lt hexec hb hdg ht (fun h => absurd h (nI_pos ha)) (fun _ => kf)
theorem lz_if_ge {a : Nat} (ha : a < 2 ^ 31) (hexec : p.tables.exec = Jvm.exec) (hb : c.code = cc) {off : Int} {tgt : Nat} (hdg : decode cc pc = .ok (.ifCond .ge off, 3)) (ht : (pc : Int) + off = (tgt : Int))
    (kt : W p l e R s m args below meth c H locs cells slots Q (F0 m tgt ls rest)) : W p l e R s m args below meth c H locs cells slots Q (F0 m pc ls (.int (nI a) :: rest)) :=
  lv_if_ge hexec hb hdg ht (fun _ => kt) (fun h => absurd (nI_pos' ha) h)
/-- A LOOP: whatever its state is, with an invariant and a measure that falls -/
theorem lz_loop {st : List Value} {σ : Type} (μ : σ → Nat) (Inv : σ → Heap → List Loc → Array Slot → Prop)
    (step : ∀ x, (∀ y, μ y < μ x → ∀ (H : Heap) (locs : List Loc) (ls : Array Slot), Inv y H locs ls → W p l e R s m args below meth c H locs cells slots Q (F0 m pc ls st)) → ∀ (H : Heap) (locs : List Loc) (ls : Array Slot), Inv x H locs ls → W p l e R s m args below meth c H locs cells slots Q (F0 m pc ls st))
    (x : σ) (H : Heap) (locs : List Loc) (ls : Array Slot) (h : Inv x H locs ls) : W p l e R s m args below meth c H locs cells slots Q (F0 m pc ls st) := by
  have key : ∀ (n : Nat) (x : σ), μ x < n → ∀ (H : Heap) (locs : List Loc) (ls : Array Slot), Inv x H locs ls → W p l e R s m args below meth c H locs cells slots Q (F0 m pc ls st) := by
    intro n
    induction n with
    | zero => intro x h; exact absurd h (Nat.not_lt_zero _)
    | succ n ih =>
      intro x hx
      exact step x (fun y hy => ih y (by omega))
  exact key (μ x + 1) x (Nat.lt_succ_self _) H locs ls h
end LZ
/-- what a yes and no of the machine says -/
def tr (r : Int32) (P : Prop) : Prop := (r = 1 ∧ P) ∨ (r = 0 ∧ ¬ P)
theorem tr_t {P : Prop} (h : P) : tr (nI 1) P := Or.inl ⟨rfl, h⟩
theorem tr_f {P : Prop} (h : ¬ P) : tr (nI 0) P := Or.inr ⟨rfl, h⟩
theorem tr_0 {r : Int32} {P : Prop} (h : tr r P) (q : r = 0) : ¬ P := by
  rcases h with ⟨h, _⟩ | ⟨_, h⟩
  · rw [h] at q; exact absurd q (by decide)
  · exact h
theorem tr_1 {r : Int32} {P : Prop} (h : tr r P) (q : ¬ r = 0) : P := by
  rcases h with ⟨_, h⟩ | ⟨h, _⟩
  · exact h
  · exact absurd h q
end
section
/-! THE MATHEMATICS: rows of pairs as functions, their stretches as lists, stable rearrangement, sortedness, and that the two fix a row. -/
abbrev mP : Type := Int32 × Int32
/-- the pairs of two arrays -/
def mZ (K T : Nat → Int32) : Nat → mP := fun j => (K j, T j)
/-- n pairs from the place a on -/
def sl (f : Nat → mP) (a : Nat) : Nat → List mP
  | 0 => []
  | n + 1 => sl f a n ++ [f (a + n)]
theorem sl_app (f : Nat → mP) (a m n : Nat) : sl f a m ++ sl f (a + m) n = sl f a (m + n) := by
  induction n with
  | zero => simp [sl]
  | succ n ih =>
    show sl f a m ++ (sl f (a + m) n ++ [f (a + m + n)]) = sl f a (m + n) ++ [f (a + (m + n))]
    rw [← List.append_assoc, ih, Nat.add_assoc]
theorem sl_congr {f g : Nat → mP} {a c : Nat} : ∀ n : Nat, (∀ j, j < n → f (a + j) = g (c + j)) → sl f a n = sl g c n := by
  intro n
  induction n with
  | zero => intro _; rfl
  | succ n ih =>
    intro h
    show sl f a n ++ [f (a + n)] = sl g c n ++ [g (c + n)]
    rw [ih (fun j hj => h j (by omega)), h n (by omega)]
theorem sl_len (f : Nat → mP) (a : Nat) : ∀ n : Nat, (sl f a n).length = n := by
  intro n
  induction n with
  | zero => rfl
  | succ n ih =>
    show (sl f a n ++ [f (a + n)]).length = n + 1
    rw [List.length_append, ih]; rfl
theorem sl_mem {f : Nat → mP} {a : Nat} {x : mP} : ∀ n : Nat, x ∈ sl f a n ↔ ∃ j, j < n ∧ f (a + j) = x := by
  intro n
  induction n with
  | zero =>
    constructor
    · intro h; exact absurd h List.not_mem_nil
    · rintro ⟨j, hj, _⟩; omega
  | succ n ih =>
    show x ∈ sl f a n ++ [f (a + n)] ↔ _
    rw [List.mem_append, ih, List.mem_singleton]
    constructor
    · rintro (⟨j, hj, e⟩ | e)
      · exact ⟨j, by omega, e⟩
      · exact ⟨n, by omega, e.symm⟩
    · rintro ⟨j, hj, e⟩
      rcases Nat.lt_or_ge j n with h | h
      · exact Or.inl ⟨j, h, e⟩
      · have : j = n := by omega
        subst this
        exact Or.inr e.symm
theorem sl_ext {f g : Nat → mP} {a c : Nat} : ∀ n : Nat, sl f a n = sl g c n → ∀ j, j < n → f (a + j) = g (c + j) := by
  intro n
  induction n with
  | zero => intro _ j hj; omega
  | succ n ih =>
    intro h j hj
    have h' : sl f a n ++ [f (a + n)] = sl g c n ++ [g (c + n)] := h
    obtain ⟨h1, h2⟩ := List.append_inj h' (by rw [sl_len, sl_len])
    rcases Nat.lt_or_ge j n with q | q
    · exact ih h1 j q
    · have : j = n := by omega
      subst this
      exact List.singleton_inj.mp h2
/-- the stretch from a to before b -/
def sg (f : Nat → mP) (a b : Nat) : List mP := sl f a (b - a)
theorem sg_app {f : Nat → mP} {a b c : Nat} (h1 : a ≤ b) (h2 : b ≤ c) : sg f a b ++ sg f b c = sg f a c := by
  have h := sl_app f a (b - a) (c - b)
  rw [show a + (b - a) = b by omega, show b - a + (c - b) = c - a by omega] at h
  exact h
theorem sg_congr {f g : Nat → mP} {a b : Nat} (h : ∀ j, a ≤ j → j < b → f j = g j) : sg f a b = sg g a b :=
  sl_congr (b - a) (fun j hj => h (a + j) (by omega) (by omega))
theorem sg_shift {f g : Nat → mP} {a b c d : Nat} (hl : b - a = d - c) (h : ∀ j, a ≤ j → j < b → f j = g (j - a + c)) : sg f a b = sg g c d := by
  unfold sg
  rw [← hl]
  exact sl_congr (b - a) (fun j hj => by rw [h (a + j) (by omega) (by omega)]; congr 1; omega)
theorem sg_mem {f : Nat → mP} {a b : Nat} {x : mP} : x ∈ sg f a b ↔ ∃ j, a ≤ j ∧ j < b ∧ f j = x := by
  unfold sg
  rw [sl_mem]
  constructor
  · rintro ⟨j, hj, e⟩; exact ⟨a + j, by omega, by omega, e⟩
  · rintro ⟨j, h1, h2, e⟩; exact ⟨j - a, by omega, by rw [show a + (j - a) = j by omega]; exact e⟩
theorem sg_ext {f g : Nat → mP} {a b : Nat} (h : sg f a b = sg g a b) : ∀ j, a ≤ j → j < b → f j = g j := by
  intro j h1 h2
  have := sl_ext (b - a) h (j - a) (by omega)
  rwa [show a + (j - a) = j by omega] at this
theorem sg_nil {f : Nat → mP} {a b : Nat} (h : b ≤ a) : sg f a b = [] := by
  unfold sg
  rw [show b - a = 0 by omega]; rfl
theorem sg_one {f : Nat → mP} {a : Nat} : sg f a (a + 1) = [f a] := by
  unfold sg
  rw [show a + 1 - a = 0 + 1 by omega]; rfl
/-- alike: each key's pairs in one order -/
def sm (φ : Int32 → Int) (l l' : List mP) : Prop := ∀ k : Int, l.filter (fun p => decide (φ p.1 = k)) = l'.filter (fun p => decide (φ p.1 = k))
theorem sm_rf {φ : Int32 → Int} {l : List mP} : sm φ l l := fun _ => rfl
theorem sm_sy {φ : Int32 → Int} {l l' : List mP} (h : sm φ l l') : sm φ l' l := fun k => (h k).symm
theorem sm_tr {φ : Int32 → Int} {l l' l'' : List mP} (h : sm φ l l') (h2 : sm φ l' l'') : sm φ l l'' := fun k => (h k).trans (h2 k)
theorem sm_app {φ : Int32 → Int} {l l' r r' : List mP} (h : sm φ l l') (h2 : sm φ r r') : sm φ (l ++ r) (l' ++ r') := fun k => by
  rw [List.filter_append, List.filter_append, h k, h2 k]
theorem sm_mem {φ : Int32 → Int} {l l' : List mP} (h : sm φ l l') {x : mP} (hx : x ∈ l) : x ∈ l' := by
  have h1 : x ∈ l.filter (fun p => decide (φ p.1 = φ x.1)) := List.mem_filter.mpr ⟨hx, decide_eq_true rfl⟩
  rw [h] at h1
  exact (List.mem_filter.mp h1).1
theorem sm_swap {φ : Int32 → Int} {A B : List mP} (h : ∀ a ∈ A, ∀ b ∈ B, φ a.1 ≠ φ b.1) : sm φ (A ++ B) (B ++ A) := by
  intro k
  rw [List.filter_append, List.filter_append]
  by_cases hA : A.filter (fun p => decide (φ p.1 = k)) = []
  · rw [hA]; simp
  · have hB : B.filter (fun p => decide (φ p.1 = k)) = [] := by
      rw [List.filter_eq_nil_iff]
      intro b hb hk
      have hk := of_decide_eq_true hk
      apply hA
      rw [List.filter_eq_nil_iff]
      intro a ha hk2
      have hk2 := of_decide_eq_true hk2
      exact h a ha b hb (by rw [hk, hk2])
    rw [hB]; simp
/-- sorted lists -/
def so (φ : Int32 → Int) (l : List mP) : Prop := l.Pairwise (fun x y => φ x.1 ≤ φ y.1)
theorem so_uniq {φ : Int32 → Int} : ∀ (l l' : List mP), so φ l → so φ l' → sm φ l l' → l = l' := by
  intro l
  induction l with
  | nil =>
    intro l' _ _ h
    cases l' with
    | nil => rfl
    | cons b t =>
      exact absurd (sm_mem (sm_sy h) (x := b) List.mem_cons_self) List.not_mem_nil
  | cons a t ih =>
    intro l' h1 h2 h
    cases l' with
    | nil => exact absurd (sm_mem h (x := a) List.mem_cons_self) List.not_mem_nil
    | cons b u =>
      obtain ⟨h1a, h1t⟩ := List.pairwise_cons.mp h1
      obtain ⟨h2b, h2t⟩ := List.pairwise_cons.mp h2
      have hba : φ b.1 ≤ φ a.1 := by
        rcases List.mem_cons.mp (sm_mem h (x := a) List.mem_cons_self) with e | e
        · rw [e]; exact Int.le_refl _
        · exact h2b a e
      have hab : φ a.1 ≤ φ b.1 := by
        rcases List.mem_cons.mp (sm_mem (sm_sy h) (x := b) List.mem_cons_self) with e | e
        · rw [e]; exact Int.le_refl _
        · exact h1a b e
      have hk : φ b.1 = φ a.1 := by omega
      have h0 := h (φ a.1)
      rw [List.filter_cons_of_pos (by simp), List.filter_cons_of_pos (by simp [hk])] at h0
      obtain ⟨e, h0t⟩ := List.cons.inj h0
      subst e
      have ht : sm φ t u := by
        intro k
        by_cases hk2 : φ a.1 = k
        · rw [← hk2]; exact h0t
        · have h3 := h k
          rw [List.filter_cons_of_neg (by simp [hk2]), List.filter_cons_of_neg (by simp [hk2])] at h3
          exact h3
      rw [ih u h1t h2t ht]
/-- sorted stretches of a function -/
def srt (φ : Int32 → Int) (f : Nat → mP) (a b : Nat) : Prop := ∀ i j, a ≤ i → i ≤ j → j < b → φ (f i).1 ≤ φ (f j).1
theorem srt_sub {φ : Int32 → Int} {f : Nat → mP} {a b c d : Nat} (h : srt φ f a b) (h1 : a ≤ c) (h2 : d ≤ b) : srt φ f c d := fun i j hi hij hj => h i j (by omega) hij (by omega)
theorem srt_congr {φ : Int32 → Int} {f g : Nat → mP} {a b : Nat} (h : srt φ f a b) (e : ∀ j, a ≤ j → j < b → g j = f j) : srt φ g a b := fun i j hi hij hj => by
  rw [e i hi (by omega), e j (by omega) hj]; exact h i j hi hij hj
theorem srt_shift {φ : Int32 → Int} {f g : Nat → mP} {a b c d : Nat} (h : srt φ f c d) (hl : b - a ≤ d - c) (e : ∀ j, a ≤ j → j < b → g j = f (j - a + c)) : srt φ g a b := fun i j hi hij hj => by
  rw [e i hi (by omega), e j (by omega) hj]; exact h _ _ (by omega) (by omega) (by omega)
theorem srt_step {φ : Int32 → Int} {f : Nat → mP} {a : Nat} : ∀ b, (∀ j, a < j → j < b → φ (f (j - 1)).1 ≤ φ (f j).1) → srt φ f a b := by
  intro b h i j hi hij hj
  induction j with
  | zero => rw [show i = 0 by omega]; exact Int.le_refl _
  | succ j ih =>
    rcases Nat.lt_or_ge j i with q | q
    · rw [show i = j + 1 by omega]; exact Int.le_refl _
    · exact Int.le_trans (ih q (by omega)) (h (j + 1) (by omega) hj)
theorem srt_short {φ : Int32 → Int} {f : Nat → mP} {a b : Nat} (h : b ≤ a + 1) : srt φ f a b := fun i j hi hij hj => by
  rw [show i = j by omega]; exact Int.le_refl _
theorem srt_so {φ : Int32 → Int} {f : Nat → mP} {a : Nat} : ∀ n, srt φ f a (a + n) → so φ (sl f a n) := by
  intro n
  induction n with
  | zero => intro _; exact List.Pairwise.nil
  | succ n ih =>
    intro h
    show List.Pairwise _ (sl f a n ++ [f (a + n)])
    rw [List.pairwise_append]
    refine ⟨ih (srt_sub h (Nat.le_refl _) (by omega)), List.pairwise_singleton _ _, ?_⟩
    intro x hx y hy
    obtain ⟨j, hj, e⟩ := (sl_mem n).mp hx
    rw [← e, List.mem_singleton.mp hy]
    exact h _ _ (by omega) (by omega) (by omega)
/-- a stretch sorted stably is fixed -/
theorem srt_uniq {φ : Int32 → Int} {f g : Nat → mP} {a b : Nat} (hf : srt φ f a b) (hg : srt φ g a b) (h : sm φ (sg f a b) (sg g a b)) : ∀ j, a ≤ j → j < b → f j = g j := by
  intro j h1 h2
  refine sg_ext ?_ j h1 h2
  refine so_uniq _ _ (srt_so (b - a) (srt_sub hf (Nat.le_refl _) (by omega))) (srt_so (b - a) (srt_sub hg (Nat.le_refl _) (by omega))) h
/-- two sorted neighbours, none of the first above one of the second -/
theorem srt_join {φ : Int32 → Int} {f : Nat → mP} {a b c : Nat} (h1 : srt φ f a b) (h2 : srt φ f b c) (h : ∀ x ∈ sg f a b, ∀ y ∈ sg f b c, φ x.1 ≤ φ y.1) : srt φ f a c := by
  intro i j hi hij hj
  rcases Nat.lt_or_ge j b with q | q
  · exact h1 i j hi hij q
  · rcases Nat.lt_or_ge i b with r | r
    · exact h _ (sg_mem.mpr ⟨i, hi, r, rfl⟩) _ (sg_mem.mpr ⟨j, q, hj, rfl⟩)
    · exact h2 i j r hij hj
/-- the other way round -/
def rv (f : Nat → mP) (a b : Nat) : Nat → mP := fun j => if a ≤ j ∧ j < b then f (a + b - 1 - j) else f j
/-- what stands from m to before b comes before what stands from a to before m -/
def ro (f : Nat → mP) (a m b : Nat) : Nat → mP := fun j => if a ≤ j ∧ j < a + (b - m) then f (j - a + m) else if a + (b - m) ≤ j ∧ j < b then f (j - (b - m)) else f j
theorem ro_rv {f : Nat → mP} {a m b : Nat} (h1 : a ≤ m) (h2 : m ≤ b) : rv (rv (rv f a m) m b) a b = ro f a m b := by
  funext j
  simp only [rv, ro]
  by_cases c1 : a ≤ j ∧ j < b
  · rw [if_pos c1]
    by_cases c2 : j < a + (b - m)
    · rw [if_pos (show m ≤ a + b - 1 - j ∧ a + b - 1 - j < b by omega), if_neg (show ¬ (a ≤ m + b - 1 - (a + b - 1 - j) ∧ m + b - 1 - (a + b - 1 - j) < m) by omega), if_pos (show a ≤ j ∧ j < a + (b - m) by omega)]
      congr 1; omega
    · rw [if_neg (show ¬ (m ≤ a + b - 1 - j ∧ a + b - 1 - j < b) by omega), if_pos (show a ≤ a + b - 1 - j ∧ a + b - 1 - j < m by omega), if_neg (show ¬ (a ≤ j ∧ j < a + (b - m)) by omega), if_pos (show a + (b - m) ≤ j ∧ j < b by omega)]
      congr 1; omega
  · rw [if_neg c1, if_neg (show ¬ (m ≤ j ∧ j < b) by omega), if_neg (show ¬ (a ≤ j ∧ j < m) by omega), if_neg (show ¬ (a ≤ j ∧ j < a + (b - m)) by omega), if_neg (show ¬ (a + (b - m) ≤ j ∧ j < b) by omega)]
theorem ro_out {f : Nat → mP} {a m b j : Nat} (h2 : m ≤ b) (h1 : a ≤ m) (h : j < a ∨ b ≤ j) : ro f a m b j = f j := by
  simp only [ro]
  rw [if_neg (by omega), if_neg (by omega)]
theorem ro_id {f : Nat → mP} {a m b : Nat} (h1 : a ≤ m) (h2 : m ≤ b) (h : m ≤ a ∨ b ≤ m) : ro f a m b = f := by
  funext j
  simp only [ro]
  by_cases c1 : a ≤ j ∧ j < a + (b - m)
  · rw [if_pos c1]; congr 1; omega
  · rw [if_neg c1]
    by_cases c2 : a + (b - m) ≤ j ∧ j < b
    · rw [if_pos c2]; congr 1; omega
    · rw [if_neg c2]
theorem ro_lo {f : Nat → mP} {a m b : Nat} (h1 : a ≤ m) (h2 : m ≤ b) : sg (ro f a m b) a (a + (b - m)) = sg f m b := by
  refine sg_shift (by omega) (fun j h3 h4 => ?_)
  simp only [ro]
  rw [if_pos ⟨h3, h4⟩]
theorem ro_hi {f : Nat → mP} {a m b : Nat} (h1 : a ≤ m) (h2 : m ≤ b) : sg (ro f a m b) (a + (b - m)) b = sg f a m := by
  refine sg_shift (by omega) (fun j h3 h4 => ?_)
  simp only [ro]
  rw [if_neg (by omega), if_pos ⟨h3, h4⟩]
  congr 1; omega
theorem ro_sg {f : Nat → mP} {a m b : Nat} (h1 : a ≤ m) (h2 : m ≤ b) : sg (ro f a m b) a b = sg f m b ++ sg f a m := by
  rw [← sg_app (f := ro f a m b) (a := a) (b := a + (b - m)) (c := b) (by omega) (by omega), ro_lo h1 h2, ro_hi h1 h2]
/-- a block that moves before a block whose keys are other ones -/
theorem ro_sm {φ : Int32 → Int} {f : Nat → mP} {a m b : Nat} (h1 : a ≤ m) (h2 : m ≤ b) (h : ∀ i j, a ≤ i → i < m → m ≤ j → j < b → φ (f i).1 ≠ φ (f j).1) : sm φ (sg f a b) (sg (ro f a m b) a b) := by
  rw [ro_sg h1 h2, ← sg_app h1 h2]
  refine sm_swap ?_
  intro x hx y hy
  obtain ⟨i, i1, i2, e1⟩ := sg_mem.mp hx
  obtain ⟨j, j1, j2, e2⟩ := sg_mem.mp hy
  rw [← e1, ← e2]
  exact h i j i1 i2 j1 j2
/-- a change inside a stretch that is alike there is alike in each greater one -/
theorem sm_wide {φ : Int32 → Int} {f g : Nat → mP} {a b c d : Nat} (h1 : a ≤ c) (h2 : c ≤ d) (h3 : d ≤ b) (ho : ∀ j, j < c ∨ d ≤ j → g j = f j) (h : sm φ (sg f c d) (sg g c d)) : sm φ (sg f a b) (sg g a b) := by
  rw [← sg_app (f := f) h1 (Nat.le_trans h2 h3), ← sg_app (f := g) h1 (Nat.le_trans h2 h3), ← sg_app (f := f) h2 h3, ← sg_app (f := g) h2 h3]
  rw [sg_congr (f := g) (g := f) (a := a) (b := c) (fun j _ q => ho j (Or.inl q)), sg_congr (f := g) (g := f) (a := d) (b := b) (fun j q _ => ho j (Or.inr q))]
  exact sm_app sm_rf (sm_app h sm_rf)
/-- ONE STEP OF THE MERGE: blocks swapped, both halves merged: the whole is merged -/
theorem merge_step {φ : Int32 → Int} {f g h : Nat → mP} {a s m e h2 b : Nat} (b1 : a ≤ s) (b2 : s ≤ m) (b3 : m ≤ e) (b4 : e ≤ b) (bh : h2 + m = s + e)
    (sA : srt φ f a m) (sB : srt φ f m b) (cA : s < m → m < e → φ (f (e - 1)).1 < φ (f s).1) (cB : a < s → e < b → φ (f (s - 1)).1 ≤ φ (f e).1)
    (o1 : ∀ j, j < a ∨ h2 ≤ j → g j = ro f s m e j) (r1 : srt φ g a h2) (q1 : sm φ (sg (ro f s m e) a h2) (sg g a h2))
    (o2 : ∀ j, j < h2 ∨ b ≤ j → h j = g j) (r2 : srt φ h h2 b) (q2 : sm φ (sg g h2 b) (sg h h2 b)) :
    (∀ j, j < a ∨ b ≤ j → h j = f j) ∧ srt φ h a b ∧ sm φ (sg f a b) (sg h a b) := by
  have hh : s + (e - m) = h2 := by omega
  have hlow : ∀ j, j < a ∨ b ≤ j → h j = f j := by
    intro j hj
    rw [o2 j (by omega), o1 j (by omega), ro_out b3 b2 (by omega)]
  have hAB : ∀ i j, s ≤ i → i < m → m ≤ j → j < e → φ (f j).1 < φ (f i).1 := by
    intro i j i1 i2 j1 j2
    have h1 := sA s i b1 i1 i2
    have h3 := sB j (e - 1) j1 (by omega) (by omega)
    have h4 := cA (by omega) (by omega)
    omega
  have hg : sg h a h2 = sg g a h2 := sg_congr (fun j q1 q2 => o2 j (Or.inl q2))
  have e1 : sg (ro f s m e) a h2 = sg f a s ++ sg f m e := by
    rw [← sg_app (f := ro f s m e) (a := a) (b := s) (c := h2) b1 (by omega), ← hh, ro_lo b2 b3]
    rw [sg_congr (f := ro f s m e) (g := f) (fun j q1 q2 => ro_out b3 b2 (Or.inl q2))]
  have e2 : sg g h2 b = sg f s m ++ sg f e b := by
    rw [sg_congr (f := g) (g := ro f s m e) (fun j q1 q2 => o1 j (Or.inr q1))]
    rw [← sg_app (f := ro f s m e) (a := h2) (b := e) (c := b) (by omega) b4, ← hh, ro_hi b2 b3]
    rw [sg_congr (f := ro f s m e) (g := f) (a := e) (b := b) (fun j q1 q2 => ro_out b3 b2 (Or.inr q1))]
  have hsm : sm φ (sg f a b) (sg h a b) := by
    have s1 : sm φ (sg f a b) (sg (ro f s m e) a b) := sm_wide b1 (Nat.le_trans b2 b3) b4 (fun j q => ro_out b3 b2 q) (ro_sm b2 b3 (fun i j i1 i2 j1 j2 => by have := hAB i j i1 i2 j1 j2; omega))
    have s2 : sm φ (sg (ro f s m e) a b) (sg h a b) := by
      rw [← sg_app (f := ro f s m e) (a := a) (b := h2) (c := b) (by omega) (by omega), ← sg_app (f := h) (a := a) (b := h2) (c := b) (by omega) (by omega), hg]
      refine sm_app q1 ?_
      rw [sg_congr (f := ro f s m e) (g := g) (a := h2) (b := b) (fun j w1 w2 => (o1 j (Or.inr w1)).symm)]
      exact q2
    exact sm_tr s1 s2
  refine ⟨hlow, ?_, hsm⟩
  refine srt_join (b := h2) (srt_congr r1 (fun j q1 q2 => o2 j (Or.inl q2))) r2 ?_
  intro x hx y hy
  rw [hg] at hx
  have hx := sm_mem (sm_sy q1) hx
  have hy := sm_mem (sm_sy q2) hy
  rw [e1, List.mem_append] at hx
  rw [e2, List.mem_append] at hy
  rcases hx with hx | hx
  · obtain ⟨i, i1, i2, ei⟩ := sg_mem.mp hx
    rcases hy with hy | hy
    · obtain ⟨j, j1, j2, ej⟩ := sg_mem.mp hy
      rw [← ei, ← ej]; exact sA i j i1 (by omega) j2
    · obtain ⟨j, j1, j2, ej⟩ := sg_mem.mp hy
      rw [← ei, ← ej]
      have w1 := sA i (s - 1) i1 (by omega) (by omega)
      have w2 := sB e j b3 j1 j2
      have w3 := cB (by omega) (by omega)
      omega
  · obtain ⟨i, i1, i2, ei⟩ := sg_mem.mp hx
    rcases hy with hy | hy
    · obtain ⟨j, j1, j2, ej⟩ := sg_mem.mp hy
      rw [← ei, ← ej]
      have := hAB j i j1 j2 i1 i2
      omega
    · obtain ⟨j, j1, j2, ej⟩ := sg_mem.mp hy
      rw [← ei, ← ej]; exact sB i j i1 (by omega) j2
end
section
/-! BLOCKS: what a round of merges leaves behind, and what it costs. -/
/-- each block of w, from a on, is sorted as far as b -/
def bs (φ : Int32 → Int) (f : Nat → mP) (w a b : Nat) : Prop := ∀ i, srt φ f (a + i * w) (min (a + i * w + w) b)
/-- the first q blocks of 2 w are sorted -/
def pr (φ : Int32 → Int) (f : Nat → mP) (w a b q : Nat) : Prop := ∀ i, i < q → srt φ f (a + i * (2 * w)) (min (a + i * (2 * w) + 2 * w) b)
theorem bs_one {φ : Int32 → Int} {f : Nat → mP} {a b : Nat} : bs φ f 1 a b := fun i => srt_short (by omega)
theorem pr_0 {φ : Int32 → Int} {f : Nat → mP} {w a b : Nat} : pr φ f w a b 0 := fun i h => absurd h (Nat.not_lt_zero i)
theorem bs_step {φ : Int32 → Int} {f g : Nat → mP} {w a b q st : Nat} (hst : st = a + q * (2 * w)) (h1 : pr φ f w a b q) (h2 : bs φ f w st b)
    (ho : ∀ j, j < st ∨ min (st + 2 * w) b ≤ j → g j = f j) (hg : srt φ g st (min (st + 2 * w) b)) :
    pr φ g w a b (q + 1) ∧ bs φ g w (st + 2 * w) b := by
  constructor
  · intro i hi
    rcases Nat.lt_or_ge i q with h | h
    · have hm : (i + 1) * (2 * w) ≤ q * (2 * w) := Nat.mul_le_mul_right _ h
      rw [Nat.add_mul, Nat.one_mul] at hm
      refine srt_congr (h1 i h) (fun j j1 j2 => ho j (Or.inl ?_))
      omega
    · have : i = q := by omega
      subst this
      rw [← hst]; exact hg
  · intro i
    have h3 := h2 (i + 2)
    rw [Nat.add_mul] at h3
    rw [show st + 2 * w + i * w = st + (i * w + 2 * w) by omega]
    refine srt_congr h3 (fun j j1 j2 => ho j (Or.inr ?_))
    omega
theorem bs_end {φ : Int32 → Int} {f : Nat → mP} {w a b q st : Nat} (hst : st = a + q * (2 * w)) (h1 : pr φ f w a b q) (h2 : bs φ f w st b) (he : b ≤ st + w) : bs φ f (2 * w) a b := by
  intro i
  rcases Nat.lt_or_ge i q with h | h
  · exact h1 i h
  · have hm : q * (2 * w) ≤ i * (2 * w) := Nat.mul_le_mul_right _ h
    have h3 := h2 0
    rw [Nat.zero_mul, Nat.add_zero] at h3
    exact srt_sub h3 (by omega) (by omega)
theorem bs_all {φ : Int32 → Int} {f : Nat → mP} {w a b : Nat} (h : bs φ f w a b) (hw : b ≤ a + w) : srt φ f a b := by
  have h3 := h 0
  rw [Nat.zero_mul, Nat.add_zero] at h3
  exact srt_sub h3 (Nat.le_refl _) (by omega)
theorem bs_two {φ : Int32 → Int} {f : Nat → mP} {w st b : Nat} (h : bs φ f w st b) : srt φ f st (min (st + w) b) ∧ srt φ f (st + w) (min (st + 2 * w) b) := by
  have h0 := h 0
  have h1 := h 1
  rw [Nat.zero_mul, Nat.add_zero] at h0
  rw [Nat.one_mul] at h1
  exact ⟨h0, srt_sub h1 (Nat.le_refl _) (by omega)⟩
/-- the document's L -/
def lev : Nat → Nat → Nat
  | 0, _ => 1
  | k + 1, n => if 2 ^ (k + 1) < n then k + 2 else lev k n
end
section
/-! PURE ROWS for the walks: orders, swaps, turning, counting. -/
/-- where a key stands in an order -/
def mk (o : Nat) (x : Int32) : Int := match o with
  | 1 => (x ^^^ (-2147483648)).toInt
  | 2 => -x.toInt
  | 3 => (x &&& 255).toInt
  | _ => x.toInt
theorem upd_at (f : Nat → Int32) (k : Nat) (x : Int32) (j : Nat) : upd f k x j = if j = k then x else f j := by
  by_cases h : j = k
  · rw [if_pos h, h, pk_us]
  · rw [if_neg h, pk_un h]
/-- two places changed -/
theorem mZ_swap (K T : Nat → Int32) (i j : Nat) (x : Nat) : mZ (upd (upd K i (K j)) j (K i)) (upd (upd T i (T j)) j (T i)) x = if x = j then mZ K T i else if x = i then mZ K T j else mZ K T x := by
  simp only [mZ, upd_at]
  by_cases h1 : x = j
  · simp only [if_pos h1]
  · simp only [if_neg h1]
    by_cases h2 : x = i
    · simp only [if_pos h2]
    · simp only [if_neg h2]
theorem mZ_put (K T : Nat → Int32) (i : Nat) (k t : Int32) (x : Nat) : mZ (upd K i k) (upd T i t) x = if x = i then (k, t) else mZ K T x := by
  simp only [mZ, upd_at]
  by_cases h1 : x = i
  · simp only [if_pos h1]
  · simp only [if_neg h1]
/-- half turned -/
def rvI (f g : Nat → mP) (a b lo hi : Nat) : Prop := ∀ j, g j = if (a ≤ j ∧ j < lo) ∨ (hi < j ∧ j < b) then f (a + b - 1 - j) else f j
theorem rvI_0 {f : Nat → mP} {a b : Nat} : rvI f f a b a (b - 1) := fun j => by
  rw [if_neg (by omega)]
theorem rvI_step {f g g' : Nat → mP} {a b lo hi : Nat} (h : rvI f g a b lo hi) (h1 : a ≤ lo) (h2 : lo < hi) (h3 : lo + hi + 1 = a + b) (hg : ∀ x, g' x = if x = hi then g lo else if x = lo then g hi else g x) : rvI f g' a b (lo + 1) (hi - 1) := by
  intro j
  rw [hg j]
  by_cases c1 : j = hi
  · rw [if_pos c1, h lo, if_neg (by omega), if_pos (by omega)]; congr 1; omega
  · rw [if_neg c1]
    by_cases c2 : j = lo
    · rw [if_pos c2, h hi, if_neg (by omega), if_pos (by omega)]; congr 1; omega
    · rw [if_neg c2, h j]
      by_cases c3 : (a ≤ j ∧ j < lo) ∨ (hi < j ∧ j < b)
      · rw [if_pos c3, if_pos (by omega)]
      · rw [if_neg c3, if_neg (by omega)]
theorem rvI_end {f g : Nat → mP} {a b lo hi : Nat} (h : rvI f g a b lo hi) (h1 : a ≤ lo) (h4 : lo ≤ b) (h2 : hi ≤ lo) (h3 : lo + hi + 1 = a + b) : g = rv f a b := by
  funext j
  rw [h j]
  simp only [rv]
  by_cases c1 : (a ≤ j ∧ j < lo) ∨ (hi < j ∧ j < b)
  · rw [if_pos c1]
    by_cases c2 : a ≤ j ∧ j < b
    · rw [if_pos c2]
    · rw [if_neg c2]; exfalso; omega
  · rw [if_neg c1]
    by_cases c2 : a ≤ j ∧ j < b
    · rw [if_pos c2]; congr 1; omega
    · rw [if_neg c2]
theorem rv_id {f : Nat → mP} {a b : Nat} (h : b ≤ a + 1) : rv f a b = f := by
  funext j
  simp only [rv]
  by_cases c2 : a ≤ j ∧ j < b
  · rw [if_pos c2]; congr 1; omega
  · rw [if_neg c2]
theorem rv_out {f : Nat → mP} {a b j : Nat} (h : j < a ∨ b ≤ j) : rv f a b j = f j := by
  simp only [rv]; rw [if_neg (by omega)]
/-- how many of n places, from a on, are so -/
noncomputable def cn (P : Nat → Prop) (a : Nat) : Nat → Nat
  | 0 => 0
  | n + 1 => cn P a n + (@ite _ (P (a + n)) (Classical.propDecidable _) 1 0)
theorem cn_t {P : Nat → Prop} {a n : Nat} (h : P (a + n)) : cn P a (n + 1) = cn P a n + 1 := by
  show cn P a n + _ = _; rw [if_pos h]
theorem cn_f {P : Nat → Prop} {a n : Nat} (h : ¬ P (a + n)) : cn P a (n + 1) = cn P a n := by
  show cn P a n + _ = _; rw [if_neg h, Nat.add_zero]
theorem cn_le (P : Nat → Prop) (a : Nat) : ∀ n, cn P a n ≤ n := by
  intro n
  induction n with
  | zero => exact Nat.le_refl _
  | succ n ih =>
    by_cases h : P (a + n)
    · rw [cn_t h]; omega
    · rw [cn_f h]; omega
theorem cn_congr {P P' : Nat → Prop} {a a' : Nat} : ∀ n, (∀ j, j < n → (P (a + j) ↔ P' (a' + j))) → cn P a n = cn P' a' n := by
  intro n
  induction n with
  | zero => intro _; rfl
  | succ n ih =>
    intro h
    have h1 := ih (fun j hj => h j (by omega))
    by_cases c : P (a + n)
    · rw [cn_t c, cn_t ((h n (by omega)).mp c), h1]
    · rw [cn_f c, cn_f (fun q => c ((h n (by omega)).mpr q)), h1]
theorem cn_app (P : Nat → Prop) (a m : Nat) : ∀ n, cn P a (m + n) = cn P a m + cn P (a + m) n := by
  intro n
  induction n with
  | zero => rfl
  | succ n ih =>
    have e : a + (m + n) = a + m + n := by omega
    by_cases c : P (a + (m + n))
    · rw [← Nat.add_assoc, cn_t c, cn_t (P := P) (a := a + m) (n := n) (by rw [← e]; exact c), ih]; omega
    · rw [← Nat.add_assoc, cn_f c, cn_f (P := P) (a := a + m) (n := n) (by rw [← e]; exact c), ih]
theorem cn_sub {P : Nat → Prop} {a : Nat} : ∀ n q, q < cn P a n → ∃ m, m < n ∧ P (a + m) ∧ cn P a m = q := by
  intro n
  induction n with
  | zero => intro q h; exact absurd h (Nat.not_lt_zero q)
  | succ n ih =>
    intro q h
    by_cases c : P (a + n)
    · rw [cn_t c] at h
      rcases Nat.lt_or_ge q (cn P a n) with h1 | h1
      · obtain ⟨m, m1, m2, m3⟩ := ih q h1
        exact ⟨m, by omega, m2, m3⟩
      · exact ⟨n, by omega, c, by omega⟩
    · rw [cn_f c] at h
      obtain ⟨m, m1, m2, m3⟩ := ih q h
      exact ⟨m, by omega, m2, m3⟩
theorem cn_none {P : Nat → Prop} {a : Nat} : ∀ n, (∀ j, j < n → ¬ P (a + j)) → cn P a n = 0 := by
  intro n
  induction n with
  | zero => intro _; rfl
  | succ n ih => intro h; rw [cn_f (h n (by omega)), ih (fun j hj => h j (by omega))]
theorem cn_or {P Q : Nat → Prop} {a : Nat} : ∀ n, (∀ j, j < n → ¬ (P (a + j) ∧ Q (a + j))) → cn (fun j => P j ∨ Q j) a n = cn P a n + cn Q a n := by
  intro n
  induction n with
  | zero => intro _; rfl
  | succ n ih =>
    intro h
    have h1 := ih (fun j hj => h j (by omega))
    have h2 := h n (by omega)
    by_cases c : P (a + n)
    · rw [cn_t (P := fun j => P j ∨ Q j) (Or.inl c), cn_t c, cn_f (P := Q) (fun q => h2 ⟨c, q⟩), h1]; omega
    · by_cases d : Q (a + n)
      · rw [cn_t (P := fun j => P j ∨ Q j) (Or.inr d), cn_f c, cn_t d, h1]; omega
      · rw [cn_f (P := fun j => P j ∨ Q j) (fun q => q.elim c d), cn_f c, cn_f d, h1]
theorem cn_all {P : Nat → Prop} {a : Nat} : ∀ n, (∀ j, j < n → P (a + j)) → cn P a n = n := by
  intro n
  induction n with
  | zero => intro _; rfl
  | succ n ih => intro h; rw [cn_t (h n (by omega)), ih (fun j hj => h j (by omega))]
/-- filters and counts -/
theorem fl_len (p : mP → Bool) (f : Nat → mP) (a : Nat) : ∀ n, ((sl f a n).filter p).length = cn (fun j => p (f j) = true) a n := by
  intro n
  induction n with
  | zero => rfl
  | succ n ih =>
    show ((sl f a n ++ [f (a + n)]).filter p).length = _
    rw [List.filter_append, List.length_append, ih]
    by_cases c : p (f (a + n)) = true
    · rw [cn_t (P := fun j => p (f j) = true) c, List.filter_cons_of_pos c]; rfl
    · rw [cn_f (P := fun j => p (f j) = true) c, List.filter_cons_of_neg c]; rfl
theorem fl_at (p : mP → Bool) (f : Nat → mP) (a : Nat) : ∀ n m, m < n → p (f (a + m)) = true → ((sl f a n).filter p)[cn (fun j => p (f j) = true) a m]? = some (f (a + m)) := by
  intro n
  induction n with
  | zero => intro m h; exact absurd h (Nat.not_lt_zero m)
  | succ n ih =>
    intro m hm hp
    show ((sl f a n ++ [f (a + n)]).filter p)[_]? = _
    rw [List.filter_append]
    rcases Nat.lt_or_ge m n with h | h
    · have h1 := ih m h hp
      rw [List.getElem?_append_left (List.getElem?_eq_some_iff.mp h1).1]
      exact h1
    · have : m = n := by omega
      subst this
      rw [List.getElem?_append_right (by rw [fl_len]; exact Nat.le_refl _), fl_len, Nat.sub_self, List.filter_cons_of_pos hp]
      rfl
theorem fl_from (p : mP → Bool) (f : Nat → mP) (a : Nat) : ∀ n j x, ((sl f a n).filter p)[j]? = some x → ∃ m, m < n ∧ f (a + m) = x ∧ p x = true ∧ cn (fun j => p (f j) = true) a m = j := by
  intro n
  induction n with
  | zero => intro j x h; exact absurd h (by simp [sl])
  | succ n ih =>
    intro j x h
    have h' : ((sl f a n ++ [f (a + n)]).filter p)[j]? = some x := h
    rw [List.filter_append] at h'
    rcases Nat.lt_or_ge j ((sl f a n).filter p).length with q | q
    · rw [List.getElem?_append_left q] at h'
      obtain ⟨m, m1, m2, m3, m4⟩ := ih j x h'
      exact ⟨m, by omega, m2, m3, m4⟩
    · rw [List.getElem?_append_right q, fl_len] at h'
      rw [fl_len] at q
      by_cases c : p (f (a + n)) = true
      · rw [List.filter_cons_of_pos c] at h'
        have hj : j = cn (fun j => p (f j) = true) a n := by
          rcases Nat.lt_or_ge (cn (fun j => p (f j) = true) a n) j with w | w
          · obtain ⟨d, hd⟩ : ∃ d, j - cn (fun j => p (f j) = true) a n = d + 1 := ⟨j - cn (fun j => p (f j) = true) a n - 1, by omega⟩
            rw [hd] at h'
            simp at h'
          · omega
        rw [hj, Nat.sub_self] at h'
        have hx : f (a + n) = x := by simpa using h'
        exact ⟨n, by omega, hx, by rw [← hx]; exact c, hj.symm⟩
      · rw [List.filter_cons_of_neg c] at h'
        simp at h'
theorem sm_perm {φ : Int32 → Int} {l l' : List mP} (h : sm φ l l') : l.Perm l' := by
  rw [List.perm_iff_count]
  intro x
  have h1 := h (φ x.1)
  have h2 : List.count x (l.filter (fun p => decide (φ p.1 = φ x.1))) = List.count x l := List.count_filter (by simp)
  have h3 : List.count x (l'.filter (fun p => decide (φ p.1 = φ x.1))) = List.count x l' := List.count_filter (by simp)
  rw [← h2, ← h3, h1]
/-- the place that the k-th has in the stretch when it is sorted stably -/
def plP (φ : Int32 → Int) (f : Nat → mP) (k : Nat) : Nat → Prop := fun j => φ (f j).1 < φ (f k).1 ∨ (j < k ∧ ¬ φ (f k).1 < φ (f j).1)
noncomputable def pl (φ : Int32 → Int) (f : Nat → mP) (a b k : Nat) : Nat := a + cn (plP φ f k) a (b - a)
theorem pl_eq {φ : Int32 → Int} {f : Nat → mP} {a b k : Nat} (h1 : a ≤ k) (h2 : k < b) : pl φ f a b k = a + (cn (fun j => φ (f j).1 < φ (f k).1) a (b - a) + cn (fun j => φ (f j).1 = φ (f k).1) a (k - a)) := by
  have e1 : cn (plP φ f k) a (b - a) = cn (fun j => φ (f j).1 < φ (f k).1 ∨ (j < k ∧ φ (f j).1 = φ (f k).1)) a (b - a) := cn_congr _ (fun j _ => by
    simp only [plP]; omega)
  have e2 := cn_or (P := fun j => φ (f j).1 < φ (f k).1) (Q := fun j => j < k ∧ φ (f j).1 = φ (f k).1) (a := a) (b - a) (fun j _ => by omega)
  have e3 : cn (fun j => j < k ∧ φ (f j).1 = φ (f k).1) a (b - a) = cn (fun j => φ (f j).1 = φ (f k).1) a (k - a) := by
    rw [show b - a = (k - a) + (b - k) by omega, cn_app, cn_none (b - k) (fun j _ => by omega), Nat.add_zero]
    exact cn_congr _ (fun j hj => by omega)
  unfold pl
  rw [e1, e2, e3]
/-- in a stretch that is sorted stably each place is the place of one that was there -/
theorem pl_onto {φ : Int32 → Int} {f g : Nat → mP} {a b : Nat} (hs : srt φ g a b) (h : sm φ (sg f a b) (sg g a b)) : ∀ q, a ≤ q → q < b → ∃ k, a ≤ k ∧ k < b ∧ pl φ f a b k = q ∧ f k = g q := by
  intro q q1 q2
  have hlt : cn (fun j => φ (f j).1 < φ (g q).1) a (b - a) = cn (fun j => φ (g j).1 < φ (g q).1) a (b - a) := by
    have hp := ((sm_perm h).filter (fun p => decide (φ p.1 < φ (g q).1))).length_eq
    unfold sg at hp
    rw [fl_len, fl_len] at hp
    have c1 := cn_congr (P := fun j => decide (φ (f j).1 < φ (g q).1) = true) (P' := fun j => φ (f j).1 < φ (g q).1) (a := a) (a' := a) (b - a) (fun j _ => by simp)
    have c2 := cn_congr (P := fun j => decide (φ (g j).1 < φ (g q).1) = true) (P' := fun j => φ (g j).1 < φ (g q).1) (a := a) (a' := a) (b - a) (fun j _ => by simp)
    rw [← c1, ← c2, hp]
  have hS : cn (fun j => φ (g j).1 < φ (g q).1) a (b - a) + cn (fun j => φ (g j).1 = φ (g q).1) a (q - a) = q - a := by
    rw [show b - a = (q - a) + (b - q) by omega, cn_app, show a + (q - a) = q by omega, cn_none (a := q) (b - q) (fun j hj => by have := hs q (q + j) q1 (by omega) (by omega); omega), Nat.add_zero]
    have e2 := cn_or (P := fun j => φ (g j).1 < φ (g q).1) (Q := fun j => φ (g j).1 = φ (g q).1) (a := a) (q - a) (fun j _ => by omega)
    rw [← e2]
    exact cn_all _ (fun j hj => by have := hs (a + j) q (by omega) (by omega) q2; omega)
  have hf := fl_at (fun p => decide (φ p.1 = φ (g q).1)) g a (b - a) (q - a) (by omega) (by rw [show a + (q - a) = q by omega]; simp)
  have hk := h (φ (g q).1)
  unfold sg at hk
  rw [← hk, show a + (q - a) = q by omega] at hf
  obtain ⟨m, m1, m2, m3, m4⟩ := fl_from _ f a (b - a) _ _ hf
  have c1 : cn (fun j => decide (φ (f j).1 = φ (g q).1) = true) a m = cn (fun j => φ (f j).1 = φ (g q).1) a m := cn_congr _ (fun j _ => by simp)
  have c2 : cn (fun j => decide (φ (g j).1 = φ (g q).1) = true) a (q - a) = cn (fun j => φ (g j).1 = φ (g q).1) a (q - a) := cn_congr _ (fun j _ => by simp)
  refine ⟨a + m, by omega, by omega, ?_, m2⟩
  rw [pl_eq (by omega) (by omega), m2, show a + m - a = m by omega, hlt, ← c1, m4, c2]
  omega
end
section
/-! ===== BEGIN words of one list among another's, by their places ===== -/
theorem goodIn_r {big : List Cond} (ws : List Cond) (ps : List Nat) (hp : ws = ps.filterMap (fun i => big[i]?)) (h : ws.all goodWord = true) : GoodIn big ws := by
  intro w hw
  have h1 := List.all_eq_true.mp h w hw
  rw [hp] at hw
  obtain ⟨i, -, hi⟩ := List.mem_filterMap.mp hw
  have hm : w ∈ big := by first | exact List.mem_of_getElem? hi | exact List.getElem?_mem hi
  exact ⟨hm, good_of_word h1⟩
theorem goodIn_app {big a b : List Cond} (ha : GoodIn big a) (hb : GoodIn big b) : GoodIn big (a ++ b) := fun w h => (List.mem_append.mp h).elim (ha w) (hb w)
theorem goodIn_ca {big a b : List Cond} {c : Cond} (ha : GoodIn big (c :: a)) (hb : GoodIn big b) : GoodIn big (c :: (a ++ b)) := fun w h => (List.mem_cons.mp h).elim (fun e => ha w (List.mem_cons.mpr (Or.inl e))) (fun h => (List.mem_append.mp h).elim (fun h => ha w (List.mem_cons.mpr (Or.inr h))) (hb w))
theorem goodIn_sub {big ws : List Cond} (hm : ∀ w ∈ ws, w ∈ big) (h : ws.all goodWord = true) : GoodIn big ws := fun w hw => ⟨hm w hw, good_of_word (List.all_eq_true.mp h w hw)⟩
/-! ===== END ===== -/

/-! ===== BEGIN printed: names, fields, word lists, decode rows ===== -/
def RX0 : String := "RowPress$Order"
def TX0 : u_T := fun k => match k with
  | _ => ("", "", "", false)
def tyX0 : Nat → FieldType := fun k => match k with
  | _ => .int
abbrev wsX00 : List Cond := u_ws RX0 TX0 0
theorem nmX0 : ∀ a, a < 0 → ∀ b, b < 0 → a ≠ b → (TX0 a).2.1 ≠ (TX0 b).2.1 := by decide +kernel
theorem tyX0_ok : ∀ k, k < 0 → parseFieldDescriptor (TX0 k).2.2.1 = some (tyX0 k) := by decide +kernel
abbrev cX0_exists : ByteArray := prog_2_method_2_code
def yX0_exists : MethodName := ⟨RX0, "exists", "(I)Z"⟩
abbrev cX0_isLess : ByteArray := prog_2_method_3_code
def yX0_isLess : MethodName := ⟨RX0, "isLess", "(III)Z"⟩
def RX1 : String := "RowPress$Row"
def TX1 : u_T := fun k => match k with
  | 0 => ("RowPress$Row", "keys", "[I", true)
  | 1 => ("RowPress$Row", "tags", "[I", true)
  | 2 => ("RowPress$Row", "size", "I", false)
  | 3 => ("RowPress$Row", "compares", "I", false)
  | _ => ("RowPress$Row", "writes", "I", false)
def tyX1 : Nat → FieldType := fun k => match k with
  | 0 => .array .int
  | 1 => .array .int
  | 2 => .int
  | 3 => .int
  | _ => .int
abbrev wsX10 : List Cond := u_ws RX1 TX1 5
theorem nmX1 : ∀ a, a < 5 → ∀ b, b < 5 → a ≠ b → (TX1 a).2.1 ≠ (TX1 b).2.1 := by decide +kernel
theorem tyX1_ok : ∀ k, k < 5 → parseFieldDescriptor (TX1 k).2.2.1 = some (tyX1 k) := by decide +kernel
abbrev cX1_init : ByteArray := prog_3_method_1_code
def yX1_init : MethodName := ⟨RX1, "<init>", "()V"⟩
abbrev cX1_hasRoomFor : ByteArray := prog_3_method_2_code
def yX1_hasRoomFor : MethodName := ⟨RX1, "hasRoomFor", "(I)Z"⟩
abbrev cX1_hasPlace : ByteArray := prog_3_method_3_code
def yX1_hasPlace : MethodName := ⟨RX1, "hasPlace", "(I)Z"⟩
abbrev cX1_hasStretch : ByteArray := prog_3_method_4_code
def yX1_hasStretch : MethodName := ⟨RX1, "hasStretch", "(II)Z"⟩
abbrev cX1_hasStretches : ByteArray := prog_3_method_5_code
def yX1_hasStretches : MethodName := ⟨RX1, "hasStretches", "(III)Z"⟩
abbrev cX1_append : ByteArray := prog_3_method_6_code
def yX1_append : MethodName := ⟨RX1, "append", "(II)V"⟩
abbrev cX1_startCounting : ByteArray := prog_3_method_7_code
def yX1_startCounting : MethodName := ⟨RX1, "startCounting", "()V"⟩
abbrev cX1_inOrder : ByteArray := prog_3_method_8_code
def yX1_inOrder : MethodName := ⟨RX1, "inOrder", "(III)Z"⟩
abbrev cX1_countLess : ByteArray := prog_3_method_9_code
def yX1_countLess : MethodName := ⟨RX1, "countLess", "(IIII)I"⟩
abbrev cX1_countNotMore : ByteArray := prog_3_method_10_code
def yX1_countNotMore : MethodName := ⟨RX1, "countNotMore", "(IIII)I"⟩
abbrev cX1_countSortedStretches : ByteArray := prog_3_method_11_code
def yX1_countSortedStretches : MethodName := ⟨RX1, "countSortedStretches", "()I"⟩
abbrev cX1_countDifferentKeys : ByteArray := prog_3_method_12_code
def yX1_countDifferentKeys : MethodName := ⟨RX1, "countDifferentKeys", "()I"⟩
abbrev cX1_standsBefore : ByteArray := prog_3_method_13_code
def yX1_standsBefore : MethodName := ⟨RX1, "standsBefore", "(I)Z"⟩
abbrev cX1_sortInPlace : ByteArray := prog_3_method_14_code
def yX1_sortInPlace : MethodName := ⟨RX1, "sortInPlace", "(III)V"⟩
abbrev cX1_mergeInPlace : ByteArray := prog_3_method_15_code
def yX1_mergeInPlace : MethodName := ⟨RX1, "mergeInPlace", "(LRowPress$Row;IIIII)V"⟩
abbrev cX1_startOfBlocks : ByteArray := prog_3_method_16_code
def yX1_startOfBlocks : MethodName := ⟨RX1, "startOfBlocks", "(IIII)I"⟩
abbrev cX1_splitInPlace : ByteArray := prog_3_method_17_code
def yX1_splitInPlace : MethodName := ⟨RX1, "splitInPlace", "(IIII)V"⟩
abbrev cX1_dropAlike : ByteArray := prog_3_method_18_code
def yX1_dropAlike : MethodName := ⟨RX1, "dropAlike", "(I)V"⟩
abbrev cX1_swapBlocks : ByteArray := prog_3_method_19_code
def yX1_swapBlocks : MethodName := ⟨RX1, "swapBlocks", "(III)V"⟩
abbrev cX1_reverse : ByteArray := prog_3_method_20_code
def yX1_reverse : MethodName := ⟨RX1, "reverse", "(II)V"⟩
abbrev cX1_swapPairs : ByteArray := prog_3_method_21_code
def yX1_swapPairs : MethodName := ⟨RX1, "swapPairs", "(II)V"⟩
abbrev cX1_lessAt : ByteArray := prog_3_method_22_code
def yX1_lessAt : MethodName := ⟨RX1, "lessAt", "(III)Z"⟩
def RX2 : String := "RowPress"
def TX2 : u_T := fun k => match k with
  | 0 => ("RowPress", "row", "LRowPress$Row;", true)
  | 1 => ("RowPress", "latestPairs", "I", false)
  | 2 => ("RowPress", "latestCompares", "I", false)
  | _ => ("RowPress", "latestWrites", "I", false)
def tyX2 : Nat → FieldType := fun k => match k with
  | 0 => .object "RowPress$Row"
  | 1 => .int
  | 2 => .int
  | _ => .int
abbrev wsX20 : List Cond := u_ws RX2 TX2 4
theorem nmX2 : ∀ a, a < 4 → ∀ b, b < 4 → a ≠ b → (TX2 a).2.1 ≠ (TX2 b).2.1 := by decide +kernel
theorem tyX2_ok : ∀ k, k < 4 → parseFieldDescriptor (TX2 k).2.2.1 = some (tyX2 k) := by decide +kernel
abbrev cX2_init : ByteArray := prog_1_method_1_code
def yX2_init : MethodName := ⟨RX2, "<init>", "()V"⟩
abbrev cX2_put : ByteArray := prog_1_method_2_code
def yX2_put : MethodName := ⟨RX2, "put", "(II)I"⟩
abbrev cX2_run : ByteArray := prog_1_method_3_code
def yX2_run : MethodName := ⟨RX2, "run", "(IIII)I"⟩
abbrev cX2_clear : ByteArray := prog_1_method_4_code
def yX2_clear : MethodName := ⟨RX2, "clear", "()I"⟩
abbrev cX2_sort : ByteArray := prog_1_method_5_code
def yX2_sort : MethodName := ⟨RX2, "sort", "(I)I"⟩
abbrev cX2_sortPart : ByteArray := prog_1_method_6_code
def yX2_sortPart : MethodName := ⟨RX2, "sortPart", "(III)I"⟩
abbrev cX2_merge : ByteArray := prog_1_method_7_code
def yX2_merge : MethodName := ⟨RX2, "merge", "(IIII)I"⟩
abbrev cX2_rotate : ByteArray := prog_1_method_8_code
def yX2_rotate : MethodName := ⟨RX2, "rotate", "(III)I"⟩
abbrev cX2_turn : ByteArray := prog_1_method_9_code
def yX2_turn : MethodName := ⟨RX2, "turn", "(II)I"⟩
abbrev cX2_split : ByteArray := prog_1_method_10_code
def yX2_split : MethodName := ⟨RX2, "split", "(IIII)I"⟩
abbrev cX2_thin : ByteArray := prog_1_method_11_code
def yX2_thin : MethodName := ⟨RX2, "thin", "(I)I"⟩
abbrev cX2_sorted : ByteArray := prog_1_method_12_code
def yX2_sorted : MethodName := ⟨RX2, "sorted", "(III)I"⟩
abbrev cX2_find : ByteArray := prog_1_method_13_code
def yX2_find : MethodName := ⟨RX2, "find", "(III)I"⟩
abbrev cX2_rank : ByteArray := prog_1_method_14_code
def yX2_rank : MethodName := ⟨RX2, "rank", "(II)I"⟩
abbrev cX2_key : ByteArray := prog_1_method_15_code
def yX2_key : MethodName := ⟨RX2, "key", "(I)I"⟩
abbrev cX2_tag : ByteArray := prog_1_method_16_code
def yX2_tag : MethodName := ⟨RX2, "tag", "(I)I"⟩
abbrev cX2_count : ByteArray := prog_1_method_17_code
def yX2_count : MethodName := ⟨RX2, "count", "(I)I"⟩
abbrev cX2_check : ByteArray := prog_1_method_18_code
def yX2_check : MethodName := ⟨RX2, "check", "()I"⟩
abbrev cX2_keepCounts : ByteArray := prog_1_method_19_code
def yX2_keepCounts : MethodName := ⟨RX2, "keepCounts", "(I)V"⟩
abbrev cX2_levels : ByteArray := prog_1_method_20_code
def yX2_levels : MethodName := ⟨RX2, "levels", "(I)I"⟩
def RX3 : String := "RowPressModel"
def TX3 : u_T := fun k => match k with
  | 0 => ("RowPressModel", "keys", "[I", true)
  | 1 => ("RowPressModel", "tags", "[I", true)
  | 2 => ("RowPressModel", "many", "I", false)
  | 3 => ("RowPressModel", "nextKeys", "[I", true)
  | _ => ("RowPressModel", "nextTags", "[I", true)
def tyX3 : Nat → FieldType := fun k => match k with
  | 0 => .array .int
  | 1 => .array .int
  | 2 => .int
  | 3 => .array .int
  | _ => .array .int
abbrev wsX30 : List Cond := u_ws RX3 TX3 5
theorem nmX3 : ∀ a, a < 5 → ∀ b, b < 5 → a ≠ b → (TX3 a).2.1 ≠ (TX3 b).2.1 := by decide +kernel
theorem tyX3_ok : ∀ k, k < 5 → parseFieldDescriptor (TX3 k).2.2.1 = some (tyX3 k) := by decide +kernel
abbrev cX3_init : ByteArray := prog_5_method_1_code
def yX3_init : MethodName := ⟨RX3, "<init>", "()V"⟩
abbrev cX3_isOrder : ByteArray := prog_5_method_2_code
def yX3_isOrder : MethodName := ⟨RX3, "isOrder", "(I)Z"⟩
abbrev cX3_isStretch : ByteArray := prog_5_method_3_code
def yX3_isStretch : MethodName := ⟨RX3, "isStretch", "(II)Z"⟩
abbrev cX3_isLess : ByteArray := prog_5_method_4_code
def yX3_isLess : MethodName := ⟨RX3, "isLess", "(III)Z"⟩
abbrev cX3_isSorted : ByteArray := prog_5_method_5_code
def yX3_isSorted : MethodName := ⟨RX3, "isSorted", "(III)Z"⟩
abbrev cX3_put : ByteArray := prog_5_method_6_code
def yX3_put : MethodName := ⟨RX3, "put", "(II)I"⟩
abbrev cX3_run : ByteArray := prog_5_method_7_code
def yX3_run : MethodName := ⟨RX3, "run", "(IIII)I"⟩
abbrev cX3_clear : ByteArray := prog_5_method_8_code
def yX3_clear : MethodName := ⟨RX3, "clear", "()I"⟩
abbrev cX3_place : ByteArray := prog_5_method_9_code
def yX3_place : MethodName := ⟨RX3, "place", "(IIII)I"⟩
abbrev cX3_move : ByteArray := prog_5_method_10_code
def yX3_move : MethodName := ⟨RX3, "move", "(II)V"⟩
abbrev cX3_take : ByteArray := prog_5_method_11_code
def yX3_take : MethodName := ⟨RX3, "take", "(II)V"⟩
abbrev cX3_arrange : ByteArray := prog_5_method_12_code
def yX3_arrange : MethodName := ⟨RX3, "arrange", "(III)V"⟩
abbrev cX3_sort : ByteArray := prog_5_method_13_code
def yX3_sort : MethodName := ⟨RX3, "sort", "(I)I"⟩
abbrev cX3_sortPart : ByteArray := prog_5_method_14_code
def yX3_sortPart : MethodName := ⟨RX3, "sortPart", "(III)I"⟩
abbrev cX3_merge : ByteArray := prog_5_method_15_code
def yX3_merge : MethodName := ⟨RX3, "merge", "(IIII)I"⟩
abbrev cX3_rotate : ByteArray := prog_5_method_16_code
def yX3_rotate : MethodName := ⟨RX3, "rotate", "(III)I"⟩
abbrev cX3_turn : ByteArray := prog_5_method_17_code
def yX3_turn : MethodName := ⟨RX3, "turn", "(II)I"⟩
abbrev cX3_split : ByteArray := prog_5_method_18_code
def yX3_split : MethodName := ⟨RX3, "split", "(IIII)I"⟩
abbrev cX3_thin : ByteArray := prog_5_method_19_code
def yX3_thin : MethodName := ⟨RX3, "thin", "(I)I"⟩
abbrev cX3_sorted : ByteArray := prog_5_method_20_code
def yX3_sorted : MethodName := ⟨RX3, "sorted", "(III)I"⟩
abbrev cX3_find : ByteArray := prog_5_method_21_code
def yX3_find : MethodName := ⟨RX3, "find", "(III)I"⟩
abbrev cX3_rank : ByteArray := prog_5_method_22_code
def yX3_rank : MethodName := ⟨RX3, "rank", "(II)I"⟩
abbrev cX3_key : ByteArray := prog_5_method_23_code
def yX3_key : MethodName := ⟨RX3, "key", "(I)I"⟩
abbrev cX3_tag : ByteArray := prog_5_method_24_code
def yX3_tag : MethodName := ⟨RX3, "tag", "(I)I"⟩
abbrev cX3_stretches : ByteArray := prog_5_method_25_code
def yX3_stretches : MethodName := ⟨RX3, "stretches", "()I"⟩
abbrev cX3_different : ByteArray := prog_5_method_26_code
def yX3_different : MethodName := ⟨RX3, "different", "()I"⟩
abbrev cX3_count : ByteArray := prog_5_method_27_code
def yX3_count : MethodName := ⟨RX3, "count", "(I)I"⟩
abbrev cX3_check : ByteArray := prog_5_method_28_code
def yX3_check : MethodName := ⟨RX3, "check", "()I"⟩
def RJ9 : String := "java/lang/Math"
def TJ9 : u_T := fun k => match k with
  | _ => ("", "", "", false)
def tyJ9 : Nat → FieldType := fun k => match k with
  | _ => .int
abbrev wsJ90 : List Cond := u_ws RJ9 TJ9 0
theorem nmJ9 : ∀ a, a < 0 → ∀ b, b < 0 → a ≠ b → (TJ9 a).2.1 ≠ (TJ9 b).2.1 := by decide +kernel
theorem tyJ9_ok : ∀ k, k < 0 → parseFieldDescriptor (TJ9 k).2.2.1 = some (tyJ9 k) := by decide +kernel
abbrev cJ9_min_7cf53 : ByteArray := prog_6_method_69_code
def yJ9_min_7cf53 : MethodName := ⟨RJ9, "min", "(II)I"⟩
def RL : String := "RowPressLaw"
abbrev cL_law : ByteArray := code
def yL_law : MethodName := ⟨RL, "law", "([I)Z"⟩
def wsX0_exists : List Cond := .code yX0_exists cX0_exists 1 (some .boolean) :: ([])
def wsX0_isLess : List Cond := .code yX0_isLess cX0_isLess 3 (some .boolean) :: ([.constant RX0 9 (-2147483648)])
def wsX1_init : List Cond := .code yX1_init cX1_init 1 none :: ([.methodLink RX1 1 objectInit, .instanceMethod objectInit, .code objectInit ⟨#[0xb1]⟩ 1 none, .arrayClass .int, .fieldLink RX1 9 "RowPress$Row" "keys" "[I", .fieldLink RX1 13 "RowPress$Row" "tags" "[I"] ++ wsX10)
def wsX1_hasRoomFor : List Cond := .code yX1_hasRoomFor cX1_hasRoomFor 2 (some .boolean) :: ([.fieldLink RX1 16 "RowPress$Row" "size" "I"] ++ wsX10)
def wsX1_hasPlace : List Cond := .code yX1_hasPlace cX1_hasPlace 2 (some .boolean) :: ([.fieldLink RX1 16 "RowPress$Row" "size" "I"] ++ wsX10)
def wsX1_hasStretch : List Cond := .code yX1_hasStretch cX1_hasStretch 3 (some .boolean) :: ([.fieldLink RX1 16 "RowPress$Row" "size" "I"] ++ wsX10)
def wsX1_hasStretches : List Cond := .code yX1_hasStretches cX1_hasStretches 4 (some .boolean) :: ([.methodLink RX1 20 yX1_hasStretch, .instanceMethod yX1_hasStretch, .selects RX1 yX1_hasStretch yX1_hasStretch, .initialized RX1, .code yX1_hasStretch cX1_hasStretch 3 (some .boolean), .fieldLink RX1 16 "RowPress$Row" "size" "I"] ++ wsX10)
def wsX1_append : List Cond := .code yX1_append cX1_append 3 none :: ([.fieldLink RX1 9 "RowPress$Row" "keys" "[I", .fieldLink RX1 16 "RowPress$Row" "size" "I", .fieldLink RX1 13 "RowPress$Row" "tags" "[I"] ++ wsX10)
def wsX1_startCounting : List Cond := .code yX1_startCounting cX1_startCounting 1 none :: ([.fieldLink RX1 24 "RowPress$Row" "compares" "I", .fieldLink RX1 27 "RowPress$Row" "writes" "I"] ++ wsX10)
def wsX1_lessAt : List Cond := .code yX1_lessAt cX1_lessAt 4 (some .boolean) :: ([.fieldLink RX1 24 "RowPress$Row" "compares" "I", .fieldLink RX1 9 "RowPress$Row" "keys" "[I", .methodLink RX1 34 yX0_isLess, .static yX0_isLess, .initialized RX0, .code yX0_isLess cX0_isLess 3 (some .boolean), .constant RX0 9 (-2147483648)] ++ wsX10)
def wsX1_inOrder : List Cond := .code yX1_inOrder cX1_inOrder 5 (some .boolean) :: ([.methodLink RX1 30 yX1_lessAt, .instanceMethod yX1_lessAt, .selects RX1 yX1_lessAt yX1_lessAt, .initialized RX1, .code yX1_lessAt cX1_lessAt 4 (some .boolean), .fieldLink RX1 24 "RowPress$Row" "compares" "I", .fieldLink RX1 9 "RowPress$Row" "keys" "[I", .methodLink RX1 34 yX0_isLess, .static yX0_isLess, .initialized RX0, .code yX0_isLess cX0_isLess 3 (some .boolean), .constant RX0 9 (-2147483648)] ++ wsX10)
def wsX1_countLess : List Cond := .code yX1_countLess cX1_countLess 7 (some .int) :: ([.fieldLink RX1 9 "RowPress$Row" "keys" "[I", .methodLink RX1 34 yX0_isLess, .static yX0_isLess, .initialized RX0, .code yX0_isLess cX0_isLess 3 (some .boolean), .constant RX0 9 (-2147483648)] ++ wsX10)
def wsX1_countNotMore : List Cond := .code yX1_countNotMore cX1_countNotMore 7 (some .int) :: ([.fieldLink RX1 9 "RowPress$Row" "keys" "[I", .methodLink RX1 34 yX0_isLess, .static yX0_isLess, .initialized RX0, .code yX0_isLess cX0_isLess 3 (some .boolean), .constant RX0 9 (-2147483648)] ++ wsX10)
def wsX1_countSortedStretches : List Cond := .code yX1_countSortedStretches cX1_countSortedStretches 3 (some .int) :: ([.fieldLink RX1 16 "RowPress$Row" "size" "I", .fieldLink RX1 9 "RowPress$Row" "keys" "[I"] ++ wsX10)
def wsX1_standsBefore : List Cond := .code yX1_standsBefore cX1_standsBefore 3 (some .boolean) :: ([.fieldLink RX1 9 "RowPress$Row" "keys" "[I"] ++ wsX10)
def wsX1_countDifferentKeys : List Cond := .code yX1_countDifferentKeys cX1_countDifferentKeys 3 (some .int) :: ([.fieldLink RX1 16 "RowPress$Row" "size" "I", .methodLink RX1 39 yX1_standsBefore, .instanceMethod yX1_standsBefore, .selects RX1 yX1_standsBefore yX1_standsBefore, .initialized RX1, .code yX1_standsBefore cX1_standsBefore 3 (some .boolean), .fieldLink RX1 9 "RowPress$Row" "keys" "[I"] ++ wsX10)
def wsX1_startOfBlocks : List Cond := .code yX1_startOfBlocks cX1_startOfBlocks 10 (some .int) :: ([.methodLink RX1 30 yX1_lessAt, .instanceMethod yX1_lessAt, .selects RX1 yX1_lessAt yX1_lessAt, .initialized RX1, .code yX1_lessAt cX1_lessAt 4 (some .boolean), .fieldLink RX1 24 "RowPress$Row" "compares" "I", .fieldLink RX1 9 "RowPress$Row" "keys" "[I", .methodLink RX1 34 yX0_isLess, .static yX0_isLess, .initialized RX0, .code yX0_isLess cX0_isLess 3 (some .boolean), .constant RX0 9 (-2147483648)] ++ wsX10)
def wsX1_swapPairs : List Cond := .code yX1_swapPairs cX1_swapPairs 5 none :: ([.fieldLink RX1 9 "RowPress$Row" "keys" "[I", .fieldLink RX1 27 "RowPress$Row" "writes" "I", .fieldLink RX1 13 "RowPress$Row" "tags" "[I"] ++ wsX10)
def wsX1_reverse : List Cond := .code yX1_reverse cX1_reverse 5 none :: ([.methodLink RX1 68 yX1_swapPairs, .instanceMethod yX1_swapPairs, .selects RX1 yX1_swapPairs yX1_swapPairs, .initialized RX1, .code yX1_swapPairs cX1_swapPairs 5 none, .fieldLink RX1 9 "RowPress$Row" "keys" "[I", .fieldLink RX1 27 "RowPress$Row" "writes" "I", .fieldLink RX1 13 "RowPress$Row" "tags" "[I"] ++ wsX10)
def wsX1_swapBlocks : List Cond := .code yX1_swapBlocks cX1_swapBlocks 4 none :: ([.methodLink RX1 64 yX1_reverse, .instanceMethod yX1_reverse, .selects RX1 yX1_reverse yX1_reverse, .initialized RX1, .code yX1_reverse cX1_reverse 5 none, .methodLink RX1 68 yX1_swapPairs, .instanceMethod yX1_swapPairs, .selects RX1 yX1_swapPairs yX1_swapPairs, .code yX1_swapPairs cX1_swapPairs 5 none, .fieldLink RX1 9 "RowPress$Row" "keys" "[I", .fieldLink RX1 27 "RowPress$Row" "writes" "I", .fieldLink RX1 13 "RowPress$Row" "tags" "[I"] ++ wsX10)
def wsX1_mergeInPlace_r1 : List Cond := [Cond.methodLink RX1 53 yX1_startOfBlocks, Cond.instanceMethod yX1_startOfBlocks, Cond.selects RX1 yX1_startOfBlocks yX1_startOfBlocks, Cond.initialized RX1, Cond.code yX1_startOfBlocks cX1_startOfBlocks 10 (some .int), Cond.methodLink RX1 30 yX1_lessAt, Cond.instanceMethod yX1_lessAt, Cond.selects RX1 yX1_lessAt yX1_lessAt, Cond.code yX1_lessAt cX1_lessAt 4 (some .boolean), Cond.fieldLink RX1 24 "RowPress$Row" "compares" "I", Cond.fieldLink RX1 9 "RowPress$Row" "keys" "[I", Cond.methodLink RX1 34 yX0_isLess, Cond.static yX0_isLess, Cond.initialized RX0, Cond.code yX0_isLess cX0_isLess 3 (some .boolean), Cond.constant RX0 9 (-2147483648), Cond.methodLink RX1 57 yX1_swapBlocks, Cond.instanceMethod yX1_swapBlocks, Cond.selects RX1 yX1_swapBlocks yX1_swapBlocks, Cond.code yX1_swapBlocks cX1_swapBlocks 4 none, Cond.methodLink RX1 64 yX1_reverse, Cond.instanceMethod yX1_reverse, Cond.selects RX1 yX1_reverse yX1_reverse, Cond.code yX1_reverse cX1_reverse 5 none]
def wsX1_mergeInPlace_r2 : List Cond := [Cond.methodLink RX1 68 yX1_swapPairs, Cond.instanceMethod yX1_swapPairs, Cond.selects RX1 yX1_swapPairs yX1_swapPairs, Cond.code yX1_swapPairs cX1_swapPairs 5 none, Cond.fieldLink RX1 27 "RowPress$Row" "writes" "I", Cond.fieldLink RX1 13 "RowPress$Row" "tags" "[I", Cond.methodLink RX1 49 yX1_mergeInPlace, Cond.static yX1_mergeInPlace]
def wsX1_mergeInPlace : List Cond := .code yX1_mergeInPlace cX1_mergeInPlace 9 none :: ((wsX1_mergeInPlace_r1 ++ wsX1_mergeInPlace_r2) ++ wsX10)
def wsX1_sortInPlace_r1 : List Cond := [Cond.methodLink RX1 43 Lib.Math.min.name, Cond.static Lib.Math.min.name, Cond.initialized "java/lang/Math", Cond.code Lib.Math.min.name Lib.Math.min.code 2 (some .int), Cond.methodLink RX1 49 yX1_mergeInPlace, Cond.static yX1_mergeInPlace, Cond.initialized RX1, Cond.code yX1_mergeInPlace cX1_mergeInPlace 9 none, Cond.methodLink RX1 53 yX1_startOfBlocks, Cond.instanceMethod yX1_startOfBlocks, Cond.selects RX1 yX1_startOfBlocks yX1_startOfBlocks, Cond.code yX1_startOfBlocks cX1_startOfBlocks 10 (some .int), Cond.methodLink RX1 30 yX1_lessAt, Cond.instanceMethod yX1_lessAt, Cond.selects RX1 yX1_lessAt yX1_lessAt, Cond.code yX1_lessAt cX1_lessAt 4 (some .boolean), Cond.fieldLink RX1 24 "RowPress$Row" "compares" "I", Cond.fieldLink RX1 9 "RowPress$Row" "keys" "[I", Cond.methodLink RX1 34 yX0_isLess, Cond.static yX0_isLess, Cond.initialized RX0, Cond.code yX0_isLess cX0_isLess 3 (some .boolean), Cond.constant RX0 9 (-2147483648), Cond.methodLink RX1 57 yX1_swapBlocks]
def wsX1_sortInPlace_r2 : List Cond := [Cond.instanceMethod yX1_swapBlocks, Cond.selects RX1 yX1_swapBlocks yX1_swapBlocks, Cond.code yX1_swapBlocks cX1_swapBlocks 4 none, Cond.methodLink RX1 64 yX1_reverse, Cond.instanceMethod yX1_reverse, Cond.selects RX1 yX1_reverse yX1_reverse, Cond.code yX1_reverse cX1_reverse 5 none, Cond.methodLink RX1 68 yX1_swapPairs, Cond.instanceMethod yX1_swapPairs, Cond.selects RX1 yX1_swapPairs yX1_swapPairs, Cond.code yX1_swapPairs cX1_swapPairs 5 none, Cond.fieldLink RX1 27 "RowPress$Row" "writes" "I", Cond.fieldLink RX1 13 "RowPress$Row" "tags" "[I"]
def wsX1_sortInPlace : List Cond := .code yX1_sortInPlace cX1_sortInPlace 7 none :: ((wsX1_sortInPlace_r1 ++ wsX1_sortInPlace_r2) ++ wsX10)
def wsX1_splitInPlace_r1 : List Cond := [Cond.methodLink RX1 43 Lib.Math.min.name, Cond.static Lib.Math.min.name, Cond.initialized "java/lang/Math", Cond.code Lib.Math.min.name Lib.Math.min.code 2 (some .int), Cond.methodLink RX1 61 yX1_countLess, Cond.instanceMethod yX1_countLess, Cond.selects RX1 yX1_countLess yX1_countLess, Cond.initialized RX1, Cond.code yX1_countLess cX1_countLess 7 (some .int), Cond.fieldLink RX1 9 "RowPress$Row" "keys" "[I", Cond.methodLink RX1 34 yX0_isLess, Cond.static yX0_isLess, Cond.initialized RX0, Cond.code yX0_isLess cX0_isLess 3 (some .boolean), Cond.constant RX0 9 (-2147483648), Cond.methodLink RX1 57 yX1_swapBlocks, Cond.instanceMethod yX1_swapBlocks, Cond.selects RX1 yX1_swapBlocks yX1_swapBlocks, Cond.code yX1_swapBlocks cX1_swapBlocks 4 none, Cond.methodLink RX1 64 yX1_reverse, Cond.instanceMethod yX1_reverse, Cond.selects RX1 yX1_reverse yX1_reverse, Cond.code yX1_reverse cX1_reverse 5 none, Cond.methodLink RX1 68 yX1_swapPairs]
def wsX1_splitInPlace_r2 : List Cond := [Cond.instanceMethod yX1_swapPairs, Cond.selects RX1 yX1_swapPairs yX1_swapPairs, Cond.code yX1_swapPairs cX1_swapPairs 5 none, Cond.fieldLink RX1 27 "RowPress$Row" "writes" "I", Cond.fieldLink RX1 13 "RowPress$Row" "tags" "[I"]
def wsX1_splitInPlace : List Cond := .code yX1_splitInPlace cX1_splitInPlace 11 none :: ((wsX1_splitInPlace_r1 ++ wsX1_splitInPlace_r2) ++ wsX10)
def wsX1_dropAlike : List Cond := .code yX1_dropAlike cX1_dropAlike 4 none :: ([.fieldLink RX1 16 "RowPress$Row" "size" "I", .fieldLink RX1 9 "RowPress$Row" "keys" "[I", .fieldLink RX1 13 "RowPress$Row" "tags" "[I", .methodLink RX1 30 yX1_lessAt, .instanceMethod yX1_lessAt, .selects RX1 yX1_lessAt yX1_lessAt, .initialized RX1, .code yX1_lessAt cX1_lessAt 4 (some .boolean), .fieldLink RX1 24 "RowPress$Row" "compares" "I", .methodLink RX1 34 yX0_isLess, .static yX0_isLess, .initialized RX0, .code yX0_isLess cX0_isLess 3 (some .boolean), .constant RX0 9 (-2147483648)] ++ wsX10)
def wsX2_init : List Cond := .code yX2_init cX2_init 1 none :: ([.methodLink RX2 1 objectInit, .instanceMethod objectInit, .code objectInit ⟨#[0xb1]⟩ 1 none, .classLink RX2 7 RX1, .instantiable RX1 5, .initialized RX1, .fieldLink RX2 10 "RowPress" "row" "LRowPress$Row;", .instanceMethod yX1_init, .code yX1_init cX1_init 1 none, .methodLink RX1 1 objectInit, .arrayClass .int, .fieldLink RX1 9 "RowPress$Row" "keys" "[I", .fieldLink RX1 13 "RowPress$Row" "tags" "[I"] ++ wsX10 ++ wsX20)
def wsX2_put : List Cond := .code yX2_put cX2_put 3 (some .int) :: ([.fieldLink RX2 10 "RowPress" "row" "LRowPress$Row;", .fieldLink RX2 24 "RowPress$Row" "size" "I", .methodLink RX2 16 yX1_hasRoomFor, .instanceMethod yX1_hasRoomFor, .selects RX1 yX1_hasRoomFor yX1_hasRoomFor, .initialized RX1, .code yX1_hasRoomFor cX1_hasRoomFor 2 (some .boolean), .fieldLink RX1 16 "RowPress$Row" "size" "I", .methodLink RX2 20 yX1_append, .instanceMethod yX1_append, .selects RX1 yX1_append yX1_append, .code yX1_append cX1_append 3 none, .fieldLink RX1 9 "RowPress$Row" "keys" "[I", .fieldLink RX1 13 "RowPress$Row" "tags" "[I"] ++ wsX20 ++ wsX10)
def wsX2_run : List Cond := .code yX2_run cX2_run 6 (some .int) :: ([.fieldLink RX2 10 "RowPress" "row" "LRowPress$Row;", .fieldLink RX2 24 "RowPress$Row" "size" "I", .methodLink RX2 16 yX1_hasRoomFor, .instanceMethod yX1_hasRoomFor, .selects RX1 yX1_hasRoomFor yX1_hasRoomFor, .initialized RX1, .code yX1_hasRoomFor cX1_hasRoomFor 2 (some .boolean), .fieldLink RX1 16 "RowPress$Row" "size" "I", .methodLink RX2 20 yX1_append, .instanceMethod yX1_append, .selects RX1 yX1_append yX1_append, .code yX1_append cX1_append 3 none, .fieldLink RX1 9 "RowPress$Row" "keys" "[I", .fieldLink RX1 13 "RowPress$Row" "tags" "[I"] ++ wsX20 ++ wsX10)
def wsX2_clear : List Cond := .code yX2_clear cX2_clear 2 (some .int) :: ([.fieldLink RX2 10 "RowPress" "row" "LRowPress$Row;", .fieldLink RX2 24 "RowPress$Row" "size" "I"] ++ wsX20 ++ wsX10)
def wsX2_keepCounts : List Cond := .code yX2_keepCounts cX2_keepCounts 2 none :: ([.fieldLink RX2 100 "RowPress" "latestPairs" "I", .fieldLink RX2 10 "RowPress" "row" "LRowPress$Row;", .fieldLink RX2 113 "RowPress$Row" "compares" "I", .fieldLink RX2 107 "RowPress" "latestCompares" "I", .fieldLink RX2 116 "RowPress$Row" "writes" "I", .fieldLink RX2 110 "RowPress" "latestWrites" "I"] ++ wsX20 ++ wsX10)
def wsX2_sortPart_r1 : List Cond := [Cond.fieldLink RX2 10 "RowPress" "row" "LRowPress$Row;", Cond.methodLink RX2 32 yX0_exists, Cond.static yX0_exists, Cond.initialized RX0, Cond.code yX0_exists cX0_exists 1 (some .boolean), Cond.methodLink RX2 37 yX1_hasStretch, Cond.instanceMethod yX1_hasStretch, Cond.selects RX1 yX1_hasStretch yX1_hasStretch, Cond.initialized RX1, Cond.code yX1_hasStretch cX1_hasStretch 3 (some .boolean), Cond.fieldLink RX1 16 "RowPress$Row" "size" "I", Cond.methodLink RX2 41 yX1_startCounting, Cond.instanceMethod yX1_startCounting, Cond.selects RX1 yX1_startCounting yX1_startCounting, Cond.code yX1_startCounting cX1_startCounting 1 none, Cond.fieldLink RX1 24 "RowPress$Row" "compares" "I", Cond.fieldLink RX1 27 "RowPress$Row" "writes" "I", Cond.methodLink RX2 44 yX1_sortInPlace, Cond.instanceMethod yX1_sortInPlace, Cond.selects RX1 yX1_sortInPlace yX1_sortInPlace, Cond.code yX1_sortInPlace cX1_sortInPlace 7 none, Cond.methodLink RX1 43 Lib.Math.min.name, Cond.static Lib.Math.min.name, Cond.initialized "java/lang/Math"]
def wsX2_sortPart_r2 : List Cond := [Cond.code Lib.Math.min.name Lib.Math.min.code 2 (some .int), Cond.methodLink RX1 49 yX1_mergeInPlace, Cond.static yX1_mergeInPlace, Cond.code yX1_mergeInPlace cX1_mergeInPlace 9 none, Cond.methodLink RX1 53 yX1_startOfBlocks, Cond.instanceMethod yX1_startOfBlocks, Cond.selects RX1 yX1_startOfBlocks yX1_startOfBlocks, Cond.code yX1_startOfBlocks cX1_startOfBlocks 10 (some .int), Cond.methodLink RX1 30 yX1_lessAt, Cond.instanceMethod yX1_lessAt, Cond.selects RX1 yX1_lessAt yX1_lessAt, Cond.code yX1_lessAt cX1_lessAt 4 (some .boolean), Cond.fieldLink RX1 9 "RowPress$Row" "keys" "[I", Cond.methodLink RX1 34 yX0_isLess, Cond.static yX0_isLess, Cond.code yX0_isLess cX0_isLess 3 (some .boolean), Cond.constant RX0 9 (-2147483648), Cond.methodLink RX1 57 yX1_swapBlocks, Cond.instanceMethod yX1_swapBlocks, Cond.selects RX1 yX1_swapBlocks yX1_swapBlocks, Cond.code yX1_swapBlocks cX1_swapBlocks 4 none, Cond.methodLink RX1 64 yX1_reverse, Cond.instanceMethod yX1_reverse, Cond.selects RX1 yX1_reverse yX1_reverse]
def wsX2_sortPart_r3 : List Cond := [Cond.code yX1_reverse cX1_reverse 5 none, Cond.methodLink RX1 68 yX1_swapPairs, Cond.instanceMethod yX1_swapPairs, Cond.selects RX1 yX1_swapPairs yX1_swapPairs, Cond.code yX1_swapPairs cX1_swapPairs 5 none, Cond.fieldLink RX1 13 "RowPress$Row" "tags" "[I", Cond.methodLink RX2 48 yX2_keepCounts, Cond.instanceMethod yX2_keepCounts, Cond.selects RX2 yX2_keepCounts yX2_keepCounts, Cond.initialized RX2, Cond.code yX2_keepCounts cX2_keepCounts 2 none, Cond.fieldLink RX2 100 "RowPress" "latestPairs" "I", Cond.fieldLink RX2 113 "RowPress$Row" "compares" "I", Cond.fieldLink RX2 107 "RowPress" "latestCompares" "I", Cond.fieldLink RX2 116 "RowPress$Row" "writes" "I", Cond.fieldLink RX2 110 "RowPress" "latestWrites" "I"]
def wsX2_sortPart : List Cond := .code yX2_sortPart cX2_sortPart 4 (some .int) :: ((wsX2_sortPart_r1 ++ (wsX2_sortPart_r2 ++ wsX2_sortPart_r3)) ++ wsX20 ++ wsX10)
def wsX2_sort_r1 : List Cond := [Cond.fieldLink RX2 10 "RowPress" "row" "LRowPress$Row;", Cond.fieldLink RX2 24 "RowPress$Row" "size" "I", Cond.methodLink RX2 28 yX2_sortPart, Cond.instanceMethod yX2_sortPart, Cond.selects RX2 yX2_sortPart yX2_sortPart, Cond.initialized RX2, Cond.code yX2_sortPart cX2_sortPart 4 (some .int), Cond.methodLink RX2 32 yX0_exists, Cond.static yX0_exists, Cond.initialized RX0, Cond.code yX0_exists cX0_exists 1 (some .boolean), Cond.methodLink RX2 37 yX1_hasStretch, Cond.instanceMethod yX1_hasStretch, Cond.selects RX1 yX1_hasStretch yX1_hasStretch, Cond.initialized RX1, Cond.code yX1_hasStretch cX1_hasStretch 3 (some .boolean), Cond.fieldLink RX1 16 "RowPress$Row" "size" "I", Cond.methodLink RX2 41 yX1_startCounting, Cond.instanceMethod yX1_startCounting, Cond.selects RX1 yX1_startCounting yX1_startCounting, Cond.code yX1_startCounting cX1_startCounting 1 none, Cond.fieldLink RX1 24 "RowPress$Row" "compares" "I", Cond.fieldLink RX1 27 "RowPress$Row" "writes" "I", Cond.methodLink RX2 44 yX1_sortInPlace]
def wsX2_sort_r2 : List Cond := [Cond.instanceMethod yX1_sortInPlace, Cond.selects RX1 yX1_sortInPlace yX1_sortInPlace, Cond.code yX1_sortInPlace cX1_sortInPlace 7 none, Cond.methodLink RX1 43 Lib.Math.min.name, Cond.static Lib.Math.min.name, Cond.initialized "java/lang/Math", Cond.code Lib.Math.min.name Lib.Math.min.code 2 (some .int), Cond.methodLink RX1 49 yX1_mergeInPlace, Cond.static yX1_mergeInPlace, Cond.code yX1_mergeInPlace cX1_mergeInPlace 9 none, Cond.methodLink RX1 53 yX1_startOfBlocks, Cond.instanceMethod yX1_startOfBlocks, Cond.selects RX1 yX1_startOfBlocks yX1_startOfBlocks, Cond.code yX1_startOfBlocks cX1_startOfBlocks 10 (some .int), Cond.methodLink RX1 30 yX1_lessAt, Cond.instanceMethod yX1_lessAt, Cond.selects RX1 yX1_lessAt yX1_lessAt, Cond.code yX1_lessAt cX1_lessAt 4 (some .boolean), Cond.fieldLink RX1 9 "RowPress$Row" "keys" "[I", Cond.methodLink RX1 34 yX0_isLess, Cond.static yX0_isLess, Cond.code yX0_isLess cX0_isLess 3 (some .boolean), Cond.constant RX0 9 (-2147483648), Cond.methodLink RX1 57 yX1_swapBlocks]
def wsX2_sort_r3 : List Cond := [Cond.instanceMethod yX1_swapBlocks, Cond.selects RX1 yX1_swapBlocks yX1_swapBlocks, Cond.code yX1_swapBlocks cX1_swapBlocks 4 none, Cond.methodLink RX1 64 yX1_reverse, Cond.instanceMethod yX1_reverse, Cond.selects RX1 yX1_reverse yX1_reverse, Cond.code yX1_reverse cX1_reverse 5 none, Cond.methodLink RX1 68 yX1_swapPairs, Cond.instanceMethod yX1_swapPairs, Cond.selects RX1 yX1_swapPairs yX1_swapPairs, Cond.code yX1_swapPairs cX1_swapPairs 5 none, Cond.fieldLink RX1 13 "RowPress$Row" "tags" "[I", Cond.methodLink RX2 48 yX2_keepCounts, Cond.instanceMethod yX2_keepCounts, Cond.selects RX2 yX2_keepCounts yX2_keepCounts, Cond.code yX2_keepCounts cX2_keepCounts 2 none, Cond.fieldLink RX2 100 "RowPress" "latestPairs" "I", Cond.fieldLink RX2 113 "RowPress$Row" "compares" "I", Cond.fieldLink RX2 107 "RowPress" "latestCompares" "I", Cond.fieldLink RX2 116 "RowPress$Row" "writes" "I", Cond.fieldLink RX2 110 "RowPress" "latestWrites" "I"]
def wsX2_sort : List Cond := .code yX2_sort cX2_sort 2 (some .int) :: ((wsX2_sort_r1 ++ (wsX2_sort_r2 ++ wsX2_sort_r3)) ++ wsX20 ++ wsX10)
def wsX2_merge_r1 : List Cond := [Cond.fieldLink RX2 10 "RowPress" "row" "LRowPress$Row;", Cond.methodLink RX2 32 yX0_exists, Cond.static yX0_exists, Cond.initialized RX0, Cond.code yX0_exists cX0_exists 1 (some .boolean), Cond.methodLink RX2 52 yX1_hasStretches, Cond.instanceMethod yX1_hasStretches, Cond.selects RX1 yX1_hasStretches yX1_hasStretches, Cond.initialized RX1, Cond.code yX1_hasStretches cX1_hasStretches 4 (some .boolean), Cond.methodLink RX1 20 yX1_hasStretch, Cond.instanceMethod yX1_hasStretch, Cond.selects RX1 yX1_hasStretch yX1_hasStretch, Cond.code yX1_hasStretch cX1_hasStretch 3 (some .boolean), Cond.fieldLink RX1 16 "RowPress$Row" "size" "I", Cond.methodLink RX2 41 yX1_startCounting, Cond.instanceMethod yX1_startCounting, Cond.selects RX1 yX1_startCounting yX1_startCounting, Cond.code yX1_startCounting cX1_startCounting 1 none, Cond.fieldLink RX1 24 "RowPress$Row" "compares" "I", Cond.fieldLink RX1 27 "RowPress$Row" "writes" "I", Cond.methodLink RX2 56 yX1_inOrder, Cond.instanceMethod yX1_inOrder, Cond.selects RX1 yX1_inOrder yX1_inOrder]
def wsX2_merge_r2 : List Cond := [Cond.code yX1_inOrder cX1_inOrder 5 (some .boolean), Cond.methodLink RX1 30 yX1_lessAt, Cond.instanceMethod yX1_lessAt, Cond.selects RX1 yX1_lessAt yX1_lessAt, Cond.code yX1_lessAt cX1_lessAt 4 (some .boolean), Cond.fieldLink RX1 9 "RowPress$Row" "keys" "[I", Cond.methodLink RX1 34 yX0_isLess, Cond.static yX0_isLess, Cond.code yX0_isLess cX0_isLess 3 (some .boolean), Cond.constant RX0 9 (-2147483648), Cond.static yX1_mergeInPlace, Cond.code yX1_mergeInPlace cX1_mergeInPlace 9 none, Cond.methodLink RX1 53 yX1_startOfBlocks, Cond.instanceMethod yX1_startOfBlocks, Cond.selects RX1 yX1_startOfBlocks yX1_startOfBlocks, Cond.code yX1_startOfBlocks cX1_startOfBlocks 10 (some .int), Cond.methodLink RX1 57 yX1_swapBlocks, Cond.instanceMethod yX1_swapBlocks, Cond.selects RX1 yX1_swapBlocks yX1_swapBlocks, Cond.code yX1_swapBlocks cX1_swapBlocks 4 none, Cond.methodLink RX1 64 yX1_reverse, Cond.instanceMethod yX1_reverse, Cond.selects RX1 yX1_reverse yX1_reverse, Cond.code yX1_reverse cX1_reverse 5 none]
def wsX2_merge_r3 : List Cond := [Cond.methodLink RX1 68 yX1_swapPairs, Cond.instanceMethod yX1_swapPairs, Cond.selects RX1 yX1_swapPairs yX1_swapPairs, Cond.code yX1_swapPairs cX1_swapPairs 5 none, Cond.fieldLink RX1 13 "RowPress$Row" "tags" "[I", Cond.methodLink RX1 49 yX1_mergeInPlace, Cond.methodLink RX2 48 yX2_keepCounts, Cond.instanceMethod yX2_keepCounts, Cond.selects RX2 yX2_keepCounts yX2_keepCounts, Cond.initialized RX2, Cond.code yX2_keepCounts cX2_keepCounts 2 none, Cond.fieldLink RX2 100 "RowPress" "latestPairs" "I", Cond.fieldLink RX2 113 "RowPress$Row" "compares" "I", Cond.fieldLink RX2 107 "RowPress" "latestCompares" "I", Cond.fieldLink RX2 116 "RowPress$Row" "writes" "I", Cond.fieldLink RX2 110 "RowPress" "latestWrites" "I"]
def wsX2_merge : List Cond := .code yX2_merge cX2_merge 5 (some .int) :: ((wsX2_merge_r1 ++ (wsX2_merge_r2 ++ wsX2_merge_r3)) ++ wsX20 ++ wsX10)
def wsX2_rotate_r1 : List Cond := [Cond.fieldLink RX2 10 "RowPress" "row" "LRowPress$Row;", Cond.methodLink RX2 52 yX1_hasStretches, Cond.instanceMethod yX1_hasStretches, Cond.selects RX1 yX1_hasStretches yX1_hasStretches, Cond.initialized RX1, Cond.code yX1_hasStretches cX1_hasStretches 4 (some .boolean), Cond.methodLink RX1 20 yX1_hasStretch, Cond.instanceMethod yX1_hasStretch, Cond.selects RX1 yX1_hasStretch yX1_hasStretch, Cond.code yX1_hasStretch cX1_hasStretch 3 (some .boolean), Cond.fieldLink RX1 16 "RowPress$Row" "size" "I", Cond.methodLink RX2 63 yX1_swapBlocks, Cond.instanceMethod yX1_swapBlocks, Cond.selects RX1 yX1_swapBlocks yX1_swapBlocks, Cond.code yX1_swapBlocks cX1_swapBlocks 4 none, Cond.methodLink RX1 64 yX1_reverse, Cond.instanceMethod yX1_reverse, Cond.selects RX1 yX1_reverse yX1_reverse, Cond.code yX1_reverse cX1_reverse 5 none, Cond.methodLink RX1 68 yX1_swapPairs, Cond.instanceMethod yX1_swapPairs, Cond.selects RX1 yX1_swapPairs yX1_swapPairs, Cond.code yX1_swapPairs cX1_swapPairs 5 none, Cond.fieldLink RX1 9 "RowPress$Row" "keys" "[I"]
def wsX2_rotate_r2 : List Cond := [Cond.fieldLink RX1 27 "RowPress$Row" "writes" "I", Cond.fieldLink RX1 13 "RowPress$Row" "tags" "[I"]
def wsX2_rotate : List Cond := .code yX2_rotate cX2_rotate 4 (some .int) :: ((wsX2_rotate_r1 ++ wsX2_rotate_r2) ++ wsX20 ++ wsX10)
def wsX2_turn : List Cond := .code yX2_turn cX2_turn 3 (some .int) :: ([.fieldLink RX2 10 "RowPress" "row" "LRowPress$Row;", .methodLink RX2 37 yX1_hasStretch, .instanceMethod yX1_hasStretch, .selects RX1 yX1_hasStretch yX1_hasStretch, .initialized RX1, .code yX1_hasStretch cX1_hasStretch 3 (some .boolean), .fieldLink RX1 16 "RowPress$Row" "size" "I", .methodLink RX2 66 yX1_reverse, .instanceMethod yX1_reverse, .selects RX1 yX1_reverse yX1_reverse, .code yX1_reverse cX1_reverse 5 none, .methodLink RX1 68 yX1_swapPairs, .instanceMethod yX1_swapPairs, .selects RX1 yX1_swapPairs yX1_swapPairs, .code yX1_swapPairs cX1_swapPairs 5 none, .fieldLink RX1 9 "RowPress$Row" "keys" "[I", .fieldLink RX1 27 "RowPress$Row" "writes" "I", .fieldLink RX1 13 "RowPress$Row" "tags" "[I"] ++ wsX20 ++ wsX10)
def wsX2_split_r1 : List Cond := [Cond.fieldLink RX2 10 "RowPress" "row" "LRowPress$Row;", Cond.methodLink RX2 32 yX0_exists, Cond.static yX0_exists, Cond.initialized RX0, Cond.code yX0_exists cX0_exists 1 (some .boolean), Cond.methodLink RX2 37 yX1_hasStretch, Cond.instanceMethod yX1_hasStretch, Cond.selects RX1 yX1_hasStretch yX1_hasStretch, Cond.initialized RX1, Cond.code yX1_hasStretch cX1_hasStretch 3 (some .boolean), Cond.fieldLink RX1 16 "RowPress$Row" "size" "I", Cond.methodLink RX2 69 yX1_splitInPlace, Cond.instanceMethod yX1_splitInPlace, Cond.selects RX1 yX1_splitInPlace yX1_splitInPlace, Cond.code yX1_splitInPlace cX1_splitInPlace 11 none, Cond.methodLink RX1 43 Lib.Math.min.name, Cond.static Lib.Math.min.name, Cond.initialized "java/lang/Math", Cond.code Lib.Math.min.name Lib.Math.min.code 2 (some .int), Cond.methodLink RX1 61 yX1_countLess, Cond.instanceMethod yX1_countLess, Cond.selects RX1 yX1_countLess yX1_countLess, Cond.code yX1_countLess cX1_countLess 7 (some .int), Cond.fieldLink RX1 9 "RowPress$Row" "keys" "[I"]
def wsX2_split_r2 : List Cond := [Cond.methodLink RX1 34 yX0_isLess, Cond.static yX0_isLess, Cond.code yX0_isLess cX0_isLess 3 (some .boolean), Cond.constant RX0 9 (-2147483648), Cond.methodLink RX1 57 yX1_swapBlocks, Cond.instanceMethod yX1_swapBlocks, Cond.selects RX1 yX1_swapBlocks yX1_swapBlocks, Cond.code yX1_swapBlocks cX1_swapBlocks 4 none, Cond.methodLink RX1 64 yX1_reverse, Cond.instanceMethod yX1_reverse, Cond.selects RX1 yX1_reverse yX1_reverse, Cond.code yX1_reverse cX1_reverse 5 none, Cond.methodLink RX1 68 yX1_swapPairs, Cond.instanceMethod yX1_swapPairs, Cond.selects RX1 yX1_swapPairs yX1_swapPairs, Cond.code yX1_swapPairs cX1_swapPairs 5 none, Cond.fieldLink RX1 27 "RowPress$Row" "writes" "I", Cond.fieldLink RX1 13 "RowPress$Row" "tags" "[I", Cond.methodLink RX2 73 yX1_countLess]
def wsX2_split : List Cond := .code yX2_split cX2_split 5 (some .int) :: ((wsX2_split_r1 ++ wsX2_split_r2) ++ wsX20 ++ wsX10)
def wsX2_thin_r1 : List Cond := [Cond.fieldLink RX2 10 "RowPress" "row" "LRowPress$Row;", Cond.fieldLink RX2 24 "RowPress$Row" "size" "I", Cond.methodLink RX2 32 yX0_exists, Cond.static yX0_exists, Cond.initialized RX0, Cond.code yX0_exists cX0_exists 1 (some .boolean), Cond.methodLink RX2 56 yX1_inOrder, Cond.instanceMethod yX1_inOrder, Cond.selects RX1 yX1_inOrder yX1_inOrder, Cond.initialized RX1, Cond.code yX1_inOrder cX1_inOrder 5 (some .boolean), Cond.methodLink RX1 30 yX1_lessAt, Cond.instanceMethod yX1_lessAt, Cond.selects RX1 yX1_lessAt yX1_lessAt, Cond.code yX1_lessAt cX1_lessAt 4 (some .boolean), Cond.fieldLink RX1 24 "RowPress$Row" "compares" "I", Cond.fieldLink RX1 9 "RowPress$Row" "keys" "[I", Cond.methodLink RX1 34 yX0_isLess, Cond.static yX0_isLess, Cond.code yX0_isLess cX0_isLess 3 (some .boolean), Cond.constant RX0 9 (-2147483648), Cond.methodLink RX2 77 yX1_dropAlike, Cond.instanceMethod yX1_dropAlike, Cond.selects RX1 yX1_dropAlike yX1_dropAlike]
def wsX2_thin_r2 : List Cond := [Cond.code yX1_dropAlike cX1_dropAlike 4 none, Cond.fieldLink RX1 16 "RowPress$Row" "size" "I", Cond.fieldLink RX1 13 "RowPress$Row" "tags" "[I"]
def wsX2_thin : List Cond := .code yX2_thin cX2_thin 2 (some .int) :: ((wsX2_thin_r1 ++ wsX2_thin_r2) ++ wsX20 ++ wsX10)
def wsX2_sorted_r1 : List Cond := [Cond.fieldLink RX2 10 "RowPress" "row" "LRowPress$Row;", Cond.methodLink RX2 32 yX0_exists, Cond.static yX0_exists, Cond.initialized RX0, Cond.code yX0_exists cX0_exists 1 (some .boolean), Cond.methodLink RX2 37 yX1_hasStretch, Cond.instanceMethod yX1_hasStretch, Cond.selects RX1 yX1_hasStretch yX1_hasStretch, Cond.initialized RX1, Cond.code yX1_hasStretch cX1_hasStretch 3 (some .boolean), Cond.fieldLink RX1 16 "RowPress$Row" "size" "I", Cond.methodLink RX2 56 yX1_inOrder, Cond.instanceMethod yX1_inOrder, Cond.selects RX1 yX1_inOrder yX1_inOrder, Cond.code yX1_inOrder cX1_inOrder 5 (some .boolean), Cond.methodLink RX1 30 yX1_lessAt, Cond.instanceMethod yX1_lessAt, Cond.selects RX1 yX1_lessAt yX1_lessAt, Cond.code yX1_lessAt cX1_lessAt 4 (some .boolean), Cond.fieldLink RX1 24 "RowPress$Row" "compares" "I", Cond.fieldLink RX1 9 "RowPress$Row" "keys" "[I", Cond.methodLink RX1 34 yX0_isLess, Cond.static yX0_isLess, Cond.code yX0_isLess cX0_isLess 3 (some .boolean)]
def wsX2_sorted_r2 : List Cond := [Cond.constant RX0 9 (-2147483648)]
def wsX2_sorted : List Cond := .code yX2_sorted cX2_sorted 4 (some .int) :: ((wsX2_sorted_r1 ++ wsX2_sorted_r2) ++ wsX20 ++ wsX10)
def wsX2_find_r1 : List Cond := [Cond.fieldLink RX2 10 "RowPress" "row" "LRowPress$Row;", Cond.fieldLink RX2 24 "RowPress$Row" "size" "I", Cond.methodLink RX2 32 yX0_exists, Cond.static yX0_exists, Cond.initialized RX0, Cond.code yX0_exists cX0_exists 1 (some .boolean), Cond.methodLink RX2 56 yX1_inOrder, Cond.instanceMethod yX1_inOrder, Cond.selects RX1 yX1_inOrder yX1_inOrder, Cond.initialized RX1, Cond.code yX1_inOrder cX1_inOrder 5 (some .boolean), Cond.methodLink RX1 30 yX1_lessAt, Cond.instanceMethod yX1_lessAt, Cond.selects RX1 yX1_lessAt yX1_lessAt, Cond.code yX1_lessAt cX1_lessAt 4 (some .boolean), Cond.fieldLink RX1 24 "RowPress$Row" "compares" "I", Cond.fieldLink RX1 9 "RowPress$Row" "keys" "[I", Cond.methodLink RX1 34 yX0_isLess, Cond.static yX0_isLess, Cond.code yX0_isLess cX0_isLess 3 (some .boolean), Cond.constant RX0 9 (-2147483648), Cond.methodLink RX2 73 yX1_countLess, Cond.instanceMethod yX1_countLess, Cond.selects RX1 yX1_countLess yX1_countLess]
def wsX2_find_r2 : List Cond := [Cond.code yX1_countLess cX1_countLess 7 (some .int), Cond.methodLink RX2 80 yX1_countNotMore, Cond.instanceMethod yX1_countNotMore, Cond.selects RX1 yX1_countNotMore yX1_countNotMore, Cond.code yX1_countNotMore cX1_countNotMore 7 (some .int)]
def wsX2_find : List Cond := .code yX2_find cX2_find 5 (some .int) :: ((wsX2_find_r1 ++ wsX2_find_r2) ++ wsX20 ++ wsX10)
def wsX2_rank_r1 : List Cond := [Cond.fieldLink RX2 10 "RowPress" "row" "LRowPress$Row;", Cond.fieldLink RX2 86 "RowPress$Row" "keys" "[I", Cond.fieldLink RX2 24 "RowPress$Row" "size" "I", Cond.methodLink RX2 32 yX0_exists, Cond.static yX0_exists, Cond.initialized RX0, Cond.code yX0_exists cX0_exists 1 (some .boolean), Cond.methodLink RX2 83 yX1_hasPlace, Cond.instanceMethod yX1_hasPlace, Cond.selects RX1 yX1_hasPlace yX1_hasPlace, Cond.initialized RX1, Cond.code yX1_hasPlace cX1_hasPlace 2 (some .boolean), Cond.fieldLink RX1 16 "RowPress$Row" "size" "I", Cond.methodLink RX2 80 yX1_countNotMore, Cond.instanceMethod yX1_countNotMore, Cond.selects RX1 yX1_countNotMore yX1_countNotMore, Cond.code yX1_countNotMore cX1_countNotMore 7 (some .int), Cond.fieldLink RX1 9 "RowPress$Row" "keys" "[I", Cond.methodLink RX1 34 yX0_isLess, Cond.static yX0_isLess, Cond.code yX0_isLess cX0_isLess 3 (some .boolean), Cond.constant RX0 9 (-2147483648), Cond.methodLink RX2 73 yX1_countLess, Cond.instanceMethod yX1_countLess]
def wsX2_rank_r2 : List Cond := [Cond.selects RX1 yX1_countLess yX1_countLess, Cond.code yX1_countLess cX1_countLess 7 (some .int)]
def wsX2_rank : List Cond := .code yX2_rank cX2_rank 4 (some .int) :: ((wsX2_rank_r1 ++ wsX2_rank_r2) ++ wsX20 ++ wsX10)
def wsX2_key : List Cond := .code yX2_key cX2_key 2 (some .int) :: ([.fieldLink RX2 10 "RowPress" "row" "LRowPress$Row;", .fieldLink RX2 86 "RowPress$Row" "keys" "[I", .methodLink RX2 83 yX1_hasPlace, .instanceMethod yX1_hasPlace, .selects RX1 yX1_hasPlace yX1_hasPlace, .initialized RX1, .code yX1_hasPlace cX1_hasPlace 2 (some .boolean), .fieldLink RX1 16 "RowPress$Row" "size" "I"] ++ wsX20 ++ wsX10)
def wsX2_tag : List Cond := .code yX2_tag cX2_tag 2 (some .int) :: ([.fieldLink RX2 10 "RowPress" "row" "LRowPress$Row;", .fieldLink RX2 90 "RowPress$Row" "tags" "[I", .methodLink RX2 83 yX1_hasPlace, .instanceMethod yX1_hasPlace, .selects RX1 yX1_hasPlace yX1_hasPlace, .initialized RX1, .code yX1_hasPlace cX1_hasPlace 2 (some .boolean), .fieldLink RX1 16 "RowPress$Row" "size" "I"] ++ wsX20 ++ wsX10)
def wsX2_count : List Cond := .code yX2_count cX2_count 2 (some .int) :: ([.fieldLink RX2 10 "RowPress" "row" "LRowPress$Row;", .fieldLink RX2 24 "RowPress$Row" "size" "I", .methodLink RX2 93 yX1_countSortedStretches, .instanceMethod yX1_countSortedStretches, .selects RX1 yX1_countSortedStretches yX1_countSortedStretches, .initialized RX1, .code yX1_countSortedStretches cX1_countSortedStretches 3 (some .int), .fieldLink RX1 16 "RowPress$Row" "size" "I", .fieldLink RX1 9 "RowPress$Row" "keys" "[I", .methodLink RX2 97 yX1_countDifferentKeys, .instanceMethod yX1_countDifferentKeys, .selects RX1 yX1_countDifferentKeys yX1_countDifferentKeys, .code yX1_countDifferentKeys cX1_countDifferentKeys 3 (some .int), .methodLink RX1 39 yX1_standsBefore, .instanceMethod yX1_standsBefore, .selects RX1 yX1_standsBefore yX1_standsBefore, .code yX1_standsBefore cX1_standsBefore 3 (some .boolean)] ++ wsX20 ++ wsX10)
def wsX2_levels : List Cond := .code yX2_levels cX2_levels 2 (some .int) :: ([])
def wsX2_check : List Cond := .code yX2_check cX2_check 3 (some .int) :: ([.fieldLink RX2 100 "RowPress" "latestPairs" "I", .fieldLink RX2 107 "RowPress" "latestCompares" "I", .fieldLink RX2 110 "RowPress" "latestWrites" "I", .methodLink RX2 103 yX2_levels, .static yX2_levels, .initialized RX2, .code yX2_levels cX2_levels 2 (some .int)] ++ wsX20)
def wsX3_init : List Cond := .code yX3_init cX3_init 1 none :: ([.methodLink RX3 1 objectInit, .instanceMethod objectInit, .code objectInit ⟨#[0xb1]⟩ 1 none, .arrayClass .int, .fieldLink RX3 7 "RowPressModel" "keys" "[I", .fieldLink RX3 13 "RowPressModel" "tags" "[I", .fieldLink RX3 16 "RowPressModel" "nextKeys" "[I", .fieldLink RX3 19 "RowPressModel" "nextTags" "[I", .fieldLink RX3 22 "RowPressModel" "many" "I"] ++ wsX30)
def wsX3_isOrder : List Cond := .code yX3_isOrder cX3_isOrder 1 (some .boolean) :: ([])
def wsX3_isStretch : List Cond := .code yX3_isStretch cX3_isStretch 3 (some .boolean) :: ([.fieldLink RX3 22 "RowPressModel" "many" "I"] ++ wsX30)
def wsX3_isLess : List Cond := .code yX3_isLess cX3_isLess 3 (some .boolean) :: ([.constantLong RX3 26 (4294967295)])
def wsX3_isSorted : List Cond := .code yX3_isSorted cX3_isSorted 5 (some .boolean) :: ([.fieldLink RX3 7 "RowPressModel" "keys" "[I", .methodLink RX3 28 yX3_isLess, .static yX3_isLess, .initialized RX3, .code yX3_isLess cX3_isLess 3 (some .boolean), .constantLong RX3 26 (4294967295)] ++ wsX30)
def wsX3_put : List Cond := .code yX3_put cX3_put 3 (some .int) :: ([.fieldLink RX3 22 "RowPressModel" "many" "I", .fieldLink RX3 7 "RowPressModel" "keys" "[I", .fieldLink RX3 13 "RowPressModel" "tags" "[I"] ++ wsX30)
def wsX3_run : List Cond := .code yX3_run cX3_run 6 (some .int) :: ([.fieldLink RX3 22 "RowPressModel" "many" "I", .fieldLink RX3 7 "RowPressModel" "keys" "[I", .fieldLink RX3 13 "RowPressModel" "tags" "[I"] ++ wsX30)
def wsX3_clear : List Cond := .code yX3_clear cX3_clear 2 (some .int) :: ([.fieldLink RX3 22 "RowPressModel" "many" "I"] ++ wsX30)
def wsX3_place : List Cond := .code yX3_place cX3_place 8 (some .int) :: ([.fieldLink RX3 7 "RowPressModel" "keys" "[I", .methodLink RX3 28 yX3_isLess, .static yX3_isLess, .initialized RX3, .code yX3_isLess cX3_isLess 3 (some .boolean), .constantLong RX3 26 (4294967295)] ++ wsX30)
def wsX3_move : List Cond := .code yX3_move cX3_move 3 none :: ([.fieldLink RX3 16 "RowPressModel" "nextKeys" "[I", .fieldLink RX3 7 "RowPressModel" "keys" "[I", .fieldLink RX3 19 "RowPressModel" "nextTags" "[I", .fieldLink RX3 13 "RowPressModel" "tags" "[I"] ++ wsX30)
def wsX3_take : List Cond := .code yX3_take cX3_take 4 none :: ([.fieldLink RX3 7 "RowPressModel" "keys" "[I", .fieldLink RX3 16 "RowPressModel" "nextKeys" "[I", .fieldLink RX3 13 "RowPressModel" "tags" "[I", .fieldLink RX3 19 "RowPressModel" "nextTags" "[I"] ++ wsX30)
def wsX3_arrange : List Cond := .code yX3_arrange cX3_arrange 5 none :: ([.methodLink RX3 32 yX3_place, .instanceMethod yX3_place, .selects RX3 yX3_place yX3_place, .initialized RX3, .code yX3_place cX3_place 8 (some .int), .fieldLink RX3 7 "RowPressModel" "keys" "[I", .methodLink RX3 28 yX3_isLess, .static yX3_isLess, .code yX3_isLess cX3_isLess 3 (some .boolean), .constantLong RX3 26 (4294967295), .methodLink RX3 36 yX3_move, .instanceMethod yX3_move, .selects RX3 yX3_move yX3_move, .code yX3_move cX3_move 3 none, .fieldLink RX3 16 "RowPressModel" "nextKeys" "[I", .fieldLink RX3 19 "RowPressModel" "nextTags" "[I", .fieldLink RX3 13 "RowPressModel" "tags" "[I", .methodLink RX3 40 yX3_take, .instanceMethod yX3_take, .selects RX3 yX3_take yX3_take, .code yX3_take cX3_take 4 none] ++ wsX30)
def wsX3_sort_r1 : List Cond := [Cond.fieldLink RX3 22 "RowPressModel" "many" "I", Cond.methodLink RX3 43 yX3_isOrder, Cond.static yX3_isOrder, Cond.initialized RX3, Cond.code yX3_isOrder cX3_isOrder 1 (some .boolean), Cond.methodLink RX3 47 yX3_arrange, Cond.instanceMethod yX3_arrange, Cond.selects RX3 yX3_arrange yX3_arrange, Cond.code yX3_arrange cX3_arrange 5 none, Cond.methodLink RX3 32 yX3_place, Cond.instanceMethod yX3_place, Cond.selects RX3 yX3_place yX3_place, Cond.code yX3_place cX3_place 8 (some .int), Cond.fieldLink RX3 7 "RowPressModel" "keys" "[I", Cond.methodLink RX3 28 yX3_isLess, Cond.static yX3_isLess, Cond.code yX3_isLess cX3_isLess 3 (some .boolean), Cond.constantLong RX3 26 (4294967295), Cond.methodLink RX3 36 yX3_move, Cond.instanceMethod yX3_move, Cond.selects RX3 yX3_move yX3_move, Cond.code yX3_move cX3_move 3 none, Cond.fieldLink RX3 16 "RowPressModel" "nextKeys" "[I", Cond.fieldLink RX3 19 "RowPressModel" "nextTags" "[I"]
def wsX3_sort_r2 : List Cond := [Cond.fieldLink RX3 13 "RowPressModel" "tags" "[I", Cond.methodLink RX3 40 yX3_take, Cond.instanceMethod yX3_take, Cond.selects RX3 yX3_take yX3_take, Cond.code yX3_take cX3_take 4 none]
def wsX3_sort : List Cond := .code yX3_sort cX3_sort 2 (some .int) :: ((wsX3_sort_r1 ++ wsX3_sort_r2) ++ wsX30)
def wsX3_sortPart_r1 : List Cond := [Cond.methodLink RX3 51 yX3_isStretch, Cond.instanceMethod yX3_isStretch, Cond.selects RX3 yX3_isStretch yX3_isStretch, Cond.initialized RX3, Cond.code yX3_isStretch cX3_isStretch 3 (some .boolean), Cond.fieldLink RX3 22 "RowPressModel" "many" "I", Cond.methodLink RX3 43 yX3_isOrder, Cond.static yX3_isOrder, Cond.code yX3_isOrder cX3_isOrder 1 (some .boolean), Cond.methodLink RX3 47 yX3_arrange, Cond.instanceMethod yX3_arrange, Cond.selects RX3 yX3_arrange yX3_arrange, Cond.code yX3_arrange cX3_arrange 5 none, Cond.methodLink RX3 32 yX3_place, Cond.instanceMethod yX3_place, Cond.selects RX3 yX3_place yX3_place, Cond.code yX3_place cX3_place 8 (some .int), Cond.fieldLink RX3 7 "RowPressModel" "keys" "[I", Cond.methodLink RX3 28 yX3_isLess, Cond.static yX3_isLess, Cond.code yX3_isLess cX3_isLess 3 (some .boolean), Cond.constantLong RX3 26 (4294967295), Cond.methodLink RX3 36 yX3_move, Cond.instanceMethod yX3_move]
def wsX3_sortPart_r2 : List Cond := [Cond.selects RX3 yX3_move yX3_move, Cond.code yX3_move cX3_move 3 none, Cond.fieldLink RX3 16 "RowPressModel" "nextKeys" "[I", Cond.fieldLink RX3 19 "RowPressModel" "nextTags" "[I", Cond.fieldLink RX3 13 "RowPressModel" "tags" "[I", Cond.methodLink RX3 40 yX3_take, Cond.instanceMethod yX3_take, Cond.selects RX3 yX3_take yX3_take, Cond.code yX3_take cX3_take 4 none]
def wsX3_sortPart : List Cond := .code yX3_sortPart cX3_sortPart 4 (some .int) :: ((wsX3_sortPart_r1 ++ wsX3_sortPart_r2) ++ wsX30)
def wsX3_merge_r1 : List Cond := [Cond.methodLink RX3 51 yX3_isStretch, Cond.instanceMethod yX3_isStretch, Cond.selects RX3 yX3_isStretch yX3_isStretch, Cond.initialized RX3, Cond.code yX3_isStretch cX3_isStretch 3 (some .boolean), Cond.fieldLink RX3 22 "RowPressModel" "many" "I", Cond.methodLink RX3 43 yX3_isOrder, Cond.static yX3_isOrder, Cond.code yX3_isOrder cX3_isOrder 1 (some .boolean), Cond.methodLink RX3 55 yX3_isSorted, Cond.instanceMethod yX3_isSorted, Cond.selects RX3 yX3_isSorted yX3_isSorted, Cond.code yX3_isSorted cX3_isSorted 5 (some .boolean), Cond.fieldLink RX3 7 "RowPressModel" "keys" "[I", Cond.methodLink RX3 28 yX3_isLess, Cond.static yX3_isLess, Cond.code yX3_isLess cX3_isLess 3 (some .boolean), Cond.constantLong RX3 26 (4294967295), Cond.methodLink RX3 47 yX3_arrange, Cond.instanceMethod yX3_arrange, Cond.selects RX3 yX3_arrange yX3_arrange, Cond.code yX3_arrange cX3_arrange 5 none, Cond.methodLink RX3 32 yX3_place, Cond.instanceMethod yX3_place]
def wsX3_merge_r2 : List Cond := [Cond.selects RX3 yX3_place yX3_place, Cond.code yX3_place cX3_place 8 (some .int), Cond.methodLink RX3 36 yX3_move, Cond.instanceMethod yX3_move, Cond.selects RX3 yX3_move yX3_move, Cond.code yX3_move cX3_move 3 none, Cond.fieldLink RX3 16 "RowPressModel" "nextKeys" "[I", Cond.fieldLink RX3 19 "RowPressModel" "nextTags" "[I", Cond.fieldLink RX3 13 "RowPressModel" "tags" "[I", Cond.methodLink RX3 40 yX3_take, Cond.instanceMethod yX3_take, Cond.selects RX3 yX3_take yX3_take, Cond.code yX3_take cX3_take 4 none]
def wsX3_merge : List Cond := .code yX3_merge cX3_merge 6 (some .int) :: ((wsX3_merge_r1 ++ wsX3_merge_r2) ++ wsX30)
def wsX3_rotate : List Cond := .code yX3_rotate cX3_rotate 5 (some .int) :: ([.methodLink RX3 51 yX3_isStretch, .instanceMethod yX3_isStretch, .selects RX3 yX3_isStretch yX3_isStretch, .initialized RX3, .code yX3_isStretch cX3_isStretch 3 (some .boolean), .fieldLink RX3 22 "RowPressModel" "many" "I", .methodLink RX3 36 yX3_move, .instanceMethod yX3_move, .selects RX3 yX3_move yX3_move, .code yX3_move cX3_move 3 none, .fieldLink RX3 16 "RowPressModel" "nextKeys" "[I", .fieldLink RX3 7 "RowPressModel" "keys" "[I", .fieldLink RX3 19 "RowPressModel" "nextTags" "[I", .fieldLink RX3 13 "RowPressModel" "tags" "[I", .methodLink RX3 40 yX3_take, .instanceMethod yX3_take, .selects RX3 yX3_take yX3_take, .code yX3_take cX3_take 4 none] ++ wsX30)
def wsX3_turn : List Cond := .code yX3_turn cX3_turn 4 (some .int) :: ([.methodLink RX3 51 yX3_isStretch, .instanceMethod yX3_isStretch, .selects RX3 yX3_isStretch yX3_isStretch, .initialized RX3, .code yX3_isStretch cX3_isStretch 3 (some .boolean), .fieldLink RX3 22 "RowPressModel" "many" "I", .methodLink RX3 36 yX3_move, .instanceMethod yX3_move, .selects RX3 yX3_move yX3_move, .code yX3_move cX3_move 3 none, .fieldLink RX3 16 "RowPressModel" "nextKeys" "[I", .fieldLink RX3 7 "RowPressModel" "keys" "[I", .fieldLink RX3 19 "RowPressModel" "nextTags" "[I", .fieldLink RX3 13 "RowPressModel" "tags" "[I", .methodLink RX3 40 yX3_take, .instanceMethod yX3_take, .selects RX3 yX3_take yX3_take, .code yX3_take cX3_take 4 none] ++ wsX30)
def wsX3_split_r1 : List Cond := [Cond.fieldLink RX3 7 "RowPressModel" "keys" "[I", Cond.methodLink RX3 51 yX3_isStretch, Cond.instanceMethod yX3_isStretch, Cond.selects RX3 yX3_isStretch yX3_isStretch, Cond.initialized RX3, Cond.code yX3_isStretch cX3_isStretch 3 (some .boolean), Cond.fieldLink RX3 22 "RowPressModel" "many" "I", Cond.methodLink RX3 43 yX3_isOrder, Cond.static yX3_isOrder, Cond.code yX3_isOrder cX3_isOrder 1 (some .boolean), Cond.methodLink RX3 28 yX3_isLess, Cond.static yX3_isLess, Cond.code yX3_isLess cX3_isLess 3 (some .boolean), Cond.constantLong RX3 26 (4294967295), Cond.methodLink RX3 36 yX3_move, Cond.instanceMethod yX3_move, Cond.selects RX3 yX3_move yX3_move, Cond.code yX3_move cX3_move 3 none, Cond.fieldLink RX3 16 "RowPressModel" "nextKeys" "[I", Cond.fieldLink RX3 19 "RowPressModel" "nextTags" "[I", Cond.fieldLink RX3 13 "RowPressModel" "tags" "[I", Cond.methodLink RX3 40 yX3_take, Cond.instanceMethod yX3_take, Cond.selects RX3 yX3_take yX3_take]
def wsX3_split_r2 : List Cond := [Cond.code yX3_take cX3_take 4 none]
def wsX3_split : List Cond := .code yX3_split cX3_split 8 (some .int) :: ((wsX3_split_r1 ++ wsX3_split_r2) ++ wsX30)
def wsX3_thin_r1 : List Cond := [Cond.fieldLink RX3 22 "RowPressModel" "many" "I", Cond.fieldLink RX3 7 "RowPressModel" "keys" "[I", Cond.methodLink RX3 43 yX3_isOrder, Cond.static yX3_isOrder, Cond.initialized RX3, Cond.code yX3_isOrder cX3_isOrder 1 (some .boolean), Cond.methodLink RX3 55 yX3_isSorted, Cond.instanceMethod yX3_isSorted, Cond.selects RX3 yX3_isSorted yX3_isSorted, Cond.code yX3_isSorted cX3_isSorted 5 (some .boolean), Cond.methodLink RX3 28 yX3_isLess, Cond.static yX3_isLess, Cond.code yX3_isLess cX3_isLess 3 (some .boolean), Cond.constantLong RX3 26 (4294967295), Cond.methodLink RX3 36 yX3_move, Cond.instanceMethod yX3_move, Cond.selects RX3 yX3_move yX3_move, Cond.code yX3_move cX3_move 3 none, Cond.fieldLink RX3 16 "RowPressModel" "nextKeys" "[I", Cond.fieldLink RX3 19 "RowPressModel" "nextTags" "[I", Cond.fieldLink RX3 13 "RowPressModel" "tags" "[I", Cond.methodLink RX3 40 yX3_take, Cond.instanceMethod yX3_take, Cond.selects RX3 yX3_take yX3_take]
def wsX3_thin_r2 : List Cond := [Cond.code yX3_take cX3_take 4 none]
def wsX3_thin : List Cond := .code yX3_thin cX3_thin 4 (some .int) :: ((wsX3_thin_r1 ++ wsX3_thin_r2) ++ wsX30)
def wsX3_sorted : List Cond := .code yX3_sorted cX3_sorted 4 (some .int) :: ([.methodLink RX3 51 yX3_isStretch, .instanceMethod yX3_isStretch, .selects RX3 yX3_isStretch yX3_isStretch, .initialized RX3, .code yX3_isStretch cX3_isStretch 3 (some .boolean), .fieldLink RX3 22 "RowPressModel" "many" "I", .methodLink RX3 43 yX3_isOrder, .static yX3_isOrder, .code yX3_isOrder cX3_isOrder 1 (some .boolean), .methodLink RX3 55 yX3_isSorted, .instanceMethod yX3_isSorted, .selects RX3 yX3_isSorted yX3_isSorted, .code yX3_isSorted cX3_isSorted 5 (some .boolean), .fieldLink RX3 7 "RowPressModel" "keys" "[I", .methodLink RX3 28 yX3_isLess, .static yX3_isLess, .code yX3_isLess cX3_isLess 3 (some .boolean), .constantLong RX3 26 (4294967295)] ++ wsX30)
def wsX3_find : List Cond := .code yX3_find cX3_find 7 (some .int) :: ([.fieldLink RX3 22 "RowPressModel" "many" "I", .fieldLink RX3 7 "RowPressModel" "keys" "[I", .methodLink RX3 43 yX3_isOrder, .static yX3_isOrder, .initialized RX3, .code yX3_isOrder cX3_isOrder 1 (some .boolean), .methodLink RX3 55 yX3_isSorted, .instanceMethod yX3_isSorted, .selects RX3 yX3_isSorted yX3_isSorted, .code yX3_isSorted cX3_isSorted 5 (some .boolean), .methodLink RX3 28 yX3_isLess, .static yX3_isLess, .code yX3_isLess cX3_isLess 3 (some .boolean), .constantLong RX3 26 (4294967295)] ++ wsX30)
def wsX3_rank : List Cond := .code yX3_rank cX3_rank 3 (some .int) :: ([.fieldLink RX3 22 "RowPressModel" "many" "I", .methodLink RX3 43 yX3_isOrder, .static yX3_isOrder, .initialized RX3, .code yX3_isOrder cX3_isOrder 1 (some .boolean), .methodLink RX3 32 yX3_place, .instanceMethod yX3_place, .selects RX3 yX3_place yX3_place, .code yX3_place cX3_place 8 (some .int), .fieldLink RX3 7 "RowPressModel" "keys" "[I", .methodLink RX3 28 yX3_isLess, .static yX3_isLess, .code yX3_isLess cX3_isLess 3 (some .boolean), .constantLong RX3 26 (4294967295)] ++ wsX30)
def wsX3_key : List Cond := .code yX3_key cX3_key 2 (some .int) :: ([.fieldLink RX3 22 "RowPressModel" "many" "I", .fieldLink RX3 7 "RowPressModel" "keys" "[I"] ++ wsX30)
def wsX3_tag : List Cond := .code yX3_tag cX3_tag 2 (some .int) :: ([.fieldLink RX3 22 "RowPressModel" "many" "I", .fieldLink RX3 13 "RowPressModel" "tags" "[I"] ++ wsX30)
def wsX3_stretches : List Cond := .code yX3_stretches cX3_stretches 3 (some .int) :: ([.fieldLink RX3 22 "RowPressModel" "many" "I", .fieldLink RX3 7 "RowPressModel" "keys" "[I"] ++ wsX30)
def wsX3_different : List Cond := .code yX3_different cX3_different 5 (some .int) :: ([.fieldLink RX3 22 "RowPressModel" "many" "I", .fieldLink RX3 7 "RowPressModel" "keys" "[I"] ++ wsX30)
def wsX3_count : List Cond := .code yX3_count cX3_count 2 (some .int) :: ([.fieldLink RX3 22 "RowPressModel" "many" "I", .methodLink RX3 58 yX3_stretches, .instanceMethod yX3_stretches, .selects RX3 yX3_stretches yX3_stretches, .initialized RX3, .code yX3_stretches cX3_stretches 3 (some .int), .fieldLink RX3 7 "RowPressModel" "keys" "[I", .methodLink RX3 62 yX3_different, .instanceMethod yX3_different, .selects RX3 yX3_different yX3_different, .code yX3_different cX3_different 5 (some .int)] ++ wsX30)
def wsX3_check : List Cond := .code yX3_check cX3_check 1 (some .int) :: ([])
def wsJ9_min_7cf53 : List Cond := .code yJ9_min_7cf53 cJ9_min_7cf53 2 (some .int) :: ([])
def wsL_law_r1 : List Cond := [Cond.classLink RL 7 RX2, Cond.instantiable RX2 4, Cond.initialized RX2, Cond.classLink RL 10 RX3, Cond.instantiable RX3 5, Cond.initialized RX3, Cond.methodLink RL 9 yX2_init, Cond.instanceMethod yX2_init, Cond.code yX2_init cX2_init 1 none, Cond.methodLink RX2 1 objectInit, Cond.instanceMethod objectInit, Cond.code objectInit ⟨#[0xb1]⟩ 1 none, Cond.classLink RX2 7 RX1, Cond.instantiable RX1 5, Cond.initialized RX1, Cond.fieldLink RX2 10 "RowPress" "row" "LRowPress$Row;", Cond.instanceMethod yX1_init, Cond.code yX1_init cX1_init 1 none, Cond.methodLink RX1 1 objectInit, Cond.arrayClass .int, Cond.fieldLink RX1 9 "RowPress$Row" "keys" "[I", Cond.fieldLink RX1 13 "RowPress$Row" "tags" "[I", Cond.methodLink RL 12 yX3_init, Cond.instanceMethod yX3_init]
def wsL_law_r2 : List Cond := [Cond.code yX3_init cX3_init 1 none, Cond.methodLink RX3 1 objectInit, Cond.fieldLink RX3 7 "RowPressModel" "keys" "[I", Cond.fieldLink RX3 13 "RowPressModel" "tags" "[I", Cond.fieldLink RX3 16 "RowPressModel" "nextKeys" "[I", Cond.fieldLink RX3 19 "RowPressModel" "nextTags" "[I", Cond.fieldLink RX3 22 "RowPressModel" "many" "I", Cond.methodLink RL 13 yX2_put, Cond.instanceMethod yX2_put, Cond.selects RX2 yX2_put yX2_put, Cond.code yX2_put cX2_put 3 (some .int), Cond.fieldLink RX2 24 "RowPress$Row" "size" "I", Cond.methodLink RX2 16 yX1_hasRoomFor, Cond.instanceMethod yX1_hasRoomFor, Cond.selects RX1 yX1_hasRoomFor yX1_hasRoomFor, Cond.code yX1_hasRoomFor cX1_hasRoomFor 2 (some .boolean), Cond.fieldLink RX1 16 "RowPress$Row" "size" "I", Cond.methodLink RX2 20 yX1_append, Cond.instanceMethod yX1_append, Cond.selects RX1 yX1_append yX1_append, Cond.code yX1_append cX1_append 3 none, Cond.methodLink RL 17 yX3_put, Cond.instanceMethod yX3_put, Cond.selects RX3 yX3_put yX3_put]
def wsL_law_r3 : List Cond := [Cond.code yX3_put cX3_put 3 (some .int), Cond.methodLink RL 18 yX2_run, Cond.instanceMethod yX2_run, Cond.selects RX2 yX2_run yX2_run, Cond.code yX2_run cX2_run 6 (some .int), Cond.methodLink RL 22 yX3_run, Cond.instanceMethod yX3_run, Cond.selects RX3 yX3_run yX3_run, Cond.code yX3_run cX3_run 6 (some .int), Cond.methodLink RL 23 yX2_clear, Cond.instanceMethod yX2_clear, Cond.selects RX2 yX2_clear yX2_clear, Cond.code yX2_clear cX2_clear 2 (some .int), Cond.methodLink RL 27 yX3_clear, Cond.instanceMethod yX3_clear, Cond.selects RX3 yX3_clear yX3_clear, Cond.code yX3_clear cX3_clear 2 (some .int), Cond.methodLink RL 28 yX2_sort, Cond.instanceMethod yX2_sort, Cond.selects RX2 yX2_sort yX2_sort, Cond.code yX2_sort cX2_sort 2 (some .int), Cond.methodLink RX2 28 yX2_sortPart, Cond.instanceMethod yX2_sortPart, Cond.selects RX2 yX2_sortPart yX2_sortPart]
def wsL_law_r4 : List Cond := [Cond.code yX2_sortPart cX2_sortPart 4 (some .int), Cond.methodLink RX2 32 yX0_exists, Cond.static yX0_exists, Cond.initialized RX0, Cond.code yX0_exists cX0_exists 1 (some .boolean), Cond.methodLink RX2 37 yX1_hasStretch, Cond.instanceMethod yX1_hasStretch, Cond.selects RX1 yX1_hasStretch yX1_hasStretch, Cond.code yX1_hasStretch cX1_hasStretch 3 (some .boolean), Cond.methodLink RX2 41 yX1_startCounting, Cond.instanceMethod yX1_startCounting, Cond.selects RX1 yX1_startCounting yX1_startCounting, Cond.code yX1_startCounting cX1_startCounting 1 none, Cond.fieldLink RX1 24 "RowPress$Row" "compares" "I", Cond.fieldLink RX1 27 "RowPress$Row" "writes" "I", Cond.methodLink RX2 44 yX1_sortInPlace, Cond.instanceMethod yX1_sortInPlace, Cond.selects RX1 yX1_sortInPlace yX1_sortInPlace, Cond.code yX1_sortInPlace cX1_sortInPlace 7 none, Cond.methodLink RX1 43 Lib.Math.min.name, Cond.static Lib.Math.min.name, Cond.initialized "java/lang/Math", Cond.code Lib.Math.min.name Lib.Math.min.code 2 (some .int), Cond.methodLink RX1 49 yX1_mergeInPlace]
def wsL_law_r5 : List Cond := [Cond.static yX1_mergeInPlace, Cond.code yX1_mergeInPlace cX1_mergeInPlace 9 none, Cond.methodLink RX1 53 yX1_startOfBlocks, Cond.instanceMethod yX1_startOfBlocks, Cond.selects RX1 yX1_startOfBlocks yX1_startOfBlocks, Cond.code yX1_startOfBlocks cX1_startOfBlocks 10 (some .int), Cond.methodLink RX1 30 yX1_lessAt, Cond.instanceMethod yX1_lessAt, Cond.selects RX1 yX1_lessAt yX1_lessAt, Cond.code yX1_lessAt cX1_lessAt 4 (some .boolean), Cond.methodLink RX1 34 yX0_isLess, Cond.static yX0_isLess, Cond.code yX0_isLess cX0_isLess 3 (some .boolean), Cond.constant RX0 9 (-2147483648), Cond.methodLink RX1 57 yX1_swapBlocks, Cond.instanceMethod yX1_swapBlocks, Cond.selects RX1 yX1_swapBlocks yX1_swapBlocks, Cond.code yX1_swapBlocks cX1_swapBlocks 4 none, Cond.methodLink RX1 64 yX1_reverse, Cond.instanceMethod yX1_reverse, Cond.selects RX1 yX1_reverse yX1_reverse, Cond.code yX1_reverse cX1_reverse 5 none, Cond.methodLink RX1 68 yX1_swapPairs, Cond.instanceMethod yX1_swapPairs]
def wsL_law_r6 : List Cond := [Cond.selects RX1 yX1_swapPairs yX1_swapPairs, Cond.code yX1_swapPairs cX1_swapPairs 5 none, Cond.methodLink RX2 48 yX2_keepCounts, Cond.instanceMethod yX2_keepCounts, Cond.selects RX2 yX2_keepCounts yX2_keepCounts, Cond.code yX2_keepCounts cX2_keepCounts 2 none, Cond.fieldLink RX2 100 "RowPress" "latestPairs" "I", Cond.fieldLink RX2 113 "RowPress$Row" "compares" "I", Cond.fieldLink RX2 107 "RowPress" "latestCompares" "I", Cond.fieldLink RX2 116 "RowPress$Row" "writes" "I", Cond.fieldLink RX2 110 "RowPress" "latestWrites" "I", Cond.methodLink RL 32 yX3_sort, Cond.instanceMethod yX3_sort, Cond.selects RX3 yX3_sort yX3_sort, Cond.code yX3_sort cX3_sort 2 (some .int), Cond.methodLink RX3 43 yX3_isOrder, Cond.static yX3_isOrder, Cond.code yX3_isOrder cX3_isOrder 1 (some .boolean), Cond.methodLink RX3 47 yX3_arrange, Cond.instanceMethod yX3_arrange, Cond.selects RX3 yX3_arrange yX3_arrange, Cond.code yX3_arrange cX3_arrange 5 none, Cond.methodLink RX3 32 yX3_place, Cond.instanceMethod yX3_place]
def wsL_law_r7 : List Cond := [Cond.selects RX3 yX3_place yX3_place, Cond.code yX3_place cX3_place 8 (some .int), Cond.methodLink RX3 28 yX3_isLess, Cond.static yX3_isLess, Cond.code yX3_isLess cX3_isLess 3 (some .boolean), Cond.constantLong RX3 26 (4294967295), Cond.methodLink RX3 36 yX3_move, Cond.instanceMethod yX3_move, Cond.selects RX3 yX3_move yX3_move, Cond.code yX3_move cX3_move 3 none, Cond.methodLink RX3 40 yX3_take, Cond.instanceMethod yX3_take, Cond.selects RX3 yX3_take yX3_take, Cond.code yX3_take cX3_take 4 none, Cond.methodLink RL 33 yX2_sortPart, Cond.methodLink RL 37 yX3_sortPart, Cond.instanceMethod yX3_sortPart, Cond.selects RX3 yX3_sortPart yX3_sortPart, Cond.code yX3_sortPart cX3_sortPart 4 (some .int), Cond.methodLink RX3 51 yX3_isStretch, Cond.instanceMethod yX3_isStretch, Cond.selects RX3 yX3_isStretch yX3_isStretch, Cond.code yX3_isStretch cX3_isStretch 3 (some .boolean), Cond.methodLink RL 38 yX2_merge]
def wsL_law_r8 : List Cond := [Cond.instanceMethod yX2_merge, Cond.selects RX2 yX2_merge yX2_merge, Cond.code yX2_merge cX2_merge 5 (some .int), Cond.methodLink RX2 52 yX1_hasStretches, Cond.instanceMethod yX1_hasStretches, Cond.selects RX1 yX1_hasStretches yX1_hasStretches, Cond.code yX1_hasStretches cX1_hasStretches 4 (some .boolean), Cond.methodLink RX1 20 yX1_hasStretch, Cond.methodLink RX2 56 yX1_inOrder, Cond.instanceMethod yX1_inOrder, Cond.selects RX1 yX1_inOrder yX1_inOrder, Cond.code yX1_inOrder cX1_inOrder 5 (some .boolean), Cond.methodLink RL 41 yX3_merge, Cond.instanceMethod yX3_merge, Cond.selects RX3 yX3_merge yX3_merge, Cond.code yX3_merge cX3_merge 6 (some .int), Cond.methodLink RX3 55 yX3_isSorted, Cond.instanceMethod yX3_isSorted, Cond.selects RX3 yX3_isSorted yX3_isSorted, Cond.code yX3_isSorted cX3_isSorted 5 (some .boolean), Cond.methodLink RL 42 yX2_rotate, Cond.instanceMethod yX2_rotate, Cond.selects RX2 yX2_rotate yX2_rotate, Cond.code yX2_rotate cX2_rotate 4 (some .int)]
def wsL_law_r9 : List Cond := [Cond.methodLink RX2 63 yX1_swapBlocks, Cond.methodLink RL 45 yX3_rotate, Cond.instanceMethod yX3_rotate, Cond.selects RX3 yX3_rotate yX3_rotate, Cond.code yX3_rotate cX3_rotate 5 (some .int), Cond.methodLink RL 46 yX2_turn, Cond.instanceMethod yX2_turn, Cond.selects RX2 yX2_turn yX2_turn, Cond.code yX2_turn cX2_turn 3 (some .int), Cond.methodLink RX2 66 yX1_reverse, Cond.methodLink RL 49 yX3_turn, Cond.instanceMethod yX3_turn, Cond.selects RX3 yX3_turn yX3_turn, Cond.code yX3_turn cX3_turn 4 (some .int), Cond.methodLink RL 50 yX2_split, Cond.instanceMethod yX2_split, Cond.selects RX2 yX2_split yX2_split, Cond.code yX2_split cX2_split 5 (some .int), Cond.methodLink RX2 69 yX1_splitInPlace, Cond.instanceMethod yX1_splitInPlace, Cond.selects RX1 yX1_splitInPlace yX1_splitInPlace, Cond.code yX1_splitInPlace cX1_splitInPlace 11 none, Cond.methodLink RX1 61 yX1_countLess, Cond.instanceMethod yX1_countLess]
def wsL_law_r10 : List Cond := [Cond.selects RX1 yX1_countLess yX1_countLess, Cond.code yX1_countLess cX1_countLess 7 (some .int), Cond.methodLink RX2 73 yX1_countLess, Cond.methodLink RL 53 yX3_split, Cond.instanceMethod yX3_split, Cond.selects RX3 yX3_split yX3_split, Cond.code yX3_split cX3_split 8 (some .int), Cond.methodLink RL 54 yX2_thin, Cond.instanceMethod yX2_thin, Cond.selects RX2 yX2_thin yX2_thin, Cond.code yX2_thin cX2_thin 2 (some .int), Cond.methodLink RX2 77 yX1_dropAlike, Cond.instanceMethod yX1_dropAlike, Cond.selects RX1 yX1_dropAlike yX1_dropAlike, Cond.code yX1_dropAlike cX1_dropAlike 4 none, Cond.methodLink RL 57 yX3_thin, Cond.instanceMethod yX3_thin, Cond.selects RX3 yX3_thin yX3_thin, Cond.code yX3_thin cX3_thin 4 (some .int), Cond.methodLink RL 58 yX2_sorted, Cond.instanceMethod yX2_sorted, Cond.selects RX2 yX2_sorted yX2_sorted, Cond.code yX2_sorted cX2_sorted 4 (some .int), Cond.methodLink RL 61 yX3_sorted]
def wsL_law_r11 : List Cond := [Cond.instanceMethod yX3_sorted, Cond.selects RX3 yX3_sorted yX3_sorted, Cond.code yX3_sorted cX3_sorted 4 (some .int), Cond.methodLink RL 62 yX2_find, Cond.instanceMethod yX2_find, Cond.selects RX2 yX2_find yX2_find, Cond.code yX2_find cX2_find 5 (some .int), Cond.methodLink RX2 80 yX1_countNotMore, Cond.instanceMethod yX1_countNotMore, Cond.selects RX1 yX1_countNotMore yX1_countNotMore, Cond.code yX1_countNotMore cX1_countNotMore 7 (some .int), Cond.methodLink RL 65 yX3_find, Cond.instanceMethod yX3_find, Cond.selects RX3 yX3_find yX3_find, Cond.code yX3_find cX3_find 7 (some .int), Cond.methodLink RL 66 yX2_rank, Cond.instanceMethod yX2_rank, Cond.selects RX2 yX2_rank yX2_rank, Cond.code yX2_rank cX2_rank 4 (some .int), Cond.fieldLink RX2 86 "RowPress$Row" "keys" "[I", Cond.methodLink RX2 83 yX1_hasPlace, Cond.instanceMethod yX1_hasPlace, Cond.selects RX1 yX1_hasPlace yX1_hasPlace, Cond.code yX1_hasPlace cX1_hasPlace 2 (some .boolean)]
def wsL_law_r12 : List Cond := [Cond.methodLink RL 69 yX3_rank, Cond.instanceMethod yX3_rank, Cond.selects RX3 yX3_rank yX3_rank, Cond.code yX3_rank cX3_rank 3 (some .int), Cond.methodLink RL 70 yX2_key, Cond.instanceMethod yX2_key, Cond.selects RX2 yX2_key yX2_key, Cond.code yX2_key cX2_key 2 (some .int), Cond.methodLink RL 73 yX3_key, Cond.instanceMethod yX3_key, Cond.selects RX3 yX3_key yX3_key, Cond.code yX3_key cX3_key 2 (some .int), Cond.methodLink RL 74 yX2_tag, Cond.instanceMethod yX2_tag, Cond.selects RX2 yX2_tag yX2_tag, Cond.code yX2_tag cX2_tag 2 (some .int), Cond.fieldLink RX2 90 "RowPress$Row" "tags" "[I", Cond.methodLink RL 77 yX3_tag, Cond.instanceMethod yX3_tag, Cond.selects RX3 yX3_tag yX3_tag, Cond.code yX3_tag cX3_tag 2 (some .int), Cond.methodLink RL 78 yX2_count, Cond.instanceMethod yX2_count, Cond.selects RX2 yX2_count yX2_count]
def wsL_law_r13 : List Cond := [Cond.code yX2_count cX2_count 2 (some .int), Cond.methodLink RX2 93 yX1_countSortedStretches, Cond.instanceMethod yX1_countSortedStretches, Cond.selects RX1 yX1_countSortedStretches yX1_countSortedStretches, Cond.code yX1_countSortedStretches cX1_countSortedStretches 3 (some .int), Cond.methodLink RX2 97 yX1_countDifferentKeys, Cond.instanceMethod yX1_countDifferentKeys, Cond.selects RX1 yX1_countDifferentKeys yX1_countDifferentKeys, Cond.code yX1_countDifferentKeys cX1_countDifferentKeys 3 (some .int), Cond.methodLink RX1 39 yX1_standsBefore, Cond.instanceMethod yX1_standsBefore, Cond.selects RX1 yX1_standsBefore yX1_standsBefore, Cond.code yX1_standsBefore cX1_standsBefore 3 (some .boolean), Cond.methodLink RL 81 yX3_count, Cond.instanceMethod yX3_count, Cond.selects RX3 yX3_count yX3_count, Cond.code yX3_count cX3_count 2 (some .int), Cond.methodLink RX3 58 yX3_stretches, Cond.instanceMethod yX3_stretches, Cond.selects RX3 yX3_stretches yX3_stretches, Cond.code yX3_stretches cX3_stretches 3 (some .int), Cond.methodLink RX3 62 yX3_different, Cond.instanceMethod yX3_different, Cond.selects RX3 yX3_different yX3_different]
def wsL_law_r14 : List Cond := [Cond.code yX3_different cX3_different 5 (some .int), Cond.methodLink RL 82 yX2_check, Cond.instanceMethod yX2_check, Cond.selects RX2 yX2_check yX2_check, Cond.code yX2_check cX2_check 3 (some .int), Cond.methodLink RX2 103 yX2_levels, Cond.static yX2_levels, Cond.code yX2_levels cX2_levels 2 (some .int), Cond.methodLink RL 85 yX3_check, Cond.instanceMethod yX3_check, Cond.selects RX3 yX3_check yX3_check, Cond.code yX3_check cX3_check 1 (some .int)]
def wsL_law : List Cond := (wsL_law_r1 ++ (wsL_law_r2 ++ (wsL_law_r3 ++ (wsL_law_r4 ++ (wsL_law_r5 ++ (wsL_law_r6 ++ (wsL_law_r7 ++ (wsL_law_r8 ++ (wsL_law_r9 ++ (wsL_law_r10 ++ (wsL_law_r11 ++ (wsL_law_r12 ++ (wsL_law_r13 ++ wsL_law_r14))))))))))))) ++ wsX20 ++ wsX30 ++ wsX10 ++ ([] : List Cond)
set_option maxRecDepth 20000 in
theorem wsL_law_in : ∀ w ∈ wsL_law, w ∈ lw_tbl := fun w h => (goodIn_p wsL_law [23, 26, 31, 246, 71, 75, 79, 267, 83, 271, 87, 275, 91, 95, 98, 102, 106, 110, 113, 116, 120, 124, 127, 132, 136, 140, 144, 279, 282, 286, 290, 293, 298, 302, 306, 310, 149, 153, 158, 314, 318, 163, 322, 168, 326, 173, 177, 181, 330, 186, 190, 334, 194, 338, 198, 202, 342, 206, 210, 346, 214, 350, 218, 354, 222, 226, 230, 234, 358, 362, 366, 238, 241, 370] (by decide +kernel) (by decide +kernel) w h).1
theorem inX0 : ∀ w ∈ wsX00, w ∈ lw_tbl := by decide +kernel
theorem inlX1 : ∀ w ∈ wsX10, w ∈ wsL_law := fun _ h => List.mem_append_left _ (List.mem_append_right _ h)
theorem inX1 : ∀ w ∈ wsX10, w ∈ lw_tbl := fun w h => wsL_law_in w (inlX1 w h)
theorem inlX2 : ∀ w ∈ wsX20, w ∈ wsL_law := fun _ h => List.mem_append_left _ (List.mem_append_left _ (List.mem_append_left _ (List.mem_append_right _ h)))
theorem inX2 : ∀ w ∈ wsX20, w ∈ lw_tbl := fun w h => wsL_law_in w (inlX2 w h)
theorem inlX3 : ∀ w ∈ wsX30, w ∈ wsL_law := fun _ h => List.mem_append_left _ (List.mem_append_left _ (List.mem_append_right _ h))
theorem inX3 : ∀ w ∈ wsX30, w ∈ lw_tbl := fun w h => wsL_law_in w (inlX3 w h)
theorem inJ9 : ∀ w ∈ wsJ90, w ∈ lw_tbl := by decide +kernel
theorem dX0_exists_0 : decode cX0_exists 0 = .ok (.iload_n 0, 1) := by decide +kernel
theorem dX0_exists_1 : decode cX0_exists 1 = .ok (.ifCond .lt 12, 3) := by decide +kernel
theorem dX0_exists_4 : decode cX0_exists 4 = .ok (.iload_n 0, 1) := by decide +kernel
theorem dX0_exists_5 : decode cX0_exists 5 = .ok (.iconst 3, 1) := by decide +kernel
theorem dX0_exists_6 : decode cX0_exists 6 = .ok (.if_icmp .gt 7, 3) := by decide +kernel
theorem dX0_exists_9 : decode cX0_exists 9 = .ok (.iconst 1, 1) := by decide +kernel
theorem dX0_exists_10 : decode cX0_exists 10 = .ok (.goto 4, 3) := by decide +kernel
theorem dX0_exists_13 : decode cX0_exists 13 = .ok (.iconst 0, 1) := by decide +kernel
theorem dX0_exists_14 : decode cX0_exists 14 = .ok (.ireturn, 1) := by decide +kernel
theorem dX0_isLess_0 : decode cX0_isLess 0 = .ok (.iload_n 2, 1) := by decide +kernel
theorem dX0_isLess_1 : decode cX0_isLess 1 = .ok (.tableswitch 74 1 3 #[27, 44, 55], 27) := by decide +kernel
theorem dX0_isLess_28 : decode cX0_isLess 28 = .ok (.iload_n 0, 1) := by decide +kernel
theorem dX0_isLess_29 : decode cX0_isLess 29 = .ok (.ldc 9, 2) := by decide +kernel
theorem dX0_isLess_31 : decode cX0_isLess 31 = .ok (.ixor, 1) := by decide +kernel
theorem dX0_isLess_32 : decode cX0_isLess 32 = .ok (.iload_n 1, 1) := by decide +kernel
theorem dX0_isLess_33 : decode cX0_isLess 33 = .ok (.ldc 9, 2) := by decide +kernel
theorem dX0_isLess_35 : decode cX0_isLess 35 = .ok (.ixor, 1) := by decide +kernel
theorem dX0_isLess_36 : decode cX0_isLess 36 = .ok (.if_icmp .ge 7, 3) := by decide +kernel
theorem dX0_isLess_39 : decode cX0_isLess 39 = .ok (.iconst 1, 1) := by decide +kernel
theorem dX0_isLess_40 : decode cX0_isLess 40 = .ok (.goto 4, 3) := by decide +kernel
theorem dX0_isLess_43 : decode cX0_isLess 43 = .ok (.iconst 0, 1) := by decide +kernel
theorem dX0_isLess_44 : decode cX0_isLess 44 = .ok (.ireturn, 1) := by decide +kernel
theorem dX0_isLess_45 : decode cX0_isLess 45 = .ok (.iload_n 0, 1) := by decide +kernel
theorem dX0_isLess_46 : decode cX0_isLess 46 = .ok (.iload_n 1, 1) := by decide +kernel
theorem dX0_isLess_47 : decode cX0_isLess 47 = .ok (.if_icmp .le 7, 3) := by decide +kernel
theorem dX0_isLess_50 : decode cX0_isLess 50 = .ok (.iconst 1, 1) := by decide +kernel
theorem dX0_isLess_51 : decode cX0_isLess 51 = .ok (.goto 4, 3) := by decide +kernel
theorem dX0_isLess_54 : decode cX0_isLess 54 = .ok (.iconst 0, 1) := by decide +kernel
theorem dX0_isLess_55 : decode cX0_isLess 55 = .ok (.ireturn, 1) := by decide +kernel
theorem dX0_isLess_56 : decode cX0_isLess 56 = .ok (.iload_n 0, 1) := by decide +kernel
theorem dX0_isLess_57 : decode cX0_isLess 57 = .ok (.sipush 255, 3) := by decide +kernel
theorem dX0_isLess_60 : decode cX0_isLess 60 = .ok (.iand, 1) := by decide +kernel
theorem dX0_isLess_61 : decode cX0_isLess 61 = .ok (.iload_n 1, 1) := by decide +kernel
theorem dX0_isLess_62 : decode cX0_isLess 62 = .ok (.sipush 255, 3) := by decide +kernel
theorem dX0_isLess_65 : decode cX0_isLess 65 = .ok (.iand, 1) := by decide +kernel
theorem dX0_isLess_66 : decode cX0_isLess 66 = .ok (.if_icmp .ge 7, 3) := by decide +kernel
theorem dX0_isLess_69 : decode cX0_isLess 69 = .ok (.iconst 1, 1) := by decide +kernel
theorem dX0_isLess_70 : decode cX0_isLess 70 = .ok (.goto 4, 3) := by decide +kernel
theorem dX0_isLess_73 : decode cX0_isLess 73 = .ok (.iconst 0, 1) := by decide +kernel
theorem dX0_isLess_74 : decode cX0_isLess 74 = .ok (.ireturn, 1) := by decide +kernel
theorem dX0_isLess_75 : decode cX0_isLess 75 = .ok (.iload_n 0, 1) := by decide +kernel
theorem dX0_isLess_76 : decode cX0_isLess 76 = .ok (.iload_n 1, 1) := by decide +kernel
theorem dX0_isLess_77 : decode cX0_isLess 77 = .ok (.if_icmp .ge 7, 3) := by decide +kernel
theorem dX0_isLess_80 : decode cX0_isLess 80 = .ok (.iconst 1, 1) := by decide +kernel
theorem dX0_isLess_81 : decode cX0_isLess 81 = .ok (.goto 4, 3) := by decide +kernel
theorem dX0_isLess_84 : decode cX0_isLess 84 = .ok (.iconst 0, 1) := by decide +kernel
theorem dX0_isLess_85 : decode cX0_isLess 85 = .ok (.ireturn, 1) := by decide +kernel
abbrev vwCl : List vw_C := [(RX1, TX1, 5), (RX2, TX2, 4), (RX3, TX3, 5)]
end
section
theorem dX1_init_0 : decode cX1_init 0 = .ok (.aload_n 0, 1) := by decide +kernel
theorem dX1_init_1 : decode cX1_init 1 = .ok (.invokespecial 1, 3) := by decide +kernel
theorem dX1_init_4 : decode cX1_init 4 = .ok (.aload_n 0, 1) := by decide +kernel
theorem dX1_init_5 : decode cX1_init 5 = .ok (.sipush 500, 3) := by decide +kernel
theorem dX1_init_8 : decode cX1_init 8 = .ok (.newarray .int, 2) := by decide +kernel
theorem dX1_init_10 : decode cX1_init 10 = .ok (.putfield 9, 3) := by decide +kernel
theorem dX1_init_13 : decode cX1_init 13 = .ok (.aload_n 0, 1) := by decide +kernel
theorem dX1_init_14 : decode cX1_init 14 = .ok (.sipush 500, 3) := by decide +kernel
theorem dX1_init_17 : decode cX1_init 17 = .ok (.newarray .int, 2) := by decide +kernel
theorem dX1_init_19 : decode cX1_init 19 = .ok (.putfield 13, 3) := by decide +kernel
theorem dX1_init_22 : decode cX1_init 22 = .ok (.return_, 1) := by decide +kernel
theorem dX1_hasRoomFor_0 : decode cX1_hasRoomFor 0 = .ok (.iload_n 1, 1) := by decide +kernel
theorem dX1_hasRoomFor_1 : decode cX1_hasRoomFor 1 = .ok (.sipush 500, 3) := by decide +kernel
theorem dX1_hasRoomFor_4 : decode cX1_hasRoomFor 4 = .ok (.aload_n 0, 1) := by decide +kernel
theorem dX1_hasRoomFor_5 : decode cX1_hasRoomFor 5 = .ok (.getfield 16, 3) := by decide +kernel
theorem dX1_hasRoomFor_8 : decode cX1_hasRoomFor 8 = .ok (.isub, 1) := by decide +kernel
theorem dX1_hasRoomFor_9 : decode cX1_hasRoomFor 9 = .ok (.if_icmp .gt 7, 3) := by decide +kernel
theorem dX1_hasRoomFor_12 : decode cX1_hasRoomFor 12 = .ok (.iconst 1, 1) := by decide +kernel
theorem dX1_hasRoomFor_13 : decode cX1_hasRoomFor 13 = .ok (.goto 4, 3) := by decide +kernel
theorem dX1_hasRoomFor_16 : decode cX1_hasRoomFor 16 = .ok (.iconst 0, 1) := by decide +kernel
theorem dX1_hasRoomFor_17 : decode cX1_hasRoomFor 17 = .ok (.ireturn, 1) := by decide +kernel
theorem dX1_hasPlace_0 : decode cX1_hasPlace 0 = .ok (.iload_n 1, 1) := by decide +kernel
theorem dX1_hasPlace_1 : decode cX1_hasPlace 1 = .ok (.ifCond .lt 15, 3) := by decide +kernel
theorem dX1_hasPlace_4 : decode cX1_hasPlace 4 = .ok (.iload_n 1, 1) := by decide +kernel
theorem dX1_hasPlace_5 : decode cX1_hasPlace 5 = .ok (.aload_n 0, 1) := by decide +kernel
theorem dX1_hasPlace_6 : decode cX1_hasPlace 6 = .ok (.getfield 16, 3) := by decide +kernel
theorem dX1_hasPlace_9 : decode cX1_hasPlace 9 = .ok (.if_icmp .ge 7, 3) := by decide +kernel
theorem dX1_hasPlace_12 : decode cX1_hasPlace 12 = .ok (.iconst 1, 1) := by decide +kernel
theorem dX1_hasPlace_13 : decode cX1_hasPlace 13 = .ok (.goto 4, 3) := by decide +kernel
theorem dX1_hasPlace_16 : decode cX1_hasPlace 16 = .ok (.iconst 0, 1) := by decide +kernel
theorem dX1_hasPlace_17 : decode cX1_hasPlace 17 = .ok (.ireturn, 1) := by decide +kernel
theorem dX1_hasStretch_0 : decode cX1_hasStretch 0 = .ok (.iload_n 1, 1) := by decide +kernel
theorem dX1_hasStretch_1 : decode cX1_hasStretch 1 = .ok (.ifCond .lt 20, 3) := by decide +kernel
theorem dX1_hasStretch_4 : decode cX1_hasStretch 4 = .ok (.iload_n 1, 1) := by decide +kernel
theorem dX1_hasStretch_5 : decode cX1_hasStretch 5 = .ok (.iload_n 2, 1) := by decide +kernel
theorem dX1_hasStretch_6 : decode cX1_hasStretch 6 = .ok (.if_icmp .gt 15, 3) := by decide +kernel
theorem dX1_hasStretch_9 : decode cX1_hasStretch 9 = .ok (.iload_n 2, 1) := by decide +kernel
theorem dX1_hasStretch_10 : decode cX1_hasStretch 10 = .ok (.aload_n 0, 1) := by decide +kernel
theorem dX1_hasStretch_11 : decode cX1_hasStretch 11 = .ok (.getfield 16, 3) := by decide +kernel
theorem dX1_hasStretch_14 : decode cX1_hasStretch 14 = .ok (.if_icmp .gt 7, 3) := by decide +kernel
theorem dX1_hasStretch_17 : decode cX1_hasStretch 17 = .ok (.iconst 1, 1) := by decide +kernel
theorem dX1_hasStretch_18 : decode cX1_hasStretch 18 = .ok (.goto 4, 3) := by decide +kernel
theorem dX1_hasStretch_21 : decode cX1_hasStretch 21 = .ok (.iconst 0, 1) := by decide +kernel
theorem dX1_hasStretch_22 : decode cX1_hasStretch 22 = .ok (.ireturn, 1) := by decide +kernel
set_option maxRecDepth 20000 in
theorem ggX1_hasStretches_X1_hasStretch : GoodIn wsX1_hasStretches wsX1_hasStretch := goodIn_r _ [5, 6, 7, 8, 9, 10, 11] (by decide +kernel) (by decide +kernel)
set_option maxRecDepth 20000 in
theorem gX1_hasStretches_X1_hasStretch : GoodIn wsX1_hasStretches (wsV RX1 20 RX1 yX1_hasStretch wsX1_hasStretch) := goodIn_app (goodIn_of _ (by decide +kernel)) ggX1_hasStretches_X1_hasStretch
theorem dX1_hasStretches_0 : decode cX1_hasStretches 0 = .ok (.aload_n 0, 1) := by decide +kernel
theorem dX1_hasStretches_1 : decode cX1_hasStretches 1 = .ok (.iload_n 1, 1) := by decide +kernel
theorem dX1_hasStretches_2 : decode cX1_hasStretches 2 = .ok (.iload_n 2, 1) := by decide +kernel
theorem dX1_hasStretches_3 : decode cX1_hasStretches 3 = .ok (.invokevirtual 20, 3) := by decide +kernel
theorem dX1_hasStretches_6 : decode cX1_hasStretches 6 = .ok (.ifCond .eq 16, 3) := by decide +kernel
theorem dX1_hasStretches_9 : decode cX1_hasStretches 9 = .ok (.aload_n 0, 1) := by decide +kernel
theorem dX1_hasStretches_10 : decode cX1_hasStretches 10 = .ok (.iload_n 2, 1) := by decide +kernel
theorem dX1_hasStretches_11 : decode cX1_hasStretches 11 = .ok (.iload_n 3, 1) := by decide +kernel
theorem dX1_hasStretches_12 : decode cX1_hasStretches 12 = .ok (.invokevirtual 20, 3) := by decide +kernel
theorem dX1_hasStretches_15 : decode cX1_hasStretches 15 = .ok (.ifCond .eq 7, 3) := by decide +kernel
theorem dX1_hasStretches_18 : decode cX1_hasStretches 18 = .ok (.iconst 1, 1) := by decide +kernel
theorem dX1_hasStretches_19 : decode cX1_hasStretches 19 = .ok (.goto 4, 3) := by decide +kernel
theorem dX1_hasStretches_22 : decode cX1_hasStretches 22 = .ok (.iconst 0, 1) := by decide +kernel
theorem dX1_hasStretches_23 : decode cX1_hasStretches 23 = .ok (.ireturn, 1) := by decide +kernel
theorem dX1_append_0 : decode cX1_append 0 = .ok (.aload_n 0, 1) := by decide +kernel
theorem dX1_append_1 : decode cX1_append 1 = .ok (.getfield 9, 3) := by decide +kernel
theorem dX1_append_4 : decode cX1_append 4 = .ok (.aload_n 0, 1) := by decide +kernel
theorem dX1_append_5 : decode cX1_append 5 = .ok (.getfield 16, 3) := by decide +kernel
theorem dX1_append_8 : decode cX1_append 8 = .ok (.iload_n 1, 1) := by decide +kernel
theorem dX1_append_9 : decode cX1_append 9 = .ok (.iastore, 1) := by decide +kernel
theorem dX1_append_10 : decode cX1_append 10 = .ok (.aload_n 0, 1) := by decide +kernel
theorem dX1_append_11 : decode cX1_append 11 = .ok (.getfield 13, 3) := by decide +kernel
theorem dX1_append_14 : decode cX1_append 14 = .ok (.aload_n 0, 1) := by decide +kernel
theorem dX1_append_15 : decode cX1_append 15 = .ok (.getfield 16, 3) := by decide +kernel
theorem dX1_append_18 : decode cX1_append 18 = .ok (.iload_n 2, 1) := by decide +kernel
theorem dX1_append_19 : decode cX1_append 19 = .ok (.iastore, 1) := by decide +kernel
theorem dX1_append_20 : decode cX1_append 20 = .ok (.aload_n 0, 1) := by decide +kernel
theorem dX1_append_21 : decode cX1_append 21 = .ok (.dup, 1) := by decide +kernel
theorem dX1_append_22 : decode cX1_append 22 = .ok (.getfield 16, 3) := by decide +kernel
theorem dX1_append_25 : decode cX1_append 25 = .ok (.iconst 1, 1) := by decide +kernel
theorem dX1_append_26 : decode cX1_append 26 = .ok (.iadd, 1) := by decide +kernel
theorem dX1_append_27 : decode cX1_append 27 = .ok (.putfield 16, 3) := by decide +kernel
theorem dX1_append_30 : decode cX1_append 30 = .ok (.return_, 1) := by decide +kernel
theorem dX1_startCounting_0 : decode cX1_startCounting 0 = .ok (.aload_n 0, 1) := by decide +kernel
theorem dX1_startCounting_1 : decode cX1_startCounting 1 = .ok (.iconst 0, 1) := by decide +kernel
theorem dX1_startCounting_2 : decode cX1_startCounting 2 = .ok (.putfield 24, 3) := by decide +kernel
theorem dX1_startCounting_5 : decode cX1_startCounting 5 = .ok (.aload_n 0, 1) := by decide +kernel
theorem dX1_startCounting_6 : decode cX1_startCounting 6 = .ok (.iconst 0, 1) := by decide +kernel
theorem dX1_startCounting_7 : decode cX1_startCounting 7 = .ok (.putfield 27, 3) := by decide +kernel
theorem dX1_startCounting_10 : decode cX1_startCounting 10 = .ok (.return_, 1) := by decide +kernel
set_option maxRecDepth 20000 in
theorem ggX1_inOrder_X1_lessAt : GoodIn wsX1_inOrder wsX1_lessAt := goodIn_r _ [5, 6, 7, 8, 9, 10, 11, 12, 13, 14, 15, 16, 17] (by decide +kernel) (by decide +kernel)
set_option maxRecDepth 20000 in
theorem gX1_inOrder_X1_lessAt : GoodIn wsX1_inOrder (wsV RX1 30 RX1 yX1_lessAt wsX1_lessAt) := goodIn_app (goodIn_of _ (by decide +kernel)) ggX1_inOrder_X1_lessAt
theorem dX1_inOrder_0 : decode cX1_inOrder 0 = .ok (.iload_n 1, 1) := by decide +kernel
theorem dX1_inOrder_1 : decode cX1_inOrder 1 = .ok (.iconst 1, 1) := by decide +kernel
theorem dX1_inOrder_2 : decode cX1_inOrder 2 = .ok (.iadd, 1) := by decide +kernel
theorem dX1_inOrder_3 : decode cX1_inOrder 3 = .ok (.istore 4, 2) := by decide +kernel
theorem dX1_inOrder_5 : decode cX1_inOrder 5 = .ok (.iload 4, 2) := by decide +kernel
theorem dX1_inOrder_7 : decode cX1_inOrder 7 = .ok (.iload_n 2, 1) := by decide +kernel
theorem dX1_inOrder_8 : decode cX1_inOrder 8 = .ok (.if_icmp .ge 25, 3) := by decide +kernel
theorem dX1_inOrder_11 : decode cX1_inOrder 11 = .ok (.aload_n 0, 1) := by decide +kernel
theorem dX1_inOrder_12 : decode cX1_inOrder 12 = .ok (.iload 4, 2) := by decide +kernel
theorem dX1_inOrder_14 : decode cX1_inOrder 14 = .ok (.iload 4, 2) := by decide +kernel
theorem dX1_inOrder_16 : decode cX1_inOrder 16 = .ok (.iconst 1, 1) := by decide +kernel
theorem dX1_inOrder_17 : decode cX1_inOrder 17 = .ok (.isub, 1) := by decide +kernel
theorem dX1_inOrder_18 : decode cX1_inOrder 18 = .ok (.iload_n 3, 1) := by decide +kernel
theorem dX1_inOrder_19 : decode cX1_inOrder 19 = .ok (.invokevirtual 30, 3) := by decide +kernel
theorem dX1_inOrder_22 : decode cX1_inOrder 22 = .ok (.ifCond .eq 5, 3) := by decide +kernel
theorem dX1_inOrder_25 : decode cX1_inOrder 25 = .ok (.iconst 0, 1) := by decide +kernel
theorem dX1_inOrder_26 : decode cX1_inOrder 26 = .ok (.ireturn, 1) := by decide +kernel
theorem dX1_inOrder_27 : decode cX1_inOrder 27 = .ok (.iinc 4 1, 3) := by decide +kernel
theorem dX1_inOrder_30 : decode cX1_inOrder 30 = .ok (.goto (-25), 3) := by decide +kernel
theorem dX1_inOrder_33 : decode cX1_inOrder 33 = .ok (.iconst 1, 1) := by decide +kernel
theorem dX1_inOrder_34 : decode cX1_inOrder 34 = .ok (.ireturn, 1) := by decide +kernel
set_option maxRecDepth 20000 in
theorem ggX1_countLess_X0_isLess : GoodIn wsX1_countLess wsX0_isLess := goodIn_r _ [5, 6] (by decide +kernel) (by decide +kernel)
set_option maxRecDepth 20000 in
theorem gX1_countLess_X0_isLess : GoodIn wsX1_countLess (va_wsS RX1 34 yX0_isLess wsX0_isLess) := goodIn_app (goodIn_of _ (by decide +kernel)) ggX1_countLess_X0_isLess
theorem dX1_countLess_0 : decode cX1_countLess 0 = .ok (.iconst 0, 1) := by decide +kernel
theorem dX1_countLess_1 : decode cX1_countLess 1 = .ok (.istore 5, 2) := by decide +kernel
theorem dX1_countLess_3 : decode cX1_countLess 3 = .ok (.iload_n 1, 1) := by decide +kernel
theorem dX1_countLess_4 : decode cX1_countLess 4 = .ok (.istore 6, 2) := by decide +kernel
theorem dX1_countLess_6 : decode cX1_countLess 6 = .ok (.iload 6, 2) := by decide +kernel
theorem dX1_countLess_8 : decode cX1_countLess 8 = .ok (.iload_n 2, 1) := by decide +kernel
theorem dX1_countLess_9 : decode cX1_countLess 9 = .ok (.if_icmp .ge 28, 3) := by decide +kernel
theorem dX1_countLess_12 : decode cX1_countLess 12 = .ok (.aload_n 0, 1) := by decide +kernel
theorem dX1_countLess_13 : decode cX1_countLess 13 = .ok (.getfield 9, 3) := by decide +kernel
theorem dX1_countLess_16 : decode cX1_countLess 16 = .ok (.iload 6, 2) := by decide +kernel
theorem dX1_countLess_18 : decode cX1_countLess 18 = .ok (.iaload, 1) := by decide +kernel
theorem dX1_countLess_19 : decode cX1_countLess 19 = .ok (.iload_n 3, 1) := by decide +kernel
theorem dX1_countLess_20 : decode cX1_countLess 20 = .ok (.iload 4, 2) := by decide +kernel
theorem dX1_countLess_22 : decode cX1_countLess 22 = .ok (.invokestatic 34, 3) := by decide +kernel
theorem dX1_countLess_25 : decode cX1_countLess 25 = .ok (.ifCond .eq 6, 3) := by decide +kernel
theorem dX1_countLess_28 : decode cX1_countLess 28 = .ok (.iinc 5 1, 3) := by decide +kernel
theorem dX1_countLess_31 : decode cX1_countLess 31 = .ok (.iinc 6 1, 3) := by decide +kernel
theorem dX1_countLess_34 : decode cX1_countLess 34 = .ok (.goto (-28), 3) := by decide +kernel
theorem dX1_countLess_37 : decode cX1_countLess 37 = .ok (.iload 5, 2) := by decide +kernel
theorem dX1_countLess_39 : decode cX1_countLess 39 = .ok (.ireturn, 1) := by decide +kernel
set_option maxRecDepth 20000 in
theorem ggX1_countNotMore_X0_isLess : GoodIn wsX1_countNotMore wsX0_isLess := goodIn_r _ [5, 6] (by decide +kernel) (by decide +kernel)
set_option maxRecDepth 20000 in
theorem gX1_countNotMore_X0_isLess : GoodIn wsX1_countNotMore (va_wsS RX1 34 yX0_isLess wsX0_isLess) := goodIn_app (goodIn_of _ (by decide +kernel)) ggX1_countNotMore_X0_isLess
theorem dX1_countNotMore_0 : decode cX1_countNotMore 0 = .ok (.iconst 0, 1) := by decide +kernel
theorem dX1_countNotMore_1 : decode cX1_countNotMore 1 = .ok (.istore 5, 2) := by decide +kernel
theorem dX1_countNotMore_3 : decode cX1_countNotMore 3 = .ok (.iload_n 1, 1) := by decide +kernel
theorem dX1_countNotMore_4 : decode cX1_countNotMore 4 = .ok (.istore 6, 2) := by decide +kernel
theorem dX1_countNotMore_6 : decode cX1_countNotMore 6 = .ok (.iload 6, 2) := by decide +kernel
theorem dX1_countNotMore_8 : decode cX1_countNotMore 8 = .ok (.iload_n 2, 1) := by decide +kernel
theorem dX1_countNotMore_9 : decode cX1_countNotMore 9 = .ok (.if_icmp .ge 28, 3) := by decide +kernel
theorem dX1_countNotMore_12 : decode cX1_countNotMore 12 = .ok (.iload_n 3, 1) := by decide +kernel
theorem dX1_countNotMore_13 : decode cX1_countNotMore 13 = .ok (.aload_n 0, 1) := by decide +kernel
theorem dX1_countNotMore_14 : decode cX1_countNotMore 14 = .ok (.getfield 9, 3) := by decide +kernel
theorem dX1_countNotMore_17 : decode cX1_countNotMore 17 = .ok (.iload 6, 2) := by decide +kernel
theorem dX1_countNotMore_19 : decode cX1_countNotMore 19 = .ok (.iaload, 1) := by decide +kernel
theorem dX1_countNotMore_20 : decode cX1_countNotMore 20 = .ok (.iload 4, 2) := by decide +kernel
theorem dX1_countNotMore_22 : decode cX1_countNotMore 22 = .ok (.invokestatic 34, 3) := by decide +kernel
theorem dX1_countNotMore_25 : decode cX1_countNotMore 25 = .ok (.ifCond .ne 6, 3) := by decide +kernel
theorem dX1_countNotMore_28 : decode cX1_countNotMore 28 = .ok (.iinc 5 1, 3) := by decide +kernel
theorem dX1_countNotMore_31 : decode cX1_countNotMore 31 = .ok (.iinc 6 1, 3) := by decide +kernel
theorem dX1_countNotMore_34 : decode cX1_countNotMore 34 = .ok (.goto (-28), 3) := by decide +kernel
theorem dX1_countNotMore_37 : decode cX1_countNotMore 37 = .ok (.iload 5, 2) := by decide +kernel
theorem dX1_countNotMore_39 : decode cX1_countNotMore 39 = .ok (.ireturn, 1) := by decide +kernel
theorem dX1_countSortedStretches_0 : decode cX1_countSortedStretches 0 = .ok (.iconst 0, 1) := by decide +kernel
theorem dX1_countSortedStretches_1 : decode cX1_countSortedStretches 1 = .ok (.istore_n 1, 1) := by decide +kernel
theorem dX1_countSortedStretches_2 : decode cX1_countSortedStretches 2 = .ok (.iconst 0, 1) := by decide +kernel
theorem dX1_countSortedStretches_3 : decode cX1_countSortedStretches 3 = .ok (.istore_n 2, 1) := by decide +kernel
theorem dX1_countSortedStretches_4 : decode cX1_countSortedStretches 4 = .ok (.iload_n 2, 1) := by decide +kernel
theorem dX1_countSortedStretches_5 : decode cX1_countSortedStretches 5 = .ok (.aload_n 0, 1) := by decide +kernel
theorem dX1_countSortedStretches_6 : decode cX1_countSortedStretches 6 = .ok (.getfield 16, 3) := by decide +kernel
theorem dX1_countSortedStretches_9 : decode cX1_countSortedStretches 9 = .ok (.if_icmp .ge 33, 3) := by decide +kernel
theorem dX1_countSortedStretches_12 : decode cX1_countSortedStretches 12 = .ok (.iload_n 2, 1) := by decide +kernel
theorem dX1_countSortedStretches_13 : decode cX1_countSortedStretches 13 = .ok (.ifCond .eq 20, 3) := by decide +kernel
theorem dX1_countSortedStretches_16 : decode cX1_countSortedStretches 16 = .ok (.aload_n 0, 1) := by decide +kernel
theorem dX1_countSortedStretches_17 : decode cX1_countSortedStretches 17 = .ok (.getfield 9, 3) := by decide +kernel
theorem dX1_countSortedStretches_20 : decode cX1_countSortedStretches 20 = .ok (.iload_n 2, 1) := by decide +kernel
theorem dX1_countSortedStretches_21 : decode cX1_countSortedStretches 21 = .ok (.iaload, 1) := by decide +kernel
theorem dX1_countSortedStretches_22 : decode cX1_countSortedStretches 22 = .ok (.aload_n 0, 1) := by decide +kernel
theorem dX1_countSortedStretches_23 : decode cX1_countSortedStretches 23 = .ok (.getfield 9, 3) := by decide +kernel
theorem dX1_countSortedStretches_26 : decode cX1_countSortedStretches 26 = .ok (.iload_n 2, 1) := by decide +kernel
theorem dX1_countSortedStretches_27 : decode cX1_countSortedStretches 27 = .ok (.iconst 1, 1) := by decide +kernel
theorem dX1_countSortedStretches_28 : decode cX1_countSortedStretches 28 = .ok (.isub, 1) := by decide +kernel
theorem dX1_countSortedStretches_29 : decode cX1_countSortedStretches 29 = .ok (.iaload, 1) := by decide +kernel
theorem dX1_countSortedStretches_30 : decode cX1_countSortedStretches 30 = .ok (.if_icmp .ge 6, 3) := by decide +kernel
theorem dX1_countSortedStretches_33 : decode cX1_countSortedStretches 33 = .ok (.iinc 1 1, 3) := by decide +kernel
theorem dX1_countSortedStretches_36 : decode cX1_countSortedStretches 36 = .ok (.iinc 2 1, 3) := by decide +kernel
theorem dX1_countSortedStretches_39 : decode cX1_countSortedStretches 39 = .ok (.goto (-35), 3) := by decide +kernel
theorem dX1_countSortedStretches_42 : decode cX1_countSortedStretches 42 = .ok (.iload_n 1, 1) := by decide +kernel
theorem dX1_countSortedStretches_43 : decode cX1_countSortedStretches 43 = .ok (.ireturn, 1) := by decide +kernel
set_option maxRecDepth 20000 in
theorem ggX1_countDifferentKeys_X1_standsBefore : GoodIn wsX1_countDifferentKeys wsX1_standsBefore := goodIn_r _ [6, 7, 8, 9, 10, 11, 12] (by decide +kernel) (by decide +kernel)
set_option maxRecDepth 20000 in
theorem gX1_countDifferentKeys_X1_standsBefore : GoodIn wsX1_countDifferentKeys (wsV RX1 39 RX1 yX1_standsBefore wsX1_standsBefore) := goodIn_app (goodIn_of _ (by decide +kernel)) ggX1_countDifferentKeys_X1_standsBefore
theorem dX1_countDifferentKeys_0 : decode cX1_countDifferentKeys 0 = .ok (.iconst 0, 1) := by decide +kernel
theorem dX1_countDifferentKeys_1 : decode cX1_countDifferentKeys 1 = .ok (.istore_n 1, 1) := by decide +kernel
theorem dX1_countDifferentKeys_2 : decode cX1_countDifferentKeys 2 = .ok (.iconst 0, 1) := by decide +kernel
theorem dX1_countDifferentKeys_3 : decode cX1_countDifferentKeys 3 = .ok (.istore_n 2, 1) := by decide +kernel
theorem dX1_countDifferentKeys_4 : decode cX1_countDifferentKeys 4 = .ok (.iload_n 2, 1) := by decide +kernel
theorem dX1_countDifferentKeys_5 : decode cX1_countDifferentKeys 5 = .ok (.aload_n 0, 1) := by decide +kernel
theorem dX1_countDifferentKeys_6 : decode cX1_countDifferentKeys 6 = .ok (.getfield 16, 3) := by decide +kernel
theorem dX1_countDifferentKeys_9 : decode cX1_countDifferentKeys 9 = .ok (.if_icmp .ge 20, 3) := by decide +kernel
theorem dX1_countDifferentKeys_12 : decode cX1_countDifferentKeys 12 = .ok (.aload_n 0, 1) := by decide +kernel
theorem dX1_countDifferentKeys_13 : decode cX1_countDifferentKeys 13 = .ok (.iload_n 2, 1) := by decide +kernel
theorem dX1_countDifferentKeys_14 : decode cX1_countDifferentKeys 14 = .ok (.invokevirtual 39, 3) := by decide +kernel
theorem dX1_countDifferentKeys_17 : decode cX1_countDifferentKeys 17 = .ok (.ifCond .ne 6, 3) := by decide +kernel
theorem dX1_countDifferentKeys_20 : decode cX1_countDifferentKeys 20 = .ok (.iinc 1 1, 3) := by decide +kernel
theorem dX1_countDifferentKeys_23 : decode cX1_countDifferentKeys 23 = .ok (.iinc 2 1, 3) := by decide +kernel
theorem dX1_countDifferentKeys_26 : decode cX1_countDifferentKeys 26 = .ok (.goto (-22), 3) := by decide +kernel
theorem dX1_countDifferentKeys_29 : decode cX1_countDifferentKeys 29 = .ok (.iload_n 1, 1) := by decide +kernel
theorem dX1_countDifferentKeys_30 : decode cX1_countDifferentKeys 30 = .ok (.ireturn, 1) := by decide +kernel
theorem dX1_standsBefore_0 : decode cX1_standsBefore 0 = .ok (.iconst 0, 1) := by decide +kernel
theorem dX1_standsBefore_1 : decode cX1_standsBefore 1 = .ok (.istore_n 2, 1) := by decide +kernel
theorem dX1_standsBefore_2 : decode cX1_standsBefore 2 = .ok (.iload_n 2, 1) := by decide +kernel
theorem dX1_standsBefore_3 : decode cX1_standsBefore 3 = .ok (.iload_n 1, 1) := by decide +kernel
theorem dX1_standsBefore_4 : decode cX1_standsBefore 4 = .ok (.if_icmp .ge 26, 3) := by decide +kernel
theorem dX1_standsBefore_7 : decode cX1_standsBefore 7 = .ok (.aload_n 0, 1) := by decide +kernel
theorem dX1_standsBefore_8 : decode cX1_standsBefore 8 = .ok (.getfield 9, 3) := by decide +kernel
theorem dX1_standsBefore_11 : decode cX1_standsBefore 11 = .ok (.iload_n 2, 1) := by decide +kernel
theorem dX1_standsBefore_12 : decode cX1_standsBefore 12 = .ok (.iaload, 1) := by decide +kernel
theorem dX1_standsBefore_13 : decode cX1_standsBefore 13 = .ok (.aload_n 0, 1) := by decide +kernel
theorem dX1_standsBefore_14 : decode cX1_standsBefore 14 = .ok (.getfield 9, 3) := by decide +kernel
theorem dX1_standsBefore_17 : decode cX1_standsBefore 17 = .ok (.iload_n 1, 1) := by decide +kernel
theorem dX1_standsBefore_18 : decode cX1_standsBefore 18 = .ok (.iaload, 1) := by decide +kernel
theorem dX1_standsBefore_19 : decode cX1_standsBefore 19 = .ok (.if_icmp .ne 5, 3) := by decide +kernel
theorem dX1_standsBefore_22 : decode cX1_standsBefore 22 = .ok (.iconst 1, 1) := by decide +kernel
theorem dX1_standsBefore_23 : decode cX1_standsBefore 23 = .ok (.ireturn, 1) := by decide +kernel
theorem dX1_standsBefore_24 : decode cX1_standsBefore 24 = .ok (.iinc 2 1, 3) := by decide +kernel
theorem dX1_standsBefore_27 : decode cX1_standsBefore 27 = .ok (.goto (-25), 3) := by decide +kernel
theorem dX1_standsBefore_30 : decode cX1_standsBefore 30 = .ok (.iconst 0, 1) := by decide +kernel
theorem dX1_standsBefore_31 : decode cX1_standsBefore 31 = .ok (.ireturn, 1) := by decide +kernel
set_option maxRecDepth 20000 in
theorem ggX1_sortInPlace_X1_mergeInPlace : GoodIn wsX1_sortInPlace wsX1_mergeInPlace := goodIn_r _ [8, 9, 10, 11, 7, 12, 13, 14, 15, 16, 17, 18, 19, 20, 21, 22, 23, 24, 25, 26, 27, 28, 29, 30, 31, 32, 33, 34, 35, 36, 37, 5, 6, 38, 39, 40, 41, 42] (by decide +kernel) (by decide +kernel)
set_option maxRecDepth 20000 in
theorem gX1_sortInPlace_X1_mergeInPlace : GoodIn wsX1_sortInPlace (va_wsS RX1 49 yX1_mergeInPlace wsX1_mergeInPlace) := goodIn_app (goodIn_of _ (by decide +kernel)) ggX1_sortInPlace_X1_mergeInPlace
theorem dX1_sortInPlace_0 : decode cX1_sortInPlace 0 = .ok (.iconst 1, 1) := by decide +kernel
theorem dX1_sortInPlace_1 : decode cX1_sortInPlace 1 = .ok (.istore 4, 2) := by decide +kernel
theorem dX1_sortInPlace_3 : decode cX1_sortInPlace 3 = .ok (.iload 4, 2) := by decide +kernel
theorem dX1_sortInPlace_5 : decode cX1_sortInPlace 5 = .ok (.iload_n 2, 1) := by decide +kernel
theorem dX1_sortInPlace_6 : decode cX1_sortInPlace 6 = .ok (.iload_n 1, 1) := by decide +kernel
theorem dX1_sortInPlace_7 : decode cX1_sortInPlace 7 = .ok (.isub, 1) := by decide +kernel
theorem dX1_sortInPlace_8 : decode cX1_sortInPlace 8 = .ok (.if_icmp .ge 64, 3) := by decide +kernel
theorem dX1_sortInPlace_11 : decode cX1_sortInPlace 11 = .ok (.iload_n 1, 1) := by decide +kernel
theorem dX1_sortInPlace_12 : decode cX1_sortInPlace 12 = .ok (.istore 5, 2) := by decide +kernel
theorem dX1_sortInPlace_14 : decode cX1_sortInPlace 14 = .ok (.iload 5, 2) := by decide +kernel
theorem dX1_sortInPlace_16 : decode cX1_sortInPlace 16 = .ok (.iload_n 2, 1) := by decide +kernel
theorem dX1_sortInPlace_17 : decode cX1_sortInPlace 17 = .ok (.iload 4, 2) := by decide +kernel
theorem dX1_sortInPlace_19 : decode cX1_sortInPlace 19 = .ok (.isub, 1) := by decide +kernel
theorem dX1_sortInPlace_20 : decode cX1_sortInPlace 20 = .ok (.if_icmp .ge 43, 3) := by decide +kernel
theorem dX1_sortInPlace_23 : decode cX1_sortInPlace 23 = .ok (.iload 5, 2) := by decide +kernel
theorem dX1_sortInPlace_25 : decode cX1_sortInPlace 25 = .ok (.iconst 2, 1) := by decide +kernel
theorem dX1_sortInPlace_26 : decode cX1_sortInPlace 26 = .ok (.iload 4, 2) := by decide +kernel
theorem dX1_sortInPlace_28 : decode cX1_sortInPlace 28 = .ok (.imul, 1) := by decide +kernel
theorem dX1_sortInPlace_29 : decode cX1_sortInPlace 29 = .ok (.iadd, 1) := by decide +kernel
theorem dX1_sortInPlace_30 : decode cX1_sortInPlace 30 = .ok (.iload_n 2, 1) := by decide +kernel
theorem dX1_sortInPlace_31 : decode cX1_sortInPlace 31 = .ok (.invokestatic 43, 3) := by decide +kernel
theorem dX1_sortInPlace_34 : decode cX1_sortInPlace 34 = .ok (.istore 6, 2) := by decide +kernel
theorem dX1_sortInPlace_36 : decode cX1_sortInPlace 36 = .ok (.aload_n 0, 1) := by decide +kernel
theorem dX1_sortInPlace_37 : decode cX1_sortInPlace 37 = .ok (.iload 5, 2) := by decide +kernel
theorem dX1_sortInPlace_39 : decode cX1_sortInPlace 39 = .ok (.iload 5, 2) := by decide +kernel
theorem dX1_sortInPlace_41 : decode cX1_sortInPlace 41 = .ok (.iload 4, 2) := by decide +kernel
theorem dX1_sortInPlace_43 : decode cX1_sortInPlace 43 = .ok (.iadd, 1) := by decide +kernel
theorem dX1_sortInPlace_44 : decode cX1_sortInPlace 44 = .ok (.iload 6, 2) := by decide +kernel
theorem dX1_sortInPlace_46 : decode cX1_sortInPlace 46 = .ok (.iload_n 3, 1) := by decide +kernel
theorem dX1_sortInPlace_47 : decode cX1_sortInPlace 47 = .ok (.iconst 0, 1) := by decide +kernel
theorem dX1_sortInPlace_48 : decode cX1_sortInPlace 48 = .ok (.invokestatic 49, 3) := by decide +kernel
theorem dX1_sortInPlace_51 : decode cX1_sortInPlace 51 = .ok (.iload 5, 2) := by decide +kernel
theorem dX1_sortInPlace_53 : decode cX1_sortInPlace 53 = .ok (.iconst 2, 1) := by decide +kernel
theorem dX1_sortInPlace_54 : decode cX1_sortInPlace 54 = .ok (.iload 4, 2) := by decide +kernel
theorem dX1_sortInPlace_56 : decode cX1_sortInPlace 56 = .ok (.imul, 1) := by decide +kernel
theorem dX1_sortInPlace_57 : decode cX1_sortInPlace 57 = .ok (.iadd, 1) := by decide +kernel
theorem dX1_sortInPlace_58 : decode cX1_sortInPlace 58 = .ok (.istore 5, 2) := by decide +kernel
theorem dX1_sortInPlace_60 : decode cX1_sortInPlace 60 = .ok (.goto (-46), 3) := by decide +kernel
theorem dX1_sortInPlace_63 : decode cX1_sortInPlace 63 = .ok (.iload 4, 2) := by decide +kernel
theorem dX1_sortInPlace_65 : decode cX1_sortInPlace 65 = .ok (.iconst 2, 1) := by decide +kernel
theorem dX1_sortInPlace_66 : decode cX1_sortInPlace 66 = .ok (.imul, 1) := by decide +kernel
theorem dX1_sortInPlace_67 : decode cX1_sortInPlace 67 = .ok (.istore 4, 2) := by decide +kernel
theorem dX1_sortInPlace_69 : decode cX1_sortInPlace 69 = .ok (.goto (-66), 3) := by decide +kernel
theorem dX1_sortInPlace_72 : decode cX1_sortInPlace 72 = .ok (.return_, 1) := by decide +kernel
set_option maxRecDepth 20000 in
theorem ggX1_mergeInPlace_X1_startOfBlocks : GoodIn wsX1_mergeInPlace wsX1_startOfBlocks := goodIn_r _ [5, 6, 7, 8, 4, 9, 10, 11, 12, 13, 14, 15, 16, 33, 34, 35, 36, 37] (by decide +kernel) (by decide +kernel)
set_option maxRecDepth 20000 in
theorem gX1_mergeInPlace_X1_startOfBlocks : GoodIn wsX1_mergeInPlace (wsV RX1 53 RX1 yX1_startOfBlocks wsX1_startOfBlocks) := goodIn_app (goodIn_of _ (by decide +kernel)) ggX1_mergeInPlace_X1_startOfBlocks
set_option maxRecDepth 20000 in
theorem ggX1_mergeInPlace_X1_swapBlocks : GoodIn wsX1_mergeInPlace wsX1_swapBlocks := goodIn_r _ [20, 21, 22, 23, 4, 24, 25, 26, 27, 28, 11, 29, 30, 33, 34, 35, 36, 37] (by decide +kernel) (by decide +kernel)
set_option maxRecDepth 20000 in
theorem gX1_mergeInPlace_X1_swapBlocks : GoodIn wsX1_mergeInPlace (wsV RX1 57 RX1 yX1_swapBlocks wsX1_swapBlocks) := goodIn_app (goodIn_of _ (by decide +kernel)) ggX1_mergeInPlace_X1_swapBlocks
set_option maxRecDepth 20000 in
theorem ggX1_mergeInPlace_X1_mergeInPlace : GoodIn wsX1_mergeInPlace wsX1_mergeInPlace := goodIn_r _ [0, 1, 2, 3, 4, 5, 6, 7, 8, 9, 10, 11, 12, 13, 14, 15, 16, 17, 18, 19, 20, 21, 22, 23, 24, 25, 26, 27, 28, 29, 30, 31, 32, 33, 34, 35, 36, 37] (by decide +kernel) (by decide +kernel)
set_option maxRecDepth 20000 in
theorem gX1_mergeInPlace_X1_mergeInPlace : GoodIn wsX1_mergeInPlace (va_wsS RX1 49 yX1_mergeInPlace wsX1_mergeInPlace) := goodIn_app (goodIn_of _ (by decide +kernel)) ggX1_mergeInPlace_X1_mergeInPlace
theorem dX1_mergeInPlace_0 : decode cX1_mergeInPlace 0 = .ok (.iload_n 1, 1) := by decide +kernel
theorem dX1_mergeInPlace_1 : decode cX1_mergeInPlace 1 = .ok (.iload_n 2, 1) := by decide +kernel
theorem dX1_mergeInPlace_2 : decode cX1_mergeInPlace 2 = .ok (.if_icmp .ge 15, 3) := by decide +kernel
theorem dX1_mergeInPlace_5 : decode cX1_mergeInPlace 5 = .ok (.iload_n 2, 1) := by decide +kernel
theorem dX1_mergeInPlace_6 : decode cX1_mergeInPlace 6 = .ok (.iload_n 3, 1) := by decide +kernel
theorem dX1_mergeInPlace_7 : decode cX1_mergeInPlace 7 = .ok (.if_icmp .ge 10, 3) := by decide +kernel
theorem dX1_mergeInPlace_10 : decode cX1_mergeInPlace 10 = .ok (.iload 5, 2) := by decide +kernel
theorem dX1_mergeInPlace_12 : decode cX1_mergeInPlace 12 = .ok (.bipush 16, 2) := by decide +kernel
theorem dX1_mergeInPlace_14 : decode cX1_mergeInPlace 14 = .ok (.if_icmp .lt 4, 3) := by decide +kernel
theorem dX1_mergeInPlace_17 : decode cX1_mergeInPlace 17 = .ok (.return_, 1) := by decide +kernel
theorem dX1_mergeInPlace_18 : decode cX1_mergeInPlace 18 = .ok (.iload_n 1, 1) := by decide +kernel
theorem dX1_mergeInPlace_19 : decode cX1_mergeInPlace 19 = .ok (.iload_n 3, 1) := by decide +kernel
theorem dX1_mergeInPlace_20 : decode cX1_mergeInPlace 20 = .ok (.iadd, 1) := by decide +kernel
theorem dX1_mergeInPlace_21 : decode cX1_mergeInPlace 21 = .ok (.iconst 2, 1) := by decide +kernel
theorem dX1_mergeInPlace_22 : decode cX1_mergeInPlace 22 = .ok (.idiv, 1) := by decide +kernel
theorem dX1_mergeInPlace_23 : decode cX1_mergeInPlace 23 = .ok (.istore 6, 2) := by decide +kernel
theorem dX1_mergeInPlace_25 : decode cX1_mergeInPlace 25 = .ok (.aload_n 0, 1) := by decide +kernel
theorem dX1_mergeInPlace_26 : decode cX1_mergeInPlace 26 = .ok (.iload_n 1, 1) := by decide +kernel
theorem dX1_mergeInPlace_27 : decode cX1_mergeInPlace 27 = .ok (.iload_n 2, 1) := by decide +kernel
theorem dX1_mergeInPlace_28 : decode cX1_mergeInPlace 28 = .ok (.iload_n 3, 1) := by decide +kernel
theorem dX1_mergeInPlace_29 : decode cX1_mergeInPlace 29 = .ok (.iload 4, 2) := by decide +kernel
theorem dX1_mergeInPlace_31 : decode cX1_mergeInPlace 31 = .ok (.invokevirtual 53, 3) := by decide +kernel
theorem dX1_mergeInPlace_34 : decode cX1_mergeInPlace 34 = .ok (.istore 7, 2) := by decide +kernel
theorem dX1_mergeInPlace_36 : decode cX1_mergeInPlace 36 = .ok (.iload 6, 2) := by decide +kernel
theorem dX1_mergeInPlace_38 : decode cX1_mergeInPlace 38 = .ok (.iload_n 2, 1) := by decide +kernel
theorem dX1_mergeInPlace_39 : decode cX1_mergeInPlace 39 = .ok (.iadd, 1) := by decide +kernel
theorem dX1_mergeInPlace_40 : decode cX1_mergeInPlace 40 = .ok (.iload 7, 2) := by decide +kernel
theorem dX1_mergeInPlace_42 : decode cX1_mergeInPlace 42 = .ok (.isub, 1) := by decide +kernel
theorem dX1_mergeInPlace_43 : decode cX1_mergeInPlace 43 = .ok (.istore 8, 2) := by decide +kernel
theorem dX1_mergeInPlace_45 : decode cX1_mergeInPlace 45 = .ok (.aload_n 0, 1) := by decide +kernel
theorem dX1_mergeInPlace_46 : decode cX1_mergeInPlace 46 = .ok (.iload 7, 2) := by decide +kernel
theorem dX1_mergeInPlace_48 : decode cX1_mergeInPlace 48 = .ok (.iload_n 2, 1) := by decide +kernel
theorem dX1_mergeInPlace_49 : decode cX1_mergeInPlace 49 = .ok (.iload 8, 2) := by decide +kernel
theorem dX1_mergeInPlace_51 : decode cX1_mergeInPlace 51 = .ok (.invokevirtual 57, 3) := by decide +kernel
theorem dX1_mergeInPlace_54 : decode cX1_mergeInPlace 54 = .ok (.aload_n 0, 1) := by decide +kernel
theorem dX1_mergeInPlace_55 : decode cX1_mergeInPlace 55 = .ok (.iload_n 1, 1) := by decide +kernel
theorem dX1_mergeInPlace_56 : decode cX1_mergeInPlace 56 = .ok (.iload 7, 2) := by decide +kernel
theorem dX1_mergeInPlace_58 : decode cX1_mergeInPlace 58 = .ok (.iload 6, 2) := by decide +kernel
theorem dX1_mergeInPlace_60 : decode cX1_mergeInPlace 60 = .ok (.iload 4, 2) := by decide +kernel
theorem dX1_mergeInPlace_62 : decode cX1_mergeInPlace 62 = .ok (.iload 5, 2) := by decide +kernel
theorem dX1_mergeInPlace_64 : decode cX1_mergeInPlace 64 = .ok (.iconst 1, 1) := by decide +kernel
theorem dX1_mergeInPlace_65 : decode cX1_mergeInPlace 65 = .ok (.iadd, 1) := by decide +kernel
theorem dX1_mergeInPlace_66 : decode cX1_mergeInPlace 66 = .ok (.invokestatic 49, 3) := by decide +kernel
theorem dX1_mergeInPlace_69 : decode cX1_mergeInPlace 69 = .ok (.aload_n 0, 1) := by decide +kernel
theorem dX1_mergeInPlace_70 : decode cX1_mergeInPlace 70 = .ok (.iload 6, 2) := by decide +kernel
theorem dX1_mergeInPlace_72 : decode cX1_mergeInPlace 72 = .ok (.iload 8, 2) := by decide +kernel
theorem dX1_mergeInPlace_74 : decode cX1_mergeInPlace 74 = .ok (.iload_n 3, 1) := by decide +kernel
theorem dX1_mergeInPlace_75 : decode cX1_mergeInPlace 75 = .ok (.iload 4, 2) := by decide +kernel
theorem dX1_mergeInPlace_77 : decode cX1_mergeInPlace 77 = .ok (.iload 5, 2) := by decide +kernel
theorem dX1_mergeInPlace_79 : decode cX1_mergeInPlace 79 = .ok (.iconst 1, 1) := by decide +kernel
theorem dX1_mergeInPlace_80 : decode cX1_mergeInPlace 80 = .ok (.iadd, 1) := by decide +kernel
theorem dX1_mergeInPlace_81 : decode cX1_mergeInPlace 81 = .ok (.invokestatic 49, 3) := by decide +kernel
theorem dX1_mergeInPlace_84 : decode cX1_mergeInPlace 84 = .ok (.return_, 1) := by decide +kernel
set_option maxRecDepth 20000 in
theorem ggX1_startOfBlocks_X1_lessAt : GoodIn wsX1_startOfBlocks wsX1_lessAt := goodIn_r _ [5, 6, 7, 8, 9, 10, 11, 12, 13, 14, 15, 16, 17] (by decide +kernel) (by decide +kernel)
set_option maxRecDepth 20000 in
theorem gX1_startOfBlocks_X1_lessAt : GoodIn wsX1_startOfBlocks (wsV RX1 30 RX1 yX1_lessAt wsX1_lessAt) := goodIn_app (goodIn_of _ (by decide +kernel)) ggX1_startOfBlocks_X1_lessAt
theorem dX1_startOfBlocks_0 : decode cX1_startOfBlocks 0 = .ok (.iload_n 1, 1) := by decide +kernel
theorem dX1_startOfBlocks_1 : decode cX1_startOfBlocks 1 = .ok (.iload_n 3, 1) := by decide +kernel
theorem dX1_startOfBlocks_2 : decode cX1_startOfBlocks 2 = .ok (.iadd, 1) := by decide +kernel
theorem dX1_startOfBlocks_3 : decode cX1_startOfBlocks 3 = .ok (.iconst 2, 1) := by decide +kernel
theorem dX1_startOfBlocks_4 : decode cX1_startOfBlocks 4 = .ok (.idiv, 1) := by decide +kernel
theorem dX1_startOfBlocks_5 : decode cX1_startOfBlocks 5 = .ok (.istore 5, 2) := by decide +kernel
theorem dX1_startOfBlocks_7 : decode cX1_startOfBlocks 7 = .ok (.iload 5, 2) := by decide +kernel
theorem dX1_startOfBlocks_9 : decode cX1_startOfBlocks 9 = .ok (.iload_n 2, 1) := by decide +kernel
theorem dX1_startOfBlocks_10 : decode cX1_startOfBlocks 10 = .ok (.iadd, 1) := by decide +kernel
theorem dX1_startOfBlocks_11 : decode cX1_startOfBlocks 11 = .ok (.iconst 1, 1) := by decide +kernel
theorem dX1_startOfBlocks_12 : decode cX1_startOfBlocks 12 = .ok (.isub, 1) := by decide +kernel
theorem dX1_startOfBlocks_13 : decode cX1_startOfBlocks 13 = .ok (.istore 6, 2) := by decide +kernel
theorem dX1_startOfBlocks_15 : decode cX1_startOfBlocks 15 = .ok (.iload_n 2, 1) := by decide +kernel
theorem dX1_startOfBlocks_16 : decode cX1_startOfBlocks 16 = .ok (.iload 5, 2) := by decide +kernel
theorem dX1_startOfBlocks_18 : decode cX1_startOfBlocks 18 = .ok (.if_icmp .le 12, 3) := by decide +kernel
theorem dX1_startOfBlocks_21 : decode cX1_startOfBlocks 21 = .ok (.iload 5, 2) := by decide +kernel
theorem dX1_startOfBlocks_23 : decode cX1_startOfBlocks 23 = .ok (.iload_n 2, 1) := by decide +kernel
theorem dX1_startOfBlocks_24 : decode cX1_startOfBlocks 24 = .ok (.iadd, 1) := by decide +kernel
theorem dX1_startOfBlocks_25 : decode cX1_startOfBlocks 25 = .ok (.iload_n 3, 1) := by decide +kernel
theorem dX1_startOfBlocks_26 : decode cX1_startOfBlocks 26 = .ok (.isub, 1) := by decide +kernel
theorem dX1_startOfBlocks_27 : decode cX1_startOfBlocks 27 = .ok (.goto 4, 3) := by decide +kernel
theorem dX1_startOfBlocks_30 : decode cX1_startOfBlocks 30 = .ok (.iload_n 1, 1) := by decide +kernel
theorem dX1_startOfBlocks_31 : decode cX1_startOfBlocks 31 = .ok (.istore 7, 2) := by decide +kernel
theorem dX1_startOfBlocks_33 : decode cX1_startOfBlocks 33 = .ok (.iload_n 2, 1) := by decide +kernel
theorem dX1_startOfBlocks_34 : decode cX1_startOfBlocks 34 = .ok (.iload 5, 2) := by decide +kernel
theorem dX1_startOfBlocks_36 : decode cX1_startOfBlocks 36 = .ok (.if_icmp .le 8, 3) := by decide +kernel
theorem dX1_startOfBlocks_39 : decode cX1_startOfBlocks 39 = .ok (.iload 5, 2) := by decide +kernel
theorem dX1_startOfBlocks_41 : decode cX1_startOfBlocks 41 = .ok (.goto 4, 3) := by decide +kernel
theorem dX1_startOfBlocks_44 : decode cX1_startOfBlocks 44 = .ok (.iload_n 2, 1) := by decide +kernel
theorem dX1_startOfBlocks_45 : decode cX1_startOfBlocks 45 = .ok (.istore 8, 2) := by decide +kernel
theorem dX1_startOfBlocks_47 : decode cX1_startOfBlocks 47 = .ok (.iload 7, 2) := by decide +kernel
theorem dX1_startOfBlocks_49 : decode cX1_startOfBlocks 49 = .ok (.iload 8, 2) := by decide +kernel
theorem dX1_startOfBlocks_51 : decode cX1_startOfBlocks 51 = .ok (.if_icmp .ge 44, 3) := by decide +kernel
theorem dX1_startOfBlocks_54 : decode cX1_startOfBlocks 54 = .ok (.iload 7, 2) := by decide +kernel
theorem dX1_startOfBlocks_56 : decode cX1_startOfBlocks 56 = .ok (.iload 8, 2) := by decide +kernel
theorem dX1_startOfBlocks_58 : decode cX1_startOfBlocks 58 = .ok (.iadd, 1) := by decide +kernel
theorem dX1_startOfBlocks_59 : decode cX1_startOfBlocks 59 = .ok (.iconst 2, 1) := by decide +kernel
theorem dX1_startOfBlocks_60 : decode cX1_startOfBlocks 60 = .ok (.idiv, 1) := by decide +kernel
theorem dX1_startOfBlocks_61 : decode cX1_startOfBlocks 61 = .ok (.istore 9, 2) := by decide +kernel
theorem dX1_startOfBlocks_63 : decode cX1_startOfBlocks 63 = .ok (.aload_n 0, 1) := by decide +kernel
theorem dX1_startOfBlocks_64 : decode cX1_startOfBlocks 64 = .ok (.iload 6, 2) := by decide +kernel
theorem dX1_startOfBlocks_66 : decode cX1_startOfBlocks 66 = .ok (.iload 9, 2) := by decide +kernel
theorem dX1_startOfBlocks_68 : decode cX1_startOfBlocks 68 = .ok (.isub, 1) := by decide +kernel
theorem dX1_startOfBlocks_69 : decode cX1_startOfBlocks 69 = .ok (.iload 9, 2) := by decide +kernel
theorem dX1_startOfBlocks_71 : decode cX1_startOfBlocks 71 = .ok (.iload 4, 2) := by decide +kernel
theorem dX1_startOfBlocks_73 : decode cX1_startOfBlocks 73 = .ok (.invokevirtual 30, 3) := by decide +kernel
theorem dX1_startOfBlocks_76 : decode cX1_startOfBlocks 76 = .ok (.ifCond .eq 10, 3) := by decide +kernel
theorem dX1_startOfBlocks_79 : decode cX1_startOfBlocks 79 = .ok (.iload 9, 2) := by decide +kernel
theorem dX1_startOfBlocks_81 : decode cX1_startOfBlocks 81 = .ok (.istore 8, 2) := by decide +kernel
theorem dX1_startOfBlocks_83 : decode cX1_startOfBlocks 83 = .ok (.goto 9, 3) := by decide +kernel
theorem dX1_startOfBlocks_86 : decode cX1_startOfBlocks 86 = .ok (.iload 9, 2) := by decide +kernel
theorem dX1_startOfBlocks_88 : decode cX1_startOfBlocks 88 = .ok (.iconst 1, 1) := by decide +kernel
theorem dX1_startOfBlocks_89 : decode cX1_startOfBlocks 89 = .ok (.iadd, 1) := by decide +kernel
theorem dX1_startOfBlocks_90 : decode cX1_startOfBlocks 90 = .ok (.istore 7, 2) := by decide +kernel
theorem dX1_startOfBlocks_92 : decode cX1_startOfBlocks 92 = .ok (.goto (-45), 3) := by decide +kernel
theorem dX1_startOfBlocks_95 : decode cX1_startOfBlocks 95 = .ok (.iload 7, 2) := by decide +kernel
theorem dX1_startOfBlocks_97 : decode cX1_startOfBlocks 97 = .ok (.ireturn, 1) := by decide +kernel
set_option maxRecDepth 20000 in
theorem ggX1_splitInPlace_X1_countLess : GoodIn wsX1_splitInPlace wsX1_countLess := goodIn_r _ [9, 10, 11, 12, 13, 14, 15, 30, 31, 32, 33, 34] (by decide +kernel) (by decide +kernel)
set_option maxRecDepth 20000 in
theorem gX1_splitInPlace_X1_countLess : GoodIn wsX1_splitInPlace (wsV RX1 61 RX1 yX1_countLess wsX1_countLess) := goodIn_app (goodIn_of _ (by decide +kernel)) ggX1_splitInPlace_X1_countLess
set_option maxRecDepth 20000 in
theorem ggX1_splitInPlace_X1_swapBlocks : GoodIn wsX1_splitInPlace wsX1_swapBlocks := goodIn_r _ [19, 20, 21, 22, 8, 23, 24, 25, 26, 27, 10, 28, 29, 30, 31, 32, 33, 34] (by decide +kernel) (by decide +kernel)
set_option maxRecDepth 20000 in
theorem gX1_splitInPlace_X1_swapBlocks : GoodIn wsX1_splitInPlace (wsV RX1 57 RX1 yX1_swapBlocks wsX1_swapBlocks) := goodIn_app (goodIn_of _ (by decide +kernel)) ggX1_splitInPlace_X1_swapBlocks
theorem dX1_splitInPlace_0 : decode cX1_splitInPlace 0 = .ok (.iconst 1, 1) := by decide +kernel
theorem dX1_splitInPlace_1 : decode cX1_splitInPlace 1 = .ok (.istore 5, 2) := by decide +kernel
theorem dX1_splitInPlace_3 : decode cX1_splitInPlace 3 = .ok (.iload 5, 2) := by decide +kernel
theorem dX1_splitInPlace_5 : decode cX1_splitInPlace 5 = .ok (.iload_n 2, 1) := by decide +kernel
theorem dX1_splitInPlace_6 : decode cX1_splitInPlace 6 = .ok (.iload_n 1, 1) := by decide +kernel
theorem dX1_splitInPlace_7 : decode cX1_splitInPlace 7 = .ok (.isub, 1) := by decide +kernel
theorem dX1_splitInPlace_8 : decode cX1_splitInPlace 8 = .ok (.if_icmp .ge 96, 3) := by decide +kernel
theorem dX1_splitInPlace_11 : decode cX1_splitInPlace 11 = .ok (.iload_n 1, 1) := by decide +kernel
theorem dX1_splitInPlace_12 : decode cX1_splitInPlace 12 = .ok (.istore 6, 2) := by decide +kernel
theorem dX1_splitInPlace_14 : decode cX1_splitInPlace 14 = .ok (.iload 6, 2) := by decide +kernel
theorem dX1_splitInPlace_16 : decode cX1_splitInPlace 16 = .ok (.iload_n 2, 1) := by decide +kernel
theorem dX1_splitInPlace_17 : decode cX1_splitInPlace 17 = .ok (.iload 5, 2) := by decide +kernel
theorem dX1_splitInPlace_19 : decode cX1_splitInPlace 19 = .ok (.isub, 1) := by decide +kernel
theorem dX1_splitInPlace_20 : decode cX1_splitInPlace 20 = .ok (.if_icmp .ge 75, 3) := by decide +kernel
theorem dX1_splitInPlace_23 : decode cX1_splitInPlace 23 = .ok (.iload 6, 2) := by decide +kernel
theorem dX1_splitInPlace_25 : decode cX1_splitInPlace 25 = .ok (.iload 5, 2) := by decide +kernel
theorem dX1_splitInPlace_27 : decode cX1_splitInPlace 27 = .ok (.iadd, 1) := by decide +kernel
theorem dX1_splitInPlace_28 : decode cX1_splitInPlace 28 = .ok (.istore 7, 2) := by decide +kernel
theorem dX1_splitInPlace_30 : decode cX1_splitInPlace 30 = .ok (.iload 7, 2) := by decide +kernel
theorem dX1_splitInPlace_32 : decode cX1_splitInPlace 32 = .ok (.iload 5, 2) := by decide +kernel
theorem dX1_splitInPlace_34 : decode cX1_splitInPlace 34 = .ok (.iadd, 1) := by decide +kernel
theorem dX1_splitInPlace_35 : decode cX1_splitInPlace 35 = .ok (.iload_n 2, 1) := by decide +kernel
theorem dX1_splitInPlace_36 : decode cX1_splitInPlace 36 = .ok (.invokestatic 43, 3) := by decide +kernel
theorem dX1_splitInPlace_39 : decode cX1_splitInPlace 39 = .ok (.istore 8, 2) := by decide +kernel
theorem dX1_splitInPlace_41 : decode cX1_splitInPlace 41 = .ok (.iload 6, 2) := by decide +kernel
theorem dX1_splitInPlace_43 : decode cX1_splitInPlace 43 = .ok (.aload_n 0, 1) := by decide +kernel
theorem dX1_splitInPlace_44 : decode cX1_splitInPlace 44 = .ok (.iload 6, 2) := by decide +kernel
theorem dX1_splitInPlace_46 : decode cX1_splitInPlace 46 = .ok (.iload 7, 2) := by decide +kernel
theorem dX1_splitInPlace_48 : decode cX1_splitInPlace 48 = .ok (.iload_n 3, 1) := by decide +kernel
theorem dX1_splitInPlace_49 : decode cX1_splitInPlace 49 = .ok (.iload 4, 2) := by decide +kernel
theorem dX1_splitInPlace_51 : decode cX1_splitInPlace 51 = .ok (.invokevirtual 61, 3) := by decide +kernel
theorem dX1_splitInPlace_54 : decode cX1_splitInPlace 54 = .ok (.iadd, 1) := by decide +kernel
theorem dX1_splitInPlace_55 : decode cX1_splitInPlace 55 = .ok (.istore 9, 2) := by decide +kernel
theorem dX1_splitInPlace_57 : decode cX1_splitInPlace 57 = .ok (.iload 7, 2) := by decide +kernel
theorem dX1_splitInPlace_59 : decode cX1_splitInPlace 59 = .ok (.aload_n 0, 1) := by decide +kernel
theorem dX1_splitInPlace_60 : decode cX1_splitInPlace 60 = .ok (.iload 7, 2) := by decide +kernel
theorem dX1_splitInPlace_62 : decode cX1_splitInPlace 62 = .ok (.iload 8, 2) := by decide +kernel
theorem dX1_splitInPlace_64 : decode cX1_splitInPlace 64 = .ok (.iload_n 3, 1) := by decide +kernel
theorem dX1_splitInPlace_65 : decode cX1_splitInPlace 65 = .ok (.iload 4, 2) := by decide +kernel
theorem dX1_splitInPlace_67 : decode cX1_splitInPlace 67 = .ok (.invokevirtual 61, 3) := by decide +kernel
theorem dX1_splitInPlace_70 : decode cX1_splitInPlace 70 = .ok (.iadd, 1) := by decide +kernel
theorem dX1_splitInPlace_71 : decode cX1_splitInPlace 71 = .ok (.istore 10, 2) := by decide +kernel
theorem dX1_splitInPlace_73 : decode cX1_splitInPlace 73 = .ok (.aload_n 0, 1) := by decide +kernel
theorem dX1_splitInPlace_74 : decode cX1_splitInPlace 74 = .ok (.iload 9, 2) := by decide +kernel
theorem dX1_splitInPlace_76 : decode cX1_splitInPlace 76 = .ok (.iload 7, 2) := by decide +kernel
theorem dX1_splitInPlace_78 : decode cX1_splitInPlace 78 = .ok (.iload 10, 2) := by decide +kernel
theorem dX1_splitInPlace_80 : decode cX1_splitInPlace 80 = .ok (.invokevirtual 57, 3) := by decide +kernel
theorem dX1_splitInPlace_83 : decode cX1_splitInPlace 83 = .ok (.iload 6, 2) := by decide +kernel
theorem dX1_splitInPlace_85 : decode cX1_splitInPlace 85 = .ok (.iconst 2, 1) := by decide +kernel
theorem dX1_splitInPlace_86 : decode cX1_splitInPlace 86 = .ok (.iload 5, 2) := by decide +kernel
theorem dX1_splitInPlace_88 : decode cX1_splitInPlace 88 = .ok (.imul, 1) := by decide +kernel
theorem dX1_splitInPlace_89 : decode cX1_splitInPlace 89 = .ok (.iadd, 1) := by decide +kernel
theorem dX1_splitInPlace_90 : decode cX1_splitInPlace 90 = .ok (.istore 6, 2) := by decide +kernel
theorem dX1_splitInPlace_92 : decode cX1_splitInPlace 92 = .ok (.goto (-78), 3) := by decide +kernel
theorem dX1_splitInPlace_95 : decode cX1_splitInPlace 95 = .ok (.iload 5, 2) := by decide +kernel
theorem dX1_splitInPlace_97 : decode cX1_splitInPlace 97 = .ok (.iconst 2, 1) := by decide +kernel
theorem dX1_splitInPlace_98 : decode cX1_splitInPlace 98 = .ok (.imul, 1) := by decide +kernel
theorem dX1_splitInPlace_99 : decode cX1_splitInPlace 99 = .ok (.istore 5, 2) := by decide +kernel
theorem dX1_splitInPlace_101 : decode cX1_splitInPlace 101 = .ok (.goto (-98), 3) := by decide +kernel
theorem dX1_splitInPlace_104 : decode cX1_splitInPlace 104 = .ok (.return_, 1) := by decide +kernel
set_option maxRecDepth 20000 in
theorem ggX1_dropAlike_X1_lessAt : GoodIn wsX1_dropAlike wsX1_lessAt := goodIn_r _ [8, 9, 2, 10, 11, 12, 13, 14, 15, 16, 17, 18, 19] (by decide +kernel) (by decide +kernel)
set_option maxRecDepth 20000 in
theorem gX1_dropAlike_X1_lessAt : GoodIn wsX1_dropAlike (wsV RX1 30 RX1 yX1_lessAt wsX1_lessAt) := goodIn_app (goodIn_of _ (by decide +kernel)) ggX1_dropAlike_X1_lessAt
theorem dX1_dropAlike_0 : decode cX1_dropAlike 0 = .ok (.iconst 0, 1) := by decide +kernel
theorem dX1_dropAlike_1 : decode cX1_dropAlike 1 = .ok (.istore_n 2, 1) := by decide +kernel
theorem dX1_dropAlike_2 : decode cX1_dropAlike 2 = .ok (.iconst 0, 1) := by decide +kernel
theorem dX1_dropAlike_3 : decode cX1_dropAlike 3 = .ok (.istore_n 3, 1) := by decide +kernel
theorem dX1_dropAlike_4 : decode cX1_dropAlike 4 = .ok (.iload_n 3, 1) := by decide +kernel
theorem dX1_dropAlike_5 : decode cX1_dropAlike 5 = .ok (.aload_n 0, 1) := by decide +kernel
theorem dX1_dropAlike_6 : decode cX1_dropAlike 6 = .ok (.getfield 16, 3) := by decide +kernel
theorem dX1_dropAlike_9 : decode cX1_dropAlike 9 = .ok (.if_icmp .ge 52, 3) := by decide +kernel
theorem dX1_dropAlike_12 : decode cX1_dropAlike 12 = .ok (.iload_n 2, 1) := by decide +kernel
theorem dX1_dropAlike_13 : decode cX1_dropAlike 13 = .ok (.ifCond .eq 15, 3) := by decide +kernel
theorem dX1_dropAlike_16 : decode cX1_dropAlike 16 = .ok (.aload_n 0, 1) := by decide +kernel
theorem dX1_dropAlike_17 : decode cX1_dropAlike 17 = .ok (.iload_n 2, 1) := by decide +kernel
theorem dX1_dropAlike_18 : decode cX1_dropAlike 18 = .ok (.iconst 1, 1) := by decide +kernel
theorem dX1_dropAlike_19 : decode cX1_dropAlike 19 = .ok (.isub, 1) := by decide +kernel
theorem dX1_dropAlike_20 : decode cX1_dropAlike 20 = .ok (.iload_n 3, 1) := by decide +kernel
theorem dX1_dropAlike_21 : decode cX1_dropAlike 21 = .ok (.iload_n 1, 1) := by decide +kernel
theorem dX1_dropAlike_22 : decode cX1_dropAlike 22 = .ok (.invokevirtual 30, 3) := by decide +kernel
theorem dX1_dropAlike_25 : decode cX1_dropAlike 25 = .ok (.ifCond .eq 30, 3) := by decide +kernel
theorem dX1_dropAlike_28 : decode cX1_dropAlike 28 = .ok (.aload_n 0, 1) := by decide +kernel
theorem dX1_dropAlike_29 : decode cX1_dropAlike 29 = .ok (.getfield 9, 3) := by decide +kernel
theorem dX1_dropAlike_32 : decode cX1_dropAlike 32 = .ok (.iload_n 2, 1) := by decide +kernel
theorem dX1_dropAlike_33 : decode cX1_dropAlike 33 = .ok (.aload_n 0, 1) := by decide +kernel
theorem dX1_dropAlike_34 : decode cX1_dropAlike 34 = .ok (.getfield 9, 3) := by decide +kernel
theorem dX1_dropAlike_37 : decode cX1_dropAlike 37 = .ok (.iload_n 3, 1) := by decide +kernel
theorem dX1_dropAlike_38 : decode cX1_dropAlike 38 = .ok (.iaload, 1) := by decide +kernel
theorem dX1_dropAlike_39 : decode cX1_dropAlike 39 = .ok (.iastore, 1) := by decide +kernel
theorem dX1_dropAlike_40 : decode cX1_dropAlike 40 = .ok (.aload_n 0, 1) := by decide +kernel
theorem dX1_dropAlike_41 : decode cX1_dropAlike 41 = .ok (.getfield 13, 3) := by decide +kernel
theorem dX1_dropAlike_44 : decode cX1_dropAlike 44 = .ok (.iload_n 2, 1) := by decide +kernel
theorem dX1_dropAlike_45 : decode cX1_dropAlike 45 = .ok (.aload_n 0, 1) := by decide +kernel
theorem dX1_dropAlike_46 : decode cX1_dropAlike 46 = .ok (.getfield 13, 3) := by decide +kernel
theorem dX1_dropAlike_49 : decode cX1_dropAlike 49 = .ok (.iload_n 3, 1) := by decide +kernel
theorem dX1_dropAlike_50 : decode cX1_dropAlike 50 = .ok (.iaload, 1) := by decide +kernel
theorem dX1_dropAlike_51 : decode cX1_dropAlike 51 = .ok (.iastore, 1) := by decide +kernel
theorem dX1_dropAlike_52 : decode cX1_dropAlike 52 = .ok (.iinc 2 1, 3) := by decide +kernel
theorem dX1_dropAlike_55 : decode cX1_dropAlike 55 = .ok (.iinc 3 1, 3) := by decide +kernel
theorem dX1_dropAlike_58 : decode cX1_dropAlike 58 = .ok (.goto (-54), 3) := by decide +kernel
theorem dX1_dropAlike_61 : decode cX1_dropAlike 61 = .ok (.aload_n 0, 1) := by decide +kernel
theorem dX1_dropAlike_62 : decode cX1_dropAlike 62 = .ok (.iload_n 2, 1) := by decide +kernel
theorem dX1_dropAlike_63 : decode cX1_dropAlike 63 = .ok (.putfield 16, 3) := by decide +kernel
theorem dX1_dropAlike_66 : decode cX1_dropAlike 66 = .ok (.return_, 1) := by decide +kernel
set_option maxRecDepth 20000 in
theorem ggX1_swapBlocks_X1_reverse : GoodIn wsX1_swapBlocks wsX1_reverse := goodIn_r _ [5, 6, 7, 8, 4, 9, 10, 11, 12, 13, 14, 15, 16, 17] (by decide +kernel) (by decide +kernel)
set_option maxRecDepth 20000 in
theorem gX1_swapBlocks_X1_reverse : GoodIn wsX1_swapBlocks (wsV RX1 64 RX1 yX1_reverse wsX1_reverse) := goodIn_app (goodIn_of _ (by decide +kernel)) ggX1_swapBlocks_X1_reverse
theorem dX1_swapBlocks_0 : decode cX1_swapBlocks 0 = .ok (.iload_n 1, 1) := by decide +kernel
theorem dX1_swapBlocks_1 : decode cX1_swapBlocks 1 = .ok (.iload_n 2, 1) := by decide +kernel
theorem dX1_swapBlocks_2 : decode cX1_swapBlocks 2 = .ok (.if_icmp .ge 8, 3) := by decide +kernel
theorem dX1_swapBlocks_5 : decode cX1_swapBlocks 5 = .ok (.iload_n 2, 1) := by decide +kernel
theorem dX1_swapBlocks_6 : decode cX1_swapBlocks 6 = .ok (.iload_n 3, 1) := by decide +kernel
theorem dX1_swapBlocks_7 : decode cX1_swapBlocks 7 = .ok (.if_icmp .lt 4, 3) := by decide +kernel
theorem dX1_swapBlocks_10 : decode cX1_swapBlocks 10 = .ok (.return_, 1) := by decide +kernel
theorem dX1_swapBlocks_11 : decode cX1_swapBlocks 11 = .ok (.aload_n 0, 1) := by decide +kernel
theorem dX1_swapBlocks_12 : decode cX1_swapBlocks 12 = .ok (.iload_n 1, 1) := by decide +kernel
theorem dX1_swapBlocks_13 : decode cX1_swapBlocks 13 = .ok (.iload_n 2, 1) := by decide +kernel
theorem dX1_swapBlocks_14 : decode cX1_swapBlocks 14 = .ok (.invokevirtual 64, 3) := by decide +kernel
theorem dX1_swapBlocks_17 : decode cX1_swapBlocks 17 = .ok (.aload_n 0, 1) := by decide +kernel
theorem dX1_swapBlocks_18 : decode cX1_swapBlocks 18 = .ok (.iload_n 2, 1) := by decide +kernel
theorem dX1_swapBlocks_19 : decode cX1_swapBlocks 19 = .ok (.iload_n 3, 1) := by decide +kernel
theorem dX1_swapBlocks_20 : decode cX1_swapBlocks 20 = .ok (.invokevirtual 64, 3) := by decide +kernel
theorem dX1_swapBlocks_23 : decode cX1_swapBlocks 23 = .ok (.aload_n 0, 1) := by decide +kernel
theorem dX1_swapBlocks_24 : decode cX1_swapBlocks 24 = .ok (.iload_n 1, 1) := by decide +kernel
theorem dX1_swapBlocks_25 : decode cX1_swapBlocks 25 = .ok (.iload_n 3, 1) := by decide +kernel
theorem dX1_swapBlocks_26 : decode cX1_swapBlocks 26 = .ok (.invokevirtual 64, 3) := by decide +kernel
theorem dX1_swapBlocks_29 : decode cX1_swapBlocks 29 = .ok (.return_, 1) := by decide +kernel
set_option maxRecDepth 20000 in
theorem ggX1_reverse_X1_swapPairs : GoodIn wsX1_reverse wsX1_swapPairs := goodIn_r _ [5, 6, 7, 8, 9, 10, 11, 12, 13] (by decide +kernel) (by decide +kernel)
set_option maxRecDepth 20000 in
theorem gX1_reverse_X1_swapPairs : GoodIn wsX1_reverse (wsV RX1 68 RX1 yX1_swapPairs wsX1_swapPairs) := goodIn_app (goodIn_of _ (by decide +kernel)) ggX1_reverse_X1_swapPairs
theorem dX1_reverse_0 : decode cX1_reverse 0 = .ok (.iload_n 1, 1) := by decide +kernel
theorem dX1_reverse_1 : decode cX1_reverse 1 = .ok (.istore_n 3, 1) := by decide +kernel
theorem dX1_reverse_2 : decode cX1_reverse 2 = .ok (.iload_n 2, 1) := by decide +kernel
theorem dX1_reverse_3 : decode cX1_reverse 3 = .ok (.iconst 1, 1) := by decide +kernel
theorem dX1_reverse_4 : decode cX1_reverse 4 = .ok (.isub, 1) := by decide +kernel
theorem dX1_reverse_5 : decode cX1_reverse 5 = .ok (.istore 4, 2) := by decide +kernel
theorem dX1_reverse_7 : decode cX1_reverse 7 = .ok (.iload_n 3, 1) := by decide +kernel
theorem dX1_reverse_8 : decode cX1_reverse 8 = .ok (.iload 4, 2) := by decide +kernel
theorem dX1_reverse_10 : decode cX1_reverse 10 = .ok (.if_icmp .ge 19, 3) := by decide +kernel
theorem dX1_reverse_13 : decode cX1_reverse 13 = .ok (.aload_n 0, 1) := by decide +kernel
theorem dX1_reverse_14 : decode cX1_reverse 14 = .ok (.iload_n 3, 1) := by decide +kernel
theorem dX1_reverse_15 : decode cX1_reverse 15 = .ok (.iload 4, 2) := by decide +kernel
theorem dX1_reverse_17 : decode cX1_reverse 17 = .ok (.invokevirtual 68, 3) := by decide +kernel
theorem dX1_reverse_20 : decode cX1_reverse 20 = .ok (.iinc 3 1, 3) := by decide +kernel
theorem dX1_reverse_23 : decode cX1_reverse 23 = .ok (.iinc 4 (-1), 3) := by decide +kernel
theorem dX1_reverse_26 : decode cX1_reverse 26 = .ok (.goto (-19), 3) := by decide +kernel
theorem dX1_reverse_29 : decode cX1_reverse 29 = .ok (.return_, 1) := by decide +kernel
theorem dX1_swapPairs_0 : decode cX1_swapPairs 0 = .ok (.aload_n 0, 1) := by decide +kernel
theorem dX1_swapPairs_1 : decode cX1_swapPairs 1 = .ok (.getfield 9, 3) := by decide +kernel
theorem dX1_swapPairs_4 : decode cX1_swapPairs 4 = .ok (.iload_n 1, 1) := by decide +kernel
theorem dX1_swapPairs_5 : decode cX1_swapPairs 5 = .ok (.iaload, 1) := by decide +kernel
theorem dX1_swapPairs_6 : decode cX1_swapPairs 6 = .ok (.istore_n 3, 1) := by decide +kernel
theorem dX1_swapPairs_7 : decode cX1_swapPairs 7 = .ok (.aload_n 0, 1) := by decide +kernel
theorem dX1_swapPairs_8 : decode cX1_swapPairs 8 = .ok (.getfield 9, 3) := by decide +kernel
theorem dX1_swapPairs_11 : decode cX1_swapPairs 11 = .ok (.iload_n 1, 1) := by decide +kernel
theorem dX1_swapPairs_12 : decode cX1_swapPairs 12 = .ok (.aload_n 0, 1) := by decide +kernel
theorem dX1_swapPairs_13 : decode cX1_swapPairs 13 = .ok (.getfield 9, 3) := by decide +kernel
theorem dX1_swapPairs_16 : decode cX1_swapPairs 16 = .ok (.iload_n 2, 1) := by decide +kernel
theorem dX1_swapPairs_17 : decode cX1_swapPairs 17 = .ok (.iaload, 1) := by decide +kernel
theorem dX1_swapPairs_18 : decode cX1_swapPairs 18 = .ok (.iastore, 1) := by decide +kernel
theorem dX1_swapPairs_19 : decode cX1_swapPairs 19 = .ok (.aload_n 0, 1) := by decide +kernel
theorem dX1_swapPairs_20 : decode cX1_swapPairs 20 = .ok (.getfield 9, 3) := by decide +kernel
theorem dX1_swapPairs_23 : decode cX1_swapPairs 23 = .ok (.iload_n 2, 1) := by decide +kernel
theorem dX1_swapPairs_24 : decode cX1_swapPairs 24 = .ok (.iload_n 3, 1) := by decide +kernel
theorem dX1_swapPairs_25 : decode cX1_swapPairs 25 = .ok (.iastore, 1) := by decide +kernel
theorem dX1_swapPairs_26 : decode cX1_swapPairs 26 = .ok (.aload_n 0, 1) := by decide +kernel
theorem dX1_swapPairs_27 : decode cX1_swapPairs 27 = .ok (.dup, 1) := by decide +kernel
theorem dX1_swapPairs_28 : decode cX1_swapPairs 28 = .ok (.getfield 27, 3) := by decide +kernel
theorem dX1_swapPairs_31 : decode cX1_swapPairs 31 = .ok (.iconst 2, 1) := by decide +kernel
theorem dX1_swapPairs_32 : decode cX1_swapPairs 32 = .ok (.iadd, 1) := by decide +kernel
theorem dX1_swapPairs_33 : decode cX1_swapPairs 33 = .ok (.putfield 27, 3) := by decide +kernel
theorem dX1_swapPairs_36 : decode cX1_swapPairs 36 = .ok (.aload_n 0, 1) := by decide +kernel
theorem dX1_swapPairs_37 : decode cX1_swapPairs 37 = .ok (.getfield 13, 3) := by decide +kernel
theorem dX1_swapPairs_40 : decode cX1_swapPairs 40 = .ok (.iload_n 1, 1) := by decide +kernel
theorem dX1_swapPairs_41 : decode cX1_swapPairs 41 = .ok (.iaload, 1) := by decide +kernel
theorem dX1_swapPairs_42 : decode cX1_swapPairs 42 = .ok (.istore 4, 2) := by decide +kernel
theorem dX1_swapPairs_44 : decode cX1_swapPairs 44 = .ok (.aload_n 0, 1) := by decide +kernel
theorem dX1_swapPairs_45 : decode cX1_swapPairs 45 = .ok (.getfield 13, 3) := by decide +kernel
theorem dX1_swapPairs_48 : decode cX1_swapPairs 48 = .ok (.iload_n 1, 1) := by decide +kernel
theorem dX1_swapPairs_49 : decode cX1_swapPairs 49 = .ok (.aload_n 0, 1) := by decide +kernel
theorem dX1_swapPairs_50 : decode cX1_swapPairs 50 = .ok (.getfield 13, 3) := by decide +kernel
theorem dX1_swapPairs_53 : decode cX1_swapPairs 53 = .ok (.iload_n 2, 1) := by decide +kernel
theorem dX1_swapPairs_54 : decode cX1_swapPairs 54 = .ok (.iaload, 1) := by decide +kernel
theorem dX1_swapPairs_55 : decode cX1_swapPairs 55 = .ok (.iastore, 1) := by decide +kernel
theorem dX1_swapPairs_56 : decode cX1_swapPairs 56 = .ok (.aload_n 0, 1) := by decide +kernel
theorem dX1_swapPairs_57 : decode cX1_swapPairs 57 = .ok (.getfield 13, 3) := by decide +kernel
theorem dX1_swapPairs_60 : decode cX1_swapPairs 60 = .ok (.iload_n 2, 1) := by decide +kernel
theorem dX1_swapPairs_61 : decode cX1_swapPairs 61 = .ok (.iload 4, 2) := by decide +kernel
theorem dX1_swapPairs_63 : decode cX1_swapPairs 63 = .ok (.iastore, 1) := by decide +kernel
theorem dX1_swapPairs_64 : decode cX1_swapPairs 64 = .ok (.return_, 1) := by decide +kernel
set_option maxRecDepth 20000 in
theorem ggX1_lessAt_X0_isLess : GoodIn wsX1_lessAt wsX0_isLess := goodIn_r _ [6, 7] (by decide +kernel) (by decide +kernel)
set_option maxRecDepth 20000 in
theorem gX1_lessAt_X0_isLess : GoodIn wsX1_lessAt (va_wsS RX1 34 yX0_isLess wsX0_isLess) := goodIn_app (goodIn_of _ (by decide +kernel)) ggX1_lessAt_X0_isLess
theorem dX1_lessAt_0 : decode cX1_lessAt 0 = .ok (.aload_n 0, 1) := by decide +kernel
theorem dX1_lessAt_1 : decode cX1_lessAt 1 = .ok (.dup, 1) := by decide +kernel
theorem dX1_lessAt_2 : decode cX1_lessAt 2 = .ok (.getfield 24, 3) := by decide +kernel
theorem dX1_lessAt_5 : decode cX1_lessAt 5 = .ok (.iconst 1, 1) := by decide +kernel
theorem dX1_lessAt_6 : decode cX1_lessAt 6 = .ok (.iadd, 1) := by decide +kernel
theorem dX1_lessAt_7 : decode cX1_lessAt 7 = .ok (.putfield 24, 3) := by decide +kernel
theorem dX1_lessAt_10 : decode cX1_lessAt 10 = .ok (.aload_n 0, 1) := by decide +kernel
theorem dX1_lessAt_11 : decode cX1_lessAt 11 = .ok (.getfield 9, 3) := by decide +kernel
theorem dX1_lessAt_14 : decode cX1_lessAt 14 = .ok (.iload_n 1, 1) := by decide +kernel
theorem dX1_lessAt_15 : decode cX1_lessAt 15 = .ok (.iaload, 1) := by decide +kernel
theorem dX1_lessAt_16 : decode cX1_lessAt 16 = .ok (.aload_n 0, 1) := by decide +kernel
theorem dX1_lessAt_17 : decode cX1_lessAt 17 = .ok (.getfield 9, 3) := by decide +kernel
theorem dX1_lessAt_20 : decode cX1_lessAt 20 = .ok (.iload_n 2, 1) := by decide +kernel
theorem dX1_lessAt_21 : decode cX1_lessAt 21 = .ok (.iaload, 1) := by decide +kernel
theorem dX1_lessAt_22 : decode cX1_lessAt 22 = .ok (.iload_n 3, 1) := by decide +kernel
theorem dX1_lessAt_23 : decode cX1_lessAt 23 = .ok (.invokestatic 34, 3) := by decide +kernel
theorem dX1_lessAt_26 : decode cX1_lessAt 26 = .ok (.ireturn, 1) := by decide +kernel
set_option maxRecDepth 20000 in
theorem ggX2_init_X1_init : GoodIn wsX2_init wsX1_init := goodIn_r _ [9, 10, 2, 3, 11, 12, 13, 14, 15, 16, 17, 18] (by decide +kernel) (by decide +kernel)
set_option maxRecDepth 20000 in
theorem gX2_init_X1_init_n9 : GoodIn wsX2_init (wsX1_init) := ggX2_init_X1_init
end
section
theorem dX2_init_0 : decode cX2_init 0 = .ok (.aload_n 0, 1) := by decide +kernel
theorem dX2_init_1 : decode cX2_init 1 = .ok (.invokespecial 1, 3) := by decide +kernel
theorem dX2_init_4 : decode cX2_init 4 = .ok (.aload_n 0, 1) := by decide +kernel
theorem dX2_init_5 : decode cX2_init 5 = .ok (.new 7, 3) := by decide +kernel
theorem dX2_init_8 : decode cX2_init 8 = .ok (.dup, 1) := by decide +kernel
theorem dX2_init_9 : decode cX2_init 9 = .ok (.invokespecial 9, 3) := by decide +kernel
theorem dX2_init_12 : decode cX2_init 12 = .ok (.putfield 10, 3) := by decide +kernel
theorem dX2_init_15 : decode cX2_init 15 = .ok (.return_, 1) := by decide +kernel
set_option maxRecDepth 20000 in
theorem ggX2_put_X1_hasRoomFor : GoodIn wsX2_put wsX1_hasRoomFor := goodIn_r _ [7, 8, 19, 20, 21, 22, 23] (by decide +kernel) (by decide +kernel)
set_option maxRecDepth 20000 in
theorem gX2_put_X1_hasRoomFor : GoodIn wsX2_put (wsV RX2 16 RX1 yX1_hasRoomFor wsX1_hasRoomFor) := goodIn_app (goodIn_of _ (by decide +kernel)) ggX2_put_X1_hasRoomFor
set_option maxRecDepth 20000 in
theorem ggX2_put_X1_append : GoodIn wsX2_put wsX1_append := goodIn_r _ [12, 13, 8, 14, 19, 20, 21, 22, 23] (by decide +kernel) (by decide +kernel)
set_option maxRecDepth 20000 in
theorem gX2_put_X1_append : GoodIn wsX2_put (wsV RX2 20 RX1 yX1_append wsX1_append) := goodIn_app (goodIn_of _ (by decide +kernel)) ggX2_put_X1_append
theorem dX2_put_0 : decode cX2_put 0 = .ok (.aload_n 0, 1) := by decide +kernel
theorem dX2_put_1 : decode cX2_put 1 = .ok (.getfield 10, 3) := by decide +kernel
theorem dX2_put_4 : decode cX2_put 4 = .ok (.iconst 1, 1) := by decide +kernel
theorem dX2_put_5 : decode cX2_put 5 = .ok (.invokevirtual 16, 3) := by decide +kernel
theorem dX2_put_8 : decode cX2_put 8 = .ok (.ifCond .ne 5, 3) := by decide +kernel
theorem dX2_put_11 : decode cX2_put 11 = .ok (.iconst (-1), 1) := by decide +kernel
theorem dX2_put_12 : decode cX2_put 12 = .ok (.ireturn, 1) := by decide +kernel
theorem dX2_put_13 : decode cX2_put 13 = .ok (.aload_n 0, 1) := by decide +kernel
theorem dX2_put_14 : decode cX2_put 14 = .ok (.getfield 10, 3) := by decide +kernel
theorem dX2_put_17 : decode cX2_put 17 = .ok (.iload_n 1, 1) := by decide +kernel
theorem dX2_put_18 : decode cX2_put 18 = .ok (.iload_n 2, 1) := by decide +kernel
theorem dX2_put_19 : decode cX2_put 19 = .ok (.invokevirtual 20, 3) := by decide +kernel
theorem dX2_put_22 : decode cX2_put 22 = .ok (.aload_n 0, 1) := by decide +kernel
theorem dX2_put_23 : decode cX2_put 23 = .ok (.getfield 10, 3) := by decide +kernel
theorem dX2_put_26 : decode cX2_put 26 = .ok (.getfield 24, 3) := by decide +kernel
theorem dX2_put_29 : decode cX2_put 29 = .ok (.ireturn, 1) := by decide +kernel
set_option maxRecDepth 20000 in
theorem ggX2_run_X1_hasRoomFor : GoodIn wsX2_run wsX1_hasRoomFor := goodIn_r _ [7, 8, 19, 20, 21, 22, 23] (by decide +kernel) (by decide +kernel)
set_option maxRecDepth 20000 in
theorem gX2_run_X1_hasRoomFor : GoodIn wsX2_run (wsV RX2 16 RX1 yX1_hasRoomFor wsX1_hasRoomFor) := goodIn_app (goodIn_of _ (by decide +kernel)) ggX2_run_X1_hasRoomFor
set_option maxRecDepth 20000 in
theorem ggX2_run_X1_append : GoodIn wsX2_run wsX1_append := goodIn_r _ [12, 13, 8, 14, 19, 20, 21, 22, 23] (by decide +kernel) (by decide +kernel)
set_option maxRecDepth 20000 in
theorem gX2_run_X1_append : GoodIn wsX2_run (wsV RX2 20 RX1 yX1_append wsX1_append) := goodIn_app (goodIn_of _ (by decide +kernel)) ggX2_run_X1_append
theorem dX2_run_0 : decode cX2_run 0 = .ok (.iload_n 1, 1) := by decide +kernel
theorem dX2_run_1 : decode cX2_run 1 = .ok (.iconst 1, 1) := by decide +kernel
theorem dX2_run_2 : decode cX2_run 2 = .ok (.if_icmp .lt 14, 3) := by decide +kernel
theorem dX2_run_5 : decode cX2_run 5 = .ok (.aload_n 0, 1) := by decide +kernel
theorem dX2_run_6 : decode cX2_run 6 = .ok (.getfield 10, 3) := by decide +kernel
theorem dX2_run_9 : decode cX2_run 9 = .ok (.iload_n 1, 1) := by decide +kernel
theorem dX2_run_10 : decode cX2_run 10 = .ok (.invokevirtual 16, 3) := by decide +kernel
theorem dX2_run_13 : decode cX2_run 13 = .ok (.ifCond .ne 5, 3) := by decide +kernel
theorem dX2_run_16 : decode cX2_run 16 = .ok (.iconst (-1), 1) := by decide +kernel
theorem dX2_run_17 : decode cX2_run 17 = .ok (.ireturn, 1) := by decide +kernel
theorem dX2_run_18 : decode cX2_run 18 = .ok (.iconst 0, 1) := by decide +kernel
theorem dX2_run_19 : decode cX2_run 19 = .ok (.istore 5, 2) := by decide +kernel
theorem dX2_run_21 : decode cX2_run 21 = .ok (.iload 5, 2) := by decide +kernel
theorem dX2_run_23 : decode cX2_run 23 = .ok (.iload_n 1, 1) := by decide +kernel
theorem dX2_run_24 : decode cX2_run 24 = .ok (.if_icmp .ge 27, 3) := by decide +kernel
theorem dX2_run_27 : decode cX2_run 27 = .ok (.aload_n 0, 1) := by decide +kernel
theorem dX2_run_28 : decode cX2_run 28 = .ok (.getfield 10, 3) := by decide +kernel
theorem dX2_run_31 : decode cX2_run 31 = .ok (.iload_n 2, 1) := by decide +kernel
theorem dX2_run_32 : decode cX2_run 32 = .ok (.iload 5, 2) := by decide +kernel
theorem dX2_run_34 : decode cX2_run 34 = .ok (.iload_n 3, 1) := by decide +kernel
theorem dX2_run_35 : decode cX2_run 35 = .ok (.imul, 1) := by decide +kernel
theorem dX2_run_36 : decode cX2_run 36 = .ok (.iadd, 1) := by decide +kernel
theorem dX2_run_37 : decode cX2_run 37 = .ok (.iload 4, 2) := by decide +kernel
theorem dX2_run_39 : decode cX2_run 39 = .ok (.iload 5, 2) := by decide +kernel
theorem dX2_run_41 : decode cX2_run 41 = .ok (.iadd, 1) := by decide +kernel
theorem dX2_run_42 : decode cX2_run 42 = .ok (.invokevirtual 20, 3) := by decide +kernel
theorem dX2_run_45 : decode cX2_run 45 = .ok (.iinc 5 1, 3) := by decide +kernel
theorem dX2_run_48 : decode cX2_run 48 = .ok (.goto (-27), 3) := by decide +kernel
theorem dX2_run_51 : decode cX2_run 51 = .ok (.aload_n 0, 1) := by decide +kernel
theorem dX2_run_52 : decode cX2_run 52 = .ok (.getfield 10, 3) := by decide +kernel
theorem dX2_run_55 : decode cX2_run 55 = .ok (.getfield 24, 3) := by decide +kernel
theorem dX2_run_58 : decode cX2_run 58 = .ok (.ireturn, 1) := by decide +kernel
theorem dX2_clear_0 : decode cX2_clear 0 = .ok (.aload_n 0, 1) := by decide +kernel
theorem dX2_clear_1 : decode cX2_clear 1 = .ok (.getfield 10, 3) := by decide +kernel
theorem dX2_clear_4 : decode cX2_clear 4 = .ok (.getfield 24, 3) := by decide +kernel
theorem dX2_clear_7 : decode cX2_clear 7 = .ok (.istore_n 1, 1) := by decide +kernel
theorem dX2_clear_8 : decode cX2_clear 8 = .ok (.aload_n 0, 1) := by decide +kernel
theorem dX2_clear_9 : decode cX2_clear 9 = .ok (.getfield 10, 3) := by decide +kernel
theorem dX2_clear_12 : decode cX2_clear 12 = .ok (.iconst 0, 1) := by decide +kernel
theorem dX2_clear_13 : decode cX2_clear 13 = .ok (.putfield 24, 3) := by decide +kernel
theorem dX2_clear_16 : decode cX2_clear 16 = .ok (.iload_n 1, 1) := by decide +kernel
theorem dX2_clear_17 : decode cX2_clear 17 = .ok (.ireturn, 1) := by decide +kernel
set_option maxRecDepth 20000 in
theorem ggX2_sort_X2_sortPart : GoodIn wsX2_sort wsX2_sortPart := goodIn_r _ [7, 1, 8, 9, 10, 11, 12, 13, 14, 15, 16, 17, 18, 19, 20, 21, 22, 23, 24, 25, 26, 27, 28, 29, 30, 31, 32, 33, 34, 35, 36, 37, 38, 39, 40, 41, 42, 43, 44, 45, 46, 47, 48, 49, 50, 51, 52, 53, 54, 55, 56, 57, 58, 59, 60, 61, 62, 63, 6, 64, 65, 66, 67, 68, 69, 70, 71, 72, 73, 74, 75, 76, 77, 78] (by decide +kernel) (by decide +kernel)
set_option maxRecDepth 20000 in
theorem gX2_sort_X2_sortPart : GoodIn wsX2_sort (wsV RX2 28 RX2 yX2_sortPart wsX2_sortPart) := goodIn_app (goodIn_of _ (by decide +kernel)) ggX2_sort_X2_sortPart
theorem dX2_sort_0 : decode cX2_sort 0 = .ok (.aload_n 0, 1) := by decide +kernel
theorem dX2_sort_1 : decode cX2_sort 1 = .ok (.iconst 0, 1) := by decide +kernel
theorem dX2_sort_2 : decode cX2_sort 2 = .ok (.aload_n 0, 1) := by decide +kernel
theorem dX2_sort_3 : decode cX2_sort 3 = .ok (.getfield 10, 3) := by decide +kernel
theorem dX2_sort_6 : decode cX2_sort 6 = .ok (.getfield 24, 3) := by decide +kernel
theorem dX2_sort_9 : decode cX2_sort 9 = .ok (.iload_n 1, 1) := by decide +kernel
theorem dX2_sort_10 : decode cX2_sort 10 = .ok (.invokevirtual 28, 3) := by decide +kernel
theorem dX2_sort_13 : decode cX2_sort 13 = .ok (.ireturn, 1) := by decide +kernel
set_option maxRecDepth 20000 in
theorem ggX2_sortPart_X0_exists : GoodIn wsX2_sortPart wsX0_exists := goodIn_r _ [5] (by decide +kernel) (by decide +kernel)
set_option maxRecDepth 20000 in
theorem gX2_sortPart_X0_exists : GoodIn wsX2_sortPart (va_wsS RX2 32 yX0_exists wsX0_exists) := goodIn_app (goodIn_of _ (by decide +kernel)) ggX2_sortPart_X0_exists
set_option maxRecDepth 20000 in
theorem ggX2_sortPart_X1_hasStretch : GoodIn wsX2_sortPart wsX1_hasStretch := goodIn_r _ [10, 11, 69, 70, 71, 72, 73] (by decide +kernel) (by decide +kernel)
set_option maxRecDepth 20000 in
theorem gX2_sortPart_X1_hasStretch : GoodIn wsX2_sortPart (wsV RX2 37 RX1 yX1_hasStretch wsX1_hasStretch) := goodIn_app (goodIn_of _ (by decide +kernel)) ggX2_sortPart_X1_hasStretch
set_option maxRecDepth 20000 in
theorem ggX2_sortPart_X1_startCounting : GoodIn wsX2_sortPart wsX1_startCounting := goodIn_r _ [15, 16, 17, 69, 70, 71, 72, 73] (by decide +kernel) (by decide +kernel)
set_option maxRecDepth 20000 in
theorem gX2_sortPart_X1_startCounting : GoodIn wsX2_sortPart (wsV RX2 41 RX1 yX1_startCounting wsX1_startCounting) := goodIn_app (goodIn_of _ (by decide +kernel)) ggX2_sortPart_X1_startCounting
set_option maxRecDepth 20000 in
theorem ggX2_sortPart_X1_sortInPlace : GoodIn wsX2_sortPart wsX1_sortInPlace := goodIn_r _ [21, 22, 23, 24, 25, 26, 27, 9, 28, 29, 30, 31, 32, 33, 34, 35, 36, 16, 37, 38, 39, 4, 40, 41, 42, 43, 44, 45, 46, 47, 48, 49, 50, 51, 52, 53, 17, 54, 69, 70, 71, 72, 73] (by decide +kernel) (by decide +kernel)
set_option maxRecDepth 20000 in
theorem gX2_sortPart_X1_sortInPlace : GoodIn wsX2_sortPart (wsV RX2 44 RX1 yX1_sortInPlace wsX1_sortInPlace) := goodIn_app (goodIn_of _ (by decide +kernel)) ggX2_sortPart_X1_sortInPlace
set_option maxRecDepth 20000 in
theorem ggX2_sortPart_X2_keepCounts : GoodIn wsX2_sortPart wsX2_keepCounts := goodIn_r _ [59, 60, 1, 61, 62, 63, 64, 65, 66, 67, 68, 69, 70, 71, 72, 73] (by decide +kernel) (by decide +kernel)
set_option maxRecDepth 20000 in
theorem gX2_sortPart_X2_keepCounts : GoodIn wsX2_sortPart (wsV RX2 48 RX2 yX2_keepCounts wsX2_keepCounts) := goodIn_app (goodIn_of _ (by decide +kernel)) ggX2_sortPart_X2_keepCounts
theorem dX2_sortPart_0 : decode cX2_sortPart 0 = .ok (.iload_n 3, 1) := by decide +kernel
theorem dX2_sortPart_1 : decode cX2_sortPart 1 = .ok (.invokestatic 32, 3) := by decide +kernel
theorem dX2_sortPart_4 : decode cX2_sortPart 4 = .ok (.ifCond .eq 15, 3) := by decide +kernel
theorem dX2_sortPart_7 : decode cX2_sortPart 7 = .ok (.aload_n 0, 1) := by decide +kernel
theorem dX2_sortPart_8 : decode cX2_sortPart 8 = .ok (.getfield 10, 3) := by decide +kernel
theorem dX2_sortPart_11 : decode cX2_sortPart 11 = .ok (.iload_n 1, 1) := by decide +kernel
theorem dX2_sortPart_12 : decode cX2_sortPart 12 = .ok (.iload_n 2, 1) := by decide +kernel
theorem dX2_sortPart_13 : decode cX2_sortPart 13 = .ok (.invokevirtual 37, 3) := by decide +kernel
theorem dX2_sortPart_16 : decode cX2_sortPart 16 = .ok (.ifCond .ne 5, 3) := by decide +kernel
theorem dX2_sortPart_19 : decode cX2_sortPart 19 = .ok (.iconst 0, 1) := by decide +kernel
theorem dX2_sortPart_20 : decode cX2_sortPart 20 = .ok (.ireturn, 1) := by decide +kernel
theorem dX2_sortPart_21 : decode cX2_sortPart 21 = .ok (.aload_n 0, 1) := by decide +kernel
theorem dX2_sortPart_22 : decode cX2_sortPart 22 = .ok (.getfield 10, 3) := by decide +kernel
theorem dX2_sortPart_25 : decode cX2_sortPart 25 = .ok (.invokevirtual 41, 3) := by decide +kernel
theorem dX2_sortPart_28 : decode cX2_sortPart 28 = .ok (.aload_n 0, 1) := by decide +kernel
theorem dX2_sortPart_29 : decode cX2_sortPart 29 = .ok (.getfield 10, 3) := by decide +kernel
theorem dX2_sortPart_32 : decode cX2_sortPart 32 = .ok (.iload_n 1, 1) := by decide +kernel
theorem dX2_sortPart_33 : decode cX2_sortPart 33 = .ok (.iload_n 2, 1) := by decide +kernel
theorem dX2_sortPart_34 : decode cX2_sortPart 34 = .ok (.iload_n 3, 1) := by decide +kernel
theorem dX2_sortPart_35 : decode cX2_sortPart 35 = .ok (.invokevirtual 44, 3) := by decide +kernel
theorem dX2_sortPart_38 : decode cX2_sortPart 38 = .ok (.aload_n 0, 1) := by decide +kernel
theorem dX2_sortPart_39 : decode cX2_sortPart 39 = .ok (.iload_n 2, 1) := by decide +kernel
theorem dX2_sortPart_40 : decode cX2_sortPart 40 = .ok (.iload_n 1, 1) := by decide +kernel
theorem dX2_sortPart_41 : decode cX2_sortPart 41 = .ok (.isub, 1) := by decide +kernel
theorem dX2_sortPart_42 : decode cX2_sortPart 42 = .ok (.invokevirtual 48, 3) := by decide +kernel
theorem dX2_sortPart_45 : decode cX2_sortPart 45 = .ok (.iconst 1, 1) := by decide +kernel
theorem dX2_sortPart_46 : decode cX2_sortPart 46 = .ok (.ireturn, 1) := by decide +kernel
set_option maxRecDepth 20000 in
theorem ggX2_merge_X0_exists : GoodIn wsX2_merge wsX0_exists := goodIn_r _ [5] (by decide +kernel) (by decide +kernel)
set_option maxRecDepth 20000 in
theorem gX2_merge_X0_exists : GoodIn wsX2_merge (va_wsS RX2 32 yX0_exists wsX0_exists) := goodIn_app (goodIn_of _ (by decide +kernel)) ggX2_merge_X0_exists
set_option maxRecDepth 20000 in
theorem ggX2_merge_X1_hasStretches : GoodIn wsX2_merge wsX1_hasStretches := goodIn_r _ [10, 11, 12, 13, 9, 14, 15, 69, 70, 71, 72, 73] (by decide +kernel) (by decide +kernel)
set_option maxRecDepth 20000 in
theorem gX2_merge_X1_hasStretches : GoodIn wsX2_merge (wsV RX2 52 RX1 yX1_hasStretches wsX1_hasStretches) := goodIn_app (goodIn_of _ (by decide +kernel)) ggX2_merge_X1_hasStretches
set_option maxRecDepth 20000 in
theorem ggX2_merge_X1_startCounting : GoodIn wsX2_merge wsX1_startCounting := goodIn_r _ [19, 20, 21, 69, 70, 71, 72, 73] (by decide +kernel) (by decide +kernel)
set_option maxRecDepth 20000 in
theorem gX2_merge_X1_startCounting : GoodIn wsX2_merge (wsV RX2 41 RX1 yX1_startCounting wsX1_startCounting) := goodIn_app (goodIn_of _ (by decide +kernel)) ggX2_merge_X1_startCounting
set_option maxRecDepth 20000 in
theorem ggX2_merge_X1_inOrder : GoodIn wsX2_merge wsX1_inOrder := goodIn_r _ [25, 26, 27, 28, 9, 29, 20, 30, 31, 32, 4, 33, 34, 69, 70, 71, 72, 73] (by decide +kernel) (by decide +kernel)
set_option maxRecDepth 20000 in
theorem gX2_merge_X1_inOrder : GoodIn wsX2_merge (wsV RX2 56 RX1 yX1_inOrder wsX1_inOrder) := goodIn_app (goodIn_of _ (by decide +kernel)) ggX2_merge_X1_inOrder
set_option maxRecDepth 20000 in
theorem ggX2_merge_X1_mergeInPlace : GoodIn wsX2_merge wsX1_mergeInPlace := goodIn_r _ [36, 37, 38, 39, 9, 40, 26, 27, 28, 29, 20, 30, 31, 32, 4, 33, 34, 41, 42, 43, 44, 45, 46, 47, 48, 49, 50, 51, 52, 21, 53, 54, 35, 69, 70, 71, 72, 73] (by decide +kernel) (by decide +kernel)
set_option maxRecDepth 20000 in
theorem gX2_merge_X1_mergeInPlace_n59 : GoodIn wsX2_merge (wsX1_mergeInPlace) := ggX2_merge_X1_mergeInPlace
set_option maxRecDepth 20000 in
theorem ggX2_merge_X2_keepCounts : GoodIn wsX2_merge wsX2_keepCounts := goodIn_r _ [59, 60, 1, 61, 62, 63, 64, 65, 66, 67, 68, 69, 70, 71, 72, 73] (by decide +kernel) (by decide +kernel)
set_option maxRecDepth 20000 in
theorem gX2_merge_X2_keepCounts : GoodIn wsX2_merge (wsV RX2 48 RX2 yX2_keepCounts wsX2_keepCounts) := goodIn_app (goodIn_of _ (by decide +kernel)) ggX2_merge_X2_keepCounts
theorem dX2_merge_0 : decode cX2_merge 0 = .ok (.iload 4, 2) := by decide +kernel
theorem dX2_merge_2 : decode cX2_merge 2 = .ok (.invokestatic 32, 3) := by decide +kernel
theorem dX2_merge_5 : decode cX2_merge 5 = .ok (.ifCond .eq 16, 3) := by decide +kernel
theorem dX2_merge_8 : decode cX2_merge 8 = .ok (.aload_n 0, 1) := by decide +kernel
theorem dX2_merge_9 : decode cX2_merge 9 = .ok (.getfield 10, 3) := by decide +kernel
theorem dX2_merge_12 : decode cX2_merge 12 = .ok (.iload_n 1, 1) := by decide +kernel
theorem dX2_merge_13 : decode cX2_merge 13 = .ok (.iload_n 2, 1) := by decide +kernel
theorem dX2_merge_14 : decode cX2_merge 14 = .ok (.iload_n 3, 1) := by decide +kernel
theorem dX2_merge_15 : decode cX2_merge 15 = .ok (.invokevirtual 52, 3) := by decide +kernel
theorem dX2_merge_18 : decode cX2_merge 18 = .ok (.ifCond .ne 5, 3) := by decide +kernel
theorem dX2_merge_21 : decode cX2_merge 21 = .ok (.iconst 0, 1) := by decide +kernel
theorem dX2_merge_22 : decode cX2_merge 22 = .ok (.ireturn, 1) := by decide +kernel
theorem dX2_merge_23 : decode cX2_merge 23 = .ok (.aload_n 0, 1) := by decide +kernel
theorem dX2_merge_24 : decode cX2_merge 24 = .ok (.getfield 10, 3) := by decide +kernel
theorem dX2_merge_27 : decode cX2_merge 27 = .ok (.invokevirtual 41, 3) := by decide +kernel
theorem dX2_merge_30 : decode cX2_merge 30 = .ok (.aload_n 0, 1) := by decide +kernel
theorem dX2_merge_31 : decode cX2_merge 31 = .ok (.getfield 10, 3) := by decide +kernel
theorem dX2_merge_34 : decode cX2_merge 34 = .ok (.iload_n 1, 1) := by decide +kernel
theorem dX2_merge_35 : decode cX2_merge 35 = .ok (.iload_n 2, 1) := by decide +kernel
theorem dX2_merge_36 : decode cX2_merge 36 = .ok (.iload 4, 2) := by decide +kernel
theorem dX2_merge_38 : decode cX2_merge 38 = .ok (.invokevirtual 56, 3) := by decide +kernel
theorem dX2_merge_41 : decode cX2_merge 41 = .ok (.ifCond .eq 17, 3) := by decide +kernel
theorem dX2_merge_44 : decode cX2_merge 44 = .ok (.aload_n 0, 1) := by decide +kernel
theorem dX2_merge_45 : decode cX2_merge 45 = .ok (.getfield 10, 3) := by decide +kernel
theorem dX2_merge_48 : decode cX2_merge 48 = .ok (.iload_n 2, 1) := by decide +kernel
theorem dX2_merge_49 : decode cX2_merge 49 = .ok (.iload_n 3, 1) := by decide +kernel
theorem dX2_merge_50 : decode cX2_merge 50 = .ok (.iload 4, 2) := by decide +kernel
theorem dX2_merge_52 : decode cX2_merge 52 = .ok (.invokevirtual 56, 3) := by decide +kernel
theorem dX2_merge_55 : decode cX2_merge 55 = .ok (.ifCond .ne 5, 3) := by decide +kernel
theorem dX2_merge_58 : decode cX2_merge 58 = .ok (.iconst 0, 1) := by decide +kernel
theorem dX2_merge_59 : decode cX2_merge 59 = .ok (.ireturn, 1) := by decide +kernel
theorem dX2_merge_60 : decode cX2_merge 60 = .ok (.aload_n 0, 1) := by decide +kernel
theorem dX2_merge_61 : decode cX2_merge 61 = .ok (.getfield 10, 3) := by decide +kernel
theorem dX2_merge_64 : decode cX2_merge 64 = .ok (.iload_n 1, 1) := by decide +kernel
theorem dX2_merge_65 : decode cX2_merge 65 = .ok (.iload_n 2, 1) := by decide +kernel
theorem dX2_merge_66 : decode cX2_merge 66 = .ok (.iload_n 3, 1) := by decide +kernel
theorem dX2_merge_67 : decode cX2_merge 67 = .ok (.iload 4, 2) := by decide +kernel
theorem dX2_merge_69 : decode cX2_merge 69 = .ok (.iconst 0, 1) := by decide +kernel
theorem dX2_merge_70 : decode cX2_merge 70 = .ok (.invokestatic 59, 3) := by decide +kernel
theorem dX2_merge_73 : decode cX2_merge 73 = .ok (.aload_n 0, 1) := by decide +kernel
theorem dX2_merge_74 : decode cX2_merge 74 = .ok (.iload_n 3, 1) := by decide +kernel
theorem dX2_merge_75 : decode cX2_merge 75 = .ok (.iload_n 1, 1) := by decide +kernel
theorem dX2_merge_76 : decode cX2_merge 76 = .ok (.isub, 1) := by decide +kernel
theorem dX2_merge_77 : decode cX2_merge 77 = .ok (.invokevirtual 48, 3) := by decide +kernel
theorem dX2_merge_80 : decode cX2_merge 80 = .ok (.iconst 1, 1) := by decide +kernel
theorem dX2_merge_81 : decode cX2_merge 81 = .ok (.ireturn, 1) := by decide +kernel
set_option maxRecDepth 20000 in
theorem ggX2_rotate_X1_hasStretches : GoodIn wsX2_rotate wsX1_hasStretches := goodIn_r _ [6, 7, 8, 9, 5, 10, 11, 31, 32, 33, 34, 35] (by decide +kernel) (by decide +kernel)
set_option maxRecDepth 20000 in
theorem gX2_rotate_X1_hasStretches : GoodIn wsX2_rotate (wsV RX2 52 RX1 yX1_hasStretches wsX1_hasStretches) := goodIn_app (goodIn_of _ (by decide +kernel)) ggX2_rotate_X1_hasStretches
set_option maxRecDepth 20000 in
theorem ggX2_rotate_X1_swapBlocks : GoodIn wsX2_rotate wsX1_swapBlocks := goodIn_r _ [15, 16, 17, 18, 5, 19, 20, 21, 22, 23, 24, 25, 26, 31, 32, 33, 34, 35] (by decide +kernel) (by decide +kernel)
set_option maxRecDepth 20000 in
theorem gX2_rotate_X1_swapBlocks : GoodIn wsX2_rotate (wsV RX2 63 RX1 yX1_swapBlocks wsX1_swapBlocks) := goodIn_app (goodIn_of _ (by decide +kernel)) ggX2_rotate_X1_swapBlocks
theorem dX2_rotate_0 : decode cX2_rotate 0 = .ok (.aload_n 0, 1) := by decide +kernel
theorem dX2_rotate_1 : decode cX2_rotate 1 = .ok (.getfield 10, 3) := by decide +kernel
theorem dX2_rotate_4 : decode cX2_rotate 4 = .ok (.iload_n 1, 1) := by decide +kernel
theorem dX2_rotate_5 : decode cX2_rotate 5 = .ok (.iload_n 2, 1) := by decide +kernel
theorem dX2_rotate_6 : decode cX2_rotate 6 = .ok (.iload_n 3, 1) := by decide +kernel
theorem dX2_rotate_7 : decode cX2_rotate 7 = .ok (.invokevirtual 52, 3) := by decide +kernel
theorem dX2_rotate_10 : decode cX2_rotate 10 = .ok (.ifCond .ne 5, 3) := by decide +kernel
theorem dX2_rotate_13 : decode cX2_rotate 13 = .ok (.iconst 0, 1) := by decide +kernel
theorem dX2_rotate_14 : decode cX2_rotate 14 = .ok (.ireturn, 1) := by decide +kernel
theorem dX2_rotate_15 : decode cX2_rotate 15 = .ok (.aload_n 0, 1) := by decide +kernel
theorem dX2_rotate_16 : decode cX2_rotate 16 = .ok (.getfield 10, 3) := by decide +kernel
theorem dX2_rotate_19 : decode cX2_rotate 19 = .ok (.iload_n 1, 1) := by decide +kernel
theorem dX2_rotate_20 : decode cX2_rotate 20 = .ok (.iload_n 2, 1) := by decide +kernel
theorem dX2_rotate_21 : decode cX2_rotate 21 = .ok (.iload_n 3, 1) := by decide +kernel
theorem dX2_rotate_22 : decode cX2_rotate 22 = .ok (.invokevirtual 63, 3) := by decide +kernel
theorem dX2_rotate_25 : decode cX2_rotate 25 = .ok (.iconst 1, 1) := by decide +kernel
theorem dX2_rotate_26 : decode cX2_rotate 26 = .ok (.ireturn, 1) := by decide +kernel
set_option maxRecDepth 20000 in
theorem ggX2_turn_X1_hasStretch : GoodIn wsX2_turn wsX1_hasStretch := goodIn_r _ [6, 7, 23, 24, 25, 26, 27] (by decide +kernel) (by decide +kernel)
set_option maxRecDepth 20000 in
theorem gX2_turn_X1_hasStretch : GoodIn wsX2_turn (wsV RX2 37 RX1 yX1_hasStretch wsX1_hasStretch) := goodIn_app (goodIn_of _ (by decide +kernel)) ggX2_turn_X1_hasStretch
set_option maxRecDepth 20000 in
theorem ggX2_turn_X1_reverse : GoodIn wsX2_turn wsX1_reverse := goodIn_r _ [11, 12, 13, 14, 5, 15, 16, 17, 18, 23, 24, 25, 26, 27] (by decide +kernel) (by decide +kernel)
set_option maxRecDepth 20000 in
theorem gX2_turn_X1_reverse : GoodIn wsX2_turn (wsV RX2 66 RX1 yX1_reverse wsX1_reverse) := goodIn_app (goodIn_of _ (by decide +kernel)) ggX2_turn_X1_reverse
theorem dX2_turn_0 : decode cX2_turn 0 = .ok (.aload_n 0, 1) := by decide +kernel
theorem dX2_turn_1 : decode cX2_turn 1 = .ok (.getfield 10, 3) := by decide +kernel
theorem dX2_turn_4 : decode cX2_turn 4 = .ok (.iload_n 1, 1) := by decide +kernel
theorem dX2_turn_5 : decode cX2_turn 5 = .ok (.iload_n 2, 1) := by decide +kernel
theorem dX2_turn_6 : decode cX2_turn 6 = .ok (.invokevirtual 37, 3) := by decide +kernel
theorem dX2_turn_9 : decode cX2_turn 9 = .ok (.ifCond .ne 5, 3) := by decide +kernel
theorem dX2_turn_12 : decode cX2_turn 12 = .ok (.iconst 0, 1) := by decide +kernel
theorem dX2_turn_13 : decode cX2_turn 13 = .ok (.ireturn, 1) := by decide +kernel
theorem dX2_turn_14 : decode cX2_turn 14 = .ok (.aload_n 0, 1) := by decide +kernel
theorem dX2_turn_15 : decode cX2_turn 15 = .ok (.getfield 10, 3) := by decide +kernel
theorem dX2_turn_18 : decode cX2_turn 18 = .ok (.iload_n 1, 1) := by decide +kernel
theorem dX2_turn_19 : decode cX2_turn 19 = .ok (.iload_n 2, 1) := by decide +kernel
theorem dX2_turn_20 : decode cX2_turn 20 = .ok (.invokevirtual 66, 3) := by decide +kernel
theorem dX2_turn_23 : decode cX2_turn 23 = .ok (.iconst 1, 1) := by decide +kernel
theorem dX2_turn_24 : decode cX2_turn 24 = .ok (.ireturn, 1) := by decide +kernel
set_option maxRecDepth 20000 in
theorem ggX2_split_X0_exists : GoodIn wsX2_split wsX0_exists := goodIn_r _ [5] (by decide +kernel) (by decide +kernel)
set_option maxRecDepth 20000 in
theorem gX2_split_X0_exists : GoodIn wsX2_split (va_wsS RX2 32 yX0_exists wsX0_exists) := goodIn_app (goodIn_of _ (by decide +kernel)) ggX2_split_X0_exists
set_option maxRecDepth 20000 in
theorem ggX2_split_X1_hasStretch : GoodIn wsX2_split wsX1_hasStretch := goodIn_r _ [10, 11, 48, 49, 50, 51, 52] (by decide +kernel) (by decide +kernel)
set_option maxRecDepth 20000 in
theorem gX2_split_X1_hasStretch : GoodIn wsX2_split (wsV RX2 37 RX1 yX1_hasStretch wsX1_hasStretch) := goodIn_app (goodIn_of _ (by decide +kernel)) ggX2_split_X1_hasStretch
set_option maxRecDepth 20000 in
theorem ggX2_split_X1_splitInPlace : GoodIn wsX2_split wsX1_splitInPlace := goodIn_r _ [15, 16, 17, 18, 19, 20, 21, 22, 9, 23, 24, 25, 26, 4, 27, 28, 29, 30, 31, 32, 33, 34, 35, 36, 37, 38, 39, 40, 41, 42, 48, 49, 50, 51, 52] (by decide +kernel) (by decide +kernel)
set_option maxRecDepth 20000 in
theorem gX2_split_X1_splitInPlace : GoodIn wsX2_split (wsV RX2 69 RX1 yX1_splitInPlace wsX1_splitInPlace) := goodIn_app (goodIn_of _ (by decide +kernel)) ggX2_split_X1_splitInPlace
set_option maxRecDepth 20000 in
theorem ggX2_split_X1_countLess : GoodIn wsX2_split wsX1_countLess := goodIn_r _ [23, 24, 25, 26, 4, 27, 28, 48, 49, 50, 51, 52] (by decide +kernel) (by decide +kernel)
set_option maxRecDepth 20000 in
theorem gX2_split_X1_countLess : GoodIn wsX2_split (wsV RX2 73 RX1 yX1_countLess wsX1_countLess) := goodIn_app (goodIn_of _ (by decide +kernel)) ggX2_split_X1_countLess
theorem dX2_split_0 : decode cX2_split 0 = .ok (.iload 4, 2) := by decide +kernel
theorem dX2_split_2 : decode cX2_split 2 = .ok (.invokestatic 32, 3) := by decide +kernel
theorem dX2_split_5 : decode cX2_split 5 = .ok (.ifCond .eq 15, 3) := by decide +kernel
theorem dX2_split_8 : decode cX2_split 8 = .ok (.aload_n 0, 1) := by decide +kernel
theorem dX2_split_9 : decode cX2_split 9 = .ok (.getfield 10, 3) := by decide +kernel
theorem dX2_split_12 : decode cX2_split 12 = .ok (.iload_n 1, 1) := by decide +kernel
theorem dX2_split_13 : decode cX2_split 13 = .ok (.iload_n 2, 1) := by decide +kernel
theorem dX2_split_14 : decode cX2_split 14 = .ok (.invokevirtual 37, 3) := by decide +kernel
theorem dX2_split_17 : decode cX2_split 17 = .ok (.ifCond .ne 5, 3) := by decide +kernel
theorem dX2_split_20 : decode cX2_split 20 = .ok (.iconst (-1), 1) := by decide +kernel
theorem dX2_split_21 : decode cX2_split 21 = .ok (.ireturn, 1) := by decide +kernel
theorem dX2_split_22 : decode cX2_split 22 = .ok (.aload_n 0, 1) := by decide +kernel
theorem dX2_split_23 : decode cX2_split 23 = .ok (.getfield 10, 3) := by decide +kernel
theorem dX2_split_26 : decode cX2_split 26 = .ok (.iload_n 1, 1) := by decide +kernel
theorem dX2_split_27 : decode cX2_split 27 = .ok (.iload_n 2, 1) := by decide +kernel
theorem dX2_split_28 : decode cX2_split 28 = .ok (.iload_n 3, 1) := by decide +kernel
theorem dX2_split_29 : decode cX2_split 29 = .ok (.iload 4, 2) := by decide +kernel
theorem dX2_split_31 : decode cX2_split 31 = .ok (.invokevirtual 69, 3) := by decide +kernel
theorem dX2_split_34 : decode cX2_split 34 = .ok (.aload_n 0, 1) := by decide +kernel
theorem dX2_split_35 : decode cX2_split 35 = .ok (.getfield 10, 3) := by decide +kernel
theorem dX2_split_38 : decode cX2_split 38 = .ok (.iload_n 1, 1) := by decide +kernel
theorem dX2_split_39 : decode cX2_split 39 = .ok (.iload_n 2, 1) := by decide +kernel
theorem dX2_split_40 : decode cX2_split 40 = .ok (.iload_n 3, 1) := by decide +kernel
theorem dX2_split_41 : decode cX2_split 41 = .ok (.iload 4, 2) := by decide +kernel
theorem dX2_split_43 : decode cX2_split 43 = .ok (.invokevirtual 73, 3) := by decide +kernel
theorem dX2_split_46 : decode cX2_split 46 = .ok (.ireturn, 1) := by decide +kernel
set_option maxRecDepth 20000 in
theorem ggX2_thin_X0_exists : GoodIn wsX2_thin wsX0_exists := goodIn_r _ [6] (by decide +kernel) (by decide +kernel)
set_option maxRecDepth 20000 in
theorem gX2_thin_X0_exists : GoodIn wsX2_thin (va_wsS RX2 32 yX0_exists wsX0_exists) := goodIn_app (goodIn_of _ (by decide +kernel)) ggX2_thin_X0_exists
set_option maxRecDepth 20000 in
theorem ggX2_thin_X1_inOrder : GoodIn wsX2_thin wsX1_inOrder := goodIn_r _ [11, 12, 13, 14, 10, 15, 16, 17, 18, 19, 5, 20, 21, 32, 33, 34, 35, 36] (by decide +kernel) (by decide +kernel)
set_option maxRecDepth 20000 in
theorem gX2_thin_X1_inOrder : GoodIn wsX2_thin (wsV RX2 56 RX1 yX1_inOrder wsX1_inOrder) := goodIn_app (goodIn_of _ (by decide +kernel)) ggX2_thin_X1_inOrder
set_option maxRecDepth 20000 in
theorem ggX2_thin_X1_dropAlike : GoodIn wsX2_thin wsX1_dropAlike := goodIn_r _ [25, 26, 17, 27, 12, 13, 14, 10, 15, 16, 18, 19, 5, 20, 21, 32, 33, 34, 35, 36] (by decide +kernel) (by decide +kernel)
set_option maxRecDepth 20000 in
theorem gX2_thin_X1_dropAlike : GoodIn wsX2_thin (wsV RX2 77 RX1 yX1_dropAlike wsX1_dropAlike) := goodIn_app (goodIn_of _ (by decide +kernel)) ggX2_thin_X1_dropAlike
theorem dX2_thin_0 : decode cX2_thin 0 = .ok (.iload_n 1, 1) := by decide +kernel
theorem dX2_thin_1 : decode cX2_thin 1 = .ok (.invokestatic 32, 3) := by decide +kernel
theorem dX2_thin_4 : decode cX2_thin 4 = .ok (.ifCond .eq 22, 3) := by decide +kernel
theorem dX2_thin_7 : decode cX2_thin 7 = .ok (.aload_n 0, 1) := by decide +kernel
theorem dX2_thin_8 : decode cX2_thin 8 = .ok (.getfield 10, 3) := by decide +kernel
theorem dX2_thin_11 : decode cX2_thin 11 = .ok (.iconst 0, 1) := by decide +kernel
theorem dX2_thin_12 : decode cX2_thin 12 = .ok (.aload_n 0, 1) := by decide +kernel
theorem dX2_thin_13 : decode cX2_thin 13 = .ok (.getfield 10, 3) := by decide +kernel
theorem dX2_thin_16 : decode cX2_thin 16 = .ok (.getfield 24, 3) := by decide +kernel
theorem dX2_thin_19 : decode cX2_thin 19 = .ok (.iload_n 1, 1) := by decide +kernel
theorem dX2_thin_20 : decode cX2_thin 20 = .ok (.invokevirtual 56, 3) := by decide +kernel
theorem dX2_thin_23 : decode cX2_thin 23 = .ok (.ifCond .ne 5, 3) := by decide +kernel
theorem dX2_thin_26 : decode cX2_thin 26 = .ok (.iconst (-1), 1) := by decide +kernel
theorem dX2_thin_27 : decode cX2_thin 27 = .ok (.ireturn, 1) := by decide +kernel
theorem dX2_thin_28 : decode cX2_thin 28 = .ok (.aload_n 0, 1) := by decide +kernel
theorem dX2_thin_29 : decode cX2_thin 29 = .ok (.getfield 10, 3) := by decide +kernel
theorem dX2_thin_32 : decode cX2_thin 32 = .ok (.iload_n 1, 1) := by decide +kernel
theorem dX2_thin_33 : decode cX2_thin 33 = .ok (.invokevirtual 77, 3) := by decide +kernel
theorem dX2_thin_36 : decode cX2_thin 36 = .ok (.aload_n 0, 1) := by decide +kernel
theorem dX2_thin_37 : decode cX2_thin 37 = .ok (.getfield 10, 3) := by decide +kernel
theorem dX2_thin_40 : decode cX2_thin 40 = .ok (.getfield 24, 3) := by decide +kernel
theorem dX2_thin_43 : decode cX2_thin 43 = .ok (.ireturn, 1) := by decide +kernel
set_option maxRecDepth 20000 in
theorem ggX2_sorted_X0_exists : GoodIn wsX2_sorted wsX0_exists := goodIn_r _ [5] (by decide +kernel) (by decide +kernel)
set_option maxRecDepth 20000 in
theorem gX2_sorted_X0_exists : GoodIn wsX2_sorted (va_wsS RX2 32 yX0_exists wsX0_exists) := goodIn_app (goodIn_of _ (by decide +kernel)) ggX2_sorted_X0_exists
set_option maxRecDepth 20000 in
theorem ggX2_sorted_X1_hasStretch : GoodIn wsX2_sorted wsX1_hasStretch := goodIn_r _ [10, 11, 30, 31, 32, 33, 34] (by decide +kernel) (by decide +kernel)
set_option maxRecDepth 20000 in
theorem gX2_sorted_X1_hasStretch : GoodIn wsX2_sorted (wsV RX2 37 RX1 yX1_hasStretch wsX1_hasStretch) := goodIn_app (goodIn_of _ (by decide +kernel)) ggX2_sorted_X1_hasStretch
set_option maxRecDepth 20000 in
theorem ggX2_sorted_X1_inOrder : GoodIn wsX2_sorted wsX1_inOrder := goodIn_r _ [15, 16, 17, 18, 9, 19, 20, 21, 22, 23, 4, 24, 25, 30, 31, 32, 33, 34] (by decide +kernel) (by decide +kernel)
set_option maxRecDepth 20000 in
theorem gX2_sorted_X1_inOrder : GoodIn wsX2_sorted (wsV RX2 56 RX1 yX1_inOrder wsX1_inOrder) := goodIn_app (goodIn_of _ (by decide +kernel)) ggX2_sorted_X1_inOrder
theorem dX2_sorted_0 : decode cX2_sorted 0 = .ok (.iload_n 3, 1) := by decide +kernel
theorem dX2_sorted_1 : decode cX2_sorted 1 = .ok (.invokestatic 32, 3) := by decide +kernel
theorem dX2_sorted_4 : decode cX2_sorted 4 = .ok (.ifCond .eq 15, 3) := by decide +kernel
theorem dX2_sorted_7 : decode cX2_sorted 7 = .ok (.aload_n 0, 1) := by decide +kernel
theorem dX2_sorted_8 : decode cX2_sorted 8 = .ok (.getfield 10, 3) := by decide +kernel
theorem dX2_sorted_11 : decode cX2_sorted 11 = .ok (.iload_n 1, 1) := by decide +kernel
theorem dX2_sorted_12 : decode cX2_sorted 12 = .ok (.iload_n 2, 1) := by decide +kernel
theorem dX2_sorted_13 : decode cX2_sorted 13 = .ok (.invokevirtual 37, 3) := by decide +kernel
theorem dX2_sorted_16 : decode cX2_sorted 16 = .ok (.ifCond .ne 5, 3) := by decide +kernel
theorem dX2_sorted_19 : decode cX2_sorted 19 = .ok (.iconst (-1), 1) := by decide +kernel
theorem dX2_sorted_20 : decode cX2_sorted 20 = .ok (.ireturn, 1) := by decide +kernel
theorem dX2_sorted_21 : decode cX2_sorted 21 = .ok (.aload_n 0, 1) := by decide +kernel
theorem dX2_sorted_22 : decode cX2_sorted 22 = .ok (.getfield 10, 3) := by decide +kernel
theorem dX2_sorted_25 : decode cX2_sorted 25 = .ok (.iload_n 1, 1) := by decide +kernel
theorem dX2_sorted_26 : decode cX2_sorted 26 = .ok (.iload_n 2, 1) := by decide +kernel
theorem dX2_sorted_27 : decode cX2_sorted 27 = .ok (.iload_n 3, 1) := by decide +kernel
theorem dX2_sorted_28 : decode cX2_sorted 28 = .ok (.invokevirtual 56, 3) := by decide +kernel
theorem dX2_sorted_31 : decode cX2_sorted 31 = .ok (.ifCond .eq 7, 3) := by decide +kernel
theorem dX2_sorted_34 : decode cX2_sorted 34 = .ok (.iconst 1, 1) := by decide +kernel
theorem dX2_sorted_35 : decode cX2_sorted 35 = .ok (.goto 4, 3) := by decide +kernel
theorem dX2_sorted_38 : decode cX2_sorted 38 = .ok (.iconst 0, 1) := by decide +kernel
theorem dX2_sorted_39 : decode cX2_sorted 39 = .ok (.ireturn, 1) := by decide +kernel
set_option maxRecDepth 20000 in
theorem ggX2_find_X0_exists : GoodIn wsX2_find wsX0_exists := goodIn_r _ [6] (by decide +kernel) (by decide +kernel)
set_option maxRecDepth 20000 in
theorem gX2_find_X0_exists : GoodIn wsX2_find (va_wsS RX2 32 yX0_exists wsX0_exists) := goodIn_app (goodIn_of _ (by decide +kernel)) ggX2_find_X0_exists
set_option maxRecDepth 20000 in
theorem ggX2_find_X1_inOrder : GoodIn wsX2_find wsX1_inOrder := goodIn_r _ [11, 12, 13, 14, 10, 15, 16, 17, 18, 19, 5, 20, 21, 34, 35, 36, 37, 38] (by decide +kernel) (by decide +kernel)
set_option maxRecDepth 20000 in
theorem gX2_find_X1_inOrder : GoodIn wsX2_find (wsV RX2 56 RX1 yX1_inOrder wsX1_inOrder) := goodIn_app (goodIn_of _ (by decide +kernel)) ggX2_find_X1_inOrder
set_option maxRecDepth 20000 in
theorem ggX2_find_X1_countLess : GoodIn wsX2_find wsX1_countLess := goodIn_r _ [25, 17, 18, 19, 5, 20, 21, 34, 35, 36, 37, 38] (by decide +kernel) (by decide +kernel)
set_option maxRecDepth 20000 in
theorem gX2_find_X1_countLess : GoodIn wsX2_find (wsV RX2 73 RX1 yX1_countLess wsX1_countLess) := goodIn_app (goodIn_of _ (by decide +kernel)) ggX2_find_X1_countLess
set_option maxRecDepth 20000 in
theorem ggX2_find_X1_countNotMore : GoodIn wsX2_find wsX1_countNotMore := goodIn_r _ [29, 17, 18, 19, 5, 20, 21, 34, 35, 36, 37, 38] (by decide +kernel) (by decide +kernel)
set_option maxRecDepth 20000 in
theorem gX2_find_X1_countNotMore : GoodIn wsX2_find (wsV RX2 80 RX1 yX1_countNotMore wsX1_countNotMore) := goodIn_app (goodIn_of _ (by decide +kernel)) ggX2_find_X1_countNotMore
theorem dX2_find_0 : decode cX2_find 0 = .ok (.iload_n 3, 1) := by decide +kernel
theorem dX2_find_1 : decode cX2_find 1 = .ok (.ifCond .eq 8, 3) := by decide +kernel
theorem dX2_find_4 : decode cX2_find 4 = .ok (.iload_n 3, 1) := by decide +kernel
theorem dX2_find_5 : decode cX2_find 5 = .ok (.iconst 1, 1) := by decide +kernel
theorem dX2_find_6 : decode cX2_find 6 = .ok (.if_icmp .ne 7, 3) := by decide +kernel
theorem dX2_find_9 : decode cX2_find 9 = .ok (.iconst 1, 1) := by decide +kernel
theorem dX2_find_10 : decode cX2_find 10 = .ok (.goto 4, 3) := by decide +kernel
theorem dX2_find_13 : decode cX2_find 13 = .ok (.iconst 0, 1) := by decide +kernel
theorem dX2_find_14 : decode cX2_find 14 = .ok (.istore 4, 2) := by decide +kernel
theorem dX2_find_16 : decode cX2_find 16 = .ok (.iload 4, 2) := by decide +kernel
theorem dX2_find_18 : decode cX2_find 18 = .ok (.ifCond .eq 29, 3) := by decide +kernel
theorem dX2_find_21 : decode cX2_find 21 = .ok (.iload_n 2, 1) := by decide +kernel
theorem dX2_find_22 : decode cX2_find 22 = .ok (.invokestatic 32, 3) := by decide +kernel
theorem dX2_find_25 : decode cX2_find 25 = .ok (.ifCond .eq 22, 3) := by decide +kernel
theorem dX2_find_28 : decode cX2_find 28 = .ok (.aload_n 0, 1) := by decide +kernel
theorem dX2_find_29 : decode cX2_find 29 = .ok (.getfield 10, 3) := by decide +kernel
theorem dX2_find_32 : decode cX2_find 32 = .ok (.iconst 0, 1) := by decide +kernel
theorem dX2_find_33 : decode cX2_find 33 = .ok (.aload_n 0, 1) := by decide +kernel
theorem dX2_find_34 : decode cX2_find 34 = .ok (.getfield 10, 3) := by decide +kernel
theorem dX2_find_37 : decode cX2_find 37 = .ok (.getfield 24, 3) := by decide +kernel
theorem dX2_find_40 : decode cX2_find 40 = .ok (.iload_n 2, 1) := by decide +kernel
theorem dX2_find_41 : decode cX2_find 41 = .ok (.invokevirtual 56, 3) := by decide +kernel
theorem dX2_find_44 : decode cX2_find 44 = .ok (.ifCond .ne 5, 3) := by decide +kernel
theorem dX2_find_47 : decode cX2_find 47 = .ok (.iconst (-1), 1) := by decide +kernel
theorem dX2_find_48 : decode cX2_find 48 = .ok (.ireturn, 1) := by decide +kernel
theorem dX2_find_49 : decode cX2_find 49 = .ok (.iload_n 3, 1) := by decide +kernel
theorem dX2_find_50 : decode cX2_find 50 = .ok (.ifCond .ne 23, 3) := by decide +kernel
theorem dX2_find_53 : decode cX2_find 53 = .ok (.aload_n 0, 1) := by decide +kernel
theorem dX2_find_54 : decode cX2_find 54 = .ok (.getfield 10, 3) := by decide +kernel
theorem dX2_find_57 : decode cX2_find 57 = .ok (.iconst 0, 1) := by decide +kernel
theorem dX2_find_58 : decode cX2_find 58 = .ok (.aload_n 0, 1) := by decide +kernel
theorem dX2_find_59 : decode cX2_find 59 = .ok (.getfield 10, 3) := by decide +kernel
theorem dX2_find_62 : decode cX2_find 62 = .ok (.getfield 24, 3) := by decide +kernel
theorem dX2_find_65 : decode cX2_find 65 = .ok (.iload_n 1, 1) := by decide +kernel
theorem dX2_find_66 : decode cX2_find 66 = .ok (.iload_n 2, 1) := by decide +kernel
theorem dX2_find_67 : decode cX2_find 67 = .ok (.invokevirtual 73, 3) := by decide +kernel
theorem dX2_find_70 : decode cX2_find 70 = .ok (.goto 20, 3) := by decide +kernel
theorem dX2_find_73 : decode cX2_find 73 = .ok (.aload_n 0, 1) := by decide +kernel
theorem dX2_find_74 : decode cX2_find 74 = .ok (.getfield 10, 3) := by decide +kernel
theorem dX2_find_77 : decode cX2_find 77 = .ok (.iconst 0, 1) := by decide +kernel
theorem dX2_find_78 : decode cX2_find 78 = .ok (.aload_n 0, 1) := by decide +kernel
theorem dX2_find_79 : decode cX2_find 79 = .ok (.getfield 10, 3) := by decide +kernel
theorem dX2_find_82 : decode cX2_find 82 = .ok (.getfield 24, 3) := by decide +kernel
theorem dX2_find_85 : decode cX2_find 85 = .ok (.iload_n 1, 1) := by decide +kernel
theorem dX2_find_86 : decode cX2_find 86 = .ok (.iload_n 2, 1) := by decide +kernel
theorem dX2_find_87 : decode cX2_find 87 = .ok (.invokevirtual 80, 3) := by decide +kernel
theorem dX2_find_90 : decode cX2_find 90 = .ok (.ireturn, 1) := by decide +kernel
set_option maxRecDepth 20000 in
theorem ggX2_rank_X0_exists : GoodIn wsX2_rank wsX0_exists := goodIn_r _ [7] (by decide +kernel) (by decide +kernel)
set_option maxRecDepth 20000 in
theorem gX2_rank_X0_exists : GoodIn wsX2_rank (va_wsS RX2 32 yX0_exists wsX0_exists) := goodIn_app (goodIn_of _ (by decide +kernel)) ggX2_rank_X0_exists
set_option maxRecDepth 20000 in
theorem ggX2_rank_X1_hasPlace : GoodIn wsX2_rank wsX1_hasPlace := goodIn_r _ [12, 13, 31, 32, 33, 34, 35] (by decide +kernel) (by decide +kernel)
set_option maxRecDepth 20000 in
theorem gX2_rank_X1_hasPlace : GoodIn wsX2_rank (wsV RX2 83 RX1 yX1_hasPlace wsX1_hasPlace) := goodIn_app (goodIn_of _ (by decide +kernel)) ggX2_rank_X1_hasPlace
set_option maxRecDepth 20000 in
theorem ggX2_rank_X1_countNotMore : GoodIn wsX2_rank wsX1_countNotMore := goodIn_r _ [17, 18, 19, 20, 6, 21, 22, 31, 32, 33, 34, 35] (by decide +kernel) (by decide +kernel)
set_option maxRecDepth 20000 in
theorem gX2_rank_X1_countNotMore : GoodIn wsX2_rank (wsV RX2 80 RX1 yX1_countNotMore wsX1_countNotMore) := goodIn_app (goodIn_of _ (by decide +kernel)) ggX2_rank_X1_countNotMore
set_option maxRecDepth 20000 in
theorem ggX2_rank_X1_countLess : GoodIn wsX2_rank wsX1_countLess := goodIn_r _ [26, 18, 19, 20, 6, 21, 22, 31, 32, 33, 34, 35] (by decide +kernel) (by decide +kernel)
set_option maxRecDepth 20000 in
theorem gX2_rank_X1_countLess : GoodIn wsX2_rank (wsV RX2 73 RX1 yX1_countLess wsX1_countLess) := goodIn_app (goodIn_of _ (by decide +kernel)) ggX2_rank_X1_countLess
theorem dX2_rank_0 : decode cX2_rank 0 = .ok (.iload_n 2, 1) := by decide +kernel
theorem dX2_rank_1 : decode cX2_rank 1 = .ok (.invokestatic 32, 3) := by decide +kernel
theorem dX2_rank_4 : decode cX2_rank 4 = .ok (.ifCond .eq 14, 3) := by decide +kernel
theorem dX2_rank_7 : decode cX2_rank 7 = .ok (.aload_n 0, 1) := by decide +kernel
theorem dX2_rank_8 : decode cX2_rank 8 = .ok (.getfield 10, 3) := by decide +kernel
theorem dX2_rank_11 : decode cX2_rank 11 = .ok (.iload_n 1, 1) := by decide +kernel
theorem dX2_rank_12 : decode cX2_rank 12 = .ok (.invokevirtual 83, 3) := by decide +kernel
theorem dX2_rank_15 : decode cX2_rank 15 = .ok (.ifCond .ne 5, 3) := by decide +kernel
theorem dX2_rank_18 : decode cX2_rank 18 = .ok (.iconst (-1), 1) := by decide +kernel
theorem dX2_rank_19 : decode cX2_rank 19 = .ok (.ireturn, 1) := by decide +kernel
theorem dX2_rank_20 : decode cX2_rank 20 = .ok (.aload_n 0, 1) := by decide +kernel
theorem dX2_rank_21 : decode cX2_rank 21 = .ok (.getfield 10, 3) := by decide +kernel
theorem dX2_rank_24 : decode cX2_rank 24 = .ok (.getfield 86, 3) := by decide +kernel
theorem dX2_rank_27 : decode cX2_rank 27 = .ok (.iload_n 1, 1) := by decide +kernel
theorem dX2_rank_28 : decode cX2_rank 28 = .ok (.iaload, 1) := by decide +kernel
theorem dX2_rank_29 : decode cX2_rank 29 = .ok (.istore_n 3, 1) := by decide +kernel
theorem dX2_rank_30 : decode cX2_rank 30 = .ok (.aload_n 0, 1) := by decide +kernel
theorem dX2_rank_31 : decode cX2_rank 31 = .ok (.getfield 10, 3) := by decide +kernel
theorem dX2_rank_34 : decode cX2_rank 34 = .ok (.iconst 0, 1) := by decide +kernel
theorem dX2_rank_35 : decode cX2_rank 35 = .ok (.iload_n 1, 1) := by decide +kernel
theorem dX2_rank_36 : decode cX2_rank 36 = .ok (.iload_n 3, 1) := by decide +kernel
theorem dX2_rank_37 : decode cX2_rank 37 = .ok (.iload_n 2, 1) := by decide +kernel
theorem dX2_rank_38 : decode cX2_rank 38 = .ok (.invokevirtual 80, 3) := by decide +kernel
theorem dX2_rank_41 : decode cX2_rank 41 = .ok (.aload_n 0, 1) := by decide +kernel
theorem dX2_rank_42 : decode cX2_rank 42 = .ok (.getfield 10, 3) := by decide +kernel
theorem dX2_rank_45 : decode cX2_rank 45 = .ok (.iload_n 1, 1) := by decide +kernel
theorem dX2_rank_46 : decode cX2_rank 46 = .ok (.aload_n 0, 1) := by decide +kernel
theorem dX2_rank_47 : decode cX2_rank 47 = .ok (.getfield 10, 3) := by decide +kernel
theorem dX2_rank_50 : decode cX2_rank 50 = .ok (.getfield 24, 3) := by decide +kernel
theorem dX2_rank_53 : decode cX2_rank 53 = .ok (.iload_n 3, 1) := by decide +kernel
theorem dX2_rank_54 : decode cX2_rank 54 = .ok (.iload_n 2, 1) := by decide +kernel
theorem dX2_rank_55 : decode cX2_rank 55 = .ok (.invokevirtual 73, 3) := by decide +kernel
theorem dX2_rank_58 : decode cX2_rank 58 = .ok (.iadd, 1) := by decide +kernel
theorem dX2_rank_59 : decode cX2_rank 59 = .ok (.ireturn, 1) := by decide +kernel
set_option maxRecDepth 20000 in
theorem ggX2_key_X1_hasPlace : GoodIn wsX2_key wsX1_hasPlace := goodIn_r _ [7, 8, 13, 14, 15, 16, 17] (by decide +kernel) (by decide +kernel)
set_option maxRecDepth 20000 in
theorem gX2_key_X1_hasPlace : GoodIn wsX2_key (wsV RX2 83 RX1 yX1_hasPlace wsX1_hasPlace) := goodIn_app (goodIn_of _ (by decide +kernel)) ggX2_key_X1_hasPlace
theorem dX2_key_0 : decode cX2_key 0 = .ok (.aload_n 0, 1) := by decide +kernel
theorem dX2_key_1 : decode cX2_key 1 = .ok (.getfield 10, 3) := by decide +kernel
theorem dX2_key_4 : decode cX2_key 4 = .ok (.iload_n 1, 1) := by decide +kernel
theorem dX2_key_5 : decode cX2_key 5 = .ok (.invokevirtual 83, 3) := by decide +kernel
theorem dX2_key_8 : decode cX2_key 8 = .ok (.ifCond .eq 15, 3) := by decide +kernel
theorem dX2_key_11 : decode cX2_key 11 = .ok (.aload_n 0, 1) := by decide +kernel
theorem dX2_key_12 : decode cX2_key 12 = .ok (.getfield 10, 3) := by decide +kernel
theorem dX2_key_15 : decode cX2_key 15 = .ok (.getfield 86, 3) := by decide +kernel
theorem dX2_key_18 : decode cX2_key 18 = .ok (.iload_n 1, 1) := by decide +kernel
theorem dX2_key_19 : decode cX2_key 19 = .ok (.iaload, 1) := by decide +kernel
theorem dX2_key_20 : decode cX2_key 20 = .ok (.goto 4, 3) := by decide +kernel
theorem dX2_key_23 : decode cX2_key 23 = .ok (.iconst 0, 1) := by decide +kernel
theorem dX2_key_24 : decode cX2_key 24 = .ok (.ireturn, 1) := by decide +kernel
set_option maxRecDepth 20000 in
theorem ggX2_tag_X1_hasPlace : GoodIn wsX2_tag wsX1_hasPlace := goodIn_r _ [7, 8, 13, 14, 15, 16, 17] (by decide +kernel) (by decide +kernel)
set_option maxRecDepth 20000 in
theorem gX2_tag_X1_hasPlace : GoodIn wsX2_tag (wsV RX2 83 RX1 yX1_hasPlace wsX1_hasPlace) := goodIn_app (goodIn_of _ (by decide +kernel)) ggX2_tag_X1_hasPlace
theorem dX2_tag_0 : decode cX2_tag 0 = .ok (.aload_n 0, 1) := by decide +kernel
theorem dX2_tag_1 : decode cX2_tag 1 = .ok (.getfield 10, 3) := by decide +kernel
theorem dX2_tag_4 : decode cX2_tag 4 = .ok (.iload_n 1, 1) := by decide +kernel
theorem dX2_tag_5 : decode cX2_tag 5 = .ok (.invokevirtual 83, 3) := by decide +kernel
theorem dX2_tag_8 : decode cX2_tag 8 = .ok (.ifCond .eq 15, 3) := by decide +kernel
theorem dX2_tag_11 : decode cX2_tag 11 = .ok (.aload_n 0, 1) := by decide +kernel
theorem dX2_tag_12 : decode cX2_tag 12 = .ok (.getfield 10, 3) := by decide +kernel
theorem dX2_tag_15 : decode cX2_tag 15 = .ok (.getfield 90, 3) := by decide +kernel
theorem dX2_tag_18 : decode cX2_tag 18 = .ok (.iload_n 1, 1) := by decide +kernel
theorem dX2_tag_19 : decode cX2_tag 19 = .ok (.iaload, 1) := by decide +kernel
theorem dX2_tag_20 : decode cX2_tag 20 = .ok (.goto 4, 3) := by decide +kernel
theorem dX2_tag_23 : decode cX2_tag 23 = .ok (.iconst 0, 1) := by decide +kernel
theorem dX2_tag_24 : decode cX2_tag 24 = .ok (.ireturn, 1) := by decide +kernel
set_option maxRecDepth 20000 in
theorem ggX2_count_X1_countSortedStretches : GoodIn wsX2_count wsX1_countSortedStretches := goodIn_r _ [7, 8, 9, 22, 23, 24, 25, 26] (by decide +kernel) (by decide +kernel)
set_option maxRecDepth 20000 in
theorem gX2_count_X1_countSortedStretches : GoodIn wsX2_count (wsV RX2 93 RX1 yX1_countSortedStretches wsX1_countSortedStretches) := goodIn_app (goodIn_of _ (by decide +kernel)) ggX2_count_X1_countSortedStretches
set_option maxRecDepth 20000 in
theorem ggX2_count_X1_countDifferentKeys : GoodIn wsX2_count wsX1_countDifferentKeys := goodIn_r _ [13, 8, 14, 15, 16, 6, 17, 9, 22, 23, 24, 25, 26] (by decide +kernel) (by decide +kernel)
set_option maxRecDepth 20000 in
theorem gX2_count_X1_countDifferentKeys : GoodIn wsX2_count (wsV RX2 97 RX1 yX1_countDifferentKeys wsX1_countDifferentKeys) := goodIn_app (goodIn_of _ (by decide +kernel)) ggX2_count_X1_countDifferentKeys
theorem dX2_count_0 : decode cX2_count 0 = .ok (.iload_n 1, 1) := by decide +kernel
theorem dX2_count_1 : decode cX2_count 1 = .ok (.tableswitch 51 0 2 #[27, 35, 43], 27) := by decide +kernel
theorem dX2_count_28 : decode cX2_count 28 = .ok (.aload_n 0, 1) := by decide +kernel
theorem dX2_count_29 : decode cX2_count 29 = .ok (.getfield 10, 3) := by decide +kernel
theorem dX2_count_32 : decode cX2_count 32 = .ok (.getfield 24, 3) := by decide +kernel
theorem dX2_count_35 : decode cX2_count 35 = .ok (.ireturn, 1) := by decide +kernel
theorem dX2_count_36 : decode cX2_count 36 = .ok (.aload_n 0, 1) := by decide +kernel
theorem dX2_count_37 : decode cX2_count 37 = .ok (.getfield 10, 3) := by decide +kernel
theorem dX2_count_40 : decode cX2_count 40 = .ok (.invokevirtual 93, 3) := by decide +kernel
theorem dX2_count_43 : decode cX2_count 43 = .ok (.ireturn, 1) := by decide +kernel
theorem dX2_count_44 : decode cX2_count 44 = .ok (.aload_n 0, 1) := by decide +kernel
theorem dX2_count_45 : decode cX2_count 45 = .ok (.getfield 10, 3) := by decide +kernel
theorem dX2_count_48 : decode cX2_count 48 = .ok (.invokevirtual 97, 3) := by decide +kernel
theorem dX2_count_51 : decode cX2_count 51 = .ok (.ireturn, 1) := by decide +kernel
theorem dX2_count_52 : decode cX2_count 52 = .ok (.iconst (-1), 1) := by decide +kernel
theorem dX2_count_53 : decode cX2_count 53 = .ok (.ireturn, 1) := by decide +kernel
set_option maxRecDepth 20000 in
theorem ggX2_check_X2_levels : GoodIn wsX2_check wsX2_levels := goodIn_r _ [7] (by decide +kernel) (by decide +kernel)
set_option maxRecDepth 20000 in
theorem gX2_check_X2_levels : GoodIn wsX2_check (va_wsS RX2 103 yX2_levels wsX2_levels) := goodIn_app (goodIn_of _ (by decide +kernel)) ggX2_check_X2_levels
theorem dX2_check_0 : decode cX2_check 0 = .ok (.aload_n 0, 1) := by decide +kernel
theorem dX2_check_1 : decode cX2_check 1 = .ok (.getfield 100, 3) := by decide +kernel
theorem dX2_check_4 : decode cX2_check 4 = .ok (.aload_n 0, 1) := by decide +kernel
theorem dX2_check_5 : decode cX2_check 5 = .ok (.getfield 100, 3) := by decide +kernel
theorem dX2_check_8 : decode cX2_check 8 = .ok (.invokestatic 103, 3) := by decide +kernel
theorem dX2_check_11 : decode cX2_check 11 = .ok (.imul, 1) := by decide +kernel
theorem dX2_check_12 : decode cX2_check 12 = .ok (.istore_n 1, 1) := by decide +kernel
theorem dX2_check_13 : decode cX2_check 13 = .ok (.aload_n 0, 1) := by decide +kernel
theorem dX2_check_14 : decode cX2_check 14 = .ok (.getfield 107, 3) := by decide +kernel
theorem dX2_check_17 : decode cX2_check 17 = .ok (.bipush 8, 2) := by decide +kernel
theorem dX2_check_19 : decode cX2_check 19 = .ok (.iload_n 1, 1) := by decide +kernel
theorem dX2_check_20 : decode cX2_check 20 = .ok (.imul, 1) := by decide +kernel
theorem dX2_check_21 : decode cX2_check 21 = .ok (.if_icmp .gt 18, 3) := by decide +kernel
theorem dX2_check_24 : decode cX2_check 24 = .ok (.aload_n 0, 1) := by decide +kernel
theorem dX2_check_25 : decode cX2_check 25 = .ok (.getfield 110, 3) := by decide +kernel
theorem dX2_check_28 : decode cX2_check 28 = .ok (.bipush 40, 2) := by decide +kernel
theorem dX2_check_30 : decode cX2_check 30 = .ok (.iload_n 1, 1) := by decide +kernel
theorem dX2_check_31 : decode cX2_check 31 = .ok (.imul, 1) := by decide +kernel
theorem dX2_check_32 : decode cX2_check 32 = .ok (.if_icmp .gt 7, 3) := by decide +kernel
theorem dX2_check_35 : decode cX2_check 35 = .ok (.iconst 1, 1) := by decide +kernel
theorem dX2_check_36 : decode cX2_check 36 = .ok (.goto 4, 3) := by decide +kernel
theorem dX2_check_39 : decode cX2_check 39 = .ok (.iconst 0, 1) := by decide +kernel
theorem dX2_check_40 : decode cX2_check 40 = .ok (.istore_n 2, 1) := by decide +kernel
theorem dX2_check_41 : decode cX2_check 41 = .ok (.iload_n 2, 1) := by decide +kernel
theorem dX2_check_42 : decode cX2_check 42 = .ok (.ifCond .eq 7, 3) := by decide +kernel
theorem dX2_check_45 : decode cX2_check 45 = .ok (.iconst 1, 1) := by decide +kernel
theorem dX2_check_46 : decode cX2_check 46 = .ok (.goto 4, 3) := by decide +kernel
theorem dX2_check_49 : decode cX2_check 49 = .ok (.iconst 0, 1) := by decide +kernel
theorem dX2_check_50 : decode cX2_check 50 = .ok (.ireturn, 1) := by decide +kernel
theorem dX2_keepCounts_0 : decode cX2_keepCounts 0 = .ok (.aload_n 0, 1) := by decide +kernel
theorem dX2_keepCounts_1 : decode cX2_keepCounts 1 = .ok (.iload_n 1, 1) := by decide +kernel
theorem dX2_keepCounts_2 : decode cX2_keepCounts 2 = .ok (.putfield 100, 3) := by decide +kernel
theorem dX2_keepCounts_5 : decode cX2_keepCounts 5 = .ok (.aload_n 0, 1) := by decide +kernel
theorem dX2_keepCounts_6 : decode cX2_keepCounts 6 = .ok (.aload_n 0, 1) := by decide +kernel
theorem dX2_keepCounts_7 : decode cX2_keepCounts 7 = .ok (.getfield 10, 3) := by decide +kernel
theorem dX2_keepCounts_10 : decode cX2_keepCounts 10 = .ok (.getfield 113, 3) := by decide +kernel
theorem dX2_keepCounts_13 : decode cX2_keepCounts 13 = .ok (.putfield 107, 3) := by decide +kernel
theorem dX2_keepCounts_16 : decode cX2_keepCounts 16 = .ok (.aload_n 0, 1) := by decide +kernel
theorem dX2_keepCounts_17 : decode cX2_keepCounts 17 = .ok (.aload_n 0, 1) := by decide +kernel
theorem dX2_keepCounts_18 : decode cX2_keepCounts 18 = .ok (.getfield 10, 3) := by decide +kernel
theorem dX2_keepCounts_21 : decode cX2_keepCounts 21 = .ok (.getfield 116, 3) := by decide +kernel
theorem dX2_keepCounts_24 : decode cX2_keepCounts 24 = .ok (.putfield 110, 3) := by decide +kernel
theorem dX2_keepCounts_27 : decode cX2_keepCounts 27 = .ok (.return_, 1) := by decide +kernel
theorem dX2_levels_0 : decode cX2_levels 0 = .ok (.iconst 1, 1) := by decide +kernel
theorem dX2_levels_1 : decode cX2_levels 1 = .ok (.istore_n 1, 1) := by decide +kernel
theorem dX2_levels_2 : decode cX2_levels 2 = .ok (.iload_n 1, 1) := by decide +kernel
theorem dX2_levels_3 : decode cX2_levels 3 = .ok (.bipush 16, 2) := by decide +kernel
theorem dX2_levels_5 : decode cX2_levels 5 = .ok (.if_icmp .ge 16, 3) := by decide +kernel
theorem dX2_levels_8 : decode cX2_levels 8 = .ok (.iconst 1, 1) := by decide +kernel
theorem dX2_levels_9 : decode cX2_levels 9 = .ok (.iload_n 1, 1) := by decide +kernel
theorem dX2_levels_10 : decode cX2_levels 10 = .ok (.ishl, 1) := by decide +kernel
theorem dX2_levels_11 : decode cX2_levels 11 = .ok (.iload_n 0, 1) := by decide +kernel
theorem dX2_levels_12 : decode cX2_levels 12 = .ok (.if_icmp .ge 9, 3) := by decide +kernel
theorem dX2_levels_15 : decode cX2_levels 15 = .ok (.iinc 1 1, 3) := by decide +kernel
theorem dX2_levels_18 : decode cX2_levels 18 = .ok (.goto (-16), 3) := by decide +kernel
theorem dX2_levels_21 : decode cX2_levels 21 = .ok (.iload_n 1, 1) := by decide +kernel
theorem dX2_levels_22 : decode cX2_levels 22 = .ok (.ireturn, 1) := by decide +kernel
end
section
theorem dX3_init_0 : decode cX3_init 0 = .ok (.aload_n 0, 1) := by decide +kernel
theorem dX3_init_1 : decode cX3_init 1 = .ok (.invokespecial 1, 3) := by decide +kernel
theorem dX3_init_4 : decode cX3_init 4 = .ok (.aload_n 0, 1) := by decide +kernel
theorem dX3_init_5 : decode cX3_init 5 = .ok (.sipush 500, 3) := by decide +kernel
theorem dX3_init_8 : decode cX3_init 8 = .ok (.newarray .int, 2) := by decide +kernel
theorem dX3_init_10 : decode cX3_init 10 = .ok (.putfield 7, 3) := by decide +kernel
theorem dX3_init_13 : decode cX3_init 13 = .ok (.aload_n 0, 1) := by decide +kernel
theorem dX3_init_14 : decode cX3_init 14 = .ok (.sipush 500, 3) := by decide +kernel
theorem dX3_init_17 : decode cX3_init 17 = .ok (.newarray .int, 2) := by decide +kernel
theorem dX3_init_19 : decode cX3_init 19 = .ok (.putfield 13, 3) := by decide +kernel
theorem dX3_init_22 : decode cX3_init 22 = .ok (.aload_n 0, 1) := by decide +kernel
theorem dX3_init_23 : decode cX3_init 23 = .ok (.sipush 500, 3) := by decide +kernel
theorem dX3_init_26 : decode cX3_init 26 = .ok (.newarray .int, 2) := by decide +kernel
theorem dX3_init_28 : decode cX3_init 28 = .ok (.putfield 16, 3) := by decide +kernel
theorem dX3_init_31 : decode cX3_init 31 = .ok (.aload_n 0, 1) := by decide +kernel
theorem dX3_init_32 : decode cX3_init 32 = .ok (.sipush 500, 3) := by decide +kernel
theorem dX3_init_35 : decode cX3_init 35 = .ok (.newarray .int, 2) := by decide +kernel
theorem dX3_init_37 : decode cX3_init 37 = .ok (.putfield 19, 3) := by decide +kernel
theorem dX3_init_40 : decode cX3_init 40 = .ok (.aload_n 0, 1) := by decide +kernel
theorem dX3_init_41 : decode cX3_init 41 = .ok (.iconst 0, 1) := by decide +kernel
theorem dX3_init_42 : decode cX3_init 42 = .ok (.putfield 22, 3) := by decide +kernel
theorem dX3_init_45 : decode cX3_init 45 = .ok (.return_, 1) := by decide +kernel
theorem dX3_isOrder_0 : decode cX3_isOrder 0 = .ok (.iload_n 0, 1) := by decide +kernel
theorem dX3_isOrder_1 : decode cX3_isOrder 1 = .ok (.ifCond .lt 12, 3) := by decide +kernel
theorem dX3_isOrder_4 : decode cX3_isOrder 4 = .ok (.iload_n 0, 1) := by decide +kernel
theorem dX3_isOrder_5 : decode cX3_isOrder 5 = .ok (.iconst 3, 1) := by decide +kernel
theorem dX3_isOrder_6 : decode cX3_isOrder 6 = .ok (.if_icmp .gt 7, 3) := by decide +kernel
theorem dX3_isOrder_9 : decode cX3_isOrder 9 = .ok (.iconst 1, 1) := by decide +kernel
theorem dX3_isOrder_10 : decode cX3_isOrder 10 = .ok (.goto 4, 3) := by decide +kernel
theorem dX3_isOrder_13 : decode cX3_isOrder 13 = .ok (.iconst 0, 1) := by decide +kernel
theorem dX3_isOrder_14 : decode cX3_isOrder 14 = .ok (.ireturn, 1) := by decide +kernel
theorem dX3_isStretch_0 : decode cX3_isStretch 0 = .ok (.iload_n 1, 1) := by decide +kernel
theorem dX3_isStretch_1 : decode cX3_isStretch 1 = .ok (.ifCond .lt 20, 3) := by decide +kernel
theorem dX3_isStretch_4 : decode cX3_isStretch 4 = .ok (.iload_n 1, 1) := by decide +kernel
theorem dX3_isStretch_5 : decode cX3_isStretch 5 = .ok (.iload_n 2, 1) := by decide +kernel
theorem dX3_isStretch_6 : decode cX3_isStretch 6 = .ok (.if_icmp .gt 15, 3) := by decide +kernel
theorem dX3_isStretch_9 : decode cX3_isStretch 9 = .ok (.iload_n 2, 1) := by decide +kernel
theorem dX3_isStretch_10 : decode cX3_isStretch 10 = .ok (.aload_n 0, 1) := by decide +kernel
theorem dX3_isStretch_11 : decode cX3_isStretch 11 = .ok (.getfield 22, 3) := by decide +kernel
theorem dX3_isStretch_14 : decode cX3_isStretch 14 = .ok (.if_icmp .gt 7, 3) := by decide +kernel
theorem dX3_isStretch_17 : decode cX3_isStretch 17 = .ok (.iconst 1, 1) := by decide +kernel
theorem dX3_isStretch_18 : decode cX3_isStretch 18 = .ok (.goto 4, 3) := by decide +kernel
theorem dX3_isStretch_21 : decode cX3_isStretch 21 = .ok (.iconst 0, 1) := by decide +kernel
theorem dX3_isStretch_22 : decode cX3_isStretch 22 = .ok (.ireturn, 1) := by decide +kernel
theorem dX3_isLess_0 : decode cX3_isLess 0 = .ok (.iload_n 2, 1) := by decide +kernel
theorem dX3_isLess_1 : decode cX3_isLess 1 = .ok (.tableswitch 71 0 2 #[27, 38, 60], 27) := by decide +kernel
theorem dX3_isLess_28 : decode cX3_isLess 28 = .ok (.iload_n 0, 1) := by decide +kernel
theorem dX3_isLess_29 : decode cX3_isLess 29 = .ok (.iload_n 1, 1) := by decide +kernel
theorem dX3_isLess_30 : decode cX3_isLess 30 = .ok (.if_icmp .ge 7, 3) := by decide +kernel
theorem dX3_isLess_33 : decode cX3_isLess 33 = .ok (.iconst 1, 1) := by decide +kernel
theorem dX3_isLess_34 : decode cX3_isLess 34 = .ok (.goto 4, 3) := by decide +kernel
theorem dX3_isLess_37 : decode cX3_isLess 37 = .ok (.iconst 0, 1) := by decide +kernel
theorem dX3_isLess_38 : decode cX3_isLess 38 = .ok (.ireturn, 1) := by decide +kernel
theorem dX3_isLess_39 : decode cX3_isLess 39 = .ok (.iload_n 0, 1) := by decide +kernel
theorem dX3_isLess_40 : decode cX3_isLess 40 = .ok (.i2l, 1) := by decide +kernel
theorem dX3_isLess_41 : decode cX3_isLess 41 = .ok (.ldc2_w 26, 3) := by decide +kernel
theorem dX3_isLess_44 : decode cX3_isLess 44 = .ok (.land, 1) := by decide +kernel
theorem dX3_isLess_45 : decode cX3_isLess 45 = .ok (.iload_n 1, 1) := by decide +kernel
theorem dX3_isLess_46 : decode cX3_isLess 46 = .ok (.i2l, 1) := by decide +kernel
theorem dX3_isLess_47 : decode cX3_isLess 47 = .ok (.ldc2_w 26, 3) := by decide +kernel
theorem dX3_isLess_50 : decode cX3_isLess 50 = .ok (.land, 1) := by decide +kernel
theorem dX3_isLess_51 : decode cX3_isLess 51 = .ok (.lcmp, 1) := by decide +kernel
theorem dX3_isLess_52 : decode cX3_isLess 52 = .ok (.ifCond .ge 7, 3) := by decide +kernel
theorem dX3_isLess_55 : decode cX3_isLess 55 = .ok (.iconst 1, 1) := by decide +kernel
theorem dX3_isLess_56 : decode cX3_isLess 56 = .ok (.goto 4, 3) := by decide +kernel
theorem dX3_isLess_59 : decode cX3_isLess 59 = .ok (.iconst 0, 1) := by decide +kernel
theorem dX3_isLess_60 : decode cX3_isLess 60 = .ok (.ireturn, 1) := by decide +kernel
theorem dX3_isLess_61 : decode cX3_isLess 61 = .ok (.iload_n 1, 1) := by decide +kernel
theorem dX3_isLess_62 : decode cX3_isLess 62 = .ok (.iload_n 0, 1) := by decide +kernel
theorem dX3_isLess_63 : decode cX3_isLess 63 = .ok (.if_icmp .ge 7, 3) := by decide +kernel
theorem dX3_isLess_66 : decode cX3_isLess 66 = .ok (.iconst 1, 1) := by decide +kernel
theorem dX3_isLess_67 : decode cX3_isLess 67 = .ok (.goto 4, 3) := by decide +kernel
theorem dX3_isLess_70 : decode cX3_isLess 70 = .ok (.iconst 0, 1) := by decide +kernel
theorem dX3_isLess_71 : decode cX3_isLess 71 = .ok (.ireturn, 1) := by decide +kernel
theorem dX3_isLess_72 : decode cX3_isLess 72 = .ok (.iload_n 0, 1) := by decide +kernel
theorem dX3_isLess_73 : decode cX3_isLess 73 = .ok (.sipush 255, 3) := by decide +kernel
theorem dX3_isLess_76 : decode cX3_isLess 76 = .ok (.iand, 1) := by decide +kernel
theorem dX3_isLess_77 : decode cX3_isLess 77 = .ok (.iload_n 1, 1) := by decide +kernel
theorem dX3_isLess_78 : decode cX3_isLess 78 = .ok (.sipush 255, 3) := by decide +kernel
theorem dX3_isLess_81 : decode cX3_isLess 81 = .ok (.iand, 1) := by decide +kernel
theorem dX3_isLess_82 : decode cX3_isLess 82 = .ok (.if_icmp .ge 7, 3) := by decide +kernel
theorem dX3_isLess_85 : decode cX3_isLess 85 = .ok (.iconst 1, 1) := by decide +kernel
theorem dX3_isLess_86 : decode cX3_isLess 86 = .ok (.goto 4, 3) := by decide +kernel
theorem dX3_isLess_89 : decode cX3_isLess 89 = .ok (.iconst 0, 1) := by decide +kernel
theorem dX3_isLess_90 : decode cX3_isLess 90 = .ok (.ireturn, 1) := by decide +kernel
set_option maxRecDepth 20000 in
theorem ggX3_isSorted_X3_isLess : GoodIn wsX3_isSorted wsX3_isLess := goodIn_r _ [5, 6] (by decide +kernel) (by decide +kernel)
set_option maxRecDepth 20000 in
theorem gX3_isSorted_X3_isLess : GoodIn wsX3_isSorted (va_wsS RX3 28 yX3_isLess wsX3_isLess) := goodIn_app (goodIn_of _ (by decide +kernel)) ggX3_isSorted_X3_isLess
theorem dX3_isSorted_0 : decode cX3_isSorted 0 = .ok (.iload_n 1, 1) := by decide +kernel
theorem dX3_isSorted_1 : decode cX3_isSorted 1 = .ok (.iconst 1, 1) := by decide +kernel
theorem dX3_isSorted_2 : decode cX3_isSorted 2 = .ok (.iadd, 1) := by decide +kernel
theorem dX3_isSorted_3 : decode cX3_isSorted 3 = .ok (.istore 4, 2) := by decide +kernel
theorem dX3_isSorted_5 : decode cX3_isSorted 5 = .ok (.iload 4, 2) := by decide +kernel
theorem dX3_isSorted_7 : decode cX3_isSorted 7 = .ok (.iload_n 2, 1) := by decide +kernel
theorem dX3_isSorted_8 : decode cX3_isSorted 8 = .ok (.if_icmp .ge 34, 3) := by decide +kernel
theorem dX3_isSorted_11 : decode cX3_isSorted 11 = .ok (.aload_n 0, 1) := by decide +kernel
theorem dX3_isSorted_12 : decode cX3_isSorted 12 = .ok (.getfield 7, 3) := by decide +kernel
theorem dX3_isSorted_15 : decode cX3_isSorted 15 = .ok (.iload 4, 2) := by decide +kernel
theorem dX3_isSorted_17 : decode cX3_isSorted 17 = .ok (.iaload, 1) := by decide +kernel
theorem dX3_isSorted_18 : decode cX3_isSorted 18 = .ok (.aload_n 0, 1) := by decide +kernel
theorem dX3_isSorted_19 : decode cX3_isSorted 19 = .ok (.getfield 7, 3) := by decide +kernel
theorem dX3_isSorted_22 : decode cX3_isSorted 22 = .ok (.iload 4, 2) := by decide +kernel
theorem dX3_isSorted_24 : decode cX3_isSorted 24 = .ok (.iconst 1, 1) := by decide +kernel
theorem dX3_isSorted_25 : decode cX3_isSorted 25 = .ok (.isub, 1) := by decide +kernel
theorem dX3_isSorted_26 : decode cX3_isSorted 26 = .ok (.iaload, 1) := by decide +kernel
theorem dX3_isSorted_27 : decode cX3_isSorted 27 = .ok (.iload_n 3, 1) := by decide +kernel
theorem dX3_isSorted_28 : decode cX3_isSorted 28 = .ok (.invokestatic 28, 3) := by decide +kernel
theorem dX3_isSorted_31 : decode cX3_isSorted 31 = .ok (.ifCond .eq 5, 3) := by decide +kernel
theorem dX3_isSorted_34 : decode cX3_isSorted 34 = .ok (.iconst 0, 1) := by decide +kernel
theorem dX3_isSorted_35 : decode cX3_isSorted 35 = .ok (.ireturn, 1) := by decide +kernel
theorem dX3_isSorted_36 : decode cX3_isSorted 36 = .ok (.iinc 4 1, 3) := by decide +kernel
theorem dX3_isSorted_39 : decode cX3_isSorted 39 = .ok (.goto (-34), 3) := by decide +kernel
theorem dX3_isSorted_42 : decode cX3_isSorted 42 = .ok (.iconst 1, 1) := by decide +kernel
theorem dX3_isSorted_43 : decode cX3_isSorted 43 = .ok (.ireturn, 1) := by decide +kernel
theorem dX3_put_0 : decode cX3_put 0 = .ok (.aload_n 0, 1) := by decide +kernel
theorem dX3_put_1 : decode cX3_put 1 = .ok (.getfield 22, 3) := by decide +kernel
theorem dX3_put_4 : decode cX3_put 4 = .ok (.sipush 500, 3) := by decide +kernel
theorem dX3_put_7 : decode cX3_put 7 = .ok (.if_icmp .ne 5, 3) := by decide +kernel
theorem dX3_put_10 : decode cX3_put 10 = .ok (.iconst (-1), 1) := by decide +kernel
theorem dX3_put_11 : decode cX3_put 11 = .ok (.ireturn, 1) := by decide +kernel
theorem dX3_put_12 : decode cX3_put 12 = .ok (.aload_n 0, 1) := by decide +kernel
theorem dX3_put_13 : decode cX3_put 13 = .ok (.getfield 7, 3) := by decide +kernel
theorem dX3_put_16 : decode cX3_put 16 = .ok (.aload_n 0, 1) := by decide +kernel
theorem dX3_put_17 : decode cX3_put 17 = .ok (.getfield 22, 3) := by decide +kernel
theorem dX3_put_20 : decode cX3_put 20 = .ok (.iload_n 1, 1) := by decide +kernel
theorem dX3_put_21 : decode cX3_put 21 = .ok (.iastore, 1) := by decide +kernel
theorem dX3_put_22 : decode cX3_put 22 = .ok (.aload_n 0, 1) := by decide +kernel
theorem dX3_put_23 : decode cX3_put 23 = .ok (.getfield 13, 3) := by decide +kernel
theorem dX3_put_26 : decode cX3_put 26 = .ok (.aload_n 0, 1) := by decide +kernel
theorem dX3_put_27 : decode cX3_put 27 = .ok (.getfield 22, 3) := by decide +kernel
theorem dX3_put_30 : decode cX3_put 30 = .ok (.iload_n 2, 1) := by decide +kernel
theorem dX3_put_31 : decode cX3_put 31 = .ok (.iastore, 1) := by decide +kernel
theorem dX3_put_32 : decode cX3_put 32 = .ok (.aload_n 0, 1) := by decide +kernel
theorem dX3_put_33 : decode cX3_put 33 = .ok (.dup, 1) := by decide +kernel
theorem dX3_put_34 : decode cX3_put 34 = .ok (.getfield 22, 3) := by decide +kernel
theorem dX3_put_37 : decode cX3_put 37 = .ok (.iconst 1, 1) := by decide +kernel
theorem dX3_put_38 : decode cX3_put 38 = .ok (.iadd, 1) := by decide +kernel
theorem dX3_put_39 : decode cX3_put 39 = .ok (.putfield 22, 3) := by decide +kernel
theorem dX3_put_42 : decode cX3_put 42 = .ok (.aload_n 0, 1) := by decide +kernel
theorem dX3_put_43 : decode cX3_put 43 = .ok (.getfield 22, 3) := by decide +kernel
theorem dX3_put_46 : decode cX3_put 46 = .ok (.ireturn, 1) := by decide +kernel
theorem dX3_run_0 : decode cX3_run 0 = .ok (.iload_n 1, 1) := by decide +kernel
theorem dX3_run_1 : decode cX3_run 1 = .ok (.iconst 1, 1) := by decide +kernel
theorem dX3_run_2 : decode cX3_run 2 = .ok (.if_icmp .lt 22, 3) := by decide +kernel
theorem dX3_run_5 : decode cX3_run 5 = .ok (.iload_n 1, 1) := by decide +kernel
theorem dX3_run_6 : decode cX3_run 6 = .ok (.sipush 500, 3) := by decide +kernel
theorem dX3_run_9 : decode cX3_run 9 = .ok (.if_icmp .gt 15, 3) := by decide +kernel
theorem dX3_run_12 : decode cX3_run 12 = .ok (.aload_n 0, 1) := by decide +kernel
theorem dX3_run_13 : decode cX3_run 13 = .ok (.getfield 22, 3) := by decide +kernel
theorem dX3_run_16 : decode cX3_run 16 = .ok (.iload_n 1, 1) := by decide +kernel
theorem dX3_run_17 : decode cX3_run 17 = .ok (.iadd, 1) := by decide +kernel
theorem dX3_run_18 : decode cX3_run 18 = .ok (.sipush 500, 3) := by decide +kernel
theorem dX3_run_21 : decode cX3_run 21 = .ok (.if_icmp .le 5, 3) := by decide +kernel
theorem dX3_run_24 : decode cX3_run 24 = .ok (.iconst (-1), 1) := by decide +kernel
theorem dX3_run_25 : decode cX3_run 25 = .ok (.ireturn, 1) := by decide +kernel
theorem dX3_run_26 : decode cX3_run 26 = .ok (.iconst 0, 1) := by decide +kernel
theorem dX3_run_27 : decode cX3_run 27 = .ok (.istore 5, 2) := by decide +kernel
theorem dX3_run_29 : decode cX3_run 29 = .ok (.iload 5, 2) := by decide +kernel
theorem dX3_run_31 : decode cX3_run 31 = .ok (.iload_n 1, 1) := by decide +kernel
theorem dX3_run_32 : decode cX3_run 32 = .ok (.if_icmp .ge 44, 3) := by decide +kernel
theorem dX3_run_35 : decode cX3_run 35 = .ok (.aload_n 0, 1) := by decide +kernel
theorem dX3_run_36 : decode cX3_run 36 = .ok (.getfield 7, 3) := by decide +kernel
theorem dX3_run_39 : decode cX3_run 39 = .ok (.aload_n 0, 1) := by decide +kernel
theorem dX3_run_40 : decode cX3_run 40 = .ok (.getfield 22, 3) := by decide +kernel
theorem dX3_run_43 : decode cX3_run 43 = .ok (.iload 5, 2) := by decide +kernel
theorem dX3_run_45 : decode cX3_run 45 = .ok (.iadd, 1) := by decide +kernel
theorem dX3_run_46 : decode cX3_run 46 = .ok (.iload_n 2, 1) := by decide +kernel
theorem dX3_run_47 : decode cX3_run 47 = .ok (.iload 5, 2) := by decide +kernel
theorem dX3_run_49 : decode cX3_run 49 = .ok (.iload_n 3, 1) := by decide +kernel
theorem dX3_run_50 : decode cX3_run 50 = .ok (.imul, 1) := by decide +kernel
theorem dX3_run_51 : decode cX3_run 51 = .ok (.iadd, 1) := by decide +kernel
theorem dX3_run_52 : decode cX3_run 52 = .ok (.iastore, 1) := by decide +kernel
theorem dX3_run_53 : decode cX3_run 53 = .ok (.aload_n 0, 1) := by decide +kernel
theorem dX3_run_54 : decode cX3_run 54 = .ok (.getfield 13, 3) := by decide +kernel
theorem dX3_run_57 : decode cX3_run 57 = .ok (.aload_n 0, 1) := by decide +kernel
theorem dX3_run_58 : decode cX3_run 58 = .ok (.getfield 22, 3) := by decide +kernel
theorem dX3_run_61 : decode cX3_run 61 = .ok (.iload 5, 2) := by decide +kernel
theorem dX3_run_63 : decode cX3_run 63 = .ok (.iadd, 1) := by decide +kernel
theorem dX3_run_64 : decode cX3_run 64 = .ok (.iload 4, 2) := by decide +kernel
theorem dX3_run_66 : decode cX3_run 66 = .ok (.iload 5, 2) := by decide +kernel
theorem dX3_run_68 : decode cX3_run 68 = .ok (.iadd, 1) := by decide +kernel
theorem dX3_run_69 : decode cX3_run 69 = .ok (.iastore, 1) := by decide +kernel
theorem dX3_run_70 : decode cX3_run 70 = .ok (.iinc 5 1, 3) := by decide +kernel
theorem dX3_run_73 : decode cX3_run 73 = .ok (.goto (-44), 3) := by decide +kernel
theorem dX3_run_76 : decode cX3_run 76 = .ok (.aload_n 0, 1) := by decide +kernel
theorem dX3_run_77 : decode cX3_run 77 = .ok (.aload_n 0, 1) := by decide +kernel
theorem dX3_run_78 : decode cX3_run 78 = .ok (.getfield 22, 3) := by decide +kernel
theorem dX3_run_81 : decode cX3_run 81 = .ok (.iload_n 1, 1) := by decide +kernel
theorem dX3_run_82 : decode cX3_run 82 = .ok (.iadd, 1) := by decide +kernel
theorem dX3_run_83 : decode cX3_run 83 = .ok (.putfield 22, 3) := by decide +kernel
theorem dX3_run_86 : decode cX3_run 86 = .ok (.aload_n 0, 1) := by decide +kernel
theorem dX3_run_87 : decode cX3_run 87 = .ok (.getfield 22, 3) := by decide +kernel
theorem dX3_run_90 : decode cX3_run 90 = .ok (.ireturn, 1) := by decide +kernel
theorem dX3_clear_0 : decode cX3_clear 0 = .ok (.aload_n 0, 1) := by decide +kernel
theorem dX3_clear_1 : decode cX3_clear 1 = .ok (.getfield 22, 3) := by decide +kernel
theorem dX3_clear_4 : decode cX3_clear 4 = .ok (.istore_n 1, 1) := by decide +kernel
theorem dX3_clear_5 : decode cX3_clear 5 = .ok (.aload_n 0, 1) := by decide +kernel
theorem dX3_clear_6 : decode cX3_clear 6 = .ok (.iconst 0, 1) := by decide +kernel
theorem dX3_clear_7 : decode cX3_clear 7 = .ok (.putfield 22, 3) := by decide +kernel
theorem dX3_clear_10 : decode cX3_clear 10 = .ok (.iload_n 1, 1) := by decide +kernel
theorem dX3_clear_11 : decode cX3_clear 11 = .ok (.ireturn, 1) := by decide +kernel
set_option maxRecDepth 20000 in
theorem ggX3_place_X3_isLess : GoodIn wsX3_place wsX3_isLess := goodIn_r _ [5, 6] (by decide +kernel) (by decide +kernel)
set_option maxRecDepth 20000 in
theorem gX3_place_X3_isLess : GoodIn wsX3_place (va_wsS RX3 28 yX3_isLess wsX3_isLess) := goodIn_app (goodIn_of _ (by decide +kernel)) ggX3_place_X3_isLess
theorem dX3_place_0 : decode cX3_place 0 = .ok (.iload_n 2, 1) := by decide +kernel
theorem dX3_place_1 : decode cX3_place 1 = .ok (.istore 5, 2) := by decide +kernel
theorem dX3_place_3 : decode cX3_place 3 = .ok (.iload_n 2, 1) := by decide +kernel
theorem dX3_place_4 : decode cX3_place 4 = .ok (.istore 6, 2) := by decide +kernel
theorem dX3_place_6 : decode cX3_place 6 = .ok (.iload 6, 2) := by decide +kernel
theorem dX3_place_8 : decode cX3_place 8 = .ok (.iload_n 3, 1) := by decide +kernel
theorem dX3_place_9 : decode cX3_place 9 = .ok (.if_icmp .ge 80, 3) := by decide +kernel
theorem dX3_place_12 : decode cX3_place 12 = .ok (.aload_n 0, 1) := by decide +kernel
theorem dX3_place_13 : decode cX3_place 13 = .ok (.getfield 7, 3) := by decide +kernel
theorem dX3_place_16 : decode cX3_place 16 = .ok (.iload 6, 2) := by decide +kernel
theorem dX3_place_18 : decode cX3_place 18 = .ok (.iaload, 1) := by decide +kernel
theorem dX3_place_19 : decode cX3_place 19 = .ok (.aload_n 0, 1) := by decide +kernel
theorem dX3_place_20 : decode cX3_place 20 = .ok (.getfield 7, 3) := by decide +kernel
theorem dX3_place_23 : decode cX3_place 23 = .ok (.iload_n 1, 1) := by decide +kernel
theorem dX3_place_24 : decode cX3_place 24 = .ok (.iaload, 1) := by decide +kernel
theorem dX3_place_25 : decode cX3_place 25 = .ok (.iload 4, 2) := by decide +kernel
theorem dX3_place_27 : decode cX3_place 27 = .ok (.invokestatic 28, 3) := by decide +kernel
theorem dX3_place_30 : decode cX3_place 30 = .ok (.ifCond .ne 30, 3) := by decide +kernel
theorem dX3_place_33 : decode cX3_place 33 = .ok (.iload 6, 2) := by decide +kernel
theorem dX3_place_35 : decode cX3_place 35 = .ok (.iload_n 1, 1) := by decide +kernel
theorem dX3_place_36 : decode cX3_place 36 = .ok (.if_icmp .ge 28, 3) := by decide +kernel
theorem dX3_place_39 : decode cX3_place 39 = .ok (.aload_n 0, 1) := by decide +kernel
theorem dX3_place_40 : decode cX3_place 40 = .ok (.getfield 7, 3) := by decide +kernel
theorem dX3_place_43 : decode cX3_place 43 = .ok (.iload_n 1, 1) := by decide +kernel
theorem dX3_place_44 : decode cX3_place 44 = .ok (.iaload, 1) := by decide +kernel
theorem dX3_place_45 : decode cX3_place 45 = .ok (.aload_n 0, 1) := by decide +kernel
theorem dX3_place_46 : decode cX3_place 46 = .ok (.getfield 7, 3) := by decide +kernel
theorem dX3_place_49 : decode cX3_place 49 = .ok (.iload 6, 2) := by decide +kernel
theorem dX3_place_51 : decode cX3_place 51 = .ok (.iaload, 1) := by decide +kernel
theorem dX3_place_52 : decode cX3_place 52 = .ok (.iload 4, 2) := by decide +kernel
theorem dX3_place_54 : decode cX3_place 54 = .ok (.invokestatic 28, 3) := by decide +kernel
theorem dX3_place_57 : decode cX3_place 57 = .ok (.ifCond .ne 7, 3) := by decide +kernel
theorem dX3_place_60 : decode cX3_place 60 = .ok (.iconst 1, 1) := by decide +kernel
theorem dX3_place_61 : decode cX3_place 61 = .ok (.goto 4, 3) := by decide +kernel
theorem dX3_place_64 : decode cX3_place 64 = .ok (.iconst 0, 1) := by decide +kernel
theorem dX3_place_65 : decode cX3_place 65 = .ok (.istore 7, 2) := by decide +kernel
theorem dX3_place_67 : decode cX3_place 67 = .ok (.iload 7, 2) := by decide +kernel
theorem dX3_place_69 : decode cX3_place 69 = .ok (.ifCond .eq 10, 3) := by decide +kernel
theorem dX3_place_72 : decode cX3_place 72 = .ok (.iload 5, 2) := by decide +kernel
theorem dX3_place_74 : decode cX3_place 74 = .ok (.iconst 1, 1) := by decide +kernel
theorem dX3_place_75 : decode cX3_place 75 = .ok (.iadd, 1) := by decide +kernel
theorem dX3_place_76 : decode cX3_place 76 = .ok (.goto 5, 3) := by decide +kernel
theorem dX3_place_79 : decode cX3_place 79 = .ok (.iload 5, 2) := by decide +kernel
theorem dX3_place_81 : decode cX3_place 81 = .ok (.istore 5, 2) := by decide +kernel
theorem dX3_place_83 : decode cX3_place 83 = .ok (.iinc 6 1, 3) := by decide +kernel
theorem dX3_place_86 : decode cX3_place 86 = .ok (.goto (-80), 3) := by decide +kernel
theorem dX3_place_89 : decode cX3_place 89 = .ok (.iload 5, 2) := by decide +kernel
theorem dX3_place_91 : decode cX3_place 91 = .ok (.ireturn, 1) := by decide +kernel
theorem dX3_move_0 : decode cX3_move 0 = .ok (.aload_n 0, 1) := by decide +kernel
theorem dX3_move_1 : decode cX3_move 1 = .ok (.getfield 16, 3) := by decide +kernel
theorem dX3_move_4 : decode cX3_move 4 = .ok (.iload_n 2, 1) := by decide +kernel
theorem dX3_move_5 : decode cX3_move 5 = .ok (.aload_n 0, 1) := by decide +kernel
theorem dX3_move_6 : decode cX3_move 6 = .ok (.getfield 7, 3) := by decide +kernel
theorem dX3_move_9 : decode cX3_move 9 = .ok (.iload_n 1, 1) := by decide +kernel
theorem dX3_move_10 : decode cX3_move 10 = .ok (.iaload, 1) := by decide +kernel
theorem dX3_move_11 : decode cX3_move 11 = .ok (.iastore, 1) := by decide +kernel
theorem dX3_move_12 : decode cX3_move 12 = .ok (.aload_n 0, 1) := by decide +kernel
theorem dX3_move_13 : decode cX3_move 13 = .ok (.getfield 19, 3) := by decide +kernel
theorem dX3_move_16 : decode cX3_move 16 = .ok (.iload_n 2, 1) := by decide +kernel
theorem dX3_move_17 : decode cX3_move 17 = .ok (.aload_n 0, 1) := by decide +kernel
theorem dX3_move_18 : decode cX3_move 18 = .ok (.getfield 13, 3) := by decide +kernel
theorem dX3_move_21 : decode cX3_move 21 = .ok (.iload_n 1, 1) := by decide +kernel
theorem dX3_move_22 : decode cX3_move 22 = .ok (.iaload, 1) := by decide +kernel
theorem dX3_move_23 : decode cX3_move 23 = .ok (.iastore, 1) := by decide +kernel
theorem dX3_move_24 : decode cX3_move 24 = .ok (.return_, 1) := by decide +kernel
theorem dX3_take_0 : decode cX3_take 0 = .ok (.iload_n 1, 1) := by decide +kernel
theorem dX3_take_1 : decode cX3_take 1 = .ok (.istore_n 3, 1) := by decide +kernel
theorem dX3_take_2 : decode cX3_take 2 = .ok (.iload_n 3, 1) := by decide +kernel
theorem dX3_take_3 : decode cX3_take 3 = .ok (.iload_n 2, 1) := by decide +kernel
theorem dX3_take_4 : decode cX3_take 4 = .ok (.if_icmp .ge 33, 3) := by decide +kernel
theorem dX3_take_7 : decode cX3_take 7 = .ok (.aload_n 0, 1) := by decide +kernel
theorem dX3_take_8 : decode cX3_take 8 = .ok (.getfield 7, 3) := by decide +kernel
theorem dX3_take_11 : decode cX3_take 11 = .ok (.iload_n 3, 1) := by decide +kernel
theorem dX3_take_12 : decode cX3_take 12 = .ok (.aload_n 0, 1) := by decide +kernel
theorem dX3_take_13 : decode cX3_take 13 = .ok (.getfield 16, 3) := by decide +kernel
theorem dX3_take_16 : decode cX3_take 16 = .ok (.iload_n 3, 1) := by decide +kernel
theorem dX3_take_17 : decode cX3_take 17 = .ok (.iaload, 1) := by decide +kernel
theorem dX3_take_18 : decode cX3_take 18 = .ok (.iastore, 1) := by decide +kernel
theorem dX3_take_19 : decode cX3_take 19 = .ok (.aload_n 0, 1) := by decide +kernel
theorem dX3_take_20 : decode cX3_take 20 = .ok (.getfield 13, 3) := by decide +kernel
theorem dX3_take_23 : decode cX3_take 23 = .ok (.iload_n 3, 1) := by decide +kernel
theorem dX3_take_24 : decode cX3_take 24 = .ok (.aload_n 0, 1) := by decide +kernel
theorem dX3_take_25 : decode cX3_take 25 = .ok (.getfield 19, 3) := by decide +kernel
theorem dX3_take_28 : decode cX3_take 28 = .ok (.iload_n 3, 1) := by decide +kernel
theorem dX3_take_29 : decode cX3_take 29 = .ok (.iaload, 1) := by decide +kernel
theorem dX3_take_30 : decode cX3_take 30 = .ok (.iastore, 1) := by decide +kernel
theorem dX3_take_31 : decode cX3_take 31 = .ok (.iinc 3 1, 3) := by decide +kernel
theorem dX3_take_34 : decode cX3_take 34 = .ok (.goto (-32), 3) := by decide +kernel
theorem dX3_take_37 : decode cX3_take 37 = .ok (.return_, 1) := by decide +kernel
set_option maxRecDepth 20000 in
theorem ggX3_arrange_X3_place : GoodIn wsX3_arrange wsX3_place := goodIn_r _ [5, 6, 7, 8, 4, 9, 10, 22, 23, 24, 25, 26] (by decide +kernel) (by decide +kernel)
set_option maxRecDepth 20000 in
theorem gX3_arrange_X3_place : GoodIn wsX3_arrange (wsV RX3 32 RX3 yX3_place wsX3_place) := goodIn_app (goodIn_of _ (by decide +kernel)) ggX3_arrange_X3_place
set_option maxRecDepth 20000 in
theorem ggX3_arrange_X3_move : GoodIn wsX3_arrange wsX3_move := goodIn_r _ [14, 15, 6, 16, 17, 22, 23, 24, 25, 26] (by decide +kernel) (by decide +kernel)
set_option maxRecDepth 20000 in
theorem gX3_arrange_X3_move : GoodIn wsX3_arrange (wsV RX3 36 RX3 yX3_move wsX3_move) := goodIn_app (goodIn_of _ (by decide +kernel)) ggX3_arrange_X3_move
set_option maxRecDepth 20000 in
theorem ggX3_arrange_X3_take : GoodIn wsX3_arrange wsX3_take := goodIn_r _ [21, 6, 15, 17, 16, 22, 23, 24, 25, 26] (by decide +kernel) (by decide +kernel)
set_option maxRecDepth 20000 in
theorem gX3_arrange_X3_take : GoodIn wsX3_arrange (wsV RX3 40 RX3 yX3_take wsX3_take) := goodIn_app (goodIn_of _ (by decide +kernel)) ggX3_arrange_X3_take
theorem dX3_arrange_0 : decode cX3_arrange 0 = .ok (.iload_n 1, 1) := by decide +kernel
theorem dX3_arrange_1 : decode cX3_arrange 1 = .ok (.istore 4, 2) := by decide +kernel
theorem dX3_arrange_3 : decode cX3_arrange 3 = .ok (.iload 4, 2) := by decide +kernel
theorem dX3_arrange_5 : decode cX3_arrange 5 = .ok (.iload_n 2, 1) := by decide +kernel
theorem dX3_arrange_6 : decode cX3_arrange 6 = .ok (.if_icmp .ge 24, 3) := by decide +kernel
theorem dX3_arrange_9 : decode cX3_arrange 9 = .ok (.aload_n 0, 1) := by decide +kernel
theorem dX3_arrange_10 : decode cX3_arrange 10 = .ok (.iload 4, 2) := by decide +kernel
theorem dX3_arrange_12 : decode cX3_arrange 12 = .ok (.aload_n 0, 1) := by decide +kernel
theorem dX3_arrange_13 : decode cX3_arrange 13 = .ok (.iload 4, 2) := by decide +kernel
theorem dX3_arrange_15 : decode cX3_arrange 15 = .ok (.iload_n 1, 1) := by decide +kernel
theorem dX3_arrange_16 : decode cX3_arrange 16 = .ok (.iload_n 2, 1) := by decide +kernel
theorem dX3_arrange_17 : decode cX3_arrange 17 = .ok (.iload_n 3, 1) := by decide +kernel
theorem dX3_arrange_18 : decode cX3_arrange 18 = .ok (.invokevirtual 32, 3) := by decide +kernel
theorem dX3_arrange_21 : decode cX3_arrange 21 = .ok (.invokevirtual 36, 3) := by decide +kernel
theorem dX3_arrange_24 : decode cX3_arrange 24 = .ok (.iinc 4 1, 3) := by decide +kernel
theorem dX3_arrange_27 : decode cX3_arrange 27 = .ok (.goto (-24), 3) := by decide +kernel
theorem dX3_arrange_30 : decode cX3_arrange 30 = .ok (.aload_n 0, 1) := by decide +kernel
theorem dX3_arrange_31 : decode cX3_arrange 31 = .ok (.iload_n 1, 1) := by decide +kernel
theorem dX3_arrange_32 : decode cX3_arrange 32 = .ok (.iload_n 2, 1) := by decide +kernel
theorem dX3_arrange_33 : decode cX3_arrange 33 = .ok (.invokevirtual 40, 3) := by decide +kernel
theorem dX3_arrange_36 : decode cX3_arrange 36 = .ok (.return_, 1) := by decide +kernel
set_option maxRecDepth 20000 in
theorem ggX3_sort_X3_isOrder : GoodIn wsX3_sort wsX3_isOrder := goodIn_r _ [5] (by decide +kernel) (by decide +kernel)
set_option maxRecDepth 20000 in
theorem gX3_sort_X3_isOrder : GoodIn wsX3_sort (va_wsS RX3 43 yX3_isOrder wsX3_isOrder) := goodIn_app (goodIn_of _ (by decide +kernel)) ggX3_sort_X3_isOrder
set_option maxRecDepth 20000 in
theorem ggX3_sort_X3_arrange : GoodIn wsX3_sort wsX3_arrange := goodIn_r _ [9, 10, 11, 12, 4, 13, 14, 15, 16, 17, 18, 19, 20, 21, 22, 23, 24, 25, 26, 27, 28, 29, 30, 31, 32, 33, 34] (by decide +kernel) (by decide +kernel)
set_option maxRecDepth 20000 in
theorem gX3_sort_X3_arrange : GoodIn wsX3_sort (wsV RX3 47 RX3 yX3_arrange wsX3_arrange) := goodIn_app (goodIn_of _ (by decide +kernel)) ggX3_sort_X3_arrange
theorem dX3_sort_0 : decode cX3_sort 0 = .ok (.iload_n 1, 1) := by decide +kernel
theorem dX3_sort_1 : decode cX3_sort 1 = .ok (.invokestatic 43, 3) := by decide +kernel
theorem dX3_sort_4 : decode cX3_sort 4 = .ok (.ifCond .ne 5, 3) := by decide +kernel
theorem dX3_sort_7 : decode cX3_sort 7 = .ok (.iconst 0, 1) := by decide +kernel
theorem dX3_sort_8 : decode cX3_sort 8 = .ok (.ireturn, 1) := by decide +kernel
theorem dX3_sort_9 : decode cX3_sort 9 = .ok (.aload_n 0, 1) := by decide +kernel
theorem dX3_sort_10 : decode cX3_sort 10 = .ok (.iconst 0, 1) := by decide +kernel
theorem dX3_sort_11 : decode cX3_sort 11 = .ok (.aload_n 0, 1) := by decide +kernel
theorem dX3_sort_12 : decode cX3_sort 12 = .ok (.getfield 22, 3) := by decide +kernel
theorem dX3_sort_15 : decode cX3_sort 15 = .ok (.iload_n 1, 1) := by decide +kernel
theorem dX3_sort_16 : decode cX3_sort 16 = .ok (.invokevirtual 47, 3) := by decide +kernel
theorem dX3_sort_19 : decode cX3_sort 19 = .ok (.iconst 1, 1) := by decide +kernel
theorem dX3_sort_20 : decode cX3_sort 20 = .ok (.ireturn, 1) := by decide +kernel
set_option maxRecDepth 20000 in
theorem ggX3_sortPart_X3_isStretch : GoodIn wsX3_sortPart wsX3_isStretch := goodIn_r _ [5, 6, 34, 35, 36, 37, 38] (by decide +kernel) (by decide +kernel)
set_option maxRecDepth 20000 in
theorem gX3_sortPart_X3_isStretch : GoodIn wsX3_sortPart (wsV RX3 51 RX3 yX3_isStretch wsX3_isStretch) := goodIn_app (goodIn_of _ (by decide +kernel)) ggX3_sortPart_X3_isStretch
set_option maxRecDepth 20000 in
theorem ggX3_sortPart_X3_isOrder : GoodIn wsX3_sortPart wsX3_isOrder := goodIn_r _ [9] (by decide +kernel) (by decide +kernel)
set_option maxRecDepth 20000 in
theorem gX3_sortPart_X3_isOrder : GoodIn wsX3_sortPart (va_wsS RX3 43 yX3_isOrder wsX3_isOrder) := goodIn_app (goodIn_of _ (by decide +kernel)) ggX3_sortPart_X3_isOrder
set_option maxRecDepth 20000 in
theorem ggX3_sortPart_X3_arrange : GoodIn wsX3_sortPart wsX3_arrange := goodIn_r _ [13, 14, 15, 16, 4, 17, 18, 19, 20, 21, 22, 23, 24, 25, 26, 27, 28, 29, 30, 31, 32, 33, 34, 35, 36, 37, 38] (by decide +kernel) (by decide +kernel)
set_option maxRecDepth 20000 in
theorem gX3_sortPart_X3_arrange : GoodIn wsX3_sortPart (wsV RX3 47 RX3 yX3_arrange wsX3_arrange) := goodIn_app (goodIn_of _ (by decide +kernel)) ggX3_sortPart_X3_arrange
theorem dX3_sortPart_0 : decode cX3_sortPart 0 = .ok (.aload_n 0, 1) := by decide +kernel
theorem dX3_sortPart_1 : decode cX3_sortPart 1 = .ok (.iload_n 1, 1) := by decide +kernel
theorem dX3_sortPart_2 : decode cX3_sortPart 2 = .ok (.iload_n 2, 1) := by decide +kernel
theorem dX3_sortPart_3 : decode cX3_sortPart 3 = .ok (.invokevirtual 51, 3) := by decide +kernel
theorem dX3_sortPart_6 : decode cX3_sortPart 6 = .ok (.ifCond .eq 10, 3) := by decide +kernel
theorem dX3_sortPart_9 : decode cX3_sortPart 9 = .ok (.iload_n 3, 1) := by decide +kernel
theorem dX3_sortPart_10 : decode cX3_sortPart 10 = .ok (.invokestatic 43, 3) := by decide +kernel
theorem dX3_sortPart_13 : decode cX3_sortPart 13 = .ok (.ifCond .ne 5, 3) := by decide +kernel
theorem dX3_sortPart_16 : decode cX3_sortPart 16 = .ok (.iconst 0, 1) := by decide +kernel
theorem dX3_sortPart_17 : decode cX3_sortPart 17 = .ok (.ireturn, 1) := by decide +kernel
theorem dX3_sortPart_18 : decode cX3_sortPart 18 = .ok (.aload_n 0, 1) := by decide +kernel
theorem dX3_sortPart_19 : decode cX3_sortPart 19 = .ok (.iload_n 1, 1) := by decide +kernel
theorem dX3_sortPart_20 : decode cX3_sortPart 20 = .ok (.iload_n 2, 1) := by decide +kernel
theorem dX3_sortPart_21 : decode cX3_sortPart 21 = .ok (.iload_n 3, 1) := by decide +kernel
theorem dX3_sortPart_22 : decode cX3_sortPart 22 = .ok (.invokevirtual 47, 3) := by decide +kernel
theorem dX3_sortPart_25 : decode cX3_sortPart 25 = .ok (.iconst 1, 1) := by decide +kernel
theorem dX3_sortPart_26 : decode cX3_sortPart 26 = .ok (.ireturn, 1) := by decide +kernel
set_option maxRecDepth 20000 in
theorem ggX3_merge_X3_isStretch : GoodIn wsX3_merge wsX3_isStretch := goodIn_r _ [5, 6, 38, 39, 40, 41, 42] (by decide +kernel) (by decide +kernel)
set_option maxRecDepth 20000 in
theorem gX3_merge_X3_isStretch : GoodIn wsX3_merge (wsV RX3 51 RX3 yX3_isStretch wsX3_isStretch) := goodIn_app (goodIn_of _ (by decide +kernel)) ggX3_merge_X3_isStretch
set_option maxRecDepth 20000 in
theorem ggX3_merge_X3_isOrder : GoodIn wsX3_merge wsX3_isOrder := goodIn_r _ [9] (by decide +kernel) (by decide +kernel)
set_option maxRecDepth 20000 in
theorem gX3_merge_X3_isOrder : GoodIn wsX3_merge (va_wsS RX3 43 yX3_isOrder wsX3_isOrder) := goodIn_app (goodIn_of _ (by decide +kernel)) ggX3_merge_X3_isOrder
set_option maxRecDepth 20000 in
theorem ggX3_merge_X3_isSorted : GoodIn wsX3_merge wsX3_isSorted := goodIn_r _ [13, 14, 15, 16, 4, 17, 18, 38, 39, 40, 41, 42] (by decide +kernel) (by decide +kernel)
set_option maxRecDepth 20000 in
theorem gX3_merge_X3_isSorted : GoodIn wsX3_merge (wsV RX3 55 RX3 yX3_isSorted wsX3_isSorted) := goodIn_app (goodIn_of _ (by decide +kernel)) ggX3_merge_X3_isSorted
set_option maxRecDepth 20000 in
theorem ggX3_merge_X3_arrange : GoodIn wsX3_merge wsX3_arrange := goodIn_r _ [22, 23, 24, 25, 4, 26, 14, 15, 16, 17, 18, 27, 28, 29, 30, 31, 32, 33, 34, 35, 36, 37, 38, 39, 40, 41, 42] (by decide +kernel) (by decide +kernel)
set_option maxRecDepth 20000 in
theorem gX3_merge_X3_arrange : GoodIn wsX3_merge (wsV RX3 47 RX3 yX3_arrange wsX3_arrange) := goodIn_app (goodIn_of _ (by decide +kernel)) ggX3_merge_X3_arrange
theorem dX3_merge_0 : decode cX3_merge 0 = .ok (.aload_n 0, 1) := by decide +kernel
theorem dX3_merge_1 : decode cX3_merge 1 = .ok (.iload_n 1, 1) := by decide +kernel
theorem dX3_merge_2 : decode cX3_merge 2 = .ok (.iload_n 2, 1) := by decide +kernel
theorem dX3_merge_3 : decode cX3_merge 3 = .ok (.invokevirtual 51, 3) := by decide +kernel
theorem dX3_merge_6 : decode cX3_merge 6 = .ok (.ifCond .eq 24, 3) := by decide +kernel
theorem dX3_merge_9 : decode cX3_merge 9 = .ok (.aload_n 0, 1) := by decide +kernel
theorem dX3_merge_10 : decode cX3_merge 10 = .ok (.iload_n 2, 1) := by decide +kernel
theorem dX3_merge_11 : decode cX3_merge 11 = .ok (.iload_n 3, 1) := by decide +kernel
theorem dX3_merge_12 : decode cX3_merge 12 = .ok (.invokevirtual 51, 3) := by decide +kernel
theorem dX3_merge_15 : decode cX3_merge 15 = .ok (.ifCond .eq 15, 3) := by decide +kernel
theorem dX3_merge_18 : decode cX3_merge 18 = .ok (.iload 4, 2) := by decide +kernel
theorem dX3_merge_20 : decode cX3_merge 20 = .ok (.invokestatic 43, 3) := by decide +kernel
theorem dX3_merge_23 : decode cX3_merge 23 = .ok (.ifCond .eq 7, 3) := by decide +kernel
theorem dX3_merge_26 : decode cX3_merge 26 = .ok (.iconst 1, 1) := by decide +kernel
theorem dX3_merge_27 : decode cX3_merge 27 = .ok (.goto 4, 3) := by decide +kernel
theorem dX3_merge_30 : decode cX3_merge 30 = .ok (.iconst 0, 1) := by decide +kernel
theorem dX3_merge_31 : decode cX3_merge 31 = .ok (.istore 5, 2) := by decide +kernel
theorem dX3_merge_33 : decode cX3_merge 33 = .ok (.iload 5, 2) := by decide +kernel
theorem dX3_merge_35 : decode cX3_merge 35 = .ok (.ifCond .eq 25, 3) := by decide +kernel
theorem dX3_merge_38 : decode cX3_merge 38 = .ok (.aload_n 0, 1) := by decide +kernel
theorem dX3_merge_39 : decode cX3_merge 39 = .ok (.iload_n 1, 1) := by decide +kernel
theorem dX3_merge_40 : decode cX3_merge 40 = .ok (.iload_n 2, 1) := by decide +kernel
theorem dX3_merge_41 : decode cX3_merge 41 = .ok (.iload 4, 2) := by decide +kernel
theorem dX3_merge_43 : decode cX3_merge 43 = .ok (.invokevirtual 55, 3) := by decide +kernel
theorem dX3_merge_46 : decode cX3_merge 46 = .ok (.ifCond .eq 14, 3) := by decide +kernel
theorem dX3_merge_49 : decode cX3_merge 49 = .ok (.aload_n 0, 1) := by decide +kernel
theorem dX3_merge_50 : decode cX3_merge 50 = .ok (.iload_n 2, 1) := by decide +kernel
theorem dX3_merge_51 : decode cX3_merge 51 = .ok (.iload_n 3, 1) := by decide +kernel
theorem dX3_merge_52 : decode cX3_merge 52 = .ok (.iload 4, 2) := by decide +kernel
theorem dX3_merge_54 : decode cX3_merge 54 = .ok (.invokevirtual 55, 3) := by decide +kernel
theorem dX3_merge_57 : decode cX3_merge 57 = .ok (.ifCond .ne 5, 3) := by decide +kernel
theorem dX3_merge_60 : decode cX3_merge 60 = .ok (.iconst 0, 1) := by decide +kernel
theorem dX3_merge_61 : decode cX3_merge 61 = .ok (.ireturn, 1) := by decide +kernel
theorem dX3_merge_62 : decode cX3_merge 62 = .ok (.aload_n 0, 1) := by decide +kernel
theorem dX3_merge_63 : decode cX3_merge 63 = .ok (.iload_n 1, 1) := by decide +kernel
theorem dX3_merge_64 : decode cX3_merge 64 = .ok (.iload_n 3, 1) := by decide +kernel
theorem dX3_merge_65 : decode cX3_merge 65 = .ok (.iload 4, 2) := by decide +kernel
theorem dX3_merge_67 : decode cX3_merge 67 = .ok (.invokevirtual 47, 3) := by decide +kernel
theorem dX3_merge_70 : decode cX3_merge 70 = .ok (.iconst 1, 1) := by decide +kernel
theorem dX3_merge_71 : decode cX3_merge 71 = .ok (.ireturn, 1) := by decide +kernel
set_option maxRecDepth 20000 in
theorem ggX3_rotate_X3_isStretch : GoodIn wsX3_rotate wsX3_isStretch := goodIn_r _ [5, 6, 19, 20, 21, 22, 23] (by decide +kernel) (by decide +kernel)
set_option maxRecDepth 20000 in
theorem gX3_rotate_X3_isStretch : GoodIn wsX3_rotate (wsV RX3 51 RX3 yX3_isStretch wsX3_isStretch) := goodIn_app (goodIn_of _ (by decide +kernel)) ggX3_rotate_X3_isStretch
set_option maxRecDepth 20000 in
theorem ggX3_rotate_X3_move : GoodIn wsX3_rotate wsX3_move := goodIn_r _ [10, 11, 12, 13, 14, 19, 20, 21, 22, 23] (by decide +kernel) (by decide +kernel)
set_option maxRecDepth 20000 in
theorem gX3_rotate_X3_move : GoodIn wsX3_rotate (wsV RX3 36 RX3 yX3_move wsX3_move) := goodIn_app (goodIn_of _ (by decide +kernel)) ggX3_rotate_X3_move
set_option maxRecDepth 20000 in
theorem ggX3_rotate_X3_take : GoodIn wsX3_rotate wsX3_take := goodIn_r _ [18, 12, 11, 14, 13, 19, 20, 21, 22, 23] (by decide +kernel) (by decide +kernel)
set_option maxRecDepth 20000 in
theorem gX3_rotate_X3_take : GoodIn wsX3_rotate (wsV RX3 40 RX3 yX3_take wsX3_take) := goodIn_app (goodIn_of _ (by decide +kernel)) ggX3_rotate_X3_take
theorem dX3_rotate_0 : decode cX3_rotate 0 = .ok (.aload_n 0, 1) := by decide +kernel
theorem dX3_rotate_1 : decode cX3_rotate 1 = .ok (.iload_n 1, 1) := by decide +kernel
theorem dX3_rotate_2 : decode cX3_rotate 2 = .ok (.iload_n 2, 1) := by decide +kernel
theorem dX3_rotate_3 : decode cX3_rotate 3 = .ok (.invokevirtual 51, 3) := by decide +kernel
theorem dX3_rotate_6 : decode cX3_rotate 6 = .ok (.ifCond .eq 12, 3) := by decide +kernel
theorem dX3_rotate_9 : decode cX3_rotate 9 = .ok (.aload_n 0, 1) := by decide +kernel
theorem dX3_rotate_10 : decode cX3_rotate 10 = .ok (.iload_n 2, 1) := by decide +kernel
theorem dX3_rotate_11 : decode cX3_rotate 11 = .ok (.iload_n 3, 1) := by decide +kernel
theorem dX3_rotate_12 : decode cX3_rotate 12 = .ok (.invokevirtual 51, 3) := by decide +kernel
theorem dX3_rotate_15 : decode cX3_rotate 15 = .ok (.ifCond .ne 5, 3) := by decide +kernel
theorem dX3_rotate_18 : decode cX3_rotate 18 = .ok (.iconst 0, 1) := by decide +kernel
theorem dX3_rotate_19 : decode cX3_rotate 19 = .ok (.ireturn, 1) := by decide +kernel
theorem dX3_rotate_20 : decode cX3_rotate 20 = .ok (.iload_n 1, 1) := by decide +kernel
theorem dX3_rotate_21 : decode cX3_rotate 21 = .ok (.istore 4, 2) := by decide +kernel
theorem dX3_rotate_23 : decode cX3_rotate 23 = .ok (.iload 4, 2) := by decide +kernel
theorem dX3_rotate_25 : decode cX3_rotate 25 = .ok (.iload_n 2, 1) := by decide +kernel
theorem dX3_rotate_26 : decode cX3_rotate 26 = .ok (.if_icmp .ge 21, 3) := by decide +kernel
theorem dX3_rotate_29 : decode cX3_rotate 29 = .ok (.aload_n 0, 1) := by decide +kernel
theorem dX3_rotate_30 : decode cX3_rotate 30 = .ok (.iload 4, 2) := by decide +kernel
theorem dX3_rotate_32 : decode cX3_rotate 32 = .ok (.iload 4, 2) := by decide +kernel
theorem dX3_rotate_34 : decode cX3_rotate 34 = .ok (.iload_n 3, 1) := by decide +kernel
theorem dX3_rotate_35 : decode cX3_rotate 35 = .ok (.iadd, 1) := by decide +kernel
theorem dX3_rotate_36 : decode cX3_rotate 36 = .ok (.iload_n 2, 1) := by decide +kernel
theorem dX3_rotate_37 : decode cX3_rotate 37 = .ok (.isub, 1) := by decide +kernel
theorem dX3_rotate_38 : decode cX3_rotate 38 = .ok (.invokevirtual 36, 3) := by decide +kernel
theorem dX3_rotate_41 : decode cX3_rotate 41 = .ok (.iinc 4 1, 3) := by decide +kernel
theorem dX3_rotate_44 : decode cX3_rotate 44 = .ok (.goto (-21), 3) := by decide +kernel
theorem dX3_rotate_47 : decode cX3_rotate 47 = .ok (.iload_n 2, 1) := by decide +kernel
theorem dX3_rotate_48 : decode cX3_rotate 48 = .ok (.istore 4, 2) := by decide +kernel
theorem dX3_rotate_50 : decode cX3_rotate 50 = .ok (.iload 4, 2) := by decide +kernel
theorem dX3_rotate_52 : decode cX3_rotate 52 = .ok (.iload_n 3, 1) := by decide +kernel
theorem dX3_rotate_53 : decode cX3_rotate 53 = .ok (.if_icmp .ge 21, 3) := by decide +kernel
theorem dX3_rotate_56 : decode cX3_rotate 56 = .ok (.aload_n 0, 1) := by decide +kernel
theorem dX3_rotate_57 : decode cX3_rotate 57 = .ok (.iload 4, 2) := by decide +kernel
theorem dX3_rotate_59 : decode cX3_rotate 59 = .ok (.iload 4, 2) := by decide +kernel
theorem dX3_rotate_61 : decode cX3_rotate 61 = .ok (.iload_n 2, 1) := by decide +kernel
theorem dX3_rotate_62 : decode cX3_rotate 62 = .ok (.isub, 1) := by decide +kernel
theorem dX3_rotate_63 : decode cX3_rotate 63 = .ok (.iload_n 1, 1) := by decide +kernel
theorem dX3_rotate_64 : decode cX3_rotate 64 = .ok (.iadd, 1) := by decide +kernel
theorem dX3_rotate_65 : decode cX3_rotate 65 = .ok (.invokevirtual 36, 3) := by decide +kernel
theorem dX3_rotate_68 : decode cX3_rotate 68 = .ok (.iinc 4 1, 3) := by decide +kernel
theorem dX3_rotate_71 : decode cX3_rotate 71 = .ok (.goto (-21), 3) := by decide +kernel
theorem dX3_rotate_74 : decode cX3_rotate 74 = .ok (.aload_n 0, 1) := by decide +kernel
theorem dX3_rotate_75 : decode cX3_rotate 75 = .ok (.iload_n 1, 1) := by decide +kernel
theorem dX3_rotate_76 : decode cX3_rotate 76 = .ok (.iload_n 3, 1) := by decide +kernel
theorem dX3_rotate_77 : decode cX3_rotate 77 = .ok (.invokevirtual 40, 3) := by decide +kernel
theorem dX3_rotate_80 : decode cX3_rotate 80 = .ok (.iconst 1, 1) := by decide +kernel
theorem dX3_rotate_81 : decode cX3_rotate 81 = .ok (.ireturn, 1) := by decide +kernel
set_option maxRecDepth 20000 in
theorem ggX3_turn_X3_isStretch : GoodIn wsX3_turn wsX3_isStretch := goodIn_r _ [5, 6, 19, 20, 21, 22, 23] (by decide +kernel) (by decide +kernel)
set_option maxRecDepth 20000 in
theorem gX3_turn_X3_isStretch : GoodIn wsX3_turn (wsV RX3 51 RX3 yX3_isStretch wsX3_isStretch) := goodIn_app (goodIn_of _ (by decide +kernel)) ggX3_turn_X3_isStretch
set_option maxRecDepth 20000 in
theorem ggX3_turn_X3_move : GoodIn wsX3_turn wsX3_move := goodIn_r _ [10, 11, 12, 13, 14, 19, 20, 21, 22, 23] (by decide +kernel) (by decide +kernel)
set_option maxRecDepth 20000 in
theorem gX3_turn_X3_move : GoodIn wsX3_turn (wsV RX3 36 RX3 yX3_move wsX3_move) := goodIn_app (goodIn_of _ (by decide +kernel)) ggX3_turn_X3_move
set_option maxRecDepth 20000 in
theorem ggX3_turn_X3_take : GoodIn wsX3_turn wsX3_take := goodIn_r _ [18, 12, 11, 14, 13, 19, 20, 21, 22, 23] (by decide +kernel) (by decide +kernel)
set_option maxRecDepth 20000 in
theorem gX3_turn_X3_take : GoodIn wsX3_turn (wsV RX3 40 RX3 yX3_take wsX3_take) := goodIn_app (goodIn_of _ (by decide +kernel)) ggX3_turn_X3_take
theorem dX3_turn_0 : decode cX3_turn 0 = .ok (.aload_n 0, 1) := by decide +kernel
theorem dX3_turn_1 : decode cX3_turn 1 = .ok (.iload_n 1, 1) := by decide +kernel
theorem dX3_turn_2 : decode cX3_turn 2 = .ok (.iload_n 2, 1) := by decide +kernel
theorem dX3_turn_3 : decode cX3_turn 3 = .ok (.invokevirtual 51, 3) := by decide +kernel
theorem dX3_turn_6 : decode cX3_turn 6 = .ok (.ifCond .ne 5, 3) := by decide +kernel
theorem dX3_turn_9 : decode cX3_turn 9 = .ok (.iconst 0, 1) := by decide +kernel
theorem dX3_turn_10 : decode cX3_turn 10 = .ok (.ireturn, 1) := by decide +kernel
theorem dX3_turn_11 : decode cX3_turn 11 = .ok (.iload_n 1, 1) := by decide +kernel
theorem dX3_turn_12 : decode cX3_turn 12 = .ok (.istore_n 3, 1) := by decide +kernel
theorem dX3_turn_13 : decode cX3_turn 13 = .ok (.iload_n 3, 1) := by decide +kernel
theorem dX3_turn_14 : decode cX3_turn 14 = .ok (.iload_n 2, 1) := by decide +kernel
theorem dX3_turn_15 : decode cX3_turn 15 = .ok (.if_icmp .ge 21, 3) := by decide +kernel
theorem dX3_turn_18 : decode cX3_turn 18 = .ok (.aload_n 0, 1) := by decide +kernel
theorem dX3_turn_19 : decode cX3_turn 19 = .ok (.iload_n 3, 1) := by decide +kernel
theorem dX3_turn_20 : decode cX3_turn 20 = .ok (.iload_n 1, 1) := by decide +kernel
theorem dX3_turn_21 : decode cX3_turn 21 = .ok (.iload_n 2, 1) := by decide +kernel
theorem dX3_turn_22 : decode cX3_turn 22 = .ok (.iadd, 1) := by decide +kernel
theorem dX3_turn_23 : decode cX3_turn 23 = .ok (.iconst 1, 1) := by decide +kernel
theorem dX3_turn_24 : decode cX3_turn 24 = .ok (.isub, 1) := by decide +kernel
theorem dX3_turn_25 : decode cX3_turn 25 = .ok (.iload_n 3, 1) := by decide +kernel
theorem dX3_turn_26 : decode cX3_turn 26 = .ok (.isub, 1) := by decide +kernel
theorem dX3_turn_27 : decode cX3_turn 27 = .ok (.invokevirtual 36, 3) := by decide +kernel
theorem dX3_turn_30 : decode cX3_turn 30 = .ok (.iinc 3 1, 3) := by decide +kernel
theorem dX3_turn_33 : decode cX3_turn 33 = .ok (.goto (-20), 3) := by decide +kernel
theorem dX3_turn_36 : decode cX3_turn 36 = .ok (.aload_n 0, 1) := by decide +kernel
theorem dX3_turn_37 : decode cX3_turn 37 = .ok (.iload_n 1, 1) := by decide +kernel
theorem dX3_turn_38 : decode cX3_turn 38 = .ok (.iload_n 2, 1) := by decide +kernel
theorem dX3_turn_39 : decode cX3_turn 39 = .ok (.invokevirtual 40, 3) := by decide +kernel
theorem dX3_turn_42 : decode cX3_turn 42 = .ok (.iconst 1, 1) := by decide +kernel
theorem dX3_turn_43 : decode cX3_turn 43 = .ok (.ireturn, 1) := by decide +kernel
set_option maxRecDepth 20000 in
theorem ggX3_split_X3_isStretch : GoodIn wsX3_split wsX3_isStretch := goodIn_r _ [6, 7, 26, 27, 28, 29, 30] (by decide +kernel) (by decide +kernel)
set_option maxRecDepth 20000 in
theorem gX3_split_X3_isStretch : GoodIn wsX3_split (wsV RX3 51 RX3 yX3_isStretch wsX3_isStretch) := goodIn_app (goodIn_of _ (by decide +kernel)) ggX3_split_X3_isStretch
set_option maxRecDepth 20000 in
theorem ggX3_split_X3_isOrder : GoodIn wsX3_split wsX3_isOrder := goodIn_r _ [10] (by decide +kernel) (by decide +kernel)
set_option maxRecDepth 20000 in
theorem gX3_split_X3_isOrder : GoodIn wsX3_split (va_wsS RX3 43 yX3_isOrder wsX3_isOrder) := goodIn_app (goodIn_of _ (by decide +kernel)) ggX3_split_X3_isOrder
set_option maxRecDepth 20000 in
theorem ggX3_split_X3_isLess : GoodIn wsX3_split wsX3_isLess := goodIn_r _ [13, 14] (by decide +kernel) (by decide +kernel)
set_option maxRecDepth 20000 in
theorem gX3_split_X3_isLess : GoodIn wsX3_split (va_wsS RX3 28 yX3_isLess wsX3_isLess) := goodIn_app (goodIn_of _ (by decide +kernel)) ggX3_split_X3_isLess
set_option maxRecDepth 20000 in
theorem ggX3_split_X3_move : GoodIn wsX3_split wsX3_move := goodIn_r _ [18, 19, 1, 20, 21, 26, 27, 28, 29, 30] (by decide +kernel) (by decide +kernel)
set_option maxRecDepth 20000 in
theorem gX3_split_X3_move : GoodIn wsX3_split (wsV RX3 36 RX3 yX3_move wsX3_move) := goodIn_app (goodIn_of _ (by decide +kernel)) ggX3_split_X3_move
set_option maxRecDepth 20000 in
theorem ggX3_split_X3_take : GoodIn wsX3_split wsX3_take := goodIn_r _ [25, 1, 19, 21, 20, 26, 27, 28, 29, 30] (by decide +kernel) (by decide +kernel)
set_option maxRecDepth 20000 in
theorem gX3_split_X3_take : GoodIn wsX3_split (wsV RX3 40 RX3 yX3_take wsX3_take) := goodIn_app (goodIn_of _ (by decide +kernel)) ggX3_split_X3_take
theorem dX3_split_0 : decode cX3_split 0 = .ok (.aload_n 0, 1) := by decide +kernel
theorem dX3_split_1 : decode cX3_split 1 = .ok (.iload_n 1, 1) := by decide +kernel
theorem dX3_split_2 : decode cX3_split 2 = .ok (.iload_n 2, 1) := by decide +kernel
theorem dX3_split_3 : decode cX3_split 3 = .ok (.invokevirtual 51, 3) := by decide +kernel
theorem dX3_split_6 : decode cX3_split 6 = .ok (.ifCond .eq 11, 3) := by decide +kernel
theorem dX3_split_9 : decode cX3_split 9 = .ok (.iload 4, 2) := by decide +kernel
theorem dX3_split_11 : decode cX3_split 11 = .ok (.invokestatic 43, 3) := by decide +kernel
theorem dX3_split_14 : decode cX3_split 14 = .ok (.ifCond .ne 5, 3) := by decide +kernel
theorem dX3_split_17 : decode cX3_split 17 = .ok (.iconst (-1), 1) := by decide +kernel
theorem dX3_split_18 : decode cX3_split 18 = .ok (.ireturn, 1) := by decide +kernel
theorem dX3_split_19 : decode cX3_split 19 = .ok (.iconst 0, 1) := by decide +kernel
theorem dX3_split_20 : decode cX3_split 20 = .ok (.istore 5, 2) := by decide +kernel
theorem dX3_split_22 : decode cX3_split 22 = .ok (.iload_n 1, 1) := by decide +kernel
theorem dX3_split_23 : decode cX3_split 23 = .ok (.istore 6, 2) := by decide +kernel
theorem dX3_split_25 : decode cX3_split 25 = .ok (.iload 6, 2) := by decide +kernel
theorem dX3_split_27 : decode cX3_split 27 = .ok (.iload_n 2, 1) := by decide +kernel
theorem dX3_split_28 : decode cX3_split 28 = .ok (.if_icmp .ge 38, 3) := by decide +kernel
theorem dX3_split_31 : decode cX3_split 31 = .ok (.aload_n 0, 1) := by decide +kernel
theorem dX3_split_32 : decode cX3_split 32 = .ok (.getfield 7, 3) := by decide +kernel
theorem dX3_split_35 : decode cX3_split 35 = .ok (.iload 6, 2) := by decide +kernel
theorem dX3_split_37 : decode cX3_split 37 = .ok (.iaload, 1) := by decide +kernel
theorem dX3_split_38 : decode cX3_split 38 = .ok (.iload_n 3, 1) := by decide +kernel
theorem dX3_split_39 : decode cX3_split 39 = .ok (.iload 4, 2) := by decide +kernel
theorem dX3_split_41 : decode cX3_split 41 = .ok (.invokestatic 28, 3) := by decide +kernel
theorem dX3_split_44 : decode cX3_split 44 = .ok (.ifCond .eq 16, 3) := by decide +kernel
theorem dX3_split_47 : decode cX3_split 47 = .ok (.aload_n 0, 1) := by decide +kernel
theorem dX3_split_48 : decode cX3_split 48 = .ok (.iload 6, 2) := by decide +kernel
theorem dX3_split_50 : decode cX3_split 50 = .ok (.iload_n 1, 1) := by decide +kernel
theorem dX3_split_51 : decode cX3_split 51 = .ok (.iload 5, 2) := by decide +kernel
theorem dX3_split_53 : decode cX3_split 53 = .ok (.iadd, 1) := by decide +kernel
theorem dX3_split_54 : decode cX3_split 54 = .ok (.invokevirtual 36, 3) := by decide +kernel
theorem dX3_split_57 : decode cX3_split 57 = .ok (.iinc 5 1, 3) := by decide +kernel
theorem dX3_split_60 : decode cX3_split 60 = .ok (.iinc 6 1, 3) := by decide +kernel
theorem dX3_split_63 : decode cX3_split 63 = .ok (.goto (-38), 3) := by decide +kernel
theorem dX3_split_66 : decode cX3_split 66 = .ok (.iconst 0, 1) := by decide +kernel
theorem dX3_split_67 : decode cX3_split 67 = .ok (.istore 6, 2) := by decide +kernel
theorem dX3_split_69 : decode cX3_split 69 = .ok (.iload_n 1, 1) := by decide +kernel
theorem dX3_split_70 : decode cX3_split 70 = .ok (.istore 7, 2) := by decide +kernel
theorem dX3_split_72 : decode cX3_split 72 = .ok (.iload 7, 2) := by decide +kernel
theorem dX3_split_74 : decode cX3_split 74 = .ok (.iload_n 2, 1) := by decide +kernel
theorem dX3_split_75 : decode cX3_split 75 = .ok (.if_icmp .ge 41, 3) := by decide +kernel
theorem dX3_split_78 : decode cX3_split 78 = .ok (.aload_n 0, 1) := by decide +kernel
theorem dX3_split_79 : decode cX3_split 79 = .ok (.getfield 7, 3) := by decide +kernel
theorem dX3_split_82 : decode cX3_split 82 = .ok (.iload 7, 2) := by decide +kernel
theorem dX3_split_84 : decode cX3_split 84 = .ok (.iaload, 1) := by decide +kernel
theorem dX3_split_85 : decode cX3_split 85 = .ok (.iload_n 3, 1) := by decide +kernel
theorem dX3_split_86 : decode cX3_split 86 = .ok (.iload 4, 2) := by decide +kernel
theorem dX3_split_88 : decode cX3_split 88 = .ok (.invokestatic 28, 3) := by decide +kernel
theorem dX3_split_91 : decode cX3_split 91 = .ok (.ifCond .ne 19, 3) := by decide +kernel
theorem dX3_split_94 : decode cX3_split 94 = .ok (.aload_n 0, 1) := by decide +kernel
theorem dX3_split_95 : decode cX3_split 95 = .ok (.iload 7, 2) := by decide +kernel
theorem dX3_split_97 : decode cX3_split 97 = .ok (.iload_n 1, 1) := by decide +kernel
theorem dX3_split_98 : decode cX3_split 98 = .ok (.iload 5, 2) := by decide +kernel
theorem dX3_split_100 : decode cX3_split 100 = .ok (.iadd, 1) := by decide +kernel
theorem dX3_split_101 : decode cX3_split 101 = .ok (.iload 6, 2) := by decide +kernel
theorem dX3_split_103 : decode cX3_split 103 = .ok (.iadd, 1) := by decide +kernel
theorem dX3_split_104 : decode cX3_split 104 = .ok (.invokevirtual 36, 3) := by decide +kernel
theorem dX3_split_107 : decode cX3_split 107 = .ok (.iinc 6 1, 3) := by decide +kernel
theorem dX3_split_110 : decode cX3_split 110 = .ok (.iinc 7 1, 3) := by decide +kernel
theorem dX3_split_113 : decode cX3_split 113 = .ok (.goto (-41), 3) := by decide +kernel
theorem dX3_split_116 : decode cX3_split 116 = .ok (.aload_n 0, 1) := by decide +kernel
theorem dX3_split_117 : decode cX3_split 117 = .ok (.iload_n 1, 1) := by decide +kernel
theorem dX3_split_118 : decode cX3_split 118 = .ok (.iload_n 2, 1) := by decide +kernel
theorem dX3_split_119 : decode cX3_split 119 = .ok (.invokevirtual 40, 3) := by decide +kernel
theorem dX3_split_122 : decode cX3_split 122 = .ok (.iload 5, 2) := by decide +kernel
theorem dX3_split_124 : decode cX3_split 124 = .ok (.ireturn, 1) := by decide +kernel
set_option maxRecDepth 20000 in
theorem ggX3_thin_X3_isOrder : GoodIn wsX3_thin wsX3_isOrder := goodIn_r _ [6] (by decide +kernel) (by decide +kernel)
set_option maxRecDepth 20000 in
theorem gX3_thin_X3_isOrder : GoodIn wsX3_thin (va_wsS RX3 43 yX3_isOrder wsX3_isOrder) := goodIn_app (goodIn_of _ (by decide +kernel)) ggX3_thin_X3_isOrder
set_option maxRecDepth 20000 in
theorem ggX3_thin_X3_isSorted : GoodIn wsX3_thin wsX3_isSorted := goodIn_r _ [10, 2, 11, 12, 5, 13, 14, 26, 27, 28, 29, 30] (by decide +kernel) (by decide +kernel)
set_option maxRecDepth 20000 in
theorem gX3_thin_X3_isSorted : GoodIn wsX3_thin (wsV RX3 55 RX3 yX3_isSorted wsX3_isSorted) := goodIn_app (goodIn_of _ (by decide +kernel)) ggX3_thin_X3_isSorted
set_option maxRecDepth 20000 in
theorem ggX3_thin_X3_isLess : GoodIn wsX3_thin wsX3_isLess := goodIn_r _ [13, 14] (by decide +kernel) (by decide +kernel)
set_option maxRecDepth 20000 in
theorem gX3_thin_X3_isLess : GoodIn wsX3_thin (va_wsS RX3 28 yX3_isLess wsX3_isLess) := goodIn_app (goodIn_of _ (by decide +kernel)) ggX3_thin_X3_isLess
set_option maxRecDepth 20000 in
theorem ggX3_thin_X3_move : GoodIn wsX3_thin wsX3_move := goodIn_r _ [18, 19, 2, 20, 21, 26, 27, 28, 29, 30] (by decide +kernel) (by decide +kernel)
set_option maxRecDepth 20000 in
theorem gX3_thin_X3_move : GoodIn wsX3_thin (wsV RX3 36 RX3 yX3_move wsX3_move) := goodIn_app (goodIn_of _ (by decide +kernel)) ggX3_thin_X3_move
set_option maxRecDepth 20000 in
theorem ggX3_thin_X3_take : GoodIn wsX3_thin wsX3_take := goodIn_r _ [25, 2, 19, 21, 20, 26, 27, 28, 29, 30] (by decide +kernel) (by decide +kernel)
set_option maxRecDepth 20000 in
theorem gX3_thin_X3_take : GoodIn wsX3_thin (wsV RX3 40 RX3 yX3_take wsX3_take) := goodIn_app (goodIn_of _ (by decide +kernel)) ggX3_thin_X3_take
theorem dX3_thin_0 : decode cX3_thin 0 = .ok (.iload_n 1, 1) := by decide +kernel
theorem dX3_thin_1 : decode cX3_thin 1 = .ok (.invokestatic 43, 3) := by decide +kernel
theorem dX3_thin_4 : decode cX3_thin 4 = .ok (.ifCond .eq 16, 3) := by decide +kernel
theorem dX3_thin_7 : decode cX3_thin 7 = .ok (.aload_n 0, 1) := by decide +kernel
theorem dX3_thin_8 : decode cX3_thin 8 = .ok (.iconst 0, 1) := by decide +kernel
theorem dX3_thin_9 : decode cX3_thin 9 = .ok (.aload_n 0, 1) := by decide +kernel
theorem dX3_thin_10 : decode cX3_thin 10 = .ok (.getfield 22, 3) := by decide +kernel
theorem dX3_thin_13 : decode cX3_thin 13 = .ok (.iload_n 1, 1) := by decide +kernel
theorem dX3_thin_14 : decode cX3_thin 14 = .ok (.invokevirtual 55, 3) := by decide +kernel
theorem dX3_thin_17 : decode cX3_thin 17 = .ok (.ifCond .ne 5, 3) := by decide +kernel
theorem dX3_thin_20 : decode cX3_thin 20 = .ok (.iconst (-1), 1) := by decide +kernel
theorem dX3_thin_21 : decode cX3_thin 21 = .ok (.ireturn, 1) := by decide +kernel
theorem dX3_thin_22 : decode cX3_thin 22 = .ok (.iconst 0, 1) := by decide +kernel
theorem dX3_thin_23 : decode cX3_thin 23 = .ok (.istore_n 2, 1) := by decide +kernel
theorem dX3_thin_24 : decode cX3_thin 24 = .ok (.iconst 0, 1) := by decide +kernel
theorem dX3_thin_25 : decode cX3_thin 25 = .ok (.istore_n 3, 1) := by decide +kernel
theorem dX3_thin_26 : decode cX3_thin 26 = .ok (.iload_n 3, 1) := by decide +kernel
theorem dX3_thin_27 : decode cX3_thin 27 = .ok (.aload_n 0, 1) := by decide +kernel
theorem dX3_thin_28 : decode cX3_thin 28 = .ok (.getfield 22, 3) := by decide +kernel
theorem dX3_thin_31 : decode cX3_thin 31 = .ok (.if_icmp .ge 43, 3) := by decide +kernel
theorem dX3_thin_34 : decode cX3_thin 34 = .ok (.iload_n 3, 1) := by decide +kernel
theorem dX3_thin_35 : decode cX3_thin 35 = .ok (.ifCond .eq 24, 3) := by decide +kernel
theorem dX3_thin_38 : decode cX3_thin 38 = .ok (.aload_n 0, 1) := by decide +kernel
theorem dX3_thin_39 : decode cX3_thin 39 = .ok (.getfield 7, 3) := by decide +kernel
theorem dX3_thin_42 : decode cX3_thin 42 = .ok (.iload_n 3, 1) := by decide +kernel
theorem dX3_thin_43 : decode cX3_thin 43 = .ok (.iconst 1, 1) := by decide +kernel
theorem dX3_thin_44 : decode cX3_thin 44 = .ok (.isub, 1) := by decide +kernel
theorem dX3_thin_45 : decode cX3_thin 45 = .ok (.iaload, 1) := by decide +kernel
theorem dX3_thin_46 : decode cX3_thin 46 = .ok (.aload_n 0, 1) := by decide +kernel
theorem dX3_thin_47 : decode cX3_thin 47 = .ok (.getfield 7, 3) := by decide +kernel
theorem dX3_thin_50 : decode cX3_thin 50 = .ok (.iload_n 3, 1) := by decide +kernel
theorem dX3_thin_51 : decode cX3_thin 51 = .ok (.iaload, 1) := by decide +kernel
theorem dX3_thin_52 : decode cX3_thin 52 = .ok (.iload_n 1, 1) := by decide +kernel
theorem dX3_thin_53 : decode cX3_thin 53 = .ok (.invokestatic 28, 3) := by decide +kernel
theorem dX3_thin_56 : decode cX3_thin 56 = .ok (.ifCond .eq 12, 3) := by decide +kernel
theorem dX3_thin_59 : decode cX3_thin 59 = .ok (.aload_n 0, 1) := by decide +kernel
theorem dX3_thin_60 : decode cX3_thin 60 = .ok (.iload_n 3, 1) := by decide +kernel
theorem dX3_thin_61 : decode cX3_thin 61 = .ok (.iload_n 2, 1) := by decide +kernel
theorem dX3_thin_62 : decode cX3_thin 62 = .ok (.invokevirtual 36, 3) := by decide +kernel
theorem dX3_thin_65 : decode cX3_thin 65 = .ok (.iinc 2 1, 3) := by decide +kernel
theorem dX3_thin_68 : decode cX3_thin 68 = .ok (.iinc 3 1, 3) := by decide +kernel
theorem dX3_thin_71 : decode cX3_thin 71 = .ok (.goto (-45), 3) := by decide +kernel
theorem dX3_thin_74 : decode cX3_thin 74 = .ok (.aload_n 0, 1) := by decide +kernel
theorem dX3_thin_75 : decode cX3_thin 75 = .ok (.iconst 0, 1) := by decide +kernel
theorem dX3_thin_76 : decode cX3_thin 76 = .ok (.iload_n 2, 1) := by decide +kernel
theorem dX3_thin_77 : decode cX3_thin 77 = .ok (.invokevirtual 40, 3) := by decide +kernel
theorem dX3_thin_80 : decode cX3_thin 80 = .ok (.aload_n 0, 1) := by decide +kernel
theorem dX3_thin_81 : decode cX3_thin 81 = .ok (.iload_n 2, 1) := by decide +kernel
theorem dX3_thin_82 : decode cX3_thin 82 = .ok (.putfield 22, 3) := by decide +kernel
theorem dX3_thin_85 : decode cX3_thin 85 = .ok (.iload_n 2, 1) := by decide +kernel
theorem dX3_thin_86 : decode cX3_thin 86 = .ok (.ireturn, 1) := by decide +kernel
set_option maxRecDepth 20000 in
theorem ggX3_sorted_X3_isStretch : GoodIn wsX3_sorted wsX3_isStretch := goodIn_r _ [5, 6, 19, 20, 21, 22, 23] (by decide +kernel) (by decide +kernel)
set_option maxRecDepth 20000 in
theorem gX3_sorted_X3_isStretch : GoodIn wsX3_sorted (wsV RX3 51 RX3 yX3_isStretch wsX3_isStretch) := goodIn_app (goodIn_of _ (by decide +kernel)) ggX3_sorted_X3_isStretch
set_option maxRecDepth 20000 in
theorem ggX3_sorted_X3_isOrder : GoodIn wsX3_sorted wsX3_isOrder := goodIn_r _ [9] (by decide +kernel) (by decide +kernel)
set_option maxRecDepth 20000 in
theorem gX3_sorted_X3_isOrder : GoodIn wsX3_sorted (va_wsS RX3 43 yX3_isOrder wsX3_isOrder) := goodIn_app (goodIn_of _ (by decide +kernel)) ggX3_sorted_X3_isOrder
set_option maxRecDepth 20000 in
theorem ggX3_sorted_X3_isSorted : GoodIn wsX3_sorted wsX3_isSorted := goodIn_r _ [13, 14, 15, 16, 4, 17, 18, 19, 20, 21, 22, 23] (by decide +kernel) (by decide +kernel)
set_option maxRecDepth 20000 in
theorem gX3_sorted_X3_isSorted : GoodIn wsX3_sorted (wsV RX3 55 RX3 yX3_isSorted wsX3_isSorted) := goodIn_app (goodIn_of _ (by decide +kernel)) ggX3_sorted_X3_isSorted
theorem dX3_sorted_0 : decode cX3_sorted 0 = .ok (.aload_n 0, 1) := by decide +kernel
theorem dX3_sorted_1 : decode cX3_sorted 1 = .ok (.iload_n 1, 1) := by decide +kernel
theorem dX3_sorted_2 : decode cX3_sorted 2 = .ok (.iload_n 2, 1) := by decide +kernel
theorem dX3_sorted_3 : decode cX3_sorted 3 = .ok (.invokevirtual 51, 3) := by decide +kernel
theorem dX3_sorted_6 : decode cX3_sorted 6 = .ok (.ifCond .eq 10, 3) := by decide +kernel
theorem dX3_sorted_9 : decode cX3_sorted 9 = .ok (.iload_n 3, 1) := by decide +kernel
theorem dX3_sorted_10 : decode cX3_sorted 10 = .ok (.invokestatic 43, 3) := by decide +kernel
theorem dX3_sorted_13 : decode cX3_sorted 13 = .ok (.ifCond .ne 5, 3) := by decide +kernel
theorem dX3_sorted_16 : decode cX3_sorted 16 = .ok (.iconst (-1), 1) := by decide +kernel
theorem dX3_sorted_17 : decode cX3_sorted 17 = .ok (.ireturn, 1) := by decide +kernel
theorem dX3_sorted_18 : decode cX3_sorted 18 = .ok (.aload_n 0, 1) := by decide +kernel
theorem dX3_sorted_19 : decode cX3_sorted 19 = .ok (.iload_n 1, 1) := by decide +kernel
theorem dX3_sorted_20 : decode cX3_sorted 20 = .ok (.iload_n 2, 1) := by decide +kernel
theorem dX3_sorted_21 : decode cX3_sorted 21 = .ok (.iload_n 3, 1) := by decide +kernel
theorem dX3_sorted_22 : decode cX3_sorted 22 = .ok (.invokevirtual 55, 3) := by decide +kernel
theorem dX3_sorted_25 : decode cX3_sorted 25 = .ok (.ifCond .eq 7, 3) := by decide +kernel
theorem dX3_sorted_28 : decode cX3_sorted 28 = .ok (.iconst 1, 1) := by decide +kernel
theorem dX3_sorted_29 : decode cX3_sorted 29 = .ok (.goto 4, 3) := by decide +kernel
theorem dX3_sorted_32 : decode cX3_sorted 32 = .ok (.iconst 0, 1) := by decide +kernel
theorem dX3_sorted_33 : decode cX3_sorted 33 = .ok (.ireturn, 1) := by decide +kernel
set_option maxRecDepth 20000 in
theorem ggX3_find_X3_isOrder : GoodIn wsX3_find wsX3_isOrder := goodIn_r _ [6] (by decide +kernel) (by decide +kernel)
set_option maxRecDepth 20000 in
theorem gX3_find_X3_isOrder : GoodIn wsX3_find (va_wsS RX3 43 yX3_isOrder wsX3_isOrder) := goodIn_app (goodIn_of _ (by decide +kernel)) ggX3_find_X3_isOrder
set_option maxRecDepth 20000 in
theorem ggX3_find_X3_isSorted : GoodIn wsX3_find wsX3_isSorted := goodIn_r _ [10, 2, 11, 12, 5, 13, 14, 15, 16, 17, 18, 19] (by decide +kernel) (by decide +kernel)
set_option maxRecDepth 20000 in
theorem gX3_find_X3_isSorted : GoodIn wsX3_find (wsV RX3 55 RX3 yX3_isSorted wsX3_isSorted) := goodIn_app (goodIn_of _ (by decide +kernel)) ggX3_find_X3_isSorted
set_option maxRecDepth 20000 in
theorem ggX3_find_X3_isLess : GoodIn wsX3_find wsX3_isLess := goodIn_r _ [13, 14] (by decide +kernel) (by decide +kernel)
set_option maxRecDepth 20000 in
theorem gX3_find_X3_isLess : GoodIn wsX3_find (va_wsS RX3 28 yX3_isLess wsX3_isLess) := goodIn_app (goodIn_of _ (by decide +kernel)) ggX3_find_X3_isLess
theorem dX3_find_0 : decode cX3_find 0 = .ok (.iload_n 2, 1) := by decide +kernel
theorem dX3_find_1 : decode cX3_find 1 = .ok (.invokestatic 43, 3) := by decide +kernel
theorem dX3_find_4 : decode cX3_find 4 = .ok (.ifCond .eq 25, 3) := by decide +kernel
theorem dX3_find_7 : decode cX3_find 7 = .ok (.iload_n 3, 1) := by decide +kernel
theorem dX3_find_8 : decode cX3_find 8 = .ok (.ifCond .lt 21, 3) := by decide +kernel
theorem dX3_find_11 : decode cX3_find 11 = .ok (.iload_n 3, 1) := by decide +kernel
theorem dX3_find_12 : decode cX3_find 12 = .ok (.iconst 1, 1) := by decide +kernel
theorem dX3_find_13 : decode cX3_find 13 = .ok (.if_icmp .gt 16, 3) := by decide +kernel
theorem dX3_find_16 : decode cX3_find 16 = .ok (.aload_n 0, 1) := by decide +kernel
theorem dX3_find_17 : decode cX3_find 17 = .ok (.iconst 0, 1) := by decide +kernel
theorem dX3_find_18 : decode cX3_find 18 = .ok (.aload_n 0, 1) := by decide +kernel
theorem dX3_find_19 : decode cX3_find 19 = .ok (.getfield 22, 3) := by decide +kernel
theorem dX3_find_22 : decode cX3_find 22 = .ok (.iload_n 2, 1) := by decide +kernel
theorem dX3_find_23 : decode cX3_find 23 = .ok (.invokevirtual 55, 3) := by decide +kernel
theorem dX3_find_26 : decode cX3_find 26 = .ok (.ifCond .ne 5, 3) := by decide +kernel
theorem dX3_find_29 : decode cX3_find 29 = .ok (.iconst (-1), 1) := by decide +kernel
theorem dX3_find_30 : decode cX3_find 30 = .ok (.ireturn, 1) := by decide +kernel
theorem dX3_find_31 : decode cX3_find 31 = .ok (.iconst 0, 1) := by decide +kernel
theorem dX3_find_32 : decode cX3_find 32 = .ok (.istore 4, 2) := by decide +kernel
theorem dX3_find_34 : decode cX3_find 34 = .ok (.iconst 0, 1) := by decide +kernel
theorem dX3_find_35 : decode cX3_find 35 = .ok (.istore 5, 2) := by decide +kernel
theorem dX3_find_37 : decode cX3_find 37 = .ok (.iload 5, 2) := by decide +kernel
theorem dX3_find_39 : decode cX3_find 39 = .ok (.aload_n 0, 1) := by decide +kernel
theorem dX3_find_40 : decode cX3_find 40 = .ok (.getfield 22, 3) := by decide +kernel
theorem dX3_find_43 : decode cX3_find 43 = .ok (.if_icmp .ge 66, 3) := by decide +kernel
theorem dX3_find_46 : decode cX3_find 46 = .ok (.iload_n 3, 1) := by decide +kernel
theorem dX3_find_47 : decode cX3_find 47 = .ok (.ifCond .ne 18, 3) := by decide +kernel
theorem dX3_find_50 : decode cX3_find 50 = .ok (.aload_n 0, 1) := by decide +kernel
theorem dX3_find_51 : decode cX3_find 51 = .ok (.getfield 7, 3) := by decide +kernel
theorem dX3_find_54 : decode cX3_find 54 = .ok (.iload 5, 2) := by decide +kernel
theorem dX3_find_56 : decode cX3_find 56 = .ok (.iaload, 1) := by decide +kernel
theorem dX3_find_57 : decode cX3_find 57 = .ok (.iload_n 1, 1) := by decide +kernel
theorem dX3_find_58 : decode cX3_find 58 = .ok (.iload_n 2, 1) := by decide +kernel
theorem dX3_find_59 : decode cX3_find 59 = .ok (.invokestatic 28, 3) := by decide +kernel
theorem dX3_find_62 : decode cX3_find 62 = .ok (.goto 23, 3) := by decide +kernel
theorem dX3_find_65 : decode cX3_find 65 = .ok (.iload_n 1, 1) := by decide +kernel
theorem dX3_find_66 : decode cX3_find 66 = .ok (.aload_n 0, 1) := by decide +kernel
theorem dX3_find_67 : decode cX3_find 67 = .ok (.getfield 7, 3) := by decide +kernel
theorem dX3_find_70 : decode cX3_find 70 = .ok (.iload 5, 2) := by decide +kernel
theorem dX3_find_72 : decode cX3_find 72 = .ok (.iaload, 1) := by decide +kernel
theorem dX3_find_73 : decode cX3_find 73 = .ok (.iload_n 2, 1) := by decide +kernel
theorem dX3_find_74 : decode cX3_find 74 = .ok (.invokestatic 28, 3) := by decide +kernel
theorem dX3_find_77 : decode cX3_find 77 = .ok (.ifCond .ne 7, 3) := by decide +kernel
theorem dX3_find_80 : decode cX3_find 80 = .ok (.iconst 1, 1) := by decide +kernel
theorem dX3_find_81 : decode cX3_find 81 = .ok (.goto 4, 3) := by decide +kernel
theorem dX3_find_84 : decode cX3_find 84 = .ok (.iconst 0, 1) := by decide +kernel
theorem dX3_find_85 : decode cX3_find 85 = .ok (.istore 6, 2) := by decide +kernel
theorem dX3_find_87 : decode cX3_find 87 = .ok (.iload 6, 2) := by decide +kernel
theorem dX3_find_89 : decode cX3_find 89 = .ok (.ifCond .eq 10, 3) := by decide +kernel
theorem dX3_find_92 : decode cX3_find 92 = .ok (.iload 4, 2) := by decide +kernel
theorem dX3_find_94 : decode cX3_find 94 = .ok (.iconst 1, 1) := by decide +kernel
theorem dX3_find_95 : decode cX3_find 95 = .ok (.iadd, 1) := by decide +kernel
theorem dX3_find_96 : decode cX3_find 96 = .ok (.goto 5, 3) := by decide +kernel
theorem dX3_find_99 : decode cX3_find 99 = .ok (.iload 4, 2) := by decide +kernel
theorem dX3_find_101 : decode cX3_find 101 = .ok (.istore 4, 2) := by decide +kernel
theorem dX3_find_103 : decode cX3_find 103 = .ok (.iinc 5 1, 3) := by decide +kernel
theorem dX3_find_106 : decode cX3_find 106 = .ok (.goto (-69), 3) := by decide +kernel
theorem dX3_find_109 : decode cX3_find 109 = .ok (.iload 4, 2) := by decide +kernel
theorem dX3_find_111 : decode cX3_find 111 = .ok (.ireturn, 1) := by decide +kernel
set_option maxRecDepth 20000 in
theorem ggX3_rank_X3_isOrder : GoodIn wsX3_rank wsX3_isOrder := goodIn_r _ [5] (by decide +kernel) (by decide +kernel)
set_option maxRecDepth 20000 in
theorem gX3_rank_X3_isOrder : GoodIn wsX3_rank (va_wsS RX3 43 yX3_isOrder wsX3_isOrder) := goodIn_app (goodIn_of _ (by decide +kernel)) ggX3_rank_X3_isOrder
set_option maxRecDepth 20000 in
theorem ggX3_rank_X3_place : GoodIn wsX3_rank wsX3_place := goodIn_r _ [9, 10, 11, 12, 4, 13, 14, 15, 16, 17, 18, 19] (by decide +kernel) (by decide +kernel)
set_option maxRecDepth 20000 in
theorem gX3_rank_X3_place : GoodIn wsX3_rank (wsV RX3 32 RX3 yX3_place wsX3_place) := goodIn_app (goodIn_of _ (by decide +kernel)) ggX3_rank_X3_place
theorem dX3_rank_0 : decode cX3_rank 0 = .ok (.iload_n 1, 1) := by decide +kernel
theorem dX3_rank_1 : decode cX3_rank 1 = .ok (.ifCond .lt 18, 3) := by decide +kernel
theorem dX3_rank_4 : decode cX3_rank 4 = .ok (.iload_n 1, 1) := by decide +kernel
theorem dX3_rank_5 : decode cX3_rank 5 = .ok (.aload_n 0, 1) := by decide +kernel
theorem dX3_rank_6 : decode cX3_rank 6 = .ok (.getfield 22, 3) := by decide +kernel
theorem dX3_rank_9 : decode cX3_rank 9 = .ok (.if_icmp .ge 10, 3) := by decide +kernel
theorem dX3_rank_12 : decode cX3_rank 12 = .ok (.iload_n 2, 1) := by decide +kernel
theorem dX3_rank_13 : decode cX3_rank 13 = .ok (.invokestatic 43, 3) := by decide +kernel
theorem dX3_rank_16 : decode cX3_rank 16 = .ok (.ifCond .ne 5, 3) := by decide +kernel
theorem dX3_rank_19 : decode cX3_rank 19 = .ok (.iconst (-1), 1) := by decide +kernel
theorem dX3_rank_20 : decode cX3_rank 20 = .ok (.ireturn, 1) := by decide +kernel
theorem dX3_rank_21 : decode cX3_rank 21 = .ok (.aload_n 0, 1) := by decide +kernel
theorem dX3_rank_22 : decode cX3_rank 22 = .ok (.iload_n 1, 1) := by decide +kernel
theorem dX3_rank_23 : decode cX3_rank 23 = .ok (.iconst 0, 1) := by decide +kernel
theorem dX3_rank_24 : decode cX3_rank 24 = .ok (.aload_n 0, 1) := by decide +kernel
theorem dX3_rank_25 : decode cX3_rank 25 = .ok (.getfield 22, 3) := by decide +kernel
theorem dX3_rank_28 : decode cX3_rank 28 = .ok (.iload_n 2, 1) := by decide +kernel
theorem dX3_rank_29 : decode cX3_rank 29 = .ok (.invokevirtual 32, 3) := by decide +kernel
theorem dX3_rank_32 : decode cX3_rank 32 = .ok (.ireturn, 1) := by decide +kernel
theorem dX3_key_0 : decode cX3_key 0 = .ok (.iload_n 1, 1) := by decide +kernel
theorem dX3_key_1 : decode cX3_key 1 = .ok (.ifCond .lt 20, 3) := by decide +kernel
theorem dX3_key_4 : decode cX3_key 4 = .ok (.iload_n 1, 1) := by decide +kernel
theorem dX3_key_5 : decode cX3_key 5 = .ok (.aload_n 0, 1) := by decide +kernel
theorem dX3_key_6 : decode cX3_key 6 = .ok (.getfield 22, 3) := by decide +kernel
theorem dX3_key_9 : decode cX3_key 9 = .ok (.if_icmp .ge 12, 3) := by decide +kernel
theorem dX3_key_12 : decode cX3_key 12 = .ok (.aload_n 0, 1) := by decide +kernel
theorem dX3_key_13 : decode cX3_key 13 = .ok (.getfield 7, 3) := by decide +kernel
theorem dX3_key_16 : decode cX3_key 16 = .ok (.iload_n 1, 1) := by decide +kernel
theorem dX3_key_17 : decode cX3_key 17 = .ok (.iaload, 1) := by decide +kernel
theorem dX3_key_18 : decode cX3_key 18 = .ok (.goto 4, 3) := by decide +kernel
theorem dX3_key_21 : decode cX3_key 21 = .ok (.iconst 0, 1) := by decide +kernel
theorem dX3_key_22 : decode cX3_key 22 = .ok (.ireturn, 1) := by decide +kernel
theorem dX3_tag_0 : decode cX3_tag 0 = .ok (.iload_n 1, 1) := by decide +kernel
theorem dX3_tag_1 : decode cX3_tag 1 = .ok (.ifCond .lt 20, 3) := by decide +kernel
theorem dX3_tag_4 : decode cX3_tag 4 = .ok (.iload_n 1, 1) := by decide +kernel
theorem dX3_tag_5 : decode cX3_tag 5 = .ok (.aload_n 0, 1) := by decide +kernel
theorem dX3_tag_6 : decode cX3_tag 6 = .ok (.getfield 22, 3) := by decide +kernel
theorem dX3_tag_9 : decode cX3_tag 9 = .ok (.if_icmp .ge 12, 3) := by decide +kernel
theorem dX3_tag_12 : decode cX3_tag 12 = .ok (.aload_n 0, 1) := by decide +kernel
theorem dX3_tag_13 : decode cX3_tag 13 = .ok (.getfield 13, 3) := by decide +kernel
theorem dX3_tag_16 : decode cX3_tag 16 = .ok (.iload_n 1, 1) := by decide +kernel
theorem dX3_tag_17 : decode cX3_tag 17 = .ok (.iaload, 1) := by decide +kernel
theorem dX3_tag_18 : decode cX3_tag 18 = .ok (.goto 4, 3) := by decide +kernel
theorem dX3_tag_21 : decode cX3_tag 21 = .ok (.iconst 0, 1) := by decide +kernel
theorem dX3_tag_22 : decode cX3_tag 22 = .ok (.ireturn, 1) := by decide +kernel
theorem dX3_stretches_0 : decode cX3_stretches 0 = .ok (.iconst 0, 1) := by decide +kernel
theorem dX3_stretches_1 : decode cX3_stretches 1 = .ok (.istore_n 1, 1) := by decide +kernel
theorem dX3_stretches_2 : decode cX3_stretches 2 = .ok (.iconst 0, 1) := by decide +kernel
theorem dX3_stretches_3 : decode cX3_stretches 3 = .ok (.istore_n 2, 1) := by decide +kernel
theorem dX3_stretches_4 : decode cX3_stretches 4 = .ok (.iload_n 2, 1) := by decide +kernel
theorem dX3_stretches_5 : decode cX3_stretches 5 = .ok (.aload_n 0, 1) := by decide +kernel
theorem dX3_stretches_6 : decode cX3_stretches 6 = .ok (.getfield 22, 3) := by decide +kernel
theorem dX3_stretches_9 : decode cX3_stretches 9 = .ok (.if_icmp .ge 38, 3) := by decide +kernel
theorem dX3_stretches_12 : decode cX3_stretches 12 = .ok (.iload_n 2, 1) := by decide +kernel
theorem dX3_stretches_13 : decode cX3_stretches 13 = .ok (.ifCond .eq 20, 3) := by decide +kernel
theorem dX3_stretches_16 : decode cX3_stretches 16 = .ok (.aload_n 0, 1) := by decide +kernel
theorem dX3_stretches_17 : decode cX3_stretches 17 = .ok (.getfield 7, 3) := by decide +kernel
theorem dX3_stretches_20 : decode cX3_stretches 20 = .ok (.iload_n 2, 1) := by decide +kernel
theorem dX3_stretches_21 : decode cX3_stretches 21 = .ok (.iaload, 1) := by decide +kernel
theorem dX3_stretches_22 : decode cX3_stretches 22 = .ok (.aload_n 0, 1) := by decide +kernel
theorem dX3_stretches_23 : decode cX3_stretches 23 = .ok (.getfield 7, 3) := by decide +kernel
theorem dX3_stretches_26 : decode cX3_stretches 26 = .ok (.iload_n 2, 1) := by decide +kernel
theorem dX3_stretches_27 : decode cX3_stretches 27 = .ok (.iconst 1, 1) := by decide +kernel
theorem dX3_stretches_28 : decode cX3_stretches 28 = .ok (.isub, 1) := by decide +kernel
theorem dX3_stretches_29 : decode cX3_stretches 29 = .ok (.iaload, 1) := by decide +kernel
theorem dX3_stretches_30 : decode cX3_stretches 30 = .ok (.if_icmp .ge 9, 3) := by decide +kernel
theorem dX3_stretches_33 : decode cX3_stretches 33 = .ok (.iload_n 1, 1) := by decide +kernel
theorem dX3_stretches_34 : decode cX3_stretches 34 = .ok (.iconst 1, 1) := by decide +kernel
theorem dX3_stretches_35 : decode cX3_stretches 35 = .ok (.iadd, 1) := by decide +kernel
theorem dX3_stretches_36 : decode cX3_stretches 36 = .ok (.goto 4, 3) := by decide +kernel
theorem dX3_stretches_39 : decode cX3_stretches 39 = .ok (.iload_n 1, 1) := by decide +kernel
theorem dX3_stretches_40 : decode cX3_stretches 40 = .ok (.istore_n 1, 1) := by decide +kernel
theorem dX3_stretches_41 : decode cX3_stretches 41 = .ok (.iinc 2 1, 3) := by decide +kernel
theorem dX3_stretches_44 : decode cX3_stretches 44 = .ok (.goto (-40), 3) := by decide +kernel
theorem dX3_stretches_47 : decode cX3_stretches 47 = .ok (.iload_n 1, 1) := by decide +kernel
theorem dX3_stretches_48 : decode cX3_stretches 48 = .ok (.ireturn, 1) := by decide +kernel
theorem dX3_different_0 : decode cX3_different 0 = .ok (.iconst 0, 1) := by decide +kernel
theorem dX3_different_1 : decode cX3_different 1 = .ok (.istore_n 1, 1) := by decide +kernel
theorem dX3_different_2 : decode cX3_different 2 = .ok (.iconst 0, 1) := by decide +kernel
theorem dX3_different_3 : decode cX3_different 3 = .ok (.istore_n 2, 1) := by decide +kernel
theorem dX3_different_4 : decode cX3_different 4 = .ok (.iload_n 2, 1) := by decide +kernel
theorem dX3_different_5 : decode cX3_different 5 = .ok (.aload_n 0, 1) := by decide +kernel
theorem dX3_different_6 : decode cX3_different 6 = .ok (.getfield 22, 3) := by decide +kernel
theorem dX3_different_9 : decode cX3_different 9 = .ok (.if_icmp .ge 64, 3) := by decide +kernel
theorem dX3_different_12 : decode cX3_different 12 = .ok (.iconst 1, 1) := by decide +kernel
theorem dX3_different_13 : decode cX3_different 13 = .ok (.istore_n 3, 1) := by decide +kernel
theorem dX3_different_14 : decode cX3_different 14 = .ok (.iconst 0, 1) := by decide +kernel
theorem dX3_different_15 : decode cX3_different 15 = .ok (.istore 4, 2) := by decide +kernel
theorem dX3_different_17 : decode cX3_different 17 = .ok (.iload 4, 2) := by decide +kernel
theorem dX3_different_19 : decode cX3_different 19 = .ok (.iload_n 2, 1) := by decide +kernel
theorem dX3_different_20 : decode cX3_different 20 = .ok (.if_icmp .ge 35, 3) := by decide +kernel
theorem dX3_different_23 : decode cX3_different 23 = .ok (.iload_n 3, 1) := by decide +kernel
theorem dX3_different_24 : decode cX3_different 24 = .ok (.ifCond .eq 23, 3) := by decide +kernel
theorem dX3_different_27 : decode cX3_different 27 = .ok (.aload_n 0, 1) := by decide +kernel
theorem dX3_different_28 : decode cX3_different 28 = .ok (.getfield 7, 3) := by decide +kernel
theorem dX3_different_31 : decode cX3_different 31 = .ok (.iload 4, 2) := by decide +kernel
theorem dX3_different_33 : decode cX3_different 33 = .ok (.iaload, 1) := by decide +kernel
theorem dX3_different_34 : decode cX3_different 34 = .ok (.aload_n 0, 1) := by decide +kernel
theorem dX3_different_35 : decode cX3_different 35 = .ok (.getfield 7, 3) := by decide +kernel
theorem dX3_different_38 : decode cX3_different 38 = .ok (.iload_n 2, 1) := by decide +kernel
theorem dX3_different_39 : decode cX3_different 39 = .ok (.iaload, 1) := by decide +kernel
theorem dX3_different_40 : decode cX3_different 40 = .ok (.if_icmp .eq 7, 3) := by decide +kernel
theorem dX3_different_43 : decode cX3_different 43 = .ok (.iconst 1, 1) := by decide +kernel
theorem dX3_different_44 : decode cX3_different 44 = .ok (.goto 4, 3) := by decide +kernel
theorem dX3_different_47 : decode cX3_different 47 = .ok (.iconst 0, 1) := by decide +kernel
theorem dX3_different_48 : decode cX3_different 48 = .ok (.istore_n 3, 1) := by decide +kernel
theorem dX3_different_49 : decode cX3_different 49 = .ok (.iinc 4 1, 3) := by decide +kernel
theorem dX3_different_52 : decode cX3_different 52 = .ok (.goto (-35), 3) := by decide +kernel
theorem dX3_different_55 : decode cX3_different 55 = .ok (.iload_n 3, 1) := by decide +kernel
theorem dX3_different_56 : decode cX3_different 56 = .ok (.ifCond .eq 9, 3) := by decide +kernel
theorem dX3_different_59 : decode cX3_different 59 = .ok (.iload_n 1, 1) := by decide +kernel
theorem dX3_different_60 : decode cX3_different 60 = .ok (.iconst 1, 1) := by decide +kernel
theorem dX3_different_61 : decode cX3_different 61 = .ok (.iadd, 1) := by decide +kernel
theorem dX3_different_62 : decode cX3_different 62 = .ok (.goto 4, 3) := by decide +kernel
theorem dX3_different_65 : decode cX3_different 65 = .ok (.iload_n 1, 1) := by decide +kernel
theorem dX3_different_66 : decode cX3_different 66 = .ok (.istore_n 1, 1) := by decide +kernel
theorem dX3_different_67 : decode cX3_different 67 = .ok (.iinc 2 1, 3) := by decide +kernel
theorem dX3_different_70 : decode cX3_different 70 = .ok (.goto (-66), 3) := by decide +kernel
theorem dX3_different_73 : decode cX3_different 73 = .ok (.iload_n 1, 1) := by decide +kernel
theorem dX3_different_74 : decode cX3_different 74 = .ok (.ireturn, 1) := by decide +kernel
set_option maxRecDepth 20000 in
theorem ggX3_count_X3_stretches : GoodIn wsX3_count wsX3_stretches := goodIn_r _ [6, 1, 7, 12, 13, 14, 15, 16] (by decide +kernel) (by decide +kernel)
set_option maxRecDepth 20000 in
theorem gX3_count_X3_stretches : GoodIn wsX3_count (wsV RX3 58 RX3 yX3_stretches wsX3_stretches) := goodIn_app (goodIn_of _ (by decide +kernel)) ggX3_count_X3_stretches
set_option maxRecDepth 20000 in
theorem ggX3_count_X3_different : GoodIn wsX3_count wsX3_different := goodIn_r _ [11, 1, 7, 12, 13, 14, 15, 16] (by decide +kernel) (by decide +kernel)
set_option maxRecDepth 20000 in
theorem gX3_count_X3_different : GoodIn wsX3_count (wsV RX3 62 RX3 yX3_different wsX3_different) := goodIn_app (goodIn_of _ (by decide +kernel)) ggX3_count_X3_different
theorem dX3_count_0 : decode cX3_count 0 = .ok (.iload_n 1, 1) := by decide +kernel
theorem dX3_count_1 : decode cX3_count 1 = .ok (.tableswitch 42 0 2 #[27, 32, 37], 27) := by decide +kernel
theorem dX3_count_28 : decode cX3_count 28 = .ok (.aload_n 0, 1) := by decide +kernel
theorem dX3_count_29 : decode cX3_count 29 = .ok (.getfield 22, 3) := by decide +kernel
theorem dX3_count_32 : decode cX3_count 32 = .ok (.ireturn, 1) := by decide +kernel
theorem dX3_count_33 : decode cX3_count 33 = .ok (.aload_n 0, 1) := by decide +kernel
theorem dX3_count_34 : decode cX3_count 34 = .ok (.invokevirtual 58, 3) := by decide +kernel
theorem dX3_count_37 : decode cX3_count 37 = .ok (.ireturn, 1) := by decide +kernel
theorem dX3_count_38 : decode cX3_count 38 = .ok (.aload_n 0, 1) := by decide +kernel
theorem dX3_count_39 : decode cX3_count 39 = .ok (.invokevirtual 62, 3) := by decide +kernel
theorem dX3_count_42 : decode cX3_count 42 = .ok (.ireturn, 1) := by decide +kernel
theorem dX3_count_43 : decode cX3_count 43 = .ok (.iconst (-1), 1) := by decide +kernel
theorem dX3_count_44 : decode cX3_count 44 = .ok (.ireturn, 1) := by decide +kernel
theorem dX3_check_0 : decode cX3_check 0 = .ok (.iconst 1, 1) := by decide +kernel
theorem dX3_check_1 : decode cX3_check 1 = .ok (.ireturn, 1) := by decide +kernel
theorem dJ9_min_7cf53_0 : decode cJ9_min_7cf53 0 = .ok (.iload_n 0, 1) := by decide +kernel
theorem dJ9_min_7cf53_1 : decode cJ9_min_7cf53 1 = .ok (.iload_n 1, 1) := by decide +kernel
theorem dJ9_min_7cf53_2 : decode cJ9_min_7cf53 2 = .ok (.if_icmp .gt 7, 3) := by decide +kernel
theorem dJ9_min_7cf53_5 : decode cJ9_min_7cf53 5 = .ok (.iload_n 0, 1) := by decide +kernel
theorem dJ9_min_7cf53_6 : decode cJ9_min_7cf53 6 = .ok (.goto 4, 3) := by decide +kernel
theorem dJ9_min_7cf53_9 : decode cJ9_min_7cf53 9 = .ok (.iload_n 1, 1) := by decide +kernel
theorem dJ9_min_7cf53_10 : decode cJ9_min_7cf53 10 = .ok (.ireturn, 1) := by decide +kernel
end
section
set_option maxRecDepth 20000 in
theorem ggL_law_X2_init : GoodIn wsL_law wsX2_init := goodIn_r _ [8, 9, 10, 11, 12, 13, 14, 15, 16, 17, 18, 19, 20, 21, 333, 334, 335, 336, 337, 324, 325, 326, 327] (by decide +kernel) (by decide +kernel)
set_option maxRecDepth 20000 in
theorem gL_law_X2_init : GoodIn wsL_law (wsX2_init) := ggL_law_X2_init
set_option maxRecDepth 20000 in
theorem ggL_law_X3_init : GoodIn wsL_law wsX3_init := goodIn_r _ [24, 25, 10, 11, 19, 26, 27, 28, 29, 30, 328, 329, 330, 331, 332] (by decide +kernel) (by decide +kernel)
set_option maxRecDepth 20000 in
theorem gL_law_X3_init : GoodIn wsL_law (wsX3_init) := ggL_law_X3_init
set_option maxRecDepth 20000 in
theorem ggL_law_X2_put : GoodIn wsL_law wsX2_put := goodIn_r _ [34, 15, 35, 36, 37, 38, 14, 39, 40, 41, 42, 43, 44, 20, 21, 324, 325, 326, 327, 333, 334, 335, 336, 337] (by decide +kernel) (by decide +kernel)
set_option maxRecDepth 20000 in
theorem gL_law_X2_put : GoodIn wsL_law (wsV RL 13 RX2 yX2_put wsX2_put) := goodIn_app (goodIn_of _ (by decide +kernel)) ggL_law_X2_put
set_option maxRecDepth 20000 in
theorem ggL_law_X3_put : GoodIn wsL_law wsX3_put := goodIn_r _ [48, 30, 26, 27, 328, 329, 330, 331, 332] (by decide +kernel) (by decide +kernel)
set_option maxRecDepth 20000 in
theorem gL_law_X3_put : GoodIn wsL_law (wsV RL 17 RX3 yX3_put wsX3_put) := goodIn_app (goodIn_of _ (by decide +kernel)) ggL_law_X3_put
set_option maxRecDepth 20000 in
theorem ggL_law_X2_run : GoodIn wsL_law wsX2_run := goodIn_r _ [52, 15, 35, 36, 37, 38, 14, 39, 40, 41, 42, 43, 44, 20, 21, 324, 325, 326, 327, 333, 334, 335, 336, 337] (by decide +kernel) (by decide +kernel)
set_option maxRecDepth 20000 in
theorem gL_law_X2_run : GoodIn wsL_law (wsV RL 18 RX2 yX2_run wsX2_run) := goodIn_app (goodIn_of _ (by decide +kernel)) ggL_law_X2_run
set_option maxRecDepth 20000 in
theorem ggL_law_X3_run : GoodIn wsL_law wsX3_run := goodIn_r _ [56, 30, 26, 27, 328, 329, 330, 331, 332] (by decide +kernel) (by decide +kernel)
set_option maxRecDepth 20000 in
theorem gL_law_X3_run : GoodIn wsL_law (wsV RL 22 RX3 yX3_run wsX3_run) := goodIn_app (goodIn_of _ (by decide +kernel)) ggL_law_X3_run
set_option maxRecDepth 20000 in
theorem ggL_law_X2_clear : GoodIn wsL_law wsX2_clear := goodIn_r _ [60, 15, 35, 324, 325, 326, 327, 333, 334, 335, 336, 337] (by decide +kernel) (by decide +kernel)
set_option maxRecDepth 20000 in
theorem gL_law_X2_clear : GoodIn wsL_law (wsV RL 23 RX2 yX2_clear wsX2_clear) := goodIn_app (goodIn_of _ (by decide +kernel)) ggL_law_X2_clear
set_option maxRecDepth 20000 in
theorem ggL_law_X3_clear : GoodIn wsL_law wsX3_clear := goodIn_r _ [64, 30, 328, 329, 330, 331, 332] (by decide +kernel) (by decide +kernel)
set_option maxRecDepth 20000 in
theorem gL_law_X3_clear : GoodIn wsL_law (wsV RL 27 RX3 yX3_clear wsX3_clear) := goodIn_app (goodIn_of _ (by decide +kernel)) ggL_law_X3_clear
set_option maxRecDepth 20000 in
theorem ggL_law_X2_sort : GoodIn wsL_law wsX2_sort := goodIn_r _ [68, 15, 35, 69, 70, 71, 2, 72, 73, 74, 75, 76, 77, 78, 79, 14, 80, 40, 81, 82, 83, 84, 85, 86, 87, 88, 89, 90, 91, 92, 93, 94, 95, 96, 97, 98, 99, 100, 101, 102, 103, 104, 105, 20, 106, 107, 108, 109, 110, 111, 112, 113, 114, 115, 116, 117, 118, 119, 120, 121, 21, 122, 123, 124, 125, 126, 127, 128, 129, 130, 324, 325, 326, 327, 333, 334, 335, 336, 337] (by decide +kernel) (by decide +kernel)
set_option maxRecDepth 20000 in
theorem gL_law_X2_sort : GoodIn wsL_law (wsV RL 28 RX2 yX2_sort wsX2_sort) := goodIn_app (goodIn_of _ (by decide +kernel)) ggL_law_X2_sort
set_option maxRecDepth 20000 in
theorem ggL_law_X3_sort : GoodIn wsL_law wsX3_sort := goodIn_r _ [134, 30, 135, 136, 5, 137, 138, 139, 140, 141, 142, 143, 144, 145, 26, 146, 147, 148, 149, 150, 151, 152, 153, 28, 29, 27, 154, 155, 156, 157, 328, 329, 330, 331, 332] (by decide +kernel) (by decide +kernel)
set_option maxRecDepth 20000 in
theorem gL_law_X3_sort : GoodIn wsL_law (wsV RL 32 RX3 yX3_sort wsX3_sort) := goodIn_app (goodIn_of _ (by decide +kernel)) ggL_law_X3_sort
set_option maxRecDepth 20000 in
theorem ggL_law_X2_sortPart : GoodIn wsL_law wsX2_sortPart := goodIn_r _ [72, 15, 73, 74, 75, 76, 77, 78, 79, 14, 80, 40, 81, 82, 83, 84, 85, 86, 87, 88, 89, 90, 91, 92, 93, 94, 95, 96, 97, 98, 99, 100, 101, 102, 103, 104, 105, 20, 106, 107, 108, 109, 110, 111, 112, 113, 114, 115, 116, 117, 118, 119, 120, 121, 21, 122, 123, 124, 2, 125, 126, 127, 128, 129, 130, 324, 325, 326, 327, 333, 334, 335, 336, 337] (by decide +kernel) (by decide +kernel)
set_option maxRecDepth 20000 in
theorem gL_law_X2_sortPart : GoodIn wsL_law (wsV RL 33 RX2 yX2_sortPart wsX2_sortPart) := goodIn_app (goodIn_of _ (by decide +kernel)) ggL_law_X2_sortPart
set_option maxRecDepth 20000 in
theorem ggL_law_X3_sortPart : GoodIn wsL_law wsX3_sortPart := goodIn_r _ [162, 163, 164, 165, 5, 166, 30, 135, 136, 137, 138, 139, 140, 141, 142, 143, 144, 145, 26, 146, 147, 148, 149, 150, 151, 152, 153, 28, 29, 27, 154, 155, 156, 157, 328, 329, 330, 331, 332] (by decide +kernel) (by decide +kernel)
set_option maxRecDepth 20000 in
theorem gL_law_X3_sortPart : GoodIn wsL_law (wsV RL 37 RX3 yX3_sortPart wsX3_sortPart) := goodIn_app (goodIn_of _ (by decide +kernel)) ggL_law_X3_sortPart
set_option maxRecDepth 20000 in
theorem ggL_law_X2_merge : GoodIn wsL_law wsX2_merge := goodIn_r _ [170, 15, 73, 74, 75, 76, 171, 172, 173, 14, 174, 175, 78, 79, 80, 40, 81, 82, 83, 84, 85, 86, 176, 177, 178, 179, 102, 103, 104, 105, 20, 106, 107, 108, 109, 96, 97, 98, 99, 100, 101, 110, 111, 112, 113, 114, 115, 116, 117, 118, 119, 120, 121, 21, 95, 122, 123, 124, 2, 125, 126, 127, 128, 129, 130, 324, 325, 326, 327, 333, 334, 335, 336, 337] (by decide +kernel) (by decide +kernel)
set_option maxRecDepth 20000 in
theorem gL_law_X2_merge : GoodIn wsL_law (wsV RL 38 RX2 yX2_merge wsX2_merge) := goodIn_app (goodIn_of _ (by decide +kernel)) ggL_law_X2_merge
set_option maxRecDepth 20000 in
theorem ggL_law_X3_merge : GoodIn wsL_law wsX3_merge := goodIn_r _ [183, 163, 164, 165, 5, 166, 30, 135, 136, 137, 184, 185, 186, 187, 26, 146, 147, 148, 149, 138, 139, 140, 141, 142, 143, 144, 145, 150, 151, 152, 153, 28, 29, 27, 154, 155, 156, 157, 328, 329, 330, 331, 332] (by decide +kernel) (by decide +kernel)
set_option maxRecDepth 20000 in
theorem gL_law_X3_merge : GoodIn wsL_law (wsV RL 41 RX3 yX3_merge wsX3_merge) := goodIn_app (goodIn_of _ (by decide +kernel)) ggL_law_X3_merge
set_option maxRecDepth 20000 in
theorem ggL_law_X2_rotate : GoodIn wsL_law wsX2_rotate := goodIn_r _ [191, 15, 171, 172, 173, 14, 174, 175, 78, 79, 80, 40, 192, 111, 112, 113, 114, 115, 116, 117, 118, 119, 120, 121, 20, 86, 21, 324, 325, 326, 327, 333, 334, 335, 336, 337] (by decide +kernel) (by decide +kernel)
set_option maxRecDepth 20000 in
theorem gL_law_X2_rotate : GoodIn wsL_law (wsV RL 42 RX2 yX2_rotate wsX2_rotate) := goodIn_app (goodIn_of _ (by decide +kernel)) ggL_law_X2_rotate
set_option maxRecDepth 20000 in
theorem ggL_law_X3_rotate : GoodIn wsL_law wsX3_rotate := goodIn_r _ [196, 163, 164, 165, 5, 166, 30, 150, 151, 152, 153, 28, 26, 29, 27, 154, 155, 156, 157, 328, 329, 330, 331, 332] (by decide +kernel) (by decide +kernel)
set_option maxRecDepth 20000 in
theorem gL_law_X3_rotate : GoodIn wsL_law (wsV RL 45 RX3 yX3_rotate wsX3_rotate) := goodIn_app (goodIn_of _ (by decide +kernel)) ggL_law_X3_rotate
set_option maxRecDepth 20000 in
theorem ggL_law_X2_turn : GoodIn wsL_law wsX2_turn := goodIn_r _ [200, 15, 77, 78, 79, 14, 80, 40, 201, 115, 116, 117, 118, 119, 120, 121, 20, 86, 21, 324, 325, 326, 327, 333, 334, 335, 336, 337] (by decide +kernel) (by decide +kernel)
set_option maxRecDepth 20000 in
theorem gL_law_X2_turn : GoodIn wsL_law (wsV RL 46 RX2 yX2_turn wsX2_turn) := goodIn_app (goodIn_of _ (by decide +kernel)) ggL_law_X2_turn
set_option maxRecDepth 20000 in
theorem ggL_law_X3_turn : GoodIn wsL_law wsX3_turn := goodIn_r _ [205, 163, 164, 165, 5, 166, 30, 150, 151, 152, 153, 28, 26, 29, 27, 154, 155, 156, 157, 328, 329, 330, 331, 332] (by decide +kernel) (by decide +kernel)
set_option maxRecDepth 20000 in
theorem gL_law_X3_turn : GoodIn wsL_law (wsV RL 49 RX3 yX3_turn wsX3_turn) := goodIn_app (goodIn_of _ (by decide +kernel)) ggL_law_X3_turn
set_option maxRecDepth 20000 in
theorem ggL_law_X2_split : GoodIn wsL_law wsX2_split := goodIn_r _ [209, 15, 73, 74, 75, 76, 77, 78, 79, 14, 80, 40, 210, 211, 212, 213, 91, 92, 93, 94, 214, 215, 216, 217, 20, 106, 107, 108, 109, 110, 111, 112, 113, 114, 115, 116, 117, 118, 119, 120, 121, 86, 21, 218, 324, 325, 326, 327, 333, 334, 335, 336, 337] (by decide +kernel) (by decide +kernel)
set_option maxRecDepth 20000 in
theorem gL_law_X2_split : GoodIn wsL_law (wsV RL 50 RX2 yX2_split wsX2_split) := goodIn_app (goodIn_of _ (by decide +kernel)) ggL_law_X2_split
set_option maxRecDepth 20000 in
theorem ggL_law_X3_split : GoodIn wsL_law wsX3_split := goodIn_r _ [222, 26, 163, 164, 165, 5, 166, 30, 135, 136, 137, 146, 147, 148, 149, 150, 151, 152, 153, 28, 29, 27, 154, 155, 156, 157, 328, 329, 330, 331, 332] (by decide +kernel) (by decide +kernel)
set_option maxRecDepth 20000 in
theorem gL_law_X3_split : GoodIn wsL_law (wsV RL 53 RX3 yX3_split wsX3_split) := goodIn_app (goodIn_of _ (by decide +kernel)) ggL_law_X3_split
set_option maxRecDepth 20000 in
theorem ggL_law_X2_thin : GoodIn wsL_law wsX2_thin := goodIn_r _ [226, 15, 35, 73, 74, 75, 76, 176, 177, 178, 14, 179, 102, 103, 104, 105, 85, 20, 106, 107, 108, 109, 227, 228, 229, 230, 40, 21, 324, 325, 326, 327, 333, 334, 335, 336, 337] (by decide +kernel) (by decide +kernel)
set_option maxRecDepth 20000 in
theorem gL_law_X2_thin : GoodIn wsL_law (wsV RL 54 RX2 yX2_thin wsX2_thin) := goodIn_app (goodIn_of _ (by decide +kernel)) ggL_law_X2_thin
set_option maxRecDepth 20000 in
theorem ggL_law_X3_thin : GoodIn wsL_law wsX3_thin := goodIn_r _ [234, 30, 26, 135, 136, 5, 137, 184, 185, 186, 187, 146, 147, 148, 149, 150, 151, 152, 153, 28, 29, 27, 154, 155, 156, 157, 328, 329, 330, 331, 332] (by decide +kernel) (by decide +kernel)
set_option maxRecDepth 20000 in
theorem gL_law_X3_thin : GoodIn wsL_law (wsV RL 57 RX3 yX3_thin wsX3_thin) := goodIn_app (goodIn_of _ (by decide +kernel)) ggL_law_X3_thin
set_option maxRecDepth 20000 in
theorem ggL_law_X2_sorted : GoodIn wsL_law wsX2_sorted := goodIn_r _ [238, 15, 73, 74, 75, 76, 77, 78, 79, 14, 80, 40, 176, 177, 178, 179, 102, 103, 104, 105, 85, 20, 106, 107, 108, 109, 324, 325, 326, 327, 333, 334, 335, 336, 337] (by decide +kernel) (by decide +kernel)
set_option maxRecDepth 20000 in
theorem gL_law_X2_sorted : GoodIn wsL_law (wsV RL 58 RX2 yX2_sorted wsX2_sorted) := goodIn_app (goodIn_of _ (by decide +kernel)) ggL_law_X2_sorted
set_option maxRecDepth 20000 in
theorem ggL_law_X3_sorted : GoodIn wsL_law wsX3_sorted := goodIn_r _ [242, 163, 164, 165, 5, 166, 30, 135, 136, 137, 184, 185, 186, 187, 26, 146, 147, 148, 149, 328, 329, 330, 331, 332] (by decide +kernel) (by decide +kernel)
set_option maxRecDepth 20000 in
theorem gL_law_X3_sorted : GoodIn wsL_law (wsV RL 61 RX3 yX3_sorted wsX3_sorted) := goodIn_app (goodIn_of _ (by decide +kernel)) ggL_law_X3_sorted
set_option maxRecDepth 20000 in
theorem ggL_law_X2_find : GoodIn wsL_law wsX2_find := goodIn_r _ [246, 15, 35, 73, 74, 75, 76, 176, 177, 178, 14, 179, 102, 103, 104, 105, 85, 20, 106, 107, 108, 109, 218, 215, 216, 217, 247, 248, 249, 250, 324, 325, 326, 327, 333, 334, 335, 336, 337] (by decide +kernel) (by decide +kernel)
set_option maxRecDepth 20000 in
theorem gL_law_X2_find : GoodIn wsL_law (wsV RL 62 RX2 yX2_find wsX2_find) := goodIn_app (goodIn_of _ (by decide +kernel)) ggL_law_X2_find
set_option maxRecDepth 20000 in
theorem ggL_law_X3_find : GoodIn wsL_law wsX3_find := goodIn_r _ [254, 30, 26, 135, 136, 5, 137, 184, 185, 186, 187, 146, 147, 148, 149, 328, 329, 330, 331, 332] (by decide +kernel) (by decide +kernel)
set_option maxRecDepth 20000 in
theorem gL_law_X3_find : GoodIn wsL_law (wsV RL 65 RX3 yX3_find wsX3_find) := goodIn_app (goodIn_of _ (by decide +kernel)) ggL_law_X3_find
set_option maxRecDepth 20000 in
theorem ggL_law_X2_rank : GoodIn wsL_law wsX2_rank := goodIn_r _ [258, 15, 259, 35, 73, 74, 75, 76, 260, 261, 262, 14, 263, 40, 247, 248, 249, 250, 20, 106, 107, 108, 109, 218, 215, 216, 217, 324, 325, 326, 327, 333, 334, 335, 336, 337] (by decide +kernel) (by decide +kernel)
set_option maxRecDepth 20000 in
theorem gL_law_X2_rank : GoodIn wsL_law (wsV RL 66 RX2 yX2_rank wsX2_rank) := goodIn_app (goodIn_of _ (by decide +kernel)) ggL_law_X2_rank
set_option maxRecDepth 20000 in
theorem ggL_law_X3_rank : GoodIn wsL_law wsX3_rank := goodIn_r _ [267, 30, 135, 136, 5, 137, 142, 143, 144, 145, 26, 146, 147, 148, 149, 328, 329, 330, 331, 332] (by decide +kernel) (by decide +kernel)
set_option maxRecDepth 20000 in
theorem gL_law_X3_rank : GoodIn wsL_law (wsV RL 69 RX3 yX3_rank wsX3_rank) := goodIn_app (goodIn_of _ (by decide +kernel)) ggL_law_X3_rank
set_option maxRecDepth 20000 in
theorem ggL_law_X2_key : GoodIn wsL_law wsX2_key := goodIn_r _ [271, 15, 259, 260, 261, 262, 14, 263, 40, 324, 325, 326, 327, 333, 334, 335, 336, 337] (by decide +kernel) (by decide +kernel)
set_option maxRecDepth 20000 in
theorem gL_law_X2_key : GoodIn wsL_law (wsV RL 70 RX2 yX2_key wsX2_key) := goodIn_app (goodIn_of _ (by decide +kernel)) ggL_law_X2_key
set_option maxRecDepth 20000 in
theorem ggL_law_X3_key : GoodIn wsL_law wsX3_key := goodIn_r _ [275, 30, 26, 328, 329, 330, 331, 332] (by decide +kernel) (by decide +kernel)
set_option maxRecDepth 20000 in
theorem gL_law_X3_key : GoodIn wsL_law (wsV RL 73 RX3 yX3_key wsX3_key) := goodIn_app (goodIn_of _ (by decide +kernel)) ggL_law_X3_key
set_option maxRecDepth 20000 in
theorem ggL_law_X2_tag : GoodIn wsL_law wsX2_tag := goodIn_r _ [279, 15, 280, 260, 261, 262, 14, 263, 40, 324, 325, 326, 327, 333, 334, 335, 336, 337] (by decide +kernel) (by decide +kernel)
set_option maxRecDepth 20000 in
theorem gL_law_X2_tag : GoodIn wsL_law (wsV RL 74 RX2 yX2_tag wsX2_tag) := goodIn_app (goodIn_of _ (by decide +kernel)) ggL_law_X2_tag
set_option maxRecDepth 20000 in
theorem ggL_law_X3_tag : GoodIn wsL_law wsX3_tag := goodIn_r _ [284, 30, 27, 328, 329, 330, 331, 332] (by decide +kernel) (by decide +kernel)
set_option maxRecDepth 20000 in
theorem gL_law_X3_tag : GoodIn wsL_law (wsV RL 77 RX3 yX3_tag wsX3_tag) := goodIn_app (goodIn_of _ (by decide +kernel)) ggL_law_X3_tag
set_option maxRecDepth 20000 in
theorem ggL_law_X2_count : GoodIn wsL_law wsX2_count := goodIn_r _ [288, 15, 35, 289, 290, 291, 14, 292, 40, 20, 293, 294, 295, 296, 297, 298, 299, 300, 324, 325, 326, 327, 333, 334, 335, 336, 337] (by decide +kernel) (by decide +kernel)
set_option maxRecDepth 20000 in
theorem gL_law_X2_count : GoodIn wsL_law (wsV RL 78 RX2 yX2_count wsX2_count) := goodIn_app (goodIn_of _ (by decide +kernel)) ggL_law_X2_count
set_option maxRecDepth 20000 in
theorem ggL_law_X3_count : GoodIn wsL_law wsX3_count := goodIn_r _ [304, 30, 305, 306, 307, 5, 308, 26, 309, 310, 311, 312, 328, 329, 330, 331, 332] (by decide +kernel) (by decide +kernel)
set_option maxRecDepth 20000 in
theorem gL_law_X3_count : GoodIn wsL_law (wsV RL 81 RX3 yX3_count wsX3_count) := goodIn_app (goodIn_of _ (by decide +kernel)) ggL_law_X3_count
set_option maxRecDepth 20000 in
theorem ggL_law_X2_check : GoodIn wsL_law wsX2_check := goodIn_r _ [316, 126, 128, 130, 317, 318, 2, 319, 324, 325, 326, 327] (by decide +kernel) (by decide +kernel)
set_option maxRecDepth 20000 in
theorem gL_law_X2_check : GoodIn wsL_law (wsV RL 82 RX2 yX2_check wsX2_check) := goodIn_app (goodIn_of _ (by decide +kernel)) ggL_law_X2_check
set_option maxRecDepth 20000 in
theorem ggL_law_X3_check : GoodIn wsL_law wsX3_check := goodIn_r _ [323] (by decide +kernel) (by decide +kernel)
set_option maxRecDepth 20000 in
theorem gL_law_X3_check : GoodIn wsL_law (wsV RL 85 RX3 yX3_check wsX3_check) := goodIn_app (goodIn_of _ (by decide +kernel)) ggL_law_X3_check
end
section
theorem dL_law_0 : decode cL_law 0 = .ok (.new 7, 3) := by decide +kernel
theorem dL_law_3 : decode cL_law 3 = .ok (.dup, 1) := by decide +kernel
theorem dL_law_4 : decode cL_law 4 = .ok (.invokespecial 9, 3) := by decide +kernel
theorem dL_law_7 : decode cL_law 7 = .ok (.astore_n 1, 1) := by decide +kernel
theorem dL_law_8 : decode cL_law 8 = .ok (.new 10, 3) := by decide +kernel
theorem dL_law_11 : decode cL_law 11 = .ok (.dup, 1) := by decide +kernel
theorem dL_law_12 : decode cL_law 12 = .ok (.invokespecial 12, 3) := by decide +kernel
theorem dL_law_15 : decode cL_law 15 = .ok (.astore_n 2, 1) := by decide +kernel
theorem dL_law_16 : decode cL_law 16 = .ok (.iconst 0, 1) := by decide +kernel
theorem dL_law_17 : decode cL_law 17 = .ok (.istore_n 3, 1) := by decide +kernel
theorem dL_law_18 : decode cL_law 18 = .ok (.iload_n 3, 1) := by decide +kernel
theorem dL_law_19 : decode cL_law 19 = .ok (.aload_n 0, 1) := by decide +kernel
theorem dL_law_20 : decode cL_law 20 = .ok (.arraylength, 1) := by decide +kernel
theorem dL_law_21 : decode cL_law 21 = .ok (.iconst 5, 1) := by decide +kernel
theorem dL_law_22 : decode cL_law 22 = .ok (.isub, 1) := by decide +kernel
theorem dL_law_23 : decode cL_law 23 = .ok (.if_icmp .gt 670, 3) := by decide +kernel
theorem dL_law_26 : decode cL_law 26 = .ok (.aload_n 0, 1) := by decide +kernel
theorem dL_law_27 : decode cL_law 27 = .ok (.iload_n 3, 1) := by decide +kernel
theorem dL_law_28 : decode cL_law 28 = .ok (.iaload, 1) := by decide +kernel
theorem dL_law_29 : decode cL_law 29 = .ok (.bipush 31, 2) := by decide +kernel
theorem dL_law_31 : decode cL_law 31 = .ok (.iand, 1) := by decide +kernel
theorem dL_law_32 : decode cL_law 32 = .ok (.tableswitch 655 0 16 #[84, 117, 170, 183, 206, 249, 302, 345, 378, 431, 454, 497, 540, 573, 596, 619, 642], 84) := by decide +kernel
theorem dL_law_116 : decode cL_law 116 = .ok (.aload_n 1, 1) := by decide +kernel
theorem dL_law_117 : decode cL_law 117 = .ok (.aload_n 0, 1) := by decide +kernel
theorem dL_law_118 : decode cL_law 118 = .ok (.iload_n 3, 1) := by decide +kernel
theorem dL_law_119 : decode cL_law 119 = .ok (.iconst 1, 1) := by decide +kernel
theorem dL_law_120 : decode cL_law 120 = .ok (.iadd, 1) := by decide +kernel
theorem dL_law_121 : decode cL_law 121 = .ok (.iaload, 1) := by decide +kernel
theorem dL_law_122 : decode cL_law 122 = .ok (.aload_n 0, 1) := by decide +kernel
theorem dL_law_123 : decode cL_law 123 = .ok (.iload_n 3, 1) := by decide +kernel
theorem dL_law_124 : decode cL_law 124 = .ok (.iconst 2, 1) := by decide +kernel
theorem dL_law_125 : decode cL_law 125 = .ok (.iadd, 1) := by decide +kernel
theorem dL_law_126 : decode cL_law 126 = .ok (.iaload, 1) := by decide +kernel
theorem dL_law_127 : decode cL_law 127 = .ok (.invokevirtual 13, 3) := by decide +kernel
theorem dL_law_130 : decode cL_law 130 = .ok (.aload_n 2, 1) := by decide +kernel
theorem dL_law_131 : decode cL_law 131 = .ok (.aload_n 0, 1) := by decide +kernel
theorem dL_law_132 : decode cL_law 132 = .ok (.iload_n 3, 1) := by decide +kernel
theorem dL_law_133 : decode cL_law 133 = .ok (.iconst 1, 1) := by decide +kernel
theorem dL_law_134 : decode cL_law 134 = .ok (.iadd, 1) := by decide +kernel
theorem dL_law_135 : decode cL_law 135 = .ok (.iaload, 1) := by decide +kernel
theorem dL_law_136 : decode cL_law 136 = .ok (.aload_n 0, 1) := by decide +kernel
theorem dL_law_137 : decode cL_law 137 = .ok (.iload_n 3, 1) := by decide +kernel
theorem dL_law_138 : decode cL_law 138 = .ok (.iconst 2, 1) := by decide +kernel
theorem dL_law_139 : decode cL_law 139 = .ok (.iadd, 1) := by decide +kernel
theorem dL_law_140 : decode cL_law 140 = .ok (.iaload, 1) := by decide +kernel
theorem dL_law_141 : decode cL_law 141 = .ok (.invokevirtual 17, 3) := by decide +kernel
theorem dL_law_144 : decode cL_law 144 = .ok (.if_icmp .eq 543, 3) := by decide +kernel
theorem dL_law_147 : decode cL_law 147 = .ok (.iconst 0, 1) := by decide +kernel
theorem dL_law_148 : decode cL_law 148 = .ok (.ireturn, 1) := by decide +kernel
theorem dL_law_149 : decode cL_law 149 = .ok (.aload_n 1, 1) := by decide +kernel
theorem dL_law_150 : decode cL_law 150 = .ok (.aload_n 0, 1) := by decide +kernel
theorem dL_law_151 : decode cL_law 151 = .ok (.iload_n 3, 1) := by decide +kernel
theorem dL_law_152 : decode cL_law 152 = .ok (.iconst 1, 1) := by decide +kernel
theorem dL_law_153 : decode cL_law 153 = .ok (.iadd, 1) := by decide +kernel
theorem dL_law_154 : decode cL_law 154 = .ok (.iaload, 1) := by decide +kernel
theorem dL_law_155 : decode cL_law 155 = .ok (.aload_n 0, 1) := by decide +kernel
theorem dL_law_156 : decode cL_law 156 = .ok (.iload_n 3, 1) := by decide +kernel
theorem dL_law_157 : decode cL_law 157 = .ok (.iconst 2, 1) := by decide +kernel
theorem dL_law_158 : decode cL_law 158 = .ok (.iadd, 1) := by decide +kernel
theorem dL_law_159 : decode cL_law 159 = .ok (.iaload, 1) := by decide +kernel
theorem dL_law_160 : decode cL_law 160 = .ok (.aload_n 0, 1) := by decide +kernel
theorem dL_law_161 : decode cL_law 161 = .ok (.iload_n 3, 1) := by decide +kernel
theorem dL_law_162 : decode cL_law 162 = .ok (.iconst 3, 1) := by decide +kernel
theorem dL_law_163 : decode cL_law 163 = .ok (.iadd, 1) := by decide +kernel
theorem dL_law_164 : decode cL_law 164 = .ok (.iaload, 1) := by decide +kernel
theorem dL_law_165 : decode cL_law 165 = .ok (.aload_n 0, 1) := by decide +kernel
theorem dL_law_166 : decode cL_law 166 = .ok (.iload_n 3, 1) := by decide +kernel
theorem dL_law_167 : decode cL_law 167 = .ok (.iconst 4, 1) := by decide +kernel
theorem dL_law_168 : decode cL_law 168 = .ok (.iadd, 1) := by decide +kernel
theorem dL_law_169 : decode cL_law 169 = .ok (.iaload, 1) := by decide +kernel
theorem dL_law_170 : decode cL_law 170 = .ok (.invokevirtual 18, 3) := by decide +kernel
theorem dL_law_173 : decode cL_law 173 = .ok (.aload_n 2, 1) := by decide +kernel
theorem dL_law_174 : decode cL_law 174 = .ok (.aload_n 0, 1) := by decide +kernel
theorem dL_law_175 : decode cL_law 175 = .ok (.iload_n 3, 1) := by decide +kernel
theorem dL_law_176 : decode cL_law 176 = .ok (.iconst 1, 1) := by decide +kernel
theorem dL_law_177 : decode cL_law 177 = .ok (.iadd, 1) := by decide +kernel
theorem dL_law_178 : decode cL_law 178 = .ok (.iaload, 1) := by decide +kernel
theorem dL_law_179 : decode cL_law 179 = .ok (.aload_n 0, 1) := by decide +kernel
theorem dL_law_180 : decode cL_law 180 = .ok (.iload_n 3, 1) := by decide +kernel
theorem dL_law_181 : decode cL_law 181 = .ok (.iconst 2, 1) := by decide +kernel
theorem dL_law_182 : decode cL_law 182 = .ok (.iadd, 1) := by decide +kernel
theorem dL_law_183 : decode cL_law 183 = .ok (.iaload, 1) := by decide +kernel
theorem dL_law_184 : decode cL_law 184 = .ok (.aload_n 0, 1) := by decide +kernel
theorem dL_law_185 : decode cL_law 185 = .ok (.iload_n 3, 1) := by decide +kernel
theorem dL_law_186 : decode cL_law 186 = .ok (.iconst 3, 1) := by decide +kernel
theorem dL_law_187 : decode cL_law 187 = .ok (.iadd, 1) := by decide +kernel
theorem dL_law_188 : decode cL_law 188 = .ok (.iaload, 1) := by decide +kernel
theorem dL_law_189 : decode cL_law 189 = .ok (.aload_n 0, 1) := by decide +kernel
theorem dL_law_190 : decode cL_law 190 = .ok (.iload_n 3, 1) := by decide +kernel
theorem dL_law_191 : decode cL_law 191 = .ok (.iconst 4, 1) := by decide +kernel
theorem dL_law_192 : decode cL_law 192 = .ok (.iadd, 1) := by decide +kernel
theorem dL_law_193 : decode cL_law 193 = .ok (.iaload, 1) := by decide +kernel
theorem dL_law_194 : decode cL_law 194 = .ok (.invokevirtual 22, 3) := by decide +kernel
theorem dL_law_197 : decode cL_law 197 = .ok (.if_icmp .eq 490, 3) := by decide +kernel
theorem dL_law_200 : decode cL_law 200 = .ok (.iconst 0, 1) := by decide +kernel
theorem dL_law_201 : decode cL_law 201 = .ok (.ireturn, 1) := by decide +kernel
theorem dL_law_202 : decode cL_law 202 = .ok (.aload_n 1, 1) := by decide +kernel
theorem dL_law_203 : decode cL_law 203 = .ok (.invokevirtual 23, 3) := by decide +kernel
theorem dL_law_206 : decode cL_law 206 = .ok (.aload_n 2, 1) := by decide +kernel
theorem dL_law_207 : decode cL_law 207 = .ok (.invokevirtual 27, 3) := by decide +kernel
theorem dL_law_210 : decode cL_law 210 = .ok (.if_icmp .eq 477, 3) := by decide +kernel
theorem dL_law_213 : decode cL_law 213 = .ok (.iconst 0, 1) := by decide +kernel
theorem dL_law_214 : decode cL_law 214 = .ok (.ireturn, 1) := by decide +kernel
theorem dL_law_215 : decode cL_law 215 = .ok (.aload_n 1, 1) := by decide +kernel
theorem dL_law_216 : decode cL_law 216 = .ok (.aload_n 0, 1) := by decide +kernel
theorem dL_law_217 : decode cL_law 217 = .ok (.iload_n 3, 1) := by decide +kernel
theorem dL_law_218 : decode cL_law 218 = .ok (.iconst 1, 1) := by decide +kernel
theorem dL_law_219 : decode cL_law 219 = .ok (.iadd, 1) := by decide +kernel
theorem dL_law_220 : decode cL_law 220 = .ok (.iaload, 1) := by decide +kernel
theorem dL_law_221 : decode cL_law 221 = .ok (.invokevirtual 28, 3) := by decide +kernel
theorem dL_law_224 : decode cL_law 224 = .ok (.aload_n 2, 1) := by decide +kernel
theorem dL_law_225 : decode cL_law 225 = .ok (.aload_n 0, 1) := by decide +kernel
theorem dL_law_226 : decode cL_law 226 = .ok (.iload_n 3, 1) := by decide +kernel
theorem dL_law_227 : decode cL_law 227 = .ok (.iconst 1, 1) := by decide +kernel
theorem dL_law_228 : decode cL_law 228 = .ok (.iadd, 1) := by decide +kernel
theorem dL_law_229 : decode cL_law 229 = .ok (.iaload, 1) := by decide +kernel
theorem dL_law_230 : decode cL_law 230 = .ok (.invokevirtual 32, 3) := by decide +kernel
theorem dL_law_233 : decode cL_law 233 = .ok (.if_icmp .eq 454, 3) := by decide +kernel
theorem dL_law_236 : decode cL_law 236 = .ok (.iconst 0, 1) := by decide +kernel
theorem dL_law_237 : decode cL_law 237 = .ok (.ireturn, 1) := by decide +kernel
theorem dL_law_238 : decode cL_law 238 = .ok (.aload_n 1, 1) := by decide +kernel
theorem dL_law_239 : decode cL_law 239 = .ok (.aload_n 0, 1) := by decide +kernel
theorem dL_law_240 : decode cL_law 240 = .ok (.iload_n 3, 1) := by decide +kernel
theorem dL_law_241 : decode cL_law 241 = .ok (.iconst 1, 1) := by decide +kernel
theorem dL_law_242 : decode cL_law 242 = .ok (.iadd, 1) := by decide +kernel
theorem dL_law_243 : decode cL_law 243 = .ok (.iaload, 1) := by decide +kernel
theorem dL_law_244 : decode cL_law 244 = .ok (.aload_n 0, 1) := by decide +kernel
theorem dL_law_245 : decode cL_law 245 = .ok (.iload_n 3, 1) := by decide +kernel
theorem dL_law_246 : decode cL_law 246 = .ok (.iconst 2, 1) := by decide +kernel
theorem dL_law_247 : decode cL_law 247 = .ok (.iadd, 1) := by decide +kernel
theorem dL_law_248 : decode cL_law 248 = .ok (.iaload, 1) := by decide +kernel
theorem dL_law_249 : decode cL_law 249 = .ok (.aload_n 0, 1) := by decide +kernel
theorem dL_law_250 : decode cL_law 250 = .ok (.iload_n 3, 1) := by decide +kernel
theorem dL_law_251 : decode cL_law 251 = .ok (.iconst 3, 1) := by decide +kernel
theorem dL_law_252 : decode cL_law 252 = .ok (.iadd, 1) := by decide +kernel
theorem dL_law_253 : decode cL_law 253 = .ok (.iaload, 1) := by decide +kernel
theorem dL_law_254 : decode cL_law 254 = .ok (.invokevirtual 33, 3) := by decide +kernel
theorem dL_law_257 : decode cL_law 257 = .ok (.aload_n 2, 1) := by decide +kernel
theorem dL_law_258 : decode cL_law 258 = .ok (.aload_n 0, 1) := by decide +kernel
theorem dL_law_259 : decode cL_law 259 = .ok (.iload_n 3, 1) := by decide +kernel
theorem dL_law_260 : decode cL_law 260 = .ok (.iconst 1, 1) := by decide +kernel
theorem dL_law_261 : decode cL_law 261 = .ok (.iadd, 1) := by decide +kernel
theorem dL_law_262 : decode cL_law 262 = .ok (.iaload, 1) := by decide +kernel
theorem dL_law_263 : decode cL_law 263 = .ok (.aload_n 0, 1) := by decide +kernel
theorem dL_law_264 : decode cL_law 264 = .ok (.iload_n 3, 1) := by decide +kernel
theorem dL_law_265 : decode cL_law 265 = .ok (.iconst 2, 1) := by decide +kernel
theorem dL_law_266 : decode cL_law 266 = .ok (.iadd, 1) := by decide +kernel
theorem dL_law_267 : decode cL_law 267 = .ok (.iaload, 1) := by decide +kernel
theorem dL_law_268 : decode cL_law 268 = .ok (.aload_n 0, 1) := by decide +kernel
theorem dL_law_269 : decode cL_law 269 = .ok (.iload_n 3, 1) := by decide +kernel
theorem dL_law_270 : decode cL_law 270 = .ok (.iconst 3, 1) := by decide +kernel
theorem dL_law_271 : decode cL_law 271 = .ok (.iadd, 1) := by decide +kernel
theorem dL_law_272 : decode cL_law 272 = .ok (.iaload, 1) := by decide +kernel
theorem dL_law_273 : decode cL_law 273 = .ok (.invokevirtual 37, 3) := by decide +kernel
theorem dL_law_276 : decode cL_law 276 = .ok (.if_icmp .eq 411, 3) := by decide +kernel
theorem dL_law_279 : decode cL_law 279 = .ok (.iconst 0, 1) := by decide +kernel
theorem dL_law_280 : decode cL_law 280 = .ok (.ireturn, 1) := by decide +kernel
theorem dL_law_281 : decode cL_law 281 = .ok (.aload_n 1, 1) := by decide +kernel
theorem dL_law_282 : decode cL_law 282 = .ok (.aload_n 0, 1) := by decide +kernel
theorem dL_law_283 : decode cL_law 283 = .ok (.iload_n 3, 1) := by decide +kernel
theorem dL_law_284 : decode cL_law 284 = .ok (.iconst 1, 1) := by decide +kernel
theorem dL_law_285 : decode cL_law 285 = .ok (.iadd, 1) := by decide +kernel
theorem dL_law_286 : decode cL_law 286 = .ok (.iaload, 1) := by decide +kernel
theorem dL_law_287 : decode cL_law 287 = .ok (.aload_n 0, 1) := by decide +kernel
theorem dL_law_288 : decode cL_law 288 = .ok (.iload_n 3, 1) := by decide +kernel
theorem dL_law_289 : decode cL_law 289 = .ok (.iconst 2, 1) := by decide +kernel
theorem dL_law_290 : decode cL_law 290 = .ok (.iadd, 1) := by decide +kernel
theorem dL_law_291 : decode cL_law 291 = .ok (.iaload, 1) := by decide +kernel
theorem dL_law_292 : decode cL_law 292 = .ok (.aload_n 0, 1) := by decide +kernel
theorem dL_law_293 : decode cL_law 293 = .ok (.iload_n 3, 1) := by decide +kernel
theorem dL_law_294 : decode cL_law 294 = .ok (.iconst 3, 1) := by decide +kernel
theorem dL_law_295 : decode cL_law 295 = .ok (.iadd, 1) := by decide +kernel
theorem dL_law_296 : decode cL_law 296 = .ok (.iaload, 1) := by decide +kernel
theorem dL_law_297 : decode cL_law 297 = .ok (.aload_n 0, 1) := by decide +kernel
theorem dL_law_298 : decode cL_law 298 = .ok (.iload_n 3, 1) := by decide +kernel
theorem dL_law_299 : decode cL_law 299 = .ok (.iconst 4, 1) := by decide +kernel
theorem dL_law_300 : decode cL_law 300 = .ok (.iadd, 1) := by decide +kernel
theorem dL_law_301 : decode cL_law 301 = .ok (.iaload, 1) := by decide +kernel
theorem dL_law_302 : decode cL_law 302 = .ok (.invokevirtual 38, 3) := by decide +kernel
theorem dL_law_305 : decode cL_law 305 = .ok (.aload_n 2, 1) := by decide +kernel
theorem dL_law_306 : decode cL_law 306 = .ok (.aload_n 0, 1) := by decide +kernel
theorem dL_law_307 : decode cL_law 307 = .ok (.iload_n 3, 1) := by decide +kernel
theorem dL_law_308 : decode cL_law 308 = .ok (.iconst 1, 1) := by decide +kernel
theorem dL_law_309 : decode cL_law 309 = .ok (.iadd, 1) := by decide +kernel
theorem dL_law_310 : decode cL_law 310 = .ok (.iaload, 1) := by decide +kernel
theorem dL_law_311 : decode cL_law 311 = .ok (.aload_n 0, 1) := by decide +kernel
theorem dL_law_312 : decode cL_law 312 = .ok (.iload_n 3, 1) := by decide +kernel
theorem dL_law_313 : decode cL_law 313 = .ok (.iconst 2, 1) := by decide +kernel
theorem dL_law_314 : decode cL_law 314 = .ok (.iadd, 1) := by decide +kernel
theorem dL_law_315 : decode cL_law 315 = .ok (.iaload, 1) := by decide +kernel
theorem dL_law_316 : decode cL_law 316 = .ok (.aload_n 0, 1) := by decide +kernel
theorem dL_law_317 : decode cL_law 317 = .ok (.iload_n 3, 1) := by decide +kernel
theorem dL_law_318 : decode cL_law 318 = .ok (.iconst 3, 1) := by decide +kernel
theorem dL_law_319 : decode cL_law 319 = .ok (.iadd, 1) := by decide +kernel
theorem dL_law_320 : decode cL_law 320 = .ok (.iaload, 1) := by decide +kernel
theorem dL_law_321 : decode cL_law 321 = .ok (.aload_n 0, 1) := by decide +kernel
theorem dL_law_322 : decode cL_law 322 = .ok (.iload_n 3, 1) := by decide +kernel
theorem dL_law_323 : decode cL_law 323 = .ok (.iconst 4, 1) := by decide +kernel
theorem dL_law_324 : decode cL_law 324 = .ok (.iadd, 1) := by decide +kernel
theorem dL_law_325 : decode cL_law 325 = .ok (.iaload, 1) := by decide +kernel
theorem dL_law_326 : decode cL_law 326 = .ok (.invokevirtual 41, 3) := by decide +kernel
theorem dL_law_329 : decode cL_law 329 = .ok (.if_icmp .eq 358, 3) := by decide +kernel
theorem dL_law_332 : decode cL_law 332 = .ok (.iconst 0, 1) := by decide +kernel
theorem dL_law_333 : decode cL_law 333 = .ok (.ireturn, 1) := by decide +kernel
theorem dL_law_334 : decode cL_law 334 = .ok (.aload_n 1, 1) := by decide +kernel
theorem dL_law_335 : decode cL_law 335 = .ok (.aload_n 0, 1) := by decide +kernel
theorem dL_law_336 : decode cL_law 336 = .ok (.iload_n 3, 1) := by decide +kernel
theorem dL_law_337 : decode cL_law 337 = .ok (.iconst 1, 1) := by decide +kernel
theorem dL_law_338 : decode cL_law 338 = .ok (.iadd, 1) := by decide +kernel
theorem dL_law_339 : decode cL_law 339 = .ok (.iaload, 1) := by decide +kernel
theorem dL_law_340 : decode cL_law 340 = .ok (.aload_n 0, 1) := by decide +kernel
theorem dL_law_341 : decode cL_law 341 = .ok (.iload_n 3, 1) := by decide +kernel
theorem dL_law_342 : decode cL_law 342 = .ok (.iconst 2, 1) := by decide +kernel
theorem dL_law_343 : decode cL_law 343 = .ok (.iadd, 1) := by decide +kernel
theorem dL_law_344 : decode cL_law 344 = .ok (.iaload, 1) := by decide +kernel
theorem dL_law_345 : decode cL_law 345 = .ok (.aload_n 0, 1) := by decide +kernel
theorem dL_law_346 : decode cL_law 346 = .ok (.iload_n 3, 1) := by decide +kernel
theorem dL_law_347 : decode cL_law 347 = .ok (.iconst 3, 1) := by decide +kernel
theorem dL_law_348 : decode cL_law 348 = .ok (.iadd, 1) := by decide +kernel
theorem dL_law_349 : decode cL_law 349 = .ok (.iaload, 1) := by decide +kernel
theorem dL_law_350 : decode cL_law 350 = .ok (.invokevirtual 42, 3) := by decide +kernel
theorem dL_law_353 : decode cL_law 353 = .ok (.aload_n 2, 1) := by decide +kernel
theorem dL_law_354 : decode cL_law 354 = .ok (.aload_n 0, 1) := by decide +kernel
theorem dL_law_355 : decode cL_law 355 = .ok (.iload_n 3, 1) := by decide +kernel
theorem dL_law_356 : decode cL_law 356 = .ok (.iconst 1, 1) := by decide +kernel
theorem dL_law_357 : decode cL_law 357 = .ok (.iadd, 1) := by decide +kernel
theorem dL_law_358 : decode cL_law 358 = .ok (.iaload, 1) := by decide +kernel
theorem dL_law_359 : decode cL_law 359 = .ok (.aload_n 0, 1) := by decide +kernel
theorem dL_law_360 : decode cL_law 360 = .ok (.iload_n 3, 1) := by decide +kernel
theorem dL_law_361 : decode cL_law 361 = .ok (.iconst 2, 1) := by decide +kernel
theorem dL_law_362 : decode cL_law 362 = .ok (.iadd, 1) := by decide +kernel
theorem dL_law_363 : decode cL_law 363 = .ok (.iaload, 1) := by decide +kernel
theorem dL_law_364 : decode cL_law 364 = .ok (.aload_n 0, 1) := by decide +kernel
theorem dL_law_365 : decode cL_law 365 = .ok (.iload_n 3, 1) := by decide +kernel
theorem dL_law_366 : decode cL_law 366 = .ok (.iconst 3, 1) := by decide +kernel
theorem dL_law_367 : decode cL_law 367 = .ok (.iadd, 1) := by decide +kernel
theorem dL_law_368 : decode cL_law 368 = .ok (.iaload, 1) := by decide +kernel
theorem dL_law_369 : decode cL_law 369 = .ok (.invokevirtual 45, 3) := by decide +kernel
theorem dL_law_372 : decode cL_law 372 = .ok (.if_icmp .eq 315, 3) := by decide +kernel
theorem dL_law_375 : decode cL_law 375 = .ok (.iconst 0, 1) := by decide +kernel
theorem dL_law_376 : decode cL_law 376 = .ok (.ireturn, 1) := by decide +kernel
theorem dL_law_377 : decode cL_law 377 = .ok (.aload_n 1, 1) := by decide +kernel
theorem dL_law_378 : decode cL_law 378 = .ok (.aload_n 0, 1) := by decide +kernel
theorem dL_law_379 : decode cL_law 379 = .ok (.iload_n 3, 1) := by decide +kernel
theorem dL_law_380 : decode cL_law 380 = .ok (.iconst 1, 1) := by decide +kernel
theorem dL_law_381 : decode cL_law 381 = .ok (.iadd, 1) := by decide +kernel
theorem dL_law_382 : decode cL_law 382 = .ok (.iaload, 1) := by decide +kernel
theorem dL_law_383 : decode cL_law 383 = .ok (.aload_n 0, 1) := by decide +kernel
theorem dL_law_384 : decode cL_law 384 = .ok (.iload_n 3, 1) := by decide +kernel
theorem dL_law_385 : decode cL_law 385 = .ok (.iconst 2, 1) := by decide +kernel
theorem dL_law_386 : decode cL_law 386 = .ok (.iadd, 1) := by decide +kernel
theorem dL_law_387 : decode cL_law 387 = .ok (.iaload, 1) := by decide +kernel
theorem dL_law_388 : decode cL_law 388 = .ok (.invokevirtual 46, 3) := by decide +kernel
theorem dL_law_391 : decode cL_law 391 = .ok (.aload_n 2, 1) := by decide +kernel
theorem dL_law_392 : decode cL_law 392 = .ok (.aload_n 0, 1) := by decide +kernel
theorem dL_law_393 : decode cL_law 393 = .ok (.iload_n 3, 1) := by decide +kernel
theorem dL_law_394 : decode cL_law 394 = .ok (.iconst 1, 1) := by decide +kernel
theorem dL_law_395 : decode cL_law 395 = .ok (.iadd, 1) := by decide +kernel
theorem dL_law_396 : decode cL_law 396 = .ok (.iaload, 1) := by decide +kernel
theorem dL_law_397 : decode cL_law 397 = .ok (.aload_n 0, 1) := by decide +kernel
theorem dL_law_398 : decode cL_law 398 = .ok (.iload_n 3, 1) := by decide +kernel
theorem dL_law_399 : decode cL_law 399 = .ok (.iconst 2, 1) := by decide +kernel
theorem dL_law_400 : decode cL_law 400 = .ok (.iadd, 1) := by decide +kernel
theorem dL_law_401 : decode cL_law 401 = .ok (.iaload, 1) := by decide +kernel
theorem dL_law_402 : decode cL_law 402 = .ok (.invokevirtual 49, 3) := by decide +kernel
theorem dL_law_405 : decode cL_law 405 = .ok (.if_icmp .eq 282, 3) := by decide +kernel
theorem dL_law_408 : decode cL_law 408 = .ok (.iconst 0, 1) := by decide +kernel
theorem dL_law_409 : decode cL_law 409 = .ok (.ireturn, 1) := by decide +kernel
theorem dL_law_410 : decode cL_law 410 = .ok (.aload_n 1, 1) := by decide +kernel
theorem dL_law_411 : decode cL_law 411 = .ok (.aload_n 0, 1) := by decide +kernel
theorem dL_law_412 : decode cL_law 412 = .ok (.iload_n 3, 1) := by decide +kernel
theorem dL_law_413 : decode cL_law 413 = .ok (.iconst 1, 1) := by decide +kernel
theorem dL_law_414 : decode cL_law 414 = .ok (.iadd, 1) := by decide +kernel
theorem dL_law_415 : decode cL_law 415 = .ok (.iaload, 1) := by decide +kernel
theorem dL_law_416 : decode cL_law 416 = .ok (.aload_n 0, 1) := by decide +kernel
theorem dL_law_417 : decode cL_law 417 = .ok (.iload_n 3, 1) := by decide +kernel
theorem dL_law_418 : decode cL_law 418 = .ok (.iconst 2, 1) := by decide +kernel
theorem dL_law_419 : decode cL_law 419 = .ok (.iadd, 1) := by decide +kernel
theorem dL_law_420 : decode cL_law 420 = .ok (.iaload, 1) := by decide +kernel
theorem dL_law_421 : decode cL_law 421 = .ok (.aload_n 0, 1) := by decide +kernel
theorem dL_law_422 : decode cL_law 422 = .ok (.iload_n 3, 1) := by decide +kernel
theorem dL_law_423 : decode cL_law 423 = .ok (.iconst 3, 1) := by decide +kernel
theorem dL_law_424 : decode cL_law 424 = .ok (.iadd, 1) := by decide +kernel
theorem dL_law_425 : decode cL_law 425 = .ok (.iaload, 1) := by decide +kernel
theorem dL_law_426 : decode cL_law 426 = .ok (.aload_n 0, 1) := by decide +kernel
theorem dL_law_427 : decode cL_law 427 = .ok (.iload_n 3, 1) := by decide +kernel
theorem dL_law_428 : decode cL_law 428 = .ok (.iconst 4, 1) := by decide +kernel
theorem dL_law_429 : decode cL_law 429 = .ok (.iadd, 1) := by decide +kernel
theorem dL_law_430 : decode cL_law 430 = .ok (.iaload, 1) := by decide +kernel
theorem dL_law_431 : decode cL_law 431 = .ok (.invokevirtual 50, 3) := by decide +kernel
theorem dL_law_434 : decode cL_law 434 = .ok (.aload_n 2, 1) := by decide +kernel
theorem dL_law_435 : decode cL_law 435 = .ok (.aload_n 0, 1) := by decide +kernel
theorem dL_law_436 : decode cL_law 436 = .ok (.iload_n 3, 1) := by decide +kernel
theorem dL_law_437 : decode cL_law 437 = .ok (.iconst 1, 1) := by decide +kernel
theorem dL_law_438 : decode cL_law 438 = .ok (.iadd, 1) := by decide +kernel
theorem dL_law_439 : decode cL_law 439 = .ok (.iaload, 1) := by decide +kernel
theorem dL_law_440 : decode cL_law 440 = .ok (.aload_n 0, 1) := by decide +kernel
theorem dL_law_441 : decode cL_law 441 = .ok (.iload_n 3, 1) := by decide +kernel
theorem dL_law_442 : decode cL_law 442 = .ok (.iconst 2, 1) := by decide +kernel
theorem dL_law_443 : decode cL_law 443 = .ok (.iadd, 1) := by decide +kernel
theorem dL_law_444 : decode cL_law 444 = .ok (.iaload, 1) := by decide +kernel
theorem dL_law_445 : decode cL_law 445 = .ok (.aload_n 0, 1) := by decide +kernel
theorem dL_law_446 : decode cL_law 446 = .ok (.iload_n 3, 1) := by decide +kernel
theorem dL_law_447 : decode cL_law 447 = .ok (.iconst 3, 1) := by decide +kernel
theorem dL_law_448 : decode cL_law 448 = .ok (.iadd, 1) := by decide +kernel
theorem dL_law_449 : decode cL_law 449 = .ok (.iaload, 1) := by decide +kernel
theorem dL_law_450 : decode cL_law 450 = .ok (.aload_n 0, 1) := by decide +kernel
theorem dL_law_451 : decode cL_law 451 = .ok (.iload_n 3, 1) := by decide +kernel
theorem dL_law_452 : decode cL_law 452 = .ok (.iconst 4, 1) := by decide +kernel
theorem dL_law_453 : decode cL_law 453 = .ok (.iadd, 1) := by decide +kernel
theorem dL_law_454 : decode cL_law 454 = .ok (.iaload, 1) := by decide +kernel
theorem dL_law_455 : decode cL_law 455 = .ok (.invokevirtual 53, 3) := by decide +kernel
theorem dL_law_458 : decode cL_law 458 = .ok (.if_icmp .eq 229, 3) := by decide +kernel
theorem dL_law_461 : decode cL_law 461 = .ok (.iconst 0, 1) := by decide +kernel
theorem dL_law_462 : decode cL_law 462 = .ok (.ireturn, 1) := by decide +kernel
theorem dL_law_463 : decode cL_law 463 = .ok (.aload_n 1, 1) := by decide +kernel
theorem dL_law_464 : decode cL_law 464 = .ok (.aload_n 0, 1) := by decide +kernel
theorem dL_law_465 : decode cL_law 465 = .ok (.iload_n 3, 1) := by decide +kernel
theorem dL_law_466 : decode cL_law 466 = .ok (.iconst 1, 1) := by decide +kernel
theorem dL_law_467 : decode cL_law 467 = .ok (.iadd, 1) := by decide +kernel
theorem dL_law_468 : decode cL_law 468 = .ok (.iaload, 1) := by decide +kernel
theorem dL_law_469 : decode cL_law 469 = .ok (.invokevirtual 54, 3) := by decide +kernel
theorem dL_law_472 : decode cL_law 472 = .ok (.aload_n 2, 1) := by decide +kernel
theorem dL_law_473 : decode cL_law 473 = .ok (.aload_n 0, 1) := by decide +kernel
theorem dL_law_474 : decode cL_law 474 = .ok (.iload_n 3, 1) := by decide +kernel
theorem dL_law_475 : decode cL_law 475 = .ok (.iconst 1, 1) := by decide +kernel
theorem dL_law_476 : decode cL_law 476 = .ok (.iadd, 1) := by decide +kernel
theorem dL_law_477 : decode cL_law 477 = .ok (.iaload, 1) := by decide +kernel
theorem dL_law_478 : decode cL_law 478 = .ok (.invokevirtual 57, 3) := by decide +kernel
theorem dL_law_481 : decode cL_law 481 = .ok (.if_icmp .eq 206, 3) := by decide +kernel
theorem dL_law_484 : decode cL_law 484 = .ok (.iconst 0, 1) := by decide +kernel
theorem dL_law_485 : decode cL_law 485 = .ok (.ireturn, 1) := by decide +kernel
theorem dL_law_486 : decode cL_law 486 = .ok (.aload_n 1, 1) := by decide +kernel
theorem dL_law_487 : decode cL_law 487 = .ok (.aload_n 0, 1) := by decide +kernel
theorem dL_law_488 : decode cL_law 488 = .ok (.iload_n 3, 1) := by decide +kernel
theorem dL_law_489 : decode cL_law 489 = .ok (.iconst 1, 1) := by decide +kernel
theorem dL_law_490 : decode cL_law 490 = .ok (.iadd, 1) := by decide +kernel
theorem dL_law_491 : decode cL_law 491 = .ok (.iaload, 1) := by decide +kernel
theorem dL_law_492 : decode cL_law 492 = .ok (.aload_n 0, 1) := by decide +kernel
theorem dL_law_493 : decode cL_law 493 = .ok (.iload_n 3, 1) := by decide +kernel
theorem dL_law_494 : decode cL_law 494 = .ok (.iconst 2, 1) := by decide +kernel
theorem dL_law_495 : decode cL_law 495 = .ok (.iadd, 1) := by decide +kernel
theorem dL_law_496 : decode cL_law 496 = .ok (.iaload, 1) := by decide +kernel
theorem dL_law_497 : decode cL_law 497 = .ok (.aload_n 0, 1) := by decide +kernel
theorem dL_law_498 : decode cL_law 498 = .ok (.iload_n 3, 1) := by decide +kernel
theorem dL_law_499 : decode cL_law 499 = .ok (.iconst 3, 1) := by decide +kernel
theorem dL_law_500 : decode cL_law 500 = .ok (.iadd, 1) := by decide +kernel
theorem dL_law_501 : decode cL_law 501 = .ok (.iaload, 1) := by decide +kernel
theorem dL_law_502 : decode cL_law 502 = .ok (.invokevirtual 58, 3) := by decide +kernel
theorem dL_law_505 : decode cL_law 505 = .ok (.aload_n 2, 1) := by decide +kernel
theorem dL_law_506 : decode cL_law 506 = .ok (.aload_n 0, 1) := by decide +kernel
theorem dL_law_507 : decode cL_law 507 = .ok (.iload_n 3, 1) := by decide +kernel
theorem dL_law_508 : decode cL_law 508 = .ok (.iconst 1, 1) := by decide +kernel
theorem dL_law_509 : decode cL_law 509 = .ok (.iadd, 1) := by decide +kernel
theorem dL_law_510 : decode cL_law 510 = .ok (.iaload, 1) := by decide +kernel
theorem dL_law_511 : decode cL_law 511 = .ok (.aload_n 0, 1) := by decide +kernel
theorem dL_law_512 : decode cL_law 512 = .ok (.iload_n 3, 1) := by decide +kernel
theorem dL_law_513 : decode cL_law 513 = .ok (.iconst 2, 1) := by decide +kernel
theorem dL_law_514 : decode cL_law 514 = .ok (.iadd, 1) := by decide +kernel
theorem dL_law_515 : decode cL_law 515 = .ok (.iaload, 1) := by decide +kernel
theorem dL_law_516 : decode cL_law 516 = .ok (.aload_n 0, 1) := by decide +kernel
theorem dL_law_517 : decode cL_law 517 = .ok (.iload_n 3, 1) := by decide +kernel
theorem dL_law_518 : decode cL_law 518 = .ok (.iconst 3, 1) := by decide +kernel
theorem dL_law_519 : decode cL_law 519 = .ok (.iadd, 1) := by decide +kernel
theorem dL_law_520 : decode cL_law 520 = .ok (.iaload, 1) := by decide +kernel
theorem dL_law_521 : decode cL_law 521 = .ok (.invokevirtual 61, 3) := by decide +kernel
theorem dL_law_524 : decode cL_law 524 = .ok (.if_icmp .eq 163, 3) := by decide +kernel
theorem dL_law_527 : decode cL_law 527 = .ok (.iconst 0, 1) := by decide +kernel
theorem dL_law_528 : decode cL_law 528 = .ok (.ireturn, 1) := by decide +kernel
theorem dL_law_529 : decode cL_law 529 = .ok (.aload_n 1, 1) := by decide +kernel
theorem dL_law_530 : decode cL_law 530 = .ok (.aload_n 0, 1) := by decide +kernel
theorem dL_law_531 : decode cL_law 531 = .ok (.iload_n 3, 1) := by decide +kernel
theorem dL_law_532 : decode cL_law 532 = .ok (.iconst 1, 1) := by decide +kernel
theorem dL_law_533 : decode cL_law 533 = .ok (.iadd, 1) := by decide +kernel
theorem dL_law_534 : decode cL_law 534 = .ok (.iaload, 1) := by decide +kernel
theorem dL_law_535 : decode cL_law 535 = .ok (.aload_n 0, 1) := by decide +kernel
theorem dL_law_536 : decode cL_law 536 = .ok (.iload_n 3, 1) := by decide +kernel
theorem dL_law_537 : decode cL_law 537 = .ok (.iconst 2, 1) := by decide +kernel
theorem dL_law_538 : decode cL_law 538 = .ok (.iadd, 1) := by decide +kernel
theorem dL_law_539 : decode cL_law 539 = .ok (.iaload, 1) := by decide +kernel
theorem dL_law_540 : decode cL_law 540 = .ok (.aload_n 0, 1) := by decide +kernel
theorem dL_law_541 : decode cL_law 541 = .ok (.iload_n 3, 1) := by decide +kernel
theorem dL_law_542 : decode cL_law 542 = .ok (.iconst 3, 1) := by decide +kernel
theorem dL_law_543 : decode cL_law 543 = .ok (.iadd, 1) := by decide +kernel
theorem dL_law_544 : decode cL_law 544 = .ok (.iaload, 1) := by decide +kernel
theorem dL_law_545 : decode cL_law 545 = .ok (.invokevirtual 62, 3) := by decide +kernel
theorem dL_law_548 : decode cL_law 548 = .ok (.aload_n 2, 1) := by decide +kernel
theorem dL_law_549 : decode cL_law 549 = .ok (.aload_n 0, 1) := by decide +kernel
theorem dL_law_550 : decode cL_law 550 = .ok (.iload_n 3, 1) := by decide +kernel
theorem dL_law_551 : decode cL_law 551 = .ok (.iconst 1, 1) := by decide +kernel
theorem dL_law_552 : decode cL_law 552 = .ok (.iadd, 1) := by decide +kernel
theorem dL_law_553 : decode cL_law 553 = .ok (.iaload, 1) := by decide +kernel
theorem dL_law_554 : decode cL_law 554 = .ok (.aload_n 0, 1) := by decide +kernel
theorem dL_law_555 : decode cL_law 555 = .ok (.iload_n 3, 1) := by decide +kernel
theorem dL_law_556 : decode cL_law 556 = .ok (.iconst 2, 1) := by decide +kernel
theorem dL_law_557 : decode cL_law 557 = .ok (.iadd, 1) := by decide +kernel
theorem dL_law_558 : decode cL_law 558 = .ok (.iaload, 1) := by decide +kernel
theorem dL_law_559 : decode cL_law 559 = .ok (.aload_n 0, 1) := by decide +kernel
theorem dL_law_560 : decode cL_law 560 = .ok (.iload_n 3, 1) := by decide +kernel
theorem dL_law_561 : decode cL_law 561 = .ok (.iconst 3, 1) := by decide +kernel
theorem dL_law_562 : decode cL_law 562 = .ok (.iadd, 1) := by decide +kernel
theorem dL_law_563 : decode cL_law 563 = .ok (.iaload, 1) := by decide +kernel
theorem dL_law_564 : decode cL_law 564 = .ok (.invokevirtual 65, 3) := by decide +kernel
theorem dL_law_567 : decode cL_law 567 = .ok (.if_icmp .eq 120, 3) := by decide +kernel
theorem dL_law_570 : decode cL_law 570 = .ok (.iconst 0, 1) := by decide +kernel
theorem dL_law_571 : decode cL_law 571 = .ok (.ireturn, 1) := by decide +kernel
theorem dL_law_572 : decode cL_law 572 = .ok (.aload_n 1, 1) := by decide +kernel
theorem dL_law_573 : decode cL_law 573 = .ok (.aload_n 0, 1) := by decide +kernel
theorem dL_law_574 : decode cL_law 574 = .ok (.iload_n 3, 1) := by decide +kernel
theorem dL_law_575 : decode cL_law 575 = .ok (.iconst 1, 1) := by decide +kernel
theorem dL_law_576 : decode cL_law 576 = .ok (.iadd, 1) := by decide +kernel
theorem dL_law_577 : decode cL_law 577 = .ok (.iaload, 1) := by decide +kernel
theorem dL_law_578 : decode cL_law 578 = .ok (.aload_n 0, 1) := by decide +kernel
theorem dL_law_579 : decode cL_law 579 = .ok (.iload_n 3, 1) := by decide +kernel
theorem dL_law_580 : decode cL_law 580 = .ok (.iconst 2, 1) := by decide +kernel
theorem dL_law_581 : decode cL_law 581 = .ok (.iadd, 1) := by decide +kernel
theorem dL_law_582 : decode cL_law 582 = .ok (.iaload, 1) := by decide +kernel
theorem dL_law_583 : decode cL_law 583 = .ok (.invokevirtual 66, 3) := by decide +kernel
theorem dL_law_586 : decode cL_law 586 = .ok (.aload_n 2, 1) := by decide +kernel
theorem dL_law_587 : decode cL_law 587 = .ok (.aload_n 0, 1) := by decide +kernel
theorem dL_law_588 : decode cL_law 588 = .ok (.iload_n 3, 1) := by decide +kernel
theorem dL_law_589 : decode cL_law 589 = .ok (.iconst 1, 1) := by decide +kernel
theorem dL_law_590 : decode cL_law 590 = .ok (.iadd, 1) := by decide +kernel
theorem dL_law_591 : decode cL_law 591 = .ok (.iaload, 1) := by decide +kernel
theorem dL_law_592 : decode cL_law 592 = .ok (.aload_n 0, 1) := by decide +kernel
theorem dL_law_593 : decode cL_law 593 = .ok (.iload_n 3, 1) := by decide +kernel
theorem dL_law_594 : decode cL_law 594 = .ok (.iconst 2, 1) := by decide +kernel
theorem dL_law_595 : decode cL_law 595 = .ok (.iadd, 1) := by decide +kernel
theorem dL_law_596 : decode cL_law 596 = .ok (.iaload, 1) := by decide +kernel
theorem dL_law_597 : decode cL_law 597 = .ok (.invokevirtual 69, 3) := by decide +kernel
theorem dL_law_600 : decode cL_law 600 = .ok (.if_icmp .eq 87, 3) := by decide +kernel
theorem dL_law_603 : decode cL_law 603 = .ok (.iconst 0, 1) := by decide +kernel
theorem dL_law_604 : decode cL_law 604 = .ok (.ireturn, 1) := by decide +kernel
theorem dL_law_605 : decode cL_law 605 = .ok (.aload_n 1, 1) := by decide +kernel
theorem dL_law_606 : decode cL_law 606 = .ok (.aload_n 0, 1) := by decide +kernel
theorem dL_law_607 : decode cL_law 607 = .ok (.iload_n 3, 1) := by decide +kernel
theorem dL_law_608 : decode cL_law 608 = .ok (.iconst 1, 1) := by decide +kernel
theorem dL_law_609 : decode cL_law 609 = .ok (.iadd, 1) := by decide +kernel
theorem dL_law_610 : decode cL_law 610 = .ok (.iaload, 1) := by decide +kernel
theorem dL_law_611 : decode cL_law 611 = .ok (.invokevirtual 70, 3) := by decide +kernel
theorem dL_law_614 : decode cL_law 614 = .ok (.aload_n 2, 1) := by decide +kernel
theorem dL_law_615 : decode cL_law 615 = .ok (.aload_n 0, 1) := by decide +kernel
theorem dL_law_616 : decode cL_law 616 = .ok (.iload_n 3, 1) := by decide +kernel
theorem dL_law_617 : decode cL_law 617 = .ok (.iconst 1, 1) := by decide +kernel
theorem dL_law_618 : decode cL_law 618 = .ok (.iadd, 1) := by decide +kernel
theorem dL_law_619 : decode cL_law 619 = .ok (.iaload, 1) := by decide +kernel
theorem dL_law_620 : decode cL_law 620 = .ok (.invokevirtual 73, 3) := by decide +kernel
theorem dL_law_623 : decode cL_law 623 = .ok (.if_icmp .eq 64, 3) := by decide +kernel
theorem dL_law_626 : decode cL_law 626 = .ok (.iconst 0, 1) := by decide +kernel
theorem dL_law_627 : decode cL_law 627 = .ok (.ireturn, 1) := by decide +kernel
theorem dL_law_628 : decode cL_law 628 = .ok (.aload_n 1, 1) := by decide +kernel
theorem dL_law_629 : decode cL_law 629 = .ok (.aload_n 0, 1) := by decide +kernel
theorem dL_law_630 : decode cL_law 630 = .ok (.iload_n 3, 1) := by decide +kernel
theorem dL_law_631 : decode cL_law 631 = .ok (.iconst 1, 1) := by decide +kernel
theorem dL_law_632 : decode cL_law 632 = .ok (.iadd, 1) := by decide +kernel
theorem dL_law_633 : decode cL_law 633 = .ok (.iaload, 1) := by decide +kernel
theorem dL_law_634 : decode cL_law 634 = .ok (.invokevirtual 74, 3) := by decide +kernel
theorem dL_law_637 : decode cL_law 637 = .ok (.aload_n 2, 1) := by decide +kernel
theorem dL_law_638 : decode cL_law 638 = .ok (.aload_n 0, 1) := by decide +kernel
theorem dL_law_639 : decode cL_law 639 = .ok (.iload_n 3, 1) := by decide +kernel
theorem dL_law_640 : decode cL_law 640 = .ok (.iconst 1, 1) := by decide +kernel
theorem dL_law_641 : decode cL_law 641 = .ok (.iadd, 1) := by decide +kernel
theorem dL_law_642 : decode cL_law 642 = .ok (.iaload, 1) := by decide +kernel
theorem dL_law_643 : decode cL_law 643 = .ok (.invokevirtual 77, 3) := by decide +kernel
theorem dL_law_646 : decode cL_law 646 = .ok (.if_icmp .eq 41, 3) := by decide +kernel
theorem dL_law_649 : decode cL_law 649 = .ok (.iconst 0, 1) := by decide +kernel
theorem dL_law_650 : decode cL_law 650 = .ok (.ireturn, 1) := by decide +kernel
theorem dL_law_651 : decode cL_law 651 = .ok (.aload_n 1, 1) := by decide +kernel
theorem dL_law_652 : decode cL_law 652 = .ok (.aload_n 0, 1) := by decide +kernel
theorem dL_law_653 : decode cL_law 653 = .ok (.iload_n 3, 1) := by decide +kernel
theorem dL_law_654 : decode cL_law 654 = .ok (.iconst 1, 1) := by decide +kernel
theorem dL_law_655 : decode cL_law 655 = .ok (.iadd, 1) := by decide +kernel
theorem dL_law_656 : decode cL_law 656 = .ok (.iaload, 1) := by decide +kernel
theorem dL_law_657 : decode cL_law 657 = .ok (.invokevirtual 78, 3) := by decide +kernel
theorem dL_law_660 : decode cL_law 660 = .ok (.aload_n 2, 1) := by decide +kernel
theorem dL_law_661 : decode cL_law 661 = .ok (.aload_n 0, 1) := by decide +kernel
theorem dL_law_662 : decode cL_law 662 = .ok (.iload_n 3, 1) := by decide +kernel
theorem dL_law_663 : decode cL_law 663 = .ok (.iconst 1, 1) := by decide +kernel
theorem dL_law_664 : decode cL_law 664 = .ok (.iadd, 1) := by decide +kernel
theorem dL_law_665 : decode cL_law 665 = .ok (.iaload, 1) := by decide +kernel
theorem dL_law_666 : decode cL_law 666 = .ok (.invokevirtual 81, 3) := by decide +kernel
theorem dL_law_669 : decode cL_law 669 = .ok (.if_icmp .eq 18, 3) := by decide +kernel
theorem dL_law_672 : decode cL_law 672 = .ok (.iconst 0, 1) := by decide +kernel
theorem dL_law_673 : decode cL_law 673 = .ok (.ireturn, 1) := by decide +kernel
theorem dL_law_674 : decode cL_law 674 = .ok (.aload_n 1, 1) := by decide +kernel
theorem dL_law_675 : decode cL_law 675 = .ok (.invokevirtual 82, 3) := by decide +kernel
theorem dL_law_678 : decode cL_law 678 = .ok (.aload_n 2, 1) := by decide +kernel
theorem dL_law_679 : decode cL_law 679 = .ok (.invokevirtual 85, 3) := by decide +kernel
theorem dL_law_682 : decode cL_law 682 = .ok (.if_icmp .eq 5, 3) := by decide +kernel
theorem dL_law_685 : decode cL_law 685 = .ok (.iconst 0, 1) := by decide +kernel
theorem dL_law_686 : decode cL_law 686 = .ok (.ireturn, 1) := by decide +kernel
theorem dL_law_687 : decode cL_law 687 = .ok (.iinc 3 5, 3) := by decide +kernel
theorem dL_law_690 : decode cL_law 690 = .ok (.goto (-672), 3) := by decide +kernel
theorem dL_law_693 : decode cL_law 693 = .ok (.iconst 1, 1) := by decide +kernel
theorem dL_law_694 : decode cL_law 694 = .ok (.ireturn, 1) := by decide +kernel
end
section
/-! WHAT A STATE IS. Row: keys, tags, how many, the two counters. -/
abbrev RS : Type := (Nat → Int32) × (Nat → Int32) × Nat × Int32 × Int32
abbrev wR (r k t : Nat) (cA cB : ClassId) (u : RS) : va_W := [(r, .inr (0, [.ref k, .ref t, .int (nI u.2.2.1), .int u.2.2.2.1, .int u.2.2.2.2])), (k, .inl (cA, 500, .inl u.1)), (t, .inl (cB, 500, .inl u.2.1))]
abbrev atR (dC : Nat → ClassId) (dI : Nat → Nat → Nat) (A : Nat → Prop) (r k t : Nat) (cA cB : ClassId) (u : RS) (U : State) : Prop := va_P (dC, dI) vwCl (wR r k t cA cB u) U.heap ∧ va_K (dC, dI) vwCl [(cA, .int), (cB, .int)] U ∧ va_D A (wR r k t cA cB u)
abbrev at0 (dC : Nat → ClassId) (dI : Nat → Nat → Nat) (A : Nat → Prop) (_ : Unit) (U : State) : Prop := va_P (dC, dI) vwCl [] U.heap ∧ va_K (dC, dI) vwCl [] U ∧ va_D A []
/-- there is such an order; such a place; such a stretch -/
def exO (o : Int32) : Prop := ¬ o < 0 ∧ ¬ nI 3 < o
def plO (n : Nat) (x : Int32) : Prop := ¬ x < 0 ∧ ¬ nI n ≤ x
def stP (n : Nat) (x y : Int32) : Prop := ¬ x < 0 ∧ ¬ y < x ∧ ¬ nI n < y
theorem ng_le {x y : Int32} (h : ¬ y ≤ x) : x < y := by
  rw [Int32.le_iff_toInt_le] at h; rw [Int32.lt_iff_toInt_lt]; omega
theorem ng_lt {x y : Int32} (h : x < y) (h2 : y ≤ x) : False := by
  rw [Int32.lt_iff_toInt_lt] at h; rw [Int32.le_iff_toInt_le] at h2; omega
theorem exO_of {o : Int32} (h : exO o) : ∃ j : Nat, j < 4 ∧ o = nI j := by
  obtain ⟨j, j1, rfl⟩ := nI_of h.1
  refine ⟨j, ?_, rfl⟩
  rcases Nat.lt_or_ge 3 j with q | q
  · exact absurd (nI_lt q (by omega)) h.2
  · omega
theorem exO_nI {j : Nat} (h : j < 4) : exO (nI j) := ⟨nI_pos (by omega), nI_nlt (by omega) (by omega)⟩
theorem plO_of {n : Nat} {x : Int32} (hn : n ≤ 500) (h : plO n x) : ∃ j : Nat, j < n ∧ x = nI j := by
  obtain ⟨j, j1, rfl⟩ := nI_of h.1
  refine ⟨j, ?_, rfl⟩
  rcases Nat.lt_or_ge j n with q | q
  · exact q
  · exact absurd (nI_le q (by omega)) h.2
theorem stP_of {n : Nat} {x y : Int32} (hn : n ≤ 500) (h : stP n x y) : ∃ a b : Nat, x = nI a ∧ y = nI b ∧ a ≤ b ∧ b ≤ n := by
  obtain ⟨h1, h2, h3⟩ := h
  obtain ⟨a, ha, rfl⟩ := nI_of h1
  have hy : ¬ y < 0 := fun q => h2 (by
    rw [Int32.lt_iff_toInt_lt] at *
    rw [nI_toInt ha]
    have : (0 : Int32).toInt = 0 := by decide
    omega)
  obtain ⟨b, hb, rfl⟩ := nI_of hy
  refine ⟨a, b, rfl, rfl, ?_, ?_⟩
  · rcases Nat.lt_or_ge b a with q | q
    · exact absurd (nI_lt q ha) h2
    · exact q
  · rcases Nat.lt_or_ge n b with q | q
    · exact absurd (nI_lt q hb) h3
    · exact q
theorem stP_nI {n a b : Nat} (hn : n ≤ 500) (h1 : a ≤ b) (h2 : b ≤ n) : stP n (nI a) (nI b) := ⟨nI_pos (by omega), nI_nlt h1 (by omega), nI_nlt h2 (by omega)⟩
/-- orders as the class asks them -/
theorem mk0 {x y : Int32} : mk 0 x < mk 0 y ↔ x < y := by
  rw [Int32.lt_iff_toInt_lt]; exact Iff.rfl
theorem mk1 {x y : Int32} : mk 1 x < mk 1 y ↔ x ^^^ (-2147483648) < y ^^^ (-2147483648) := by
  rw [Int32.lt_iff_toInt_lt]; exact Iff.rfl
theorem mk2 {x y : Int32} : mk 2 x < mk 2 y ↔ y < x := by
  rw [Int32.lt_iff_toInt_lt]
  show -x.toInt < -y.toInt ↔ _
  omega
theorem mk3 {x y : Int32} : mk 3 x < mk 3 y ↔ x &&& nI 255 < y &&& nI 255 := by
  rw [Int32.lt_iff_toInt_lt]; exact Iff.rfl
/-- orders as the reference asks them: unsigned by longs -/
theorem nat_xor31 {a : Nat} (h : a < 4294967296) : a ^^^ 2 ^ 31 = (a + 2147483648) % 4294967296 := by
  have h1 : (a ^^^ 2 ^ 31) % 2 ^ 31 = a % 2 ^ 31 := by rw [Nat.xor_mod_two_pow, Nat.mod_self, Nat.xor_zero]
  have h2 : (a ^^^ 2 ^ 31) / 2 ^ 31 = (a / 2 ^ 31) ^^^ 1 := by rw [Nat.xor_div_two_pow, Nat.div_self (Nat.two_pow_pos 31)]
  have h3 : a / 2 ^ 31 = 0 ∨ a / 2 ^ 31 = 1 := by omega
  generalize a ^^^ 2 ^ 31 = t at h1 h2
  rcases h3 with h3 | h3
  · rw [h3] at h2
    have h2 : t / 2 ^ 31 = 1 := h2
    omega
  · rw [h3] at h2
    have h2 : t / 2 ^ 31 = 0 := h2
    omega
theorem xor31 (x : Int32) : (x ^^^ (-2147483648)).toInt = (x.toBitVec.toNat : Int) - 2147483648 := by
  have hlt : x.toBitVec.toNat < 4294967296 := x.toBitVec.isLt
  have h1 : (x ^^^ (-2147483648)).toBitVec.toNat = (x.toBitVec.toNat + 2147483648) % 4294967296 := by
    rw [← nat_xor31 hlt]
    show (x.toBitVec ^^^ (-2147483648 : Int32).toBitVec).toNat = _
    rw [BitVec.toNat_xor]
    rfl
  show (x ^^^ (-2147483648)).toBitVec.toInt = _
  rw [BitVec.toInt_eq_toNat_cond, h1]
  split <;> omega
theorem and32 (x : Int32) : (x.toInt64 &&& 4294967295) = lN x.toBitVec.toNat := by
  have hlt : x.toBitVec.toNat < 4294967296 := x.toBitVec.isLt
  apply Int64.toBitVec_inj.mp
  apply BitVec.eq_of_toNat_eq
  show (x.toInt64.toBitVec &&& 4294967295#64).toNat = (BitVec.ofNat 64 x.toBitVec.toNat).toNat
  rw [BitVec.toNat_and, show (4294967295#64).toNat = 2 ^ 32 - 1 from by decide, Nat.and_two_pow_sub_one_eq_mod, BitVec.toNat_ofNat]
  have h2 : x.toInt64.toBitVec.toInt = x.toBitVec.toInt := Int32.toInt_toInt64 x
  have h3 := BitVec.toInt_eq_toNat_cond x.toInt64.toBitVec
  have h4 := BitVec.toInt_eq_toNat_cond x.toBitVec
  have h5 : x.toInt64.toBitVec.toNat < 18446744073709551616 := x.toInt64.toBitVec.isLt
  rw [h2, h4] at h3
  split at h3 <;> split at h3 <;> omega
theorem mkU {x y : Int32} : mk 1 x < mk 1 y ↔ (x.toInt64 &&& 4294967295) < (y.toInt64 &&& 4294967295) := by
  have h1 : x.toBitVec.toNat < 4294967296 := x.toBitVec.isLt
  have h2 : y.toBitVec.toNat < 4294967296 := y.toBitVec.isLt
  rw [and32, and32, pk_lLT (by omega) (by omega)]
  show (x ^^^ (-2147483648)).toInt < (y ^^^ (-2147483648)).toInt ↔ _
  rw [xor31, xor31]
  omega
theorem tr_nar {r : Int32} {P : Prop} (h : tr r P) : narrow .boolean (.int r) = .int r := by
  rcases h with ⟨h, _⟩ | ⟨h, _⟩ <;> rw [h] <;> rfl
/-- one step of a count, of a sorted stretch -/
theorem cn_st {P : Nat → Prop} {a p : Nat} (h : a ≤ p) (hp : P p) : cn P a (p + 1 - a) = cn P a (p - a) + 1 := by
  rw [show p + 1 - a = (p - a) + 1 by omega]
  exact cn_t (by rw [show a + (p - a) = p by omega]; exact hp)
theorem cn_sf {P : Nat → Prop} {a p : Nat} (h : a ≤ p) (hp : ¬ P p) : cn P a (p + 1 - a) = cn P a (p - a) := by
  rw [show p + 1 - a = (p - a) + 1 by omega]
  exact cn_f (by rw [show a + (p - a) = p by omega]; exact hp)
theorem cn_s0 {P : Nat → Prop} {a : Nat} : 0 = cn P a (a - a) := by rw [Nat.sub_self]; rfl
theorem srt_snoc {φ : Int32 → Int} {f : Nat → mP} {a p : Nat} (h : srt φ f a p) (hp : a < p → φ (f (p - 1)).1 ≤ φ (f p).1) : srt φ f a (p + 1) := by
  intro i j hi hij hj
  rcases Nat.lt_or_ge j p with q | q
  · exact h i j hi hij q
  · have : j = p := by omega
    subst this
    rcases Nat.lt_or_ge i j with r | r
    · exact Int.le_trans (h i (j - 1) hi (by omega) (by omega)) (hp (by omega))
    · rw [show i = j by omega]; exact Int.le_refl _
end
section
/-! MORE PURE ROWS: sums of counters, the merge's pieces, thinning. -/
theorem ad0 (x : Int32) : x = x + nI 0 := by rw [nI_0]; exact (Int32.add_zero x).symm
theorem ad1 {x y : Int32} {d : Nat} (h : x = y + nI d) (g : Nat) : x + nI g = y + nI (d + g) := by
  rw [h, Int32.add_assoc, nI_add]
theorem pw2 (k : Nat) : k + 2 ≤ 2 * 2 ^ k := by
  induction k with
  | zero => decide
  | succ k ih => rw [Nat.pow_succ]; omega
/-- pieces of a merge's step, sorted -/
theorem ms_1 {φ : Int32 → Int} {f : Nat → mP} {a q d g b : Nat} (b2 : q ≤ d) (b3 : d ≤ g) (sA : srt φ f a d) : srt φ (ro f q d g) a q :=
  srt_congr (srt_sub sA (Nat.le_refl _) b2) (fun j _ h => ro_out b3 b2 (Or.inl h))
theorem ms_2 {φ : Int32 → Int} {f : Nat → mP} {q d g h b : Nat} (b2 : q ≤ d) (b3 : d ≤ g) (b4 : g ≤ b) (bh : h + d = q + g) (sB : srt φ f d b) : srt φ (ro f q d g) q h := by
  refine srt_shift (f := f) (c := d) (d := b) sB (by omega) (fun j j1 j2 => ?_)
  simp only [ro]
  rw [if_pos (by omega)]
theorem ms_3 {φ : Int32 → Int} {f g : Nat → mP} {a q d e h : Nat} (b1 : a ≤ q) (b2 : q ≤ d) (b3 : d ≤ e) (bh : h + d = q + e) (sA : srt φ f a d) (o1 : ∀ j, h ≤ j → g j = ro f q d e j) : srt φ g h e := by
  refine srt_shift (f := f) (c := q) (d := d) (srt_sub sA b1 (Nat.le_refl _)) (by omega) (fun j j1 j2 => ?_)
  rw [o1 j j1]
  simp only [ro]
  rw [if_neg (by omega), if_pos (by omega)]
  congr 1; omega
theorem ms_4 {φ : Int32 → Int} {f g : Nat → mP} {q d e h b : Nat} (b2 : q ≤ d) (b3 : d ≤ e) (bh : h + d = q + e) (sB : srt φ f d b) (o1 : ∀ j, h ≤ j → g j = ro f q d e j) : srt φ g e b :=
  srt_congr (srt_sub sB b3 (Nat.le_refl _)) (fun j j1 _ => by rw [o1 j (by omega)]; exact ro_out b3 b2 (Or.inr j1))
end
section
/-! ROUNDS: costs, the split's step, thinning. -/
theorem mn_nI {x y : Nat} (hx : x < 2 ^ 31) (hy : y < 2 ^ 31) : (if nI y < nI x then nI y else nI x) = nI (min x y) := by
  by_cases h : y < x
  · rw [if_pos (nI_lt h hx), show min x y = y by omega]
  · rw [if_neg (nI_nlt (by omega) (by omega)), show min x y = x by omega]
theorem pw9 {j : Nat} (h : 2 ^ j < 500) : j + 1 ≤ 9 := by
  rcases Nat.lt_or_ge j 9 with q | q
  · exact q
  · have h1 : 2 ^ 9 ≤ 2 ^ j := Nat.pow_le_pow_right (by decide) q
    have h2 : (2 : Nat) ^ 9 = 512 := by decide
    omega
theorem pwL {j L n : Nat} (h : j = 0 ∨ 2 ^ j < 2 * n) (hL : n ≤ 2 ^ L) : j ≤ L := by
  rcases h with h | h
  · omega
  · rcases Nat.lt_or_ge L j with q | q
    · have h1 : 2 ^ (L + 1) ≤ 2 ^ j := Nat.pow_le_pow_right (by decide) q
      rw [Nat.pow_succ] at h1
      omega
    · exact q
/-- a cost that the document allows -/
def cO (C n g : Nat) : Prop := ∀ L, 1 ≤ L → n ≤ 2 ^ L → g ≤ C * n * L
theorem cO_of {C d n g j : Nat} (h : g ≤ d * n * j) (hd : d ≤ C) (hj : j = 0 ∨ 2 ^ j < 2 * n) : cO C n g := fun L _ hL =>
  Nat.le_trans h (Nat.mul_le_mul (Nat.mul_le_mul_right n hd) (pwL hj hL))
/-- less than a key, or not -/
def ps (o : Nat) (x : Int32) (y : Int32) : Int := if mk o y < mk o x then 0 else 1
theorem ps_0 {o : Nat} {x y : Int32} (h : mk o y < mk o x) : ps o x y = 0 := if_pos h
theorem ps_1 {o : Nat} {x y : Int32} (h : ¬ mk o y < mk o x) : ps o x y = 1 := if_neg h
theorem ps_cn {o : Nat} {x : Int32} {f : Nat → mP} {a d : Nat} (h : srt (ps o x) f a d) : ∀ j, a ≤ j → j < d → (mk o (f j).1 < mk o x ↔ j < a + cn (fun j => mk o (f j).1 < mk o x) a (d - a)) := by
  intro j j1 j2
  have e : d - a = (j - a) + (d - j) := by omega
  by_cases c : mk o (f j).1 < mk o x
  · refine ⟨fun _ => ?_, fun _ => c⟩
    have h1 : cn (fun j => mk o (f j).1 < mk o x) a (j + 1 - a) = j + 1 - a := cn_all _ (fun i hi => by
      have h2 := h (a + i) j (by omega) (by omega) j2
      rw [ps_0 c] at h2
      by_cases c2 : mk o (f (a + i)).1 < mk o x
      · exact c2
      · rw [ps_1 c2] at h2; omega)
    have h3 := cn_app (fun j => mk o (f j).1 < mk o x) a (j + 1 - a) (d - (j + 1))
    rw [show j + 1 - a + (d - (j + 1)) = d - a by omega] at h3
    omega
  · refine ⟨fun q => absurd q c, fun q => ?_⟩
    exfalso
    have h1 : cn (fun j => mk o (f j).1 < mk o x) (a + (j - a)) (d - j) = 0 := cn_none _ (fun i hi => by
      have h2 := h j (a + (j - a) + i) j1 (by omega) (by omega)
      rw [ps_1 c] at h2
      intro c2
      rw [ps_0 c2] at h2; omega)
    have h3 := cn_app (fun j => mk o (f j).1 < mk o x) a (j - a) (d - j)
    rw [← e, h1] at h3
    have h4 := cn_le (fun j => mk o (f j).1 < mk o x) a (j - a)
    omega
theorem split_step {o : Nat} {x : Int32} {f : Nat → mP} {a d b u v : Nat} (h1 : a ≤ d) (h2 : d ≤ b) (sA : srt (ps o x) f a d) (sB : srt (ps o x) f d b)
    (hu : u = cn (fun j => mk o (f j).1 < mk o x) a (d - a)) (hv : v = cn (fun j => mk o (f j).1 < mk o x) d (b - d)) :
    (∀ j, j < a ∨ b ≤ j → ro f (a + u) d (d + v) j = f j) ∧ srt (ps o x) (ro f (a + u) d (d + v)) a b ∧ sm (ps o x) (sg f a b) (sg (ro f (a + u) d (d + v)) a b) := by
  have lu := cn_le (fun j => mk o (f j).1 < mk o x) a (d - a)
  have lv := cn_le (fun j => mk o (f j).1 < mk o x) d (b - d)
  rw [← hu] at lu
  rw [← hv] at lv
  have A := ps_cn sA
  have B := ps_cn sB
  rw [← hu] at A
  rw [← hv] at B
  have b2 : a + u ≤ d := by omega
  have b3 : d ≤ d + v := by omega
  have z0 : ∀ j, a ≤ j → j < a + u + v → ps o x (ro f (a + u) d (d + v) j).1 = 0 := by
    intro j j1 j2
    by_cases c : j < a + u
    · rw [ro_out b3 b2 (Or.inl c)]
      exact ps_0 ((A j j1 (by omega)).mpr c)
    · simp only [ro]
      rw [if_pos (by omega)]
      exact ps_0 ((B (j - (a + u) + d) (by omega) (by omega)).mpr (by omega))
  have z1 : ∀ j, a + u + v ≤ j → j < b → ps o x (ro f (a + u) d (d + v) j).1 = 1 := by
    intro j j1 j2
    by_cases c : j < d + v
    · simp only [ro]
      rw [if_neg (by omega), if_pos (by omega)]
      exact ps_1 (fun q => by have := (A (j - (d + v - d)) (by omega) (by omega)).mp q; omega)
    · rw [ro_out b3 b2 (Or.inr (by omega))]
      exact ps_1 (fun q => by have := (B j (by omega) (by omega)).mp q; omega)
  refine ⟨fun j hj => ro_out b3 b2 (by omega), ?_, ?_⟩
  · intro i j i1 ij j1
    by_cases c : i < a + u + v
    · rw [z0 i i1 c]
      by_cases c2 : j < a + u + v
      · rw [z0 j (by omega) c2]; exact Int.le_refl _
      · rw [z1 j (by omega) j1]; decide
    · rw [z1 i (by omega) (by omega), z1 j (by omega) j1]; exact Int.le_refl _
  · refine sm_wide (by omega) (by omega) (by omega) (fun j q => ro_out b3 b2 q) (ro_sm b2 b3 (fun i j i1 i2 j1 j2 => ?_))
    rw [ps_1 (fun q => by have := (A i (by omega) i2).mp q; omega), ps_0 ((B j j1 (by omega)).mpr j2)]
    decide
/-- the ones that stay when those alike are thinned -/
def kp (o : Nat) (f : Nat → mP) (j : Nat) : Prop := j = 0 ∨ mk o (f (j - 1)).1 < mk o (f j).1
/-- q places gone through, lf of them left -/
def thI (o : Nat) (f g : Nat → mP) (lf q : Nat) : Prop := lf = cn (kp o f) 0 (q - 0) ∧ lf ≤ q ∧ (∀ i, i < q → kp o f i → g (cn (kp o f) 0 (i - 0)) = f i) ∧ (∀ j, lf ≤ j → g j = f j) ∧ ((lf = 0 ∧ q = 0) ∨ (0 < lf ∧ 0 < q ∧ mk o (g (lf - 1)).1 = mk o (f (q - 1)).1))
theorem thI_0 {o : Nat} {f : Nat → mP} : thI o f f 0 0 := ⟨cn_s0, Nat.le_refl _, fun i h => absurd h (Nat.not_lt_zero i), fun _ _ => rfl, Or.inl ⟨rfl, rfl⟩⟩
theorem thI_keep {o : Nat} {f g g' : Nat → mP} {lf q : Nat} (h : thI o f g lf q) (hk : kp o f q) (hg : ∀ x, g' x = if x = lf then g q else g x) : thI o f g' (lf + 1) (q + 1) := by
  obtain ⟨h1, h2, h3, h4, h5⟩ := h
  have e : cn (kp o f) 0 (q + 1 - 0) = cn (kp o f) 0 (q - 0) + 1 := cn_st (Nat.zero_le _) hk
  refine ⟨by omega, by omega, fun i hi hki => ?_, fun j hj => ?_, Or.inr ⟨by omega, by omega, ?_⟩⟩
  · rcases Nat.lt_or_ge i q with c | c
    · have e2 : cn (kp o f) 0 (i + 1 - 0) = cn (kp o f) 0 (i - 0) + 1 := cn_st (Nat.zero_le _) hki
      have e3 := cn_app (kp o f) 0 (i + 1 - 0) (q - (i + 1))
      rw [show i + 1 - 0 + (q - (i + 1)) = q - 0 by omega] at e3
      rw [hg, if_neg (by omega)]
      exact h3 i c hki
    · have : i = q := by omega
      subst this
      rw [hg, if_pos h1.symm]
      exact h4 i h2
  · rw [hg, if_neg (by omega)]
    exact h4 j (by omega)
  · rw [hg, if_pos (by omega), h4 q h2]; rfl
theorem thI_skip {o : Nat} {f g : Nat → mP} {lf q n : Nat} (h : thI o f g lf q) (hq : q < n) (hs : srt (mk o) f 0 n) (hl : ¬ lf = 0) (hk : ¬ kp o f q) : thI o f g lf (q + 1) := by
  obtain ⟨h1, h2, h3, h4, h5⟩ := h
  have e : cn (kp o f) 0 (q + 1 - 0) = cn (kp o f) 0 (q - 0) := cn_sf (Nat.zero_le _) hk
  refine ⟨by omega, by omega, fun i hi hki => ?_, h4, Or.inr ⟨by omega, by omega, ?_⟩⟩
  · rcases Nat.lt_or_ge i q with c | c
    · exact h3 i c hki
    · have : i = q := by omega
      subst this
      exact absurd hki hk
  · rcases h5 with h5 | ⟨_, h6, h7⟩
    · omega
    · rw [h7]
      have h8 := hs (q - 1) q (by omega) (by omega) hq
      have h9 : ¬ mk o (f (q - 1)).1 < mk o (f q).1 := fun z => hk (Or.inr z)
      rw [show q + 1 - 1 = q by omega]
      omega
theorem thI_ask {o : Nat} {f g : Nat → mP} {lf q : Nat} (h : thI o f g lf q) (hl : ¬ lf = 0) : mk o (g (lf - 1)).1 < mk o (g q).1 ↔ kp o f q := by
  obtain ⟨h1, h2, h3, h4, h5⟩ := h
  rcases h5 with h5 | ⟨_, h6, h7⟩
  · omega
  · rw [h7, h4 q h2]
    exact ⟨fun z => Or.inr z, fun z => z.elim (fun y => by omega) (fun y => y)⟩
end
section
set_option maxHeartbeats 4000000 in
set_option maxRecDepth 100000 in
/-- is there such an order -/
theorem c_X0_exists (l : Launch) (dC : Nat → ClassId) (dI : Nat → Nat → Nat) (sz : Nat) (o : Int32) : Met l yX0_exists wsX0_exists ({ frames := 0, cells := 0, slots := 0, locals := 0 }) (va_Pc [.int o] (fun U => U.heap.size = sz ∧ va_P (dC, dI) vwCl [] U.heap ∧ va_K (dC, dI) vwCl [] U ∧ va_D (fun _ => True) [])) (va_Qi (fun r (_ : Unit) => tr r (exO o)) (at0 dC dI (va_A [] sz)) (va_A [] sz)) 0 0 (va_A [] sz) := by
  refine Met.ofW (cc := cX0_exists) (maxL := 1) (ret := (some .boolean)) (by decide) rfl ?_
  intro p e s m args below meth c s₁ B hml hv
  obtain ⟨rfl, hsz, hP, hK, hD0⟩ := hv
  have hx := B.exec
  have hb := B.bytes
  have hr := B.returns
  have hts := atoms_spec (ws := wsX0_exists) B.pre
  have hown : s.vm.findClass RX0 = some m.cls := findClass_of_methodNamed B.named
  have hlocks := B.notSynchronized
  subst hsz
  have hD := hD0.self (sz := s.heap.size)
  generalize hAe : va_A [] s.heap.size = A at hD ⊢
  have hA : ∀ q : Nat, s.heap.size ≤ q → A q := fun q h => by rw [← hAe]; exact Or.inr h
  have hS : va_S A s.heap s.heap [] := va_S.rf
  have hP : va_P (dC, dI) vwCl [] s.heap := hP
  have hl := lv_entry ([.int o]) (n := 1) (Nat.le_of_ble_eq_true rfl)
  rw [lg_entry_eq]
  generalize (lg_sl ([.int o]) ++ List.replicate (1 - (lg_sl ([.int o])).length) Slot.unset).toArray = ls at hl ⊢
  have hl : lv_has ls 1 [(0, .int o)] := hl
  refine lv_iload_n hx hb dX0_exists_0 rfl (lv_at hl 0 rfl) ?_
  refine lv_if_lt (tgt := 13) hx hb dX0_exists_1 (by decide) (fun c1 => ?_) (fun c1 => ?_)
  · refine lv_iconst (v := (nI 0)) hx hb dX0_exists_13 (by decide) ?_
    exact W.zret (v := (nI 0)) hx hb hr rfl (fun tS ht hW => ⟨⟨(nI 0), (), rfl, tr_f (fun q => q.1 c1), by rw [ht]; exact hP, va_K.moved hW.alike hK, hD⟩, hS.F ht⟩) hS.2.2 dX0_exists_14
  · refine lv_iload_n hx hb dX0_exists_4 rfl (lv_at hl 0 rfl) ?_
    refine lv_iconst (v := (nI 3)) hx hb dX0_exists_5 (by decide) ?_
    refine lv_icmp_gt (tgt := 13) hx hb dX0_exists_6 (by decide) (fun c6 => ?_) (fun c6 => ?_)
    · refine lv_iconst (v := (nI 0)) hx hb dX0_exists_13 (by decide) ?_
      exact W.zret (v := (nI 0)) hx hb hr rfl (fun tS ht hW => ⟨⟨(nI 0), (), rfl, tr_f (fun q => q.2 c6), by rw [ht]; exact hP, va_K.moved hW.alike hK, hD⟩, hS.F ht⟩) hS.2.2 dX0_exists_14
    · refine lv_iconst (v := (nI 1)) hx hb dX0_exists_9 (by decide) ?_
      refine lv_goto (tgt := 14) hx hb dX0_exists_10 (by decide) ?_
      exact W.zret (v := (nI 1)) hx hb hr rfl (fun tS ht hW => ⟨⟨(nI 1), (), rfl, tr_t ⟨c1, c6⟩, by rw [ht]; exact hP, va_K.moved hW.alike hK, hD⟩, hS.F ht⟩) hS.2.2 dX0_exists_14
set_option maxHeartbeats 4000000 in
set_option maxRecDepth 100000 in
/-- is a key less by an order -/
theorem c_X0_isLess (l : Launch) (dC : Nat → ClassId) (dI : Nat → Nat → Nat) (sz : Nat) (x y : Int32) (o : Nat) (ho : o < 4) : Met l yX0_isLess wsX0_isLess ({ frames := 0, cells := 0, slots := 0, locals := 0 }) (va_Pc [.int x, .int y, .int (nI o)] (fun U => U.heap.size = sz ∧ va_P (dC, dI) vwCl [] U.heap ∧ va_K (dC, dI) vwCl [] U ∧ va_D (fun _ => True) [])) (va_Qi (fun r (_ : Unit) => tr r (mk o x < mk o y)) (at0 dC dI (va_A [] sz)) (va_A [] sz)) 0 0 (va_A [] sz) := by
  refine Met.ofW (cc := cX0_isLess) (maxL := 3) (ret := (some .boolean)) (by decide) rfl ?_
  intro p e s m args below meth c s₁ B hml hv
  obtain ⟨rfl, hsz, hP, hK, hD0⟩ := hv
  have hx := B.exec
  have hb := B.bytes
  have hr := B.returns
  have hts := atoms_spec (ws := wsX0_isLess) B.pre
  have hown : s.vm.findClass RX0 = some m.cls := findClass_of_methodNamed B.named
  have hlocks := B.notSynchronized
  subst hsz
  have hD := hD0.self (sz := s.heap.size)
  generalize hAe : va_A [] s.heap.size = A at hD ⊢
  have hA : ∀ q : Nat, s.heap.size ≤ q → A q := fun q h => by rw [← hAe]; exact Or.inr h
  have hS : va_S A s.heap s.heap [] := va_S.rf
  have hP : va_P (dC, dI) vwCl [] s.heap := hP
  have hl := lv_entry ([.int x, .int y, .int (nI o)]) (n := 3) (Nat.le_of_ble_eq_true rfl)
  rw [lg_entry_eq]
  generalize (lg_sl ([.int x, .int y, .int (nI o)]) ++ List.replicate (3 - (lg_sl ([.int x, .int y, .int (nI o)])).length) Slot.unset).toArray = ls at hl ⊢
  have hl : lv_has ls 3 [(0, .int x), (1, .int y), (2, .int (nI o))] := hl
  rcases (show o = 0 ∨ o = 1 ∨ o = 2 ∨ o = 3 by omega) with rfl | rfl | rfl | rfl
  · refine lv_iload_n hx hb dX0_isLess_0 rfl (lv_at hl 2 rfl) ?_
    refine lv_tableOut (tgt := 75) hx hb dX0_isLess_1 (by decide) (by decide) ?_
    refine lv_iload_n hx hb dX0_isLess_75 rfl (lv_at hl 0 rfl) ?_
    refine lv_iload_n hx hb dX0_isLess_76 rfl (lv_at hl 1 rfl) ?_
    refine lv_icmp_ge (tgt := 84) hx hb dX0_isLess_77 (by decide) (fun c77 => ?_) (fun c77 => ?_)
    · refine lv_iconst (v := (nI 0)) hx hb dX0_isLess_84 (by decide) ?_
      exact W.zret (v := (nI 0)) hx hb hr rfl (fun tS ht hW => ⟨⟨(nI 0), (), rfl, tr_f (fun q => ng_lt (mk0.mp q) c77), by rw [ht]; exact hP, va_K.moved hW.alike hK, hD⟩, hS.F ht⟩) hS.2.2 dX0_isLess_85
    · refine lv_iconst (v := (nI 1)) hx hb dX0_isLess_80 (by decide) ?_
      refine lv_goto (tgt := 85) hx hb dX0_isLess_81 (by decide) ?_
      exact W.zret (v := (nI 1)) hx hb hr rfl (fun tS ht hW => ⟨⟨(nI 1), (), rfl, tr_t (mk0.mpr (ng_le c77)), by rw [ht]; exact hP, va_K.moved hW.alike hK, hD⟩, hS.F ht⟩) hS.2.2 dX0_isLess_85
  · refine lv_iload_n hx hb dX0_isLess_0 rfl (lv_at hl 2 rfl) ?_
    refine lv_tableIn (tgt := 28) (off := 27) hx hb dX0_isLess_1 (by decide) (by decide) (by decide) (by decide) ?_
    refine lv_iload_n hx hb dX0_isLess_28 rfl (lv_at hl 0 rfl) ?_
    refine lv_ldc hx hb hown (hts (.constant RX0 9 (-2147483648)) (by decide +kernel)) dX0_isLess_29 ?_
    refine lv_ixor hx hb dX0_isLess_31 ?_
    refine lv_iload_n hx hb dX0_isLess_32 rfl (lv_at hl 1 rfl) ?_
    refine lv_ldc hx hb hown (hts (.constant RX0 9 (-2147483648)) (by decide +kernel)) dX0_isLess_33 ?_
    refine lv_ixor hx hb dX0_isLess_35 ?_
    refine lv_icmp_ge (tgt := 43) hx hb dX0_isLess_36 (by decide) (fun c36 => ?_) (fun c36 => ?_)
    · refine lv_iconst (v := (nI 0)) hx hb dX0_isLess_43 (by decide) ?_
      exact W.zret (v := (nI 0)) hx hb hr rfl (fun tS ht hW => ⟨⟨(nI 0), (), rfl, tr_f (fun q => ng_lt (mk1.mp q) c36), by rw [ht]; exact hP, va_K.moved hW.alike hK, hD⟩, hS.F ht⟩) hS.2.2 dX0_isLess_44
    · refine lv_iconst (v := (nI 1)) hx hb dX0_isLess_39 (by decide) ?_
      refine lv_goto (tgt := 44) hx hb dX0_isLess_40 (by decide) ?_
      exact W.zret (v := (nI 1)) hx hb hr rfl (fun tS ht hW => ⟨⟨(nI 1), (), rfl, tr_t (mk1.mpr (ng_le c36)), by rw [ht]; exact hP, va_K.moved hW.alike hK, hD⟩, hS.F ht⟩) hS.2.2 dX0_isLess_44
  · refine lv_iload_n hx hb dX0_isLess_0 rfl (lv_at hl 2 rfl) ?_
    refine lv_tableIn (tgt := 45) (off := 44) hx hb dX0_isLess_1 (by decide) (by decide) (by decide) (by decide) ?_
    refine lv_iload_n hx hb dX0_isLess_45 rfl (lv_at hl 0 rfl) ?_
    refine lv_iload_n hx hb dX0_isLess_46 rfl (lv_at hl 1 rfl) ?_
    refine lv_icmp_le (tgt := 54) hx hb dX0_isLess_47 (by decide) (fun c47 => ?_) (fun c47 => ?_)
    · refine lv_iconst (v := (nI 0)) hx hb dX0_isLess_54 (by decide) ?_
      exact W.zret (v := (nI 0)) hx hb hr rfl (fun tS ht hW => ⟨⟨(nI 0), (), rfl, tr_f (fun q => ng_lt (mk2.mp q) c47), by rw [ht]; exact hP, va_K.moved hW.alike hK, hD⟩, hS.F ht⟩) hS.2.2 dX0_isLess_55
    · refine lv_iconst (v := (nI 1)) hx hb dX0_isLess_50 (by decide) ?_
      refine lv_goto (tgt := 55) hx hb dX0_isLess_51 (by decide) ?_
      exact W.zret (v := (nI 1)) hx hb hr rfl (fun tS ht hW => ⟨⟨(nI 1), (), rfl, tr_t (mk2.mpr (ng_le c47)), by rw [ht]; exact hP, va_K.moved hW.alike hK, hD⟩, hS.F ht⟩) hS.2.2 dX0_isLess_55
  · refine lv_iload_n hx hb dX0_isLess_0 rfl (lv_at hl 2 rfl) ?_
    refine lv_tableIn (tgt := 56) (off := 55) hx hb dX0_isLess_1 (by decide) (by decide) (by decide) (by decide) ?_
    refine lv_iload_n hx hb dX0_isLess_56 rfl (lv_at hl 0 rfl) ?_
    refine lv_sipush (v := (nI 255)) hx hb dX0_isLess_57 (by decide) ?_
    refine lv_iand hx hb dX0_isLess_60 ?_
    refine lv_iload_n hx hb dX0_isLess_61 rfl (lv_at hl 1 rfl) ?_
    refine lv_sipush (v := (nI 255)) hx hb dX0_isLess_62 (by decide) ?_
    refine lv_iand hx hb dX0_isLess_65 ?_
    refine lv_icmp_ge (tgt := 73) hx hb dX0_isLess_66 (by decide) (fun c66 => ?_) (fun c66 => ?_)
    · refine lv_iconst (v := (nI 0)) hx hb dX0_isLess_73 (by decide) ?_
      exact W.zret (v := (nI 0)) hx hb hr rfl (fun tS ht hW => ⟨⟨(nI 0), (), rfl, tr_f (fun q => ng_lt (mk3.mp q) c66), by rw [ht]; exact hP, va_K.moved hW.alike hK, hD⟩, hS.F ht⟩) hS.2.2 dX0_isLess_74
    · refine lv_iconst (v := (nI 1)) hx hb dX0_isLess_69 (by decide) ?_
      refine lv_goto (tgt := 74) hx hb dX0_isLess_70 (by decide) ?_
      exact W.zret (v := (nI 1)) hx hb hr rfl (fun tS ht hW => ⟨⟨(nI 1), (), rfl, tr_t (mk3.mpr (ng_le c66)), by rw [ht]; exact hP, va_K.moved hW.alike hK, hD⟩, hS.F ht⟩) hS.2.2 dX0_isLess_74
set_option maxHeartbeats 4000000 in
set_option maxRecDepth 100000 in
theorem c_X1_hasRoomFor (l : Launch) (dC : Nat → ClassId) (dI : Nat → Nat → Nat) (sz : Nat) (r k t : Nat) (cA cB : ClassId) (n : Nat) (cm wr : Int32) (K T : Nat → Int32) (hn : n ≤ 500) (x : Int32) : Met l yX1_hasRoomFor wsX1_hasRoomFor ({ frames := 0, cells := 0, slots := 0, locals := 0 }) (va_Pc [.ref r, .int x] (fun U => U.heap.size = sz ∧ va_P (dC, dI) vwCl [(r, .inr (0, [.ref k, .ref t, .int (nI n), .int cm, .int wr])), (k, .inl (cA, 500, .inl K)), (t, .inl (cB, 500, .inl T))] U.heap ∧ va_K (dC, dI) vwCl [(cA, .int), (cB, .int)] U ∧ va_D (fun _ => True) [(r, .inr (0, [.ref k, .ref t, .int (nI n), .int cm, .int wr])), (k, .inl (cA, 500, .inl K)), (t, .inl (cB, 500, .inl T))])) (va_Qi (fun r u => tr r (¬ nI (500 - n) < x) ∧ u = (K, T, n, cm, wr)) (atR dC dI (va_A [(r, .inr (0, [.ref k, .ref t, .int (nI n), .int cm, .int wr])), (k, .inl (cA, 500, .inl K)), (t, .inl (cB, 500, .inl T))] sz) r k t cA cB) (va_A [(r, .inr (0, [.ref k, .ref t, .int (nI n), .int cm, .int wr])), (k, .inl (cA, 500, .inl K)), (t, .inl (cB, 500, .inl T))] sz)) 0 0 (va_A [(r, .inr (0, [.ref k, .ref t, .int (nI n), .int cm, .int wr])), (k, .inl (cA, 500, .inl K)), (t, .inl (cB, 500, .inl T))] sz) := by
  refine Met.ofW (cc := cX1_hasRoomFor) (maxL := 2) (ret := (some .boolean)) (by decide) rfl ?_
  intro p e s m args below meth c s₁ B hml hv
  obtain ⟨rfl, hsz, hP, hK, hD0⟩ := hv
  have hx := B.exec
  have hb := B.bytes
  have hr := B.returns
  have hts := atoms_spec (ws := wsX1_hasRoomFor) B.pre
  have hown : s.vm.findClass RX1 = some m.cls := findClass_of_methodNamed B.named
  have hlocks := B.notSynchronized
  subst hsz
  have hD := hD0.self (sz := s.heap.size)
  generalize hAe : va_A [(r, .inr (0, [.ref k, .ref t, .int (nI n), .int cm, .int wr])), (k, .inl (cA, 500, .inl K)), (t, .inl (cB, 500, .inl T))] s.heap.size = A at hD ⊢
  have hA : ∀ q : Nat, s.heap.size ≤ q → A q := fun q h => by rw [← hAe]; exact Or.inr h
  have hS : va_S A s.heap s.heap [] := va_S.rf
  have hP : va_P (dC, dI) vwCl [(r, .inr (0, [.ref k, .ref t, .int (nI n), .int cm, .int wr])), (k, .inl (cA, 500, .inl K)), (t, .inl (cB, 500, .inl T))] s.heap := hP
  have hl := lv_entry ([.ref r, .int x]) (n := 2) (Nat.le_of_ble_eq_true rfl)
  rw [lg_entry_eq]
  generalize (lg_sl ([.ref r, .int x]) ++ List.replicate (2 - (lg_sl ([.ref r, .int x])).length) Slot.unset).toArray = ls at hl ⊢
  have hl : lv_has ls 2 [(0, .ref r), (1, .int x)] := hl
  refine lv_iload_n hx hb dX1_hasRoomFor_0 rfl (lv_at hl 1 rfl) ?_
  refine lv_sipush (v := (nI 500)) hx hb dX1_hasRoomFor_1 (by decide) ?_
  refine lv_aload_n hx hb dX1_hasRoomFor_4 rfl (lv_at hl 0 rfl) ?_
  refine va_get (D := (dC, dI)) (ci := 0) (v := .int (nI n)) (C := RX1) (T := TX1) (N := 5) hx hb hts (by decide +kernel) hown hK hP 0 rfl rfl 2 (by decide) (hts (.fieldLink RX1 16 "RowPress$Row" "size" "I") (by decide +kernel)) (fun _ h9 => h9) rfl dX1_hasRoomFor_5 ?_
  refine lv_isub hx hb dX1_hasRoomFor_8 ?_
  refine lz_top (y := (nI (500 - n))) (pk_sub (by omega)) ?_
  refine lv_icmp_gt (tgt := 16) hx hb dX1_hasRoomFor_9 (by decide) (fun c9 => ?_) (fun c9 => ?_)
  · refine lv_iconst (v := (nI 0)) hx hb dX1_hasRoomFor_16 (by decide) ?_
    exact W.zret (v := (nI 0)) hx hb hr rfl (fun tS ht hW => ⟨⟨(nI 0), (K, T, n, cm, wr), rfl, ⟨tr_f (fun q => q c9), rfl⟩, by rw [ht]; exact hP, va_K.moved hW.alike hK, hD⟩, hS.F ht⟩) hS.2.2 dX1_hasRoomFor_17
  · refine lv_iconst (v := (nI 1)) hx hb dX1_hasRoomFor_12 (by decide) ?_
    refine lv_goto (tgt := 17) hx hb dX1_hasRoomFor_13 (by decide) ?_
    exact W.zret (v := (nI 1)) hx hb hr rfl (fun tS ht hW => ⟨⟨(nI 1), (K, T, n, cm, wr), rfl, ⟨tr_t c9, rfl⟩, by rw [ht]; exact hP, va_K.moved hW.alike hK, hD⟩, hS.F ht⟩) hS.2.2 dX1_hasRoomFor_17
set_option maxHeartbeats 4000000 in
set_option maxRecDepth 100000 in
theorem c_X1_hasPlace (l : Launch) (dC : Nat → ClassId) (dI : Nat → Nat → Nat) (sz : Nat) (r k t : Nat) (cA cB : ClassId) (n : Nat) (cm wr : Int32) (K T : Nat → Int32) (hn : n ≤ 500) (x : Int32) : Met l yX1_hasPlace wsX1_hasPlace ({ frames := 0, cells := 0, slots := 0, locals := 0 }) (va_Pc [.ref r, .int x] (fun U => U.heap.size = sz ∧ va_P (dC, dI) vwCl [(r, .inr (0, [.ref k, .ref t, .int (nI n), .int cm, .int wr])), (k, .inl (cA, 500, .inl K)), (t, .inl (cB, 500, .inl T))] U.heap ∧ va_K (dC, dI) vwCl [(cA, .int), (cB, .int)] U ∧ va_D (fun _ => True) [(r, .inr (0, [.ref k, .ref t, .int (nI n), .int cm, .int wr])), (k, .inl (cA, 500, .inl K)), (t, .inl (cB, 500, .inl T))])) (va_Qi (fun r u => tr r (plO n x) ∧ u = (K, T, n, cm, wr)) (atR dC dI (va_A [(r, .inr (0, [.ref k, .ref t, .int (nI n), .int cm, .int wr])), (k, .inl (cA, 500, .inl K)), (t, .inl (cB, 500, .inl T))] sz) r k t cA cB) (va_A [(r, .inr (0, [.ref k, .ref t, .int (nI n), .int cm, .int wr])), (k, .inl (cA, 500, .inl K)), (t, .inl (cB, 500, .inl T))] sz)) 0 0 (va_A [(r, .inr (0, [.ref k, .ref t, .int (nI n), .int cm, .int wr])), (k, .inl (cA, 500, .inl K)), (t, .inl (cB, 500, .inl T))] sz) := by
  refine Met.ofW (cc := cX1_hasPlace) (maxL := 2) (ret := (some .boolean)) (by decide) rfl ?_
  intro p e s m args below meth c s₁ B hml hv
  obtain ⟨rfl, hsz, hP, hK, hD0⟩ := hv
  have hx := B.exec
  have hb := B.bytes
  have hr := B.returns
  have hts := atoms_spec (ws := wsX1_hasPlace) B.pre
  have hown : s.vm.findClass RX1 = some m.cls := findClass_of_methodNamed B.named
  have hlocks := B.notSynchronized
  subst hsz
  have hD := hD0.self (sz := s.heap.size)
  generalize hAe : va_A [(r, .inr (0, [.ref k, .ref t, .int (nI n), .int cm, .int wr])), (k, .inl (cA, 500, .inl K)), (t, .inl (cB, 500, .inl T))] s.heap.size = A at hD ⊢
  have hA : ∀ q : Nat, s.heap.size ≤ q → A q := fun q h => by rw [← hAe]; exact Or.inr h
  have hS : va_S A s.heap s.heap [] := va_S.rf
  have hP : va_P (dC, dI) vwCl [(r, .inr (0, [.ref k, .ref t, .int (nI n), .int cm, .int wr])), (k, .inl (cA, 500, .inl K)), (t, .inl (cB, 500, .inl T))] s.heap := hP
  have hl := lv_entry ([.ref r, .int x]) (n := 2) (Nat.le_of_ble_eq_true rfl)
  rw [lg_entry_eq]
  generalize (lg_sl ([.ref r, .int x]) ++ List.replicate (2 - (lg_sl ([.ref r, .int x])).length) Slot.unset).toArray = ls at hl ⊢
  have hl : lv_has ls 2 [(0, .ref r), (1, .int x)] := hl
  refine lv_iload_n hx hb dX1_hasPlace_0 rfl (lv_at hl 1 rfl) ?_
  refine lv_if_lt (tgt := 16) hx hb dX1_hasPlace_1 (by decide) (fun c1 => ?_) (fun c1 => ?_)
  · refine lv_iconst (v := (nI 0)) hx hb dX1_hasPlace_16 (by decide) ?_
    exact W.zret (v := (nI 0)) hx hb hr rfl (fun tS ht hW => ⟨⟨(nI 0), (K, T, n, cm, wr), rfl, ⟨tr_f (fun q => q.1 c1), rfl⟩, by rw [ht]; exact hP, va_K.moved hW.alike hK, hD⟩, hS.F ht⟩) hS.2.2 dX1_hasPlace_17
  · refine lv_iload_n hx hb dX1_hasPlace_4 rfl (lv_at hl 1 rfl) ?_
    refine lv_aload_n hx hb dX1_hasPlace_5 rfl (lv_at hl 0 rfl) ?_
    refine va_get (D := (dC, dI)) (ci := 0) (v := .int (nI n)) (C := RX1) (T := TX1) (N := 5) hx hb hts (by decide +kernel) hown hK hP 0 rfl rfl 2 (by decide) (hts (.fieldLink RX1 16 "RowPress$Row" "size" "I") (by decide +kernel)) (fun _ h9 => h9) rfl dX1_hasPlace_6 ?_
    refine lv_icmp_ge (tgt := 16) hx hb dX1_hasPlace_9 (by decide) (fun c9 => ?_) (fun c9 => ?_)
    · refine lv_iconst (v := (nI 0)) hx hb dX1_hasPlace_16 (by decide) ?_
      exact W.zret (v := (nI 0)) hx hb hr rfl (fun tS ht hW => ⟨⟨(nI 0), (K, T, n, cm, wr), rfl, ⟨tr_f (fun q => q.2 c9), rfl⟩, by rw [ht]; exact hP, va_K.moved hW.alike hK, hD⟩, hS.F ht⟩) hS.2.2 dX1_hasPlace_17
    · refine lv_iconst (v := (nI 1)) hx hb dX1_hasPlace_12 (by decide) ?_
      refine lv_goto (tgt := 17) hx hb dX1_hasPlace_13 (by decide) ?_
      exact W.zret (v := (nI 1)) hx hb hr rfl (fun tS ht hW => ⟨⟨(nI 1), (K, T, n, cm, wr), rfl, ⟨tr_t ⟨c1, c9⟩, rfl⟩, by rw [ht]; exact hP, va_K.moved hW.alike hK, hD⟩, hS.F ht⟩) hS.2.2 dX1_hasPlace_17
set_option maxHeartbeats 4000000 in
set_option maxRecDepth 100000 in
theorem c_X1_hasStretch (l : Launch) (dC : Nat → ClassId) (dI : Nat → Nat → Nat) (sz : Nat) (r k t : Nat) (cA cB : ClassId) (n : Nat) (cm wr : Int32) (K T : Nat → Int32) (hn : n ≤ 500) (x y : Int32) : Met l yX1_hasStretch wsX1_hasStretch ({ frames := 0, cells := 0, slots := 0, locals := 0 }) (va_Pc [.ref r, .int x, .int y] (fun U => U.heap.size = sz ∧ va_P (dC, dI) vwCl [(r, .inr (0, [.ref k, .ref t, .int (nI n), .int cm, .int wr])), (k, .inl (cA, 500, .inl K)), (t, .inl (cB, 500, .inl T))] U.heap ∧ va_K (dC, dI) vwCl [(cA, .int), (cB, .int)] U ∧ va_D (fun _ => True) [(r, .inr (0, [.ref k, .ref t, .int (nI n), .int cm, .int wr])), (k, .inl (cA, 500, .inl K)), (t, .inl (cB, 500, .inl T))])) (va_Qi (fun r u => tr r (stP n x y) ∧ u = (K, T, n, cm, wr)) (atR dC dI (va_A [(r, .inr (0, [.ref k, .ref t, .int (nI n), .int cm, .int wr])), (k, .inl (cA, 500, .inl K)), (t, .inl (cB, 500, .inl T))] sz) r k t cA cB) (va_A [(r, .inr (0, [.ref k, .ref t, .int (nI n), .int cm, .int wr])), (k, .inl (cA, 500, .inl K)), (t, .inl (cB, 500, .inl T))] sz)) 0 0 (va_A [(r, .inr (0, [.ref k, .ref t, .int (nI n), .int cm, .int wr])), (k, .inl (cA, 500, .inl K)), (t, .inl (cB, 500, .inl T))] sz) := by
  refine Met.ofW (cc := cX1_hasStretch) (maxL := 3) (ret := (some .boolean)) (by decide) rfl ?_
  intro p e s m args below meth c s₁ B hml hv
  obtain ⟨rfl, hsz, hP, hK, hD0⟩ := hv
  have hx := B.exec
  have hb := B.bytes
  have hr := B.returns
  have hts := atoms_spec (ws := wsX1_hasStretch) B.pre
  have hown : s.vm.findClass RX1 = some m.cls := findClass_of_methodNamed B.named
  have hlocks := B.notSynchronized
  subst hsz
  have hD := hD0.self (sz := s.heap.size)
  generalize hAe : va_A [(r, .inr (0, [.ref k, .ref t, .int (nI n), .int cm, .int wr])), (k, .inl (cA, 500, .inl K)), (t, .inl (cB, 500, .inl T))] s.heap.size = A at hD ⊢
  have hA : ∀ q : Nat, s.heap.size ≤ q → A q := fun q h => by rw [← hAe]; exact Or.inr h
  have hS : va_S A s.heap s.heap [] := va_S.rf
  have hP : va_P (dC, dI) vwCl [(r, .inr (0, [.ref k, .ref t, .int (nI n), .int cm, .int wr])), (k, .inl (cA, 500, .inl K)), (t, .inl (cB, 500, .inl T))] s.heap := hP
  have hl := lv_entry ([.ref r, .int x, .int y]) (n := 3) (Nat.le_of_ble_eq_true rfl)
  rw [lg_entry_eq]
  generalize (lg_sl ([.ref r, .int x, .int y]) ++ List.replicate (3 - (lg_sl ([.ref r, .int x, .int y])).length) Slot.unset).toArray = ls at hl ⊢
  have hl : lv_has ls 3 [(0, .ref r), (1, .int x), (2, .int y)] := hl
  refine lv_iload_n hx hb dX1_hasStretch_0 rfl (lv_at hl 1 rfl) ?_
  refine lv_if_lt (tgt := 21) hx hb dX1_hasStretch_1 (by decide) (fun c1 => ?_) (fun c1 => ?_)
  · refine lv_iconst (v := (nI 0)) hx hb dX1_hasStretch_21 (by decide) ?_
    exact W.zret (v := (nI 0)) hx hb hr rfl (fun tS ht hW => ⟨⟨(nI 0), (K, T, n, cm, wr), rfl, ⟨tr_f (fun q => q.1 c1), rfl⟩, by rw [ht]; exact hP, va_K.moved hW.alike hK, hD⟩, hS.F ht⟩) hS.2.2 dX1_hasStretch_22
  · refine lv_iload_n hx hb dX1_hasStretch_4 rfl (lv_at hl 1 rfl) ?_
    refine lv_iload_n hx hb dX1_hasStretch_5 rfl (lv_at hl 2 rfl) ?_
    refine lv_icmp_gt (tgt := 21) hx hb dX1_hasStretch_6 (by decide) (fun c6 => ?_) (fun c6 => ?_)
    · refine lv_iconst (v := (nI 0)) hx hb dX1_hasStretch_21 (by decide) ?_
      exact W.zret (v := (nI 0)) hx hb hr rfl (fun tS ht hW => ⟨⟨(nI 0), (K, T, n, cm, wr), rfl, ⟨tr_f (fun q => q.2.1 c6), rfl⟩, by rw [ht]; exact hP, va_K.moved hW.alike hK, hD⟩, hS.F ht⟩) hS.2.2 dX1_hasStretch_22
    · refine lv_iload_n hx hb dX1_hasStretch_9 rfl (lv_at hl 2 rfl) ?_
      refine lv_aload_n hx hb dX1_hasStretch_10 rfl (lv_at hl 0 rfl) ?_
      refine va_get (D := (dC, dI)) (ci := 0) (v := .int (nI n)) (C := RX1) (T := TX1) (N := 5) hx hb hts (by decide +kernel) hown hK hP 0 rfl rfl 2 (by decide) (hts (.fieldLink RX1 16 "RowPress$Row" "size" "I") (by decide +kernel)) (fun _ h9 => h9) rfl dX1_hasStretch_11 ?_
      refine lv_icmp_gt (tgt := 21) hx hb dX1_hasStretch_14 (by decide) (fun c14 => ?_) (fun c14 => ?_)
      · refine lv_iconst (v := (nI 0)) hx hb dX1_hasStretch_21 (by decide) ?_
        exact W.zret (v := (nI 0)) hx hb hr rfl (fun tS ht hW => ⟨⟨(nI 0), (K, T, n, cm, wr), rfl, ⟨tr_f (fun q => q.2.2 c14), rfl⟩, by rw [ht]; exact hP, va_K.moved hW.alike hK, hD⟩, hS.F ht⟩) hS.2.2 dX1_hasStretch_22
      · refine lv_iconst (v := (nI 1)) hx hb dX1_hasStretch_17 (by decide) ?_
        refine lv_goto (tgt := 22) hx hb dX1_hasStretch_18 (by decide) ?_
        exact W.zret (v := (nI 1)) hx hb hr rfl (fun tS ht hW => ⟨⟨(nI 1), (K, T, n, cm, wr), rfl, ⟨tr_t ⟨c1, c6, c14⟩, rfl⟩, by rw [ht]; exact hP, va_K.moved hW.alike hK, hD⟩, hS.F ht⟩) hS.2.2 dX1_hasStretch_22
set_option maxHeartbeats 4000000 in
set_option maxRecDepth 100000 in
theorem c_X1_hasStretches (l : Launch) (dC : Nat → ClassId) (dI : Nat → Nat → Nat) (sz : Nat) (r k t : Nat) (cA cB : ClassId) (n : Nat) (cm wr : Int32) (K T : Nat → Int32) (hn : n ≤ 500) (x y z : Int32) : Met l yX1_hasStretches wsX1_hasStretches ({ frames := 1, cells := 0, slots := 0, locals := 22 }) (va_Pc [.ref r, .int x, .int y, .int z] (fun U => U.heap.size = sz ∧ va_P (dC, dI) vwCl [(r, .inr (0, [.ref k, .ref t, .int (nI n), .int cm, .int wr])), (k, .inl (cA, 500, .inl K)), (t, .inl (cB, 500, .inl T))] U.heap ∧ va_K (dC, dI) vwCl [(cA, .int), (cB, .int)] U ∧ va_D (fun _ => True) [(r, .inr (0, [.ref k, .ref t, .int (nI n), .int cm, .int wr])), (k, .inl (cA, 500, .inl K)), (t, .inl (cB, 500, .inl T))])) (va_Qi (fun r u => tr r (stP n x y ∧ stP n y z) ∧ u = (K, T, n, cm, wr)) (atR dC dI (va_A [(r, .inr (0, [.ref k, .ref t, .int (nI n), .int cm, .int wr])), (k, .inl (cA, 500, .inl K)), (t, .inl (cB, 500, .inl T))] sz) r k t cA cB) (va_A [(r, .inr (0, [.ref k, .ref t, .int (nI n), .int cm, .int wr])), (k, .inl (cA, 500, .inl K)), (t, .inl (cB, 500, .inl T))] sz)) 0 0 (va_A [(r, .inr (0, [.ref k, .ref t, .int (nI n), .int cm, .int wr])), (k, .inl (cA, 500, .inl K)), (t, .inl (cB, 500, .inl T))] sz) := by
  refine Met.ofW (cc := cX1_hasStretches) (maxL := 4) (ret := (some .boolean)) (by decide) rfl ?_
  intro p e s m args below meth c s₁ B hml hv
  obtain ⟨rfl, hsz, hP, hK, hD0⟩ := hv
  have hx := B.exec
  have hb := B.bytes
  have hr := B.returns
  have hts := atoms_spec (ws := wsX1_hasStretches) B.pre
  have hown : s.vm.findClass RX1 = some m.cls := findClass_of_methodNamed B.named
  have hlocks := B.notSynchronized
  subst hsz
  have hD := hD0.self (sz := s.heap.size)
  generalize hAe : va_A [(r, .inr (0, [.ref k, .ref t, .int (nI n), .int cm, .int wr])), (k, .inl (cA, 500, .inl K)), (t, .inl (cB, 500, .inl T))] s.heap.size = A at hD ⊢
  have hA : ∀ q : Nat, s.heap.size ≤ q → A q := fun q h => by rw [← hAe]; exact Or.inr h
  have hS : va_S A s.heap s.heap [] := va_S.rf
  have hP : va_P (dC, dI) vwCl [(r, .inr (0, [.ref k, .ref t, .int (nI n), .int cm, .int wr])), (k, .inl (cA, 500, .inl K)), (t, .inl (cB, 500, .inl T))] s.heap := hP
  have hl := lv_entry ([.ref r, .int x, .int y, .int z]) (n := 4) (Nat.le_of_ble_eq_true rfl)
  rw [lg_entry_eq]
  generalize (lg_sl ([.ref r, .int x, .int y, .int z]) ++ List.replicate (4 - (lg_sl ([.ref r, .int x, .int y, .int z])).length) Slot.unset).toArray = ls at hl ⊢
  have hl : lv_has ls 4 [(0, .ref r), (1, .int x), (2, .int y), (3, .int z)] := hl
  refine lv_aload_n hx hb dX1_hasStretches_0 rfl (lv_at hl 0 rfl) ?_
  refine lv_iload_n hx hb dX1_hasStretches_1 rfl (lv_at hl 1 rfl) ?_
  refine lv_iload_n hx hb dX1_hasStretches_2 rfl (lv_at hl 2 rfl) ?_
  have hPc := hP.sub (ws' := [(r, .inr (0, [.ref k, .ref t, .int (nI n), .int cm, .int wr])), (k, .inl (cA, 500, .inl K)), (t, .inl (cB, 500, .inl T))]) [0, 1, 2] rfl
  have hDc := hD.sub (ws' := [(r, .inr (0, [.ref k, .ref t, .int (nI n), .int cm, .int wr])), (k, .inl (cA, 500, .inl K)), (t, .inl (cB, 500, .inl T))]) [0, 1, 2] (by decide) rfl
  have hKc := hK.sub (tys' := [(cA, .int), (cB, .int)]) [0, 1] rfl
  have hFc := va_free (wc := [(r, .inr (0, [.ref k, .ref t, .int (nI n), .int cm, .int wr])), (k, .inl (cA, 500, .inl K)), (t, .inl (cB, 500, .inl T))]) hD hS hA [0, 1, 2] rfl
  refine va_calli (va_runV (As := [.int x, .int y]) (rest := []) ⟨hx, hb, hml, hown, hts⟩ (c_X1_hasStretch l dC dI s.heap.size r k t cA cB n cm wr K T hn x y) (cwV 2 hts gX1_hasStretches_X1_hasStretch rfl rfl rfl (by decide +kernel) ⟨Nat.le_of_ble_eq_true rfl, Nat.le_of_ble_eq_true rfl⟩) ⟨fun a U g mk q => by obtain ⟨q0, q1, qP, qK, qD⟩ := q; exact ⟨q0, q1, qP, va_K.moved (u := U) (U := U.calling g mk a) (Vm.Alike.refl U.vm) qK, qD⟩, va_recv hKc hPc (ci := 0) (q0 := 0) rfl rfl, fun U hU hW => ⟨rfl, by rw [hU], by rw [hU]; exact hPc, va_K.moved hW.alike hKc, hDc.weaken (fun _ _ _ _ => trivial)⟩⟩ rfl rfl hl.1 rfl (lv_room (Nat.le_of_ble_eq_true rfl)) dX1_hasStretches_3 ⟨Nat.le_of_ble_eq_true rfl, Nat.le_of_ble_eq_true rfl⟩) hS (fun q _ h => hFc q h) hFc (fun r_1 u tS H1 locs ht hvm hw hB hz1 hk1 hS => ?_)
  obtain ⟨hs1, rfl⟩ := hw
  obtain ⟨hP1, hK1, hD1⟩ := hB
  rw [ht] at hP1
  obtain ⟨hP, hD⟩ := va_join (wr := []) (w1 := [(r, .inr (0, [.ref k, .ref t, .int (nI n), .int cm, .int wr])), (k, .inl (cA, 500, .inl K)), (t, .inl (cB, 500, .inl T))]) hP hD [0, 1, 2] [] rfl rfl (by decide) (by decide) hk1 hFc hP1 hD1
  generalize H1 = H at hP hS ⊢
  have hP : va_P (dC, dI) vwCl [(r, .inr (0, [.ref k, .ref t, .int (nI n), .int cm, .int wr])), (k, .inl (cA, 500, .inl K)), (t, .inl (cB, 500, .inl T))] H := hP
  have hD : va_D A [(r, .inr (0, [.ref k, .ref t, .int (nI n), .int cm, .int wr])), (k, .inl (cA, 500, .inl K)), (t, .inl (cB, 500, .inl T))] := hD
  refine lv_if_eq (tgt := 22) hx hb dX1_hasStretches_6 (by decide) (fun c6 => ?_) (fun c6 => ?_)
  · refine lv_iconst (v := (nI 0)) hx hb dX1_hasStretches_22 (by decide) ?_
    exact W.zret (v := (nI 0)) hx hb hr rfl (fun tS ht hW => ⟨⟨(nI 0), (K, T, n, cm, wr), rfl, ⟨tr_f (fun q => tr_0 hs1 c6 q.1), rfl⟩, by rw [ht]; exact hP, va_K.moved hW.alike hK, hD⟩, hS.F ht⟩) hS.2.2 dX1_hasStretches_23
  · refine lv_aload_n hx hb dX1_hasStretches_9 rfl (lv_at hl 0 rfl) ?_
    refine lv_iload_n hx hb dX1_hasStretches_10 rfl (lv_at hl 2 rfl) ?_
    refine lv_iload_n hx hb dX1_hasStretches_11 rfl (lv_at hl 3 rfl) ?_
    have hPc := hP.sub (ws' := [(r, .inr (0, [.ref k, .ref t, .int (nI n), .int cm, .int wr])), (k, .inl (cA, 500, .inl K)), (t, .inl (cB, 500, .inl T))]) [0, 1, 2] rfl
    have hDc := hD.sub (ws' := [(r, .inr (0, [.ref k, .ref t, .int (nI n), .int cm, .int wr])), (k, .inl (cA, 500, .inl K)), (t, .inl (cB, 500, .inl T))]) [0, 1, 2] (by decide) rfl
    have hKc := hK.sub (tys' := [(cA, .int), (cB, .int)]) [0, 1] rfl
    have hFc := va_free (wc := [(r, .inr (0, [.ref k, .ref t, .int (nI n), .int cm, .int wr])), (k, .inl (cA, 500, .inl K)), (t, .inl (cB, 500, .inl T))]) hD hS hA [0, 1, 2] rfl
    refine va_calli (va_runV (As := [.int y, .int z]) (rest := []) ⟨hx, hb, hml, hown, hts⟩ (c_X1_hasStretch l dC dI H.size r k t cA cB n cm wr K T hn y z) (cwV 2 hts gX1_hasStretches_X1_hasStretch rfl rfl rfl (by decide +kernel) ⟨Nat.le_of_ble_eq_true rfl, Nat.le_of_ble_eq_true rfl⟩) ⟨fun a U g mk q => by obtain ⟨q0, q1, qP, qK, qD⟩ := q; exact ⟨q0, q1, qP, va_K.moved (u := U) (U := U.calling g mk a) (Vm.Alike.refl U.vm) qK, qD⟩, va_recv hKc hPc (ci := 0) (q0 := 0) rfl rfl, fun U hU hW => ⟨rfl, by rw [hU], by rw [hU]; exact hPc, va_K.moved hW.alike hKc, hDc.weaken (fun _ _ _ _ => trivial)⟩⟩ rfl rfl hl.1 rfl (lv_room (Nat.le_of_ble_eq_true rfl)) dX1_hasStretches_12 ⟨Nat.le_of_ble_eq_true rfl, Nat.le_of_ble_eq_true rfl⟩) hS (fun q _ h => hFc q h) hFc (fun r_2 u tS H1 locs ht hvm hw hB hz1 hk1 hS => ?_)
    obtain ⟨hs2, rfl⟩ := hw
    obtain ⟨hP1, hK1, hD1⟩ := hB
    rw [ht] at hP1
    obtain ⟨hP, hD⟩ := va_join (wr := []) (w1 := [(r, .inr (0, [.ref k, .ref t, .int (nI n), .int cm, .int wr])), (k, .inl (cA, 500, .inl K)), (t, .inl (cB, 500, .inl T))]) hP hD [0, 1, 2] [] rfl rfl (by decide) (by decide) hk1 hFc hP1 hD1
    generalize H1 = H at hP hS ⊢
    have hP : va_P (dC, dI) vwCl [(r, .inr (0, [.ref k, .ref t, .int (nI n), .int cm, .int wr])), (k, .inl (cA, 500, .inl K)), (t, .inl (cB, 500, .inl T))] H := hP
    have hD : va_D A [(r, .inr (0, [.ref k, .ref t, .int (nI n), .int cm, .int wr])), (k, .inl (cA, 500, .inl K)), (t, .inl (cB, 500, .inl T))] := hD
    refine lv_if_eq (tgt := 22) hx hb dX1_hasStretches_15 (by decide) (fun c15 => ?_) (fun c15 => ?_)
    · refine lv_iconst (v := (nI 0)) hx hb dX1_hasStretches_22 (by decide) ?_
      exact W.zret (v := (nI 0)) hx hb hr rfl (fun tS ht hW => ⟨⟨(nI 0), (K, T, n, cm, wr), rfl, ⟨tr_f (fun q => tr_0 hs2 c15 q.2), rfl⟩, by rw [ht]; exact hP, va_K.moved hW.alike hK, hD⟩, hS.F ht⟩) hS.2.2 dX1_hasStretches_23
    · refine lv_iconst (v := (nI 1)) hx hb dX1_hasStretches_18 (by decide) ?_
      refine lv_goto (tgt := 23) hx hb dX1_hasStretches_19 (by decide) ?_
      exact W.zret (v := (nI 1)) hx hb hr rfl (fun tS ht hW => ⟨⟨(nI 1), (K, T, n, cm, wr), rfl, ⟨tr_t ⟨tr_1 hs1 c6, tr_1 hs2 c15⟩, rfl⟩, by rw [ht]; exact hP, va_K.moved hW.alike hK, hD⟩, hS.F ht⟩) hS.2.2 dX1_hasStretches_23
set_option maxHeartbeats 4000000 in
set_option maxRecDepth 100000 in
theorem c_X1_append (l : Launch) (dC : Nat → ClassId) (dI : Nat → Nat → Nat) (sz : Nat) (r k t : Nat) (cA cB : ClassId) (n : Nat) (cm wr : Int32) (K T : Nat → Int32) (hn : n < 500) (x y : Int32) : Met l yX1_append wsX1_append ({ frames := 0, cells := 0, slots := 0, locals := 0 }) (va_Pc [.ref r, .int x, .int y] (fun U => U.heap.size = sz ∧ va_P (dC, dI) vwCl [(r, .inr (0, [.ref k, .ref t, .int (nI n), .int cm, .int wr])), (k, .inl (cA, 500, .inl K)), (t, .inl (cB, 500, .inl T))] U.heap ∧ va_K (dC, dI) vwCl [(cA, .int), (cB, .int)] U ∧ va_D (fun _ => True) [(r, .inr (0, [.ref k, .ref t, .int (nI n), .int cm, .int wr])), (k, .inl (cA, 500, .inl K)), (t, .inl (cB, 500, .inl T))])) (va_Qv (fun u => u = (upd K n x, upd T n y, n + 1, cm, wr)) (atR dC dI (va_A [(r, .inr (0, [.ref k, .ref t, .int (nI n), .int cm, .int wr])), (k, .inl (cA, 500, .inl K)), (t, .inl (cB, 500, .inl T))] sz) r k t cA cB) (va_A [(r, .inr (0, [.ref k, .ref t, .int (nI n), .int cm, .int wr])), (k, .inl (cA, 500, .inl K)), (t, .inl (cB, 500, .inl T))] sz)) 0 0 (va_A [(r, .inr (0, [.ref k, .ref t, .int (nI n), .int cm, .int wr])), (k, .inl (cA, 500, .inl K)), (t, .inl (cB, 500, .inl T))] sz) := by
  refine Met.ofW (cc := cX1_append) (maxL := 3) (ret := none) (by decide) rfl ?_
  intro p e s m args below meth c s₁ B hml hv
  obtain ⟨rfl, hsz, hP, hK, hD0⟩ := hv
  have hx := B.exec
  have hb := B.bytes
  have hr := B.returns
  have hts := atoms_spec (ws := wsX1_append) B.pre
  have hown : s.vm.findClass RX1 = some m.cls := findClass_of_methodNamed B.named
  have hlocks := B.notSynchronized
  subst hsz
  have hD := hD0.self (sz := s.heap.size)
  generalize hAe : va_A [(r, .inr (0, [.ref k, .ref t, .int (nI n), .int cm, .int wr])), (k, .inl (cA, 500, .inl K)), (t, .inl (cB, 500, .inl T))] s.heap.size = A at hD ⊢
  have hA : ∀ q : Nat, s.heap.size ≤ q → A q := fun q h => by rw [← hAe]; exact Or.inr h
  have hS : va_S A s.heap s.heap [] := va_S.rf
  have hP : va_P (dC, dI) vwCl [(r, .inr (0, [.ref k, .ref t, .int (nI n), .int cm, .int wr])), (k, .inl (cA, 500, .inl K)), (t, .inl (cB, 500, .inl T))] s.heap := hP
  have hl := lv_entry ([.ref r, .int x, .int y]) (n := 3) (Nat.le_of_ble_eq_true rfl)
  rw [lg_entry_eq]
  generalize (lg_sl ([.ref r, .int x, .int y]) ++ List.replicate (3 - (lg_sl ([.ref r, .int x, .int y])).length) Slot.unset).toArray = ls at hl ⊢
  have hl : lv_has ls 3 [(0, .ref r), (1, .int x), (2, .int y)] := hl
  refine lv_aload_n hx hb dX1_append_0 rfl (lv_at hl 0 rfl) ?_
  refine va_get (D := (dC, dI)) (ci := 0) (v := .ref k) (C := RX1) (T := TX1) (N := 5) hx hb hts (by decide +kernel) hown hK hP 0 rfl rfl 0 (by decide) (hts (.fieldLink RX1 9 "RowPress$Row" "keys" "[I") (by decide +kernel)) (fun _ h9 => h9) rfl dX1_append_1 ?_
  refine lv_aload_n hx hb dX1_append_4 rfl (lv_at hl 0 rfl) ?_
  refine va_get (D := (dC, dI)) (ci := 0) (v := .int (nI n)) (C := RX1) (T := TX1) (N := 5) hx hb hts (by decide +kernel) hown hK hP 0 rfl rfl 2 (by decide) (hts (.fieldLink RX1 16 "RowPress$Row" "size" "I") (by decide +kernel)) (fun _ h9 => h9) rfl dX1_append_5 ?_
  refine lv_iload_n hx hb dX1_append_8 rfl (lv_at hl 1 rfl) ?_
  refine lz_iast hx hb hK hP hD hS 1 0 rfl rfl (j := n) (x := x) (by omega) (by decide) dX1_append_9 (fun H locs hP hD hS => ?_)
  have hP : va_P (dC, dI) vwCl [(r, .inr (0, [.ref k, .ref t, .int (nI n), .int cm, .int wr])), (k, .inl (cA, 500, .inl (upd K n x))), (t, .inl (cB, 500, .inl T))] H := hP
  have hD : va_D A [(r, .inr (0, [.ref k, .ref t, .int (nI n), .int cm, .int wr])), (k, .inl (cA, 500, .inl (upd K n x))), (t, .inl (cB, 500, .inl T))] := hD
  refine lv_aload_n hx hb dX1_append_10 rfl (lv_at hl 0 rfl) ?_
  refine va_get (D := (dC, dI)) (ci := 0) (v := .ref t) (C := RX1) (T := TX1) (N := 5) hx hb hts (by decide +kernel) hown hK hP 0 rfl rfl 1 (by decide) (hts (.fieldLink RX1 13 "RowPress$Row" "tags" "[I") (by decide +kernel)) (fun _ h9 => h9) rfl dX1_append_11 ?_
  refine lv_aload_n hx hb dX1_append_14 rfl (lv_at hl 0 rfl) ?_
  refine va_get (D := (dC, dI)) (ci := 0) (v := .int (nI n)) (C := RX1) (T := TX1) (N := 5) hx hb hts (by decide +kernel) hown hK hP 0 rfl rfl 2 (by decide) (hts (.fieldLink RX1 16 "RowPress$Row" "size" "I") (by decide +kernel)) (fun _ h9 => h9) rfl dX1_append_15 ?_
  refine lv_iload_n hx hb dX1_append_18 rfl (lv_at hl 2 rfl) ?_
  refine lz_iast hx hb hK hP hD hS 2 1 rfl rfl (j := n) (x := y) (by omega) (by decide) dX1_append_19 (fun H locs hP hD hS => ?_)
  have hP : va_P (dC, dI) vwCl [(r, .inr (0, [.ref k, .ref t, .int (nI n), .int cm, .int wr])), (k, .inl (cA, 500, .inl (upd K n x))), (t, .inl (cB, 500, .inl (upd T n y)))] H := hP
  have hD : va_D A [(r, .inr (0, [.ref k, .ref t, .int (nI n), .int cm, .int wr])), (k, .inl (cA, 500, .inl (upd K n x))), (t, .inl (cB, 500, .inl (upd T n y)))] := hD
  refine lv_aload_n hx hb dX1_append_20 rfl (lv_at hl 0 rfl) ?_
  refine lv_dup hx hb dX1_append_21 rfl ?_
  refine va_get (D := (dC, dI)) (ci := 0) (v := .int (nI n)) (C := RX1) (T := TX1) (N := 5) hx hb hts (by decide +kernel) hown hK hP 0 rfl rfl 2 (by decide) (hts (.fieldLink RX1 16 "RowPress$Row" "size" "I") (by decide +kernel)) (fun _ h9 => h9) rfl dX1_append_22 ?_
  refine lv_iconst (v := (nI 1)) hx hb dX1_append_25 (by decide) ?_
  refine lv_iadd hx hb dX1_append_26 ?_
  refine lz_top (y := (nI (n + 1))) (nI_add _ _) ?_
  refine va_put (D := (dC, dI)) (ci := 0) (v := .int (nI (n + 1))) (ty := .int) (C := RX1) (T := TX1) (N := 5) hx hb hts (by decide +kernel) tyX1 tyX1_ok nmX1 hown hK hP hD hS 0 rfl rfl 2 (by decide) (hts (.fieldLink RX1 16 "RowPress$Row" "size" "I") (by decide +kernel)) (fun _ h9 => h9) rfl (by decide +kernel) rfl rfl (Nat.le_of_ble_eq_true rfl) dX1_append_27 (fun H locs hP hD hS => ?_)
  have hP : va_P (dC, dI) vwCl [(r, .inr (0, [.ref k, .ref t, .int (nI (n + 1)), .int cm, .int wr])), (k, .inl (cA, 500, .inl (upd K n x))), (t, .inl (cB, 500, .inl (upd T n y)))] H := hP
  have hD : va_D A [(r, .inr (0, [.ref k, .ref t, .int (nI (n + 1)), .int cm, .int wr])), (k, .inl (cA, 500, .inl (upd K n x))), (t, .inl (cB, 500, .inl (upd T n y)))] := hD
  exact W.vret hx hb hr (fun tS ht hW => ⟨⟨(upd K n x, upd T n y, n + 1, cm, wr), rfl, rfl, by rw [ht]; exact hP, va_K.moved hW.alike hK, hD⟩, hS.F ht⟩) hS.2.2 dX1_append_30
set_option maxHeartbeats 4000000 in
set_option maxRecDepth 100000 in
theorem c_X1_startCounting (l : Launch) (dC : Nat → ClassId) (dI : Nat → Nat → Nat) (sz : Nat) (r k t : Nat) (cA cB : ClassId) (n : Nat) (cm wr : Int32) (K T : Nat → Int32) : Met l yX1_startCounting wsX1_startCounting ({ frames := 0, cells := 0, slots := 0, locals := 0 }) (va_Pc [.ref r] (fun U => U.heap.size = sz ∧ va_P (dC, dI) vwCl [(r, .inr (0, [.ref k, .ref t, .int (nI n), .int cm, .int wr])), (k, .inl (cA, 500, .inl K)), (t, .inl (cB, 500, .inl T))] U.heap ∧ va_K (dC, dI) vwCl [(cA, .int), (cB, .int)] U ∧ va_D (fun _ => True) [(r, .inr (0, [.ref k, .ref t, .int (nI n), .int cm, .int wr])), (k, .inl (cA, 500, .inl K)), (t, .inl (cB, 500, .inl T))])) (va_Qv (fun u => u = (K, T, n, nI 0, nI 0)) (atR dC dI (va_A [(r, .inr (0, [.ref k, .ref t, .int (nI n), .int cm, .int wr])), (k, .inl (cA, 500, .inl K)), (t, .inl (cB, 500, .inl T))] sz) r k t cA cB) (va_A [(r, .inr (0, [.ref k, .ref t, .int (nI n), .int cm, .int wr])), (k, .inl (cA, 500, .inl K)), (t, .inl (cB, 500, .inl T))] sz)) 0 0 (va_A [(r, .inr (0, [.ref k, .ref t, .int (nI n), .int cm, .int wr])), (k, .inl (cA, 500, .inl K)), (t, .inl (cB, 500, .inl T))] sz) := by
  refine Met.ofW (cc := cX1_startCounting) (maxL := 1) (ret := none) (by decide) rfl ?_
  intro p e s m args below meth c s₁ B hml hv
  obtain ⟨rfl, hsz, hP, hK, hD0⟩ := hv
  have hx := B.exec
  have hb := B.bytes
  have hr := B.returns
  have hts := atoms_spec (ws := wsX1_startCounting) B.pre
  have hown : s.vm.findClass RX1 = some m.cls := findClass_of_methodNamed B.named
  have hlocks := B.notSynchronized
  subst hsz
  have hD := hD0.self (sz := s.heap.size)
  generalize hAe : va_A [(r, .inr (0, [.ref k, .ref t, .int (nI n), .int cm, .int wr])), (k, .inl (cA, 500, .inl K)), (t, .inl (cB, 500, .inl T))] s.heap.size = A at hD ⊢
  have hA : ∀ q : Nat, s.heap.size ≤ q → A q := fun q h => by rw [← hAe]; exact Or.inr h
  have hS : va_S A s.heap s.heap [] := va_S.rf
  have hP : va_P (dC, dI) vwCl [(r, .inr (0, [.ref k, .ref t, .int (nI n), .int cm, .int wr])), (k, .inl (cA, 500, .inl K)), (t, .inl (cB, 500, .inl T))] s.heap := hP
  have hl := lv_entry ([.ref r]) (n := 1) (Nat.le_of_ble_eq_true rfl)
  rw [lg_entry_eq]
  generalize (lg_sl ([.ref r]) ++ List.replicate (1 - (lg_sl ([.ref r])).length) Slot.unset).toArray = ls at hl ⊢
  have hl : lv_has ls 1 [(0, .ref r)] := hl
  refine lv_aload_n hx hb dX1_startCounting_0 rfl (lv_at hl 0 rfl) ?_
  refine lv_iconst (v := (nI 0)) hx hb dX1_startCounting_1 (by decide) ?_
  refine va_put (D := (dC, dI)) (ci := 0) (v := .int (nI 0)) (ty := .int) (C := RX1) (T := TX1) (N := 5) hx hb hts (by decide +kernel) tyX1 tyX1_ok nmX1 hown hK hP hD hS 0 rfl rfl 3 (by decide) (hts (.fieldLink RX1 24 "RowPress$Row" "compares" "I") (by decide +kernel)) (fun _ h9 => h9) rfl (by decide +kernel) rfl rfl (Nat.le_of_ble_eq_true rfl) dX1_startCounting_2 (fun H locs hP hD hS => ?_)
  have hP : va_P (dC, dI) vwCl [(r, .inr (0, [.ref k, .ref t, .int (nI n), .int (nI 0), .int wr])), (k, .inl (cA, 500, .inl K)), (t, .inl (cB, 500, .inl T))] H := hP
  have hD : va_D A [(r, .inr (0, [.ref k, .ref t, .int (nI n), .int (nI 0), .int wr])), (k, .inl (cA, 500, .inl K)), (t, .inl (cB, 500, .inl T))] := hD
  refine lv_aload_n hx hb dX1_startCounting_5 rfl (lv_at hl 0 rfl) ?_
  refine lv_iconst (v := (nI 0)) hx hb dX1_startCounting_6 (by decide) ?_
  refine va_put (D := (dC, dI)) (ci := 0) (v := .int (nI 0)) (ty := .int) (C := RX1) (T := TX1) (N := 5) hx hb hts (by decide +kernel) tyX1 tyX1_ok nmX1 hown hK hP hD hS 0 rfl rfl 4 (by decide) (hts (.fieldLink RX1 27 "RowPress$Row" "writes" "I") (by decide +kernel)) (fun _ h9 => h9) rfl (by decide +kernel) rfl rfl (Nat.le_of_ble_eq_true rfl) dX1_startCounting_7 (fun H locs hP hD hS => ?_)
  have hP : va_P (dC, dI) vwCl [(r, .inr (0, [.ref k, .ref t, .int (nI n), .int (nI 0), .int (nI 0)])), (k, .inl (cA, 500, .inl K)), (t, .inl (cB, 500, .inl T))] H := hP
  have hD : va_D A [(r, .inr (0, [.ref k, .ref t, .int (nI n), .int (nI 0), .int (nI 0)])), (k, .inl (cA, 500, .inl K)), (t, .inl (cB, 500, .inl T))] := hD
  exact W.vret hx hb hr (fun tS ht hW => ⟨⟨(K, T, n, (nI 0), (nI 0)), rfl, rfl, by rw [ht]; exact hP, va_K.moved hW.alike hK, hD⟩, hS.F ht⟩) hS.2.2 dX1_startCounting_10
set_option maxHeartbeats 4000000 in
set_option maxRecDepth 100000 in
theorem c_X1_lessAt (l : Launch) (dC : Nat → ClassId) (dI : Nat → Nat → Nat) (sz : Nat) (r k t : Nat) (cA cB : ClassId) (n : Nat) (cm wr : Int32) (K T : Nat → Int32) (i j o : Nat) (hi : i < 500) (hj : j < 500) (ho : o < 4) : Met l yX1_lessAt wsX1_lessAt ({ frames := 1, cells := 0, slots := 0, locals := 22 }) (va_Pc [.ref r, .int (nI i), .int (nI j), .int (nI o)] (fun U => U.heap.size = sz ∧ va_P (dC, dI) vwCl [(r, .inr (0, [.ref k, .ref t, .int (nI n), .int cm, .int wr])), (k, .inl (cA, 500, .inl K)), (t, .inl (cB, 500, .inl T))] U.heap ∧ va_K (dC, dI) vwCl [(cA, .int), (cB, .int)] U ∧ va_D (fun _ => True) [(r, .inr (0, [.ref k, .ref t, .int (nI n), .int cm, .int wr])), (k, .inl (cA, 500, .inl K)), (t, .inl (cB, 500, .inl T))])) (va_Qi (fun r u => tr r (mk o (K i) < mk o (K j)) ∧ u = (K, T, n, cm + nI 1, wr)) (atR dC dI (va_A [(r, .inr (0, [.ref k, .ref t, .int (nI n), .int cm, .int wr])), (k, .inl (cA, 500, .inl K)), (t, .inl (cB, 500, .inl T))] sz) r k t cA cB) (va_A [(r, .inr (0, [.ref k, .ref t, .int (nI n), .int cm, .int wr])), (k, .inl (cA, 500, .inl K)), (t, .inl (cB, 500, .inl T))] sz)) 0 0 (va_A [(r, .inr (0, [.ref k, .ref t, .int (nI n), .int cm, .int wr])), (k, .inl (cA, 500, .inl K)), (t, .inl (cB, 500, .inl T))] sz) := by
  refine Met.ofW (cc := cX1_lessAt) (maxL := 4) (ret := (some .boolean)) (by decide) rfl ?_
  intro p e s m args below meth c s₁ B hml hv
  obtain ⟨rfl, hsz, hP, hK, hD0⟩ := hv
  have hx := B.exec
  have hb := B.bytes
  have hr := B.returns
  have hts := atoms_spec (ws := wsX1_lessAt) B.pre
  have hown : s.vm.findClass RX1 = some m.cls := findClass_of_methodNamed B.named
  have hlocks := B.notSynchronized
  subst hsz
  have hD := hD0.self (sz := s.heap.size)
  generalize hAe : va_A [(r, .inr (0, [.ref k, .ref t, .int (nI n), .int cm, .int wr])), (k, .inl (cA, 500, .inl K)), (t, .inl (cB, 500, .inl T))] s.heap.size = A at hD ⊢
  have hA : ∀ q : Nat, s.heap.size ≤ q → A q := fun q h => by rw [← hAe]; exact Or.inr h
  have hS : va_S A s.heap s.heap [] := va_S.rf
  have hP : va_P (dC, dI) vwCl [(r, .inr (0, [.ref k, .ref t, .int (nI n), .int cm, .int wr])), (k, .inl (cA, 500, .inl K)), (t, .inl (cB, 500, .inl T))] s.heap := hP
  have hl := lv_entry ([.ref r, .int (nI i), .int (nI j), .int (nI o)]) (n := 4) (Nat.le_of_ble_eq_true rfl)
  rw [lg_entry_eq]
  generalize (lg_sl ([.ref r, .int (nI i), .int (nI j), .int (nI o)]) ++ List.replicate (4 - (lg_sl ([.ref r, .int (nI i), .int (nI j), .int (nI o)])).length) Slot.unset).toArray = ls at hl ⊢
  have hl : lv_has ls 4 [(0, .ref r), (1, .int (nI i)), (2, .int (nI j)), (3, .int (nI o))] := hl
  refine lv_aload_n hx hb dX1_lessAt_0 rfl (lv_at hl 0 rfl) ?_
  refine lv_dup hx hb dX1_lessAt_1 rfl ?_
  refine va_get (D := (dC, dI)) (ci := 0) (v := .int cm) (C := RX1) (T := TX1) (N := 5) hx hb hts (by decide +kernel) hown hK hP 0 rfl rfl 3 (by decide) (hts (.fieldLink RX1 24 "RowPress$Row" "compares" "I") (by decide +kernel)) (fun _ h9 => h9) rfl dX1_lessAt_2 ?_
  refine lv_iconst (v := (nI 1)) hx hb dX1_lessAt_5 (by decide) ?_
  refine lv_iadd hx hb dX1_lessAt_6 ?_
  refine va_put (D := (dC, dI)) (ci := 0) (v := .int (cm + (nI 1))) (ty := .int) (C := RX1) (T := TX1) (N := 5) hx hb hts (by decide +kernel) tyX1 tyX1_ok nmX1 hown hK hP hD hS 0 rfl rfl 3 (by decide) (hts (.fieldLink RX1 24 "RowPress$Row" "compares" "I") (by decide +kernel)) (fun _ h9 => h9) rfl (by decide +kernel) rfl rfl (Nat.le_of_ble_eq_true rfl) dX1_lessAt_7 (fun H locs hP hD hS => ?_)
  have hP : va_P (dC, dI) vwCl [(r, .inr (0, [.ref k, .ref t, .int (nI n), .int (cm + (nI 1)), .int wr])), (k, .inl (cA, 500, .inl K)), (t, .inl (cB, 500, .inl T))] H := hP
  have hD : va_D A [(r, .inr (0, [.ref k, .ref t, .int (nI n), .int (cm + (nI 1)), .int wr])), (k, .inl (cA, 500, .inl K)), (t, .inl (cB, 500, .inl T))] := hD
  refine lv_aload_n hx hb dX1_lessAt_10 rfl (lv_at hl 0 rfl) ?_
  refine va_get (D := (dC, dI)) (ci := 0) (v := .ref k) (C := RX1) (T := TX1) (N := 5) hx hb hts (by decide +kernel) hown hK hP 0 rfl rfl 0 (by decide) (hts (.fieldLink RX1 9 "RowPress$Row" "keys" "[I") (by decide +kernel)) (fun _ h9 => h9) rfl dX1_lessAt_11 ?_
  refine lv_iload_n hx hb dX1_lessAt_14 rfl (lv_at hl 1 rfl) ?_
  refine lz_iald hx hb hK hP 1 0 rfl rfl (j := i) (by omega) (by decide) dX1_lessAt_15 ?_
  refine lv_aload_n hx hb dX1_lessAt_16 rfl (lv_at hl 0 rfl) ?_
  refine va_get (D := (dC, dI)) (ci := 0) (v := .ref k) (C := RX1) (T := TX1) (N := 5) hx hb hts (by decide +kernel) hown hK hP 0 rfl rfl 0 (by decide) (hts (.fieldLink RX1 9 "RowPress$Row" "keys" "[I") (by decide +kernel)) (fun _ h9 => h9) rfl dX1_lessAt_17 ?_
  refine lv_iload_n hx hb dX1_lessAt_20 rfl (lv_at hl 2 rfl) ?_
  refine lz_iald hx hb hK hP 1 0 rfl rfl (j := j) (by omega) (by decide) dX1_lessAt_21 ?_
  refine lv_iload_n hx hb dX1_lessAt_22 rfl (lv_at hl 3 rfl) ?_
  have hPc := hP.sub (ws' := []) [] rfl
  have hDc := hD.sub (ws' := []) [] (by decide) rfl
  have hKc := hK.sub (tys' := []) [] rfl
  have hFc := va_free (wc := []) hD hS hA [] rfl
  refine va_calli (va_runS (As := [.int (K i), .int (K j), .int (nI o)]) (rest := []) ⟨hx, hb, hml, hown, hts⟩ (c_X0_isLess l dC dI H.size (K i) (K j) o ho) (va_cwS 3 hts gX1_lessAt_X0_isLess rfl rfl rfl (by decide +kernel) ⟨Nat.le_of_ble_eq_true rfl, Nat.le_of_ble_eq_true rfl⟩) ⟨fun a U g mk q => by obtain ⟨q0, q1, qP, qK, qD⟩ := q; exact ⟨q0, q1, qP, va_K.moved (u := U) (U := U.calling g mk a) (Vm.Alike.refl U.vm) qK, qD⟩, fun U hU hW => ⟨rfl, by rw [hU], by rw [hU]; exact hPc, va_K.moved hW.alike hKc, hDc.weaken (fun _ _ _ _ => trivial)⟩⟩ rfl rfl hl.1 rfl (lv_room (Nat.le_of_ble_eq_true rfl)) dX1_lessAt_23 ⟨Nat.le_of_ble_eq_true rfl, Nat.le_of_ble_eq_true rfl⟩) hS (fun q _ h => hFc q h) hFc (fun r_1 u tS H1 locs ht hvm hw hB hz1 hk1 hS => ?_)
  have hq := hw
  obtain ⟨hP1, hK1, hD1⟩ := hB
  rw [ht] at hP1
  obtain ⟨hP, hD⟩ := va_join (wr := [(r, .inr (0, [.ref k, .ref t, .int (nI n), .int (cm + (nI 1)), .int wr])), (k, .inl (cA, 500, .inl K)), (t, .inl (cB, 500, .inl T))]) (w1 := []) hP hD [] [0, 1, 2] rfl rfl (by decide) (by decide) hk1 hFc hP1 hD1
  generalize H1 = H at hP hS ⊢
  have hP : va_P (dC, dI) vwCl [(r, .inr (0, [.ref k, .ref t, .int (nI n), .int (cm + (nI 1)), .int wr])), (k, .inl (cA, 500, .inl K)), (t, .inl (cB, 500, .inl T))] H := hP
  have hD : va_D A [(r, .inr (0, [.ref k, .ref t, .int (nI n), .int (cm + (nI 1)), .int wr])), (k, .inl (cA, 500, .inl K)), (t, .inl (cB, 500, .inl T))] := hD
  have hz : narrow .boolean (.int r_1) = .int r_1 := tr_nar hq
  exact W.zret (v := r_1) hx hb hr hz (fun tS ht hW => ⟨⟨r_1, (K, T, n, (cm + (nI 1)), wr), rfl, ⟨hq, rfl⟩, by rw [ht]; exact hP, va_K.moved hW.alike hK, hD⟩, hS.F ht⟩) hS.2.2 dX1_lessAt_26
set_option maxHeartbeats 4000000 in
set_option maxRecDepth 100000 in
theorem c_X1_swapPairs (l : Launch) (dC : Nat → ClassId) (dI : Nat → Nat → Nat) (sz : Nat) (r k t : Nat) (cA cB : ClassId) (n : Nat) (cm wr : Int32) (K T : Nat → Int32) (i j : Nat) (hi : i < 500) (hj : j < 500) : Met l yX1_swapPairs wsX1_swapPairs ({ frames := 0, cells := 0, slots := 0, locals := 0 }) (va_Pc [.ref r, .int (nI i), .int (nI j)] (fun U => U.heap.size = sz ∧ va_P (dC, dI) vwCl [(r, .inr (0, [.ref k, .ref t, .int (nI n), .int cm, .int wr])), (k, .inl (cA, 500, .inl K)), (t, .inl (cB, 500, .inl T))] U.heap ∧ va_K (dC, dI) vwCl [(cA, .int), (cB, .int)] U ∧ va_D (fun _ => True) [(r, .inr (0, [.ref k, .ref t, .int (nI n), .int cm, .int wr])), (k, .inl (cA, 500, .inl K)), (t, .inl (cB, 500, .inl T))])) (va_Qv (fun u => u = (upd (upd K i (K j)) j (K i), upd (upd T i (T j)) j (T i), n, cm, wr + nI 2)) (atR dC dI (va_A [(r, .inr (0, [.ref k, .ref t, .int (nI n), .int cm, .int wr])), (k, .inl (cA, 500, .inl K)), (t, .inl (cB, 500, .inl T))] sz) r k t cA cB) (va_A [(r, .inr (0, [.ref k, .ref t, .int (nI n), .int cm, .int wr])), (k, .inl (cA, 500, .inl K)), (t, .inl (cB, 500, .inl T))] sz)) 0 0 (va_A [(r, .inr (0, [.ref k, .ref t, .int (nI n), .int cm, .int wr])), (k, .inl (cA, 500, .inl K)), (t, .inl (cB, 500, .inl T))] sz) := by
  refine Met.ofW (cc := cX1_swapPairs) (maxL := 5) (ret := none) (by decide) rfl ?_
  intro p e s m args below meth c s₁ B hml hv
  obtain ⟨rfl, hsz, hP, hK, hD0⟩ := hv
  have hx := B.exec
  have hb := B.bytes
  have hr := B.returns
  have hts := atoms_spec (ws := wsX1_swapPairs) B.pre
  have hown : s.vm.findClass RX1 = some m.cls := findClass_of_methodNamed B.named
  have hlocks := B.notSynchronized
  subst hsz
  have hD := hD0.self (sz := s.heap.size)
  generalize hAe : va_A [(r, .inr (0, [.ref k, .ref t, .int (nI n), .int cm, .int wr])), (k, .inl (cA, 500, .inl K)), (t, .inl (cB, 500, .inl T))] s.heap.size = A at hD ⊢
  have hA : ∀ q : Nat, s.heap.size ≤ q → A q := fun q h => by rw [← hAe]; exact Or.inr h
  have hS : va_S A s.heap s.heap [] := va_S.rf
  have hP : va_P (dC, dI) vwCl [(r, .inr (0, [.ref k, .ref t, .int (nI n), .int cm, .int wr])), (k, .inl (cA, 500, .inl K)), (t, .inl (cB, 500, .inl T))] s.heap := hP
  have hl := lv_entry ([.ref r, .int (nI i), .int (nI j)]) (n := 5) (Nat.le_of_ble_eq_true rfl)
  rw [lg_entry_eq]
  generalize (lg_sl ([.ref r, .int (nI i), .int (nI j)]) ++ List.replicate (5 - (lg_sl ([.ref r, .int (nI i), .int (nI j)])).length) Slot.unset).toArray = ls at hl ⊢
  have hl : lv_has ls 5 [(0, .ref r), (1, .int (nI i)), (2, .int (nI j))] := hl
  refine lv_aload_n hx hb dX1_swapPairs_0 rfl (lv_at hl 0 rfl) ?_
  refine va_get (D := (dC, dI)) (ci := 0) (v := .ref k) (C := RX1) (T := TX1) (N := 5) hx hb hts (by decide +kernel) hown hK hP 0 rfl rfl 0 (by decide) (hts (.fieldLink RX1 9 "RowPress$Row" "keys" "[I") (by decide +kernel)) (fun _ h9 => h9) rfl dX1_swapPairs_1 ?_
  refine lv_iload_n hx hb dX1_swapPairs_4 rfl (lv_at hl 1 rfl) ?_
  refine lz_iald hx hb hK hP 1 0 rfl rfl (j := i) (by omega) (by decide) dX1_swapPairs_5 ?_
  refine lv_istore_n (lv' := [(3, .int (K i)), (0, .ref r), (1, .int (nI i)), (2, .int (nI j))]) hx hb dX1_swapPairs_6 rfl hl (by decide) rfl (fun ls hl => ?_)
  refine lv_aload_n hx hb dX1_swapPairs_7 rfl (lv_at hl 1 rfl) ?_
  refine va_get (D := (dC, dI)) (ci := 0) (v := .ref k) (C := RX1) (T := TX1) (N := 5) hx hb hts (by decide +kernel) hown hK hP 0 rfl rfl 0 (by decide) (hts (.fieldLink RX1 9 "RowPress$Row" "keys" "[I") (by decide +kernel)) (fun _ h9 => h9) rfl dX1_swapPairs_8 ?_
  refine lv_iload_n hx hb dX1_swapPairs_11 rfl (lv_at hl 2 rfl) ?_
  refine lv_aload_n hx hb dX1_swapPairs_12 rfl (lv_at hl 1 rfl) ?_
  refine va_get (D := (dC, dI)) (ci := 0) (v := .ref k) (C := RX1) (T := TX1) (N := 5) hx hb hts (by decide +kernel) hown hK hP 0 rfl rfl 0 (by decide) (hts (.fieldLink RX1 9 "RowPress$Row" "keys" "[I") (by decide +kernel)) (fun _ h9 => h9) rfl dX1_swapPairs_13 ?_
  refine lv_iload_n hx hb dX1_swapPairs_16 rfl (lv_at hl 3 rfl) ?_
  refine lz_iald hx hb hK hP 1 0 rfl rfl (j := j) (by omega) (by decide) dX1_swapPairs_17 ?_
  refine lz_iast hx hb hK hP hD hS 1 0 rfl rfl (j := i) (x := (K j)) (by omega) (by decide) dX1_swapPairs_18 (fun H locs hP hD hS => ?_)
  have hP : va_P (dC, dI) vwCl [(r, .inr (0, [.ref k, .ref t, .int (nI n), .int cm, .int wr])), (k, .inl (cA, 500, .inl (upd K i (K j)))), (t, .inl (cB, 500, .inl T))] H := hP
  have hD : va_D A [(r, .inr (0, [.ref k, .ref t, .int (nI n), .int cm, .int wr])), (k, .inl (cA, 500, .inl (upd K i (K j)))), (t, .inl (cB, 500, .inl T))] := hD
  refine lv_aload_n hx hb dX1_swapPairs_19 rfl (lv_at hl 1 rfl) ?_
  refine va_get (D := (dC, dI)) (ci := 0) (v := .ref k) (C := RX1) (T := TX1) (N := 5) hx hb hts (by decide +kernel) hown hK hP 0 rfl rfl 0 (by decide) (hts (.fieldLink RX1 9 "RowPress$Row" "keys" "[I") (by decide +kernel)) (fun _ h9 => h9) rfl dX1_swapPairs_20 ?_
  refine lv_iload_n hx hb dX1_swapPairs_23 rfl (lv_at hl 3 rfl) ?_
  refine lv_iload_n hx hb dX1_swapPairs_24 rfl (lv_at hl 0 rfl) ?_
  refine lz_iast hx hb hK hP hD hS 1 0 rfl rfl (j := j) (x := (K i)) (by omega) (by decide) dX1_swapPairs_25 (fun H locs hP hD hS => ?_)
  have hP : va_P (dC, dI) vwCl [(r, .inr (0, [.ref k, .ref t, .int (nI n), .int cm, .int wr])), (k, .inl (cA, 500, .inl (upd (upd K i (K j)) j (K i)))), (t, .inl (cB, 500, .inl T))] H := hP
  have hD : va_D A [(r, .inr (0, [.ref k, .ref t, .int (nI n), .int cm, .int wr])), (k, .inl (cA, 500, .inl (upd (upd K i (K j)) j (K i)))), (t, .inl (cB, 500, .inl T))] := hD
  refine lv_aload_n hx hb dX1_swapPairs_26 rfl (lv_at hl 1 rfl) ?_
  refine lv_dup hx hb dX1_swapPairs_27 rfl ?_
  refine va_get (D := (dC, dI)) (ci := 0) (v := .int wr) (C := RX1) (T := TX1) (N := 5) hx hb hts (by decide +kernel) hown hK hP 0 rfl rfl 4 (by decide) (hts (.fieldLink RX1 27 "RowPress$Row" "writes" "I") (by decide +kernel)) (fun _ h9 => h9) rfl dX1_swapPairs_28 ?_
  refine lv_iconst (v := (nI 2)) hx hb dX1_swapPairs_31 (by decide) ?_
  refine lv_iadd hx hb dX1_swapPairs_32 ?_
  refine va_put (D := (dC, dI)) (ci := 0) (v := .int (wr + (nI 2))) (ty := .int) (C := RX1) (T := TX1) (N := 5) hx hb hts (by decide +kernel) tyX1 tyX1_ok nmX1 hown hK hP hD hS 0 rfl rfl 4 (by decide) (hts (.fieldLink RX1 27 "RowPress$Row" "writes" "I") (by decide +kernel)) (fun _ h9 => h9) rfl (by decide +kernel) rfl rfl (Nat.le_of_ble_eq_true rfl) dX1_swapPairs_33 (fun H locs hP hD hS => ?_)
  have hP : va_P (dC, dI) vwCl [(r, .inr (0, [.ref k, .ref t, .int (nI n), .int cm, .int (wr + (nI 2))])), (k, .inl (cA, 500, .inl (upd (upd K i (K j)) j (K i)))), (t, .inl (cB, 500, .inl T))] H := hP
  have hD : va_D A [(r, .inr (0, [.ref k, .ref t, .int (nI n), .int cm, .int (wr + (nI 2))])), (k, .inl (cA, 500, .inl (upd (upd K i (K j)) j (K i)))), (t, .inl (cB, 500, .inl T))] := hD
  refine lv_aload_n hx hb dX1_swapPairs_36 rfl (lv_at hl 1 rfl) ?_
  refine va_get (D := (dC, dI)) (ci := 0) (v := .ref t) (C := RX1) (T := TX1) (N := 5) hx hb hts (by decide +kernel) hown hK hP 0 rfl rfl 1 (by decide) (hts (.fieldLink RX1 13 "RowPress$Row" "tags" "[I") (by decide +kernel)) (fun _ h9 => h9) rfl dX1_swapPairs_37 ?_
  refine lv_iload_n hx hb dX1_swapPairs_40 rfl (lv_at hl 2 rfl) ?_
  refine lz_iald hx hb hK hP 2 1 rfl rfl (j := i) (by omega) (by decide) dX1_swapPairs_41 ?_
  refine lv_istore (lv' := [(4, .int (T i)), (3, .int (K i)), (0, .ref r), (1, .int (nI i)), (2, .int (nI j))]) hx hb dX1_swapPairs_42 hl (by decide) rfl (fun ls hl => ?_)
  refine lv_aload_n hx hb dX1_swapPairs_44 rfl (lv_at hl 2 rfl) ?_
  refine va_get (D := (dC, dI)) (ci := 0) (v := .ref t) (C := RX1) (T := TX1) (N := 5) hx hb hts (by decide +kernel) hown hK hP 0 rfl rfl 1 (by decide) (hts (.fieldLink RX1 13 "RowPress$Row" "tags" "[I") (by decide +kernel)) (fun _ h9 => h9) rfl dX1_swapPairs_45 ?_
  refine lv_iload_n hx hb dX1_swapPairs_48 rfl (lv_at hl 3 rfl) ?_
  refine lv_aload_n hx hb dX1_swapPairs_49 rfl (lv_at hl 2 rfl) ?_
  refine va_get (D := (dC, dI)) (ci := 0) (v := .ref t) (C := RX1) (T := TX1) (N := 5) hx hb hts (by decide +kernel) hown hK hP 0 rfl rfl 1 (by decide) (hts (.fieldLink RX1 13 "RowPress$Row" "tags" "[I") (by decide +kernel)) (fun _ h9 => h9) rfl dX1_swapPairs_50 ?_
  refine lv_iload_n hx hb dX1_swapPairs_53 rfl (lv_at hl 4 rfl) ?_
  refine lz_iald hx hb hK hP 2 1 rfl rfl (j := j) (by omega) (by decide) dX1_swapPairs_54 ?_
  refine lz_iast hx hb hK hP hD hS 2 1 rfl rfl (j := i) (x := (T j)) (by omega) (by decide) dX1_swapPairs_55 (fun H locs hP hD hS => ?_)
  have hP : va_P (dC, dI) vwCl [(r, .inr (0, [.ref k, .ref t, .int (nI n), .int cm, .int (wr + (nI 2))])), (k, .inl (cA, 500, .inl (upd (upd K i (K j)) j (K i)))), (t, .inl (cB, 500, .inl (upd T i (T j))))] H := hP
  have hD : va_D A [(r, .inr (0, [.ref k, .ref t, .int (nI n), .int cm, .int (wr + (nI 2))])), (k, .inl (cA, 500, .inl (upd (upd K i (K j)) j (K i)))), (t, .inl (cB, 500, .inl (upd T i (T j))))] := hD
  refine lv_aload_n hx hb dX1_swapPairs_56 rfl (lv_at hl 2 rfl) ?_
  refine va_get (D := (dC, dI)) (ci := 0) (v := .ref t) (C := RX1) (T := TX1) (N := 5) hx hb hts (by decide +kernel) hown hK hP 0 rfl rfl 1 (by decide) (hts (.fieldLink RX1 13 "RowPress$Row" "tags" "[I") (by decide +kernel)) (fun _ h9 => h9) rfl dX1_swapPairs_57 ?_
  refine lv_iload_n hx hb dX1_swapPairs_60 rfl (lv_at hl 4 rfl) ?_
  refine lv_iload hx hb dX1_swapPairs_61 (lv_at hl 0 rfl) ?_
  refine lz_iast hx hb hK hP hD hS 2 1 rfl rfl (j := j) (x := (T i)) (by omega) (by decide) dX1_swapPairs_63 (fun H locs hP hD hS => ?_)
  have hP : va_P (dC, dI) vwCl [(r, .inr (0, [.ref k, .ref t, .int (nI n), .int cm, .int (wr + (nI 2))])), (k, .inl (cA, 500, .inl (upd (upd K i (K j)) j (K i)))), (t, .inl (cB, 500, .inl (upd (upd T i (T j)) j (T i))))] H := hP
  have hD : va_D A [(r, .inr (0, [.ref k, .ref t, .int (nI n), .int cm, .int (wr + (nI 2))])), (k, .inl (cA, 500, .inl (upd (upd K i (K j)) j (K i)))), (t, .inl (cB, 500, .inl (upd (upd T i (T j)) j (T i))))] := hD
  exact W.vret hx hb hr (fun tS ht hW => ⟨⟨(upd (upd K i (K j)) j (K i), upd (upd T i (T j)) j (T i), n, cm, (wr + (nI 2))), rfl, rfl, by rw [ht]; exact hP, va_K.moved hW.alike hK, hD⟩, hS.F ht⟩) hS.2.2 dX1_swapPairs_64
end
section
set_option maxHeartbeats 4000000 in
set_option maxRecDepth 100000 in
theorem c_X1_inOrder (l : Launch) (dC : Nat → ClassId) (dI : Nat → Nat → Nat) (sz : Nat) (r k t : Nat) (cA cB : ClassId) (n : Nat) (cm wr : Int32) (K T : Nat → Int32) (a b o : Nat) (hab : a ≤ b) (hb5 : b ≤ 500) (ho : o < 4) : Met l yX1_inOrder wsX1_inOrder ({ frames := 2, cells := 0, slots := 0, locals := 45 }) (va_Pc [.ref r, .int (nI a), .int (nI b), .int (nI o)] (fun U => U.heap.size = sz ∧ va_P (dC, dI) vwCl [(r, .inr (0, [.ref k, .ref t, .int (nI n), .int cm, .int wr])), (k, .inl (cA, 500, .inl K)), (t, .inl (cB, 500, .inl T))] U.heap ∧ va_K (dC, dI) vwCl [(cA, .int), (cB, .int)] U ∧ va_D (fun _ => True) [(r, .inr (0, [.ref k, .ref t, .int (nI n), .int cm, .int wr])), (k, .inl (cA, 500, .inl K)), (t, .inl (cB, 500, .inl T))])) (va_Qi (fun r u => tr r (srt (mk o) (mZ K T) a b) ∧ ∃ d, d ≤ b - a ∧ u = (K, T, n, cm + nI d, wr)) (atR dC dI (va_A [(r, .inr (0, [.ref k, .ref t, .int (nI n), .int cm, .int wr])), (k, .inl (cA, 500, .inl K)), (t, .inl (cB, 500, .inl T))] sz) r k t cA cB) (va_A [(r, .inr (0, [.ref k, .ref t, .int (nI n), .int cm, .int wr])), (k, .inl (cA, 500, .inl K)), (t, .inl (cB, 500, .inl T))] sz)) 0 0 (va_A [(r, .inr (0, [.ref k, .ref t, .int (nI n), .int cm, .int wr])), (k, .inl (cA, 500, .inl K)), (t, .inl (cB, 500, .inl T))] sz) := by
  refine Met.ofW (cc := cX1_inOrder) (maxL := 5) (ret := (some .boolean)) (by decide) rfl ?_
  intro p e s m args below meth c s₁ B hml hv
  obtain ⟨rfl, hsz, hP, hK, hD0⟩ := hv
  have hx := B.exec
  have hb := B.bytes
  have hr := B.returns
  have hts := atoms_spec (ws := wsX1_inOrder) B.pre
  have hown : s.vm.findClass RX1 = some m.cls := findClass_of_methodNamed B.named
  have hlocks := B.notSynchronized
  subst hsz
  have hD := hD0.self (sz := s.heap.size)
  generalize hAe : va_A [(r, .inr (0, [.ref k, .ref t, .int (nI n), .int cm, .int wr])), (k, .inl (cA, 500, .inl K)), (t, .inl (cB, 500, .inl T))] s.heap.size = A at hD ⊢
  have hA : ∀ q : Nat, s.heap.size ≤ q → A q := fun q h => by rw [← hAe]; exact Or.inr h
  have hS : va_S A s.heap s.heap [] := va_S.rf
  have hP : va_P (dC, dI) vwCl [(r, .inr (0, [.ref k, .ref t, .int (nI n), .int cm, .int wr])), (k, .inl (cA, 500, .inl K)), (t, .inl (cB, 500, .inl T))] s.heap := hP
  have hl := lv_entry ([.ref r, .int (nI a), .int (nI b), .int (nI o)]) (n := 5) (Nat.le_of_ble_eq_true rfl)
  rw [lg_entry_eq]
  generalize (lg_sl ([.ref r, .int (nI a), .int (nI b), .int (nI o)]) ++ List.replicate (5 - (lg_sl ([.ref r, .int (nI a), .int (nI b), .int (nI o)])).length) Slot.unset).toArray = ls at hl ⊢
  have hl : lv_has ls 5 [(0, .ref r), (1, .int (nI a)), (2, .int (nI b)), (3, .int (nI o))] := hl
  refine lv_iload_n hx hb dX1_inOrder_0 rfl (lv_at hl 1 rfl) ?_
  refine lv_iconst (v := (nI 1)) hx hb dX1_inOrder_1 (by decide) ?_
  refine lv_iadd hx hb dX1_inOrder_2 ?_
  refine lz_top (y := (nI (a + 1))) (nI_add _ _) ?_
  refine lv_istore (lv' := [(4, .int (nI (a + 1))), (0, .ref r), (1, .int (nI a)), (2, .int (nI b)), (3, .int (nI o))]) hx hb dX1_inOrder_3 hl (by decide) rfl (fun ls hl => ?_)
  refine lz_loop (σ := Nat × Int32 × Nat) (μ := fun X_ => match X_ with | (q, c1, d) => b + 1 - q) (Inv := fun X_ H locs ls => match X_ with | (q, c1, d) => (a + 1 ≤ q) ∧ (q ≤ b + 1) ∧ (srt (mk o) (mZ K T) a q) ∧ (c1 = cm + nI d) ∧ (d + (a + 1) ≤ q) ∧ va_P (dC, dI) vwCl [(r, .inr (0, [.ref k, .ref t, .int (nI n), .int c1, .int wr])), (k, .inl (cA, 500, .inl K)), (t, .inl (cB, 500, .inl T))] H ∧ va_D A [(r, .inr (0, [.ref k, .ref t, .int (nI n), .int c1, .int wr])), (k, .inl (cA, 500, .inl K)), (t, .inl (cB, 500, .inl T))] ∧ va_S A s.heap H locs ∧ lv_has ls 5 [(0, .ref r), (1, .int (nI a)), (2, .int (nI b)), (3, .int (nI o)), (4, .int (nI q))]) ?_ ((a + 1), cm, 0) _ _ _ ?_
  · rintro ⟨q, c1, d⟩ iha H locs ls ⟨va0, va1, va2, va3, va4, hP, hD, hS, hl⟩
    refine lv_iload hx hb dX1_inOrder_5 (lv_at hl 4 rfl) ?_
    refine lv_iload_n hx hb dX1_inOrder_7 rfl (lv_at hl 2 rfl) ?_
    refine lz_icmp_ge (tgt := 33) (by omega) (by omega) hx hb dX1_inOrder_8 (by decide) (fun c8 => ?_) (fun c8 => ?_)
    · refine lv_iconst (v := (nI 1)) hx hb dX1_inOrder_33 (by decide) ?_
      exact W.zret (v := (nI 1)) hx hb hr rfl (fun tS ht hW => ⟨⟨(nI 1), (K, T, n, c1, wr), rfl, ⟨tr_t (srt_sub va2 (Nat.le_refl _) (by omega)), d, by omega, by rw [va3]⟩, by rw [ht]; exact hP, va_K.moved hW.alike hK, hD⟩, hS.F ht⟩) hS.2.2 dX1_inOrder_34
    · refine lv_aload_n hx hb dX1_inOrder_11 rfl (lv_at hl 0 rfl) ?_
      refine lv_iload hx hb dX1_inOrder_12 (lv_at hl 4 rfl) ?_
      refine lv_iload hx hb dX1_inOrder_14 (lv_at hl 4 rfl) ?_
      refine lv_iconst (v := (nI 1)) hx hb dX1_inOrder_16 (by decide) ?_
      refine lv_isub hx hb dX1_inOrder_17 ?_
      refine lz_top (y := (nI (q - 1))) (pk_sub (by omega)) ?_
      refine lv_iload_n hx hb dX1_inOrder_18 rfl (lv_at hl 3 rfl) ?_
      have hPc := hP.sub (ws' := [(r, .inr (0, [.ref k, .ref t, .int (nI n), .int c1, .int wr])), (k, .inl (cA, 500, .inl K)), (t, .inl (cB, 500, .inl T))]) [0, 1, 2] rfl
      have hDc := hD.sub (ws' := [(r, .inr (0, [.ref k, .ref t, .int (nI n), .int c1, .int wr])), (k, .inl (cA, 500, .inl K)), (t, .inl (cB, 500, .inl T))]) [0, 1, 2] (by decide) rfl
      have hKc := hK.sub (tys' := [(cA, .int), (cB, .int)]) [0, 1] rfl
      have hFc := va_free (wc := [(r, .inr (0, [.ref k, .ref t, .int (nI n), .int c1, .int wr])), (k, .inl (cA, 500, .inl K)), (t, .inl (cB, 500, .inl T))]) hD hS hA [0, 1, 2] rfl
      refine va_calli (va_runV (As := [.int (nI q), .int (nI (q - 1)), .int (nI o)]) (rest := []) ⟨hx, hb, hml, hown, hts⟩ (c_X1_lessAt l dC dI H.size r k t cA cB n c1 wr K T q (q - 1) o (by omega) (by omega) ho) (cwV 3 hts gX1_inOrder_X1_lessAt rfl rfl rfl (by decide +kernel) ⟨Nat.le_of_ble_eq_true rfl, Nat.le_of_ble_eq_true rfl⟩) ⟨fun a U g mk q => by obtain ⟨q0, q1, qP, qK, qD⟩ := q; exact ⟨q0, q1, qP, va_K.moved (u := U) (U := U.calling g mk a) (Vm.Alike.refl U.vm) qK, qD⟩, va_recv hKc hPc (ci := 0) (q0 := 0) rfl rfl, fun U hU hW => ⟨rfl, by rw [hU], by rw [hU]; exact hPc, va_K.moved hW.alike hKc, hDc.weaken (fun _ _ _ _ => trivial)⟩⟩ rfl rfl hl.1 rfl (lv_room (Nat.le_of_ble_eq_true rfl)) dX1_inOrder_19 ⟨Nat.le_of_ble_eq_true rfl, Nat.le_of_ble_eq_true rfl⟩) hS (fun q _ h => hFc q h) hFc (fun r_1 u tS H1 locs ht hvm hw hB hz1 hk1 hS => ?_)
      obtain ⟨hq, rfl⟩ := hw
      obtain ⟨hP1, hK1, hD1⟩ := hB
      rw [ht] at hP1
      obtain ⟨hP, hD⟩ := va_join (wr := []) (w1 := [(r, .inr (0, [.ref k, .ref t, .int (nI n), .int (c1 + nI 1), .int wr])), (k, .inl (cA, 500, .inl K)), (t, .inl (cB, 500, .inl T))]) hP hD [0, 1, 2] [] rfl rfl (by decide) (by decide) hk1 hFc hP1 hD1
      generalize H1 = H at hP hS ⊢
      have hP : va_P (dC, dI) vwCl [(r, .inr (0, [.ref k, .ref t, .int (nI n), .int (c1 + nI 1), .int wr])), (k, .inl (cA, 500, .inl K)), (t, .inl (cB, 500, .inl T))] H := hP
      have hD : va_D A [(r, .inr (0, [.ref k, .ref t, .int (nI n), .int (c1 + nI 1), .int wr])), (k, .inl (cA, 500, .inl K)), (t, .inl (cB, 500, .inl T))] := hD
      refine lv_if_eq (tgt := 27) hx hb dX1_inOrder_22 (by decide) (fun c22 => ?_) (fun c22 => ?_)
      · refine lv_iinc (v := (nI (q + 1))) (lv' := [(4, .int (nI (q + 1))), (0, .ref r), (1, .int (nI a)), (2, .int (nI b)), (3, .int (nI o))]) hx hb dX1_inOrder_27 hl (k := 4) rfl (by first | exact nI_add q 1 | (rw [← nI_add]; rfl)) (by decide) rfl (fun ls hl => ?_)
        refine lv_goto (tgt := 5) hx hb dX1_inOrder_30 (by decide) ?_
        exact iha ((q + 1), (c1 + nI 1), (d + 1)) (by show b + 1 - (q + 1) < b + 1 - q; omega) _ _ _ ⟨by omega, by omega, srt_snoc va2 (fun _ => Int.not_lt.mp (tr_0 hq c22)), ad1 va3 1, by omega, hP, hD, hS, lv_sub hl [1, 2, 3, 4, 0] rfl⟩
      · refine lv_iconst (v := (nI 0)) hx hb dX1_inOrder_25 (by decide) ?_
        exact W.zret (v := (nI 0)) hx hb hr rfl (fun tS ht hW => ⟨⟨(nI 0), (K, T, n, (c1 + nI 1), wr), rfl, ⟨tr_f (fun z => absurd (tr_1 hq c22) (Int.not_lt.mpr (z (q - 1) q (by omega) (by omega) (by omega)))), d + 1, by omega, by rw [ad1 va3 1]⟩, by rw [ht]; exact hP, va_K.moved hW.alike hK, hD⟩, hS.F ht⟩) hS.2.2 dX1_inOrder_26
  · exact ⟨Nat.le_refl _, by omega, srt_short (by omega), ad0 cm, by omega, hP, hD, hS, lv_sub hl [1, 2, 3, 4, 0] rfl⟩
set_option maxHeartbeats 4000000 in
set_option maxRecDepth 100000 in
theorem c_X1_countLess (l : Launch) (dC : Nat → ClassId) (dI : Nat → Nat → Nat) (sz : Nat) (r k t : Nat) (cA cB : ClassId) (n : Nat) (cm wr : Int32) (K T : Nat → Int32) (a b : Nat) (x : Int32) (o : Nat) (hab : a ≤ b) (hb5 : b ≤ 500) (ho : o < 4) : Met l yX1_countLess wsX1_countLess ({ frames := 1, cells := 0, slots := 0, locals := 22 }) (va_Pc [.ref r, .int (nI a), .int (nI b), .int x, .int (nI o)] (fun U => U.heap.size = sz ∧ va_P (dC, dI) vwCl [(r, .inr (0, [.ref k, .ref t, .int (nI n), .int cm, .int wr])), (k, .inl (cA, 500, .inl K)), (t, .inl (cB, 500, .inl T))] U.heap ∧ va_K (dC, dI) vwCl [(cA, .int), (cB, .int)] U ∧ va_D (fun _ => True) [(r, .inr (0, [.ref k, .ref t, .int (nI n), .int cm, .int wr])), (k, .inl (cA, 500, .inl K)), (t, .inl (cB, 500, .inl T))])) (va_Qi (fun r u => r = nI (cn (fun j => mk o (K j) < mk o x) a (b - a)) ∧ u = (K, T, n, cm, wr)) (atR dC dI (va_A [(r, .inr (0, [.ref k, .ref t, .int (nI n), .int cm, .int wr])), (k, .inl (cA, 500, .inl K)), (t, .inl (cB, 500, .inl T))] sz) r k t cA cB) (va_A [(r, .inr (0, [.ref k, .ref t, .int (nI n), .int cm, .int wr])), (k, .inl (cA, 500, .inl K)), (t, .inl (cB, 500, .inl T))] sz)) 0 0 (va_A [(r, .inr (0, [.ref k, .ref t, .int (nI n), .int cm, .int wr])), (k, .inl (cA, 500, .inl K)), (t, .inl (cB, 500, .inl T))] sz) := by
  refine Met.ofW (cc := cX1_countLess) (maxL := 7) (ret := (some .int)) (by decide) rfl ?_
  intro p e s m args below meth c s₁ B hml hv
  obtain ⟨rfl, hsz, hP, hK, hD0⟩ := hv
  have hx := B.exec
  have hb := B.bytes
  have hr := B.returns
  have hts := atoms_spec (ws := wsX1_countLess) B.pre
  have hown : s.vm.findClass RX1 = some m.cls := findClass_of_methodNamed B.named
  have hlocks := B.notSynchronized
  subst hsz
  have hD := hD0.self (sz := s.heap.size)
  generalize hAe : va_A [(r, .inr (0, [.ref k, .ref t, .int (nI n), .int cm, .int wr])), (k, .inl (cA, 500, .inl K)), (t, .inl (cB, 500, .inl T))] s.heap.size = A at hD ⊢
  have hA : ∀ q : Nat, s.heap.size ≤ q → A q := fun q h => by rw [← hAe]; exact Or.inr h
  have hS : va_S A s.heap s.heap [] := va_S.rf
  have hP : va_P (dC, dI) vwCl [(r, .inr (0, [.ref k, .ref t, .int (nI n), .int cm, .int wr])), (k, .inl (cA, 500, .inl K)), (t, .inl (cB, 500, .inl T))] s.heap := hP
  have hl := lv_entry ([.ref r, .int (nI a), .int (nI b), .int x, .int (nI o)]) (n := 7) (Nat.le_of_ble_eq_true rfl)
  rw [lg_entry_eq]
  generalize (lg_sl ([.ref r, .int (nI a), .int (nI b), .int x, .int (nI o)]) ++ List.replicate (7 - (lg_sl ([.ref r, .int (nI a), .int (nI b), .int x, .int (nI o)])).length) Slot.unset).toArray = ls at hl ⊢
  have hl : lv_has ls 7 [(0, .ref r), (1, .int (nI a)), (2, .int (nI b)), (3, .int x), (4, .int (nI o))] := hl
  refine lv_iconst (v := (nI 0)) hx hb dX1_countLess_0 (by decide) ?_
  refine lv_istore (lv' := [(5, .int (nI 0)), (0, .ref r), (1, .int (nI a)), (2, .int (nI b)), (3, .int x), (4, .int (nI o))]) hx hb dX1_countLess_1 hl (by decide) rfl (fun ls hl => ?_)
  refine lv_iload_n hx hb dX1_countLess_3 rfl (lv_at hl 2 rfl) ?_
  refine lv_istore (lv' := [(6, .int (nI a)), (5, .int (nI 0)), (0, .ref r), (1, .int (nI a)), (2, .int (nI b)), (3, .int x), (4, .int (nI o))]) hx hb dX1_countLess_4 hl (by decide) rfl (fun ls hl => ?_)
  refine lz_loop (σ := Nat × Nat) (μ := fun X_ => match X_ with | (x5, q) => b - q) (Inv := fun X_ H locs ls => match X_ with | (x5, q) => (a ≤ q) ∧ (q ≤ b) ∧ (x5 = cn (fun j => mk o (K j) < mk o x) a (q - a)) ∧ va_P (dC, dI) vwCl [(r, .inr (0, [.ref k, .ref t, .int (nI n), .int cm, .int wr])), (k, .inl (cA, 500, .inl K)), (t, .inl (cB, 500, .inl T))] H ∧ va_D A [(r, .inr (0, [.ref k, .ref t, .int (nI n), .int cm, .int wr])), (k, .inl (cA, 500, .inl K)), (t, .inl (cB, 500, .inl T))] ∧ va_S A s.heap H locs ∧ lv_has ls 7 [(0, .ref r), (1, .int (nI a)), (2, .int (nI b)), (3, .int x), (4, .int (nI o)), (5, .int (nI x5)), (6, .int (nI q))]) ?_ (0, a) _ _ _ ?_
  · rintro ⟨x5, q⟩ ihb H locs ls ⟨vb0, vb1, vb2, hP, hD, hS, hl⟩
    refine lv_iload hx hb dX1_countLess_6 (lv_at hl 6 rfl) ?_
    refine lv_iload_n hx hb dX1_countLess_8 rfl (lv_at hl 2 rfl) ?_
    refine lz_icmp_ge (tgt := 37) (by omega) (by omega) hx hb dX1_countLess_9 (by decide) (fun c9 => ?_) (fun c9 => ?_)
    · refine lv_iload hx hb dX1_countLess_37 (lv_at hl 5 rfl) ?_
      exact W.iret (v := (nI x5)) hx hb hr (fun tS ht hW => ⟨⟨(nI x5), (K, T, n, cm, wr), rfl, ⟨by rw [vb2, show q = b by omega], rfl⟩, by rw [ht]; exact hP, va_K.moved hW.alike hK, hD⟩, hS.F ht⟩) hS.2.2 dX1_countLess_39
    · refine lv_aload_n hx hb dX1_countLess_12 rfl (lv_at hl 0 rfl) ?_
      refine va_get (D := (dC, dI)) (ci := 0) (v := .ref k) (C := RX1) (T := TX1) (N := 5) hx hb hts (by decide +kernel) hown hK hP 0 rfl rfl 0 (by decide) (hts (.fieldLink RX1 9 "RowPress$Row" "keys" "[I") (by decide +kernel)) (fun _ h9 => h9) rfl dX1_countLess_13 ?_
      refine lv_iload hx hb dX1_countLess_16 (lv_at hl 6 rfl) ?_
      refine lz_iald hx hb hK hP 1 0 rfl rfl (j := q) (by omega) (by decide) dX1_countLess_18 ?_
      refine lv_iload_n hx hb dX1_countLess_19 rfl (lv_at hl 3 rfl) ?_
      refine lv_iload hx hb dX1_countLess_20 (lv_at hl 4 rfl) ?_
      have hPc := hP.sub (ws' := []) [] rfl
      have hDc := hD.sub (ws' := []) [] (by decide) rfl
      have hKc := hK.sub (tys' := []) [] rfl
      have hFc := va_free (wc := []) hD hS hA [] rfl
      refine va_calli (va_runS (As := [.int (K q), .int x, .int (nI o)]) (rest := []) ⟨hx, hb, hml, hown, hts⟩ (c_X0_isLess l dC dI H.size (K q) x o ho) (va_cwS 3 hts gX1_countLess_X0_isLess rfl rfl rfl (by decide +kernel) ⟨Nat.le_of_ble_eq_true rfl, Nat.le_of_ble_eq_true rfl⟩) ⟨fun a U g mk q => by obtain ⟨q0, q1, qP, qK, qD⟩ := q; exact ⟨q0, q1, qP, va_K.moved (u := U) (U := U.calling g mk a) (Vm.Alike.refl U.vm) qK, qD⟩, fun U hU hW => ⟨rfl, by rw [hU], by rw [hU]; exact hPc, va_K.moved hW.alike hKc, hDc.weaken (fun _ _ _ _ => trivial)⟩⟩ rfl rfl hl.1 rfl (lv_room (Nat.le_of_ble_eq_true rfl)) dX1_countLess_22 ⟨Nat.le_of_ble_eq_true rfl, Nat.le_of_ble_eq_true rfl⟩) hS (fun q _ h => hFc q h) hFc (fun r_1 u tS H1 locs ht hvm hw hB hz1 hk1 hS => ?_)
      have hq := hw
      obtain ⟨hP1, hK1, hD1⟩ := hB
      rw [ht] at hP1
      obtain ⟨hP, hD⟩ := va_join (wr := [(r, .inr (0, [.ref k, .ref t, .int (nI n), .int cm, .int wr])), (k, .inl (cA, 500, .inl K)), (t, .inl (cB, 500, .inl T))]) (w1 := []) hP hD [] [0, 1, 2] rfl rfl (by decide) (by decide) hk1 hFc hP1 hD1
      generalize H1 = H at hP hS ⊢
      have hP : va_P (dC, dI) vwCl [(r, .inr (0, [.ref k, .ref t, .int (nI n), .int cm, .int wr])), (k, .inl (cA, 500, .inl K)), (t, .inl (cB, 500, .inl T))] H := hP
      have hD : va_D A [(r, .inr (0, [.ref k, .ref t, .int (nI n), .int cm, .int wr])), (k, .inl (cA, 500, .inl K)), (t, .inl (cB, 500, .inl T))] := hD
      refine lv_if_eq (tgt := 31) hx hb dX1_countLess_25 (by decide) (fun c25 => ?_) (fun c25 => ?_)
      · refine lv_iinc (v := (nI (q + 1))) (lv' := [(6, .int (nI (q + 1))), (0, .ref r), (1, .int (nI a)), (2, .int (nI b)), (3, .int x), (4, .int (nI o)), (5, .int (nI x5))]) hx hb dX1_countLess_31 hl (k := 6) rfl (by first | exact nI_add q 1 | (rw [← nI_add]; rfl)) (by decide) rfl (fun ls hl => ?_)
        refine lv_goto (tgt := 6) hx hb dX1_countLess_34 (by decide) ?_
        exact ihb (x5, (q + 1)) (by show b - (q + 1) < b - q; omega) _ _ _ ⟨by omega, by omega, by rw [cn_sf (P := fun j => mk o (K j) < mk o x) (by omega) (tr_0 hq c25)]; exact vb2, hP, hD, hS, lv_sub hl [1, 2, 3, 4, 5, 6, 0] rfl⟩
      · refine lv_iinc (v := (nI (x5 + 1))) (lv' := [(5, .int (nI (x5 + 1))), (0, .ref r), (1, .int (nI a)), (2, .int (nI b)), (3, .int x), (4, .int (nI o)), (6, .int (nI q))]) hx hb dX1_countLess_28 hl (k := 5) rfl (by first | exact nI_add x5 1 | (rw [← nI_add]; rfl)) (by decide) rfl (fun ls hl => ?_)
        refine lv_iinc (v := (nI (q + 1))) (lv' := [(6, .int (nI (q + 1))), (5, .int (nI (x5 + 1))), (0, .ref r), (1, .int (nI a)), (2, .int (nI b)), (3, .int x), (4, .int (nI o))]) hx hb dX1_countLess_31 hl (k := 6) rfl (by first | exact nI_add q 1 | (rw [← nI_add]; rfl)) (by decide) rfl (fun ls hl => ?_)
        refine lv_goto (tgt := 6) hx hb dX1_countLess_34 (by decide) ?_
        exact ihb ((x5 + 1), (q + 1)) (by show b - (q + 1) < b - q; omega) _ _ _ ⟨by omega, by omega, by rw [cn_st (P := fun j => mk o (K j) < mk o x) (by omega) (tr_1 hq c25), ← vb2], hP, hD, hS, lv_sub hl [2, 3, 4, 5, 6, 1, 0] rfl⟩
  · exact ⟨Nat.le_refl _, by omega, cn_s0, hP, hD, hS, lv_sub hl [2, 3, 4, 5, 6, 1, 0] rfl⟩
set_option maxHeartbeats 4000000 in
set_option maxRecDepth 100000 in
theorem c_X1_countNotMore (l : Launch) (dC : Nat → ClassId) (dI : Nat → Nat → Nat) (sz : Nat) (r k t : Nat) (cA cB : ClassId) (n : Nat) (cm wr : Int32) (K T : Nat → Int32) (a b : Nat) (x : Int32) (o : Nat) (hab : a ≤ b) (hb5 : b ≤ 500) (ho : o < 4) : Met l yX1_countNotMore wsX1_countNotMore ({ frames := 1, cells := 0, slots := 0, locals := 22 }) (va_Pc [.ref r, .int (nI a), .int (nI b), .int x, .int (nI o)] (fun U => U.heap.size = sz ∧ va_P (dC, dI) vwCl [(r, .inr (0, [.ref k, .ref t, .int (nI n), .int cm, .int wr])), (k, .inl (cA, 500, .inl K)), (t, .inl (cB, 500, .inl T))] U.heap ∧ va_K (dC, dI) vwCl [(cA, .int), (cB, .int)] U ∧ va_D (fun _ => True) [(r, .inr (0, [.ref k, .ref t, .int (nI n), .int cm, .int wr])), (k, .inl (cA, 500, .inl K)), (t, .inl (cB, 500, .inl T))])) (va_Qi (fun r u => r = nI (cn (fun j => ¬ mk o x < mk o (K j)) a (b - a)) ∧ u = (K, T, n, cm, wr)) (atR dC dI (va_A [(r, .inr (0, [.ref k, .ref t, .int (nI n), .int cm, .int wr])), (k, .inl (cA, 500, .inl K)), (t, .inl (cB, 500, .inl T))] sz) r k t cA cB) (va_A [(r, .inr (0, [.ref k, .ref t, .int (nI n), .int cm, .int wr])), (k, .inl (cA, 500, .inl K)), (t, .inl (cB, 500, .inl T))] sz)) 0 0 (va_A [(r, .inr (0, [.ref k, .ref t, .int (nI n), .int cm, .int wr])), (k, .inl (cA, 500, .inl K)), (t, .inl (cB, 500, .inl T))] sz) := by
  refine Met.ofW (cc := cX1_countNotMore) (maxL := 7) (ret := (some .int)) (by decide) rfl ?_
  intro p e s m args below meth c s₁ B hml hv
  obtain ⟨rfl, hsz, hP, hK, hD0⟩ := hv
  have hx := B.exec
  have hb := B.bytes
  have hr := B.returns
  have hts := atoms_spec (ws := wsX1_countNotMore) B.pre
  have hown : s.vm.findClass RX1 = some m.cls := findClass_of_methodNamed B.named
  have hlocks := B.notSynchronized
  subst hsz
  have hD := hD0.self (sz := s.heap.size)
  generalize hAe : va_A [(r, .inr (0, [.ref k, .ref t, .int (nI n), .int cm, .int wr])), (k, .inl (cA, 500, .inl K)), (t, .inl (cB, 500, .inl T))] s.heap.size = A at hD ⊢
  have hA : ∀ q : Nat, s.heap.size ≤ q → A q := fun q h => by rw [← hAe]; exact Or.inr h
  have hS : va_S A s.heap s.heap [] := va_S.rf
  have hP : va_P (dC, dI) vwCl [(r, .inr (0, [.ref k, .ref t, .int (nI n), .int cm, .int wr])), (k, .inl (cA, 500, .inl K)), (t, .inl (cB, 500, .inl T))] s.heap := hP
  have hl := lv_entry ([.ref r, .int (nI a), .int (nI b), .int x, .int (nI o)]) (n := 7) (Nat.le_of_ble_eq_true rfl)
  rw [lg_entry_eq]
  generalize (lg_sl ([.ref r, .int (nI a), .int (nI b), .int x, .int (nI o)]) ++ List.replicate (7 - (lg_sl ([.ref r, .int (nI a), .int (nI b), .int x, .int (nI o)])).length) Slot.unset).toArray = ls at hl ⊢
  have hl : lv_has ls 7 [(0, .ref r), (1, .int (nI a)), (2, .int (nI b)), (3, .int x), (4, .int (nI o))] := hl
  refine lv_iconst (v := (nI 0)) hx hb dX1_countNotMore_0 (by decide) ?_
  refine lv_istore (lv' := [(5, .int (nI 0)), (0, .ref r), (1, .int (nI a)), (2, .int (nI b)), (3, .int x), (4, .int (nI o))]) hx hb dX1_countNotMore_1 hl (by decide) rfl (fun ls hl => ?_)
  refine lv_iload_n hx hb dX1_countNotMore_3 rfl (lv_at hl 2 rfl) ?_
  refine lv_istore (lv' := [(6, .int (nI a)), (5, .int (nI 0)), (0, .ref r), (1, .int (nI a)), (2, .int (nI b)), (3, .int x), (4, .int (nI o))]) hx hb dX1_countNotMore_4 hl (by decide) rfl (fun ls hl => ?_)
  refine lz_loop (σ := Nat × Nat) (μ := fun X_ => match X_ with | (x5, q) => b - q) (Inv := fun X_ H locs ls => match X_ with | (x5, q) => (a ≤ q) ∧ (q ≤ b) ∧ (x5 = cn (fun j => ¬ mk o x < mk o (K j)) a (q - a)) ∧ va_P (dC, dI) vwCl [(r, .inr (0, [.ref k, .ref t, .int (nI n), .int cm, .int wr])), (k, .inl (cA, 500, .inl K)), (t, .inl (cB, 500, .inl T))] H ∧ va_D A [(r, .inr (0, [.ref k, .ref t, .int (nI n), .int cm, .int wr])), (k, .inl (cA, 500, .inl K)), (t, .inl (cB, 500, .inl T))] ∧ va_S A s.heap H locs ∧ lv_has ls 7 [(0, .ref r), (1, .int (nI a)), (2, .int (nI b)), (3, .int x), (4, .int (nI o)), (5, .int (nI x5)), (6, .int (nI q))]) ?_ (0, a) _ _ _ ?_
  · rintro ⟨x5, q⟩ ihb H locs ls ⟨vb0, vb1, vb2, hP, hD, hS, hl⟩
    refine lv_iload hx hb dX1_countNotMore_6 (lv_at hl 6 rfl) ?_
    refine lv_iload_n hx hb dX1_countNotMore_8 rfl (lv_at hl 2 rfl) ?_
    refine lz_icmp_ge (tgt := 37) (by omega) (by omega) hx hb dX1_countNotMore_9 (by decide) (fun c9 => ?_) (fun c9 => ?_)
    · refine lv_iload hx hb dX1_countNotMore_37 (lv_at hl 5 rfl) ?_
      exact W.iret (v := (nI x5)) hx hb hr (fun tS ht hW => ⟨⟨(nI x5), (K, T, n, cm, wr), rfl, ⟨by rw [vb2, show q = b by omega], rfl⟩, by rw [ht]; exact hP, va_K.moved hW.alike hK, hD⟩, hS.F ht⟩) hS.2.2 dX1_countNotMore_39
    · refine lv_iload_n hx hb dX1_countNotMore_12 rfl (lv_at hl 3 rfl) ?_
      refine lv_aload_n hx hb dX1_countNotMore_13 rfl (lv_at hl 0 rfl) ?_
      refine va_get (D := (dC, dI)) (ci := 0) (v := .ref k) (C := RX1) (T := TX1) (N := 5) hx hb hts (by decide +kernel) hown hK hP 0 rfl rfl 0 (by decide) (hts (.fieldLink RX1 9 "RowPress$Row" "keys" "[I") (by decide +kernel)) (fun _ h9 => h9) rfl dX1_countNotMore_14 ?_
      refine lv_iload hx hb dX1_countNotMore_17 (lv_at hl 6 rfl) ?_
      refine lz_iald hx hb hK hP 1 0 rfl rfl (j := q) (by omega) (by decide) dX1_countNotMore_19 ?_
      refine lv_iload hx hb dX1_countNotMore_20 (lv_at hl 4 rfl) ?_
      have hPc := hP.sub (ws' := []) [] rfl
      have hDc := hD.sub (ws' := []) [] (by decide) rfl
      have hKc := hK.sub (tys' := []) [] rfl
      have hFc := va_free (wc := []) hD hS hA [] rfl
      refine va_calli (va_runS (As := [.int x, .int (K q), .int (nI o)]) (rest := []) ⟨hx, hb, hml, hown, hts⟩ (c_X0_isLess l dC dI H.size x (K q) o ho) (va_cwS 3 hts gX1_countNotMore_X0_isLess rfl rfl rfl (by decide +kernel) ⟨Nat.le_of_ble_eq_true rfl, Nat.le_of_ble_eq_true rfl⟩) ⟨fun a U g mk q => by obtain ⟨q0, q1, qP, qK, qD⟩ := q; exact ⟨q0, q1, qP, va_K.moved (u := U) (U := U.calling g mk a) (Vm.Alike.refl U.vm) qK, qD⟩, fun U hU hW => ⟨rfl, by rw [hU], by rw [hU]; exact hPc, va_K.moved hW.alike hKc, hDc.weaken (fun _ _ _ _ => trivial)⟩⟩ rfl rfl hl.1 rfl (lv_room (Nat.le_of_ble_eq_true rfl)) dX1_countNotMore_22 ⟨Nat.le_of_ble_eq_true rfl, Nat.le_of_ble_eq_true rfl⟩) hS (fun q _ h => hFc q h) hFc (fun r_1 u tS H1 locs ht hvm hw hB hz1 hk1 hS => ?_)
      have hq := hw
      obtain ⟨hP1, hK1, hD1⟩ := hB
      rw [ht] at hP1
      obtain ⟨hP, hD⟩ := va_join (wr := [(r, .inr (0, [.ref k, .ref t, .int (nI n), .int cm, .int wr])), (k, .inl (cA, 500, .inl K)), (t, .inl (cB, 500, .inl T))]) (w1 := []) hP hD [] [0, 1, 2] rfl rfl (by decide) (by decide) hk1 hFc hP1 hD1
      generalize H1 = H at hP hS ⊢
      have hP : va_P (dC, dI) vwCl [(r, .inr (0, [.ref k, .ref t, .int (nI n), .int cm, .int wr])), (k, .inl (cA, 500, .inl K)), (t, .inl (cB, 500, .inl T))] H := hP
      have hD : va_D A [(r, .inr (0, [.ref k, .ref t, .int (nI n), .int cm, .int wr])), (k, .inl (cA, 500, .inl K)), (t, .inl (cB, 500, .inl T))] := hD
      refine lv_if_ne (tgt := 31) hx hb dX1_countNotMore_25 (by decide) (fun c25 => ?_) (fun c25 => ?_)
      · refine lv_iinc (v := (nI (q + 1))) (lv' := [(6, .int (nI (q + 1))), (0, .ref r), (1, .int (nI a)), (2, .int (nI b)), (3, .int x), (4, .int (nI o)), (5, .int (nI x5))]) hx hb dX1_countNotMore_31 hl (k := 6) rfl (by first | exact nI_add q 1 | (rw [← nI_add]; rfl)) (by decide) rfl (fun ls hl => ?_)
        refine lv_goto (tgt := 6) hx hb dX1_countNotMore_34 (by decide) ?_
        exact ihb (x5, (q + 1)) (by show b - (q + 1) < b - q; omega) _ _ _ ⟨by omega, by omega, by rw [cn_sf (P := fun j => ¬ mk o x < mk o (K j)) (by omega) (fun z => z (tr_1 hq c25))]; exact vb2, hP, hD, hS, lv_sub hl [1, 2, 3, 4, 5, 6, 0] rfl⟩
      · refine lv_iinc (v := (nI (x5 + 1))) (lv' := [(5, .int (nI (x5 + 1))), (0, .ref r), (1, .int (nI a)), (2, .int (nI b)), (3, .int x), (4, .int (nI o)), (6, .int (nI q))]) hx hb dX1_countNotMore_28 hl (k := 5) rfl (by first | exact nI_add x5 1 | (rw [← nI_add]; rfl)) (by decide) rfl (fun ls hl => ?_)
        refine lv_iinc (v := (nI (q + 1))) (lv' := [(6, .int (nI (q + 1))), (5, .int (nI (x5 + 1))), (0, .ref r), (1, .int (nI a)), (2, .int (nI b)), (3, .int x), (4, .int (nI o))]) hx hb dX1_countNotMore_31 hl (k := 6) rfl (by first | exact nI_add q 1 | (rw [← nI_add]; rfl)) (by decide) rfl (fun ls hl => ?_)
        refine lv_goto (tgt := 6) hx hb dX1_countNotMore_34 (by decide) ?_
        exact ihb ((x5 + 1), (q + 1)) (by show b - (q + 1) < b - q; omega) _ _ _ ⟨by omega, by omega, by rw [cn_st (P := fun j => ¬ mk o x < mk o (K j)) (by omega) (tr_0 hq c25), ← vb2], hP, hD, hS, lv_sub hl [2, 3, 4, 5, 6, 1, 0] rfl⟩
  · exact ⟨Nat.le_refl _, by omega, cn_s0, hP, hD, hS, lv_sub hl [2, 3, 4, 5, 6, 1, 0] rfl⟩
set_option maxHeartbeats 4000000 in
set_option maxRecDepth 100000 in
theorem c_X1_countSortedStretches (l : Launch) (dC : Nat → ClassId) (dI : Nat → Nat → Nat) (sz : Nat) (r k t : Nat) (cA cB : ClassId) (n : Nat) (cm wr : Int32) (K T : Nat → Int32) (hn : n ≤ 500) : Met l yX1_countSortedStretches wsX1_countSortedStretches ({ frames := 0, cells := 0, slots := 0, locals := 0 }) (va_Pc [.ref r] (fun U => U.heap.size = sz ∧ va_P (dC, dI) vwCl [(r, .inr (0, [.ref k, .ref t, .int (nI n), .int cm, .int wr])), (k, .inl (cA, 500, .inl K)), (t, .inl (cB, 500, .inl T))] U.heap ∧ va_K (dC, dI) vwCl [(cA, .int), (cB, .int)] U ∧ va_D (fun _ => True) [(r, .inr (0, [.ref k, .ref t, .int (nI n), .int cm, .int wr])), (k, .inl (cA, 500, .inl K)), (t, .inl (cB, 500, .inl T))])) (va_Qi (fun r u => r = nI (cn (fun j => j = 0 ∨ K j < K (j - 1)) 0 (n - 0)) ∧ u = (K, T, n, cm, wr)) (atR dC dI (va_A [(r, .inr (0, [.ref k, .ref t, .int (nI n), .int cm, .int wr])), (k, .inl (cA, 500, .inl K)), (t, .inl (cB, 500, .inl T))] sz) r k t cA cB) (va_A [(r, .inr (0, [.ref k, .ref t, .int (nI n), .int cm, .int wr])), (k, .inl (cA, 500, .inl K)), (t, .inl (cB, 500, .inl T))] sz)) 0 0 (va_A [(r, .inr (0, [.ref k, .ref t, .int (nI n), .int cm, .int wr])), (k, .inl (cA, 500, .inl K)), (t, .inl (cB, 500, .inl T))] sz) := by
  refine Met.ofW (cc := cX1_countSortedStretches) (maxL := 3) (ret := (some .int)) (by decide) rfl ?_
  intro p e s m args below meth c s₁ B hml hv
  obtain ⟨rfl, hsz, hP, hK, hD0⟩ := hv
  have hx := B.exec
  have hb := B.bytes
  have hr := B.returns
  have hts := atoms_spec (ws := wsX1_countSortedStretches) B.pre
  have hown : s.vm.findClass RX1 = some m.cls := findClass_of_methodNamed B.named
  have hlocks := B.notSynchronized
  subst hsz
  have hD := hD0.self (sz := s.heap.size)
  generalize hAe : va_A [(r, .inr (0, [.ref k, .ref t, .int (nI n), .int cm, .int wr])), (k, .inl (cA, 500, .inl K)), (t, .inl (cB, 500, .inl T))] s.heap.size = A at hD ⊢
  have hA : ∀ q : Nat, s.heap.size ≤ q → A q := fun q h => by rw [← hAe]; exact Or.inr h
  have hS : va_S A s.heap s.heap [] := va_S.rf
  have hP : va_P (dC, dI) vwCl [(r, .inr (0, [.ref k, .ref t, .int (nI n), .int cm, .int wr])), (k, .inl (cA, 500, .inl K)), (t, .inl (cB, 500, .inl T))] s.heap := hP
  have hl := lv_entry ([.ref r]) (n := 3) (Nat.le_of_ble_eq_true rfl)
  rw [lg_entry_eq]
  generalize (lg_sl ([.ref r]) ++ List.replicate (3 - (lg_sl ([.ref r])).length) Slot.unset).toArray = ls at hl ⊢
  have hl : lv_has ls 3 [(0, .ref r)] := hl
  refine lv_iconst (v := (nI 0)) hx hb dX1_countSortedStretches_0 (by decide) ?_
  refine lv_istore_n (lv' := [(1, .int (nI 0)), (0, .ref r)]) hx hb dX1_countSortedStretches_1 rfl hl (by decide) rfl (fun ls hl => ?_)
  refine lv_iconst (v := (nI 0)) hx hb dX1_countSortedStretches_2 (by decide) ?_
  refine lv_istore_n (lv' := [(2, .int (nI 0)), (1, .int (nI 0)), (0, .ref r)]) hx hb dX1_countSortedStretches_3 rfl hl (by decide) rfl (fun ls hl => ?_)
  refine lz_loop (σ := Nat × Nat) (μ := fun X_ => match X_ with | (x1, q) => n - q) (Inv := fun X_ H locs ls => match X_ with | (x1, q) => (q ≤ n) ∧ (x1 = cn (fun j => j = 0 ∨ K j < K (j - 1)) 0 (q - 0)) ∧ va_P (dC, dI) vwCl [(r, .inr (0, [.ref k, .ref t, .int (nI n), .int cm, .int wr])), (k, .inl (cA, 500, .inl K)), (t, .inl (cB, 500, .inl T))] H ∧ va_D A [(r, .inr (0, [.ref k, .ref t, .int (nI n), .int cm, .int wr])), (k, .inl (cA, 500, .inl K)), (t, .inl (cB, 500, .inl T))] ∧ va_S A s.heap H locs ∧ lv_has ls 3 [(0, .ref r), (1, .int (nI x1)), (2, .int (nI q))]) ?_ (0, 0) _ _ _ ?_
  · rintro ⟨x1, q⟩ ihc H locs ls ⟨vc0, vc1, hP, hD, hS, hl⟩
    refine lv_iload_n hx hb dX1_countSortedStretches_4 rfl (lv_at hl 2 rfl) ?_
    refine lv_aload_n hx hb dX1_countSortedStretches_5 rfl (lv_at hl 0 rfl) ?_
    refine va_get (D := (dC, dI)) (ci := 0) (v := .int (nI n)) (C := RX1) (T := TX1) (N := 5) hx hb hts (by decide +kernel) hown hK hP 0 rfl rfl 2 (by decide) (hts (.fieldLink RX1 16 "RowPress$Row" "size" "I") (by decide +kernel)) (fun _ h9 => h9) rfl dX1_countSortedStretches_6 ?_
    refine lz_icmp_ge (tgt := 42) (by omega) (by omega) hx hb dX1_countSortedStretches_9 (by decide) (fun c9 => ?_) (fun c9 => ?_)
    · refine lv_iload_n hx hb dX1_countSortedStretches_42 rfl (lv_at hl 1 rfl) ?_
      exact W.iret (v := (nI x1)) hx hb hr (fun tS ht hW => ⟨⟨(nI x1), (K, T, n, cm, wr), rfl, ⟨by rw [vc1, show q = n by omega], rfl⟩, by rw [ht]; exact hP, va_K.moved hW.alike hK, hD⟩, hS.F ht⟩) hS.2.2 dX1_countSortedStretches_43
    · refine lv_iload_n hx hb dX1_countSortedStretches_12 rfl (lv_at hl 2 rfl) ?_
      refine lz_if_eq (tgt := 33) (by omega) hx hb dX1_countSortedStretches_13 (by decide) (fun c13 => ?_) (fun c13 => ?_)
      · refine lv_iinc (v := (nI (x1 + 1))) (lv' := [(1, .int (nI (x1 + 1))), (0, .ref r), (2, .int (nI q))]) hx hb dX1_countSortedStretches_33 hl (k := 1) rfl (by first | exact nI_add x1 1 | (rw [← nI_add]; rfl)) (by decide) rfl (fun ls hl => ?_)
        refine lv_iinc (v := (nI (q + 1))) (lv' := [(2, .int (nI (q + 1))), (1, .int (nI (x1 + 1))), (0, .ref r)]) hx hb dX1_countSortedStretches_36 hl (k := 2) rfl (by first | exact nI_add q 1 | (rw [← nI_add]; rfl)) (by decide) rfl (fun ls hl => ?_)
        refine lv_goto (tgt := 4) hx hb dX1_countSortedStretches_39 (by decide) ?_
        exact ihc ((x1 + 1), (q + 1)) (by show n - (q + 1) < n - q; omega) _ _ _ ⟨by omega, by rw [cn_st (P := fun j => j = 0 ∨ K j < K (j - 1)) (by omega) (Or.inl c13), ← vc1], hP, hD, hS, lv_sub hl [2, 1, 0] rfl⟩
      · refine lv_aload_n hx hb dX1_countSortedStretches_16 rfl (lv_at hl 0 rfl) ?_
        refine va_get (D := (dC, dI)) (ci := 0) (v := .ref k) (C := RX1) (T := TX1) (N := 5) hx hb hts (by decide +kernel) hown hK hP 0 rfl rfl 0 (by decide) (hts (.fieldLink RX1 9 "RowPress$Row" "keys" "[I") (by decide +kernel)) (fun _ h9 => h9) rfl dX1_countSortedStretches_17 ?_
        refine lv_iload_n hx hb dX1_countSortedStretches_20 rfl (lv_at hl 2 rfl) ?_
        refine lz_iald hx hb hK hP 1 0 rfl rfl (j := q) (by omega) (by decide) dX1_countSortedStretches_21 ?_
        refine lv_aload_n hx hb dX1_countSortedStretches_22 rfl (lv_at hl 0 rfl) ?_
        refine va_get (D := (dC, dI)) (ci := 0) (v := .ref k) (C := RX1) (T := TX1) (N := 5) hx hb hts (by decide +kernel) hown hK hP 0 rfl rfl 0 (by decide) (hts (.fieldLink RX1 9 "RowPress$Row" "keys" "[I") (by decide +kernel)) (fun _ h9 => h9) rfl dX1_countSortedStretches_23 ?_
        refine lv_iload_n hx hb dX1_countSortedStretches_26 rfl (lv_at hl 2 rfl) ?_
        refine lv_iconst (v := (nI 1)) hx hb dX1_countSortedStretches_27 (by decide) ?_
        refine lv_isub hx hb dX1_countSortedStretches_28 ?_
        refine lz_top (y := (nI (q - 1))) (pk_sub (by omega)) ?_
        refine lz_iald hx hb hK hP 1 0 rfl rfl (j := q - 1) (by omega) (by decide) dX1_countSortedStretches_29 ?_
        refine lv_icmp_ge (tgt := 36) hx hb dX1_countSortedStretches_30 (by decide) (fun c30 => ?_) (fun c30 => ?_)
        · refine lv_iinc (v := (nI (q + 1))) (lv' := [(2, .int (nI (q + 1))), (0, .ref r), (1, .int (nI x1))]) hx hb dX1_countSortedStretches_36 hl (k := 2) rfl (by first | exact nI_add q 1 | (rw [← nI_add]; rfl)) (by decide) rfl (fun ls hl => ?_)
          refine lv_goto (tgt := 4) hx hb dX1_countSortedStretches_39 (by decide) ?_
          exact ihc (x1, (q + 1)) (by show n - (q + 1) < n - q; omega) _ _ _ ⟨by omega, by rw [cn_sf (P := fun j => j = 0 ∨ K j < K (j - 1)) (by omega) (fun z => z.elim c13 (fun z => ng_lt z c30))]; exact vc1, hP, hD, hS, lv_sub hl [1, 2, 0] rfl⟩
        · refine lv_iinc (v := (nI (x1 + 1))) (lv' := [(1, .int (nI (x1 + 1))), (0, .ref r), (2, .int (nI q))]) hx hb dX1_countSortedStretches_33 hl (k := 1) rfl (by first | exact nI_add x1 1 | (rw [← nI_add]; rfl)) (by decide) rfl (fun ls hl => ?_)
          refine lv_iinc (v := (nI (q + 1))) (lv' := [(2, .int (nI (q + 1))), (1, .int (nI (x1 + 1))), (0, .ref r)]) hx hb dX1_countSortedStretches_36 hl (k := 2) rfl (by first | exact nI_add q 1 | (rw [← nI_add]; rfl)) (by decide) rfl (fun ls hl => ?_)
          refine lv_goto (tgt := 4) hx hb dX1_countSortedStretches_39 (by decide) ?_
          exact ihc ((x1 + 1), (q + 1)) (by show n - (q + 1) < n - q; omega) _ _ _ ⟨by omega, by rw [cn_st (P := fun j => j = 0 ∨ K j < K (j - 1)) (by omega) (Or.inr (ng_le c30)), ← vc1], hP, hD, hS, lv_sub hl [2, 1, 0] rfl⟩
  · exact ⟨Nat.zero_le _, cn_s0, hP, hD, hS, lv_sub hl [2, 1, 0] rfl⟩
set_option maxHeartbeats 4000000 in
set_option maxRecDepth 100000 in
theorem c_X1_standsBefore (l : Launch) (dC : Nat → ClassId) (dI : Nat → Nat → Nat) (sz : Nat) (r k t : Nat) (cA cB : ClassId) (n : Nat) (cm wr : Int32) (K T : Nat → Int32) (i : Nat) (hi : i < 500) : Met l yX1_standsBefore wsX1_standsBefore ({ frames := 0, cells := 0, slots := 0, locals := 0 }) (va_Pc [.ref r, .int (nI i)] (fun U => U.heap.size = sz ∧ va_P (dC, dI) vwCl [(r, .inr (0, [.ref k, .ref t, .int (nI n), .int cm, .int wr])), (k, .inl (cA, 500, .inl K)), (t, .inl (cB, 500, .inl T))] U.heap ∧ va_K (dC, dI) vwCl [(cA, .int), (cB, .int)] U ∧ va_D (fun _ => True) [(r, .inr (0, [.ref k, .ref t, .int (nI n), .int cm, .int wr])), (k, .inl (cA, 500, .inl K)), (t, .inl (cB, 500, .inl T))])) (va_Qi (fun r u => tr r (∃ j, j < i ∧ K j = K i) ∧ u = (K, T, n, cm, wr)) (atR dC dI (va_A [(r, .inr (0, [.ref k, .ref t, .int (nI n), .int cm, .int wr])), (k, .inl (cA, 500, .inl K)), (t, .inl (cB, 500, .inl T))] sz) r k t cA cB) (va_A [(r, .inr (0, [.ref k, .ref t, .int (nI n), .int cm, .int wr])), (k, .inl (cA, 500, .inl K)), (t, .inl (cB, 500, .inl T))] sz)) 0 0 (va_A [(r, .inr (0, [.ref k, .ref t, .int (nI n), .int cm, .int wr])), (k, .inl (cA, 500, .inl K)), (t, .inl (cB, 500, .inl T))] sz) := by
  refine Met.ofW (cc := cX1_standsBefore) (maxL := 3) (ret := (some .boolean)) (by decide) rfl ?_
  intro p e s m args below meth c s₁ B hml hv
  obtain ⟨rfl, hsz, hP, hK, hD0⟩ := hv
  have hx := B.exec
  have hb := B.bytes
  have hr := B.returns
  have hts := atoms_spec (ws := wsX1_standsBefore) B.pre
  have hown : s.vm.findClass RX1 = some m.cls := findClass_of_methodNamed B.named
  have hlocks := B.notSynchronized
  subst hsz
  have hD := hD0.self (sz := s.heap.size)
  generalize hAe : va_A [(r, .inr (0, [.ref k, .ref t, .int (nI n), .int cm, .int wr])), (k, .inl (cA, 500, .inl K)), (t, .inl (cB, 500, .inl T))] s.heap.size = A at hD ⊢
  have hA : ∀ q : Nat, s.heap.size ≤ q → A q := fun q h => by rw [← hAe]; exact Or.inr h
  have hS : va_S A s.heap s.heap [] := va_S.rf
  have hP : va_P (dC, dI) vwCl [(r, .inr (0, [.ref k, .ref t, .int (nI n), .int cm, .int wr])), (k, .inl (cA, 500, .inl K)), (t, .inl (cB, 500, .inl T))] s.heap := hP
  have hl := lv_entry ([.ref r, .int (nI i)]) (n := 3) (Nat.le_of_ble_eq_true rfl)
  rw [lg_entry_eq]
  generalize (lg_sl ([.ref r, .int (nI i)]) ++ List.replicate (3 - (lg_sl ([.ref r, .int (nI i)])).length) Slot.unset).toArray = ls at hl ⊢
  have hl : lv_has ls 3 [(0, .ref r), (1, .int (nI i))] := hl
  refine lv_iconst (v := (nI 0)) hx hb dX1_standsBefore_0 (by decide) ?_
  refine lv_istore_n (lv' := [(2, .int (nI 0)), (0, .ref r), (1, .int (nI i))]) hx hb dX1_standsBefore_1 rfl hl (by decide) rfl (fun ls hl => ?_)
  refine lz_loop (σ := Nat) (μ := fun X_ => match X_ with | q => i - q) (Inv := fun X_ H locs ls => match X_ with | q => (q ≤ i) ∧ (∀ j, j < q → K j ≠ K i) ∧ va_P (dC, dI) vwCl [(r, .inr (0, [.ref k, .ref t, .int (nI n), .int cm, .int wr])), (k, .inl (cA, 500, .inl K)), (t, .inl (cB, 500, .inl T))] H ∧ va_D A [(r, .inr (0, [.ref k, .ref t, .int (nI n), .int cm, .int wr])), (k, .inl (cA, 500, .inl K)), (t, .inl (cB, 500, .inl T))] ∧ va_S A s.heap H locs ∧ lv_has ls 3 [(0, .ref r), (1, .int (nI i)), (2, .int (nI q))]) ?_ 0 _ _ _ ?_
  · rintro q ihd H locs ls ⟨vd0, vd1, hP, hD, hS, hl⟩
    refine lv_iload_n hx hb dX1_standsBefore_2 rfl (lv_at hl 2 rfl) ?_
    refine lv_iload_n hx hb dX1_standsBefore_3 rfl (lv_at hl 1 rfl) ?_
    refine lz_icmp_ge (tgt := 30) (by omega) (by omega) hx hb dX1_standsBefore_4 (by decide) (fun c4 => ?_) (fun c4 => ?_)
    · refine lv_iconst (v := (nI 0)) hx hb dX1_standsBefore_30 (by decide) ?_
      exact W.zret (v := (nI 0)) hx hb hr rfl (fun tS ht hW => ⟨⟨(nI 0), (K, T, n, cm, wr), rfl, ⟨tr_f (fun z => by obtain ⟨j, z1, z2⟩ := z; exact vd1 j (by omega) z2), rfl⟩, by rw [ht]; exact hP, va_K.moved hW.alike hK, hD⟩, hS.F ht⟩) hS.2.2 dX1_standsBefore_31
    · refine lv_aload_n hx hb dX1_standsBefore_7 rfl (lv_at hl 0 rfl) ?_
      refine va_get (D := (dC, dI)) (ci := 0) (v := .ref k) (C := RX1) (T := TX1) (N := 5) hx hb hts (by decide +kernel) hown hK hP 0 rfl rfl 0 (by decide) (hts (.fieldLink RX1 9 "RowPress$Row" "keys" "[I") (by decide +kernel)) (fun _ h9 => h9) rfl dX1_standsBefore_8 ?_
      refine lv_iload_n hx hb dX1_standsBefore_11 rfl (lv_at hl 2 rfl) ?_
      refine lz_iald hx hb hK hP 1 0 rfl rfl (j := q) (by omega) (by decide) dX1_standsBefore_12 ?_
      refine lv_aload_n hx hb dX1_standsBefore_13 rfl (lv_at hl 0 rfl) ?_
      refine va_get (D := (dC, dI)) (ci := 0) (v := .ref k) (C := RX1) (T := TX1) (N := 5) hx hb hts (by decide +kernel) hown hK hP 0 rfl rfl 0 (by decide) (hts (.fieldLink RX1 9 "RowPress$Row" "keys" "[I") (by decide +kernel)) (fun _ h9 => h9) rfl dX1_standsBefore_14 ?_
      refine lv_iload_n hx hb dX1_standsBefore_17 rfl (lv_at hl 1 rfl) ?_
      refine lz_iald hx hb hK hP 1 0 rfl rfl (j := i) (by omega) (by decide) dX1_standsBefore_18 ?_
      refine lv_icmp_ne (tgt := 24) hx hb dX1_standsBefore_19 (by decide) (fun c19 => ?_) (fun c19 => ?_)
      · refine lv_iinc (v := (nI (q + 1))) (lv' := [(2, .int (nI (q + 1))), (0, .ref r), (1, .int (nI i))]) hx hb dX1_standsBefore_24 hl (k := 2) rfl (by first | exact nI_add q 1 | (rw [← nI_add]; rfl)) (by decide) rfl (fun ls hl => ?_)
        refine lv_goto (tgt := 2) hx hb dX1_standsBefore_27 (by decide) ?_
        exact ihd (q + 1) (by show i - (q + 1) < i - q; omega) _ _ _ ⟨by omega, lt_s vd1 c19, hP, hD, hS, lv_sub hl [1, 2, 0] rfl⟩
      · refine lv_iconst (v := (nI 1)) hx hb dX1_standsBefore_22 (by decide) ?_
        exact W.zret (v := (nI 1)) hx hb hr rfl (fun tS ht hW => ⟨⟨(nI 1), (K, T, n, cm, wr), rfl, ⟨tr_t ⟨q, c4, c19⟩, rfl⟩, by rw [ht]; exact hP, va_K.moved hW.alike hK, hD⟩, hS.F ht⟩) hS.2.2 dX1_standsBefore_23
  · exact ⟨Nat.zero_le _, fun j h => absurd h (Nat.not_lt_zero j), hP, hD, hS, lv_sub hl [1, 2, 0] rfl⟩
set_option maxHeartbeats 4000000 in
set_option maxRecDepth 100000 in
theorem c_X1_countDifferentKeys (l : Launch) (dC : Nat → ClassId) (dI : Nat → Nat → Nat) (sz : Nat) (r k t : Nat) (cA cB : ClassId) (n : Nat) (cm wr : Int32) (K T : Nat → Int32) (hn : n ≤ 500) : Met l yX1_countDifferentKeys wsX1_countDifferentKeys ({ frames := 1, cells := 0, slots := 0, locals := 22 }) (va_Pc [.ref r] (fun U => U.heap.size = sz ∧ va_P (dC, dI) vwCl [(r, .inr (0, [.ref k, .ref t, .int (nI n), .int cm, .int wr])), (k, .inl (cA, 500, .inl K)), (t, .inl (cB, 500, .inl T))] U.heap ∧ va_K (dC, dI) vwCl [(cA, .int), (cB, .int)] U ∧ va_D (fun _ => True) [(r, .inr (0, [.ref k, .ref t, .int (nI n), .int cm, .int wr])), (k, .inl (cA, 500, .inl K)), (t, .inl (cB, 500, .inl T))])) (va_Qi (fun r u => r = nI (cn (fun j => ¬ ∃ i, i < j ∧ K i = K j) 0 (n - 0)) ∧ u = (K, T, n, cm, wr)) (atR dC dI (va_A [(r, .inr (0, [.ref k, .ref t, .int (nI n), .int cm, .int wr])), (k, .inl (cA, 500, .inl K)), (t, .inl (cB, 500, .inl T))] sz) r k t cA cB) (va_A [(r, .inr (0, [.ref k, .ref t, .int (nI n), .int cm, .int wr])), (k, .inl (cA, 500, .inl K)), (t, .inl (cB, 500, .inl T))] sz)) 0 0 (va_A [(r, .inr (0, [.ref k, .ref t, .int (nI n), .int cm, .int wr])), (k, .inl (cA, 500, .inl K)), (t, .inl (cB, 500, .inl T))] sz) := by
  refine Met.ofW (cc := cX1_countDifferentKeys) (maxL := 3) (ret := (some .int)) (by decide) rfl ?_
  intro p e s m args below meth c s₁ B hml hv
  obtain ⟨rfl, hsz, hP, hK, hD0⟩ := hv
  have hx := B.exec
  have hb := B.bytes
  have hr := B.returns
  have hts := atoms_spec (ws := wsX1_countDifferentKeys) B.pre
  have hown : s.vm.findClass RX1 = some m.cls := findClass_of_methodNamed B.named
  have hlocks := B.notSynchronized
  subst hsz
  have hD := hD0.self (sz := s.heap.size)
  generalize hAe : va_A [(r, .inr (0, [.ref k, .ref t, .int (nI n), .int cm, .int wr])), (k, .inl (cA, 500, .inl K)), (t, .inl (cB, 500, .inl T))] s.heap.size = A at hD ⊢
  have hA : ∀ q : Nat, s.heap.size ≤ q → A q := fun q h => by rw [← hAe]; exact Or.inr h
  have hS : va_S A s.heap s.heap [] := va_S.rf
  have hP : va_P (dC, dI) vwCl [(r, .inr (0, [.ref k, .ref t, .int (nI n), .int cm, .int wr])), (k, .inl (cA, 500, .inl K)), (t, .inl (cB, 500, .inl T))] s.heap := hP
  have hl := lv_entry ([.ref r]) (n := 3) (Nat.le_of_ble_eq_true rfl)
  rw [lg_entry_eq]
  generalize (lg_sl ([.ref r]) ++ List.replicate (3 - (lg_sl ([.ref r])).length) Slot.unset).toArray = ls at hl ⊢
  have hl : lv_has ls 3 [(0, .ref r)] := hl
  refine lv_iconst (v := (nI 0)) hx hb dX1_countDifferentKeys_0 (by decide) ?_
  refine lv_istore_n (lv' := [(1, .int (nI 0)), (0, .ref r)]) hx hb dX1_countDifferentKeys_1 rfl hl (by decide) rfl (fun ls hl => ?_)
  refine lv_iconst (v := (nI 0)) hx hb dX1_countDifferentKeys_2 (by decide) ?_
  refine lv_istore_n (lv' := [(2, .int (nI 0)), (1, .int (nI 0)), (0, .ref r)]) hx hb dX1_countDifferentKeys_3 rfl hl (by decide) rfl (fun ls hl => ?_)
  refine lz_loop (σ := Nat × Nat) (μ := fun X_ => match X_ with | (x1, q) => n - q) (Inv := fun X_ H locs ls => match X_ with | (x1, q) => (q ≤ n) ∧ (x1 = cn (fun j => ¬ ∃ i, i < j ∧ K i = K j) 0 (q - 0)) ∧ va_P (dC, dI) vwCl [(r, .inr (0, [.ref k, .ref t, .int (nI n), .int cm, .int wr])), (k, .inl (cA, 500, .inl K)), (t, .inl (cB, 500, .inl T))] H ∧ va_D A [(r, .inr (0, [.ref k, .ref t, .int (nI n), .int cm, .int wr])), (k, .inl (cA, 500, .inl K)), (t, .inl (cB, 500, .inl T))] ∧ va_S A s.heap H locs ∧ lv_has ls 3 [(0, .ref r), (1, .int (nI x1)), (2, .int (nI q))]) ?_ (0, 0) _ _ _ ?_
  · rintro ⟨x1, q⟩ ihe H locs ls ⟨ve0, ve1, hP, hD, hS, hl⟩
    refine lv_iload_n hx hb dX1_countDifferentKeys_4 rfl (lv_at hl 2 rfl) ?_
    refine lv_aload_n hx hb dX1_countDifferentKeys_5 rfl (lv_at hl 0 rfl) ?_
    refine va_get (D := (dC, dI)) (ci := 0) (v := .int (nI n)) (C := RX1) (T := TX1) (N := 5) hx hb hts (by decide +kernel) hown hK hP 0 rfl rfl 2 (by decide) (hts (.fieldLink RX1 16 "RowPress$Row" "size" "I") (by decide +kernel)) (fun _ h9 => h9) rfl dX1_countDifferentKeys_6 ?_
    refine lz_icmp_ge (tgt := 29) (by omega) (by omega) hx hb dX1_countDifferentKeys_9 (by decide) (fun c9 => ?_) (fun c9 => ?_)
    · refine lv_iload_n hx hb dX1_countDifferentKeys_29 rfl (lv_at hl 1 rfl) ?_
      exact W.iret (v := (nI x1)) hx hb hr (fun tS ht hW => ⟨⟨(nI x1), (K, T, n, cm, wr), rfl, ⟨by rw [ve1, show q = n by omega], rfl⟩, by rw [ht]; exact hP, va_K.moved hW.alike hK, hD⟩, hS.F ht⟩) hS.2.2 dX1_countDifferentKeys_30
    · refine lv_aload_n hx hb dX1_countDifferentKeys_12 rfl (lv_at hl 0 rfl) ?_
      refine lv_iload_n hx hb dX1_countDifferentKeys_13 rfl (lv_at hl 2 rfl) ?_
      have hPc := hP.sub (ws' := [(r, .inr (0, [.ref k, .ref t, .int (nI n), .int cm, .int wr])), (k, .inl (cA, 500, .inl K)), (t, .inl (cB, 500, .inl T))]) [0, 1, 2] rfl
      have hDc := hD.sub (ws' := [(r, .inr (0, [.ref k, .ref t, .int (nI n), .int cm, .int wr])), (k, .inl (cA, 500, .inl K)), (t, .inl (cB, 500, .inl T))]) [0, 1, 2] (by decide) rfl
      have hKc := hK.sub (tys' := [(cA, .int), (cB, .int)]) [0, 1] rfl
      have hFc := va_free (wc := [(r, .inr (0, [.ref k, .ref t, .int (nI n), .int cm, .int wr])), (k, .inl (cA, 500, .inl K)), (t, .inl (cB, 500, .inl T))]) hD hS hA [0, 1, 2] rfl
      refine va_calli (va_runV (As := [.int (nI q)]) (rest := []) ⟨hx, hb, hml, hown, hts⟩ (c_X1_standsBefore l dC dI H.size r k t cA cB n cm wr K T q (by omega)) (cwV 1 hts gX1_countDifferentKeys_X1_standsBefore rfl rfl rfl (by decide +kernel) ⟨Nat.le_of_ble_eq_true rfl, Nat.le_of_ble_eq_true rfl⟩) ⟨fun a U g mk q => by obtain ⟨q0, q1, qP, qK, qD⟩ := q; exact ⟨q0, q1, qP, va_K.moved (u := U) (U := U.calling g mk a) (Vm.Alike.refl U.vm) qK, qD⟩, va_recv hKc hPc (ci := 0) (q0 := 0) rfl rfl, fun U hU hW => ⟨rfl, by rw [hU], by rw [hU]; exact hPc, va_K.moved hW.alike hKc, hDc.weaken (fun _ _ _ _ => trivial)⟩⟩ rfl rfl hl.1 rfl (lv_room (Nat.le_of_ble_eq_true rfl)) dX1_countDifferentKeys_14 ⟨Nat.le_of_ble_eq_true rfl, Nat.le_of_ble_eq_true rfl⟩) hS (fun q _ h => hFc q h) hFc (fun r_1 u tS H1 locs ht hvm hw hB hz1 hk1 hS => ?_)
      obtain ⟨hq, rfl⟩ := hw
      obtain ⟨hP1, hK1, hD1⟩ := hB
      rw [ht] at hP1
      obtain ⟨hP, hD⟩ := va_join (wr := []) (w1 := [(r, .inr (0, [.ref k, .ref t, .int (nI n), .int cm, .int wr])), (k, .inl (cA, 500, .inl K)), (t, .inl (cB, 500, .inl T))]) hP hD [0, 1, 2] [] rfl rfl (by decide) (by decide) hk1 hFc hP1 hD1
      generalize H1 = H at hP hS ⊢
      have hP : va_P (dC, dI) vwCl [(r, .inr (0, [.ref k, .ref t, .int (nI n), .int cm, .int wr])), (k, .inl (cA, 500, .inl K)), (t, .inl (cB, 500, .inl T))] H := hP
      have hD : va_D A [(r, .inr (0, [.ref k, .ref t, .int (nI n), .int cm, .int wr])), (k, .inl (cA, 500, .inl K)), (t, .inl (cB, 500, .inl T))] := hD
      refine lv_if_ne (tgt := 23) hx hb dX1_countDifferentKeys_17 (by decide) (fun c17 => ?_) (fun c17 => ?_)
      · refine lv_iinc (v := (nI (q + 1))) (lv' := [(2, .int (nI (q + 1))), (0, .ref r), (1, .int (nI x1))]) hx hb dX1_countDifferentKeys_23 hl (k := 2) rfl (by first | exact nI_add q 1 | (rw [← nI_add]; rfl)) (by decide) rfl (fun ls hl => ?_)
        refine lv_goto (tgt := 4) hx hb dX1_countDifferentKeys_26 (by decide) ?_
        exact ihe (x1, (q + 1)) (by show n - (q + 1) < n - q; omega) _ _ _ ⟨by omega, by rw [cn_sf (P := fun j => ¬ ∃ i, i < j ∧ K i = K j) (by omega) (fun z => z (tr_1 hq c17))]; exact ve1, hP, hD, hS, lv_sub hl [1, 2, 0] rfl⟩
      · refine lv_iinc (v := (nI (x1 + 1))) (lv' := [(1, .int (nI (x1 + 1))), (0, .ref r), (2, .int (nI q))]) hx hb dX1_countDifferentKeys_20 hl (k := 1) rfl (by first | exact nI_add x1 1 | (rw [← nI_add]; rfl)) (by decide) rfl (fun ls hl => ?_)
        refine lv_iinc (v := (nI (q + 1))) (lv' := [(2, .int (nI (q + 1))), (1, .int (nI (x1 + 1))), (0, .ref r)]) hx hb dX1_countDifferentKeys_23 hl (k := 2) rfl (by first | exact nI_add q 1 | (rw [← nI_add]; rfl)) (by decide) rfl (fun ls hl => ?_)
        refine lv_goto (tgt := 4) hx hb dX1_countDifferentKeys_26 (by decide) ?_
        exact ihe ((x1 + 1), (q + 1)) (by show n - (q + 1) < n - q; omega) _ _ _ ⟨by omega, by rw [cn_st (P := fun j => ¬ ∃ i, i < j ∧ K i = K j) (by omega) (tr_0 hq c17), ← ve1], hP, hD, hS, lv_sub hl [2, 1, 0] rfl⟩
  · exact ⟨Nat.zero_le _, cn_s0, hP, hD, hS, lv_sub hl [2, 1, 0] rfl⟩
set_option maxHeartbeats 4000000 in
set_option maxRecDepth 100000 in
theorem c_X1_reverse (l : Launch) (dC : Nat → ClassId) (dI : Nat → Nat → Nat) (sz : Nat) (r k t : Nat) (cA cB : ClassId) (n : Nat) (cm wr : Int32) (K T : Nat → Int32) (a b : Nat) (hab : a ≤ b) (hb5 : b ≤ 500) : Met l yX1_reverse wsX1_reverse ({ frames := 1, cells := 0, slots := 0, locals := 24 }) (va_Pc [.ref r, .int (nI a), .int (nI b)] (fun U => U.heap.size = sz ∧ va_P (dC, dI) vwCl [(r, .inr (0, [.ref k, .ref t, .int (nI n), .int cm, .int wr])), (k, .inl (cA, 500, .inl K)), (t, .inl (cB, 500, .inl T))] U.heap ∧ va_K (dC, dI) vwCl [(cA, .int), (cB, .int)] U ∧ va_D (fun _ => True) [(r, .inr (0, [.ref k, .ref t, .int (nI n), .int cm, .int wr])), (k, .inl (cA, 500, .inl K)), (t, .inl (cB, 500, .inl T))])) (va_Qv (fun u => mZ u.1 u.2.1 = rv (mZ K T) a b ∧ n = u.2.2.1 ∧ cm = u.2.2.2.1 ∧ ∃ d, d ≤ b - a ∧ u.2.2.2.2 = wr + nI d) (atR dC dI (va_A [(r, .inr (0, [.ref k, .ref t, .int (nI n), .int cm, .int wr])), (k, .inl (cA, 500, .inl K)), (t, .inl (cB, 500, .inl T))] sz) r k t cA cB) (va_A [(r, .inr (0, [.ref k, .ref t, .int (nI n), .int cm, .int wr])), (k, .inl (cA, 500, .inl K)), (t, .inl (cB, 500, .inl T))] sz)) 0 0 (va_A [(r, .inr (0, [.ref k, .ref t, .int (nI n), .int cm, .int wr])), (k, .inl (cA, 500, .inl K)), (t, .inl (cB, 500, .inl T))] sz) := by
  refine Met.ofW (cc := cX1_reverse) (maxL := 5) (ret := none) (by decide) rfl ?_
  intro p e s m args below meth c s₁ B hml hv
  obtain ⟨rfl, hsz, hP, hK, hD0⟩ := hv
  have hx := B.exec
  have hb := B.bytes
  have hr := B.returns
  have hts := atoms_spec (ws := wsX1_reverse) B.pre
  have hown : s.vm.findClass RX1 = some m.cls := findClass_of_methodNamed B.named
  have hlocks := B.notSynchronized
  subst hsz
  have hD := hD0.self (sz := s.heap.size)
  generalize hAe : va_A [(r, .inr (0, [.ref k, .ref t, .int (nI n), .int cm, .int wr])), (k, .inl (cA, 500, .inl K)), (t, .inl (cB, 500, .inl T))] s.heap.size = A at hD ⊢
  have hA : ∀ q : Nat, s.heap.size ≤ q → A q := fun q h => by rw [← hAe]; exact Or.inr h
  have hS : va_S A s.heap s.heap [] := va_S.rf
  have hP : va_P (dC, dI) vwCl [(r, .inr (0, [.ref k, .ref t, .int (nI n), .int cm, .int wr])), (k, .inl (cA, 500, .inl K)), (t, .inl (cB, 500, .inl T))] s.heap := hP
  have hl := lv_entry ([.ref r, .int (nI a), .int (nI b)]) (n := 5) (Nat.le_of_ble_eq_true rfl)
  rw [lg_entry_eq]
  generalize (lg_sl ([.ref r, .int (nI a), .int (nI b)]) ++ List.replicate (5 - (lg_sl ([.ref r, .int (nI a), .int (nI b)])).length) Slot.unset).toArray = ls at hl ⊢
  have hl : lv_has ls 5 [(0, .ref r), (1, .int (nI a)), (2, .int (nI b))] := hl
  rcases Nat.eq_zero_or_pos b with rfl | hb0
  · obtain rfl : a = 0 := by omega
    refine lv_iload_n hx hb dX1_reverse_0 rfl (lv_at hl 1 rfl) ?_
    refine lv_istore_n (lv' := [(3, .int (nI 0)), (0, .ref r), (1, .int (nI 0)), (2, .int (nI 0))]) hx hb dX1_reverse_1 rfl hl (by decide) rfl (fun ls hl => ?_)
    refine lv_iload_n hx hb dX1_reverse_2 rfl (lv_at hl 3 rfl) ?_
    refine lv_iconst (v := (nI 1)) hx hb dX1_reverse_3 (by decide) ?_
    refine lv_isub hx hb dX1_reverse_4 ?_
    refine lv_istore (lv' := [(4, .int ((nI 0) - (nI 1))), (3, .int (nI 0)), (0, .ref r), (1, .int (nI 0)), (2, .int (nI 0))]) hx hb dX1_reverse_5 hl (by decide) rfl (fun ls hl => ?_)
    refine lv_iload_n hx hb dX1_reverse_7 rfl (lv_at hl 1 rfl) ?_
    refine lv_iload hx hb dX1_reverse_8 (lv_at hl 0 rfl) ?_
    refine lv_icmp_ge (tgt := 29) hx hb dX1_reverse_10 (by decide) (fun c10 => ?_) (fun c10 => ?_)
    · exact W.vret hx hb hr (fun tS ht hW => ⟨⟨(K, T, n, cm, wr), rfl, ⟨(rv_id (by omega)).symm, rfl, rfl, 0, by omega, ad0 wr⟩, by rw [ht]; exact hP, va_K.moved hW.alike hK, hD⟩, hS.F ht⟩) hS.2.2 dX1_reverse_29
    · exact absurd (by decide) c10
  · refine lv_iload_n hx hb dX1_reverse_0 rfl (lv_at hl 1 rfl) ?_
    refine lv_istore_n (lv' := [(3, .int (nI a)), (0, .ref r), (1, .int (nI a)), (2, .int (nI b))]) hx hb dX1_reverse_1 rfl hl (by decide) rfl (fun ls hl => ?_)
    refine lv_iload_n hx hb dX1_reverse_2 rfl (lv_at hl 3 rfl) ?_
    refine lv_iconst (v := (nI 1)) hx hb dX1_reverse_3 (by decide) ?_
    refine lv_isub hx hb dX1_reverse_4 ?_
    refine lz_top (y := (nI (b - 1))) (pk_sub (by omega)) ?_
    refine lv_istore (lv' := [(4, .int (nI (b - 1))), (3, .int (nI a)), (0, .ref r), (1, .int (nI a)), (2, .int (nI b))]) hx hb dX1_reverse_5 hl (by decide) rfl (fun ls hl => ?_)
    refine lz_loop (σ := Nat × Nat × (Nat → Int32) × (Nat → Int32) × Int32) (μ := fun X_ => match X_ with | (lo, hi, K1, T1, w1) => b - lo) (Inv := fun X_ H locs ls => match X_ with | (lo, hi, K1, T1, w1) => (a ≤ lo) ∧ (lo ≤ b) ∧ (lo + hi + 1 = a + b) ∧ (2 * lo ≤ a + b) ∧ (rvI (mZ K T) (mZ K1 T1) a b lo hi) ∧ (w1 = wr + nI (2 * (lo - a))) ∧ va_P (dC, dI) vwCl [(r, .inr (0, [.ref k, .ref t, .int (nI n), .int cm, .int w1])), (k, .inl (cA, 500, .inl K1)), (t, .inl (cB, 500, .inl T1))] H ∧ va_D A [(r, .inr (0, [.ref k, .ref t, .int (nI n), .int cm, .int w1])), (k, .inl (cA, 500, .inl K1)), (t, .inl (cB, 500, .inl T1))] ∧ va_S A s.heap H locs ∧ lv_has ls 5 [(0, .ref r), (1, .int (nI a)), (2, .int (nI b)), (3, .int (nI lo)), (4, .int (nI hi))]) ?_ (a, (b - 1), K, T, wr) _ _ _ ?_
    · rintro ⟨lo, hi, K1, T1, w1⟩ ihf H locs ls ⟨vf0, vf1, vf2, vf3, vf4, vf5, hP, hD, hS, hl⟩
      refine lv_iload_n hx hb dX1_reverse_7 rfl (lv_at hl 3 rfl) ?_
      refine lv_iload hx hb dX1_reverse_8 (lv_at hl 4 rfl) ?_
      refine lz_icmp_ge (tgt := 29) (by omega) (by omega) hx hb dX1_reverse_10 (by decide) (fun c10 => ?_) (fun c10 => ?_)
      · exact W.vret hx hb hr (fun tS ht hW => ⟨⟨(K1, T1, n, cm, w1), rfl, ⟨rvI_end vf4 (by omega) (by omega) (by omega) (by omega), rfl, rfl, 2 * (lo - a), by omega, vf5⟩, by rw [ht]; exact hP, va_K.moved hW.alike hK, hD⟩, hS.F ht⟩) hS.2.2 dX1_reverse_29
      · refine lv_aload_n hx hb dX1_reverse_13 rfl (lv_at hl 0 rfl) ?_
        refine lv_iload_n hx hb dX1_reverse_14 rfl (lv_at hl 3 rfl) ?_
        refine lv_iload hx hb dX1_reverse_15 (lv_at hl 4 rfl) ?_
        have hPc := hP.sub (ws' := [(r, .inr (0, [.ref k, .ref t, .int (nI n), .int cm, .int w1])), (k, .inl (cA, 500, .inl K1)), (t, .inl (cB, 500, .inl T1))]) [0, 1, 2] rfl
        have hDc := hD.sub (ws' := [(r, .inr (0, [.ref k, .ref t, .int (nI n), .int cm, .int w1])), (k, .inl (cA, 500, .inl K1)), (t, .inl (cB, 500, .inl T1))]) [0, 1, 2] (by decide) rfl
        have hKc := hK.sub (tys' := [(cA, .int), (cB, .int)]) [0, 1] rfl
        have hFc := va_free (wc := [(r, .inr (0, [.ref k, .ref t, .int (nI n), .int cm, .int w1])), (k, .inl (cA, 500, .inl K1)), (t, .inl (cB, 500, .inl T1))]) hD hS hA [0, 1, 2] rfl
        refine va_callv (va_runV (As := [.int (nI lo), .int (nI hi)]) (rest := []) ⟨hx, hb, hml, hown, hts⟩ (c_X1_swapPairs l dC dI H.size r k t cA cB n cm w1 K1 T1 lo hi (by omega) (by omega)) (cwV 2 hts gX1_reverse_X1_swapPairs rfl rfl rfl (by decide +kernel) ⟨Nat.le_of_ble_eq_true rfl, Nat.le_of_ble_eq_true rfl⟩) ⟨fun a U g mk q => by obtain ⟨q0, q1, qP, qK, qD⟩ := q; exact ⟨q0, q1, qP, va_K.moved (u := U) (U := U.calling g mk a) (Vm.Alike.refl U.vm) qK, qD⟩, va_recv hKc hPc (ci := 0) (q0 := 0) rfl rfl, fun U hU hW => ⟨rfl, by rw [hU], by rw [hU]; exact hPc, va_K.moved hW.alike hKc, hDc.weaken (fun _ _ _ _ => trivial)⟩⟩ rfl rfl hl.1 rfl (lv_room (Nat.le_of_ble_eq_true rfl)) dX1_reverse_17 ⟨Nat.le_of_ble_eq_true rfl, Nat.le_of_ble_eq_true rfl⟩) hS (fun q _ h => hFc q h) hFc (fun u tS H1 locs ht hvm hw hB hz1 hk1 hS => ?_)
        subst hw
        obtain ⟨hP1, hK1, hD1⟩ := hB
        rw [ht] at hP1
        obtain ⟨hP, hD⟩ := va_join (wr := []) (w1 := [(r, .inr (0, [.ref k, .ref t, .int (nI n), .int cm, .int (w1 + nI 2)])), (k, .inl (cA, 500, .inl (upd (upd K1 lo (K1 hi)) hi (K1 lo)))), (t, .inl (cB, 500, .inl (upd (upd T1 lo (T1 hi)) hi (T1 lo))))]) hP hD [0, 1, 2] [] rfl rfl (by decide) (by decide) hk1 hFc hP1 hD1
        generalize H1 = H at hP hS ⊢
        have hP : va_P (dC, dI) vwCl [(r, .inr (0, [.ref k, .ref t, .int (nI n), .int cm, .int (w1 + nI 2)])), (k, .inl (cA, 500, .inl (upd (upd K1 lo (K1 hi)) hi (K1 lo)))), (t, .inl (cB, 500, .inl (upd (upd T1 lo (T1 hi)) hi (T1 lo))))] H := hP
        have hD : va_D A [(r, .inr (0, [.ref k, .ref t, .int (nI n), .int cm, .int (w1 + nI 2)])), (k, .inl (cA, 500, .inl (upd (upd K1 lo (K1 hi)) hi (K1 lo)))), (t, .inl (cB, 500, .inl (upd (upd T1 lo (T1 hi)) hi (T1 lo))))] := hD
        refine lv_iinc (v := (nI (lo + 1))) (lv' := [(3, .int (nI (lo + 1))), (0, .ref r), (1, .int (nI a)), (2, .int (nI b)), (4, .int (nI hi))]) hx hb dX1_reverse_20 hl (k := 3) rfl (by first | exact nI_add lo 1 | (rw [← nI_add]; rfl)) (by decide) rfl (fun ls hl => ?_)
        refine lv_iinc (v := (nI (hi - 1))) (lv' := [(4, .int (nI (hi - 1))), (3, .int (nI (lo + 1))), (0, .ref r), (1, .int (nI a)), (2, .int (nI b))]) hx hb dX1_reverse_23 hl (k := 4) rfl (by rw [show Int32.ofInt (-1) = -1 from by decide]; exact sb_m1 (by omega)) (by decide) rfl (fun ls hl => ?_)
        refine lv_goto (tgt := 7) hx hb dX1_reverse_26 (by decide) ?_
        exact ihf ((lo + 1), (hi - 1), (upd (upd K1 lo (K1 hi)) hi (K1 lo)), (upd (upd T1 lo (T1 hi)) hi (T1 lo)), (w1 + nI 2)) (by show b - (lo + 1) < b - lo; omega) _ _ _ ⟨by omega, by omega, by omega, by omega, rvI_step vf4 (by omega) (by omega) (by omega) (mZ_swap K1 T1 lo hi), by rw [ad1 vf5 2, show 2 * (lo - a) + 2 = 2 * (lo + 1 - a) by omega], hP, hD, hS, lv_sub hl [2, 3, 4, 1, 0] rfl⟩
    · exact ⟨Nat.le_refl _, by omega, by omega, by omega, rvI_0, by rw [Nat.sub_self]; exact ad0 wr, hP, hD, hS, lv_sub hl [2, 3, 4, 1, 0] rfl⟩
set_option maxHeartbeats 4000000 in
set_option maxRecDepth 100000 in
theorem c_X1_swapBlocks (l : Launch) (dC : Nat → ClassId) (dI : Nat → Nat → Nat) (sz : Nat) (r k t : Nat) (cA cB : ClassId) (n : Nat) (cm wr : Int32) (K T : Nat → Int32) (a d b : Nat) (had : a ≤ d) (hdb : d ≤ b) (hb5 : b ≤ 500) : Met l yX1_swapBlocks wsX1_swapBlocks ({ frames := 2, cells := 0, slots := 0, locals := 48 }) (va_Pc [.ref r, .int (nI a), .int (nI d), .int (nI b)] (fun U => U.heap.size = sz ∧ va_P (dC, dI) vwCl [(r, .inr (0, [.ref k, .ref t, .int (nI n), .int cm, .int wr])), (k, .inl (cA, 500, .inl K)), (t, .inl (cB, 500, .inl T))] U.heap ∧ va_K (dC, dI) vwCl [(cA, .int), (cB, .int)] U ∧ va_D (fun _ => True) [(r, .inr (0, [.ref k, .ref t, .int (nI n), .int cm, .int wr])), (k, .inl (cA, 500, .inl K)), (t, .inl (cB, 500, .inl T))])) (va_Qv (fun u => mZ u.1 u.2.1 = ro (mZ K T) a d b ∧ n = u.2.2.1 ∧ cm = u.2.2.2.1 ∧ ∃ w, w ≤ 2 * (b - a) ∧ u.2.2.2.2 = wr + nI w) (atR dC dI (va_A [(r, .inr (0, [.ref k, .ref t, .int (nI n), .int cm, .int wr])), (k, .inl (cA, 500, .inl K)), (t, .inl (cB, 500, .inl T))] sz) r k t cA cB) (va_A [(r, .inr (0, [.ref k, .ref t, .int (nI n), .int cm, .int wr])), (k, .inl (cA, 500, .inl K)), (t, .inl (cB, 500, .inl T))] sz)) 0 0 (va_A [(r, .inr (0, [.ref k, .ref t, .int (nI n), .int cm, .int wr])), (k, .inl (cA, 500, .inl K)), (t, .inl (cB, 500, .inl T))] sz) := by
  refine Met.ofW (cc := cX1_swapBlocks) (maxL := 4) (ret := none) (by decide) rfl ?_
  intro p e s m args below meth c s₁ B hml hv
  obtain ⟨rfl, hsz, hP, hK, hD0⟩ := hv
  have hx := B.exec
  have hb := B.bytes
  have hr := B.returns
  have hts := atoms_spec (ws := wsX1_swapBlocks) B.pre
  have hown : s.vm.findClass RX1 = some m.cls := findClass_of_methodNamed B.named
  have hlocks := B.notSynchronized
  subst hsz
  have hD := hD0.self (sz := s.heap.size)
  generalize hAe : va_A [(r, .inr (0, [.ref k, .ref t, .int (nI n), .int cm, .int wr])), (k, .inl (cA, 500, .inl K)), (t, .inl (cB, 500, .inl T))] s.heap.size = A at hD ⊢
  have hA : ∀ q : Nat, s.heap.size ≤ q → A q := fun q h => by rw [← hAe]; exact Or.inr h
  have hS : va_S A s.heap s.heap [] := va_S.rf
  have hP : va_P (dC, dI) vwCl [(r, .inr (0, [.ref k, .ref t, .int (nI n), .int cm, .int wr])), (k, .inl (cA, 500, .inl K)), (t, .inl (cB, 500, .inl T))] s.heap := hP
  have hl := lv_entry ([.ref r, .int (nI a), .int (nI d), .int (nI b)]) (n := 4) (Nat.le_of_ble_eq_true rfl)
  rw [lg_entry_eq]
  generalize (lg_sl ([.ref r, .int (nI a), .int (nI d), .int (nI b)]) ++ List.replicate (4 - (lg_sl ([.ref r, .int (nI a), .int (nI d), .int (nI b)])).length) Slot.unset).toArray = ls at hl ⊢
  have hl : lv_has ls 4 [(0, .ref r), (1, .int (nI a)), (2, .int (nI d)), (3, .int (nI b))] := hl
  refine lv_iload_n hx hb dX1_swapBlocks_0 rfl (lv_at hl 1 rfl) ?_
  refine lv_iload_n hx hb dX1_swapBlocks_1 rfl (lv_at hl 2 rfl) ?_
  refine lz_icmp_ge (tgt := 10) (by omega) (by omega) hx hb dX1_swapBlocks_2 (by decide) (fun c2 => ?_) (fun c2 => ?_)
  · exact W.vret hx hb hr (fun tS ht hW => ⟨⟨(K, T, n, cm, wr), rfl, ⟨(ro_id had hdb (by omega)).symm, rfl, rfl, 0, by omega, ad0 wr⟩, by rw [ht]; exact hP, va_K.moved hW.alike hK, hD⟩, hS.F ht⟩) hS.2.2 dX1_swapBlocks_10
  · refine lv_iload_n hx hb dX1_swapBlocks_5 rfl (lv_at hl 2 rfl) ?_
    refine lv_iload_n hx hb dX1_swapBlocks_6 rfl (lv_at hl 3 rfl) ?_
    refine lz_icmp_lt (tgt := 11) (by omega) (by omega) hx hb dX1_swapBlocks_7 (by decide) (fun c7 => ?_) (fun c7 => ?_)
    · refine lv_aload_n hx hb dX1_swapBlocks_11 rfl (lv_at hl 0 rfl) ?_
      refine lv_iload_n hx hb dX1_swapBlocks_12 rfl (lv_at hl 1 rfl) ?_
      refine lv_iload_n hx hb dX1_swapBlocks_13 rfl (lv_at hl 2 rfl) ?_
      have hPc := hP.sub (ws' := [(r, .inr (0, [.ref k, .ref t, .int (nI n), .int cm, .int wr])), (k, .inl (cA, 500, .inl K)), (t, .inl (cB, 500, .inl T))]) [0, 1, 2] rfl
      have hDc := hD.sub (ws' := [(r, .inr (0, [.ref k, .ref t, .int (nI n), .int cm, .int wr])), (k, .inl (cA, 500, .inl K)), (t, .inl (cB, 500, .inl T))]) [0, 1, 2] (by decide) rfl
      have hKc := hK.sub (tys' := [(cA, .int), (cB, .int)]) [0, 1] rfl
      have hFc := va_free (wc := [(r, .inr (0, [.ref k, .ref t, .int (nI n), .int cm, .int wr])), (k, .inl (cA, 500, .inl K)), (t, .inl (cB, 500, .inl T))]) hD hS hA [0, 1, 2] rfl
      refine va_callv (va_runV (As := [.int (nI a), .int (nI d)]) (rest := []) ⟨hx, hb, hml, hown, hts⟩ (c_X1_reverse l dC dI s.heap.size r k t cA cB n cm wr K T a d (by omega) (by omega)) (cwV 2 hts gX1_swapBlocks_X1_reverse rfl rfl rfl (by decide +kernel) ⟨Nat.le_of_ble_eq_true rfl, Nat.le_of_ble_eq_true rfl⟩) ⟨fun a U g mk q => by obtain ⟨q0, q1, qP, qK, qD⟩ := q; exact ⟨q0, q1, qP, va_K.moved (u := U) (U := U.calling g mk a) (Vm.Alike.refl U.vm) qK, qD⟩, va_recv hKc hPc (ci := 0) (q0 := 0) rfl rfl, fun U hU hW => ⟨rfl, by rw [hU], by rw [hU]; exact hPc, va_K.moved hW.alike hKc, hDc.weaken (fun _ _ _ _ => trivial)⟩⟩ rfl rfl hl.1 rfl (lv_room (Nat.le_of_ble_eq_true rfl)) dX1_swapBlocks_14 ⟨Nat.le_of_ble_eq_true rfl, Nat.le_of_ble_eq_true rfl⟩) hS (fun q _ h => hFc q h) hFc (fun u tS H1 locs ht hvm hw hB hz1 hk1 hS => ?_)
      obtain ⟨K1, T1, n1, c1, w1⟩ := u
      obtain ⟨hm1, hn1, hc1, d1, hd1, hw1⟩ := hw
      dsimp only at hm1 hn1 hc1 hw1
      subst hn1; subst hc1; subst hw1
      obtain ⟨hP1, hK1, hD1⟩ := hB
      rw [ht] at hP1
      obtain ⟨hP, hD⟩ := va_join (wr := []) (w1 := [(r, .inr (0, [.ref k, .ref t, .int (nI n), .int cm, .int (wr + nI d1)])), (k, .inl (cA, 500, .inl K1)), (t, .inl (cB, 500, .inl T1))]) hP hD [0, 1, 2] [] rfl rfl (by decide) (by decide) hk1 hFc hP1 hD1
      generalize H1 = H at hP hS ⊢
      have hP : va_P (dC, dI) vwCl [(r, .inr (0, [.ref k, .ref t, .int (nI n), .int cm, .int (wr + nI d1)])), (k, .inl (cA, 500, .inl K1)), (t, .inl (cB, 500, .inl T1))] H := hP
      have hD : va_D A [(r, .inr (0, [.ref k, .ref t, .int (nI n), .int cm, .int (wr + nI d1)])), (k, .inl (cA, 500, .inl K1)), (t, .inl (cB, 500, .inl T1))] := hD
      refine lv_aload_n hx hb dX1_swapBlocks_17 rfl (lv_at hl 0 rfl) ?_
      refine lv_iload_n hx hb dX1_swapBlocks_18 rfl (lv_at hl 2 rfl) ?_
      refine lv_iload_n hx hb dX1_swapBlocks_19 rfl (lv_at hl 3 rfl) ?_
      have hPc := hP.sub (ws' := [(r, .inr (0, [.ref k, .ref t, .int (nI n), .int cm, .int (wr + nI d1)])), (k, .inl (cA, 500, .inl K1)), (t, .inl (cB, 500, .inl T1))]) [0, 1, 2] rfl
      have hDc := hD.sub (ws' := [(r, .inr (0, [.ref k, .ref t, .int (nI n), .int cm, .int (wr + nI d1)])), (k, .inl (cA, 500, .inl K1)), (t, .inl (cB, 500, .inl T1))]) [0, 1, 2] (by decide) rfl
      have hKc := hK.sub (tys' := [(cA, .int), (cB, .int)]) [0, 1] rfl
      have hFc := va_free (wc := [(r, .inr (0, [.ref k, .ref t, .int (nI n), .int cm, .int (wr + nI d1)])), (k, .inl (cA, 500, .inl K1)), (t, .inl (cB, 500, .inl T1))]) hD hS hA [0, 1, 2] rfl
      refine va_callv (va_runV (As := [.int (nI d), .int (nI b)]) (rest := []) ⟨hx, hb, hml, hown, hts⟩ (c_X1_reverse l dC dI H.size r k t cA cB n cm (wr + nI d1) K1 T1 d b (by omega) (by omega)) (cwV 2 hts gX1_swapBlocks_X1_reverse rfl rfl rfl (by decide +kernel) ⟨Nat.le_of_ble_eq_true rfl, Nat.le_of_ble_eq_true rfl⟩) ⟨fun a U g mk q => by obtain ⟨q0, q1, qP, qK, qD⟩ := q; exact ⟨q0, q1, qP, va_K.moved (u := U) (U := U.calling g mk a) (Vm.Alike.refl U.vm) qK, qD⟩, va_recv hKc hPc (ci := 0) (q0 := 0) rfl rfl, fun U hU hW => ⟨rfl, by rw [hU], by rw [hU]; exact hPc, va_K.moved hW.alike hKc, hDc.weaken (fun _ _ _ _ => trivial)⟩⟩ rfl rfl hl.1 rfl (lv_room (Nat.le_of_ble_eq_true rfl)) dX1_swapBlocks_20 ⟨Nat.le_of_ble_eq_true rfl, Nat.le_of_ble_eq_true rfl⟩) hS (fun q _ h => hFc q h) hFc (fun u tS H1 locs ht hvm hw hB hz1 hk1 hS => ?_)
      obtain ⟨K2, T2, n2, c2, w2⟩ := u
      obtain ⟨hm2, hn2, hc2, d2, hd2, hw2⟩ := hw
      dsimp only at hm2 hn2 hc2 hw2
      subst hn2; subst hc2; subst hw2
      obtain ⟨hP1, hK1, hD1⟩ := hB
      rw [ht] at hP1
      obtain ⟨hP, hD⟩ := va_join (wr := []) (w1 := [(r, .inr (0, [.ref k, .ref t, .int (nI n), .int cm, .int ((wr + nI d1) + nI d2)])), (k, .inl (cA, 500, .inl K2)), (t, .inl (cB, 500, .inl T2))]) hP hD [0, 1, 2] [] rfl rfl (by decide) (by decide) hk1 hFc hP1 hD1
      generalize H1 = H at hP hS ⊢
      have hP : va_P (dC, dI) vwCl [(r, .inr (0, [.ref k, .ref t, .int (nI n), .int cm, .int ((wr + nI d1) + nI d2)])), (k, .inl (cA, 500, .inl K2)), (t, .inl (cB, 500, .inl T2))] H := hP
      have hD : va_D A [(r, .inr (0, [.ref k, .ref t, .int (nI n), .int cm, .int ((wr + nI d1) + nI d2)])), (k, .inl (cA, 500, .inl K2)), (t, .inl (cB, 500, .inl T2))] := hD
      refine lv_aload_n hx hb dX1_swapBlocks_23 rfl (lv_at hl 0 rfl) ?_
      refine lv_iload_n hx hb dX1_swapBlocks_24 rfl (lv_at hl 1 rfl) ?_
      refine lv_iload_n hx hb dX1_swapBlocks_25 rfl (lv_at hl 3 rfl) ?_
      have hPc := hP.sub (ws' := [(r, .inr (0, [.ref k, .ref t, .int (nI n), .int cm, .int ((wr + nI d1) + nI d2)])), (k, .inl (cA, 500, .inl K2)), (t, .inl (cB, 500, .inl T2))]) [0, 1, 2] rfl
      have hDc := hD.sub (ws' := [(r, .inr (0, [.ref k, .ref t, .int (nI n), .int cm, .int ((wr + nI d1) + nI d2)])), (k, .inl (cA, 500, .inl K2)), (t, .inl (cB, 500, .inl T2))]) [0, 1, 2] (by decide) rfl
      have hKc := hK.sub (tys' := [(cA, .int), (cB, .int)]) [0, 1] rfl
      have hFc := va_free (wc := [(r, .inr (0, [.ref k, .ref t, .int (nI n), .int cm, .int ((wr + nI d1) + nI d2)])), (k, .inl (cA, 500, .inl K2)), (t, .inl (cB, 500, .inl T2))]) hD hS hA [0, 1, 2] rfl
      refine va_callv (va_runV (As := [.int (nI a), .int (nI b)]) (rest := []) ⟨hx, hb, hml, hown, hts⟩ (c_X1_reverse l dC dI H.size r k t cA cB n cm ((wr + nI d1) + nI d2) K2 T2 a b (by omega) (by omega)) (cwV 2 hts gX1_swapBlocks_X1_reverse rfl rfl rfl (by decide +kernel) ⟨Nat.le_of_ble_eq_true rfl, Nat.le_of_ble_eq_true rfl⟩) ⟨fun a U g mk q => by obtain ⟨q0, q1, qP, qK, qD⟩ := q; exact ⟨q0, q1, qP, va_K.moved (u := U) (U := U.calling g mk a) (Vm.Alike.refl U.vm) qK, qD⟩, va_recv hKc hPc (ci := 0) (q0 := 0) rfl rfl, fun U hU hW => ⟨rfl, by rw [hU], by rw [hU]; exact hPc, va_K.moved hW.alike hKc, hDc.weaken (fun _ _ _ _ => trivial)⟩⟩ rfl rfl hl.1 rfl (lv_room (Nat.le_of_ble_eq_true rfl)) dX1_swapBlocks_26 ⟨Nat.le_of_ble_eq_true rfl, Nat.le_of_ble_eq_true rfl⟩) hS (fun q _ h => hFc q h) hFc (fun u tS H1 locs ht hvm hw hB hz1 hk1 hS => ?_)
      obtain ⟨K3, T3, n3, c3, w3⟩ := u
      obtain ⟨hm3, hn3, hc3, d3, hd3, hw3⟩ := hw
      dsimp only at hm3 hn3 hc3 hw3
      subst hn3; subst hc3; subst hw3
      obtain ⟨hP1, hK1, hD1⟩ := hB
      rw [ht] at hP1
      obtain ⟨hP, hD⟩ := va_join (wr := []) (w1 := [(r, .inr (0, [.ref k, .ref t, .int (nI n), .int cm, .int (((wr + nI d1) + nI d2) + nI d3)])), (k, .inl (cA, 500, .inl K3)), (t, .inl (cB, 500, .inl T3))]) hP hD [0, 1, 2] [] rfl rfl (by decide) (by decide) hk1 hFc hP1 hD1
      generalize H1 = H at hP hS ⊢
      have hP : va_P (dC, dI) vwCl [(r, .inr (0, [.ref k, .ref t, .int (nI n), .int cm, .int (((wr + nI d1) + nI d2) + nI d3)])), (k, .inl (cA, 500, .inl K3)), (t, .inl (cB, 500, .inl T3))] H := hP
      have hD : va_D A [(r, .inr (0, [.ref k, .ref t, .int (nI n), .int cm, .int (((wr + nI d1) + nI d2) + nI d3)])), (k, .inl (cA, 500, .inl K3)), (t, .inl (cB, 500, .inl T3))] := hD
      exact W.vret hx hb hr (fun tS ht hW => ⟨⟨(K3, T3, n, cm, (((wr + nI d1) + nI d2) + nI d3)), rfl, ⟨by rw [hm3, hm2, hm1, ro_rv had hdb], rfl, rfl, d1 + d2 + d3, by omega, ad1 (ad1 rfl d2) d3⟩, by rw [ht]; exact hP, va_K.moved hW.alike hK, hD⟩, hS.F ht⟩) hS.2.2 dX1_swapBlocks_29
    · exact W.vret hx hb hr (fun tS ht hW => ⟨⟨(K, T, n, cm, wr), rfl, ⟨(ro_id had hdb (by omega)).symm, rfl, rfl, 0, by omega, ad0 wr⟩, by rw [ht]; exact hP, va_K.moved hW.alike hK, hD⟩, hS.F ht⟩) hS.2.2 dX1_swapBlocks_10
end
section
set_option maxHeartbeats 4000000 in
set_option maxRecDepth 100000 in
theorem c_X1_startOfBlocks (l : Launch) (dC : Nat → ClassId) (dI : Nat → Nat → Nat) (sz : Nat) (r k t : Nat) (cA cB : ClassId) (n : Nat) (cm wr : Int32) (K T : Nat → Int32) (a d b o kk : Nat) (had : a < d) (hdb : d < b) (hb5 : b ≤ 500) (ho : o < 4) (hk : b - a ≤ 2 ^ kk) : Met l yX1_startOfBlocks wsX1_startOfBlocks ({ frames := 2, cells := 0, slots := 0, locals := 45 }) (va_Pc [.ref r, .int (nI a), .int (nI d), .int (nI b), .int (nI o)] (fun U => U.heap.size = sz ∧ va_P (dC, dI) vwCl [(r, .inr (0, [.ref k, .ref t, .int (nI n), .int cm, .int wr])), (k, .inl (cA, 500, .inl K)), (t, .inl (cB, 500, .inl T))] U.heap ∧ va_K (dC, dI) vwCl [(cA, .int), (cB, .int)] U ∧ va_D (fun _ => True) [(r, .inr (0, [.ref k, .ref t, .int (nI n), .int cm, .int wr])), (k, .inl (cA, 500, .inl K)), (t, .inl (cB, 500, .inl T))])) (va_Qi (fun r u => ∃ q g, r = nI q ∧ u = (K, T, n, cm + nI g, wr) ∧ g ≤ kk ∧ a ≤ q ∧ q ≤ d ∧ d ≤ (a + b) / 2 + d - q ∧ (a + b) / 2 + d - q ≤ b ∧ (q < d → d < (a + b) / 2 + d - q → mk o (K ((a + b) / 2 + d - q - 1)) < mk o (K q)) ∧ (a < q → (a + b) / 2 + d - q < b → mk o (K (q - 1)) ≤ mk o (K ((a + b) / 2 + d - q)))) (atR dC dI (va_A [(r, .inr (0, [.ref k, .ref t, .int (nI n), .int cm, .int wr])), (k, .inl (cA, 500, .inl K)), (t, .inl (cB, 500, .inl T))] sz) r k t cA cB) (va_A [(r, .inr (0, [.ref k, .ref t, .int (nI n), .int cm, .int wr])), (k, .inl (cA, 500, .inl K)), (t, .inl (cB, 500, .inl T))] sz)) 0 0 (va_A [(r, .inr (0, [.ref k, .ref t, .int (nI n), .int cm, .int wr])), (k, .inl (cA, 500, .inl K)), (t, .inl (cB, 500, .inl T))] sz) := by
  refine Met.ofW (cc := cX1_startOfBlocks) (maxL := 10) (ret := (some .int)) (by decide) rfl ?_
  intro p e s m args below meth c s₁ B hml hv
  obtain ⟨rfl, hsz, hP, hK, hD0⟩ := hv
  have hx := B.exec
  have hb := B.bytes
  have hr := B.returns
  have hts := atoms_spec (ws := wsX1_startOfBlocks) B.pre
  have hown : s.vm.findClass RX1 = some m.cls := findClass_of_methodNamed B.named
  have hlocks := B.notSynchronized
  subst hsz
  have hD := hD0.self (sz := s.heap.size)
  generalize hAe : va_A [(r, .inr (0, [.ref k, .ref t, .int (nI n), .int cm, .int wr])), (k, .inl (cA, 500, .inl K)), (t, .inl (cB, 500, .inl T))] s.heap.size = A at hD ⊢
  have hA : ∀ q : Nat, s.heap.size ≤ q → A q := fun q h => by rw [← hAe]; exact Or.inr h
  have hS : va_S A s.heap s.heap [] := va_S.rf
  have hP : va_P (dC, dI) vwCl [(r, .inr (0, [.ref k, .ref t, .int (nI n), .int cm, .int wr])), (k, .inl (cA, 500, .inl K)), (t, .inl (cB, 500, .inl T))] s.heap := hP
  have hl := lv_entry ([.ref r, .int (nI a), .int (nI d), .int (nI b), .int (nI o)]) (n := 10) (Nat.le_of_ble_eq_true rfl)
  rw [lg_entry_eq]
  generalize (lg_sl ([.ref r, .int (nI a), .int (nI d), .int (nI b), .int (nI o)]) ++ List.replicate (10 - (lg_sl ([.ref r, .int (nI a), .int (nI d), .int (nI b), .int (nI o)])).length) Slot.unset).toArray = ls at hl ⊢
  have hl : lv_has ls 10 [(0, .ref r), (1, .int (nI a)), (2, .int (nI d)), (3, .int (nI b)), (4, .int (nI o))] := hl
  refine lv_iload_n hx hb dX1_startOfBlocks_0 rfl (lv_at hl 1 rfl) ?_
  refine lv_iload_n hx hb dX1_startOfBlocks_1 rfl (lv_at hl 3 rfl) ?_
  refine lv_iadd hx hb dX1_startOfBlocks_2 ?_
  refine lz_top (y := (nI (a + b))) (nI_add _ _) ?_
  refine lv_iconst (v := (nI 2)) hx hb dX1_startOfBlocks_3 (by decide) ?_
  refine lv_idiv hx hb dX1_startOfBlocks_4 (nI_ne0 (by omega) (by omega)) ?_
  refine lz_top (y := (nI ((a + b) / 2))) (pk_div (by omega) (by omega) (by omega)) ?_
  refine lv_istore (lv' := [(5, .int (nI ((a + b) / 2))), (0, .ref r), (1, .int (nI a)), (2, .int (nI d)), (3, .int (nI b)), (4, .int (nI o))]) hx hb dX1_startOfBlocks_5 hl (by decide) rfl (fun ls hl => ?_)
  refine lv_iload hx hb dX1_startOfBlocks_7 (lv_at hl 0 rfl) ?_
  refine lv_iload_n hx hb dX1_startOfBlocks_9 rfl (lv_at hl 3 rfl) ?_
  refine lv_iadd hx hb dX1_startOfBlocks_10 ?_
  refine lz_top (y := (nI (((a + b) / 2) + d))) (nI_add _ _) ?_
  refine lv_iconst (v := (nI 1)) hx hb dX1_startOfBlocks_11 (by decide) ?_
  refine lv_isub hx hb dX1_startOfBlocks_12 ?_
  refine lz_top (y := (nI ((((a + b) / 2) + d) - 1))) (pk_sub (by omega)) ?_
  refine lv_istore (lv' := [(6, .int (nI ((((a + b) / 2) + d) - 1))), (5, .int (nI ((a + b) / 2))), (0, .ref r), (1, .int (nI a)), (2, .int (nI d)), (3, .int (nI b)), (4, .int (nI o))]) hx hb dX1_startOfBlocks_13 hl (by decide) rfl (fun ls hl => ?_)
  refine lv_iload_n hx hb dX1_startOfBlocks_15 rfl (lv_at hl 4 rfl) ?_
  refine lv_iload hx hb dX1_startOfBlocks_16 (lv_at hl 1 rfl) ?_
  refine lz_icmp_le (tgt := 30) (by omega) (by omega) hx hb dX1_startOfBlocks_18 (by decide) (fun c18 => ?_) (fun c18 => ?_)
  · refine lv_iload_n hx hb dX1_startOfBlocks_30 rfl (lv_at hl 3 rfl) ?_
    refine lv_istore (lv' := [(7, .int (nI a)), (6, .int (nI ((((a + b) / 2) + d) - 1))), (5, .int (nI ((a + b) / 2))), (0, .ref r), (1, .int (nI a)), (2, .int (nI d)), (3, .int (nI b)), (4, .int (nI o))]) hx hb dX1_startOfBlocks_31 hl (by decide) rfl (fun ls hl => ?_)
    refine lv_iload_n hx hb dX1_startOfBlocks_33 rfl (lv_at hl 5 rfl) ?_
    refine lv_iload hx hb dX1_startOfBlocks_34 (lv_at hl 2 rfl) ?_
    refine lz_icmp_le (tgt := 44) (by omega) (by omega) hx hb dX1_startOfBlocks_36 (by decide) (fun c36 => ?_) (fun c36 => ?_)
    · refine lv_iload_n hx hb dX1_startOfBlocks_44 rfl (lv_at hl 5 rfl) ?_
      refine lv_istore (lv' := [(8, .int (nI d)), (7, .int (nI a)), (6, .int (nI ((((a + b) / 2) + d) - 1))), (5, .int (nI ((a + b) / 2))), (0, .ref r), (1, .int (nI a)), (2, .int (nI d)), (3, .int (nI b)), (4, .int (nI o))]) hx hb dX1_startOfBlocks_45 hl (by decide) rfl (fun ls hl => ?_)
      refine lz_loop (σ := Nat × Nat × Int32 × Nat × Nat) (μ := fun X_ => match X_ with | (lo, hi, c1, g, j) => hi - lo) (Inv := fun X_ H locs ls => match X_ with | (lo, hi, c1, g, j) => (a ≤ lo) ∧ (lo ≤ hi) ∧ (hi ≤ d) ∧ (c1 = cm + nI g) ∧ (hi - lo < 2 ^ j) ∧ (g + j ≤ kk) ∧ (lo = a ∨ ¬ mk o (K ((a + b) / 2 + d - lo)) < mk o (K (lo - 1))) ∧ (hi = d ∨ mk o (K ((a + b) / 2 + d - 1 - hi)) < mk o (K hi)) ∧ va_P (dC, dI) vwCl [(r, .inr (0, [.ref k, .ref t, .int (nI n), .int c1, .int wr])), (k, .inl (cA, 500, .inl K)), (t, .inl (cB, 500, .inl T))] H ∧ va_D A [(r, .inr (0, [.ref k, .ref t, .int (nI n), .int c1, .int wr])), (k, .inl (cA, 500, .inl K)), (t, .inl (cB, 500, .inl T))] ∧ va_S A s.heap H locs ∧ lv_has ls 10 [(0, .ref r), (1, .int (nI a)), (2, .int (nI d)), (3, .int (nI b)), (4, .int (nI o)), (5, .int (nI ((a + b) / 2))), (6, .int (nI ((((a + b) / 2) + d) - 1))), (7, .int (nI lo)), (8, .int (nI hi))]) ?_ (a, d, cm, 0, kk) _ _ _ ?_
      · rintro ⟨lo, hi, c1, g, j⟩ ihg H locs ls ⟨vg0, vg1, vg2, vg3, vg4, vg5, vg6, vg7, hP, hD, hS, hl⟩
        refine lv_iload hx hb dX1_startOfBlocks_47 (lv_at hl 7 rfl) ?_
        refine lv_iload hx hb dX1_startOfBlocks_49 (lv_at hl 8 rfl) ?_
        refine lz_icmp_ge (tgt := 95) (by omega) (by omega) hx hb dX1_startOfBlocks_51 (by decide) (fun c51 => ?_) (fun c51 => ?_)
        · refine lv_iload hx hb dX1_startOfBlocks_95 (lv_at hl 7 rfl) ?_
          have hlh : hi = lo := by omega
          subst hlh
          exact W.iret (v := (nI hi)) hx hb hr (fun tS ht hW => ⟨⟨(nI hi), (K, T, n, c1, wr), rfl, ⟨hi, g, rfl, by rw [vg3], by omega, by omega, by omega, by omega, by omega, fun z1 z2 => (vg7.elim (fun z => by omega) (fun z => by rw [show (a + b) / 2 + d - hi - 1 = (a + b) / 2 + d - 1 - hi by omega]; exact z)), fun z1 z2 => (vg6.elim (fun z => by omega) (fun z => Int.not_lt.mp z))⟩, by rw [ht]; exact hP, va_K.moved hW.alike hK, hD⟩, hS.F ht⟩) hS.2.2 dX1_startOfBlocks_97
        · obtain ⟨j1, rfl⟩ : ∃ j1, j = j1 + 1 := by
            cases j with
            | zero => exfalso; rw [Nat.pow_zero] at vg4; omega
            | succ j1 => exact ⟨j1, rfl⟩
          rw [Nat.pow_succ] at vg4
          refine lv_iload hx hb dX1_startOfBlocks_54 (lv_at hl 7 rfl) ?_
          refine lv_iload hx hb dX1_startOfBlocks_56 (lv_at hl 8 rfl) ?_
          refine lv_iadd hx hb dX1_startOfBlocks_58 ?_
          refine lz_top (y := (nI (lo + hi))) (nI_add _ _) ?_
          refine lv_iconst (v := (nI 2)) hx hb dX1_startOfBlocks_59 (by decide) ?_
          refine lv_idiv hx hb dX1_startOfBlocks_60 (nI_ne0 (by omega) (by omega)) ?_
          refine lz_top (y := (nI ((lo + hi) / 2))) (pk_div (by omega) (by omega) (by omega)) ?_
          refine lv_istore (lv' := [(9, .int (nI ((lo + hi) / 2))), (0, .ref r), (1, .int (nI a)), (2, .int (nI d)), (3, .int (nI b)), (4, .int (nI o)), (5, .int (nI ((a + b) / 2))), (6, .int (nI ((((a + b) / 2) + d) - 1))), (7, .int (nI lo)), (8, .int (nI hi))]) hx hb dX1_startOfBlocks_61 hl (by decide) rfl (fun ls hl => ?_)
          refine lv_aload_n hx hb dX1_startOfBlocks_63 rfl (lv_at hl 1 rfl) ?_
          refine lv_iload hx hb dX1_startOfBlocks_64 (lv_at hl 7 rfl) ?_
          refine lv_iload hx hb dX1_startOfBlocks_66 (lv_at hl 0 rfl) ?_
          refine lv_isub hx hb dX1_startOfBlocks_68 ?_
          refine lz_top (y := (nI (((((a + b) / 2) + d) - 1) - ((lo + hi) / 2)))) (pk_sub (by omega)) ?_
          refine lv_iload hx hb dX1_startOfBlocks_69 (lv_at hl 0 rfl) ?_
          refine lv_iload hx hb dX1_startOfBlocks_71 (lv_at hl 5 rfl) ?_
          have hPc := hP.sub (ws' := [(r, .inr (0, [.ref k, .ref t, .int (nI n), .int c1, .int wr])), (k, .inl (cA, 500, .inl K)), (t, .inl (cB, 500, .inl T))]) [0, 1, 2] rfl
          have hDc := hD.sub (ws' := [(r, .inr (0, [.ref k, .ref t, .int (nI n), .int c1, .int wr])), (k, .inl (cA, 500, .inl K)), (t, .inl (cB, 500, .inl T))]) [0, 1, 2] (by decide) rfl
          have hKc := hK.sub (tys' := [(cA, .int), (cB, .int)]) [0, 1] rfl
          have hFc := va_free (wc := [(r, .inr (0, [.ref k, .ref t, .int (nI n), .int c1, .int wr])), (k, .inl (cA, 500, .inl K)), (t, .inl (cB, 500, .inl T))]) hD hS hA [0, 1, 2] rfl
          refine va_calli (va_runV (As := [.int (nI (((((a + b) / 2) + d) - 1) - ((lo + hi) / 2))), .int (nI ((lo + hi) / 2)), .int (nI o)]) (rest := []) ⟨hx, hb, hml, hown, hts⟩ (c_X1_lessAt l dC dI H.size r k t cA cB n c1 wr K T ((a + b) / 2 + d - 1 - (lo + hi) / 2) ((lo + hi) / 2) o (by omega) (by omega) ho) (cwV 3 hts gX1_startOfBlocks_X1_lessAt rfl rfl rfl (by decide +kernel) ⟨Nat.le_of_ble_eq_true rfl, Nat.le_of_ble_eq_true rfl⟩) ⟨fun a U g mk q => by obtain ⟨q0, q1, qP, qK, qD⟩ := q; exact ⟨q0, q1, qP, va_K.moved (u := U) (U := U.calling g mk a) (Vm.Alike.refl U.vm) qK, qD⟩, va_recv hKc hPc (ci := 0) (q0 := 0) rfl rfl, fun U hU hW => ⟨rfl, by rw [hU], by rw [hU]; exact hPc, va_K.moved hW.alike hKc, hDc.weaken (fun _ _ _ _ => trivial)⟩⟩ rfl rfl hl.1 rfl (lv_room (Nat.le_of_ble_eq_true rfl)) dX1_startOfBlocks_73 ⟨Nat.le_of_ble_eq_true rfl, Nat.le_of_ble_eq_true rfl⟩) hS (fun q _ h => hFc q h) hFc (fun r_1 u tS H1 locs ht hvm hw hB hz1 hk1 hS => ?_)
          obtain ⟨hq, rfl⟩ := hw
          obtain ⟨hP1, hK1, hD1⟩ := hB
          rw [ht] at hP1
          obtain ⟨hP, hD⟩ := va_join (wr := []) (w1 := [(r, .inr (0, [.ref k, .ref t, .int (nI n), .int (c1 + nI 1), .int wr])), (k, .inl (cA, 500, .inl K)), (t, .inl (cB, 500, .inl T))]) hP hD [0, 1, 2] [] rfl rfl (by decide) (by decide) hk1 hFc hP1 hD1
          generalize H1 = H at hP hS ⊢
          have hP : va_P (dC, dI) vwCl [(r, .inr (0, [.ref k, .ref t, .int (nI n), .int (c1 + nI 1), .int wr])), (k, .inl (cA, 500, .inl K)), (t, .inl (cB, 500, .inl T))] H := hP
          have hD : va_D A [(r, .inr (0, [.ref k, .ref t, .int (nI n), .int (c1 + nI 1), .int wr])), (k, .inl (cA, 500, .inl K)), (t, .inl (cB, 500, .inl T))] := hD
          refine lv_if_eq (tgt := 86) hx hb dX1_startOfBlocks_76 (by decide) (fun c76 => ?_) (fun c76 => ?_)
          · refine lv_iload hx hb dX1_startOfBlocks_86 (lv_at hl 0 rfl) ?_
            refine lv_iconst (v := (nI 1)) hx hb dX1_startOfBlocks_88 (by decide) ?_
            refine lv_iadd hx hb dX1_startOfBlocks_89 ?_
            refine lz_top (y := (nI (((lo + hi) / 2) + 1))) (nI_add _ _) ?_
            refine lv_istore (lv' := [(7, .int (nI (((lo + hi) / 2) + 1))), (9, .int (nI ((lo + hi) / 2))), (0, .ref r), (1, .int (nI a)), (2, .int (nI d)), (3, .int (nI b)), (4, .int (nI o)), (5, .int (nI ((a + b) / 2))), (6, .int (nI ((((a + b) / 2) + d) - 1))), (8, .int (nI hi))]) hx hb dX1_startOfBlocks_90 hl (by decide) rfl (fun ls hl => ?_)
            refine lv_goto (tgt := 47) hx hb dX1_startOfBlocks_92 (by decide) ?_
            exact ihg ((((lo + hi) / 2) + 1), hi, (c1 + nI 1), (g + 1), j1) (by show hi - (((lo + hi) / 2) + 1) < hi - lo; omega) _ _ _ ⟨by omega, by omega, by omega, ad1 vg3 1, by omega, by omega, Or.inr (by have z := tr_0 hq c76; rw [show (a + b) / 2 + d - ((lo + hi) / 2 + 1) = (a + b) / 2 + d - 1 - (lo + hi) / 2 by omega, show (lo + hi) / 2 + 1 - 1 = (lo + hi) / 2 by omega]; exact z), vg7, hP, hD, hS, lv_sub hl [2, 3, 4, 5, 6, 7, 8, 0, 9] rfl⟩
          · refine lv_iload hx hb dX1_startOfBlocks_79 (lv_at hl 0 rfl) ?_
            refine lv_istore (lv' := [(8, .int (nI ((lo + hi) / 2))), (9, .int (nI ((lo + hi) / 2))), (0, .ref r), (1, .int (nI a)), (2, .int (nI d)), (3, .int (nI b)), (4, .int (nI o)), (5, .int (nI ((a + b) / 2))), (6, .int (nI ((((a + b) / 2) + d) - 1))), (7, .int (nI lo))]) hx hb dX1_startOfBlocks_81 hl (by decide) rfl (fun ls hl => ?_)
            refine lv_goto (tgt := 92) hx hb dX1_startOfBlocks_83 (by decide) ?_
            refine lv_goto (tgt := 47) hx hb dX1_startOfBlocks_92 (by decide) ?_
            exact ihg (lo, ((lo + hi) / 2), (c1 + nI 1), (g + 1), j1) (by show ((lo + hi) / 2) - lo < hi - lo; omega) _ _ _ ⟨by omega, by omega, by omega, ad1 vg3 1, by omega, by omega, vg6, Or.inr (tr_1 hq c76), hP, hD, hS, lv_sub hl [2, 3, 4, 5, 6, 7, 8, 9, 0] rfl⟩
      · exact ⟨by omega, by omega, by omega, ad0 cm, by omega, by omega, Or.inl rfl, Or.inl rfl, hP, hD, hS, lv_sub hl [4, 5, 6, 7, 8, 3, 2, 1, 0] rfl⟩
    · exfalso; omega
  · refine lv_iload hx hb dX1_startOfBlocks_21 (lv_at hl 1 rfl) ?_
    refine lv_iload_n hx hb dX1_startOfBlocks_23 rfl (lv_at hl 4 rfl) ?_
    refine lv_iadd hx hb dX1_startOfBlocks_24 ?_
    refine lz_top (y := (nI (((a + b) / 2) + d))) (nI_add _ _) ?_
    refine lv_iload_n hx hb dX1_startOfBlocks_25 rfl (lv_at hl 5 rfl) ?_
    refine lv_isub hx hb dX1_startOfBlocks_26 ?_
    refine lz_top (y := (nI ((((a + b) / 2) + d) - b))) (pk_sub (by omega)) ?_
    refine lv_goto (tgt := 31) hx hb dX1_startOfBlocks_27 (by decide) ?_
    refine lv_istore (lv' := [(7, .int (nI ((((a + b) / 2) + d) - b))), (6, .int (nI ((((a + b) / 2) + d) - 1))), (5, .int (nI ((a + b) / 2))), (0, .ref r), (1, .int (nI a)), (2, .int (nI d)), (3, .int (nI b)), (4, .int (nI o))]) hx hb dX1_startOfBlocks_31 hl (by decide) rfl (fun ls hl => ?_)
    refine lv_iload_n hx hb dX1_startOfBlocks_33 rfl (lv_at hl 5 rfl) ?_
    refine lv_iload hx hb dX1_startOfBlocks_34 (lv_at hl 2 rfl) ?_
    refine lz_icmp_le (tgt := 44) (by omega) (by omega) hx hb dX1_startOfBlocks_36 (by decide) (fun c36 => ?_) (fun c36 => ?_)
    · exfalso; omega
    · refine lv_iload hx hb dX1_startOfBlocks_39 (lv_at hl 2 rfl) ?_
      refine lv_goto (tgt := 45) hx hb dX1_startOfBlocks_41 (by decide) ?_
      refine lv_istore (lv' := [(8, .int (nI ((a + b) / 2))), (7, .int (nI ((((a + b) / 2) + d) - b))), (6, .int (nI ((((a + b) / 2) + d) - 1))), (5, .int (nI ((a + b) / 2))), (0, .ref r), (1, .int (nI a)), (2, .int (nI d)), (3, .int (nI b)), (4, .int (nI o))]) hx hb dX1_startOfBlocks_45 hl (by decide) rfl (fun ls hl => ?_)
      refine lz_loop (σ := Nat × Nat × Int32 × Nat × Nat) (μ := fun X_ => match X_ with | (lo, hi, c1, g, j) => hi - lo) (Inv := fun X_ H locs ls => match X_ with | (lo, hi, c1, g, j) => (((a + b) / 2 + d - b) ≤ lo) ∧ (lo ≤ hi) ∧ (hi ≤ ((a + b) / 2)) ∧ (c1 = cm + nI g) ∧ (hi - lo < 2 ^ j) ∧ (g + j ≤ kk) ∧ (lo = ((a + b) / 2 + d - b) ∨ ¬ mk o (K ((a + b) / 2 + d - lo)) < mk o (K (lo - 1))) ∧ (hi = ((a + b) / 2) ∨ mk o (K ((a + b) / 2 + d - 1 - hi)) < mk o (K hi)) ∧ va_P (dC, dI) vwCl [(r, .inr (0, [.ref k, .ref t, .int (nI n), .int c1, .int wr])), (k, .inl (cA, 500, .inl K)), (t, .inl (cB, 500, .inl T))] H ∧ va_D A [(r, .inr (0, [.ref k, .ref t, .int (nI n), .int c1, .int wr])), (k, .inl (cA, 500, .inl K)), (t, .inl (cB, 500, .inl T))] ∧ va_S A s.heap H locs ∧ lv_has ls 10 [(0, .ref r), (1, .int (nI a)), (2, .int (nI d)), (3, .int (nI b)), (4, .int (nI o)), (5, .int (nI ((a + b) / 2))), (6, .int (nI ((((a + b) / 2) + d) - 1))), (7, .int (nI lo)), (8, .int (nI hi))]) ?_ (((((a + b) / 2) + d) - b), ((a + b) / 2), cm, 0, kk) _ _ _ ?_
      · rintro ⟨lo, hi, c1, g, j⟩ ihg H locs ls ⟨vg0, vg1, vg2, vg3, vg4, vg5, vg6, vg7, hP, hD, hS, hl⟩
        refine lv_iload hx hb dX1_startOfBlocks_47 (lv_at hl 7 rfl) ?_
        refine lv_iload hx hb dX1_startOfBlocks_49 (lv_at hl 8 rfl) ?_
        refine lz_icmp_ge (tgt := 95) (by omega) (by omega) hx hb dX1_startOfBlocks_51 (by decide) (fun c51 => ?_) (fun c51 => ?_)
        · refine lv_iload hx hb dX1_startOfBlocks_95 (lv_at hl 7 rfl) ?_
          have hlh : hi = lo := by omega
          subst hlh
          exact W.iret (v := (nI hi)) hx hb hr (fun tS ht hW => ⟨⟨(nI hi), (K, T, n, c1, wr), rfl, ⟨hi, g, rfl, by rw [vg3], by omega, by omega, by omega, by omega, by omega, fun z1 z2 => (vg7.elim (fun z => by omega) (fun z => by rw [show (a + b) / 2 + d - hi - 1 = (a + b) / 2 + d - 1 - hi by omega]; exact z)), fun z1 z2 => (vg6.elim (fun z => by omega) (fun z => Int.not_lt.mp z))⟩, by rw [ht]; exact hP, va_K.moved hW.alike hK, hD⟩, hS.F ht⟩) hS.2.2 dX1_startOfBlocks_97
        · obtain ⟨j1, rfl⟩ : ∃ j1, j = j1 + 1 := by
            cases j with
            | zero => exfalso; rw [Nat.pow_zero] at vg4; omega
            | succ j1 => exact ⟨j1, rfl⟩
          rw [Nat.pow_succ] at vg4
          refine lv_iload hx hb dX1_startOfBlocks_54 (lv_at hl 7 rfl) ?_
          refine lv_iload hx hb dX1_startOfBlocks_56 (lv_at hl 8 rfl) ?_
          refine lv_iadd hx hb dX1_startOfBlocks_58 ?_
          refine lz_top (y := (nI (lo + hi))) (nI_add _ _) ?_
          refine lv_iconst (v := (nI 2)) hx hb dX1_startOfBlocks_59 (by decide) ?_
          refine lv_idiv hx hb dX1_startOfBlocks_60 (nI_ne0 (by omega) (by omega)) ?_
          refine lz_top (y := (nI ((lo + hi) / 2))) (pk_div (by omega) (by omega) (by omega)) ?_
          refine lv_istore (lv' := [(9, .int (nI ((lo + hi) / 2))), (0, .ref r), (1, .int (nI a)), (2, .int (nI d)), (3, .int (nI b)), (4, .int (nI o)), (5, .int (nI ((a + b) / 2))), (6, .int (nI ((((a + b) / 2) + d) - 1))), (7, .int (nI lo)), (8, .int (nI hi))]) hx hb dX1_startOfBlocks_61 hl (by decide) rfl (fun ls hl => ?_)
          refine lv_aload_n hx hb dX1_startOfBlocks_63 rfl (lv_at hl 1 rfl) ?_
          refine lv_iload hx hb dX1_startOfBlocks_64 (lv_at hl 7 rfl) ?_
          refine lv_iload hx hb dX1_startOfBlocks_66 (lv_at hl 0 rfl) ?_
          refine lv_isub hx hb dX1_startOfBlocks_68 ?_
          refine lz_top (y := (nI (((((a + b) / 2) + d) - 1) - ((lo + hi) / 2)))) (pk_sub (by omega)) ?_
          refine lv_iload hx hb dX1_startOfBlocks_69 (lv_at hl 0 rfl) ?_
          refine lv_iload hx hb dX1_startOfBlocks_71 (lv_at hl 5 rfl) ?_
          have hPc := hP.sub (ws' := [(r, .inr (0, [.ref k, .ref t, .int (nI n), .int c1, .int wr])), (k, .inl (cA, 500, .inl K)), (t, .inl (cB, 500, .inl T))]) [0, 1, 2] rfl
          have hDc := hD.sub (ws' := [(r, .inr (0, [.ref k, .ref t, .int (nI n), .int c1, .int wr])), (k, .inl (cA, 500, .inl K)), (t, .inl (cB, 500, .inl T))]) [0, 1, 2] (by decide) rfl
          have hKc := hK.sub (tys' := [(cA, .int), (cB, .int)]) [0, 1] rfl
          have hFc := va_free (wc := [(r, .inr (0, [.ref k, .ref t, .int (nI n), .int c1, .int wr])), (k, .inl (cA, 500, .inl K)), (t, .inl (cB, 500, .inl T))]) hD hS hA [0, 1, 2] rfl
          refine va_calli (va_runV (As := [.int (nI (((((a + b) / 2) + d) - 1) - ((lo + hi) / 2))), .int (nI ((lo + hi) / 2)), .int (nI o)]) (rest := []) ⟨hx, hb, hml, hown, hts⟩ (c_X1_lessAt l dC dI H.size r k t cA cB n c1 wr K T ((a + b) / 2 + d - 1 - (lo + hi) / 2) ((lo + hi) / 2) o (by omega) (by omega) ho) (cwV 3 hts gX1_startOfBlocks_X1_lessAt rfl rfl rfl (by decide +kernel) ⟨Nat.le_of_ble_eq_true rfl, Nat.le_of_ble_eq_true rfl⟩) ⟨fun a U g mk q => by obtain ⟨q0, q1, qP, qK, qD⟩ := q; exact ⟨q0, q1, qP, va_K.moved (u := U) (U := U.calling g mk a) (Vm.Alike.refl U.vm) qK, qD⟩, va_recv hKc hPc (ci := 0) (q0 := 0) rfl rfl, fun U hU hW => ⟨rfl, by rw [hU], by rw [hU]; exact hPc, va_K.moved hW.alike hKc, hDc.weaken (fun _ _ _ _ => trivial)⟩⟩ rfl rfl hl.1 rfl (lv_room (Nat.le_of_ble_eq_true rfl)) dX1_startOfBlocks_73 ⟨Nat.le_of_ble_eq_true rfl, Nat.le_of_ble_eq_true rfl⟩) hS (fun q _ h => hFc q h) hFc (fun r_2 u tS H1 locs ht hvm hw hB hz1 hk1 hS => ?_)
          obtain ⟨hq, rfl⟩ := hw
          obtain ⟨hP1, hK1, hD1⟩ := hB
          rw [ht] at hP1
          obtain ⟨hP, hD⟩ := va_join (wr := []) (w1 := [(r, .inr (0, [.ref k, .ref t, .int (nI n), .int (c1 + nI 1), .int wr])), (k, .inl (cA, 500, .inl K)), (t, .inl (cB, 500, .inl T))]) hP hD [0, 1, 2] [] rfl rfl (by decide) (by decide) hk1 hFc hP1 hD1
          generalize H1 = H at hP hS ⊢
          have hP : va_P (dC, dI) vwCl [(r, .inr (0, [.ref k, .ref t, .int (nI n), .int (c1 + nI 1), .int wr])), (k, .inl (cA, 500, .inl K)), (t, .inl (cB, 500, .inl T))] H := hP
          have hD : va_D A [(r, .inr (0, [.ref k, .ref t, .int (nI n), .int (c1 + nI 1), .int wr])), (k, .inl (cA, 500, .inl K)), (t, .inl (cB, 500, .inl T))] := hD
          refine lv_if_eq (tgt := 86) hx hb dX1_startOfBlocks_76 (by decide) (fun c76 => ?_) (fun c76 => ?_)
          · refine lv_iload hx hb dX1_startOfBlocks_86 (lv_at hl 0 rfl) ?_
            refine lv_iconst (v := (nI 1)) hx hb dX1_startOfBlocks_88 (by decide) ?_
            refine lv_iadd hx hb dX1_startOfBlocks_89 ?_
            refine lz_top (y := (nI (((lo + hi) / 2) + 1))) (nI_add _ _) ?_
            refine lv_istore (lv' := [(7, .int (nI (((lo + hi) / 2) + 1))), (9, .int (nI ((lo + hi) / 2))), (0, .ref r), (1, .int (nI a)), (2, .int (nI d)), (3, .int (nI b)), (4, .int (nI o)), (5, .int (nI ((a + b) / 2))), (6, .int (nI ((((a + b) / 2) + d) - 1))), (8, .int (nI hi))]) hx hb dX1_startOfBlocks_90 hl (by decide) rfl (fun ls hl => ?_)
            refine lv_goto (tgt := 47) hx hb dX1_startOfBlocks_92 (by decide) ?_
            exact ihg ((((lo + hi) / 2) + 1), hi, (c1 + nI 1), (g + 1), j1) (by show hi - (((lo + hi) / 2) + 1) < hi - lo; omega) _ _ _ ⟨by omega, by omega, by omega, ad1 vg3 1, by omega, by omega, Or.inr (by have z := tr_0 hq c76; rw [show (a + b) / 2 + d - ((lo + hi) / 2 + 1) = (a + b) / 2 + d - 1 - (lo + hi) / 2 by omega, show (lo + hi) / 2 + 1 - 1 = (lo + hi) / 2 by omega]; exact z), vg7, hP, hD, hS, lv_sub hl [2, 3, 4, 5, 6, 7, 8, 0, 9] rfl⟩
          · refine lv_iload hx hb dX1_startOfBlocks_79 (lv_at hl 0 rfl) ?_
            refine lv_istore (lv' := [(8, .int (nI ((lo + hi) / 2))), (9, .int (nI ((lo + hi) / 2))), (0, .ref r), (1, .int (nI a)), (2, .int (nI d)), (3, .int (nI b)), (4, .int (nI o)), (5, .int (nI ((a + b) / 2))), (6, .int (nI ((((a + b) / 2) + d) - 1))), (7, .int (nI lo))]) hx hb dX1_startOfBlocks_81 hl (by decide) rfl (fun ls hl => ?_)
            refine lv_goto (tgt := 92) hx hb dX1_startOfBlocks_83 (by decide) ?_
            refine lv_goto (tgt := 47) hx hb dX1_startOfBlocks_92 (by decide) ?_
            exact ihg (lo, ((lo + hi) / 2), (c1 + nI 1), (g + 1), j1) (by show ((lo + hi) / 2) - lo < hi - lo; omega) _ _ _ ⟨by omega, by omega, by omega, ad1 vg3 1, by omega, by omega, vg6, Or.inr (tr_1 hq c76), hP, hD, hS, lv_sub hl [2, 3, 4, 5, 6, 7, 8, 9, 0] rfl⟩
      · exact ⟨by omega, by omega, by omega, ad0 cm, by omega, by omega, Or.inl rfl, Or.inl rfl, hP, hD, hS, lv_sub hl [4, 5, 6, 7, 8, 3, 2, 1, 0] rfl⟩
set_option maxHeartbeats 4000000 in
set_option maxRecDepth 100000 in
/-- the merge in its place -/
theorem c_X1_mergeInPlace (l : Launch) (dC : Nat → ClassId) (dI : Nat → Nat → Nat) (r k t : Nat) (cA cB : ClassId) : ∀ (kk : Nat) (sz n : Nat) (cm wr : Int32) (K T : Nat → Int32) (a d b o dp : Nat) (had : a ≤ d) (hdb : d ≤ b) (hb5 : b ≤ 500) (ho : o < 4) (hk : b - a ≤ 2 ^ kk) (hdp : dp + kk ≤ 16) (sA : srt (mk o) (mZ K T) a d) (sB : srt (mk o) (mZ K T) d b), Met l yX1_mergeInPlace wsX1_mergeInPlace ({ frames := 3 + kk, cells := 0, slots := 0, locals := 74 + 28 * kk }) (va_Pc [.ref r, .int (nI a), .int (nI d), .int (nI b), .int (nI o), .int (nI dp)] (fun U => U.heap.size = sz ∧ va_P (dC, dI) vwCl [(r, .inr (0, [.ref k, .ref t, .int (nI n), .int cm, .int wr])), (k, .inl (cA, 500, .inl K)), (t, .inl (cB, 500, .inl T))] U.heap ∧ va_K (dC, dI) vwCl [(cA, .int), (cB, .int)] U ∧ va_D (fun _ => True) [(r, .inr (0, [.ref k, .ref t, .int (nI n), .int cm, .int wr])), (k, .inl (cA, 500, .inl K)), (t, .inl (cB, 500, .inl T))])) (va_Qv (fun u => (∀ j, j < a ∨ b ≤ j → mZ u.1 u.2.1 j = mZ K T j) ∧ srt (mk o) (mZ u.1 u.2.1) a b ∧ sm (mk o) (sg (mZ K T) a b) (sg (mZ u.1 u.2.1) a b) ∧ n = u.2.2.1 ∧ (∃ g, g + kk + 2 ≤ 2 * 2 ^ kk ∧ u.2.2.2.1 = cm + nI g) ∧ ∃ g, g ≤ 2 * (b - a) * kk ∧ u.2.2.2.2 = wr + nI g) (atR dC dI (va_A [(r, .inr (0, [.ref k, .ref t, .int (nI n), .int cm, .int wr])), (k, .inl (cA, 500, .inl K)), (t, .inl (cB, 500, .inl T))] sz) r k t cA cB) (va_A [(r, .inr (0, [.ref k, .ref t, .int (nI n), .int cm, .int wr])), (k, .inl (cA, 500, .inl K)), (t, .inl (cB, 500, .inl T))] sz)) 0 0 (va_A [(r, .inr (0, [.ref k, .ref t, .int (nI n), .int cm, .int wr])), (k, .inl (cA, 500, .inl K)), (t, .inl (cB, 500, .inl T))] sz) := by
  intro kk
  induction kk with
  | zero =>
    intro sz n cm wr K T a d b o dp had hdb hb5 ho hk hdp sA sB
    refine Met.ofW (cc := cX1_mergeInPlace) (maxL := 9) (ret := none) (by decide) rfl ?_
    intro p e s m args below meth c s₁ B hml hv
    obtain ⟨rfl, hsz, hP, hK, hD0⟩ := hv
    have hx := B.exec
    have hb := B.bytes
    have hr := B.returns
    have hts := atoms_spec (ws := wsX1_mergeInPlace) B.pre
    have hown : s.vm.findClass RX1 = some m.cls := findClass_of_methodNamed B.named
    have hlocks := B.notSynchronized
    subst hsz
    have hD := hD0.self (sz := s.heap.size)
    generalize hAe : va_A [(r, .inr (0, [.ref k, .ref t, .int (nI n), .int cm, .int wr])), (k, .inl (cA, 500, .inl K)), (t, .inl (cB, 500, .inl T))] s.heap.size = A at hD ⊢
    have hA : ∀ q : Nat, s.heap.size ≤ q → A q := fun q h => by rw [← hAe]; exact Or.inr h
    have hS : va_S A s.heap s.heap [] := va_S.rf
    have hP : va_P (dC, dI) vwCl [(r, .inr (0, [.ref k, .ref t, .int (nI n), .int cm, .int wr])), (k, .inl (cA, 500, .inl K)), (t, .inl (cB, 500, .inl T))] s.heap := hP
    have hl := lv_entry ([.ref r, .int (nI a), .int (nI d), .int (nI b), .int (nI o), .int (nI dp)]) (n := 9) (Nat.le_of_ble_eq_true rfl)
    rw [lg_entry_eq]
    generalize (lg_sl ([.ref r, .int (nI a), .int (nI d), .int (nI b), .int (nI o), .int (nI dp)]) ++ List.replicate (9 - (lg_sl ([.ref r, .int (nI a), .int (nI d), .int (nI b), .int (nI o), .int (nI dp)])).length) Slot.unset).toArray = ls at hl ⊢
    have hl : lv_has ls 9 [(0, .ref r), (1, .int (nI a)), (2, .int (nI d)), (3, .int (nI b)), (4, .int (nI o)), (5, .int (nI dp))] := hl
    refine lv_iload_n hx hb dX1_mergeInPlace_0 rfl (lv_at hl 1 rfl) ?_
    refine lv_iload_n hx hb dX1_mergeInPlace_1 rfl (lv_at hl 2 rfl) ?_
    refine lz_icmp_ge (tgt := 17) (by omega) (by omega) hx hb dX1_mergeInPlace_2 (by decide) (fun c2 => ?_) (fun c2 => ?_)
    · exact W.vret hx hb hr (fun tS ht hW => ⟨⟨(K, T, n, cm, wr), rfl, ⟨fun _ _ => rfl, by rw [show a = d by omega]; exact sB, sm_rf, rfl, ⟨0, by have := pw2 0; omega, ad0 cm⟩, 0, by omega, ad0 wr⟩, by rw [ht]; exact hP, va_K.moved hW.alike hK, hD⟩, hS.F ht⟩) hS.2.2 dX1_mergeInPlace_17
    · refine lv_iload_n hx hb dX1_mergeInPlace_5 rfl (lv_at hl 2 rfl) ?_
      refine lv_iload_n hx hb dX1_mergeInPlace_6 rfl (lv_at hl 3 rfl) ?_
      refine lz_icmp_ge (tgt := 17) (by omega) (by omega) hx hb dX1_mergeInPlace_7 (by decide) (fun c7 => ?_) (fun c7 => ?_)
      · exact W.vret hx hb hr (fun tS ht hW => ⟨⟨(K, T, n, cm, wr), rfl, ⟨fun _ _ => rfl, by rw [show b = d by omega]; exact sA, sm_rf, rfl, ⟨0, by have := pw2 0; omega, ad0 cm⟩, 0, by omega, ad0 wr⟩, by rw [ht]; exact hP, va_K.moved hW.alike hK, hD⟩, hS.F ht⟩) hS.2.2 dX1_mergeInPlace_17
      · refine lv_iload hx hb dX1_mergeInPlace_10 (lv_at hl 5 rfl) ?_
        refine lv_bipush (v := (nI 16)) hx hb dX1_mergeInPlace_12 (by decide) ?_
        refine lz_icmp_lt (tgt := 18) (by omega) (by omega) hx hb dX1_mergeInPlace_14 (by decide) (fun c14 => ?_) (fun c14 => ?_)
        · exfalso; rw [Nat.pow_zero] at hk; omega
        · exfalso; omega
  | succ kk ih =>
    intro sz n cm wr K T a d b o dp had hdb hb5 ho hk hdp sA sB
    refine Met.ofW (cc := cX1_mergeInPlace) (maxL := 9) (ret := none) (by decide) rfl ?_
    intro p e s m args below meth c s₁ B hml hv
    obtain ⟨rfl, hsz, hP, hK, hD0⟩ := hv
    have hx := B.exec
    have hb := B.bytes
    have hr := B.returns
    have hts := atoms_spec (ws := wsX1_mergeInPlace) B.pre
    have hown : s.vm.findClass RX1 = some m.cls := findClass_of_methodNamed B.named
    have hlocks := B.notSynchronized
    subst hsz
    have hD := hD0.self (sz := s.heap.size)
    generalize hAe : va_A [(r, .inr (0, [.ref k, .ref t, .int (nI n), .int cm, .int wr])), (k, .inl (cA, 500, .inl K)), (t, .inl (cB, 500, .inl T))] s.heap.size = A at hD ⊢
    have hA : ∀ q : Nat, s.heap.size ≤ q → A q := fun q h => by rw [← hAe]; exact Or.inr h
    have hS : va_S A s.heap s.heap [] := va_S.rf
    have hP : va_P (dC, dI) vwCl [(r, .inr (0, [.ref k, .ref t, .int (nI n), .int cm, .int wr])), (k, .inl (cA, 500, .inl K)), (t, .inl (cB, 500, .inl T))] s.heap := hP
    have hl := lv_entry ([.ref r, .int (nI a), .int (nI d), .int (nI b), .int (nI o), .int (nI dp)]) (n := 9) (Nat.le_of_ble_eq_true rfl)
    rw [lg_entry_eq]
    generalize (lg_sl ([.ref r, .int (nI a), .int (nI d), .int (nI b), .int (nI o), .int (nI dp)]) ++ List.replicate (9 - (lg_sl ([.ref r, .int (nI a), .int (nI d), .int (nI b), .int (nI o), .int (nI dp)])).length) Slot.unset).toArray = ls at hl ⊢
    have hl : lv_has ls 9 [(0, .ref r), (1, .int (nI a)), (2, .int (nI d)), (3, .int (nI b)), (4, .int (nI o)), (5, .int (nI dp))] := hl
    refine lv_iload_n hx hb dX1_mergeInPlace_0 rfl (lv_at hl 1 rfl) ?_
    refine lv_iload_n hx hb dX1_mergeInPlace_1 rfl (lv_at hl 2 rfl) ?_
    refine lz_icmp_ge (tgt := 17) (by omega) (by omega) hx hb dX1_mergeInPlace_2 (by decide) (fun c2 => ?_) (fun c2 => ?_)
    · exact W.vret hx hb hr (fun tS ht hW => ⟨⟨(K, T, n, cm, wr), rfl, ⟨fun _ _ => rfl, by rw [show a = d by omega]; exact sB, sm_rf, rfl, ⟨0, by have := pw2 (kk + 1); omega, ad0 cm⟩, 0, by omega, ad0 wr⟩, by rw [ht]; exact hP, va_K.moved hW.alike hK, hD⟩, hS.F ht⟩) hS.2.2 dX1_mergeInPlace_17
    · refine lv_iload_n hx hb dX1_mergeInPlace_5 rfl (lv_at hl 2 rfl) ?_
      refine lv_iload_n hx hb dX1_mergeInPlace_6 rfl (lv_at hl 3 rfl) ?_
      refine lz_icmp_ge (tgt := 17) (by omega) (by omega) hx hb dX1_mergeInPlace_7 (by decide) (fun c7 => ?_) (fun c7 => ?_)
      · exact W.vret hx hb hr (fun tS ht hW => ⟨⟨(K, T, n, cm, wr), rfl, ⟨fun _ _ => rfl, by rw [show b = d by omega]; exact sA, sm_rf, rfl, ⟨0, by have := pw2 (kk + 1); omega, ad0 cm⟩, 0, by omega, ad0 wr⟩, by rw [ht]; exact hP, va_K.moved hW.alike hK, hD⟩, hS.F ht⟩) hS.2.2 dX1_mergeInPlace_17
      · refine lv_iload hx hb dX1_mergeInPlace_10 (lv_at hl 5 rfl) ?_
        refine lv_bipush (v := (nI 16)) hx hb dX1_mergeInPlace_12 (by decide) ?_
        refine lz_icmp_lt (tgt := 18) (by omega) (by omega) hx hb dX1_mergeInPlace_14 (by decide) (fun c14 => ?_) (fun c14 => ?_)
        · rw [Nat.pow_succ] at hk
          refine lv_iload_n hx hb dX1_mergeInPlace_18 rfl (lv_at hl 1 rfl) ?_
          refine lv_iload_n hx hb dX1_mergeInPlace_19 rfl (lv_at hl 3 rfl) ?_
          refine lv_iadd hx hb dX1_mergeInPlace_20 ?_
          refine lz_top (y := (nI (a + b))) (nI_add _ _) ?_
          refine lv_iconst (v := (nI 2)) hx hb dX1_mergeInPlace_21 (by decide) ?_
          refine lv_idiv hx hb dX1_mergeInPlace_22 (nI_ne0 (by omega) (by omega)) ?_
          refine lz_top (y := (nI ((a + b) / 2))) (pk_div (by omega) (by omega) (by omega)) ?_
          refine lv_istore (lv' := [(6, .int (nI ((a + b) / 2))), (0, .ref r), (1, .int (nI a)), (2, .int (nI d)), (3, .int (nI b)), (4, .int (nI o)), (5, .int (nI dp))]) hx hb dX1_mergeInPlace_23 hl (by decide) rfl (fun ls hl => ?_)
          refine lv_aload_n hx hb dX1_mergeInPlace_25 rfl (lv_at hl 1 rfl) ?_
          refine lv_iload_n hx hb dX1_mergeInPlace_26 rfl (lv_at hl 2 rfl) ?_
          refine lv_iload_n hx hb dX1_mergeInPlace_27 rfl (lv_at hl 3 rfl) ?_
          refine lv_iload_n hx hb dX1_mergeInPlace_28 rfl (lv_at hl 4 rfl) ?_
          refine lv_iload hx hb dX1_mergeInPlace_29 (lv_at hl 5 rfl) ?_
          have hPc := hP.sub (ws' := [(r, .inr (0, [.ref k, .ref t, .int (nI n), .int cm, .int wr])), (k, .inl (cA, 500, .inl K)), (t, .inl (cB, 500, .inl T))]) [0, 1, 2] rfl
          have hDc := hD.sub (ws' := [(r, .inr (0, [.ref k, .ref t, .int (nI n), .int cm, .int wr])), (k, .inl (cA, 500, .inl K)), (t, .inl (cB, 500, .inl T))]) [0, 1, 2] (by decide) rfl
          have hKc := hK.sub (tys' := [(cA, .int), (cB, .int)]) [0, 1] rfl
          have hFc := va_free (wc := [(r, .inr (0, [.ref k, .ref t, .int (nI n), .int cm, .int wr])), (k, .inl (cA, 500, .inl K)), (t, .inl (cB, 500, .inl T))]) hD hS hA [0, 1, 2] rfl
          refine va_calli (va_runV (As := [.int (nI a), .int (nI d), .int (nI b), .int (nI o)]) (rest := []) ⟨hx, hb, hml, hown, hts⟩ (c_X1_startOfBlocks l dC dI s.heap.size r k t cA cB n cm wr K T a d b o (kk + 1) (by omega) (by omega) hb5 ho (by rw [Nat.pow_succ]; exact hk)) (cwV 4 hts gX1_mergeInPlace_X1_startOfBlocks rfl rfl rfl (by decide +kernel) ⟨by show 2 + 1 ≤ 3 + (kk + 1); omega, by show 8 + (10 + 11) + 45 ≤ 74 + 28 * (kk + 1); omega⟩) ⟨fun a U g mk q => by obtain ⟨q0, q1, qP, qK, qD⟩ := q; exact ⟨q0, q1, qP, va_K.moved (u := U) (U := U.calling g mk a) (Vm.Alike.refl U.vm) qK, qD⟩, va_recv hKc hPc (ci := 0) (q0 := 0) rfl rfl, fun U hU hW => ⟨rfl, by rw [hU], by rw [hU]; exact hPc, va_K.moved hW.alike hKc, hDc.weaken (fun _ _ _ _ => trivial)⟩⟩ rfl rfl hl.1 rfl (lv_room (Nat.le_of_ble_eq_true rfl)) dX1_mergeInPlace_31 ⟨Nat.le_of_ble_eq_true rfl, Nat.le_of_ble_eq_true rfl⟩) hS (fun q _ h => hFc q h) hFc (fun r_1 u tS H1 locs ht hvm hw hB hz1 hk1 hS => ?_)
          obtain ⟨q, g1, rfl, rfl, hg1, q1, q2, q3, q4, cA1, cB1⟩ := hw
          obtain ⟨hP1, hK1, hD1⟩ := hB
          rw [ht] at hP1
          obtain ⟨hP, hD⟩ := va_join (wr := []) (w1 := [(r, .inr (0, [.ref k, .ref t, .int (nI n), .int (cm + nI g1), .int wr])), (k, .inl (cA, 500, .inl K)), (t, .inl (cB, 500, .inl T))]) hP hD [0, 1, 2] [] rfl rfl (by decide) (by decide) hk1 hFc hP1 hD1
          generalize H1 = H at hP hS ⊢
          have hP : va_P (dC, dI) vwCl [(r, .inr (0, [.ref k, .ref t, .int (nI n), .int (cm + nI g1), .int wr])), (k, .inl (cA, 500, .inl K)), (t, .inl (cB, 500, .inl T))] H := hP
          have hD : va_D A [(r, .inr (0, [.ref k, .ref t, .int (nI n), .int (cm + nI g1), .int wr])), (k, .inl (cA, 500, .inl K)), (t, .inl (cB, 500, .inl T))] := hD
          refine lv_istore (lv' := [(7, .int (nI q)), (6, .int (nI ((a + b) / 2))), (0, .ref r), (1, .int (nI a)), (2, .int (nI d)), (3, .int (nI b)), (4, .int (nI o)), (5, .int (nI dp))]) hx hb dX1_mergeInPlace_34 hl (by decide) rfl (fun ls hl => ?_)
          refine lv_iload hx hb dX1_mergeInPlace_36 (lv_at hl 1 rfl) ?_
          refine lv_iload_n hx hb dX1_mergeInPlace_38 rfl (lv_at hl 4 rfl) ?_
          refine lv_iadd hx hb dX1_mergeInPlace_39 ?_
          refine lz_top (y := (nI (((a + b) / 2) + d))) (nI_add _ _) ?_
          refine lv_iload hx hb dX1_mergeInPlace_40 (lv_at hl 0 rfl) ?_
          refine lv_isub hx hb dX1_mergeInPlace_42 ?_
          refine lz_top (y := (nI ((((a + b) / 2) + d) - q))) (pk_sub (by omega)) ?_
          refine lv_istore (lv' := [(8, .int (nI ((((a + b) / 2) + d) - q))), (7, .int (nI q)), (6, .int (nI ((a + b) / 2))), (0, .ref r), (1, .int (nI a)), (2, .int (nI d)), (3, .int (nI b)), (4, .int (nI o)), (5, .int (nI dp))]) hx hb dX1_mergeInPlace_43 hl (by decide) rfl (fun ls hl => ?_)
          refine lv_aload_n hx hb dX1_mergeInPlace_45 rfl (lv_at hl 3 rfl) ?_
          refine lv_iload hx hb dX1_mergeInPlace_46 (lv_at hl 1 rfl) ?_
          refine lv_iload_n hx hb dX1_mergeInPlace_48 rfl (lv_at hl 5 rfl) ?_
          refine lv_iload hx hb dX1_mergeInPlace_49 (lv_at hl 0 rfl) ?_
          have hPc := hP.sub (ws' := [(r, .inr (0, [.ref k, .ref t, .int (nI n), .int (cm + nI g1), .int wr])), (k, .inl (cA, 500, .inl K)), (t, .inl (cB, 500, .inl T))]) [0, 1, 2] rfl
          have hDc := hD.sub (ws' := [(r, .inr (0, [.ref k, .ref t, .int (nI n), .int (cm + nI g1), .int wr])), (k, .inl (cA, 500, .inl K)), (t, .inl (cB, 500, .inl T))]) [0, 1, 2] (by decide) rfl
          have hKc := hK.sub (tys' := [(cA, .int), (cB, .int)]) [0, 1] rfl
          have hFc := va_free (wc := [(r, .inr (0, [.ref k, .ref t, .int (nI n), .int (cm + nI g1), .int wr])), (k, .inl (cA, 500, .inl K)), (t, .inl (cB, 500, .inl T))]) hD hS hA [0, 1, 2] rfl
          refine va_callv (va_runV (As := [.int (nI q), .int (nI d), .int (nI ((((a + b) / 2) + d) - q))]) (rest := []) ⟨hx, hb, hml, hown, hts⟩ (c_X1_swapBlocks l dC dI H.size r k t cA cB n (cm + nI g1) wr K T q d ((a + b) / 2 + d - q) (by omega) (by omega) (by omega)) (cwV 3 hts gX1_mergeInPlace_X1_swapBlocks rfl rfl rfl (by decide +kernel) ⟨by show 2 + 1 ≤ 3 + (kk + 1); omega, by show 8 + (4 + 11) + 48 ≤ 74 + 28 * (kk + 1); omega⟩) ⟨fun a U g mk q => by obtain ⟨q0, q1, qP, qK, qD⟩ := q; exact ⟨q0, q1, qP, va_K.moved (u := U) (U := U.calling g mk a) (Vm.Alike.refl U.vm) qK, qD⟩, va_recv hKc hPc (ci := 0) (q0 := 0) rfl rfl, fun U hU hW => ⟨rfl, by rw [hU], by rw [hU]; exact hPc, va_K.moved hW.alike hKc, hDc.weaken (fun _ _ _ _ => trivial)⟩⟩ rfl rfl hl.1 rfl (lv_room (Nat.le_of_ble_eq_true rfl)) dX1_mergeInPlace_51 ⟨Nat.le_of_ble_eq_true rfl, Nat.le_of_ble_eq_true rfl⟩) hS (fun q _ h => hFc q h) hFc (fun u tS H1 locs ht hvm hw hB hz1 hk1 hS => ?_)
          obtain ⟨K1, T1, n1, c1, w1⟩ := u
          obtain ⟨hm1, hn1, hc1, d1, hd1, hw1⟩ := hw
          dsimp only at hm1 hn1 hc1 hw1
          subst hn1; subst hc1; subst hw1
          obtain ⟨hP1, hK1, hD1⟩ := hB
          rw [ht] at hP1
          obtain ⟨hP, hD⟩ := va_join (wr := []) (w1 := [(r, .inr (0, [.ref k, .ref t, .int (nI n), .int (cm + nI g1), .int (wr + nI d1)])), (k, .inl (cA, 500, .inl K1)), (t, .inl (cB, 500, .inl T1))]) hP hD [0, 1, 2] [] rfl rfl (by decide) (by decide) hk1 hFc hP1 hD1
          generalize H1 = H at hP hS ⊢
          have hP : va_P (dC, dI) vwCl [(r, .inr (0, [.ref k, .ref t, .int (nI n), .int (cm + nI g1), .int (wr + nI d1)])), (k, .inl (cA, 500, .inl K1)), (t, .inl (cB, 500, .inl T1))] H := hP
          have hD : va_D A [(r, .inr (0, [.ref k, .ref t, .int (nI n), .int (cm + nI g1), .int (wr + nI d1)])), (k, .inl (cA, 500, .inl K1)), (t, .inl (cB, 500, .inl T1))] := hD
          refine lv_aload_n hx hb dX1_mergeInPlace_54 rfl (lv_at hl 3 rfl) ?_
          refine lv_iload_n hx hb dX1_mergeInPlace_55 rfl (lv_at hl 4 rfl) ?_
          refine lv_iload hx hb dX1_mergeInPlace_56 (lv_at hl 1 rfl) ?_
          refine lv_iload hx hb dX1_mergeInPlace_58 (lv_at hl 2 rfl) ?_
          refine lv_iload hx hb dX1_mergeInPlace_60 (lv_at hl 7 rfl) ?_
          refine lv_iload hx hb dX1_mergeInPlace_62 (lv_at hl 8 rfl) ?_
          refine lv_iconst (v := (nI 1)) hx hb dX1_mergeInPlace_64 (by decide) ?_
          refine lv_iadd hx hb dX1_mergeInPlace_65 ?_
          refine lz_top (y := (nI (dp + 1))) (nI_add _ _) ?_
          have hPc := hP.sub (ws' := [(r, .inr (0, [.ref k, .ref t, .int (nI n), .int (cm + nI g1), .int (wr + nI d1)])), (k, .inl (cA, 500, .inl K1)), (t, .inl (cB, 500, .inl T1))]) [0, 1, 2] rfl
          have hDc := hD.sub (ws' := [(r, .inr (0, [.ref k, .ref t, .int (nI n), .int (cm + nI g1), .int (wr + nI d1)])), (k, .inl (cA, 500, .inl K1)), (t, .inl (cB, 500, .inl T1))]) [0, 1, 2] (by decide) rfl
          have hKc := hK.sub (tys' := [(cA, .int), (cB, .int)]) [0, 1] rfl
          have hFc := va_free (wc := [(r, .inr (0, [.ref k, .ref t, .int (nI n), .int (cm + nI g1), .int (wr + nI d1)])), (k, .inl (cA, 500, .inl K1)), (t, .inl (cB, 500, .inl T1))]) hD hS hA [0, 1, 2] rfl
          refine va_callv (va_runS (As := [.ref r, .int (nI a), .int (nI q), .int (nI ((a + b) / 2)), .int (nI o), .int (nI (dp + 1))]) (rest := []) ⟨hx, hb, hml, hown, hts⟩ (ih H.size n (cm + nI g1) (wr + nI d1) K1 T1 a q ((a + b) / 2) o (dp + 1) (by omega) (by omega) (by omega) ho (by omega) (by omega) (by rw [hm1]; exact ms_1 (b := b) (by omega) (by omega) sA) (by rw [hm1]; exact ms_2 (b := b) (by omega) (by omega) (by omega) (by omega) sB)) (va_cwS 6 hts gX1_mergeInPlace_X1_mergeInPlace rfl rfl rfl (by decide +kernel) ⟨by show 3 + kk + 1 ≤ 3 + (kk + 1); omega, by show 8 + (9 + 11) + (74 + 28 * kk) ≤ 74 + 28 * (kk + 1); omega⟩) ⟨fun a U g mk q => by obtain ⟨q0, q1, qP, qK, qD⟩ := q; exact ⟨q0, q1, qP, va_K.moved (u := U) (U := U.calling g mk a) (Vm.Alike.refl U.vm) qK, qD⟩, fun U hU hW => ⟨rfl, by rw [hU], by rw [hU]; exact hPc, va_K.moved hW.alike hKc, hDc.weaken (fun _ _ _ _ => trivial)⟩⟩ rfl rfl hl.1 rfl (lv_room (Nat.le_of_ble_eq_true rfl)) dX1_mergeInPlace_66 ⟨Nat.le_of_ble_eq_true rfl, Nat.le_of_ble_eq_true rfl⟩) hS (fun q _ h => hFc q h) hFc (fun u tS H1 locs ht hvm hw hB hz1 hk1 hS => ?_)
          obtain ⟨K2, T2, n2, e2, w2⟩ := u
          obtain ⟨ho2, hs2, hm2, hn2, ⟨x2, hx2, hc2⟩, y2, hy2, hw2⟩ := hw
          dsimp only at ho2 hs2 hm2 hn2 hc2 hw2
          subst hn2; subst hc2; subst hw2
          obtain ⟨hP1, hK1, hD1⟩ := hB
          rw [ht] at hP1
          obtain ⟨hP, hD⟩ := va_join (wr := []) (w1 := [(r, .inr (0, [.ref k, .ref t, .int (nI n), .int ((cm + nI g1) + nI x2), .int ((wr + nI d1) + nI y2)])), (k, .inl (cA, 500, .inl K2)), (t, .inl (cB, 500, .inl T2))]) hP hD [0, 1, 2] [] rfl rfl (by decide) (by decide) hk1 hFc hP1 hD1
          generalize H1 = H at hP hS ⊢
          have hP : va_P (dC, dI) vwCl [(r, .inr (0, [.ref k, .ref t, .int (nI n), .int ((cm + nI g1) + nI x2), .int ((wr + nI d1) + nI y2)])), (k, .inl (cA, 500, .inl K2)), (t, .inl (cB, 500, .inl T2))] H := hP
          have hD : va_D A [(r, .inr (0, [.ref k, .ref t, .int (nI n), .int ((cm + nI g1) + nI x2), .int ((wr + nI d1) + nI y2)])), (k, .inl (cA, 500, .inl K2)), (t, .inl (cB, 500, .inl T2))] := hD
          refine lv_aload_n hx hb dX1_mergeInPlace_69 rfl (lv_at hl 3 rfl) ?_
          refine lv_iload hx hb dX1_mergeInPlace_70 (lv_at hl 2 rfl) ?_
          refine lv_iload hx hb dX1_mergeInPlace_72 (lv_at hl 0 rfl) ?_
          refine lv_iload_n hx hb dX1_mergeInPlace_74 rfl (lv_at hl 6 rfl) ?_
          refine lv_iload hx hb dX1_mergeInPlace_75 (lv_at hl 7 rfl) ?_
          refine lv_iload hx hb dX1_mergeInPlace_77 (lv_at hl 8 rfl) ?_
          refine lv_iconst (v := (nI 1)) hx hb dX1_mergeInPlace_79 (by decide) ?_
          refine lv_iadd hx hb dX1_mergeInPlace_80 ?_
          refine lz_top (y := (nI (dp + 1))) (nI_add _ _) ?_
          have hPc := hP.sub (ws' := [(r, .inr (0, [.ref k, .ref t, .int (nI n), .int ((cm + nI g1) + nI x2), .int ((wr + nI d1) + nI y2)])), (k, .inl (cA, 500, .inl K2)), (t, .inl (cB, 500, .inl T2))]) [0, 1, 2] rfl
          have hDc := hD.sub (ws' := [(r, .inr (0, [.ref k, .ref t, .int (nI n), .int ((cm + nI g1) + nI x2), .int ((wr + nI d1) + nI y2)])), (k, .inl (cA, 500, .inl K2)), (t, .inl (cB, 500, .inl T2))]) [0, 1, 2] (by decide) rfl
          have hKc := hK.sub (tys' := [(cA, .int), (cB, .int)]) [0, 1] rfl
          have hFc := va_free (wc := [(r, .inr (0, [.ref k, .ref t, .int (nI n), .int ((cm + nI g1) + nI x2), .int ((wr + nI d1) + nI y2)])), (k, .inl (cA, 500, .inl K2)), (t, .inl (cB, 500, .inl T2))]) hD hS hA [0, 1, 2] rfl
          refine va_callv (va_runS (As := [.ref r, .int (nI ((a + b) / 2)), .int (nI ((((a + b) / 2) + d) - q)), .int (nI b), .int (nI o), .int (nI (dp + 1))]) (rest := []) ⟨hx, hb, hml, hown, hts⟩ (ih H.size n ((cm + nI g1) + nI x2) ((wr + nI d1) + nI y2) K2 T2 ((a + b) / 2) ((a + b) / 2 + d - q) b o (dp + 1) (by omega) (by omega) (by omega) ho (by omega) (by omega) (ms_3 (f := mZ K T) (a := a) (q := q) (d := d) (by omega) (by omega) (by omega) (by omega) sA (fun j z => by rw [ho2 j (Or.inr z), hm1])) (ms_4 (f := mZ K T) (q := q) (d := d) (h := (a + b) / 2) (by omega) (by omega) (by omega) sB (fun j z => by rw [ho2 j (Or.inr z), hm1]))) (va_cwS 6 hts gX1_mergeInPlace_X1_mergeInPlace rfl rfl rfl (by decide +kernel) ⟨by show 3 + kk + 1 ≤ 3 + (kk + 1); omega, by show 8 + (9 + 11) + (74 + 28 * kk) ≤ 74 + 28 * (kk + 1); omega⟩) ⟨fun a U g mk q => by obtain ⟨q0, q1, qP, qK, qD⟩ := q; exact ⟨q0, q1, qP, va_K.moved (u := U) (U := U.calling g mk a) (Vm.Alike.refl U.vm) qK, qD⟩, fun U hU hW => ⟨rfl, by rw [hU], by rw [hU]; exact hPc, va_K.moved hW.alike hKc, hDc.weaken (fun _ _ _ _ => trivial)⟩⟩ rfl rfl hl.1 rfl (lv_room (Nat.le_of_ble_eq_true rfl)) dX1_mergeInPlace_81 ⟨Nat.le_of_ble_eq_true rfl, Nat.le_of_ble_eq_true rfl⟩) hS (fun q _ h => hFc q h) hFc (fun u tS H1 locs ht hvm hw hB hz1 hk1 hS => ?_)
          obtain ⟨K3, T3, n3, e3, w3⟩ := u
          obtain ⟨ho3, hs3, hm3, hn3, ⟨x3, hx3, hc3⟩, y3, hy3, hw3⟩ := hw
          dsimp only at ho3 hs3 hm3 hn3 hc3 hw3
          subst hn3; subst hc3; subst hw3
          obtain ⟨hP1, hK1, hD1⟩ := hB
          rw [ht] at hP1
          obtain ⟨hP, hD⟩ := va_join (wr := []) (w1 := [(r, .inr (0, [.ref k, .ref t, .int (nI n), .int (((cm + nI g1) + nI x2) + nI x3), .int (((wr + nI d1) + nI y2) + nI y3)])), (k, .inl (cA, 500, .inl K3)), (t, .inl (cB, 500, .inl T3))]) hP hD [0, 1, 2] [] rfl rfl (by decide) (by decide) hk1 hFc hP1 hD1
          generalize H1 = H at hP hS ⊢
          have hP : va_P (dC, dI) vwCl [(r, .inr (0, [.ref k, .ref t, .int (nI n), .int (((cm + nI g1) + nI x2) + nI x3), .int (((wr + nI d1) + nI y2) + nI y3)])), (k, .inl (cA, 500, .inl K3)), (t, .inl (cB, 500, .inl T3))] H := hP
          have hD : va_D A [(r, .inr (0, [.ref k, .ref t, .int (nI n), .int (((cm + nI g1) + nI x2) + nI x3), .int (((wr + nI d1) + nI y2) + nI y3)])), (k, .inl (cA, 500, .inl K3)), (t, .inl (cB, 500, .inl T3))] := hD
          obtain ⟨z1, z2, z3⟩ := merge_step (φ := mk o) (f := mZ K T) (g := mZ K2 T2) (h := mZ K3 T3) (a := a) (s := q) (m := d) (e := ((a + b) / 2 + d - q)) (h2 := (a + b) / 2) (b := b) (by omega) (by omega) (by omega) (by omega) (by omega) sA sB cA1 cB1 (fun j z => by rw [ho2 j z, hm1]) hs2 (by rw [← hm1]; exact hm2) (fun j z => ho3 j z) hs3 hm3
          have hmul : 2 * ((a + b) / 2 - a) * kk + 2 * (b - (a + b) / 2) * kk = 2 * (b - a) * kk := by rw [← Nat.add_mul]; congr 1; omega
          exact W.vret hx hb hr (fun tS ht hW => ⟨⟨(K3, T3, n, (((cm + nI g1) + nI x2) + nI x3), (((wr + nI d1) + nI y2) + nI y3)), rfl, ⟨z1, z2, z3, rfl, ⟨g1 + x2 + x3, by rw [Nat.pow_succ]; omega, ad1 (ad1 rfl x2) x3⟩, d1 + y2 + y3, by rw [Nat.mul_succ]; omega, ad1 (ad1 rfl y2) y3⟩, by rw [ht]; exact hP, va_K.moved hW.alike hK, hD⟩, hS.F ht⟩) hS.2.2 dX1_mergeInPlace_84
        · exfalso; omega
end
section
set_option maxHeartbeats 4000000 in
set_option maxRecDepth 100000 in
theorem c_X1_sortInPlace (l : Launch) (dC : Nat → ClassId) (dI : Nat → Nat → Nat) (sz : Nat) (r k t : Nat) (cA cB : ClassId) (n : Nat) (cm wr : Int32) (K T : Nat → Int32) (a b o : Nat) (hab : a ≤ b) (hb5 : b ≤ 500) (ho : o < 4) : Met l yX1_sortInPlace wsX1_sortInPlace ({ frames := 13, cells := 0, slots := 0, locals := 354 }) (va_Pc [.ref r, .int (nI a), .int (nI b), .int (nI o)] (fun U => U.heap.size = sz ∧ va_P (dC, dI) vwCl [(r, .inr (0, [.ref k, .ref t, .int (nI n), .int cm, .int wr])), (k, .inl (cA, 500, .inl K)), (t, .inl (cB, 500, .inl T))] U.heap ∧ va_K (dC, dI) vwCl [(cA, .int), (cB, .int)] U ∧ va_D (fun _ => True) [(r, .inr (0, [.ref k, .ref t, .int (nI n), .int cm, .int wr])), (k, .inl (cA, 500, .inl K)), (t, .inl (cB, 500, .inl T))])) (va_Qv (fun u => (∀ i, i < a ∨ b ≤ i → mZ u.1 u.2.1 i = mZ K T i) ∧ srt (mk o) (mZ u.1 u.2.1) a b ∧ sm (mk o) (sg (mZ K T) a b) (sg (mZ u.1 u.2.1) a b) ∧ n = u.2.2.1 ∧ (∃ g, cO 8 (b - a) g ∧ g ≤ 40000 ∧ u.2.2.2.1 = cm + nI g) ∧ ∃ g, cO 40 (b - a) g ∧ g ≤ 90000 ∧ u.2.2.2.2 = wr + nI g) (atR dC dI (va_A [(r, .inr (0, [.ref k, .ref t, .int (nI n), .int cm, .int wr])), (k, .inl (cA, 500, .inl K)), (t, .inl (cB, 500, .inl T))] sz) r k t cA cB) (va_A [(r, .inr (0, [.ref k, .ref t, .int (nI n), .int cm, .int wr])), (k, .inl (cA, 500, .inl K)), (t, .inl (cB, 500, .inl T))] sz)) 0 0 (va_A [(r, .inr (0, [.ref k, .ref t, .int (nI n), .int cm, .int wr])), (k, .inl (cA, 500, .inl K)), (t, .inl (cB, 500, .inl T))] sz) := by
  refine Met.ofW (cc := cX1_sortInPlace) (maxL := 7) (ret := none) (by decide) rfl ?_
  intro p e s m args below meth c s₁ B hml hv
  obtain ⟨rfl, hsz, hP, hK, hD0⟩ := hv
  have hx := B.exec
  have hb := B.bytes
  have hr := B.returns
  have hts := atoms_spec (ws := wsX1_sortInPlace) B.pre
  have hown : s.vm.findClass RX1 = some m.cls := findClass_of_methodNamed B.named
  have hlocks := B.notSynchronized
  subst hsz
  have hD := hD0.self (sz := s.heap.size)
  generalize hAe : va_A [(r, .inr (0, [.ref k, .ref t, .int (nI n), .int cm, .int wr])), (k, .inl (cA, 500, .inl K)), (t, .inl (cB, 500, .inl T))] s.heap.size = A at hD ⊢
  have hA : ∀ q : Nat, s.heap.size ≤ q → A q := fun q h => by rw [← hAe]; exact Or.inr h
  have hS : va_S A s.heap s.heap [] := va_S.rf
  have hP : va_P (dC, dI) vwCl [(r, .inr (0, [.ref k, .ref t, .int (nI n), .int cm, .int wr])), (k, .inl (cA, 500, .inl K)), (t, .inl (cB, 500, .inl T))] s.heap := hP
  have hl := lv_entry ([.ref r, .int (nI a), .int (nI b), .int (nI o)]) (n := 7) (Nat.le_of_ble_eq_true rfl)
  rw [lg_entry_eq]
  generalize (lg_sl ([.ref r, .int (nI a), .int (nI b), .int (nI o)]) ++ List.replicate (7 - (lg_sl ([.ref r, .int (nI a), .int (nI b), .int (nI o)])).length) Slot.unset).toArray = ls at hl ⊢
  have hl : lv_has ls 7 [(0, .ref r), (1, .int (nI a)), (2, .int (nI b)), (3, .int (nI o))] := hl
  refine lv_iconst (v := (nI 1)) hx hb dX1_sortInPlace_0 (by decide) ?_
  refine lv_istore (lv' := [(4, .int (nI 1)), (0, .ref r), (1, .int (nI a)), (2, .int (nI b)), (3, .int (nI o))]) hx hb dX1_sortInPlace_1 hl (by decide) rfl (fun ls hl => ?_)
  refine lz_loop (σ := Nat × (Nat → Int32) × (Nat → Int32) × Int32 × Int32 × Nat × Nat × Nat) (μ := fun X_ => match X_ with | (wd, K1, T1, c1, w1, j, gc, gw) => b - a - wd) (Inv := fun X_ H locs ls => match X_ with | (wd, K1, T1, c1, w1, j, gc, gw) => (wd = 2 ^ j) ∧ (j = 0 ∨ 2 ^ j < 2 * (b - a)) ∧ (bs (mk o) (mZ K1 T1) wd a b) ∧ (∀ i, i < a ∨ b ≤ i → mZ K1 T1 i = mZ K T i) ∧ (sm (mk o) (sg (mZ K T) a b) (sg (mZ K1 T1) a b)) ∧ (c1 = cm + nI gc) ∧ (gc ≤ 4 * (b - a) * j) ∧ (w1 = wr + nI gw) ∧ (gw ≤ 18 * (b - a) * j) ∧ (j ≤ 9) ∧ (wd < 1024) ∧ va_P (dC, dI) vwCl [(r, .inr (0, [.ref k, .ref t, .int (nI n), .int c1, .int w1])), (k, .inl (cA, 500, .inl K1)), (t, .inl (cB, 500, .inl T1))] H ∧ va_D A [(r, .inr (0, [.ref k, .ref t, .int (nI n), .int c1, .int w1])), (k, .inl (cA, 500, .inl K1)), (t, .inl (cB, 500, .inl T1))] ∧ va_S A s.heap H locs ∧ lv_has ls 7 [(0, .ref r), (1, .int (nI a)), (2, .int (nI b)), (3, .int (nI o)), (4, .int (nI wd))]) ?_ (1, K, T, cm, wr, 0, 0, 0) _ _ _ ?_
  · rintro ⟨wd, K1, T1, c1, w1, j, gc, gw⟩ ihh H locs ls ⟨vh0, vh1, vh2, vh3, vh4, vh5, vh6, vh7, vh8, vh9, vh10, hP, hD, hS, hl⟩
    refine lv_iload hx hb dX1_sortInPlace_3 (lv_at hl 4 rfl) ?_
    refine lv_iload_n hx hb dX1_sortInPlace_5 rfl (lv_at hl 2 rfl) ?_
    refine lv_iload_n hx hb dX1_sortInPlace_6 rfl (lv_at hl 1 rfl) ?_
    refine lv_isub hx hb dX1_sortInPlace_7 ?_
    refine lz_top (y := (nI (b - a))) (pk_sub (by omega)) ?_
    refine lz_icmp_ge (tgt := 72) (by omega) (by omega) hx hb dX1_sortInPlace_8 (by decide) (fun c8 => ?_) (fun c8 => ?_)
    · exact W.vret hx hb hr (fun tS ht hW => ⟨⟨(K1, T1, n, c1, w1), rfl, ⟨vh3, bs_all vh2 (by omega), vh4, rfl, ⟨gc, cO_of vh6 (by decide) vh1, by have hmu : 4 * (b - a) * j ≤ 4 * 500 * 9 := Nat.mul_le_mul (Nat.mul_le_mul_left _ (by omega)) vh9; omega, vh5⟩, gw, cO_of vh8 (by decide) vh1, by have hmu : 18 * (b - a) * j ≤ 18 * 500 * 9 := Nat.mul_le_mul (Nat.mul_le_mul_left _ (by omega)) vh9; omega, vh7⟩, by rw [ht]; exact hP, va_K.moved hW.alike hK, hD⟩, hS.F ht⟩) hS.2.2 dX1_sortInPlace_72
    · refine lv_iload_n hx hb dX1_sortInPlace_11 rfl (lv_at hl 1 rfl) ?_
      refine lv_istore (lv' := [(5, .int (nI a)), (0, .ref r), (1, .int (nI a)), (2, .int (nI b)), (3, .int (nI o)), (4, .int (nI wd))]) hx hb dX1_sortInPlace_12 hl (by decide) rfl (fun ls hl => ?_)
      have hw0 : 0 < wd := by rw [vh0]; exact Nat.two_pow_pos j
      have hj8 : j + 1 ≤ 9 := pw9 (by omega)
      refine lz_loop (σ := Nat × (Nat → Int32) × (Nat → Int32) × Int32 × Int32 × Nat × Nat × Nat) (μ := fun X_ => match X_ with | (ss, K2, T2, c2, w2, q, hc, hwv) => b + wd - ss) (Inv := fun X_ H locs ls => match X_ with | (ss, K2, T2, c2, w2, q, hc, hwv) => (ss = a + q * (2 * wd)) ∧ (pr (mk o) (mZ K2 T2) wd a b q) ∧ (bs (mk o) (mZ K2 T2) wd ss b) ∧ (∀ i, i < a ∨ b ≤ i → mZ K2 T2 i = mZ K T i) ∧ (sm (mk o) (sg (mZ K T) a b) (sg (mZ K2 T2) a b)) ∧ (c2 = cm + nI hc) ∧ (hc ≤ 4 * (b - a) * j + 4 * (min ss b - a)) ∧ (w2 = wr + nI hwv) ∧ (hwv ≤ 18 * (b - a) * j + 18 * (min ss b - a)) ∧ (ss < b + wd) ∧ va_P (dC, dI) vwCl [(r, .inr (0, [.ref k, .ref t, .int (nI n), .int c2, .int w2])), (k, .inl (cA, 500, .inl K2)), (t, .inl (cB, 500, .inl T2))] H ∧ va_D A [(r, .inr (0, [.ref k, .ref t, .int (nI n), .int c2, .int w2])), (k, .inl (cA, 500, .inl K2)), (t, .inl (cB, 500, .inl T2))] ∧ va_S A s.heap H locs ∧ lv_has ls 7 [(0, .ref r), (1, .int (nI a)), (2, .int (nI b)), (3, .int (nI o)), (4, .int (nI wd)), (5, .int (nI ss))]) ?_ (a, K1, T1, c1, w1, 0, gc, gw) _ _ _ ?_
      · rintro ⟨ss, K2, T2, c2, w2, q, hc, hwv⟩ ihi H locs ls ⟨vi0, vi1, vi2, vi3, vi4, vi5, vi6, vi7, vi8, vi9, hP, hD, hS, hl⟩
        refine lv_iload hx hb dX1_sortInPlace_14 (lv_at hl 5 rfl) ?_
        refine lv_iload_n hx hb dX1_sortInPlace_16 rfl (lv_at hl 2 rfl) ?_
        refine lv_iload hx hb dX1_sortInPlace_17 (lv_at hl 4 rfl) ?_
        refine lv_isub hx hb dX1_sortInPlace_19 ?_
        refine lz_top (y := (nI (b - wd))) (pk_sub (by omega)) ?_
        refine lz_icmp_ge (tgt := 63) (by omega) (by omega) hx hb dX1_sortInPlace_20 (by decide) (fun c20 => ?_) (fun c20 => ?_)
        · refine lv_iload hx hb dX1_sortInPlace_63 (lv_at hl 4 rfl) ?_
          refine lv_iconst (v := (nI 2)) hx hb dX1_sortInPlace_65 (by decide) ?_
          refine lv_imul hx hb dX1_sortInPlace_66 ?_
          refine lz_top (y := (nI (wd * 2))) (pk_mul _ _) ?_
          refine lv_istore (lv' := [(4, .int (nI (wd * 2))), (0, .ref r), (1, .int (nI a)), (2, .int (nI b)), (3, .int (nI o)), (5, .int (nI ss))]) hx hb dX1_sortInPlace_67 hl (by decide) rfl (fun ls hl => ?_)
          refine lv_goto (tgt := 3) hx hb dX1_sortInPlace_69 (by decide) ?_
          exact ihh ((wd * 2), K2, T2, c2, w2, (j + 1), hc, hwv) (by show b - a - wd * 2 < b - a - wd; omega) _ _ _ ⟨by rw [Nat.pow_succ, ← vh0], Or.inr (by rw [Nat.pow_succ, ← vh0]; omega), by rw [Nat.mul_comm]; exact bs_end vi0 vi1 vi2 (by omega), vi3, vi4, vi5, by rw [Nat.mul_succ]; omega, vi7, by rw [Nat.mul_succ]; omega, pw9 (by omega), by omega, hP, hD, hS, lv_sub hl [1, 2, 3, 4, 0] rfl⟩
        · refine lv_iload hx hb dX1_sortInPlace_23 (lv_at hl 5 rfl) ?_
          refine lv_iconst (v := (nI 2)) hx hb dX1_sortInPlace_25 (by decide) ?_
          refine lv_iload hx hb dX1_sortInPlace_26 (lv_at hl 4 rfl) ?_
          refine lv_imul hx hb dX1_sortInPlace_28 ?_
          refine lz_top (y := (nI (2 * wd))) (pk_mul _ _) ?_
          refine lv_iadd hx hb dX1_sortInPlace_29 ?_
          refine lz_top (y := (nI (ss + (2 * wd)))) (nI_add _ _) ?_
          refine lv_iload_n hx hb dX1_sortInPlace_30 rfl (lv_at hl 2 rfl) ?_
          refine va_mmin hx hb (hml.trans hl.1.symm) hown (hts (.methodLink RX1 43 Lib.Math.min.name) (by decide +kernel)) (hts (.static Lib.Math.min.name) (by decide +kernel)) (hts (.initialized "java/lang/Math") (by decide +kernel)) (hts _ (List.mem_cons_of_mem _ (List.mem_append_left _ (List.mem_append_left _ (List.mem_of_getElem? (i := 3) rfl))))) (Nat.le_of_ble_eq_true rfl) (Nat.le_of_ble_eq_true rfl) (Nat.le_of_ble_eq_true rfl) (Nat.le_of_ble_eq_true rfl) dX1_sortInPlace_31 ?_
          refine lz_top (y := (nI (min (ss + 2 * wd) b))) (mn_nI (by omega) (by omega)) ?_
          refine lv_istore (lv' := [(6, .int (nI (min (ss + 2 * wd) b))), (0, .ref r), (1, .int (nI a)), (2, .int (nI b)), (3, .int (nI o)), (4, .int (nI wd)), (5, .int (nI ss))]) hx hb dX1_sortInPlace_34 hl (by decide) rfl (fun ls hl => ?_)
          refine lv_aload_n hx hb dX1_sortInPlace_36 rfl (lv_at hl 1 rfl) ?_
          refine lv_iload hx hb dX1_sortInPlace_37 (lv_at hl 6 rfl) ?_
          refine lv_iload hx hb dX1_sortInPlace_39 (lv_at hl 6 rfl) ?_
          refine lv_iload hx hb dX1_sortInPlace_41 (lv_at hl 5 rfl) ?_
          refine lv_iadd hx hb dX1_sortInPlace_43 ?_
          refine lz_top (y := (nI (ss + wd))) (nI_add _ _) ?_
          refine lv_iload hx hb dX1_sortInPlace_44 (lv_at hl 0 rfl) ?_
          refine lv_iload_n hx hb dX1_sortInPlace_46 rfl (lv_at hl 4 rfl) ?_
          refine lv_iconst (v := (nI 0)) hx hb dX1_sortInPlace_47 (by decide) ?_
          have hsa : a ≤ ss := by omega
          obtain ⟨s1, s2⟩ := bs_two vi2
          rw [show min (ss + wd) b = ss + wd by omega] at s1
          have hPc := hP.sub (ws' := [(r, .inr (0, [.ref k, .ref t, .int (nI n), .int c2, .int w2])), (k, .inl (cA, 500, .inl K2)), (t, .inl (cB, 500, .inl T2))]) [0, 1, 2] rfl
          have hDc := hD.sub (ws' := [(r, .inr (0, [.ref k, .ref t, .int (nI n), .int c2, .int w2])), (k, .inl (cA, 500, .inl K2)), (t, .inl (cB, 500, .inl T2))]) [0, 1, 2] (by decide) rfl
          have hKc := hK.sub (tys' := [(cA, .int), (cB, .int)]) [0, 1] rfl
          have hFc := va_free (wc := [(r, .inr (0, [.ref k, .ref t, .int (nI n), .int c2, .int w2])), (k, .inl (cA, 500, .inl K2)), (t, .inl (cB, 500, .inl T2))]) hD hS hA [0, 1, 2] rfl
          refine va_callv (va_runS (As := [.ref r, .int (nI ss), .int (nI (ss + wd)), .int (nI (min (ss + 2 * wd) b)), .int (nI o), .int (nI 0)]) (rest := []) ⟨hx, hb, hml, hown, hts⟩ (c_X1_mergeInPlace l dC dI r k t cA cB (j + 1) H.size n c2 w2 K2 T2 ss (ss + wd) (min (ss + 2 * wd) b) o 0 (by omega) (by omega) (by omega) ho (by rw [Nat.pow_succ, ← vh0]; omega) (by omega) s1 s2) (va_cwS 6 hts gX1_sortInPlace_X1_mergeInPlace rfl rfl rfl (by decide +kernel) ⟨by show 3 + (j + 1) + 1 ≤ 13; omega, by show 8 + (9 + 11) + (74 + 28 * (j + 1)) ≤ 354; omega⟩) ⟨fun a U g mk q => by obtain ⟨q0, q1, qP, qK, qD⟩ := q; exact ⟨q0, q1, qP, va_K.moved (u := U) (U := U.calling g mk a) (Vm.Alike.refl U.vm) qK, qD⟩, fun U hU hW => ⟨rfl, by rw [hU], by rw [hU]; exact hPc, va_K.moved hW.alike hKc, hDc.weaken (fun _ _ _ _ => trivial)⟩⟩ rfl rfl hl.1 rfl (lv_room (Nat.le_of_ble_eq_true rfl)) dX1_sortInPlace_48 ⟨Nat.le_of_ble_eq_true rfl, Nat.le_of_ble_eq_true rfl⟩) hS (fun q _ h => hFc q h) hFc (fun u tS H1 locs ht hvm hw hB hz1 hk1 hS => ?_)
          obtain ⟨K5, T5, n5, e5, w5⟩ := u
          obtain ⟨ho5, hs5, hm5, hn5, ⟨x5, hx5, hc5⟩, y5, hy5, hw5⟩ := hw
          dsimp only at ho5 hs5 hm5 hn5 hc5 hw5
          subst hn5; subst hc5; subst hw5
          obtain ⟨hP1, hK1, hD1⟩ := hB
          rw [ht] at hP1
          obtain ⟨hP, hD⟩ := va_join (wr := []) (w1 := [(r, .inr (0, [.ref k, .ref t, .int (nI n), .int (c2 + nI x5), .int (w2 + nI y5)])), (k, .inl (cA, 500, .inl K5)), (t, .inl (cB, 500, .inl T5))]) hP hD [0, 1, 2] [] rfl rfl (by decide) (by decide) hk1 hFc hP1 hD1
          generalize H1 = H at hP hS ⊢
          have hP : va_P (dC, dI) vwCl [(r, .inr (0, [.ref k, .ref t, .int (nI n), .int (c2 + nI x5), .int (w2 + nI y5)])), (k, .inl (cA, 500, .inl K5)), (t, .inl (cB, 500, .inl T5))] H := hP
          have hD : va_D A [(r, .inr (0, [.ref k, .ref t, .int (nI n), .int (c2 + nI x5), .int (w2 + nI y5)])), (k, .inl (cA, 500, .inl K5)), (t, .inl (cB, 500, .inl T5))] := hD
          refine lv_iload hx hb dX1_sortInPlace_51 (lv_at hl 6 rfl) ?_
          refine lv_iconst (v := (nI 2)) hx hb dX1_sortInPlace_53 (by decide) ?_
          refine lv_iload hx hb dX1_sortInPlace_54 (lv_at hl 5 rfl) ?_
          refine lv_imul hx hb dX1_sortInPlace_56 ?_
          refine lz_top (y := (nI (2 * wd))) (pk_mul _ _) ?_
          refine lv_iadd hx hb dX1_sortInPlace_57 ?_
          refine lz_top (y := (nI (ss + (2 * wd)))) (nI_add _ _) ?_
          refine lv_istore (lv' := [(5, .int (nI (ss + (2 * wd)))), (6, .int (nI (min (ss + 2 * wd) b))), (0, .ref r), (1, .int (nI a)), (2, .int (nI b)), (3, .int (nI o)), (4, .int (nI wd))]) hx hb dX1_sortInPlace_58 hl (by decide) rfl (fun ls hl => ?_)
          refine lv_goto (tgt := 14) hx hb dX1_sortInPlace_60 (by decide) ?_
          exact ihi ((ss + (2 * wd)), K5, T5, (c2 + nI x5), (w2 + nI y5), (q + 1), (hc + x5), (hwv + y5)) (by show b + wd - (ss + 2 * wd) < b + wd - ss; omega) _ _ _ ⟨by rw [Nat.add_mul, Nat.one_mul]; omega, (bs_step vi0 vi1 vi2 ho5 hs5).1, (bs_step vi0 vi1 vi2 ho5 hs5).2, fun i z => (ho5 i (by omega)).trans (vi3 i z), sm_tr vi4 (sm_wide (by omega) (by omega) (by omega) ho5 hm5), ad1 vi5 x5, by rw [Nat.pow_succ, ← vh0] at hx5; omega, ad1 vi7 y5, by have hmu : 2 * (min (ss + 2 * wd) b - ss) * (j + 1) ≤ 2 * (min (ss + 2 * wd) b - ss) * 9 := Nat.mul_le_mul_left _ hj8; omega, by omega, hP, hD, hS, lv_sub hl [2, 3, 4, 5, 6, 0] rfl⟩
      · exact ⟨by omega, pr_0, vh2, vh3, vh4, vh5, by omega, vh7, by omega, by omega, hP, hD, hS, lv_sub hl [1, 2, 3, 4, 5, 0] rfl⟩
  · exact ⟨rfl, Or.inl rfl, bs_one, fun _ _ => rfl, sm_rf, ad0 cm, Nat.zero_le _, ad0 wr, Nat.zero_le _, Nat.zero_le _, by decide, hP, hD, hS, lv_sub hl [1, 2, 3, 4, 0] rfl⟩
set_option maxHeartbeats 4000000 in
set_option maxRecDepth 100000 in
theorem c_X1_splitInPlace (l : Launch) (dC : Nat → ClassId) (dI : Nat → Nat → Nat) (sz : Nat) (r k t : Nat) (cA cB : ClassId) (n : Nat) (cm wr : Int32) (K T : Nat → Int32) (a b : Nat) (x : Int32) (o : Nat) (hab : a ≤ b) (hb5 : b ≤ 500) (ho : o < 4) : Met l yX1_splitInPlace wsX1_splitInPlace ({ frames := 3, cells := 0, slots := 0, locals := 100 }) (va_Pc [.ref r, .int (nI a), .int (nI b), .int x, .int (nI o)] (fun U => U.heap.size = sz ∧ va_P (dC, dI) vwCl [(r, .inr (0, [.ref k, .ref t, .int (nI n), .int cm, .int wr])), (k, .inl (cA, 500, .inl K)), (t, .inl (cB, 500, .inl T))] U.heap ∧ va_K (dC, dI) vwCl [(cA, .int), (cB, .int)] U ∧ va_D (fun _ => True) [(r, .inr (0, [.ref k, .ref t, .int (nI n), .int cm, .int wr])), (k, .inl (cA, 500, .inl K)), (t, .inl (cB, 500, .inl T))])) (va_Qv (fun u => (∀ i, i < a ∨ b ≤ i → mZ u.1 u.2.1 i = mZ K T i) ∧ srt (ps o x) (mZ u.1 u.2.1) a b ∧ sm (ps o x) (sg (mZ K T) a b) (sg (mZ u.1 u.2.1) a b) ∧ n = u.2.2.1) (atR dC dI (va_A [(r, .inr (0, [.ref k, .ref t, .int (nI n), .int cm, .int wr])), (k, .inl (cA, 500, .inl K)), (t, .inl (cB, 500, .inl T))] sz) r k t cA cB) (va_A [(r, .inr (0, [.ref k, .ref t, .int (nI n), .int cm, .int wr])), (k, .inl (cA, 500, .inl K)), (t, .inl (cB, 500, .inl T))] sz)) 0 0 (va_A [(r, .inr (0, [.ref k, .ref t, .int (nI n), .int cm, .int wr])), (k, .inl (cA, 500, .inl K)), (t, .inl (cB, 500, .inl T))] sz) := by
  refine Met.ofW (cc := cX1_splitInPlace) (maxL := 11) (ret := none) (by decide) rfl ?_
  intro p e s m args below meth c s₁ B hml hv
  obtain ⟨rfl, hsz, hP, hK, hD0⟩ := hv
  have hx := B.exec
  have hb := B.bytes
  have hr := B.returns
  have hts := atoms_spec (ws := wsX1_splitInPlace) B.pre
  have hown : s.vm.findClass RX1 = some m.cls := findClass_of_methodNamed B.named
  have hlocks := B.notSynchronized
  subst hsz
  have hD := hD0.self (sz := s.heap.size)
  generalize hAe : va_A [(r, .inr (0, [.ref k, .ref t, .int (nI n), .int cm, .int wr])), (k, .inl (cA, 500, .inl K)), (t, .inl (cB, 500, .inl T))] s.heap.size = A at hD ⊢
  have hA : ∀ q : Nat, s.heap.size ≤ q → A q := fun q h => by rw [← hAe]; exact Or.inr h
  have hS : va_S A s.heap s.heap [] := va_S.rf
  have hP : va_P (dC, dI) vwCl [(r, .inr (0, [.ref k, .ref t, .int (nI n), .int cm, .int wr])), (k, .inl (cA, 500, .inl K)), (t, .inl (cB, 500, .inl T))] s.heap := hP
  have hl := lv_entry ([.ref r, .int (nI a), .int (nI b), .int x, .int (nI o)]) (n := 11) (Nat.le_of_ble_eq_true rfl)
  rw [lg_entry_eq]
  generalize (lg_sl ([.ref r, .int (nI a), .int (nI b), .int x, .int (nI o)]) ++ List.replicate (11 - (lg_sl ([.ref r, .int (nI a), .int (nI b), .int x, .int (nI o)])).length) Slot.unset).toArray = ls at hl ⊢
  have hl : lv_has ls 11 [(0, .ref r), (1, .int (nI a)), (2, .int (nI b)), (3, .int x), (4, .int (nI o))] := hl
  refine lv_iconst (v := (nI 1)) hx hb dX1_splitInPlace_0 (by decide) ?_
  refine lv_istore (lv' := [(5, .int (nI 1)), (0, .ref r), (1, .int (nI a)), (2, .int (nI b)), (3, .int x), (4, .int (nI o))]) hx hb dX1_splitInPlace_1 hl (by decide) rfl (fun ls hl => ?_)
  refine lz_loop (σ := Nat × (Nat → Int32) × (Nat → Int32) × Int32) (μ := fun X_ => match X_ with | (wd, K1, T1, w1) => b - a - wd) (Inv := fun X_ H locs ls => match X_ with | (wd, K1, T1, w1) => (0 < wd ∧ wd < 1024) ∧ (bs (ps o x) (mZ K1 T1) wd a b) ∧ (∀ i, i < a ∨ b ≤ i → mZ K1 T1 i = mZ K T i) ∧ (sm (ps o x) (sg (mZ K T) a b) (sg (mZ K1 T1) a b)) ∧ va_P (dC, dI) vwCl [(r, .inr (0, [.ref k, .ref t, .int (nI n), .int cm, .int w1])), (k, .inl (cA, 500, .inl K1)), (t, .inl (cB, 500, .inl T1))] H ∧ va_D A [(r, .inr (0, [.ref k, .ref t, .int (nI n), .int cm, .int w1])), (k, .inl (cA, 500, .inl K1)), (t, .inl (cB, 500, .inl T1))] ∧ va_S A s.heap H locs ∧ lv_has ls 11 [(0, .ref r), (1, .int (nI a)), (2, .int (nI b)), (3, .int x), (4, .int (nI o)), (5, .int (nI wd))]) ?_ (1, K, T, wr) _ _ _ ?_
  · rintro ⟨wd, K1, T1, w1⟩ ihh H locs ls ⟨vh0, vh1, vh2, vh3, hP, hD, hS, hl⟩
    refine lv_iload hx hb dX1_splitInPlace_3 (lv_at hl 5 rfl) ?_
    refine lv_iload_n hx hb dX1_splitInPlace_5 rfl (lv_at hl 2 rfl) ?_
    refine lv_iload_n hx hb dX1_splitInPlace_6 rfl (lv_at hl 1 rfl) ?_
    refine lv_isub hx hb dX1_splitInPlace_7 ?_
    refine lz_top (y := (nI (b - a))) (pk_sub (by omega)) ?_
    refine lz_icmp_ge (tgt := 104) (by omega) (by omega) hx hb dX1_splitInPlace_8 (by decide) (fun c8 => ?_) (fun c8 => ?_)
    · exact W.vret hx hb hr (fun tS ht hW => ⟨⟨(K1, T1, n, cm, w1), rfl, ⟨vh2, bs_all vh1 (by omega), vh3, rfl⟩, by rw [ht]; exact hP, va_K.moved hW.alike hK, hD⟩, hS.F ht⟩) hS.2.2 dX1_splitInPlace_104
    · refine lv_iload_n hx hb dX1_splitInPlace_11 rfl (lv_at hl 1 rfl) ?_
      refine lv_istore (lv' := [(6, .int (nI a)), (0, .ref r), (1, .int (nI a)), (2, .int (nI b)), (3, .int x), (4, .int (nI o)), (5, .int (nI wd))]) hx hb dX1_splitInPlace_12 hl (by decide) rfl (fun ls hl => ?_)
      refine lz_loop (σ := Nat × (Nat → Int32) × (Nat → Int32) × Int32 × Nat) (μ := fun X_ => match X_ with | (ss, K2, T2, w2, q) => b + wd - ss) (Inv := fun X_ H locs ls => match X_ with | (ss, K2, T2, w2, q) => (ss = a + q * (2 * wd)) ∧ (pr (ps o x) (mZ K2 T2) wd a b q) ∧ (bs (ps o x) (mZ K2 T2) wd ss b) ∧ (∀ i, i < a ∨ b ≤ i → mZ K2 T2 i = mZ K T i) ∧ (sm (ps o x) (sg (mZ K T) a b) (sg (mZ K2 T2) a b)) ∧ (ss < b + wd) ∧ va_P (dC, dI) vwCl [(r, .inr (0, [.ref k, .ref t, .int (nI n), .int cm, .int w2])), (k, .inl (cA, 500, .inl K2)), (t, .inl (cB, 500, .inl T2))] H ∧ va_D A [(r, .inr (0, [.ref k, .ref t, .int (nI n), .int cm, .int w2])), (k, .inl (cA, 500, .inl K2)), (t, .inl (cB, 500, .inl T2))] ∧ va_S A s.heap H locs ∧ lv_has ls 11 [(0, .ref r), (1, .int (nI a)), (2, .int (nI b)), (3, .int x), (4, .int (nI o)), (5, .int (nI wd)), (6, .int (nI ss))]) ?_ (a, K1, T1, w1, 0) _ _ _ ?_
      · rintro ⟨ss, K2, T2, w2, q⟩ ihi H locs ls ⟨vi0, vi1, vi2, vi3, vi4, vi5, hP, hD, hS, hl⟩
        refine lv_iload hx hb dX1_splitInPlace_14 (lv_at hl 6 rfl) ?_
        refine lv_iload_n hx hb dX1_splitInPlace_16 rfl (lv_at hl 2 rfl) ?_
        refine lv_iload hx hb dX1_splitInPlace_17 (lv_at hl 5 rfl) ?_
        refine lv_isub hx hb dX1_splitInPlace_19 ?_
        refine lz_top (y := (nI (b - wd))) (pk_sub (by omega)) ?_
        refine lz_icmp_ge (tgt := 95) (by omega) (by omega) hx hb dX1_splitInPlace_20 (by decide) (fun c20 => ?_) (fun c20 => ?_)
        · refine lv_iload hx hb dX1_splitInPlace_95 (lv_at hl 5 rfl) ?_
          refine lv_iconst (v := (nI 2)) hx hb dX1_splitInPlace_97 (by decide) ?_
          refine lv_imul hx hb dX1_splitInPlace_98 ?_
          refine lz_top (y := (nI (wd * 2))) (pk_mul _ _) ?_
          refine lv_istore (lv' := [(5, .int (nI (wd * 2))), (0, .ref r), (1, .int (nI a)), (2, .int (nI b)), (3, .int x), (4, .int (nI o)), (6, .int (nI ss))]) hx hb dX1_splitInPlace_99 hl (by decide) rfl (fun ls hl => ?_)
          refine lv_goto (tgt := 3) hx hb dX1_splitInPlace_101 (by decide) ?_
          exact ihh ((wd * 2), K2, T2, w2) (by show b - a - wd * 2 < b - a - wd; omega) _ _ _ ⟨by omega, by rw [Nat.mul_comm]; exact bs_end vi0 vi1 vi2 (by omega), vi3, vi4, hP, hD, hS, lv_sub hl [1, 2, 3, 4, 5, 0] rfl⟩
        · refine lv_iload hx hb dX1_splitInPlace_23 (lv_at hl 6 rfl) ?_
          refine lv_iload hx hb dX1_splitInPlace_25 (lv_at hl 5 rfl) ?_
          refine lv_iadd hx hb dX1_splitInPlace_27 ?_
          refine lz_top (y := (nI (ss + wd))) (nI_add _ _) ?_
          refine lv_istore (lv' := [(7, .int (nI (ss + wd))), (0, .ref r), (1, .int (nI a)), (2, .int (nI b)), (3, .int x), (4, .int (nI o)), (5, .int (nI wd)), (6, .int (nI ss))]) hx hb dX1_splitInPlace_28 hl (by decide) rfl (fun ls hl => ?_)
          refine lv_iload hx hb dX1_splitInPlace_30 (lv_at hl 0 rfl) ?_
          refine lv_iload hx hb dX1_splitInPlace_32 (lv_at hl 6 rfl) ?_
          refine lv_iadd hx hb dX1_splitInPlace_34 ?_
          refine lz_top (y := (nI ((ss + wd) + wd))) (nI_add _ _) ?_
          refine lv_iload_n hx hb dX1_splitInPlace_35 rfl (lv_at hl 3 rfl) ?_
          refine va_mmin hx hb (hml.trans hl.1.symm) hown (hts (.methodLink RX1 43 Lib.Math.min.name) (by decide +kernel)) (hts (.static Lib.Math.min.name) (by decide +kernel)) (hts (.initialized "java/lang/Math") (by decide +kernel)) (hts _ (List.mem_cons_of_mem _ (List.mem_append_left _ (List.mem_append_left _ (List.mem_of_getElem? (i := 3) rfl))))) (Nat.le_of_ble_eq_true rfl) (Nat.le_of_ble_eq_true rfl) (Nat.le_of_ble_eq_true rfl) (Nat.le_of_ble_eq_true rfl) dX1_splitInPlace_36 ?_
          refine lz_top (y := (nI (min (ss + 2 * wd) b))) ((mn_nI (by omega) (by omega)).trans (by rw [show ss + wd + wd = ss + 2 * wd by omega])) ?_
          refine lv_istore (lv' := [(8, .int (nI (min (ss + 2 * wd) b))), (7, .int (nI (ss + wd))), (0, .ref r), (1, .int (nI a)), (2, .int (nI b)), (3, .int x), (4, .int (nI o)), (5, .int (nI wd)), (6, .int (nI ss))]) hx hb dX1_splitInPlace_39 hl (by decide) rfl (fun ls hl => ?_)
          refine lv_iload hx hb dX1_splitInPlace_41 (lv_at hl 8 rfl) ?_
          refine lv_aload_n hx hb dX1_splitInPlace_43 rfl (lv_at hl 2 rfl) ?_
          refine lv_iload hx hb dX1_splitInPlace_44 (lv_at hl 8 rfl) ?_
          refine lv_iload hx hb dX1_splitInPlace_46 (lv_at hl 1 rfl) ?_
          refine lv_iload_n hx hb dX1_splitInPlace_48 rfl (lv_at hl 5 rfl) ?_
          refine lv_iload hx hb dX1_splitInPlace_49 (lv_at hl 6 rfl) ?_
          have hsa : a ≤ ss := by omega
          have hPc := hP.sub (ws' := [(r, .inr (0, [.ref k, .ref t, .int (nI n), .int cm, .int w2])), (k, .inl (cA, 500, .inl K2)), (t, .inl (cB, 500, .inl T2))]) [0, 1, 2] rfl
          have hDc := hD.sub (ws' := [(r, .inr (0, [.ref k, .ref t, .int (nI n), .int cm, .int w2])), (k, .inl (cA, 500, .inl K2)), (t, .inl (cB, 500, .inl T2))]) [0, 1, 2] (by decide) rfl
          have hKc := hK.sub (tys' := [(cA, .int), (cB, .int)]) [0, 1] rfl
          have hFc := va_free (wc := [(r, .inr (0, [.ref k, .ref t, .int (nI n), .int cm, .int w2])), (k, .inl (cA, 500, .inl K2)), (t, .inl (cB, 500, .inl T2))]) hD hS hA [0, 1, 2] rfl
          refine va_calli (va_runV (As := [.int (nI ss), .int (nI (ss + wd)), .int x, .int (nI o)]) (rest := [.int (nI ss)]) ⟨hx, hb, hml, hown, hts⟩ (c_X1_countLess l dC dI H.size r k t cA cB n cm w2 K2 T2 ss (ss + wd) x o (by omega) (by omega) ho) (cwV 4 hts gX1_splitInPlace_X1_countLess rfl rfl rfl (by decide +kernel) ⟨Nat.le_of_ble_eq_true rfl, Nat.le_of_ble_eq_true rfl⟩) ⟨fun a U g mk q => by obtain ⟨q0, q1, qP, qK, qD⟩ := q; exact ⟨q0, q1, qP, va_K.moved (u := U) (U := U.calling g mk a) (Vm.Alike.refl U.vm) qK, qD⟩, va_recv hKc hPc (ci := 0) (q0 := 0) rfl rfl, fun U hU hW => ⟨rfl, by rw [hU], by rw [hU]; exact hPc, va_K.moved hW.alike hKc, hDc.weaken (fun _ _ _ _ => trivial)⟩⟩ rfl rfl hl.1 rfl (lv_room (Nat.le_of_ble_eq_true rfl)) dX1_splitInPlace_51 ⟨Nat.le_of_ble_eq_true rfl, Nat.le_of_ble_eq_true rfl⟩) hS (fun q _ h => hFc q h) hFc (fun r_1 u tS H1 locs ht hvm hw hB hz1 hk1 hS => ?_)
          obtain ⟨hr1, rfl⟩ := hw
          obtain ⟨hP1, hK1, hD1⟩ := hB
          rw [ht] at hP1
          obtain ⟨hP, hD⟩ := va_join (wr := []) (w1 := [(r, .inr (0, [.ref k, .ref t, .int (nI n), .int cm, .int w2])), (k, .inl (cA, 500, .inl K2)), (t, .inl (cB, 500, .inl T2))]) hP hD [0, 1, 2] [] rfl rfl (by decide) (by decide) hk1 hFc hP1 hD1
          generalize H1 = H at hP hS ⊢
          have hP : va_P (dC, dI) vwCl [(r, .inr (0, [.ref k, .ref t, .int (nI n), .int cm, .int w2])), (k, .inl (cA, 500, .inl K2)), (t, .inl (cB, 500, .inl T2))] H := hP
          have hD : va_D A [(r, .inr (0, [.ref k, .ref t, .int (nI n), .int cm, .int w2])), (k, .inl (cA, 500, .inl K2)), (t, .inl (cB, 500, .inl T2))] := hD
          obtain ⟨f1, hf1⟩ : ∃ f1, f1 = cn (fun j => mk o (K2 j) < mk o x) ss ((ss + wd) - ss) := ⟨_, rfl⟩
          rw [← hf1] at hr1
          subst hr1
          have hg1 : f1 ≤ (ss + wd) - ss := by rw [hf1]; exact cn_le _ _ _
          refine lv_iadd hx hb dX1_splitInPlace_54 ?_
          refine lz_top (y := (nI (ss + f1))) (nI_add _ _) ?_
          refine lv_istore (lv' := [(9, .int (nI (ss + f1))), (8, .int (nI (min (ss + 2 * wd) b))), (7, .int (nI (ss + wd))), (0, .ref r), (1, .int (nI a)), (2, .int (nI b)), (3, .int x), (4, .int (nI o)), (5, .int (nI wd)), (6, .int (nI ss))]) hx hb dX1_splitInPlace_55 hl (by decide) rfl (fun ls hl => ?_)
          refine lv_iload hx hb dX1_splitInPlace_57 (lv_at hl 2 rfl) ?_
          refine lv_aload_n hx hb dX1_splitInPlace_59 rfl (lv_at hl 3 rfl) ?_
          refine lv_iload hx hb dX1_splitInPlace_60 (lv_at hl 2 rfl) ?_
          refine lv_iload hx hb dX1_splitInPlace_62 (lv_at hl 1 rfl) ?_
          refine lv_iload_n hx hb dX1_splitInPlace_64 rfl (lv_at hl 6 rfl) ?_
          refine lv_iload hx hb dX1_splitInPlace_65 (lv_at hl 7 rfl) ?_
          have hPc := hP.sub (ws' := [(r, .inr (0, [.ref k, .ref t, .int (nI n), .int cm, .int w2])), (k, .inl (cA, 500, .inl K2)), (t, .inl (cB, 500, .inl T2))]) [0, 1, 2] rfl
          have hDc := hD.sub (ws' := [(r, .inr (0, [.ref k, .ref t, .int (nI n), .int cm, .int w2])), (k, .inl (cA, 500, .inl K2)), (t, .inl (cB, 500, .inl T2))]) [0, 1, 2] (by decide) rfl
          have hKc := hK.sub (tys' := [(cA, .int), (cB, .int)]) [0, 1] rfl
          have hFc := va_free (wc := [(r, .inr (0, [.ref k, .ref t, .int (nI n), .int cm, .int w2])), (k, .inl (cA, 500, .inl K2)), (t, .inl (cB, 500, .inl T2))]) hD hS hA [0, 1, 2] rfl
          refine va_calli (va_runV (As := [.int (nI (ss + wd)), .int (nI (min (ss + 2 * wd) b)), .int x, .int (nI o)]) (rest := [.int (nI (ss + wd))]) ⟨hx, hb, hml, hown, hts⟩ (c_X1_countLess l dC dI H.size r k t cA cB n cm w2 K2 T2 (ss + wd) (min (ss + 2 * wd) b) x o (by omega) (by omega) ho) (cwV 4 hts gX1_splitInPlace_X1_countLess rfl rfl rfl (by decide +kernel) ⟨Nat.le_of_ble_eq_true rfl, Nat.le_of_ble_eq_true rfl⟩) ⟨fun a U g mk q => by obtain ⟨q0, q1, qP, qK, qD⟩ := q; exact ⟨q0, q1, qP, va_K.moved (u := U) (U := U.calling g mk a) (Vm.Alike.refl U.vm) qK, qD⟩, va_recv hKc hPc (ci := 0) (q0 := 0) rfl rfl, fun U hU hW => ⟨rfl, by rw [hU], by rw [hU]; exact hPc, va_K.moved hW.alike hKc, hDc.weaken (fun _ _ _ _ => trivial)⟩⟩ rfl rfl hl.1 rfl (lv_room (Nat.le_of_ble_eq_true rfl)) dX1_splitInPlace_67 ⟨Nat.le_of_ble_eq_true rfl, Nat.le_of_ble_eq_true rfl⟩) hS (fun q _ h => hFc q h) hFc (fun r_2 u tS H1 locs ht hvm hw hB hz1 hk1 hS => ?_)
          obtain ⟨hr2, rfl⟩ := hw
          obtain ⟨hP1, hK1, hD1⟩ := hB
          rw [ht] at hP1
          obtain ⟨hP, hD⟩ := va_join (wr := []) (w1 := [(r, .inr (0, [.ref k, .ref t, .int (nI n), .int cm, .int w2])), (k, .inl (cA, 500, .inl K2)), (t, .inl (cB, 500, .inl T2))]) hP hD [0, 1, 2] [] rfl rfl (by decide) (by decide) hk1 hFc hP1 hD1
          generalize H1 = H at hP hS ⊢
          have hP : va_P (dC, dI) vwCl [(r, .inr (0, [.ref k, .ref t, .int (nI n), .int cm, .int w2])), (k, .inl (cA, 500, .inl K2)), (t, .inl (cB, 500, .inl T2))] H := hP
          have hD : va_D A [(r, .inr (0, [.ref k, .ref t, .int (nI n), .int cm, .int w2])), (k, .inl (cA, 500, .inl K2)), (t, .inl (cB, 500, .inl T2))] := hD
          obtain ⟨f2, hf2⟩ : ∃ f2, f2 = cn (fun j => mk o (K2 j) < mk o x) (ss + wd) ((min (ss + 2 * wd) b) - (ss + wd)) := ⟨_, rfl⟩
          rw [← hf2] at hr2
          subst hr2
          have hg2 : f2 ≤ (min (ss + 2 * wd) b) - (ss + wd) := by rw [hf2]; exact cn_le _ _ _
          refine lv_iadd hx hb dX1_splitInPlace_70 ?_
          refine lz_top (y := (nI ((ss + wd) + f2))) (nI_add _ _) ?_
          refine lv_istore (lv' := [(10, .int (nI ((ss + wd) + f2))), (9, .int (nI (ss + f1))), (8, .int (nI (min (ss + 2 * wd) b))), (7, .int (nI (ss + wd))), (0, .ref r), (1, .int (nI a)), (2, .int (nI b)), (3, .int x), (4, .int (nI o)), (5, .int (nI wd)), (6, .int (nI ss))]) hx hb dX1_splitInPlace_71 hl (by decide) rfl (fun ls hl => ?_)
          refine lv_aload_n hx hb dX1_splitInPlace_73 rfl (lv_at hl 4 rfl) ?_
          refine lv_iload hx hb dX1_splitInPlace_74 (lv_at hl 1 rfl) ?_
          refine lv_iload hx hb dX1_splitInPlace_76 (lv_at hl 3 rfl) ?_
          refine lv_iload hx hb dX1_splitInPlace_78 (lv_at hl 0 rfl) ?_
          have hPc := hP.sub (ws' := [(r, .inr (0, [.ref k, .ref t, .int (nI n), .int cm, .int w2])), (k, .inl (cA, 500, .inl K2)), (t, .inl (cB, 500, .inl T2))]) [0, 1, 2] rfl
          have hDc := hD.sub (ws' := [(r, .inr (0, [.ref k, .ref t, .int (nI n), .int cm, .int w2])), (k, .inl (cA, 500, .inl K2)), (t, .inl (cB, 500, .inl T2))]) [0, 1, 2] (by decide) rfl
          have hKc := hK.sub (tys' := [(cA, .int), (cB, .int)]) [0, 1] rfl
          have hFc := va_free (wc := [(r, .inr (0, [.ref k, .ref t, .int (nI n), .int cm, .int w2])), (k, .inl (cA, 500, .inl K2)), (t, .inl (cB, 500, .inl T2))]) hD hS hA [0, 1, 2] rfl
          refine va_callv (va_runV (As := [.int (nI (ss + f1)), .int (nI (ss + wd)), .int (nI ((ss + wd) + f2))]) (rest := []) ⟨hx, hb, hml, hown, hts⟩ (c_X1_swapBlocks l dC dI H.size r k t cA cB n cm w2 K2 T2 (ss + f1) (ss + wd) (ss + wd + f2) (by omega) (by omega) (by omega)) (cwV 3 hts gX1_splitInPlace_X1_swapBlocks rfl rfl rfl (by decide +kernel) ⟨Nat.le_of_ble_eq_true rfl, Nat.le_of_ble_eq_true rfl⟩) ⟨fun a U g mk q => by obtain ⟨q0, q1, qP, qK, qD⟩ := q; exact ⟨q0, q1, qP, va_K.moved (u := U) (U := U.calling g mk a) (Vm.Alike.refl U.vm) qK, qD⟩, va_recv hKc hPc (ci := 0) (q0 := 0) rfl rfl, fun U hU hW => ⟨rfl, by rw [hU], by rw [hU]; exact hPc, va_K.moved hW.alike hKc, hDc.weaken (fun _ _ _ _ => trivial)⟩⟩ rfl rfl hl.1 rfl (lv_room (Nat.le_of_ble_eq_true rfl)) dX1_splitInPlace_80 ⟨Nat.le_of_ble_eq_true rfl, Nat.le_of_ble_eq_true rfl⟩) hS (fun q _ h => hFc q h) hFc (fun u tS H1 locs ht hvm hw hB hz1 hk1 hS => ?_)
          obtain ⟨K5, T5, n5, c5, w5⟩ := u
          obtain ⟨hm5, hn5, hc5, d5, hd5, hw5⟩ := hw
          dsimp only at hm5 hn5 hc5 hw5
          subst hn5; subst hc5; subst hw5
          obtain ⟨hP1, hK1, hD1⟩ := hB
          rw [ht] at hP1
          obtain ⟨hP, hD⟩ := va_join (wr := []) (w1 := [(r, .inr (0, [.ref k, .ref t, .int (nI n), .int cm, .int (w2 + nI d5)])), (k, .inl (cA, 500, .inl K5)), (t, .inl (cB, 500, .inl T5))]) hP hD [0, 1, 2] [] rfl rfl (by decide) (by decide) hk1 hFc hP1 hD1
          generalize H1 = H at hP hS ⊢
          have hP : va_P (dC, dI) vwCl [(r, .inr (0, [.ref k, .ref t, .int (nI n), .int cm, .int (w2 + nI d5)])), (k, .inl (cA, 500, .inl K5)), (t, .inl (cB, 500, .inl T5))] H := hP
          have hD : va_D A [(r, .inr (0, [.ref k, .ref t, .int (nI n), .int cm, .int (w2 + nI d5)])), (k, .inl (cA, 500, .inl K5)), (t, .inl (cB, 500, .inl T5))] := hD
          obtain ⟨s1, s2⟩ := bs_two vi2
          rw [show min (ss + wd) b = ss + wd by omega] at s1
          obtain ⟨zo, zs, zm⟩ := split_step (f := mZ K2 T2) (by omega) (by omega) s1 s2 hf1 hf2
          rw [← hm5] at zo zs zm
          refine lv_iload hx hb dX1_splitInPlace_83 (lv_at hl 10 rfl) ?_
          refine lv_iconst (v := (nI 2)) hx hb dX1_splitInPlace_85 (by decide) ?_
          refine lv_iload hx hb dX1_splitInPlace_86 (lv_at hl 9 rfl) ?_
          refine lv_imul hx hb dX1_splitInPlace_88 ?_
          refine lz_top (y := (nI (2 * wd))) (pk_mul _ _) ?_
          refine lv_iadd hx hb dX1_splitInPlace_89 ?_
          refine lz_top (y := (nI (ss + (2 * wd)))) (nI_add _ _) ?_
          refine lv_istore (lv' := [(6, .int (nI (ss + (2 * wd)))), (10, .int (nI ((ss + wd) + f2))), (9, .int (nI (ss + f1))), (8, .int (nI (min (ss + 2 * wd) b))), (7, .int (nI (ss + wd))), (0, .ref r), (1, .int (nI a)), (2, .int (nI b)), (3, .int x), (4, .int (nI o)), (5, .int (nI wd))]) hx hb dX1_splitInPlace_90 hl (by decide) rfl (fun ls hl => ?_)
          refine lv_goto (tgt := 14) hx hb dX1_splitInPlace_92 (by decide) ?_
          exact ihi ((ss + (2 * wd)), K5, T5, (w2 + nI d5), (q + 1)) (by show b + wd - (ss + 2 * wd) < b + wd - ss; omega) _ _ _ ⟨by rw [Nat.add_mul, Nat.one_mul]; omega, (bs_step vi0 vi1 vi2 zo zs).1, (bs_step vi0 vi1 vi2 zo zs).2, fun i z => (zo i (by omega)).trans (vi3 i z), sm_tr vi4 (sm_wide (by omega) (by omega) (by omega) zo zm), by omega, hP, hD, hS, lv_sub hl [5, 6, 7, 8, 9, 10, 0] rfl⟩
      · exact ⟨by omega, pr_0, vh1, vh2, vh3, by omega, hP, hD, hS, lv_sub hl [1, 2, 3, 4, 5, 6, 0] rfl⟩
  · exact ⟨by decide, bs_one, fun _ _ => rfl, sm_rf, hP, hD, hS, lv_sub hl [1, 2, 3, 4, 5, 0] rfl⟩
set_option maxHeartbeats 4000000 in
set_option maxRecDepth 100000 in
theorem c_X1_dropAlike (l : Launch) (dC : Nat → ClassId) (dI : Nat → Nat → Nat) (sz : Nat) (r k t : Nat) (cA cB : ClassId) (n : Nat) (cm wr : Int32) (K T : Nat → Int32) (o : Nat) (hn : n ≤ 500) (ho : o < 4) (hs : srt (mk o) (mZ K T) 0 n) : Met l yX1_dropAlike wsX1_dropAlike ({ frames := 2, cells := 0, slots := 0, locals := 45 }) (va_Pc [.ref r, .int (nI o)] (fun U => U.heap.size = sz ∧ va_P (dC, dI) vwCl [(r, .inr (0, [.ref k, .ref t, .int (nI n), .int cm, .int wr])), (k, .inl (cA, 500, .inl K)), (t, .inl (cB, 500, .inl T))] U.heap ∧ va_K (dC, dI) vwCl [(cA, .int), (cB, .int)] U ∧ va_D (fun _ => True) [(r, .inr (0, [.ref k, .ref t, .int (nI n), .int cm, .int wr])), (k, .inl (cA, 500, .inl K)), (t, .inl (cB, 500, .inl T))])) (va_Qv (fun u => u.2.2.1 = cn (kp o (mZ K T)) 0 (n - 0) ∧ u.2.2.1 ≤ n ∧ ∀ i, i < n → kp o (mZ K T) i → mZ u.1 u.2.1 (cn (kp o (mZ K T)) 0 (i - 0)) = mZ K T i) (atR dC dI (va_A [(r, .inr (0, [.ref k, .ref t, .int (nI n), .int cm, .int wr])), (k, .inl (cA, 500, .inl K)), (t, .inl (cB, 500, .inl T))] sz) r k t cA cB) (va_A [(r, .inr (0, [.ref k, .ref t, .int (nI n), .int cm, .int wr])), (k, .inl (cA, 500, .inl K)), (t, .inl (cB, 500, .inl T))] sz)) 0 0 (va_A [(r, .inr (0, [.ref k, .ref t, .int (nI n), .int cm, .int wr])), (k, .inl (cA, 500, .inl K)), (t, .inl (cB, 500, .inl T))] sz) := by
  refine Met.ofW (cc := cX1_dropAlike) (maxL := 4) (ret := none) (by decide) rfl ?_
  intro p e s m args below meth c s₁ B hml hv
  obtain ⟨rfl, hsz, hP, hK, hD0⟩ := hv
  have hx := B.exec
  have hb := B.bytes
  have hr := B.returns
  have hts := atoms_spec (ws := wsX1_dropAlike) B.pre
  have hown : s.vm.findClass RX1 = some m.cls := findClass_of_methodNamed B.named
  have hlocks := B.notSynchronized
  subst hsz
  have hD := hD0.self (sz := s.heap.size)
  generalize hAe : va_A [(r, .inr (0, [.ref k, .ref t, .int (nI n), .int cm, .int wr])), (k, .inl (cA, 500, .inl K)), (t, .inl (cB, 500, .inl T))] s.heap.size = A at hD ⊢
  have hA : ∀ q : Nat, s.heap.size ≤ q → A q := fun q h => by rw [← hAe]; exact Or.inr h
  have hS : va_S A s.heap s.heap [] := va_S.rf
  have hP : va_P (dC, dI) vwCl [(r, .inr (0, [.ref k, .ref t, .int (nI n), .int cm, .int wr])), (k, .inl (cA, 500, .inl K)), (t, .inl (cB, 500, .inl T))] s.heap := hP
  have hl := lv_entry ([.ref r, .int (nI o)]) (n := 4) (Nat.le_of_ble_eq_true rfl)
  rw [lg_entry_eq]
  generalize (lg_sl ([.ref r, .int (nI o)]) ++ List.replicate (4 - (lg_sl ([.ref r, .int (nI o)])).length) Slot.unset).toArray = ls at hl ⊢
  have hl : lv_has ls 4 [(0, .ref r), (1, .int (nI o))] := hl
  refine lv_iconst (v := (nI 0)) hx hb dX1_dropAlike_0 (by decide) ?_
  refine lv_istore_n (lv' := [(2, .int (nI 0)), (0, .ref r), (1, .int (nI o))]) hx hb dX1_dropAlike_1 rfl hl (by decide) rfl (fun ls hl => ?_)
  refine lv_iconst (v := (nI 0)) hx hb dX1_dropAlike_2 (by decide) ?_
  refine lv_istore_n (lv' := [(3, .int (nI 0)), (2, .int (nI 0)), (0, .ref r), (1, .int (nI o))]) hx hb dX1_dropAlike_3 rfl hl (by decide) rfl (fun ls hl => ?_)
  refine lz_loop (σ := Nat × Nat × (Nat → Int32) × (Nat → Int32) × Int32) (μ := fun X_ => match X_ with | (lf, q, K1, T1, c1) => n - q) (Inv := fun X_ H locs ls => match X_ with | (lf, q, K1, T1, c1) => (q ≤ n) ∧ (thI o (mZ K T) (mZ K1 T1) lf q) ∧ va_P (dC, dI) vwCl [(r, .inr (0, [.ref k, .ref t, .int (nI n), .int c1, .int wr])), (k, .inl (cA, 500, .inl K1)), (t, .inl (cB, 500, .inl T1))] H ∧ va_D A [(r, .inr (0, [.ref k, .ref t, .int (nI n), .int c1, .int wr])), (k, .inl (cA, 500, .inl K1)), (t, .inl (cB, 500, .inl T1))] ∧ va_S A s.heap H locs ∧ lv_has ls 4 [(0, .ref r), (1, .int (nI o)), (2, .int (nI lf)), (3, .int (nI q))]) ?_ (0, 0, K, T, cm) _ _ _ ?_
  · rintro ⟨lf, q, K1, T1, c1⟩ ihj H locs ls ⟨vj0, vj1, hP, hD, hS, hl⟩
    refine lv_iload_n hx hb dX1_dropAlike_4 rfl (lv_at hl 3 rfl) ?_
    refine lv_aload_n hx hb dX1_dropAlike_5 rfl (lv_at hl 0 rfl) ?_
    refine va_get (D := (dC, dI)) (ci := 0) (v := .int (nI n)) (C := RX1) (T := TX1) (N := 5) hx hb hts (by decide +kernel) hown hK hP 0 rfl rfl 2 (by decide) (hts (.fieldLink RX1 16 "RowPress$Row" "size" "I") (by decide +kernel)) (fun _ h9 => h9) rfl dX1_dropAlike_6 ?_
    refine lz_icmp_ge (tgt := 61) (by omega) (by omega) hx hb dX1_dropAlike_9 (by decide) (fun c9 => ?_) (fun c9 => ?_)
    · refine lv_aload_n hx hb dX1_dropAlike_61 rfl (lv_at hl 0 rfl) ?_
      refine lv_iload_n hx hb dX1_dropAlike_62 rfl (lv_at hl 2 rfl) ?_
      refine va_put (D := (dC, dI)) (ci := 0) (v := .int (nI lf)) (ty := .int) (C := RX1) (T := TX1) (N := 5) hx hb hts (by decide +kernel) tyX1 tyX1_ok nmX1 hown hK hP hD hS 0 rfl rfl 2 (by decide) (hts (.fieldLink RX1 16 "RowPress$Row" "size" "I") (by decide +kernel)) (fun _ h9 => h9) rfl (by decide +kernel) rfl rfl (Nat.le_of_ble_eq_true rfl) dX1_dropAlike_63 (fun H locs hP hD hS => ?_)
      have hP : va_P (dC, dI) vwCl [(r, .inr (0, [.ref k, .ref t, .int (nI lf), .int c1, .int wr])), (k, .inl (cA, 500, .inl K1)), (t, .inl (cB, 500, .inl T1))] H := hP
      have hD : va_D A [(r, .inr (0, [.ref k, .ref t, .int (nI lf), .int c1, .int wr])), (k, .inl (cA, 500, .inl K1)), (t, .inl (cB, 500, .inl T1))] := hD
      exact W.vret hx hb hr (fun tS ht hW => ⟨⟨(K1, T1, lf, c1, wr), rfl, ⟨by rw [show n = q by omega]; exact vj1.1, by have := vj1.2.1; show lf ≤ n; omega, fun i z => vj1.2.2.1 i (by omega)⟩, by rw [ht]; exact hP, va_K.moved hW.alike hK, hD⟩, hS.F ht⟩) hS.2.2 dX1_dropAlike_66
    · have hlq : lf ≤ q := vj1.2.1
      refine lv_iload_n hx hb dX1_dropAlike_12 rfl (lv_at hl 2 rfl) ?_
      refine lz_if_eq (tgt := 28) (by omega) hx hb dX1_dropAlike_13 (by decide) (fun c13 => ?_) (fun c13 => ?_)
      · refine lv_aload_n hx hb dX1_dropAlike_28 rfl (lv_at hl 0 rfl) ?_
        refine va_get (D := (dC, dI)) (ci := 0) (v := .ref k) (C := RX1) (T := TX1) (N := 5) hx hb hts (by decide +kernel) hown hK hP 0 rfl rfl 0 (by decide) (hts (.fieldLink RX1 9 "RowPress$Row" "keys" "[I") (by decide +kernel)) (fun _ h9 => h9) rfl dX1_dropAlike_29 ?_
        refine lv_iload_n hx hb dX1_dropAlike_32 rfl (lv_at hl 2 rfl) ?_
        refine lv_aload_n hx hb dX1_dropAlike_33 rfl (lv_at hl 0 rfl) ?_
        refine va_get (D := (dC, dI)) (ci := 0) (v := .ref k) (C := RX1) (T := TX1) (N := 5) hx hb hts (by decide +kernel) hown hK hP 0 rfl rfl 0 (by decide) (hts (.fieldLink RX1 9 "RowPress$Row" "keys" "[I") (by decide +kernel)) (fun _ h9 => h9) rfl dX1_dropAlike_34 ?_
        refine lv_iload_n hx hb dX1_dropAlike_37 rfl (lv_at hl 3 rfl) ?_
        refine lz_iald hx hb hK hP 1 0 rfl rfl (j := q) (by omega) (by decide) dX1_dropAlike_38 ?_
        refine lz_iast hx hb hK hP hD hS 1 0 rfl rfl (j := lf) (x := (K1 q)) (by omega) (by decide) dX1_dropAlike_39 (fun H locs hP hD hS => ?_)
        have hP : va_P (dC, dI) vwCl [(r, .inr (0, [.ref k, .ref t, .int (nI n), .int c1, .int wr])), (k, .inl (cA, 500, .inl (upd K1 lf (K1 q)))), (t, .inl (cB, 500, .inl T1))] H := hP
        have hD : va_D A [(r, .inr (0, [.ref k, .ref t, .int (nI n), .int c1, .int wr])), (k, .inl (cA, 500, .inl (upd K1 lf (K1 q)))), (t, .inl (cB, 500, .inl T1))] := hD
        refine lv_aload_n hx hb dX1_dropAlike_40 rfl (lv_at hl 0 rfl) ?_
        refine va_get (D := (dC, dI)) (ci := 0) (v := .ref t) (C := RX1) (T := TX1) (N := 5) hx hb hts (by decide +kernel) hown hK hP 0 rfl rfl 1 (by decide) (hts (.fieldLink RX1 13 "RowPress$Row" "tags" "[I") (by decide +kernel)) (fun _ h9 => h9) rfl dX1_dropAlike_41 ?_
        refine lv_iload_n hx hb dX1_dropAlike_44 rfl (lv_at hl 2 rfl) ?_
        refine lv_aload_n hx hb dX1_dropAlike_45 rfl (lv_at hl 0 rfl) ?_
        refine va_get (D := (dC, dI)) (ci := 0) (v := .ref t) (C := RX1) (T := TX1) (N := 5) hx hb hts (by decide +kernel) hown hK hP 0 rfl rfl 1 (by decide) (hts (.fieldLink RX1 13 "RowPress$Row" "tags" "[I") (by decide +kernel)) (fun _ h9 => h9) rfl dX1_dropAlike_46 ?_
        refine lv_iload_n hx hb dX1_dropAlike_49 rfl (lv_at hl 3 rfl) ?_
        refine lz_iald hx hb hK hP 2 1 rfl rfl (j := q) (by omega) (by decide) dX1_dropAlike_50 ?_
        refine lz_iast hx hb hK hP hD hS 2 1 rfl rfl (j := lf) (x := (T1 q)) (by omega) (by decide) dX1_dropAlike_51 (fun H locs hP hD hS => ?_)
        have hP : va_P (dC, dI) vwCl [(r, .inr (0, [.ref k, .ref t, .int (nI n), .int c1, .int wr])), (k, .inl (cA, 500, .inl (upd K1 lf (K1 q)))), (t, .inl (cB, 500, .inl (upd T1 lf (T1 q))))] H := hP
        have hD : va_D A [(r, .inr (0, [.ref k, .ref t, .int (nI n), .int c1, .int wr])), (k, .inl (cA, 500, .inl (upd K1 lf (K1 q)))), (t, .inl (cB, 500, .inl (upd T1 lf (T1 q))))] := hD
        refine lv_iinc (v := (nI (lf + 1))) (lv' := [(2, .int (nI (lf + 1))), (0, .ref r), (1, .int (nI o)), (3, .int (nI q))]) hx hb dX1_dropAlike_52 hl (k := 2) rfl (by first | exact nI_add lf 1 | (rw [← nI_add]; rfl)) (by decide) rfl (fun ls hl => ?_)
        refine lv_iinc (v := (nI (q + 1))) (lv' := [(3, .int (nI (q + 1))), (2, .int (nI (lf + 1))), (0, .ref r), (1, .int (nI o))]) hx hb dX1_dropAlike_55 hl (k := 3) rfl (by first | exact nI_add q 1 | (rw [← nI_add]; rfl)) (by decide) rfl (fun ls hl => ?_)
        refine lv_goto (tgt := 4) hx hb dX1_dropAlike_58 (by decide) ?_
        exact ihj ((lf + 1), (q + 1), (upd K1 lf (K1 q)), (upd T1 lf (T1 q)), c1) (by show n - (q + 1) < n - q; omega) _ _ _ ⟨by omega, thI_keep vj1 (Or.inl (by have := vj1.2.2.2.2; omega)) (mZ_put K1 T1 lf (K1 q) (T1 q)), hP, hD, hS, lv_sub hl [2, 3, 1, 0] rfl⟩
      · refine lv_aload_n hx hb dX1_dropAlike_16 rfl (lv_at hl 0 rfl) ?_
        refine lv_iload_n hx hb dX1_dropAlike_17 rfl (lv_at hl 2 rfl) ?_
        refine lv_iconst (v := (nI 1)) hx hb dX1_dropAlike_18 (by decide) ?_
        refine lv_isub hx hb dX1_dropAlike_19 ?_
        refine lz_top (y := (nI (lf - 1))) (pk_sub (by omega)) ?_
        refine lv_iload_n hx hb dX1_dropAlike_20 rfl (lv_at hl 3 rfl) ?_
        refine lv_iload_n hx hb dX1_dropAlike_21 rfl (lv_at hl 1 rfl) ?_
        have hPc := hP.sub (ws' := [(r, .inr (0, [.ref k, .ref t, .int (nI n), .int c1, .int wr])), (k, .inl (cA, 500, .inl K1)), (t, .inl (cB, 500, .inl T1))]) [0, 1, 2] rfl
        have hDc := hD.sub (ws' := [(r, .inr (0, [.ref k, .ref t, .int (nI n), .int c1, .int wr])), (k, .inl (cA, 500, .inl K1)), (t, .inl (cB, 500, .inl T1))]) [0, 1, 2] (by decide) rfl
        have hKc := hK.sub (tys' := [(cA, .int), (cB, .int)]) [0, 1] rfl
        have hFc := va_free (wc := [(r, .inr (0, [.ref k, .ref t, .int (nI n), .int c1, .int wr])), (k, .inl (cA, 500, .inl K1)), (t, .inl (cB, 500, .inl T1))]) hD hS hA [0, 1, 2] rfl
        refine va_calli (va_runV (As := [.int (nI (lf - 1)), .int (nI q), .int (nI o)]) (rest := []) ⟨hx, hb, hml, hown, hts⟩ (c_X1_lessAt l dC dI H.size r k t cA cB n c1 wr K1 T1 (lf - 1) q o (by omega) (by omega) ho) (cwV 3 hts gX1_dropAlike_X1_lessAt rfl rfl rfl (by decide +kernel) ⟨Nat.le_of_ble_eq_true rfl, Nat.le_of_ble_eq_true rfl⟩) ⟨fun a U g mk q => by obtain ⟨q0, q1, qP, qK, qD⟩ := q; exact ⟨q0, q1, qP, va_K.moved (u := U) (U := U.calling g mk a) (Vm.Alike.refl U.vm) qK, qD⟩, va_recv hKc hPc (ci := 0) (q0 := 0) rfl rfl, fun U hU hW => ⟨rfl, by rw [hU], by rw [hU]; exact hPc, va_K.moved hW.alike hKc, hDc.weaken (fun _ _ _ _ => trivial)⟩⟩ rfl rfl hl.1 rfl (lv_room (Nat.le_of_ble_eq_true rfl)) dX1_dropAlike_22 ⟨Nat.le_of_ble_eq_true rfl, Nat.le_of_ble_eq_true rfl⟩) hS (fun q _ h => hFc q h) hFc (fun r_1 u tS H1 locs ht hvm hw hB hz1 hk1 hS => ?_)
        obtain ⟨hq, rfl⟩ := hw
        obtain ⟨hP1, hK1, hD1⟩ := hB
        rw [ht] at hP1
        obtain ⟨hP, hD⟩ := va_join (wr := []) (w1 := [(r, .inr (0, [.ref k, .ref t, .int (nI n), .int (c1 + nI 1), .int wr])), (k, .inl (cA, 500, .inl K1)), (t, .inl (cB, 500, .inl T1))]) hP hD [0, 1, 2] [] rfl rfl (by decide) (by decide) hk1 hFc hP1 hD1
        generalize H1 = H at hP hS ⊢
        have hP : va_P (dC, dI) vwCl [(r, .inr (0, [.ref k, .ref t, .int (nI n), .int (c1 + nI 1), .int wr])), (k, .inl (cA, 500, .inl K1)), (t, .inl (cB, 500, .inl T1))] H := hP
        have hD : va_D A [(r, .inr (0, [.ref k, .ref t, .int (nI n), .int (c1 + nI 1), .int wr])), (k, .inl (cA, 500, .inl K1)), (t, .inl (cB, 500, .inl T1))] := hD
        refine lv_if_eq (tgt := 55) hx hb dX1_dropAlike_25 (by decide) (fun c25 => ?_) (fun c25 => ?_)
        · refine lv_iinc (v := (nI (q + 1))) (lv' := [(3, .int (nI (q + 1))), (0, .ref r), (1, .int (nI o)), (2, .int (nI lf))]) hx hb dX1_dropAlike_55 hl (k := 3) rfl (by first | exact nI_add q 1 | (rw [← nI_add]; rfl)) (by decide) rfl (fun ls hl => ?_)
          refine lv_goto (tgt := 4) hx hb dX1_dropAlike_58 (by decide) ?_
          exact ihj (lf, (q + 1), K1, T1, (c1 + nI 1)) (by show n - (q + 1) < n - q; omega) _ _ _ ⟨by omega, thI_skip vj1 (by omega) hs c13 (fun z => tr_0 hq c25 ((thI_ask vj1 c13).mpr z)), hP, hD, hS, lv_sub hl [1, 2, 3, 0] rfl⟩
        · refine lv_aload_n hx hb dX1_dropAlike_28 rfl (lv_at hl 0 rfl) ?_
          refine va_get (D := (dC, dI)) (ci := 0) (v := .ref k) (C := RX1) (T := TX1) (N := 5) hx hb hts (by decide +kernel) hown hK hP 0 rfl rfl 0 (by decide) (hts (.fieldLink RX1 9 "RowPress$Row" "keys" "[I") (by decide +kernel)) (fun _ h9 => h9) rfl dX1_dropAlike_29 ?_
          refine lv_iload_n hx hb dX1_dropAlike_32 rfl (lv_at hl 2 rfl) ?_
          refine lv_aload_n hx hb dX1_dropAlike_33 rfl (lv_at hl 0 rfl) ?_
          refine va_get (D := (dC, dI)) (ci := 0) (v := .ref k) (C := RX1) (T := TX1) (N := 5) hx hb hts (by decide +kernel) hown hK hP 0 rfl rfl 0 (by decide) (hts (.fieldLink RX1 9 "RowPress$Row" "keys" "[I") (by decide +kernel)) (fun _ h9 => h9) rfl dX1_dropAlike_34 ?_
          refine lv_iload_n hx hb dX1_dropAlike_37 rfl (lv_at hl 3 rfl) ?_
          refine lz_iald hx hb hK hP 1 0 rfl rfl (j := q) (by omega) (by decide) dX1_dropAlike_38 ?_
          refine lz_iast hx hb hK hP hD hS 1 0 rfl rfl (j := lf) (x := (K1 q)) (by omega) (by decide) dX1_dropAlike_39 (fun H locs hP hD hS => ?_)
          have hP : va_P (dC, dI) vwCl [(r, .inr (0, [.ref k, .ref t, .int (nI n), .int (c1 + nI 1), .int wr])), (k, .inl (cA, 500, .inl (upd K1 lf (K1 q)))), (t, .inl (cB, 500, .inl T1))] H := hP
          have hD : va_D A [(r, .inr (0, [.ref k, .ref t, .int (nI n), .int (c1 + nI 1), .int wr])), (k, .inl (cA, 500, .inl (upd K1 lf (K1 q)))), (t, .inl (cB, 500, .inl T1))] := hD
          refine lv_aload_n hx hb dX1_dropAlike_40 rfl (lv_at hl 0 rfl) ?_
          refine va_get (D := (dC, dI)) (ci := 0) (v := .ref t) (C := RX1) (T := TX1) (N := 5) hx hb hts (by decide +kernel) hown hK hP 0 rfl rfl 1 (by decide) (hts (.fieldLink RX1 13 "RowPress$Row" "tags" "[I") (by decide +kernel)) (fun _ h9 => h9) rfl dX1_dropAlike_41 ?_
          refine lv_iload_n hx hb dX1_dropAlike_44 rfl (lv_at hl 2 rfl) ?_
          refine lv_aload_n hx hb dX1_dropAlike_45 rfl (lv_at hl 0 rfl) ?_
          refine va_get (D := (dC, dI)) (ci := 0) (v := .ref t) (C := RX1) (T := TX1) (N := 5) hx hb hts (by decide +kernel) hown hK hP 0 rfl rfl 1 (by decide) (hts (.fieldLink RX1 13 "RowPress$Row" "tags" "[I") (by decide +kernel)) (fun _ h9 => h9) rfl dX1_dropAlike_46 ?_
          refine lv_iload_n hx hb dX1_dropAlike_49 rfl (lv_at hl 3 rfl) ?_
          refine lz_iald hx hb hK hP 2 1 rfl rfl (j := q) (by omega) (by decide) dX1_dropAlike_50 ?_
          refine lz_iast hx hb hK hP hD hS 2 1 rfl rfl (j := lf) (x := (T1 q)) (by omega) (by decide) dX1_dropAlike_51 (fun H locs hP hD hS => ?_)
          have hP : va_P (dC, dI) vwCl [(r, .inr (0, [.ref k, .ref t, .int (nI n), .int (c1 + nI 1), .int wr])), (k, .inl (cA, 500, .inl (upd K1 lf (K1 q)))), (t, .inl (cB, 500, .inl (upd T1 lf (T1 q))))] H := hP
          have hD : va_D A [(r, .inr (0, [.ref k, .ref t, .int (nI n), .int (c1 + nI 1), .int wr])), (k, .inl (cA, 500, .inl (upd K1 lf (K1 q)))), (t, .inl (cB, 500, .inl (upd T1 lf (T1 q))))] := hD
          refine lv_iinc (v := (nI (lf + 1))) (lv' := [(2, .int (nI (lf + 1))), (0, .ref r), (1, .int (nI o)), (3, .int (nI q))]) hx hb dX1_dropAlike_52 hl (k := 2) rfl (by first | exact nI_add lf 1 | (rw [← nI_add]; rfl)) (by decide) rfl (fun ls hl => ?_)
          refine lv_iinc (v := (nI (q + 1))) (lv' := [(3, .int (nI (q + 1))), (2, .int (nI (lf + 1))), (0, .ref r), (1, .int (nI o))]) hx hb dX1_dropAlike_55 hl (k := 3) rfl (by first | exact nI_add q 1 | (rw [← nI_add]; rfl)) (by decide) rfl (fun ls hl => ?_)
          refine lv_goto (tgt := 4) hx hb dX1_dropAlike_58 (by decide) ?_
          exact ihj ((lf + 1), (q + 1), (upd K1 lf (K1 q)), (upd T1 lf (T1 q)), (c1 + nI 1)) (by show n - (q + 1) < n - q; omega) _ _ _ ⟨by omega, thI_keep vj1 ((thI_ask vj1 c13).mp (tr_1 hq c25)) (mZ_put K1 T1 lf (K1 q) (T1 q)), hP, hD, hS, lv_sub hl [2, 3, 1, 0] rfl⟩
  · exact ⟨Nat.zero_le _, thI_0, hP, hD, hS, lv_sub hl [2, 3, 1, 0] rfl⟩
end
section
/-! WHAT EACH CALL DOES, in words of how many there are (n) and the pairs (f); C the class's words, R the reference's, where they differ; and that both agree. -/
def sam (n : Nat) (f : Nat → mP) (n1 : Nat) (f1 : Nat → mP) : Prop := n1 = n ∧ ∀ j, j < n → f1 j = f j
def ag (n : Nat) (f : Nat → mP) (n' : Nat) (f' : Nat → mP) : Prop := n = n' ∧ ∀ j, j < n → f j = f' j
theorem sam_rf {n : Nat} {f : Nat → mP} : sam n f n f := ⟨rfl, fun _ _ => rfl⟩
theorem ag_sam {n n1 n1' : Nat} {f f' f1 f1' : Nat → mP} (h : ∀ j, j < n → f j = f' j) (h1 : sam n f n1 f1) (h2 : sam n f' n1' f1') : ag n1 f1 n1' f1' :=
  ⟨by rw [h1.1, h2.1], fun j hj => by rw [h1.1] at hj; rw [h1.2 j hj, h2.2 j hj, h j hj]⟩
/-- a call is either refused or read -/
def cs {α : Type} (dec : α → Prop) (bad : Prop) (good : α → Prop) : Prop := (bad ∧ ∀ x, ¬ dec x) ∨ ∃ x, dec x ∧ good x
theorem cs_ag {α : Type} {dec : α → Prop} {bad bad' : Prop} {good good' : α → Prop} (hu : ∀ x y, dec x → dec y → x = y) (h : cs dec bad good) (h' : cs dec bad' good') : (bad ∧ bad') ∨ ∃ x, dec x ∧ good x ∧ good' x := by
  rcases h with ⟨h1, h2⟩ | ⟨x, h1, h2⟩
  · rcases h' with ⟨k1, _⟩ | ⟨y, k1, _⟩
    · exact Or.inl ⟨h1, k1⟩
    · exact absurd k1 (h2 y)
  · rcases h' with ⟨_, k2⟩ | ⟨y, k1, k2⟩
    · exact absurd h1 (k2 x)
    · have := hu x y h1 k1
      subst this
      exact Or.inr ⟨x, h1, h2, k2⟩
theorem nI_inj {a b : Nat} {x : Int32} (h1 : x = nI a) (h2 : x = nI b) (ha : a ≤ 500) (hb : b ≤ 500) : a = b := (nI_eq (by omega) (by omega)).mp (h1.symm.trans h2)
def dN (n : Nat) (x : Int32) (z : Nat) : Prop := x = nI z ∧ 1 ≤ z ∧ n + z ≤ 500
def dP (n : Nat) (x : Int32) (z : Nat) : Prop := x = nI z ∧ z < n
def dO (o : Int32) (z : Nat) : Prop := o = nI z ∧ z < 4
def dT (n : Nat) (x y : Int32) (z : Nat × Nat) : Prop := x = nI z.1 ∧ y = nI z.2 ∧ z.1 ≤ z.2 ∧ z.2 ≤ n
def dS (n : Nat) (x y o : Int32) (z : Nat × Nat × Nat) : Prop := x = nI z.1 ∧ y = nI z.2.1 ∧ o = nI z.2.2 ∧ z.1 ≤ z.2.1 ∧ z.2.1 ≤ n ∧ z.2.2 < 4
def dM (n : Nat) (x y v : Int32) (z : Nat × Nat × Nat) : Prop := x = nI z.1 ∧ y = nI z.2.1 ∧ v = nI z.2.2 ∧ z.1 ≤ z.2.1 ∧ z.2.1 ≤ z.2.2 ∧ z.2.2 ≤ n
def dG (n : Nat) (x y v o : Int32) (z : Nat × Nat × Nat × Nat) : Prop := x = nI z.1 ∧ y = nI z.2.1 ∧ v = nI z.2.2.1 ∧ o = nI z.2.2.2 ∧ z.1 ≤ z.2.1 ∧ z.2.1 ≤ z.2.2.1 ∧ z.2.2.1 ≤ n ∧ z.2.2.2 < 4
def dF (o w : Int32) (z : Nat × Nat) : Prop := o = nI z.1 ∧ w = nI z.2 ∧ z.1 < 4 ∧ z.2 < 2
def dR (n : Nat) (x o : Int32) (z : Nat × Nat) : Prop := x = nI z.1 ∧ o = nI z.2 ∧ z.1 < n ∧ z.2 < 4
theorem dN_u {n : Nat} {x : Int32} (u v : Nat) (h : dN n x u) (k : dN n x v) : u = v := nI_inj h.1 k.1 (by have := h.2; omega) (by have := k.2; omega)
theorem dP_u {n : Nat} {x : Int32} (hn : n ≤ 500) (u v : Nat) (h : dP n x u) (k : dP n x v) : u = v := nI_inj h.1 k.1 (by have := h.2; omega) (by have := k.2; omega)
theorem dO_u {o : Int32} (u v : Nat) (h : dO o u) (k : dO o v) : u = v := nI_inj h.1 k.1 (by have := h.2; omega) (by have := k.2; omega)
theorem dT_u {n : Nat} {x y : Int32} (hn : n ≤ 500) (u v : Nat × Nat) (h : dT n x y u) (k : dT n x y v) : u = v := by
  obtain ⟨u1, u2⟩ := u; obtain ⟨v1, v2⟩ := v
  obtain ⟨h1, h2, h3, h4⟩ := h; obtain ⟨k1, k2, k3, k4⟩ := k
  dsimp only at *
  rw [nI_inj h1 k1 (by omega) (by omega), nI_inj h2 k2 (by omega) (by omega)]
theorem dS_u {n : Nat} {x y o : Int32} (hn : n ≤ 500) (u v : Nat × Nat × Nat) (h : dS n x y o u) (k : dS n x y o v) : u = v := by
  obtain ⟨u1, u2, u3⟩ := u; obtain ⟨v1, v2, v3⟩ := v
  obtain ⟨h1, h2, h3, h4, h5, h6⟩ := h; obtain ⟨k1, k2, k3, k4, k5, k6⟩ := k
  dsimp only at *
  rw [nI_inj h1 k1 (by omega) (by omega), nI_inj h2 k2 (by omega) (by omega), nI_inj h3 k3 (by omega) (by omega)]
theorem dM_u {n : Nat} {x y w : Int32} (hn : n ≤ 500) (u v : Nat × Nat × Nat) (h : dM n x y w u) (k : dM n x y w v) : u = v := by
  obtain ⟨u1, u2, u3⟩ := u; obtain ⟨v1, v2, v3⟩ := v
  obtain ⟨h1, h2, h3, h4, h5, h6⟩ := h; obtain ⟨k1, k2, k3, k4, k5, k6⟩ := k
  dsimp only at *
  rw [nI_inj h1 k1 (by omega) (by omega), nI_inj h2 k2 (by omega) (by omega), nI_inj h3 k3 (by omega) (by omega)]
theorem dG_u {n : Nat} {x y w o : Int32} (hn : n ≤ 500) (u v : Nat × Nat × Nat × Nat) (h : dG n x y w o u) (k : dG n x y w o v) : u = v := by
  obtain ⟨u1, u2, u3, u4⟩ := u; obtain ⟨v1, v2, v3, v4⟩ := v
  obtain ⟨h1, h2, h3, h4, h5, h6, h7, h8⟩ := h; obtain ⟨k1, k2, k3, k4, k5, k6, k7, k8⟩ := k
  dsimp only at *
  rw [nI_inj h1 k1 (by omega) (by omega), nI_inj h2 k2 (by omega) (by omega), nI_inj h3 k3 (by omega) (by omega), nI_inj h4 k4 (by omega) (by omega)]
theorem dF_u {o w : Int32} (u v : Nat × Nat) (h : dF o w u) (k : dF o w v) : u = v := by
  obtain ⟨u1, u2⟩ := u; obtain ⟨v1, v2⟩ := v
  obtain ⟨h1, h2, h3, h4⟩ := h; obtain ⟨k1, k2, k3, k4⟩ := k
  dsimp only at *
  rw [nI_inj h1 k1 (by omega) (by omega), nI_inj h2 k2 (by omega) (by omega)]
theorem dR_u {n : Nat} {x o : Int32} (hn : n ≤ 500) (u v : Nat × Nat) (h : dR n x o u) (k : dR n x o v) : u = v := by
  obtain ⟨u1, u2⟩ := u; obtain ⟨v1, v2⟩ := v
  obtain ⟨h1, h2, h3, h4⟩ := h; obtain ⟨k1, k2, k3, k4⟩ := k
  dsimp only at *
  rw [nI_inj h1 k1 (by omega) (by omega), nI_inj h2 k2 (by omega) (by omega)]
/-- what a reading says of the tests -/
theorem dO_e {o : Int32} {z : Nat} (h : dO o z) : exO o := by rw [h.1]; exact exO_nI h.2
theorem dP_e {n : Nat} {x : Int32} {z : Nat} (hn : n ≤ 500) (h : dP n x z) : plO n x := by
  obtain ⟨h1, h2⟩ := h
  rw [h1]; exact ⟨nI_pos (by omega), nI_ge h2 (by omega)⟩
theorem dT_e {n : Nat} {x y : Int32} {z : Nat × Nat} (hn : n ≤ 500) (h : dT n x y z) : stP n x y := by
  obtain ⟨h1, h2, h3, h4⟩ := h
  rw [h1, h2]; exact stP_nI hn h3 h4
theorem dS_e {n : Nat} {x y o : Int32} {z : Nat × Nat × Nat} (hn : n ≤ 500) (h : dS n x y o z) : exO o ∧ stP n x y := by
  obtain ⟨h1, h2, h3, h4, h5, h6⟩ := h
  rw [h1, h2, h3]; exact ⟨exO_nI h6, stP_nI hn h4 h5⟩
theorem dM_e {n : Nat} {x y v : Int32} {z : Nat × Nat × Nat} (hn : n ≤ 500) (h : dM n x y v z) : stP n x y ∧ stP n y v := by
  obtain ⟨h1, h2, h3, h4, h5, h6⟩ := h
  rw [h1, h2, h3]; exact ⟨stP_nI hn h4 (by omega), stP_nI hn h5 h6⟩
theorem dG_e {n : Nat} {x y v o : Int32} {z : Nat × Nat × Nat × Nat} (hn : n ≤ 500) (h : dG n x y v o z) : exO o ∧ stP n x y ∧ stP n y v := by
  obtain ⟨h1, h2, h3, h4, h5, h6, h7, h8⟩ := h
  rw [h1, h2, h3, h4]; exact ⟨exO_nI h8, stP_nI hn h5 (by omega), stP_nI hn h6 h7⟩
theorem dR_e {n : Nat} {x o : Int32} {z : Nat × Nat} (hn : n ≤ 500) (h : dR n x o z) : exO o ∧ plO n x := by
  obtain ⟨h1, h2, h3, h4⟩ := h
  rw [h1, h2]; exact ⟨exO_nI h4, nI_pos (by omega), nI_ge h3 (by omega)⟩
theorem dF_e {o w : Int32} {z : Nat × Nat} (h : dF o w z) : exO o ∧ (w = 0 ∨ w = nI 1) := by
  obtain ⟨h1, h2, h3, h4⟩ := h
  rw [h1, h2]
  refine ⟨exO_nI h3, ?_⟩
  rcases (show z.2 = 0 ∨ z.2 = 1 by omega) with q | q
  · rw [q]; exact Or.inl nI_0
  · rw [q]; exact Or.inr rfl
/-- pl looks at its stretch alone -/
theorem pl_congr {φ : Int32 → Int} {f g : Nat → mP} {a b k : Nat} (h : ∀ j, a ≤ j → j < b → f j = g j) (k1 : a ≤ k) (k2 : k < b) : pl φ f a b k = pl φ g a b k := by
  unfold pl
  congr 1
  exact cn_congr _ (fun j hj => by simp only [plP]; rw [h (a + j) (by omega) (by omega), h k k1 k2])
def soC (φ : Int32 → Int) (n : Nat) (f f1 : Nat → mP) (a b : Nat) : Prop := (∀ j, j < n → (j < a ∨ b ≤ j) → f1 j = f j) ∧ ∀ q, a ≤ q → q < b → ∃ k, a ≤ k ∧ k < b ∧ pl φ f a b k = q ∧ f k = f1 q
def soR (φ : Int32 → Int) (n : Nat) (f f1 : Nat → mP) (a b : Nat) : Prop := (∀ j, j < n → (j < a ∨ b ≤ j) → f1 j = f j) ∧ ∀ k, a ≤ k → k < b → f1 (pl φ f a b k) = f k
theorem so_ag {φ : Int32 → Int} {n : Nat} {f g f1 g1 : Nat → mP} {a b : Nat} (hb : b ≤ n) (h : soC φ n f f1 a b) (h' : soR φ n g g1 a b) (e : ∀ j, j < n → f j = g j) : ∀ j, j < n → f1 j = g1 j := by
  intro j hj
  by_cases c : j < a ∨ b ≤ j
  · rw [h.1 j hj c, h'.1 j hj c, e j hj]
  · obtain ⟨k, k1, k2, k3, k4⟩ := h.2 j (by omega) (by omega)
    have h2 := h'.2 k k1 k2
    rw [← pl_congr (f := f) (fun i _ i2 => e i (by omega)) k1 k2, k3] at h2
    rw [← k4, h2, e k (by omega)]
theorem soC_of {φ : Int32 → Int} {n : Nat} {f f1 : Nat → mP} {a b : Nat} (h1 : ∀ j, j < a ∨ b ≤ j → f1 j = f j) (h2 : srt φ f1 a b) (h3 : sm φ (sg f a b) (sg f1 a b)) : soC φ n f f1 a b :=
  ⟨fun j _ q => h1 j q, pl_onto h2 h3⟩
theorem sm_cn {φ : Int32 → Int} {f g : Nat → mP} {a b : Nat} (h : sm φ (sg f a b) (sg g a b)) (p : mP → Bool) : cn (fun j => p (f j) = true) a (b - a) = cn (fun j => p (g j) = true) a (b - a) := by
  have hp := ((sm_perm h).filter p).length_eq
  unfold sg at hp
  rw [fl_len, fl_len] at hp
  exact hp
def Qput (n : Nat) (f : Nat → mP) (x y : Int32) (r : Int32) (n1 : Nat) (f1 : Nat → mP) : Prop := (n = 500 ∧ r = -1 ∧ sam n f n1 f1) ∨ (n < 500 ∧ r = nI (n + 1) ∧ n1 = n + 1 ∧ f1 n = (x, y) ∧ ∀ j, j < n → f1 j = f j)
def Qrun (n : Nat) (f : Nat → mP) (x y v w : Int32) (r : Int32) (n1 : Nat) (f1 : Nat → mP) : Prop := cs (dN n x) (r = -1 ∧ sam n f n1 f1) (fun z => r = nI (n + z) ∧ n1 = n + z ∧ (∀ j, j < n → f1 j = f j) ∧ ∀ i, i < z → f1 (n + i) = (y + nI i * v, w + nI i))
def QsoC (n : Nat) (f : Nat → mP) (x y o : Int32) (r : Int32) (n1 : Nat) (f1 : Nat → mP) : Prop := cs (dS n x y o) (r = 0 ∧ sam n f n1 f1) (fun z => r = 1 ∧ n1 = n ∧ soC (mk z.2.2) n f f1 z.1 z.2.1)
def QsoR (n : Nat) (f : Nat → mP) (x y o : Int32) (r : Int32) (n1 : Nat) (f1 : Nat → mP) : Prop := cs (dS n x y o) (r = 0 ∧ sam n f n1 f1) (fun z => r = 1 ∧ n1 = n ∧ soR (mk z.2.2) n f f1 z.1 z.2.1)
def QmeC (n : Nat) (f : Nat → mP) (x y v o : Int32) (r : Int32) (n1 : Nat) (f1 : Nat → mP) : Prop := cs (dG n x y v o) (r = 0 ∧ sam n f n1 f1) (fun z => (¬ (srt (mk z.2.2.2) f z.1 z.2.1 ∧ srt (mk z.2.2.2) f z.2.1 z.2.2.1) ∧ r = 0 ∧ sam n f n1 f1) ∨ (srt (mk z.2.2.2) f z.1 z.2.1 ∧ srt (mk z.2.2.2) f z.2.1 z.2.2.1 ∧ r = 1 ∧ n1 = n ∧ soC (mk z.2.2.2) n f f1 z.1 z.2.2.1))
def QmeR (n : Nat) (f : Nat → mP) (x y v o : Int32) (r : Int32) (n1 : Nat) (f1 : Nat → mP) : Prop := cs (dG n x y v o) (r = 0 ∧ sam n f n1 f1) (fun z => (¬ (srt (mk z.2.2.2) f z.1 z.2.1 ∧ srt (mk z.2.2.2) f z.2.1 z.2.2.1) ∧ r = 0 ∧ sam n f n1 f1) ∨ (srt (mk z.2.2.2) f z.1 z.2.1 ∧ srt (mk z.2.2.2) f z.2.1 z.2.2.1 ∧ r = 1 ∧ n1 = n ∧ soR (mk z.2.2.2) n f f1 z.1 z.2.2.1))
def Qrot (n : Nat) (f : Nat → mP) (x y v : Int32) (r : Int32) (n1 : Nat) (f1 : Nat → mP) : Prop := cs (dM n x y v) (r = 0 ∧ sam n f n1 f1) (fun z => r = 1 ∧ n1 = n ∧ ∀ j, j < n → f1 j = ro f z.1 z.2.1 z.2.2 j)
def Qtur (n : Nat) (f : Nat → mP) (x y : Int32) (r : Int32) (n1 : Nat) (f1 : Nat → mP) : Prop := cs (dT n x y) (r = 0 ∧ sam n f n1 f1) (fun z => r = 1 ∧ n1 = n ∧ ∀ j, j < n → f1 j = rv f z.1 z.2 j)
def QspC (n : Nat) (f : Nat → mP) (x y v o : Int32) (r : Int32) (n1 : Nat) (f1 : Nat → mP) : Prop := cs (dS n x y o) (r = -1 ∧ sam n f n1 f1) (fun z => r = nI (cn (fun j => mk z.2.2 (f j).1 < mk z.2.2 v) z.1 (z.2.1 - z.1)) ∧ n1 = n ∧ soC (ps z.2.2 v) n f f1 z.1 z.2.1)
def QspR (n : Nat) (f : Nat → mP) (x y v o : Int32) (r : Int32) (n1 : Nat) (f1 : Nat → mP) : Prop := cs (dS n x y o) (r = -1 ∧ sam n f n1 f1) (fun z => r = nI (cn (fun j => mk z.2.2 (f j).1 < mk z.2.2 v) z.1 (z.2.1 - z.1)) ∧ n1 = n ∧ soR (ps z.2.2 v) n f f1 z.1 z.2.1)
def Qthi (n : Nat) (f : Nat → mP) (o : Int32) (r : Int32) (n1 : Nat) (f1 : Nat → mP) : Prop := cs (dO o) (r = -1 ∧ sam n f n1 f1) (fun z => (¬ srt (mk z) f 0 n ∧ r = -1 ∧ sam n f n1 f1) ∨ (srt (mk z) f 0 n ∧ r = nI n1 ∧ n1 = cn (kp z f) 0 (n - 0) ∧ ∀ i, i < n → kp z f i → f1 (cn (kp z f) 0 (i - 0)) = f i))
def Qsrd (n : Nat) (f : Nat → mP) (x y o : Int32) (r : Int32) : Prop := cs (dS n x y o) (r = -1) (fun z => tr r (srt (mk z.2.2) f z.1 z.2.1))
def Qfin (n : Nat) (f : Nat → mP) (x o w : Int32) (r : Int32) : Prop := cs (dF o w) (r = -1) (fun z => (¬ srt (mk z.1) f 0 n ∧ r = -1) ∨ (srt (mk z.1) f 0 n ∧ (z.2 = 0 → r = nI (cn (fun j => mk z.1 (f j).1 < mk z.1 x) 0 (n - 0))) ∧ (z.2 = 1 → r = nI (cn (fun j => ¬ mk z.1 x < mk z.1 (f j).1) 0 (n - 0)))))
def Qran (n : Nat) (f : Nat → mP) (x o : Int32) (r : Int32) : Prop := cs (dR n x o) (r = -1) (fun z => r = nI (pl (mk z.2) f 0 n z.1))
def Qkey (n : Nat) (f : Nat → mP) (x : Int32) (r : Int32) : Prop := cs (dP n x) (r = 0) (fun z => r = (f z).1)
def Qtag (n : Nat) (f : Nat → mP) (x : Int32) (r : Int32) : Prop := cs (dP n x) (r = 0) (fun z => r = (f z).2)
def Qcou (n : Nat) (f : Nat → mP) (x : Int32) (r : Int32) : Prop := (x = nI 0 ∧ r = nI n) ∨ (x = nI 1 ∧ r = nI (cn (fun j => j = 0 ∨ (f j).1 < (f (j - 1)).1) 0 (n - 0))) ∨ (x = nI 2 ∧ r = nI (cn (fun j => ¬ ∃ i, i < j ∧ (f i).1 = (f j).1) 0 (n - 0))) ∨ (x ≠ nI 0 ∧ x ≠ nI 1 ∧ x ≠ nI 2 ∧ r = -1)
-- both agree
theorem srt_ag {φ : Int32 → Int} {n : Nat} {f g : Nat → mP} (e : ∀ j, j < n → f j = g j) {a b : Nat} (hb : b ≤ n) : srt φ f a b ↔ srt φ g a b :=
  ⟨fun h => srt_congr h (fun j _ j2 => (e j (by omega)).symm), fun h => srt_congr h (fun j _ j2 => e j (by omega))⟩
theorem A_put {n : Nat} {f g : Nat → mP} {x y r r' : Int32} {n1 n1' : Nat} {f1 g1 : Nat → mP} (e : ∀ j, j < n → f j = g j) (h : Qput n f x y r n1 f1) (h' : Qput n g x y r' n1' g1) : r = r' ∧ ag n1 f1 n1' g1 := by
  rcases h with ⟨a1, a2, a3⟩ | ⟨a1, a2, a3, a4, a5⟩
  · rcases h' with ⟨b1, b2, b3⟩ | ⟨b1, b2, b3, b4, b5⟩
    · exact ⟨by rw [a2, b2], ag_sam e a3 b3⟩
    · omega
  · rcases h' with ⟨b1, b2, b3⟩ | ⟨b1, b2, b3, b4, b5⟩
    · omega
    · refine ⟨by rw [a2, b2], by rw [a3, b3], fun j hj => ?_⟩
      rw [a3] at hj
      rcases Nat.lt_or_ge j n with c | c
      · rw [a5 j c, b5 j c, e j c]
      · rw [show j = n by omega, a4, b4]
theorem A_run {n : Nat} {f g : Nat → mP} {x y v w r r' : Int32} {n1 n1' : Nat} {f1 g1 : Nat → mP} (e : ∀ j, j < n → f j = g j) (h : Qrun n f x y v w r n1 f1) (h' : Qrun n g x y v w r' n1' g1) : r = r' ∧ ag n1 f1 n1' g1 := by
  rcases cs_ag dN_u h h' with ⟨⟨a1, a2⟩, b1, b2⟩ | ⟨z, dz, ⟨a1, a2, a3, a4⟩, b1, b2, b3, b4⟩
  · exact ⟨by rw [a1, b1], ag_sam e a2 b2⟩
  · refine ⟨by rw [a1, b1], by rw [a2, b2], fun j hj => ?_⟩
    rw [a2] at hj
    rcases Nat.lt_or_ge j n with c | c
    · rw [a3 j c, b3 j c, e j c]
    · rw [show j = n + (j - n) by omega, a4 _ (by omega), b4 _ (by omega)]
theorem A_so {n : Nat} {f g : Nat → mP} {x y o r r' : Int32} {n1 n1' : Nat} {f1 g1 : Nat → mP} (hn : n ≤ 500) (e : ∀ j, j < n → f j = g j) (h : QsoC n f x y o r n1 f1) (h' : QsoR n g x y o r' n1' g1) : r = r' ∧ ag n1 f1 n1' g1 := by
  rcases cs_ag (dS_u hn) h h' with ⟨⟨a1, a2⟩, b1, b2⟩ | ⟨z, dz, ⟨a1, a2, a3⟩, b1, b2, b3⟩
  · exact ⟨by rw [a1, b1], ag_sam e a2 b2⟩
  · exact ⟨by rw [a1, b1], by rw [a2, b2], fun j hj => so_ag dz.2.2.2.2.1 a3 b3 e j (by omega)⟩
theorem A_me {n : Nat} {f g : Nat → mP} {x y v o r r' : Int32} {n1 n1' : Nat} {f1 g1 : Nat → mP} (hn : n ≤ 500) (e : ∀ j, j < n → f j = g j) (h : QmeC n f x y v o r n1 f1) (h' : QmeR n g x y v o r' n1' g1) : r = r' ∧ ag n1 f1 n1' g1 := by
  rcases cs_ag (dG_u hn) h h' with ⟨⟨a1, a2⟩, b1, b2⟩ | ⟨z, dz, k, k'⟩
  · exact ⟨by rw [a1, b1], ag_sam e a2 b2⟩
  · obtain ⟨-, -, -, -, d5, d6, d7, d8⟩ := dz
    rw [← srt_ag e (by omega), ← srt_ag e (by omega)] at k'
    rcases k with ⟨a0, a1, a2⟩ | ⟨a0, a0', a1, a2, a3⟩
    · rcases k' with ⟨b0, b1, b2⟩ | ⟨b0, b0', b1, b2, b3⟩
      · exact ⟨by rw [a1, b1], ag_sam e a2 b2⟩
      · exact absurd ⟨b0, b0'⟩ a0
    · rcases k' with ⟨b0, b1, b2⟩ | ⟨b0, b0', b1, b2, b3⟩
      · exact absurd ⟨a0, a0'⟩ b0
      · exact ⟨by rw [a1, b1], by rw [a2, b2], fun j hj => so_ag d7 a3 b3 e j (by omega)⟩
theorem A_rot {n : Nat} {f g : Nat → mP} {x y v r r' : Int32} {n1 n1' : Nat} {f1 g1 : Nat → mP} (hn : n ≤ 500) (e : ∀ j, j < n → f j = g j) (h : Qrot n f x y v r n1 f1) (h' : Qrot n g x y v r' n1' g1) : r = r' ∧ ag n1 f1 n1' g1 := by
  rcases cs_ag (dM_u hn) h h' with ⟨⟨a1, a2⟩, b1, b2⟩ | ⟨z, dz, ⟨a1, a2, a3⟩, b1, b2, b3⟩
  · exact ⟨by rw [a1, b1], ag_sam e a2 b2⟩
  · refine ⟨by rw [a1, b1], by rw [a2, b2], fun j hj => ?_⟩
    obtain ⟨-, -, -, d4, d5, d6⟩ := dz
    rw [a3 j (by omega), b3 j (by omega)]
    simp only [ro]
    by_cases c1 : z.1 ≤ j ∧ j < z.1 + (z.2.2 - z.2.1)
    · rw [if_pos c1, if_pos c1]; exact e _ (by omega)
    · rw [if_neg c1, if_neg c1]
      by_cases c2 : z.1 + (z.2.2 - z.2.1) ≤ j ∧ j < z.2.2
      · rw [if_pos c2, if_pos c2]; exact e _ (by omega)
      · rw [if_neg c2, if_neg c2]; exact e _ (by omega)
theorem A_tur {n : Nat} {f g : Nat → mP} {x y r r' : Int32} {n1 n1' : Nat} {f1 g1 : Nat → mP} (hn : n ≤ 500) (e : ∀ j, j < n → f j = g j) (h : Qtur n f x y r n1 f1) (h' : Qtur n g x y r' n1' g1) : r = r' ∧ ag n1 f1 n1' g1 := by
  rcases cs_ag (dT_u hn) h h' with ⟨⟨a1, a2⟩, b1, b2⟩ | ⟨z, dz, ⟨a1, a2, a3⟩, b1, b2, b3⟩
  · exact ⟨by rw [a1, b1], ag_sam e a2 b2⟩
  · refine ⟨by rw [a1, b1], by rw [a2, b2], fun j hj => ?_⟩
    obtain ⟨-, -, d3, d4⟩ := dz
    rw [a3 j (by omega), b3 j (by omega)]
    simp only [rv]
    by_cases c1 : z.1 ≤ j ∧ j < z.2
    · rw [if_pos c1, if_pos c1]; exact e _ (by omega)
    · rw [if_neg c1, if_neg c1]; exact e _ (by omega)
theorem A_sp {n : Nat} {f g : Nat → mP} {x y v o r r' : Int32} {n1 n1' : Nat} {f1 g1 : Nat → mP} (hn : n ≤ 500) (e : ∀ j, j < n → f j = g j) (h : QspC n f x y v o r n1 f1) (h' : QspR n g x y v o r' n1' g1) : r = r' ∧ ag n1 f1 n1' g1 := by
  rcases cs_ag (dS_u hn) h h' with ⟨⟨a1, a2⟩, b1, b2⟩ | ⟨z, dz, ⟨a1, a2, a3⟩, b1, b2, b3⟩
  · exact ⟨by rw [a1, b1], ag_sam e a2 b2⟩
  · obtain ⟨-, -, -, d4, d5, d6⟩ := dz
    refine ⟨?_, by rw [a2, b2], fun j hj => so_ag d5 a3 b3 e j (by omega)⟩
    rw [a1, b1]
    congr 1
    exact cn_congr _ (fun j hj => by rw [e (z.1 + j) (by omega)])
theorem A_thi {n : Nat} {f g : Nat → mP} {o r r' : Int32} {n1 n1' : Nat} {f1 g1 : Nat → mP} (e : ∀ j, j < n → f j = g j) (h : Qthi n f o r n1 f1) (h' : Qthi n g o r' n1' g1) : r = r' ∧ ag n1 f1 n1' g1 := by
  rcases cs_ag dO_u h h' with ⟨⟨a1, a2⟩, b1, b2⟩ | ⟨z, dz, k, k'⟩
  · exact ⟨by rw [a1, b1], ag_sam e a2 b2⟩
  · rw [← srt_ag e (Nat.le_refl _)] at k'
    rcases k with ⟨a0, a1, a2⟩ | ⟨a0, a1, a2, a3⟩
    · rcases k' with ⟨b0, b1, b2⟩ | ⟨b0, b1, b2, b3⟩
      · exact ⟨by rw [a1, b1], ag_sam e a2 b2⟩
      · exact absurd b0 a0
    · rcases k' with ⟨b0, b1, b2⟩ | ⟨b0, b1, b2, b3⟩
      · exact absurd a0 b0
      · have hk : ∀ i, i < n → (kp z f i ↔ kp z g i) := fun i hi => by simp only [kp]; rw [e i hi, e (i - 1) (by omega)]
        have hc : ∀ i, i ≤ n → cn (kp z f) 0 (i - 0) = cn (kp z g) 0 (i - 0) := fun i hi => cn_congr _ (fun j hj => by rw [Nat.zero_add]; exact hk j (by omega))
        have hnn : n1 = n1' := by rw [a2, b2]; exact hc n (Nat.le_refl _)
        refine ⟨by rw [a1, b1, hnn], hnn, fun q hq => ?_⟩
        rw [a2] at hq
        obtain ⟨m, m1, m2, m3⟩ := cn_sub _ q hq
        rw [Nat.zero_add] at m2
        have x1 := a3 m (by omega) m2
        have x2 := b3 m (by omega) ((hk m (by omega)).mp m2)
        rw [← hc m (by omega)] at x2
        have m4 : cn (kp z f) 0 (m - 0) = q := m3
        rw [m4] at x1 x2
        rw [x1, x2, e m (by omega)]
theorem tr_ag {r r' : Int32} {P P' : Prop} (h : tr r P) (h' : tr r' P') (e : P ↔ P') : r = r' := by
  rcases h with ⟨a1, a2⟩ | ⟨a1, a2⟩
  · rcases h' with ⟨b1, b2⟩ | ⟨b1, b2⟩
    · rw [a1, b1]
    · exact absurd (e.mp a2) b2
  · rcases h' with ⟨b1, b2⟩ | ⟨b1, b2⟩
    · exact absurd (e.mpr b2) a2
    · rw [a1, b1]
theorem A_srd {n : Nat} {f g : Nat → mP} {x y o r r' : Int32} (hn : n ≤ 500) (e : ∀ j, j < n → f j = g j) (h : Qsrd n f x y o r) (h' : Qsrd n g x y o r') : r = r' := by
  rcases cs_ag (dS_u hn) h h' with ⟨a1, b1⟩ | ⟨z, dz, a1, b1⟩
  · rw [a1, b1]
  · exact tr_ag a1 b1 (srt_ag e dz.2.2.2.2.1)
theorem A_fin {n : Nat} {f g : Nat → mP} {x o w r r' : Int32} (e : ∀ j, j < n → f j = g j) (h : Qfin n f x o w r) (h' : Qfin n g x o w r') : r = r' := by
  rcases cs_ag dF_u h h' with ⟨a1, b1⟩ | ⟨z, dz, k, k'⟩
  · rw [a1, b1]
  · rw [← srt_ag e (Nat.le_refl _)] at k'
    rcases k with ⟨a0, a1⟩ | ⟨a0, a1, a2⟩
    · rcases k' with ⟨b0, b1⟩ | ⟨b0, b1, b2⟩
      · rw [a1, b1]
      · exact absurd b0 a0
    · rcases k' with ⟨b0, b1⟩ | ⟨b0, b1, b2⟩
      · exact absurd a0 b0
      · rcases (show z.2 = 0 ∨ z.2 = 1 by have := dz.2.2.2; omega) with c | c
        · rw [a1 c, b1 c]; congr 1
          exact cn_congr _ (fun j hj => by rw [e (0 + j) (by omega)])
        · rw [a2 c, b2 c]; congr 1
          exact cn_congr _ (fun j hj => by rw [e (0 + j) (by omega)])
theorem A_ran {n : Nat} {f g : Nat → mP} {x o r r' : Int32} (hn : n ≤ 500) (e : ∀ j, j < n → f j = g j) (h : Qran n f x o r) (h' : Qran n g x o r') : r = r' := by
  rcases cs_ag (dR_u hn) h h' with ⟨a1, b1⟩ | ⟨z, dz, a1, b1⟩
  · rw [a1, b1]
  · rw [a1, b1, pl_congr (fun j _ j2 => e j j2) (Nat.zero_le _) dz.2.2.1]
theorem A_key {n : Nat} {f g : Nat → mP} {x r r' : Int32} (hn : n ≤ 500) (e : ∀ j, j < n → f j = g j) (h : Qkey n f x r) (h' : Qkey n g x r') : r = r' := by
  rcases cs_ag (dP_u hn) h h' with ⟨a1, b1⟩ | ⟨z, dz, a1, b1⟩
  · rw [a1, b1]
  · rw [a1, b1, e z dz.2]
theorem A_tag {n : Nat} {f g : Nat → mP} {x r r' : Int32} (hn : n ≤ 500) (e : ∀ j, j < n → f j = g j) (h : Qtag n f x r) (h' : Qtag n g x r') : r = r' := by
  rcases cs_ag (dP_u hn) h h' with ⟨a1, b1⟩ | ⟨z, dz, a1, b1⟩
  · rw [a1, b1]
  · rw [a1, b1, e z dz.2]
theorem A_cou {n : Nat} {f g : Nat → mP} {x r r' : Int32} (e : ∀ j, j < n → f j = g j) (h : Qcou n f x r) (h' : Qcou n g x r') : r = r' := by
  have n01 : nI 0 ≠ nI 1 := by decide
  have n02 : nI 0 ≠ nI 2 := by decide
  have n12 : nI 1 ≠ nI 2 := by decide
  have e1 : cn (fun j => j = 0 ∨ (f j).1 < (f (j - 1)).1) 0 (n - 0) = cn (fun j => j = 0 ∨ (g j).1 < (g (j - 1)).1) 0 (n - 0) := cn_congr _ (fun j hj => by rw [e (0 + j) (by omega), e (0 + j - 1) (by omega)])
  have e2 : cn (fun j => ¬ ∃ i, i < j ∧ (f i).1 = (f j).1) 0 (n - 0) = cn (fun j => ¬ ∃ i, i < j ∧ (g i).1 = (g j).1) 0 (n - 0) := cn_congr _ (fun j hj => by
    constructor
    · rintro h ⟨i, i1, i2⟩
      exact h ⟨i, i1, by rw [e i (by omega), e (0 + j) (by omega)]; exact i2⟩
    · rintro h ⟨i, i1, i2⟩
      exact h ⟨i, i1, by rw [← e i (by omega), ← e (0 + j) (by omega)]; exact i2⟩)
  rcases h with ⟨a1, a2⟩ | ⟨a1, a2⟩ | ⟨a1, a2⟩ | ⟨a1, a2, a3, a4⟩ <;> rcases h' with ⟨b1, b2⟩ | ⟨b1, b2⟩ | ⟨b1, b2⟩ | ⟨b1, b2, b3, b4⟩
  · rw [a2, b2]
  · exact absurd (a1.symm.trans b1) n01
  · exact absurd (a1.symm.trans b1) n02
  · exact absurd a1 b1
  · exact absurd (b1.symm.trans a1) n01
  · rw [a2, b2, e1]
  · exact absurd (a1.symm.trans b1) n12
  · exact absurd a1 b2
  · exact absurd (b1.symm.trans a1) n02
  · exact absurd (b1.symm.trans a1) n12
  · rw [a2, b2, e2]
  · exact absurd a1 b3
  · exact absurd b1 a1
  · exact absurd b1 a2
  · exact absurd b1 a3
  · rw [a4, b4]
/-- what the class keeps of its latest cost -/
def ckI (x y w : Int32) : Prop := ∃ N g h : Nat, x = nI N ∧ N ≤ 500 ∧ y = nI g ∧ cO 8 N g ∧ g ≤ 40000 ∧ w = nI h ∧ cO 40 N h ∧ h ≤ 90000
theorem ck_0 : ckI (nI 0) (nI 0) (nI 0) := ⟨0, 0, 0, rfl, by decide, rfl, fun _ _ _ => Nat.zero_le _, by decide, rfl, fun _ _ _ => Nat.zero_le _, by decide⟩
end
section
/-! RowPress: its state, and pure rows for its walks. -/
abbrev PSt : Type := (Nat → Int32) × (Nat → Int32) × Nat × Int32 × Int32 × Int32 × Int32 × Int32
abbrev wX (h r k t : Nat) (cA cB : ClassId) (u : PSt) : va_W := [(h, .inr (1, [.ref r, .int u.2.2.2.2.2.1, .int u.2.2.2.2.2.2.1, .int u.2.2.2.2.2.2.2])), (r, .inr (0, [.ref k, .ref t, .int (nI u.2.2.1), .int u.2.2.2.1, .int u.2.2.2.2.1])), (k, .inl (cA, 500, .inl u.1)), (t, .inl (cB, 500, .inl u.2.1))]
abbrev atX (dC : Nat → ClassId) (dI : Nat → Nat → Nat) (A : Nat → Prop) (h r k t : Nat) (cA cB : ClassId) (u : PSt) (U : State) : Prop := va_P (dC, dI) vwCl (wX h r k t cA cB u) U.heap ∧ va_K (dC, dI) vwCl [(cA, .int), (cB, .int)] U ∧ va_D A (wX h r k t cA cB u)
def okU (u : PSt) : Prop := u.2.2.1 ≤ 500 ∧ ckI u.2.2.2.2.2.1 u.2.2.2.2.2.2.1 u.2.2.2.2.2.2.2
theorem rm_1 {n : Nat} (hn : n ≤ 500) (h : ¬ nI (500 - n) < nI 1) : n < 500 := by
  rcases Nat.lt_or_ge n 500 with q | q
  · exact q
  · rw [show 500 - n = 0 by omega] at h
    exact absurd (by decide) h
theorem rm_0 {n : Nat} (hn : n ≤ 500) (h : ¬ ¬ nI (500 - n) < nI 1) : n = 500 := by
  rcases Nat.lt_or_ge n 500 with q | q
  · exact absurd (nI_nlt (by omega) (by omega)) h
  · omega
theorem dN_of {n : Nat} {x : Int32} (hn : n ≤ 500) (h1 : ¬ x < nI 1) (h2 : ¬ nI (500 - n) < x) : ∃ z, dN n x z := by
  have h0 : ¬ x < 0 := fun q => h1 (by
    rw [Int32.lt_iff_toInt_lt] at *
    have e0 : (0 : Int32).toInt = 0 := by decide
    have e1 : (nI 1).toInt = 1 := by decide
    omega)
  obtain ⟨z, hz, rfl⟩ := nI_of h0
  refine ⟨z, rfl, ?_, ?_⟩
  · rcases Nat.lt_or_ge z 1 with q | q
    · exact absurd (nI_lt q (by decide)) h1
    · exact q
  · rcases Nat.lt_or_ge (500 - n) z with q | q
    · exact absurd (nI_lt q hz) h2
    · omega
theorem dN_e {n z : Nat} {x : Int32} (h : dN n x z) : ¬ x < nI 1 ∧ ¬ nI (500 - n) < x := by
  obtain ⟨rfl, h1, h2⟩ := h
  exact ⟨nI_nlt h1 (by omega), nI_nlt (by omega) (by omega)⟩
/-- a run half done -/
def rnI (K T K1 T1 : Nat → Int32) (n q : Nat) (y v w : Int32) : Prop := (∀ j, j < n → mZ K1 T1 j = mZ K T j) ∧ ∀ i, i < q → mZ K1 T1 (n + i) = (y + nI i * v, w + nI i)
theorem rnI_0 {K T : Nat → Int32} {n : Nat} {y v w : Int32} : rnI K T K T n 0 y v w := ⟨fun _ _ => rfl, fun i h => absurd h (Nat.not_lt_zero i)⟩
theorem rnI_s {K T K1 T1 : Nat → Int32} {n q n1 : Nat} {y v w : Int32} (h : rnI K T K1 T1 n q y v w) (e : n1 = n + q) : rnI K T (upd K1 n1 (y + nI q * v)) (upd T1 n1 (w + nI q)) n (q + 1) y v w := by
  constructor
  · intro j hj
    rw [mZ_put, if_neg (by omega)]; exact h.1 j hj
  · intro i hi
    rw [mZ_put]
    rcases Nat.lt_or_ge i q with c | c
    · rw [if_neg (by omega)]; exact h.2 i c
    · rw [if_pos (by omega), show i = q by omega]
theorem z_ad (g : Nat) : nI 0 + nI g = nI g := by rw [nI_add, Nat.zero_add]
theorem ps_cnt {o : Nat} {v : Int32} {f g : Nat → mP} {a b : Nat} {φ : Int32 → Int} (h : sm φ (sg f a b) (sg g a b)) : cn (fun j => mk o (g j).1 < mk o v) a (b - a) = cn (fun j => mk o (f j).1 < mk o v) a (b - a) := by
  have h1 := sm_cn h (fun q => decide (mk o q.1 < mk o v))
  have c1 := cn_congr (P := fun j => decide (mk o (f j).1 < mk o v) = true) (P' := fun j => mk o (f j).1 < mk o v) (a := a) (a' := a) (b - a) (fun j _ => by simp)
  have c2 := cn_congr (P := fun j => decide (mk o (g j).1 < mk o v) = true) (P' := fun j => mk o (g j).1 < mk o v) (a := a) (a' := a) (b - a) (fun j _ => by simp)
  rw [← c1, ← c2, h1]
theorem ran_eq {o n z : Nat} {f : Nat → mP} (h : z < n) : cn (fun j => ¬ mk o (f z).1 < mk o (f j).1) 0 (z - 0) + cn (fun j => mk o (f j).1 < mk o (f z).1) z (n - z) = pl (mk o) f 0 n z := by
  unfold pl
  rw [Nat.zero_add, show n - 0 = z + (n - z) by omega, cn_app, Nat.zero_add]
  congr 1
  · exact cn_congr _ (fun j hj => by simp only [plP]; omega)
  · exact cn_congr _ (fun j hj => by simp only [plP]; omega)
theorem tb_out {x : Int32} (h0 : ¬ x = nI 0) (h1 : ¬ x = nI 1) (h2 : ¬ x = nI 2) : x.toInt < 0 ∨ 2 < x.toInt := by
  have e0 : ¬ x.toInt = 0 := fun q => h0 (Int32.toInt_inj.mp (by rw [q]; decide))
  have e1 : ¬ x.toInt = 1 := fun q => h1 (Int32.toInt_inj.mp (by rw [q]; decide))
  have e2 : ¬ x.toInt = 2 := fun q => h2 (Int32.toInt_inj.mp (by rw [q]; decide))
  omega
theorem shl_nI : ∀ L, L < 16 → nI 1 <<< (nI L &&& 31) = nI (2 ^ L) := by decide +kernel
theorem pw16 {L : Nat} (h : L ≤ 16) : 2 ^ L ≤ 65536 := Nat.pow_le_pow_right (by decide) h
/-- the cost of a merge and its looks -/
theorem mc_8 {n g x y kk : Nat} (h1 : g + kk + 2 ≤ 2 * 2 ^ kk) (hx : x + y ≤ n) (hl : ∀ j, j < kk → ¬ n ≤ 2 ^ j) : cO 8 n (x + y + g) := by
  intro L hL hn
  have hk : kk ≤ L := by
    rcases Nat.lt_or_ge L kk with q | q
    · exact absurd hn (hl L q)
    · exact q
  have hg : g ≤ 4 * n := by
    cases kk with
    | zero => rw [Nat.pow_zero] at h1; omega
    | succ k =>
      have := hl k (by omega)
      rw [Nat.pow_succ] at h1
      omega
  have h3 : 8 * n * 1 ≤ 8 * n * L := Nat.mul_le_mul_left _ hL
  omega
theorem mc_40 {n g kk : Nat} (h1 : g ≤ 2 * n * kk) (hl : ∀ j, j < kk → ¬ n ≤ 2 ^ j) : cO 40 n g := by
  intro L hL hn
  have hk : kk ≤ L := by
    rcases Nat.lt_or_ge L kk with q | q
    · exact absurd hn (hl L q)
    · exact q
  exact Nat.le_trans h1 (Nat.mul_le_mul (Nat.mul_le_mul_right n (by decide)) hk)
theorem mc_k {n : Nat} (hn : n ≤ 500) : ∃ kk, kk ≤ 9 ∧ n ≤ 2 ^ kk ∧ ∀ j, j < kk → ¬ n ≤ 2 ^ j := by
  have h9 : (2 : Nat) ^ 9 = 512 := by decide
  have hh : n ≤ 2 ^ 9 := by omega
  obtain ⟨kk, h1, h2⟩ := pk_least (fun k => n ≤ 2 ^ k) ⟨9, hh⟩
  refine ⟨kk, ?_, h1, h2⟩
  rcases Nat.lt_or_ge 9 kk with q | q
  · exact absurd hh (h2 9 q)
  · exact q
theorem mc_g {g kk : Nat} (h1 : g + kk + 2 ≤ 2 * 2 ^ kk) (hk : kk ≤ 9) : g ≤ 1024 := by
  have h2 : 2 ^ kk ≤ 2 ^ 9 := Nat.pow_le_pow_right (by decide) hk
  have : (2 : Nat) ^ 9 = 512 := by decide
  omega
theorem mc_w {g n kk : Nat} (h1 : g ≤ 2 * n * kk) (hn : n ≤ 500) (hk : kk ≤ 9) : g ≤ 9000 := by
  have h2 : 2 * n * kk ≤ 2 * 500 * 9 := Nat.mul_le_mul (Nat.mul_le_mul_left _ hn) hk
  omega
end
section
/-! THE REFERENCE: its state, and pure rows for its walks. -/
abbrev MSt : Type := (Nat → Int32) × (Nat → Int32) × Nat × (Nat → Int32) × (Nat → Int32)
abbrev wM (h k t k2 t2 : Nat) (cA cB cC cD : ClassId) (u : MSt) : va_W := [(h, .inr (2, [.ref k, .ref t, .int (nI u.2.2.1), .ref k2, .ref t2])), (k, .inl (cA, 500, .inl u.1)), (t, .inl (cB, 500, .inl u.2.1)), (k2, .inl (cC, 500, .inl u.2.2.2.1)), (t2, .inl (cD, 500, .inl u.2.2.2.2))]
abbrev atM (dC : Nat → ClassId) (dI : Nat → Nat → Nat) (A : Nat → Prop) (h k t k2 t2 : Nat) (cA cB cC cD : ClassId) (u : MSt) (U : State) : Prop := va_P (dC, dI) vwCl (wM h k t k2 t2 cA cB cC cD u) U.heap ∧ va_K (dC, dI) vwCl [(cA, .int), (cB, .int), (cC, .int), (cD, .int)] U ∧ va_D A (wM h k t k2 t2 cA cB cC cD u)
theorem cn_mono {P Q : Nat → Prop} {a : Nat} : ∀ n, (∀ j, j < n → P (a + j) → Q (a + j)) → cn P a n ≤ cn Q a n := by
  intro n
  induction n with
  | zero => intro _; exact Nat.le_refl _
  | succ n ih =>
    intro h
    have h1 := ih (fun j hj => h j (by omega))
    by_cases c : P (a + n)
    · rw [cn_t c, cn_t (h n (by omega) c)]; omega
    · rw [cn_f c]
      by_cases d : Q (a + n)
      · rw [cn_t d]; omega
      · rw [cn_f d]; exact h1
theorem cn_lt {P Q : Nat → Prop} {a : Nat} : ∀ n m, m < n → (∀ j, j < n → P (a + j) → Q (a + j)) → Q (a + m) → ¬ P (a + m) → cn P a n < cn Q a n := by
  intro n
  induction n with
  | zero => intro m h; exact absurd h (Nat.not_lt_zero m)
  | succ n ih =>
    intro m hm h hq hp
    rcases Nat.lt_or_ge m n with c | c
    · have h1 := ih m c (fun j hj => h j (by omega)) hq hp
      by_cases c : P (a + n)
      · rw [cn_t c, cn_t (h n (by omega) c)]; omega
      · rw [cn_f c]
        by_cases d : Q (a + n)
        · rw [cn_t d]; omega
        · rw [cn_f d]; exact h1
    · have : m = n := by omega
      subst this
      have h1 := cn_mono (P := P) (Q := Q) (a := a) m (fun j hj => h j (by omega))
      rw [cn_f hp, cn_t hq]; omega
theorem pl_lt {φ : Int32 → Int} {f : Nat → mP} {a b k : Nat} (h1 : a ≤ k) (h2 : k < b) : pl φ f a b k < b := by
  unfold pl
  have h3 := cn_lt (P := plP φ f k) (Q := fun _ => True) (a := a) (b - a) (k - a) (by omega) (fun _ _ _ => trivial) trivial (by
    rw [show a + (k - a) = k by omega]; simp only [plP]; omega)
  have h4 := cn_le (fun _ => True) a (b - a)
  omega
theorem pl_ge {φ : Int32 → Int} {f : Nat → mP} {a b k : Nat} : a ≤ pl φ f a b k := Nat.le_add_right _ _
theorem pl_inj {φ : Int32 → Int} {f : Nat → mP} {a b i k : Nat} (h1 : a ≤ i) (h2 : i < k) (h3 : k < b) : pl φ f a b i ≠ pl φ f a b k := by
  unfold pl
  by_cases c : φ (f k).1 < φ (f i).1
  · have h := cn_lt (P := plP φ f k) (Q := plP φ f i) (a := a) (b - a) (k - a) (by omega) (fun j _ => by simp only [plP]; omega) (by rw [show a + (k - a) = k by omega]; exact Or.inl c) (by rw [show a + (k - a) = k by omega]; simp only [plP]; omega)
    omega
  · have h := cn_lt (P := plP φ f i) (Q := plP φ f k) (a := a) (b - a) (i - a) (by omega) (fun j _ => by simp only [plP]; omega) (by rw [show a + (i - a) = i by omega]; exact Or.inr ⟨h2, c⟩) (by rw [show a + (i - a) = i by omega]; simp only [plP]; omega)
    omega
/-- moved so far, each to its place -/
def arI (φ : Int32 → Int) (f g : Nat → mP) (a b q : Nat) : Prop := ∀ i, a ≤ i → i < q → g (pl φ f a b i) = f i
theorem arI_0 {φ : Int32 → Int} {f g : Nat → mP} {a b : Nat} : arI φ f g a b a := fun i h1 h2 => absurd h2 (by omega)
theorem arI_s {φ : Int32 → Int} {f g g' : Nat → mP} {a b q : Nat} (h : arI φ f g a b q) (h1 : a ≤ q) (h2 : q < b) (hg : ∀ x, g' x = if x = pl φ f a b q then f q else g x) : arI φ f g' a b (q + 1) := by
  intro i i1 i2
  rw [hg]
  rcases Nat.lt_or_ge i q with c | c
  · rw [if_neg (pl_inj i1 c h2)]; exact h i i1 c
  · rw [show i = q by omega, if_pos rfl]
/-- taken over from a to before q -/
def tkI (f g f1 : Nat → mP) (a q : Nat) : Prop := ∀ j, f1 j = if a ≤ j ∧ j < q then g j else f j
theorem tkI_0 {f g : Nat → mP} {a : Nat} : tkI f g f a a := fun j => by rw [if_neg (by omega)]
theorem tkI_s {f g f1 f2 : Nat → mP} {a q : Nat} (h : tkI f g f1 a q) (h1 : a ≤ q) (hg : ∀ x, f2 x = if x = q then g q else f1 x) : tkI f g f2 a (q + 1) := by
  intro j
  rw [hg]
  by_cases c : j = q
  · rw [if_pos c, if_pos (by omega), c]
  · rw [if_neg c, h j]
    by_cases d : a ≤ j ∧ j < q
    · rw [if_pos d, if_pos (by omega)]
    · rw [if_neg d, if_neg (by omega)]
theorem soR_of {φ : Int32 → Int} {n : Nat} {f g f1 : Nat → mP} {a b : Nat} (h : arI φ f g a b b) (ht : tkI f g f1 a b) : soR φ n f f1 a b :=
  ⟨fun j _ hj => by rw [ht j, if_neg (by omega)], fun k k1 k2 => by rw [ht, if_pos ⟨pl_ge, pl_lt k1 k2⟩]; exact h k k1 k2⟩
/-- those that are so, one behind the other from a base on -/
def flI (P : Nat → Prop) (f g : Nat → mP) (a z q : Nat) : Prop := ∀ i, a ≤ i → i < q → P i → g (z + cn P a (i - a)) = f i
theorem flI_0 {P : Nat → Prop} {f g : Nat → mP} {a z : Nat} : flI P f g a z a := fun i h1 h2 => absurd h2 (by omega)
theorem cn_less {P : Nat → Prop} {a i q : Nat} (h1 : a ≤ i) (h2 : i < q) (hp : P i) : cn P a (i - a) < cn P a (q - a) := by
  have h3 := cn_st (P := P) h1 hp
  have h4 := cn_app P a (i + 1 - a) (q - (i + 1))
  rw [show i + 1 - a + (q - (i + 1)) = q - a by omega] at h4
  omega
theorem flI_y {P : Nat → Prop} {f g g' : Nat → mP} {a z q : Nat} (h : flI P f g a z q) (h1 : a ≤ q) (hg : ∀ x, g' x = if x = z + cn P a (q - a) then f q else g x) : flI P f g' a z (q + 1) := by
  intro i i1 i2 hp
  rw [hg]
  rcases Nat.lt_or_ge i q with c | c
  · rw [if_neg (by have := cn_less i1 c hp; omega)]; exact h i i1 c hp
  · rw [show i = q by omega, if_pos rfl]
theorem flI_n {P : Nat → Prop} {f g : Nat → mP} {a z q : Nat} (h : flI P f g a z q) (hp : ¬ P q) : flI P f g a z (q + 1) := by
  intro i i1 i2 hp2
  rcases Nat.lt_or_ge i q with c | c
  · exact h i i1 c hp2
  · rw [show i = q by omega] at hp2; exact absurd hp2 hp
theorem flI_o {P : Nat → Prop} {f g g' : Nat → mP} {a z q w : Nat} {v : mP} (h : flI P f g a z q) (hw : z + cn P a (q - a) ≤ w) (hg : ∀ x, g' x = if x = w then v else g x) : flI P f g' a z q := by
  intro i i1 i2 hp
  rw [hg, if_neg (by have := cn_less i1 i2 hp; omega)]
  exact h i i1 i2 hp
/-- how many are so and how many not -/
theorem cn_not (P : Nat → Prop) (a : Nat) : ∀ n, cn P a n + cn (fun j => ¬ P j) a n = n := by
  intro n
  induction n with
  | zero => rfl
  | succ n ih =>
    by_cases c : P (a + n)
    · rw [cn_t c, cn_f (P := fun j => ¬ P j) (fun z => z c)]; omega
    · rw [cn_f c, cn_t (P := fun j => ¬ P j) c]; omega
theorem spR_of {n o : Nat} {v : Int32} {f g f1 : Nat → mP} {a b L : Nat} (hL : L = cn (fun j => mk o (f j).1 < mk o v) a (b - a)) (h1 : flI (fun j => mk o (f j).1 < mk o v) f g a a b) (h2 : flI (fun j => ¬ mk o (f j).1 < mk o v) f g a (a + L) b) (ht : tkI f g f1 a b) : soR (ps o v) n f f1 a b := by
  refine ⟨fun j _ hj => by rw [ht j, if_neg (by omega)], fun k k1 k2 => ?_⟩
  rw [ht, if_pos ⟨pl_ge, pl_lt k1 k2⟩, pl_eq k1 k2]
  by_cases c : mk o (f k).1 < mk o v
  · rw [ps_0 c]
    have e1 : cn (fun j => ps o v (f j).1 < 0) a (b - a) = 0 := cn_none _ (fun j _ => by
      by_cases d : mk o (f (a + j)).1 < mk o v
      · rw [ps_0 d]; decide
      · rw [ps_1 d]; decide)
    have e2 : cn (fun j => ps o v (f j).1 = 0) a (k - a) = cn (fun j => mk o (f j).1 < mk o v) a (k - a) := cn_congr _ (fun j _ => by
      by_cases d : mk o (f (a + j)).1 < mk o v
      · rw [ps_0 d]; exact ⟨fun _ => d, fun _ => rfl⟩
      · rw [ps_1 d]; exact ⟨fun z => absurd z (by decide), fun z => absurd z d⟩)
    rw [e1, e2, Nat.zero_add]
    exact h1 k k1 k2 c
  · rw [ps_1 c]
    have e1 : cn (fun j => ps o v (f j).1 < 1) a (b - a) = L := by
      rw [hL]
      exact cn_congr _ (fun j _ => by
        by_cases d : mk o (f (a + j)).1 < mk o v
        · rw [ps_0 d]; exact ⟨fun _ => d, fun _ => by decide⟩
        · rw [ps_1 d]; exact ⟨fun z => absurd z (by decide), fun z => absurd z d⟩)
    have e2 : cn (fun j => ps o v (f j).1 = 1) a (k - a) = cn (fun j => ¬ mk o (f j).1 < mk o v) a (k - a) := cn_congr _ (fun j _ => by
      by_cases d : mk o (f (a + j)).1 < mk o v
      · rw [ps_0 d]; exact ⟨fun z => absurd z (by decide), fun z => absurd d z⟩
      · rw [ps_1 d]; exact ⟨fun _ => d, fun _ => rfl⟩)
    rw [e1, e2, ← Nat.add_assoc]
    exact h2 k k1 k2 c
/-- moved to a place that a function tells, all of them apart -/
def mvI (f g : Nat → mP) (e : Nat → Nat) (a q : Nat) : Prop := ∀ i, a ≤ i → i < q → g (e i) = f i
theorem mvI_0 {f g : Nat → mP} {e : Nat → Nat} {a : Nat} : mvI f g e a a := fun i h1 h2 => absurd h2 (by omega)
theorem mvI_s {f g g' : Nat → mP} {e : Nat → Nat} {a q w : Nat} (h : mvI f g e a q) (hw : w = e q) (he : ∀ i, a ≤ i → i < q → e i ≠ w) (hg : ∀ x, g' x = if x = w then f q else g x) : mvI f g' e a (q + 1) := by
  intro i i1 i2
  rw [hg]
  rcases Nat.lt_or_ge i q with c | c
  · rw [if_neg (he i i1 c)]; exact h i i1 c
  · rw [show i = q by omega, if_pos hw.symm]
theorem mvI_o {f g g' : Nat → mP} {e : Nat → Nat} {a q w : Nat} {v : mP} (h : mvI f g e a q) (he : ∀ i, a ≤ i → i < q → e i ≠ w) (hg : ∀ x, g' x = if x = w then v else g x) : mvI f g' e a q := by
  intro i i1 i2
  rw [hg, if_neg (he i i1 i2)]; exact h i i1 i2
theorem ro_of {f g f1 : Nat → mP} {a d b : Nat} (had : a ≤ d) (hdb : d ≤ b) (h1 : mvI f g (fun i => i + b - d) a d) (h2 : mvI f g (fun i => i - d + a) d b) (ht : tkI f g f1 a b) (j : Nat) : f1 j = ro f a d b j := by
  rw [ht]
  simp only [ro]
  by_cases c1 : a ≤ j ∧ j < a + (b - d)
  · rw [if_pos (by omega), if_pos c1]
    have := h2 (j - a + d) (by omega) (by omega)
    dsimp only at this
    rw [show j - a + d - d + a = j by omega] at this
    exact this
  · rw [if_neg c1]
    by_cases c2 : a + (b - d) ≤ j ∧ j < b
    · rw [if_pos (by omega), if_pos c2]
      have := h1 (j - (b - d)) (by omega) (by omega)
      dsimp only at this
      rw [show j - (b - d) + b - d = j by omega] at this
      exact this
    · rw [if_neg (by omega), if_neg c2]
theorem rv_of {f g f1 : Nat → mP} {a b : Nat} (h1 : mvI f g (fun i => a + b - 1 - i) a b) (ht : tkI f g f1 a b) (j : Nat) : f1 j = rv f a b j := by
  rw [ht]
  simp only [rv]
  by_cases c1 : a ≤ j ∧ j < b
  · rw [if_pos c1, if_pos c1]
    have := h1 (a + b - 1 - j) (by omega) (by omega)
    dsimp only at this
    rw [show a + b - 1 - (a + b - 1 - j) = j by omega] at this
    exact this
  · rw [if_neg c1, if_neg c1]
theorem rn_of {x : Int32} (h1 : ¬ x < nI 1) (h2 : ¬ nI 500 < x) : ∃ z : Nat, x = nI z ∧ 1 ≤ z ∧ z ≤ 500 := by
  obtain ⟨z, e, h3, h4⟩ := dN_of (n := 0) (Nat.zero_le _) h1 h2
  exact ⟨z, e, h3, by omega⟩
theorem w01 {x : Int32} (h1 : ¬ x < 0) (h2 : ¬ nI 1 < x) : ∃ j : Nat, x = nI j ∧ j < 2 := by
  obtain ⟨j, hj, rfl⟩ := nI_of h1
  refine ⟨j, rfl, ?_⟩
  rcases Nat.lt_or_ge 1 j with q | q
  · exact absurd (nI_lt q hj) h2
  · omega
theorem dF_e2 {o w : Int32} {z : Nat × Nat} (h : dF o w z) : exO o ∧ ¬ w < 0 ∧ ¬ nI 1 < w := by
  obtain ⟨h1, h2, h3, h4⟩ := h
  rw [h1, h2]
  exact ⟨exO_nI h3, nI_pos (by omega), nI_nlt (by omega) (by omega)⟩
/-- what find counts -/
def fnP (o : Nat) (x : Int32) (j : Nat) (f : Nat → mP) (i : Nat) : Prop := (j = 0 → mk o (f i).1 < mk o x) ∧ (j ≠ 0 → ¬ mk o x < mk o (f i).1)
theorem fn_0 {o : Nat} {x : Int32} {f : Nat → mP} {n j : Nat} (h : j = 0) : cn (fnP o x j f) 0 (n - 0) = cn (fun i => mk o (f i).1 < mk o x) 0 (n - 0) := cn_congr _ (fun i _ => ⟨fun z => z.1 h, fun z => ⟨fun _ => z, fun y => absurd h y⟩⟩)
theorem fn_1 {o : Nat} {x : Int32} {f : Nat → mP} {n j : Nat} (h : j = 1) : cn (fnP o x j f) 0 (n - 0) = cn (fun i => ¬ mk o x < mk o (f i).1) 0 (n - 0) := cn_congr _ (fun i _ => ⟨fun z => z.2 (by omega), fun z => ⟨fun y => by omega, fun _ => z⟩⟩)
theorem mkR3 {x y : Int32} (h : ¬ (y &&& nI 255) ≤ (x &&& nI 255)) : mk 3 x < mk 3 y := mk3.mpr (ng_le h)
end
section
set_option maxHeartbeats 4000000 in
set_option maxRecDepth 100000 in
theorem c_X2_put (l : Launch) (dC : Nat → ClassId) (dI : Nat → Nat → Nat) (sz : Nat) (h r k t : Nat) (cA cB : ClassId) (n : Nat) (cm wr lp lc lw : Int32) (K T : Nat → Int32) (hn : n ≤ 500) (hck : ckI lp lc lw) (x y : Int32) : Met l yX2_put wsX2_put ({ frames := 1, cells := 0, slots := 0, locals := 22 }) (va_Pc [.ref h, .int x, .int y] (fun U => U.heap.size = sz ∧ va_P (dC, dI) vwCl [(h, .inr (1, [.ref r, .int lp, .int lc, .int lw])), (r, .inr (0, [.ref k, .ref t, .int (nI n), .int cm, .int wr])), (k, .inl (cA, 500, .inl K)), (t, .inl (cB, 500, .inl T))] U.heap ∧ va_K (dC, dI) vwCl [(cA, .int), (cB, .int)] U ∧ va_D (fun _ => True) [(h, .inr (1, [.ref r, .int lp, .int lc, .int lw])), (r, .inr (0, [.ref k, .ref t, .int (nI n), .int cm, .int wr])), (k, .inl (cA, 500, .inl K)), (t, .inl (cB, 500, .inl T))])) (va_Qi (fun r u => Qput n (mZ K T) x y r u.2.2.1 (mZ u.1 u.2.1) ∧ okU u) (atX dC dI (va_A [(h, .inr (1, [.ref r, .int lp, .int lc, .int lw])), (r, .inr (0, [.ref k, .ref t, .int (nI n), .int cm, .int wr])), (k, .inl (cA, 500, .inl K)), (t, .inl (cB, 500, .inl T))] sz) h r k t cA cB) (va_A [(h, .inr (1, [.ref r, .int lp, .int lc, .int lw])), (r, .inr (0, [.ref k, .ref t, .int (nI n), .int cm, .int wr])), (k, .inl (cA, 500, .inl K)), (t, .inl (cB, 500, .inl T))] sz)) 0 0 (va_A [(h, .inr (1, [.ref r, .int lp, .int lc, .int lw])), (r, .inr (0, [.ref k, .ref t, .int (nI n), .int cm, .int wr])), (k, .inl (cA, 500, .inl K)), (t, .inl (cB, 500, .inl T))] sz) := by
  refine Met.ofW (cc := cX2_put) (maxL := 3) (ret := (some .int)) (by decide) rfl ?_
  intro p e s m args below meth c s₁ B hml hv
  obtain ⟨rfl, hsz, hP, hK, hD0⟩ := hv
  have hx := B.exec
  have hb := B.bytes
  have hr := B.returns
  have hts := atoms_spec (ws := wsX2_put) B.pre
  have hown : s.vm.findClass RX2 = some m.cls := findClass_of_methodNamed B.named
  have hlocks := B.notSynchronized
  subst hsz
  have hD := hD0.self (sz := s.heap.size)
  generalize hAe : va_A [(h, .inr (1, [.ref r, .int lp, .int lc, .int lw])), (r, .inr (0, [.ref k, .ref t, .int (nI n), .int cm, .int wr])), (k, .inl (cA, 500, .inl K)), (t, .inl (cB, 500, .inl T))] s.heap.size = A at hD ⊢
  have hA : ∀ q : Nat, s.heap.size ≤ q → A q := fun q h => by rw [← hAe]; exact Or.inr h
  have hS : va_S A s.heap s.heap [] := va_S.rf
  have hP : va_P (dC, dI) vwCl [(h, .inr (1, [.ref r, .int lp, .int lc, .int lw])), (r, .inr (0, [.ref k, .ref t, .int (nI n), .int cm, .int wr])), (k, .inl (cA, 500, .inl K)), (t, .inl (cB, 500, .inl T))] s.heap := hP
  have hl := lv_entry ([.ref h, .int x, .int y]) (n := 3) (Nat.le_of_ble_eq_true rfl)
  rw [lg_entry_eq]
  generalize (lg_sl ([.ref h, .int x, .int y]) ++ List.replicate (3 - (lg_sl ([.ref h, .int x, .int y])).length) Slot.unset).toArray = ls at hl ⊢
  have hl : lv_has ls 3 [(0, .ref h), (1, .int x), (2, .int y)] := hl
  refine lv_aload_n hx hb dX2_put_0 rfl (lv_at hl 0 rfl) ?_
  refine va_get (D := (dC, dI)) (ci := 1) (v := .ref r) (C := RX2) (T := TX2) (N := 4) hx hb hts (by decide +kernel) hown hK hP 0 rfl rfl 0 (by decide) (hts (.fieldLink RX2 10 "RowPress" "row" "LRowPress$Row;") (by decide +kernel)) (fun _ h9 => h9) rfl dX2_put_1 ?_
  refine lv_iconst (v := (nI 1)) hx hb dX2_put_4 (by decide) ?_
  have hPc := hP.sub (ws' := [(r, .inr (0, [.ref k, .ref t, .int (nI n), .int cm, .int wr])), (k, .inl (cA, 500, .inl K)), (t, .inl (cB, 500, .inl T))]) [1, 2, 3] rfl
  have hDc := hD.sub (ws' := [(r, .inr (0, [.ref k, .ref t, .int (nI n), .int cm, .int wr])), (k, .inl (cA, 500, .inl K)), (t, .inl (cB, 500, .inl T))]) [1, 2, 3] (by decide) rfl
  have hKc := hK.sub (tys' := [(cA, .int), (cB, .int)]) [0, 1] rfl
  have hFc := va_free (wc := [(r, .inr (0, [.ref k, .ref t, .int (nI n), .int cm, .int wr])), (k, .inl (cA, 500, .inl K)), (t, .inl (cB, 500, .inl T))]) hD hS hA [1, 2, 3] rfl
  refine va_calli (va_runV (As := [.int (nI 1)]) (rest := []) ⟨hx, hb, hml, hown, hts⟩ (c_X1_hasRoomFor l dC dI s.heap.size r k t cA cB n cm wr K T hn (nI 1)) (cwV 1 hts gX2_put_X1_hasRoomFor rfl rfl rfl (by decide +kernel) ⟨Nat.le_of_ble_eq_true rfl, Nat.le_of_ble_eq_true rfl⟩) ⟨fun a U g mk q => by obtain ⟨q0, q1, qP, qK, qD⟩ := q; exact ⟨q0, q1, qP, va_K.moved (u := U) (U := U.calling g mk a) (Vm.Alike.refl U.vm) qK, qD⟩, va_recv hKc hPc (ci := 0) (q0 := 0) rfl rfl, fun U hU hW => ⟨rfl, by rw [hU], by rw [hU]; exact hPc, va_K.moved hW.alike hKc, hDc.weaken (fun _ _ _ _ => trivial)⟩⟩ rfl rfl hl.1 rfl (lv_room (Nat.le_of_ble_eq_true rfl)) dX2_put_5 ⟨Nat.le_of_ble_eq_true rfl, Nat.le_of_ble_eq_true rfl⟩) hS (fun q _ h => hFc q h) hFc (fun r_1 u tS H1 locs ht hvm hw hB hz1 hk1 hS => ?_)
  obtain ⟨hq, rfl⟩ := hw
  obtain ⟨hP1, hK1, hD1⟩ := hB
  rw [ht] at hP1
  obtain ⟨hP, hD⟩ := va_join (wr := [(h, .inr (1, [.ref r, .int lp, .int lc, .int lw]))]) (w1 := [(r, .inr (0, [.ref k, .ref t, .int (nI n), .int cm, .int wr])), (k, .inl (cA, 500, .inl K)), (t, .inl (cB, 500, .inl T))]) hP hD [1, 2, 3] [0] rfl rfl (by decide) (by decide) hk1 hFc hP1 hD1
  generalize H1 = H at hP hS ⊢
  have hP : va_P (dC, dI) vwCl [(h, .inr (1, [.ref r, .int lp, .int lc, .int lw])), (r, .inr (0, [.ref k, .ref t, .int (nI n), .int cm, .int wr])), (k, .inl (cA, 500, .inl K)), (t, .inl (cB, 500, .inl T))] H := hP
  have hD : va_D A [(h, .inr (1, [.ref r, .int lp, .int lc, .int lw])), (r, .inr (0, [.ref k, .ref t, .int (nI n), .int cm, .int wr])), (k, .inl (cA, 500, .inl K)), (t, .inl (cB, 500, .inl T))] := hD
  refine lv_if_ne (tgt := 13) hx hb dX2_put_8 (by decide) (fun c8 => ?_) (fun c8 => ?_)
  · have hlt : n < 500 := rm_1 hn (tr_1 hq c8)
    refine lv_aload_n hx hb dX2_put_13 rfl (lv_at hl 0 rfl) ?_
    refine va_get (D := (dC, dI)) (ci := 1) (v := .ref r) (C := RX2) (T := TX2) (N := 4) hx hb hts (by decide +kernel) hown hK hP 0 rfl rfl 0 (by decide) (hts (.fieldLink RX2 10 "RowPress" "row" "LRowPress$Row;") (by decide +kernel)) (fun _ h9 => h9) rfl dX2_put_14 ?_
    refine lv_iload_n hx hb dX2_put_17 rfl (lv_at hl 1 rfl) ?_
    refine lv_iload_n hx hb dX2_put_18 rfl (lv_at hl 2 rfl) ?_
    have hPc := hP.sub (ws' := [(r, .inr (0, [.ref k, .ref t, .int (nI n), .int cm, .int wr])), (k, .inl (cA, 500, .inl K)), (t, .inl (cB, 500, .inl T))]) [1, 2, 3] rfl
    have hDc := hD.sub (ws' := [(r, .inr (0, [.ref k, .ref t, .int (nI n), .int cm, .int wr])), (k, .inl (cA, 500, .inl K)), (t, .inl (cB, 500, .inl T))]) [1, 2, 3] (by decide) rfl
    have hKc := hK.sub (tys' := [(cA, .int), (cB, .int)]) [0, 1] rfl
    have hFc := va_free (wc := [(r, .inr (0, [.ref k, .ref t, .int (nI n), .int cm, .int wr])), (k, .inl (cA, 500, .inl K)), (t, .inl (cB, 500, .inl T))]) hD hS hA [1, 2, 3] rfl
    refine va_callv (va_runV (As := [.int x, .int y]) (rest := []) ⟨hx, hb, hml, hown, hts⟩ (c_X1_append l dC dI H.size r k t cA cB n cm wr K T hlt x y) (cwV 2 hts gX2_put_X1_append rfl rfl rfl (by decide +kernel) ⟨Nat.le_of_ble_eq_true rfl, Nat.le_of_ble_eq_true rfl⟩) ⟨fun a U g mk q => by obtain ⟨q0, q1, qP, qK, qD⟩ := q; exact ⟨q0, q1, qP, va_K.moved (u := U) (U := U.calling g mk a) (Vm.Alike.refl U.vm) qK, qD⟩, va_recv hKc hPc (ci := 0) (q0 := 0) rfl rfl, fun U hU hW => ⟨rfl, by rw [hU], by rw [hU]; exact hPc, va_K.moved hW.alike hKc, hDc.weaken (fun _ _ _ _ => trivial)⟩⟩ rfl rfl hl.1 rfl (lv_room (Nat.le_of_ble_eq_true rfl)) dX2_put_19 ⟨Nat.le_of_ble_eq_true rfl, Nat.le_of_ble_eq_true rfl⟩) hS (fun q _ h => hFc q h) hFc (fun u tS H1 locs ht hvm hw hB hz1 hk1 hS => ?_)
    subst hw
    obtain ⟨hP1, hK1, hD1⟩ := hB
    rw [ht] at hP1
    obtain ⟨hP, hD⟩ := va_join (wr := [(h, .inr (1, [.ref r, .int lp, .int lc, .int lw]))]) (w1 := [(r, .inr (0, [.ref k, .ref t, .int (nI (n + 1)), .int cm, .int wr])), (k, .inl (cA, 500, .inl (upd K n x))), (t, .inl (cB, 500, .inl (upd T n y)))]) hP hD [1, 2, 3] [0] rfl rfl (by decide) (by decide) hk1 hFc hP1 hD1
    generalize H1 = H at hP hS ⊢
    have hP : va_P (dC, dI) vwCl [(h, .inr (1, [.ref r, .int lp, .int lc, .int lw])), (r, .inr (0, [.ref k, .ref t, .int (nI (n + 1)), .int cm, .int wr])), (k, .inl (cA, 500, .inl (upd K n x))), (t, .inl (cB, 500, .inl (upd T n y)))] H := hP
    have hD : va_D A [(h, .inr (1, [.ref r, .int lp, .int lc, .int lw])), (r, .inr (0, [.ref k, .ref t, .int (nI (n + 1)), .int cm, .int wr])), (k, .inl (cA, 500, .inl (upd K n x))), (t, .inl (cB, 500, .inl (upd T n y)))] := hD
    refine lv_aload_n hx hb dX2_put_22 rfl (lv_at hl 0 rfl) ?_
    refine va_get (D := (dC, dI)) (ci := 1) (v := .ref r) (C := RX2) (T := TX2) (N := 4) hx hb hts (by decide +kernel) hown hK hP 0 rfl rfl 0 (by decide) (hts (.fieldLink RX2 10 "RowPress" "row" "LRowPress$Row;") (by decide +kernel)) (fun _ h9 => h9) rfl dX2_put_23 ?_
    refine va_get (D := (dC, dI)) (ci := 0) (v := .int (nI (n + 1))) (C := RX1) (T := TX1) (N := 5) hx hb hts (by decide +kernel) hown hK hP 1 rfl rfl 2 (by decide) (hts (.fieldLink RX2 24 "RowPress$Row" "size" "I") (by decide +kernel)) (fun _ h9 => h9) rfl dX2_put_26 ?_
    exact W.iret (v := (nI (n + 1))) hx hb hr (fun tS ht hW => ⟨⟨(nI (n + 1)), (upd K n x, upd T n y, n + 1, cm, wr, lp, lc, lw), rfl, ⟨Or.inr ⟨hlt, rfl, rfl, by rw [mZ_put, if_pos rfl], fun j z => by rw [mZ_put, if_neg (by omega)]⟩, ⟨hlt, hck⟩⟩, by rw [ht]; exact hP, va_K.moved hW.alike hK, hD⟩, hS.F ht⟩) hS.2.2 dX2_put_29
  · refine lv_iconst (v := (-1)) hx hb dX2_put_11 (by decide) ?_
    exact W.iret (v := (-1)) hx hb hr (fun tS ht hW => ⟨⟨(-1), (K, T, n, cm, wr, lp, lc, lw), rfl, ⟨Or.inl ⟨rm_0 hn (tr_0 hq c8), rfl, sam_rf⟩, ⟨hn, hck⟩⟩, by rw [ht]; exact hP, va_K.moved hW.alike hK, hD⟩, hS.F ht⟩) hS.2.2 dX2_put_12
set_option maxHeartbeats 4000000 in
set_option maxRecDepth 100000 in
theorem c_X2_run (l : Launch) (dC : Nat → ClassId) (dI : Nat → Nat → Nat) (sz : Nat) (h r k t : Nat) (cA cB : ClassId) (n : Nat) (cm wr lp lc lw : Int32) (K T : Nat → Int32) (hn : n ≤ 500) (hck : ckI lp lc lw) (x y v w : Int32) : Met l yX2_run wsX2_run ({ frames := 1, cells := 0, slots := 0, locals := 22 }) (va_Pc [.ref h, .int x, .int y, .int v, .int w] (fun U => U.heap.size = sz ∧ va_P (dC, dI) vwCl [(h, .inr (1, [.ref r, .int lp, .int lc, .int lw])), (r, .inr (0, [.ref k, .ref t, .int (nI n), .int cm, .int wr])), (k, .inl (cA, 500, .inl K)), (t, .inl (cB, 500, .inl T))] U.heap ∧ va_K (dC, dI) vwCl [(cA, .int), (cB, .int)] U ∧ va_D (fun _ => True) [(h, .inr (1, [.ref r, .int lp, .int lc, .int lw])), (r, .inr (0, [.ref k, .ref t, .int (nI n), .int cm, .int wr])), (k, .inl (cA, 500, .inl K)), (t, .inl (cB, 500, .inl T))])) (va_Qi (fun r u => Qrun n (mZ K T) x y v w r u.2.2.1 (mZ u.1 u.2.1) ∧ okU u) (atX dC dI (va_A [(h, .inr (1, [.ref r, .int lp, .int lc, .int lw])), (r, .inr (0, [.ref k, .ref t, .int (nI n), .int cm, .int wr])), (k, .inl (cA, 500, .inl K)), (t, .inl (cB, 500, .inl T))] sz) h r k t cA cB) (va_A [(h, .inr (1, [.ref r, .int lp, .int lc, .int lw])), (r, .inr (0, [.ref k, .ref t, .int (nI n), .int cm, .int wr])), (k, .inl (cA, 500, .inl K)), (t, .inl (cB, 500, .inl T))] sz)) 0 0 (va_A [(h, .inr (1, [.ref r, .int lp, .int lc, .int lw])), (r, .inr (0, [.ref k, .ref t, .int (nI n), .int cm, .int wr])), (k, .inl (cA, 500, .inl K)), (t, .inl (cB, 500, .inl T))] sz) := by
  refine Met.ofW (cc := cX2_run) (maxL := 6) (ret := (some .int)) (by decide) rfl ?_
  intro p e s m args below meth c s₁ B hml hv
  obtain ⟨rfl, hsz, hP, hK, hD0⟩ := hv
  have hx := B.exec
  have hb := B.bytes
  have hr := B.returns
  have hts := atoms_spec (ws := wsX2_run) B.pre
  have hown : s.vm.findClass RX2 = some m.cls := findClass_of_methodNamed B.named
  have hlocks := B.notSynchronized
  subst hsz
  have hD := hD0.self (sz := s.heap.size)
  generalize hAe : va_A [(h, .inr (1, [.ref r, .int lp, .int lc, .int lw])), (r, .inr (0, [.ref k, .ref t, .int (nI n), .int cm, .int wr])), (k, .inl (cA, 500, .inl K)), (t, .inl (cB, 500, .inl T))] s.heap.size = A at hD ⊢
  have hA : ∀ q : Nat, s.heap.size ≤ q → A q := fun q h => by rw [← hAe]; exact Or.inr h
  have hS : va_S A s.heap s.heap [] := va_S.rf
  have hP : va_P (dC, dI) vwCl [(h, .inr (1, [.ref r, .int lp, .int lc, .int lw])), (r, .inr (0, [.ref k, .ref t, .int (nI n), .int cm, .int wr])), (k, .inl (cA, 500, .inl K)), (t, .inl (cB, 500, .inl T))] s.heap := hP
  have hl := lv_entry ([.ref h, .int x, .int y, .int v, .int w]) (n := 6) (Nat.le_of_ble_eq_true rfl)
  rw [lg_entry_eq]
  generalize (lg_sl ([.ref h, .int x, .int y, .int v, .int w]) ++ List.replicate (6 - (lg_sl ([.ref h, .int x, .int y, .int v, .int w])).length) Slot.unset).toArray = ls at hl ⊢
  have hl : lv_has ls 6 [(0, .ref h), (1, .int x), (2, .int y), (3, .int v), (4, .int w)] := hl
  refine lv_iload_n hx hb dX2_run_0 rfl (lv_at hl 1 rfl) ?_
  refine lv_iconst (v := (nI 1)) hx hb dX2_run_1 (by decide) ?_
  refine lv_icmp_lt (tgt := 16) hx hb dX2_run_2 (by decide) (fun c2 => ?_) (fun c2 => ?_)
  · refine lv_iconst (v := (-1)) hx hb dX2_run_16 (by decide) ?_
    exact W.iret (v := (-1)) hx hb hr (fun tS ht hW => ⟨⟨(-1), (K, T, n, cm, wr, lp, lc, lw), rfl, ⟨Or.inl ⟨⟨rfl, sam_rf⟩, fun z hz => (dN_e hz).1 c2⟩, ⟨hn, hck⟩⟩, by rw [ht]; exact hP, va_K.moved hW.alike hK, hD⟩, hS.F ht⟩) hS.2.2 dX2_run_17
  · refine lv_aload_n hx hb dX2_run_5 rfl (lv_at hl 0 rfl) ?_
    refine va_get (D := (dC, dI)) (ci := 1) (v := .ref r) (C := RX2) (T := TX2) (N := 4) hx hb hts (by decide +kernel) hown hK hP 0 rfl rfl 0 (by decide) (hts (.fieldLink RX2 10 "RowPress" "row" "LRowPress$Row;") (by decide +kernel)) (fun _ h9 => h9) rfl dX2_run_6 ?_
    refine lv_iload_n hx hb dX2_run_9 rfl (lv_at hl 1 rfl) ?_
    have hPc := hP.sub (ws' := [(r, .inr (0, [.ref k, .ref t, .int (nI n), .int cm, .int wr])), (k, .inl (cA, 500, .inl K)), (t, .inl (cB, 500, .inl T))]) [1, 2, 3] rfl
    have hDc := hD.sub (ws' := [(r, .inr (0, [.ref k, .ref t, .int (nI n), .int cm, .int wr])), (k, .inl (cA, 500, .inl K)), (t, .inl (cB, 500, .inl T))]) [1, 2, 3] (by decide) rfl
    have hKc := hK.sub (tys' := [(cA, .int), (cB, .int)]) [0, 1] rfl
    have hFc := va_free (wc := [(r, .inr (0, [.ref k, .ref t, .int (nI n), .int cm, .int wr])), (k, .inl (cA, 500, .inl K)), (t, .inl (cB, 500, .inl T))]) hD hS hA [1, 2, 3] rfl
    refine va_calli (va_runV (As := [.int x]) (rest := []) ⟨hx, hb, hml, hown, hts⟩ (c_X1_hasRoomFor l dC dI s.heap.size r k t cA cB n cm wr K T hn x) (cwV 1 hts gX2_run_X1_hasRoomFor rfl rfl rfl (by decide +kernel) ⟨Nat.le_of_ble_eq_true rfl, Nat.le_of_ble_eq_true rfl⟩) ⟨fun a U g mk q => by obtain ⟨q0, q1, qP, qK, qD⟩ := q; exact ⟨q0, q1, qP, va_K.moved (u := U) (U := U.calling g mk a) (Vm.Alike.refl U.vm) qK, qD⟩, va_recv hKc hPc (ci := 0) (q0 := 0) rfl rfl, fun U hU hW => ⟨rfl, by rw [hU], by rw [hU]; exact hPc, va_K.moved hW.alike hKc, hDc.weaken (fun _ _ _ _ => trivial)⟩⟩ rfl rfl hl.1 rfl (lv_room (Nat.le_of_ble_eq_true rfl)) dX2_run_10 ⟨Nat.le_of_ble_eq_true rfl, Nat.le_of_ble_eq_true rfl⟩) hS (fun q _ h => hFc q h) hFc (fun r_1 u tS H1 locs ht hvm hw hB hz1 hk1 hS => ?_)
    obtain ⟨hq, rfl⟩ := hw
    obtain ⟨hP1, hK1, hD1⟩ := hB
    rw [ht] at hP1
    obtain ⟨hP, hD⟩ := va_join (wr := [(h, .inr (1, [.ref r, .int lp, .int lc, .int lw]))]) (w1 := [(r, .inr (0, [.ref k, .ref t, .int (nI n), .int cm, .int wr])), (k, .inl (cA, 500, .inl K)), (t, .inl (cB, 500, .inl T))]) hP hD [1, 2, 3] [0] rfl rfl (by decide) (by decide) hk1 hFc hP1 hD1
    generalize H1 = H at hP hS ⊢
    have hP : va_P (dC, dI) vwCl [(h, .inr (1, [.ref r, .int lp, .int lc, .int lw])), (r, .inr (0, [.ref k, .ref t, .int (nI n), .int cm, .int wr])), (k, .inl (cA, 500, .inl K)), (t, .inl (cB, 500, .inl T))] H := hP
    have hD : va_D A [(h, .inr (1, [.ref r, .int lp, .int lc, .int lw])), (r, .inr (0, [.ref k, .ref t, .int (nI n), .int cm, .int wr])), (k, .inl (cA, 500, .inl K)), (t, .inl (cB, 500, .inl T))] := hD
    refine lv_if_ne (tgt := 18) hx hb dX2_run_13 (by decide) (fun c13 => ?_) (fun c13 => ?_)
    · obtain ⟨z, hz⟩ := dN_of hn c2 (tr_1 hq c13)
      obtain ⟨rfl, hz1, hz2⟩ := hz
      refine lv_iconst (v := (nI 0)) hx hb dX2_run_18 (by decide) ?_
      refine lv_istore (lv' := [(5, .int (nI 0)), (0, .ref h), (1, .int (nI z)), (2, .int y), (3, .int v), (4, .int w)]) hx hb dX2_run_19 hl (by decide) rfl (fun ls hl => ?_)
      refine lz_loop (σ := Nat × (Nat → Int32) × (Nat → Int32) × Nat) (μ := fun X_ => match X_ with | (q, K1, T1, n1) => z - q) (Inv := fun X_ H locs ls => match X_ with | (q, K1, T1, n1) => (q ≤ z) ∧ (n1 = n + q) ∧ (rnI K T K1 T1 n q y v w) ∧ va_P (dC, dI) vwCl [(h, .inr (1, [.ref r, .int lp, .int lc, .int lw])), (r, .inr (0, [.ref k, .ref t, .int (nI n1), .int cm, .int wr])), (k, .inl (cA, 500, .inl K1)), (t, .inl (cB, 500, .inl T1))] H ∧ va_D A [(h, .inr (1, [.ref r, .int lp, .int lc, .int lw])), (r, .inr (0, [.ref k, .ref t, .int (nI n1), .int cm, .int wr])), (k, .inl (cA, 500, .inl K1)), (t, .inl (cB, 500, .inl T1))] ∧ va_S A s.heap H locs ∧ lv_has ls 6 [(0, .ref h), (1, .int (nI z)), (2, .int y), (3, .int v), (4, .int w), (5, .int (nI q))]) ?_ (0, K, T, n) _ _ _ ?_
      · rintro ⟨q, K1, T1, n1⟩ ihk H locs ls ⟨vk0, vk1, vk2, hP, hD, hS, hl⟩
        refine lv_iload hx hb dX2_run_21 (lv_at hl 5 rfl) ?_
        refine lv_iload_n hx hb dX2_run_23 rfl (lv_at hl 1 rfl) ?_
        refine lz_icmp_ge (tgt := 51) (by omega) (by omega) hx hb dX2_run_24 (by decide) (fun c24 => ?_) (fun c24 => ?_)
        · refine lv_aload_n hx hb dX2_run_51 rfl (lv_at hl 0 rfl) ?_
          refine va_get (D := (dC, dI)) (ci := 1) (v := .ref r) (C := RX2) (T := TX2) (N := 4) hx hb hts (by decide +kernel) hown hK hP 0 rfl rfl 0 (by decide) (hts (.fieldLink RX2 10 "RowPress" "row" "LRowPress$Row;") (by decide +kernel)) (fun _ h9 => h9) rfl dX2_run_52 ?_
          refine va_get (D := (dC, dI)) (ci := 0) (v := .int (nI n1)) (C := RX1) (T := TX1) (N := 5) hx hb hts (by decide +kernel) hown hK hP 1 rfl rfl 2 (by decide) (hts (.fieldLink RX2 24 "RowPress$Row" "size" "I") (by decide +kernel)) (fun _ h9 => h9) rfl dX2_run_55 ?_
          exact W.iret (v := (nI n1)) hx hb hr (fun tS ht hW => ⟨⟨(nI n1), (K1, T1, n1, cm, wr, lp, lc, lw), rfl, ⟨Or.inr ⟨z, ⟨rfl, hz1, hz2⟩, by rw [vk1, show q = z by omega], by show n1 = n + z; omega, vk2.1, fun i hi => vk2.2 i (by omega)⟩, ⟨by show n1 ≤ 500; omega, hck⟩⟩, by rw [ht]; exact hP, va_K.moved hW.alike hK, hD⟩, hS.F ht⟩) hS.2.2 dX2_run_58
        · refine lv_aload_n hx hb dX2_run_27 rfl (lv_at hl 0 rfl) ?_
          refine va_get (D := (dC, dI)) (ci := 1) (v := .ref r) (C := RX2) (T := TX2) (N := 4) hx hb hts (by decide +kernel) hown hK hP 0 rfl rfl 0 (by decide) (hts (.fieldLink RX2 10 "RowPress" "row" "LRowPress$Row;") (by decide +kernel)) (fun _ h9 => h9) rfl dX2_run_28 ?_
          refine lv_iload_n hx hb dX2_run_31 rfl (lv_at hl 2 rfl) ?_
          refine lv_iload hx hb dX2_run_32 (lv_at hl 5 rfl) ?_
          refine lv_iload_n hx hb dX2_run_34 rfl (lv_at hl 3 rfl) ?_
          refine lv_imul hx hb dX2_run_35 ?_
          refine lv_iadd hx hb dX2_run_36 ?_
          refine lv_iload hx hb dX2_run_37 (lv_at hl 4 rfl) ?_
          refine lv_iload hx hb dX2_run_39 (lv_at hl 5 rfl) ?_
          refine lv_iadd hx hb dX2_run_41 ?_
          have hPc := hP.sub (ws' := [(r, .inr (0, [.ref k, .ref t, .int (nI n1), .int cm, .int wr])), (k, .inl (cA, 500, .inl K1)), (t, .inl (cB, 500, .inl T1))]) [1, 2, 3] rfl
          have hDc := hD.sub (ws' := [(r, .inr (0, [.ref k, .ref t, .int (nI n1), .int cm, .int wr])), (k, .inl (cA, 500, .inl K1)), (t, .inl (cB, 500, .inl T1))]) [1, 2, 3] (by decide) rfl
          have hKc := hK.sub (tys' := [(cA, .int), (cB, .int)]) [0, 1] rfl
          have hFc := va_free (wc := [(r, .inr (0, [.ref k, .ref t, .int (nI n1), .int cm, .int wr])), (k, .inl (cA, 500, .inl K1)), (t, .inl (cB, 500, .inl T1))]) hD hS hA [1, 2, 3] rfl
          refine va_callv (va_runV (As := [.int (y + ((nI q) * v)), .int (w + (nI q))]) (rest := []) ⟨hx, hb, hml, hown, hts⟩ (c_X1_append l dC dI H.size r k t cA cB n1 cm wr K1 T1 (by omega) (y + (nI q) * v) (w + (nI q))) (cwV 2 hts gX2_run_X1_append rfl rfl rfl (by decide +kernel) ⟨Nat.le_of_ble_eq_true rfl, Nat.le_of_ble_eq_true rfl⟩) ⟨fun a U g mk q => by obtain ⟨q0, q1, qP, qK, qD⟩ := q; exact ⟨q0, q1, qP, va_K.moved (u := U) (U := U.calling g mk a) (Vm.Alike.refl U.vm) qK, qD⟩, va_recv hKc hPc (ci := 0) (q0 := 0) rfl rfl, fun U hU hW => ⟨rfl, by rw [hU], by rw [hU]; exact hPc, va_K.moved hW.alike hKc, hDc.weaken (fun _ _ _ _ => trivial)⟩⟩ rfl rfl hl.1 rfl (lv_room (Nat.le_of_ble_eq_true rfl)) dX2_run_42 ⟨Nat.le_of_ble_eq_true rfl, Nat.le_of_ble_eq_true rfl⟩) hS (fun q _ h => hFc q h) hFc (fun u tS H1 locs ht hvm hw hB hz1 hk1 hS => ?_)
          subst hw
          obtain ⟨hP1, hK1, hD1⟩ := hB
          rw [ht] at hP1
          obtain ⟨hP, hD⟩ := va_join (wr := [(h, .inr (1, [.ref r, .int lp, .int lc, .int lw]))]) (w1 := [(r, .inr (0, [.ref k, .ref t, .int (nI (n1 + 1)), .int cm, .int wr])), (k, .inl (cA, 500, .inl (upd K1 n1 (y + (nI q) * v)))), (t, .inl (cB, 500, .inl (upd T1 n1 (w + (nI q)))))]) hP hD [1, 2, 3] [0] rfl rfl (by decide) (by decide) hk1 hFc hP1 hD1
          generalize H1 = H at hP hS ⊢
          have hP : va_P (dC, dI) vwCl [(h, .inr (1, [.ref r, .int lp, .int lc, .int lw])), (r, .inr (0, [.ref k, .ref t, .int (nI (n1 + 1)), .int cm, .int wr])), (k, .inl (cA, 500, .inl (upd K1 n1 (y + (nI q) * v)))), (t, .inl (cB, 500, .inl (upd T1 n1 (w + (nI q)))))] H := hP
          have hD : va_D A [(h, .inr (1, [.ref r, .int lp, .int lc, .int lw])), (r, .inr (0, [.ref k, .ref t, .int (nI (n1 + 1)), .int cm, .int wr])), (k, .inl (cA, 500, .inl (upd K1 n1 (y + (nI q) * v)))), (t, .inl (cB, 500, .inl (upd T1 n1 (w + (nI q)))))] := hD
          refine lv_iinc (v := (nI (q + 1))) (lv' := [(5, .int (nI (q + 1))), (0, .ref h), (1, .int (nI z)), (2, .int y), (3, .int v), (4, .int w)]) hx hb dX2_run_45 hl (k := 5) rfl (by first | exact nI_add q 1 | (rw [← nI_add]; rfl)) (by decide) rfl (fun ls hl => ?_)
          refine lv_goto (tgt := 21) hx hb dX2_run_48 (by decide) ?_
          exact ihk ((q + 1), (upd K1 n1 (y + (nI q) * v)), (upd T1 n1 (w + (nI q))), (n1 + 1)) (by show z - (q + 1) < z - q; omega) _ _ _ ⟨by omega, by omega, rnI_s vk2 vk1, hP, hD, hS, lv_sub hl [1, 2, 3, 4, 5, 0] rfl⟩
      · exact ⟨Nat.zero_le _, rfl, rnI_0, hP, hD, hS, lv_sub hl [1, 2, 3, 4, 5, 0] rfl⟩
    · refine lv_iconst (v := (-1)) hx hb dX2_run_16 (by decide) ?_
      exact W.iret (v := (-1)) hx hb hr (fun tS ht hW => ⟨⟨(-1), (K, T, n, cm, wr, lp, lc, lw), rfl, ⟨Or.inl ⟨⟨rfl, sam_rf⟩, fun z hz => tr_0 hq c13 (dN_e hz).2⟩, ⟨hn, hck⟩⟩, by rw [ht]; exact hP, va_K.moved hW.alike hK, hD⟩, hS.F ht⟩) hS.2.2 dX2_run_17
set_option maxHeartbeats 4000000 in
set_option maxRecDepth 100000 in
theorem c_X2_clear (l : Launch) (dC : Nat → ClassId) (dI : Nat → Nat → Nat) (sz : Nat) (h r k t : Nat) (cA cB : ClassId) (n : Nat) (cm wr lp lc lw : Int32) (K T : Nat → Int32) (hn : n ≤ 500) (hck : ckI lp lc lw) : Met l yX2_clear wsX2_clear ({ frames := 0, cells := 0, slots := 0, locals := 0 }) (va_Pc [.ref h] (fun U => U.heap.size = sz ∧ va_P (dC, dI) vwCl [(h, .inr (1, [.ref r, .int lp, .int lc, .int lw])), (r, .inr (0, [.ref k, .ref t, .int (nI n), .int cm, .int wr])), (k, .inl (cA, 500, .inl K)), (t, .inl (cB, 500, .inl T))] U.heap ∧ va_K (dC, dI) vwCl [(cA, .int), (cB, .int)] U ∧ va_D (fun _ => True) [(h, .inr (1, [.ref r, .int lp, .int lc, .int lw])), (r, .inr (0, [.ref k, .ref t, .int (nI n), .int cm, .int wr])), (k, .inl (cA, 500, .inl K)), (t, .inl (cB, 500, .inl T))])) (va_Qi (fun r u => (r = nI n ∧ u.2.2.1 = 0) ∧ okU u) (atX dC dI (va_A [(h, .inr (1, [.ref r, .int lp, .int lc, .int lw])), (r, .inr (0, [.ref k, .ref t, .int (nI n), .int cm, .int wr])), (k, .inl (cA, 500, .inl K)), (t, .inl (cB, 500, .inl T))] sz) h r k t cA cB) (va_A [(h, .inr (1, [.ref r, .int lp, .int lc, .int lw])), (r, .inr (0, [.ref k, .ref t, .int (nI n), .int cm, .int wr])), (k, .inl (cA, 500, .inl K)), (t, .inl (cB, 500, .inl T))] sz)) 0 0 (va_A [(h, .inr (1, [.ref r, .int lp, .int lc, .int lw])), (r, .inr (0, [.ref k, .ref t, .int (nI n), .int cm, .int wr])), (k, .inl (cA, 500, .inl K)), (t, .inl (cB, 500, .inl T))] sz) := by
  refine Met.ofW (cc := cX2_clear) (maxL := 2) (ret := (some .int)) (by decide) rfl ?_
  intro p e s m args below meth c s₁ B hml hv
  obtain ⟨rfl, hsz, hP, hK, hD0⟩ := hv
  have hx := B.exec
  have hb := B.bytes
  have hr := B.returns
  have hts := atoms_spec (ws := wsX2_clear) B.pre
  have hown : s.vm.findClass RX2 = some m.cls := findClass_of_methodNamed B.named
  have hlocks := B.notSynchronized
  subst hsz
  have hD := hD0.self (sz := s.heap.size)
  generalize hAe : va_A [(h, .inr (1, [.ref r, .int lp, .int lc, .int lw])), (r, .inr (0, [.ref k, .ref t, .int (nI n), .int cm, .int wr])), (k, .inl (cA, 500, .inl K)), (t, .inl (cB, 500, .inl T))] s.heap.size = A at hD ⊢
  have hA : ∀ q : Nat, s.heap.size ≤ q → A q := fun q h => by rw [← hAe]; exact Or.inr h
  have hS : va_S A s.heap s.heap [] := va_S.rf
  have hP : va_P (dC, dI) vwCl [(h, .inr (1, [.ref r, .int lp, .int lc, .int lw])), (r, .inr (0, [.ref k, .ref t, .int (nI n), .int cm, .int wr])), (k, .inl (cA, 500, .inl K)), (t, .inl (cB, 500, .inl T))] s.heap := hP
  have hl := lv_entry ([.ref h]) (n := 2) (Nat.le_of_ble_eq_true rfl)
  rw [lg_entry_eq]
  generalize (lg_sl ([.ref h]) ++ List.replicate (2 - (lg_sl ([.ref h])).length) Slot.unset).toArray = ls at hl ⊢
  have hl : lv_has ls 2 [(0, .ref h)] := hl
  refine lv_aload_n hx hb dX2_clear_0 rfl (lv_at hl 0 rfl) ?_
  refine va_get (D := (dC, dI)) (ci := 1) (v := .ref r) (C := RX2) (T := TX2) (N := 4) hx hb hts (by decide +kernel) hown hK hP 0 rfl rfl 0 (by decide) (hts (.fieldLink RX2 10 "RowPress" "row" "LRowPress$Row;") (by decide +kernel)) (fun _ h9 => h9) rfl dX2_clear_1 ?_
  refine va_get (D := (dC, dI)) (ci := 0) (v := .int (nI n)) (C := RX1) (T := TX1) (N := 5) hx hb hts (by decide +kernel) hown hK hP 1 rfl rfl 2 (by decide) (hts (.fieldLink RX2 24 "RowPress$Row" "size" "I") (by decide +kernel)) (fun _ h9 => h9) rfl dX2_clear_4 ?_
  refine lv_istore_n (lv' := [(1, .int (nI n)), (0, .ref h)]) hx hb dX2_clear_7 rfl hl (by decide) rfl (fun ls hl => ?_)
  refine lv_aload_n hx hb dX2_clear_8 rfl (lv_at hl 1 rfl) ?_
  refine va_get (D := (dC, dI)) (ci := 1) (v := .ref r) (C := RX2) (T := TX2) (N := 4) hx hb hts (by decide +kernel) hown hK hP 0 rfl rfl 0 (by decide) (hts (.fieldLink RX2 10 "RowPress" "row" "LRowPress$Row;") (by decide +kernel)) (fun _ h9 => h9) rfl dX2_clear_9 ?_
  refine lv_iconst (v := (nI 0)) hx hb dX2_clear_12 (by decide) ?_
  refine va_put (D := (dC, dI)) (ci := 0) (v := .int (nI 0)) (ty := .int) (C := RX1) (T := TX1) (N := 5) hx hb hts (by decide +kernel) tyX1 tyX1_ok nmX1 hown hK hP hD hS 1 rfl rfl 2 (by decide) (hts (.fieldLink RX2 24 "RowPress$Row" "size" "I") (by decide +kernel)) (fun _ h9 => h9) rfl (by decide +kernel) rfl rfl (Nat.le_of_ble_eq_true rfl) dX2_clear_13 (fun H locs hP hD hS => ?_)
  have hP : va_P (dC, dI) vwCl [(h, .inr (1, [.ref r, .int lp, .int lc, .int lw])), (r, .inr (0, [.ref k, .ref t, .int (nI 0), .int cm, .int wr])), (k, .inl (cA, 500, .inl K)), (t, .inl (cB, 500, .inl T))] H := hP
  have hD : va_D A [(h, .inr (1, [.ref r, .int lp, .int lc, .int lw])), (r, .inr (0, [.ref k, .ref t, .int (nI 0), .int cm, .int wr])), (k, .inl (cA, 500, .inl K)), (t, .inl (cB, 500, .inl T))] := hD
  refine lv_iload_n hx hb dX2_clear_16 rfl (lv_at hl 0 rfl) ?_
  exact W.iret (v := (nI n)) hx hb hr (fun tS ht hW => ⟨⟨(nI n), (K, T, 0, cm, wr, lp, lc, lw), rfl, ⟨⟨rfl, rfl⟩, ⟨Nat.zero_le _, hck⟩⟩, by rw [ht]; exact hP, va_K.moved hW.alike hK, hD⟩, hS.F ht⟩) hS.2.2 dX2_clear_17
set_option maxHeartbeats 4000000 in
set_option maxRecDepth 100000 in
theorem c_X2_keepCounts (l : Launch) (dC : Nat → ClassId) (dI : Nat → Nat → Nat) (sz : Nat) (h r k t : Nat) (cA cB : ClassId) (n : Nat) (cm wr lp lc lw : Int32) (K T : Nat → Int32) (x : Int32) : Met l yX2_keepCounts wsX2_keepCounts ({ frames := 0, cells := 0, slots := 0, locals := 0 }) (va_Pc [.ref h, .int x] (fun U => U.heap.size = sz ∧ va_P (dC, dI) vwCl [(h, .inr (1, [.ref r, .int lp, .int lc, .int lw])), (r, .inr (0, [.ref k, .ref t, .int (nI n), .int cm, .int wr])), (k, .inl (cA, 500, .inl K)), (t, .inl (cB, 500, .inl T))] U.heap ∧ va_K (dC, dI) vwCl [(cA, .int), (cB, .int)] U ∧ va_D (fun _ => True) [(h, .inr (1, [.ref r, .int lp, .int lc, .int lw])), (r, .inr (0, [.ref k, .ref t, .int (nI n), .int cm, .int wr])), (k, .inl (cA, 500, .inl K)), (t, .inl (cB, 500, .inl T))])) (va_Qv (fun u => u = (K, T, n, cm, wr, x, cm, wr)) (atX dC dI (va_A [(h, .inr (1, [.ref r, .int lp, .int lc, .int lw])), (r, .inr (0, [.ref k, .ref t, .int (nI n), .int cm, .int wr])), (k, .inl (cA, 500, .inl K)), (t, .inl (cB, 500, .inl T))] sz) h r k t cA cB) (va_A [(h, .inr (1, [.ref r, .int lp, .int lc, .int lw])), (r, .inr (0, [.ref k, .ref t, .int (nI n), .int cm, .int wr])), (k, .inl (cA, 500, .inl K)), (t, .inl (cB, 500, .inl T))] sz)) 0 0 (va_A [(h, .inr (1, [.ref r, .int lp, .int lc, .int lw])), (r, .inr (0, [.ref k, .ref t, .int (nI n), .int cm, .int wr])), (k, .inl (cA, 500, .inl K)), (t, .inl (cB, 500, .inl T))] sz) := by
  refine Met.ofW (cc := cX2_keepCounts) (maxL := 2) (ret := none) (by decide) rfl ?_
  intro p e s m args below meth c s₁ B hml hv
  obtain ⟨rfl, hsz, hP, hK, hD0⟩ := hv
  have hx := B.exec
  have hb := B.bytes
  have hr := B.returns
  have hts := atoms_spec (ws := wsX2_keepCounts) B.pre
  have hown : s.vm.findClass RX2 = some m.cls := findClass_of_methodNamed B.named
  have hlocks := B.notSynchronized
  subst hsz
  have hD := hD0.self (sz := s.heap.size)
  generalize hAe : va_A [(h, .inr (1, [.ref r, .int lp, .int lc, .int lw])), (r, .inr (0, [.ref k, .ref t, .int (nI n), .int cm, .int wr])), (k, .inl (cA, 500, .inl K)), (t, .inl (cB, 500, .inl T))] s.heap.size = A at hD ⊢
  have hA : ∀ q : Nat, s.heap.size ≤ q → A q := fun q h => by rw [← hAe]; exact Or.inr h
  have hS : va_S A s.heap s.heap [] := va_S.rf
  have hP : va_P (dC, dI) vwCl [(h, .inr (1, [.ref r, .int lp, .int lc, .int lw])), (r, .inr (0, [.ref k, .ref t, .int (nI n), .int cm, .int wr])), (k, .inl (cA, 500, .inl K)), (t, .inl (cB, 500, .inl T))] s.heap := hP
  have hl := lv_entry ([.ref h, .int x]) (n := 2) (Nat.le_of_ble_eq_true rfl)
  rw [lg_entry_eq]
  generalize (lg_sl ([.ref h, .int x]) ++ List.replicate (2 - (lg_sl ([.ref h, .int x])).length) Slot.unset).toArray = ls at hl ⊢
  have hl : lv_has ls 2 [(0, .ref h), (1, .int x)] := hl
  refine lv_aload_n hx hb dX2_keepCounts_0 rfl (lv_at hl 0 rfl) ?_
  refine lv_iload_n hx hb dX2_keepCounts_1 rfl (lv_at hl 1 rfl) ?_
  refine va_put (D := (dC, dI)) (ci := 1) (v := .int x) (ty := .int) (C := RX2) (T := TX2) (N := 4) hx hb hts (by decide +kernel) tyX2 tyX2_ok nmX2 hown hK hP hD hS 0 rfl rfl 1 (by decide) (hts (.fieldLink RX2 100 "RowPress" "latestPairs" "I") (by decide +kernel)) (fun _ h9 => h9) rfl (by decide +kernel) rfl rfl (Nat.le_of_ble_eq_true rfl) dX2_keepCounts_2 (fun H locs hP hD hS => ?_)
  have hP : va_P (dC, dI) vwCl [(h, .inr (1, [.ref r, .int x, .int lc, .int lw])), (r, .inr (0, [.ref k, .ref t, .int (nI n), .int cm, .int wr])), (k, .inl (cA, 500, .inl K)), (t, .inl (cB, 500, .inl T))] H := hP
  have hD : va_D A [(h, .inr (1, [.ref r, .int x, .int lc, .int lw])), (r, .inr (0, [.ref k, .ref t, .int (nI n), .int cm, .int wr])), (k, .inl (cA, 500, .inl K)), (t, .inl (cB, 500, .inl T))] := hD
  refine lv_aload_n hx hb dX2_keepCounts_5 rfl (lv_at hl 0 rfl) ?_
  refine lv_aload_n hx hb dX2_keepCounts_6 rfl (lv_at hl 0 rfl) ?_
  refine va_get (D := (dC, dI)) (ci := 1) (v := .ref r) (C := RX2) (T := TX2) (N := 4) hx hb hts (by decide +kernel) hown hK hP 0 rfl rfl 0 (by decide) (hts (.fieldLink RX2 10 "RowPress" "row" "LRowPress$Row;") (by decide +kernel)) (fun _ h9 => h9) rfl dX2_keepCounts_7 ?_
  refine va_get (D := (dC, dI)) (ci := 0) (v := .int cm) (C := RX1) (T := TX1) (N := 5) hx hb hts (by decide +kernel) hown hK hP 1 rfl rfl 3 (by decide) (hts (.fieldLink RX2 113 "RowPress$Row" "compares" "I") (by decide +kernel)) (fun _ h9 => h9) rfl dX2_keepCounts_10 ?_
  refine va_put (D := (dC, dI)) (ci := 1) (v := .int cm) (ty := .int) (C := RX2) (T := TX2) (N := 4) hx hb hts (by decide +kernel) tyX2 tyX2_ok nmX2 hown hK hP hD hS 0 rfl rfl 2 (by decide) (hts (.fieldLink RX2 107 "RowPress" "latestCompares" "I") (by decide +kernel)) (fun _ h9 => h9) rfl (by decide +kernel) rfl rfl (Nat.le_of_ble_eq_true rfl) dX2_keepCounts_13 (fun H locs hP hD hS => ?_)
  have hP : va_P (dC, dI) vwCl [(h, .inr (1, [.ref r, .int x, .int cm, .int lw])), (r, .inr (0, [.ref k, .ref t, .int (nI n), .int cm, .int wr])), (k, .inl (cA, 500, .inl K)), (t, .inl (cB, 500, .inl T))] H := hP
  have hD : va_D A [(h, .inr (1, [.ref r, .int x, .int cm, .int lw])), (r, .inr (0, [.ref k, .ref t, .int (nI n), .int cm, .int wr])), (k, .inl (cA, 500, .inl K)), (t, .inl (cB, 500, .inl T))] := hD
  refine lv_aload_n hx hb dX2_keepCounts_16 rfl (lv_at hl 0 rfl) ?_
  refine lv_aload_n hx hb dX2_keepCounts_17 rfl (lv_at hl 0 rfl) ?_
  refine va_get (D := (dC, dI)) (ci := 1) (v := .ref r) (C := RX2) (T := TX2) (N := 4) hx hb hts (by decide +kernel) hown hK hP 0 rfl rfl 0 (by decide) (hts (.fieldLink RX2 10 "RowPress" "row" "LRowPress$Row;") (by decide +kernel)) (fun _ h9 => h9) rfl dX2_keepCounts_18 ?_
  refine va_get (D := (dC, dI)) (ci := 0) (v := .int wr) (C := RX1) (T := TX1) (N := 5) hx hb hts (by decide +kernel) hown hK hP 1 rfl rfl 4 (by decide) (hts (.fieldLink RX2 116 "RowPress$Row" "writes" "I") (by decide +kernel)) (fun _ h9 => h9) rfl dX2_keepCounts_21 ?_
  refine va_put (D := (dC, dI)) (ci := 1) (v := .int wr) (ty := .int) (C := RX2) (T := TX2) (N := 4) hx hb hts (by decide +kernel) tyX2 tyX2_ok nmX2 hown hK hP hD hS 0 rfl rfl 3 (by decide) (hts (.fieldLink RX2 110 "RowPress" "latestWrites" "I") (by decide +kernel)) (fun _ h9 => h9) rfl (by decide +kernel) rfl rfl (Nat.le_of_ble_eq_true rfl) dX2_keepCounts_24 (fun H locs hP hD hS => ?_)
  have hP : va_P (dC, dI) vwCl [(h, .inr (1, [.ref r, .int x, .int cm, .int wr])), (r, .inr (0, [.ref k, .ref t, .int (nI n), .int cm, .int wr])), (k, .inl (cA, 500, .inl K)), (t, .inl (cB, 500, .inl T))] H := hP
  have hD : va_D A [(h, .inr (1, [.ref r, .int x, .int cm, .int wr])), (r, .inr (0, [.ref k, .ref t, .int (nI n), .int cm, .int wr])), (k, .inl (cA, 500, .inl K)), (t, .inl (cB, 500, .inl T))] := hD
  exact W.vret hx hb hr (fun tS ht hW => ⟨⟨(K, T, n, cm, wr, x, cm, wr), rfl, rfl, by rw [ht]; exact hP, va_K.moved hW.alike hK, hD⟩, hS.F ht⟩) hS.2.2 dX2_keepCounts_27
set_option maxHeartbeats 4000000 in
set_option maxRecDepth 100000 in
theorem c_X2_sortPart (l : Launch) (dC : Nat → ClassId) (dI : Nat → Nat → Nat) (sz : Nat) (h r k t : Nat) (cA cB : ClassId) (n : Nat) (cm wr lp lc lw : Int32) (K T : Nat → Int32) (hn : n ≤ 500) (hck : ckI lp lc lw) (x y o : Int32) : Met l yX2_sortPart wsX2_sortPart ({ frames := 14, cells := 0, slots := 0, locals := 380 }) (va_Pc [.ref h, .int x, .int y, .int o] (fun U => U.heap.size = sz ∧ va_P (dC, dI) vwCl [(h, .inr (1, [.ref r, .int lp, .int lc, .int lw])), (r, .inr (0, [.ref k, .ref t, .int (nI n), .int cm, .int wr])), (k, .inl (cA, 500, .inl K)), (t, .inl (cB, 500, .inl T))] U.heap ∧ va_K (dC, dI) vwCl [(cA, .int), (cB, .int)] U ∧ va_D (fun _ => True) [(h, .inr (1, [.ref r, .int lp, .int lc, .int lw])), (r, .inr (0, [.ref k, .ref t, .int (nI n), .int cm, .int wr])), (k, .inl (cA, 500, .inl K)), (t, .inl (cB, 500, .inl T))])) (va_Qi (fun r u => QsoC n (mZ K T) x y o r u.2.2.1 (mZ u.1 u.2.1) ∧ okU u) (atX dC dI (va_A [(h, .inr (1, [.ref r, .int lp, .int lc, .int lw])), (r, .inr (0, [.ref k, .ref t, .int (nI n), .int cm, .int wr])), (k, .inl (cA, 500, .inl K)), (t, .inl (cB, 500, .inl T))] sz) h r k t cA cB) (va_A [(h, .inr (1, [.ref r, .int lp, .int lc, .int lw])), (r, .inr (0, [.ref k, .ref t, .int (nI n), .int cm, .int wr])), (k, .inl (cA, 500, .inl K)), (t, .inl (cB, 500, .inl T))] sz)) 0 0 (va_A [(h, .inr (1, [.ref r, .int lp, .int lc, .int lw])), (r, .inr (0, [.ref k, .ref t, .int (nI n), .int cm, .int wr])), (k, .inl (cA, 500, .inl K)), (t, .inl (cB, 500, .inl T))] sz) := by
  refine Met.ofW (cc := cX2_sortPart) (maxL := 4) (ret := (some .int)) (by decide) rfl ?_
  intro p e s m args below meth c s₁ B hml hv
  obtain ⟨rfl, hsz, hP, hK, hD0⟩ := hv
  have hx := B.exec
  have hb := B.bytes
  have hr := B.returns
  have hts := atoms_spec (ws := wsX2_sortPart) B.pre
  have hown : s.vm.findClass RX2 = some m.cls := findClass_of_methodNamed B.named
  have hlocks := B.notSynchronized
  subst hsz
  have hD := hD0.self (sz := s.heap.size)
  generalize hAe : va_A [(h, .inr (1, [.ref r, .int lp, .int lc, .int lw])), (r, .inr (0, [.ref k, .ref t, .int (nI n), .int cm, .int wr])), (k, .inl (cA, 500, .inl K)), (t, .inl (cB, 500, .inl T))] s.heap.size = A at hD ⊢
  have hA : ∀ q : Nat, s.heap.size ≤ q → A q := fun q h => by rw [← hAe]; exact Or.inr h
  have hS : va_S A s.heap s.heap [] := va_S.rf
  have hP : va_P (dC, dI) vwCl [(h, .inr (1, [.ref r, .int lp, .int lc, .int lw])), (r, .inr (0, [.ref k, .ref t, .int (nI n), .int cm, .int wr])), (k, .inl (cA, 500, .inl K)), (t, .inl (cB, 500, .inl T))] s.heap := hP
  have hl := lv_entry ([.ref h, .int x, .int y, .int o]) (n := 4) (Nat.le_of_ble_eq_true rfl)
  rw [lg_entry_eq]
  generalize (lg_sl ([.ref h, .int x, .int y, .int o]) ++ List.replicate (4 - (lg_sl ([.ref h, .int x, .int y, .int o])).length) Slot.unset).toArray = ls at hl ⊢
  have hl : lv_has ls 4 [(0, .ref h), (1, .int x), (2, .int y), (3, .int o)] := hl
  refine lv_iload_n hx hb dX2_sortPart_0 rfl (lv_at hl 3 rfl) ?_
  have hPc := hP.sub (ws' := []) [] rfl
  have hDc := hD.sub (ws' := []) [] (by decide) rfl
  have hKc := hK.sub (tys' := []) [] rfl
  have hFc := va_free (wc := []) hD hS hA [] rfl
  refine va_calli (va_runS (As := [.int o]) (rest := []) ⟨hx, hb, hml, hown, hts⟩ (c_X0_exists l dC dI s.heap.size o) (va_cwS 1 hts gX2_sortPart_X0_exists rfl rfl rfl (by decide +kernel) ⟨Nat.le_of_ble_eq_true rfl, Nat.le_of_ble_eq_true rfl⟩) ⟨fun a U g mk q => by obtain ⟨q0, q1, qP, qK, qD⟩ := q; exact ⟨q0, q1, qP, va_K.moved (u := U) (U := U.calling g mk a) (Vm.Alike.refl U.vm) qK, qD⟩, fun U hU hW => ⟨rfl, by rw [hU], by rw [hU]; exact hPc, va_K.moved hW.alike hKc, hDc.weaken (fun _ _ _ _ => trivial)⟩⟩ rfl rfl hl.1 rfl (lv_room (Nat.le_of_ble_eq_true rfl)) dX2_sortPart_1 ⟨Nat.le_of_ble_eq_true rfl, Nat.le_of_ble_eq_true rfl⟩) hS (fun q _ h => hFc q h) hFc (fun r_1 u tS H1 locs ht hvm hw hB hz1 hk1 hS => ?_)
  have he := hw
  obtain ⟨hP1, hK1, hD1⟩ := hB
  rw [ht] at hP1
  obtain ⟨hP, hD⟩ := va_join (wr := [(h, .inr (1, [.ref r, .int lp, .int lc, .int lw])), (r, .inr (0, [.ref k, .ref t, .int (nI n), .int cm, .int wr])), (k, .inl (cA, 500, .inl K)), (t, .inl (cB, 500, .inl T))]) (w1 := []) hP hD [] [0, 1, 2, 3] rfl rfl (by decide) (by decide) hk1 hFc hP1 hD1
  generalize H1 = H at hP hS ⊢
  have hP : va_P (dC, dI) vwCl [(h, .inr (1, [.ref r, .int lp, .int lc, .int lw])), (r, .inr (0, [.ref k, .ref t, .int (nI n), .int cm, .int wr])), (k, .inl (cA, 500, .inl K)), (t, .inl (cB, 500, .inl T))] H := hP
  have hD : va_D A [(h, .inr (1, [.ref r, .int lp, .int lc, .int lw])), (r, .inr (0, [.ref k, .ref t, .int (nI n), .int cm, .int wr])), (k, .inl (cA, 500, .inl K)), (t, .inl (cB, 500, .inl T))] := hD
  refine lv_if_eq (tgt := 19) hx hb dX2_sortPart_4 (by decide) (fun c4 => ?_) (fun c4 => ?_)
  · refine lv_iconst (v := (nI 0)) hx hb dX2_sortPart_19 (by decide) ?_
    exact W.iret (v := (nI 0)) hx hb hr (fun tS ht hW => ⟨⟨(nI 0), (K, T, n, cm, wr, lp, lc, lw), rfl, ⟨Or.inl ⟨⟨rfl, sam_rf⟩, fun z hz => tr_0 he c4 (dS_e hn hz).1⟩, ⟨hn, hck⟩⟩, by rw [ht]; exact hP, va_K.moved hW.alike hK, hD⟩, hS.F ht⟩) hS.2.2 dX2_sortPart_20
  · refine lv_aload_n hx hb dX2_sortPart_7 rfl (lv_at hl 0 rfl) ?_
    refine va_get (D := (dC, dI)) (ci := 1) (v := .ref r) (C := RX2) (T := TX2) (N := 4) hx hb hts (by decide +kernel) hown hK hP 0 rfl rfl 0 (by decide) (hts (.fieldLink RX2 10 "RowPress" "row" "LRowPress$Row;") (by decide +kernel)) (fun _ h9 => h9) rfl dX2_sortPart_8 ?_
    refine lv_iload_n hx hb dX2_sortPart_11 rfl (lv_at hl 1 rfl) ?_
    refine lv_iload_n hx hb dX2_sortPart_12 rfl (lv_at hl 2 rfl) ?_
    have hPc := hP.sub (ws' := [(r, .inr (0, [.ref k, .ref t, .int (nI n), .int cm, .int wr])), (k, .inl (cA, 500, .inl K)), (t, .inl (cB, 500, .inl T))]) [1, 2, 3] rfl
    have hDc := hD.sub (ws' := [(r, .inr (0, [.ref k, .ref t, .int (nI n), .int cm, .int wr])), (k, .inl (cA, 500, .inl K)), (t, .inl (cB, 500, .inl T))]) [1, 2, 3] (by decide) rfl
    have hKc := hK.sub (tys' := [(cA, .int), (cB, .int)]) [0, 1] rfl
    have hFc := va_free (wc := [(r, .inr (0, [.ref k, .ref t, .int (nI n), .int cm, .int wr])), (k, .inl (cA, 500, .inl K)), (t, .inl (cB, 500, .inl T))]) hD hS hA [1, 2, 3] rfl
    refine va_calli (va_runV (As := [.int x, .int y]) (rest := []) ⟨hx, hb, hml, hown, hts⟩ (c_X1_hasStretch l dC dI H.size r k t cA cB n cm wr K T hn x y) (cwV 2 hts gX2_sortPart_X1_hasStretch rfl rfl rfl (by decide +kernel) ⟨Nat.le_of_ble_eq_true rfl, Nat.le_of_ble_eq_true rfl⟩) ⟨fun a U g mk q => by obtain ⟨q0, q1, qP, qK, qD⟩ := q; exact ⟨q0, q1, qP, va_K.moved (u := U) (U := U.calling g mk a) (Vm.Alike.refl U.vm) qK, qD⟩, va_recv hKc hPc (ci := 0) (q0 := 0) rfl rfl, fun U hU hW => ⟨rfl, by rw [hU], by rw [hU]; exact hPc, va_K.moved hW.alike hKc, hDc.weaken (fun _ _ _ _ => trivial)⟩⟩ rfl rfl hl.1 rfl (lv_room (Nat.le_of_ble_eq_true rfl)) dX2_sortPart_13 ⟨Nat.le_of_ble_eq_true rfl, Nat.le_of_ble_eq_true rfl⟩) hS (fun q _ h => hFc q h) hFc (fun r_2 u tS H1 locs ht hvm hw hB hz1 hk1 hS => ?_)
    obtain ⟨hs, rfl⟩ := hw
    obtain ⟨hP1, hK1, hD1⟩ := hB
    rw [ht] at hP1
    obtain ⟨hP, hD⟩ := va_join (wr := [(h, .inr (1, [.ref r, .int lp, .int lc, .int lw]))]) (w1 := [(r, .inr (0, [.ref k, .ref t, .int (nI n), .int cm, .int wr])), (k, .inl (cA, 500, .inl K)), (t, .inl (cB, 500, .inl T))]) hP hD [1, 2, 3] [0] rfl rfl (by decide) (by decide) hk1 hFc hP1 hD1
    generalize H1 = H at hP hS ⊢
    have hP : va_P (dC, dI) vwCl [(h, .inr (1, [.ref r, .int lp, .int lc, .int lw])), (r, .inr (0, [.ref k, .ref t, .int (nI n), .int cm, .int wr])), (k, .inl (cA, 500, .inl K)), (t, .inl (cB, 500, .inl T))] H := hP
    have hD : va_D A [(h, .inr (1, [.ref r, .int lp, .int lc, .int lw])), (r, .inr (0, [.ref k, .ref t, .int (nI n), .int cm, .int wr])), (k, .inl (cA, 500, .inl K)), (t, .inl (cB, 500, .inl T))] := hD
    refine lv_if_ne (tgt := 21) hx hb dX2_sortPart_16 (by decide) (fun c16 => ?_) (fun c16 => ?_)
    · obtain ⟨o1, ho, rfl⟩ := exO_of (tr_1 he c4)
      obtain ⟨a, b, rfl, rfl, hab, hbn⟩ := stP_of hn (tr_1 hs c16)
      have hb5 : b ≤ 500 := by omega
      refine lv_aload_n hx hb dX2_sortPart_21 rfl (lv_at hl 0 rfl) ?_
      refine va_get (D := (dC, dI)) (ci := 1) (v := .ref r) (C := RX2) (T := TX2) (N := 4) hx hb hts (by decide +kernel) hown hK hP 0 rfl rfl 0 (by decide) (hts (.fieldLink RX2 10 "RowPress" "row" "LRowPress$Row;") (by decide +kernel)) (fun _ h9 => h9) rfl dX2_sortPart_22 ?_
      have hPc := hP.sub (ws' := [(r, .inr (0, [.ref k, .ref t, .int (nI n), .int cm, .int wr])), (k, .inl (cA, 500, .inl K)), (t, .inl (cB, 500, .inl T))]) [1, 2, 3] rfl
      have hDc := hD.sub (ws' := [(r, .inr (0, [.ref k, .ref t, .int (nI n), .int cm, .int wr])), (k, .inl (cA, 500, .inl K)), (t, .inl (cB, 500, .inl T))]) [1, 2, 3] (by decide) rfl
      have hKc := hK.sub (tys' := [(cA, .int), (cB, .int)]) [0, 1] rfl
      have hFc := va_free (wc := [(r, .inr (0, [.ref k, .ref t, .int (nI n), .int cm, .int wr])), (k, .inl (cA, 500, .inl K)), (t, .inl (cB, 500, .inl T))]) hD hS hA [1, 2, 3] rfl
      refine va_callv (va_runV (As := []) (rest := []) ⟨hx, hb, hml, hown, hts⟩ (c_X1_startCounting l dC dI H.size r k t cA cB n cm wr K T ) (cwV 0 hts gX2_sortPart_X1_startCounting rfl rfl rfl (by decide +kernel) ⟨Nat.le_of_ble_eq_true rfl, Nat.le_of_ble_eq_true rfl⟩) ⟨fun a U g mk q => by obtain ⟨q0, q1, qP, qK, qD⟩ := q; exact ⟨q0, q1, qP, va_K.moved (u := U) (U := U.calling g mk a) (Vm.Alike.refl U.vm) qK, qD⟩, va_recv hKc hPc (ci := 0) (q0 := 0) rfl rfl, fun U hU hW => ⟨rfl, by rw [hU], by rw [hU]; exact hPc, va_K.moved hW.alike hKc, hDc.weaken (fun _ _ _ _ => trivial)⟩⟩ rfl rfl hl.1 rfl (lv_room (Nat.le_of_ble_eq_true rfl)) dX2_sortPart_25 ⟨Nat.le_of_ble_eq_true rfl, Nat.le_of_ble_eq_true rfl⟩) hS (fun q _ h => hFc q h) hFc (fun u tS H1 locs ht hvm hw hB hz1 hk1 hS => ?_)
      subst hw
      obtain ⟨hP1, hK1, hD1⟩ := hB
      rw [ht] at hP1
      obtain ⟨hP, hD⟩ := va_join (wr := [(h, .inr (1, [.ref r, .int lp, .int lc, .int lw]))]) (w1 := [(r, .inr (0, [.ref k, .ref t, .int (nI n), .int (nI 0), .int (nI 0)])), (k, .inl (cA, 500, .inl K)), (t, .inl (cB, 500, .inl T))]) hP hD [1, 2, 3] [0] rfl rfl (by decide) (by decide) hk1 hFc hP1 hD1
      generalize H1 = H at hP hS ⊢
      have hP : va_P (dC, dI) vwCl [(h, .inr (1, [.ref r, .int lp, .int lc, .int lw])), (r, .inr (0, [.ref k, .ref t, .int (nI n), .int (nI 0), .int (nI 0)])), (k, .inl (cA, 500, .inl K)), (t, .inl (cB, 500, .inl T))] H := hP
      have hD : va_D A [(h, .inr (1, [.ref r, .int lp, .int lc, .int lw])), (r, .inr (0, [.ref k, .ref t, .int (nI n), .int (nI 0), .int (nI 0)])), (k, .inl (cA, 500, .inl K)), (t, .inl (cB, 500, .inl T))] := hD
      refine lv_aload_n hx hb dX2_sortPart_28 rfl (lv_at hl 0 rfl) ?_
      refine va_get (D := (dC, dI)) (ci := 1) (v := .ref r) (C := RX2) (T := TX2) (N := 4) hx hb hts (by decide +kernel) hown hK hP 0 rfl rfl 0 (by decide) (hts (.fieldLink RX2 10 "RowPress" "row" "LRowPress$Row;") (by decide +kernel)) (fun _ h9 => h9) rfl dX2_sortPart_29 ?_
      refine lv_iload_n hx hb dX2_sortPart_32 rfl (lv_at hl 1 rfl) ?_
      refine lv_iload_n hx hb dX2_sortPart_33 rfl (lv_at hl 2 rfl) ?_
      refine lv_iload_n hx hb dX2_sortPart_34 rfl (lv_at hl 3 rfl) ?_
      have hPc := hP.sub (ws' := [(r, .inr (0, [.ref k, .ref t, .int (nI n), .int (nI 0), .int (nI 0)])), (k, .inl (cA, 500, .inl K)), (t, .inl (cB, 500, .inl T))]) [1, 2, 3] rfl
      have hDc := hD.sub (ws' := [(r, .inr (0, [.ref k, .ref t, .int (nI n), .int (nI 0), .int (nI 0)])), (k, .inl (cA, 500, .inl K)), (t, .inl (cB, 500, .inl T))]) [1, 2, 3] (by decide) rfl
      have hKc := hK.sub (tys' := [(cA, .int), (cB, .int)]) [0, 1] rfl
      have hFc := va_free (wc := [(r, .inr (0, [.ref k, .ref t, .int (nI n), .int (nI 0), .int (nI 0)])), (k, .inl (cA, 500, .inl K)), (t, .inl (cB, 500, .inl T))]) hD hS hA [1, 2, 3] rfl
      refine va_callv (va_runV (As := [.int (nI a), .int (nI b), .int (nI o1)]) (rest := []) ⟨hx, hb, hml, hown, hts⟩ (c_X1_sortInPlace l dC dI H.size r k t cA cB n (nI 0) (nI 0) K T a b o1 hab hb5 ho) (cwV 3 hts gX2_sortPart_X1_sortInPlace rfl rfl rfl (by decide +kernel) ⟨Nat.le_of_ble_eq_true rfl, Nat.le_of_ble_eq_true rfl⟩) ⟨fun a U g mk q => by obtain ⟨q0, q1, qP, qK, qD⟩ := q; exact ⟨q0, q1, qP, va_K.moved (u := U) (U := U.calling g mk a) (Vm.Alike.refl U.vm) qK, qD⟩, va_recv hKc hPc (ci := 0) (q0 := 0) rfl rfl, fun U hU hW => ⟨rfl, by rw [hU], by rw [hU]; exact hPc, va_K.moved hW.alike hKc, hDc.weaken (fun _ _ _ _ => trivial)⟩⟩ rfl rfl hl.1 rfl (lv_room (Nat.le_of_ble_eq_true rfl)) dX2_sortPart_35 ⟨Nat.le_of_ble_eq_true rfl, Nat.le_of_ble_eq_true rfl⟩) hS (fun q _ h => hFc q h) hFc (fun u tS H1 locs ht hvm hw hB hz1 hk1 hS => ?_)
      obtain ⟨K1, T1, n1, e1, w1⟩ := u
      obtain ⟨zo, zs, zm, zn, ⟨g1, zg1, zg1b, zc⟩, g2, zg2, zg2b, zw⟩ := hw
      dsimp only at zo zs zm zn zc zw
      subst zn; subst zc; subst zw
      obtain ⟨hP1, hK1, hD1⟩ := hB
      rw [ht] at hP1
      obtain ⟨hP, hD⟩ := va_join (wr := [(h, .inr (1, [.ref r, .int lp, .int lc, .int lw]))]) (w1 := [(r, .inr (0, [.ref k, .ref t, .int (nI n), .int ((nI 0) + nI g1), .int ((nI 0) + nI g2)])), (k, .inl (cA, 500, .inl K1)), (t, .inl (cB, 500, .inl T1))]) hP hD [1, 2, 3] [0] rfl rfl (by decide) (by decide) hk1 hFc hP1 hD1
      generalize H1 = H at hP hS ⊢
      have hP : va_P (dC, dI) vwCl [(h, .inr (1, [.ref r, .int lp, .int lc, .int lw])), (r, .inr (0, [.ref k, .ref t, .int (nI n), .int ((nI 0) + nI g1), .int ((nI 0) + nI g2)])), (k, .inl (cA, 500, .inl K1)), (t, .inl (cB, 500, .inl T1))] H := hP
      have hD : va_D A [(h, .inr (1, [.ref r, .int lp, .int lc, .int lw])), (r, .inr (0, [.ref k, .ref t, .int (nI n), .int ((nI 0) + nI g1), .int ((nI 0) + nI g2)])), (k, .inl (cA, 500, .inl K1)), (t, .inl (cB, 500, .inl T1))] := hD
      refine lv_aload_n hx hb dX2_sortPart_38 rfl (lv_at hl 0 rfl) ?_
      refine lv_iload_n hx hb dX2_sortPart_39 rfl (lv_at hl 2 rfl) ?_
      refine lv_iload_n hx hb dX2_sortPart_40 rfl (lv_at hl 1 rfl) ?_
      refine lv_isub hx hb dX2_sortPart_41 ?_
      refine lz_top (y := (nI (b - a))) (pk_sub (by omega)) ?_
      have hPc := hP.sub (ws' := [(h, .inr (1, [.ref r, .int lp, .int lc, .int lw])), (r, .inr (0, [.ref k, .ref t, .int (nI n), .int ((nI 0) + nI g1), .int ((nI 0) + nI g2)])), (k, .inl (cA, 500, .inl K1)), (t, .inl (cB, 500, .inl T1))]) [0, 1, 2, 3] rfl
      have hDc := hD.sub (ws' := [(h, .inr (1, [.ref r, .int lp, .int lc, .int lw])), (r, .inr (0, [.ref k, .ref t, .int (nI n), .int ((nI 0) + nI g1), .int ((nI 0) + nI g2)])), (k, .inl (cA, 500, .inl K1)), (t, .inl (cB, 500, .inl T1))]) [0, 1, 2, 3] (by decide) rfl
      have hKc := hK.sub (tys' := [(cA, .int), (cB, .int)]) [0, 1] rfl
      have hFc := va_free (wc := [(h, .inr (1, [.ref r, .int lp, .int lc, .int lw])), (r, .inr (0, [.ref k, .ref t, .int (nI n), .int ((nI 0) + nI g1), .int ((nI 0) + nI g2)])), (k, .inl (cA, 500, .inl K1)), (t, .inl (cB, 500, .inl T1))]) hD hS hA [0, 1, 2, 3] rfl
      refine va_callv (va_runV (As := [.int (nI (b - a))]) (rest := []) ⟨hx, hb, hml, hown, hts⟩ (c_X2_keepCounts l dC dI H.size h r k t cA cB n ((nI 0) + nI g1) ((nI 0) + nI g2) lp lc lw K1 T1 (nI (b - a))) (cwV 1 hts gX2_sortPart_X2_keepCounts rfl rfl rfl (by decide +kernel) ⟨Nat.le_of_ble_eq_true rfl, Nat.le_of_ble_eq_true rfl⟩) ⟨fun a U g mk q => by obtain ⟨q0, q1, qP, qK, qD⟩ := q; exact ⟨q0, q1, qP, va_K.moved (u := U) (U := U.calling g mk a) (Vm.Alike.refl U.vm) qK, qD⟩, va_recv hKc hPc (ci := 1) (q0 := 0) rfl rfl, fun U hU hW => ⟨rfl, by rw [hU], by rw [hU]; exact hPc, va_K.moved hW.alike hKc, hDc.weaken (fun _ _ _ _ => trivial)⟩⟩ rfl rfl hl.1 rfl (lv_room (Nat.le_of_ble_eq_true rfl)) dX2_sortPart_42 ⟨Nat.le_of_ble_eq_true rfl, Nat.le_of_ble_eq_true rfl⟩) hS (fun q _ h => hFc q h) hFc (fun u tS H1 locs ht hvm hw hB hz1 hk1 hS => ?_)
      subst hw
      obtain ⟨hP1, hK1, hD1⟩ := hB
      rw [ht] at hP1
      obtain ⟨hP, hD⟩ := va_join (wr := []) (w1 := [(h, .inr (1, [.ref r, .int (nI (b - a)), .int ((nI 0) + nI g1), .int ((nI 0) + nI g2)])), (r, .inr (0, [.ref k, .ref t, .int (nI n), .int ((nI 0) + nI g1), .int ((nI 0) + nI g2)])), (k, .inl (cA, 500, .inl K1)), (t, .inl (cB, 500, .inl T1))]) hP hD [0, 1, 2, 3] [] rfl rfl (by decide) (by decide) hk1 hFc hP1 hD1
      generalize H1 = H at hP hS ⊢
      have hP : va_P (dC, dI) vwCl [(h, .inr (1, [.ref r, .int (nI (b - a)), .int ((nI 0) + nI g1), .int ((nI 0) + nI g2)])), (r, .inr (0, [.ref k, .ref t, .int (nI n), .int ((nI 0) + nI g1), .int ((nI 0) + nI g2)])), (k, .inl (cA, 500, .inl K1)), (t, .inl (cB, 500, .inl T1))] H := hP
      have hD : va_D A [(h, .inr (1, [.ref r, .int (nI (b - a)), .int ((nI 0) + nI g1), .int ((nI 0) + nI g2)])), (r, .inr (0, [.ref k, .ref t, .int (nI n), .int ((nI 0) + nI g1), .int ((nI 0) + nI g2)])), (k, .inl (cA, 500, .inl K1)), (t, .inl (cB, 500, .inl T1))] := hD
      refine lv_iconst (v := (nI 1)) hx hb dX2_sortPart_45 (by decide) ?_
      exact W.iret (v := (nI 1)) hx hb hr (fun tS ht hW => ⟨⟨(nI 1), (K1, T1, n, ((nI 0) + nI g1), ((nI 0) + nI g2), (nI (b - a)), ((nI 0) + nI g1), ((nI 0) + nI g2)), rfl, ⟨Or.inr ⟨(a, b, o1), ⟨rfl, rfl, rfl, hab, hbn, ho⟩, rfl, rfl, soC_of zo zs zm⟩, ⟨hn, ⟨b - a, g1, g2, rfl, by omega, z_ad g1, zg1, zg1b, z_ad g2, zg2, zg2b⟩⟩⟩, by rw [ht]; exact hP, va_K.moved hW.alike hK, hD⟩, hS.F ht⟩) hS.2.2 dX2_sortPart_46
    · refine lv_iconst (v := (nI 0)) hx hb dX2_sortPart_19 (by decide) ?_
      exact W.iret (v := (nI 0)) hx hb hr (fun tS ht hW => ⟨⟨(nI 0), (K, T, n, cm, wr, lp, lc, lw), rfl, ⟨Or.inl ⟨⟨rfl, sam_rf⟩, fun z hz => tr_0 hs c16 (dS_e hn hz).2⟩, ⟨hn, hck⟩⟩, by rw [ht]; exact hP, va_K.moved hW.alike hK, hD⟩, hS.F ht⟩) hS.2.2 dX2_sortPart_20
set_option maxHeartbeats 4000000 in
set_option maxRecDepth 100000 in
theorem c_X2_sort (l : Launch) (dC : Nat → ClassId) (dI : Nat → Nat → Nat) (sz : Nat) (h r k t : Nat) (cA cB : ClassId) (n : Nat) (cm wr lp lc lw : Int32) (K T : Nat → Int32) (hn : n ≤ 500) (hck : ckI lp lc lw) (o : Int32) : Met l yX2_sort wsX2_sort ({ frames := 15, cells := 0, slots := 0, locals := 403 }) (va_Pc [.ref h, .int o] (fun U => U.heap.size = sz ∧ va_P (dC, dI) vwCl [(h, .inr (1, [.ref r, .int lp, .int lc, .int lw])), (r, .inr (0, [.ref k, .ref t, .int (nI n), .int cm, .int wr])), (k, .inl (cA, 500, .inl K)), (t, .inl (cB, 500, .inl T))] U.heap ∧ va_K (dC, dI) vwCl [(cA, .int), (cB, .int)] U ∧ va_D (fun _ => True) [(h, .inr (1, [.ref r, .int lp, .int lc, .int lw])), (r, .inr (0, [.ref k, .ref t, .int (nI n), .int cm, .int wr])), (k, .inl (cA, 500, .inl K)), (t, .inl (cB, 500, .inl T))])) (va_Qi (fun r u => QsoC n (mZ K T) (nI 0) (nI n) o r u.2.2.1 (mZ u.1 u.2.1) ∧ okU u) (atX dC dI (va_A [(h, .inr (1, [.ref r, .int lp, .int lc, .int lw])), (r, .inr (0, [.ref k, .ref t, .int (nI n), .int cm, .int wr])), (k, .inl (cA, 500, .inl K)), (t, .inl (cB, 500, .inl T))] sz) h r k t cA cB) (va_A [(h, .inr (1, [.ref r, .int lp, .int lc, .int lw])), (r, .inr (0, [.ref k, .ref t, .int (nI n), .int cm, .int wr])), (k, .inl (cA, 500, .inl K)), (t, .inl (cB, 500, .inl T))] sz)) 0 0 (va_A [(h, .inr (1, [.ref r, .int lp, .int lc, .int lw])), (r, .inr (0, [.ref k, .ref t, .int (nI n), .int cm, .int wr])), (k, .inl (cA, 500, .inl K)), (t, .inl (cB, 500, .inl T))] sz) := by
  refine Met.ofW (cc := cX2_sort) (maxL := 2) (ret := (some .int)) (by decide) rfl ?_
  intro p e s m args below meth c s₁ B hml hv
  obtain ⟨rfl, hsz, hP, hK, hD0⟩ := hv
  have hx := B.exec
  have hb := B.bytes
  have hr := B.returns
  have hts := atoms_spec (ws := wsX2_sort) B.pre
  have hown : s.vm.findClass RX2 = some m.cls := findClass_of_methodNamed B.named
  have hlocks := B.notSynchronized
  subst hsz
  have hD := hD0.self (sz := s.heap.size)
  generalize hAe : va_A [(h, .inr (1, [.ref r, .int lp, .int lc, .int lw])), (r, .inr (0, [.ref k, .ref t, .int (nI n), .int cm, .int wr])), (k, .inl (cA, 500, .inl K)), (t, .inl (cB, 500, .inl T))] s.heap.size = A at hD ⊢
  have hA : ∀ q : Nat, s.heap.size ≤ q → A q := fun q h => by rw [← hAe]; exact Or.inr h
  have hS : va_S A s.heap s.heap [] := va_S.rf
  have hP : va_P (dC, dI) vwCl [(h, .inr (1, [.ref r, .int lp, .int lc, .int lw])), (r, .inr (0, [.ref k, .ref t, .int (nI n), .int cm, .int wr])), (k, .inl (cA, 500, .inl K)), (t, .inl (cB, 500, .inl T))] s.heap := hP
  have hl := lv_entry ([.ref h, .int o]) (n := 2) (Nat.le_of_ble_eq_true rfl)
  rw [lg_entry_eq]
  generalize (lg_sl ([.ref h, .int o]) ++ List.replicate (2 - (lg_sl ([.ref h, .int o])).length) Slot.unset).toArray = ls at hl ⊢
  have hl : lv_has ls 2 [(0, .ref h), (1, .int o)] := hl
  refine lv_aload_n hx hb dX2_sort_0 rfl (lv_at hl 0 rfl) ?_
  refine lv_iconst (v := (nI 0)) hx hb dX2_sort_1 (by decide) ?_
  refine lv_aload_n hx hb dX2_sort_2 rfl (lv_at hl 0 rfl) ?_
  refine va_get (D := (dC, dI)) (ci := 1) (v := .ref r) (C := RX2) (T := TX2) (N := 4) hx hb hts (by decide +kernel) hown hK hP 0 rfl rfl 0 (by decide) (hts (.fieldLink RX2 10 "RowPress" "row" "LRowPress$Row;") (by decide +kernel)) (fun _ h9 => h9) rfl dX2_sort_3 ?_
  refine va_get (D := (dC, dI)) (ci := 0) (v := .int (nI n)) (C := RX1) (T := TX1) (N := 5) hx hb hts (by decide +kernel) hown hK hP 1 rfl rfl 2 (by decide) (hts (.fieldLink RX2 24 "RowPress$Row" "size" "I") (by decide +kernel)) (fun _ h9 => h9) rfl dX2_sort_6 ?_
  refine lv_iload_n hx hb dX2_sort_9 rfl (lv_at hl 1 rfl) ?_
  have hPc := hP.sub (ws' := [(h, .inr (1, [.ref r, .int lp, .int lc, .int lw])), (r, .inr (0, [.ref k, .ref t, .int (nI n), .int cm, .int wr])), (k, .inl (cA, 500, .inl K)), (t, .inl (cB, 500, .inl T))]) [0, 1, 2, 3] rfl
  have hDc := hD.sub (ws' := [(h, .inr (1, [.ref r, .int lp, .int lc, .int lw])), (r, .inr (0, [.ref k, .ref t, .int (nI n), .int cm, .int wr])), (k, .inl (cA, 500, .inl K)), (t, .inl (cB, 500, .inl T))]) [0, 1, 2, 3] (by decide) rfl
  have hKc := hK.sub (tys' := [(cA, .int), (cB, .int)]) [0, 1] rfl
  have hFc := va_free (wc := [(h, .inr (1, [.ref r, .int lp, .int lc, .int lw])), (r, .inr (0, [.ref k, .ref t, .int (nI n), .int cm, .int wr])), (k, .inl (cA, 500, .inl K)), (t, .inl (cB, 500, .inl T))]) hD hS hA [0, 1, 2, 3] rfl
  refine va_calli (va_runV (As := [.int (nI 0), .int (nI n), .int o]) (rest := []) ⟨hx, hb, hml, hown, hts⟩ (c_X2_sortPart l dC dI s.heap.size h r k t cA cB n cm wr lp lc lw K T hn hck (nI 0) (nI n) o) (cwV 3 hts gX2_sort_X2_sortPart rfl rfl rfl (by decide +kernel) ⟨Nat.le_of_ble_eq_true rfl, Nat.le_of_ble_eq_true rfl⟩) ⟨fun a U g mk q => by obtain ⟨q0, q1, qP, qK, qD⟩ := q; exact ⟨q0, q1, qP, va_K.moved (u := U) (U := U.calling g mk a) (Vm.Alike.refl U.vm) qK, qD⟩, va_recv hKc hPc (ci := 1) (q0 := 0) rfl rfl, fun U hU hW => ⟨rfl, by rw [hU], by rw [hU]; exact hPc, va_K.moved hW.alike hKc, hDc.weaken (fun _ _ _ _ => trivial)⟩⟩ rfl rfl hl.1 rfl (lv_room (Nat.le_of_ble_eq_true rfl)) dX2_sort_10 ⟨Nat.le_of_ble_eq_true rfl, Nat.le_of_ble_eq_true rfl⟩) hS (fun q _ h => hFc q h) hFc (fun r_1 u tS H1 locs ht hvm hw hB hz1 hk1 hS => ?_)
  obtain ⟨K1, T1, n1, e1, w1, p1, p2, p3⟩ := u
  obtain ⟨hP1, hK1, hD1⟩ := hB
  have hq := hw
  rw [ht] at hP1
  obtain ⟨hP, hD⟩ := va_join (wr := []) (w1 := [(h, .inr (1, [.ref r, .int p1, .int p2, .int p3])), (r, .inr (0, [.ref k, .ref t, .int (nI n1), .int e1, .int w1])), (k, .inl (cA, 500, .inl K1)), (t, .inl (cB, 500, .inl T1))]) hP hD [0, 1, 2, 3] [] rfl rfl (by decide) (by decide) hk1 hFc hP1 hD1
  generalize H1 = H at hP hS ⊢
  have hP : va_P (dC, dI) vwCl [(h, .inr (1, [.ref r, .int p1, .int p2, .int p3])), (r, .inr (0, [.ref k, .ref t, .int (nI n1), .int e1, .int w1])), (k, .inl (cA, 500, .inl K1)), (t, .inl (cB, 500, .inl T1))] H := hP
  have hD : va_D A [(h, .inr (1, [.ref r, .int p1, .int p2, .int p3])), (r, .inr (0, [.ref k, .ref t, .int (nI n1), .int e1, .int w1])), (k, .inl (cA, 500, .inl K1)), (t, .inl (cB, 500, .inl T1))] := hD
  exact W.iret (v := r_1) hx hb hr (fun tS ht hW => ⟨⟨r_1, (K1, T1, n1, e1, w1, p1, p2, p3), rfl, hq, by rw [ht]; exact hP, va_K.moved hW.alike hK, hD⟩, hS.F ht⟩) hS.2.2 dX2_sort_13
set_option maxHeartbeats 4000000 in
set_option maxRecDepth 100000 in
theorem c_X2_merge (l : Launch) (dC : Nat → ClassId) (dI : Nat → Nat → Nat) (sz : Nat) (h r k t : Nat) (cA cB : ClassId) (n : Nat) (cm wr lp lc lw : Int32) (K T : Nat → Int32) (hn : n ≤ 500) (hck : ckI lp lc lw) (x y v o : Int32) : Met l yX2_merge wsX2_merge ({ frames := 13, cells := 0, slots := 0, locals := 354 }) (va_Pc [.ref h, .int x, .int y, .int v, .int o] (fun U => U.heap.size = sz ∧ va_P (dC, dI) vwCl [(h, .inr (1, [.ref r, .int lp, .int lc, .int lw])), (r, .inr (0, [.ref k, .ref t, .int (nI n), .int cm, .int wr])), (k, .inl (cA, 500, .inl K)), (t, .inl (cB, 500, .inl T))] U.heap ∧ va_K (dC, dI) vwCl [(cA, .int), (cB, .int)] U ∧ va_D (fun _ => True) [(h, .inr (1, [.ref r, .int lp, .int lc, .int lw])), (r, .inr (0, [.ref k, .ref t, .int (nI n), .int cm, .int wr])), (k, .inl (cA, 500, .inl K)), (t, .inl (cB, 500, .inl T))] ∧ va_Nw (.methodLinkNest RX2 59 yX1_mergeInPlace RX2) U)) (va_Qi (fun r u => QmeC n (mZ K T) x y v o r u.2.2.1 (mZ u.1 u.2.1) ∧ okU u) (atX dC dI (va_A [(h, .inr (1, [.ref r, .int lp, .int lc, .int lw])), (r, .inr (0, [.ref k, .ref t, .int (nI n), .int cm, .int wr])), (k, .inl (cA, 500, .inl K)), (t, .inl (cB, 500, .inl T))] sz) h r k t cA cB) (va_A [(h, .inr (1, [.ref r, .int lp, .int lc, .int lw])), (r, .inr (0, [.ref k, .ref t, .int (nI n), .int cm, .int wr])), (k, .inl (cA, 500, .inl K)), (t, .inl (cB, 500, .inl T))] sz)) 0 0 (va_A [(h, .inr (1, [.ref r, .int lp, .int lc, .int lw])), (r, .inr (0, [.ref k, .ref t, .int (nI n), .int cm, .int wr])), (k, .inl (cA, 500, .inl K)), (t, .inl (cB, 500, .inl T))] sz) := by
  refine Met.ofW (cc := cX2_merge) (maxL := 5) (ret := (some .int)) (by decide) rfl ?_
  intro p e s m args below meth c s₁ B hml hv
  obtain ⟨rfl, hsz, hP, hK, hD0, hN0⟩ := hv
  have hx := B.exec
  have hb := B.bytes
  have hr := B.returns
  have hts := atoms_spec (ws := wsX2_merge) B.pre
  have hown : s.vm.findClass RX2 = some m.cls := findClass_of_methodNamed B.named
  have hlocks := B.notSynchronized
  subst hsz
  have hD := hD0.self (sz := s.heap.size)
  generalize hAe : va_A [(h, .inr (1, [.ref r, .int lp, .int lc, .int lw])), (r, .inr (0, [.ref k, .ref t, .int (nI n), .int cm, .int wr])), (k, .inl (cA, 500, .inl K)), (t, .inl (cB, 500, .inl T))] s.heap.size = A at hD ⊢
  have hA : ∀ q : Nat, s.heap.size ≤ q → A q := fun q h => by rw [← hAe]; exact Or.inr h
  have hS : va_S A s.heap s.heap [] := va_S.rf
  have hP : va_P (dC, dI) vwCl [(h, .inr (1, [.ref r, .int lp, .int lc, .int lw])), (r, .inr (0, [.ref k, .ref t, .int (nI n), .int cm, .int wr])), (k, .inl (cA, 500, .inl K)), (t, .inl (cB, 500, .inl T))] s.heap := hP
  have hl := lv_entry ([.ref h, .int x, .int y, .int v, .int o]) (n := 5) (Nat.le_of_ble_eq_true rfl)
  rw [lg_entry_eq]
  generalize (lg_sl ([.ref h, .int x, .int y, .int v, .int o]) ++ List.replicate (5 - (lg_sl ([.ref h, .int x, .int y, .int v, .int o])).length) Slot.unset).toArray = ls at hl ⊢
  have hl : lv_has ls 5 [(0, .ref h), (1, .int x), (2, .int y), (3, .int v), (4, .int o)] := hl
  refine lv_iload hx hb dX2_merge_0 (lv_at hl 4 rfl) ?_
  have hPc := hP.sub (ws' := []) [] rfl
  have hDc := hD.sub (ws' := []) [] (by decide) rfl
  have hKc := hK.sub (tys' := []) [] rfl
  have hFc := va_free (wc := []) hD hS hA [] rfl
  refine va_calli (va_runS (As := [.int o]) (rest := []) ⟨hx, hb, hml, hown, hts⟩ (c_X0_exists l dC dI s.heap.size o) (va_cwS 1 hts gX2_merge_X0_exists rfl rfl rfl (by decide +kernel) ⟨Nat.le_of_ble_eq_true rfl, Nat.le_of_ble_eq_true rfl⟩) ⟨fun a U g mk q => by obtain ⟨q0, q1, qP, qK, qD⟩ := q; exact ⟨q0, q1, qP, va_K.moved (u := U) (U := U.calling g mk a) (Vm.Alike.refl U.vm) qK, qD⟩, fun U hU hW => ⟨rfl, by rw [hU], by rw [hU]; exact hPc, va_K.moved hW.alike hKc, hDc.weaken (fun _ _ _ _ => trivial)⟩⟩ rfl rfl hl.1 rfl (lv_room (Nat.le_of_ble_eq_true rfl)) dX2_merge_2 ⟨Nat.le_of_ble_eq_true rfl, Nat.le_of_ble_eq_true rfl⟩) hS (fun q _ h => hFc q h) hFc (fun r_1 u tS H1 locs ht hvm hw hB hz1 hk1 hS => ?_)
  have he := hw
  obtain ⟨hP1, hK1, hD1⟩ := hB
  rw [ht] at hP1
  obtain ⟨hP, hD⟩ := va_join (wr := [(h, .inr (1, [.ref r, .int lp, .int lc, .int lw])), (r, .inr (0, [.ref k, .ref t, .int (nI n), .int cm, .int wr])), (k, .inl (cA, 500, .inl K)), (t, .inl (cB, 500, .inl T))]) (w1 := []) hP hD [] [0, 1, 2, 3] rfl rfl (by decide) (by decide) hk1 hFc hP1 hD1
  generalize H1 = H at hP hS ⊢
  have hP : va_P (dC, dI) vwCl [(h, .inr (1, [.ref r, .int lp, .int lc, .int lw])), (r, .inr (0, [.ref k, .ref t, .int (nI n), .int cm, .int wr])), (k, .inl (cA, 500, .inl K)), (t, .inl (cB, 500, .inl T))] H := hP
  have hD : va_D A [(h, .inr (1, [.ref r, .int lp, .int lc, .int lw])), (r, .inr (0, [.ref k, .ref t, .int (nI n), .int cm, .int wr])), (k, .inl (cA, 500, .inl K)), (t, .inl (cB, 500, .inl T))] := hD
  refine lv_if_eq (tgt := 21) hx hb dX2_merge_5 (by decide) (fun c5 => ?_) (fun c5 => ?_)
  · refine lv_iconst (v := (nI 0)) hx hb dX2_merge_21 (by decide) ?_
    exact W.iret (v := (nI 0)) hx hb hr (fun tS ht hW => ⟨⟨(nI 0), (K, T, n, cm, wr, lp, lc, lw), rfl, ⟨Or.inl ⟨⟨rfl, sam_rf⟩, fun z hz => tr_0 he c5 (dG_e hn hz).1⟩, ⟨hn, hck⟩⟩, by rw [ht]; exact hP, va_K.moved hW.alike hK, hD⟩, hS.F ht⟩) hS.2.2 dX2_merge_22
  · refine lv_aload_n hx hb dX2_merge_8 rfl (lv_at hl 0 rfl) ?_
    refine va_get (D := (dC, dI)) (ci := 1) (v := .ref r) (C := RX2) (T := TX2) (N := 4) hx hb hts (by decide +kernel) hown hK hP 0 rfl rfl 0 (by decide) (hts (.fieldLink RX2 10 "RowPress" "row" "LRowPress$Row;") (by decide +kernel)) (fun _ h9 => h9) rfl dX2_merge_9 ?_
    refine lv_iload_n hx hb dX2_merge_12 rfl (lv_at hl 1 rfl) ?_
    refine lv_iload_n hx hb dX2_merge_13 rfl (lv_at hl 2 rfl) ?_
    refine lv_iload_n hx hb dX2_merge_14 rfl (lv_at hl 3 rfl) ?_
    have hPc := hP.sub (ws' := [(r, .inr (0, [.ref k, .ref t, .int (nI n), .int cm, .int wr])), (k, .inl (cA, 500, .inl K)), (t, .inl (cB, 500, .inl T))]) [1, 2, 3] rfl
    have hDc := hD.sub (ws' := [(r, .inr (0, [.ref k, .ref t, .int (nI n), .int cm, .int wr])), (k, .inl (cA, 500, .inl K)), (t, .inl (cB, 500, .inl T))]) [1, 2, 3] (by decide) rfl
    have hKc := hK.sub (tys' := [(cA, .int), (cB, .int)]) [0, 1] rfl
    have hFc := va_free (wc := [(r, .inr (0, [.ref k, .ref t, .int (nI n), .int cm, .int wr])), (k, .inl (cA, 500, .inl K)), (t, .inl (cB, 500, .inl T))]) hD hS hA [1, 2, 3] rfl
    refine va_calli (va_runV (As := [.int x, .int y, .int v]) (rest := []) ⟨hx, hb, hml, hown, hts⟩ (c_X1_hasStretches l dC dI H.size r k t cA cB n cm wr K T hn x y v) (cwV 3 hts gX2_merge_X1_hasStretches rfl rfl rfl (by decide +kernel) ⟨Nat.le_of_ble_eq_true rfl, Nat.le_of_ble_eq_true rfl⟩) ⟨fun a U g mk q => by obtain ⟨q0, q1, qP, qK, qD⟩ := q; exact ⟨q0, q1, qP, va_K.moved (u := U) (U := U.calling g mk a) (Vm.Alike.refl U.vm) qK, qD⟩, va_recv hKc hPc (ci := 0) (q0 := 0) rfl rfl, fun U hU hW => ⟨rfl, by rw [hU], by rw [hU]; exact hPc, va_K.moved hW.alike hKc, hDc.weaken (fun _ _ _ _ => trivial)⟩⟩ rfl rfl hl.1 rfl (lv_room (Nat.le_of_ble_eq_true rfl)) dX2_merge_15 ⟨Nat.le_of_ble_eq_true rfl, Nat.le_of_ble_eq_true rfl⟩) hS (fun q _ h => hFc q h) hFc (fun r_2 u tS H1 locs ht hvm hw hB hz1 hk1 hS => ?_)
    obtain ⟨hs, rfl⟩ := hw
    obtain ⟨hP1, hK1, hD1⟩ := hB
    rw [ht] at hP1
    obtain ⟨hP, hD⟩ := va_join (wr := [(h, .inr (1, [.ref r, .int lp, .int lc, .int lw]))]) (w1 := [(r, .inr (0, [.ref k, .ref t, .int (nI n), .int cm, .int wr])), (k, .inl (cA, 500, .inl K)), (t, .inl (cB, 500, .inl T))]) hP hD [1, 2, 3] [0] rfl rfl (by decide) (by decide) hk1 hFc hP1 hD1
    generalize H1 = H at hP hS ⊢
    have hP : va_P (dC, dI) vwCl [(h, .inr (1, [.ref r, .int lp, .int lc, .int lw])), (r, .inr (0, [.ref k, .ref t, .int (nI n), .int cm, .int wr])), (k, .inl (cA, 500, .inl K)), (t, .inl (cB, 500, .inl T))] H := hP
    have hD : va_D A [(h, .inr (1, [.ref r, .int lp, .int lc, .int lw])), (r, .inr (0, [.ref k, .ref t, .int (nI n), .int cm, .int wr])), (k, .inl (cA, 500, .inl K)), (t, .inl (cB, 500, .inl T))] := hD
    refine lv_if_ne (tgt := 23) hx hb dX2_merge_18 (by decide) (fun c18 => ?_) (fun c18 => ?_)
    · obtain ⟨o1, ho, rfl⟩ := exO_of (tr_1 he c5)
      obtain ⟨hst1, hst2⟩ := tr_1 hs c18
      obtain ⟨a, d, rfl, rfl, had, hdn⟩ := stP_of hn hst1
      obtain ⟨d2, b, hd2, rfl, hdb, hbn⟩ := stP_of hn hst2
      obtain rfl : d = d2 := (nI_eq (by omega) (by omega)).mp hd2
      clear hd2
      have hb5 : b ≤ 500 := by omega
      refine lv_aload_n hx hb dX2_merge_23 rfl (lv_at hl 0 rfl) ?_
      refine va_get (D := (dC, dI)) (ci := 1) (v := .ref r) (C := RX2) (T := TX2) (N := 4) hx hb hts (by decide +kernel) hown hK hP 0 rfl rfl 0 (by decide) (hts (.fieldLink RX2 10 "RowPress" "row" "LRowPress$Row;") (by decide +kernel)) (fun _ h9 => h9) rfl dX2_merge_24 ?_
      have hPc := hP.sub (ws' := [(r, .inr (0, [.ref k, .ref t, .int (nI n), .int cm, .int wr])), (k, .inl (cA, 500, .inl K)), (t, .inl (cB, 500, .inl T))]) [1, 2, 3] rfl
      have hDc := hD.sub (ws' := [(r, .inr (0, [.ref k, .ref t, .int (nI n), .int cm, .int wr])), (k, .inl (cA, 500, .inl K)), (t, .inl (cB, 500, .inl T))]) [1, 2, 3] (by decide) rfl
      have hKc := hK.sub (tys' := [(cA, .int), (cB, .int)]) [0, 1] rfl
      have hFc := va_free (wc := [(r, .inr (0, [.ref k, .ref t, .int (nI n), .int cm, .int wr])), (k, .inl (cA, 500, .inl K)), (t, .inl (cB, 500, .inl T))]) hD hS hA [1, 2, 3] rfl
      refine va_callv (va_runV (As := []) (rest := []) ⟨hx, hb, hml, hown, hts⟩ (c_X1_startCounting l dC dI H.size r k t cA cB n cm wr K T ) (cwV 0 hts gX2_merge_X1_startCounting rfl rfl rfl (by decide +kernel) ⟨Nat.le_of_ble_eq_true rfl, Nat.le_of_ble_eq_true rfl⟩) ⟨fun a U g mk q => by obtain ⟨q0, q1, qP, qK, qD⟩ := q; exact ⟨q0, q1, qP, va_K.moved (u := U) (U := U.calling g mk a) (Vm.Alike.refl U.vm) qK, qD⟩, va_recv hKc hPc (ci := 0) (q0 := 0) rfl rfl, fun U hU hW => ⟨rfl, by rw [hU], by rw [hU]; exact hPc, va_K.moved hW.alike hKc, hDc.weaken (fun _ _ _ _ => trivial)⟩⟩ rfl rfl hl.1 rfl (lv_room (Nat.le_of_ble_eq_true rfl)) dX2_merge_27 ⟨Nat.le_of_ble_eq_true rfl, Nat.le_of_ble_eq_true rfl⟩) hS (fun q _ h => hFc q h) hFc (fun u tS H1 locs ht hvm hw hB hz1 hk1 hS => ?_)
      subst hw
      obtain ⟨hP1, hK1, hD1⟩ := hB
      rw [ht] at hP1
      obtain ⟨hP, hD⟩ := va_join (wr := [(h, .inr (1, [.ref r, .int lp, .int lc, .int lw]))]) (w1 := [(r, .inr (0, [.ref k, .ref t, .int (nI n), .int (nI 0), .int (nI 0)])), (k, .inl (cA, 500, .inl K)), (t, .inl (cB, 500, .inl T))]) hP hD [1, 2, 3] [0] rfl rfl (by decide) (by decide) hk1 hFc hP1 hD1
      generalize H1 = H at hP hS ⊢
      have hP : va_P (dC, dI) vwCl [(h, .inr (1, [.ref r, .int lp, .int lc, .int lw])), (r, .inr (0, [.ref k, .ref t, .int (nI n), .int (nI 0), .int (nI 0)])), (k, .inl (cA, 500, .inl K)), (t, .inl (cB, 500, .inl T))] H := hP
      have hD : va_D A [(h, .inr (1, [.ref r, .int lp, .int lc, .int lw])), (r, .inr (0, [.ref k, .ref t, .int (nI n), .int (nI 0), .int (nI 0)])), (k, .inl (cA, 500, .inl K)), (t, .inl (cB, 500, .inl T))] := hD
      refine lv_aload_n hx hb dX2_merge_30 rfl (lv_at hl 0 rfl) ?_
      refine va_get (D := (dC, dI)) (ci := 1) (v := .ref r) (C := RX2) (T := TX2) (N := 4) hx hb hts (by decide +kernel) hown hK hP 0 rfl rfl 0 (by decide) (hts (.fieldLink RX2 10 "RowPress" "row" "LRowPress$Row;") (by decide +kernel)) (fun _ h9 => h9) rfl dX2_merge_31 ?_
      refine lv_iload_n hx hb dX2_merge_34 rfl (lv_at hl 1 rfl) ?_
      refine lv_iload_n hx hb dX2_merge_35 rfl (lv_at hl 2 rfl) ?_
      refine lv_iload hx hb dX2_merge_36 (lv_at hl 4 rfl) ?_
      have hPc := hP.sub (ws' := [(r, .inr (0, [.ref k, .ref t, .int (nI n), .int (nI 0), .int (nI 0)])), (k, .inl (cA, 500, .inl K)), (t, .inl (cB, 500, .inl T))]) [1, 2, 3] rfl
      have hDc := hD.sub (ws' := [(r, .inr (0, [.ref k, .ref t, .int (nI n), .int (nI 0), .int (nI 0)])), (k, .inl (cA, 500, .inl K)), (t, .inl (cB, 500, .inl T))]) [1, 2, 3] (by decide) rfl
      have hKc := hK.sub (tys' := [(cA, .int), (cB, .int)]) [0, 1] rfl
      have hFc := va_free (wc := [(r, .inr (0, [.ref k, .ref t, .int (nI n), .int (nI 0), .int (nI 0)])), (k, .inl (cA, 500, .inl K)), (t, .inl (cB, 500, .inl T))]) hD hS hA [1, 2, 3] rfl
      refine va_calli (va_runV (As := [.int (nI a), .int (nI d), .int (nI o1)]) (rest := []) ⟨hx, hb, hml, hown, hts⟩ (c_X1_inOrder l dC dI H.size r k t cA cB n (nI 0) (nI 0) K T a d o1 (by omega) (by omega) ho) (cwV 3 hts gX2_merge_X1_inOrder rfl rfl rfl (by decide +kernel) ⟨Nat.le_of_ble_eq_true rfl, Nat.le_of_ble_eq_true rfl⟩) ⟨fun a U g mk q => by obtain ⟨q0, q1, qP, qK, qD⟩ := q; exact ⟨q0, q1, qP, va_K.moved (u := U) (U := U.calling g mk a) (Vm.Alike.refl U.vm) qK, qD⟩, va_recv hKc hPc (ci := 0) (q0 := 0) rfl rfl, fun U hU hW => ⟨rfl, by rw [hU], by rw [hU]; exact hPc, va_K.moved hW.alike hKc, hDc.weaken (fun _ _ _ _ => trivial)⟩⟩ rfl rfl hl.1 rfl (lv_room (Nat.le_of_ble_eq_true rfl)) dX2_merge_38 ⟨Nat.le_of_ble_eq_true rfl, Nat.le_of_ble_eq_true rfl⟩) hS (fun q _ h => hFc q h) hFc (fun r_4 u tS H1 locs ht hvm hw hB hz1 hk1 hS => ?_)
      obtain ⟨hi1, d1, hd1, rfl⟩ := hw
      obtain ⟨hP1, hK1, hD1⟩ := hB
      rw [ht] at hP1
      obtain ⟨hP, hD⟩ := va_join (wr := [(h, .inr (1, [.ref r, .int lp, .int lc, .int lw]))]) (w1 := [(r, .inr (0, [.ref k, .ref t, .int (nI n), .int ((nI 0) + nI d1), .int (nI 0)])), (k, .inl (cA, 500, .inl K)), (t, .inl (cB, 500, .inl T))]) hP hD [1, 2, 3] [0] rfl rfl (by decide) (by decide) hk1 hFc hP1 hD1
      generalize H1 = H at hP hS ⊢
      have hP : va_P (dC, dI) vwCl [(h, .inr (1, [.ref r, .int lp, .int lc, .int lw])), (r, .inr (0, [.ref k, .ref t, .int (nI n), .int ((nI 0) + nI d1), .int (nI 0)])), (k, .inl (cA, 500, .inl K)), (t, .inl (cB, 500, .inl T))] H := hP
      have hD : va_D A [(h, .inr (1, [.ref r, .int lp, .int lc, .int lw])), (r, .inr (0, [.ref k, .ref t, .int (nI n), .int ((nI 0) + nI d1), .int (nI 0)])), (k, .inl (cA, 500, .inl K)), (t, .inl (cB, 500, .inl T))] := hD
      refine lv_if_eq (tgt := 58) hx hb dX2_merge_41 (by decide) (fun c41 => ?_) (fun c41 => ?_)
      · refine lv_iconst (v := (nI 0)) hx hb dX2_merge_58 (by decide) ?_
        exact W.iret (v := (nI 0)) hx hb hr (fun tS ht hW => ⟨⟨(nI 0), (K, T, n, ((nI 0) + nI d1), (nI 0), lp, lc, lw), rfl, ⟨Or.inr ⟨(a, d, b, o1), ⟨rfl, rfl, rfl, rfl, had, hdb, hbn, ho⟩, Or.inl ⟨fun z => tr_0 hi1 c41 z.1, rfl, sam_rf⟩⟩, ⟨hn, hck⟩⟩, by rw [ht]; exact hP, va_K.moved hW.alike hK, hD⟩, hS.F ht⟩) hS.2.2 dX2_merge_59
      · refine lv_aload_n hx hb dX2_merge_44 rfl (lv_at hl 0 rfl) ?_
        refine va_get (D := (dC, dI)) (ci := 1) (v := .ref r) (C := RX2) (T := TX2) (N := 4) hx hb hts (by decide +kernel) hown hK hP 0 rfl rfl 0 (by decide) (hts (.fieldLink RX2 10 "RowPress" "row" "LRowPress$Row;") (by decide +kernel)) (fun _ h9 => h9) rfl dX2_merge_45 ?_
        refine lv_iload_n hx hb dX2_merge_48 rfl (lv_at hl 2 rfl) ?_
        refine lv_iload_n hx hb dX2_merge_49 rfl (lv_at hl 3 rfl) ?_
        refine lv_iload hx hb dX2_merge_50 (lv_at hl 4 rfl) ?_
        have hPc := hP.sub (ws' := [(r, .inr (0, [.ref k, .ref t, .int (nI n), .int ((nI 0) + nI d1), .int (nI 0)])), (k, .inl (cA, 500, .inl K)), (t, .inl (cB, 500, .inl T))]) [1, 2, 3] rfl
        have hDc := hD.sub (ws' := [(r, .inr (0, [.ref k, .ref t, .int (nI n), .int ((nI 0) + nI d1), .int (nI 0)])), (k, .inl (cA, 500, .inl K)), (t, .inl (cB, 500, .inl T))]) [1, 2, 3] (by decide) rfl
        have hKc := hK.sub (tys' := [(cA, .int), (cB, .int)]) [0, 1] rfl
        have hFc := va_free (wc := [(r, .inr (0, [.ref k, .ref t, .int (nI n), .int ((nI 0) + nI d1), .int (nI 0)])), (k, .inl (cA, 500, .inl K)), (t, .inl (cB, 500, .inl T))]) hD hS hA [1, 2, 3] rfl
        refine va_calli (va_runV (As := [.int (nI d), .int (nI b), .int (nI o1)]) (rest := []) ⟨hx, hb, hml, hown, hts⟩ (c_X1_inOrder l dC dI H.size r k t cA cB n ((nI 0) + nI d1) (nI 0) K T d b o1 (by omega) (by omega) ho) (cwV 3 hts gX2_merge_X1_inOrder rfl rfl rfl (by decide +kernel) ⟨Nat.le_of_ble_eq_true rfl, Nat.le_of_ble_eq_true rfl⟩) ⟨fun a U g mk q => by obtain ⟨q0, q1, qP, qK, qD⟩ := q; exact ⟨q0, q1, qP, va_K.moved (u := U) (U := U.calling g mk a) (Vm.Alike.refl U.vm) qK, qD⟩, va_recv hKc hPc (ci := 0) (q0 := 0) rfl rfl, fun U hU hW => ⟨rfl, by rw [hU], by rw [hU]; exact hPc, va_K.moved hW.alike hKc, hDc.weaken (fun _ _ _ _ => trivial)⟩⟩ rfl rfl hl.1 rfl (lv_room (Nat.le_of_ble_eq_true rfl)) dX2_merge_52 ⟨Nat.le_of_ble_eq_true rfl, Nat.le_of_ble_eq_true rfl⟩) hS (fun q _ h => hFc q h) hFc (fun r_5 u tS H1 locs ht hvm hw hB hz1 hk1 hS => ?_)
        obtain ⟨hi2, d2, hd2, rfl⟩ := hw
        obtain ⟨hP1, hK1, hD1⟩ := hB
        rw [ht] at hP1
        obtain ⟨hP, hD⟩ := va_join (wr := [(h, .inr (1, [.ref r, .int lp, .int lc, .int lw]))]) (w1 := [(r, .inr (0, [.ref k, .ref t, .int (nI n), .int (((nI 0) + nI d1) + nI d2), .int (nI 0)])), (k, .inl (cA, 500, .inl K)), (t, .inl (cB, 500, .inl T))]) hP hD [1, 2, 3] [0] rfl rfl (by decide) (by decide) hk1 hFc hP1 hD1
        generalize H1 = H at hP hS ⊢
        have hP : va_P (dC, dI) vwCl [(h, .inr (1, [.ref r, .int lp, .int lc, .int lw])), (r, .inr (0, [.ref k, .ref t, .int (nI n), .int (((nI 0) + nI d1) + nI d2), .int (nI 0)])), (k, .inl (cA, 500, .inl K)), (t, .inl (cB, 500, .inl T))] H := hP
        have hD : va_D A [(h, .inr (1, [.ref r, .int lp, .int lc, .int lw])), (r, .inr (0, [.ref k, .ref t, .int (nI n), .int (((nI 0) + nI d1) + nI d2), .int (nI 0)])), (k, .inl (cA, 500, .inl K)), (t, .inl (cB, 500, .inl T))] := hD
        refine lv_if_ne (tgt := 60) hx hb dX2_merge_55 (by decide) (fun c55 => ?_) (fun c55 => ?_)
        · refine lv_aload_n hx hb dX2_merge_60 rfl (lv_at hl 0 rfl) ?_
          refine va_get (D := (dC, dI)) (ci := 1) (v := .ref r) (C := RX2) (T := TX2) (N := 4) hx hb hts (by decide +kernel) hown hK hP 0 rfl rfl 0 (by decide) (hts (.fieldLink RX2 10 "RowPress" "row" "LRowPress$Row;") (by decide +kernel)) (fun _ h9 => h9) rfl dX2_merge_61 ?_
          refine lv_iload_n hx hb dX2_merge_64 rfl (lv_at hl 1 rfl) ?_
          refine lv_iload_n hx hb dX2_merge_65 rfl (lv_at hl 2 rfl) ?_
          refine lv_iload_n hx hb dX2_merge_66 rfl (lv_at hl 3 rfl) ?_
          refine lv_iload hx hb dX2_merge_67 (lv_at hl 4 rfl) ?_
          refine lv_iconst (v := (nI 0)) hx hb dX2_merge_69 (by decide) ?_
          obtain ⟨kk, hkk, hk1, hk2⟩ := mc_k (show b - a ≤ 500 by omega)
          have hPc := hP.sub (ws' := [(r, .inr (0, [.ref k, .ref t, .int (nI n), .int (((nI 0) + nI d1) + nI d2), .int (nI 0)])), (k, .inl (cA, 500, .inl K)), (t, .inl (cB, 500, .inl T))]) [1, 2, 3] rfl
          have hDc := hD.sub (ws' := [(r, .inr (0, [.ref k, .ref t, .int (nI n), .int (((nI 0) + nI d1) + nI d2), .int (nI 0)])), (k, .inl (cA, 500, .inl K)), (t, .inl (cB, 500, .inl T))]) [1, 2, 3] (by decide) rfl
          have hKc := hK.sub (tys' := [(cA, .int), (cB, .int)]) [0, 1] rfl
          have hFc := va_free (wc := [(r, .inr (0, [.ref k, .ref t, .int (nI n), .int (((nI 0) + nI d1) + nI d2), .int (nI 0)])), (k, .inl (cA, 500, .inl K)), (t, .inl (cB, 500, .inl T))]) hD hS hA [1, 2, 3] rfl
          refine va_callv (va_runSN (As := [.ref r, .int (nI a), .int (nI d), .int (nI b), .int (nI o1), .int (nI 0)]) (rest := []) ⟨hx, hb, hml, hown, hts⟩ (c_X1_mergeInPlace l dC dI r k t cA cB kk H.size n (((nI 0) + nI d1) + nI d2) (nI 0) K T a d b o1 0 had hdb hb5 ho hk1 (by omega) (tr_1 hi1 c41) (tr_1 hi2 c55)) ⟨va_cnB (own := RX2) (host := RX2) (index := 59) 6 hts gX2_merge_X1_mergeInPlace_n59 rfl rfl rfl hN0 (hts (.initialized RX1) (by decide +kernel)) (by decide +kernel) ⟨by show 3 + kk + 1 ≤ 13; omega, by show 8 + (9 + 11) + (74 + 28 * kk) ≤ 354; omega⟩, hts (.static yX1_mergeInPlace) (by decide +kernel), trivial⟩ ⟨fun a U g mk q => by obtain ⟨q0, q1, qP, qK, qD⟩ := q; exact ⟨q0, q1, qP, va_K.moved (u := U) (U := U.calling g mk a) (Vm.Alike.refl U.vm) qK, qD⟩, fun U hU hW => ⟨rfl, by rw [hU], by rw [hU]; exact hPc, va_K.moved hW.alike hKc, hDc.weaken (fun _ _ _ _ => trivial)⟩⟩ rfl rfl hl.1 rfl (lv_room (Nat.le_of_ble_eq_true rfl)) dX2_merge_70 ⟨Nat.le_of_ble_eq_true rfl, Nat.le_of_ble_eq_true rfl⟩) hS (fun q _ h => hFc q h) hFc (fun u tS H1 locs ht hvm hw hB hz1 hk1 hS => ?_)
          obtain ⟨K1, T1, n1, e1, w1⟩ := u
          obtain ⟨zo, zs, zm, zn, ⟨g1, zg1, zc⟩, g2, zg2, zw⟩ := hw
          dsimp only at zo zs zm zn zc zw
          subst zn; subst zc; subst zw
          obtain ⟨hP1, hK1, hD1⟩ := hB
          rw [ht] at hP1
          obtain ⟨hP, hD⟩ := va_join (wr := [(h, .inr (1, [.ref r, .int lp, .int lc, .int lw]))]) (w1 := [(r, .inr (0, [.ref k, .ref t, .int (nI n), .int ((((nI 0) + nI d1) + nI d2) + nI g1), .int ((nI 0) + nI g2)])), (k, .inl (cA, 500, .inl K1)), (t, .inl (cB, 500, .inl T1))]) hP hD [1, 2, 3] [0] rfl rfl (by decide) (by decide) hk1 hFc hP1 hD1
          generalize H1 = H at hP hS ⊢
          have hP : va_P (dC, dI) vwCl [(h, .inr (1, [.ref r, .int lp, .int lc, .int lw])), (r, .inr (0, [.ref k, .ref t, .int (nI n), .int ((((nI 0) + nI d1) + nI d2) + nI g1), .int ((nI 0) + nI g2)])), (k, .inl (cA, 500, .inl K1)), (t, .inl (cB, 500, .inl T1))] H := hP
          have hD : va_D A [(h, .inr (1, [.ref r, .int lp, .int lc, .int lw])), (r, .inr (0, [.ref k, .ref t, .int (nI n), .int ((((nI 0) + nI d1) + nI d2) + nI g1), .int ((nI 0) + nI g2)])), (k, .inl (cA, 500, .inl K1)), (t, .inl (cB, 500, .inl T1))] := hD
          refine lv_aload_n hx hb dX2_merge_73 rfl (lv_at hl 0 rfl) ?_
          refine lv_iload_n hx hb dX2_merge_74 rfl (lv_at hl 3 rfl) ?_
          refine lv_iload_n hx hb dX2_merge_75 rfl (lv_at hl 1 rfl) ?_
          refine lv_isub hx hb dX2_merge_76 ?_
          refine lz_top (y := (nI (b - a))) (pk_sub (by omega)) ?_
          have hPc := hP.sub (ws' := [(h, .inr (1, [.ref r, .int lp, .int lc, .int lw])), (r, .inr (0, [.ref k, .ref t, .int (nI n), .int ((((nI 0) + nI d1) + nI d2) + nI g1), .int ((nI 0) + nI g2)])), (k, .inl (cA, 500, .inl K1)), (t, .inl (cB, 500, .inl T1))]) [0, 1, 2, 3] rfl
          have hDc := hD.sub (ws' := [(h, .inr (1, [.ref r, .int lp, .int lc, .int lw])), (r, .inr (0, [.ref k, .ref t, .int (nI n), .int ((((nI 0) + nI d1) + nI d2) + nI g1), .int ((nI 0) + nI g2)])), (k, .inl (cA, 500, .inl K1)), (t, .inl (cB, 500, .inl T1))]) [0, 1, 2, 3] (by decide) rfl
          have hKc := hK.sub (tys' := [(cA, .int), (cB, .int)]) [0, 1] rfl
          have hFc := va_free (wc := [(h, .inr (1, [.ref r, .int lp, .int lc, .int lw])), (r, .inr (0, [.ref k, .ref t, .int (nI n), .int ((((nI 0) + nI d1) + nI d2) + nI g1), .int ((nI 0) + nI g2)])), (k, .inl (cA, 500, .inl K1)), (t, .inl (cB, 500, .inl T1))]) hD hS hA [0, 1, 2, 3] rfl
          refine va_callv (va_runV (As := [.int (nI (b - a))]) (rest := []) ⟨hx, hb, hml, hown, hts⟩ (c_X2_keepCounts l dC dI H.size h r k t cA cB n ((((nI 0) + nI d1) + nI d2) + nI g1) ((nI 0) + nI g2) lp lc lw K1 T1 (nI (b - a))) (cwV 1 hts gX2_merge_X2_keepCounts rfl rfl rfl (by decide +kernel) ⟨Nat.le_of_ble_eq_true rfl, Nat.le_of_ble_eq_true rfl⟩) ⟨fun a U g mk q => by obtain ⟨q0, q1, qP, qK, qD⟩ := q; exact ⟨q0, q1, qP, va_K.moved (u := U) (U := U.calling g mk a) (Vm.Alike.refl U.vm) qK, qD⟩, va_recv hKc hPc (ci := 1) (q0 := 0) rfl rfl, fun U hU hW => ⟨rfl, by rw [hU], by rw [hU]; exact hPc, va_K.moved hW.alike hKc, hDc.weaken (fun _ _ _ _ => trivial)⟩⟩ rfl rfl hl.1 rfl (lv_room (Nat.le_of_ble_eq_true rfl)) dX2_merge_77 ⟨Nat.le_of_ble_eq_true rfl, Nat.le_of_ble_eq_true rfl⟩) hS (fun q _ h => hFc q h) hFc (fun u tS H1 locs ht hvm hw hB hz1 hk1 hS => ?_)
          subst hw
          obtain ⟨hP1, hK1, hD1⟩ := hB
          rw [ht] at hP1
          obtain ⟨hP, hD⟩ := va_join (wr := []) (w1 := [(h, .inr (1, [.ref r, .int (nI (b - a)), .int ((((nI 0) + nI d1) + nI d2) + nI g1), .int ((nI 0) + nI g2)])), (r, .inr (0, [.ref k, .ref t, .int (nI n), .int ((((nI 0) + nI d1) + nI d2) + nI g1), .int ((nI 0) + nI g2)])), (k, .inl (cA, 500, .inl K1)), (t, .inl (cB, 500, .inl T1))]) hP hD [0, 1, 2, 3] [] rfl rfl (by decide) (by decide) hk1 hFc hP1 hD1
          generalize H1 = H at hP hS ⊢
          have hP : va_P (dC, dI) vwCl [(h, .inr (1, [.ref r, .int (nI (b - a)), .int ((((nI 0) + nI d1) + nI d2) + nI g1), .int ((nI 0) + nI g2)])), (r, .inr (0, [.ref k, .ref t, .int (nI n), .int ((((nI 0) + nI d1) + nI d2) + nI g1), .int ((nI 0) + nI g2)])), (k, .inl (cA, 500, .inl K1)), (t, .inl (cB, 500, .inl T1))] H := hP
          have hD : va_D A [(h, .inr (1, [.ref r, .int (nI (b - a)), .int ((((nI 0) + nI d1) + nI d2) + nI g1), .int ((nI 0) + nI g2)])), (r, .inr (0, [.ref k, .ref t, .int (nI n), .int ((((nI 0) + nI d1) + nI d2) + nI g1), .int ((nI 0) + nI g2)])), (k, .inl (cA, 500, .inl K1)), (t, .inl (cB, 500, .inl T1))] := hD
          refine lv_iconst (v := (nI 1)) hx hb dX2_merge_80 (by decide) ?_
          exact W.iret (v := (nI 1)) hx hb hr (fun tS ht hW => ⟨⟨(nI 1), (K1, T1, n, ((((nI 0) + nI d1) + nI d2) + nI g1), ((nI 0) + nI g2), (nI (b - a)), ((((nI 0) + nI d1) + nI d2) + nI g1), ((nI 0) + nI g2)), rfl, ⟨Or.inr ⟨(a, d, b, o1), ⟨rfl, rfl, rfl, rfl, had, hdb, hbn, ho⟩, Or.inr ⟨tr_1 hi1 c41, tr_1 hi2 c55, rfl, rfl, soC_of zo zs zm⟩⟩, ⟨hn, ⟨b - a, d1 + d2 + g1, g2, rfl, by omega, by rw [z_ad, nI_add, nI_add], mc_8 zg1 (by omega) hk2, by have := mc_g zg1 hkk; omega, z_ad g2, mc_40 zg2 hk2, by have := mc_w zg2 (by omega) hkk; omega⟩⟩⟩, by rw [ht]; exact hP, va_K.moved hW.alike hK, hD⟩, hS.F ht⟩) hS.2.2 dX2_merge_81
        · refine lv_iconst (v := (nI 0)) hx hb dX2_merge_58 (by decide) ?_
          exact W.iret (v := (nI 0)) hx hb hr (fun tS ht hW => ⟨⟨(nI 0), (K, T, n, (((nI 0) + nI d1) + nI d2), (nI 0), lp, lc, lw), rfl, ⟨Or.inr ⟨(a, d, b, o1), ⟨rfl, rfl, rfl, rfl, had, hdb, hbn, ho⟩, Or.inl ⟨fun z => tr_0 hi2 c55 z.2, rfl, sam_rf⟩⟩, ⟨hn, hck⟩⟩, by rw [ht]; exact hP, va_K.moved hW.alike hK, hD⟩, hS.F ht⟩) hS.2.2 dX2_merge_59
    · refine lv_iconst (v := (nI 0)) hx hb dX2_merge_21 (by decide) ?_
      exact W.iret (v := (nI 0)) hx hb hr (fun tS ht hW => ⟨⟨(nI 0), (K, T, n, cm, wr, lp, lc, lw), rfl, ⟨Or.inl ⟨⟨rfl, sam_rf⟩, fun z hz => tr_0 hs c18 (dG_e hn hz).2⟩, ⟨hn, hck⟩⟩, by rw [ht]; exact hP, va_K.moved hW.alike hK, hD⟩, hS.F ht⟩) hS.2.2 dX2_merge_22
end
section
set_option maxHeartbeats 4000000 in
set_option maxRecDepth 100000 in
theorem c_X2_rotate (l : Launch) (dC : Nat → ClassId) (dI : Nat → Nat → Nat) (sz : Nat) (h r k t : Nat) (cA cB : ClassId) (n : Nat) (cm wr lp lc lw : Int32) (K T : Nat → Int32) (hn : n ≤ 500) (hck : ckI lp lc lw) (x y v : Int32) : Met l yX2_rotate wsX2_rotate ({ frames := 3, cells := 0, slots := 0, locals := 71 }) (va_Pc [.ref h, .int x, .int y, .int v] (fun U => U.heap.size = sz ∧ va_P (dC, dI) vwCl [(h, .inr (1, [.ref r, .int lp, .int lc, .int lw])), (r, .inr (0, [.ref k, .ref t, .int (nI n), .int cm, .int wr])), (k, .inl (cA, 500, .inl K)), (t, .inl (cB, 500, .inl T))] U.heap ∧ va_K (dC, dI) vwCl [(cA, .int), (cB, .int)] U ∧ va_D (fun _ => True) [(h, .inr (1, [.ref r, .int lp, .int lc, .int lw])), (r, .inr (0, [.ref k, .ref t, .int (nI n), .int cm, .int wr])), (k, .inl (cA, 500, .inl K)), (t, .inl (cB, 500, .inl T))])) (va_Qi (fun r u => Qrot n (mZ K T) x y v r u.2.2.1 (mZ u.1 u.2.1) ∧ okU u) (atX dC dI (va_A [(h, .inr (1, [.ref r, .int lp, .int lc, .int lw])), (r, .inr (0, [.ref k, .ref t, .int (nI n), .int cm, .int wr])), (k, .inl (cA, 500, .inl K)), (t, .inl (cB, 500, .inl T))] sz) h r k t cA cB) (va_A [(h, .inr (1, [.ref r, .int lp, .int lc, .int lw])), (r, .inr (0, [.ref k, .ref t, .int (nI n), .int cm, .int wr])), (k, .inl (cA, 500, .inl K)), (t, .inl (cB, 500, .inl T))] sz)) 0 0 (va_A [(h, .inr (1, [.ref r, .int lp, .int lc, .int lw])), (r, .inr (0, [.ref k, .ref t, .int (nI n), .int cm, .int wr])), (k, .inl (cA, 500, .inl K)), (t, .inl (cB, 500, .inl T))] sz) := by
  refine Met.ofW (cc := cX2_rotate) (maxL := 4) (ret := (some .int)) (by decide) rfl ?_
  intro p e s m args below meth c s₁ B hml hv
  obtain ⟨rfl, hsz, hP, hK, hD0⟩ := hv
  have hx := B.exec
  have hb := B.bytes
  have hr := B.returns
  have hts := atoms_spec (ws := wsX2_rotate) B.pre
  have hown : s.vm.findClass RX2 = some m.cls := findClass_of_methodNamed B.named
  have hlocks := B.notSynchronized
  subst hsz
  have hD := hD0.self (sz := s.heap.size)
  generalize hAe : va_A [(h, .inr (1, [.ref r, .int lp, .int lc, .int lw])), (r, .inr (0, [.ref k, .ref t, .int (nI n), .int cm, .int wr])), (k, .inl (cA, 500, .inl K)), (t, .inl (cB, 500, .inl T))] s.heap.size = A at hD ⊢
  have hA : ∀ q : Nat, s.heap.size ≤ q → A q := fun q h => by rw [← hAe]; exact Or.inr h
  have hS : va_S A s.heap s.heap [] := va_S.rf
  have hP : va_P (dC, dI) vwCl [(h, .inr (1, [.ref r, .int lp, .int lc, .int lw])), (r, .inr (0, [.ref k, .ref t, .int (nI n), .int cm, .int wr])), (k, .inl (cA, 500, .inl K)), (t, .inl (cB, 500, .inl T))] s.heap := hP
  have hl := lv_entry ([.ref h, .int x, .int y, .int v]) (n := 4) (Nat.le_of_ble_eq_true rfl)
  rw [lg_entry_eq]
  generalize (lg_sl ([.ref h, .int x, .int y, .int v]) ++ List.replicate (4 - (lg_sl ([.ref h, .int x, .int y, .int v])).length) Slot.unset).toArray = ls at hl ⊢
  have hl : lv_has ls 4 [(0, .ref h), (1, .int x), (2, .int y), (3, .int v)] := hl
  refine lv_aload_n hx hb dX2_rotate_0 rfl (lv_at hl 0 rfl) ?_
  refine va_get (D := (dC, dI)) (ci := 1) (v := .ref r) (C := RX2) (T := TX2) (N := 4) hx hb hts (by decide +kernel) hown hK hP 0 rfl rfl 0 (by decide) (hts (.fieldLink RX2 10 "RowPress" "row" "LRowPress$Row;") (by decide +kernel)) (fun _ h9 => h9) rfl dX2_rotate_1 ?_
  refine lv_iload_n hx hb dX2_rotate_4 rfl (lv_at hl 1 rfl) ?_
  refine lv_iload_n hx hb dX2_rotate_5 rfl (lv_at hl 2 rfl) ?_
  refine lv_iload_n hx hb dX2_rotate_6 rfl (lv_at hl 3 rfl) ?_
  have hPc := hP.sub (ws' := [(r, .inr (0, [.ref k, .ref t, .int (nI n), .int cm, .int wr])), (k, .inl (cA, 500, .inl K)), (t, .inl (cB, 500, .inl T))]) [1, 2, 3] rfl
  have hDc := hD.sub (ws' := [(r, .inr (0, [.ref k, .ref t, .int (nI n), .int cm, .int wr])), (k, .inl (cA, 500, .inl K)), (t, .inl (cB, 500, .inl T))]) [1, 2, 3] (by decide) rfl
  have hKc := hK.sub (tys' := [(cA, .int), (cB, .int)]) [0, 1] rfl
  have hFc := va_free (wc := [(r, .inr (0, [.ref k, .ref t, .int (nI n), .int cm, .int wr])), (k, .inl (cA, 500, .inl K)), (t, .inl (cB, 500, .inl T))]) hD hS hA [1, 2, 3] rfl
  refine va_calli (va_runV (As := [.int x, .int y, .int v]) (rest := []) ⟨hx, hb, hml, hown, hts⟩ (c_X1_hasStretches l dC dI s.heap.size r k t cA cB n cm wr K T hn x y v) (cwV 3 hts gX2_rotate_X1_hasStretches rfl rfl rfl (by decide +kernel) ⟨Nat.le_of_ble_eq_true rfl, Nat.le_of_ble_eq_true rfl⟩) ⟨fun a U g mk q => by obtain ⟨q0, q1, qP, qK, qD⟩ := q; exact ⟨q0, q1, qP, va_K.moved (u := U) (U := U.calling g mk a) (Vm.Alike.refl U.vm) qK, qD⟩, va_recv hKc hPc (ci := 0) (q0 := 0) rfl rfl, fun U hU hW => ⟨rfl, by rw [hU], by rw [hU]; exact hPc, va_K.moved hW.alike hKc, hDc.weaken (fun _ _ _ _ => trivial)⟩⟩ rfl rfl hl.1 rfl (lv_room (Nat.le_of_ble_eq_true rfl)) dX2_rotate_7 ⟨Nat.le_of_ble_eq_true rfl, Nat.le_of_ble_eq_true rfl⟩) hS (fun q _ h => hFc q h) hFc (fun r_1 u tS H1 locs ht hvm hw hB hz1 hk1 hS => ?_)
  obtain ⟨hs, rfl⟩ := hw
  obtain ⟨hP1, hK1, hD1⟩ := hB
  rw [ht] at hP1
  obtain ⟨hP, hD⟩ := va_join (wr := [(h, .inr (1, [.ref r, .int lp, .int lc, .int lw]))]) (w1 := [(r, .inr (0, [.ref k, .ref t, .int (nI n), .int cm, .int wr])), (k, .inl (cA, 500, .inl K)), (t, .inl (cB, 500, .inl T))]) hP hD [1, 2, 3] [0] rfl rfl (by decide) (by decide) hk1 hFc hP1 hD1
  generalize H1 = H at hP hS ⊢
  have hP : va_P (dC, dI) vwCl [(h, .inr (1, [.ref r, .int lp, .int lc, .int lw])), (r, .inr (0, [.ref k, .ref t, .int (nI n), .int cm, .int wr])), (k, .inl (cA, 500, .inl K)), (t, .inl (cB, 500, .inl T))] H := hP
  have hD : va_D A [(h, .inr (1, [.ref r, .int lp, .int lc, .int lw])), (r, .inr (0, [.ref k, .ref t, .int (nI n), .int cm, .int wr])), (k, .inl (cA, 500, .inl K)), (t, .inl (cB, 500, .inl T))] := hD
  refine lv_if_ne (tgt := 15) hx hb dX2_rotate_10 (by decide) (fun c10 => ?_) (fun c10 => ?_)
  · obtain ⟨hst1, hst2⟩ := tr_1 hs c10
    obtain ⟨a, d, rfl, rfl, had, hdn⟩ := stP_of hn hst1
    obtain ⟨d2, b, hd2, rfl, hdb, hbn⟩ := stP_of hn hst2
    obtain rfl : d = d2 := (nI_eq (by omega) (by omega)).mp hd2
    clear hd2
    refine lv_aload_n hx hb dX2_rotate_15 rfl (lv_at hl 0 rfl) ?_
    refine va_get (D := (dC, dI)) (ci := 1) (v := .ref r) (C := RX2) (T := TX2) (N := 4) hx hb hts (by decide +kernel) hown hK hP 0 rfl rfl 0 (by decide) (hts (.fieldLink RX2 10 "RowPress" "row" "LRowPress$Row;") (by decide +kernel)) (fun _ h9 => h9) rfl dX2_rotate_16 ?_
    refine lv_iload_n hx hb dX2_rotate_19 rfl (lv_at hl 1 rfl) ?_
    refine lv_iload_n hx hb dX2_rotate_20 rfl (lv_at hl 2 rfl) ?_
    refine lv_iload_n hx hb dX2_rotate_21 rfl (lv_at hl 3 rfl) ?_
    have hPc := hP.sub (ws' := [(r, .inr (0, [.ref k, .ref t, .int (nI n), .int cm, .int wr])), (k, .inl (cA, 500, .inl K)), (t, .inl (cB, 500, .inl T))]) [1, 2, 3] rfl
    have hDc := hD.sub (ws' := [(r, .inr (0, [.ref k, .ref t, .int (nI n), .int cm, .int wr])), (k, .inl (cA, 500, .inl K)), (t, .inl (cB, 500, .inl T))]) [1, 2, 3] (by decide) rfl
    have hKc := hK.sub (tys' := [(cA, .int), (cB, .int)]) [0, 1] rfl
    have hFc := va_free (wc := [(r, .inr (0, [.ref k, .ref t, .int (nI n), .int cm, .int wr])), (k, .inl (cA, 500, .inl K)), (t, .inl (cB, 500, .inl T))]) hD hS hA [1, 2, 3] rfl
    refine va_callv (va_runV (As := [.int (nI a), .int (nI d), .int (nI b)]) (rest := []) ⟨hx, hb, hml, hown, hts⟩ (c_X1_swapBlocks l dC dI H.size r k t cA cB n cm wr K T a d b had hdb (by omega)) (cwV 3 hts gX2_rotate_X1_swapBlocks rfl rfl rfl (by decide +kernel) ⟨Nat.le_of_ble_eq_true rfl, Nat.le_of_ble_eq_true rfl⟩) ⟨fun a U g mk q => by obtain ⟨q0, q1, qP, qK, qD⟩ := q; exact ⟨q0, q1, qP, va_K.moved (u := U) (U := U.calling g mk a) (Vm.Alike.refl U.vm) qK, qD⟩, va_recv hKc hPc (ci := 0) (q0 := 0) rfl rfl, fun U hU hW => ⟨rfl, by rw [hU], by rw [hU]; exact hPc, va_K.moved hW.alike hKc, hDc.weaken (fun _ _ _ _ => trivial)⟩⟩ rfl rfl hl.1 rfl (lv_room (Nat.le_of_ble_eq_true rfl)) dX2_rotate_22 ⟨Nat.le_of_ble_eq_true rfl, Nat.le_of_ble_eq_true rfl⟩) hS (fun q _ h => hFc q h) hFc (fun u tS H1 locs ht hvm hw hB hz1 hk1 hS => ?_)
    obtain ⟨K1, T1, n1, c1, w1⟩ := u
    obtain ⟨hm1, hn1, hc1, d1, hd1, hw1⟩ := hw
    dsimp only at hm1 hn1 hc1 hw1
    subst hn1; subst hc1; subst hw1
    obtain ⟨hP1, hK1, hD1⟩ := hB
    rw [ht] at hP1
    obtain ⟨hP, hD⟩ := va_join (wr := [(h, .inr (1, [.ref r, .int lp, .int lc, .int lw]))]) (w1 := [(r, .inr (0, [.ref k, .ref t, .int (nI n), .int cm, .int (wr + nI d1)])), (k, .inl (cA, 500, .inl K1)), (t, .inl (cB, 500, .inl T1))]) hP hD [1, 2, 3] [0] rfl rfl (by decide) (by decide) hk1 hFc hP1 hD1
    generalize H1 = H at hP hS ⊢
    have hP : va_P (dC, dI) vwCl [(h, .inr (1, [.ref r, .int lp, .int lc, .int lw])), (r, .inr (0, [.ref k, .ref t, .int (nI n), .int cm, .int (wr + nI d1)])), (k, .inl (cA, 500, .inl K1)), (t, .inl (cB, 500, .inl T1))] H := hP
    have hD : va_D A [(h, .inr (1, [.ref r, .int lp, .int lc, .int lw])), (r, .inr (0, [.ref k, .ref t, .int (nI n), .int cm, .int (wr + nI d1)])), (k, .inl (cA, 500, .inl K1)), (t, .inl (cB, 500, .inl T1))] := hD
    refine lv_iconst (v := (nI 1)) hx hb dX2_rotate_25 (by decide) ?_
    exact W.iret (v := (nI 1)) hx hb hr (fun tS ht hW => ⟨⟨(nI 1), (K1, T1, n, cm, (wr + nI d1), lp, lc, lw), rfl, ⟨Or.inr ⟨(a, d, b), ⟨rfl, rfl, rfl, had, hdb, hbn⟩, rfl, rfl, fun j _ => by rw [hm1]⟩, ⟨hn, hck⟩⟩, by rw [ht]; exact hP, va_K.moved hW.alike hK, hD⟩, hS.F ht⟩) hS.2.2 dX2_rotate_26
  · refine lv_iconst (v := (nI 0)) hx hb dX2_rotate_13 (by decide) ?_
    exact W.iret (v := (nI 0)) hx hb hr (fun tS ht hW => ⟨⟨(nI 0), (K, T, n, cm, wr, lp, lc, lw), rfl, ⟨Or.inl ⟨⟨rfl, sam_rf⟩, fun z hz => tr_0 hs c10 (dM_e hn hz)⟩, ⟨hn, hck⟩⟩, by rw [ht]; exact hP, va_K.moved hW.alike hK, hD⟩, hS.F ht⟩) hS.2.2 dX2_rotate_14
set_option maxHeartbeats 4000000 in
set_option maxRecDepth 100000 in
theorem c_X2_turn (l : Launch) (dC : Nat → ClassId) (dI : Nat → Nat → Nat) (sz : Nat) (h r k t : Nat) (cA cB : ClassId) (n : Nat) (cm wr lp lc lw : Int32) (K T : Nat → Int32) (hn : n ≤ 500) (hck : ckI lp lc lw) (x y : Int32) : Met l yX2_turn wsX2_turn ({ frames := 2, cells := 0, slots := 0, locals := 48 }) (va_Pc [.ref h, .int x, .int y] (fun U => U.heap.size = sz ∧ va_P (dC, dI) vwCl [(h, .inr (1, [.ref r, .int lp, .int lc, .int lw])), (r, .inr (0, [.ref k, .ref t, .int (nI n), .int cm, .int wr])), (k, .inl (cA, 500, .inl K)), (t, .inl (cB, 500, .inl T))] U.heap ∧ va_K (dC, dI) vwCl [(cA, .int), (cB, .int)] U ∧ va_D (fun _ => True) [(h, .inr (1, [.ref r, .int lp, .int lc, .int lw])), (r, .inr (0, [.ref k, .ref t, .int (nI n), .int cm, .int wr])), (k, .inl (cA, 500, .inl K)), (t, .inl (cB, 500, .inl T))])) (va_Qi (fun r u => Qtur n (mZ K T) x y r u.2.2.1 (mZ u.1 u.2.1) ∧ okU u) (atX dC dI (va_A [(h, .inr (1, [.ref r, .int lp, .int lc, .int lw])), (r, .inr (0, [.ref k, .ref t, .int (nI n), .int cm, .int wr])), (k, .inl (cA, 500, .inl K)), (t, .inl (cB, 500, .inl T))] sz) h r k t cA cB) (va_A [(h, .inr (1, [.ref r, .int lp, .int lc, .int lw])), (r, .inr (0, [.ref k, .ref t, .int (nI n), .int cm, .int wr])), (k, .inl (cA, 500, .inl K)), (t, .inl (cB, 500, .inl T))] sz)) 0 0 (va_A [(h, .inr (1, [.ref r, .int lp, .int lc, .int lw])), (r, .inr (0, [.ref k, .ref t, .int (nI n), .int cm, .int wr])), (k, .inl (cA, 500, .inl K)), (t, .inl (cB, 500, .inl T))] sz) := by
  refine Met.ofW (cc := cX2_turn) (maxL := 3) (ret := (some .int)) (by decide) rfl ?_
  intro p e s m args below meth c s₁ B hml hv
  obtain ⟨rfl, hsz, hP, hK, hD0⟩ := hv
  have hx := B.exec
  have hb := B.bytes
  have hr := B.returns
  have hts := atoms_spec (ws := wsX2_turn) B.pre
  have hown : s.vm.findClass RX2 = some m.cls := findClass_of_methodNamed B.named
  have hlocks := B.notSynchronized
  subst hsz
  have hD := hD0.self (sz := s.heap.size)
  generalize hAe : va_A [(h, .inr (1, [.ref r, .int lp, .int lc, .int lw])), (r, .inr (0, [.ref k, .ref t, .int (nI n), .int cm, .int wr])), (k, .inl (cA, 500, .inl K)), (t, .inl (cB, 500, .inl T))] s.heap.size = A at hD ⊢
  have hA : ∀ q : Nat, s.heap.size ≤ q → A q := fun q h => by rw [← hAe]; exact Or.inr h
  have hS : va_S A s.heap s.heap [] := va_S.rf
  have hP : va_P (dC, dI) vwCl [(h, .inr (1, [.ref r, .int lp, .int lc, .int lw])), (r, .inr (0, [.ref k, .ref t, .int (nI n), .int cm, .int wr])), (k, .inl (cA, 500, .inl K)), (t, .inl (cB, 500, .inl T))] s.heap := hP
  have hl := lv_entry ([.ref h, .int x, .int y]) (n := 3) (Nat.le_of_ble_eq_true rfl)
  rw [lg_entry_eq]
  generalize (lg_sl ([.ref h, .int x, .int y]) ++ List.replicate (3 - (lg_sl ([.ref h, .int x, .int y])).length) Slot.unset).toArray = ls at hl ⊢
  have hl : lv_has ls 3 [(0, .ref h), (1, .int x), (2, .int y)] := hl
  refine lv_aload_n hx hb dX2_turn_0 rfl (lv_at hl 0 rfl) ?_
  refine va_get (D := (dC, dI)) (ci := 1) (v := .ref r) (C := RX2) (T := TX2) (N := 4) hx hb hts (by decide +kernel) hown hK hP 0 rfl rfl 0 (by decide) (hts (.fieldLink RX2 10 "RowPress" "row" "LRowPress$Row;") (by decide +kernel)) (fun _ h9 => h9) rfl dX2_turn_1 ?_
  refine lv_iload_n hx hb dX2_turn_4 rfl (lv_at hl 1 rfl) ?_
  refine lv_iload_n hx hb dX2_turn_5 rfl (lv_at hl 2 rfl) ?_
  have hPc := hP.sub (ws' := [(r, .inr (0, [.ref k, .ref t, .int (nI n), .int cm, .int wr])), (k, .inl (cA, 500, .inl K)), (t, .inl (cB, 500, .inl T))]) [1, 2, 3] rfl
  have hDc := hD.sub (ws' := [(r, .inr (0, [.ref k, .ref t, .int (nI n), .int cm, .int wr])), (k, .inl (cA, 500, .inl K)), (t, .inl (cB, 500, .inl T))]) [1, 2, 3] (by decide) rfl
  have hKc := hK.sub (tys' := [(cA, .int), (cB, .int)]) [0, 1] rfl
  have hFc := va_free (wc := [(r, .inr (0, [.ref k, .ref t, .int (nI n), .int cm, .int wr])), (k, .inl (cA, 500, .inl K)), (t, .inl (cB, 500, .inl T))]) hD hS hA [1, 2, 3] rfl
  refine va_calli (va_runV (As := [.int x, .int y]) (rest := []) ⟨hx, hb, hml, hown, hts⟩ (c_X1_hasStretch l dC dI s.heap.size r k t cA cB n cm wr K T hn x y) (cwV 2 hts gX2_turn_X1_hasStretch rfl rfl rfl (by decide +kernel) ⟨Nat.le_of_ble_eq_true rfl, Nat.le_of_ble_eq_true rfl⟩) ⟨fun a U g mk q => by obtain ⟨q0, q1, qP, qK, qD⟩ := q; exact ⟨q0, q1, qP, va_K.moved (u := U) (U := U.calling g mk a) (Vm.Alike.refl U.vm) qK, qD⟩, va_recv hKc hPc (ci := 0) (q0 := 0) rfl rfl, fun U hU hW => ⟨rfl, by rw [hU], by rw [hU]; exact hPc, va_K.moved hW.alike hKc, hDc.weaken (fun _ _ _ _ => trivial)⟩⟩ rfl rfl hl.1 rfl (lv_room (Nat.le_of_ble_eq_true rfl)) dX2_turn_6 ⟨Nat.le_of_ble_eq_true rfl, Nat.le_of_ble_eq_true rfl⟩) hS (fun q _ h => hFc q h) hFc (fun r_1 u tS H1 locs ht hvm hw hB hz1 hk1 hS => ?_)
  obtain ⟨hs, rfl⟩ := hw
  obtain ⟨hP1, hK1, hD1⟩ := hB
  rw [ht] at hP1
  obtain ⟨hP, hD⟩ := va_join (wr := [(h, .inr (1, [.ref r, .int lp, .int lc, .int lw]))]) (w1 := [(r, .inr (0, [.ref k, .ref t, .int (nI n), .int cm, .int wr])), (k, .inl (cA, 500, .inl K)), (t, .inl (cB, 500, .inl T))]) hP hD [1, 2, 3] [0] rfl rfl (by decide) (by decide) hk1 hFc hP1 hD1
  generalize H1 = H at hP hS ⊢
  have hP : va_P (dC, dI) vwCl [(h, .inr (1, [.ref r, .int lp, .int lc, .int lw])), (r, .inr (0, [.ref k, .ref t, .int (nI n), .int cm, .int wr])), (k, .inl (cA, 500, .inl K)), (t, .inl (cB, 500, .inl T))] H := hP
  have hD : va_D A [(h, .inr (1, [.ref r, .int lp, .int lc, .int lw])), (r, .inr (0, [.ref k, .ref t, .int (nI n), .int cm, .int wr])), (k, .inl (cA, 500, .inl K)), (t, .inl (cB, 500, .inl T))] := hD
  refine lv_if_ne (tgt := 14) hx hb dX2_turn_9 (by decide) (fun c9 => ?_) (fun c9 => ?_)
  · obtain ⟨a, b, rfl, rfl, hab, hbn⟩ := stP_of hn (tr_1 hs c9)
    refine lv_aload_n hx hb dX2_turn_14 rfl (lv_at hl 0 rfl) ?_
    refine va_get (D := (dC, dI)) (ci := 1) (v := .ref r) (C := RX2) (T := TX2) (N := 4) hx hb hts (by decide +kernel) hown hK hP 0 rfl rfl 0 (by decide) (hts (.fieldLink RX2 10 "RowPress" "row" "LRowPress$Row;") (by decide +kernel)) (fun _ h9 => h9) rfl dX2_turn_15 ?_
    refine lv_iload_n hx hb dX2_turn_18 rfl (lv_at hl 1 rfl) ?_
    refine lv_iload_n hx hb dX2_turn_19 rfl (lv_at hl 2 rfl) ?_
    have hPc := hP.sub (ws' := [(r, .inr (0, [.ref k, .ref t, .int (nI n), .int cm, .int wr])), (k, .inl (cA, 500, .inl K)), (t, .inl (cB, 500, .inl T))]) [1, 2, 3] rfl
    have hDc := hD.sub (ws' := [(r, .inr (0, [.ref k, .ref t, .int (nI n), .int cm, .int wr])), (k, .inl (cA, 500, .inl K)), (t, .inl (cB, 500, .inl T))]) [1, 2, 3] (by decide) rfl
    have hKc := hK.sub (tys' := [(cA, .int), (cB, .int)]) [0, 1] rfl
    have hFc := va_free (wc := [(r, .inr (0, [.ref k, .ref t, .int (nI n), .int cm, .int wr])), (k, .inl (cA, 500, .inl K)), (t, .inl (cB, 500, .inl T))]) hD hS hA [1, 2, 3] rfl
    refine va_callv (va_runV (As := [.int (nI a), .int (nI b)]) (rest := []) ⟨hx, hb, hml, hown, hts⟩ (c_X1_reverse l dC dI H.size r k t cA cB n cm wr K T a b hab (by omega)) (cwV 2 hts gX2_turn_X1_reverse rfl rfl rfl (by decide +kernel) ⟨Nat.le_of_ble_eq_true rfl, Nat.le_of_ble_eq_true rfl⟩) ⟨fun a U g mk q => by obtain ⟨q0, q1, qP, qK, qD⟩ := q; exact ⟨q0, q1, qP, va_K.moved (u := U) (U := U.calling g mk a) (Vm.Alike.refl U.vm) qK, qD⟩, va_recv hKc hPc (ci := 0) (q0 := 0) rfl rfl, fun U hU hW => ⟨rfl, by rw [hU], by rw [hU]; exact hPc, va_K.moved hW.alike hKc, hDc.weaken (fun _ _ _ _ => trivial)⟩⟩ rfl rfl hl.1 rfl (lv_room (Nat.le_of_ble_eq_true rfl)) dX2_turn_20 ⟨Nat.le_of_ble_eq_true rfl, Nat.le_of_ble_eq_true rfl⟩) hS (fun q _ h => hFc q h) hFc (fun u tS H1 locs ht hvm hw hB hz1 hk1 hS => ?_)
    obtain ⟨K1, T1, n1, c1, w1⟩ := u
    obtain ⟨hm1, hn1, hc1, d1, hd1, hw1⟩ := hw
    dsimp only at hm1 hn1 hc1 hw1
    subst hn1; subst hc1; subst hw1
    obtain ⟨hP1, hK1, hD1⟩ := hB
    rw [ht] at hP1
    obtain ⟨hP, hD⟩ := va_join (wr := [(h, .inr (1, [.ref r, .int lp, .int lc, .int lw]))]) (w1 := [(r, .inr (0, [.ref k, .ref t, .int (nI n), .int cm, .int (wr + nI d1)])), (k, .inl (cA, 500, .inl K1)), (t, .inl (cB, 500, .inl T1))]) hP hD [1, 2, 3] [0] rfl rfl (by decide) (by decide) hk1 hFc hP1 hD1
    generalize H1 = H at hP hS ⊢
    have hP : va_P (dC, dI) vwCl [(h, .inr (1, [.ref r, .int lp, .int lc, .int lw])), (r, .inr (0, [.ref k, .ref t, .int (nI n), .int cm, .int (wr + nI d1)])), (k, .inl (cA, 500, .inl K1)), (t, .inl (cB, 500, .inl T1))] H := hP
    have hD : va_D A [(h, .inr (1, [.ref r, .int lp, .int lc, .int lw])), (r, .inr (0, [.ref k, .ref t, .int (nI n), .int cm, .int (wr + nI d1)])), (k, .inl (cA, 500, .inl K1)), (t, .inl (cB, 500, .inl T1))] := hD
    refine lv_iconst (v := (nI 1)) hx hb dX2_turn_23 (by decide) ?_
    exact W.iret (v := (nI 1)) hx hb hr (fun tS ht hW => ⟨⟨(nI 1), (K1, T1, n, cm, (wr + nI d1), lp, lc, lw), rfl, ⟨Or.inr ⟨(a, b), ⟨rfl, rfl, hab, hbn⟩, rfl, rfl, fun j _ => by rw [hm1]⟩, ⟨hn, hck⟩⟩, by rw [ht]; exact hP, va_K.moved hW.alike hK, hD⟩, hS.F ht⟩) hS.2.2 dX2_turn_24
  · refine lv_iconst (v := (nI 0)) hx hb dX2_turn_12 (by decide) ?_
    exact W.iret (v := (nI 0)) hx hb hr (fun tS ht hW => ⟨⟨(nI 0), (K, T, n, cm, wr, lp, lc, lw), rfl, ⟨Or.inl ⟨⟨rfl, sam_rf⟩, fun z hz => tr_0 hs c9 (dT_e hn hz)⟩, ⟨hn, hck⟩⟩, by rw [ht]; exact hP, va_K.moved hW.alike hK, hD⟩, hS.F ht⟩) hS.2.2 dX2_turn_13
set_option maxHeartbeats 4000000 in
set_option maxRecDepth 100000 in
theorem c_X2_split (l : Launch) (dC : Nat → ClassId) (dI : Nat → Nat → Nat) (sz : Nat) (h r k t : Nat) (cA cB : ClassId) (n : Nat) (cm wr lp lc lw : Int32) (K T : Nat → Int32) (hn : n ≤ 500) (hck : ckI lp lc lw) (x y v o : Int32) : Met l yX2_split wsX2_split ({ frames := 4, cells := 0, slots := 0, locals := 130 }) (va_Pc [.ref h, .int x, .int y, .int v, .int o] (fun U => U.heap.size = sz ∧ va_P (dC, dI) vwCl [(h, .inr (1, [.ref r, .int lp, .int lc, .int lw])), (r, .inr (0, [.ref k, .ref t, .int (nI n), .int cm, .int wr])), (k, .inl (cA, 500, .inl K)), (t, .inl (cB, 500, .inl T))] U.heap ∧ va_K (dC, dI) vwCl [(cA, .int), (cB, .int)] U ∧ va_D (fun _ => True) [(h, .inr (1, [.ref r, .int lp, .int lc, .int lw])), (r, .inr (0, [.ref k, .ref t, .int (nI n), .int cm, .int wr])), (k, .inl (cA, 500, .inl K)), (t, .inl (cB, 500, .inl T))])) (va_Qi (fun r u => QspC n (mZ K T) x y v o r u.2.2.1 (mZ u.1 u.2.1) ∧ okU u) (atX dC dI (va_A [(h, .inr (1, [.ref r, .int lp, .int lc, .int lw])), (r, .inr (0, [.ref k, .ref t, .int (nI n), .int cm, .int wr])), (k, .inl (cA, 500, .inl K)), (t, .inl (cB, 500, .inl T))] sz) h r k t cA cB) (va_A [(h, .inr (1, [.ref r, .int lp, .int lc, .int lw])), (r, .inr (0, [.ref k, .ref t, .int (nI n), .int cm, .int wr])), (k, .inl (cA, 500, .inl K)), (t, .inl (cB, 500, .inl T))] sz)) 0 0 (va_A [(h, .inr (1, [.ref r, .int lp, .int lc, .int lw])), (r, .inr (0, [.ref k, .ref t, .int (nI n), .int cm, .int wr])), (k, .inl (cA, 500, .inl K)), (t, .inl (cB, 500, .inl T))] sz) := by
  refine Met.ofW (cc := cX2_split) (maxL := 5) (ret := (some .int)) (by decide) rfl ?_
  intro p e s m args below meth c s₁ B hml hv
  obtain ⟨rfl, hsz, hP, hK, hD0⟩ := hv
  have hx := B.exec
  have hb := B.bytes
  have hr := B.returns
  have hts := atoms_spec (ws := wsX2_split) B.pre
  have hown : s.vm.findClass RX2 = some m.cls := findClass_of_methodNamed B.named
  have hlocks := B.notSynchronized
  subst hsz
  have hD := hD0.self (sz := s.heap.size)
  generalize hAe : va_A [(h, .inr (1, [.ref r, .int lp, .int lc, .int lw])), (r, .inr (0, [.ref k, .ref t, .int (nI n), .int cm, .int wr])), (k, .inl (cA, 500, .inl K)), (t, .inl (cB, 500, .inl T))] s.heap.size = A at hD ⊢
  have hA : ∀ q : Nat, s.heap.size ≤ q → A q := fun q h => by rw [← hAe]; exact Or.inr h
  have hS : va_S A s.heap s.heap [] := va_S.rf
  have hP : va_P (dC, dI) vwCl [(h, .inr (1, [.ref r, .int lp, .int lc, .int lw])), (r, .inr (0, [.ref k, .ref t, .int (nI n), .int cm, .int wr])), (k, .inl (cA, 500, .inl K)), (t, .inl (cB, 500, .inl T))] s.heap := hP
  have hl := lv_entry ([.ref h, .int x, .int y, .int v, .int o]) (n := 5) (Nat.le_of_ble_eq_true rfl)
  rw [lg_entry_eq]
  generalize (lg_sl ([.ref h, .int x, .int y, .int v, .int o]) ++ List.replicate (5 - (lg_sl ([.ref h, .int x, .int y, .int v, .int o])).length) Slot.unset).toArray = ls at hl ⊢
  have hl : lv_has ls 5 [(0, .ref h), (1, .int x), (2, .int y), (3, .int v), (4, .int o)] := hl
  refine lv_iload hx hb dX2_split_0 (lv_at hl 4 rfl) ?_
  have hPc := hP.sub (ws' := []) [] rfl
  have hDc := hD.sub (ws' := []) [] (by decide) rfl
  have hKc := hK.sub (tys' := []) [] rfl
  have hFc := va_free (wc := []) hD hS hA [] rfl
  refine va_calli (va_runS (As := [.int o]) (rest := []) ⟨hx, hb, hml, hown, hts⟩ (c_X0_exists l dC dI s.heap.size o) (va_cwS 1 hts gX2_split_X0_exists rfl rfl rfl (by decide +kernel) ⟨Nat.le_of_ble_eq_true rfl, Nat.le_of_ble_eq_true rfl⟩) ⟨fun a U g mk q => by obtain ⟨q0, q1, qP, qK, qD⟩ := q; exact ⟨q0, q1, qP, va_K.moved (u := U) (U := U.calling g mk a) (Vm.Alike.refl U.vm) qK, qD⟩, fun U hU hW => ⟨rfl, by rw [hU], by rw [hU]; exact hPc, va_K.moved hW.alike hKc, hDc.weaken (fun _ _ _ _ => trivial)⟩⟩ rfl rfl hl.1 rfl (lv_room (Nat.le_of_ble_eq_true rfl)) dX2_split_2 ⟨Nat.le_of_ble_eq_true rfl, Nat.le_of_ble_eq_true rfl⟩) hS (fun q _ h => hFc q h) hFc (fun r_1 u tS H1 locs ht hvm hw hB hz1 hk1 hS => ?_)
  have he := hw
  obtain ⟨hP1, hK1, hD1⟩ := hB
  rw [ht] at hP1
  obtain ⟨hP, hD⟩ := va_join (wr := [(h, .inr (1, [.ref r, .int lp, .int lc, .int lw])), (r, .inr (0, [.ref k, .ref t, .int (nI n), .int cm, .int wr])), (k, .inl (cA, 500, .inl K)), (t, .inl (cB, 500, .inl T))]) (w1 := []) hP hD [] [0, 1, 2, 3] rfl rfl (by decide) (by decide) hk1 hFc hP1 hD1
  generalize H1 = H at hP hS ⊢
  have hP : va_P (dC, dI) vwCl [(h, .inr (1, [.ref r, .int lp, .int lc, .int lw])), (r, .inr (0, [.ref k, .ref t, .int (nI n), .int cm, .int wr])), (k, .inl (cA, 500, .inl K)), (t, .inl (cB, 500, .inl T))] H := hP
  have hD : va_D A [(h, .inr (1, [.ref r, .int lp, .int lc, .int lw])), (r, .inr (0, [.ref k, .ref t, .int (nI n), .int cm, .int wr])), (k, .inl (cA, 500, .inl K)), (t, .inl (cB, 500, .inl T))] := hD
  refine lv_if_eq (tgt := 20) hx hb dX2_split_5 (by decide) (fun c5 => ?_) (fun c5 => ?_)
  · refine lv_iconst (v := (-1)) hx hb dX2_split_20 (by decide) ?_
    exact W.iret (v := (-1)) hx hb hr (fun tS ht hW => ⟨⟨(-1), (K, T, n, cm, wr, lp, lc, lw), rfl, ⟨Or.inl ⟨⟨rfl, sam_rf⟩, fun z hz => tr_0 he c5 (dS_e hn hz).1⟩, ⟨hn, hck⟩⟩, by rw [ht]; exact hP, va_K.moved hW.alike hK, hD⟩, hS.F ht⟩) hS.2.2 dX2_split_21
  · refine lv_aload_n hx hb dX2_split_8 rfl (lv_at hl 0 rfl) ?_
    refine va_get (D := (dC, dI)) (ci := 1) (v := .ref r) (C := RX2) (T := TX2) (N := 4) hx hb hts (by decide +kernel) hown hK hP 0 rfl rfl 0 (by decide) (hts (.fieldLink RX2 10 "RowPress" "row" "LRowPress$Row;") (by decide +kernel)) (fun _ h9 => h9) rfl dX2_split_9 ?_
    refine lv_iload_n hx hb dX2_split_12 rfl (lv_at hl 1 rfl) ?_
    refine lv_iload_n hx hb dX2_split_13 rfl (lv_at hl 2 rfl) ?_
    have hPc := hP.sub (ws' := [(r, .inr (0, [.ref k, .ref t, .int (nI n), .int cm, .int wr])), (k, .inl (cA, 500, .inl K)), (t, .inl (cB, 500, .inl T))]) [1, 2, 3] rfl
    have hDc := hD.sub (ws' := [(r, .inr (0, [.ref k, .ref t, .int (nI n), .int cm, .int wr])), (k, .inl (cA, 500, .inl K)), (t, .inl (cB, 500, .inl T))]) [1, 2, 3] (by decide) rfl
    have hKc := hK.sub (tys' := [(cA, .int), (cB, .int)]) [0, 1] rfl
    have hFc := va_free (wc := [(r, .inr (0, [.ref k, .ref t, .int (nI n), .int cm, .int wr])), (k, .inl (cA, 500, .inl K)), (t, .inl (cB, 500, .inl T))]) hD hS hA [1, 2, 3] rfl
    refine va_calli (va_runV (As := [.int x, .int y]) (rest := []) ⟨hx, hb, hml, hown, hts⟩ (c_X1_hasStretch l dC dI H.size r k t cA cB n cm wr K T hn x y) (cwV 2 hts gX2_split_X1_hasStretch rfl rfl rfl (by decide +kernel) ⟨Nat.le_of_ble_eq_true rfl, Nat.le_of_ble_eq_true rfl⟩) ⟨fun a U g mk q => by obtain ⟨q0, q1, qP, qK, qD⟩ := q; exact ⟨q0, q1, qP, va_K.moved (u := U) (U := U.calling g mk a) (Vm.Alike.refl U.vm) qK, qD⟩, va_recv hKc hPc (ci := 0) (q0 := 0) rfl rfl, fun U hU hW => ⟨rfl, by rw [hU], by rw [hU]; exact hPc, va_K.moved hW.alike hKc, hDc.weaken (fun _ _ _ _ => trivial)⟩⟩ rfl rfl hl.1 rfl (lv_room (Nat.le_of_ble_eq_true rfl)) dX2_split_14 ⟨Nat.le_of_ble_eq_true rfl, Nat.le_of_ble_eq_true rfl⟩) hS (fun q _ h => hFc q h) hFc (fun r_2 u tS H1 locs ht hvm hw hB hz1 hk1 hS => ?_)
    obtain ⟨hs, rfl⟩ := hw
    obtain ⟨hP1, hK1, hD1⟩ := hB
    rw [ht] at hP1
    obtain ⟨hP, hD⟩ := va_join (wr := [(h, .inr (1, [.ref r, .int lp, .int lc, .int lw]))]) (w1 := [(r, .inr (0, [.ref k, .ref t, .int (nI n), .int cm, .int wr])), (k, .inl (cA, 500, .inl K)), (t, .inl (cB, 500, .inl T))]) hP hD [1, 2, 3] [0] rfl rfl (by decide) (by decide) hk1 hFc hP1 hD1
    generalize H1 = H at hP hS ⊢
    have hP : va_P (dC, dI) vwCl [(h, .inr (1, [.ref r, .int lp, .int lc, .int lw])), (r, .inr (0, [.ref k, .ref t, .int (nI n), .int cm, .int wr])), (k, .inl (cA, 500, .inl K)), (t, .inl (cB, 500, .inl T))] H := hP
    have hD : va_D A [(h, .inr (1, [.ref r, .int lp, .int lc, .int lw])), (r, .inr (0, [.ref k, .ref t, .int (nI n), .int cm, .int wr])), (k, .inl (cA, 500, .inl K)), (t, .inl (cB, 500, .inl T))] := hD
    refine lv_if_ne (tgt := 22) hx hb dX2_split_17 (by decide) (fun c17 => ?_) (fun c17 => ?_)
    · obtain ⟨o1, ho, rfl⟩ := exO_of (tr_1 he c5)
      obtain ⟨a, b, rfl, rfl, hab, hbn⟩ := stP_of hn (tr_1 hs c17)
      have hb5 : b ≤ 500 := by omega
      refine lv_aload_n hx hb dX2_split_22 rfl (lv_at hl 0 rfl) ?_
      refine va_get (D := (dC, dI)) (ci := 1) (v := .ref r) (C := RX2) (T := TX2) (N := 4) hx hb hts (by decide +kernel) hown hK hP 0 rfl rfl 0 (by decide) (hts (.fieldLink RX2 10 "RowPress" "row" "LRowPress$Row;") (by decide +kernel)) (fun _ h9 => h9) rfl dX2_split_23 ?_
      refine lv_iload_n hx hb dX2_split_26 rfl (lv_at hl 1 rfl) ?_
      refine lv_iload_n hx hb dX2_split_27 rfl (lv_at hl 2 rfl) ?_
      refine lv_iload_n hx hb dX2_split_28 rfl (lv_at hl 3 rfl) ?_
      refine lv_iload hx hb dX2_split_29 (lv_at hl 4 rfl) ?_
      have hPc := hP.sub (ws' := [(r, .inr (0, [.ref k, .ref t, .int (nI n), .int cm, .int wr])), (k, .inl (cA, 500, .inl K)), (t, .inl (cB, 500, .inl T))]) [1, 2, 3] rfl
      have hDc := hD.sub (ws' := [(r, .inr (0, [.ref k, .ref t, .int (nI n), .int cm, .int wr])), (k, .inl (cA, 500, .inl K)), (t, .inl (cB, 500, .inl T))]) [1, 2, 3] (by decide) rfl
      have hKc := hK.sub (tys' := [(cA, .int), (cB, .int)]) [0, 1] rfl
      have hFc := va_free (wc := [(r, .inr (0, [.ref k, .ref t, .int (nI n), .int cm, .int wr])), (k, .inl (cA, 500, .inl K)), (t, .inl (cB, 500, .inl T))]) hD hS hA [1, 2, 3] rfl
      refine va_callv (va_runV (As := [.int (nI a), .int (nI b), .int v, .int (nI o1)]) (rest := []) ⟨hx, hb, hml, hown, hts⟩ (c_X1_splitInPlace l dC dI H.size r k t cA cB n cm wr K T a b v o1 hab hb5 ho) (cwV 4 hts gX2_split_X1_splitInPlace rfl rfl rfl (by decide +kernel) ⟨Nat.le_of_ble_eq_true rfl, Nat.le_of_ble_eq_true rfl⟩) ⟨fun a U g mk q => by obtain ⟨q0, q1, qP, qK, qD⟩ := q; exact ⟨q0, q1, qP, va_K.moved (u := U) (U := U.calling g mk a) (Vm.Alike.refl U.vm) qK, qD⟩, va_recv hKc hPc (ci := 0) (q0 := 0) rfl rfl, fun U hU hW => ⟨rfl, by rw [hU], by rw [hU]; exact hPc, va_K.moved hW.alike hKc, hDc.weaken (fun _ _ _ _ => trivial)⟩⟩ rfl rfl hl.1 rfl (lv_room (Nat.le_of_ble_eq_true rfl)) dX2_split_31 ⟨Nat.le_of_ble_eq_true rfl, Nat.le_of_ble_eq_true rfl⟩) hS (fun q _ h => hFc q h) hFc (fun u tS H1 locs ht hvm hw hB hz1 hk1 hS => ?_)
      obtain ⟨K1, T1, n1, e1, w1⟩ := u
      obtain ⟨zo, zs, zm, zn⟩ := hw
      dsimp only at zo zs zm zn
      subst zn
      obtain ⟨hP1, hK1, hD1⟩ := hB
      rw [ht] at hP1
      obtain ⟨hP, hD⟩ := va_join (wr := [(h, .inr (1, [.ref r, .int lp, .int lc, .int lw]))]) (w1 := [(r, .inr (0, [.ref k, .ref t, .int (nI n), .int e1, .int w1])), (k, .inl (cA, 500, .inl K1)), (t, .inl (cB, 500, .inl T1))]) hP hD [1, 2, 3] [0] rfl rfl (by decide) (by decide) hk1 hFc hP1 hD1
      generalize H1 = H at hP hS ⊢
      have hP : va_P (dC, dI) vwCl [(h, .inr (1, [.ref r, .int lp, .int lc, .int lw])), (r, .inr (0, [.ref k, .ref t, .int (nI n), .int e1, .int w1])), (k, .inl (cA, 500, .inl K1)), (t, .inl (cB, 500, .inl T1))] H := hP
      have hD : va_D A [(h, .inr (1, [.ref r, .int lp, .int lc, .int lw])), (r, .inr (0, [.ref k, .ref t, .int (nI n), .int e1, .int w1])), (k, .inl (cA, 500, .inl K1)), (t, .inl (cB, 500, .inl T1))] := hD
      refine lv_aload_n hx hb dX2_split_34 rfl (lv_at hl 0 rfl) ?_
      refine va_get (D := (dC, dI)) (ci := 1) (v := .ref r) (C := RX2) (T := TX2) (N := 4) hx hb hts (by decide +kernel) hown hK hP 0 rfl rfl 0 (by decide) (hts (.fieldLink RX2 10 "RowPress" "row" "LRowPress$Row;") (by decide +kernel)) (fun _ h9 => h9) rfl dX2_split_35 ?_
      refine lv_iload_n hx hb dX2_split_38 rfl (lv_at hl 1 rfl) ?_
      refine lv_iload_n hx hb dX2_split_39 rfl (lv_at hl 2 rfl) ?_
      refine lv_iload_n hx hb dX2_split_40 rfl (lv_at hl 3 rfl) ?_
      refine lv_iload hx hb dX2_split_41 (lv_at hl 4 rfl) ?_
      have hPc := hP.sub (ws' := [(r, .inr (0, [.ref k, .ref t, .int (nI n), .int e1, .int w1])), (k, .inl (cA, 500, .inl K1)), (t, .inl (cB, 500, .inl T1))]) [1, 2, 3] rfl
      have hDc := hD.sub (ws' := [(r, .inr (0, [.ref k, .ref t, .int (nI n), .int e1, .int w1])), (k, .inl (cA, 500, .inl K1)), (t, .inl (cB, 500, .inl T1))]) [1, 2, 3] (by decide) rfl
      have hKc := hK.sub (tys' := [(cA, .int), (cB, .int)]) [0, 1] rfl
      have hFc := va_free (wc := [(r, .inr (0, [.ref k, .ref t, .int (nI n), .int e1, .int w1])), (k, .inl (cA, 500, .inl K1)), (t, .inl (cB, 500, .inl T1))]) hD hS hA [1, 2, 3] rfl
      refine va_calli (va_runV (As := [.int (nI a), .int (nI b), .int v, .int (nI o1)]) (rest := []) ⟨hx, hb, hml, hown, hts⟩ (c_X1_countLess l dC dI H.size r k t cA cB n e1 w1 K1 T1 a b v o1 hab hb5 ho) (cwV 4 hts gX2_split_X1_countLess rfl rfl rfl (by decide +kernel) ⟨Nat.le_of_ble_eq_true rfl, Nat.le_of_ble_eq_true rfl⟩) ⟨fun a U g mk q => by obtain ⟨q0, q1, qP, qK, qD⟩ := q; exact ⟨q0, q1, qP, va_K.moved (u := U) (U := U.calling g mk a) (Vm.Alike.refl U.vm) qK, qD⟩, va_recv hKc hPc (ci := 0) (q0 := 0) rfl rfl, fun U hU hW => ⟨rfl, by rw [hU], by rw [hU]; exact hPc, va_K.moved hW.alike hKc, hDc.weaken (fun _ _ _ _ => trivial)⟩⟩ rfl rfl hl.1 rfl (lv_room (Nat.le_of_ble_eq_true rfl)) dX2_split_43 ⟨Nat.le_of_ble_eq_true rfl, Nat.le_of_ble_eq_true rfl⟩) hS (fun q _ h => hFc q h) hFc (fun r_4 u tS H1 locs ht hvm hw hB hz1 hk1 hS => ?_)
      obtain ⟨hq, rfl⟩ := hw
      obtain ⟨hP1, hK1, hD1⟩ := hB
      rw [ht] at hP1
      obtain ⟨hP, hD⟩ := va_join (wr := [(h, .inr (1, [.ref r, .int lp, .int lc, .int lw]))]) (w1 := [(r, .inr (0, [.ref k, .ref t, .int (nI n), .int e1, .int w1])), (k, .inl (cA, 500, .inl K1)), (t, .inl (cB, 500, .inl T1))]) hP hD [1, 2, 3] [0] rfl rfl (by decide) (by decide) hk1 hFc hP1 hD1
      generalize H1 = H at hP hS ⊢
      have hP : va_P (dC, dI) vwCl [(h, .inr (1, [.ref r, .int lp, .int lc, .int lw])), (r, .inr (0, [.ref k, .ref t, .int (nI n), .int e1, .int w1])), (k, .inl (cA, 500, .inl K1)), (t, .inl (cB, 500, .inl T1))] H := hP
      have hD : va_D A [(h, .inr (1, [.ref r, .int lp, .int lc, .int lw])), (r, .inr (0, [.ref k, .ref t, .int (nI n), .int e1, .int w1])), (k, .inl (cA, 500, .inl K1)), (t, .inl (cB, 500, .inl T1))] := hD
      exact W.iret (v := r_4) hx hb hr (fun tS ht hW => ⟨⟨r_4, (K1, T1, n, e1, w1, lp, lc, lw), rfl, ⟨Or.inr ⟨(a, b, o1), ⟨rfl, rfl, rfl, hab, hbn, ho⟩, hq.trans (congrArg nI (ps_cnt (f := mZ K T) (g := mZ K1 T1) zm)), rfl, soC_of zo zs zm⟩, ⟨hn, hck⟩⟩, by rw [ht]; exact hP, va_K.moved hW.alike hK, hD⟩, hS.F ht⟩) hS.2.2 dX2_split_46
    · refine lv_iconst (v := (-1)) hx hb dX2_split_20 (by decide) ?_
      exact W.iret (v := (-1)) hx hb hr (fun tS ht hW => ⟨⟨(-1), (K, T, n, cm, wr, lp, lc, lw), rfl, ⟨Or.inl ⟨⟨rfl, sam_rf⟩, fun z hz => tr_0 hs c17 (dS_e hn hz).2⟩, ⟨hn, hck⟩⟩, by rw [ht]; exact hP, va_K.moved hW.alike hK, hD⟩, hS.F ht⟩) hS.2.2 dX2_split_21
set_option maxHeartbeats 4000000 in
set_option maxRecDepth 100000 in
theorem c_X2_thin (l : Launch) (dC : Nat → ClassId) (dI : Nat → Nat → Nat) (sz : Nat) (h r k t : Nat) (cA cB : ClassId) (n : Nat) (cm wr lp lc lw : Int32) (K T : Nat → Int32) (hn : n ≤ 500) (hck : ckI lp lc lw) (o : Int32) : Met l yX2_thin wsX2_thin ({ frames := 3, cells := 0, slots := 0, locals := 69 }) (va_Pc [.ref h, .int o] (fun U => U.heap.size = sz ∧ va_P (dC, dI) vwCl [(h, .inr (1, [.ref r, .int lp, .int lc, .int lw])), (r, .inr (0, [.ref k, .ref t, .int (nI n), .int cm, .int wr])), (k, .inl (cA, 500, .inl K)), (t, .inl (cB, 500, .inl T))] U.heap ∧ va_K (dC, dI) vwCl [(cA, .int), (cB, .int)] U ∧ va_D (fun _ => True) [(h, .inr (1, [.ref r, .int lp, .int lc, .int lw])), (r, .inr (0, [.ref k, .ref t, .int (nI n), .int cm, .int wr])), (k, .inl (cA, 500, .inl K)), (t, .inl (cB, 500, .inl T))])) (va_Qi (fun r u => Qthi n (mZ K T) o r u.2.2.1 (mZ u.1 u.2.1) ∧ okU u) (atX dC dI (va_A [(h, .inr (1, [.ref r, .int lp, .int lc, .int lw])), (r, .inr (0, [.ref k, .ref t, .int (nI n), .int cm, .int wr])), (k, .inl (cA, 500, .inl K)), (t, .inl (cB, 500, .inl T))] sz) h r k t cA cB) (va_A [(h, .inr (1, [.ref r, .int lp, .int lc, .int lw])), (r, .inr (0, [.ref k, .ref t, .int (nI n), .int cm, .int wr])), (k, .inl (cA, 500, .inl K)), (t, .inl (cB, 500, .inl T))] sz)) 0 0 (va_A [(h, .inr (1, [.ref r, .int lp, .int lc, .int lw])), (r, .inr (0, [.ref k, .ref t, .int (nI n), .int cm, .int wr])), (k, .inl (cA, 500, .inl K)), (t, .inl (cB, 500, .inl T))] sz) := by
  refine Met.ofW (cc := cX2_thin) (maxL := 2) (ret := (some .int)) (by decide) rfl ?_
  intro p e s m args below meth c s₁ B hml hv
  obtain ⟨rfl, hsz, hP, hK, hD0⟩ := hv
  have hx := B.exec
  have hb := B.bytes
  have hr := B.returns
  have hts := atoms_spec (ws := wsX2_thin) B.pre
  have hown : s.vm.findClass RX2 = some m.cls := findClass_of_methodNamed B.named
  have hlocks := B.notSynchronized
  subst hsz
  have hD := hD0.self (sz := s.heap.size)
  generalize hAe : va_A [(h, .inr (1, [.ref r, .int lp, .int lc, .int lw])), (r, .inr (0, [.ref k, .ref t, .int (nI n), .int cm, .int wr])), (k, .inl (cA, 500, .inl K)), (t, .inl (cB, 500, .inl T))] s.heap.size = A at hD ⊢
  have hA : ∀ q : Nat, s.heap.size ≤ q → A q := fun q h => by rw [← hAe]; exact Or.inr h
  have hS : va_S A s.heap s.heap [] := va_S.rf
  have hP : va_P (dC, dI) vwCl [(h, .inr (1, [.ref r, .int lp, .int lc, .int lw])), (r, .inr (0, [.ref k, .ref t, .int (nI n), .int cm, .int wr])), (k, .inl (cA, 500, .inl K)), (t, .inl (cB, 500, .inl T))] s.heap := hP
  have hl := lv_entry ([.ref h, .int o]) (n := 2) (Nat.le_of_ble_eq_true rfl)
  rw [lg_entry_eq]
  generalize (lg_sl ([.ref h, .int o]) ++ List.replicate (2 - (lg_sl ([.ref h, .int o])).length) Slot.unset).toArray = ls at hl ⊢
  have hl : lv_has ls 2 [(0, .ref h), (1, .int o)] := hl
  refine lv_iload_n hx hb dX2_thin_0 rfl (lv_at hl 1 rfl) ?_
  have hPc := hP.sub (ws' := []) [] rfl
  have hDc := hD.sub (ws' := []) [] (by decide) rfl
  have hKc := hK.sub (tys' := []) [] rfl
  have hFc := va_free (wc := []) hD hS hA [] rfl
  refine va_calli (va_runS (As := [.int o]) (rest := []) ⟨hx, hb, hml, hown, hts⟩ (c_X0_exists l dC dI s.heap.size o) (va_cwS 1 hts gX2_thin_X0_exists rfl rfl rfl (by decide +kernel) ⟨Nat.le_of_ble_eq_true rfl, Nat.le_of_ble_eq_true rfl⟩) ⟨fun a U g mk q => by obtain ⟨q0, q1, qP, qK, qD⟩ := q; exact ⟨q0, q1, qP, va_K.moved (u := U) (U := U.calling g mk a) (Vm.Alike.refl U.vm) qK, qD⟩, fun U hU hW => ⟨rfl, by rw [hU], by rw [hU]; exact hPc, va_K.moved hW.alike hKc, hDc.weaken (fun _ _ _ _ => trivial)⟩⟩ rfl rfl hl.1 rfl (lv_room (Nat.le_of_ble_eq_true rfl)) dX2_thin_1 ⟨Nat.le_of_ble_eq_true rfl, Nat.le_of_ble_eq_true rfl⟩) hS (fun q _ h => hFc q h) hFc (fun r_1 u tS H1 locs ht hvm hw hB hz1 hk1 hS => ?_)
  have he := hw
  obtain ⟨hP1, hK1, hD1⟩ := hB
  rw [ht] at hP1
  obtain ⟨hP, hD⟩ := va_join (wr := [(h, .inr (1, [.ref r, .int lp, .int lc, .int lw])), (r, .inr (0, [.ref k, .ref t, .int (nI n), .int cm, .int wr])), (k, .inl (cA, 500, .inl K)), (t, .inl (cB, 500, .inl T))]) (w1 := []) hP hD [] [0, 1, 2, 3] rfl rfl (by decide) (by decide) hk1 hFc hP1 hD1
  generalize H1 = H at hP hS ⊢
  have hP : va_P (dC, dI) vwCl [(h, .inr (1, [.ref r, .int lp, .int lc, .int lw])), (r, .inr (0, [.ref k, .ref t, .int (nI n), .int cm, .int wr])), (k, .inl (cA, 500, .inl K)), (t, .inl (cB, 500, .inl T))] H := hP
  have hD : va_D A [(h, .inr (1, [.ref r, .int lp, .int lc, .int lw])), (r, .inr (0, [.ref k, .ref t, .int (nI n), .int cm, .int wr])), (k, .inl (cA, 500, .inl K)), (t, .inl (cB, 500, .inl T))] := hD
  refine lv_if_eq (tgt := 26) hx hb dX2_thin_4 (by decide) (fun c4 => ?_) (fun c4 => ?_)
  · refine lv_iconst (v := (-1)) hx hb dX2_thin_26 (by decide) ?_
    exact W.iret (v := (-1)) hx hb hr (fun tS ht hW => ⟨⟨(-1), (K, T, n, cm, wr, lp, lc, lw), rfl, ⟨Or.inl ⟨⟨rfl, sam_rf⟩, fun z hz => tr_0 he c4 (dO_e hz)⟩, ⟨hn, hck⟩⟩, by rw [ht]; exact hP, va_K.moved hW.alike hK, hD⟩, hS.F ht⟩) hS.2.2 dX2_thin_27
  · obtain ⟨o1, ho, rfl⟩ := exO_of (tr_1 he c4)
    refine lv_aload_n hx hb dX2_thin_7 rfl (lv_at hl 0 rfl) ?_
    refine va_get (D := (dC, dI)) (ci := 1) (v := .ref r) (C := RX2) (T := TX2) (N := 4) hx hb hts (by decide +kernel) hown hK hP 0 rfl rfl 0 (by decide) (hts (.fieldLink RX2 10 "RowPress" "row" "LRowPress$Row;") (by decide +kernel)) (fun _ h9 => h9) rfl dX2_thin_8 ?_
    refine lv_iconst (v := (nI 0)) hx hb dX2_thin_11 (by decide) ?_
    refine lv_aload_n hx hb dX2_thin_12 rfl (lv_at hl 0 rfl) ?_
    refine va_get (D := (dC, dI)) (ci := 1) (v := .ref r) (C := RX2) (T := TX2) (N := 4) hx hb hts (by decide +kernel) hown hK hP 0 rfl rfl 0 (by decide) (hts (.fieldLink RX2 10 "RowPress" "row" "LRowPress$Row;") (by decide +kernel)) (fun _ h9 => h9) rfl dX2_thin_13 ?_
    refine va_get (D := (dC, dI)) (ci := 0) (v := .int (nI n)) (C := RX1) (T := TX1) (N := 5) hx hb hts (by decide +kernel) hown hK hP 1 rfl rfl 2 (by decide) (hts (.fieldLink RX2 24 "RowPress$Row" "size" "I") (by decide +kernel)) (fun _ h9 => h9) rfl dX2_thin_16 ?_
    refine lv_iload_n hx hb dX2_thin_19 rfl (lv_at hl 1 rfl) ?_
    have hPc := hP.sub (ws' := [(r, .inr (0, [.ref k, .ref t, .int (nI n), .int cm, .int wr])), (k, .inl (cA, 500, .inl K)), (t, .inl (cB, 500, .inl T))]) [1, 2, 3] rfl
    have hDc := hD.sub (ws' := [(r, .inr (0, [.ref k, .ref t, .int (nI n), .int cm, .int wr])), (k, .inl (cA, 500, .inl K)), (t, .inl (cB, 500, .inl T))]) [1, 2, 3] (by decide) rfl
    have hKc := hK.sub (tys' := [(cA, .int), (cB, .int)]) [0, 1] rfl
    have hFc := va_free (wc := [(r, .inr (0, [.ref k, .ref t, .int (nI n), .int cm, .int wr])), (k, .inl (cA, 500, .inl K)), (t, .inl (cB, 500, .inl T))]) hD hS hA [1, 2, 3] rfl
    refine va_calli (va_runV (As := [.int (nI 0), .int (nI n), .int (nI o1)]) (rest := []) ⟨hx, hb, hml, hown, hts⟩ (c_X1_inOrder l dC dI H.size r k t cA cB n cm wr K T 0 n o1 (Nat.zero_le _) hn ho) (cwV 3 hts gX2_thin_X1_inOrder rfl rfl rfl (by decide +kernel) ⟨Nat.le_of_ble_eq_true rfl, Nat.le_of_ble_eq_true rfl⟩) ⟨fun a U g mk q => by obtain ⟨q0, q1, qP, qK, qD⟩ := q; exact ⟨q0, q1, qP, va_K.moved (u := U) (U := U.calling g mk a) (Vm.Alike.refl U.vm) qK, qD⟩, va_recv hKc hPc (ci := 0) (q0 := 0) rfl rfl, fun U hU hW => ⟨rfl, by rw [hU], by rw [hU]; exact hPc, va_K.moved hW.alike hKc, hDc.weaken (fun _ _ _ _ => trivial)⟩⟩ rfl rfl hl.1 rfl (lv_room (Nat.le_of_ble_eq_true rfl)) dX2_thin_20 ⟨Nat.le_of_ble_eq_true rfl, Nat.le_of_ble_eq_true rfl⟩) hS (fun q _ h => hFc q h) hFc (fun r_2 u tS H1 locs ht hvm hw hB hz1 hk1 hS => ?_)
    obtain ⟨hi, d1, hd1, rfl⟩ := hw
    obtain ⟨hP1, hK1, hD1⟩ := hB
    rw [ht] at hP1
    obtain ⟨hP, hD⟩ := va_join (wr := [(h, .inr (1, [.ref r, .int lp, .int lc, .int lw]))]) (w1 := [(r, .inr (0, [.ref k, .ref t, .int (nI n), .int (cm + nI d1), .int wr])), (k, .inl (cA, 500, .inl K)), (t, .inl (cB, 500, .inl T))]) hP hD [1, 2, 3] [0] rfl rfl (by decide) (by decide) hk1 hFc hP1 hD1
    generalize H1 = H at hP hS ⊢
    have hP : va_P (dC, dI) vwCl [(h, .inr (1, [.ref r, .int lp, .int lc, .int lw])), (r, .inr (0, [.ref k, .ref t, .int (nI n), .int (cm + nI d1), .int wr])), (k, .inl (cA, 500, .inl K)), (t, .inl (cB, 500, .inl T))] H := hP
    have hD : va_D A [(h, .inr (1, [.ref r, .int lp, .int lc, .int lw])), (r, .inr (0, [.ref k, .ref t, .int (nI n), .int (cm + nI d1), .int wr])), (k, .inl (cA, 500, .inl K)), (t, .inl (cB, 500, .inl T))] := hD
    refine lv_if_ne (tgt := 28) hx hb dX2_thin_23 (by decide) (fun c23 => ?_) (fun c23 => ?_)
    · refine lv_aload_n hx hb dX2_thin_28 rfl (lv_at hl 0 rfl) ?_
      refine va_get (D := (dC, dI)) (ci := 1) (v := .ref r) (C := RX2) (T := TX2) (N := 4) hx hb hts (by decide +kernel) hown hK hP 0 rfl rfl 0 (by decide) (hts (.fieldLink RX2 10 "RowPress" "row" "LRowPress$Row;") (by decide +kernel)) (fun _ h9 => h9) rfl dX2_thin_29 ?_
      refine lv_iload_n hx hb dX2_thin_32 rfl (lv_at hl 1 rfl) ?_
      have hPc := hP.sub (ws' := [(r, .inr (0, [.ref k, .ref t, .int (nI n), .int (cm + nI d1), .int wr])), (k, .inl (cA, 500, .inl K)), (t, .inl (cB, 500, .inl T))]) [1, 2, 3] rfl
      have hDc := hD.sub (ws' := [(r, .inr (0, [.ref k, .ref t, .int (nI n), .int (cm + nI d1), .int wr])), (k, .inl (cA, 500, .inl K)), (t, .inl (cB, 500, .inl T))]) [1, 2, 3] (by decide) rfl
      have hKc := hK.sub (tys' := [(cA, .int), (cB, .int)]) [0, 1] rfl
      have hFc := va_free (wc := [(r, .inr (0, [.ref k, .ref t, .int (nI n), .int (cm + nI d1), .int wr])), (k, .inl (cA, 500, .inl K)), (t, .inl (cB, 500, .inl T))]) hD hS hA [1, 2, 3] rfl
      refine va_callv (va_runV (As := [.int (nI o1)]) (rest := []) ⟨hx, hb, hml, hown, hts⟩ (c_X1_dropAlike l dC dI H.size r k t cA cB n (cm + nI d1) wr K T o1 hn ho (tr_1 hi c23)) (cwV 1 hts gX2_thin_X1_dropAlike rfl rfl rfl (by decide +kernel) ⟨Nat.le_of_ble_eq_true rfl, Nat.le_of_ble_eq_true rfl⟩) ⟨fun a U g mk q => by obtain ⟨q0, q1, qP, qK, qD⟩ := q; exact ⟨q0, q1, qP, va_K.moved (u := U) (U := U.calling g mk a) (Vm.Alike.refl U.vm) qK, qD⟩, va_recv hKc hPc (ci := 0) (q0 := 0) rfl rfl, fun U hU hW => ⟨rfl, by rw [hU], by rw [hU]; exact hPc, va_K.moved hW.alike hKc, hDc.weaken (fun _ _ _ _ => trivial)⟩⟩ rfl rfl hl.1 rfl (lv_room (Nat.le_of_ble_eq_true rfl)) dX2_thin_33 ⟨Nat.le_of_ble_eq_true rfl, Nat.le_of_ble_eq_true rfl⟩) hS (fun q _ h => hFc q h) hFc (fun u tS H1 locs ht hvm hw hB hz1 hk1 hS => ?_)
      obtain ⟨K1, T1, n1, e1, w1⟩ := u
      obtain ⟨z1, z2, z3⟩ := hw
      dsimp only at z1 z2 z3
      obtain ⟨hP1, hK1, hD1⟩ := hB
      rw [ht] at hP1
      obtain ⟨hP, hD⟩ := va_join (wr := [(h, .inr (1, [.ref r, .int lp, .int lc, .int lw]))]) (w1 := [(r, .inr (0, [.ref k, .ref t, .int (nI n1), .int e1, .int w1])), (k, .inl (cA, 500, .inl K1)), (t, .inl (cB, 500, .inl T1))]) hP hD [1, 2, 3] [0] rfl rfl (by decide) (by decide) hk1 hFc hP1 hD1
      generalize H1 = H at hP hS ⊢
      have hP : va_P (dC, dI) vwCl [(h, .inr (1, [.ref r, .int lp, .int lc, .int lw])), (r, .inr (0, [.ref k, .ref t, .int (nI n1), .int e1, .int w1])), (k, .inl (cA, 500, .inl K1)), (t, .inl (cB, 500, .inl T1))] H := hP
      have hD : va_D A [(h, .inr (1, [.ref r, .int lp, .int lc, .int lw])), (r, .inr (0, [.ref k, .ref t, .int (nI n1), .int e1, .int w1])), (k, .inl (cA, 500, .inl K1)), (t, .inl (cB, 500, .inl T1))] := hD
      refine lv_aload_n hx hb dX2_thin_36 rfl (lv_at hl 0 rfl) ?_
      refine va_get (D := (dC, dI)) (ci := 1) (v := .ref r) (C := RX2) (T := TX2) (N := 4) hx hb hts (by decide +kernel) hown hK hP 0 rfl rfl 0 (by decide) (hts (.fieldLink RX2 10 "RowPress" "row" "LRowPress$Row;") (by decide +kernel)) (fun _ h9 => h9) rfl dX2_thin_37 ?_
      refine va_get (D := (dC, dI)) (ci := 0) (v := .int (nI n1)) (C := RX1) (T := TX1) (N := 5) hx hb hts (by decide +kernel) hown hK hP 1 rfl rfl 2 (by decide) (hts (.fieldLink RX2 24 "RowPress$Row" "size" "I") (by decide +kernel)) (fun _ h9 => h9) rfl dX2_thin_40 ?_
      exact W.iret (v := (nI n1)) hx hb hr (fun tS ht hW => ⟨⟨(nI n1), (K1, T1, n1, e1, w1, lp, lc, lw), rfl, ⟨Or.inr ⟨o1, ⟨rfl, ho⟩, Or.inr ⟨tr_1 hi c23, rfl, z1, z3⟩⟩, ⟨by show n1 ≤ 500; omega, hck⟩⟩, by rw [ht]; exact hP, va_K.moved hW.alike hK, hD⟩, hS.F ht⟩) hS.2.2 dX2_thin_43
    · refine lv_iconst (v := (-1)) hx hb dX2_thin_26 (by decide) ?_
      exact W.iret (v := (-1)) hx hb hr (fun tS ht hW => ⟨⟨(-1), (K, T, n, (cm + nI d1), wr, lp, lc, lw), rfl, ⟨Or.inr ⟨o1, ⟨rfl, ho⟩, Or.inl ⟨tr_0 hi c23, rfl, sam_rf⟩⟩, ⟨hn, hck⟩⟩, by rw [ht]; exact hP, va_K.moved hW.alike hK, hD⟩, hS.F ht⟩) hS.2.2 dX2_thin_27
set_option maxHeartbeats 4000000 in
set_option maxRecDepth 100000 in
theorem c_X2_sorted (l : Launch) (dC : Nat → ClassId) (dI : Nat → Nat → Nat) (sz : Nat) (h r k t : Nat) (cA cB : ClassId) (n : Nat) (cm wr lp lc lw : Int32) (K T : Nat → Int32) (hn : n ≤ 500) (hck : ckI lp lc lw) (x y o : Int32) : Met l yX2_sorted wsX2_sorted ({ frames := 3, cells := 0, slots := 0, locals := 69 }) (va_Pc [.ref h, .int x, .int y, .int o] (fun U => U.heap.size = sz ∧ va_P (dC, dI) vwCl [(h, .inr (1, [.ref r, .int lp, .int lc, .int lw])), (r, .inr (0, [.ref k, .ref t, .int (nI n), .int cm, .int wr])), (k, .inl (cA, 500, .inl K)), (t, .inl (cB, 500, .inl T))] U.heap ∧ va_K (dC, dI) vwCl [(cA, .int), (cB, .int)] U ∧ va_D (fun _ => True) [(h, .inr (1, [.ref r, .int lp, .int lc, .int lw])), (r, .inr (0, [.ref k, .ref t, .int (nI n), .int cm, .int wr])), (k, .inl (cA, 500, .inl K)), (t, .inl (cB, 500, .inl T))])) (va_Qi (fun r u => Qsrd n (mZ K T) x y o r ∧ (u.2.2.1 = n ∧ mZ u.1 u.2.1 = mZ K T) ∧ okU u) (atX dC dI (va_A [(h, .inr (1, [.ref r, .int lp, .int lc, .int lw])), (r, .inr (0, [.ref k, .ref t, .int (nI n), .int cm, .int wr])), (k, .inl (cA, 500, .inl K)), (t, .inl (cB, 500, .inl T))] sz) h r k t cA cB) (va_A [(h, .inr (1, [.ref r, .int lp, .int lc, .int lw])), (r, .inr (0, [.ref k, .ref t, .int (nI n), .int cm, .int wr])), (k, .inl (cA, 500, .inl K)), (t, .inl (cB, 500, .inl T))] sz)) 0 0 (va_A [(h, .inr (1, [.ref r, .int lp, .int lc, .int lw])), (r, .inr (0, [.ref k, .ref t, .int (nI n), .int cm, .int wr])), (k, .inl (cA, 500, .inl K)), (t, .inl (cB, 500, .inl T))] sz) := by
  refine Met.ofW (cc := cX2_sorted) (maxL := 4) (ret := (some .int)) (by decide) rfl ?_
  intro p e s m args below meth c s₁ B hml hv
  obtain ⟨rfl, hsz, hP, hK, hD0⟩ := hv
  have hx := B.exec
  have hb := B.bytes
  have hr := B.returns
  have hts := atoms_spec (ws := wsX2_sorted) B.pre
  have hown : s.vm.findClass RX2 = some m.cls := findClass_of_methodNamed B.named
  have hlocks := B.notSynchronized
  subst hsz
  have hD := hD0.self (sz := s.heap.size)
  generalize hAe : va_A [(h, .inr (1, [.ref r, .int lp, .int lc, .int lw])), (r, .inr (0, [.ref k, .ref t, .int (nI n), .int cm, .int wr])), (k, .inl (cA, 500, .inl K)), (t, .inl (cB, 500, .inl T))] s.heap.size = A at hD ⊢
  have hA : ∀ q : Nat, s.heap.size ≤ q → A q := fun q h => by rw [← hAe]; exact Or.inr h
  have hS : va_S A s.heap s.heap [] := va_S.rf
  have hP : va_P (dC, dI) vwCl [(h, .inr (1, [.ref r, .int lp, .int lc, .int lw])), (r, .inr (0, [.ref k, .ref t, .int (nI n), .int cm, .int wr])), (k, .inl (cA, 500, .inl K)), (t, .inl (cB, 500, .inl T))] s.heap := hP
  have hl := lv_entry ([.ref h, .int x, .int y, .int o]) (n := 4) (Nat.le_of_ble_eq_true rfl)
  rw [lg_entry_eq]
  generalize (lg_sl ([.ref h, .int x, .int y, .int o]) ++ List.replicate (4 - (lg_sl ([.ref h, .int x, .int y, .int o])).length) Slot.unset).toArray = ls at hl ⊢
  have hl : lv_has ls 4 [(0, .ref h), (1, .int x), (2, .int y), (3, .int o)] := hl
  refine lv_iload_n hx hb dX2_sorted_0 rfl (lv_at hl 3 rfl) ?_
  have hPc := hP.sub (ws' := []) [] rfl
  have hDc := hD.sub (ws' := []) [] (by decide) rfl
  have hKc := hK.sub (tys' := []) [] rfl
  have hFc := va_free (wc := []) hD hS hA [] rfl
  refine va_calli (va_runS (As := [.int o]) (rest := []) ⟨hx, hb, hml, hown, hts⟩ (c_X0_exists l dC dI s.heap.size o) (va_cwS 1 hts gX2_sorted_X0_exists rfl rfl rfl (by decide +kernel) ⟨Nat.le_of_ble_eq_true rfl, Nat.le_of_ble_eq_true rfl⟩) ⟨fun a U g mk q => by obtain ⟨q0, q1, qP, qK, qD⟩ := q; exact ⟨q0, q1, qP, va_K.moved (u := U) (U := U.calling g mk a) (Vm.Alike.refl U.vm) qK, qD⟩, fun U hU hW => ⟨rfl, by rw [hU], by rw [hU]; exact hPc, va_K.moved hW.alike hKc, hDc.weaken (fun _ _ _ _ => trivial)⟩⟩ rfl rfl hl.1 rfl (lv_room (Nat.le_of_ble_eq_true rfl)) dX2_sorted_1 ⟨Nat.le_of_ble_eq_true rfl, Nat.le_of_ble_eq_true rfl⟩) hS (fun q _ h => hFc q h) hFc (fun r_1 u tS H1 locs ht hvm hw hB hz1 hk1 hS => ?_)
  have he := hw
  obtain ⟨hP1, hK1, hD1⟩ := hB
  rw [ht] at hP1
  obtain ⟨hP, hD⟩ := va_join (wr := [(h, .inr (1, [.ref r, .int lp, .int lc, .int lw])), (r, .inr (0, [.ref k, .ref t, .int (nI n), .int cm, .int wr])), (k, .inl (cA, 500, .inl K)), (t, .inl (cB, 500, .inl T))]) (w1 := []) hP hD [] [0, 1, 2, 3] rfl rfl (by decide) (by decide) hk1 hFc hP1 hD1
  generalize H1 = H at hP hS ⊢
  have hP : va_P (dC, dI) vwCl [(h, .inr (1, [.ref r, .int lp, .int lc, .int lw])), (r, .inr (0, [.ref k, .ref t, .int (nI n), .int cm, .int wr])), (k, .inl (cA, 500, .inl K)), (t, .inl (cB, 500, .inl T))] H := hP
  have hD : va_D A [(h, .inr (1, [.ref r, .int lp, .int lc, .int lw])), (r, .inr (0, [.ref k, .ref t, .int (nI n), .int cm, .int wr])), (k, .inl (cA, 500, .inl K)), (t, .inl (cB, 500, .inl T))] := hD
  refine lv_if_eq (tgt := 19) hx hb dX2_sorted_4 (by decide) (fun c4 => ?_) (fun c4 => ?_)
  · refine lv_iconst (v := (-1)) hx hb dX2_sorted_19 (by decide) ?_
    exact W.iret (v := (-1)) hx hb hr (fun tS ht hW => ⟨⟨(-1), (K, T, n, cm, wr, lp, lc, lw), rfl, ⟨Or.inl ⟨rfl, fun z hz => tr_0 he c4 (dS_e hn hz).1⟩, ⟨rfl, rfl⟩, ⟨hn, hck⟩⟩, by rw [ht]; exact hP, va_K.moved hW.alike hK, hD⟩, hS.F ht⟩) hS.2.2 dX2_sorted_20
  · refine lv_aload_n hx hb dX2_sorted_7 rfl (lv_at hl 0 rfl) ?_
    refine va_get (D := (dC, dI)) (ci := 1) (v := .ref r) (C := RX2) (T := TX2) (N := 4) hx hb hts (by decide +kernel) hown hK hP 0 rfl rfl 0 (by decide) (hts (.fieldLink RX2 10 "RowPress" "row" "LRowPress$Row;") (by decide +kernel)) (fun _ h9 => h9) rfl dX2_sorted_8 ?_
    refine lv_iload_n hx hb dX2_sorted_11 rfl (lv_at hl 1 rfl) ?_
    refine lv_iload_n hx hb dX2_sorted_12 rfl (lv_at hl 2 rfl) ?_
    have hPc := hP.sub (ws' := [(r, .inr (0, [.ref k, .ref t, .int (nI n), .int cm, .int wr])), (k, .inl (cA, 500, .inl K)), (t, .inl (cB, 500, .inl T))]) [1, 2, 3] rfl
    have hDc := hD.sub (ws' := [(r, .inr (0, [.ref k, .ref t, .int (nI n), .int cm, .int wr])), (k, .inl (cA, 500, .inl K)), (t, .inl (cB, 500, .inl T))]) [1, 2, 3] (by decide) rfl
    have hKc := hK.sub (tys' := [(cA, .int), (cB, .int)]) [0, 1] rfl
    have hFc := va_free (wc := [(r, .inr (0, [.ref k, .ref t, .int (nI n), .int cm, .int wr])), (k, .inl (cA, 500, .inl K)), (t, .inl (cB, 500, .inl T))]) hD hS hA [1, 2, 3] rfl
    refine va_calli (va_runV (As := [.int x, .int y]) (rest := []) ⟨hx, hb, hml, hown, hts⟩ (c_X1_hasStretch l dC dI H.size r k t cA cB n cm wr K T hn x y) (cwV 2 hts gX2_sorted_X1_hasStretch rfl rfl rfl (by decide +kernel) ⟨Nat.le_of_ble_eq_true rfl, Nat.le_of_ble_eq_true rfl⟩) ⟨fun a U g mk q => by obtain ⟨q0, q1, qP, qK, qD⟩ := q; exact ⟨q0, q1, qP, va_K.moved (u := U) (U := U.calling g mk a) (Vm.Alike.refl U.vm) qK, qD⟩, va_recv hKc hPc (ci := 0) (q0 := 0) rfl rfl, fun U hU hW => ⟨rfl, by rw [hU], by rw [hU]; exact hPc, va_K.moved hW.alike hKc, hDc.weaken (fun _ _ _ _ => trivial)⟩⟩ rfl rfl hl.1 rfl (lv_room (Nat.le_of_ble_eq_true rfl)) dX2_sorted_13 ⟨Nat.le_of_ble_eq_true rfl, Nat.le_of_ble_eq_true rfl⟩) hS (fun q _ h => hFc q h) hFc (fun r_2 u tS H1 locs ht hvm hw hB hz1 hk1 hS => ?_)
    obtain ⟨hs, rfl⟩ := hw
    obtain ⟨hP1, hK1, hD1⟩ := hB
    rw [ht] at hP1
    obtain ⟨hP, hD⟩ := va_join (wr := [(h, .inr (1, [.ref r, .int lp, .int lc, .int lw]))]) (w1 := [(r, .inr (0, [.ref k, .ref t, .int (nI n), .int cm, .int wr])), (k, .inl (cA, 500, .inl K)), (t, .inl (cB, 500, .inl T))]) hP hD [1, 2, 3] [0] rfl rfl (by decide) (by decide) hk1 hFc hP1 hD1
    generalize H1 = H at hP hS ⊢
    have hP : va_P (dC, dI) vwCl [(h, .inr (1, [.ref r, .int lp, .int lc, .int lw])), (r, .inr (0, [.ref k, .ref t, .int (nI n), .int cm, .int wr])), (k, .inl (cA, 500, .inl K)), (t, .inl (cB, 500, .inl T))] H := hP
    have hD : va_D A [(h, .inr (1, [.ref r, .int lp, .int lc, .int lw])), (r, .inr (0, [.ref k, .ref t, .int (nI n), .int cm, .int wr])), (k, .inl (cA, 500, .inl K)), (t, .inl (cB, 500, .inl T))] := hD
    refine lv_if_ne (tgt := 21) hx hb dX2_sorted_16 (by decide) (fun c16 => ?_) (fun c16 => ?_)
    · obtain ⟨o1, ho, rfl⟩ := exO_of (tr_1 he c4)
      obtain ⟨a, b, rfl, rfl, hab, hbn⟩ := stP_of hn (tr_1 hs c16)
      have hb5 : b ≤ 500 := by omega
      refine lv_aload_n hx hb dX2_sorted_21 rfl (lv_at hl 0 rfl) ?_
      refine va_get (D := (dC, dI)) (ci := 1) (v := .ref r) (C := RX2) (T := TX2) (N := 4) hx hb hts (by decide +kernel) hown hK hP 0 rfl rfl 0 (by decide) (hts (.fieldLink RX2 10 "RowPress" "row" "LRowPress$Row;") (by decide +kernel)) (fun _ h9 => h9) rfl dX2_sorted_22 ?_
      refine lv_iload_n hx hb dX2_sorted_25 rfl (lv_at hl 1 rfl) ?_
      refine lv_iload_n hx hb dX2_sorted_26 rfl (lv_at hl 2 rfl) ?_
      refine lv_iload_n hx hb dX2_sorted_27 rfl (lv_at hl 3 rfl) ?_
      have hPc := hP.sub (ws' := [(r, .inr (0, [.ref k, .ref t, .int (nI n), .int cm, .int wr])), (k, .inl (cA, 500, .inl K)), (t, .inl (cB, 500, .inl T))]) [1, 2, 3] rfl
      have hDc := hD.sub (ws' := [(r, .inr (0, [.ref k, .ref t, .int (nI n), .int cm, .int wr])), (k, .inl (cA, 500, .inl K)), (t, .inl (cB, 500, .inl T))]) [1, 2, 3] (by decide) rfl
      have hKc := hK.sub (tys' := [(cA, .int), (cB, .int)]) [0, 1] rfl
      have hFc := va_free (wc := [(r, .inr (0, [.ref k, .ref t, .int (nI n), .int cm, .int wr])), (k, .inl (cA, 500, .inl K)), (t, .inl (cB, 500, .inl T))]) hD hS hA [1, 2, 3] rfl
      refine va_calli (va_runV (As := [.int (nI a), .int (nI b), .int (nI o1)]) (rest := []) ⟨hx, hb, hml, hown, hts⟩ (c_X1_inOrder l dC dI H.size r k t cA cB n cm wr K T a b o1 (by omega) (by omega) ho) (cwV 3 hts gX2_sorted_X1_inOrder rfl rfl rfl (by decide +kernel) ⟨Nat.le_of_ble_eq_true rfl, Nat.le_of_ble_eq_true rfl⟩) ⟨fun a U g mk q => by obtain ⟨q0, q1, qP, qK, qD⟩ := q; exact ⟨q0, q1, qP, va_K.moved (u := U) (U := U.calling g mk a) (Vm.Alike.refl U.vm) qK, qD⟩, va_recv hKc hPc (ci := 0) (q0 := 0) rfl rfl, fun U hU hW => ⟨rfl, by rw [hU], by rw [hU]; exact hPc, va_K.moved hW.alike hKc, hDc.weaken (fun _ _ _ _ => trivial)⟩⟩ rfl rfl hl.1 rfl (lv_room (Nat.le_of_ble_eq_true rfl)) dX2_sorted_28 ⟨Nat.le_of_ble_eq_true rfl, Nat.le_of_ble_eq_true rfl⟩) hS (fun q _ h => hFc q h) hFc (fun r_3 u tS H1 locs ht hvm hw hB hz1 hk1 hS => ?_)
      obtain ⟨hi, d1, hd1, rfl⟩ := hw
      obtain ⟨hP1, hK1, hD1⟩ := hB
      rw [ht] at hP1
      obtain ⟨hP, hD⟩ := va_join (wr := [(h, .inr (1, [.ref r, .int lp, .int lc, .int lw]))]) (w1 := [(r, .inr (0, [.ref k, .ref t, .int (nI n), .int (cm + nI d1), .int wr])), (k, .inl (cA, 500, .inl K)), (t, .inl (cB, 500, .inl T))]) hP hD [1, 2, 3] [0] rfl rfl (by decide) (by decide) hk1 hFc hP1 hD1
      generalize H1 = H at hP hS ⊢
      have hP : va_P (dC, dI) vwCl [(h, .inr (1, [.ref r, .int lp, .int lc, .int lw])), (r, .inr (0, [.ref k, .ref t, .int (nI n), .int (cm + nI d1), .int wr])), (k, .inl (cA, 500, .inl K)), (t, .inl (cB, 500, .inl T))] H := hP
      have hD : va_D A [(h, .inr (1, [.ref r, .int lp, .int lc, .int lw])), (r, .inr (0, [.ref k, .ref t, .int (nI n), .int (cm + nI d1), .int wr])), (k, .inl (cA, 500, .inl K)), (t, .inl (cB, 500, .inl T))] := hD
      refine lv_if_eq (tgt := 38) hx hb dX2_sorted_31 (by decide) (fun c31 => ?_) (fun c31 => ?_)
      · refine lv_iconst (v := (nI 0)) hx hb dX2_sorted_38 (by decide) ?_
        exact W.iret (v := (nI 0)) hx hb hr (fun tS ht hW => ⟨⟨(nI 0), (K, T, n, (cm + nI d1), wr, lp, lc, lw), rfl, ⟨Or.inr ⟨(a, b, o1), ⟨rfl, rfl, rfl, hab, hbn, ho⟩, tr_f (tr_0 hi c31)⟩, ⟨rfl, rfl⟩, ⟨hn, hck⟩⟩, by rw [ht]; exact hP, va_K.moved hW.alike hK, hD⟩, hS.F ht⟩) hS.2.2 dX2_sorted_39
      · refine lv_iconst (v := (nI 1)) hx hb dX2_sorted_34 (by decide) ?_
        refine lv_goto (tgt := 39) hx hb dX2_sorted_35 (by decide) ?_
        exact W.iret (v := (nI 1)) hx hb hr (fun tS ht hW => ⟨⟨(nI 1), (K, T, n, (cm + nI d1), wr, lp, lc, lw), rfl, ⟨Or.inr ⟨(a, b, o1), ⟨rfl, rfl, rfl, hab, hbn, ho⟩, tr_t (tr_1 hi c31)⟩, ⟨rfl, rfl⟩, ⟨hn, hck⟩⟩, by rw [ht]; exact hP, va_K.moved hW.alike hK, hD⟩, hS.F ht⟩) hS.2.2 dX2_sorted_39
    · refine lv_iconst (v := (-1)) hx hb dX2_sorted_19 (by decide) ?_
      exact W.iret (v := (-1)) hx hb hr (fun tS ht hW => ⟨⟨(-1), (K, T, n, cm, wr, lp, lc, lw), rfl, ⟨Or.inl ⟨rfl, fun z hz => tr_0 hs c16 (dS_e hn hz).2⟩, ⟨rfl, rfl⟩, ⟨hn, hck⟩⟩, by rw [ht]; exact hP, va_K.moved hW.alike hK, hD⟩, hS.F ht⟩) hS.2.2 dX2_sorted_20
set_option maxHeartbeats 4000000 in
set_option maxRecDepth 100000 in
theorem c_X2_find (l : Launch) (dC : Nat → ClassId) (dI : Nat → Nat → Nat) (sz : Nat) (h r k t : Nat) (cA cB : ClassId) (n : Nat) (cm wr lp lc lw : Int32) (K T : Nat → Int32) (hn : n ≤ 500) (hck : ckI lp lc lw) (x o w : Int32) : Met l yX2_find wsX2_find ({ frames := 3, cells := 0, slots := 0, locals := 69 }) (va_Pc [.ref h, .int x, .int o, .int w] (fun U => U.heap.size = sz ∧ va_P (dC, dI) vwCl [(h, .inr (1, [.ref r, .int lp, .int lc, .int lw])), (r, .inr (0, [.ref k, .ref t, .int (nI n), .int cm, .int wr])), (k, .inl (cA, 500, .inl K)), (t, .inl (cB, 500, .inl T))] U.heap ∧ va_K (dC, dI) vwCl [(cA, .int), (cB, .int)] U ∧ va_D (fun _ => True) [(h, .inr (1, [.ref r, .int lp, .int lc, .int lw])), (r, .inr (0, [.ref k, .ref t, .int (nI n), .int cm, .int wr])), (k, .inl (cA, 500, .inl K)), (t, .inl (cB, 500, .inl T))])) (va_Qi (fun r u => Qfin n (mZ K T) x o w r ∧ (u.2.2.1 = n ∧ mZ u.1 u.2.1 = mZ K T) ∧ okU u) (atX dC dI (va_A [(h, .inr (1, [.ref r, .int lp, .int lc, .int lw])), (r, .inr (0, [.ref k, .ref t, .int (nI n), .int cm, .int wr])), (k, .inl (cA, 500, .inl K)), (t, .inl (cB, 500, .inl T))] sz) h r k t cA cB) (va_A [(h, .inr (1, [.ref r, .int lp, .int lc, .int lw])), (r, .inr (0, [.ref k, .ref t, .int (nI n), .int cm, .int wr])), (k, .inl (cA, 500, .inl K)), (t, .inl (cB, 500, .inl T))] sz)) 0 0 (va_A [(h, .inr (1, [.ref r, .int lp, .int lc, .int lw])), (r, .inr (0, [.ref k, .ref t, .int (nI n), .int cm, .int wr])), (k, .inl (cA, 500, .inl K)), (t, .inl (cB, 500, .inl T))] sz) := by
  refine Met.ofW (cc := cX2_find) (maxL := 5) (ret := (some .int)) (by decide) rfl ?_
  intro p e s m args below meth c s₁ B hml hv
  obtain ⟨rfl, hsz, hP, hK, hD0⟩ := hv
  have hx := B.exec
  have hb := B.bytes
  have hr := B.returns
  have hts := atoms_spec (ws := wsX2_find) B.pre
  have hown : s.vm.findClass RX2 = some m.cls := findClass_of_methodNamed B.named
  have hlocks := B.notSynchronized
  subst hsz
  have hD := hD0.self (sz := s.heap.size)
  generalize hAe : va_A [(h, .inr (1, [.ref r, .int lp, .int lc, .int lw])), (r, .inr (0, [.ref k, .ref t, .int (nI n), .int cm, .int wr])), (k, .inl (cA, 500, .inl K)), (t, .inl (cB, 500, .inl T))] s.heap.size = A at hD ⊢
  have hA : ∀ q : Nat, s.heap.size ≤ q → A q := fun q h => by rw [← hAe]; exact Or.inr h
  have hS : va_S A s.heap s.heap [] := va_S.rf
  have hP : va_P (dC, dI) vwCl [(h, .inr (1, [.ref r, .int lp, .int lc, .int lw])), (r, .inr (0, [.ref k, .ref t, .int (nI n), .int cm, .int wr])), (k, .inl (cA, 500, .inl K)), (t, .inl (cB, 500, .inl T))] s.heap := hP
  have hl := lv_entry ([.ref h, .int x, .int o, .int w]) (n := 5) (Nat.le_of_ble_eq_true rfl)
  rw [lg_entry_eq]
  generalize (lg_sl ([.ref h, .int x, .int o, .int w]) ++ List.replicate (5 - (lg_sl ([.ref h, .int x, .int o, .int w])).length) Slot.unset).toArray = ls at hl ⊢
  have hl : lv_has ls 5 [(0, .ref h), (1, .int x), (2, .int o), (3, .int w)] := hl
  refine lv_iload_n hx hb dX2_find_0 rfl (lv_at hl 3 rfl) ?_
  refine lv_if_eq (tgt := 9) hx hb dX2_find_1 (by decide) (fun c1 => ?_) (fun c1 => ?_)
  · refine lv_iconst (v := (nI 1)) hx hb dX2_find_9 (by decide) ?_
    refine lv_goto (tgt := 14) hx hb dX2_find_10 (by decide) ?_
    refine lv_istore (lv' := [(4, .int (nI 1)), (0, .ref h), (1, .int x), (2, .int o), (3, .int w)]) hx hb dX2_find_14 hl (by decide) rfl (fun ls hl => ?_)
    refine lv_iload hx hb dX2_find_16 (lv_at hl 0 rfl) ?_
    refine lz_if_eq (tgt := 47) (by omega) hx hb dX2_find_18 (by decide) (fun c18 => ?_) (fun c18 => ?_)
    · exact absurd c18 (by decide)
    · refine lv_iload_n hx hb dX2_find_21 rfl (lv_at hl 3 rfl) ?_
      have hPc := hP.sub (ws' := []) [] rfl
      have hDc := hD.sub (ws' := []) [] (by decide) rfl
      have hKc := hK.sub (tys' := []) [] rfl
      have hFc := va_free (wc := []) hD hS hA [] rfl
      refine va_calli (va_runS (As := [.int o]) (rest := []) ⟨hx, hb, hml, hown, hts⟩ (c_X0_exists l dC dI s.heap.size o) (va_cwS 1 hts gX2_find_X0_exists rfl rfl rfl (by decide +kernel) ⟨Nat.le_of_ble_eq_true rfl, Nat.le_of_ble_eq_true rfl⟩) ⟨fun a U g mk q => by obtain ⟨q0, q1, qP, qK, qD⟩ := q; exact ⟨q0, q1, qP, va_K.moved (u := U) (U := U.calling g mk a) (Vm.Alike.refl U.vm) qK, qD⟩, fun U hU hW => ⟨rfl, by rw [hU], by rw [hU]; exact hPc, va_K.moved hW.alike hKc, hDc.weaken (fun _ _ _ _ => trivial)⟩⟩ rfl rfl hl.1 rfl (lv_room (Nat.le_of_ble_eq_true rfl)) dX2_find_22 ⟨Nat.le_of_ble_eq_true rfl, Nat.le_of_ble_eq_true rfl⟩) hS (fun q _ h => hFc q h) hFc (fun r_1 u tS H1 locs ht hvm hw hB hz1 hk1 hS => ?_)
      have he := hw
      obtain ⟨hP1, hK1, hD1⟩ := hB
      rw [ht] at hP1
      obtain ⟨hP, hD⟩ := va_join (wr := [(h, .inr (1, [.ref r, .int lp, .int lc, .int lw])), (r, .inr (0, [.ref k, .ref t, .int (nI n), .int cm, .int wr])), (k, .inl (cA, 500, .inl K)), (t, .inl (cB, 500, .inl T))]) (w1 := []) hP hD [] [0, 1, 2, 3] rfl rfl (by decide) (by decide) hk1 hFc hP1 hD1
      generalize H1 = H at hP hS ⊢
      have hP : va_P (dC, dI) vwCl [(h, .inr (1, [.ref r, .int lp, .int lc, .int lw])), (r, .inr (0, [.ref k, .ref t, .int (nI n), .int cm, .int wr])), (k, .inl (cA, 500, .inl K)), (t, .inl (cB, 500, .inl T))] H := hP
      have hD : va_D A [(h, .inr (1, [.ref r, .int lp, .int lc, .int lw])), (r, .inr (0, [.ref k, .ref t, .int (nI n), .int cm, .int wr])), (k, .inl (cA, 500, .inl K)), (t, .inl (cB, 500, .inl T))] := hD
      refine lv_if_eq (tgt := 47) hx hb dX2_find_25 (by decide) (fun c25 => ?_) (fun c25 => ?_)
      · refine lv_iconst (v := (-1)) hx hb dX2_find_47 (by decide) ?_
        exact W.iret (v := (-1)) hx hb hr (fun tS ht hW => ⟨⟨(-1), (K, T, n, cm, wr, lp, lc, lw), rfl, ⟨Or.inl ⟨rfl, fun z hz => tr_0 he c25 (dF_e hz).1⟩, ⟨rfl, rfl⟩, ⟨hn, hck⟩⟩, by rw [ht]; exact hP, va_K.moved hW.alike hK, hD⟩, hS.F ht⟩) hS.2.2 dX2_find_48
      · obtain ⟨o1, ho, rfl⟩ := exO_of (tr_1 he c25)
        refine lv_aload_n hx hb dX2_find_28 rfl (lv_at hl 1 rfl) ?_
        refine va_get (D := (dC, dI)) (ci := 1) (v := .ref r) (C := RX2) (T := TX2) (N := 4) hx hb hts (by decide +kernel) hown hK hP 0 rfl rfl 0 (by decide) (hts (.fieldLink RX2 10 "RowPress" "row" "LRowPress$Row;") (by decide +kernel)) (fun _ h9 => h9) rfl dX2_find_29 ?_
        refine lv_iconst (v := (nI 0)) hx hb dX2_find_32 (by decide) ?_
        refine lv_aload_n hx hb dX2_find_33 rfl (lv_at hl 1 rfl) ?_
        refine va_get (D := (dC, dI)) (ci := 1) (v := .ref r) (C := RX2) (T := TX2) (N := 4) hx hb hts (by decide +kernel) hown hK hP 0 rfl rfl 0 (by decide) (hts (.fieldLink RX2 10 "RowPress" "row" "LRowPress$Row;") (by decide +kernel)) (fun _ h9 => h9) rfl dX2_find_34 ?_
        refine va_get (D := (dC, dI)) (ci := 0) (v := .int (nI n)) (C := RX1) (T := TX1) (N := 5) hx hb hts (by decide +kernel) hown hK hP 1 rfl rfl 2 (by decide) (hts (.fieldLink RX2 24 "RowPress$Row" "size" "I") (by decide +kernel)) (fun _ h9 => h9) rfl dX2_find_37 ?_
        refine lv_iload_n hx hb dX2_find_40 rfl (lv_at hl 3 rfl) ?_
        have hPc := hP.sub (ws' := [(r, .inr (0, [.ref k, .ref t, .int (nI n), .int cm, .int wr])), (k, .inl (cA, 500, .inl K)), (t, .inl (cB, 500, .inl T))]) [1, 2, 3] rfl
        have hDc := hD.sub (ws' := [(r, .inr (0, [.ref k, .ref t, .int (nI n), .int cm, .int wr])), (k, .inl (cA, 500, .inl K)), (t, .inl (cB, 500, .inl T))]) [1, 2, 3] (by decide) rfl
        have hKc := hK.sub (tys' := [(cA, .int), (cB, .int)]) [0, 1] rfl
        have hFc := va_free (wc := [(r, .inr (0, [.ref k, .ref t, .int (nI n), .int cm, .int wr])), (k, .inl (cA, 500, .inl K)), (t, .inl (cB, 500, .inl T))]) hD hS hA [1, 2, 3] rfl
        refine va_calli (va_runV (As := [.int (nI 0), .int (nI n), .int (nI o1)]) (rest := []) ⟨hx, hb, hml, hown, hts⟩ (c_X1_inOrder l dC dI H.size r k t cA cB n cm wr K T 0 n o1 (Nat.zero_le _) hn ho) (cwV 3 hts gX2_find_X1_inOrder rfl rfl rfl (by decide +kernel) ⟨Nat.le_of_ble_eq_true rfl, Nat.le_of_ble_eq_true rfl⟩) ⟨fun a U g mk q => by obtain ⟨q0, q1, qP, qK, qD⟩ := q; exact ⟨q0, q1, qP, va_K.moved (u := U) (U := U.calling g mk a) (Vm.Alike.refl U.vm) qK, qD⟩, va_recv hKc hPc (ci := 0) (q0 := 0) rfl rfl, fun U hU hW => ⟨rfl, by rw [hU], by rw [hU]; exact hPc, va_K.moved hW.alike hKc, hDc.weaken (fun _ _ _ _ => trivial)⟩⟩ rfl rfl hl.1 rfl (lv_room (Nat.le_of_ble_eq_true rfl)) dX2_find_41 ⟨Nat.le_of_ble_eq_true rfl, Nat.le_of_ble_eq_true rfl⟩) hS (fun q _ h => hFc q h) hFc (fun r_2 u tS H1 locs ht hvm hw hB hz1 hk1 hS => ?_)
        obtain ⟨hi, d1, hd1, rfl⟩ := hw
        obtain ⟨hP1, hK1, hD1⟩ := hB
        rw [ht] at hP1
        obtain ⟨hP, hD⟩ := va_join (wr := [(h, .inr (1, [.ref r, .int lp, .int lc, .int lw]))]) (w1 := [(r, .inr (0, [.ref k, .ref t, .int (nI n), .int (cm + nI d1), .int wr])), (k, .inl (cA, 500, .inl K)), (t, .inl (cB, 500, .inl T))]) hP hD [1, 2, 3] [0] rfl rfl (by decide) (by decide) hk1 hFc hP1 hD1
        generalize H1 = H at hP hS ⊢
        have hP : va_P (dC, dI) vwCl [(h, .inr (1, [.ref r, .int lp, .int lc, .int lw])), (r, .inr (0, [.ref k, .ref t, .int (nI n), .int (cm + nI d1), .int wr])), (k, .inl (cA, 500, .inl K)), (t, .inl (cB, 500, .inl T))] H := hP
        have hD : va_D A [(h, .inr (1, [.ref r, .int lp, .int lc, .int lw])), (r, .inr (0, [.ref k, .ref t, .int (nI n), .int (cm + nI d1), .int wr])), (k, .inl (cA, 500, .inl K)), (t, .inl (cB, 500, .inl T))] := hD
        refine lv_if_ne (tgt := 49) hx hb dX2_find_44 (by decide) (fun c44 => ?_) (fun c44 => ?_)
        · refine lv_iload_n hx hb dX2_find_49 rfl (lv_at hl 4 rfl) ?_
          refine lv_if_ne (tgt := 73) hx hb dX2_find_50 (by decide) (fun c50 => ?_) (fun c50 => ?_)
          · exact absurd c1 c50
          · refine lv_aload_n hx hb dX2_find_53 rfl (lv_at hl 1 rfl) ?_
            refine va_get (D := (dC, dI)) (ci := 1) (v := .ref r) (C := RX2) (T := TX2) (N := 4) hx hb hts (by decide +kernel) hown hK hP 0 rfl rfl 0 (by decide) (hts (.fieldLink RX2 10 "RowPress" "row" "LRowPress$Row;") (by decide +kernel)) (fun _ h9 => h9) rfl dX2_find_54 ?_
            refine lv_iconst (v := (nI 0)) hx hb dX2_find_57 (by decide) ?_
            refine lv_aload_n hx hb dX2_find_58 rfl (lv_at hl 1 rfl) ?_
            refine va_get (D := (dC, dI)) (ci := 1) (v := .ref r) (C := RX2) (T := TX2) (N := 4) hx hb hts (by decide +kernel) hown hK hP 0 rfl rfl 0 (by decide) (hts (.fieldLink RX2 10 "RowPress" "row" "LRowPress$Row;") (by decide +kernel)) (fun _ h9 => h9) rfl dX2_find_59 ?_
            refine va_get (D := (dC, dI)) (ci := 0) (v := .int (nI n)) (C := RX1) (T := TX1) (N := 5) hx hb hts (by decide +kernel) hown hK hP 1 rfl rfl 2 (by decide) (hts (.fieldLink RX2 24 "RowPress$Row" "size" "I") (by decide +kernel)) (fun _ h9 => h9) rfl dX2_find_62 ?_
            refine lv_iload_n hx hb dX2_find_65 rfl (lv_at hl 2 rfl) ?_
            refine lv_iload_n hx hb dX2_find_66 rfl (lv_at hl 3 rfl) ?_
            have hPc := hP.sub (ws' := [(r, .inr (0, [.ref k, .ref t, .int (nI n), .int (cm + nI d1), .int wr])), (k, .inl (cA, 500, .inl K)), (t, .inl (cB, 500, .inl T))]) [1, 2, 3] rfl
            have hDc := hD.sub (ws' := [(r, .inr (0, [.ref k, .ref t, .int (nI n), .int (cm + nI d1), .int wr])), (k, .inl (cA, 500, .inl K)), (t, .inl (cB, 500, .inl T))]) [1, 2, 3] (by decide) rfl
            have hKc := hK.sub (tys' := [(cA, .int), (cB, .int)]) [0, 1] rfl
            have hFc := va_free (wc := [(r, .inr (0, [.ref k, .ref t, .int (nI n), .int (cm + nI d1), .int wr])), (k, .inl (cA, 500, .inl K)), (t, .inl (cB, 500, .inl T))]) hD hS hA [1, 2, 3] rfl
            refine va_calli (va_runV (As := [.int (nI 0), .int (nI n), .int x, .int (nI o1)]) (rest := []) ⟨hx, hb, hml, hown, hts⟩ (c_X1_countLess l dC dI H.size r k t cA cB n (cm + nI d1) wr K T 0 n x o1 (Nat.zero_le _) hn ho) (cwV 4 hts gX2_find_X1_countLess rfl rfl rfl (by decide +kernel) ⟨Nat.le_of_ble_eq_true rfl, Nat.le_of_ble_eq_true rfl⟩) ⟨fun a U g mk q => by obtain ⟨q0, q1, qP, qK, qD⟩ := q; exact ⟨q0, q1, qP, va_K.moved (u := U) (U := U.calling g mk a) (Vm.Alike.refl U.vm) qK, qD⟩, va_recv hKc hPc (ci := 0) (q0 := 0) rfl rfl, fun U hU hW => ⟨rfl, by rw [hU], by rw [hU]; exact hPc, va_K.moved hW.alike hKc, hDc.weaken (fun _ _ _ _ => trivial)⟩⟩ rfl rfl hl.1 rfl (lv_room (Nat.le_of_ble_eq_true rfl)) dX2_find_67 ⟨Nat.le_of_ble_eq_true rfl, Nat.le_of_ble_eq_true rfl⟩) hS (fun q _ h => hFc q h) hFc (fun r_3 u tS H1 locs ht hvm hw hB hz1 hk1 hS => ?_)
            obtain ⟨hq, rfl⟩ := hw
            obtain ⟨hP1, hK1, hD1⟩ := hB
            rw [ht] at hP1
            obtain ⟨hP, hD⟩ := va_join (wr := [(h, .inr (1, [.ref r, .int lp, .int lc, .int lw]))]) (w1 := [(r, .inr (0, [.ref k, .ref t, .int (nI n), .int (cm + nI d1), .int wr])), (k, .inl (cA, 500, .inl K)), (t, .inl (cB, 500, .inl T))]) hP hD [1, 2, 3] [0] rfl rfl (by decide) (by decide) hk1 hFc hP1 hD1
            generalize H1 = H at hP hS ⊢
            have hP : va_P (dC, dI) vwCl [(h, .inr (1, [.ref r, .int lp, .int lc, .int lw])), (r, .inr (0, [.ref k, .ref t, .int (nI n), .int (cm + nI d1), .int wr])), (k, .inl (cA, 500, .inl K)), (t, .inl (cB, 500, .inl T))] H := hP
            have hD : va_D A [(h, .inr (1, [.ref r, .int lp, .int lc, .int lw])), (r, .inr (0, [.ref k, .ref t, .int (nI n), .int (cm + nI d1), .int wr])), (k, .inl (cA, 500, .inl K)), (t, .inl (cB, 500, .inl T))] := hD
            refine lv_goto (tgt := 90) hx hb dX2_find_70 (by decide) ?_
            exact W.iret (v := r_3) hx hb hr (fun tS ht hW => ⟨⟨r_3, (K, T, n, (cm + nI d1), wr, lp, lc, lw), rfl, ⟨Or.inr ⟨(o1, 0), ⟨rfl, c1.trans nI_0.symm, ho, show (0 : Nat) < 2 by decide⟩, Or.inr ⟨tr_1 hi c44, fun _ => hq, fun z => absurd z (show ¬ (0 : Nat) = 1 by decide)⟩⟩, ⟨rfl, rfl⟩, ⟨hn, hck⟩⟩, by rw [ht]; exact hP, va_K.moved hW.alike hK, hD⟩, hS.F ht⟩) hS.2.2 dX2_find_90
        · refine lv_iconst (v := (-1)) hx hb dX2_find_47 (by decide) ?_
          exact W.iret (v := (-1)) hx hb hr (fun tS ht hW => ⟨⟨(-1), (K, T, n, (cm + nI d1), wr, lp, lc, lw), rfl, ⟨Or.inr ⟨(o1, 0), ⟨rfl, c1.trans nI_0.symm, ho, show (0 : Nat) < 2 by decide⟩, Or.inl ⟨tr_0 hi c44, rfl⟩⟩, ⟨rfl, rfl⟩, ⟨hn, hck⟩⟩, by rw [ht]; exact hP, va_K.moved hW.alike hK, hD⟩, hS.F ht⟩) hS.2.2 dX2_find_48
  · refine lv_iload_n hx hb dX2_find_4 rfl (lv_at hl 3 rfl) ?_
    refine lv_iconst (v := (nI 1)) hx hb dX2_find_5 (by decide) ?_
    refine lv_icmp_ne (tgt := 13) hx hb dX2_find_6 (by decide) (fun c6 => ?_) (fun c6 => ?_)
    · refine lv_iconst (v := (nI 0)) hx hb dX2_find_13 (by decide) ?_
      refine lv_istore (lv' := [(4, .int (nI 0)), (0, .ref h), (1, .int x), (2, .int o), (3, .int w)]) hx hb dX2_find_14 hl (by decide) rfl (fun ls hl => ?_)
      refine lv_iload hx hb dX2_find_16 (lv_at hl 0 rfl) ?_
      refine lz_if_eq (tgt := 47) (by omega) hx hb dX2_find_18 (by decide) (fun c18 => ?_) (fun c18 => ?_)
      · refine lv_iconst (v := (-1)) hx hb dX2_find_47 (by decide) ?_
        exact W.iret (v := (-1)) hx hb hr (fun tS ht hW => ⟨⟨(-1), (K, T, n, cm, wr, lp, lc, lw), rfl, ⟨Or.inl ⟨rfl, fun z hz => (dF_e hz).2.elim c1 c6⟩, ⟨rfl, rfl⟩, ⟨hn, hck⟩⟩, by rw [ht]; exact hP, va_K.moved hW.alike hK, hD⟩, hS.F ht⟩) hS.2.2 dX2_find_48
      · exact absurd rfl c18
    · refine lv_iconst (v := (nI 1)) hx hb dX2_find_9 (by decide) ?_
      refine lv_goto (tgt := 14) hx hb dX2_find_10 (by decide) ?_
      refine lv_istore (lv' := [(4, .int (nI 1)), (0, .ref h), (1, .int x), (2, .int o), (3, .int w)]) hx hb dX2_find_14 hl (by decide) rfl (fun ls hl => ?_)
      refine lv_iload hx hb dX2_find_16 (lv_at hl 0 rfl) ?_
      refine lz_if_eq (tgt := 47) (by omega) hx hb dX2_find_18 (by decide) (fun c18 => ?_) (fun c18 => ?_)
      · exact absurd c18 (by decide)
      · refine lv_iload_n hx hb dX2_find_21 rfl (lv_at hl 3 rfl) ?_
        have hPc := hP.sub (ws' := []) [] rfl
        have hDc := hD.sub (ws' := []) [] (by decide) rfl
        have hKc := hK.sub (tys' := []) [] rfl
        have hFc := va_free (wc := []) hD hS hA [] rfl
        refine va_calli (va_runS (As := [.int o]) (rest := []) ⟨hx, hb, hml, hown, hts⟩ (c_X0_exists l dC dI s.heap.size o) (va_cwS 1 hts gX2_find_X0_exists rfl rfl rfl (by decide +kernel) ⟨Nat.le_of_ble_eq_true rfl, Nat.le_of_ble_eq_true rfl⟩) ⟨fun a U g mk q => by obtain ⟨q0, q1, qP, qK, qD⟩ := q; exact ⟨q0, q1, qP, va_K.moved (u := U) (U := U.calling g mk a) (Vm.Alike.refl U.vm) qK, qD⟩, fun U hU hW => ⟨rfl, by rw [hU], by rw [hU]; exact hPc, va_K.moved hW.alike hKc, hDc.weaken (fun _ _ _ _ => trivial)⟩⟩ rfl rfl hl.1 rfl (lv_room (Nat.le_of_ble_eq_true rfl)) dX2_find_22 ⟨Nat.le_of_ble_eq_true rfl, Nat.le_of_ble_eq_true rfl⟩) hS (fun q _ h => hFc q h) hFc (fun r_4 u tS H1 locs ht hvm hw hB hz1 hk1 hS => ?_)
        have he := hw
        obtain ⟨hP1, hK1, hD1⟩ := hB
        rw [ht] at hP1
        obtain ⟨hP, hD⟩ := va_join (wr := [(h, .inr (1, [.ref r, .int lp, .int lc, .int lw])), (r, .inr (0, [.ref k, .ref t, .int (nI n), .int cm, .int wr])), (k, .inl (cA, 500, .inl K)), (t, .inl (cB, 500, .inl T))]) (w1 := []) hP hD [] [0, 1, 2, 3] rfl rfl (by decide) (by decide) hk1 hFc hP1 hD1
        generalize H1 = H at hP hS ⊢
        have hP : va_P (dC, dI) vwCl [(h, .inr (1, [.ref r, .int lp, .int lc, .int lw])), (r, .inr (0, [.ref k, .ref t, .int (nI n), .int cm, .int wr])), (k, .inl (cA, 500, .inl K)), (t, .inl (cB, 500, .inl T))] H := hP
        have hD : va_D A [(h, .inr (1, [.ref r, .int lp, .int lc, .int lw])), (r, .inr (0, [.ref k, .ref t, .int (nI n), .int cm, .int wr])), (k, .inl (cA, 500, .inl K)), (t, .inl (cB, 500, .inl T))] := hD
        refine lv_if_eq (tgt := 47) hx hb dX2_find_25 (by decide) (fun c25 => ?_) (fun c25 => ?_)
        · refine lv_iconst (v := (-1)) hx hb dX2_find_47 (by decide) ?_
          exact W.iret (v := (-1)) hx hb hr (fun tS ht hW => ⟨⟨(-1), (K, T, n, cm, wr, lp, lc, lw), rfl, ⟨Or.inl ⟨rfl, fun z hz => tr_0 he c25 (dF_e hz).1⟩, ⟨rfl, rfl⟩, ⟨hn, hck⟩⟩, by rw [ht]; exact hP, va_K.moved hW.alike hK, hD⟩, hS.F ht⟩) hS.2.2 dX2_find_48
        · obtain ⟨o1, ho, rfl⟩ := exO_of (tr_1 he c25)
          refine lv_aload_n hx hb dX2_find_28 rfl (lv_at hl 1 rfl) ?_
          refine va_get (D := (dC, dI)) (ci := 1) (v := .ref r) (C := RX2) (T := TX2) (N := 4) hx hb hts (by decide +kernel) hown hK hP 0 rfl rfl 0 (by decide) (hts (.fieldLink RX2 10 "RowPress" "row" "LRowPress$Row;") (by decide +kernel)) (fun _ h9 => h9) rfl dX2_find_29 ?_
          refine lv_iconst (v := (nI 0)) hx hb dX2_find_32 (by decide) ?_
          refine lv_aload_n hx hb dX2_find_33 rfl (lv_at hl 1 rfl) ?_
          refine va_get (D := (dC, dI)) (ci := 1) (v := .ref r) (C := RX2) (T := TX2) (N := 4) hx hb hts (by decide +kernel) hown hK hP 0 rfl rfl 0 (by decide) (hts (.fieldLink RX2 10 "RowPress" "row" "LRowPress$Row;") (by decide +kernel)) (fun _ h9 => h9) rfl dX2_find_34 ?_
          refine va_get (D := (dC, dI)) (ci := 0) (v := .int (nI n)) (C := RX1) (T := TX1) (N := 5) hx hb hts (by decide +kernel) hown hK hP 1 rfl rfl 2 (by decide) (hts (.fieldLink RX2 24 "RowPress$Row" "size" "I") (by decide +kernel)) (fun _ h9 => h9) rfl dX2_find_37 ?_
          refine lv_iload_n hx hb dX2_find_40 rfl (lv_at hl 3 rfl) ?_
          have hPc := hP.sub (ws' := [(r, .inr (0, [.ref k, .ref t, .int (nI n), .int cm, .int wr])), (k, .inl (cA, 500, .inl K)), (t, .inl (cB, 500, .inl T))]) [1, 2, 3] rfl
          have hDc := hD.sub (ws' := [(r, .inr (0, [.ref k, .ref t, .int (nI n), .int cm, .int wr])), (k, .inl (cA, 500, .inl K)), (t, .inl (cB, 500, .inl T))]) [1, 2, 3] (by decide) rfl
          have hKc := hK.sub (tys' := [(cA, .int), (cB, .int)]) [0, 1] rfl
          have hFc := va_free (wc := [(r, .inr (0, [.ref k, .ref t, .int (nI n), .int cm, .int wr])), (k, .inl (cA, 500, .inl K)), (t, .inl (cB, 500, .inl T))]) hD hS hA [1, 2, 3] rfl
          refine va_calli (va_runV (As := [.int (nI 0), .int (nI n), .int (nI o1)]) (rest := []) ⟨hx, hb, hml, hown, hts⟩ (c_X1_inOrder l dC dI H.size r k t cA cB n cm wr K T 0 n o1 (Nat.zero_le _) hn ho) (cwV 3 hts gX2_find_X1_inOrder rfl rfl rfl (by decide +kernel) ⟨Nat.le_of_ble_eq_true rfl, Nat.le_of_ble_eq_true rfl⟩) ⟨fun a U g mk q => by obtain ⟨q0, q1, qP, qK, qD⟩ := q; exact ⟨q0, q1, qP, va_K.moved (u := U) (U := U.calling g mk a) (Vm.Alike.refl U.vm) qK, qD⟩, va_recv hKc hPc (ci := 0) (q0 := 0) rfl rfl, fun U hU hW => ⟨rfl, by rw [hU], by rw [hU]; exact hPc, va_K.moved hW.alike hKc, hDc.weaken (fun _ _ _ _ => trivial)⟩⟩ rfl rfl hl.1 rfl (lv_room (Nat.le_of_ble_eq_true rfl)) dX2_find_41 ⟨Nat.le_of_ble_eq_true rfl, Nat.le_of_ble_eq_true rfl⟩) hS (fun q _ h => hFc q h) hFc (fun r_5 u tS H1 locs ht hvm hw hB hz1 hk1 hS => ?_)
          obtain ⟨hi, d1, hd1, rfl⟩ := hw
          obtain ⟨hP1, hK1, hD1⟩ := hB
          rw [ht] at hP1
          obtain ⟨hP, hD⟩ := va_join (wr := [(h, .inr (1, [.ref r, .int lp, .int lc, .int lw]))]) (w1 := [(r, .inr (0, [.ref k, .ref t, .int (nI n), .int (cm + nI d1), .int wr])), (k, .inl (cA, 500, .inl K)), (t, .inl (cB, 500, .inl T))]) hP hD [1, 2, 3] [0] rfl rfl (by decide) (by decide) hk1 hFc hP1 hD1
          generalize H1 = H at hP hS ⊢
          have hP : va_P (dC, dI) vwCl [(h, .inr (1, [.ref r, .int lp, .int lc, .int lw])), (r, .inr (0, [.ref k, .ref t, .int (nI n), .int (cm + nI d1), .int wr])), (k, .inl (cA, 500, .inl K)), (t, .inl (cB, 500, .inl T))] H := hP
          have hD : va_D A [(h, .inr (1, [.ref r, .int lp, .int lc, .int lw])), (r, .inr (0, [.ref k, .ref t, .int (nI n), .int (cm + nI d1), .int wr])), (k, .inl (cA, 500, .inl K)), (t, .inl (cB, 500, .inl T))] := hD
          refine lv_if_ne (tgt := 49) hx hb dX2_find_44 (by decide) (fun c44 => ?_) (fun c44 => ?_)
          · refine lv_iload_n hx hb dX2_find_49 rfl (lv_at hl 4 rfl) ?_
            refine lv_if_ne (tgt := 73) hx hb dX2_find_50 (by decide) (fun c50 => ?_) (fun c50 => ?_)
            · refine lv_aload_n hx hb dX2_find_73 rfl (lv_at hl 1 rfl) ?_
              refine va_get (D := (dC, dI)) (ci := 1) (v := .ref r) (C := RX2) (T := TX2) (N := 4) hx hb hts (by decide +kernel) hown hK hP 0 rfl rfl 0 (by decide) (hts (.fieldLink RX2 10 "RowPress" "row" "LRowPress$Row;") (by decide +kernel)) (fun _ h9 => h9) rfl dX2_find_74 ?_
              refine lv_iconst (v := (nI 0)) hx hb dX2_find_77 (by decide) ?_
              refine lv_aload_n hx hb dX2_find_78 rfl (lv_at hl 1 rfl) ?_
              refine va_get (D := (dC, dI)) (ci := 1) (v := .ref r) (C := RX2) (T := TX2) (N := 4) hx hb hts (by decide +kernel) hown hK hP 0 rfl rfl 0 (by decide) (hts (.fieldLink RX2 10 "RowPress" "row" "LRowPress$Row;") (by decide +kernel)) (fun _ h9 => h9) rfl dX2_find_79 ?_
              refine va_get (D := (dC, dI)) (ci := 0) (v := .int (nI n)) (C := RX1) (T := TX1) (N := 5) hx hb hts (by decide +kernel) hown hK hP 1 rfl rfl 2 (by decide) (hts (.fieldLink RX2 24 "RowPress$Row" "size" "I") (by decide +kernel)) (fun _ h9 => h9) rfl dX2_find_82 ?_
              refine lv_iload_n hx hb dX2_find_85 rfl (lv_at hl 2 rfl) ?_
              refine lv_iload_n hx hb dX2_find_86 rfl (lv_at hl 3 rfl) ?_
              have hPc := hP.sub (ws' := [(r, .inr (0, [.ref k, .ref t, .int (nI n), .int (cm + nI d1), .int wr])), (k, .inl (cA, 500, .inl K)), (t, .inl (cB, 500, .inl T))]) [1, 2, 3] rfl
              have hDc := hD.sub (ws' := [(r, .inr (0, [.ref k, .ref t, .int (nI n), .int (cm + nI d1), .int wr])), (k, .inl (cA, 500, .inl K)), (t, .inl (cB, 500, .inl T))]) [1, 2, 3] (by decide) rfl
              have hKc := hK.sub (tys' := [(cA, .int), (cB, .int)]) [0, 1] rfl
              have hFc := va_free (wc := [(r, .inr (0, [.ref k, .ref t, .int (nI n), .int (cm + nI d1), .int wr])), (k, .inl (cA, 500, .inl K)), (t, .inl (cB, 500, .inl T))]) hD hS hA [1, 2, 3] rfl
              refine va_calli (va_runV (As := [.int (nI 0), .int (nI n), .int x, .int (nI o1)]) (rest := []) ⟨hx, hb, hml, hown, hts⟩ (c_X1_countNotMore l dC dI H.size r k t cA cB n (cm + nI d1) wr K T 0 n x o1 (Nat.zero_le _) hn ho) (cwV 4 hts gX2_find_X1_countNotMore rfl rfl rfl (by decide +kernel) ⟨Nat.le_of_ble_eq_true rfl, Nat.le_of_ble_eq_true rfl⟩) ⟨fun a U g mk q => by obtain ⟨q0, q1, qP, qK, qD⟩ := q; exact ⟨q0, q1, qP, va_K.moved (u := U) (U := U.calling g mk a) (Vm.Alike.refl U.vm) qK, qD⟩, va_recv hKc hPc (ci := 0) (q0 := 0) rfl rfl, fun U hU hW => ⟨rfl, by rw [hU], by rw [hU]; exact hPc, va_K.moved hW.alike hKc, hDc.weaken (fun _ _ _ _ => trivial)⟩⟩ rfl rfl hl.1 rfl (lv_room (Nat.le_of_ble_eq_true rfl)) dX2_find_87 ⟨Nat.le_of_ble_eq_true rfl, Nat.le_of_ble_eq_true rfl⟩) hS (fun q _ h => hFc q h) hFc (fun r_6 u tS H1 locs ht hvm hw hB hz1 hk1 hS => ?_)
              obtain ⟨hq, rfl⟩ := hw
              obtain ⟨hP1, hK1, hD1⟩ := hB
              rw [ht] at hP1
              obtain ⟨hP, hD⟩ := va_join (wr := [(h, .inr (1, [.ref r, .int lp, .int lc, .int lw]))]) (w1 := [(r, .inr (0, [.ref k, .ref t, .int (nI n), .int (cm + nI d1), .int wr])), (k, .inl (cA, 500, .inl K)), (t, .inl (cB, 500, .inl T))]) hP hD [1, 2, 3] [0] rfl rfl (by decide) (by decide) hk1 hFc hP1 hD1
              generalize H1 = H at hP hS ⊢
              have hP : va_P (dC, dI) vwCl [(h, .inr (1, [.ref r, .int lp, .int lc, .int lw])), (r, .inr (0, [.ref k, .ref t, .int (nI n), .int (cm + nI d1), .int wr])), (k, .inl (cA, 500, .inl K)), (t, .inl (cB, 500, .inl T))] H := hP
              have hD : va_D A [(h, .inr (1, [.ref r, .int lp, .int lc, .int lw])), (r, .inr (0, [.ref k, .ref t, .int (nI n), .int (cm + nI d1), .int wr])), (k, .inl (cA, 500, .inl K)), (t, .inl (cB, 500, .inl T))] := hD
              exact W.iret (v := r_6) hx hb hr (fun tS ht hW => ⟨⟨r_6, (K, T, n, (cm + nI d1), wr, lp, lc, lw), rfl, ⟨Or.inr ⟨(o1, 1), ⟨rfl, c6, ho, show (1 : Nat) < 2 by decide⟩, Or.inr ⟨tr_1 hi c44, fun z => absurd z (show ¬ (1 : Nat) = 0 by decide), fun _ => hq⟩⟩, ⟨rfl, rfl⟩, ⟨hn, hck⟩⟩, by rw [ht]; exact hP, va_K.moved hW.alike hK, hD⟩, hS.F ht⟩) hS.2.2 dX2_find_90
            · exact absurd c50 (by rw [c6]; decide)
          · refine lv_iconst (v := (-1)) hx hb dX2_find_47 (by decide) ?_
            exact W.iret (v := (-1)) hx hb hr (fun tS ht hW => ⟨⟨(-1), (K, T, n, (cm + nI d1), wr, lp, lc, lw), rfl, ⟨Or.inr ⟨(o1, 1), ⟨rfl, c6, ho, show (1 : Nat) < 2 by decide⟩, Or.inl ⟨tr_0 hi c44, rfl⟩⟩, ⟨rfl, rfl⟩, ⟨hn, hck⟩⟩, by rw [ht]; exact hP, va_K.moved hW.alike hK, hD⟩, hS.F ht⟩) hS.2.2 dX2_find_48
set_option maxHeartbeats 4000000 in
set_option maxRecDepth 100000 in
theorem c_X2_rank (l : Launch) (dC : Nat → ClassId) (dI : Nat → Nat → Nat) (sz : Nat) (h r k t : Nat) (cA cB : ClassId) (n : Nat) (cm wr lp lc lw : Int32) (K T : Nat → Int32) (hn : n ≤ 500) (hck : ckI lp lc lw) (x o : Int32) : Met l yX2_rank wsX2_rank ({ frames := 2, cells := 0, slots := 0, locals := 48 }) (va_Pc [.ref h, .int x, .int o] (fun U => U.heap.size = sz ∧ va_P (dC, dI) vwCl [(h, .inr (1, [.ref r, .int lp, .int lc, .int lw])), (r, .inr (0, [.ref k, .ref t, .int (nI n), .int cm, .int wr])), (k, .inl (cA, 500, .inl K)), (t, .inl (cB, 500, .inl T))] U.heap ∧ va_K (dC, dI) vwCl [(cA, .int), (cB, .int)] U ∧ va_D (fun _ => True) [(h, .inr (1, [.ref r, .int lp, .int lc, .int lw])), (r, .inr (0, [.ref k, .ref t, .int (nI n), .int cm, .int wr])), (k, .inl (cA, 500, .inl K)), (t, .inl (cB, 500, .inl T))])) (va_Qi (fun r u => Qran n (mZ K T) x o r ∧ (u.2.2.1 = n ∧ mZ u.1 u.2.1 = mZ K T) ∧ okU u) (atX dC dI (va_A [(h, .inr (1, [.ref r, .int lp, .int lc, .int lw])), (r, .inr (0, [.ref k, .ref t, .int (nI n), .int cm, .int wr])), (k, .inl (cA, 500, .inl K)), (t, .inl (cB, 500, .inl T))] sz) h r k t cA cB) (va_A [(h, .inr (1, [.ref r, .int lp, .int lc, .int lw])), (r, .inr (0, [.ref k, .ref t, .int (nI n), .int cm, .int wr])), (k, .inl (cA, 500, .inl K)), (t, .inl (cB, 500, .inl T))] sz)) 0 0 (va_A [(h, .inr (1, [.ref r, .int lp, .int lc, .int lw])), (r, .inr (0, [.ref k, .ref t, .int (nI n), .int cm, .int wr])), (k, .inl (cA, 500, .inl K)), (t, .inl (cB, 500, .inl T))] sz) := by
  refine Met.ofW (cc := cX2_rank) (maxL := 4) (ret := (some .int)) (by decide) rfl ?_
  intro p e s m args below meth c s₁ B hml hv
  obtain ⟨rfl, hsz, hP, hK, hD0⟩ := hv
  have hx := B.exec
  have hb := B.bytes
  have hr := B.returns
  have hts := atoms_spec (ws := wsX2_rank) B.pre
  have hown : s.vm.findClass RX2 = some m.cls := findClass_of_methodNamed B.named
  have hlocks := B.notSynchronized
  subst hsz
  have hD := hD0.self (sz := s.heap.size)
  generalize hAe : va_A [(h, .inr (1, [.ref r, .int lp, .int lc, .int lw])), (r, .inr (0, [.ref k, .ref t, .int (nI n), .int cm, .int wr])), (k, .inl (cA, 500, .inl K)), (t, .inl (cB, 500, .inl T))] s.heap.size = A at hD ⊢
  have hA : ∀ q : Nat, s.heap.size ≤ q → A q := fun q h => by rw [← hAe]; exact Or.inr h
  have hS : va_S A s.heap s.heap [] := va_S.rf
  have hP : va_P (dC, dI) vwCl [(h, .inr (1, [.ref r, .int lp, .int lc, .int lw])), (r, .inr (0, [.ref k, .ref t, .int (nI n), .int cm, .int wr])), (k, .inl (cA, 500, .inl K)), (t, .inl (cB, 500, .inl T))] s.heap := hP
  have hl := lv_entry ([.ref h, .int x, .int o]) (n := 4) (Nat.le_of_ble_eq_true rfl)
  rw [lg_entry_eq]
  generalize (lg_sl ([.ref h, .int x, .int o]) ++ List.replicate (4 - (lg_sl ([.ref h, .int x, .int o])).length) Slot.unset).toArray = ls at hl ⊢
  have hl : lv_has ls 4 [(0, .ref h), (1, .int x), (2, .int o)] := hl
  refine lv_iload_n hx hb dX2_rank_0 rfl (lv_at hl 2 rfl) ?_
  have hPc := hP.sub (ws' := []) [] rfl
  have hDc := hD.sub (ws' := []) [] (by decide) rfl
  have hKc := hK.sub (tys' := []) [] rfl
  have hFc := va_free (wc := []) hD hS hA [] rfl
  refine va_calli (va_runS (As := [.int o]) (rest := []) ⟨hx, hb, hml, hown, hts⟩ (c_X0_exists l dC dI s.heap.size o) (va_cwS 1 hts gX2_rank_X0_exists rfl rfl rfl (by decide +kernel) ⟨Nat.le_of_ble_eq_true rfl, Nat.le_of_ble_eq_true rfl⟩) ⟨fun a U g mk q => by obtain ⟨q0, q1, qP, qK, qD⟩ := q; exact ⟨q0, q1, qP, va_K.moved (u := U) (U := U.calling g mk a) (Vm.Alike.refl U.vm) qK, qD⟩, fun U hU hW => ⟨rfl, by rw [hU], by rw [hU]; exact hPc, va_K.moved hW.alike hKc, hDc.weaken (fun _ _ _ _ => trivial)⟩⟩ rfl rfl hl.1 rfl (lv_room (Nat.le_of_ble_eq_true rfl)) dX2_rank_1 ⟨Nat.le_of_ble_eq_true rfl, Nat.le_of_ble_eq_true rfl⟩) hS (fun q _ h => hFc q h) hFc (fun r_1 u tS H1 locs ht hvm hw hB hz1 hk1 hS => ?_)
  have he := hw
  obtain ⟨hP1, hK1, hD1⟩ := hB
  rw [ht] at hP1
  obtain ⟨hP, hD⟩ := va_join (wr := [(h, .inr (1, [.ref r, .int lp, .int lc, .int lw])), (r, .inr (0, [.ref k, .ref t, .int (nI n), .int cm, .int wr])), (k, .inl (cA, 500, .inl K)), (t, .inl (cB, 500, .inl T))]) (w1 := []) hP hD [] [0, 1, 2, 3] rfl rfl (by decide) (by decide) hk1 hFc hP1 hD1
  generalize H1 = H at hP hS ⊢
  have hP : va_P (dC, dI) vwCl [(h, .inr (1, [.ref r, .int lp, .int lc, .int lw])), (r, .inr (0, [.ref k, .ref t, .int (nI n), .int cm, .int wr])), (k, .inl (cA, 500, .inl K)), (t, .inl (cB, 500, .inl T))] H := hP
  have hD : va_D A [(h, .inr (1, [.ref r, .int lp, .int lc, .int lw])), (r, .inr (0, [.ref k, .ref t, .int (nI n), .int cm, .int wr])), (k, .inl (cA, 500, .inl K)), (t, .inl (cB, 500, .inl T))] := hD
  refine lv_if_eq (tgt := 18) hx hb dX2_rank_4 (by decide) (fun c4 => ?_) (fun c4 => ?_)
  · refine lv_iconst (v := (-1)) hx hb dX2_rank_18 (by decide) ?_
    exact W.iret (v := (-1)) hx hb hr (fun tS ht hW => ⟨⟨(-1), (K, T, n, cm, wr, lp, lc, lw), rfl, ⟨Or.inl ⟨rfl, fun z hz => tr_0 he c4 (dR_e hn hz).1⟩, ⟨rfl, rfl⟩, ⟨hn, hck⟩⟩, by rw [ht]; exact hP, va_K.moved hW.alike hK, hD⟩, hS.F ht⟩) hS.2.2 dX2_rank_19
  · refine lv_aload_n hx hb dX2_rank_7 rfl (lv_at hl 0 rfl) ?_
    refine va_get (D := (dC, dI)) (ci := 1) (v := .ref r) (C := RX2) (T := TX2) (N := 4) hx hb hts (by decide +kernel) hown hK hP 0 rfl rfl 0 (by decide) (hts (.fieldLink RX2 10 "RowPress" "row" "LRowPress$Row;") (by decide +kernel)) (fun _ h9 => h9) rfl dX2_rank_8 ?_
    refine lv_iload_n hx hb dX2_rank_11 rfl (lv_at hl 1 rfl) ?_
    have hPc := hP.sub (ws' := [(r, .inr (0, [.ref k, .ref t, .int (nI n), .int cm, .int wr])), (k, .inl (cA, 500, .inl K)), (t, .inl (cB, 500, .inl T))]) [1, 2, 3] rfl
    have hDc := hD.sub (ws' := [(r, .inr (0, [.ref k, .ref t, .int (nI n), .int cm, .int wr])), (k, .inl (cA, 500, .inl K)), (t, .inl (cB, 500, .inl T))]) [1, 2, 3] (by decide) rfl
    have hKc := hK.sub (tys' := [(cA, .int), (cB, .int)]) [0, 1] rfl
    have hFc := va_free (wc := [(r, .inr (0, [.ref k, .ref t, .int (nI n), .int cm, .int wr])), (k, .inl (cA, 500, .inl K)), (t, .inl (cB, 500, .inl T))]) hD hS hA [1, 2, 3] rfl
    refine va_calli (va_runV (As := [.int x]) (rest := []) ⟨hx, hb, hml, hown, hts⟩ (c_X1_hasPlace l dC dI H.size r k t cA cB n cm wr K T hn x) (cwV 1 hts gX2_rank_X1_hasPlace rfl rfl rfl (by decide +kernel) ⟨Nat.le_of_ble_eq_true rfl, Nat.le_of_ble_eq_true rfl⟩) ⟨fun a U g mk q => by obtain ⟨q0, q1, qP, qK, qD⟩ := q; exact ⟨q0, q1, qP, va_K.moved (u := U) (U := U.calling g mk a) (Vm.Alike.refl U.vm) qK, qD⟩, va_recv hKc hPc (ci := 0) (q0 := 0) rfl rfl, fun U hU hW => ⟨rfl, by rw [hU], by rw [hU]; exact hPc, va_K.moved hW.alike hKc, hDc.weaken (fun _ _ _ _ => trivial)⟩⟩ rfl rfl hl.1 rfl (lv_room (Nat.le_of_ble_eq_true rfl)) dX2_rank_12 ⟨Nat.le_of_ble_eq_true rfl, Nat.le_of_ble_eq_true rfl⟩) hS (fun q _ h => hFc q h) hFc (fun r_2 u tS H1 locs ht hvm hw hB hz1 hk1 hS => ?_)
    obtain ⟨hp, rfl⟩ := hw
    obtain ⟨hP1, hK1, hD1⟩ := hB
    rw [ht] at hP1
    obtain ⟨hP, hD⟩ := va_join (wr := [(h, .inr (1, [.ref r, .int lp, .int lc, .int lw]))]) (w1 := [(r, .inr (0, [.ref k, .ref t, .int (nI n), .int cm, .int wr])), (k, .inl (cA, 500, .inl K)), (t, .inl (cB, 500, .inl T))]) hP hD [1, 2, 3] [0] rfl rfl (by decide) (by decide) hk1 hFc hP1 hD1
    generalize H1 = H at hP hS ⊢
    have hP : va_P (dC, dI) vwCl [(h, .inr (1, [.ref r, .int lp, .int lc, .int lw])), (r, .inr (0, [.ref k, .ref t, .int (nI n), .int cm, .int wr])), (k, .inl (cA, 500, .inl K)), (t, .inl (cB, 500, .inl T))] H := hP
    have hD : va_D A [(h, .inr (1, [.ref r, .int lp, .int lc, .int lw])), (r, .inr (0, [.ref k, .ref t, .int (nI n), .int cm, .int wr])), (k, .inl (cA, 500, .inl K)), (t, .inl (cB, 500, .inl T))] := hD
    refine lv_if_ne (tgt := 20) hx hb dX2_rank_15 (by decide) (fun c15 => ?_) (fun c15 => ?_)
    · obtain ⟨o1, ho, rfl⟩ := exO_of (tr_1 he c4)
      obtain ⟨z, hz, rfl⟩ := plO_of hn (tr_1 hp c15)
      refine lv_aload_n hx hb dX2_rank_20 rfl (lv_at hl 0 rfl) ?_
      refine va_get (D := (dC, dI)) (ci := 1) (v := .ref r) (C := RX2) (T := TX2) (N := 4) hx hb hts (by decide +kernel) hown hK hP 0 rfl rfl 0 (by decide) (hts (.fieldLink RX2 10 "RowPress" "row" "LRowPress$Row;") (by decide +kernel)) (fun _ h9 => h9) rfl dX2_rank_21 ?_
      refine va_get (D := (dC, dI)) (ci := 0) (v := .ref k) (C := RX1) (T := TX1) (N := 5) hx hb hts (by decide +kernel) hown hK hP 1 rfl rfl 0 (by decide) (hts (.fieldLink RX2 86 "RowPress$Row" "keys" "[I") (by decide +kernel)) (fun _ h9 => h9) rfl dX2_rank_24 ?_
      refine lv_iload_n hx hb dX2_rank_27 rfl (lv_at hl 1 rfl) ?_
      refine lz_iald hx hb hK hP 2 0 rfl rfl (j := z) (by omega) (by decide) dX2_rank_28 ?_
      refine lv_istore_n (lv' := [(3, .int (K z)), (0, .ref h), (1, .int (nI z)), (2, .int (nI o1))]) hx hb dX2_rank_29 rfl hl (by decide) rfl (fun ls hl => ?_)
      refine lv_aload_n hx hb dX2_rank_30 rfl (lv_at hl 1 rfl) ?_
      refine va_get (D := (dC, dI)) (ci := 1) (v := .ref r) (C := RX2) (T := TX2) (N := 4) hx hb hts (by decide +kernel) hown hK hP 0 rfl rfl 0 (by decide) (hts (.fieldLink RX2 10 "RowPress" "row" "LRowPress$Row;") (by decide +kernel)) (fun _ h9 => h9) rfl dX2_rank_31 ?_
      refine lv_iconst (v := (nI 0)) hx hb dX2_rank_34 (by decide) ?_
      refine lv_iload_n hx hb dX2_rank_35 rfl (lv_at hl 2 rfl) ?_
      refine lv_iload_n hx hb dX2_rank_36 rfl (lv_at hl 0 rfl) ?_
      refine lv_iload_n hx hb dX2_rank_37 rfl (lv_at hl 3 rfl) ?_
      have hPc := hP.sub (ws' := [(r, .inr (0, [.ref k, .ref t, .int (nI n), .int cm, .int wr])), (k, .inl (cA, 500, .inl K)), (t, .inl (cB, 500, .inl T))]) [1, 2, 3] rfl
      have hDc := hD.sub (ws' := [(r, .inr (0, [.ref k, .ref t, .int (nI n), .int cm, .int wr])), (k, .inl (cA, 500, .inl K)), (t, .inl (cB, 500, .inl T))]) [1, 2, 3] (by decide) rfl
      have hKc := hK.sub (tys' := [(cA, .int), (cB, .int)]) [0, 1] rfl
      have hFc := va_free (wc := [(r, .inr (0, [.ref k, .ref t, .int (nI n), .int cm, .int wr])), (k, .inl (cA, 500, .inl K)), (t, .inl (cB, 500, .inl T))]) hD hS hA [1, 2, 3] rfl
      refine va_calli (va_runV (As := [.int (nI 0), .int (nI z), .int (K z), .int (nI o1)]) (rest := []) ⟨hx, hb, hml, hown, hts⟩ (c_X1_countNotMore l dC dI H.size r k t cA cB n cm wr K T 0 z (K z) o1 (Nat.zero_le _) (by omega) ho) (cwV 4 hts gX2_rank_X1_countNotMore rfl rfl rfl (by decide +kernel) ⟨Nat.le_of_ble_eq_true rfl, Nat.le_of_ble_eq_true rfl⟩) ⟨fun a U g mk q => by obtain ⟨q0, q1, qP, qK, qD⟩ := q; exact ⟨q0, q1, qP, va_K.moved (u := U) (U := U.calling g mk a) (Vm.Alike.refl U.vm) qK, qD⟩, va_recv hKc hPc (ci := 0) (q0 := 0) rfl rfl, fun U hU hW => ⟨rfl, by rw [hU], by rw [hU]; exact hPc, va_K.moved hW.alike hKc, hDc.weaken (fun _ _ _ _ => trivial)⟩⟩ rfl rfl hl.1 rfl (lv_room (Nat.le_of_ble_eq_true rfl)) dX2_rank_38 ⟨Nat.le_of_ble_eq_true rfl, Nat.le_of_ble_eq_true rfl⟩) hS (fun q _ h => hFc q h) hFc (fun r_3 u tS H1 locs ht hvm hw hB hz1 hk1 hS => ?_)
      obtain ⟨hr1, rfl⟩ := hw
      obtain ⟨hP1, hK1, hD1⟩ := hB
      rw [ht] at hP1
      obtain ⟨hP, hD⟩ := va_join (wr := [(h, .inr (1, [.ref r, .int lp, .int lc, .int lw]))]) (w1 := [(r, .inr (0, [.ref k, .ref t, .int (nI n), .int cm, .int wr])), (k, .inl (cA, 500, .inl K)), (t, .inl (cB, 500, .inl T))]) hP hD [1, 2, 3] [0] rfl rfl (by decide) (by decide) hk1 hFc hP1 hD1
      generalize H1 = H at hP hS ⊢
      have hP : va_P (dC, dI) vwCl [(h, .inr (1, [.ref r, .int lp, .int lc, .int lw])), (r, .inr (0, [.ref k, .ref t, .int (nI n), .int cm, .int wr])), (k, .inl (cA, 500, .inl K)), (t, .inl (cB, 500, .inl T))] H := hP
      have hD : va_D A [(h, .inr (1, [.ref r, .int lp, .int lc, .int lw])), (r, .inr (0, [.ref k, .ref t, .int (nI n), .int cm, .int wr])), (k, .inl (cA, 500, .inl K)), (t, .inl (cB, 500, .inl T))] := hD
      subst hr1
      refine lv_aload_n hx hb dX2_rank_41 rfl (lv_at hl 1 rfl) ?_
      refine va_get (D := (dC, dI)) (ci := 1) (v := .ref r) (C := RX2) (T := TX2) (N := 4) hx hb hts (by decide +kernel) hown hK hP 0 rfl rfl 0 (by decide) (hts (.fieldLink RX2 10 "RowPress" "row" "LRowPress$Row;") (by decide +kernel)) (fun _ h9 => h9) rfl dX2_rank_42 ?_
      refine lv_iload_n hx hb dX2_rank_45 rfl (lv_at hl 2 rfl) ?_
      refine lv_aload_n hx hb dX2_rank_46 rfl (lv_at hl 1 rfl) ?_
      refine va_get (D := (dC, dI)) (ci := 1) (v := .ref r) (C := RX2) (T := TX2) (N := 4) hx hb hts (by decide +kernel) hown hK hP 0 rfl rfl 0 (by decide) (hts (.fieldLink RX2 10 "RowPress" "row" "LRowPress$Row;") (by decide +kernel)) (fun _ h9 => h9) rfl dX2_rank_47 ?_
      refine va_get (D := (dC, dI)) (ci := 0) (v := .int (nI n)) (C := RX1) (T := TX1) (N := 5) hx hb hts (by decide +kernel) hown hK hP 1 rfl rfl 2 (by decide) (hts (.fieldLink RX2 24 "RowPress$Row" "size" "I") (by decide +kernel)) (fun _ h9 => h9) rfl dX2_rank_50 ?_
      refine lv_iload_n hx hb dX2_rank_53 rfl (lv_at hl 0 rfl) ?_
      refine lv_iload_n hx hb dX2_rank_54 rfl (lv_at hl 3 rfl) ?_
      have hPc := hP.sub (ws' := [(r, .inr (0, [.ref k, .ref t, .int (nI n), .int cm, .int wr])), (k, .inl (cA, 500, .inl K)), (t, .inl (cB, 500, .inl T))]) [1, 2, 3] rfl
      have hDc := hD.sub (ws' := [(r, .inr (0, [.ref k, .ref t, .int (nI n), .int cm, .int wr])), (k, .inl (cA, 500, .inl K)), (t, .inl (cB, 500, .inl T))]) [1, 2, 3] (by decide) rfl
      have hKc := hK.sub (tys' := [(cA, .int), (cB, .int)]) [0, 1] rfl
      have hFc := va_free (wc := [(r, .inr (0, [.ref k, .ref t, .int (nI n), .int cm, .int wr])), (k, .inl (cA, 500, .inl K)), (t, .inl (cB, 500, .inl T))]) hD hS hA [1, 2, 3] rfl
      refine va_calli (va_runV (As := [.int (nI z), .int (nI n), .int (K z), .int (nI o1)]) (rest := [.int (nI (cn (fun j => ¬ mk o1 (K z) < mk o1 (K j)) 0 (z - 0)))]) ⟨hx, hb, hml, hown, hts⟩ (c_X1_countLess l dC dI H.size r k t cA cB n cm wr K T z n (K z) o1 (by omega) hn ho) (cwV 4 hts gX2_rank_X1_countLess rfl rfl rfl (by decide +kernel) ⟨Nat.le_of_ble_eq_true rfl, Nat.le_of_ble_eq_true rfl⟩) ⟨fun a U g mk q => by obtain ⟨q0, q1, qP, qK, qD⟩ := q; exact ⟨q0, q1, qP, va_K.moved (u := U) (U := U.calling g mk a) (Vm.Alike.refl U.vm) qK, qD⟩, va_recv hKc hPc (ci := 0) (q0 := 0) rfl rfl, fun U hU hW => ⟨rfl, by rw [hU], by rw [hU]; exact hPc, va_K.moved hW.alike hKc, hDc.weaken (fun _ _ _ _ => trivial)⟩⟩ rfl rfl hl.1 rfl (lv_room (Nat.le_of_ble_eq_true rfl)) dX2_rank_55 ⟨Nat.le_of_ble_eq_true rfl, Nat.le_of_ble_eq_true rfl⟩) hS (fun q _ h => hFc q h) hFc (fun r_4 u tS H1 locs ht hvm hw hB hz1 hk1 hS => ?_)
      obtain ⟨hr2, rfl⟩ := hw
      obtain ⟨hP1, hK1, hD1⟩ := hB
      rw [ht] at hP1
      obtain ⟨hP, hD⟩ := va_join (wr := [(h, .inr (1, [.ref r, .int lp, .int lc, .int lw]))]) (w1 := [(r, .inr (0, [.ref k, .ref t, .int (nI n), .int cm, .int wr])), (k, .inl (cA, 500, .inl K)), (t, .inl (cB, 500, .inl T))]) hP hD [1, 2, 3] [0] rfl rfl (by decide) (by decide) hk1 hFc hP1 hD1
      generalize H1 = H at hP hS ⊢
      have hP : va_P (dC, dI) vwCl [(h, .inr (1, [.ref r, .int lp, .int lc, .int lw])), (r, .inr (0, [.ref k, .ref t, .int (nI n), .int cm, .int wr])), (k, .inl (cA, 500, .inl K)), (t, .inl (cB, 500, .inl T))] H := hP
      have hD : va_D A [(h, .inr (1, [.ref r, .int lp, .int lc, .int lw])), (r, .inr (0, [.ref k, .ref t, .int (nI n), .int cm, .int wr])), (k, .inl (cA, 500, .inl K)), (t, .inl (cB, 500, .inl T))] := hD
      subst hr2
      refine lv_iadd hx hb dX2_rank_58 ?_
      refine lz_top (y := (nI ((cn (fun j => ¬ mk o1 (K z) < mk o1 (K j)) 0 (z - 0)) + (cn (fun j => mk o1 (K j) < mk o1 (K z)) z (n - z))))) (nI_add _ _) ?_
      exact W.iret (v := (nI ((cn (fun j => ¬ mk o1 (K z) < mk o1 (K j)) 0 (z - 0)) + (cn (fun j => mk o1 (K j) < mk o1 (K z)) z (n - z))))) hx hb hr (fun tS ht hW => ⟨⟨(nI ((cn (fun j => ¬ mk o1 (K z) < mk o1 (K j)) 0 (z - 0)) + (cn (fun j => mk o1 (K j) < mk o1 (K z)) z (n - z)))), (K, T, n, cm, wr, lp, lc, lw), rfl, ⟨Or.inr ⟨(z, o1), ⟨rfl, rfl, hz, ho⟩, congrArg nI (ran_eq (f := mZ K T) hz)⟩, ⟨rfl, rfl⟩, ⟨hn, hck⟩⟩, by rw [ht]; exact hP, va_K.moved hW.alike hK, hD⟩, hS.F ht⟩) hS.2.2 dX2_rank_59
    · refine lv_iconst (v := (-1)) hx hb dX2_rank_18 (by decide) ?_
      exact W.iret (v := (-1)) hx hb hr (fun tS ht hW => ⟨⟨(-1), (K, T, n, cm, wr, lp, lc, lw), rfl, ⟨Or.inl ⟨rfl, fun z hz => tr_0 hp c15 (dR_e hn hz).2⟩, ⟨rfl, rfl⟩, ⟨hn, hck⟩⟩, by rw [ht]; exact hP, va_K.moved hW.alike hK, hD⟩, hS.F ht⟩) hS.2.2 dX2_rank_19
set_option maxHeartbeats 4000000 in
set_option maxRecDepth 100000 in
theorem c_X2_key (l : Launch) (dC : Nat → ClassId) (dI : Nat → Nat → Nat) (sz : Nat) (h r k t : Nat) (cA cB : ClassId) (n : Nat) (cm wr lp lc lw : Int32) (K T : Nat → Int32) (hn : n ≤ 500) (hck : ckI lp lc lw) (x : Int32) : Met l yX2_key wsX2_key ({ frames := 1, cells := 0, slots := 0, locals := 21 }) (va_Pc [.ref h, .int x] (fun U => U.heap.size = sz ∧ va_P (dC, dI) vwCl [(h, .inr (1, [.ref r, .int lp, .int lc, .int lw])), (r, .inr (0, [.ref k, .ref t, .int (nI n), .int cm, .int wr])), (k, .inl (cA, 500, .inl K)), (t, .inl (cB, 500, .inl T))] U.heap ∧ va_K (dC, dI) vwCl [(cA, .int), (cB, .int)] U ∧ va_D (fun _ => True) [(h, .inr (1, [.ref r, .int lp, .int lc, .int lw])), (r, .inr (0, [.ref k, .ref t, .int (nI n), .int cm, .int wr])), (k, .inl (cA, 500, .inl K)), (t, .inl (cB, 500, .inl T))])) (va_Qi (fun r u => Qkey n (mZ K T) x r ∧ (u.2.2.1 = n ∧ mZ u.1 u.2.1 = mZ K T) ∧ okU u) (atX dC dI (va_A [(h, .inr (1, [.ref r, .int lp, .int lc, .int lw])), (r, .inr (0, [.ref k, .ref t, .int (nI n), .int cm, .int wr])), (k, .inl (cA, 500, .inl K)), (t, .inl (cB, 500, .inl T))] sz) h r k t cA cB) (va_A [(h, .inr (1, [.ref r, .int lp, .int lc, .int lw])), (r, .inr (0, [.ref k, .ref t, .int (nI n), .int cm, .int wr])), (k, .inl (cA, 500, .inl K)), (t, .inl (cB, 500, .inl T))] sz)) 0 0 (va_A [(h, .inr (1, [.ref r, .int lp, .int lc, .int lw])), (r, .inr (0, [.ref k, .ref t, .int (nI n), .int cm, .int wr])), (k, .inl (cA, 500, .inl K)), (t, .inl (cB, 500, .inl T))] sz) := by
  refine Met.ofW (cc := cX2_key) (maxL := 2) (ret := (some .int)) (by decide) rfl ?_
  intro p e s m args below meth c s₁ B hml hv
  obtain ⟨rfl, hsz, hP, hK, hD0⟩ := hv
  have hx := B.exec
  have hb := B.bytes
  have hr := B.returns
  have hts := atoms_spec (ws := wsX2_key) B.pre
  have hown : s.vm.findClass RX2 = some m.cls := findClass_of_methodNamed B.named
  have hlocks := B.notSynchronized
  subst hsz
  have hD := hD0.self (sz := s.heap.size)
  generalize hAe : va_A [(h, .inr (1, [.ref r, .int lp, .int lc, .int lw])), (r, .inr (0, [.ref k, .ref t, .int (nI n), .int cm, .int wr])), (k, .inl (cA, 500, .inl K)), (t, .inl (cB, 500, .inl T))] s.heap.size = A at hD ⊢
  have hA : ∀ q : Nat, s.heap.size ≤ q → A q := fun q h => by rw [← hAe]; exact Or.inr h
  have hS : va_S A s.heap s.heap [] := va_S.rf
  have hP : va_P (dC, dI) vwCl [(h, .inr (1, [.ref r, .int lp, .int lc, .int lw])), (r, .inr (0, [.ref k, .ref t, .int (nI n), .int cm, .int wr])), (k, .inl (cA, 500, .inl K)), (t, .inl (cB, 500, .inl T))] s.heap := hP
  have hl := lv_entry ([.ref h, .int x]) (n := 2) (Nat.le_of_ble_eq_true rfl)
  rw [lg_entry_eq]
  generalize (lg_sl ([.ref h, .int x]) ++ List.replicate (2 - (lg_sl ([.ref h, .int x])).length) Slot.unset).toArray = ls at hl ⊢
  have hl : lv_has ls 2 [(0, .ref h), (1, .int x)] := hl
  refine lv_aload_n hx hb dX2_key_0 rfl (lv_at hl 0 rfl) ?_
  refine va_get (D := (dC, dI)) (ci := 1) (v := .ref r) (C := RX2) (T := TX2) (N := 4) hx hb hts (by decide +kernel) hown hK hP 0 rfl rfl 0 (by decide) (hts (.fieldLink RX2 10 "RowPress" "row" "LRowPress$Row;") (by decide +kernel)) (fun _ h9 => h9) rfl dX2_key_1 ?_
  refine lv_iload_n hx hb dX2_key_4 rfl (lv_at hl 1 rfl) ?_
  have hPc := hP.sub (ws' := [(r, .inr (0, [.ref k, .ref t, .int (nI n), .int cm, .int wr])), (k, .inl (cA, 500, .inl K)), (t, .inl (cB, 500, .inl T))]) [1, 2, 3] rfl
  have hDc := hD.sub (ws' := [(r, .inr (0, [.ref k, .ref t, .int (nI n), .int cm, .int wr])), (k, .inl (cA, 500, .inl K)), (t, .inl (cB, 500, .inl T))]) [1, 2, 3] (by decide) rfl
  have hKc := hK.sub (tys' := [(cA, .int), (cB, .int)]) [0, 1] rfl
  have hFc := va_free (wc := [(r, .inr (0, [.ref k, .ref t, .int (nI n), .int cm, .int wr])), (k, .inl (cA, 500, .inl K)), (t, .inl (cB, 500, .inl T))]) hD hS hA [1, 2, 3] rfl
  refine va_calli (va_runV (As := [.int x]) (rest := []) ⟨hx, hb, hml, hown, hts⟩ (c_X1_hasPlace l dC dI s.heap.size r k t cA cB n cm wr K T hn x) (cwV 1 hts gX2_key_X1_hasPlace rfl rfl rfl (by decide +kernel) ⟨Nat.le_of_ble_eq_true rfl, Nat.le_of_ble_eq_true rfl⟩) ⟨fun a U g mk q => by obtain ⟨q0, q1, qP, qK, qD⟩ := q; exact ⟨q0, q1, qP, va_K.moved (u := U) (U := U.calling g mk a) (Vm.Alike.refl U.vm) qK, qD⟩, va_recv hKc hPc (ci := 0) (q0 := 0) rfl rfl, fun U hU hW => ⟨rfl, by rw [hU], by rw [hU]; exact hPc, va_K.moved hW.alike hKc, hDc.weaken (fun _ _ _ _ => trivial)⟩⟩ rfl rfl hl.1 rfl (lv_room (Nat.le_of_ble_eq_true rfl)) dX2_key_5 ⟨Nat.le_of_ble_eq_true rfl, Nat.le_of_ble_eq_true rfl⟩) hS (fun q _ h => hFc q h) hFc (fun r_1 u tS H1 locs ht hvm hw hB hz1 hk1 hS => ?_)
  obtain ⟨hp, rfl⟩ := hw
  obtain ⟨hP1, hK1, hD1⟩ := hB
  rw [ht] at hP1
  obtain ⟨hP, hD⟩ := va_join (wr := [(h, .inr (1, [.ref r, .int lp, .int lc, .int lw]))]) (w1 := [(r, .inr (0, [.ref k, .ref t, .int (nI n), .int cm, .int wr])), (k, .inl (cA, 500, .inl K)), (t, .inl (cB, 500, .inl T))]) hP hD [1, 2, 3] [0] rfl rfl (by decide) (by decide) hk1 hFc hP1 hD1
  generalize H1 = H at hP hS ⊢
  have hP : va_P (dC, dI) vwCl [(h, .inr (1, [.ref r, .int lp, .int lc, .int lw])), (r, .inr (0, [.ref k, .ref t, .int (nI n), .int cm, .int wr])), (k, .inl (cA, 500, .inl K)), (t, .inl (cB, 500, .inl T))] H := hP
  have hD : va_D A [(h, .inr (1, [.ref r, .int lp, .int lc, .int lw])), (r, .inr (0, [.ref k, .ref t, .int (nI n), .int cm, .int wr])), (k, .inl (cA, 500, .inl K)), (t, .inl (cB, 500, .inl T))] := hD
  refine lv_if_eq (tgt := 23) hx hb dX2_key_8 (by decide) (fun c8 => ?_) (fun c8 => ?_)
  · refine lv_iconst (v := (nI 0)) hx hb dX2_key_23 (by decide) ?_
    exact W.iret (v := (nI 0)) hx hb hr (fun tS ht hW => ⟨⟨(nI 0), (K, T, n, cm, wr, lp, lc, lw), rfl, ⟨Or.inl ⟨rfl, fun z hz => tr_0 hp c8 (dP_e hn hz)⟩, ⟨rfl, rfl⟩, ⟨hn, hck⟩⟩, by rw [ht]; exact hP, va_K.moved hW.alike hK, hD⟩, hS.F ht⟩) hS.2.2 dX2_key_24
  · obtain ⟨z, hz, rfl⟩ := plO_of hn (tr_1 hp c8)
    refine lv_aload_n hx hb dX2_key_11 rfl (lv_at hl 0 rfl) ?_
    refine va_get (D := (dC, dI)) (ci := 1) (v := .ref r) (C := RX2) (T := TX2) (N := 4) hx hb hts (by decide +kernel) hown hK hP 0 rfl rfl 0 (by decide) (hts (.fieldLink RX2 10 "RowPress" "row" "LRowPress$Row;") (by decide +kernel)) (fun _ h9 => h9) rfl dX2_key_12 ?_
    refine va_get (D := (dC, dI)) (ci := 0) (v := .ref k) (C := RX1) (T := TX1) (N := 5) hx hb hts (by decide +kernel) hown hK hP 1 rfl rfl 0 (by decide) (hts (.fieldLink RX2 86 "RowPress$Row" "keys" "[I") (by decide +kernel)) (fun _ h9 => h9) rfl dX2_key_15 ?_
    refine lv_iload_n hx hb dX2_key_18 rfl (lv_at hl 1 rfl) ?_
    refine lz_iald hx hb hK hP 2 0 rfl rfl (j := z) (by omega) (by decide) dX2_key_19 ?_
    refine lv_goto (tgt := 24) hx hb dX2_key_20 (by decide) ?_
    exact W.iret (v := (K z)) hx hb hr (fun tS ht hW => ⟨⟨(K z), (K, T, n, cm, wr, lp, lc, lw), rfl, ⟨Or.inr ⟨z, ⟨rfl, hz⟩, rfl⟩, ⟨rfl, rfl⟩, ⟨hn, hck⟩⟩, by rw [ht]; exact hP, va_K.moved hW.alike hK, hD⟩, hS.F ht⟩) hS.2.2 dX2_key_24
set_option maxHeartbeats 4000000 in
set_option maxRecDepth 100000 in
theorem c_X2_tag (l : Launch) (dC : Nat → ClassId) (dI : Nat → Nat → Nat) (sz : Nat) (h r k t : Nat) (cA cB : ClassId) (n : Nat) (cm wr lp lc lw : Int32) (K T : Nat → Int32) (hn : n ≤ 500) (hck : ckI lp lc lw) (x : Int32) : Met l yX2_tag wsX2_tag ({ frames := 1, cells := 0, slots := 0, locals := 21 }) (va_Pc [.ref h, .int x] (fun U => U.heap.size = sz ∧ va_P (dC, dI) vwCl [(h, .inr (1, [.ref r, .int lp, .int lc, .int lw])), (r, .inr (0, [.ref k, .ref t, .int (nI n), .int cm, .int wr])), (k, .inl (cA, 500, .inl K)), (t, .inl (cB, 500, .inl T))] U.heap ∧ va_K (dC, dI) vwCl [(cA, .int), (cB, .int)] U ∧ va_D (fun _ => True) [(h, .inr (1, [.ref r, .int lp, .int lc, .int lw])), (r, .inr (0, [.ref k, .ref t, .int (nI n), .int cm, .int wr])), (k, .inl (cA, 500, .inl K)), (t, .inl (cB, 500, .inl T))])) (va_Qi (fun r u => Qtag n (mZ K T) x r ∧ (u.2.2.1 = n ∧ mZ u.1 u.2.1 = mZ K T) ∧ okU u) (atX dC dI (va_A [(h, .inr (1, [.ref r, .int lp, .int lc, .int lw])), (r, .inr (0, [.ref k, .ref t, .int (nI n), .int cm, .int wr])), (k, .inl (cA, 500, .inl K)), (t, .inl (cB, 500, .inl T))] sz) h r k t cA cB) (va_A [(h, .inr (1, [.ref r, .int lp, .int lc, .int lw])), (r, .inr (0, [.ref k, .ref t, .int (nI n), .int cm, .int wr])), (k, .inl (cA, 500, .inl K)), (t, .inl (cB, 500, .inl T))] sz)) 0 0 (va_A [(h, .inr (1, [.ref r, .int lp, .int lc, .int lw])), (r, .inr (0, [.ref k, .ref t, .int (nI n), .int cm, .int wr])), (k, .inl (cA, 500, .inl K)), (t, .inl (cB, 500, .inl T))] sz) := by
  refine Met.ofW (cc := cX2_tag) (maxL := 2) (ret := (some .int)) (by decide) rfl ?_
  intro p e s m args below meth c s₁ B hml hv
  obtain ⟨rfl, hsz, hP, hK, hD0⟩ := hv
  have hx := B.exec
  have hb := B.bytes
  have hr := B.returns
  have hts := atoms_spec (ws := wsX2_tag) B.pre
  have hown : s.vm.findClass RX2 = some m.cls := findClass_of_methodNamed B.named
  have hlocks := B.notSynchronized
  subst hsz
  have hD := hD0.self (sz := s.heap.size)
  generalize hAe : va_A [(h, .inr (1, [.ref r, .int lp, .int lc, .int lw])), (r, .inr (0, [.ref k, .ref t, .int (nI n), .int cm, .int wr])), (k, .inl (cA, 500, .inl K)), (t, .inl (cB, 500, .inl T))] s.heap.size = A at hD ⊢
  have hA : ∀ q : Nat, s.heap.size ≤ q → A q := fun q h => by rw [← hAe]; exact Or.inr h
  have hS : va_S A s.heap s.heap [] := va_S.rf
  have hP : va_P (dC, dI) vwCl [(h, .inr (1, [.ref r, .int lp, .int lc, .int lw])), (r, .inr (0, [.ref k, .ref t, .int (nI n), .int cm, .int wr])), (k, .inl (cA, 500, .inl K)), (t, .inl (cB, 500, .inl T))] s.heap := hP
  have hl := lv_entry ([.ref h, .int x]) (n := 2) (Nat.le_of_ble_eq_true rfl)
  rw [lg_entry_eq]
  generalize (lg_sl ([.ref h, .int x]) ++ List.replicate (2 - (lg_sl ([.ref h, .int x])).length) Slot.unset).toArray = ls at hl ⊢
  have hl : lv_has ls 2 [(0, .ref h), (1, .int x)] := hl
  refine lv_aload_n hx hb dX2_tag_0 rfl (lv_at hl 0 rfl) ?_
  refine va_get (D := (dC, dI)) (ci := 1) (v := .ref r) (C := RX2) (T := TX2) (N := 4) hx hb hts (by decide +kernel) hown hK hP 0 rfl rfl 0 (by decide) (hts (.fieldLink RX2 10 "RowPress" "row" "LRowPress$Row;") (by decide +kernel)) (fun _ h9 => h9) rfl dX2_tag_1 ?_
  refine lv_iload_n hx hb dX2_tag_4 rfl (lv_at hl 1 rfl) ?_
  have hPc := hP.sub (ws' := [(r, .inr (0, [.ref k, .ref t, .int (nI n), .int cm, .int wr])), (k, .inl (cA, 500, .inl K)), (t, .inl (cB, 500, .inl T))]) [1, 2, 3] rfl
  have hDc := hD.sub (ws' := [(r, .inr (0, [.ref k, .ref t, .int (nI n), .int cm, .int wr])), (k, .inl (cA, 500, .inl K)), (t, .inl (cB, 500, .inl T))]) [1, 2, 3] (by decide) rfl
  have hKc := hK.sub (tys' := [(cA, .int), (cB, .int)]) [0, 1] rfl
  have hFc := va_free (wc := [(r, .inr (0, [.ref k, .ref t, .int (nI n), .int cm, .int wr])), (k, .inl (cA, 500, .inl K)), (t, .inl (cB, 500, .inl T))]) hD hS hA [1, 2, 3] rfl
  refine va_calli (va_runV (As := [.int x]) (rest := []) ⟨hx, hb, hml, hown, hts⟩ (c_X1_hasPlace l dC dI s.heap.size r k t cA cB n cm wr K T hn x) (cwV 1 hts gX2_tag_X1_hasPlace rfl rfl rfl (by decide +kernel) ⟨Nat.le_of_ble_eq_true rfl, Nat.le_of_ble_eq_true rfl⟩) ⟨fun a U g mk q => by obtain ⟨q0, q1, qP, qK, qD⟩ := q; exact ⟨q0, q1, qP, va_K.moved (u := U) (U := U.calling g mk a) (Vm.Alike.refl U.vm) qK, qD⟩, va_recv hKc hPc (ci := 0) (q0 := 0) rfl rfl, fun U hU hW => ⟨rfl, by rw [hU], by rw [hU]; exact hPc, va_K.moved hW.alike hKc, hDc.weaken (fun _ _ _ _ => trivial)⟩⟩ rfl rfl hl.1 rfl (lv_room (Nat.le_of_ble_eq_true rfl)) dX2_tag_5 ⟨Nat.le_of_ble_eq_true rfl, Nat.le_of_ble_eq_true rfl⟩) hS (fun q _ h => hFc q h) hFc (fun r_1 u tS H1 locs ht hvm hw hB hz1 hk1 hS => ?_)
  obtain ⟨hp, rfl⟩ := hw
  obtain ⟨hP1, hK1, hD1⟩ := hB
  rw [ht] at hP1
  obtain ⟨hP, hD⟩ := va_join (wr := [(h, .inr (1, [.ref r, .int lp, .int lc, .int lw]))]) (w1 := [(r, .inr (0, [.ref k, .ref t, .int (nI n), .int cm, .int wr])), (k, .inl (cA, 500, .inl K)), (t, .inl (cB, 500, .inl T))]) hP hD [1, 2, 3] [0] rfl rfl (by decide) (by decide) hk1 hFc hP1 hD1
  generalize H1 = H at hP hS ⊢
  have hP : va_P (dC, dI) vwCl [(h, .inr (1, [.ref r, .int lp, .int lc, .int lw])), (r, .inr (0, [.ref k, .ref t, .int (nI n), .int cm, .int wr])), (k, .inl (cA, 500, .inl K)), (t, .inl (cB, 500, .inl T))] H := hP
  have hD : va_D A [(h, .inr (1, [.ref r, .int lp, .int lc, .int lw])), (r, .inr (0, [.ref k, .ref t, .int (nI n), .int cm, .int wr])), (k, .inl (cA, 500, .inl K)), (t, .inl (cB, 500, .inl T))] := hD
  refine lv_if_eq (tgt := 23) hx hb dX2_tag_8 (by decide) (fun c8 => ?_) (fun c8 => ?_)
  · refine lv_iconst (v := (nI 0)) hx hb dX2_tag_23 (by decide) ?_
    exact W.iret (v := (nI 0)) hx hb hr (fun tS ht hW => ⟨⟨(nI 0), (K, T, n, cm, wr, lp, lc, lw), rfl, ⟨Or.inl ⟨rfl, fun z hz => tr_0 hp c8 (dP_e hn hz)⟩, ⟨rfl, rfl⟩, ⟨hn, hck⟩⟩, by rw [ht]; exact hP, va_K.moved hW.alike hK, hD⟩, hS.F ht⟩) hS.2.2 dX2_tag_24
  · obtain ⟨z, hz, rfl⟩ := plO_of hn (tr_1 hp c8)
    refine lv_aload_n hx hb dX2_tag_11 rfl (lv_at hl 0 rfl) ?_
    refine va_get (D := (dC, dI)) (ci := 1) (v := .ref r) (C := RX2) (T := TX2) (N := 4) hx hb hts (by decide +kernel) hown hK hP 0 rfl rfl 0 (by decide) (hts (.fieldLink RX2 10 "RowPress" "row" "LRowPress$Row;") (by decide +kernel)) (fun _ h9 => h9) rfl dX2_tag_12 ?_
    refine va_get (D := (dC, dI)) (ci := 0) (v := .ref t) (C := RX1) (T := TX1) (N := 5) hx hb hts (by decide +kernel) hown hK hP 1 rfl rfl 1 (by decide) (hts (.fieldLink RX2 90 "RowPress$Row" "tags" "[I") (by decide +kernel)) (fun _ h9 => h9) rfl dX2_tag_15 ?_
    refine lv_iload_n hx hb dX2_tag_18 rfl (lv_at hl 1 rfl) ?_
    refine lz_iald hx hb hK hP 3 1 rfl rfl (j := z) (by omega) (by decide) dX2_tag_19 ?_
    refine lv_goto (tgt := 24) hx hb dX2_tag_20 (by decide) ?_
    exact W.iret (v := (T z)) hx hb hr (fun tS ht hW => ⟨⟨(T z), (K, T, n, cm, wr, lp, lc, lw), rfl, ⟨Or.inr ⟨z, ⟨rfl, hz⟩, rfl⟩, ⟨rfl, rfl⟩, ⟨hn, hck⟩⟩, by rw [ht]; exact hP, va_K.moved hW.alike hK, hD⟩, hS.F ht⟩) hS.2.2 dX2_tag_24
set_option maxHeartbeats 4000000 in
set_option maxRecDepth 100000 in
theorem c_X2_count (l : Launch) (dC : Nat → ClassId) (dI : Nat → Nat → Nat) (sz : Nat) (h r k t : Nat) (cA cB : ClassId) (n : Nat) (cm wr lp lc lw : Int32) (K T : Nat → Int32) (hn : n ≤ 500) (hck : ckI lp lc lw) (x : Int32) : Met l yX2_count wsX2_count ({ frames := 2, cells := 0, slots := 0, locals := 44 }) (va_Pc [.ref h, .int x] (fun U => U.heap.size = sz ∧ va_P (dC, dI) vwCl [(h, .inr (1, [.ref r, .int lp, .int lc, .int lw])), (r, .inr (0, [.ref k, .ref t, .int (nI n), .int cm, .int wr])), (k, .inl (cA, 500, .inl K)), (t, .inl (cB, 500, .inl T))] U.heap ∧ va_K (dC, dI) vwCl [(cA, .int), (cB, .int)] U ∧ va_D (fun _ => True) [(h, .inr (1, [.ref r, .int lp, .int lc, .int lw])), (r, .inr (0, [.ref k, .ref t, .int (nI n), .int cm, .int wr])), (k, .inl (cA, 500, .inl K)), (t, .inl (cB, 500, .inl T))])) (va_Qi (fun r u => Qcou n (mZ K T) x r ∧ (u.2.2.1 = n ∧ mZ u.1 u.2.1 = mZ K T) ∧ okU u) (atX dC dI (va_A [(h, .inr (1, [.ref r, .int lp, .int lc, .int lw])), (r, .inr (0, [.ref k, .ref t, .int (nI n), .int cm, .int wr])), (k, .inl (cA, 500, .inl K)), (t, .inl (cB, 500, .inl T))] sz) h r k t cA cB) (va_A [(h, .inr (1, [.ref r, .int lp, .int lc, .int lw])), (r, .inr (0, [.ref k, .ref t, .int (nI n), .int cm, .int wr])), (k, .inl (cA, 500, .inl K)), (t, .inl (cB, 500, .inl T))] sz)) 0 0 (va_A [(h, .inr (1, [.ref r, .int lp, .int lc, .int lw])), (r, .inr (0, [.ref k, .ref t, .int (nI n), .int cm, .int wr])), (k, .inl (cA, 500, .inl K)), (t, .inl (cB, 500, .inl T))] sz) := by
  refine Met.ofW (cc := cX2_count) (maxL := 2) (ret := (some .int)) (by decide) rfl ?_
  intro p e s m args below meth c s₁ B hml hv
  obtain ⟨rfl, hsz, hP, hK, hD0⟩ := hv
  have hx := B.exec
  have hb := B.bytes
  have hr := B.returns
  have hts := atoms_spec (ws := wsX2_count) B.pre
  have hown : s.vm.findClass RX2 = some m.cls := findClass_of_methodNamed B.named
  have hlocks := B.notSynchronized
  subst hsz
  have hD := hD0.self (sz := s.heap.size)
  generalize hAe : va_A [(h, .inr (1, [.ref r, .int lp, .int lc, .int lw])), (r, .inr (0, [.ref k, .ref t, .int (nI n), .int cm, .int wr])), (k, .inl (cA, 500, .inl K)), (t, .inl (cB, 500, .inl T))] s.heap.size = A at hD ⊢
  have hA : ∀ q : Nat, s.heap.size ≤ q → A q := fun q h => by rw [← hAe]; exact Or.inr h
  have hS : va_S A s.heap s.heap [] := va_S.rf
  have hP : va_P (dC, dI) vwCl [(h, .inr (1, [.ref r, .int lp, .int lc, .int lw])), (r, .inr (0, [.ref k, .ref t, .int (nI n), .int cm, .int wr])), (k, .inl (cA, 500, .inl K)), (t, .inl (cB, 500, .inl T))] s.heap := hP
  have hl := lv_entry ([.ref h, .int x]) (n := 2) (Nat.le_of_ble_eq_true rfl)
  rw [lg_entry_eq]
  generalize (lg_sl ([.ref h, .int x]) ++ List.replicate (2 - (lg_sl ([.ref h, .int x])).length) Slot.unset).toArray = ls at hl ⊢
  have hl : lv_has ls 2 [(0, .ref h), (1, .int x)] := hl
  by_cases e0 : x = nI 0
  · subst e0
    refine lv_iload_n hx hb dX2_count_0 rfl (lv_at hl 1 rfl) ?_
    refine lv_tableIn (tgt := 28) (off := 27) hx hb dX2_count_1 (by decide) (by decide) (by decide) (by decide) ?_
    refine lv_aload_n hx hb dX2_count_28 rfl (lv_at hl 0 rfl) ?_
    refine va_get (D := (dC, dI)) (ci := 1) (v := .ref r) (C := RX2) (T := TX2) (N := 4) hx hb hts (by decide +kernel) hown hK hP 0 rfl rfl 0 (by decide) (hts (.fieldLink RX2 10 "RowPress" "row" "LRowPress$Row;") (by decide +kernel)) (fun _ h9 => h9) rfl dX2_count_29 ?_
    refine va_get (D := (dC, dI)) (ci := 0) (v := .int (nI n)) (C := RX1) (T := TX1) (N := 5) hx hb hts (by decide +kernel) hown hK hP 1 rfl rfl 2 (by decide) (hts (.fieldLink RX2 24 "RowPress$Row" "size" "I") (by decide +kernel)) (fun _ h9 => h9) rfl dX2_count_32 ?_
    exact W.iret (v := (nI n)) hx hb hr (fun tS ht hW => ⟨⟨(nI n), (K, T, n, cm, wr, lp, lc, lw), rfl, ⟨Or.inl ⟨rfl, rfl⟩, ⟨rfl, rfl⟩, ⟨hn, hck⟩⟩, by rw [ht]; exact hP, va_K.moved hW.alike hK, hD⟩, hS.F ht⟩) hS.2.2 dX2_count_35
  by_cases e1 : x = nI 1
  · subst e1
    refine lv_iload_n hx hb dX2_count_0 rfl (lv_at hl 1 rfl) ?_
    refine lv_tableIn (tgt := 36) (off := 35) hx hb dX2_count_1 (by decide) (by decide) (by decide) (by decide) ?_
    refine lv_aload_n hx hb dX2_count_36 rfl (lv_at hl 0 rfl) ?_
    refine va_get (D := (dC, dI)) (ci := 1) (v := .ref r) (C := RX2) (T := TX2) (N := 4) hx hb hts (by decide +kernel) hown hK hP 0 rfl rfl 0 (by decide) (hts (.fieldLink RX2 10 "RowPress" "row" "LRowPress$Row;") (by decide +kernel)) (fun _ h9 => h9) rfl dX2_count_37 ?_
    have hPc := hP.sub (ws' := [(r, .inr (0, [.ref k, .ref t, .int (nI n), .int cm, .int wr])), (k, .inl (cA, 500, .inl K)), (t, .inl (cB, 500, .inl T))]) [1, 2, 3] rfl
    have hDc := hD.sub (ws' := [(r, .inr (0, [.ref k, .ref t, .int (nI n), .int cm, .int wr])), (k, .inl (cA, 500, .inl K)), (t, .inl (cB, 500, .inl T))]) [1, 2, 3] (by decide) rfl
    have hKc := hK.sub (tys' := [(cA, .int), (cB, .int)]) [0, 1] rfl
    have hFc := va_free (wc := [(r, .inr (0, [.ref k, .ref t, .int (nI n), .int cm, .int wr])), (k, .inl (cA, 500, .inl K)), (t, .inl (cB, 500, .inl T))]) hD hS hA [1, 2, 3] rfl
    refine va_calli (va_runV (As := []) (rest := []) ⟨hx, hb, hml, hown, hts⟩ (c_X1_countSortedStretches l dC dI s.heap.size r k t cA cB n cm wr K T hn) (cwV 0 hts gX2_count_X1_countSortedStretches rfl rfl rfl (by decide +kernel) ⟨Nat.le_of_ble_eq_true rfl, Nat.le_of_ble_eq_true rfl⟩) ⟨fun a U g mk q => by obtain ⟨q0, q1, qP, qK, qD⟩ := q; exact ⟨q0, q1, qP, va_K.moved (u := U) (U := U.calling g mk a) (Vm.Alike.refl U.vm) qK, qD⟩, va_recv hKc hPc (ci := 0) (q0 := 0) rfl rfl, fun U hU hW => ⟨rfl, by rw [hU], by rw [hU]; exact hPc, va_K.moved hW.alike hKc, hDc.weaken (fun _ _ _ _ => trivial)⟩⟩ rfl rfl hl.1 rfl (lv_room (Nat.le_of_ble_eq_true rfl)) dX2_count_40 ⟨Nat.le_of_ble_eq_true rfl, Nat.le_of_ble_eq_true rfl⟩) hS (fun q _ h => hFc q h) hFc (fun r_1 u tS H1 locs ht hvm hw hB hz1 hk1 hS => ?_)
    obtain ⟨hq, rfl⟩ := hw
    obtain ⟨hP1, hK1, hD1⟩ := hB
    rw [ht] at hP1
    obtain ⟨hP, hD⟩ := va_join (wr := [(h, .inr (1, [.ref r, .int lp, .int lc, .int lw]))]) (w1 := [(r, .inr (0, [.ref k, .ref t, .int (nI n), .int cm, .int wr])), (k, .inl (cA, 500, .inl K)), (t, .inl (cB, 500, .inl T))]) hP hD [1, 2, 3] [0] rfl rfl (by decide) (by decide) hk1 hFc hP1 hD1
    generalize H1 = H at hP hS ⊢
    have hP : va_P (dC, dI) vwCl [(h, .inr (1, [.ref r, .int lp, .int lc, .int lw])), (r, .inr (0, [.ref k, .ref t, .int (nI n), .int cm, .int wr])), (k, .inl (cA, 500, .inl K)), (t, .inl (cB, 500, .inl T))] H := hP
    have hD : va_D A [(h, .inr (1, [.ref r, .int lp, .int lc, .int lw])), (r, .inr (0, [.ref k, .ref t, .int (nI n), .int cm, .int wr])), (k, .inl (cA, 500, .inl K)), (t, .inl (cB, 500, .inl T))] := hD
    exact W.iret (v := r_1) hx hb hr (fun tS ht hW => ⟨⟨r_1, (K, T, n, cm, wr, lp, lc, lw), rfl, ⟨Or.inr (Or.inl ⟨rfl, hq⟩), ⟨rfl, rfl⟩, ⟨hn, hck⟩⟩, by rw [ht]; exact hP, va_K.moved hW.alike hK, hD⟩, hS.F ht⟩) hS.2.2 dX2_count_43
  by_cases e2 : x = nI 2
  · subst e2
    refine lv_iload_n hx hb dX2_count_0 rfl (lv_at hl 1 rfl) ?_
    refine lv_tableIn (tgt := 44) (off := 43) hx hb dX2_count_1 (by decide) (by decide) (by decide) (by decide) ?_
    refine lv_aload_n hx hb dX2_count_44 rfl (lv_at hl 0 rfl) ?_
    refine va_get (D := (dC, dI)) (ci := 1) (v := .ref r) (C := RX2) (T := TX2) (N := 4) hx hb hts (by decide +kernel) hown hK hP 0 rfl rfl 0 (by decide) (hts (.fieldLink RX2 10 "RowPress" "row" "LRowPress$Row;") (by decide +kernel)) (fun _ h9 => h9) rfl dX2_count_45 ?_
    have hPc := hP.sub (ws' := [(r, .inr (0, [.ref k, .ref t, .int (nI n), .int cm, .int wr])), (k, .inl (cA, 500, .inl K)), (t, .inl (cB, 500, .inl T))]) [1, 2, 3] rfl
    have hDc := hD.sub (ws' := [(r, .inr (0, [.ref k, .ref t, .int (nI n), .int cm, .int wr])), (k, .inl (cA, 500, .inl K)), (t, .inl (cB, 500, .inl T))]) [1, 2, 3] (by decide) rfl
    have hKc := hK.sub (tys' := [(cA, .int), (cB, .int)]) [0, 1] rfl
    have hFc := va_free (wc := [(r, .inr (0, [.ref k, .ref t, .int (nI n), .int cm, .int wr])), (k, .inl (cA, 500, .inl K)), (t, .inl (cB, 500, .inl T))]) hD hS hA [1, 2, 3] rfl
    refine va_calli (va_runV (As := []) (rest := []) ⟨hx, hb, hml, hown, hts⟩ (c_X1_countDifferentKeys l dC dI s.heap.size r k t cA cB n cm wr K T hn) (cwV 0 hts gX2_count_X1_countDifferentKeys rfl rfl rfl (by decide +kernel) ⟨Nat.le_of_ble_eq_true rfl, Nat.le_of_ble_eq_true rfl⟩) ⟨fun a U g mk q => by obtain ⟨q0, q1, qP, qK, qD⟩ := q; exact ⟨q0, q1, qP, va_K.moved (u := U) (U := U.calling g mk a) (Vm.Alike.refl U.vm) qK, qD⟩, va_recv hKc hPc (ci := 0) (q0 := 0) rfl rfl, fun U hU hW => ⟨rfl, by rw [hU], by rw [hU]; exact hPc, va_K.moved hW.alike hKc, hDc.weaken (fun _ _ _ _ => trivial)⟩⟩ rfl rfl hl.1 rfl (lv_room (Nat.le_of_ble_eq_true rfl)) dX2_count_48 ⟨Nat.le_of_ble_eq_true rfl, Nat.le_of_ble_eq_true rfl⟩) hS (fun q _ h => hFc q h) hFc (fun r_2 u tS H1 locs ht hvm hw hB hz1 hk1 hS => ?_)
    obtain ⟨hq, rfl⟩ := hw
    obtain ⟨hP1, hK1, hD1⟩ := hB
    rw [ht] at hP1
    obtain ⟨hP, hD⟩ := va_join (wr := [(h, .inr (1, [.ref r, .int lp, .int lc, .int lw]))]) (w1 := [(r, .inr (0, [.ref k, .ref t, .int (nI n), .int cm, .int wr])), (k, .inl (cA, 500, .inl K)), (t, .inl (cB, 500, .inl T))]) hP hD [1, 2, 3] [0] rfl rfl (by decide) (by decide) hk1 hFc hP1 hD1
    generalize H1 = H at hP hS ⊢
    have hP : va_P (dC, dI) vwCl [(h, .inr (1, [.ref r, .int lp, .int lc, .int lw])), (r, .inr (0, [.ref k, .ref t, .int (nI n), .int cm, .int wr])), (k, .inl (cA, 500, .inl K)), (t, .inl (cB, 500, .inl T))] H := hP
    have hD : va_D A [(h, .inr (1, [.ref r, .int lp, .int lc, .int lw])), (r, .inr (0, [.ref k, .ref t, .int (nI n), .int cm, .int wr])), (k, .inl (cA, 500, .inl K)), (t, .inl (cB, 500, .inl T))] := hD
    exact W.iret (v := r_2) hx hb hr (fun tS ht hW => ⟨⟨r_2, (K, T, n, cm, wr, lp, lc, lw), rfl, ⟨Or.inr (Or.inr (Or.inl ⟨rfl, hq⟩)), ⟨rfl, rfl⟩, ⟨hn, hck⟩⟩, by rw [ht]; exact hP, va_K.moved hW.alike hK, hD⟩, hS.F ht⟩) hS.2.2 dX2_count_51
  refine lv_iload_n hx hb dX2_count_0 rfl (lv_at hl 1 rfl) ?_
  refine lv_tableOut (tgt := 52) hx hb dX2_count_1 (tb_out e0 e1 e2) (by decide) ?_
  refine lv_iconst (v := (-1)) hx hb dX2_count_52 (by decide) ?_
  exact W.iret (v := (-1)) hx hb hr (fun tS ht hW => ⟨⟨(-1), (K, T, n, cm, wr, lp, lc, lw), rfl, ⟨Or.inr (Or.inr (Or.inr ⟨e0, e1, e2, rfl⟩)), ⟨rfl, rfl⟩, ⟨hn, hck⟩⟩, by rw [ht]; exact hP, va_K.moved hW.alike hK, hD⟩, hS.F ht⟩) hS.2.2 dX2_count_53
set_option maxHeartbeats 4000000 in
set_option maxRecDepth 100000 in
theorem c_X2_levels (l : Launch) (dC : Nat → ClassId) (dI : Nat → Nat → Nat) (sz : Nat) (N : Nat) (hN : N ≤ 500) : Met l yX2_levels wsX2_levels ({ frames := 0, cells := 0, slots := 0, locals := 0 }) (va_Pc [.int (nI N)] (fun U => U.heap.size = sz ∧ va_P (dC, dI) vwCl [] U.heap ∧ va_K (dC, dI) vwCl [] U ∧ va_D (fun _ => True) [])) (va_Qi (fun r (_ : Unit) => ∃ L, r = nI L ∧ 1 ≤ L ∧ L ≤ 16 ∧ N ≤ 2 ^ L) (at0 dC dI (va_A [] sz)) (va_A [] sz)) 0 0 (va_A [] sz) := by
  refine Met.ofW (cc := cX2_levels) (maxL := 2) (ret := (some .int)) (by decide) rfl ?_
  intro p e s m args below meth c s₁ B hml hv
  obtain ⟨rfl, hsz, hP, hK, hD0⟩ := hv
  have hx := B.exec
  have hb := B.bytes
  have hr := B.returns
  have hts := atoms_spec (ws := wsX2_levels) B.pre
  have hown : s.vm.findClass RX2 = some m.cls := findClass_of_methodNamed B.named
  have hlocks := B.notSynchronized
  subst hsz
  have hD := hD0.self (sz := s.heap.size)
  generalize hAe : va_A [] s.heap.size = A at hD ⊢
  have hA : ∀ q : Nat, s.heap.size ≤ q → A q := fun q h => by rw [← hAe]; exact Or.inr h
  have hS : va_S A s.heap s.heap [] := va_S.rf
  have hP : va_P (dC, dI) vwCl [] s.heap := hP
  have hl := lv_entry ([.int (nI N)]) (n := 2) (Nat.le_of_ble_eq_true rfl)
  rw [lg_entry_eq]
  generalize (lg_sl ([.int (nI N)]) ++ List.replicate (2 - (lg_sl ([.int (nI N)])).length) Slot.unset).toArray = ls at hl ⊢
  have hl : lv_has ls 2 [(0, .int (nI N))] := hl
  refine lv_iconst (v := (nI 1)) hx hb dX2_levels_0 (by decide) ?_
  refine lv_istore_n (lv' := [(1, .int (nI 1)), (0, .int (nI N))]) hx hb dX2_levels_1 rfl hl (by decide) rfl (fun ls hl => ?_)
  refine lz_loop (σ := Nat) (μ := fun X_ => match X_ with | L => 16 - L) (Inv := fun X_ H locs ls => match X_ with | L => (1 ≤ L) ∧ (L ≤ 16) ∧ va_P (dC, dI) vwCl [] H ∧ va_D A [] ∧ va_S A s.heap H locs ∧ lv_has ls 2 [(0, .int (nI N)), (1, .int (nI L))]) ?_ 1 _ _ _ ?_
  · rintro L ihl H locs ls ⟨vl0, vl1, hP, hD, hS, hl⟩
    refine lv_iload_n hx hb dX2_levels_2 rfl (lv_at hl 1 rfl) ?_
    refine lv_bipush (v := (nI 16)) hx hb dX2_levels_3 (by decide) ?_
    refine lz_icmp_ge (tgt := 21) (by omega) (by omega) hx hb dX2_levels_5 (by decide) (fun c5 => ?_) (fun c5 => ?_)
    · refine lv_iload_n hx hb dX2_levels_21 rfl (lv_at hl 1 rfl) ?_
      have h16 : (2 : Nat) ^ 16 = 65536 := by decide
      have hfin : N ≤ 2 ^ L := by rw [show L = 16 by omega]; omega
      exact W.iret (v := (nI L)) hx hb hr (fun tS ht hW => ⟨⟨(nI L), (), rfl, ⟨L, rfl, vl0, vl1, hfin⟩, by rw [ht]; exact hP, va_K.moved hW.alike hK, hD⟩, hS.F ht⟩) hS.2.2 dX2_levels_22
    · refine lv_iconst (v := (nI 1)) hx hb dX2_levels_8 (by decide) ?_
      refine lv_iload_n hx hb dX2_levels_9 rfl (lv_at hl 1 rfl) ?_
      refine lv_ishl hx hb dX2_levels_10 ?_
      refine lz_top (y := (nI (2 ^ L))) (shl_nI L (by omega)) ?_
      have hpl : 2 ^ L ≤ 65536 := pw16 (by omega)
      refine lv_iload_n hx hb dX2_levels_11 rfl (lv_at hl 0 rfl) ?_
      refine lz_icmp_ge (tgt := 21) (by omega) (by omega) hx hb dX2_levels_12 (by decide) (fun c12 => ?_) (fun c12 => ?_)
      · refine lv_iload_n hx hb dX2_levels_21 rfl (lv_at hl 1 rfl) ?_
        have hfin : N ≤ 2 ^ L := c12
        exact W.iret (v := (nI L)) hx hb hr (fun tS ht hW => ⟨⟨(nI L), (), rfl, ⟨L, rfl, vl0, vl1, hfin⟩, by rw [ht]; exact hP, va_K.moved hW.alike hK, hD⟩, hS.F ht⟩) hS.2.2 dX2_levels_22
      · refine lv_iinc (v := (nI (L + 1))) (lv' := [(1, .int (nI (L + 1))), (0, .int (nI N))]) hx hb dX2_levels_15 hl (k := 1) rfl (by first | exact nI_add L 1 | (rw [← nI_add]; rfl)) (by decide) rfl (fun ls hl => ?_)
        refine lv_goto (tgt := 2) hx hb dX2_levels_18 (by decide) ?_
        exact ihl (L + 1) (by show 16 - (L + 1) < 16 - L; omega) _ _ _ ⟨by omega, by omega, hP, hD, hS, lv_sub hl [1, 0] rfl⟩
  · exact ⟨Nat.le_refl _, by decide, hP, hD, hS, lv_sub hl [1, 0] rfl⟩
set_option maxHeartbeats 4000000 in
set_option maxRecDepth 100000 in
theorem c_X2_check (l : Launch) (dC : Nat → ClassId) (dI : Nat → Nat → Nat) (sz : Nat) (h r k t : Nat) (cA cB : ClassId) (n : Nat) (cm wr lp lc lw : Int32) (K T : Nat → Int32) (hn : n ≤ 500) (hck : ckI lp lc lw) : Met l yX2_check wsX2_check ({ frames := 1, cells := 0, slots := 0, locals := 21 }) (va_Pc [.ref h] (fun U => U.heap.size = sz ∧ va_P (dC, dI) vwCl [(h, .inr (1, [.ref r, .int lp, .int lc, .int lw])), (r, .inr (0, [.ref k, .ref t, .int (nI n), .int cm, .int wr])), (k, .inl (cA, 500, .inl K)), (t, .inl (cB, 500, .inl T))] U.heap ∧ va_K (dC, dI) vwCl [(cA, .int), (cB, .int)] U ∧ va_D (fun _ => True) [(h, .inr (1, [.ref r, .int lp, .int lc, .int lw])), (r, .inr (0, [.ref k, .ref t, .int (nI n), .int cm, .int wr])), (k, .inl (cA, 500, .inl K)), (t, .inl (cB, 500, .inl T))])) (va_Qi (fun r u => r = 1 ∧ (u.2.2.1 = n ∧ mZ u.1 u.2.1 = mZ K T) ∧ okU u) (atX dC dI (va_A [(h, .inr (1, [.ref r, .int lp, .int lc, .int lw])), (r, .inr (0, [.ref k, .ref t, .int (nI n), .int cm, .int wr])), (k, .inl (cA, 500, .inl K)), (t, .inl (cB, 500, .inl T))] sz) h r k t cA cB) (va_A [(h, .inr (1, [.ref r, .int lp, .int lc, .int lw])), (r, .inr (0, [.ref k, .ref t, .int (nI n), .int cm, .int wr])), (k, .inl (cA, 500, .inl K)), (t, .inl (cB, 500, .inl T))] sz)) 0 0 (va_A [(h, .inr (1, [.ref r, .int lp, .int lc, .int lw])), (r, .inr (0, [.ref k, .ref t, .int (nI n), .int cm, .int wr])), (k, .inl (cA, 500, .inl K)), (t, .inl (cB, 500, .inl T))] sz) := by
  refine Met.ofW (cc := cX2_check) (maxL := 3) (ret := (some .int)) (by decide) rfl ?_
  intro p e s m args below meth c s₁ B hml hv
  obtain ⟨rfl, hsz, hP, hK, hD0⟩ := hv
  have hx := B.exec
  have hb := B.bytes
  have hr := B.returns
  have hts := atoms_spec (ws := wsX2_check) B.pre
  have hown : s.vm.findClass RX2 = some m.cls := findClass_of_methodNamed B.named
  have hlocks := B.notSynchronized
  subst hsz
  have hD := hD0.self (sz := s.heap.size)
  generalize hAe : va_A [(h, .inr (1, [.ref r, .int lp, .int lc, .int lw])), (r, .inr (0, [.ref k, .ref t, .int (nI n), .int cm, .int wr])), (k, .inl (cA, 500, .inl K)), (t, .inl (cB, 500, .inl T))] s.heap.size = A at hD ⊢
  have hA : ∀ q : Nat, s.heap.size ≤ q → A q := fun q h => by rw [← hAe]; exact Or.inr h
  have hS : va_S A s.heap s.heap [] := va_S.rf
  have hP : va_P (dC, dI) vwCl [(h, .inr (1, [.ref r, .int lp, .int lc, .int lw])), (r, .inr (0, [.ref k, .ref t, .int (nI n), .int cm, .int wr])), (k, .inl (cA, 500, .inl K)), (t, .inl (cB, 500, .inl T))] s.heap := hP
  have hl := lv_entry ([.ref h]) (n := 3) (Nat.le_of_ble_eq_true rfl)
  rw [lg_entry_eq]
  generalize (lg_sl ([.ref h]) ++ List.replicate (3 - (lg_sl ([.ref h])).length) Slot.unset).toArray = ls at hl ⊢
  have hl : lv_has ls 3 [(0, .ref h)] := hl
  obtain ⟨N, g, g2, rfl, hN, rfl, hg, hgb, rfl, hg2, hg2b⟩ := id hck
  refine lv_aload_n hx hb dX2_check_0 rfl (lv_at hl 0 rfl) ?_
  refine va_get (D := (dC, dI)) (ci := 1) (v := .int (nI N)) (C := RX2) (T := TX2) (N := 4) hx hb hts (by decide +kernel) hown hK hP 0 rfl rfl 1 (by decide) (hts (.fieldLink RX2 100 "RowPress" "latestPairs" "I") (by decide +kernel)) (fun _ h9 => h9) rfl dX2_check_1 ?_
  refine lv_aload_n hx hb dX2_check_4 rfl (lv_at hl 0 rfl) ?_
  refine va_get (D := (dC, dI)) (ci := 1) (v := .int (nI N)) (C := RX2) (T := TX2) (N := 4) hx hb hts (by decide +kernel) hown hK hP 0 rfl rfl 1 (by decide) (hts (.fieldLink RX2 100 "RowPress" "latestPairs" "I") (by decide +kernel)) (fun _ h9 => h9) rfl dX2_check_5 ?_
  have hPc := hP.sub (ws' := []) [] rfl
  have hDc := hD.sub (ws' := []) [] (by decide) rfl
  have hKc := hK.sub (tys' := []) [] rfl
  have hFc := va_free (wc := []) hD hS hA [] rfl
  refine va_calli (va_runS (As := [.int (nI N)]) (rest := [.int (nI N)]) ⟨hx, hb, hml, hown, hts⟩ (c_X2_levels l dC dI s.heap.size N hN) (va_cwS 1 hts gX2_check_X2_levels rfl rfl rfl (by decide +kernel) ⟨Nat.le_of_ble_eq_true rfl, Nat.le_of_ble_eq_true rfl⟩) ⟨fun a U g mk q => by obtain ⟨q0, q1, qP, qK, qD⟩ := q; exact ⟨q0, q1, qP, va_K.moved (u := U) (U := U.calling g mk a) (Vm.Alike.refl U.vm) qK, qD⟩, fun U hU hW => ⟨rfl, by rw [hU], by rw [hU]; exact hPc, va_K.moved hW.alike hKc, hDc.weaken (fun _ _ _ _ => trivial)⟩⟩ rfl rfl hl.1 rfl (lv_room (Nat.le_of_ble_eq_true rfl)) dX2_check_8 ⟨Nat.le_of_ble_eq_true rfl, Nat.le_of_ble_eq_true rfl⟩) hS (fun q _ h => hFc q h) hFc (fun r_1 u tS H1 locs ht hvm hw hB hz1 hk1 hS => ?_)
  obtain ⟨L, rfl, hL1, hL2, hL3⟩ := hw
  obtain ⟨hP1, hK1, hD1⟩ := hB
  rw [ht] at hP1
  obtain ⟨hP, hD⟩ := va_join (wr := [(h, .inr (1, [.ref r, .int (nI N), .int (nI g), .int (nI g2)])), (r, .inr (0, [.ref k, .ref t, .int (nI n), .int cm, .int wr])), (k, .inl (cA, 500, .inl K)), (t, .inl (cB, 500, .inl T))]) (w1 := []) hP hD [] [0, 1, 2, 3] rfl rfl (by decide) (by decide) hk1 hFc hP1 hD1
  generalize H1 = H at hP hS ⊢
  have hP : va_P (dC, dI) vwCl [(h, .inr (1, [.ref r, .int (nI N), .int (nI g), .int (nI g2)])), (r, .inr (0, [.ref k, .ref t, .int (nI n), .int cm, .int wr])), (k, .inl (cA, 500, .inl K)), (t, .inl (cB, 500, .inl T))] H := hP
  have hD : va_D A [(h, .inr (1, [.ref r, .int (nI N), .int (nI g), .int (nI g2)])), (r, .inr (0, [.ref k, .ref t, .int (nI n), .int cm, .int wr])), (k, .inl (cA, 500, .inl K)), (t, .inl (cB, 500, .inl T))] := hD
  have hnl : N * L ≤ 500 * 16 := Nat.mul_le_mul hN hL2
  have b8 := hg L hL1 hL3
  have b40 := hg2 L hL1 hL3
  rw [Nat.mul_assoc] at b8 b40
  refine lv_imul hx hb dX2_check_11 ?_
  refine lz_top (y := (nI (N * L))) (pk_mul _ _) ?_
  refine lv_istore_n (lv' := [(1, .int (nI (N * L))), (0, .ref h)]) hx hb dX2_check_12 rfl hl (by decide) rfl (fun ls hl => ?_)
  refine lv_aload_n hx hb dX2_check_13 rfl (lv_at hl 1 rfl) ?_
  refine va_get (D := (dC, dI)) (ci := 1) (v := .int (nI g)) (C := RX2) (T := TX2) (N := 4) hx hb hts (by decide +kernel) hown hK hP 0 rfl rfl 2 (by decide) (hts (.fieldLink RX2 107 "RowPress" "latestCompares" "I") (by decide +kernel)) (fun _ h9 => h9) rfl dX2_check_14 ?_
  refine lv_bipush (v := (nI 8)) hx hb dX2_check_17 (by decide) ?_
  refine lv_iload_n hx hb dX2_check_19 rfl (lv_at hl 0 rfl) ?_
  refine lv_imul hx hb dX2_check_20 ?_
  refine lz_top (y := (nI (8 * (N * L)))) (pk_mul _ _) ?_
  refine lz_icmp_gt (tgt := 39) (by omega) (by omega) hx hb dX2_check_21 (by decide) (fun c21 => ?_) (fun c21 => ?_)
  · exfalso; omega
  · refine lv_aload_n hx hb dX2_check_24 rfl (lv_at hl 1 rfl) ?_
    refine va_get (D := (dC, dI)) (ci := 1) (v := .int (nI g2)) (C := RX2) (T := TX2) (N := 4) hx hb hts (by decide +kernel) hown hK hP 0 rfl rfl 3 (by decide) (hts (.fieldLink RX2 110 "RowPress" "latestWrites" "I") (by decide +kernel)) (fun _ h9 => h9) rfl dX2_check_25 ?_
    refine lv_bipush (v := (nI 40)) hx hb dX2_check_28 (by decide) ?_
    refine lv_iload_n hx hb dX2_check_30 rfl (lv_at hl 0 rfl) ?_
    refine lv_imul hx hb dX2_check_31 ?_
    refine lz_top (y := (nI (40 * (N * L)))) (pk_mul _ _) ?_
    refine lz_icmp_gt (tgt := 39) (by omega) (by omega) hx hb dX2_check_32 (by decide) (fun c32 => ?_) (fun c32 => ?_)
    · exfalso; omega
    · refine lv_iconst (v := (nI 1)) hx hb dX2_check_35 (by decide) ?_
      refine lv_goto (tgt := 40) hx hb dX2_check_36 (by decide) ?_
      refine lv_istore_n (lv' := [(2, .int (nI 1)), (1, .int (nI (N * L))), (0, .ref h)]) hx hb dX2_check_40 rfl hl (by decide) rfl (fun ls hl => ?_)
      refine lv_iload_n hx hb dX2_check_41 rfl (lv_at hl 0 rfl) ?_
      refine lz_if_eq (tgt := 49) (by omega) hx hb dX2_check_42 (by decide) (fun c42 => ?_) (fun c42 => ?_)
      · exact absurd c42 (by decide)
      · refine lv_iconst (v := (nI 1)) hx hb dX2_check_45 (by decide) ?_
        refine lv_goto (tgt := 50) hx hb dX2_check_46 (by decide) ?_
        exact W.iret (v := (nI 1)) hx hb hr (fun tS ht hW => ⟨⟨(nI 1), (K, T, n, cm, wr, (nI N), (nI g), (nI g2)), rfl, ⟨rfl, ⟨rfl, rfl⟩, ⟨hn, hck⟩⟩, by rw [ht]; exact hP, va_K.moved hW.alike hK, hD⟩, hS.F ht⟩) hS.2.2 dX2_check_50
end
section
theorem zz_last : True := trivial
end
