/-! What the constructors leave behind. -/
abbrev atR0 (dC : Nat → ClassId) (dI : Nat → Nat → Nat) (A : Nat → Prop) (r : Nat) (_ : Unit) (U : State) : Prop := ∃ (k t : Nat) (cA cB : ClassId), atR dC dI A r k t cA cB (fun _ => 0, fun _ => 0, 0, 0, 0) U
abbrev atX0 (dC : Nat → ClassId) (dI : Nat → Nat → Nat) (A : Nat → Prop) (h : Nat) (_ : Unit) (U : State) : Prop := ∃ (r k t : Nat) (cA cB : ClassId), atX dC dI A h r k t cA cB (fun _ => 0, fun _ => 0, 0, 0, 0, 0, 0, 0) U
abbrev atM0 (dC : Nat → ClassId) (dI : Nat → Nat → Nat) (A : Nat → Prop) (h : Nat) (_ : Unit) (U : State) : Prop := ∃ (k t k2 t2 : Nat) (cA cB cC cD : ClassId), atM dC dI A h k t k2 t2 cA cB cC cD (fun _ => 0, fun _ => 0, 0, fun _ => 0, fun _ => 0) U
section LZ2
variable {p : Program} {l : Launch} {e : Env} {R : Room} {s : State} {m : MethodId} {args : Array Value} {below : List Frame} {meth : Method} {c : Code} {H H0 : Heap} {locs : List Loc} {cells slots : Nat} {Q : State → Prop} {cc : ByteArray} {pc : Nat} {ls : Array Slot} {rest : List Value} {A : Nat → Prop}
theorem lz_sld (hexec : p.tables.exec = Jvm.exec) (hb : c.code = cc) {b L : Nat} {xs : Nat → Int32} (hX : va_X b L xs s H0) (hbl : b < H0.size) (hbA : ¬ A b) (hS : va_S A H0 H locs) {i : Nat} (hi : i < L) (hL : L ≤ 2560) (hdg : decode cc pc = .ok (.iaload, 1))
    (kk : W p l e R s m args below meth c H locs cells slots Q (F0 m (pc + 1) ls (.int (xs i) :: rest))) : W p l e R s m args below meth c H locs cells slots Q (F0 m pc ls (.int (nI i) :: .ref b :: rest)) :=
  va_sld hexec hb hX hbl hbA hS (vp_in_nI hi (by omega)) hdg (by rw [nI_clamp (by omega)]; exact kk)
end LZ2
theorem lw_in {L i : Nat} (hL : L ≤ 2560) (hi : i ≤ L) (h : ¬ nI L - nI 5 < nI i) : i + 5 ≤ L := by
  rw [Int32.lt_iff_toInt_lt, pk_sub_toInt (by omega) (by decide), nI_toInt (by omega)] at h
  omega
theorem and31 (x : Int32) : ∃ j : Nat, j < 32 ∧ x &&& nI 31 = nI j := pk_andE x 5 (by decide)
theorem tb_hi {j : Nat} (h : 17 ≤ j) (h2 : j < 32) : (nI j).toInt < 0 ∨ 16 < (nI j).toInt := by
  rw [nI_toInt (by omega)]; omega
theorem ag_rd {n n1 : Nat} {f f1 g : Nat → mP} (e : ∀ j, j < n → f j = g j) (h1 : n1 = n) (h2 : f1 = f) : ∀ j, j < n1 → f1 j = g j := fun j hj => by rw [h2]; exact e j (by omega)
