/-! WHAT A STATE IS. Row: keys, tags, how many, the two counters. -/
abbrev RS : Type := (Nat → Int32) × (Nat → Int32) × Nat × Int32 × Int32
abbrev wR (r k t : Nat) (cA cB : ClassId) (u : RS) : va_W := [(r, .inr (0, [.ref k, .ref t, .int (nI u.2.2.1), .int u.2.2.2.1, .int u.2.2.2.2])), (k, .inl (cA, 500, .inl u.1)), (t, .inl (cB, 500, .inl u.2.1))]
abbrev atR (dC : Nat → ClassId) (dI : Nat → Nat → Nat) (A : Nat → Prop) (r k t : Nat) (cA cB : ClassId) (u : RS) (U : State) : Prop := va_P (dC, dI) vwCl (wR r k t cA cB u) U.heap ∧ va_K (dC, dI) vwCl [(cA, .int), (cB, .int)] U ∧ va_D A (wR r k t cA cB u)
abbrev at0 (dC : Nat → ClassId) (dI : Nat → Nat → Nat) (A : Nat → Prop) (_ : Unit) (U : State) : Prop := va_P (dC, dI) vwCl [] U.heap ∧ va_K (dC, dI) vwCl [] U ∧ va_D A []
/-- there is such an order; such a place; such a stretch -/
def exO (o : Int32) : Prop := ¬ o < 0 ∧ ¬ nI 3 < o
def plO (n : Nat) (x : Int32) : Prop := ¬ x < 0 ∧ ¬ nI n ≤ x
def stP (n : Nat) (x y : Int32) : Prop := ¬ x < 0 ∧ ¬ y < x ∧ ¬ nI n < y
theorem ng_le {x y : Int32} (h : ¬ y ≤ x) : x < y := by
  rw [Int32.le_iff_toInt_le] at h; rw [Int32.lt_iff_toInt_lt]; omega
theorem ng_lt {x y : Int32} (h : x < y) (h2 : y ≤ x) : False := by
  rw [Int32.lt_iff_toInt_lt] at h; rw [Int32.le_iff_toInt_le] at h2; omega
theorem exO_of {o : Int32} (h : exO o) : ∃ j : Nat, j < 4 ∧ o = nI j := by
  obtain ⟨j, j1, rfl⟩ := nI_of h.1
  refine ⟨j, ?_, rfl⟩
  rcases Nat.lt_or_ge 3 j with q | q
  · exact absurd (nI_lt q (by omega)) h.2
  · omega
theorem exO_nI {j : Nat} (h : j < 4) : exO (nI j) := ⟨nI_pos (by omega), nI_nlt (by omega) (by omega)⟩
theorem plO_of {n : Nat} {x : Int32} (hn : n ≤ 500) (h : plO n x) : ∃ j : Nat, j < n ∧ x = nI j := by
  obtain ⟨j, j1, rfl⟩ := nI_of h.1
  refine ⟨j, ?_, rfl⟩
  rcases Nat.lt_or_ge j n with q | q
  · exact q
  · exact absurd (nI_le q (by omega)) h.2
theorem stP_of {n : Nat} {x y : Int32} (hn : n ≤ 500) (h : stP n x y) : ∃ a b : Nat, x = nI a ∧ y = nI b ∧ a ≤ b ∧ b ≤ n := by
  obtain ⟨h1, h2, h3⟩ := h
  obtain ⟨a, ha, rfl⟩ := nI_of h1
  have hy : ¬ y < 0 := fun q => h2 (by
    rw [Int32.lt_iff_toInt_lt] at *
    rw [nI_toInt ha]
    have : (0 : Int32).toInt = 0 := by decide
    omega)
  obtain ⟨b, hb, rfl⟩ := nI_of hy
  refine ⟨a, b, rfl, rfl, ?_, ?_⟩
  · rcases Nat.lt_or_ge b a with q | q
    · exact absurd (nI_lt q ha) h2
    · exact q
  · rcases Nat.lt_or_ge n b with q | q
    · exact absurd (nI_lt q hb) h3
    · exact q
theorem stP_nI {n a b : Nat} (hn : n ≤ 500) (h1 : a ≤ b) (h2 : b ≤ n) : stP n (nI a) (nI b) := ⟨nI_pos (by omega), nI_nlt h1 (by omega), nI_nlt h2 (by omega)⟩
/-- orders as RowPress asks them -/
theorem mk0 {x y : Int32} : mk 0 x < mk 0 y ↔ x < y := by
  rw [Int32.lt_iff_toInt_lt]; exact Iff.rfl
theorem mk1 {x y : Int32} : mk 1 x < mk 1 y ↔ x ^^^ (-2147483648) < y ^^^ (-2147483648) := by
  rw [Int32.lt_iff_toInt_lt]; exact Iff.rfl
theorem mk2 {x y : Int32} : mk 2 x < mk 2 y ↔ y < x := by
  rw [Int32.lt_iff_toInt_lt]
  show -x.toInt < -y.toInt ↔ _
  omega
theorem mk3 {x y : Int32} : mk 3 x < mk 3 y ↔ x &&& nI 255 < y &&& nI 255 := by
  rw [Int32.lt_iff_toInt_lt]; exact Iff.rfl
/-- orders as the reference asks them: unsigned by longs -/
theorem nat_xor31 {a : Nat} (h : a < 4294967296) : a ^^^ 2 ^ 31 = (a + 2147483648) % 4294967296 := by
  have h1 : (a ^^^ 2 ^ 31) % 2 ^ 31 = a % 2 ^ 31 := by rw [Nat.xor_mod_two_pow, Nat.mod_self, Nat.xor_zero]
  have h2 : (a ^^^ 2 ^ 31) / 2 ^ 31 = (a / 2 ^ 31) ^^^ 1 := by rw [Nat.xor_div_two_pow, Nat.div_self (Nat.two_pow_pos 31)]
  have h3 : a / 2 ^ 31 = 0 ∨ a / 2 ^ 31 = 1 := by omega
  generalize a ^^^ 2 ^ 31 = t at h1 h2
  rcases h3 with h3 | h3
  · rw [h3] at h2
    have h2 : t / 2 ^ 31 = 1 := h2
    omega
  · rw [h3] at h2
    have h2 : t / 2 ^ 31 = 0 := h2
    omega
theorem xor31 (x : Int32) : (x ^^^ (-2147483648)).toInt = (x.toBitVec.toNat : Int) - 2147483648 := by
  have hlt : x.toBitVec.toNat < 4294967296 := x.toBitVec.isLt
  have h1 : (x ^^^ (-2147483648)).toBitVec.toNat = (x.toBitVec.toNat + 2147483648) % 4294967296 := by
    rw [← nat_xor31 hlt]
    show (x.toBitVec ^^^ (-2147483648 : Int32).toBitVec).toNat = _
    rw [BitVec.toNat_xor]
    rfl
  show (x ^^^ (-2147483648)).toBitVec.toInt = _
  rw [BitVec.toInt_eq_toNat_cond, h1]
  split <;> omega
theorem and32 (x : Int32) : (x.toInt64 &&& 4294967295) = lN x.toBitVec.toNat := by
  have hlt : x.toBitVec.toNat < 4294967296 := x.toBitVec.isLt
  apply Int64.toBitVec_inj.mp
  apply BitVec.eq_of_toNat_eq
  show (x.toInt64.toBitVec &&& 4294967295#64).toNat = (BitVec.ofNat 64 x.toBitVec.toNat).toNat
  rw [BitVec.toNat_and, show (4294967295#64).toNat = 2 ^ 32 - 1 from by decide, Nat.and_two_pow_sub_one_eq_mod, BitVec.toNat_ofNat]
  have h2 : x.toInt64.toBitVec.toInt = x.toBitVec.toInt := Int32.toInt_toInt64 x
  have h3 := BitVec.toInt_eq_toNat_cond x.toInt64.toBitVec
  have h4 := BitVec.toInt_eq_toNat_cond x.toBitVec
  have h5 : x.toInt64.toBitVec.toNat < 18446744073709551616 := x.toInt64.toBitVec.isLt
  rw [h2, h4] at h3
  split at h3 <;> split at h3 <;> omega
theorem mkU {x y : Int32} : mk 1 x < mk 1 y ↔ (x.toInt64 &&& 4294967295) < (y.toInt64 &&& 4294967295) := by
  have h1 : x.toBitVec.toNat < 4294967296 := x.toBitVec.isLt
  have h2 : y.toBitVec.toNat < 4294967296 := y.toBitVec.isLt
  rw [and32, and32, pk_lLT (by omega) (by omega)]
  show (x ^^^ (-2147483648)).toInt < (y ^^^ (-2147483648)).toInt ↔ _
  rw [xor31, xor31]
  omega
theorem tr_nar {r : Int32} {P : Prop} (h : tr r P) : narrow .boolean (.int r) = .int r := by
  rcases h with ⟨h, _⟩ | ⟨h, _⟩ <;> rw [h] <;> rfl
/-- one step of a count, of a sorted stretch -/
theorem cn_st {P : Nat → Prop} {a p : Nat} (h : a ≤ p) (hp : P p) : cn P a (p + 1 - a) = cn P a (p - a) + 1 := by
  rw [show p + 1 - a = (p - a) + 1 by omega]
  exact cn_t (by rw [show a + (p - a) = p by omega]; exact hp)
theorem cn_sf {P : Nat → Prop} {a p : Nat} (h : a ≤ p) (hp : ¬ P p) : cn P a (p + 1 - a) = cn P a (p - a) := by
  rw [show p + 1 - a = (p - a) + 1 by omega]
  exact cn_f (by rw [show a + (p - a) = p by omega]; exact hp)
theorem cn_s0 {P : Nat → Prop} {a : Nat} : 0 = cn P a (a - a) := by rw [Nat.sub_self]; rfl
theorem srt_snoc {φ : Int32 → Int} {f : Nat → mP} {a p : Nat} (h : srt φ f a p) (hp : a < p → φ (f (p - 1)).1 ≤ φ (f p).1) : srt φ f a (p + 1) := by
  intro i j hi hij hj
  rcases Nat.lt_or_ge j p with q | q
  · exact h i j hi hij q
  · have : j = p := by omega
    subst this
    rcases Nat.lt_or_ge i j with r | r
    · exact Int.le_trans (h i (j - 1) hi (by omega) (by omega)) (hp (by omega))
    · rw [show i = j by omega]; exact Int.le_refl _
