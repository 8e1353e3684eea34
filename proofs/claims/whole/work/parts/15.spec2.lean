/-! RowPress: its state, and pure rows for its walks. -/
abbrev PSt : Type := (Nat → Int32) × (Nat → Int32) × Nat × Int32 × Int32 × Int32 × Int32 × Int32
abbrev wX (h r k t : Nat) (cA cB : ClassId) (u : PSt) : va_W := [(h, .inr (1, [.ref r, .int u.2.2.2.2.2.1, .int u.2.2.2.2.2.2.1, .int u.2.2.2.2.2.2.2])), (r, .inr (0, [.ref k, .ref t, .int (nI u.2.2.1), .int u.2.2.2.1, .int u.2.2.2.2.1])), (k, .inl (cA, 500, .inl u.1)), (t, .inl (cB, 500, .inl u.2.1))]
abbrev atX (dC : Nat → ClassId) (dI : Nat → Nat → Nat) (A : Nat → Prop) (h r k t : Nat) (cA cB : ClassId) (u : PSt) (U : State) : Prop := va_P (dC, dI) vwCl (wX h r k t cA cB u) U.heap ∧ va_K (dC, dI) vwCl [(cA, .int), (cB, .int)] U ∧ va_D A (wX h r k t cA cB u)
def okU (u : PSt) : Prop := u.2.2.1 ≤ 500 ∧ ckI u.2.2.2.2.2.1 u.2.2.2.2.2.2.1 u.2.2.2.2.2.2.2
theorem rm_1 {n : Nat} (hn : n ≤ 500) (h : ¬ nI (500 - n) < nI 1) : n < 500 := by
  rcases Nat.lt_or_ge n 500 with q | q
  · exact q
  · rw [show 500 - n = 0 by omega] at h
    exact absurd (by decide) h
theorem rm_0 {n : Nat} (hn : n ≤ 500) (h : ¬ ¬ nI (500 - n) < nI 1) : n = 500 := by
  rcases Nat.lt_or_ge n 500 with q | q
  · exact absurd (nI_nlt (by omega) (by omega)) h
  · omega
theorem dN_of {n : Nat} {x : Int32} (hn : n ≤ 500) (h1 : ¬ x < nI 1) (h2 : ¬ nI (500 - n) < x) : ∃ z, dN n x z := by
  have h0 : ¬ x < 0 := fun q => h1 (by
    rw [Int32.lt_iff_toInt_lt] at *
    have e0 : (0 : Int32).toInt = 0 := by decide
    have e1 : (nI 1).toInt = 1 := by decide
    omega)
  obtain ⟨z, hz, rfl⟩ := nI_of h0
  refine ⟨z, rfl, ?_, ?_⟩
  · rcases Nat.lt_or_ge z 1 with q | q
    · exact absurd (nI_lt q (by decide)) h1
    · exact q
  · rcases Nat.lt_or_ge (500 - n) z with q | q
    · exact absurd (nI_lt q hz) h2
    · omega
theorem dN_e {n z : Nat} {x : Int32} (h : dN n x z) : ¬ x < nI 1 ∧ ¬ nI (500 - n) < x := by
  obtain ⟨rfl, h1, h2⟩ := h
  exact ⟨nI_nlt h1 (by omega), nI_nlt (by omega) (by omega)⟩
/-- a run half done -/
def rnI (K T K1 T1 : Nat → Int32) (n q : Nat) (y v w : Int32) : Prop := (∀ j, j < n → mZ K1 T1 j = mZ K T j) ∧ ∀ i, i < q → mZ K1 T1 (n + i) = (y + nI i * v, w + nI i)
theorem rnI_0 {K T : Nat → Int32} {n : Nat} {y v w : Int32} : rnI K T K T n 0 y v w := ⟨fun _ _ => rfl, fun i h => absurd h (Nat.not_lt_zero i)⟩
theorem rnI_s {K T K1 T1 : Nat → Int32} {n q n1 : Nat} {y v w : Int32} (h : rnI K T K1 T1 n q y v w) (e : n1 = n + q) : rnI K T (upd K1 n1 (y + nI q * v)) (upd T1 n1 (w + nI q)) n (q + 1) y v w := by
  constructor
  · intro j hj
    rw [mZ_put, if_neg (by omega)]; exact h.1 j hj
  · intro i hi
    rw [mZ_put]
    rcases Nat.lt_or_ge i q with c | c
    · rw [if_neg (by omega)]; exact h.2 i c
    · rw [if_pos (by omega), show i = q by omega]
theorem z_ad (g : Nat) : nI 0 + nI g = nI g := by rw [nI_add, Nat.zero_add]
theorem ps_cnt {o : Nat} {v : Int32} {f g : Nat → mP} {a b : Nat} {φ : Int32 → Int} (h : sm φ (sg f a b) (sg g a b)) : cn (fun j => mk o (g j).1 < mk o v) a (b - a) = cn (fun j => mk o (f j).1 < mk o v) a (b - a) := by
  have h1 := sm_cn h (fun q => decide (mk o q.1 < mk o v))
  have c1 := cn_congr (P := fun j => decide (mk o (f j).1 < mk o v) = true) (P' := fun j => mk o (f j).1 < mk o v) (a := a) (a' := a) (b - a) (fun j _ => by simp)
  have c2 := cn_congr (P := fun j => decide (mk o (g j).1 < mk o v) = true) (P' := fun j => mk o (g j).1 < mk o v) (a := a) (a' := a) (b - a) (fun j _ => by simp)
  rw [← c1, ← c2, h1]
theorem ran_eq {o n z : Nat} {f : Nat → mP} (h : z < n) : cn (fun j => ¬ mk o (f z).1 < mk o (f j).1) 0 (z - 0) + cn (fun j => mk o (f j).1 < mk o (f z).1) z (n - z) = pl (mk o) f 0 n z := by
  unfold pl
  rw [Nat.zero_add, show n - 0 = z + (n - z) by omega, cn_app, Nat.zero_add]
  congr 1
  · exact cn_congr _ (fun j hj => by simp only [plP]; omega)
  · exact cn_congr _ (fun j hj => by simp only [plP]; omega)
theorem tb_out {x : Int32} (h0 : ¬ x = nI 0) (h1 : ¬ x = nI 1) (h2 : ¬ x = nI 2) : x.toInt < 0 ∨ 2 < x.toInt := by
  have e0 : ¬ x.toInt = 0 := fun q => h0 (Int32.toInt_inj.mp (by rw [q]; decide))
  have e1 : ¬ x.toInt = 1 := fun q => h1 (Int32.toInt_inj.mp (by rw [q]; decide))
  have e2 : ¬ x.toInt = 2 := fun q => h2 (Int32.toInt_inj.mp (by rw [q]; decide))
  omega
theorem shl_nI : ∀ L, L < 16 → nI 1 <<< (nI L &&& 31) = nI (2 ^ L) := by decide +kernel
theorem pw16 {L : Nat} (h : L ≤ 16) : 2 ^ L ≤ 65536 := Nat.pow_le_pow_right (by decide) h
/-- the cost of a merge and its looks -/
theorem mc_8 {n g x y kk : Nat} (h1 : g + kk + 2 ≤ 2 * 2 ^ kk) (hx : x + y ≤ n) (hl : ∀ j, j < kk → ¬ n ≤ 2 ^ j) : cO 8 n (x + y + g) := by
  intro L hL hn
  have hk : kk ≤ L := by
    rcases Nat.lt_or_ge L kk with q | q
    · exact absurd hn (hl L q)
    · exact q
  have hg : g ≤ 4 * n := by
    cases kk with
    | zero => rw [Nat.pow_zero] at h1; omega
    | succ k =>
      have := hl k (by omega)
      rw [Nat.pow_succ] at h1
      omega
  have h3 : 8 * n * 1 ≤ 8 * n * L := Nat.mul_le_mul_left _ hL
  omega
theorem mc_40 {n g kk : Nat} (h1 : g ≤ 2 * n * kk) (hl : ∀ j, j < kk → ¬ n ≤ 2 ^ j) : cO 40 n g := by
  intro L hL hn
  have hk : kk ≤ L := by
    rcases Nat.lt_or_ge L kk with q | q
    · exact absurd hn (hl L q)
    · exact q
  exact Nat.le_trans h1 (Nat.mul_le_mul (Nat.mul_le_mul_right n (by decide)) hk)
theorem mc_k {n : Nat} (hn : n ≤ 500) : ∃ kk, kk ≤ 9 ∧ n ≤ 2 ^ kk ∧ ∀ j, j < kk → ¬ n ≤ 2 ^ j := by
  have h9 : (2 : Nat) ^ 9 = 512 := by decide
  have hh : n ≤ 2 ^ 9 := by omega
  obtain ⟨kk, h1, h2⟩ := pk_least (fun k => n ≤ 2 ^ k) ⟨9, hh⟩
  refine ⟨kk, ?_, h1, h2⟩
  rcases Nat.lt_or_ge 9 kk with q | q
  · exact absurd hh (h2 9 q)
  · exact q
theorem mc_g {g kk : Nat} (h1 : g + kk + 2 ≤ 2 * 2 ^ kk) (hk : kk ≤ 9) : g ≤ 1024 := by
  have h2 : 2 ^ kk ≤ 2 ^ 9 := Nat.pow_le_pow_right (by decide) hk
  have : (2 : Nat) ^ 9 = 512 := by decide
  omega
theorem mc_w {g n kk : Nat} (h1 : g ≤ 2 * n * kk) (hn : n ≤ 500) (hk : kk ≤ 9) : g ≤ 9000 := by
  have h2 : 2 * n * kk ≤ 2 * 500 * 9 := Nat.mul_le_mul (Nat.mul_le_mul_left _ hn) hk
  omega
