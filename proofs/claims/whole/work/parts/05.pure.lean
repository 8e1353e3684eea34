/-! PURE ROWS for the walks: orders, swaps, turning, counting. -/
/-- where a key stands in an order -/
def mk (o : Nat) (x : Int32) : Int := match o with
  | 1 => (x ^^^ (-2147483648)).toInt
  | 2 => -x.toInt
  | 3 => (x &&& 255).toInt
  | _ => x.toInt
theorem upd_at (f : Nat → Int32) (k : Nat) (x : Int32) (j : Nat) : upd f k x j = if j = k then x else f j := by
  by_cases h : j = k
  · rw [if_pos h, h, pk_us]
  · rw [if_neg h, pk_un h]
/-- two places changed -/
theorem mZ_swap (K T : Nat → Int32) (i j : Nat) (x : Nat) : mZ (upd (upd K i (K j)) j (K i)) (upd (upd T i (T j)) j (T i)) x = if x = j then mZ K T i else if x = i then mZ K T j else mZ K T x := by
  simp only [mZ, upd_at]
  by_cases h1 : x = j
  · simp only [if_pos h1]
  · simp only [if_neg h1]
    by_cases h2 : x = i
    · simp only [if_pos h2]
    · simp only [if_neg h2]
theorem mZ_put (K T : Nat → Int32) (i : Nat) (k t : Int32) (x : Nat) : mZ (upd K i k) (upd T i t) x = if x = i then (k, t) else mZ K T x := by
  simp only [mZ, upd_at]
  by_cases h1 : x = i
  · simp only [if_pos h1]
  · simp only [if_neg h1]
/-- half turned -/
def rvI (f g : Nat → mP) (a b lo hi : Nat) : Prop := ∀ j, g j = if (a ≤ j ∧ j < lo) ∨ (hi < j ∧ j < b) then f (a + b - 1 - j) else f j
theorem rvI_0 {f : Nat → mP} {a b : Nat} : rvI f f a b a (b - 1) := fun j => by
  rw [if_neg (by omega)]
theorem rvI_step {f g g' : Nat → mP} {a b lo hi : Nat} (h : rvI f g a b lo hi) (h1 : a ≤ lo) (h2 : lo < hi) (h3 : lo + hi + 1 = a + b) (hg : ∀ x, g' x = if x = hi then g lo else if x = lo then g hi else g x) : rvI f g' a b (lo + 1) (hi - 1) := by
  intro j
  rw [hg j]
  by_cases c1 : j = hi
  · rw [if_pos c1, h lo, if_neg (by omega), if_pos (by omega)]; congr 1; omega
  · rw [if_neg c1]
    by_cases c2 : j = lo
    · rw [if_pos c2, h hi, if_neg (by omega), if_pos (by omega)]; congr 1; omega
    · rw [if_neg c2, h j]
      by_cases c3 : (a ≤ j ∧ j < lo) ∨ (hi < j ∧ j < b)
      · rw [if_pos c3, if_pos (by omega)]
      · rw [if_neg c3, if_neg (by omega)]
theorem rvI_end {f g : Nat → mP} {a b lo hi : Nat} (h : rvI f g a b lo hi) (h1 : a ≤ lo) (h2 : hi ≤ lo) (h3 : lo + hi + 1 = a + b) : g = rv f a b := by
  funext j
  rw [h j]
  simp only [rv]
  by_cases c1 : (a ≤ j ∧ j < lo) ∨ (hi < j ∧ j < b)
  · rw [if_pos c1]
    by_cases c2 : a ≤ j ∧ j < b
    · rw [if_pos c2]
    · rw [if_neg c2]; exfalso; omega
  · rw [if_neg c1]
    by_cases c2 : a ≤ j ∧ j < b
    · rw [if_pos c2]; congr 1; omega
    · rw [if_neg c2]
theorem rv_id {f : Nat → mP} {a b : Nat} (h : b ≤ a + 1) : rv f a b = f := by
  funext j
  simp only [rv]
  by_cases c2 : a ≤ j ∧ j < b
  · rw [if_pos c2]; congr 1; omega
  · rw [if_neg c2]
theorem rv_out {f : Nat → mP} {a b j : Nat} (h : j < a ∨ b ≤ j) : rv f a b j = f j := by
  simp only [rv]; rw [if_neg (by omega)]
/-- how many of n places, from a on, are so -/
def cn (P : Nat → Prop) (a : Nat) : Nat → Nat
  | 0 => 0
  | n + 1 => cn P a n + (@ite _ (P (a + n)) (Classical.propDecidable _) 1 0)
theorem cn_t {P : Nat → Prop} {a n : Nat} (h : P (a + n)) : cn P a (n + 1) = cn P a n + 1 := by
  show cn P a n + _ = _; rw [if_pos h]
theorem cn_f {P : Nat → Prop} {a n : Nat} (h : ¬ P (a + n)) : cn P a (n + 1) = cn P a n := by
  show cn P a n + _ = _; rw [if_neg h, Nat.add_zero]
theorem cn_le (P : Nat → Prop) (a : Nat) : ∀ n, cn P a n ≤ n := by
  intro n
  induction n with
  | zero => exact Nat.le_refl _
  | succ n ih =>
    by_cases h : P (a + n)
    · rw [cn_t h]; omega
    · rw [cn_f h]; omega
theorem cn_congr {P P' : Nat → Prop} {a a' : Nat} : ∀ n, (∀ j, j < n → (P (a + j) ↔ P' (a' + j))) → cn P a n = cn P' a' n := by
  intro n
  induction n with
  | zero => intro _; rfl
  | succ n ih =>
    intro h
    have h1 := ih (fun j hj => h j (by omega))
    by_cases c : P (a + n)
    · rw [cn_t c, cn_t ((h n (by omega)).mp c), h1]
    · rw [cn_f c, cn_f (fun q => c ((h n (by omega)).mpr q)), h1]
theorem cn_app (P : Nat → Prop) (a m : Nat) : ∀ n, cn P a (m + n) = cn P a m + cn P (a + m) n := by
  intro n
  induction n with
  | zero => rfl
  | succ n ih =>
    have e : a + (m + n) = a + m + n := by omega
    by_cases c : P (a + (m + n))
    · rw [← Nat.add_assoc, cn_t c, cn_t (P := P) (a := a + m) (n := n) (by rw [← e]; exact c), ih]; omega
    · rw [← Nat.add_assoc, cn_f c, cn_f (P := P) (a := a + m) (n := n) (by rw [← e]; exact c), ih]
