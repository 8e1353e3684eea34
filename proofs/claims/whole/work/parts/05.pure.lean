/-! PURE ROWS for the walks: orders, swaps, turning, counting. -/
/-- where a key stands in an order -/
def mk (o : Nat) (x : Int32) : Int := match o with
  | 1 => (x ^^^ (-2147483648)).toInt
  | 2 => -x.toInt
  | 3 => (x &&& 255).toInt
  | _ => x.toInt
theorem upd_at (f : Nat → Int32) (k : Nat) (x : Int32) (j : Nat) : upd f k x j = if j = k then x else f j := by
  by_cases h : j = k
  · rw [if_pos h, h, pk_us]
  · rw [if_neg h, pk_un h]
/-- two places changed -/
theorem mZ_swap (K T : Nat → Int32) (i j : Nat) (x : Nat) : mZ (upd (upd K i (K j)) j (K i)) (upd (upd T i (T j)) j (T i)) x = if x = j then mZ K T i else if x = i then mZ K T j else mZ K T x := by
  simp only [mZ, upd_at]
  by_cases h1 : x = j
  · simp only [if_pos h1]
  · simp only [if_neg h1]
    by_cases h2 : x = i
    · simp only [if_pos h2]
    · simp only [if_neg h2]
theorem mZ_put (K T : Nat → Int32) (i : Nat) (k t : Int32) (x : Nat) : mZ (upd K i k) (upd T i t) x = if x = i then (k, t) else mZ K T x := by
  simp only [mZ, upd_at]
  by_cases h1 : x = i
  · simp only [if_pos h1]
  · simp only [if_neg h1]
/-- half turned -/
def rvI (f g : Nat → mP) (a b lo hi : Nat) : Prop := ∀ j, g j = if (a ≤ j ∧ j < lo) ∨ (hi < j ∧ j < b) then f (a + b - 1 - j) else f j
theorem rvI_0 {f : Nat → mP} {a b : Nat} : rvI f f a b a (b - 1) := fun j => by
  rw [if_neg (by omega)]
theorem rvI_step {f g g' : Nat → mP} {a b lo hi : Nat} (h : rvI f g a b lo hi) (h1 : a ≤ lo) (h2 : lo < hi) (h3 : lo + hi + 1 = a + b) (hg : ∀ x, g' x = if x = hi then g lo else if x = lo then g hi else g x) : rvI f g' a b (lo + 1) (hi - 1) := by
  intro j
  rw [hg j]
  by_cases c1 : j = hi
  · rw [if_pos c1, h lo, if_neg (by omega), if_pos (by omega)]; congr 1; omega
  · rw [if_neg c1]
    by_cases c2 : j = lo
    · rw [if_pos c2, h hi, if_neg (by omega), if_pos (by omega)]; congr 1; omega
    · rw [if_neg c2, h j]
      by_cases c3 : (a ≤ j ∧ j < lo) ∨ (hi < j ∧ j < b)
      · rw [if_pos c3, if_pos (by omega)]
      · rw [if_neg c3, if_neg (by omega)]
theorem rvI_end {f g : Nat → mP} {a b lo hi : Nat} (h : rvI f g a b lo hi) (h1 : a ≤ lo) (h4 : lo ≤ b) (h2 : hi ≤ lo) (h3 : lo + hi + 1 = a + b) : g = rv f a b := by
  funext j
  rw [h j]
  simp only [rv]
  by_cases c1 : (a ≤ j ∧ j < lo) ∨ (hi < j ∧ j < b)
  · rw [if_pos c1]
    by_cases c2 : a ≤ j ∧ j < b
    · rw [if_pos c2]
    · rw [if_neg c2]; exfalso; omega
  · rw [if_neg c1]
    by_cases c2 : a ≤ j ∧ j < b
    · rw [if_pos c2]; congr 1; omega
    · rw [if_neg c2]
theorem rv_id {f : Nat → mP} {a b : Nat} (h : b ≤ a + 1) : rv f a b = f := by
  funext j
  simp only [rv]
  by_cases c2 : a ≤ j ∧ j < b
  · rw [if_pos c2]; congr 1; omega
  · rw [if_neg c2]
theorem rv_out {f : Nat → mP} {a b j : Nat} (h : j < a ∨ b ≤ j) : rv f a b j = f j := by
  simp only [rv]; rw [if_neg (by omega)]
/-- how many of n places, from a on, are so -/
noncomputable def cn (P : Nat → Prop) (a : Nat) : Nat → Nat
  | 0 => 0
  | n + 1 => cn P a n + (@ite _ (P (a + n)) (Classical.propDecidable _) 1 0)
theorem cn_t {P : Nat → Prop} {a n : Nat} (h : P (a + n)) : cn P a (n + 1) = cn P a n + 1 := by
  show cn P a n + _ = _; rw [if_pos h]
theorem cn_f {P : Nat → Prop} {a n : Nat} (h : ¬ P (a + n)) : cn P a (n + 1) = cn P a n := by
  show cn P a n + _ = _; rw [if_neg h, Nat.add_zero]
theorem cn_le (P : Nat → Prop) (a : Nat) : ∀ n, cn P a n ≤ n := by
  intro n
  induction n with
  | zero => exact Nat.le_refl _
  | succ n ih =>
    by_cases h : P (a + n)
    · rw [cn_t h]; omega
    · rw [cn_f h]; omega
theorem cn_congr {P P' : Nat → Prop} {a a' : Nat} : ∀ n, (∀ j, j < n → (P (a + j) ↔ P' (a' + j))) → cn P a n = cn P' a' n := by
  intro n
  induction n with
  | zero => intro _; rfl
  | succ n ih =>
    intro h
    have h1 := ih (fun j hj => h j (by omega))
    by_cases c : P (a + n)
    · rw [cn_t c, cn_t ((h n (by omega)).mp c), h1]
    · rw [cn_f c, cn_f (fun q => c ((h n (by omega)).mpr q)), h1]
theorem cn_app (P : Nat → Prop) (a m : Nat) : ∀ n, cn P a (m + n) = cn P a m + cn P (a + m) n := by
  intro n
  induction n with
  | zero => rfl
  | succ n ih =>
    have e : a + (m + n) = a + m + n := by omega
    by_cases c : P (a + (m + n))
    · rw [← Nat.add_assoc, cn_t c, cn_t (P := P) (a := a + m) (n := n) (by rw [← e]; exact c), ih]; omega
    · rw [← Nat.add_assoc, cn_f c, cn_f (P := P) (a := a + m) (n := n) (by rw [← e]; exact c), ih]
theorem cn_sub {P : Nat → Prop} {a : Nat} : ∀ n q, q < cn P a n → ∃ m, m < n ∧ P (a + m) ∧ cn P a m = q := by
  intro n
  induction n with
  | zero => intro q h; exact absurd h (Nat.not_lt_zero q)
  | succ n ih =>
    intro q h
    by_cases c : P (a + n)
    · rw [cn_t c] at h
      rcases Nat.lt_or_ge q (cn P a n) with h1 | h1
      · obtain ⟨m, m1, m2, m3⟩ := ih q h1
        exact ⟨m, by omega, m2, m3⟩
      · exact ⟨n, by omega, c, by omega⟩
    · rw [cn_f c] at h
      obtain ⟨m, m1, m2, m3⟩ := ih q h
      exact ⟨m, by omega, m2, m3⟩
theorem cn_none {P : Nat → Prop} {a : Nat} : ∀ n, (∀ j, j < n → ¬ P (a + j)) → cn P a n = 0 := by
  intro n
  induction n with
  | zero => intro _; rfl
  | succ n ih => intro h; rw [cn_f (h n (by omega)), ih (fun j hj => h j (by omega))]
theorem cn_or {P Q : Nat → Prop} {a : Nat} : ∀ n, (∀ j, j < n → ¬ (P (a + j) ∧ Q (a + j))) → cn (fun j => P j ∨ Q j) a n = cn P a n + cn Q a n := by
  intro n
  induction n with
  | zero => intro _; rfl
  | succ n ih =>
    intro h
    have h1 := ih (fun j hj => h j (by omega))
    have h2 := h n (by omega)
    by_cases c : P (a + n)
    · rw [cn_t (P := fun j => P j ∨ Q j) (Or.inl c), cn_t c, cn_f (P := Q) (fun q => h2 ⟨c, q⟩), h1]; omega
    · by_cases d : Q (a + n)
      · rw [cn_t (P := fun j => P j ∨ Q j) (Or.inr d), cn_f c, cn_t d, h1]; omega
      · rw [cn_f (P := fun j => P j ∨ Q j) (fun q => q.elim c d), cn_f c, cn_f d, h1]
theorem cn_all {P : Nat → Prop} {a : Nat} : ∀ n, (∀ j, j < n → P (a + j)) → cn P a n = n := by
  intro n
  induction n with
  | zero => intro _; rfl
  | succ n ih => intro h; rw [cn_t (h n (by omega)), ih (fun j hj => h j (by omega))]
/-- filters and counts -/
theorem fl_len (p : mP → Bool) (f : Nat → mP) (a : Nat) : ∀ n, ((sl f a n).filter p).length = cn (fun j => p (f j) = true) a n := by
  intro n
  induction n with
  | zero => rfl
  | succ n ih =>
    show ((sl f a n ++ [f (a + n)]).filter p).length = _
    rw [List.filter_append, List.length_append, ih]
    by_cases c : p (f (a + n)) = true
    · rw [cn_t (P := fun j => p (f j) = true) c, List.filter_cons_of_pos c]; rfl
    · rw [cn_f (P := fun j => p (f j) = true) c, List.filter_cons_of_neg c]; rfl
theorem fl_at (p : mP → Bool) (f : Nat → mP) (a : Nat) : ∀ n m, m < n → p (f (a + m)) = true → ((sl f a n).filter p)[cn (fun j => p (f j) = true) a m]? = some (f (a + m)) := by
  intro n
  induction n with
  | zero => intro m h; exact absurd h (Nat.not_lt_zero m)
  | succ n ih =>
    intro m hm hp
    show ((sl f a n ++ [f (a + n)]).filter p)[_]? = _
    rw [List.filter_append]
    rcases Nat.lt_or_ge m n with h | h
    · have h1 := ih m h hp
      rw [List.getElem?_append_left (List.getElem?_eq_some_iff.mp h1).1]
      exact h1
    · have : m = n := by omega
      subst this
      rw [List.getElem?_append_right (by rw [fl_len]; exact Nat.le_refl _), fl_len, Nat.sub_self, List.filter_cons_of_pos hp]
      rfl
theorem fl_from (p : mP → Bool) (f : Nat → mP) (a : Nat) : ∀ n j x, ((sl f a n).filter p)[j]? = some x → ∃ m, m < n ∧ f (a + m) = x ∧ p x = true ∧ cn (fun j => p (f j) = true) a m = j := by
  intro n
  induction n with
  | zero => intro j x h; exact absurd h (by simp [sl])
  | succ n ih =>
    intro j x h
    have h' : ((sl f a n ++ [f (a + n)]).filter p)[j]? = some x := h
    rw [List.filter_append] at h'
    rcases Nat.lt_or_ge j ((sl f a n).filter p).length with q | q
    · rw [List.getElem?_append_left q] at h'
      obtain ⟨m, m1, m2, m3, m4⟩ := ih j x h'
      exact ⟨m, by omega, m2, m3, m4⟩
    · rw [List.getElem?_append_right q, fl_len] at h'
      rw [fl_len] at q
      by_cases c : p (f (a + n)) = true
      · rw [List.filter_cons_of_pos c] at h'
        have hj : j = cn (fun j => p (f j) = true) a n := by
          rcases Nat.lt_or_ge (cn (fun j => p (f j) = true) a n) j with w | w
          · obtain ⟨d, hd⟩ : ∃ d, j - cn (fun j => p (f j) = true) a n = d + 1 := ⟨j - cn (fun j => p (f j) = true) a n - 1, by omega⟩
            rw [hd] at h'
            simp at h'
          · omega
        rw [hj, Nat.sub_self] at h'
        have hx : f (a + n) = x := by simpa using h'
        exact ⟨n, by omega, hx, by rw [← hx]; exact c, hj.symm⟩
      · rw [List.filter_cons_of_neg c] at h'
        simp at h'
theorem sm_perm {φ : Int32 → Int} {l l' : List mP} (h : sm φ l l') : l.Perm l' := by
  rw [List.perm_iff_count]
  intro x
  have h1 := h (φ x.1)
  have h2 : List.count x (l.filter (fun p => decide (φ p.1 = φ x.1))) = List.count x l := List.count_filter (by simp)
  have h3 : List.count x (l'.filter (fun p => decide (φ p.1 = φ x.1))) = List.count x l' := List.count_filter (by simp)
  rw [← h2, ← h3, h1]
/-- the place that the k-th has in the stretch when it is sorted stably -/
def plP (φ : Int32 → Int) (f : Nat → mP) (k : Nat) : Nat → Prop := fun j => φ (f j).1 < φ (f k).1 ∨ (j < k ∧ ¬ φ (f k).1 < φ (f j).1)
noncomputable def pl (φ : Int32 → Int) (f : Nat → mP) (a b k : Nat) : Nat := a + cn (plP φ f k) a (b - a)
theorem pl_eq {φ : Int32 → Int} {f : Nat → mP} {a b k : Nat} (h1 : a ≤ k) (h2 : k < b) : pl φ f a b k = a + (cn (fun j => φ (f j).1 < φ (f k).1) a (b - a) + cn (fun j => φ (f j).1 = φ (f k).1) a (k - a)) := by
  have e1 : cn (plP φ f k) a (b - a) = cn (fun j => φ (f j).1 < φ (f k).1 ∨ (j < k ∧ φ (f j).1 = φ (f k).1)) a (b - a) := cn_congr _ (fun j _ => by
    simp only [plP]; omega)
  have e2 := cn_or (P := fun j => φ (f j).1 < φ (f k).1) (Q := fun j => j < k ∧ φ (f j).1 = φ (f k).1) (a := a) (b - a) (fun j _ => by omega)
  have e3 : cn (fun j => j < k ∧ φ (f j).1 = φ (f k).1) a (b - a) = cn (fun j => φ (f j).1 = φ (f k).1) a (k - a) := by
    rw [show b - a = (k - a) + (b - k) by omega, cn_app, cn_none (b - k) (fun j _ => by omega), Nat.add_zero]
    exact cn_congr _ (fun j hj => by omega)
  unfold pl
  rw [e1, e2, e3]
/-- in a stretch that is sorted stably each place is the place of one that was there -/
theorem pl_onto {φ : Int32 → Int} {f g : Nat → mP} {a b : Nat} (hs : srt φ g a b) (h : sm φ (sg f a b) (sg g a b)) : ∀ q, a ≤ q → q < b → ∃ k, a ≤ k ∧ k < b ∧ pl φ f a b k = q ∧ f k = g q := by
  intro q q1 q2
  have hlt : cn (fun j => φ (f j).1 < φ (g q).1) a (b - a) = cn (fun j => φ (g j).1 < φ (g q).1) a (b - a) := by
    have hp := ((sm_perm h).filter (fun p => decide (φ p.1 < φ (g q).1))).length_eq
    unfold sg at hp
    rw [fl_len, fl_len] at hp
    have c1 := cn_congr (P := fun j => decide (φ (f j).1 < φ (g q).1) = true) (P' := fun j => φ (f j).1 < φ (g q).1) (a := a) (a' := a) (b - a) (fun j _ => by simp)
    have c2 := cn_congr (P := fun j => decide (φ (g j).1 < φ (g q).1) = true) (P' := fun j => φ (g j).1 < φ (g q).1) (a := a) (a' := a) (b - a) (fun j _ => by simp)
    rw [← c1, ← c2, hp]
  have hS : cn (fun j => φ (g j).1 < φ (g q).1) a (b - a) + cn (fun j => φ (g j).1 = φ (g q).1) a (q - a) = q - a := by
    rw [show b - a = (q - a) + (b - q) by omega, cn_app, show a + (q - a) = q by omega, cn_none (a := q) (b - q) (fun j hj => by have := hs q (q + j) q1 (by omega) (by omega); omega), Nat.add_zero]
    have e2 := cn_or (P := fun j => φ (g j).1 < φ (g q).1) (Q := fun j => φ (g j).1 = φ (g q).1) (a := a) (q - a) (fun j _ => by omega)
    rw [← e2]
    exact cn_all _ (fun j hj => by have := hs (a + j) q (by omega) (by omega) q2; omega)
  have hf := fl_at (fun p => decide (φ p.1 = φ (g q).1)) g a (b - a) (q - a) (by omega) (by rw [show a + (q - a) = q by omega]; simp)
  have hk := h (φ (g q).1)
  unfold sg at hk
  rw [← hk, show a + (q - a) = q by omega] at hf
  obtain ⟨m, m1, m2, m3, m4⟩ := fl_from _ f a (b - a) _ _ hf
  have c1 : cn (fun j => decide (φ (f j).1 = φ (g q).1) = true) a m = cn (fun j => φ (f j).1 = φ (g q).1) a m := cn_congr _ (fun j _ => by simp)
  have c2 : cn (fun j => decide (φ (g j).1 = φ (g q).1) = true) a (q - a) = cn (fun j => φ (g j).1 = φ (g q).1) a (q - a) := cn_congr _ (fun j _ => by simp)
  refine ⟨a + m, by omega, by omega, ?_, m2⟩
  rw [pl_eq (by omega) (by omega), m2, show a + m - a = m by omega, hlt, ← c1, m4, c2]
  omega
