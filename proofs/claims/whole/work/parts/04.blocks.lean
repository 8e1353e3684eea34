/-! BLOCKS: what a round of merges leaves behind, and what it costs. -/
/-- each block of w, from a on, is sorted as far as b -/
def bs (φ : Int32 → Int) (f : Nat → mP) (w a b : Nat) : Prop := ∀ i, srt φ f (a + i * w) (min (a + i * w + w) b)
/-- the first q blocks of 2 w are sorted -/
def pr (φ : Int32 → Int) (f : Nat → mP) (w a b q : Nat) : Prop := ∀ i, i < q → srt φ f (a + i * (2 * w)) (min (a + i * (2 * w) + 2 * w) b)
theorem bs_one {φ : Int32 → Int} {f : Nat → mP} {a b : Nat} : bs φ f 1 a b := fun i => srt_short (by omega)
theorem pr_0 {φ : Int32 → Int} {f : Nat → mP} {w a b : Nat} : pr φ f w a b 0 := fun i h => absurd h (Nat.not_lt_zero i)
theorem bs_step {φ : Int32 → Int} {f g : Nat → mP} {w a b q st : Nat} (hst : st = a + q * (2 * w)) (h1 : pr φ f w a b q) (h2 : bs φ f w st b)
    (ho : ∀ j, j < st ∨ min (st + 2 * w) b ≤ j → g j = f j) (hg : srt φ g st (min (st + 2 * w) b)) :
    pr φ g w a b (q + 1) ∧ bs φ g w (st + 2 * w) b := by
  constructor
  · intro i hi
    rcases Nat.lt_or_ge i q with h | h
    · have hm : (i + 1) * (2 * w) ≤ q * (2 * w) := Nat.mul_le_mul_right _ h
      rw [Nat.add_mul, Nat.one_mul] at hm
      refine srt_congr (h1 i h) (fun j j1 j2 => ho j (Or.inl ?_))
      omega
    · have : i = q := by omega
      subst this
      rw [← hst]; exact hg
  · intro i
    have h3 := h2 (i + 2)
    rw [Nat.add_mul] at h3
    rw [show st + 2 * w + i * w = st + (i * w + 2 * w) by omega]
    refine srt_congr h3 (fun j j1 j2 => ho j (Or.inr ?_))
    omega
theorem bs_end {φ : Int32 → Int} {f : Nat → mP} {w a b q st : Nat} (hst : st = a + q * (2 * w)) (h1 : pr φ f w a b q) (h2 : bs φ f w st b) (he : b ≤ st + w) : bs φ f (2 * w) a b := by
  intro i
  rcases Nat.lt_or_ge i q with h | h
  · exact h1 i h
  · have hm : q * (2 * w) ≤ i * (2 * w) := Nat.mul_le_mul_right _ h
    have h3 := h2 0
    rw [Nat.zero_mul, Nat.add_zero] at h3
    exact srt_sub h3 (by omega) (by omega)
theorem bs_all {φ : Int32 → Int} {f : Nat → mP} {w a b : Nat} (h : bs φ f w a b) (hw : b ≤ a + w) : srt φ f a b := by
  have h3 := h 0
  rw [Nat.zero_mul, Nat.add_zero] at h3
  exact srt_sub h3 (Nat.le_refl _) (by omega)
theorem bs_two {φ : Int32 → Int} {f : Nat → mP} {w st b : Nat} (h : bs φ f w st b) : srt φ f st (min (st + w) b) ∧ srt φ f (st + w) (min (st + 2 * w) b) := by
  have h0 := h 0
  have h1 := h 1
  rw [Nat.zero_mul, Nat.add_zero] at h0
  rw [Nat.one_mul] at h1
  exact ⟨h0, srt_sub h1 (Nat.le_refl _) (by omega)⟩
/-- the document's L -/
def lev : Nat → Nat → Nat
  | 0, _ => 1
  | k + 1, n => if 2 ^ (k + 1) < n then k + 2 else lev k n
