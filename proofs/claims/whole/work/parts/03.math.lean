/-! THE MATHEMATICS: rows of pairs as functions, their stretches as lists, stable rearrangement, sortedness, and that the two fix a row. -/
abbrev mP : Type := Int32 × Int32
/-- the pairs of two arrays -/
def mZ (K T : Nat → Int32) : Nat → mP := fun j => (K j, T j)
/-- n pairs from the place a on -/
def sl (f : Nat → mP) (a : Nat) : Nat → List mP
  | 0 => []
  | n + 1 => sl f a n ++ [f (a + n)]
theorem sl_app (f : Nat → mP) (a m n : Nat) : sl f a m ++ sl f (a + m) n = sl f a (m + n) := by
  induction n with
  | zero => simp [sl]
  | succ n ih =>
    show sl f a m ++ (sl f (a + m) n ++ [f (a + m + n)]) = sl f a (m + n) ++ [f (a + (m + n))]
    rw [← List.append_assoc, ih, Nat.add_assoc]
theorem sl_congr {f g : Nat → mP} {a c : Nat} : ∀ n : Nat, (∀ j, j < n → f (a + j) = g (c + j)) → sl f a n = sl g c n := by
  intro n
  induction n with
  | zero => intro _; rfl
  | succ n ih =>
    intro h
    show sl f a n ++ [f (a + n)] = sl g c n ++ [g (c + n)]
    rw [ih (fun j hj => h j (by omega)), h n (by omega)]
theorem sl_len (f : Nat → mP) (a : Nat) : ∀ n : Nat, (sl f a n).length = n := by
  intro n
  induction n with
  | zero => rfl
  | succ n ih =>
    show (sl f a n ++ [f (a + n)]).length = n + 1
    rw [List.length_append, ih]; rfl
theorem sl_mem {f : Nat → mP} {a : Nat} {x : mP} : ∀ n : Nat, x ∈ sl f a n ↔ ∃ j, j < n ∧ f (a + j) = x := by
  intro n
  induction n with
  | zero =>
    constructor
    · intro h; exact absurd h List.not_mem_nil
    · rintro ⟨j, hj, _⟩; omega
  | succ n ih =>
    show x ∈ sl f a n ++ [f (a + n)] ↔ _
    rw [List.mem_append, ih, List.mem_singleton]
    constructor
    · rintro (⟨j, hj, e⟩ | e)
      · exact ⟨j, by omega, e⟩
      · exact ⟨n, by omega, e.symm⟩
    · rintro ⟨j, hj, e⟩
      rcases Nat.lt_or_ge j n with h | h
      · exact Or.inl ⟨j, h, e⟩
      · have : j = n := by omega
        subst this
        exact Or.inr e.symm
theorem sl_ext {f g : Nat → mP} {a c : Nat} : ∀ n : Nat, sl f a n = sl g c n → ∀ j, j < n → f (a + j) = g (c + j) := by
  intro n
  induction n with
  | zero => intro _ j hj; omega
  | succ n ih =>
    intro h j hj
    have h' : sl f a n ++ [f (a + n)] = sl g c n ++ [g (c + n)] := h
    obtain ⟨h1, h2⟩ := List.append_inj h' (by rw [sl_len, sl_len])
    rcases Nat.lt_or_ge j n with q | q
    · exact ih h1 j q
    · have : j = n := by omega
      subst this
      exact List.singleton_inj.mp h2
/-- the stretch from a to before b -/
def sg (f : Nat → mP) (a b : Nat) : List mP := sl f a (b - a)
theorem sg_app {f : Nat → mP} {a b c : Nat} (h1 : a ≤ b) (h2 : b ≤ c) : sg f a b ++ sg f b c = sg f a c := by
  have h := sl_app f a (b - a) (c - b)
  rw [show a + (b - a) = b by omega, show b - a + (c - b) = c - a by omega] at h
  exact h
theorem sg_congr {f g : Nat → mP} {a b : Nat} (h : ∀ j, a ≤ j → j < b → f j = g j) : sg f a b = sg g a b :=
  sl_congr (b - a) (fun j hj => h (a + j) (by omega) (by omega))
theorem sg_shift {f g : Nat → mP} {a b c d : Nat} (hl : b - a = d - c) (h : ∀ j, a ≤ j → j < b → f j = g (j - a + c)) : sg f a b = sg g c d := by
  unfold sg
  rw [← hl]
  exact sl_congr (b - a) (fun j hj => by rw [h (a + j) (by omega) (by omega)]; congr 1; omega)
theorem sg_mem {f : Nat → mP} {a b : Nat} {x : mP} : x ∈ sg f a b ↔ ∃ j, a ≤ j ∧ j < b ∧ f j = x := by
  unfold sg
  rw [sl_mem]
  constructor
  · rintro ⟨j, hj, e⟩; exact ⟨a + j, by omega, by omega, e⟩
  · rintro ⟨j, h1, h2, e⟩; exact ⟨j - a, by omega, by rw [show a + (j - a) = j by omega]; exact e⟩
theorem sg_ext {f g : Nat → mP} {a b : Nat} (h : sg f a b = sg g a b) : ∀ j, a ≤ j → j < b → f j = g j := by
  intro j h1 h2
  have := sl_ext (b - a) h (j - a) (by omega)
  rwa [show a + (j - a) = j by omega] at this
theorem sg_nil {f : Nat → mP} {a b : Nat} (h : b ≤ a) : sg f a b = [] := by
  unfold sg
  rw [show b - a = 0 by omega]; rfl
theorem sg_one {f : Nat → mP} {a : Nat} : sg f a (a + 1) = [f a] := by
  unfold sg
  rw [show a + 1 - a = 0 + 1 by omega]; rfl
/-- alike: each key's pairs in one order -/
def sm (φ : Int32 → Int) (l l' : List mP) : Prop := ∀ k : Int, l.filter (fun p => decide (φ p.1 = k)) = l'.filter (fun p => decide (φ p.1 = k))
theorem sm_rf {φ : Int32 → Int} {l : List mP} : sm φ l l := fun _ => rfl
theorem sm_sy {φ : Int32 → Int} {l l' : List mP} (h : sm φ l l') : sm φ l' l := fun k => (h k).symm
theorem sm_tr {φ : Int32 → Int} {l l' l'' : List mP} (h : sm φ l l') (h2 : sm φ l' l'') : sm φ l l'' := fun k => (h k).trans (h2 k)
theorem sm_app {φ : Int32 → Int} {l l' r r' : List mP} (h : sm φ l l') (h2 : sm φ r r') : sm φ (l ++ r) (l' ++ r') := fun k => by
  rw [List.filter_append, List.filter_append, h k, h2 k]
theorem sm_mem {φ : Int32 → Int} {l l' : List mP} (h : sm φ l l') {x : mP} (hx : x ∈ l) : x ∈ l' := by
  have h1 : x ∈ l.filter (fun p => decide (φ p.1 = φ x.1)) := List.mem_filter.mpr ⟨hx, decide_eq_true rfl⟩
  rw [h] at h1
  exact (List.mem_filter.mp h1).1
theorem sm_swap {φ : Int32 → Int} {A B : List mP} (h : ∀ a ∈ A, ∀ b ∈ B, φ a.1 ≠ φ b.1) : sm φ (A ++ B) (B ++ A) := by
  intro k
  rw [List.filter_append, List.filter_append]
  by_cases hA : A.filter (fun p => decide (φ p.1 = k)) = []
  · rw [hA]; simp
  · have hB : B.filter (fun p => decide (φ p.1 = k)) = [] := by
      rw [List.filter_eq_nil_iff]
      intro b hb hk
      have hk := of_decide_eq_true hk
      apply hA
      rw [List.filter_eq_nil_iff]
      intro a ha hk2
      have hk2 := of_decide_eq_true hk2
      exact h a ha b hb (by rw [hk, hk2])
    rw [hB]; simp
/-- sorted lists -/
def so (φ : Int32 → Int) (l : List mP) : Prop := l.Pairwise (fun x y => φ x.1 ≤ φ y.1)
theorem so_uniq {φ : Int32 → Int} : ∀ (l l' : List mP), so φ l → so φ l' → sm φ l l' → l = l' := by
  intro l
  induction l with
  | nil =>
    intro l' _ _ h
    cases l' with
    | nil => rfl
    | cons b t =>
      exact absurd (sm_mem (sm_sy h) (x := b) List.mem_cons_self) List.not_mem_nil
  | cons a t ih =>
    intro l' h1 h2 h
    cases l' with
    | nil => exact absurd (sm_mem h (x := a) List.mem_cons_self) List.not_mem_nil
    | cons b u =>
      obtain ⟨h1a, h1t⟩ := List.pairwise_cons.mp h1
      obtain ⟨h2b, h2t⟩ := List.pairwise_cons.mp h2
      have hba : φ b.1 ≤ φ a.1 := by
        rcases List.mem_cons.mp (sm_mem h (x := a) List.mem_cons_self) with e | e
        · rw [e]; exact Int.le_refl _
        · exact h2b a e
      have hab : φ a.1 ≤ φ b.1 := by
        rcases List.mem_cons.mp (sm_mem (sm_sy h) (x := b) List.mem_cons_self) with e | e
        · rw [e]; exact Int.le_refl _
        · exact h1a b e
      have hk : φ b.1 = φ a.1 := by omega
      have h0 := h (φ a.1)
      rw [List.filter_cons_of_pos (by simp), List.filter_cons_of_pos (by simp [hk])] at h0
      obtain ⟨e, h0t⟩ := List.cons.inj h0
      subst e
      have ht : sm φ t u := by
        intro k
        by_cases hk2 : φ a.1 = k
        · rw [← hk2]; exact h0t
        · have h3 := h k
          rw [List.filter_cons_of_neg (by simp [hk2]), List.filter_cons_of_neg (by simp [hk2])] at h3
          exact h3
      rw [ih u h1t h2t ht]
/-- sorted stretches of a function -/
def srt (φ : Int32 → Int) (f : Nat → mP) (a b : Nat) : Prop := ∀ i j, a ≤ i → i ≤ j → j < b → φ (f i).1 ≤ φ (f j).1
theorem srt_sub {φ : Int32 → Int} {f : Nat → mP} {a b c d : Nat} (h : srt φ f a b) (h1 : a ≤ c) (h2 : d ≤ b) : srt φ f c d := fun i j hi hij hj => h i j (by omega) hij (by omega)
theorem srt_congr {φ : Int32 → Int} {f g : Nat → mP} {a b : Nat} (h : srt φ f a b) (e : ∀ j, a ≤ j → j < b → g j = f j) : srt φ g a b := fun i j hi hij hj => by
  rw [e i hi (by omega), e j (by omega) hj]; exact h i j hi hij hj
theorem srt_shift {φ : Int32 → Int} {f g : Nat → mP} {a b c d : Nat} (h : srt φ f c d) (hl : b - a ≤ d - c) (e : ∀ j, a ≤ j → j < b → g j = f (j - a + c)) : srt φ g a b := fun i j hi hij hj => by
  rw [e i hi (by omega), e j (by omega) hj]; exact h _ _ (by omega) (by omega) (by omega)
theorem srt_step {φ : Int32 → Int} {f : Nat → mP} {a : Nat} : ∀ b, (∀ j, a < j → j < b → φ (f (j - 1)).1 ≤ φ (f j).1) → srt φ f a b := by
  intro b h i j hi hij hj
  induction j with
  | zero => rw [show i = 0 by omega]; exact Int.le_refl _
  | succ j ih =>
    rcases Nat.lt_or_ge j i with q | q
    · rw [show i = j + 1 by omega]; exact Int.le_refl _
    · exact Int.le_trans (ih q (by omega)) (h (j + 1) (by omega) hj)
theorem srt_short {φ : Int32 → Int} {f : Nat → mP} {a b : Nat} (h : b ≤ a + 1) : srt φ f a b := fun i j hi hij hj => by
  rw [show i = j by omega]; exact Int.le_refl _
theorem srt_so {φ : Int32 → Int} {f : Nat → mP} {a : Nat} : ∀ n, srt φ f a (a + n) → so φ (sl f a n) := by
  intro n
  induction n with
  | zero => intro _; exact List.Pairwise.nil
  | succ n ih =>
    intro h
    show List.Pairwise _ (sl f a n ++ [f (a + n)])
    rw [List.pairwise_append]
    refine ⟨ih (srt_sub h (Nat.le_refl _) (by omega)), List.pairwise_singleton _ _, ?_⟩
    intro x hx y hy
    obtain ⟨j, hj, e⟩ := (sl_mem n).mp hx
    rw [← e, List.mem_singleton.mp hy]
    exact h _ _ (by omega) (by omega) (by omega)
/-- a stretch sorted stably is fixed -/
theorem srt_uniq {φ : Int32 → Int} {f g : Nat → mP} {a b : Nat} (hf : srt φ f a b) (hg : srt φ g a b) (h : sm φ (sg f a b) (sg g a b)) : ∀ j, a ≤ j → j < b → f j = g j := by
  intro j h1 h2
  refine sg_ext ?_ j h1 h2
  refine so_uniq _ _ (srt_so (b - a) (srt_sub hf (Nat.le_refl _) (by omega))) (srt_so (b - a) (srt_sub hg (Nat.le_refl _) (by omega))) h
/-- two sorted neighbours, none of the first above one of the second -/
theorem srt_join {φ : Int32 → Int} {f : Nat → mP} {a b c : Nat} (h1 : srt φ f a b) (h2 : srt φ f b c) (h : ∀ x ∈ sg f a b, ∀ y ∈ sg f b c, φ x.1 ≤ φ y.1) : srt φ f a c := by
  intro i j hi hij hj
  rcases Nat.lt_or_ge j b with q | q
  · exact h1 i j hi hij q
  · rcases Nat.lt_or_ge i b with r | r
    · exact h _ (sg_mem.mpr ⟨i, hi, r, rfl⟩) _ (sg_mem.mpr ⟨j, q, hj, rfl⟩)
    · exact h2 i j r hij hj
/-- the other way round -/
def rv (f : Nat → mP) (a b : Nat) : Nat → mP := fun j => if a ≤ j ∧ j < b then f (a + b - 1 - j) else f j
/-- what stands from m to before b comes before what stands from a to before m -/
def ro (f : Nat → mP) (a m b : Nat) : Nat → mP := fun j => if a ≤ j ∧ j < a + (b - m) then f (j - a + m) else if a + (b - m) ≤ j ∧ j < b then f (j - (b - m)) else f j
theorem ro_rv {f : Nat → mP} {a m b : Nat} (h1 : a ≤ m) (h2 : m ≤ b) : rv (rv (rv f a m) m b) a b = ro f a m b := by
  funext j
  simp only [rv, ro]
  by_cases c1 : a ≤ j ∧ j < b
  · rw [if_pos c1]
    by_cases c2 : j < a + (b - m)
    · rw [if_pos (show m ≤ a + b - 1 - j ∧ a + b - 1 - j < b by omega), if_neg (show ¬ (a ≤ m + b - 1 - (a + b - 1 - j) ∧ m + b - 1 - (a + b - 1 - j) < m) by omega), if_pos (show a ≤ j ∧ j < a + (b - m) by omega)]
      congr 1; omega
    · rw [if_neg (show ¬ (m ≤ a + b - 1 - j ∧ a + b - 1 - j < b) by omega), if_pos (show a ≤ a + b - 1 - j ∧ a + b - 1 - j < m by omega), if_neg (show ¬ (a ≤ j ∧ j < a + (b - m)) by omega), if_pos (show a + (b - m) ≤ j ∧ j < b by omega)]
      congr 1; omega
  · rw [if_neg c1, if_neg (show ¬ (m ≤ j ∧ j < b) by omega), if_neg (show ¬ (a ≤ j ∧ j < m) by omega), if_neg (show ¬ (a ≤ j ∧ j < a + (b - m)) by omega), if_neg (show ¬ (a + (b - m) ≤ j ∧ j < b) by omega)]
theorem ro_out {f : Nat → mP} {a m b j : Nat} (h2 : m ≤ b) (h1 : a ≤ m) (h : j < a ∨ b ≤ j) : ro f a m b j = f j := by
  simp only [ro]
  rw [if_neg (by omega), if_neg (by omega)]
theorem ro_id {f : Nat → mP} {a m b : Nat} (h1 : a ≤ m) (h2 : m ≤ b) (h : m ≤ a ∨ b ≤ m) : ro f a m b = f := by
  funext j
  simp only [ro]
  by_cases c1 : a ≤ j ∧ j < a + (b - m)
  · rw [if_pos c1]; congr 1; omega
  · rw [if_neg c1]
    by_cases c2 : a + (b - m) ≤ j ∧ j < b
    · rw [if_pos c2]; congr 1; omega
    · rw [if_neg c2]
theorem ro_lo {f : Nat → mP} {a m b : Nat} (h1 : a ≤ m) (h2 : m ≤ b) : sg (ro f a m b) a (a + (b - m)) = sg f m b := by
  refine sg_shift (by omega) (fun j h3 h4 => ?_)
  simp only [ro]
  rw [if_pos ⟨h3, h4⟩]
theorem ro_hi {f : Nat → mP} {a m b : Nat} (h1 : a ≤ m) (h2 : m ≤ b) : sg (ro f a m b) (a + (b - m)) b = sg f a m := by
  refine sg_shift (by omega) (fun j h3 h4 => ?_)
  simp only [ro]
  rw [if_neg (by omega), if_pos ⟨h3, h4⟩]
  congr 1; omega
theorem ro_sg {f : Nat → mP} {a m b : Nat} (h1 : a ≤ m) (h2 : m ≤ b) : sg (ro f a m b) a b = sg f m b ++ sg f a m := by
  rw [← sg_app (f := ro f a m b) (a := a) (b := a + (b - m)) (c := b) (by omega) (by omega), ro_lo h1 h2, ro_hi h1 h2]
/-- a block that moves before a block whose keys are other ones -/
theorem ro_sm {φ : Int32 → Int} {f : Nat → mP} {a m b : Nat} (h1 : a ≤ m) (h2 : m ≤ b) (h : ∀ i j, a ≤ i → i < m → m ≤ j → j < b → φ (f i).1 ≠ φ (f j).1) : sm φ (sg f a b) (sg (ro f a m b) a b) := by
  rw [ro_sg h1 h2, ← sg_app h1 h2]
  refine sm_swap ?_
  intro x hx y hy
  obtain ⟨i, i1, i2, e1⟩ := sg_mem.mp hx
  obtain ⟨j, j1, j2, e2⟩ := sg_mem.mp hy
  rw [← e1, ← e2]
  exact h i j i1 i2 j1 j2
/-- a change inside a stretch that is alike there is alike in each greater one -/
theorem sm_wide {φ : Int32 → Int} {f g : Nat → mP} {a b c d : Nat} (h1 : a ≤ c) (h2 : c ≤ d) (h3 : d ≤ b) (ho : ∀ j, j < c ∨ d ≤ j → g j = f j) (h : sm φ (sg f c d) (sg g c d)) : sm φ (sg f a b) (sg g a b) := by
  rw [← sg_app (f := f) h1 (Nat.le_trans h2 h3), ← sg_app (f := g) h1 (Nat.le_trans h2 h3), ← sg_app (f := f) h2 h3, ← sg_app (f := g) h2 h3]
  rw [sg_congr (f := g) (g := f) (a := a) (b := c) (fun j _ q => ho j (Or.inl q)), sg_congr (f := g) (g := f) (a := d) (b := b) (fun j q _ => ho j (Or.inr q))]
  exact sm_app sm_rf (sm_app h sm_rf)
/-- ONE STEP OF THE MERGE: blocks swapped, both halves merged: the whole is merged -/
theorem merge_step {φ : Int32 → Int} {f g h : Nat → mP} {a s m e h2 b : Nat} (b1 : a ≤ s) (b2 : s ≤ m) (b3 : m ≤ e) (b4 : e ≤ b) (bh : h2 + m = s + e)
    (sA : srt φ f a m) (sB : srt φ f m b) (cA : s < m → m < e → φ (f (e - 1)).1 < φ (f s).1) (cB : a < s → e < b → φ (f (s - 1)).1 ≤ φ (f e).1)
    (o1 : ∀ j, j < a ∨ h2 ≤ j → g j = ro f s m e j) (r1 : srt φ g a h2) (q1 : sm φ (sg (ro f s m e) a h2) (sg g a h2))
    (o2 : ∀ j, j < h2 ∨ b ≤ j → h j = g j) (r2 : srt φ h h2 b) (q2 : sm φ (sg g h2 b) (sg h h2 b)) :
    (∀ j, j < a ∨ b ≤ j → h j = f j) ∧ srt φ h a b ∧ sm φ (sg f a b) (sg h a b) := by
  have hh : s + (e - m) = h2 := by omega
  have hlow : ∀ j, j < a ∨ b ≤ j → h j = f j := by
    intro j hj
    rw [o2 j (by omega), o1 j (by omega), ro_out b3 b2 (by omega)]
  have hAB : ∀ i j, s ≤ i → i < m → m ≤ j → j < e → φ (f j).1 < φ (f i).1 := by
    intro i j i1 i2 j1 j2
    have h1 := sA s i b1 i1 i2
    have h3 := sB j (e - 1) j1 (by omega) (by omega)
    have h4 := cA (by omega) (by omega)
    omega
  have hg : sg h a h2 = sg g a h2 := sg_congr (fun j q1 q2 => o2 j (Or.inl q2))
  have e1 : sg (ro f s m e) a h2 = sg f a s ++ sg f m e := by
    rw [← sg_app (f := ro f s m e) (a := a) (b := s) (c := h2) b1 (by omega), ← hh, ro_lo b2 b3]
    rw [sg_congr (f := ro f s m e) (g := f) (fun j q1 q2 => ro_out b3 b2 (Or.inl q2))]
  have e2 : sg g h2 b = sg f s m ++ sg f e b := by
    rw [sg_congr (f := g) (g := ro f s m e) (fun j q1 q2 => o1 j (Or.inr q1))]
    rw [← sg_app (f := ro f s m e) (a := h2) (b := e) (c := b) (by omega) b4, ← hh, ro_hi b2 b3]
    rw [sg_congr (f := ro f s m e) (g := f) (a := e) (b := b) (fun j q1 q2 => ro_out b3 b2 (Or.inr q1))]
  have hsm : sm φ (sg f a b) (sg h a b) := by
    have s1 : sm φ (sg f a b) (sg (ro f s m e) a b) := sm_wide b1 (Nat.le_trans b2 b3) b4 (fun j q => ro_out b3 b2 q) (ro_sm b2 b3 (fun i j i1 i2 j1 j2 => by have := hAB i j i1 i2 j1 j2; omega))
    have s2 : sm φ (sg (ro f s m e) a b) (sg h a b) := by
      rw [← sg_app (f := ro f s m e) (a := a) (b := h2) (c := b) (by omega) (by omega), ← sg_app (f := h) (a := a) (b := h2) (c := b) (by omega) (by omega), hg]
      refine sm_app q1 ?_
      rw [sg_congr (f := ro f s m e) (g := g) (a := h2) (b := b) (fun j w1 w2 => (o1 j (Or.inr w1)).symm)]
      exact q2
    exact sm_tr s1 s2
  refine ⟨hlow, ?_, hsm⟩
  refine srt_join (b := h2) (srt_congr r1 (fun j q1 q2 => o2 j (Or.inl q2))) r2 ?_
  intro x hx y hy
  rw [hg] at hx
  have hx := sm_mem (sm_sy q1) hx
  have hy := sm_mem (sm_sy q2) hy
  rw [e1, List.mem_append] at hx
  rw [e2, List.mem_append] at hy
  rcases hx with hx | hx
  · obtain ⟨i, i1, i2, ei⟩ := sg_mem.mp hx
    rcases hy with hy | hy
    · obtain ⟨j, j1, j2, ej⟩ := sg_mem.mp hy
      rw [← ei, ← ej]; exact sA i j i1 (by omega) j2
    · obtain ⟨j, j1, j2, ej⟩ := sg_mem.mp hy
      rw [← ei, ← ej]
      have w1 := sA i (s - 1) i1 (by omega) (by omega)
      have w2 := sB e j b3 j1 j2
      have w3 := cB (by omega) (by omega)
      omega
  · obtain ⟨i, i1, i2, ei⟩ := sg_mem.mp hx
    rcases hy with hy | hy
    · obtain ⟨j, j1, j2, ej⟩ := sg_mem.mp hy
      rw [← ei, ← ej]
      have := hAB j i j1 j2 i1 i2
      omega
    · obtain ⟨j, j1, j2, ej⟩ := sg_mem.mp hy
      rw [← ei, ← ej]; exact sB i j i1 (by omega) j2
