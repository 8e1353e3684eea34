/-! THE REFERENCE: its state, and pure rows for its walks. -/
abbrev MSt : Type := (Nat → Int32) × (Nat → Int32) × Nat × (Nat → Int32) × (Nat → Int32)
abbrev wM (h k t k2 t2 : Nat) (cA cB cC cD : ClassId) (u : MSt) : va_W := [(h, .inr (2, [.ref k, .ref t, .int (nI u.2.2.1), .ref k2, .ref t2])), (k, .inl (cA, 500, .inl u.1)), (t, .inl (cB, 500, .inl u.2.1)), (k2, .inl (cC, 500, .inl u.2.2.2.1)), (t2, .inl (cD, 500, .inl u.2.2.2.2))]
abbrev atM (dC : Nat → ClassId) (dI : Nat → Nat → Nat) (A : Nat → Prop) (h k t k2 t2 : Nat) (cA cB cC cD : ClassId) (u : MSt) (U : State) : Prop := va_P (dC, dI) vwCl (wM h k t k2 t2 cA cB cC cD u) U.heap ∧ va_K (dC, dI) vwCl [(cA, .int), (cB, .int), (cC, .int), (cD, .int)] U ∧ va_D A (wM h k t k2 t2 cA cB cC cD u)
theorem cn_mono {P Q : Nat → Prop} {a : Nat} : ∀ n, (∀ j, j < n → P (a + j) → Q (a + j)) → cn P a n ≤ cn Q a n := by
  intro n
  induction n with
  | zero => intro _; exact Nat.le_refl _
  | succ n ih =>
    intro h
    have h1 := ih (fun j hj => h j (by omega))
    by_cases c : P (a + n)
    · rw [cn_t c, cn_t (h n (by omega) c)]; omega
    · rw [cn_f c]
      by_cases d : Q (a + n)
      · rw [cn_t d]; omega
      · rw [cn_f d]; exact h1
theorem cn_lt {P Q : Nat → Prop} {a : Nat} : ∀ n m, m < n → (∀ j, j < n → P (a + j) → Q (a + j)) → Q (a + m) → ¬ P (a + m) → cn P a n < cn Q a n := by
  intro n
  induction n with
  | zero => intro m h; exact absurd h (Nat.not_lt_zero m)
  | succ n ih =>
    intro m hm h hq hp
    rcases Nat.lt_or_ge m n with c | c
    · have h1 := ih m c (fun j hj => h j (by omega)) hq hp
      by_cases c : P (a + n)
      · rw [cn_t c, cn_t (h n (by omega) c)]; omega
      · rw [cn_f c]
        by_cases d : Q (a + n)
        · rw [cn_t d]; omega
        · rw [cn_f d]; exact h1
    · have : m = n := by omega
      subst this
      have h1 := cn_mono (P := P) (Q := Q) (a := a) m (fun j hj => h j (by omega))
      rw [cn_f hp, cn_t hq]; omega
theorem pl_lt {φ : Int32 → Int} {f : Nat → mP} {a b k : Nat} (h1 : a ≤ k) (h2 : k < b) : pl φ f a b k < b := by
  unfold pl
  have h3 := cn_lt (P := plP φ f k) (Q := fun _ => True) (a := a) (b - a) (k - a) (by omega) (fun _ _ _ => trivial) trivial (by
    rw [show a + (k - a) = k by omega]; simp only [plP]; omega)
  have h4 := cn_le (fun _ => True) a (b - a)
  omega
theorem pl_ge {φ : Int32 → Int} {f : Nat → mP} {a b k : Nat} : a ≤ pl φ f a b k := Nat.le_add_right _ _
theorem pl_inj {φ : Int32 → Int} {f : Nat → mP} {a b i k : Nat} (h1 : a ≤ i) (h2 : i < k) (h3 : k < b) : pl φ f a b i ≠ pl φ f a b k := by
  unfold pl
  by_cases c : φ (f k).1 < φ (f i).1
  · have h := cn_lt (P := plP φ f k) (Q := plP φ f i) (a := a) (b - a) (k - a) (by omega) (fun j _ => by simp only [plP]; omega) (by rw [show a + (k - a) = k by omega]; exact Or.inl c) (by rw [show a + (k - a) = k by omega]; simp only [plP]; omega)
    omega
  · have h := cn_lt (P := plP φ f i) (Q := plP φ f k) (a := a) (b - a) (i - a) (by omega) (fun j _ => by simp only [plP]; omega) (by rw [show a + (i - a) = i by omega]; exact Or.inr ⟨h2, c⟩) (by rw [show a + (i - a) = i by omega]; simp only [plP]; omega)
    omega
/-- moved so far, each to its place -/
def arI (φ : Int32 → Int) (f g : Nat → mP) (a b q : Nat) : Prop := ∀ i, a ≤ i → i < q → g (pl φ f a b i) = f i
theorem arI_0 {φ : Int32 → Int} {f g : Nat → mP} {a b : Nat} : arI φ f g a b a := fun i h1 h2 => absurd h2 (by omega)
theorem arI_s {φ : Int32 → Int} {f g g' : Nat → mP} {a b q : Nat} (h : arI φ f g a b q) (h1 : a ≤ q) (h2 : q < b) (hg : ∀ x, g' x = if x = pl φ f a b q then f q else g x) : arI φ f g' a b (q + 1) := by
  intro i i1 i2
  rw [hg]
  rcases Nat.lt_or_ge i q with c | c
  · rw [if_neg (pl_inj i1 c h2)]; exact h i i1 c
  · rw [show i = q by omega, if_pos rfl]
/-- taken over from a to before q -/
def tkI (f g f1 : Nat → mP) (a q : Nat) : Prop := ∀ j, f1 j = if a ≤ j ∧ j < q then g j else f j
theorem tkI_0 {f g : Nat → mP} {a : Nat} : tkI f g f a a := fun j => by rw [if_neg (by omega)]
theorem tkI_s {f g f1 f2 : Nat → mP} {a q : Nat} (h : tkI f g f1 a q) (h1 : a ≤ q) (hg : ∀ x, f2 x = if x = q then g q else f1 x) : tkI f g f2 a (q + 1) := by
  intro j
  rw [hg]
  by_cases c : j = q
  · rw [if_pos c, if_pos (by omega), c]
  · rw [if_neg c, h j]
    by_cases d : a ≤ j ∧ j < q
    · rw [if_pos d, if_pos (by omega)]
    · rw [if_neg d, if_neg (by omega)]
theorem soR_of {φ : Int32 → Int} {n : Nat} {f g f1 : Nat → mP} {a b : Nat} (h : arI φ f g a b b) (ht : tkI f g f1 a b) : soR φ n f f1 a b :=
  ⟨fun j _ hj => by rw [ht j, if_neg (by omega)], fun k k1 k2 => by rw [ht, if_pos ⟨pl_ge, pl_lt k1 k2⟩]; exact h k k1 k2⟩
/-- those that are so, one behind the other from a base on -/
def flI (P : Nat → Prop) (f g : Nat → mP) (a z q : Nat) : Prop := ∀ i, a ≤ i → i < q → P i → g (z + cn P a (i - a)) = f i
theorem flI_0 {P : Nat → Prop} {f g : Nat → mP} {a z : Nat} : flI P f g a z a := fun i h1 h2 => absurd h2 (by omega)
theorem cn_less {P : Nat → Prop} {a i q : Nat} (h1 : a ≤ i) (h2 : i < q) (hp : P i) : cn P a (i - a) < cn P a (q - a) := by
  have h3 := cn_st (P := P) h1 hp
  have h4 := cn_app P a (i + 1 - a) (q - (i + 1))
  rw [show i + 1 - a + (q - (i + 1)) = q - a by omega] at h4
  omega
theorem flI_y {P : Nat → Prop} {f g g' : Nat → mP} {a z q : Nat} (h : flI P f g a z q) (h1 : a ≤ q) (hg : ∀ x, g' x = if x = z + cn P a (q - a) then f q else g x) : flI P f g' a z (q + 1) := by
  intro i i1 i2 hp
  rw [hg]
  rcases Nat.lt_or_ge i q with c | c
  · rw [if_neg (by have := cn_less i1 c hp; omega)]; exact h i i1 c hp
  · rw [show i = q by omega, if_pos rfl]
theorem flI_n {P : Nat → Prop} {f g : Nat → mP} {a z q : Nat} (h : flI P f g a z q) (hp : ¬ P q) : flI P f g a z (q + 1) := by
  intro i i1 i2 hp2
  rcases Nat.lt_or_ge i q with c | c
  · exact h i i1 c hp2
  · rw [show i = q by omega] at hp2; exact absurd hp2 hp
theorem flI_o {P : Nat → Prop} {f g g' : Nat → mP} {a z q w : Nat} {v : mP} (h : flI P f g a z q) (hw : z + cn P a (q - a) ≤ w) (hg : ∀ x, g' x = if x = w then v else g x) : flI P f g' a z q := by
  intro i i1 i2 hp
  rw [hg, if_neg (by have := cn_less i1 i2 hp; omega)]
  exact h i i1 i2 hp
/-- how many are so and how many not -/
theorem cn_not (P : Nat → Prop) (a : Nat) : ∀ n, cn P a n + cn (fun j => ¬ P j) a n = n := by
  intro n
  induction n with
  | zero => rfl
  | succ n ih =>
    by_cases c : P (a + n)
    · rw [cn_t c, cn_f (P := fun j => ¬ P j) (fun z => z c)]; omega
    · rw [cn_f c, cn_t (P := fun j => ¬ P j) c]; omega
theorem spR_of {n o : Nat} {v : Int32} {f g f1 : Nat → mP} {a b L : Nat} (hL : L = cn (fun j => mk o (f j).1 < mk o v) a (b - a)) (h1 : flI (fun j => mk o (f j).1 < mk o v) f g a a b) (h2 : flI (fun j => ¬ mk o (f j).1 < mk o v) f g a (a + L) b) (ht : tkI f g f1 a b) : soR (ps o v) n f f1 a b := by
  refine ⟨fun j _ hj => by rw [ht j, if_neg (by omega)], fun k k1 k2 => ?_⟩
  rw [ht, if_pos ⟨pl_ge, pl_lt k1 k2⟩, pl_eq k1 k2]
  by_cases c : mk o (f k).1 < mk o v
  · rw [ps_0 c]
    have e1 : cn (fun j => ps o v (f j).1 < 0) a (b - a) = 0 := cn_none _ (fun j _ => by
      by_cases d : mk o (f (a + j)).1 < mk o v
      · rw [ps_0 d]; decide
      · rw [ps_1 d]; decide)
    have e2 : cn (fun j => ps o v (f j).1 = 0) a (k - a) = cn (fun j => mk o (f j).1 < mk o v) a (k - a) := cn_congr _ (fun j _ => by
      by_cases d : mk o (f (a + j)).1 < mk o v
      · rw [ps_0 d]; exact ⟨fun _ => d, fun _ => rfl⟩
      · rw [ps_1 d]; exact ⟨fun z => absurd z (by decide), fun z => absurd z d⟩)
    rw [e1, e2, Nat.zero_add]
    exact h1 k k1 k2 c
  · rw [ps_1 c]
    have e1 : cn (fun j => ps o v (f j).1 < 1) a (b - a) = L := by
      rw [hL]
      exact cn_congr _ (fun j _ => by
        by_cases d : mk o (f (a + j)).1 < mk o v
        · rw [ps_0 d]; exact ⟨fun _ => d, fun _ => by decide⟩
        · rw [ps_1 d]; exact ⟨fun z => absurd z (by decide), fun z => absurd z d⟩)
    have e2 : cn (fun j => ps o v (f j).1 = 1) a (k - a) = cn (fun j => ¬ mk o (f j).1 < mk o v) a (k - a) := cn_congr _ (fun j _ => by
      by_cases d : mk o (f (a + j)).1 < mk o v
      · rw [ps_0 d]; exact ⟨fun z => absurd z (by decide), fun z => absurd d z⟩
      · rw [ps_1 d]; exact ⟨fun _ => d, fun _ => rfl⟩)
    rw [e1, e2, ← Nat.add_assoc]
    exact h2 k k1 k2 c
/-- moved to a place that a function tells, all of them apart -/
def mvI (f g : Nat → mP) (e : Nat → Nat) (a q : Nat) : Prop := ∀ i, a ≤ i → i < q → g (e i) = f i
theorem mvI_0 {f g : Nat → mP} {e : Nat → Nat} {a : Nat} : mvI f g e a a := fun i h1 h2 => absurd h2 (by omega)
theorem mvI_s {f g g' : Nat → mP} {e : Nat → Nat} {a q w : Nat} (h : mvI f g e a q) (hw : w = e q) (he : ∀ i, a ≤ i → i < q → e i ≠ w) (hg : ∀ x, g' x = if x = w then f q else g x) : mvI f g' e a (q + 1) := by
  intro i i1 i2
  rw [hg]
  rcases Nat.lt_or_ge i q with c | c
  · rw [if_neg (he i i1 c)]; exact h i i1 c
  · rw [show i = q by omega, if_pos hw.symm]
theorem mvI_o {f g g' : Nat → mP} {e : Nat → Nat} {a q w : Nat} {v : mP} (h : mvI f g e a q) (he : ∀ i, a ≤ i → i < q → e i ≠ w) (hg : ∀ x, g' x = if x = w then v else g x) : mvI f g' e a q := by
  intro i i1 i2
  rw [hg, if_neg (he i i1 i2)]; exact h i i1 i2
theorem ro_of {f g f1 : Nat → mP} {a d b : Nat} (had : a ≤ d) (hdb : d ≤ b) (h1 : mvI f g (fun i => i + b - d) a d) (h2 : mvI f g (fun i => i - d + a) d b) (ht : tkI f g f1 a b) (j : Nat) : f1 j = ro f a d b j := by
  rw [ht]
  simp only [ro]
  by_cases c1 : a ≤ j ∧ j < a + (b - d)
  · rw [if_pos (by omega), if_pos c1]
    have := h2 (j - a + d) (by omega) (by omega)
    dsimp only at this
    rw [show j - a + d - d + a = j by omega] at this
    exact this
  · rw [if_neg c1]
    by_cases c2 : a + (b - d) ≤ j ∧ j < b
    · rw [if_pos (by omega), if_pos c2]
      have := h1 (j - (b - d)) (by omega) (by omega)
      dsimp only at this
      rw [show j - (b - d) + b - d = j by omega] at this
      exact this
    · rw [if_neg (by omega), if_neg c2]
theorem rv_of {f g f1 : Nat → mP} {a b : Nat} (h1 : mvI f g (fun i => a + b - 1 - i) a b) (ht : tkI f g f1 a b) (j : Nat) : f1 j = rv f a b j := by
  rw [ht]
  simp only [rv]
  by_cases c1 : a ≤ j ∧ j < b
  · rw [if_pos c1, if_pos c1]
    have := h1 (a + b - 1 - j) (by omega) (by omega)
    dsimp only at this
    rw [show a + b - 1 - (a + b - 1 - j) = j by omega] at this
    exact this
  · rw [if_neg c1, if_neg c1]
theorem rn_of {x : Int32} (h1 : ¬ x < nI 1) (h2 : ¬ nI 500 < x) : ∃ z : Nat, x = nI z ∧ 1 ≤ z ∧ z ≤ 500 := by
  obtain ⟨z, e, h3, h4⟩ := dN_of (n := 0) (Nat.zero_le _) h1 h2
  exact ⟨z, e, h3, by omega⟩
theorem w01 {x : Int32} (h1 : ¬ x < 0) (h2 : ¬ nI 1 < x) : ∃ j : Nat, x = nI j ∧ j < 2 := by
  obtain ⟨j, hj, rfl⟩ := nI_of h1
  refine ⟨j, rfl, ?_⟩
  rcases Nat.lt_or_ge 1 j with q | q
  · exact absurd (nI_lt q hj) h2
  · omega
theorem dF_e2 {o w : Int32} {z : Nat × Nat} (h : dF o w z) : exO o ∧ ¬ w < 0 ∧ ¬ nI 1 < w := by
  obtain ⟨h1, h2, h3, h4⟩ := h
  rw [h1, h2]
  exact ⟨exO_nI h3, nI_pos (by omega), nI_nlt (by omega) (by omega)⟩
/-- what find counts -/
def fnP (o : Nat) (x : Int32) (j : Nat) (f : Nat → mP) (i : Nat) : Prop := (j = 0 → mk o (f i).1 < mk o x) ∧ (j ≠ 0 → ¬ mk o x < mk o (f i).1)
theorem fn_0 {o : Nat} {x : Int32} {f : Nat → mP} {n j : Nat} (h : j = 0) : cn (fnP o x j f) 0 (n - 0) = cn (fun i => mk o (f i).1 < mk o x) 0 (n - 0) := cn_congr _ (fun i _ => ⟨fun z => z.1 h, fun z => ⟨fun _ => z, fun y => absurd h y⟩⟩)
theorem fn_1 {o : Nat} {x : Int32} {f : Nat → mP} {n j : Nat} (h : j = 1) : cn (fnP o x j f) 0 (n - 0) = cn (fun i => ¬ mk o x < mk o (f i).1) 0 (n - 0) := cn_congr _ (fun i _ => ⟨fun z => z.2 (by omega), fun z => ⟨fun y => by omega, fun _ => z⟩⟩)
theorem mkR3 {x y : Int32} (h : ¬ (y &&& nI 255) ≤ (x &&& nI 255)) : mk 3 x < mk 3 y := mk3.mpr (ng_le h)
