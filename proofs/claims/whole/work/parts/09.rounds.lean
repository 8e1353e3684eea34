/-! ROUNDS: costs, the split's step, thinning. -/
theorem mn_nI {x y : Nat} (hx : x < 2 ^ 31) (hy : y < 2 ^ 31) : (if nI y < nI x then nI y else nI x) = nI (min x y) := by
  by_cases h : y < x
  · rw [if_pos (nI_lt h hx), show min x y = y by omega]
  · rw [if_neg (nI_nlt (by omega) (by omega)), show min x y = x by omega]
theorem pw9 {j : Nat} (h : 2 ^ j < 500) : j + 1 ≤ 9 := by
  rcases Nat.lt_or_ge j 9 with q | q
  · exact q
  · have h1 : 2 ^ 9 ≤ 2 ^ j := Nat.pow_le_pow_right (by decide) q
    have h2 : (2 : Nat) ^ 9 = 512 := by decide
    omega
theorem pwL {j L n : Nat} (h : j = 0 ∨ 2 ^ j < 2 * n) (hL : n ≤ 2 ^ L) : j ≤ L := by
  rcases h with h | h
  · omega
  · rcases Nat.lt_or_ge L j with q | q
    · have h1 : 2 ^ (L + 1) ≤ 2 ^ j := Nat.pow_le_pow_right (by decide) q
      rw [Nat.pow_succ] at h1
      omega
    · exact q
/-- a cost that the document allows -/
def cO (C n g : Nat) : Prop := ∀ L, 1 ≤ L → n ≤ 2 ^ L → g ≤ C * n * L
theorem cO_of {C d n g j : Nat} (h : g ≤ d * n * j) (hd : d ≤ C) (hj : j = 0 ∨ 2 ^ j < 2 * n) : cO C n g := fun L _ hL =>
  Nat.le_trans h (Nat.mul_le_mul (Nat.mul_le_mul_right n hd) (pwL hj hL))
/-- less than a key, or not -/
def ps (o : Nat) (x : Int32) (y : Int32) : Int := if mk o y < mk o x then 0 else 1
theorem ps_0 {o : Nat} {x y : Int32} (h : mk o y < mk o x) : ps o x y = 0 := if_pos h
theorem ps_1 {o : Nat} {x y : Int32} (h : ¬ mk o y < mk o x) : ps o x y = 1 := if_neg h
theorem ps_cn {o : Nat} {x : Int32} {f : Nat → mP} {a d : Nat} (h : srt (ps o x) f a d) : ∀ j, a ≤ j → j < d → (mk o (f j).1 < mk o x ↔ j < a + cn (fun j => mk o (f j).1 < mk o x) a (d - a)) := by
  intro j j1 j2
  have e : d - a = (j - a) + (d - j) := by omega
  by_cases c : mk o (f j).1 < mk o x
  · refine ⟨fun _ => ?_, fun _ => c⟩
    have h1 : cn (fun j => mk o (f j).1 < mk o x) a (j + 1 - a) = j + 1 - a := cn_all _ (fun i hi => by
      have h2 := h (a + i) j (by omega) (by omega) j2
      rw [ps_0 c] at h2
      by_cases c2 : mk o (f (a + i)).1 < mk o x
      · exact c2
      · rw [ps_1 c2] at h2; omega)
    have h3 := cn_app (fun j => mk o (f j).1 < mk o x) a (j + 1 - a) (d - (j + 1))
    rw [show j + 1 - a + (d - (j + 1)) = d - a by omega] at h3
    omega
  · refine ⟨fun q => absurd q c, fun q => ?_⟩
    exfalso
    have h1 : cn (fun j => mk o (f j).1 < mk o x) (a + (j - a)) (d - j) = 0 := cn_none _ (fun i hi => by
      have h2 := h j (a + (j - a) + i) j1 (by omega) (by omega)
      rw [ps_1 c] at h2
      intro c2
      rw [ps_0 c2] at h2; omega)
    have h3 := cn_app (fun j => mk o (f j).1 < mk o x) a (j - a) (d - j)
    rw [← e, h1] at h3
    have h4 := cn_le (fun j => mk o (f j).1 < mk o x) a (j - a)
    omega
theorem split_step {o : Nat} {x : Int32} {f : Nat → mP} {a d b u v : Nat} (h1 : a ≤ d) (h2 : d ≤ b) (sA : srt (ps o x) f a d) (sB : srt (ps o x) f d b)
    (hu : u = cn (fun j => mk o (f j).1 < mk o x) a (d - a)) (hv : v = cn (fun j => mk o (f j).1 < mk o x) d (b - d)) :
    (∀ j, j < a ∨ b ≤ j → ro f (a + u) d (d + v) j = f j) ∧ srt (ps o x) (ro f (a + u) d (d + v)) a b ∧ sm (ps o x) (sg f a b) (sg (ro f (a + u) d (d + v)) a b) := by
  have lu := cn_le (fun j => mk o (f j).1 < mk o x) a (d - a)
  have lv := cn_le (fun j => mk o (f j).1 < mk o x) d (b - d)
  rw [← hu] at lu
  rw [← hv] at lv
  have A := ps_cn sA
  have B := ps_cn sB
  rw [← hu] at A
  rw [← hv] at B
  have b2 : a + u ≤ d := by omega
  have b3 : d ≤ d + v := by omega
  have z0 : ∀ j, a ≤ j → j < a + u + v → ps o x (ro f (a + u) d (d + v) j).1 = 0 := by
    intro j j1 j2
    by_cases c : j < a + u
    · rw [ro_out b3 b2 (Or.inl c)]
      exact ps_0 ((A j j1 (by omega)).mpr c)
    · simp only [ro]
      rw [if_pos (by omega)]
      exact ps_0 ((B (j - (a + u) + d) (by omega) (by omega)).mpr (by omega))
  have z1 : ∀ j, a + u + v ≤ j → j < b → ps o x (ro f (a + u) d (d + v) j).1 = 1 := by
    intro j j1 j2
    by_cases c : j < d + v
    · simp only [ro]
      rw [if_neg (by omega), if_pos (by omega)]
      exact ps_1 (fun q => by have := (A (j - (d + v - d)) (by omega) (by omega)).mp q; omega)
    · rw [ro_out b3 b2 (Or.inr (by omega))]
      exact ps_1 (fun q => by have := (B j (by omega) (by omega)).mp q; omega)
  refine ⟨fun j hj => ro_out b3 b2 (by omega), ?_, ?_⟩
  · intro i j i1 ij j1
    by_cases c : i < a + u + v
    · rw [z0 i i1 c]
      by_cases c2 : j < a + u + v
      · rw [z0 j (by omega) c2]; exact Int.le_refl _
      · rw [z1 j (by omega) j1]; decide
    · rw [z1 i (by omega) (by omega), z1 j (by omega) j1]; exact Int.le_refl _
  · refine sm_wide (by omega) (by omega) (by omega) (fun j q => ro_out b3 b2 q) (ro_sm b2 b3 (fun i j i1 i2 j1 j2 => ?_))
    rw [ps_1 (fun q => by have := (A i (by omega) i2).mp q; omega), ps_0 ((B j j1 (by omega)).mpr j2)]
    decide
/-- the ones that stay when those alike are thinned -/
def kp (o : Nat) (f : Nat → mP) (j : Nat) : Prop := j = 0 ∨ mk o (f (j - 1)).1 < mk o (f j).1
/-- q places gone through, lf of them left -/
def thI (o : Nat) (f g : Nat → mP) (lf q : Nat) : Prop := lf = cn (kp o f) 0 (q - 0) ∧ lf ≤ q ∧ (∀ i, i < q → kp o f i → g (cn (kp o f) 0 (i - 0)) = f i) ∧ (∀ j, lf ≤ j → g j = f j) ∧ ((lf = 0 ∧ q = 0) ∨ (0 < lf ∧ 0 < q ∧ mk o (g (lf - 1)).1 = mk o (f (q - 1)).1))
theorem thI_0 {o : Nat} {f : Nat → mP} : thI o f f 0 0 := ⟨cn_s0, Nat.le_refl _, fun i h => absurd h (Nat.not_lt_zero i), fun _ _ => rfl, Or.inl ⟨rfl, rfl⟩⟩
theorem thI_keep {o : Nat} {f g g' : Nat → mP} {lf q : Nat} (h : thI o f g lf q) (hk : kp o f q) (hg : ∀ x, g' x = if x = lf then g q else g x) : thI o f g' (lf + 1) (q + 1) := by
  obtain ⟨h1, h2, h3, h4, h5⟩ := h
  have e : cn (kp o f) 0 (q + 1 - 0) = cn (kp o f) 0 (q - 0) + 1 := cn_st (Nat.zero_le _) hk
  refine ⟨by omega, by omega, fun i hi hki => ?_, fun j hj => ?_, Or.inr ⟨by omega, by omega, ?_⟩⟩
  · rcases Nat.lt_or_ge i q with c | c
    · have e2 : cn (kp o f) 0 (i + 1 - 0) = cn (kp o f) 0 (i - 0) + 1 := cn_st (Nat.zero_le _) hki
      have e3 := cn_app (kp o f) 0 (i + 1 - 0) (q - (i + 1))
      rw [show i + 1 - 0 + (q - (i + 1)) = q - 0 by omega] at e3
      rw [hg, if_neg (by omega)]
      exact h3 i c hki
    · have : i = q := by omega
      subst this
      rw [hg, if_pos h1.symm]
      exact h4 i h2
  · rw [hg, if_neg (by omega)]
    exact h4 j (by omega)
  · rw [hg, if_pos (by omega), h4 q h2]; rfl
theorem thI_skip {o : Nat} {f g : Nat → mP} {lf q n : Nat} (h : thI o f g lf q) (hq : q < n) (hs : srt (mk o) f 0 n) (hl : ¬ lf = 0) (hk : ¬ kp o f q) : thI o f g lf (q + 1) := by
  obtain ⟨h1, h2, h3, h4, h5⟩ := h
  have e : cn (kp o f) 0 (q + 1 - 0) = cn (kp o f) 0 (q - 0) := cn_sf (Nat.zero_le _) hk
  refine ⟨by omega, by omega, fun i hi hki => ?_, h4, Or.inr ⟨by omega, by omega, ?_⟩⟩
  · rcases Nat.lt_or_ge i q with c | c
    · exact h3 i c hki
    · have : i = q := by omega
      subst this
      exact absurd hki hk
  · rcases h5 with h5 | ⟨_, h6, h7⟩
    · omega
    · rw [h7]
      have h8 := hs (q - 1) q (by omega) (by omega) hq
      have h9 : ¬ mk o (f (q - 1)).1 < mk o (f q).1 := fun z => hk (Or.inr z)
      rw [show q + 1 - 1 = q by omega]
      omega
theorem thI_ask {o : Nat} {f g : Nat → mP} {lf q : Nat} (h : thI o f g lf q) (hl : ¬ lf = 0) : mk o (g (lf - 1)).1 < mk o (g q).1 ↔ kp o f q := by
  obtain ⟨h1, h2, h3, h4, h5⟩ := h
  rcases h5 with h5 | ⟨_, h6, h7⟩
  · omega
  · rw [h7, h4 q h2]
    exact ⟨fun z => Or.inr z, fun z => z.elim (fun y => by omega) (fun y => y)⟩
