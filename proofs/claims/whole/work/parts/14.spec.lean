/-! WHAT EACH CALL DOES, in words of how many there are (n) and the pairs (f); C the words of RowPress, R those of the reference, where they differ; and that both agree. -/
def sam (n : Nat) (f : Nat → mP) (n1 : Nat) (f1 : Nat → mP) : Prop := n1 = n ∧ ∀ j, j < n → f1 j = f j
def ag (n : Nat) (f : Nat → mP) (n' : Nat) (f' : Nat → mP) : Prop := n = n' ∧ ∀ j, j < n → f j = f' j
theorem sam_rf {n : Nat} {f : Nat → mP} : sam n f n f := ⟨rfl, fun _ _ => rfl⟩
theorem ag_sam {n n1 n1' : Nat} {f f' f1 f1' : Nat → mP} (h : ∀ j, j < n → f j = f' j) (h1 : sam n f n1 f1) (h2 : sam n f' n1' f1') : ag n1 f1 n1' f1' :=
  ⟨by rw [h1.1, h2.1], fun j hj => by rw [h1.1] at hj; rw [h1.2 j hj, h2.2 j hj, h j hj]⟩
/-- a call is either refused or read -/
def cs {α : Type} (dec : α → Prop) (bad : Prop) (good : α → Prop) : Prop := (bad ∧ ∀ x, ¬ dec x) ∨ ∃ x, dec x ∧ good x
theorem cs_ag {α : Type} {dec : α → Prop} {bad bad' : Prop} {good good' : α → Prop} (hu : ∀ x y, dec x → dec y → x = y) (h : cs dec bad good) (h' : cs dec bad' good') : (bad ∧ bad') ∨ ∃ x, dec x ∧ good x ∧ good' x := by
  rcases h with ⟨h1, h2⟩ | ⟨x, h1, h2⟩
  · rcases h' with ⟨k1, _⟩ | ⟨y, k1, _⟩
    · exact Or.inl ⟨h1, k1⟩
    · exact absurd k1 (h2 y)
  · rcases h' with ⟨_, k2⟩ | ⟨y, k1, k2⟩
    · exact absurd h1 (k2 x)
    · have := hu x y h1 k1
      subst this
      exact Or.inr ⟨x, h1, h2, k2⟩
theorem nI_inj {a b : Nat} {x : Int32} (h1 : x = nI a) (h2 : x = nI b) (ha : a ≤ 500) (hb : b ≤ 500) : a = b := (nI_eq (by omega) (by omega)).mp (h1.symm.trans h2)
def dN (n : Nat) (x : Int32) (z : Nat) : Prop := x = nI z ∧ 1 ≤ z ∧ n + z ≤ 500
def dP (n : Nat) (x : Int32) (z : Nat) : Prop := x = nI z ∧ z < n
def dO (o : Int32) (z : Nat) : Prop := o = nI z ∧ z < 4
def dT (n : Nat) (x y : Int32) (z : Nat × Nat) : Prop := x = nI z.1 ∧ y = nI z.2 ∧ z.1 ≤ z.2 ∧ z.2 ≤ n
def dS (n : Nat) (x y o : Int32) (z : Nat × Nat × Nat) : Prop := x = nI z.1 ∧ y = nI z.2.1 ∧ o = nI z.2.2 ∧ z.1 ≤ z.2.1 ∧ z.2.1 ≤ n ∧ z.2.2 < 4
def dM (n : Nat) (x y v : Int32) (z : Nat × Nat × Nat) : Prop := x = nI z.1 ∧ y = nI z.2.1 ∧ v = nI z.2.2 ∧ z.1 ≤ z.2.1 ∧ z.2.1 ≤ z.2.2 ∧ z.2.2 ≤ n
def dG (n : Nat) (x y v o : Int32) (z : Nat × Nat × Nat × Nat) : Prop := x = nI z.1 ∧ y = nI z.2.1 ∧ v = nI z.2.2.1 ∧ o = nI z.2.2.2 ∧ z.1 ≤ z.2.1 ∧ z.2.1 ≤ z.2.2.1 ∧ z.2.2.1 ≤ n ∧ z.2.2.2 < 4
def dF (o w : Int32) (z : Nat × Nat) : Prop := o = nI z.1 ∧ w = nI z.2 ∧ z.1 < 4 ∧ z.2 < 2
def dR (n : Nat) (x o : Int32) (z : Nat × Nat) : Prop := x = nI z.1 ∧ o = nI z.2 ∧ z.1 < n ∧ z.2 < 4
theorem dN_u {n : Nat} {x : Int32} (u v : Nat) (h : dN n x u) (k : dN n x v) : u = v := nI_inj h.1 k.1 (by have := h.2; omega) (by have := k.2; omega)
theorem dP_u {n : Nat} {x : Int32} (hn : n ≤ 500) (u v : Nat) (h : dP n x u) (k : dP n x v) : u = v := nI_inj h.1 k.1 (by have := h.2; omega) (by have := k.2; omega)
theorem dO_u {o : Int32} (u v : Nat) (h : dO o u) (k : dO o v) : u = v := nI_inj h.1 k.1 (by have := h.2; omega) (by have := k.2; omega)
theorem dT_u {n : Nat} {x y : Int32} (hn : n ≤ 500) (u v : Nat × Nat) (h : dT n x y u) (k : dT n x y v) : u = v := by
  obtain ⟨u1, u2⟩ := u; obtain ⟨v1, v2⟩ := v
  obtain ⟨h1, h2, h3, h4⟩ := h; obtain ⟨k1, k2, k3, k4⟩ := k
  dsimp only at *
  rw [nI_inj h1 k1 (by omega) (by omega), nI_inj h2 k2 (by omega) (by omega)]
theorem dS_u {n : Nat} {x y o : Int32} (hn : n ≤ 500) (u v : Nat × Nat × Nat) (h : dS n x y o u) (k : dS n x y o v) : u = v := by
  obtain ⟨u1, u2, u3⟩ := u; obtain ⟨v1, v2, v3⟩ := v
  obtain ⟨h1, h2, h3, h4, h5, h6⟩ := h; obtain ⟨k1, k2, k3, k4, k5, k6⟩ := k
  dsimp only at *
  rw [nI_inj h1 k1 (by omega) (by omega), nI_inj h2 k2 (by omega) (by omega), nI_inj h3 k3 (by omega) (by omega)]
theorem dM_u {n : Nat} {x y w : Int32} (hn : n ≤ 500) (u v : Nat × Nat × Nat) (h : dM n x y w u) (k : dM n x y w v) : u = v := by
  obtain ⟨u1, u2, u3⟩ := u; obtain ⟨v1, v2, v3⟩ := v
  obtain ⟨h1, h2, h3, h4, h5, h6⟩ := h; obtain ⟨k1, k2, k3, k4, k5, k6⟩ := k
  dsimp only at *
  rw [nI_inj h1 k1 (by omega) (by omega), nI_inj h2 k2 (by omega) (by omega), nI_inj h3 k3 (by omega) (by omega)]
theorem dG_u {n : Nat} {x y w o : Int32} (hn : n ≤ 500) (u v : Nat × Nat × Nat × Nat) (h : dG n x y w o u) (k : dG n x y w o v) : u = v := by
  obtain ⟨u1, u2, u3, u4⟩ := u; obtain ⟨v1, v2, v3, v4⟩ := v
  obtain ⟨h1, h2, h3, h4, h5, h6, h7, h8⟩ := h; obtain ⟨k1, k2, k3, k4, k5, k6, k7, k8⟩ := k
  dsimp only at *
  rw [nI_inj h1 k1 (by omega) (by omega), nI_inj h2 k2 (by omega) (by omega), nI_inj h3 k3 (by omega) (by omega), nI_inj h4 k4 (by omega) (by omega)]
theorem dF_u {o w : Int32} (u v : Nat × Nat) (h : dF o w u) (k : dF o w v) : u = v := by
  obtain ⟨u1, u2⟩ := u; obtain ⟨v1, v2⟩ := v
  obtain ⟨h1, h2, h3, h4⟩ := h; obtain ⟨k1, k2, k3, k4⟩ := k
  dsimp only at *
  rw [nI_inj h1 k1 (by omega) (by omega), nI_inj h2 k2 (by omega) (by omega)]
theorem dR_u {n : Nat} {x o : Int32} (hn : n ≤ 500) (u v : Nat × Nat) (h : dR n x o u) (k : dR n x o v) : u = v := by
  obtain ⟨u1, u2⟩ := u; obtain ⟨v1, v2⟩ := v
  obtain ⟨h1, h2, h3, h4⟩ := h; obtain ⟨k1, k2, k3, k4⟩ := k
  dsimp only at *
  rw [nI_inj h1 k1 (by omega) (by omega), nI_inj h2 k2 (by omega) (by omega)]
/-- what a reading says of the tests -/
theorem dO_e {o : Int32} {z : Nat} (h : dO o z) : exO o := by rw [h.1]; exact exO_nI h.2
theorem dP_e {n : Nat} {x : Int32} {z : Nat} (hn : n ≤ 500) (h : dP n x z) : plO n x := by
  obtain ⟨h1, h2⟩ := h
  rw [h1]; exact ⟨nI_pos (by omega), nI_ge h2 (by omega)⟩
theorem dT_e {n : Nat} {x y : Int32} {z : Nat × Nat} (hn : n ≤ 500) (h : dT n x y z) : stP n x y := by
  obtain ⟨h1, h2, h3, h4⟩ := h
  rw [h1, h2]; exact stP_nI hn h3 h4
theorem dS_e {n : Nat} {x y o : Int32} {z : Nat × Nat × Nat} (hn : n ≤ 500) (h : dS n x y o z) : exO o ∧ stP n x y := by
  obtain ⟨h1, h2, h3, h4, h5, h6⟩ := h
  rw [h1, h2, h3]; exact ⟨exO_nI h6, stP_nI hn h4 h5⟩
theorem dM_e {n : Nat} {x y v : Int32} {z : Nat × Nat × Nat} (hn : n ≤ 500) (h : dM n x y v z) : stP n x y ∧ stP n y v := by
  obtain ⟨h1, h2, h3, h4, h5, h6⟩ := h
  rw [h1, h2, h3]; exact ⟨stP_nI hn h4 (by omega), stP_nI hn h5 h6⟩
theorem dG_e {n : Nat} {x y v o : Int32} {z : Nat × Nat × Nat × Nat} (hn : n ≤ 500) (h : dG n x y v o z) : exO o ∧ stP n x y ∧ stP n y v := by
  obtain ⟨h1, h2, h3, h4, h5, h6, h7, h8⟩ := h
  rw [h1, h2, h3, h4]; exact ⟨exO_nI h8, stP_nI hn h5 (by omega), stP_nI hn h6 h7⟩
theorem dR_e {n : Nat} {x o : Int32} {z : Nat × Nat} (hn : n ≤ 500) (h : dR n x o z) : exO o ∧ plO n x := by
  obtain ⟨h1, h2, h3, h4⟩ := h
  rw [h1, h2]; exact ⟨exO_nI h4, nI_pos (by omega), nI_ge h3 (by omega)⟩
theorem dF_e {o w : Int32} {z : Nat × Nat} (h : dF o w z) : exO o ∧ (w = 0 ∨ w = nI 1) := by
  obtain ⟨h1, h2, h3, h4⟩ := h
  rw [h1, h2]
  refine ⟨exO_nI h3, ?_⟩
  rcases (show z.2 = 0 ∨ z.2 = 1 by omega) with q | q
  · rw [q]; exact Or.inl nI_0
  · rw [q]; exact Or.inr rfl
/-- pl looks at its stretch alone -/
theorem pl_congr {φ : Int32 → Int} {f g : Nat → mP} {a b k : Nat} (h : ∀ j, a ≤ j → j < b → f j = g j) (k1 : a ≤ k) (k2 : k < b) : pl φ f a b k = pl φ g a b k := by
  unfold pl
  congr 1
  exact cn_congr _ (fun j hj => by simp only [plP]; rw [h (a + j) (by omega) (by omega), h k k1 k2])
def soC (φ : Int32 → Int) (n : Nat) (f f1 : Nat → mP) (a b : Nat) : Prop := (∀ j, j < n → (j < a ∨ b ≤ j) → f1 j = f j) ∧ ∀ q, a ≤ q → q < b → ∃ k, a ≤ k ∧ k < b ∧ pl φ f a b k = q ∧ f k = f1 q
def soR (φ : Int32 → Int) (n : Nat) (f f1 : Nat → mP) (a b : Nat) : Prop := (∀ j, j < n → (j < a ∨ b ≤ j) → f1 j = f j) ∧ ∀ k, a ≤ k → k < b → f1 (pl φ f a b k) = f k
theorem so_ag {φ : Int32 → Int} {n : Nat} {f g f1 g1 : Nat → mP} {a b : Nat} (hb : b ≤ n) (h : soC φ n f f1 a b) (h' : soR φ n g g1 a b) (e : ∀ j, j < n → f j = g j) : ∀ j, j < n → f1 j = g1 j := by
  intro j hj
  by_cases c : j < a ∨ b ≤ j
  · rw [h.1 j hj c, h'.1 j hj c, e j hj]
  · obtain ⟨k, k1, k2, k3, k4⟩ := h.2 j (by omega) (by omega)
    have h2 := h'.2 k k1 k2
    rw [← pl_congr (f := f) (fun i _ i2 => e i (by omega)) k1 k2, k3] at h2
    rw [← k4, h2, e k (by omega)]
theorem soC_of {φ : Int32 → Int} {n : Nat} {f f1 : Nat → mP} {a b : Nat} (h1 : ∀ j, j < a ∨ b ≤ j → f1 j = f j) (h2 : srt φ f1 a b) (h3 : sm φ (sg f a b) (sg f1 a b)) : soC φ n f f1 a b :=
  ⟨fun j _ q => h1 j q, pl_onto h2 h3⟩
theorem sm_cn {φ : Int32 → Int} {f g : Nat → mP} {a b : Nat} (h : sm φ (sg f a b) (sg g a b)) (p : mP → Bool) : cn (fun j => p (f j) = true) a (b - a) = cn (fun j => p (g j) = true) a (b - a) := by
  have hp := ((sm_perm h).filter p).length_eq
  unfold sg at hp
  rw [fl_len, fl_len] at hp
  exact hp
def Qput (n : Nat) (f : Nat → mP) (x y : Int32) (r : Int32) (n1 : Nat) (f1 : Nat → mP) : Prop := (n = 500 ∧ r = -1 ∧ sam n f n1 f1) ∨ (n < 500 ∧ r = nI (n + 1) ∧ n1 = n + 1 ∧ f1 n = (x, y) ∧ ∀ j, j < n → f1 j = f j)
def Qrun (n : Nat) (f : Nat → mP) (x y v w : Int32) (r : Int32) (n1 : Nat) (f1 : Nat → mP) : Prop := cs (dN n x) (r = -1 ∧ sam n f n1 f1) (fun z => r = nI (n + z) ∧ n1 = n + z ∧ (∀ j, j < n → f1 j = f j) ∧ ∀ i, i < z → f1 (n + i) = (y + nI i * v, w + nI i))
def QsoC (n : Nat) (f : Nat → mP) (x y o : Int32) (r : Int32) (n1 : Nat) (f1 : Nat → mP) : Prop := cs (dS n x y o) (r = 0 ∧ sam n f n1 f1) (fun z => r = 1 ∧ n1 = n ∧ soC (mk z.2.2) n f f1 z.1 z.2.1)
def QsoR (n : Nat) (f : Nat → mP) (x y o : Int32) (r : Int32) (n1 : Nat) (f1 : Nat → mP) : Prop := cs (dS n x y o) (r = 0 ∧ sam n f n1 f1) (fun z => r = 1 ∧ n1 = n ∧ soR (mk z.2.2) n f f1 z.1 z.2.1)
def QmeC (n : Nat) (f : Nat → mP) (x y v o : Int32) (r : Int32) (n1 : Nat) (f1 : Nat → mP) : Prop := cs (dG n x y v o) (r = 0 ∧ sam n f n1 f1) (fun z => (¬ (srt (mk z.2.2.2) f z.1 z.2.1 ∧ srt (mk z.2.2.2) f z.2.1 z.2.2.1) ∧ r = 0 ∧ sam n f n1 f1) ∨ (srt (mk z.2.2.2) f z.1 z.2.1 ∧ srt (mk z.2.2.2) f z.2.1 z.2.2.1 ∧ r = 1 ∧ n1 = n ∧ soC (mk z.2.2.2) n f f1 z.1 z.2.2.1))
def QmeR (n : Nat) (f : Nat → mP) (x y v o : Int32) (r : Int32) (n1 : Nat) (f1 : Nat → mP) : Prop := cs (dG n x y v o) (r = 0 ∧ sam n f n1 f1) (fun z => (¬ (srt (mk z.2.2.2) f z.1 z.2.1 ∧ srt (mk z.2.2.2) f z.2.1 z.2.2.1) ∧ r = 0 ∧ sam n f n1 f1) ∨ (srt (mk z.2.2.2) f z.1 z.2.1 ∧ srt (mk z.2.2.2) f z.2.1 z.2.2.1 ∧ r = 1 ∧ n1 = n ∧ soR (mk z.2.2.2) n f f1 z.1 z.2.2.1))
def Qrot (n : Nat) (f : Nat → mP) (x y v : Int32) (r : Int32) (n1 : Nat) (f1 : Nat → mP) : Prop := cs (dM n x y v) (r = 0 ∧ sam n f n1 f1) (fun z => r = 1 ∧ n1 = n ∧ ∀ j, j < n → f1 j = ro f z.1 z.2.1 z.2.2 j)
def Qtur (n : Nat) (f : Nat → mP) (x y : Int32) (r : Int32) (n1 : Nat) (f1 : Nat → mP) : Prop := cs (dT n x y) (r = 0 ∧ sam n f n1 f1) (fun z => r = 1 ∧ n1 = n ∧ ∀ j, j < n → f1 j = rv f z.1 z.2 j)
def QspC (n : Nat) (f : Nat → mP) (x y v o : Int32) (r : Int32) (n1 : Nat) (f1 : Nat → mP) : Prop := cs (dS n x y o) (r = -1 ∧ sam n f n1 f1) (fun z => r = nI (cn (fun j => mk z.2.2 (f j).1 < mk z.2.2 v) z.1 (z.2.1 - z.1)) ∧ n1 = n ∧ soC (ps z.2.2 v) n f f1 z.1 z.2.1)
def QspR (n : Nat) (f : Nat → mP) (x y v o : Int32) (r : Int32) (n1 : Nat) (f1 : Nat → mP) : Prop := cs (dS n x y o) (r = -1 ∧ sam n f n1 f1) (fun z => r = nI (cn (fun j => mk z.2.2 (f j).1 < mk z.2.2 v) z.1 (z.2.1 - z.1)) ∧ n1 = n ∧ soR (ps z.2.2 v) n f f1 z.1 z.2.1)
def Qthi (n : Nat) (f : Nat → mP) (o : Int32) (r : Int32) (n1 : Nat) (f1 : Nat → mP) : Prop := cs (dO o) (r = -1 ∧ sam n f n1 f1) (fun z => (¬ srt (mk z) f 0 n ∧ r = -1 ∧ sam n f n1 f1) ∨ (srt (mk z) f 0 n ∧ r = nI n1 ∧ n1 = cn (kp z f) 0 (n - 0) ∧ ∀ i, i < n → kp z f i → f1 (cn (kp z f) 0 (i - 0)) = f i))
def Qsrd (n : Nat) (f : Nat → mP) (x y o : Int32) (r : Int32) : Prop := cs (dS n x y o) (r = -1) (fun z => tr r (srt (mk z.2.2) f z.1 z.2.1))
def Qfin (n : Nat) (f : Nat → mP) (x o w : Int32) (r : Int32) : Prop := cs (dF o w) (r = -1) (fun z => (¬ srt (mk z.1) f 0 n ∧ r = -1) ∨ (srt (mk z.1) f 0 n ∧ (z.2 = 0 → r = nI (cn (fun j => mk z.1 (f j).1 < mk z.1 x) 0 (n - 0))) ∧ (z.2 = 1 → r = nI (cn (fun j => ¬ mk z.1 x < mk z.1 (f j).1) 0 (n - 0)))))
def Qran (n : Nat) (f : Nat → mP) (x o : Int32) (r : Int32) : Prop := cs (dR n x o) (r = -1) (fun z => r = nI (pl (mk z.2) f 0 n z.1))
def Qkey (n : Nat) (f : Nat → mP) (x : Int32) (r : Int32) : Prop := cs (dP n x) (r = 0) (fun z => r = (f z).1)
def Qtag (n : Nat) (f : Nat → mP) (x : Int32) (r : Int32) : Prop := cs (dP n x) (r = 0) (fun z => r = (f z).2)
def Qcou (n : Nat) (f : Nat → mP) (x : Int32) (r : Int32) : Prop := (x = nI 0 ∧ r = nI n) ∨ (x = nI 1 ∧ r = nI (cn (fun j => j = 0 ∨ (f j).1 < (f (j - 1)).1) 0 (n - 0))) ∨ (x = nI 2 ∧ r = nI (cn (fun j => ¬ ∃ i, i < j ∧ (f i).1 = (f j).1) 0 (n - 0))) ∨ (x ≠ nI 0 ∧ x ≠ nI 1 ∧ x ≠ nI 2 ∧ r = -1)
-- both agree
theorem srt_ag {φ : Int32 → Int} {n : Nat} {f g : Nat → mP} (e : ∀ j, j < n → f j = g j) {a b : Nat} (hb : b ≤ n) : srt φ f a b ↔ srt φ g a b :=
  ⟨fun h => srt_congr h (fun j _ j2 => (e j (by omega)).symm), fun h => srt_congr h (fun j _ j2 => e j (by omega))⟩
theorem A_put {n : Nat} {f g : Nat → mP} {x y r r' : Int32} {n1 n1' : Nat} {f1 g1 : Nat → mP} (e : ∀ j, j < n → f j = g j) (h : Qput n f x y r n1 f1) (h' : Qput n g x y r' n1' g1) : r = r' ∧ ag n1 f1 n1' g1 := by
  rcases h with ⟨a1, a2, a3⟩ | ⟨a1, a2, a3, a4, a5⟩
  · rcases h' with ⟨b1, b2, b3⟩ | ⟨b1, b2, b3, b4, b5⟩
    · exact ⟨by rw [a2, b2], ag_sam e a3 b3⟩
    · omega
  · rcases h' with ⟨b1, b2, b3⟩ | ⟨b1, b2, b3, b4, b5⟩
    · omega
    · refine ⟨by rw [a2, b2], by rw [a3, b3], fun j hj => ?_⟩
      rw [a3] at hj
      rcases Nat.lt_or_ge j n with c | c
      · rw [a5 j c, b5 j c, e j c]
      · rw [show j = n by omega, a4, b4]
theorem A_run {n : Nat} {f g : Nat → mP} {x y v w r r' : Int32} {n1 n1' : Nat} {f1 g1 : Nat → mP} (e : ∀ j, j < n → f j = g j) (h : Qrun n f x y v w r n1 f1) (h' : Qrun n g x y v w r' n1' g1) : r = r' ∧ ag n1 f1 n1' g1 := by
  rcases cs_ag dN_u h h' with ⟨⟨a1, a2⟩, b1, b2⟩ | ⟨z, dz, ⟨a1, a2, a3, a4⟩, b1, b2, b3, b4⟩
  · exact ⟨by rw [a1, b1], ag_sam e a2 b2⟩
  · refine ⟨by rw [a1, b1], by rw [a2, b2], fun j hj => ?_⟩
    rw [a2] at hj
    rcases Nat.lt_or_ge j n with c | c
    · rw [a3 j c, b3 j c, e j c]
    · rw [show j = n + (j - n) by omega, a4 _ (by omega), b4 _ (by omega)]
theorem A_so {n : Nat} {f g : Nat → mP} {x y o r r' : Int32} {n1 n1' : Nat} {f1 g1 : Nat → mP} (hn : n ≤ 500) (e : ∀ j, j < n → f j = g j) (h : QsoC n f x y o r n1 f1) (h' : QsoR n g x y o r' n1' g1) : r = r' ∧ ag n1 f1 n1' g1 := by
  rcases cs_ag (dS_u hn) h h' with ⟨⟨a1, a2⟩, b1, b2⟩ | ⟨z, dz, ⟨a1, a2, a3⟩, b1, b2, b3⟩
  · exact ⟨by rw [a1, b1], ag_sam e a2 b2⟩
  · exact ⟨by rw [a1, b1], by rw [a2, b2], fun j hj => so_ag dz.2.2.2.2.1 a3 b3 e j (by omega)⟩
theorem A_me {n : Nat} {f g : Nat → mP} {x y v o r r' : Int32} {n1 n1' : Nat} {f1 g1 : Nat → mP} (hn : n ≤ 500) (e : ∀ j, j < n → f j = g j) (h : QmeC n f x y v o r n1 f1) (h' : QmeR n g x y v o r' n1' g1) : r = r' ∧ ag n1 f1 n1' g1 := by
  rcases cs_ag (dG_u hn) h h' with ⟨⟨a1, a2⟩, b1, b2⟩ | ⟨z, dz, k, k'⟩
  · exact ⟨by rw [a1, b1], ag_sam e a2 b2⟩
  · obtain ⟨-, -, -, -, d5, d6, d7, d8⟩ := dz
    rw [← srt_ag e (by omega), ← srt_ag e (by omega)] at k'
    rcases k with ⟨a0, a1, a2⟩ | ⟨a0, a0', a1, a2, a3⟩
    · rcases k' with ⟨b0, b1, b2⟩ | ⟨b0, b0', b1, b2, b3⟩
      · exact ⟨by rw [a1, b1], ag_sam e a2 b2⟩
      · exact absurd ⟨b0, b0'⟩ a0
    · rcases k' with ⟨b0, b1, b2⟩ | ⟨b0, b0', b1, b2, b3⟩
      · exact absurd ⟨a0, a0'⟩ b0
      · exact ⟨by rw [a1, b1], by rw [a2, b2], fun j hj => so_ag d7 a3 b3 e j (by omega)⟩
theorem A_rot {n : Nat} {f g : Nat → mP} {x y v r r' : Int32} {n1 n1' : Nat} {f1 g1 : Nat → mP} (hn : n ≤ 500) (e : ∀ j, j < n → f j = g j) (h : Qrot n f x y v r n1 f1) (h' : Qrot n g x y v r' n1' g1) : r = r' ∧ ag n1 f1 n1' g1 := by
  rcases cs_ag (dM_u hn) h h' with ⟨⟨a1, a2⟩, b1, b2⟩ | ⟨z, dz, ⟨a1, a2, a3⟩, b1, b2, b3⟩
  · exact ⟨by rw [a1, b1], ag_sam e a2 b2⟩
  · refine ⟨by rw [a1, b1], by rw [a2, b2], fun j hj => ?_⟩
    obtain ⟨-, -, -, d4, d5, d6⟩ := dz
    rw [a3 j (by omega), b3 j (by omega)]
    simp only [ro]
    by_cases c1 : z.1 ≤ j ∧ j < z.1 + (z.2.2 - z.2.1)
    · rw [if_pos c1, if_pos c1]; exact e _ (by omega)
    · rw [if_neg c1, if_neg c1]
      by_cases c2 : z.1 + (z.2.2 - z.2.1) ≤ j ∧ j < z.2.2
      · rw [if_pos c2, if_pos c2]; exact e _ (by omega)
      · rw [if_neg c2, if_neg c2]; exact e _ (by omega)
theorem A_tur {n : Nat} {f g : Nat → mP} {x y r r' : Int32} {n1 n1' : Nat} {f1 g1 : Nat → mP} (hn : n ≤ 500) (e : ∀ j, j < n → f j = g j) (h : Qtur n f x y r n1 f1) (h' : Qtur n g x y r' n1' g1) : r = r' ∧ ag n1 f1 n1' g1 := by
  rcases cs_ag (dT_u hn) h h' with ⟨⟨a1, a2⟩, b1, b2⟩ | ⟨z, dz, ⟨a1, a2, a3⟩, b1, b2, b3⟩
  · exact ⟨by rw [a1, b1], ag_sam e a2 b2⟩
  · refine ⟨by rw [a1, b1], by rw [a2, b2], fun j hj => ?_⟩
    obtain ⟨-, -, d3, d4⟩ := dz
    rw [a3 j (by omega), b3 j (by omega)]
    simp only [rv]
    by_cases c1 : z.1 ≤ j ∧ j < z.2
    · rw [if_pos c1, if_pos c1]; exact e _ (by omega)
    · rw [if_neg c1, if_neg c1]; exact e _ (by omega)
theorem A_sp {n : Nat} {f g : Nat → mP} {x y v o r r' : Int32} {n1 n1' : Nat} {f1 g1 : Nat → mP} (hn : n ≤ 500) (e : ∀ j, j < n → f j = g j) (h : QspC n f x y v o r n1 f1) (h' : QspR n g x y v o r' n1' g1) : r = r' ∧ ag n1 f1 n1' g1 := by
  rcases cs_ag (dS_u hn) h h' with ⟨⟨a1, a2⟩, b1, b2⟩ | ⟨z, dz, ⟨a1, a2, a3⟩, b1, b2, b3⟩
  · exact ⟨by rw [a1, b1], ag_sam e a2 b2⟩
  · obtain ⟨-, -, -, d4, d5, d6⟩ := dz
    refine ⟨?_, by rw [a2, b2], fun j hj => so_ag d5 a3 b3 e j (by omega)⟩
    rw [a1, b1]
    congr 1
    exact cn_congr _ (fun j hj => by rw [e (z.1 + j) (by omega)])
theorem A_thi {n : Nat} {f g : Nat → mP} {o r r' : Int32} {n1 n1' : Nat} {f1 g1 : Nat → mP} (e : ∀ j, j < n → f j = g j) (h : Qthi n f o r n1 f1) (h' : Qthi n g o r' n1' g1) : r = r' ∧ ag n1 f1 n1' g1 := by
  rcases cs_ag dO_u h h' with ⟨⟨a1, a2⟩, b1, b2⟩ | ⟨z, dz, k, k'⟩
  · exact ⟨by rw [a1, b1], ag_sam e a2 b2⟩
  · rw [← srt_ag e (Nat.le_refl _)] at k'
    rcases k with ⟨a0, a1, a2⟩ | ⟨a0, a1, a2, a3⟩
    · rcases k' with ⟨b0, b1, b2⟩ | ⟨b0, b1, b2, b3⟩
      · exact ⟨by rw [a1, b1], ag_sam e a2 b2⟩
      · exact absurd b0 a0
    · rcases k' with ⟨b0, b1, b2⟩ | ⟨b0, b1, b2, b3⟩
      · exact absurd a0 b0
      · have hk : ∀ i, i < n → (kp z f i ↔ kp z g i) := fun i hi => by simp only [kp]; rw [e i hi, e (i - 1) (by omega)]
        have hc : ∀ i, i ≤ n → cn (kp z f) 0 (i - 0) = cn (kp z g) 0 (i - 0) := fun i hi => cn_congr _ (fun j hj => by rw [Nat.zero_add]; exact hk j (by omega))
        have hnn : n1 = n1' := by rw [a2, b2]; exact hc n (Nat.le_refl _)
        refine ⟨by rw [a1, b1, hnn], hnn, fun q hq => ?_⟩
        rw [a2] at hq
        obtain ⟨m, m1, m2, m3⟩ := cn_sub _ q hq
        rw [Nat.zero_add] at m2
        have x1 := a3 m (by omega) m2
        have x2 := b3 m (by omega) ((hk m (by omega)).mp m2)
        rw [← hc m (by omega)] at x2
        have m4 : cn (kp z f) 0 (m - 0) = q := m3
        rw [m4] at x1 x2
        rw [x1, x2, e m (by omega)]
theorem tr_ag {r r' : Int32} {P P' : Prop} (h : tr r P) (h' : tr r' P') (e : P ↔ P') : r = r' := by
  rcases h with ⟨a1, a2⟩ | ⟨a1, a2⟩
  · rcases h' with ⟨b1, b2⟩ | ⟨b1, b2⟩
    · rw [a1, b1]
    · exact absurd (e.mp a2) b2
  · rcases h' with ⟨b1, b2⟩ | ⟨b1, b2⟩
    · exact absurd (e.mpr b2) a2
    · rw [a1, b1]
theorem A_srd {n : Nat} {f g : Nat → mP} {x y o r r' : Int32} (hn : n ≤ 500) (e : ∀ j, j < n → f j = g j) (h : Qsrd n f x y o r) (h' : Qsrd n g x y o r') : r = r' := by
  rcases cs_ag (dS_u hn) h h' with ⟨a1, b1⟩ | ⟨z, dz, a1, b1⟩
  · rw [a1, b1]
  · exact tr_ag a1 b1 (srt_ag e dz.2.2.2.2.1)
theorem A_fin {n : Nat} {f g : Nat → mP} {x o w r r' : Int32} (e : ∀ j, j < n → f j = g j) (h : Qfin n f x o w r) (h' : Qfin n g x o w r') : r = r' := by
  rcases cs_ag dF_u h h' with ⟨a1, b1⟩ | ⟨z, dz, k, k'⟩
  · rw [a1, b1]
  · rw [← srt_ag e (Nat.le_refl _)] at k'
    rcases k with ⟨a0, a1⟩ | ⟨a0, a1, a2⟩
    · rcases k' with ⟨b0, b1⟩ | ⟨b0, b1, b2⟩
      · rw [a1, b1]
      · exact absurd b0 a0
    · rcases k' with ⟨b0, b1⟩ | ⟨b0, b1, b2⟩
      · exact absurd a0 b0
      · rcases (show z.2 = 0 ∨ z.2 = 1 by have := dz.2.2.2; omega) with c | c
        · rw [a1 c, b1 c]; congr 1
          exact cn_congr _ (fun j hj => by rw [e (0 + j) (by omega)])
        · rw [a2 c, b2 c]; congr 1
          exact cn_congr _ (fun j hj => by rw [e (0 + j) (by omega)])
theorem A_ran {n : Nat} {f g : Nat → mP} {x o r r' : Int32} (hn : n ≤ 500) (e : ∀ j, j < n → f j = g j) (h : Qran n f x o r) (h' : Qran n g x o r') : r = r' := by
  rcases cs_ag (dR_u hn) h h' with ⟨a1, b1⟩ | ⟨z, dz, a1, b1⟩
  · rw [a1, b1]
  · rw [a1, b1, pl_congr (fun j _ j2 => e j j2) (Nat.zero_le _) dz.2.2.1]
theorem A_key {n : Nat} {f g : Nat → mP} {x r r' : Int32} (hn : n ≤ 500) (e : ∀ j, j < n → f j = g j) (h : Qkey n f x r) (h' : Qkey n g x r') : r = r' := by
  rcases cs_ag (dP_u hn) h h' with ⟨a1, b1⟩ | ⟨z, dz, a1, b1⟩
  · rw [a1, b1]
  · rw [a1, b1, e z dz.2]
theorem A_tag {n : Nat} {f g : Nat → mP} {x r r' : Int32} (hn : n ≤ 500) (e : ∀ j, j < n → f j = g j) (h : Qtag n f x r) (h' : Qtag n g x r') : r = r' := by
  rcases cs_ag (dP_u hn) h h' with ⟨a1, b1⟩ | ⟨z, dz, a1, b1⟩
  · rw [a1, b1]
  · rw [a1, b1, e z dz.2]
theorem A_cou {n : Nat} {f g : Nat → mP} {x r r' : Int32} (e : ∀ j, j < n → f j = g j) (h : Qcou n f x r) (h' : Qcou n g x r') : r = r' := by
  have n01 : nI 0 ≠ nI 1 := by decide
  have n02 : nI 0 ≠ nI 2 := by decide
  have n12 : nI 1 ≠ nI 2 := by decide
  have e1 : cn (fun j => j = 0 ∨ (f j).1 < (f (j - 1)).1) 0 (n - 0) = cn (fun j => j = 0 ∨ (g j).1 < (g (j - 1)).1) 0 (n - 0) := cn_congr _ (fun j hj => by rw [e (0 + j) (by omega), e (0 + j - 1) (by omega)])
  have e2 : cn (fun j => ¬ ∃ i, i < j ∧ (f i).1 = (f j).1) 0 (n - 0) = cn (fun j => ¬ ∃ i, i < j ∧ (g i).1 = (g j).1) 0 (n - 0) := cn_congr _ (fun j hj => by
    constructor
    · rintro h ⟨i, i1, i2⟩
      exact h ⟨i, i1, by rw [e i (by omega), e (0 + j) (by omega)]; exact i2⟩
    · rintro h ⟨i, i1, i2⟩
      exact h ⟨i, i1, by rw [← e i (by omega), ← e (0 + j) (by omega)]; exact i2⟩)
  rcases h with ⟨a1, a2⟩ | ⟨a1, a2⟩ | ⟨a1, a2⟩ | ⟨a1, a2, a3, a4⟩ <;> rcases h' with ⟨b1, b2⟩ | ⟨b1, b2⟩ | ⟨b1, b2⟩ | ⟨b1, b2, b3, b4⟩
  · rw [a2, b2]
  · exact absurd (a1.symm.trans b1) n01
  · exact absurd (a1.symm.trans b1) n02
  · exact absurd a1 b1
  · exact absurd (b1.symm.trans a1) n01
  · rw [a2, b2, e1]
  · exact absurd (a1.symm.trans b1) n12
  · exact absurd a1 b2
  · exact absurd (b1.symm.trans a1) n02
  · exact absurd (b1.symm.trans a1) n12
  · rw [a2, b2, e2]
  · exact absurd a1 b3
  · exact absurd b1 a1
  · exact absurd b1 a2
  · exact absurd b1 a3
  · rw [a4, b4]
/-- what RowPress keeps of its latest cost -/
def ckI (x y w : Int32) : Prop := ∃ N g h : Nat, x = nI N ∧ N ≤ 500 ∧ y = nI g ∧ cO 8 N g ∧ g ≤ 40000 ∧ w = nI h ∧ cO 40 N h ∧ h ≤ 90000
theorem ck_0 : ckI (nI 0) (nI 0) (nI 0) := ⟨0, 0, 0, rfl, by decide, rfl, fun _ _ _ => Nat.zero_le _, by decide, rfl, fun _ _ _ => Nat.zero_le _, by decide⟩
