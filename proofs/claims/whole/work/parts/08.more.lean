/-! MORE PURE ROWS: sums of counters, the merge's pieces, thinning. -/
theorem ad0 (x : Int32) : x = x + nI 0 := by rw [nI_0]; exact (Int32.add_zero x).symm
theorem ad1 {x y : Int32} {d : Nat} (h : x = y + nI d) (g : Nat) : x + nI g = y + nI (d + g) := by
  rw [h, Int32.add_assoc, nI_add]
theorem pw2 (k : Nat) : k + 2 ≤ 2 * 2 ^ k := by
  induction k with
  | zero => decide
  | succ k ih => rw [Nat.pow_succ]; omega
/-- pieces of a merge's step, sorted -/
theorem ms_1 {φ : Int32 → Int} {f : Nat → mP} {a q d g b : Nat} (b2 : q ≤ d) (b3 : d ≤ g) (sA : srt φ f a d) : srt φ (ro f q d g) a q :=
  srt_congr (srt_sub sA (Nat.le_refl _) b2) (fun j _ h => ro_out b3 b2 (Or.inl h))
theorem ms_2 {φ : Int32 → Int} {f : Nat → mP} {q d g h b : Nat} (b2 : q ≤ d) (b3 : d ≤ g) (b4 : g ≤ b) (bh : h + d = q + g) (sB : srt φ f d b) : srt φ (ro f q d g) q h := by
  refine srt_shift (f := f) (c := d) (d := b) sB (by omega) (fun j j1 j2 => ?_)
  simp only [ro]
  rw [if_pos (by omega)]
theorem ms_3 {φ : Int32 → Int} {f g : Nat → mP} {a q d e h : Nat} (b1 : a ≤ q) (b2 : q ≤ d) (b3 : d ≤ e) (bh : h + d = q + e) (sA : srt φ f a d) (o1 : ∀ j, h ≤ j → g j = ro f q d e j) : srt φ g h e := by
  refine srt_shift (f := f) (c := q) (d := d) (srt_sub sA b1 (Nat.le_refl _)) (by omega) (fun j j1 j2 => ?_)
  rw [o1 j j1]
  simp only [ro]
  rw [if_neg (by omega), if_pos (by omega)]
  congr 1; omega
theorem ms_4 {φ : Int32 → Int} {f g : Nat → mP} {q d e h b : Nat} (b2 : q ≤ d) (b3 : d ≤ e) (bh : h + d = q + e) (sB : srt φ f d b) (o1 : ∀ j, h ≤ j → g j = ro f q d e j) : srt φ g e b :=
  srt_congr (srt_sub sB b3 (Nat.le_refl _)) (fun j j1 _ => by rw [o1 j (by omega)]; exact ro_out b3 b2 (Or.inr j1))
