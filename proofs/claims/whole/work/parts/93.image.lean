theorem cpS_o (σ : Sg) {w1 w2 s : Nat} (hs : s ≠ 7) : cpS σ w1 w2 s = σ s := by
  funext k
  unfold cpS cs280 cs74
  simp only [upA_r, hs, false_and, ↓reduceIte]
theorem cpS_k (σ : Sg) {w1 w2 k : Nat} (hk : k < 6 ∨ 25 ≤ k) : cpS σ w1 w2 7 k = σ 7 k := by
  unfold cpS cs280 cs74
  simp only [upA_a]
  simp only [if_neg (show ¬ k = 6 by omega), if_neg (show ¬ k = 7 by omega), if_neg (show ¬ k = 8 by omega), if_neg (show ¬ k = 9 by omega), if_neg (show ¬ k = 10 by omega), if_neg (show ¬ k = 11 by omega), if_neg (show ¬ k = 12 by omega), if_neg (show ¬ k = 13 by omega), if_neg (show ¬ k = 14 by omega), if_neg (show ¬ k = 15 by omega), if_neg (show ¬ k = 16 by omega), if_neg (show ¬ k = 17 by omega), if_neg (show ¬ k = 18 by omega), if_neg (show ¬ k = 19 by omega), if_neg (show ¬ k = 20 by omega), if_neg (show ¬ k = 21 by omega), if_neg (show ¬ k = 22 by omega), if_neg (show ¬ k = 23 by omega), if_neg (show ¬ k = 24 by omega)]
theorem opIm {A : Option (Int32 × Sg × (Nat → Bool))} {B : Sg → Option (Int32 × Sg)} {r : Int32} {s1 s2 : Sg} {lv1 : Nat → Bool} (h1 : A = some (r, s1, lv1)) (h2 : B s1 = some (r, s2)) (h3 : Inv lv1 s2) : ∃ r σ1 lv1, A = some (r, σ1, lv1) ∧ ∃ σ2, B σ1 = some (r, σ2) ∧ Inv lv1 σ2 := ⟨r, s1, lv1, h1, s2, h2, h3⟩
/-- what Inv says of a state that differs in the stores and the slots alone -/
theorem Inv_of {lv lv1 : Nat → Bool} {σ G : Sg} {x : Int32} (hI : Inv lv σ) (h8 : lv1 8 = lv 8) (h9 : lv1 9 = lv 9) (g6 : ∀ k, G 6 k = stI σ x 6 k) (g8 : G 8 = σ 8) (g9 : G 9 = σ 9) (g70 : G 7 0 = stM σ x 7 0) (g7 : ∀ k, 26 ≤ k ∨ (1 ≤ k ∧ k < 6) → G 7 k = σ 7 k) (hS : IvSt (G 0) (G 7)) (i0 : IvI1 (lv1 2) 0 (G 2) (G 7)) (i1 : IvI1 (lv1 3) 1 (G 3) (G 7)) (i2 : IvI1 (lv1 4) 2 (G 4) (G 7)) (i3 : IvI1 (lv1 5) 3 (G 5) (G 7)) : Inv lv1 G := by
  obtain ⟨⟨a1, a2, a3, a4, a5, a6, a7, a8⟩, a9, a10, -⟩ := hI.st x
  unfold Inv
  rw [h8, h9, g8, g9, g6, g6, g6, g6, g6, g6, g6, g6, g6, g6, g6, g6, g70, g7 40 (by omega), g7 32 (by omega), g7 33 (by omega), g7 49 (by omega), g7 50 (by omega), g7 35 (by omega), g7 2 (by omega), g7 1 (by omega), g7 28 (by omega), g7 29 (by omega), g7 48 (by omega)]
  exact ⟨⟨a1, a2, a3, a4, a5, a6, a7, a8⟩, a9, a10, hS, i0, i1, i2, i3⟩
