theorem cpR_stepI (f : Nat → Int32) {a b lo hi : Nat} (h : lo < hi) (hd : a + hi ≤ b ∨ b + hi ≤ a) : cpR id (upd f (b + lo) (f (a + lo))) a b (lo + 1) hi = cpR id f a b lo hi := cpR_step id f h hd
def cs74 (σ : Sg) (w1 w2 i : Nat) : Sg := upA (upA (upA (upA (upA (upA (upA σ 7 10 (cpR id (σ 7 10) (8 * w1) (8 * w2) i 8)) 7 11 (cpR id (σ 7 11) (8 * w1) (8 * w2) i 8)) 7 12 (cpR id (σ 7 12) (8 * w1) (8 * w2) i 8)) 7 13 (cpR id (σ 7 13) (8 * w1) (8 * w2) i 8)) 7 14 (cpR id (σ 7 14) (8 * w1) (8 * w2) i 8)) 7 15 (cpR id (σ 7 15) (8 * w1) (8 * w2) i 8)) 7 16 (cpR id (σ 7 16) (8 * w1) (8 * w2) i 8)
def ct74 (σ : Sg) (w1 w2 i : Nat) : Sg := upA (upA (upA (upA (upA (upA (upA σ 7 10 (upd (σ 7 10) (8 * w2 + i) (σ 7 10 (8 * w1 + i)))) 7 11 (upd (σ 7 11) (8 * w2 + i) (σ 7 11 (8 * w1 + i)))) 7 12 (upd (σ 7 12) (8 * w2 + i) (σ 7 12 (8 * w1 + i)))) 7 13 (upd (σ 7 13) (8 * w2 + i) (σ 7 13 (8 * w1 + i)))) 7 14 (upd (σ 7 14) (8 * w2 + i) (σ 7 14 (8 * w1 + i)))) 7 15 (upd (σ 7 15) (8 * w2 + i) (σ 7 15 (8 * w1 + i)))) 7 16 (upd (σ 7 16) (8 * w2 + i) (σ 7 16 (8 * w1 + i)))
theorem cs74_step (σ : Sg) {w1 w2 i : Nat} (hi : i < 8) (hd : w1 ≠ w2) : cs74 (ct74 σ w1 w2 i) w1 w2 (i + 1) = cs74 σ w1 w2 i := by
  have hd2 : 8 * w1 + 8 ≤ 8 * w2 ∨ 8 * w2 + 8 ≤ 8 * w1 := by omega
  have e10 : ct74 σ w1 w2 i 7 10 = upd (σ 7 10) (8 * w2 + i) (σ 7 10 (8 * w1 + i)) := rfl
  have e11 : ct74 σ w1 w2 i 7 11 = upd (σ 7 11) (8 * w2 + i) (σ 7 11 (8 * w1 + i)) := rfl
  have e12 : ct74 σ w1 w2 i 7 12 = upd (σ 7 12) (8 * w2 + i) (σ 7 12 (8 * w1 + i)) := rfl
  have e13 : ct74 σ w1 w2 i 7 13 = upd (σ 7 13) (8 * w2 + i) (σ 7 13 (8 * w1 + i)) := rfl
  have e14 : ct74 σ w1 w2 i 7 14 = upd (σ 7 14) (8 * w2 + i) (σ 7 14 (8 * w1 + i)) := rfl
  have e15 : ct74 σ w1 w2 i 7 15 = upd (σ 7 15) (8 * w2 + i) (σ 7 15 (8 * w1 + i)) := rfl
  have e16 : ct74 σ w1 w2 i 7 16 = upd (σ 7 16) (8 * w2 + i) (σ 7 16 (8 * w1 + i)) := rfl
  funext s k
  by_cases hs : s = 7
  · subst hs
    unfold cs74
    simp only [upA_a, e10, e11, e12, e13, e14, e15, e16, cpR_stepI _ hi hd2]
    by_cases c16 : k = 16
    · simp only [if_pos c16]
    simp only [if_neg c16]
    by_cases c15 : k = 15
    · simp only [if_pos c15]
    simp only [if_neg c15]
    by_cases c14 : k = 14
    · simp only [if_pos c14]
    simp only [if_neg c14]
    by_cases c13 : k = 13
    · simp only [if_pos c13]
    simp only [if_neg c13]
    by_cases c12 : k = 12
    · simp only [if_pos c12]
    simp only [if_neg c12]
    by_cases c11 : k = 11
    · simp only [if_pos c11]
    simp only [if_neg c11]
    by_cases c10 : k = 10
    · simp only [if_pos c10]
    simp only [if_neg c10]
    unfold ct74
    simp only [upA_a, if_neg c10, if_neg c11, if_neg c12, if_neg c13, if_neg c14, if_neg c15, if_neg c16]
  · unfold cs74 ct74
    simp only [upA_r, hs, false_and, ↓reduceIte]
theorem cs74_nil (σ : Sg) (w1 w2 : Nat) : cs74 σ w1 w2 8 = σ := by
  unfold cs74
  simp only [cpR_nil]
  funext s k
  by_cases hs : s = 7
  · subst hs
    simp only [upA_a]
    by_cases c16 : k = 16
    · rw [if_pos c16, c16]
    rw [if_neg c16]
    by_cases c15 : k = 15
    · rw [if_pos c15, c15]
    rw [if_neg c15]
    by_cases c14 : k = 14
    · rw [if_pos c14, c14]
    rw [if_neg c14]
    by_cases c13 : k = 13
    · rw [if_pos c13, c13]
    rw [if_neg c13]
    by_cases c12 : k = 12
    · rw [if_pos c12, c12]
    rw [if_neg c12]
    by_cases c11 : k = 11
    · rw [if_pos c11, c11]
    rw [if_neg c11]
    by_cases c10 : k = 10
    · rw [if_pos c10, c10]
    rw [if_neg c10]
  · simp only [upA_r, hs, false_and, ↓reduceIte]
theorem cp74 {w1 w2 : Nat} (h1 : w1 < 6) (h2 : w2 < 6) (hd : w1 ≠ w2) : ∀ m i n (σ : Sg), i + m = 8 → m < n → fM_copy_74 n σ (nI w1) (nI w2) (nI i) = fM_copy_202 FU (cs74 σ w1 w2 i) (nI w1) (nI w2) 0 := by
  intro m
  induction m with
  | zero =>
    intro i n σ hi hn
    obtain ⟨n, rfl⟩ : ∃ k, n = k + 1 := ⟨n - 1, by omega⟩
    have e : i = 8 := by omega
    subst e
    have q : (8 : Int32) ≤ nI 8 := by decide
    simp only [fM_copy_74, fM_copy_74_b, q, ↓reduceIte, cs74_nil]
  | succ m ih =>
    intro i n σ hi hn
    obtain ⟨n, rfl⟩ : ∃ k, n = k + 1 := ⟨n - 1, by omega⟩
    have q : ¬ (8 : Int32) ≤ nI i := nI_ge (b := 8) (by omega) (by decide)
    have x1 : 8 * nI w1 + nI i = nI (8 * w1 + i) := by show nI 8 * nI w1 + nI i = _; rw [pk_mul, nI_add]
    have x2 : 8 * nI w2 + nI i = nI (8 * w2 + i) := by show nI 8 * nI w2 + nI i = _; rw [pk_mul, nI_add]
    have b1 : ib (nI (8 * w1 + i)) 48 = true := ib_nI (by omega) (by decide)
    have b2 : ib (nI (8 * w2 + i)) 48 = true := ib_nI (by omega) (by decide)
    have c1 : (nI (8 * w1 + i)).toNatClampNeg = 8 * w1 + i := nI_clamp (by omega)
    have c2 : (nI (8 * w2 + i)).toNatClampNeg = 8 * w2 + i := nI_clamp (by omega)
    have e : fM_copy_74 (n + 1) σ (nI w1) (nI w2) (nI i) = fM_copy_74 n (ct74 σ w1 w2 i) (nI w1) (nI w2) (nI (i + 1)) := by
      simp only [fM_copy_74, fM_copy_74_b, q, x1, x2, b1, b2, c1, c2, gd_t, lt_v, nI_1, upA_r, Nat.reduceEqDiff, and_false, and_self, and_true, true_and, ct74, ↓reduceIte]
    rw [e, ih (i + 1) n _ (by omega) (by omega), cs74_step σ (by omega) hd]
def cs280 (σ : Sg) (w1 w2 i : Nat) : Sg := upA (upA (upA (upA (upA (upA σ 7 19 (cpR id (σ 7 19) (300 * w1) (300 * w2) i 300)) 7 20 (cpR id (σ 7 20) (300 * w1) (300 * w2) i 300)) 7 21 (cpR id (σ 7 21) (300 * w1) (300 * w2) i 300)) 7 22 (cpR id (σ 7 22) (300 * w1) (300 * w2) i 300)) 7 23 (cpR id (σ 7 23) (300 * w1) (300 * w2) i 300)) 7 24 (cpR id (σ 7 24) (300 * w1) (300 * w2) i 300)
def ct280 (σ : Sg) (w1 w2 i : Nat) : Sg := upA (upA (upA (upA (upA (upA σ 7 19 (upd (σ 7 19) (300 * w2 + i) (σ 7 19 (300 * w1 + i)))) 7 20 (upd (σ 7 20) (300 * w2 + i) (σ 7 20 (300 * w1 + i)))) 7 21 (upd (σ 7 21) (300 * w2 + i) (σ 7 21 (300 * w1 + i)))) 7 22 (upd (σ 7 22) (300 * w2 + i) (σ 7 22 (300 * w1 + i)))) 7 23 (upd (σ 7 23) (300 * w2 + i) (σ 7 23 (300 * w1 + i)))) 7 24 (upd (σ 7 24) (300 * w2 + i) (σ 7 24 (300 * w1 + i)))
theorem cs280_step (σ : Sg) {w1 w2 i : Nat} (hi : i < 300) (hd : w1 ≠ w2) : cs280 (ct280 σ w1 w2 i) w1 w2 (i + 1) = cs280 σ w1 w2 i := by
  have hd2 : 300 * w1 + 300 ≤ 300 * w2 ∨ 300 * w2 + 300 ≤ 300 * w1 := by omega
  have e19 : ct280 σ w1 w2 i 7 19 = upd (σ 7 19) (300 * w2 + i) (σ 7 19 (300 * w1 + i)) := rfl
  have e20 : ct280 σ w1 w2 i 7 20 = upd (σ 7 20) (300 * w2 + i) (σ 7 20 (300 * w1 + i)) := rfl
  have e21 : ct280 σ w1 w2 i 7 21 = upd (σ 7 21) (300 * w2 + i) (σ 7 21 (300 * w1 + i)) := rfl
  have e22 : ct280 σ w1 w2 i 7 22 = upd (σ 7 22) (300 * w2 + i) (σ 7 22 (300 * w1 + i)) := rfl
  have e23 : ct280 σ w1 w2 i 7 23 = upd (σ 7 23) (300 * w2 + i) (σ 7 23 (300 * w1 + i)) := rfl
  have e24 : ct280 σ w1 w2 i 7 24 = upd (σ 7 24) (300 * w2 + i) (σ 7 24 (300 * w1 + i)) := rfl
  funext s k
  by_cases hs : s = 7
  · subst hs
    unfold cs280
    simp only [upA_a, e19, e20, e21, e22, e23, e24, cpR_stepI _ hi hd2]
    by_cases c24 : k = 24
    · simp only [if_pos c24]
    simp only [if_neg c24]
    by_cases c23 : k = 23
    · simp only [if_pos c23]
    simp only [if_neg c23]
    by_cases c22 : k = 22
    · simp only [if_pos c22]
    simp only [if_neg c22]
    by_cases c21 : k = 21
    · simp only [if_pos c21]
    simp only [if_neg c21]
    by_cases c20 : k = 20
    · simp only [if_pos c20]
    simp only [if_neg c20]
    by_cases c19 : k = 19
    · simp only [if_pos c19]
    simp only [if_neg c19]
    unfold ct280
    simp only [upA_a, if_neg c19, if_neg c20, if_neg c21, if_neg c22, if_neg c23, if_neg c24]
  · unfold cs280 ct280
    simp only [upA_r, hs, false_and, ↓reduceIte]
theorem cs280_nil (σ : Sg) (w1 w2 : Nat) : cs280 σ w1 w2 300 = σ := by
  unfold cs280
  simp only [cpR_nil]
  funext s k
  by_cases hs : s = 7
  · subst hs
    simp only [upA_a]
    by_cases c24 : k = 24
    · rw [if_pos c24, c24]
    rw [if_neg c24]
    by_cases c23 : k = 23
    · rw [if_pos c23, c23]
    rw [if_neg c23]
    by_cases c22 : k = 22
    · rw [if_pos c22, c22]
    rw [if_neg c22]
    by_cases c21 : k = 21
    · rw [if_pos c21, c21]
    rw [if_neg c21]
    by_cases c20 : k = 20
    · rw [if_pos c20, c20]
    rw [if_neg c20]
    by_cases c19 : k = 19
    · rw [if_pos c19, c19]
    rw [if_neg c19]
  · simp only [upA_r, hs, false_and, ↓reduceIte]
theorem cp280 {w1 w2 : Nat} (h1 : w1 < 6) (h2 : w2 < 6) (hd : w1 ≠ w2) : ∀ m i n (σ : Sg), i + m = 300 → m < n → fM_copy_280 n σ (nI w1) (nI w2) (nI i) = some (cs280 σ w1 w2 i) := by
  intro m
  induction m with
  | zero =>
    intro i n σ hi hn
    obtain ⟨n, rfl⟩ : ∃ k, n = k + 1 := ⟨n - 1, by omega⟩
    have e : i = 300 := by omega
    subst e
    have q : (300 : Int32) ≤ nI 300 := by decide
    simp only [fM_copy_280, fM_copy_280_b, q, ↓reduceIte, cs280_nil]
  | succ m ih =>
    intro i n σ hi hn
    obtain ⟨n, rfl⟩ : ∃ k, n = k + 1 := ⟨n - 1, by omega⟩
    have q : ¬ (300 : Int32) ≤ nI i := nI_ge (b := 300) (by omega) (by decide)
    have x1 : 300 * nI w1 + nI i = nI (300 * w1 + i) := by show nI 300 * nI w1 + nI i = _; rw [pk_mul, nI_add]
    have x2 : 300 * nI w2 + nI i = nI (300 * w2 + i) := by show nI 300 * nI w2 + nI i = _; rw [pk_mul, nI_add]
    have b1 : ib (nI (300 * w1 + i)) 1800 = true := ib_nI (by omega) (by decide)
    have b2 : ib (nI (300 * w2 + i)) 1800 = true := ib_nI (by omega) (by decide)
    have c1 : (nI (300 * w1 + i)).toNatClampNeg = 300 * w1 + i := nI_clamp (by omega)
    have c2 : (nI (300 * w2 + i)).toNatClampNeg = 300 * w2 + i := nI_clamp (by omega)
    have e : fM_copy_280 (n + 1) σ (nI w1) (nI w2) (nI i) = fM_copy_280 n (ct280 σ w1 w2 i) (nI w1) (nI w2) (nI (i + 1)) := by
      simp only [fM_copy_280, fM_copy_280_b, q, x1, x2, b1, b2, c1, c2, gd_t, lt_v, nI_1, upA_r, Nat.reduceEqDiff, and_false, and_self, and_true, true_and, ct280, ↓reduceIte]
    rw [e, ih (i + 1) n _ (by omega) (by omega), cs280_step σ (by omega) hd]
def cpS (σ : Sg) (w1 w2 : Nat) : Sg := cs280 (upA (upA (cs74 (upA (upA (upA (upA σ 7 6 (upd (σ 7 6) w2 (σ 7 6 w1))) 7 7 (upd (σ 7 7) w2 (σ 7 7 w1))) 7 8 (upd (σ 7 8) w2 (σ 7 8 w1))) 7 9 (cpR id (σ 7 9) (6 * w1) (6 * w2) 0 6)) w1 w2 0) 7 17 (cpR nrB (σ 7 17) (240 * w1) (240 * w2) 0 240)) 7 18 (cpR id (σ 7 18) (1440 * w1) (1440 * w2) 0 1440)) w1 w2 0
theorem copy_eq (σ : Sg) {w1 w2 : Nat} (h1 : w1 < 6) (h2 : w2 < 6) (hd : w1 ≠ w2) : fM_copy σ (nI w1) (nI w2) = some (cpS σ w1 w2) := by
  have b1 : ib (nI w1) 6 = true := ib_nI h1 (by decide)
  have b2 : ib (nI w2) 6 = true := ib_nI h2 (by decide)
  have c1 : (nI w1).toNatClampNeg = w1 := nI_clamp (by omega)
  have c2 : (nI w2).toNatClampNeg = w2 := nI_clamp (by omega)
  have l1 : ∀ τ : Sg, fM_copy_38 FU τ (nI w1) (nI w2) 0 = _ := fun τ => cp38 h1 h2 hd 6 0 FU τ (by omega) (by unfold FU; omega)
  have l2 : ∀ τ : Sg, fM_copy_74 FU τ (nI w1) (nI w2) 0 = _ := fun τ => cp74 h1 h2 hd 8 0 FU τ (by omega) (by unfold FU; omega)
  have l3 : ∀ τ : Sg, fM_copy_202 FU τ (nI w1) (nI w2) 0 = _ := fun τ => cp202 h1 h2 hd 240 0 FU τ (by omega) (by unfold FU; omega)
  have l4 : ∀ τ : Sg, fM_copy_241 FU τ (nI w1) (nI w2) 0 = _ := fun τ => cp241 h1 h2 hd 1440 0 FU τ (by omega) (by unfold FU; omega)
  have l5 : ∀ τ : Sg, fM_copy_280 FU τ (nI w1) (nI w2) 0 = _ := fun τ => cp280 h1 h2 hd 300 0 FU τ (by omega) (by unfold FU; omega)
  simp only [fM_copy, fM_copy_0, b1, b2, c1, c2, gd_t, lt_v, upA_r, Nat.reduceEqDiff, and_false, and_self, and_true, true_and, ↓reduceIte, l1, l2, l3, l4, l5]
  rfl
