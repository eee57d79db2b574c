/-! the reference copies one slot into another -/
def cpR (g : Int32 → Int32) (f : Nat → Int32) (a b lo hi : Nat) : Nat → Int32 := fun j => if b + lo ≤ j ∧ j < b + hi then g (f (a + (j - b))) else f j
theorem cpR_nil (g : Int32 → Int32) (f : Nat → Int32) (a b n : Nat) : cpR g f a b n n = f := by
  funext j
  unfold cpR
  rw [if_neg (by omega)]
theorem cpR_step (g : Int32 → Int32) (f : Nat → Int32) {a b lo hi : Nat} (h : lo < hi) (hd : a + hi ≤ b ∨ b + hi ≤ a) : cpR g (upd f (b + lo) (g (f (a + lo)))) a b (lo + 1) hi = cpR g f a b lo hi := by
  funext j
  unfold cpR
  rw [upd_r, upd_r]
  by_cases c : j = b + lo
  · rw [if_neg (by omega), if_pos c, if_pos (by omega), c]
    congr 2
    omega
  · rw [if_neg c]
    by_cases c2 : b + lo ≤ j ∧ j < b + hi
    · rw [if_pos c2, if_pos (by omega), if_neg (by omega)]
    · rw [if_neg c2, if_neg (by omega)]
def nrB (x : Int32) : Int32 := vp_nar .boolean x
section Cp
variable {w1 w2 : Nat}
theorem cp38 (h1 : w1 < 6) (h2 : w2 < 6) (hd : w1 ≠ w2) : ∀ m i n (σ : Sg), i + m = 6 → m < n → fM_copy_38 n σ (nI w1) (nI w2) (nI i) = fM_copy_74 FU (upA σ 7 9 (cpR id (σ 7 9) (6 * w1) (6 * w2) i 6)) (nI w1) (nI w2) 0 := by
  intro m
  induction m with
  | zero =>
    intro i n σ hi hn
    obtain ⟨n, rfl⟩ : ∃ k, n = k + 1 := ⟨n - 1, by omega⟩
    have e : i = 6 := by omega
    subst e
    have q : (6 : Int32) ≤ nI 6 := by decide
    simp only [fM_copy_38, fM_copy_38_b, q, ↓reduceIte, cpR_nil, upA_id]
  | succ m ih =>
    intro i n σ hi hn
    obtain ⟨n, rfl⟩ : ∃ k, n = k + 1 := ⟨n - 1, by omega⟩
    have q : ¬ (6 : Int32) ≤ nI i := nI_ge (b := 6) (by omega) (by decide)
    have x1 : 6 * nI w1 + nI i = nI (6 * w1 + i) := by show nI 6 * nI w1 + nI i = _; rw [pk_mul, nI_add]
    have x2 : 6 * nI w2 + nI i = nI (6 * w2 + i) := by show nI 6 * nI w2 + nI i = _; rw [pk_mul, nI_add]
    have b1 : ib (nI (6 * w1 + i)) 36 = true := ib_nI (by omega) (by decide)
    have b2 : ib (nI (6 * w2 + i)) 36 = true := ib_nI (by omega) (by decide)
    have c1 : (nI (6 * w1 + i)).toNatClampNeg = 6 * w1 + i := nI_clamp (by omega)
    have c2 : (nI (6 * w2 + i)).toNatClampNeg = 6 * w2 + i := nI_clamp (by omega)
    simp only [fM_copy_38, fM_copy_38_b, q, x1, x2, b1, b2, c1, c2, gd_t, lt_v, nI_1, ↓reduceIte]
    rw [ih (i + 1) n _ (by omega) (by omega), upA_upA, upA_a, if_pos rfl]
    have := cpR_step id (σ 7 9) (a := 6 * w1) (b := 6 * w2) (lo := i) (hi := 6) (by omega) (by omega)
    simp only [id] at this
    rw [this]
theorem cp202 (h1 : w1 < 6) (h2 : w2 < 6) (hd : w1 ≠ w2) : ∀ m i n (σ : Sg), i + m = 240 → m < n → fM_copy_202 n σ (nI w1) (nI w2) (nI i) = fM_copy_241 FU (upA σ 7 17 (cpR nrB (σ 7 17) (240 * w1) (240 * w2) i 240)) (nI w1) (nI w2) 0 := by
  intro m
  induction m with
  | zero =>
    intro i n σ hi hn
    obtain ⟨n, rfl⟩ : ∃ k, n = k + 1 := ⟨n - 1, by omega⟩
    have e : i = 240 := by omega
    subst e
    have q : (240 : Int32) ≤ nI 240 := by decide
    simp only [fM_copy_202, fM_copy_202_b, q, ↓reduceIte, cpR_nil, upA_id]
  | succ m ih =>
    intro i n σ hi hn
    obtain ⟨n, rfl⟩ : ∃ k, n = k + 1 := ⟨n - 1, by omega⟩
    have q : ¬ (240 : Int32) ≤ nI i := nI_ge (b := 240) (by omega) (by decide)
    have x1 : 240 * nI w1 + nI i = nI (240 * w1 + i) := by show nI 240 * nI w1 + nI i = _; rw [pk_mul, nI_add]
    have x2 : 240 * nI w2 + nI i = nI (240 * w2 + i) := by show nI 240 * nI w2 + nI i = _; rw [pk_mul, nI_add]
    have b1 : ib (nI (240 * w1 + i)) 1440 = true := ib_nI (by omega) (by decide)
    have b2 : ib (nI (240 * w2 + i)) 1440 = true := ib_nI (by omega) (by decide)
    have c1 : (nI (240 * w1 + i)).toNatClampNeg = 240 * w1 + i := nI_clamp (by omega)
    have c2 : (nI (240 * w2 + i)).toNatClampNeg = 240 * w2 + i := nI_clamp (by omega)
    simp only [fM_copy_202, fM_copy_202_b, q, x1, x2, b1, b2, c1, c2, gd_t, lt_v, nI_1, ↓reduceIte]
    rw [ih (i + 1) n _ (by omega) (by omega), upA_upA, upA_a, if_pos rfl]
    have := cpR_step nrB (σ 7 17) (a := 240 * w1) (b := 240 * w2) (lo := i) (hi := 240) (by omega) (by omega)
    simp only [nrB] at this ⊢
    rw [this]
theorem cp241 (h1 : w1 < 6) (h2 : w2 < 6) (hd : w1 ≠ w2) : ∀ m i n (σ : Sg), i + m = 1440 → m < n → fM_copy_241 n σ (nI w1) (nI w2) (nI i) = fM_copy_280 FU (upA σ 7 18 (cpR id (σ 7 18) (1440 * w1) (1440 * w2) i 1440)) (nI w1) (nI w2) 0 := by
  intro m
  induction m with
  | zero =>
    intro i n σ hi hn
    obtain ⟨n, rfl⟩ : ∃ k, n = k + 1 := ⟨n - 1, by omega⟩
    have e : i = 1440 := by omega
    subst e
    have q : (1440 : Int32) ≤ nI 1440 := by decide
    simp only [fM_copy_241, fM_copy_241_b, q, ↓reduceIte, cpR_nil, upA_id]
  | succ m ih =>
    intro i n σ hi hn
    obtain ⟨n, rfl⟩ : ∃ k, n = k + 1 := ⟨n - 1, by omega⟩
    have q : ¬ (1440 : Int32) ≤ nI i := nI_ge (b := 1440) (by omega) (by decide)
    have x1 : 1440 * nI w1 + nI i = nI (1440 * w1 + i) := by show nI 1440 * nI w1 + nI i = _; rw [pk_mul, nI_add]
    have x2 : 1440 * nI w2 + nI i = nI (1440 * w2 + i) := by show nI 1440 * nI w2 + nI i = _; rw [pk_mul, nI_add]
    have b1 : ib (nI (1440 * w1 + i)) 8640 = true := ib_nI (by omega) (by decide)
    have b2 : ib (nI (1440 * w2 + i)) 8640 = true := ib_nI (by omega) (by decide)
    have c1 : (nI (1440 * w1 + i)).toNatClampNeg = 1440 * w1 + i := nI_clamp (by omega)
    have c2 : (nI (1440 * w2 + i)).toNatClampNeg = 1440 * w2 + i := nI_clamp (by omega)
    simp only [fM_copy_241, fM_copy_241_b, q, x1, x2, b1, b2, c1, c2, gd_t, lt_v, nI_1, ↓reduceIte]
    rw [ih (i + 1) n _ (by omega) (by omega), upA_upA, upA_a, if_pos rfl]
    have := cpR_step id (σ 7 18) (a := 1440 * w1) (b := 1440 * w2) (lo := i) (hi := 1440) (by omega) (by omega)
    simp only [id] at this
    rw [this]
end Cp
