theorem acg_ok {n l : Nat} (h : n ≤ l) (hl : l < 2 ^ 31) : acg 0 0 (nI n) l l = true := by
  have h0 : ¬ (0 : Int32) < 0 := by decide
  have c0 : (0 : Int32).toNatClampNeg = 0 := by decide
  unfold acg
  rw [c0, nI_clamp (by omega)]
  exact decide_eq_true ⟨⟨h0, h0, nI_pos (by omega)⟩, by omega, by omega⟩
def cfS (σ : Sg) (a b n m : Nat) : Sg := upA (upA (upA (upA (upA (upA (upA (upA (upA (upA (upA (upA (upA (upA (upA (upA (upA (upA (upA (upA (upA (upA (upA (upA (upA (upA σ a 0 (upd (σ a 0) 0 (σ b 0 0))) a 0 (upd (upd (σ a 0) 0 (σ b 0 0)) 1 (σ b 0 1))) a 0 (upd (upd (upd (σ a 0) 0 (σ b 0 0)) 1 (σ b 0 1)) 2 (σ b 0 2))) a 0 (upd (upd (upd (upd (σ a 0) 0 (σ b 0 0)) 1 (σ b 0 1)) 2 (σ b 0 2)) 3 (σ b 0 3))) a 0 (upd (upd (upd (upd (upd (σ a 0) 0 (σ b 0 0)) 1 (σ b 0 1)) 2 (σ b 0 2)) 3 (σ b 0 3)) 4 (σ b 0 4))) a 1 (upd (σ a 1) 0 (nI n))) a 2 (va_cpy (σ b 2) (σ a 2) 0 0 n)) a 3 (va_cpy (σ b 3) (σ a 3) 0 0 n)) a 4 (va_cpy (σ b 4) (σ a 4) 0 0 n)) a 5 (va_cpy (σ b 5) (σ a 5) 0 0 n)) a 6 (va_cpy (σ b 6) (σ a 6) 0 0 n)) a 7 (va_cpy (σ b 7) (σ a 7) 0 0 n)) a 8 (va_cpy (σ b 8) (σ a 8) 0 0 n)) a 9 (va_cpy (σ b 9) (σ a 9) 0 0 n)) a 10 (va_cpy (σ b 10) (σ a 10) 0 0 n)) a 11 (va_cpy (σ b 11) (σ a 11) 0 0 n)) a 12 (va_cpy (σ b 12) (σ a 12) 0 0 n)) a 13 (va_cpy (σ b 13) (σ a 13) 0 0 n)) a 14 (va_cpy (σ b 14) (σ a 14) 0 0 (180 * n))) a 15 (upd (σ a 15) 0 (nI m))) a 16 (va_cpy (σ b 16) (σ a 16) 0 0 m)) a 17 (va_cpy (σ b 17) (σ a 17) 0 0 m)) a 18 (va_cpy (σ b 18) (σ a 18) 0 0 m)) a 19 (va_cpy (σ b 19) (σ a 19) 0 0 m)) a 20 (va_cpy (σ b 20) (σ a 20) 0 0 m)) a 21 (va_cpy (σ b 21) (σ a 21) 0 0 m)
theorem copyFrom_eq {σ : Sg} {a b n m : Nat} (hab : ¬ b = a) (e1 : σ b 1 0 = nI n) (hn : n ≤ 8) (e2 : σ b 15 0 = nI m) (hm : m ≤ 300) : fStore_copyFrom σ a b = some (cfS σ a b n m) := by
  have q1 : acg 0 0 (nI n) 8 8 = true := acg_ok hn (by decide)
  have q2 : acg 0 0 (nI m) 300 300 = true := acg_ok hm (by decide)
  have x1 : nI n * 180 = nI (180 * n) := by show nI n * nI 180 = _; rw [pk_mul, Nat.mul_comm]
  have q3 : acg 0 0 (nI (180 * n)) 1440 1440 = true := acg_ok (by omega) (by decide)
  have c0 : (0 : Int32).toNatClampNeg = 0 := by decide
  have c1 : (nI n).toNatClampNeg = n := nI_clamp (by omega)
  have c2 : (nI m).toNatClampNeg = m := nI_clamp (by omega)
  have c3 : (nI (180 * n)).toNatClampNeg = 180 * n := nI_clamp (by omega)
  have u0 : ∀ (f : Nat → Int32) (x : Int32), upd f 0 x 0 = x := fun f x => if_pos rfl
  simp only [fStore_copyFrom, fStore_copyFrom_0, fRooms_copyFrom, fRooms_copyFrom_0, fRooms_copy, fRooms_copy_0, fBlocks_copyFrom, fBlocks_copyFrom_0, fBlocks_copy, fBlocks_copy_0, lt_v, bp_s, upA_r, hab, Nat.reduceEqDiff, false_and, and_false, and_self, and_true, true_and, u0, e1, e2, q1, q2, q3, x1, c0, c1, c2, c3, gd_t, ↓reduceIte, cfS]
theorem cfS_o (σ : Sg) {a b n m s : Nat} (hs : s ≠ a) : cfS σ a b n m s = σ s := by
  funext k
  unfold cfS
  simp only [upA_r, hs, false_and, ↓reduceIte]
theorem cpy_in {f g : Nat → Int32} {n j : Nat} (h : j < n) : va_cpy f g 0 0 n j = f j := by
  unfold va_cpy
  rw [if_pos (by omega)]
  congr 1
  omega
theorem cfS_sm {σ : Sg} {a b : Nat} (h : okStore (σ b)) : Sm (σ b) (cfS σ a b (vn (σ b)) (vb (σ b)) a) := by
  refine ⟨fun i hi => ?_, ?_, ?_, fun k k1 k2 r hr => ?_, fun j hj => ?_, fun k k1 k2 c hc => ?_⟩
  · unfold cfS
    simp only [upA_a, Nat.reduceEqDiff, ↓reduceIte, upd_r]
    rcases (show i = 0 ∨ i = 1 ∨ i = 2 ∨ i = 3 ∨ i = 4 by omega) with rfl | rfl | rfl | rfl | rfl <;> rfl
  · unfold cfS
    simp only [upA_a, Nat.reduceEqDiff, ↓reduceIte, upd_r]
    exact h.1.2.symm
  · unfold cfS
    simp only [upA_a, Nat.reduceEqDiff, ↓reduceIte, upd_r]
    exact h.2.1.2.symm
  · rcases (show k = 2 ∨ k = 3 ∨ k = 4 ∨ k = 5 ∨ k = 6 ∨ k = 7 ∨ k = 8 ∨ k = 9 ∨ k = 10 ∨ k = 11 ∨ k = 12 ∨ k = 13 by omega) with rfl | rfl | rfl | rfl | rfl | rfl | rfl | rfl | rfl | rfl | rfl | rfl <;> (unfold cfS; simp only [upA_a, Nat.reduceEqDiff, ↓reduceIte]; exact cpy_in hr)
  · unfold cfS
    simp only [upA_a, Nat.reduceEqDiff, ↓reduceIte]
    exact cpy_in hj
  · rcases (show k = 16 ∨ k = 17 ∨ k = 18 ∨ k = 19 ∨ k = 20 ∨ k = 21 by omega) with rfl | rfl | rfl | rfl | rfl | rfl <;> (unfold cfS; simp only [upA_a, Nat.reduceEqDiff, ↓reduceIte]; exact cpy_in hc)
theorem copyFrom_sm {σ : Sg} {a b : Nat} (hab : ¬ b = a) (h : okStore (σ b)) : fStore_copyFrom σ a b = some (cfS σ a b (vn (σ b)) (vb (σ b))) := copyFrom_eq hab h.1.2 h.1.1 h.2.1.2 h.2.1.1
