/-! warm: the class halves its way to the float that the bits name -/
theorem v32_two : FP.Core.val32 FP.fconst2 = .fin false (2 ^ 23) (-22) := by decide +kernel
theorem qmin32 : FP.Core.b32.qmin = -149 := by decide
theorem qmax32 : FP.Core.b32.qmax = 104 := by decide
theorem pw_cancel {c c' a b : Nat} (h : c' * 2 ^ a = c * 2 ^ b) : c' * 1 * 2 ^ (a + 23 - b) = c * 2 ^ 23 * 2 ^ (b - (a + 23)) := by
  rcases Nat.le_total b (a + 23) with q | q
  · have e : b - (a + 23) = 0 := by omega
    rw [e, Nat.pow_zero, Nat.mul_one, Nat.mul_one]
    apply Nat.eq_of_mul_eq_mul_right (Nat.two_pow_pos b)
    rw [Nat.mul_assoc, ← Nat.pow_add, show a + 23 - b + b = a + 23 by omega, Nat.pow_add, ← Nat.mul_assoc, h]
    rw [Nat.mul_assoc, Nat.mul_assoc, Nat.mul_comm (2 ^ b)]
  · have e : a + 23 - b = 0 := by omega
    rw [e, Nat.pow_zero, Nat.mul_one, Nat.mul_one]
    apply Nat.eq_of_mul_eq_mul_right (Nat.two_pow_pos a)
    rw [h, Nat.mul_assoc, Nat.mul_assoc, ← Nat.pow_add, ← Nat.pow_add]
    congr 2
    omega
theorem half_step {x : UInt32} {c : Nat} {q : Int} (hc : c < 2 ^ 24) (h1 : -148 ≤ q) (h2 : q ≤ 0) (h : FP.Core.val32 x = FP.Core.round FP.Core.b32 (.fin false c q)) : FP.Core.val32 (FP.fdiv x FP.fconst2) = FP.Core.round FP.Core.b32 (.fin false c (q - 1)) := by
  obtain ⟨c', q', e, hu⟩ := FP.Core.round_exact FP.Core.good_b32 false (c := c) (q := q) hc (by rw [qmin32]; omega) (by rw [qmax32]; omega)
  have hf : FP.Core.fits FP.Core.b32 (.fin false c' q') := by
    rw [← e, ← h]; exact FP.Core.val32_fits x
  have hq' : -149 ≤ q' := by have := hf.2.1; rwa [qmin32] at this
  show FP.Core.val32 (FP.Core.fdiv x FP.fconst2) = _
  rw [FP.Core.val32_fdiv, h, e, v32_two]
  unfold FP.Core.inUnits at hu
  rw [qmin32] at hu
  obtain ⟨a, rfl⟩ : ∃ a : Nat, q' = (a : Int) - 149 := ⟨(q' + 149).toNat, by omega⟩
  obtain ⟨b, rfl⟩ : ∃ b : Nat, q = (b : Int) - 149 := ⟨(q + 149).toNat, by omega⟩
  rw [show ((a : Int) - 149 - -149).toNat = a by omega, show ((b : Int) - 149 - -149).toNat = b by omega] at hu
  unfold FP.Core.quotient FP.Core.round
  simp only [show ¬ (2 ^ 23 : Nat) = 0 by decide, if_false, show (false != false) = false from rfl]
  refine FP.Core.roundRatio_congr (by decide) (by decide) ?_
  rw [show ((a : Int) - 149 - -22 - ((b : Int) - 149 - 1)).toNat = a + 23 - b by omega, show ((b : Int) - 149 - 1 - ((a : Int) - 149 - -22)).toNat = b - (a + 23) by omega]
  exact pw_cancel hu
theorem rnd_nn (s : Bool) (c : Nat) (q : Int) : FP.Core.round FP.Core.b32 (.fin s c q) ≠ .nan := FP.Core.roundRatio_ne_nan _ _ _ _ _
/-- the end of numberOf: the sign -/
def numE (x0 : Int32) (y : UInt32) : Option UInt32 := if 0 ≤ x0 then some y else gd (nn32 (FP.fsub FP.fconst0 y)) (some (FP.fsub FP.fconst0 y))
theorem num_loop (σ : Sg) (x0 : Int32) {c : Nat} (hc : c < 2 ^ 24) : ∀ (m e n : Nat) (x : UInt32) (q : Int), e + m = 150 → m < n → -149 ≤ q - m → q ≤ 0 → FP.Core.val32 x = FP.Core.round FP.Core.b32 (.fin false c q) → ∃ y, FP.Core.val32 y = FP.Core.round FP.Core.b32 (.fin false c (q - m)) ∧ fCalendar_numberOf_39 n σ x0 x (nI e) = numE x0 y := by
  intro m
  induction m with
  | zero =>
    intro e n x q he hn h1 h2 hv
    obtain ⟨n, rfl⟩ : ∃ k, n = k + 1 := ⟨n - 1, by omega⟩
    have e0 : e = 150 := by omega
    subst e0
    refine ⟨x, by rw [hv]; simp, ?_⟩
    have k : (150 : Int32) ≤ nI 150 := by decide
    simp only [fCalendar_numberOf_39, fCalendar_numberOf_39_b, k, ↓reduceIte, numE]
  | succ m ih =>
    intro e n x q he hn h1 h2 hv
    obtain ⟨n, rfl⟩ : ∃ k, n = k + 1 := ⟨n - 1, by omega⟩
    have hs := half_step hc (by omega) h2 hv
    obtain ⟨y, y1, y2⟩ := ih (e + 1) n (FP.fdiv x FP.fconst2) (q - 1) (by omega) (by omega) (by omega) (by omega) hs
    refine ⟨y, by rw [y1]; congr 2; omega, ?_⟩
    have k : ¬ (150 : Int32) ≤ nI e := by
      have q1 : (150 : Int32) = nI 150 := rfl
      rw [q1]
      intro h
      have h := Int32.le_iff_toInt_le.mp h
      rw [nI_toInt (by omega), nI_toInt (by omega)] at h
      omega
    have k2 : nI e + 1 = nI (e + 1) := nI_add e 1
    have k3 : nn32 (FP.fdiv x FP.fconst2) = true := nn_val (by rw [hs]; exact rnd_nn _ _ _)
    rw [← y2]
    simp only [fCalendar_numberOf_39, fCalendar_numberOf_39_b, k, ↓reduceIte, k3, gd_t, lt_v, k2]
theorem of_u {x : Int32} {k : Nat} (h : x.toUInt32.toNat = k) : x = nI k := by
  subst h
  apply Int32.toBitVec_inj.mp
  apply BitVec.eq_of_toNat_eq
  show x.toBitVec.toNat = (BitVec.ofNat 32 x.toBitVec.toNat).toNat
  simp
theorem nonneg_u (x : Int32) : 0 ≤ x ↔ x.toUInt32.toNat < 2 ^ 31 := by
  rw [Int32.le_iff_toInt_le]
  show (0 : Int) ≤ x.toBitVec.toInt ↔ x.toBitVec.toNat < 2 ^ 31
  rw [BitVec.toInt_eq_toNat_cond]
  have := x.toBitVec.isLt
  split <;> omega
theorem ub_E (v : Int32) : ((v.toUInt32 >>> ((23 : Int32).toUInt32 &&& Int32.toUInt32 31)).toInt32) &&& 255 = nI (v.toUInt32.toNat / 2 ^ 23 % 256) := by
  apply of_u
  show ((v.toUInt32 >>> ((23 : Int32).toUInt32 &&& Int32.toUInt32 31)) &&& (255 : UInt32)).toNat = _
  rw [UInt32.toNat_and, show ((23 : Int32).toUInt32 &&& Int32.toUInt32 31) = 23 from rfl, UInt32.toNat_shiftRight]
  show v.toUInt32.toNat >>> 23 &&& 255 = _
  rw [Nat.shiftRight_eq_div_pow]
  exact Nat.and_two_pow_sub_one_eq_mod _ 8
theorem ub_T (v : Int32) : v &&& 8388607 = nI (v.toUInt32.toNat % 2 ^ 23) := by
  apply of_u
  show (v.toUInt32 &&& (8388607 : UInt32)).toNat = _
  rw [UInt32.toNat_and]
  exact Nat.and_two_pow_sub_one_eq_mod _ 23
theorem ub_M (v : Int32) : v &&& 2147483647 = nI (v.toUInt32.toNat % 2 ^ 31) := by
  apply of_u
  show (v.toUInt32 &&& (2147483647 : UInt32)).toNat = _
  rw [UInt32.toNat_and]
  exact Nat.and_two_pow_sub_one_eq_mod _ 31
theorem ub_O {t : Nat} (ht : t < 2 ^ 23) : nI t ||| 8388608 = nI (2 ^ 23 + t) := by
  apply of_u
  have e : (nI t).toUInt32.toNat = t := by
    show (BitVec.ofNat 32 t).toNat = t
    rw [BitVec.toNat_ofNat]
    omega
  show ((nI t).toUInt32 ||| (8388608 : UInt32)).toNat = _
  rw [UInt32.toNat_or, e, Nat.or_comm]
  exact (Nat.two_pow_add_eq_or_of_lt ht 1).symm
