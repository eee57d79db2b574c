/-! the reference tries: masks -/
theorem shr_j : ∀ j : Nat, j < 32 → ((nI j &&& 31).toBitVec.smod 32).toNat = j := by decide +kernel
theorem i_shr {k j : Nat} (hk : k < 2 ^ 31) (hj : j < 32) : nI k >>> (nI j &&& 31) = nI (k / 2 ^ j) := by
  apply of_u
  show ((nI k).toBitVec.sshiftRight ((nI j &&& 31).toBitVec.smod 32).toNat).toNat = _
  rw [shr_j j hj]
  have e : (nI k).toBitVec.toNat = k := by
    show (BitVec.ofNat 32 k).toNat = k
    rw [BitVec.toNat_ofNat]; omega
  have hm : (nI k).toBitVec.msb = false := by
    rw [BitVec.msb_eq_false_iff_two_mul_lt, e]; omega
  rw [BitVec.sshiftRight_eq_of_msb_false hm, BitVec.toNat_ushiftRight, e, Nat.shiftRight_eq_div_pow]
theorem u_nI {k : Nat} (h : k < 2 ^ 32) : (nI k).toUInt32.toNat = k := by
  show (BitVec.ofNat 32 k).toNat = k
  rw [BitVec.toNat_ofNat]; omega
theorem i_bit {k j : Nat} (hk : k < 2 ^ 31) (hj : j < 32) : (nI k >>> (nI j &&& 31)) &&& 1 = i01 (k.testBit j) := by
  have h2 : k / 2 ^ j < 2 ^ 32 := Nat.lt_of_le_of_lt (Nat.div_le_self _ _) (by omega)
  rw [i_shr hk hj]
  have e : nI (k / 2 ^ j) &&& 1 = nI (k / 2 ^ j % 2) := by
    apply of_u
    show ((nI (k / 2 ^ j)).toUInt32 &&& (1 : UInt32)).toNat = _
    rw [UInt32.toNat_and, u_nI h2]
    exact Nat.and_one_is_mod _
  rw [e, Nat.testBit_eq_decide_div_mod_eq]
  unfold i01
  have : k / 2 ^ j % 2 = 0 ∨ k / 2 ^ j % 2 = 1 := by omega
  rcases this with h | h <;> rw [h] <;> rfl
theorem i_stab {k F : Nat} (hk : k < 2 ^ 31) (hF : F < 32) : (nI k >>> (nI F &&& 31)) &&& (nI k ^^^ (-1)) = 0 ↔ ∀ j, k.testBit (F + j) = true → k.testBit j = true := by
  have h2 : k / 2 ^ F < 2 ^ 32 := Nat.lt_of_le_of_lt (Nat.div_le_self _ _) (by omega)
  have e : (nI k >>> (nI F &&& 31)) &&& (nI k ^^^ (-1)) = nI (k / 2 ^ F &&& (k ^^^ (2 ^ 32 - 1))) := by
    rw [i_shr hk hF]
    apply of_u
    show ((nI (k / 2 ^ F)).toUInt32 &&& ((nI k).toUInt32 ^^^ (4294967295 : UInt32))).toNat = _
    rw [UInt32.toNat_and, UInt32.toNat_xor, u_nI h2, u_nI (by omega)]
    rfl
  have hlt : (k / 2 ^ F &&& (k ^^^ (2 ^ 32 - 1))) < 2 ^ 31 := Nat.lt_of_le_of_lt Nat.and_le_left (Nat.lt_of_le_of_lt (Nat.div_le_self _ _) hk)
  rw [e, nI_inj0 hlt]
  have hb : ∀ j, (k / 2 ^ F &&& (k ^^^ (2 ^ 32 - 1))).testBit j = (k.testBit (F + j) && (k.testBit j ^^ decide (j < 32))) := by
    intro j
    rw [Nat.testBit_and, Nat.testBit_xor, Nat.testBit_two_pow_sub_one, ← Nat.shiftRight_eq_div_pow, Nat.testBit_shiftRight]
  constructor
  · intro h j hj
    have := hb j
    rw [h, Nat.zero_testBit, hj] at this
    cases c : k.testBit j
    · rw [c] at this
      have h32 : ¬ j < 32 := by
        intro q
        rw [decide_eq_true q] at this
        exact absurd this (by decide)
      have : k.testBit (F + j) = false := Nat.testBit_lt_two_pow (Nat.lt_of_lt_of_le hk (Nat.pow_le_pow_right (by decide) (by omega)))
      rw [this] at hj
      cases hj
    · rfl
  · intro h
    apply Nat.eq_of_testBit_eq
    intro j
    rw [hb, Nat.zero_testBit]
    cases c : k.testBit (F + j)
    · rfl
    · rw [h j c]
      have : j < 32 := by
        apply Classical.byContradiction
        intro q
        have : k.testBit (F + j) = false := Nat.testBit_lt_two_pow (Nat.lt_of_lt_of_le hk (Nat.pow_le_pow_right (by decide) (by omega)))
        rw [this] at c
        cases c
      rw [decide_eq_true this]
      rfl
theorem low_ex : ∀ y : Nat, 0 < y → ∃ j u, y = 2 ^ (j + 1) * u + 2 ^ j := by
  intro y
  induction y using Nat.strongRecOn with
  | _ y ih =>
    intro h
    by_cases c : y % 2 = 1
    · exact ⟨0, y / 2, by simp; omega⟩
    · obtain ⟨j, u, e⟩ := ih (y / 2) (by omega) (by omega)
      refine ⟨j + 1, u, ?_⟩
      have : y = 2 * (y / 2) := by omega
      rw [this, e, Nat.pow_succ 2 (j + 1), Nat.pow_succ 2 j, Nat.mul_add, Nat.mul_comm (2 ^ j * 2) 2, Nat.mul_assoc 2, Nat.mul_comm (2 ^ j) 2]
theorem low_bits {j u y : Nat} (e : y = 2 ^ (j + 1) * u + 2 ^ j) : (∀ i, i < j → y.testBit i = false) ∧ y.testBit j = true ∧ (∀ i, i < j → (y - 1).testBit i = true) ∧ (y - 1).testBit j = false ∧ ∀ i, j < i → (y - 1).testBit i = y.testBit i := by
  have hp : 0 < 2 ^ j := Nat.two_pow_pos j
  have hs : 2 ^ (j + 1) = 2 * 2 ^ j := by rw [Nat.pow_succ]; omega
  have e1 : y - 1 = 2 ^ (j + 1) * u + (2 ^ j - 1) := by omega
  have a : ∀ i, y.testBit i = if i < j + 1 then (2 ^ j).testBit i else u.testBit (i - (j + 1)) := fun i => by rw [e]; exact Nat.testBit_two_pow_mul_add u (by omega) i
  have b : ∀ i, (y - 1).testBit i = if i < j + 1 then (2 ^ j - 1).testBit i else u.testBit (i - (j + 1)) := fun i => by rw [e1]; exact Nat.testBit_two_pow_mul_add u (by omega) i
  refine ⟨fun i hi => ?_, ?_, fun i hi => ?_, ?_, fun i hi => ?_⟩
  · rw [a, if_pos (by omega), Nat.testBit_two_pow]
    exact decide_eq_false (by omega)
  · rw [a, if_pos (by omega), Nat.testBit_two_pow]
    exact decide_eq_true rfl
  · rw [b, if_pos (by omega), Nat.testBit_two_pow_sub_one]
    exact decide_eq_true hi
  · rw [b, if_pos (by omega), Nat.testBit_two_pow_sub_one]
    exact decide_eq_false (by omega)
  · rw [a, b, if_neg (by omega), if_neg (by omega)]
/-- the lowest place at which two masks differ -/
theorem i_low {k b S : Nat} (hS : S ≤ 30) (hk : k < 2 ^ S) (hb : b < 2 ^ S) (hne : k ≠ b) : ∃ j, j < S ∧ (∀ i, i < j → k.testBit i = b.testBit i) ∧ k.testBit j = !b.testBit j ∧ ((((nI k ^^^ nI b) &&& (-(nI k ^^^ nI b))) &&& nI k) = 0 ↔ k.testBit j = false) := by
  have h30 : 2 ^ S ≤ 2 ^ 30 := Nat.pow_le_pow_right (by decide) hS
  have hy : k ^^^ b < 2 ^ S := Nat.xor_lt_two_pow hk hb
  have hpos : 0 < k ^^^ b := by
    refine Nat.pos_of_ne_zero (fun h => hne ?_)
    apply Nat.eq_of_testBit_eq
    intro i
    have : (k ^^^ b).testBit i = false := by rw [h, Nat.zero_testBit]
    rw [Nat.testBit_xor] at this
    cases h1 : k.testBit i <;> cases h2 : b.testBit i <;> simp [h1, h2] at this ⊢
  obtain ⟨j, u, e⟩ := low_ex _ hpos
  obtain ⟨l1, l2, l3, l4, l5⟩ := low_bits e
  have hj : j < S := by
    apply Classical.byContradiction
    intro q
    have : 2 ^ S ≤ 2 ^ j := Nat.pow_le_pow_right (by decide) (by omega)
    omega
  refine ⟨j, hj, fun i hi => ?_, ?_, ?_⟩
  · have := l1 i hi
    rw [Nat.testBit_xor] at this
    cases h1 : k.testBit i <;> cases h2 : b.testBit i <;> simp [h1, h2] at this ⊢
  · rw [Nat.testBit_xor] at l2
    cases h1 : k.testBit j <;> cases h2 : b.testBit j <;> simp [h1, h2] at l2 ⊢
  · have e1 : nI k ^^^ nI b = nI (k ^^^ b) := by
      apply of_u
      show ((nI k).toUInt32 ^^^ (nI b).toUInt32).toNat = _
      rw [UInt32.toNat_xor, u_nI (by omega), u_nI (by omega)]
    have e2 : (-(nI (k ^^^ b))).toUInt32.toNat = 2 ^ 32 - (k ^^^ b) := by
      show (-(BitVec.ofNat 32 (k ^^^ b))).toNat = _
      rw [BitVec.toNat_neg, BitVec.toNat_ofNat]
      omega
    have e3 : ((nI (k ^^^ b) &&& (-(nI (k ^^^ b)))) &&& nI k) = nI (((k ^^^ b) &&& (2 ^ 32 - (k ^^^ b))) &&& k) := by
      apply of_u
      show (((nI (k ^^^ b)).toUInt32 &&& (-(nI (k ^^^ b))).toUInt32) &&& (nI k).toUInt32).toNat = _
      rw [UInt32.toNat_and, UInt32.toNat_and, e2, u_nI (by omega), u_nI (by omega)]
    have hlt : (((k ^^^ b) &&& (2 ^ 32 - (k ^^^ b))) &&& k) < 2 ^ 31 := Nat.lt_of_le_of_lt Nat.and_le_right (by omega)
    rw [e1, e3, nI_inj0 hlt]
    generalize k ^^^ b = y at *
    have hb : ∀ i, (y &&& (2 ^ 32 - y) &&& k).testBit i = (decide (i = j) && k.testBit i) := by
      intro i
      rw [Nat.testBit_and, Nat.testBit_and]
      have e4 : 2 ^ 32 - y = 2 ^ 32 - ((y - 1) + 1) := by omega
      rw [e4, Nat.testBit_two_pow_sub_succ (by omega)]
      rcases Nat.lt_trichotomy i j with h | h | h
      · rw [l1 i h, decide_eq_false (by omega : ¬ i = j)]; rfl
      · subst h
        rw [l2, l4, decide_eq_true (by omega : i < 32), decide_eq_true rfl]; rfl
      · rw [l5 i h, decide_eq_false (by omega : ¬ i = j)]
        cases y.testBit i <;> simp
    constructor
    · intro h
      have := hb j
      rw [h, Nat.zero_testBit] at this
      simpa using this.symm
    · intro h
      apply Nat.eq_of_testBit_eq
      intro i
      rw [hb, Nat.zero_testBit]
      by_cases c : i = j
      · subst c; rw [h]; simp
      · rw [decide_eq_false c]; rfl
def mkM (E : Nat → Bool) : Nat → Nat
  | 0 => 0
  | n + 1 => mkM E n + if E n then 2 ^ n else 0
theorem mkM_ok (E : Nat → Bool) : ∀ n, mkM E n < 2 ^ n ∧ ∀ i, i < n → (mkM E n).testBit i = E i := by
  intro n
  induction n with
  | zero => exact ⟨Nat.one_pos, fun i hi => absurd hi (Nat.not_lt_zero i)⟩
  | succ n ih =>
    obtain ⟨h1, h2⟩ := ih
    have hs : 2 ^ (n + 1) = 2 * 2 ^ n := by rw [Nat.pow_succ]; omega
    cases c : E n
    · have e : mkM E (n + 1) = mkM E n := by show mkM E n + (if E n then 2 ^ n else 0) = _; rw [c]; rfl
      rw [e]
      refine ⟨by omega, fun i hi => ?_⟩
      by_cases d : i = n
      · subst d; rw [c]; exact Nat.testBit_lt_two_pow h1
      · exact h2 i (by omega)
    · have e : mkM E (n + 1) = 2 ^ n * 1 + mkM E n := by show mkM E n + (if E n then 2 ^ n else 0) = _; rw [c]; simp; omega
      rw [e]
      refine ⟨by omega, fun i hi => ?_⟩
      rw [Nat.testBit_two_pow_mul_add 1 h1]
      by_cases d : i = n
      · subst d; rw [if_neg (by omega), Nat.sub_self, c]; rfl
      · rw [if_pos (by omega)]; exact h2 i (by omega)
theorem valid_cong {w y z N : Nat} {E E' : Nat → Bool} (h : ∀ p, p < w * y * z → E p = E' p) (hv : valid w y z N E) : valid w y z N E' := by
  refine ⟨by rw [← hv.1]; exact cntF_cong (fun k hk => (h k hk).symm), fun p hp hE hF => ?_⟩
  rw [← h (p - w * y) (by omega)]
  exact hv.2 p hp (by rw [h p hp]; exact hE) hF
theorem better_cong {w y z : Nat} {E E' K : Nat → Bool} (h : ∀ p, p < w * y * z → E p = E' p) (hv : better w y z E K) : better w y z E' K := by
  unfold better at *
  rw [← gn_cong _ h, ← rv_cong _ h]
  exact hv
