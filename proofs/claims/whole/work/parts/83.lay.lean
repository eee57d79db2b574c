/-! rows laid and torn -/
theorem i_or {m k : Nat} (hm : m < 2 ^ 31) (hk : k < 2 ^ 31) : nI m ||| nI k = nI (m ||| k) := by
  have h : m ||| k < 2 ^ 31 := Nat.or_lt_two_pow hm hk
  apply Int32.toBitVec_inj.mp
  apply BitVec.eq_of_toNat_eq
  rw [Int32.toBitVec_or, BitVec.toNat_or, pk_tn (by omega), pk_tn (by omega), pk_tn (by omega)]
theorem shl1 : ∀ j : Nat, j < 30 → (1 : Int32) <<< (nI j &&& 31) = nI (2 ^ j) := by decide +kernel
theorem msk1 : ∀ j : Nat, j < 30 → (((1 : Int32) <<< (nI j &&& 31)) ^^^ (-1)).toBitVec.toNat = 2 ^ j ^^^ (2 ^ 32 - 1) := by decide +kernel
theorem i_mask {m j : Nat} (hm : m < 2 ^ 31) (hj : j < 30) : nI m &&& (((1 : Int32) <<< (nI j &&& 31)) ^^^ (-1)) = nI (m &&& (2 ^ j ^^^ (2 ^ 32 - 1))) := by
  have h : m &&& (2 ^ j ^^^ (2 ^ 32 - 1)) ≤ m := Nat.and_le_left
  apply Int32.toBitVec_inj.mp
  apply BitVec.eq_of_toNat_eq
  rw [Int32.toBitVec_and, BitVec.toNat_and, msk1 j hj, pk_tn (by omega), pk_tn (by omega)]
theorem tb_or (m j i : Nat) : (m ||| 2 ^ j).testBit i = (m.testBit i || decide (j = i)) := by rw [Nat.testBit_or, Nat.testBit_two_pow]
theorem tb_mask {m j i : Nat} (hi : i < 32) : (m &&& (2 ^ j ^^^ (2 ^ 32 - 1))).testBit i = (m.testBit i && !decide (j = i)) := by
  rw [Nat.testBit_and, Nat.testBit_xor, Nat.testBit_two_pow, Nat.testBit_two_pow_sub_one, decide_eq_true hi]
  simp
def laidV (v : Vw) (r m : Nat) : Vw := fun k => if k = 13 then upd (v 13) r (nI m) else v k
theorem okStore_laid {v : Vw} (h : okStore v) {r m : Nat} (hr : r < vn v) (hm : m < 2 ^ (vy v r * vz v r)) : okStore (laidV v r m) := by
  obtain ⟨h1, h2, h3, h4, h5, h6, h7, h8⟩ := h
  refine ⟨h1, h2, h3, fun q hq => ?_, h5, h6, h7, h8⟩
  obtain ⟨a1, a2, a3, a4, a5, a6, a7, a8, a9⟩ := h4 q hq
  refine ⟨a1, a2, a3, a4, a5, a6, a7, a8, ?_⟩
  show ∃ m' : Nat, m' < 2 ^ (vy v q * vz v q) ∧ upd (v 13) r (nI m) q = nI m'
  rw [upd_r]
  by_cases c : q = r
  · subst c; rw [if_pos rfl]; exact ⟨m, hm, rfl⟩
  · rw [if_neg c]; exact a9
theorem Rm_laid {v m : Vw} {r j : Nat} {b : Nat} {x : Int32} (h : okStore v) (hm : Rm 0 v m) (hr : r < vn v) (hj : j < vy v r * vz v r) (hb : b < 2 ^ 30) (hx : x = if b.testBit j then 1 else 0) (hi : ∀ i, i < vy v r * vz v r → i ≠ j → b.testBit i = lb v r i) : Rm 0 (laidV v r b) (fun k => if k = 17 then upd (m 17) (30 * r + j) x else m k) := by
  have hv := vs_le (okS h hr)
  obtain ⟨m1, m2, m3, m4, m5, m6⟩ := hm
  refine ⟨m1, m2, m3, fun q hq i hi' => ?_, m5, m6⟩
  have hvq := vs_le (okS h hq)
  have hi2 : i < vy v q * vz v q := hi'
  show upd (m 17) (30 * r + j) x (240 * 0 + 30 * q + i) = if (upd (v 13) r (nI b) q).toNatClampNeg.testBit i then 1 else 0
  rw [show 240 * 0 + 30 * q + i = 30 * q + i by omega, upd_r, upd_r]
  have e := m4 q hq i hi2
  rw [show 240 * 0 + 30 * q + i = 30 * q + i by omega] at e
  by_cases c : q = r
  · subst c
    rw [if_pos rfl, nI_clamp (by omega)]
    by_cases c2 : i = j
    · subst c2; rw [if_pos rfl]; exact hx
    · rw [if_neg (by omega), hi i hi2 c2]; exact e
  · rw [if_neg c, if_neg (by omega)]; exact e
theorem Inv_laid {lv : Nat → Bool} {σ : Sg} (hI : Inv lv σ) {r j b : Nat} {x : Int32} (hr : r < vn (σ 0)) (hj : j < vy (σ 0) r * vz (σ 0) r) (hb : b < 2 ^ (vy (σ 0) r * vz (σ 0) r)) (hx : x = if b.testBit j then 1 else 0) (hi : ∀ i, i < vy (σ 0) r * vz (σ 0) r → i ≠ j → b.testBit i = lb (σ 0) r i) (s : Int32) : Inv lv (stM (upA (stI (upA σ 0 13 (upd (σ 0 13) r (nI b))) s) 7 17 (upd (σ 7 17) (30 * r + j) x)) s) := by
  obtain ⟨⟨h1, h2, h3, h4, h5, h6, h7, h8⟩, h9, h10, ⟨h11, h11m⟩, h12, h13, h14, h15⟩ := hI
  have hv := vs_le (okS h11 hr)
  have h8' := h11.1.1
  have hb30 : b < 2 ^ 30 := Nat.lt_of_lt_of_le hb (Nat.pow_le_pow_right (by decide) hv.2.2.2.2.1)
  have key := Rm_laid (x := x) h11 h11m hr hj hb30 hx hi
  have hok := okStore_laid h11 hr hb
  have e : laidV (σ 0) r b = upA σ 0 13 (upd (σ 0 13) r (nI b)) 0 := by
    funext k
    rw [upA_a]
    rfl
  rw [e] at key hok
  have ho : Ofs (σ 7) (upA (stI (upA σ 0 13 (upd (σ 0 13) r (nI b))) s) 7 17 (upd (σ 7 17) (30 * r + j) x) 7) := (Ofs.refl (σ 7)).up (σ := stI (upA σ 0 13 (upd (σ 0 13) r (nI b))) s) (c := 17) (show 30 * r + j < 240 by omega)
  have ho2 : Ofs (σ 7) _ := ho.st s
  exact ⟨⟨rfl, h2, h3, h4, h5, h6, h7, h8⟩, h9, h10, ⟨hok, key⟩, h12.ofs ho2, h13.ofs ho2, h14.ofs ho2, h15.ofs ho2⟩
/-- by the class: why a row can't be looked at -/
theorem refR_cases {σ : Sg} (h : okStore (σ 0)) (x z y : Int32) : (¬ inR (σ 0) x ∧ fI_refusalOfRow σ x z y = some (-2)) ∨ (∃ r, r < vn (σ 0) ∧ x = nI r ∧ ((wi z 0 (nI (vz (σ 0) r) - 1) = 0 ∧ fI_refusalOfRow σ x z y = some (-1)) ∨ (wi z 0 (nI (vz (σ 0) r) - 1) = 1 ∧ wi y 0 (nI (vy (σ 0) r) - 1) = 0 ∧ fI_refusalOfRow σ x z y = some (-1)) ∨ ∃ z' y', z' < vz (σ 0) r ∧ y' < vy (σ 0) r ∧ z = nI z' ∧ y = nI y' ∧ fI_refusalOfRow σ x z y = some 0)) := by
  have k1 : ¬ (1 : Int32) = 0 := by decide
  by_cases c : inR (σ 0) x
  · obtain ⟨r, hr, rfl⟩ := c
    refine Or.inr ⟨r, hr, rfl, ?_⟩
    have hk := okS h hr
    have hb := ib8 h hr
    have hc := cl8 h hr
    have ey := hk.2.2.1.2.2
    have ez := hk.2.2.2.1.2.2
    have y6 := hk.2.2.1.2.1
    have z5 := hk.2.2.2.1.2.1
    by_cases c2 : wi z 0 (nI (vz (σ 0) r) - 1) = 0
    · refine Or.inl ⟨c2, ?_⟩
      simp only [fI_refusalOfRow, fI_refusalOfRow_0, fI_refusalOfRow_65, fI_refusalOfRow_66, has_in h hr, bp_s, k1, hb, hc, gd_t, ez, fI_within_eq, c2, ↓reduceIte]
    · obtain ⟨z', hz', rfl⟩ := wiIx (by omega) c2
      have w1 := wiIx0 hz' (show vz (σ 0) r < 2 ^ 31 by omega)
      by_cases c3 : wi y 0 (nI (vy (σ 0) r) - 1) = 0
      · refine Or.inr (Or.inl ⟨w1, c3, ?_⟩)
        simp only [fI_refusalOfRow, fI_refusalOfRow_0, fI_refusalOfRow_65, fI_refusalOfRow_66, has_in h hr, bp_s, k1, hb, hc, gd_t, ez, ey, fI_within_eq, w1, c3, ↓reduceIte]
      · obtain ⟨y', hy', rfl⟩ := wiIx (by omega) c3
        have w2 := wiIx0 hy' (show vy (σ 0) r < 2 ^ 31 by omega)
        refine Or.inr (Or.inr ⟨z', y', hz', hy', rfl, rfl, ?_⟩)
        simp only [fI_refusalOfRow, fI_refusalOfRow_0, fI_refusalOfRow_65, fI_refusalOfRow_66, has_in h hr, bp_s, k1, hb, hc, gd_t, ez, ey, fI_within_eq, w1, w2, ↓reduceIte]
  · refine Or.inl ⟨c, ?_⟩
    simp only [fI_refusalOfRow, fI_refusalOfRow_0, has_out h c, bp_s, ↓reduceIte]
theorem row_j {y z w v : Nat} (hz : z < w) (hy : y < v) : y + v * z < v * w := by
  have := Nat.mul_le_mul_left v (show z + 1 ≤ w by omega)
  rw [Nat.mul_add, Nat.mul_one] at this
  omega
