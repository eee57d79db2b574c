theorem nar1 : vp_nar .boolean 1 = 1 := by decide
theorem nar0 : vp_nar .boolean 0 = 0 := by decide
section Row
variable {σ : Sg} {lv : Nat → Bool}
theorem line_eq {τ : Sg} {v : Vw} (h : okStore v) (hm : Rm 0 v (τ 7)) {r z y : Nat} (hr : r < vn v) : fM_lineOf τ (nI r) (nI z) (nI y) = some (nI (30 * r + (y + vy v r * z))) := by
  obtain ⟨-, -, m3, -⟩ := m_dims h hm hr
  have x1 : 30 * nI r + nI y + nI (vy v r) * nI z = nI (30 * r + (y + vy v r * z)) := by show nI 30 * nI r + nI y + _ = _; rw [pk_mul, pk_mul, nI_add, nI_add, Nat.add_assoc]
  simp only [fM_lineOf, fM_lineOf_0, ib48 h hr, cl8 h hr, gd_t, m3, x1]
end Row
theorem op_lay : Op_lay Inv := by
  intro lv σ hI a1 a2 a3
  obtain ⟨h, hm⟩ := hI.2.2.2.1
  have k1 : ¬ (1 : Int32) = 0 := by decide
  have n1 : ¬ (-1 : Int32) = 0 := by decide
  have n2 : ¬ (-2 : Int32) = 0 := by decide
  have hmS : ∀ r, Rm 0 (σ 0) (stI σ r 7) := fun r => hm
  rcases refR_cases h a1 a2 a3 with ⟨c, e⟩ | ⟨r, hr, rfl, ⟨c, e⟩ | ⟨c, c2, e⟩ | ⟨z, y, hz, hy, rfl, rfl, e⟩⟩
  · refine opNo (B := fun s => fM_lay s a1 a2 a3) hI (-2) ?_ ?_
    · simp only [fI_lay, fI_lay_0, e, bp_s, n2, ↓reduceIte, fI_answer_eq, bi_s]
    · simp only [fM_lay, fM_lay_0, isRoom_out h (hmS _) c, bp_s, ↓reduceIte, fM_ends_eq, bi_s]
  · have d := m_dims h (hmS (-1)) hr
    refine opNo (B := fun s => fM_lay s (nI r) a2 a3) hI (-1) ?_ ?_
    · simp only [fI_lay, fI_lay_0, e, bp_s, n1, ↓reduceIte, fI_answer_eq, bi_s]
    · simp only [fM_lay, fM_lay_0, fM_lay_47, isRoom_in h (hmS _) hr, ib48 h hr, cl8 h hr, gd_t, d.2.2.2.1, fM_in_eq, c, bp_s, k1, ↓reduceIte, fM_ends_eq, bi_s]
  · have d := m_dims h (hmS (-1)) hr
    refine opNo (B := fun s => fM_lay s (nI r) a2 a3) hI (-1) ?_ ?_
    · simp only [fI_lay, fI_lay_0, e, bp_s, n1, ↓reduceIte, fI_answer_eq, bi_s]
    · simp only [fM_lay, fM_lay_0, fM_lay_47, isRoom_in h (hmS _) hr, ib48 h hr, cl8 h hr, gd_t, d.2.2.2.1, d.2.2.1, fM_in_eq, c, c2, bp_s, k1, ↓reduceIte, fM_ends_eq, bi_s]
  · have hk := okS h hr
    have hv := vs_le hk
    have h8 := h.1.1
    have hj := row_j hz hy
    have ey := hk.2.2.1.2.2
    have y6 := hk.2.2.1.2.1
    have z5 := hk.2.2.2.1.2.1
    have d := fun s => m_dims h (hmS s) hr
    have w1 := wiIx0 hz (show vz (σ 0) r < 2 ^ 31 by omega)
    have w2 := wiIx0 hy (show vy (σ 0) r < 2 ^ 31 by omega)
    have x1 : nI y + nI (vy (σ 0) r) * nI z = nI (y + vy (σ 0) r * z) := by rw [pk_mul, nI_add]
    generalize ej : y + vy (σ 0) r * z = j at *
    have hib : ib (nI (30 * r + j)) 1440 = true := ib_nI (by omega) (by decide)
    have hcl : (nI (30 * r + j)).toNatClampNeg = 30 * r + j := nI_clamp (by omega)
    have hln : ∀ s, fM_lineOf (stI σ s) (nI r) (nI z) (nI y) = some (nI (30 * r + j)) := fun s => by rw [← ej]; exact line_eq h (hmS s) hr
    have hl := isLaid_in h hr hj
    have g17 : ∀ s, stI σ s 7 17 (30 * r + j) = if lb (σ 0) r j then 1 else 0 := fun s => m17 (hmS s) hr hj
    obtain ⟨m, hm2, em⟩ := hk.2.2.2.2.2.2.2.2
    have hm30 : m < 2 ^ 30 := Nat.lt_of_lt_of_le hm2 (Nat.pow_le_pow_right (by decide) hv.2.2.2.2.1)
    have hor : nI m ||| (1 : Int32) <<< (nI j &&& 31) = nI (m ||| 2 ^ j) := by
      rw [shl1 j (by omega)]
      exact i_or (by omega) (Nat.lt_of_lt_of_le (Nat.pow_lt_pow_right (by decide) (show j < 30 by omega)) (by decide))
    have elb : ∀ i, lb (σ 0) r i = m.testBit i := fun i => by unfold lb; rw [em, nI_clamp (by omega)]
    have hbn : m ||| 2 ^ j < 2 ^ (vy (σ 0) r * vz (σ 0) r) := Nat.or_lt_two_pow hm2 (Nat.pow_lt_pow_right (by decide) hj)
    have hInv := Inv_laid hI hr hj hbn (x := 1) (by rw [tb_or, decide_eq_true rfl, Bool.or_true]; rfl) (fun i _ hne => by rw [tb_or, elb, decide_eq_false (fun q => hne q.symm), Bool.or_false]) 0
    have dF := m_dims (τ := stI (upA σ 0 13 (upd (σ 0 13) r (nI (m ||| 2 ^ j)))) 0) h hm hr
    have rF := isRoom_in (τ := stI (upA σ 0 13 (upd (σ 0 13) r (nI (m ||| 2 ^ j)))) 0) h hm hr
    have hlF : fM_lineOf (stI (upA σ 0 13 (upd (σ 0 13) r (nI (m ||| 2 ^ j)))) 0) (nI r) (nI z) (nI y) = some (nI (30 * r + j)) := by rw [← ej]; exact line_eq h hm hr
    cases hb : lb (σ 0) r j with
    | true =>
      rw [hb] at hl
      refine opNo (B := fun s => fM_lay s (nI r) (nI z) (nI y)) hI (-7) ?_ ?_
      · simp only [fI_lay, fI_lay_0, fI_lay_82, e, bp_s, ib8 h hr, cl8 h hr, gd_t, lt_v, ey, x1, hl, k1, ↓reduceIte, fI_answer_eq, bi_s]
      · simp only [fM_lay, fM_lay_0, fM_lay_93, isRoom_in h (hmS _) hr, ib48 h hr, cl8 h hr, gd_t, (d _).2.2.2.1, (d _).2.2.1, fM_in_eq, w1, w2, hln, hib, hcl, g17, hb, bp_s, k1, ↓reduceIte, fM_ends_eq, bi_s]
    | false =>
      rw [hb] at hl
      have gF : stI (upA σ 0 13 (upd (σ 0 13) r (nI (m ||| 2 ^ j)))) 0 7 17 (30 * r + j) = 0 := by
        refine (g17 0).trans ?_
        rw [hb]; rfl
      by_cases cz : z = 0
      · subst cz
        have q0 : nI 0 ≤ (0 : Int32) := by decide
        refine opII (r := 0) (s1 := stI (upA σ 0 13 (upd (σ 0 13) r (nI (m ||| 2 ^ j)))) 0) (B := fun s => fM_lay s (nI r) (nI 0) (nI y)) ?_ ?_ hInv
        · simp only [fI_lay, fI_lay_0, fI_lay_89, e, bp_s, ib8 h hr, cl8 h hr, gd_t, lt_v, ey, x1, hl, q0, em, hor, Bool.false_eq_true, ↓reduceIte, fI_answer_eq, bi_s]
        · simp only [fM_lay, fM_lay_0, fM_lay_100, rF, ib48 h hr, cl8 h hr, gd_t, dF.2.2.2.1, dF.2.2.1, fM_in_eq, w1, w2, hlF, hib, hcl, gF, q0, bp_s, k1, lt_v, nar1, ↓reduceIte, fM_ends_eq, bi_s]
          rfl
      · have q0 : ¬ nI z ≤ (0 : Int32) := nI_nle (by omega) (by omega)
        have hvj : vy (σ 0) r ≤ j := by
          rw [← ej]
          have := Nat.mul_le_mul_left (vy (σ 0) r) (show 1 ≤ z by omega)
          omega
        have hj2 : j - vy (σ 0) r < vy (σ 0) r * vz (σ 0) r := by omega
        have hl2 := isLaid_in h hr hj2
        have x3 : nI (30 * r + j) - nI (vy (σ 0) r) = nI (30 * r + (j - vy (σ 0) r)) := by rw [pk_sub (by omega)]; congr 1; omega
        have hib2 : ib (nI (30 * r + (j - vy (σ 0) r))) 1440 = true := ib_nI (by omega) (by decide)
        have hcl2 : (nI (30 * r + (j - vy (σ 0) r))).toNatClampNeg = 30 * r + (j - vy (σ 0) r) := nI_clamp (by omega)
        have g2 : ∀ s, stI σ s 7 17 (30 * r + (j - vy (σ 0) r)) = if lb (σ 0) r (j - vy (σ 0) r) then 1 else 0 := fun s => m17 (hmS s) hr hj2
        cases hb2 : lb (σ 0) r (j - vy (σ 0) r) with
        | false =>
          rw [hb2] at hl2
          refine opNo (B := fun s => fM_lay s (nI r) (nI z) (nI y)) hI (-7) ?_ ?_
          · simp only [fI_lay, fI_lay_0, fI_lay_82, e, bp_s, ib8 h hr, cl8 h hr, gd_t, lt_v, ey, x1, hl, q0, pk_sub hvj, hl2, Bool.false_eq_true, ↓reduceIte, fI_answer_eq, bi_s]
          · simp only [fM_lay, fM_lay_0, fM_lay_93, isRoom_in h (hmS _) hr, ib48 h hr, cl8 h hr, gd_t, (d _).2.2.2.1, (d _).2.2.1, fM_in_eq, w1, w2, hln, hib, hcl, g17, hb, q0, x3, hib2, hcl2, g2, hb2, Bool.false_eq_true, bp_s, k1, ↓reduceIte, fM_ends_eq, bi_s]
        | true =>
          rw [hb2] at hl2
          have g2F : stI (upA σ 0 13 (upd (σ 0 13) r (nI (m ||| 2 ^ j)))) 0 7 17 (30 * r + (j - vy (σ 0) r)) = 1 := by
            refine (g2 0).trans ?_
            rw [hb2]; rfl
          refine opII (r := 0) (s1 := stI (upA σ 0 13 (upd (σ 0 13) r (nI (m ||| 2 ^ j)))) 0) (B := fun s => fM_lay s (nI r) (nI z) (nI y)) ?_ ?_ hInv
          · simp only [fI_lay, fI_lay_0, fI_lay_89, e, bp_s, ib8 h hr, cl8 h hr, gd_t, lt_v, ey, x1, hl, q0, pk_sub hvj, hl2, k1, em, hor, Bool.false_eq_true, ↓reduceIte, fI_answer_eq, bi_s]
          · simp only [fM_lay, fM_lay_0, fM_lay_100, rF, ib48 h hr, cl8 h hr, gd_t, dF.2.2.2.1, dF.2.2.1, fM_in_eq, w1, w2, hlF, hib, hcl, gF, q0, x3, hib2, hcl2, g2F, bp_s, k1, lt_v, nar1, ↓reduceIte, fM_ends_eq, bi_s]
            rfl
