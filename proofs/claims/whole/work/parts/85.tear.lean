theorem row_p {w j i k : Nat} (hi : i < w) (hj : j < k) : w * j + i < w * k := by
  have := Nat.mul_le_mul_left w (show j + 1 ≤ k by omega)
  rw [Nat.mul_add, Nat.mul_one] at this
  omega
theorem rowBare_loop {σ : Sg} {a : Nat} (h : okStore (σ a)) {r j : Nat} (hr : r < vn (σ a)) (hj : j < vy (σ a) r * vz (σ a) r) : ∀ m i n, i + m = vw (σ a) r → m < n → (fRooms_isRowBare_12 n σ a (nI r) (nI (vw (σ a) r * j)) (nI i) = some 1 ∧ ∀ k, i ≤ k → k < vw (σ a) r → vc (σ a) r (vw (σ a) r * j + k) = 0) ∨ (fRooms_isRowBare_12 n σ a (nI r) (nI (vw (σ a) r * j)) (nI i) = some 0 ∧ ∃ k, i ≤ k ∧ k < vw (σ a) r ∧ ¬ vc (σ a) r (vw (σ a) r * j + k) = 0) := by
  have hk := okS h hr
  have ew := hk.2.1.2.2
  have w6 := hk.2.1.2.1
  have hvs : vw (σ a) r * (vy (σ a) r * vz (σ a) r) = vs (σ a) r := (Nat.mul_assoc _ _ _).symm
  intro m
  induction m with
  | zero =>
    intro i n hi hn
    obtain ⟨n, rfl⟩ : ∃ k, n = k + 1 := ⟨n - 1, by omega⟩
    have q : nI (vw (σ a) r) ≤ nI i := nI_le (by omega) (by omega)
    refine Or.inl ⟨?_, fun k h1 h2 => by omega⟩
    simp only [fRooms_isRowBare_12, fRooms_isRowBare_12_b, ib8 h hr, cl8 h hr, gd_t, ew, q, ↓reduceIte]
  | succ m ih =>
    intro i n hi hn
    obtain ⟨n, rfl⟩ : ∃ k, n = k + 1 := ⟨n - 1, by omega⟩
    have q : ¬ nI (vw (σ a) r) ≤ nI i := nI_ge (by omega) (by omega)
    have hp : vw (σ a) r * j + i < vs (σ a) r := by rw [← hvs]; exact row_p (by omega) hj
    by_cases c : vc (σ a) r (vw (σ a) r * j + i) = 0
    · rcases ih (i + 1) n (by omega) (by omega) with ⟨e, hall⟩ | ⟨e, k, q1, q2, q3⟩
      · refine Or.inl ⟨?_, fun k h1 h2 => ?_⟩
        · simp only [fRooms_isRowBare_12, fRooms_isRowBare_12_b, ib8 h hr, cl8 h hr, gd_t, ew, q, nI_add, at_in h hr hp, bp_s, c, lt_v, nI_1, ↓reduceIte]
          exact e
        · rcases Nat.lt_or_ge i k with l | l
          · exact hall k (by omega) h2
          · rw [show k = i by omega]; exact c
      · refine Or.inr ⟨?_, k, by omega, q2, q3⟩
        simp only [fRooms_isRowBare_12, fRooms_isRowBare_12_b, ib8 h hr, cl8 h hr, gd_t, ew, q, nI_add, at_in h hr hp, bp_s, c, lt_v, nI_1, ↓reduceIte]
        exact e
    · refine Or.inr ⟨?_, i, by omega, by omega, c⟩
      simp only [fRooms_isRowBare_12, fRooms_isRowBare_12_b, ib8 h hr, cl8 h hr, gd_t, ew, q, nI_add, at_in h hr hp, bp_s, c, ↓reduceIte]
theorem rowBare_eq {σ : Sg} {a : Nat} (h : okStore (σ a)) {r j : Nat} (hr : r < vn (σ a)) (hj : j < vy (σ a) r * vz (σ a) r) : (fRooms_isRowBare σ a (nI r) (nI j) = some 1 ∧ ∀ k, k < vw (σ a) r → vc (σ a) r (vw (σ a) r * j + k) = 0) ∨ (fRooms_isRowBare σ a (nI r) (nI j) = some 0 ∧ ∃ k, k < vw (σ a) r ∧ ¬ vc (σ a) r (vw (σ a) r * j + k) = 0) := by
  have hk := okS h hr
  have ew := hk.2.1.2.2
  have w6 := hk.2.1.2.1
  have x1 : nI j * nI (vw (σ a) r) = nI (vw (σ a) r * j) := by rw [pk_mul, Nat.mul_comm]
  have e : fRooms_isRowBare σ a (nI r) (nI j) = fRooms_isRowBare_12 FU σ a (nI r) (nI (vw (σ a) r * j)) (nI 0) := by
    simp only [fRooms_isRowBare, fRooms_isRowBare_0, ib8 h hr, cl8 h hr, gd_t, ew, lt_v, x1]
    rfl
  rw [e]
  rcases rowBare_loop h hr hj (vw (σ a) r) 0 FU (by omega) (by unfold FU; omega) with ⟨q, g⟩ | ⟨q, k, -, q2, q3⟩
  · exact Or.inl ⟨q, fun k hk => g k (by omega) hk⟩
  · exact Or.inr ⟨q, k, q2, q3⟩
theorem tear_loop {τ : Sg} {v : Vw} (h : okStore v) (hm : Rm 0 v (τ 7)) {r z y : Nat} {X : Nat} (hr : r < vn v) (hz : z < vz v r) (hy : y < vy v r) (hX : X < 1440) : ∀ m i n (x5 : Int32), i + m = vw v r → m < n → ((x5 = 0 ∧ ∀ k, i ≤ k → k < vw v r → vc v r (vw v r * (y + vy v r * z) + k) = 0) → fM_tear_118 n τ (nI r) (nI z) (nI y) (nI X) x5 (nI i) = some (0, stM (upA τ 7 17 (upd (τ 7 17) X 0)) 0)) ∧ ((¬ x5 = 0 ∨ ∃ k, i ≤ k ∧ k < vw v r ∧ ¬ vc v r (vw v r * (y + vy v r * z) + k) = 0) → fM_tear_118 n τ (nI r) (nI z) (nI y) (nI X) x5 (nI i) = some (-7, stM τ (-7))) := by
  have hk := okS h hr
  have w6 := hk.2.1.2.1
  have hvs : vw v r * (vy v r * vz v r) = vs v r := (Nat.mul_assoc _ _ _).symm
  obtain ⟨-, m2, m3, -⟩ := m_dims h hm hr
  have hj := row_j hz hy
  have k1 : ¬ (1 : Int32) = 0 := by decide
  have hib : ib (nI X) 1440 = true := ib_nI hX (by decide)
  have hcl : (nI X).toNatClampNeg = X := nI_clamp (by omega)
  have hb := ib48 h hr
  have hc := cl8 h hr
  intro m
  induction m with
  | zero =>
    intro i n x5 hi hn
    obtain ⟨n, rfl⟩ : ∃ k, n = k + 1 := ⟨n - 1, by omega⟩
    have q : nI (vw v r) ≤ nI i := nI_le (by omega) (by omega)
    refine ⟨fun hh => ?_, fun hh => ?_⟩
    · simp only [fM_tear_118, fM_tear_118_b, hb, hc, gd_t, m2, q, hh.1, hib, hcl, lt_v, nar0, fM_ends_eq, bi_s, ↓reduceIte]
    · rcases hh with hh | ⟨k, q1, q2, -⟩
      · simp only [fM_tear_118, fM_tear_118_b, hb, hc, gd_t, m2, q, hh, fM_ends_eq, bi_s, ↓reduceIte]
      · omega
  | succ m ih =>
    intro i n x5 hi hn
    obtain ⟨n, rfl⟩ : ∃ k, n = k + 1 := ⟨n - 1, by omega⟩
    have q : ¬ nI (vw v r) ≤ nI i := nI_ge (by omega) (by omega)
    have hp : vw v r * (y + vy v r * z) + i < vs v r := by rw [← hvs]; exact row_p (by omega) hj
    have x1 : nI i + nI (vw v r) * (nI y + nI (vy v r) * nI z) = nI (vw v r * (y + vy v r * z) + i) := by rw [pk_mul, nI_add, pk_mul, nI_add, Nat.add_comm]
    refine ⟨fun hh => ?_, fun hh => ?_⟩
    · obtain ⟨rfl, hall⟩ := hh
      have c := hall i (by omega) (by omega)
      simp only [fM_tear_118, fM_tear_118_b, fM_tear_167, hb, hc, gd_t, m2, m3, q, x1, m_at h hm hr hp, bp_s, c, lt_v, nI_1, ↓reduceIte]
      exact (ih (i + 1) n 0 (by omega) (by omega)).1 ⟨rfl, fun k h1 h2 => hall k (by omega) h2⟩
    · by_cases c5 : x5 = 0
      · rcases hh with hh | ⟨k, q1, q2, q3⟩
        · exact absurd c5 hh
        · by_cases c : vc v r (vw v r * (y + vy v r * z) + i) = 0
          · simp only [fM_tear_118, fM_tear_118_b, fM_tear_167, hb, hc, gd_t, m2, m3, q, x1, m_at h hm hr hp, bp_s, c, c5, lt_v, nI_1, ↓reduceIte]
            have hki : i + 1 ≤ k := by
              rcases Nat.lt_or_ge i k with l | l
              · exact l
              · rw [show k = i by omega] at q3; exact absurd c q3
            exact (ih (i + 1) n 0 (by omega) (by omega)).2 (Or.inr ⟨k, hki, q2, q3⟩)
          · simp only [fM_tear_118, fM_tear_118_b, fM_tear_162, fM_tear_167, hb, hc, gd_t, m2, m3, q, x1, m_at h hm hr hp, bp_s, c, c5, lt_v, nI_1, ↓reduceIte]
            exact (ih (i + 1) n 1 (by omega) (by omega)).2 (Or.inl k1)
      · simp only [fM_tear_118, fM_tear_118_b, fM_tear_162, fM_tear_167, hb, hc, gd_t, m2, q, c5, lt_v, nI_1, ↓reduceIte]
        exact (ih (i + 1) n 1 (by omega) (by omega)).2 (Or.inl k1)
theorem op_tear : Op_tear Inv := by
  intro lv σ hI a1 a2 a3
  obtain ⟨h, hm⟩ := hI.2.2.2.1
  have k1 : ¬ (1 : Int32) = 0 := by decide
  have n1 : ¬ (-1 : Int32) = 0 := by decide
  have n2 : ¬ (-2 : Int32) = 0 := by decide
  have hmS : ∀ r, Rm 0 (σ 0) (stI σ r 7) := fun r => hm
  rcases refR_cases h a1 a2 a3 with ⟨c, e⟩ | ⟨r, hr, rfl, ⟨c, e⟩ | ⟨c, c2, e⟩ | ⟨z, y, hz, hy, rfl, rfl, e⟩⟩
  · refine opNo (B := fun s => fM_tear s a1 a2 a3) hI (-2) ?_ ?_
    · simp only [fI_tear, fI_tear_0, e, bp_s, n2, ↓reduceIte, fI_answer_eq, bi_s]
    · simp only [fM_tear, fM_tear_0, isRoom_out h (hmS _) c, bp_s, ↓reduceIte, fM_ends_eq, bi_s]
  · have d := m_dims h (hmS (-1)) hr
    refine opNo (B := fun s => fM_tear s (nI r) a2 a3) hI (-1) ?_ ?_
    · simp only [fI_tear, fI_tear_0, e, bp_s, n1, ↓reduceIte, fI_answer_eq, bi_s]
    · simp only [fM_tear, fM_tear_0, fM_tear_47, isRoom_in h (hmS _) hr, ib48 h hr, cl8 h hr, gd_t, d.2.2.2.1, fM_in_eq, c, bp_s, k1, ↓reduceIte, fM_ends_eq, bi_s]
  · have d := m_dims h (hmS (-1)) hr
    refine opNo (B := fun s => fM_tear s (nI r) a2 a3) hI (-1) ?_ ?_
    · simp only [fI_tear, fI_tear_0, e, bp_s, n1, ↓reduceIte, fI_answer_eq, bi_s]
    · simp only [fM_tear, fM_tear_0, fM_tear_47, isRoom_in h (hmS _) hr, ib48 h hr, cl8 h hr, gd_t, d.2.2.2.1, d.2.2.1, fM_in_eq, c, c2, bp_s, k1, ↓reduceIte, fM_ends_eq, bi_s]
  · have hk := okS h hr
    have hv := vs_le hk
    have h8 := h.1.1
    have hj := row_j hz hy
    have ey := hk.2.2.1.2.2
    have y6 := hk.2.2.1.2.1
    have z5 := hk.2.2.2.1.2.1
    have w6 := hk.2.1.2.1
    have w1 := wiIx0 hz (show vz (σ 0) r < 2 ^ 31 by omega)
    have w2 := wiIx0 hy (show vy (σ 0) r < 2 ^ 31 by omega)
    have x1 : nI y + nI (vy (σ 0) r) * nI z = nI (y + vy (σ 0) r * z) := by rw [pk_mul, nI_add]
    have hbare := rowBare_eq h hr hj
    have htl := fun (τ : Sg) (hτ : Rm 0 (σ 0) (τ 7)) => tear_loop (X := 30 * r + (y + vy (σ 0) r * z)) h hτ hr hz hy (by omega) (vw (σ 0) r) 0 FU
    have hFU : vw (σ 0) r < FU := by unfold FU; omega
    have hup : (z + 1 < vz (σ 0) r ↔ y + vy (σ 0) r * z + vy (σ 0) r < vy (σ 0) r * vz (σ 0) r) := by
      refine ⟨fun q => ?_, fun q => ?_⟩
      · have := row_j (z := z + 1) (w := vz (σ 0) r) q hy
        rw [Nat.mul_add, Nat.mul_one] at this
        omega
      · rcases Nat.lt_or_ge (z + 1) (vz (σ 0) r) with l | l
        · exact l
        · have := Nat.mul_le_mul_left (vy (σ 0) r) l
          rw [Nat.mul_add, Nat.mul_one] at this
          omega
    generalize ej : y + vy (σ 0) r * z = j at *
    have hib : ib (nI (30 * r + j)) 1440 = true := ib_nI (by omega) (by decide)
    have hcl : (nI (30 * r + j)).toNatClampNeg = 30 * r + j := nI_clamp (by omega)
    have hln : ∀ (τ : Sg), Rm 0 (σ 0) (τ 7) → fM_lineOf τ (nI r) (nI z) (nI y) = some (nI (30 * r + j)) := fun τ hτ => by rw [← ej]; exact line_eq h hτ hr
    have hl := isLaid_in h hr hj
    obtain ⟨m, hm2, em⟩ := hk.2.2.2.2.2.2.2.2
    have hm30 : m < 2 ^ 30 := Nat.lt_of_lt_of_le hm2 (Nat.pow_le_pow_right (by decide) hv.2.2.2.2.1)
    have hmk : nI m &&& ((1 : Int32) <<< (nI j &&& 31) ^^^ (-1)) = nI (m &&& (2 ^ j ^^^ (2 ^ 32 - 1))) := i_mask (by omega) (by omega)
    have elb : ∀ i, lb (σ 0) r i = m.testBit i := fun i => by unfold lb; rw [em, nI_clamp (by omega)]
    have hbn : m &&& (2 ^ j ^^^ (2 ^ 32 - 1)) < 2 ^ (vy (σ 0) r * vz (σ 0) r) := Nat.lt_of_le_of_lt Nat.and_le_left hm2
    have hInv := Inv_laid hI hr hj hbn (x := 0) (by rw [tb_mask (by omega), decide_eq_true rfl, Bool.not_true, Bool.and_false]; rfl) (fun i hi hne => by rw [tb_mask (by omega), elb, decide_eq_false (fun q => hne q.symm), Bool.not_false, Bool.and_true]) 0
    generalize hmm : m &&& (2 ^ j ^^^ (2 ^ 32 - 1)) = m' at *
    cases hb : lb (σ 0) r j with
    | false =>
      rw [hb] at hl
      have g17 : stI σ (-3) 7 17 (30 * r + j) = 0 := by rw [m17 (hmS (-3)) hr hj, hb]; rfl
      have d := m_dims h (hmS (-3)) hr
      refine opNo (B := fun s => fM_tear s (nI r) (nI z) (nI y)) hI (-3) ?_ ?_
      · simp only [fI_tear, fI_tear_0, e, bp_s, ib8 h hr, cl8 h hr, gd_t, lt_v, ey, x1, hl, Bool.false_eq_true, ↓reduceIte, fI_answer_eq, bi_s]
      · simp only [fM_tear, fM_tear_0, isRoom_in h (hmS _) hr, ib48 h hr, cl8 h hr, gd_t, d.2.2.2.1, d.2.2.1, fM_in_eq, w1, w2, hln _ (hmS _), hib, hcl, g17, bp_s, k1, ↓reduceIte, fM_ends_eq, bi_s]
    | true =>
      rw [hb] at hl
      -- what the reference does from here, in any state that holds this store
      have hM : ∀ (τ : Sg), Rm 0 (σ 0) (τ 7) → fM_tear τ (nI r) (nI z) (nI y) = fM_tear_118 FU τ (nI r) (nI z) (nI y) (nI (30 * r + j)) (if lb (σ 0) r (j + vy (σ 0) r) = true ∧ z + 1 < vz (σ 0) r then 1 else 0) 0 := by
        intro τ hτ
        have d := m_dims h hτ hr
        have g17 : τ 7 17 (30 * r + j) = 1 := by rw [m17 hτ hr hj, hb]; rfl
        simp only [fM_tear, fM_tear_0, fM_tear_112, fM_tear_113, isRoom_in h hτ hr, ib48 h hr, cl8 h hr, gd_t, d.2.2.2.1, d.2.2.1, fM_in_eq, w1, w2, hln τ hτ, hib, hcl, g17, bp_s, k1, nI_1, ↓reduceIte]
        by_cases c : z + 1 < vz (σ 0) r
        · have q : ¬ nI (vz (σ 0) r) ≤ nI (z + 1) := nI_ge c (by omega)
          have hj2 := hup.mp c
          have x3 : nI (30 * r + j) + nI (vy (σ 0) r) = nI (30 * r + (j + vy (σ 0) r)) := by rw [nI_add, Nat.add_assoc]
          have hib2 : ib (nI (30 * r + (j + vy (σ 0) r))) 1440 = true := ib_nI (by omega) (by decide)
          have hcl2 : (nI (30 * r + (j + vy (σ 0) r))).toNatClampNeg = 30 * r + (j + vy (σ 0) r) := nI_clamp (by omega)
          simp only [q, x3, hib2, hcl2, gd_t, m17 hτ hr hj2, c, and_true, ↓reduceIte]
          cases lb (σ 0) r (j + vy (σ 0) r) with
          | false => simp only [Bool.false_eq_true, ↓reduceIte]
          | true => simp only [k1, ↓reduceIte]
        · have q : nI (vz (σ 0) r) ≤ nI (z + 1) := nI_le (by omega) (by omega)
          simp only [q, c, and_false, ↓reduceIte]
      have hC : fRooms_isLaid σ 0 (nI r) (nI (j + vy (σ 0) r)) = some (if lb (σ 0) r (j + vy (σ 0) r) = true ∧ z + 1 < vz (σ 0) r then 1 else 0) := by
        by_cases c : z + 1 < vz (σ 0) r
        · rw [isLaid_in h hr (hup.mp c)]
          simp only [c, and_true]
        · rw [isLaid_far h hr (by have := fun q => c (hup.mpr q); omega) (by omega)]
          simp only [c, and_false, ↓reduceIte]
      by_cases cu : lb (σ 0) r (j + vy (σ 0) r) = true ∧ z + 1 < vz (σ 0) r
      · rw [if_pos cu] at hC
        refine opNo (B := fun s => fM_tear s (nI r) (nI z) (nI y)) hI (-7) ?_ ?_
        · simp only [fI_tear, fI_tear_0, fI_tear_101, e, bp_s, ib8 h hr, cl8 h hr, gd_t, lt_v, ey, x1, hl, k1, nI_add, hC, ↓reduceIte, fI_answer_eq, bi_s]
        · show fM_tear (stI σ (-7)) (nI r) (nI z) (nI y) = _
          rw [hM _ (hmS (-7)), if_pos cu]
          exact ((htl (stI σ (-7)) (hmS (-7)) 1 (by omega) hFU)).2 (Or.inl k1)
      · rw [if_neg cu] at hC
        rcases hbare with ⟨hb1, hb2⟩ | ⟨hb1, k, hb2, hb3⟩
        · refine opII (r := 0) (s1 := stI (upA σ 0 13 (upd (σ 0 13) r (nI m'))) 0) (B := fun s => fM_tear s (nI r) (nI z) (nI y)) ?_ ?_ hInv
          · simp only [fI_tear, fI_tear_0, e, bp_s, ib8 h hr, cl8 h hr, gd_t, lt_v, ey, x1, hl, k1, nI_add, hC, hb1, em, hmk, ↓reduceIte, fI_answer_eq, bi_s]
          · show fM_tear (stI (upA σ 0 13 (upd (σ 0 13) r (nI m'))) 0) (nI r) (nI z) (nI y) = _
            rw [hM (stI (upA σ 0 13 (upd (σ 0 13) r (nI m'))) 0) hm, if_neg cu]
            exact ((htl (stI (upA σ 0 13 (upd (σ 0 13) r (nI m'))) 0) hm 0 (by omega) hFU)).1 ⟨rfl, fun k _ hk => hb2 k hk⟩
        · refine opNo (B := fun s => fM_tear s (nI r) (nI z) (nI y)) hI (-7) ?_ ?_
          · simp only [fI_tear, fI_tear_0, fI_tear_101, e, bp_s, ib8 h hr, cl8 h hr, gd_t, lt_v, ey, x1, hl, k1, nI_add, hC, hb1, ↓reduceIte, fI_answer_eq, bi_s]
          · show fM_tear (stI σ (-7)) (nI r) (nI z) (nI y) = _
            rw [hM _ (hmS (-7)), if_neg cu]
            exact ((htl (stI σ (-7)) (hmS (-7)) 0 (by omega) hFU)).2 (Or.inr ⟨k, by omega, hb2, hb3⟩)
