theorem FU_s {m : Nat} (h : m < 900000) : ∃ n, FU = n + 1 + m := ⟨FU - 1 - m, by unfold FU; omega⟩
theorem check_loop {σ : Sg} {N : Nat} (hN : N ≤ 300) (e1 : σ 8 0 0 = nI N) (e2 : σ 7 0 27 = nI N) (e5 : ∀ j, j < 6 * N → σ 8 2 j = σ 7 28 j ∧ σ 8 1 j = σ 7 29 j) : ∀ (m i n : Nat), i + m = 6 * N → m < n → ∃ r, fBook_firstWrong_2 n σ (nI i) = some r ∧ fM_check_12 n σ (nI i) = some r := by
  have x1 : nI N * 6 = nI (6 * N) := by show nI N * nI 6 = _; rw [pk_mul, Nat.mul_comm]
  have x2 : 6 * nI N = nI (6 * N) := by show nI 6 * nI N = _; rw [pk_mul]
  intro m
  induction m with
  | zero =>
    intro i n hi hn
    obtain ⟨n, rfl⟩ : ∃ k, n = k + 1 := ⟨n - 1, by omega⟩
    have q : nI (6 * N) ≤ nI i := (nI_leI (by omega) (by omega)).mpr (by omega)
    refine ⟨-1, ?_, ?_⟩
    · simp only [fBook_firstWrong_2, fBook_firstWrong_2_b, e1, x1, q, ↓reduceIte]
    · simp only [fM_check_12, fM_check_12_b, e2, x2, q, ↓reduceIte]
  | succ m ih =>
    intro i n hi hn
    obtain ⟨n, rfl⟩ : ∃ k, n = k + 1 := ⟨n - 1, by omega⟩
    have q : ¬ nI (6 * N) ≤ nI i := fun h => by have := (nI_leI (by omega) (by omega)).mp h; omega
    have hib : ib (nI i) 1800 = true := ib_nI (by omega) (by decide)
    have hcl : (nI i).toNatClampNeg = i := nI_clamp (by omega)
    have u1 : nI i + 1 = nI (i + 1) := nI_1 i
    obtain ⟨f1, f2⟩ := e5 i (by omega)
    by_cases c : σ 7 28 i = σ 7 29 i
    · obtain ⟨r, r1, r2⟩ := ih (i + 1) n (by omega) (by omega)
      refine ⟨r, ?_, ?_⟩
      · simp only [fBook_firstWrong_2, fBook_firstWrong_2_b, e1, x1, q, hib, hcl, gd_t, f1, f2, c, u1, lt_v, ↓reduceIte]
        exact r1
      · simp only [fM_check_12, fM_check_12_b, e2, x2, q, hib, hcl, gd_t, c, u1, lt_v, ↓reduceIte]
        exact r2
    · refine ⟨nI i / 6, ?_, ?_⟩
      · simp only [fBook_firstWrong_2, fBook_firstWrong_2_b, e1, x1, q, hib, hcl, gd_t, f1, f2, c, ↓reduceIte]
      · simp only [fM_check_12, fM_check_12_b, e2, x2, q, hib, hcl, gd_t, c, ↓reduceIte]
theorem op_check : Op_check Inv := by
  intro lv σ hI
  obtain ⟨b0, b1⟩ := hI.2.1
  cases hv : lv 8 with
  | false =>
    obtain ⟨e1, -⟩ := b0 hv
    refine ⟨-7, ?_, ?_, hI⟩
    · simp only [fI_check, fI_check_0, fI_check_17, hv, ↓reduceIte, Bool.false_eq_true]
    · simp only [fM_check, fM_check_0, e1, ↓reduceIte]
  | true =>
    obtain ⟨n, hn, e1, e2, e3, e4, e5⟩ := b1 hv
    by_cases c : σ 7 0 26 = 0
    · refine ⟨-7, ?_, ?_, hI⟩
      · simp only [fI_check, fI_check_0, fI_check_17, hv, e3, c, ↓reduceIte]
      · simp only [fM_check, fM_check_0, c, ↓reduceIte]
    · obtain ⟨r, r1, r2⟩ := check_loop hn e1 e2 e5 (6 * n) 0 FU (by omega) (by unfold FU; omega)
      refine ⟨r, ?_, ?_, hI⟩
      · simp only [fI_check, fI_check_0, hv, e3, c, ↓reduceIte, fBook_firstWrong, fBook_firstWrong_0]
        rw [show fBook_firstWrong_2 FU σ 0 = some r from r1]
        rfl
      · simp only [fM_check, fM_check_0, c, ↓reduceIte]
        exact r2
theorem fore_loop {σ : Sg} {R i : Nat} (hR : R ≤ 8) (hi : i ≤ 199) (e : σ 7 0 45 = nI R) : ∀ (m q n : Nat) (a : Int32), q + m = R → m < n → a = sumF (fun z => σ 7 48 (8 * i + z)) q → fM_foretold_56 n σ (nI i) a (nI q) = some (sumF (fun z => σ 7 48 (8 * i + z)) R) := by
  intro m
  induction m with
  | zero =>
    intro q n a hq hn ha
    obtain ⟨n, rfl⟩ : ∃ k, n = k + 1 := ⟨n - 1, by omega⟩
    have c : nI R ≤ nI q := (nI_leI (by omega) (by omega)).mpr (by omega)
    simp only [fM_foretold_56, fM_foretold_56_b, e, c, ↓reduceIte]
    rw [ha, show q = R by omega]
  | succ m ih =>
    intro q n a hq hn ha
    obtain ⟨n, rfl⟩ : ∃ k, n = k + 1 := ⟨n - 1, by omega⟩
    have c : ¬ nI R ≤ nI q := fun h => by have := (nI_leI (by omega) (by omega)).mp h; omega
    have x1 : 8 * nI i + nI q = nI (8 * i + q) := by show nI 8 * nI i + nI q = _; rw [pk_mul, nI_add]
    have hib : ib (nI (8 * i + q)) 1600 = true := ib_nI (by omega) (by decide)
    have hcl : (nI (8 * i + q)).toNatClampNeg = 8 * i + q := nI_clamp (by omega)
    simp only [fM_foretold_56, fM_foretold_56_b, e, c, x1, hib, hcl, gd_t, lt_v, ↓reduceIte, nI_1]
    exact ih (q + 1) n _ (by omega) (by omega) (by rw [ha]; rfl)
theorem op_foretold : Op_foretold Inv := by
  intro lv σ hI a1 a2
  obtain ⟨b0, b1⟩ := hI.2.2.1
  cases hv : lv 9 with
  | false =>
    refine ⟨-1, ?_, ?_, hI⟩
    · simp only [fI_foretold, fI_foretold_0, hv, ↓reduceIte, Bool.false_eq_true]
    · simp only [fM_foretold, fM_foretold_0, b0 hv, ↓reduceIte]
  | true =>
    obtain ⟨e0, d, R, hd, hR, e1, e2, e3, e4, e5, e6⟩ := b1 hv
    have k1 : ¬ (1 : Int32) = 0 := by decide
    by_cases c2 : wi a2 0 (nI d) = 0
    · refine ⟨-1, ?_, ?_, hI⟩
      · by_cases c1 : wi a1 (-1) (nI R - 1) = 0
        · simp only [fI_foretold, fI_foretold_0, hv, fForecast_gramsBehind, fForecast_gramsBehind_0, fForecast_gramsBehind_30, fForecast_gramsBehind_31, fI_within_eq, bp_s, e3, c1, ↓reduceIte]
        · simp only [fI_foretold, fI_foretold_0, hv, fForecast_gramsBehind, fForecast_gramsBehind_0, fForecast_gramsBehind_30, fForecast_gramsBehind_31, fI_within_eq, bp_s, e3, e1, c1, c2, ↓reduceIte]
      · simp only [fM_foretold, fM_foretold_0, e0, k1, fM_in_eq, bp_s, e2, c2, ↓reduceIte]
    · by_cases c1 : wi a1 (-1) (nI R - 1) = 0
      · refine ⟨-1, ?_, ?_, hI⟩
        · simp only [fI_foretold, fI_foretold_0, hv, fForecast_gramsBehind, fForecast_gramsBehind_0, fForecast_gramsBehind_30, fForecast_gramsBehind_31, fI_within_eq, bp_s, e3, c1, ↓reduceIte]
        · simp only [fM_foretold, fM_foretold_0, e0, k1, fM_in_eq, bp_s, e2, e4, c2, c1, ↓reduceIte]
      · obtain ⟨i, -, hi, rfl⟩ := wiN (lo := 0) (hi := d) (by omega) c2 (by decide)
        obtain ⟨f1, f2⟩ := e6 i hi
        have x9 : nI i * 9 = nI (9 * i) := by show nI i * nI 9 = _; rw [pk_mul, Nat.mul_comm]
        by_cases c3 : a1 < 0
        · have ha : a1 = -1 := by
            have h1 := (wi0 c1).1
            have h2 := Int32.le_iff_toInt_le.mp h1
            have h3 := Int32.lt_iff_toInt_lt.mp c3
            apply Int32.toInt_inj.mp
            have : (-1 : Int32).toInt = -1 := by decide
            have : (0 : Int32).toInt = 0 := by decide
            omega
          subst ha
          have x1 : nI i * 9 + 1 + -1 = nI (9 * i) := by rw [x9, nI_1]; exact pk_m1 (9 * i)
          have hib : ib (nI (9 * i)) 1800 = true := ib_nI (by omega) (by decide)
          have hcl : (nI (9 * i)).toNatClampNeg = 9 * i := nI_clamp (by omega)
          refine ⟨σ 9 1 (9 * i), ?_, ?_, hI⟩
          · simp only [fI_foretold, fI_foretold_0, hv, fForecast_gramsBehind, fForecast_gramsBehind_0, fForecast_gramsBehind_30, fForecast_gramsBehind_31, fI_within_eq, bp_s, e3, e1, c1, c2, k1, x1, hib, hcl, gd_t, ↓reduceIte]
          · simp only [fM_foretold, fM_foretold_0, e0, k1, fM_in_eq, bp_s, e2, e4, c2, c1, c3, ↓reduceIte]
            rw [f1]
            exact fore_loop hR (by omega) e4 R 0 FU 0 (by omega) (by unfold FU; omega) rfl
        · have c1' : ¬ wi a1 0 (nI R - 1) = 0 := by
            have h1 := (wi0 c1).2
            unfold wi
            rw [if_neg c3, if_neg (Int32.not_lt.mpr h1)]
            decide
          obtain ⟨q, hq, rfl⟩ := wiIx (by omega) c1'
          have x1 : nI i * 9 + 1 + nI q = nI (9 * i + 1 + q) := by rw [x9, nI_1, nI_add]
          have hib : ib (nI (9 * i + 1 + q)) 1800 = true := ib_nI (by omega) (by decide)
          have hcl : (nI (9 * i + 1 + q)).toNatClampNeg = 9 * i + 1 + q := nI_clamp (by omega)
          have x2 : 8 * nI i + nI q = nI (8 * i + q) := by show nI 8 * nI i + nI q = _; rw [pk_mul, nI_add]
          have hib2 : ib (nI (8 * i + q)) 1600 = true := ib_nI (by omega) (by decide)
          have hcl2 : (nI (8 * i + q)).toNatClampNeg = 8 * i + q := nI_clamp (by omega)
          refine ⟨σ 9 1 (9 * i + 1 + q), ?_, ?_, hI⟩
          · simp only [fI_foretold, fI_foretold_0, hv, fForecast_gramsBehind, fForecast_gramsBehind_0, fForecast_gramsBehind_30, fForecast_gramsBehind_31, fI_within_eq, bp_s, e3, e1, c1, c2, k1, x1, hib, hcl, gd_t, ↓reduceIte]
          · simp only [fM_foretold, fM_foretold_0, e0, k1, fM_in_eq, bp_s, e2, e4, c2, c1, c3, x2, hib2, hcl2, gd_t, ↓reduceIte]
            rw [f2 q hq]
