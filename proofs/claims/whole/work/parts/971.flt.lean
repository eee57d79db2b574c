/-! the day's warmth: floats -/
theorem nn_val {r : UInt32} (h : FP.Core.val32 r ≠ .nan) : nn32 r = true := by
  unfold nn32
  refine decide_eq_true ?_
  by_cases c : r &&& 0x7fffffff ≤ 0x7f800000
  · exact c
  · exact absurd (nan_dec c) h
theorem okF_m {b : UInt32} (h : okF b) : b.toNat % 2 ^ 31 ≤ 1114636288 := by
  rw [← FP.Core.mask_toNat32]
  exact h
theorem okF_fin {b : UInt32} (h : okF b) : FP.Core.FFin b := by
  have := okF_m h
  rw [FP.Core.fin_bits32]
  omega
theorem ten_fin : FP.Core.FFin 1092616192 := by
  rw [FP.Core.fin_bits32]
  decide
theorem nn_ten {b : UInt32} (h : FP.Core.FFin b) : nn32 (FP.fmul b 1092616192) = true := by
  apply nn_val
  show FP.Core.val32 (FP.Core.fmul b 1092616192) ≠ _
  rw [FP.Core.val32_fmul]
  obtain ⟨s, c, q, e⟩ := h
  obtain ⟨s2, c2, q2, e2⟩ := ten_fin
  rw [e, e2]
  unfold FP.Core.exactProduct FP.Core.round
  exact FP.Core.roundRatio_ne_nan _ _ _ _ _
theorem tenthsOf_loop {τ : Sg} (h : ∀ d, d < 200 → okF (τ 7 1 d).toUInt32) : ∀ d n, d < 200 → d < n → fM_tenthsOf_2 n τ (nI d) = some (tenD (τ 7 2) (τ 7 1) d) := by
  have k21 : ∀ d, d < 200 → fM_tenthsOf_21 τ (nI d) = some (if τ 7 2 d = 0 then 0 else tenF (τ 7 1 d).toUInt32) := by
    intro d hd
    have hib : ib (nI d) 200 = true := ib_nI hd (by decide)
    have hcl : (nI d).toNatClampNeg = d := nI_clamp (by omega)
    simp only [fM_tenthsOf_21, hib, hcl, gd_t, nn_ten (okF_fin (h d hd)), tenF]
    split <;> rfl
  intro d
  induction d with
  | zero =>
    intro n hd hn
    obtain ⟨n, rfl⟩ : ∃ k, n = k + 1 := ⟨n - 1, by omega⟩
    have q : nI 0 ≤ (0 : Int32) := by decide
    simp only [fM_tenthsOf_2, fM_tenthsOf_2_b, q, ↓reduceIte, k21 0 hd, tenD]
  | succ d ih =>
    intro n hd hn
    obtain ⟨n, rfl⟩ : ∃ k, n = k + 1 := ⟨n - 1, by omega⟩
    have q : ¬ nI (d + 1) ≤ (0 : Int32) := nI_nle (by omega) (by omega)
    have hib : ib (nI (d + 1)) 200 = true := ib_nI hd (by decide)
    have hcl : (nI (d + 1)).toNatClampNeg = d + 1 := nI_clamp (by omega)
    simp only [fM_tenthsOf_2, fM_tenthsOf_2_b, q, hib, hcl, gd_t, lt_v, pk_m1, ↓reduceIte, k21 (d + 1) hd, tenD]
    by_cases c : τ 7 2 (d + 1) = 0
    · simp only [c, ↓reduceIte]
      exact ih n (by omega) (by omega)
    · simp only [c, ↓reduceIte]
theorem m_tenths {τ : Sg} (h : ∀ d, d < 200 → okF (τ 7 1 d).toUInt32) {d : Nat} (hd : d < 200) : fM_tenthsOf τ (nI d) = some (tenD (τ 7 2) (τ 7 1) d) := tenthsOf_loop h d FU hd (by unfold FU; omega)
theorem c_tenths (σ : Sg) {d : Nat} (hd : d < 200) : fCalendar_tenthsOf σ (nI d) = some (σ 6 10 d) := by
  have w : wi (nI d) 0 199 = 1 := wiIx0 (n := 200) hd (by decide)
  have hib : ib (nI d) 200 = true := ib_nI hd (by decide)
  have hcl : (nI d).toNatClampNeg = d := nI_clamp (by omega)
  have k1 : ¬ (1 : Int32) = 0 := by decide
  simp only [fCalendar_tenthsOf, fCalendar_tenthsOf_0, fI_within_eq, w, bp_s, k1, hib, hcl, gd_t, ↓reduceIte]
theorem op_tenths : Op_tenths Inv := by
  intro lv σ hI a1
  by_cases c : wi a1 0 199 = 0
  · refine ⟨-1000, ?_, ?_, hI⟩
    · simp only [fI_tenths, fI_tenths_0, fI_within_eq, c, bp_s, ↓reduceIte]
    · simp only [fM_tenths, fM_tenths_0, fM_in_eq, c, bp_s, ↓reduceIte]
  · obtain ⟨d, -, hd, rfl⟩ := wiN (lo := 0) (hi := 199) (by decide) c (by decide)
    have hc := hI.1.2.2.2.2.2.2.2
    refine ⟨σ 6 10 d, ?_, ?_, hI⟩
    · simp only [fI_tenths, fI_tenths_0, fI_within_eq, c, bp_s, c_tenths σ (show d < 200 by omega), ↓reduceIte]
    · simp only [fM_tenths, fM_tenths_0, fM_in_eq, c, bp_s, m_tenths (fun d hd => (hc d hd).2.2.1) (show d < 200 by omega), ↓reduceIte, (hc d (by omega)).2.2.2]
