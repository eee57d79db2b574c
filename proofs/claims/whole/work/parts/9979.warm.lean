theorem op_warm : Op_warm Inv := by
  intro lv σ hI a1 v
  have k1 : ¬ (1 : Int32) = 0 := by decide
  by_cases c : wi a1 0 199 = 0
  · refine opNo (B := fun s => fM_warm s a1 v) hI (-1) ?_ ?_
    · simp only [fI_warm, fI_warm_0, fI_within_eq, c, bp_s, fI_answer_eq, bi_s, ↓reduceIte]
    · simp only [fM_warm, fM_warm_4, fM_warm_16, fM_warm_48, fM_in_eq, c, bp_s, fM_ends_eq, bi_s, ↓reduceIte, ite_self]
  · obtain ⟨d, -, hd, rfl⟩ := wiN (lo := 0) (hi := 199) (by decide) c (by decide)
    have hd : d < 200 := by omega
    have hib : ib (nI d) 200 = true := ib_nI hd (by decide)
    have hcl : (nI d).toNatClampNeg = d := nI_clamp (by omega)
    have w1 : wi (nI d) 0 199 = 1 := wiIx0 (n := 200) hd (by decide)
    have hm31 : v.toUInt32.toNat % 2 ^ 31 < 2 ^ 31 := Nat.mod_lt _ (by decide)
    have fin : ∀ (x b : Int32) (g : Nat → Int32), (x = 0 ∨ x = 1) → okF b.toUInt32 → (∀ j, j ≠ d → g j = σ 6 10 j) → (¬ x = 0 → g d = tenF b.toUInt32) → fCalendar_tell σ (nI d) v = fCalendar_tell_58 (upA (upA σ 6 9 (upd (σ 6 9) d x)) 6 10 g) (nI d) → (∀ τ : Sg, fM_warm τ (nI d) v = some (0, stM (upA (upA τ 7 2 (upd (τ 7 2) d x)) 7 1 (upd (τ 7 1) d b)) 0)) → ∃ r σ1, fI_warm σ (nI d) v = some (r, σ1) ∧ ∃ σ2, fM_warm σ1 (nI d) v = some (r, σ2) ∧ Inv lv σ2 := by
      intro x b g hx hb hg hgd h1 h2
      obtain ⟨f, f1, f2, f3⟩ := tell58 (upA (upA σ 6 9 (upd (σ 6 9) d x)) 6 10 g) hd
      rw [upA_upA] at f1
      refine opII (r := 0) (s1 := stI (upA (upA σ 6 9 (upd (σ 6 9) d x)) 6 10 f) 0) (B := fun s => fM_warm s (nI d) v) ?_ (h2 _) ?_
      · simp only [fI_warm, fI_warm_0, fI_within_eq, w1, bp_s, k1, h1, f1, bi_s, fI_warm_35, fI_answer_eq, ↓reduceIte]
      · obtain ⟨⟨-, a2, a3, a4, a5, a6, a7, a8⟩, a9, a10, a11, a12⟩ := hI
        exact ⟨⟨rfl, a2, a3, a4, a5, a6, a7, cal_new a8 hx hb hg hgd f2 f3⟩, a9, a10, a11, a12⟩
    by_cases hn : 2139095040 < v.toUInt32.toNat % 2 ^ 31
    · refine fin 0 0 (σ 6 10) (Or.inl rfl) (by unfold okF; decide) (fun _ _ => rfl) (fun q => absurd rfl q) ?_ ?_
      · have q1 : (2139095040 : Int32) < nI (v.toUInt32.toNat % 2 ^ 31) := by
          rw [Int32.lt_iff_toInt_lt, nI_toInt hm31]
          show (2139095040 : Int) < _
          omega
        have q2 : upA (upA σ 6 9 (upd (σ 6 9) d 0)) 6 10 (σ 6 10) = upA σ 6 9 (upd (σ 6 9) d 0) := upA_id (upA σ 6 9 (upd (σ 6 9) d 0)) 6 10
        rw [q2, fCalendar_tell, fCalendar_tell_0, ub_M, lt_v, if_pos q1, fCalendar_tell_16, if_pos rfl, fCalendar_tell_31, hib, gd_t, lt_v, if_pos rfl, hcl]
        rfl
      · intro τ
        have q3 : FP.fcmp v.toUInt32 v.toUInt32 = none := nan_cmp (fun q => by
          have := UInt32.le_iff_toNat_le.mp q
          rw [FP.Core.mask_toNat32] at this
          exact absurd this (Nat.not_le.mpr hn))
        rw [fM_warm, warm_nan q3, fM_warm_16, fM_in_eq, w1, bp_s, if_neg k1, if_pos rfl, fM_warm_54, hib, gd_t, lt_v, if_pos rfl, fM_warm_77, hib, gd_t, lt_v, fM_ends_eq, bi_s, hcl]
        rfl
    · have hle : v.toUInt32.toNat % 2 ^ 31 ≤ 2139095040 := by omega
      have q1 : ¬ (2139095040 : Int32) < nI (v.toUInt32.toNat % 2 ^ 31) := by
        rw [Int32.lt_iff_toInt_lt, nI_toInt hm31]
        show ¬ (2139095040 : Int) < _
        omega
      have q3 : Op.cmpValue (FP.fcmp v.toUInt32 v.toUInt32) .l = 0 := by
        have : FP.fcmp v.toUInt32 v.toUInt32 = some .eq := FP.Core.fcmp_self (cmp_val hle)
        rw [this]
        rfl
      by_cases hk : v.toUInt32.toNat % 2 ^ 31 ≤ 1114636288
      · have hb : okF v.toUInt32 := by
          unfold okF
          rw [FP.Core.mask_toNat32]
          exact hk
        have q4 : nI (v.toUInt32.toNat % 2 ^ 31) ≤ 1114636288 := by
          rw [Int32.le_iff_toInt_le, nI_toInt hm31]
          show _ ≤ (1114636288 : Int)
          omega
        obtain ⟨y, y1, y2, y3⟩ := num_c (upA σ 6 9 (upd (σ 6 9) d 1)) hb
        refine fin 1 v (upd (σ 6 10) d (tenF v.toUInt32)) (Or.inr rfl) hb (fun j hj => by rw [upd_r, if_neg hj]) (fun _ => by rw [upd_r, if_pos rfl]) ?_ ?_
        · have n1 : vp_nar .boolean 1 = 1 := by decide
          have y3' : FP.f2i (FP.fmul y 1092616192) = tenF v.toUInt32 := y3
          have q5 : upA σ 6 9 (upd (σ 6 9) d 1) 6 10 = σ 6 10 := rfl
          rw [fCalendar_tell, fCalendar_tell_0, ub_M, lt_v, if_neg q1, fCalendar_tell_16, if_neg k1, if_pos q4, fCalendar_tell_31, hib, gd_t, lt_v, if_neg k1, hcl, n1, y1, bp_s, nn_ten y2, gd_t, gd_t, lt_v, y3', q5]
        · intro τ
          have n1 : vp_nar .boolean 1 = 1 := by decide
          have l1 : ¬ Op.cmpValue (FP.fcmp v.toUInt32 3262119936) .l < 0 := by
            rw [cmp_lo hle]
            omega
          have l2 : Op.cmpValue (FP.fcmp v.toUInt32 1114636288) .g ≤ 0 := by
            rw [cmp_hi hle]
            exact Or.inr hk
          rw [fM_warm, fM_warm_4, if_pos q3, fM_warm_16, fM_in_eq, w1, bp_s, if_neg k1, if_neg k1, if_neg l1, if_pos l2, fM_warm_54, hib, gd_t, lt_v, if_neg k1, fM_warm_77, hib, gd_t, lt_v, fM_ends_eq, bi_s, hcl, n1]
          rfl
      · have q4 : ¬ nI (v.toUInt32.toNat % 2 ^ 31) ≤ 1114636288 := by
          rw [Int32.le_iff_toInt_le, nI_toInt hm31]
          show ¬ _ ≤ (1114636288 : Int)
          omega
        refine opNo (B := fun s => fM_warm s (nI d) v) hI (-1) ?_ ?_
        · have q6 : fCalendar_tell σ (nI d) v = some (0, σ) := by
            rw [fCalendar_tell, fCalendar_tell_0, ub_M, lt_v, if_neg q1, fCalendar_tell_16, if_neg k1, if_neg q4]
          simp only [fI_warm, fI_warm_0, fI_within_eq, w1, bp_s, k1, q6, bi_s, fI_warm_35, fI_answer_eq, ↓reduceIte]
        · show fM_warm (stI σ (-1)) (nI d) v = _
          rw [fM_warm, fM_warm_4, if_pos q3, fM_warm_16, fM_in_eq, w1, bp_s, if_neg k1, if_neg k1]
          by_cases l1 : Op.cmpValue (FP.fcmp v.toUInt32 3262119936) .l < 0
          · rw [if_pos l1, fM_warm_48, fM_ends_eq, bi_s]
          · have l2 : ¬ Op.cmpValue (FP.fcmp v.toUInt32 1114636288) .g ≤ 0 := by
              rw [cmp_lo hle] at l1
              rw [cmp_hi hle]
              omega
            rw [if_neg l1, if_neg l2, fM_warm_48, fM_ends_eq, bi_s]
