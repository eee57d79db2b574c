theorem op_back : Op_back Inv := by
  intro lv σ hI a1
  have k1 : ¬ (1 : Int32) = 0 := by decide
  by_cases c : wi a1 0 3 = 0
  · refine opNo (B := fun s => fM_back s a1) hI (-1) ?_ ?_
    · simp only [fI_back, fI_back_0, fI_within_eq, c, bp_s, ↓reduceIte, fI_answer_eq, bi_s]
    · simp only [fM_back, fM_back_0, fM_in_eq, c, bp_s, ↓reduceIte, fM_ends_eq, bi_s]
  · obtain ⟨n, -, hn, rfl⟩ := wiN (lo := 0) (hi := 3) (by decide) c (by decide)
    have i4 : ib (nI n) 4 = true := ib_nI (by omega) (by decide)
    have c4 : (nI n).toNatClampNeg = n := nI_clamp (by omega)
    have hI' := hI
    obtain ⟨-, -, -, -, h12, h13, h14, h15⟩ := hI'
    have any : IvI1 (lv (2 + n)) n (σ (2 + n)) (σ 7) := by
      rcases (show n = 0 ∨ n = 1 ∨ n = 2 ∨ n = 3 by omega) with rfl | rfl | rfl | rfl
      · exact h12
      · exact h13
      · exact h14
      · exact h15
    cases hl : lv (2 + n) with
    | false =>
      have e25 : stI σ (-2) 7 25 n = 0 := any.1 hl
      refine opNo (B := fun s => fM_back s (nI n)) hI (-2) ?_ ?_
      · simp only [fI_back, fI_back_0, fI_within_eq, c, i4, c4, gd_t, hl, bp_s, Bool.false_eq_true, ↓reduceIte, fI_answer_eq, bi_s]
      · simp only [fM_back, fM_back_0, fM_in_eq, c, i4, c4, gd_t, e25, bp_s, ↓reduceIte, fM_ends_eq, bi_s]
    | true =>
      obtain ⟨q1, q2, q3⟩ := any.2 hl
      have hcp : fStore_copyFrom σ 0 (2 + n) = some (cfS σ 0 (2 + n) (vn (σ (2 + n))) (vb (σ (2 + n)))) := copyFrom_sm (by omega) q2
      have hsm : Sm (σ (2 + n)) (cfS σ 0 (2 + n) (vn (σ (2 + n))) (vb (σ (2 + n))) 0) := cfS_sm q2
      have hXo : ∀ s, s ≠ 0 → cfS σ 0 (2 + n) (vn (σ (2 + n))) (vb (σ (2 + n))) s = σ s := fun s hs => cfS_o _ hs
      generalize cfS σ 0 (2 + n) (vn (σ (2 + n))) (vb (σ (2 + n))) = X at *
      have isb0 : isb 0 = true := by decide
      cases h8 : lv 8 with
      | true =>
        refine back_go (X := upA (upA X 8 0 (upd (X 8 0) 0 0)) 8 0 (upd (upd (X 8 0) 0 0) 1 0)) hI (by omega) hl (fun s s0 s8 => by rw [upA_o _ _ _ s8, upA_o _ _ _ s8, hXo s s0]) (fun _ => ⟨rfl, rfl⟩) hsm ?_
        simp only [fI_back, fI_back_0, fI_back_58, fBook_empty, fBook_empty_0, fI_within_eq, c, i4, c4, gd_t, hl, hcp, h8, isb0, lt_v, bp_s, ↓reduceIte, fI_answer_eq, bi_s]
        rfl
      | false =>
        refine back_go (X := X) hI (by omega) hl (fun s s0 _ => hXo s s0) (fun q => by rw [h8] at q; cases q) hsm ?_
        simp only [fI_back, fI_back_0, fI_back_58, fI_within_eq, c, i4, c4, gd_t, hl, hcp, h8, bp_s, Bool.false_eq_true, ↓reduceIte, fI_answer_eq, bi_s]
