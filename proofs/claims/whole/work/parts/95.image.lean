theorem image_go {lv lv1 : Nat → Bool} {σ τ : Sg} {n : Nat} (hI : Inv lv σ) (hn : n < 4) (hτ : ∀ s, s ≠ 2 + n → τ s = σ s) (hlv : ∀ s, s ≠ 2 + n → lv1 s = lv s) (hl1 : lv1 (2 + n) = true) (hfi : fI_image lv σ (nI n) = fI_image_37 lv1 τ (nI n)) : ∃ r σ1 lv1, fI_image lv σ (nI n) = some (r, σ1, lv1) ∧ ∃ σ2, fM_image σ1 (nI n) = some (r, σ2) ∧ Inv lv1 σ2 := by
  have h11 := hI.2.2.2.1.1
  have h11m := hI.2.2.2.1.2
  have k1 : ¬ (1 : Int32) = 0 := by decide
  have wn : wi (nI n) 0 3 = 1 := wiIx0 (n := 4) hn (by decide)
  have i4 : ib (nI n) 4 = true := ib_nI hn (by decide)
  have c4 : (nI n).toNatClampNeg = n := nI_clamp (by omega)
  have e0 : τ 0 = σ 0 := hτ 0 (by omega)
  have hcp : fStore_copyFrom τ (2 + n) 0 = some (cfS τ (2 + n) 0 (vn (τ 0)) (vb (τ 0))) := copyFrom_sm (by omega) (by rw [e0]; exact h11)
  have hsm : Sm (τ 0) (cfS τ (2 + n) 0 (vn (τ 0)) (vb (τ 0)) (2 + n)) := cfS_sm (by rw [e0]; exact h11)
  have hXo : ∀ s, s ≠ 2 + n → cfS τ (2 + n) 0 (vn (τ 0)) (vb (τ 0)) s = σ s := fun s hs => by rw [cfS_o _ hs, hτ s hs]
  rw [e0] at hsm
  rw [e0] at hcp hXo
  generalize cfS τ (2 + n) 0 (vn (σ 0)) (vb (σ 0)) = X at *
  have x1 : 1 + nI n = nI (1 + n) := nI_add 1 n
  have e7 : stI X 0 7 = σ 7 := by rw [stI_o _ _ (by omega), hXo 7 (by omega)]
  have hmc : fM_copy (stI X 0) 0 (nI (1 + n)) = some (cpS (stI X 0) 0 (1 + n)) := copy_eq (stI X 0) (w1 := 0) (w2 := 1 + n) (by omega) (by omega) (by omega)
  have hYk : ∀ k, k < 6 ∨ 25 ≤ k → cpS (stI X 0) 0 (1 + n) 7 k = σ 7 k := fun k hk => by rw [cpS_k _ hk, e7]
  have hYs : ∀ s, s ≠ 7 → cpS (stI X 0) 0 (1 + n) s = stI X 0 s := fun s hs => cpS_o _ hs
  have hYc : Rm (1 + n) (σ 0) (cpS (stI X 0) 0 (1 + n) 7) := Rm_copy h11 (by rw [e7]; exact h11m)
  have hYo : ∀ w v, okStore v → w ≠ 1 + n → Rm w v (σ 7) → Rm w v (cpS (stI X 0) 0 (1 + n) 7) := fun w v h1 h2 h3 => Rm_copy_other h1 h2 (by rw [e7]; exact h3)
  refine opIm (r := 0) (s1 := stI X 0) (lv1 := lv1) (B := fun s => fM_image s (nI n)) ?_ ?_ (Inv_image (Y := cpS (stI X 0) 0 (1 + n)) hI hn hXo hlv hl1 hsm hYs hYk hYc hYo)
  · rw [hfi]
    simp only [fI_image_37, i4, c4, gd_t, hl1, hcp, bp_s, fI_answer_eq, bi_s]
  · simp only [fM_image, fM_image_0, fM_in_eq, show wi (nI n) 0 3 = 1 from wn, bp_s, k1, x1, hmc, i4, c4, gd_t, lt_v, nar1, ↓reduceIte, fM_ends_eq, bi_s]
theorem op_image : Op_image Inv := by
  intro lv σ hI a1
  have k1 : ¬ (1 : Int32) = 0 := by decide
  by_cases c : wi a1 0 3 = 0
  · refine opIm (r := -1) (s1 := stI σ (-1)) (lv1 := lv) (s2 := stM (stI σ (-1)) (-1)) (B := fun s => fM_image s a1) ?_ ?_ (hI.st (-1))
    · simp only [fI_image, fI_image_0, fI_within_eq, c, bp_s, ↓reduceIte, fI_answer_eq, bi_s]
    · simp only [fM_image, fM_image_0, fM_in_eq, c, bp_s, ↓reduceIte, fM_ends_eq, bi_s]
  · obtain ⟨n, -, hn, rfl⟩ := wiN (lo := 0) (hi := 3) (by decide) c (by decide)
    have i4 : ib (nI n) 4 = true := ib_nI (by omega) (by decide)
    have c4 : (nI n).toNatClampNeg = n := nI_clamp (by omega)
    cases hl : lv (2 + n) with
    | true =>
      refine image_go (lv1 := lv) (τ := σ) hI (by omega) (fun _ _ => rfl) (fun _ _ => rfl) hl ?_
      simp only [fI_image, fI_image_0, fI_within_eq, bp_s, c, i4, c4, gd_t, hl, ↓reduceIte]
    | false =>
      refine image_go (lv1 := setL lv (2 + n)) (τ := zap σ (2 + n)) hI (by omega) (fun s hs => if_neg hs) (fun s hs => if_neg hs) (if_pos rfl) ?_
      simp only [fI_image, fI_image_0, fI_within_eq, bp_s, c, i4, c4, gd_t, hl, mk2, Bool.false_eq_true, ↓reduceIte]
