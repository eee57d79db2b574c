theorem Ofs.st {m : Vw} {σ : Sg} (h : Ofs m (σ 7)) (s : Int32) : Ofs m (stM σ s 7) := by
  intro k k1 k2 j hj
  unfold stM
  rw [upA_a, if_neg (by omega)]
  exact h k k1 k2 j hj
theorem vb_eq {v : Vw} (h : okStore v) : vb v < 300 ∨ vb v = 300 := by have := h.2.1.1; omega
theorem Inv_cut {lv : Nat → Bool} {σ τ : Sg} (hI : Inv lv σ) {r p : Nat} {k g : Int32} (hb : vb (σ 0) < 300) (hr : r < vn (σ 0)) (hp : p < vs (σ 0) r) (hz : vc (σ 0) r p = 0) (hk : ∃ n : Nat, n ≤ 2 ∧ k = nI n) (hg : ∃ n : Nat, n ≤ 1000000 ∧ g = nI n) (s : Int32) (hτ : τ = stI (cutS σ r p k g) s) : Inv lv (stM (cutM τ (vb (σ 0)) r p k g) s) := by
  subst hτ
  obtain ⟨⟨h1, h2, h3, h4, h5, h6, h7, h8⟩, h9, h10, ⟨h11, h11m⟩, h12, h13, h14, h15⟩ := hI
  have hv := vs_le (okS h11 hr)
  have h8' := h11.1.1
  have hok := okStore_cut h11 hb hr hp hz hk hg
  have key := Rm_cut (σ := stI (cutS σ r p k g) s) h11 h11m hb k g hr hp
  rw [← cutS_0] at hok key
  have ho : Ofs (σ 7) _ := (Ofs_cut (stI (cutS σ r p k g) s) hb (show r < 8 by omega) (show p < 180 by omega) k g).st s
  exact ⟨⟨rfl, h2, h3, h4, h5, h6, h7, h8⟩, h9, h10, ⟨hok, key⟩, h12.ofs ho, h13.ofs ho, h14.ofs ho, h15.ofs ho⟩
theorem op_cut : Op_cut Inv := by
  intro lv σ hI a1 a2 a3 a4
  obtain ⟨h, hm⟩ := hI.2.2.2.1
  have k1 : ¬ (1 : Int32) = 0 := by decide
  have n6 : ¬ (-6 : Int32) = 0 := by decide
  have i6 : ib 0 6 = true := by decide
  have c0 : (0 : Int32).toNatClampNeg = 0 := by decide
  have hmS : ∀ r, Rm 0 (σ 0) (stI σ r 7) := fun r => hm
  by_cases c : wi a3 0 2 = 0
  · refine opNo (B := fun s => fM_cut s a1 a2 a3 a4) hI (-1) ?_ ?_
    · simp only [fI_cut, fI_cut_0, fI_isWeightOfKind, fI_isWeightOfKind_0, fI_within_eq, bp_s, c, ↓reduceIte, fI_answer_eq, bi_s]
    · simp only [fM_cut, fM_cut_0, fM_cut_22, fM_in_eq, bp_s, c, ↓reduceIte, fM_ends_eq, bi_s]
  by_cases c2 : wi a4 1000 1000000 = 0
  · refine opNo (B := fun s => fM_cut s a1 a2 a3 a4) hI (-1) ?_ ?_
    · simp only [fI_cut, fI_cut_0, fI_isWeightOfKind, fI_isWeightOfKind_0, fI_within_eq, bp_s, c, c2, ↓reduceIte, fI_answer_eq, bi_s]
    · simp only [fM_cut, fM_cut_0, fM_cut_22, fM_in_eq, bp_s, c, c2, ↓reduceIte, fM_ends_eq, bi_s]
  obtain ⟨e, he, hu, hc⟩ := fill_cases h a1 a2
  rcases hc with hc | ⟨rfl, r, p, hr, hp, rfl, rfl, hz⟩
  · refine opNo (B := fun s => fM_cut s a1 a2 a3 a4) hI e ?_ ?_
    · simp only [fI_cut, fI_cut_0, fI_cut_48, fI_cut_71, fI_isWeightOfKind, fI_isWeightOfKind_0, fI_within_eq, bp_s, c, c2, k1, he, hc, ↓reduceIte, fI_answer_eq, bi_s]
    · simp only [fM_cut, fM_cut_0, fM_cut_22, fM_in_eq, bp_s, c, c2, hu _ (hmS e), hc, ↓reduceIte, fM_ends_eq, bi_s]
  have e15 := h.2.1.2
  have hv := vs_le (okS h hr)
  have h8 := h.1.1
  rcases vb_eq h with hb | hb
  · have hlt : nI (vb (σ 0)) < 300 := nI_lt (b := 300) (by omega) (by omega)
    have hne : ¬ nI (vb (σ 0)) = 300 := fun q => by have := (nI_eq (a := vb (σ 0)) (b := 300) (by omega) (by decide)).mp q; omega
    obtain ⟨nk, -, hk2, ek⟩ := wiN (lo := 0) (hi := 2) (by decide) c (by decide)
    obtain ⟨ng, -, hg2, eg⟩ := wiN (lo := 1000) (hi := 1000000) (by decide) c2 (by decide)
    have hcm : ∀ s, Rm 0 (σ 0) (stI (cutS σ r p a3 a4) s 7) := fun s => hm
    have e8 : ∀ s, stI (cutS σ r p a3 a4) s 7 8 0 = nI (vb (σ 0)) := fun s => hm.1.2.2.trans e15
    refine opII (r := nI (vb (σ 0))) (s1 := stI (cutS σ r p a3 a4) (nI (vb (σ 0)))) (B := fun s => fM_cut s (nI r) (nI p) a3 a4) ?_ ?_ (Inv_cut hI hb hr hp hz ⟨nk, hk2, ek⟩ ⟨ng, hg2, eg⟩ (nI (vb (σ 0))) rfl)
    · simp only [fI_cut, fI_cut_0, fI_cut_48, fI_cut_71, fI_isWeightOfKind, fI_isWeightOfKind_0, fI_within_eq, bp_s, c, c2, k1, he, e15, hlt, cutBlock_eq h hr hp hb, ↓reduceIte, fI_answer_eq, bi_s]
    · simp only [fM_cut, fM_cut_0, fM_cut_22, fM_cut_75, fM_in_eq, bp_s, c, c2, hu _ (hcm _), i6, c0, gd_t, e8, hne, cuts_eq hb (show r < 8 by omega) (show p < 180 by omega) (e8 _), ↓reduceIte, fM_ends_eq, bi_s]
  · have hlt : ¬ nI (vb (σ 0)) < 300 := nI_nlt (b := 300) (by omega) (by omega)
    have hne : nI (vb (σ 0)) = 300 := by rw [hb]; rfl
    have e8 : ∀ s, stI σ s 7 8 0 = nI (vb (σ 0)) := fun s => hm.1.2.2.trans e15
    refine opNo (B := fun s => fM_cut s (nI r) (nI p) a3 a4) hI (-6) ?_ ?_
    · simp only [fI_cut, fI_cut_0, fI_cut_48, fI_cut_71, fI_isWeightOfKind, fI_isWeightOfKind_0, fI_within_eq, bp_s, c, c2, k1, he, e15, hlt, n6, ↓reduceIte, fI_answer_eq, bi_s]
    · simp only [fM_cut, fM_cut_0, fM_cut_22, fM_cut_75, fM_in_eq, bp_s, c, c2, hu _ (hmS _), i6, c0, gd_t, e8, hne, ↓reduceIte, fM_ends_eq, bi_s]
