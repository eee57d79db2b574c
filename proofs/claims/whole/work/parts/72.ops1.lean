/-! the calls that touch no store -/
theorem op_status : Op_status Inv := fun lv σ hI => ⟨σ 6 0 14, rfl, by rw [hI.1.1]; rfl, hI⟩
theorem op_last : Op_last Inv := by
  intro lv σ hI
  obtain ⟨h0, h1⟩ := hI.2.2.1
  unfold fI_last fI_last_0 fM_last fM_last_0
  cases hv : lv 9 with
  | false => exact ⟨-1, by simp, by rw [if_pos (h0 hv)], hI⟩
  | true =>
    obtain ⟨e1, d, r, -, -, -, -, -, -, e2, -⟩ := h1 hv
    refine ⟨σ 9 0 1, by simp [gd], ?_, hI⟩
    rw [e1, if_neg (by decide), e2]
theorem op_sent : Op_sent Inv := by
  intro lv σ hI a1
  obtain ⟨h1, h2, h3⟩ := hI.1.2.2.2.2.2.2.1
  unfold fI_sent fI_sent_0 fM_sent fM_sent_0
  by_cases c0 : a1 = 0
  · exact ⟨σ 6 0 11, by rw [if_pos c0], by rw [if_pos c0, h1], hI⟩
  · by_cases c1 : a1 = 1
    · exact ⟨σ 6 0 12, by rw [if_neg c0, if_pos c1], by rw [if_neg c0, if_pos c1, h2], hI⟩
    · by_cases c2 : a1 = 2
      · exact ⟨σ 6 0 13, by rw [if_neg c0, if_neg c1, if_pos c2], by rw [if_neg c0, if_neg c1, if_pos c2, h3], hI⟩
      · exact ⟨-1, by rw [if_neg c0, if_neg c1, if_neg c2], by rw [if_neg c0, if_neg c1, if_neg c2], hI⟩
theorem op_price : Op_price Inv := by
  intro lv σ hI a1 a2
  unfold fI_price fI_price_0 fI_price_20 fM_price fM_price_0 fM_price_20
  simp only [fI_within_eq, fM_in_eq, fI_answer_eq, fM_ends_eq, bp_s, bi_s, lt_v]
  by_cases c1 : wi a1 0 2 = 0
  · exact ⟨-1, _, by rw [if_pos c1], _, by rw [if_pos c1], hI.st (-1)⟩
  · by_cases c2 : wi a2 0 5000 = 0
    · exact ⟨-1, _, by rw [if_neg c1, if_pos c2], _, by rw [if_neg c1, if_pos c2], hI.st (-1)⟩
    · obtain ⟨k, -, hk, rfl⟩ := wiN (lo := 0) (hi := 2) (by decide) c1 (by decide)
      obtain ⟨q, -, hq, rfl⟩ := wiN (lo := 0) (hi := 5000) (by decide) c2 (by decide)
      refine ⟨0, stI (upA σ 6 5 (upd (σ 6 5) (nI k).toNatClampNeg (nI q))) 0, ?_, stM (upA (stI (upA σ 6 5 (upd (σ 6 5) (nI k).toNatClampNeg (nI q))) 0) 7 40 (upd (σ 7 40) (nI k).toNatClampNeg (nI q))) 0, ?_, ?_⟩
      · rw [if_neg c1, if_neg c2, gd_of (ib_nI (by omega) (by decide))]
      · rw [if_neg c1, if_neg c2, gd_of (ib_nI (by omega) (by decide))]
        rfl
      · obtain ⟨⟨h1, h2, h3, h4, h5, h6, h7, h8⟩, h9, h10, h11, h12⟩ := hI
        refine ⟨⟨rfl, h2, ?_, h4, h5, h6, h7, h8⟩, h9, h10, h11, h12⟩
        intro j hj
        show ∃ c : Nat, c ≤ 5000 ∧ upd (σ 6 5) (nI k).toNatClampNeg (nI q) j = nI c ∧ upd (σ 7 40) (nI k).toNatClampNeg (nI q) j = nI c
        unfold upd
        split
        · exact ⟨q, hq, rfl, rfl⟩
        · exact h3 j hj
theorem op_terms : Op_terms Inv := by
  intro lv σ hI a1 a2 a3
  unfold fI_terms fI_terms_0 fM_terms fM_terms_0
  simp only [fI_within_eq, fM_in_eq, bp_s]
  by_cases c1 : wi a1 0 100 = 0
  · refine ⟨-1, stI σ (-1), ?_, _, ?_, hI.st (-1)⟩
    · rw [if_pos c1]; unfold fI_terms_31; simp only [fI_answer_eq, bi_s]
    · rw [if_pos c1]; unfold fM_terms_31; simp only [fM_ends_eq, bi_s]
  · by_cases c2 : wi a2 0 10000 = 0
    · refine ⟨-1, stI σ (-1), ?_, _, ?_, hI.st (-1)⟩
      · rw [if_neg c1, if_pos c2]; unfold fI_terms_31; simp only [fI_answer_eq, bi_s]
      · rw [if_neg c1, if_pos c2]; unfold fM_terms_31; simp only [fM_ends_eq, bi_s]
    · by_cases c3 : wi a3 1 1000000 = 0
      · refine ⟨-1, stI σ (-1), ?_, _, ?_, hI.st (-1)⟩
        · rw [if_neg c1, if_neg c2, if_pos c3]; unfold fI_terms_31; simp only [fI_answer_eq, bi_s]
        · rw [if_neg c1, if_neg c2, if_pos c3]; unfold fM_terms_31; simp only [fM_ends_eq, bi_s]
      · obtain ⟨p, -, hp, rfl⟩ := wiN (lo := 0) (hi := 100) (by decide) c1 (by decide)
        obtain ⟨w, -, hw, rfl⟩ := wiN (lo := 0) (hi := 10000) (by decide) c2 (by decide)
        obtain ⟨l, hl1, hl, rfl⟩ := wiN (lo := 1) (hi := 1000000) (by decide) c3 (by decide)
        simp only [fI_answer_eq, fM_ends_eq, bi_s, lt_v]
        refine ⟨0, _, by rw [if_neg c1, if_neg c2, if_neg c3], _, by rw [if_neg c1, if_neg c2, if_neg c3], ?_⟩
        obtain ⟨⟨h1, h2, h3, h4, h5, h6, h7, h8⟩, h9, h10, h11, h12⟩ := hI
        exact ⟨⟨rfl, ⟨p, w, l, hp, hw, hl1, hl, rfl, rfl, rfl, rfl, rfl, rfl⟩, h3, h4, h5, h6, h7, h8⟩, h9, h10, h11, h12⟩
theorem op_home : Op_home Inv := by
  intro lv σ hI
  obtain ⟨⟨h1, h2, h3, h4, h5, h6, h7, h8⟩, h9, h10, h11, h12⟩ := hI
  obtain ⟨n, hn, e1, e2, e3⟩ := h4
  apply opII (B := fun s => fM_home s)
  · rfl
  · show some (σ 7 0 34, _) = some (σ 6 3 0, _)
    rw [e1, e2]
  · exact ⟨⟨h1, h2, h3, ⟨0, by omega, rfl, rfl, fun i hi => absurd hi (Nat.not_lt_zero i)⟩, h5, h6, h7, h8⟩, h9, h10, h11, h12⟩
theorem op_list : Op_list Inv := by
  intro lv σ hI a1
  obtain ⟨n, hn, e1, e2, e3⟩ := hI.1.2.2.2.2.2.1
  unfold fI_list fI_list_0 fM_list fM_list_0
  simp only [fI_within_eq, fM_in_eq, bp_s, e1, e2]
  by_cases c1 : wi a1 0 (nI n - 1) = 0
  · exact ⟨-1, by rw [if_pos c1], by rw [if_pos c1], hI⟩
  · have hc := wi0 c1
    obtain ⟨j, hj, rfl⟩ : ∃ j : Nat, j < n ∧ a1 = nI j := by
      cases n with
      | zero => exact absurd (Int32.le_trans hc.1 hc.2) (by decide)
      | succ n =>
        rw [nI_pred] at c1
        obtain ⟨j, -, hj, rfl⟩ := wiN (lo := 0) (hi := n) (by omega) c1 (by decide)
        exact ⟨j, by omega, rfl⟩
    refine ⟨σ 6 7 (nI j).toNatClampNeg, ?_, ?_, hI⟩
    · rw [if_neg c1, gd_of (ib_nI (by omega) (by decide))]
    · rw [if_neg c1, gd_of (ib_nI (by omega) (by decide)), nI_clamp (by omega), e3 j hj]
theorem op_heap : Op_heap Inv := by
  intro lv σ hI a1 a2
  by_cases c1 : wi a1 0 2 = 0
  · refine opNo (B := fun s => fM_heap s a1 a2) hI (-1) ?_ ?_
    · simp only [fI_heap, fI_heap_0, fI_isWeightOfKind, fI_isWeightOfKind_0, fI_within_eq, bp_s, c1, ↓reduceIte, fI_answer_eq, bi_s]
    · simp only [fM_heap, fM_heap_0, fM_heap_21, fM_in_eq, bp_s, c1, ↓reduceIte, fM_ends_eq, bi_s]
  · by_cases c2 : wi a2 1000 1000000 = 0
    · refine opNo (B := fun s => fM_heap s a1 a2) hI (-1) ?_ ?_
      · simp only [fI_heap, fI_heap_0, fI_isWeightOfKind, fI_isWeightOfKind_0, fI_within_eq, bp_s, c1, c2, ↓reduceIte, fI_answer_eq, bi_s]
      · simp only [fM_heap, fM_heap_0, fM_heap_21, fM_in_eq, bp_s, c1, c2, ↓reduceIte, fM_ends_eq, bi_s]
    · obtain ⟨n, hn, e1, e2, e3⟩ := hI.1.2.2.2.2.1
      obtain ⟨k, -, hk, ek⟩ := wiN (lo := 0) (hi := 2) (by decide) c1 (by decide)
      obtain ⟨g, hg1, hg, eg⟩ := wiN (lo := 1000) (hi := 1000000) (by decide) c2 (by decide)
      have k10 : ¬ (1 : Int32) = 0 := by decide
      by_cases c3 : n = 30
      · have q1 : ¬ nI n < 30 := by rw [c3]; decide
        have q2 : nI n = 30 := by rw [c3]; rfl
        refine opNo (B := fun s => fM_heap s a1 a2) hI (-6) ?_ ?_
        · simp only [fI_heap, fI_heap_0, fI_isWeightOfKind, fI_isWeightOfKind_0, fI_within_eq, bp_s, c1, c2, k10, e1, q1, ↓reduceIte, fI_answer_eq, bi_s]
        · have e2' : stI σ (-6) 7 0 51 = nI n := e2
          simp only [fM_heap, fM_heap_0, fM_heap_21, fM_in_eq, bp_s, c1, c2, e2', q2, ↓reduceIte, fM_ends_eq, bi_s]
      · have hlt : n < 30 := by omega
        have q1 : nI n < 30 := (nI_ltI (b := 30) (by omega) (by decide)).mpr hlt
        have q2 : ¬ nI n = 30 := fun q => c3 ((nI_eq (b := 30) (by omega) (by decide)).mp q)
        have hib : ib (nI n) 30 = true := ib_nI hlt (by decide)
        have hcl : (nI n).toNatClampNeg = n := nI_clamp (by omega)
        have u1 : nI n + 1 = nI (n + 1) := nI_1 n
        apply opII (B := fun s => fM_heap s a1 a2)
        · simp [fI_heap, fI_heap_0, fI_isWeightOfKind, fI_isWeightOfKind_0, fI_within_eq, bp_s, c1, c2, k10, e1, q1, ↓reduceIte, fI_answer_eq, bi_s, fHeap_add, fHeap_add_0, hib, gd_t, lt_v, upA_r, upd_r, u1, hcl]
          exact ⟨rfl, rfl⟩
        · have e2' : ∀ τ : Sg, stI τ (nI (n + 1)) 7 = τ 7 := fun _ => rfl
          simp [fM_heap, fM_heap_0, fM_heap_21, fM_in_eq, bp_s, c1, c2, e2', e2, q2, ↓reduceIte, fM_ends_eq, bi_s, hib, gd_t, lt_v, upA_r, upd_r, u1, hcl]
          rfl
        · obtain ⟨⟨h1, h2, h3, h4, h5, h6, h7, h8⟩, h9, h10, h11, h12⟩ := hI
          refine ⟨⟨rfl, h2, h3, h4, ⟨n + 1, by omega, rfl, rfl, fun i hi => ?_⟩, h6, h7, h8⟩, h9, h10, h11, h12⟩
          show upd (σ 6 16) n a1 i = upd (σ 7 49) n a1 i ∧ upd (σ 6 17) n a2 i = upd (σ 7 50) n a2 i ∧ (∃ k : Nat, k ≤ 2 ∧ upd (σ 6 16) n a1 i = nI k) ∧ ∃ g : Nat, 1000 ≤ g ∧ g ≤ 1000000 ∧ upd (σ 6 17) n a2 i = nI g
          by_cases ci : i = n
          · subst ci
            simp only [upd_r, ↓reduceIte]
            exact ⟨trivial, trivial, ⟨k, hk, ek⟩, g, hg1, hg, eg⟩
          · simp only [upd_r, ci, ↓reduceIte]
            exact e3 i (by omega)
theorem op_way : Op_way Inv := by
  intro lv σ hI a1 a2
  obtain ⟨n, hn, e1, e2, e3⟩ := hI.1.2.2.2.1
  have e2' : ∀ r, stI σ r 7 0 34 = nI n := fun _ => e2
  by_cases c0 : a1 = 4 ∨ a1 = 3
  · have r1 : fI_way σ a1 a2 = fI_way_10 σ a1 a2 := by
      unfold fI_way fI_way_0
      rcases c0 with c | c <;> simp [c]
    have r2 : ∀ τ, fM_way τ a1 a2 = fM_way_10 τ a1 a2 := fun τ => by
      unfold fM_way fM_way_0
      rcases c0 with c | c <;> simp [c]
    by_cases c1 : wi a2 0 20 = 0
    · refine opNo (B := fun s => fM_way s a1 a2) hI (-1) ?_ ?_
      · simp only [r1, fI_way_10, fI_way_20, fI_within_eq, bp_s, c1, ↓reduceIte, fI_answer_eq, bi_s]
      · simp only [r2, fM_way_10, fM_way_20, fM_in_eq, bp_s, c1, ↓reduceIte, fM_ends_eq, bi_s]
    · obtain ⟨d, -, hd, ed⟩ := wiN (lo := 0) (hi := 20) (by decide) c1 (by decide)
      by_cases c3 : n = 6
      · have q1 : ¬ nI n < 6 := by rw [c3]; decide
        have q2 : nI n = 6 := by rw [c3]; rfl
        refine opNo (B := fun s => fM_way s a1 a2) hI (-6) ?_ ?_
        · simp only [r1, fI_way_10, fI_within_eq, bp_s, c1, e1, q1, ↓reduceIte, fI_answer_eq, bi_s]
        · simp only [r2, fM_way_10, fM_in_eq, bp_s, c1, e2', q2, ↓reduceIte, fM_ends_eq, bi_s]
      · have hlt : n < 6 := by omega
        have q1 : nI n < 6 := (nI_ltI (b := 6) (by omega) (by decide)).mpr hlt
        have q2 : ¬ nI n = 6 := fun q => c3 ((nI_eq (b := 6) (by omega) (by decide)).mp q)
        have hib : ib (nI n) 6 = true := ib_nI hlt (by decide)
        have hcl : (nI n).toNatClampNeg = n := nI_clamp (by omega)
        have u1 : nI n + 1 = nI (n + 1) := nI_1 n
        apply opII (B := fun s => fM_way s a1 a2)
        · simp [r1, fI_way_10, fI_within_eq, bp_s, c1, e1, q1, ↓reduceIte, fI_answer_eq, bi_s, fJourney_stretch, fJourney_stretch_0, hib, gd_t, lt_v, upA_r, upd_r, u1, hcl]
          exact ⟨rfl, rfl⟩
        · have e3' : ∀ τ : Sg, stI τ (nI (n + 1)) 7 = τ 7 := fun _ => rfl
          simp [r2, fM_way_10, fM_in_eq, bp_s, c1, e3', e2, q2, ↓reduceIte, fM_ends_eq, bi_s, hib, gd_t, lt_v, upA_r, upd_r, u1, hcl]
          rfl
        · obtain ⟨⟨h1, h2, h3, h4, h5, h6, h7, h8⟩, h9, h10, h11, h12⟩ := hI
          refine ⟨⟨rfl, h2, h3, ⟨n + 1, by omega, rfl, rfl, fun i hi => ?_⟩, h5, h6, h7, h8⟩, h9, h10, h11, h12⟩
          show upd (σ 6 14) n a1 i = upd (σ 7 32) n a1 i ∧ upd (σ 6 15) n a2 i = upd (σ 7 33) n a2 i ∧ (upd (σ 6 14) n a1 i = 3 ∨ upd (σ 6 14) n a1 i = 4) ∧ ∃ d : Nat, d ≤ 20 ∧ upd (σ 6 15) n a2 i = nI d
          by_cases ci : i = n
          · subst ci
            simp only [upd_r, ↓reduceIte]
            exact ⟨trivial, trivial, c0.symm, d, hd, ed⟩
          · simp only [upd_r, ci, ↓reduceIte]
            exact e3 i (by omega)
  · have c4 : ¬ a1 = 4 := fun q => c0 (Or.inl q)
    have c3 : ¬ a1 = 3 := fun q => c0 (Or.inr q)
    refine opNo (B := fun s => fM_way s a1 a2) hI (-1) ?_ ?_
    · simp only [fI_way, fI_way_0, fI_way_20, c4, c3, ↓reduceIte, fI_answer_eq, bi_s]
    · simp only [fM_way, fM_way_0, fM_way_20, c4, c3, ↓reduceIte, fM_ends_eq, bi_s]
theorem ix6 {i j n : Nat} (hi : i < n) (hj : j ≤ 5) (hn : n ≤ 300) : (nI i * 6 + nI j = nI (6 * i + j)) ∧ (6 * nI i + nI j = nI (6 * i + j)) ∧ ib (nI (6 * i + j)) 1800 = true ∧ (nI (6 * i + j)).toNatClampNeg = 6 * i + j := by
  refine ⟨?_, ?_, ib_nI (by omega) (by decide), nI_clamp (by omega)⟩
  · show nI i * nI 6 + nI j = _
    rw [pk_mul, nI_add, Nat.mul_comm]
  · show nI 6 * nI i + nI j = _
    rw [pk_mul, nI_add]
theorem op_line : Op_line Inv := by
  intro lv σ hI a1 a2
  obtain ⟨b0, b1⟩ := hI.2.1
  by_cases c1 : wi a2 0 5 = 0
  · refine ⟨-1, ?_, ?_, hI⟩
    · have k1 : ¬ (-1 : Int32) = 0 := by decide
      simp only [fI_line, fI_line_0, fI_line_18, fI_refusalOfLine, fI_refusalOfLine_0, fI_within_eq, bp_s, c1, k1, ↓reduceIte]
    · simp only [fM_line, fM_line_0, fM_in_eq, bp_s, c1, ↓reduceIte]
  · obtain ⟨j, -, hj, rfl⟩ := wiN (lo := 0) (hi := 5) (by decide) c1 (by decide)
    have k2 : ¬ (-2 : Int32) = 0 := by decide
    cases hv : lv 8 with
    | false =>
      obtain ⟨-, e2⟩ := b0 hv
      have c2 : wi a1 0 ((0 : Int32) - 1) = 0 := by
        by_cases h : wi a1 0 ((0 : Int32) - 1) = 0
        · exact h
        · obtain ⟨q, hq, -⟩ := wiIx (n := 0) (by decide) h
          exact absurd hq (Nat.not_lt_zero q)
      refine ⟨-2, ?_, ?_, hI⟩
      · simp only [fI_line, fI_line_0, fI_line_18, fI_refusalOfLine, fI_refusalOfLine_0, fI_within_eq, bp_s, c1, hv, k2, ↓reduceIte, Bool.false_eq_true]
      · simp only [fM_line, fM_line_0, fM_in_eq, bp_s, c1, e2, c2, ↓reduceIte]
    | true =>
      obtain ⟨n, hn, e1, e2, e3, e4, e5⟩ := b1 hv
      by_cases c2 : wi a1 0 (nI n - 1) = 0
      · refine ⟨-2, ?_, ?_, hI⟩
        · simp only [fI_line, fI_line_0, fI_line_18, fI_refusalOfLine, fI_refusalOfLine_0, fI_within_eq, bp_s, c1, hv, e1, c2, k2, ↓reduceIte]
        · simp only [fM_line, fM_line_0, fM_in_eq, bp_s, c1, e2, c2, ↓reduceIte]
      · obtain ⟨i, hi, rfl⟩ := wiIx (by omega) c2
        obtain ⟨x1, x2, x3, x4⟩ := ix6 hi hj hn
        refine ⟨σ 8 2 (6 * i + j), ?_, ?_, hI⟩
        · simp only [fI_line, fI_line_0, fI_line_18, fI_refusalOfLine, fI_refusalOfLine_0, fBook_number, fBook_number_0, fI_within_eq, bp_s, c1, hv, e1, c2, x1, x3, x4, gd_t, ↓reduceIte]
        · simp only [fM_line, fM_line_0, fM_in_eq, bp_s, c1, e2, c2, x2, x3, x4, gd_t, ↓reduceIte]
          rw [(e5 (6 * i + j) (by omega)).1]
theorem op_alter : Op_alter Inv := by
  intro lv σ hI a1 a2 a3
  obtain ⟨b0, b1⟩ := hI.2.1
  have k1 : ¬ (-1 : Int32) = 0 := by decide
  have k2 : ¬ (-2 : Int32) = 0 := by decide
  by_cases c0 : a3 = 0
  · refine opNo (B := fun s => fM_alter s a1 a2 a3) hI (-1) ?_ ?_
    · simp only [fI_alter, fI_alter_0, fI_alter_14, fI_alter_38, c0, k1, ↓reduceIte, fI_answer_eq, bi_s]
    · by_cases c1 : wi a2 0 5 = 0
      · simp only [fM_alter, fM_alter_0, fM_alter_13, fM_in_eq, bp_s, c1, ↓reduceIte, fM_ends_eq, bi_s]
      · simp only [fM_alter, fM_alter_0, fM_alter_13, fM_in_eq, bp_s, c1, c0, ↓reduceIte, fM_ends_eq, bi_s]
  · by_cases c1 : wi a2 0 5 = 0
    · refine opNo (B := fun s => fM_alter s a1 a2 a3) hI (-1) ?_ ?_
      · simp only [fI_alter, fI_alter_0, fI_alter_14, fI_alter_38, fI_refusalOfLine, fI_refusalOfLine_0, fI_within_eq, bp_s, c1, c0, k1, ↓reduceIte, fI_answer_eq, bi_s]
      · simp only [fM_alter, fM_alter_0, fM_alter_13, fM_in_eq, bp_s, c1, ↓reduceIte, fM_ends_eq, bi_s]
    · obtain ⟨j, -, hj, rfl⟩ := wiN (lo := 0) (hi := 5) (by decide) c1 (by decide)
      cases hv : lv 8 with
      | false =>
        obtain ⟨-, e2⟩ := b0 hv
        have e2' : stI σ (-2) 7 0 27 = 0 := e2
        have c2 : wi a1 0 ((0 : Int32) - 1) = 0 := by
          by_cases h : wi a1 0 ((0 : Int32) - 1) = 0
          · exact h
          · obtain ⟨q, hq, -⟩ := wiIx (n := 0) (by decide) h
            exact absurd hq (Nat.not_lt_zero q)
        refine opNo (B := fun s => fM_alter s a1 (nI j) a3) hI (-2) ?_ ?_
        · simp only [fI_alter, fI_alter_0, fI_alter_14, fI_alter_38, fI_refusalOfLine, fI_refusalOfLine_0, fI_within_eq, bp_s, c1, c0, hv, k2, ↓reduceIte, Bool.false_eq_true, fI_answer_eq, bi_s]
        · simp only [fM_alter, fM_alter_0, fM_in_eq, bp_s, c1, c0, e2', c2, ↓reduceIte, fM_ends_eq, bi_s]
      | true =>
        obtain ⟨n, hn, e1, e2, e3, e4, e5⟩ := b1 hv
        have e2' : ∀ r, stI σ r 7 0 27 = nI n := fun _ => e2
        by_cases c2 : wi a1 0 (nI n - 1) = 0
        · refine opNo (B := fun s => fM_alter s a1 (nI j) a3) hI (-2) ?_ ?_
          · simp only [fI_alter, fI_alter_0, fI_alter_14, fI_alter_38, fI_refusalOfLine, fI_refusalOfLine_0, fI_within_eq, bp_s, c1, c0, hv, e1, c2, k2, ↓reduceIte, fI_answer_eq, bi_s]
          · simp only [fM_alter, fM_alter_0, fM_in_eq, bp_s, c1, c0, e2', c2, ↓reduceIte, fM_ends_eq, bi_s]
        · obtain ⟨i, hi, rfl⟩ := wiIx (by omega) c2
          obtain ⟨x1, x2, x3, x4⟩ := ix6 hi hj hn
          apply opII (B := fun s => fM_alter s (nI i) (nI j) a3)
          · simp only [fI_alter, fI_alter_0, fI_alter_14, fI_alter_38, fI_refusalOfLine, fI_refusalOfLine_0, fBook_change, fBook_change_0, fI_within_eq, bp_s, c1, c0, hv, e1, c2, x1, x3, x4, gd_t, lt_v, ↓reduceIte, fI_answer_eq, bi_s]
            rfl
          · have e7 : ∀ (f : Nat → Int32) (r : Int32), stI (upA σ 8 2 f) r 7 = σ 7 := fun _ _ => rfl
            simp only [fM_alter, fM_alter_0, fM_in_eq, bp_s, c1, c0, e7, e2, c2, x2, x3, x4, gd_t, lt_v, ↓reduceIte, fM_ends_eq, bi_s]
            rfl
          · obtain ⟨⟨h1, h2, h3, h4, h5, h6, h7, h8⟩, h9, h10, h11, h12⟩ := hI
            refine ⟨⟨rfl, h2, h3, h4, h5, h6, h7, h8⟩, ⟨fun q => absurd (q.symm.trans hv) (by decide), fun _ => ⟨n, hn, e1, e2, e3, e4, fun q hq => ?_⟩⟩, h10, h11, h12⟩
            show upd (σ 8 2) (6 * i + j) (σ 8 2 (6 * i + j) ^^^ a3) q = upd (σ 7 28) (6 * i + j) (σ 7 28 (6 * i + j) ^^^ a3) q ∧ σ 8 1 q = σ 7 29 q
            refine ⟨?_, (e5 q hq).2⟩
            by_cases cq : q = 6 * i + j
            · simp only [upd_r, cq, ↓reduceIte]
              rw [(e5 (6 * i + j) (by omega)).1]
            · simp only [upd_r, cq, ↓reduceIte]
              exact (e5 q hq).1
