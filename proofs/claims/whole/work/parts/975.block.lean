/-! block: what is told of one -/
theorem Inv.look {lv : Nat → Bool} {σ : Sg} (h : Inv lv σ) (g : Nat → Int32) : Inv lv (upA σ 6 11 g) := by
  obtain ⟨⟨h1, h2, h3, h4, h5, h6, h7, h8⟩, h9, h10, h11, h12⟩ := h
  exact ⟨⟨h1, h2, h3, h4, h5, h6, h7, h8⟩, h9, h10, h11, h12⟩
theorem Inv.terms {lv : Nat → Bool} {σ : Sg} (h : Inv lv σ) : σ 6 2 0 = σ 7 0 3 ∧ σ 6 2 1 = σ 7 0 4 ∧ σ 6 2 2 = σ 7 0 5 := by
  obtain ⟨p, w, l, -, -, -, -, e1, e2, e3, e4, e5, e6⟩ := h.1.2.1
  exact ⟨e1.trans e2.symm, e3.trans e4.symm, e5.trans e6.symm⟩
/-- the tenths of a day, on both sides -/
theorem Inv.day {lv : Nat → Bool} {σ : Sg} (h : Inv lv σ) {d : Nat} (hd : d < 200) : (∀ τ : Sg, τ 6 10 = σ 6 10 → fCalendar_tenthsOf τ (nI d) = some (σ 6 10 d)) ∧ ∀ τ : Sg, τ 7 1 = σ 7 1 → τ 7 2 = σ 7 2 → fM_tenthsOf τ (nI d) = some (σ 6 10 d) := by
  have hc := h.1.2.2.2.2.2.2.2
  refine ⟨fun τ e => by rw [c_tenths τ hd, e], fun τ e1 e2 => ?_⟩
  rw [m_tenths (fun d hd => by rw [e1]; exact (hc d hd).2.2.1) hd, e1, e2, (hc d hd).2.2.2]
theorem Inv.today {lv : Nat → Bool} {σ : Sg} (h : Inv lv σ) : ∃ d : Nat, d ≤ 199 ∧ σ 0 0 0 = nI d ∧ σ 7 6 0 = nI d := by
  obtain ⟨hok, hm⟩ := h.2.2.2.1
  obtain ⟨d, hd, e⟩ := hok.2.2.1
  exact ⟨d, hd, e, hm.1.1.trans e⟩
theorem hasB_in {σ : Sg} {a : Nat} {v : Vw} (e : σ a = v) (h : okW v) {b : Nat} (hb : b < vb v) : fBlocks_has σ a (nI b) = some 1 := by
  have h3 := h.2.1.1
  have q1 : ¬ nI b < 0 := nI_pos (by omega)
  have q2 : ¬ nI (vb v) ≤ nI b := nI_ge hb (by omega)
  simp only [fBlocks_has, fBlocks_has_0, e, h.2.1.2, q1, q2, ↓reduceIte]
theorem hasB_out {σ : Sg} {a : Nat} {v : Vw} (e : σ a = v) (h : okW v) {x : Int32} (hb : ¬ ∃ b, b < vb v ∧ x = nI b) : fBlocks_has σ a x = some 0 := by
  have h3 := h.2.1.1
  by_cases c : x < 0
  · simp only [fBlocks_has, fBlocks_has_0, c, ↓reduceIte]
  · have q4 : nI (vb v) ≤ x := by
      obtain ⟨j, hj, rfl⟩ := nI_of c
      exact (nI_leI (by omega) hj).mpr (by
        rcases Nat.lt_or_ge j (vb v) with q | q
        · exact absurd ⟨j, q, rfl⟩ hb
        · exact q)
    simp only [fBlocks_has, fBlocks_has_0, e, h.2.1.2, c, q4, ↓reduceIte]
theorem nI_nm1 {n : Nat} (h : n < 2 ^ 31) : ¬ nI n = -1 := fun q => by
  have := congrArg Int32.toInt q
  rw [nI_toInt h] at this
  have e : (-1 : Int32).toInt = -1 := by decide
  omega
theorem how_c {lv : Nat → Bool} {σ : Sg} (hI : Inv lv σ) {b k : Nat} (hb : b < vb (σ 0)) (hk6 : 6 ≤ k) (hk9 : k ≤ 9) : ∃ r g, fI_howBlockLies σ (nI b) (nI k) = some (r, upA σ 6 11 g) ∧ fM_block_45 (upA σ 6 11 g) (nI b) (nI k) (if σ 7 21 b < 0 then 0 else 1) = some r := by
  obtain ⟨h, hm⟩ := hI.2.2.2.1
  obtain ⟨d, hd, d1, d2⟩ := hI.today
  obtain ⟨t1, t2, -⟩ := hI.terms
  obtain ⟨hdc, hdm⟩ := hI.day (show d < 200 by omega)
  have h3 := h.2.1.1
  have k1 : ¬ (1 : Int32) = 0 := by decide
  have i6 : ib 0 6 = true := by decide
  have c0 : (0 : Int32).toNatClampNeg = 0 := by decide
  have hib : ib (nI b) 300 = true := ib_nI (by omega) (by decide)
  have hib2 : ib (nI b) 1800 = true := ib_nI (by omega) (by decide)
  have hcl : (nI b).toNatClampNeg = b := nI_clamp (by omega)
  obtain ⟨m1, m2, m3, m4, -⟩ := m_b hm hb
  by_cases c : σ 0 18 b = -1
  · have hh : fRooms_has σ 0 (-1) = some 0 := has_out h (fun ⟨r, hr, e⟩ => nI_nm1 (n := r) (by have := h.1.1; omega) e.symm)
    have hc : (if σ 7 21 b < 0 then (0 : Int32) else 1) = 0 := by rw [m3, c]; decide
    refine ⟨0, σ 6 11, ?_, ?_⟩
    · simp only [fI_howBlockLies, fI_howBlockLies_0, hib, hcl, gd_t, lt_v, c, hh, bp_s, ↓reduceIte, upA_id]
    · rw [hc]
      rcases (show k = 6 ∨ k = 7 ∨ k = 8 ∨ k = 9 by omega) with rfl | rfl | rfl | rfl <;> simp (decide := true) only [fM_block_45, ↓reduceIte]
  · obtain ⟨r, p, hr, hp, e1, e2, e3⟩ := blk_lies h hb c
    have h8 := h.1.1
    have hc : (if σ 7 21 b < 0 then (0 : Int32) else 1) = 1 := by rw [m3, e1, if_neg (nI_pos (by omega))]
    obtain ⟨g, hg, g0, g1, -⟩ := look_eq (σ := σ) (a := 0) (by omega) rfl h.w hr hp
    have hmg : ∀ g, Rm 0 (σ 0) (upA σ 6 11 g 7) := fun g => hm
    have hhas := has_in h hr
    have e7 : ∀ g : Nat → Int32, upA σ 6 11 g 7 = σ 7 := fun g => rfl
    rcases (show k = 6 ∨ k = 7 ∨ k = 8 ∨ k = 9 by omega) with rfl | rfl | rfl | rfl
    · refine ⟨nI (nAir (σ 0) r p), g, ?_, ?_⟩
      · simp (decide := true) only [fI_howBlockLies, fI_howBlockLies_0, hib, hcl, gd_t, lt_v, e1, e2, hhas, bp_s, k1, hg, upA_same, g0, ↓reduceIte]
      · rw [hc]
        simp (decide := true) only [fM_block_45, ↓reduceIte, k1, hib2, hcl, gd_t, e7, m3, m4, e1, e2, m_air h (hmg g) hr hp, bp_s]
    · refine ⟨nI (nStr (σ 0) r p), g, ?_, ?_⟩
      · simp (decide := true) only [fI_howBlockLies, fI_howBlockLies_0, hib, hcl, gd_t, lt_v, e1, e2, hhas, bp_s, k1, hg, upA_same, g1, ↓reduceIte]
      · rw [hc]
        simp (decide := true) only [fM_block_45, ↓reduceIte, k1, hib2, hcl, gd_t, e7, m3, m4, e1, e2, m_str h (hmg g) hr hp, bp_s]
    · have htt : fI_tenthsToday (upA σ 6 11 g) = some (σ 6 10 d) := by
        show bp (fCalendar_tenthsOf (upA σ 6 11 g) (σ 0 0 0)) _ = _
        rw [d1, hdc (upA σ 6 11 g) rfl]; rfl
      have hw := warmthIn_eq (σ := upA σ 6 11 g) (a := 0) (v := σ 0) rfl h.w (σ 6 10 d) hr
      obtain ⟨g', hg'⟩ := loss_c (σ := upA σ 6 11 g) (a := 0) (v := σ 0) (by omega) rfl h.w hb hr hp e1 e2 (wrm (σ 0) (σ 6 10 d) r)
      refine ⟨lsW (σ 0) (σ 6 2 0) (σ 6 2 1) (wrm (σ 0) (σ 6 10 d) r) b r p, g', ?_, ?_⟩
      · simp (decide := true) only [fI_howBlockLies, fI_howBlockLies_0, hib, hcl, gd_t, lt_v, e1, e2, hhas, bp_s, k1, hg, htt, hw, hg', bi_s, upA_upA, ↓reduceIte]
        rfl
      · have hl := loss_m (τ := upA σ 6 11 g') h (hmg g') (hdm (upA σ 6 11 g') rfl rfl) hb hr hp e1 e2
        rw [hc]
        simp (decide := true) only [fM_block_45, ↓reduceIte, k1, i6, c0, gd_t, e7, d2, hl, bp_s, t1, t2]
    · refine ⟨if frP (σ 0) r p then 1 else 0, g, ?_, ?_⟩
      · have hf := free_c (σ := upA σ 6 11 g) (a := 0) (v := σ 0) rfl h.w hr hp
        simp (decide := true) only [fI_howBlockLies, fI_howBlockLies_0, hib, hcl, gd_t, lt_v, e1, e2, hhas, bp_s, k1, hg, hf, ↓reduceIte]
        cases frP (σ 0) r p <;> rfl
      · have hf := free_m h (hmg g) hb hr hp e1 e2
        rw [hc, frP_b (show b < 300 by omega) e3]
        simp (decide := true) only [fM_block_45, ↓reduceIte, k1, hf, bp_s]
        by_cases q : 10 ≤ sd (σ 0) r p 5
        · simp only [q, ↓reduceIte, not_true_eq_false, decide_false, Bool.false_eq_true]
        · simp only [q, ↓reduceIte, not_false_eq_true, decide_true, k1]
theorem op_block : Op_block Inv := by
  intro lv σ hI a1 a2
  obtain ⟨h, hm⟩ := hI.2.2.2.1
  have h3 := h.2.1.1
  have k1 : ¬ (1 : Int32) = 0 := by decide
  have i6 : ib 0 6 = true := by decide
  have c0 : (0 : Int32).toNatClampNeg = 0 := by decide
  by_cases c : wi a2 0 9 = 0
  · refine ⟨-1, σ, ?_, ?_, hI⟩
    · simp only [fI_block, fI_block_0, fI_within_eq, c, bp_s, ↓reduceIte]
    · simp only [fM_block, fM_block_0, fM_in_eq, c, bp_s, ↓reduceIte]
  have e8 := m_8 h hm
  by_cases hb : ∃ b, b < vb (σ 0) ∧ a1 = nI b
  · obtain ⟨b, hb, rfl⟩ := hb
    obtain ⟨k, -, hk, rfl⟩ := wiN (lo := 0) (hi := 9) (by decide) c (by decide)
    have hib : ib (nI b) 300 = true := ib_nI (by omega) (by decide)
    have hib2 : ib (nI b) 1800 = true := ib_nI (by omega) (by decide)
    have hcl : (nI b).toNatClampNeg = b := nI_clamp (by omega)
    have w1 : wi (nI b) 0 (nI (vb (σ 0)) - 1) = 1 := wiIx0 hb (by omega)
    have hh := hasB_in (σ := σ) (a := 0) rfl h.w hb
    obtain ⟨m1, m2, m3, m4, m5, m6⟩ := m_b hm hb
    have mm : ∀ g x, fM_block_45 (upA σ 6 11 g) (nI b) (nI k) (if σ 7 21 b < 0 then 0 else 1) = some x → fM_block (upA σ 6 11 g) (nI b) (nI k) = some x := by
      intro g x hx
      rw [← hx]
      have e7 : upA σ 6 11 g 7 = σ 7 := rfl
      simp only [fM_block, fM_block_0, fM_in_eq, c, bp_s, i6, c0, gd_t, e7, e8, w1, k1, hib2, hcl, ↓reduceIte]
      split <;> rfl
    by_cases ck : 6 ≤ k
    · obtain ⟨x, g, x1, x2⟩ := how_c hI hb ck hk
      refine ⟨x, upA σ 6 11 g, ?_, mm g x x2, hI.look g⟩
      rcases (show k = 6 ∨ k = 7 ∨ k = 8 ∨ k = 9 by omega) with rfl | rfl | rfl | rfl
      · simp (decide := true) only [fI_block, fI_block_0, fI_within_eq, c, bp_s, hh, k1, x1, bi_s, ↓reduceIte]
      · simp (decide := true) only [fI_block, fI_block_0, fI_within_eq, c, bp_s, hh, k1, x1, bi_s, ↓reduceIte]
      · simp (decide := true) only [fI_block, fI_block_0, fI_within_eq, c, bp_s, hh, k1, x1, bi_s, ↓reduceIte]
      · simp (decide := true) only [fI_block, fI_block_0, fI_within_eq, c, bp_s, hh, k1, x1, bi_s, ↓reduceIte]
    · have key : ∀ x, fI_block σ (nI b) (nI k) = some (x, σ) → fM_block_45 σ (nI b) (nI k) (if σ 7 21 b < 0 then 0 else 1) = some x → ∃ r σ1, fI_block σ (nI b) (nI k) = some (r, σ1) ∧ fM_block σ1 (nI b) (nI k) = some r ∧ Inv lv σ1 := by
        intro x x1 x2
        have := mm (σ 6 11) x
        rw [upA_id] at this
        exact ⟨x, σ, x1, this x2, hI⟩
      rcases (show k = 0 ∨ k = 1 ∨ k = 2 ∨ k = 3 ∨ k = 4 ∨ k = 5 by omega) with rfl | rfl | rfl | rfl | rfl | rfl
      · refine key (σ 0 16 b) ?_ ?_
        · simp (decide := true) only [fI_block, fI_block_0, fI_within_eq, c, bp_s, hh, k1, hib, hcl, gd_t, ↓reduceIte]
        · simp (decide := true) only [fM_block_45, hib2, hcl, gd_t, m1, ↓reduceIte]
      · refine key (σ 0 17 b) ?_ ?_
        · simp (decide := true) only [fI_block, fI_block_0, fI_within_eq, c, bp_s, hh, k1, hib, hcl, gd_t, ↓reduceIte]
        · simp (decide := true) only [fM_block_45, hib2, hcl, gd_t, m2, ↓reduceIte]
      · refine key (σ 0 18 b) ?_ ?_
        · simp (decide := true) only [fI_block, fI_block_0, fI_within_eq, c, bp_s, hh, k1, hib, hcl, gd_t, ↓reduceIte]
        · simp (decide := true) only [fM_block_45, hib2, hcl, gd_t, m3, ↓reduceIte]
      · refine key (σ 0 19 b) ?_ ?_
        · simp (decide := true) only [fI_block, fI_block_0, fI_within_eq, c, bp_s, hh, k1, hib, hcl, gd_t, ↓reduceIte]
        · simp (decide := true) only [fM_block_45, hib2, hcl, gd_t, m4, ↓reduceIte]
      · refine key (σ 0 20 b) ?_ ?_
        · simp (decide := true) only [fI_block, fI_block_0, fI_within_eq, c, bp_s, hh, k1, hib, hcl, gd_t, ↓reduceIte]
        · simp (decide := true) only [fM_block_45, hib2, hcl, gd_t, m5, ↓reduceIte]
      · refine key (σ 0 21 b) ?_ ?_
        · simp (decide := true) only [fI_block, fI_block_0, fI_within_eq, c, bp_s, hh, k1, hib, hcl, gd_t, ↓reduceIte]
        · simp (decide := true) only [fM_block_45, hib2, hcl, gd_t, m6, ↓reduceIte]
  · refine ⟨-2, σ, ?_, ?_, hI⟩
    · simp only [fI_block, fI_block_0, fI_within_eq, c, bp_s, hasB_out (σ := σ) (a := 0) rfl h.w hb, ↓reduceIte]
    · simp only [fM_block, fM_block_0, fM_in_eq, c, bp_s, i6, c0, gd_t, e8, wiIxN (show vb (σ 0) < 2 ^ 31 by omega) hb, ↓reduceIte]
