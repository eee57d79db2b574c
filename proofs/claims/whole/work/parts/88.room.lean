theorem Ofs.clr {m : Vw} {σ : Sg} {c lo hi : Nat} (h : Ofs m (σ 7)) (hi' : hi ≤ lim c) : Ofs m (upA σ 7 c (clrF (σ 7 c) lo hi) 7) := by
  intro k k1 k2 j hj
  rw [upA_r]
  split
  · next q =>
    obtain ⟨-, rfl⟩ := q
    show (if lo ≤ j ∧ j < hi then 0 else σ 7 k j) = _
    rw [if_neg (by omega)]
    exact h _ k1 k2 j hj
  · exact h k k1 k2 j hj
theorem Ofs_room (τ : Sg) (k w y z q : Int32) {r : Nat} (hr : r < 8) : Ofs (τ 7) (roomM τ k w y z q r 7) := by
  have h0 := Ofs.refl (τ 7)
  exact ((((((((((h0.up (c := 10) (show r < 8 from hr)).up (c := 11) (show r < 8 from hr)).up (c := 12) (show r < 8 from hr)).up (c := 13) (show r < 8 from hr)).up (c := 14) (show r < 8 from hr)).up (c := 15) (show r < 8 from hr)).up (c := 16) (show r < 8 from hr)).clr (c := 17) (show 30 * r + 30 ≤ 240 by omega)).clr (c := 18) (show 180 * r + 180 ≤ 1440 by omega)).up (c := 7) (show 0 < 1 by omega))
theorem op_room : Op_room Inv := by
  intro lv σ hI a1 a2 a3 a4 a5
  obtain ⟨h, hm⟩ := hI.2.2.2.1
  have k1 : ¬ (1 : Int32) = 0 := by decide
  have hmS : ∀ r, Rm 0 (σ 0) (stI σ r 7) := fun r => hm
  have e1 := h.1.2
  have h88 := h.1.1
  -- whether the outer room is right, by the class
  have ho : ∃ t, (if a1 = 2 then fRooms_has σ 0 a5 else if a5 = -1 then some 1 else some 0) = some t ∧ ((t = 1 ∧ (a1 = 2 → ∃ n : Nat, n < vn (σ 0) ∧ a5 = nI n) ∧ (a1 ≠ 2 → a5 = -1)) ∨ (t = 0 ∧ ((a1 = 2 ∧ ¬ inR (σ 0) a5) ∨ (¬ a1 = 2 ∧ ¬ a5 = -1)))) := by
    by_cases c : a1 = 2
    · rw [if_pos c]
      by_cases c2 : inR (σ 0) a5
      · obtain ⟨n, hn, rfl⟩ := c2
        exact ⟨1, has_in h hn, Or.inl ⟨rfl, fun _ => ⟨n, hn, rfl⟩, fun q => absurd c q⟩⟩
      · exact ⟨0, has_out h c2, Or.inr ⟨rfl, Or.inl ⟨c, c2⟩⟩⟩
    · rw [if_neg c]
      by_cases c2 : a5 = -1
      · rw [if_pos c2]; exact ⟨1, rfl, Or.inl ⟨rfl, fun q => absurd q c, fun _ => c2⟩⟩
      · rw [if_neg c2]; exact ⟨0, rfl, Or.inr ⟨rfl, Or.inr ⟨c, c2⟩⟩⟩
  obtain ⟨t, ht, hcase⟩ := ho
  have hC : fI_room σ a1 a2 a3 a4 a5 = fI_room_31 σ a1 a2 a3 a4 a5 t := by
    unfold fI_room fI_room_0
    by_cases c : a1 = 2
    · rw [if_pos c] at ht ⊢
      rw [ht]; rfl
    · rw [if_neg c] at ht ⊢
      by_cases c2 : a5 = -1
      · rw [if_pos c2] at ht ⊢; cases ht; rfl
      · rw [if_neg c2] at ht ⊢; cases ht; rfl
  by_cases c1 : wi a1 0 5 = 0
  · refine opNo (B := fun s => fM_room s a1 a2 a3 a4 a5) hI (-1) ?_ ?_
    · rw [hC]; simp only [fI_room_31, fI_room_77, fI_within_eq, bp_s, c1, ↓reduceIte, fI_answer_eq, bi_s]
    · simp only [fM_room, fM_room_0, fM_room_62, fM_in_eq, bp_s, c1, ↓reduceIte, fM_ends_eq, bi_s]
  by_cases c2 : wi a2 1 6 = 0
  · refine opNo (B := fun s => fM_room s a1 a2 a3 a4 a5) hI (-1) ?_ ?_
    · rw [hC]; simp only [fI_room_31, fI_room_77, fI_within_eq, bp_s, c1, c2, ↓reduceIte, fI_answer_eq, bi_s]
    · simp only [fM_room, fM_room_0, fM_room_62, fM_in_eq, bp_s, c1, c2, ↓reduceIte, fM_ends_eq, bi_s]
  by_cases c3 : wi a3 1 6 = 0
  · refine opNo (B := fun s => fM_room s a1 a2 a3 a4 a5) hI (-1) ?_ ?_
    · rw [hC]; simp only [fI_room_31, fI_room_77, fI_within_eq, bp_s, c1, c2, c3, ↓reduceIte, fI_answer_eq, bi_s]
    · simp only [fM_room, fM_room_0, fM_room_62, fM_in_eq, bp_s, c1, c2, c3, ↓reduceIte, fM_ends_eq, bi_s]
  by_cases c4 : wi a4 1 5 = 0
  · refine opNo (B := fun s => fM_room s a1 a2 a3 a4 a5) hI (-1) ?_ ?_
    · rw [hC]; simp only [fI_room_31, fI_room_77, fI_within_eq, bp_s, c1, c2, c3, c4, ↓reduceIte, fI_answer_eq, bi_s]
    · simp only [fM_room, fM_room_0, fM_room_62, fM_in_eq, bp_s, c1, c2, c3, c4, ↓reduceIte, fM_ends_eq, bi_s]
  rcases hcase with ⟨rfl, hq, hq2⟩ | ⟨rfl, hno⟩
  · have hM : ∀ τ : Sg, Rm 0 (σ 0) (τ 7) → fM_room τ a1 a2 a3 a4 a5 = fM_room_68 τ a1 a2 a3 a4 a5 := by
      intro τ hτ
      simp only [fM_room, fM_room_0, fM_in_eq, bp_s, c1, c2, c3, c4, ↓reduceIte]
      by_cases c : a1 = 2
      · obtain ⟨n, hn, en⟩ := hq c
        rw [if_pos c, en, isRoom_in h hτ hn]
        simp only [bp_s, k1, ↓reduceIte]
      · rw [if_neg c, if_pos (hq2 c)]
    by_cases c8 : vn (σ 0) < 8
    · have q8 : nI (vn (σ 0)) < 8 := nI_lt (b := 8) c8 (by decide)
      obtain ⟨nk, -, hk2, ek⟩ := wiN (lo := 0) (hi := 5) (by decide) c1 (by decide)
      obtain ⟨w, w1, w6, rfl⟩ := wiN (lo := 1) (hi := 6) (by decide) c2 (by decide)
      obtain ⟨y, y1, y6, rfl⟩ := wiN (lo := 1) (hi := 6) (by decide) c3 (by decide)
      obtain ⟨z, z1, z5, rfl⟩ := wiN (lo := 1) (hi := 5) (by decide) c4 (by decide)
      have hmR : Rm 0 (σ 0) (stI (roomS σ a1 (nI w) (nI y) (nI z) a5 (vn (σ 0))) (nI (vn (σ 0))) 7) := hm
      have e7 : stI (roomS σ a1 (nI w) (nI y) (nI z) a5 (vn (σ 0))) (nI (vn (σ 0))) 7 7 0 = nI (vn (σ 0)) := hm.1.2.1.trans e1
      refine opII (r := nI (vn (σ 0))) (s1 := stI (roomS σ a1 (nI w) (nI y) (nI z) a5 (vn (σ 0))) (nI (vn (σ 0)))) (s2 := stM (roomM (stI (roomS σ a1 (nI w) (nI y) (nI z) a5 (vn (σ 0))) (nI (vn (σ 0)))) a1 (nI w) (nI y) (nI z) a5 (vn (σ 0))) (nI (vn (σ 0)))) (B := fun s => fM_room s a1 (nI w) (nI y) (nI z) a5) ?_ ?_ ?_
      · rw [hC]
        simp only [fI_room_31, fI_within_eq, bp_s, c1, c2, c3, c4, k1, e1, q8, open_eq c8 e1, ↓reduceIte, fI_answer_eq, bi_s]
      · show fM_room (stI (roomS σ a1 (nI w) (nI y) (nI z) a5 (vn (σ 0))) (nI (vn (σ 0)))) a1 (nI w) (nI y) (nI z) a5 = _
        rw [hM _ hmR, mroom_eq c8 e7]
      · have hok := okStore_room (σ := σ) (k := a1) (q := a5) h c8 ⟨nk, hk2, ek⟩ w1 w6 y1 y6 z1 z5 hq hq2
        have key := Rm_room (σ := σ) (k := a1) (q := a5) h hmR c8 w6 y6 z5
        have hof : Ofs (σ 7) _ := (Ofs_room (stI (roomS σ a1 (nI w) (nI y) (nI z) a5 (vn (σ 0))) (nI (vn (σ 0)))) a1 (nI w) (nI y) (nI z) a5 c8).st (nI (vn (σ 0)))
        obtain ⟨⟨h1, h2, h3, h4, h5, h6, h7, h8⟩, h9, h10, ⟨h11, h11m⟩, h12, h13, h14, h15⟩ := hI
        exact ⟨⟨rfl, h2, h3, h4, h5, h6, h7, h8⟩, h9, h10, ⟨hok, key⟩, h12.ofs hof, h13.ofs hof, h14.ofs hof, h15.ofs hof⟩
    · have q8 : ¬ nI (vn (σ 0)) < 8 := nI_nlt (b := 8) (by omega) (by omega)
      have e7 : ∀ s, stI σ s 7 7 0 = 8 := fun s => hm.1.2.1.trans (e1.trans (by rw [show vn (σ 0) = 8 by omega]; rfl))
      have i6 : ib 0 6 = true := by decide
      have c0 : (0 : Int32).toNatClampNeg = 0 := by decide
      refine opNo (B := fun s => fM_room s a1 a2 a3 a4 a5) hI (-6) ?_ ?_
      · rw [hC]
        simp only [fI_room_31, fI_within_eq, bp_s, c1, c2, c3, c4, k1, e1, q8, ↓reduceIte, fI_answer_eq, bi_s]
      · show fM_room (stI σ (-6)) a1 a2 a3 a4 a5 = _
        rw [hM _ (hmS _)]
        simp only [fM_room_68, i6, c0, gd_t, e7, ↓reduceIte, fM_ends_eq, bi_s]
  · refine opNo (B := fun s => fM_room s a1 a2 a3 a4 a5) hI (-1) ?_ ?_
    · rw [hC]; simp only [fI_room_31, fI_room_77, fI_within_eq, bp_s, c1, c2, c3, c4, ↓reduceIte, fI_answer_eq, bi_s]
    · simp only [fM_room, fM_room_0, fM_room_62, fM_in_eq, bp_s, c1, c2, c3, c4, ↓reduceIte, fM_ends_eq, bi_s]
      rcases hno with ⟨q1, q2⟩ | ⟨q1, q2⟩
      · rw [if_pos q1, isRoom_out h (hmS _) q2]
        simp only [bp_s, ↓reduceIte]
      · rw [if_neg q1, if_neg q2]
