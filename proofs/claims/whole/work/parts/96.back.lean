theorem book_0 {b : Bool} {B ba bb : Nat → Int32} {m mb mw : Nat → Int32} (h0 : b = true → B 0 = 0 ∧ B 1 = 0) (h26 : m 26 = 0) (h27 : m 27 = 0) : IvBook b B ba bb m mb mw := by
  refine ⟨fun _ => ⟨h26, h27⟩, fun hb => ⟨0, by omega, (h0 hb).1, h27, (h0 hb).2.trans h26.symm, Or.inl h26, fun j hj => by omega⟩⟩
theorem back_go {lv : Nat → Bool} {σ X : Sg} {n : Nat} (hI : Inv lv σ) (hn : n < 4) (hl : lv (2 + n) = true) (hX : ∀ s, s ≠ 0 → s ≠ 8 → X s = σ s) (hB : lv 8 = true → X 8 0 0 = 0 ∧ X 8 0 1 = 0) (hV : Sm (σ (2 + n)) (X 0)) (hfi : fI_back lv σ (nI n) = some (0, stI X 0)) : ∃ r σ1, fI_back lv σ (nI n) = some (r, σ1) ∧ ∃ σ2, fM_back σ1 (nI n) = some (r, σ2) ∧ Inv lv σ2 := by
  have k1 : ¬ (1 : Int32) = 0 := by decide
  have wn : wi (nI n) 0 3 = 1 := wiIx0 (n := 4) hn (by decide)
  have i4 : ib (nI n) 4 = true := ib_nI hn (by decide)
  have c4 : (nI n).toNatClampNeg = n := nI_clamp (by omega)
  have x1 : 1 + nI n = nI (1 + n) := nI_add 1 n
  have e7 : stI X 0 7 = σ 7 := by rw [stI_o _ _ (by omega), hX 7 (by omega) (by omega)]
  obtain ⟨⟨h1, h2, h3, h4, h5, h6, h7, h8⟩, h9, h10, ⟨h11, h11m⟩, h12, h13, h14, h15⟩ := hI
  have own : σ 7 25 n = 1 ∧ okStore (σ (2 + n)) ∧ Rm (1 + n) (σ (2 + n)) (σ 7) := by
    rcases (show n = 0 ∨ n = 1 ∨ n = 2 ∨ n = 3 by omega) with rfl | rfl | rfl | rfl
    · exact h12.2 hl
    · exact h13.2 hl
    · exact h14.2 hl
    · exact h15.2 hl
  obtain ⟨q1, q2, q3⟩ := own
  have hmc : fM_copy (stI X 0) (nI (1 + n)) 0 = some (cpS (stI X 0) (1 + n) 0) := copy_eq (stI X 0) (w1 := 1 + n) (w2 := 0) (by omega) (by omega) (by omega)
  have hYk : ∀ k, k < 6 ∨ 25 ≤ k → cpS (stI X 0) (1 + n) 0 7 k = σ 7 k := fun k hk => by rw [cpS_k _ hk, e7]
  have hYs : ∀ s, s ≠ 7 → cpS (stI X 0) (1 + n) 0 s = stI X 0 s := fun s hs => cpS_o _ hs
  have hYc : Rm 0 (σ (2 + n)) (cpS (stI X 0) (1 + n) 0 7) := Rm_copy q2 (by rw [e7]; exact q3)
  have hYo : ∀ w v, okStore v → w ≠ 0 → Rm w v (σ 7) → Rm w v (cpS (stI X 0) (1 + n) 0 7) := fun w v h1 h2 h3 => Rm_copy_other h1 h2 (by rw [e7]; exact h3)
  generalize cpS (stI X 0) (1 + n) 0 = Y at *
  have isb0 : isb 0 = true := by decide
  have e25 : stI X 0 7 25 n = 1 := by rw [e7]; exact q1
  refine opII (r := 0) (s1 := stI X 0) (s2 := stM (upA (upA Y 7 0 (upd (Y 7 0) 26 0)) 7 0 (upd (upd (Y 7 0) 26 0) 27 0)) 0) (B := fun s => fM_back s (nI n)) hfi ?_ ?_
  · simp only [fM_back, fM_back_0, fM_in_eq, wn, bp_s, k1, i4, c4, gd_t, e25, x1, hmc, isb0, lt_v, ↓reduceIte, fM_ends_eq, bi_s]
    rfl
  · have e6 : ∀ k, Y 6 k = stI σ 0 6 k := fun k => by
      rw [hYs 6 (by omega)]
      unfold stI
      rw [hX 6 (by omega) (by omega), upA_a, upA_a, hX 6 (by omega) (by omega)]
    have e9 : Y 9 = σ 9 := by rw [hYs 9 (by omega), stI_o _ _ (by omega), hX 9 (by omega) (by omega)]
    have e8 : Y 8 = X 8 := by rw [hYs 8 (by omega), stI_o _ _ (by omega)]
    have e0 : Y 0 = X 0 := by rw [hYs 0 (by omega), stI_o _ _ (by omega)]
    have es : ∀ s, 2 ≤ s → s ≤ 5 → Y s = σ s := fun s s1 s2 => by rw [hYs s (by omega), stI_o _ _ (by omega), hX s (by omega) (by omega)]
    have e70 : ∀ j, j ≠ 0 → j ≠ 26 → j ≠ 27 → stM (upA (upA Y 7 0 (upd (Y 7 0) 26 0)) 7 0 (upd (upd (Y 7 0) 26 0) 27 0)) 0 7 0 j = σ 7 0 j := fun j j0 j1 j2 => by
      show upd (upd (upd (Y 7 0) 26 0) 27 0) 0 _ j = _
      rw [upd_r, if_neg j0, upd_r, if_neg j2, upd_r, if_neg j1, hYk 0 (by omega)]
    have oth : ∀ k, k < 4 → IvI1 (lv (2 + k)) k (σ (2 + k)) (σ 7) → IvI1 (lv (2 + k)) k (Y (2 + k)) (Y 7) := by
      intro k hk4 h
      rw [es _ (by omega) (by omega)]
      refine ⟨fun q => ?_, fun q => ?_⟩
      · rw [hYk 25 (by omega)]; exact h.1 q
      · obtain ⟨p1, p2, p3⟩ := h.2 q
        exact ⟨by rw [hYk 25 (by omega)]; exact p1, p2, hYo _ _ p2 (by omega) p3⟩
    have o0 := oth 0 (by omega) h12
    have o1 := oth 1 (by omega) h13
    have o2 := oth 2 (by omega) h14
    have o3 := oth 3 (by omega) h15
    have hS0 : IvSt (Y 0) (Y 7) := by rw [e0]; exact ⟨hV.ok q2, hV.rm q2 hYc⟩
    have k40 := hYk 40 (by omega)
    have k32 := hYk 32 (by omega)
    have k33 := hYk 33 (by omega)
    have k49 := hYk 49 (by omega)
    have k50 := hYk 50 (by omega)
    have k35 := hYk 35 (by omega)
    have kk2 := hYk 2 (by omega)
    have kk1 := hYk 1 (by omega)
    have k48 := hYk 48 (by omega)
    have k0 := hYk 0 (by omega)
    refine ⟨⟨?_, ?_, ?_, ?_, ?_, ?_, ?_, ?_⟩, ?_, ?_, hS0, o0, o1, o2, o3⟩
    · show Y 6 0 14 = _
      rw [e6 0]; rfl
    · show IvTerm (Y 6 2) _
      rw [e6 2]
      obtain ⟨p, w, l, t1, t2, t3, t4, t5, t6, t7, t8, t9, t10⟩ := h2
      exact ⟨p, w, l, t1, t2, t3, t4, t5, by rw [e70 3 (by omega) (by omega) (by omega)]; exact t6, t7, by rw [e70 4 (by omega) (by omega) (by omega)]; exact t8, t9, by rw [e70 5 (by omega) (by omega) (by omega)]; exact t10⟩
    · show IvPrice (Y 6 5) (Y 7 40)
      rw [e6 5, k40]; exact h3
    · show IvWay (Y 6 3) (Y 6 14) (Y 6 15) _ (Y 7 32) (Y 7 33)
      rw [e6 3, e6 14, e6 15, k32, k33]
      obtain ⟨p, t1, t2, t3, t4⟩ := h4
      exact ⟨p, t1, t2, by rw [e70 34 (by omega) (by omega) (by omega)]; exact t3, t4⟩
    · show IvHeap (Y 6 4) (Y 6 16) (Y 6 17) _ (Y 7 49) (Y 7 50)
      rw [e6 4, e6 16, e6 17, k49, k50]
      obtain ⟨p, t1, t2, t3, t4⟩ := h5
      exact ⟨p, t1, t2, by rw [e70 51 (by omega) (by omega) (by omega)]; exact t3, t4⟩
    · show IvList (Y 6 0) (Y 6 7) _ (Y 7 35)
      rw [e6 0, e6 7, k35]
      obtain ⟨p, t1, t2, t3, t4⟩ := h6
      exact ⟨p, t1, t2, by rw [e70 36 (by omega) (by omega) (by omega)]; exact t3, t4⟩
    · show IvSent (Y 6 0) _
      rw [e6 0]
      obtain ⟨t1, t2, t3⟩ := h7
      exact ⟨by rw [e70 37 (by omega) (by omega) (by omega)]; exact t1, by rw [e70 38 (by omega) (by omega) (by omega)]; exact t2, by rw [e70 39 (by omega) (by omega) (by omega)]; exact t3⟩
    · show IvCal (Y 6 9) (Y 6 10) (Y 7 2) (Y 7 1)
      rw [e6 9, e6 10, kk2, kk1]; exact h8
    · refine book_0 (fun hb => ?_) rfl rfl
      show Y 8 0 0 = 0 ∧ Y 8 0 1 = 0
      rw [e8]; exact hB hb
    · show IvFore (lv 9) (Y 9 0) (Y 9 1) _ (Y 7 48)
      rw [e9, k48]
      refine ⟨fun q => ?_, fun q => ?_⟩
      · rw [e70 47 (by omega) (by omega) (by omega)]; exact h10.1 q
      · obtain ⟨p1, d, r, t1, t2, t3, t4, t5, t6, t7, t8⟩ := h10.2 q
        exact ⟨by rw [e70 47 (by omega) (by omega) (by omega)]; exact p1, d, r, t1, t2, t3, by rw [e70 44 (by omega) (by omega) (by omega)]; exact t4, t5, by rw [e70 45 (by omega) (by omega) (by omega)]; exact t6, by rw [e70 46 (by omega) (by omega) (by omega)]; exact t7, t8⟩
