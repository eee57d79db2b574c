/-! the class writes its book -/
theorem wl_agree {f g : Nat → Int32} {k : Nat} (h : ∀ j, j < k → f j = g j) (x0 x1 x2 x3 x4 x5 : Int32) : ∀ j, j < k + 6 → wl f k x0 x1 x2 x3 x4 x5 j = wl g k x0 x1 x2 x3 x4 x5 j := by
  intro j hj
  unfold wl
  simp only [upd_r]
  by_cases c5 : j = k + 5
  · rw [if_pos c5, if_pos c5]
  rw [if_neg c5, if_neg c5]
  by_cases c4 : j = k + 4
  · rw [if_pos c4, if_pos c4]
  rw [if_neg c4, if_neg c4]
  by_cases c3 : j = k + 3
  · rw [if_pos c3, if_pos c3]
  rw [if_neg c3, if_neg c3]
  by_cases c2 : j = k + 2
  · rw [if_pos c2, if_pos c2]
  rw [if_neg c2, if_neg c2]
  by_cases c1 : j = k + 1
  · rw [if_pos c1, if_pos c1]
  rw [if_neg c1, if_neg c1]
  by_cases c0 : j = k
  · rw [if_pos c0, if_pos c0]
  rw [if_neg c0, if_neg c0]
  exact h j (by omega)
theorem clB_s (L : Nat → Int32) (i : Nat) : clB L (i + 1) = if L i ≤ 0 then clB L i else clB L i + 1 := by
  show clB L i + (if (!decide (L i ≤ 0)) = true then 1 else 0) = _
  by_cases c : L i ≤ 0
  · rw [decide_eq_true c, if_pos c]; rfl
  · rw [decide_eq_false c, if_neg c]; rfl
theorem bkF_agree (v : Vw) (L : Nat → Int32) (le : Int32) (f g : Nat → Int32) : ∀ i j, j < 6 * clB L i → bkF v L le i f j = bkF v L le i g j
  | 0, j, hj => absurd hj (by show ¬ j < 6 * 0; omega)
  | i + 1, j, hj => by
    rw [clB_s] at hj
    unfold bkF
    by_cases c : L i ≤ 0
    · rw [if_pos c] at hj
      rw [if_pos c, if_pos c]
      exact bkF_agree v L le f g i j hj
    · rw [if_neg c] at hj
      rw [if_neg c, if_neg c]
      exact wl_agree (fun j hj => bkF_agree v L le f g i j hj) _ _ _ _ _ _ j (by omega)
theorem weighed_c {S : Sg} {b : Nat} (hb : b < 300) : fMelting_lossWeighed S (nI b) = some (S 6 12 b) := by
  have w : wi (nI b) 0 299 = 1 := wiIx0 (n := 300) hb (by decide)
  have hib : ib (nI b) 300 = true := ib_nI hb (by decide)
  have hcl : (nI b).toNatClampNeg = b := nI_clamp (by omega)
  have k1 : ¬ (1 : Int32) = 0 := by decide
  simp only [fMelting_lossWeighed, fMelting_lossWeighed_0, fI_within_eq, w, bp_s, k1, hib, hcl, gd_t, ↓reduceIte]
theorem writeLine_c {B : Sg} {c b : Nat} {v : Vw} (e : B 0 = v) (hc : c < 300) (hb : b < 300) (e0 : B 8 0 0 = nI c) {L : Nat → Int32} {le : Int32} (eL : B 6 12 b = L b) (ele : B 6 2 2 = le) : fBook_writeLine B 0 (nI b) = some (upA (upA B 8 1 (lnA v L le b (B 8 1) (6 * c))) 8 0 (upd (B 8 0) 0 (nI (c + 1)))) := by
  have hib : ib (nI b) 300 = true := ib_nI (by omega) (by decide)
  have hcl : (nI b).toNatClampNeg = b := nI_clamp (by omega)
  have x6 : nI c * 6 = nI (6 * c) := by show nI c * nI 6 = _; rw [pk_mul, Nat.mul_comm]
  have y0 : ib (nI (6 * c)) 1800 = true := ib_nI (by omega) (by decide)
  have z0 : (nI (6 * c)).toNatClampNeg = 6 * c := nI_clamp (by omega)
  have y1 : ib (nI (6 * c + 1)) 1800 = true := ib_nI (by omega) (by decide)
  have z1 : (nI (6 * c + 1)).toNatClampNeg = 6 * c + 1 := nI_clamp (by omega)
  have w2 : nI (6 * c) + 2 = nI (6 * c + 2) := nI_add (6 * c) 2
  have w3 : nI (6 * c) + 3 = nI (6 * c + 3) := nI_add (6 * c) 3
  have w4 : nI (6 * c) + 4 = nI (6 * c + 4) := nI_add (6 * c) 4
  have w5 : nI (6 * c) + 5 = nI (6 * c + 5) := nI_add (6 * c) 5
  have y2 : ib (nI (6 * c + 2)) 1800 = true := ib_nI (by omega) (by decide)
  have y3 : ib (nI (6 * c + 3)) 1800 = true := ib_nI (by omega) (by decide)
  have y4 : ib (nI (6 * c + 4)) 1800 = true := ib_nI (by omega) (by decide)
  have y5 : ib (nI (6 * c + 5)) 1800 = true := ib_nI (by omega) (by decide)
  have z2 : (nI (6 * c + 2)).toNatClampNeg = 6 * c + 2 := nI_clamp (by omega)
  have z3 : (nI (6 * c + 3)).toNatClampNeg = 6 * c + 3 := nI_clamp (by omega)
  have z4 : (nI (6 * c + 4)).toNatClampNeg = 6 * c + 4 := nI_clamp (by omega)
  have z5 : (nI (6 * c + 5)).toNatClampNeg = 6 * c + 5 := nI_clamp (by omega)
  have f0 : ∀ f : Nat → Int32, upA B 8 1 f 0 = v := fun f => (upA_o _ _ _ (by omega)).trans e
  have f6 : ∀ f : Nat → Int32, upA B 8 1 f 6 = B 6 := fun f => upA_o _ _ _ (by omega)
  have f80 : ∀ f : Nat → Int32, upA B 8 1 f 8 0 = B 8 0 := fun f => by rw [upA_a, if_neg (by omega)]
  have k11 : c + 1 = 1 + c := Nat.add_comm _ _
  simp only [fBook_writeLine, fBook_writeLine_0, e0, x6, lt_v, weighed_c hb, eL, bp_s, hib, hcl, y0, z0, y1, z1, w2, w3, w4, w5, y2, y3, y4, y5, z2, z3, z4, z5, gd_t, upA_upA, upA_same, f0, f6, f80, fMelting_leftOf, fMelting_leftOf_0, ele, lnA, wl, lf, nI_1]
  by_cases cl : le ≤ v 17 b - L b
  · simp only [cl, ↓reduceIte, bp_s]
  · simp only [cl, ↓reduceIte, bp_s]
theorem write_loop {S : Sg} {v : Vw} (e : S 0 = v) (hv : okStore v) {L : Nat → Int32} {le : Int32} (eL : ∀ b, b < vb v → S 6 12 b = L b) (ele : S 6 2 2 = le) : ∀ m i n (B : Sg), i + m = vb v → m < n → (∀ s, s ≠ 8 → B s = S s) → B 8 0 0 = nI (clB L i) → B 8 0 1 = 1 → B 8 1 = bkF v L le i (S 8 1) → ∃ B' : Sg, fBook_write_12 n B 0 (nI i) = some B' ∧ (∀ s, s ≠ 8 → B' s = S s) ∧ B' 8 0 0 = nI (clB L (vb v)) ∧ B' 8 0 1 = 1 ∧ B' 8 1 = bkF v L le (vb v) (S 8 1) ∧ ∀ j, j < 6 * clB L (vb v) → B' 8 2 j = B' 8 1 j := by
  have h3 := hv.2.1.1
  have c0 : (0 : Int32).toNatClampNeg = 0 := by decide
  intro m
  induction m with
  | zero =>
    intro i n B hi hn h1 h2 h4 h5
    obtain ⟨n, rfl⟩ : ∃ k, n = k + 1 := ⟨n - 1, by omega⟩
    have ei : i = vb v := by omega
    subst ei
    have eB : B 0 = v := (h1 0 (by omega)).trans e
    have q : nI (vb v) ≤ nI (vb v) := nI_le (by omega) (by omega)
    have hcb : clB L (vb v) ≤ vb v := cntF_le _ _
    have x6 : nI (clB L (vb v)) * 6 = nI (6 * clB L (vb v)) := by show nI _ * nI 6 = _; rw [pk_mul, Nat.mul_comm]
    have hac := acg_ok (n := 6 * clB L (vb v)) (l := 1800) (by omega) (by omega)
    have hcl : (nI (6 * clB L (vb v))).toNatClampNeg = 6 * clB L (vb v) := nI_clamp (by omega)
    refine ⟨upA B 8 2 (va_cpy (B 8 1) (B 8 2) 0 0 (6 * clB L (vb v))), ?_, fun s hs => (upA_o _ _ _ hs).trans (h1 s hs), ?_, ?_, ?_, fun j hj => ?_⟩
    · simp only [fBook_write_12, fBook_write_12_b, eB, hv.2.1.2, q, h2, x6, hac, hcl, c0, gd_t, lt_v, ↓reduceIte]
    · rw [upA_a, if_neg (by omega)]; exact h2
    · rw [upA_a, if_neg (by omega)]; exact h4
    · rw [upA_a, if_neg (by omega)]; exact h5
    · rw [upA_same, upA_a, if_neg (by omega)]
      exact cpy_in hj
  | succ m ih =>
    intro i n B hi hn h1 h2 h4 h5
    obtain ⟨n, rfl⟩ : ∃ k, n = k + 1 := ⟨n - 1, by omega⟩
    have hiv : i < vb v := by omega
    have eB : B 0 = v := (h1 0 (by omega)).trans e
    have q : ¬ nI (vb v) ≤ nI i := nI_ge hiv (by omega)
    have e12 : B 6 12 i = L i := by rw [h1 6 (by omega)]; exact eL i hiv
    have hw : fMelting_lossWeighed B (nI i) = some (L i) := by rw [weighed_c (by omega), e12]
    have hs := clB_s L i
    by_cases c : L i ≤ 0
    · rw [if_pos c] at hs
      obtain ⟨B', g1, g2⟩ := ih (i + 1) n B (by omega) (by omega) h1 (by rw [hs]; exact h2) h4 (by rw [bkF, if_pos c]; exact h5)
      refine ⟨B', ?_, g2⟩
      rw [← g1]
      simp only [fBook_write_12, fBook_write_12_b, fBook_write_38, eB, hv.2.1.2, q, hw, c, bp_s, lt_v, nI_1, ↓reduceIte]
    · rw [if_neg c] at hs
      have hcb : clB L i ≤ i := cntF_le _ _
      have hl := writeLine_c (L := L) (le := le) eB (show clB L i < 300 by omega) (show i < 300 by omega) h2 e12 (by rw [h1 6 (by omega)]; exact ele)
      obtain ⟨B', g1, g2⟩ := ih (i + 1) n (upA (upA B 8 1 (lnA v L le i (B 8 1) (6 * clB L i))) 8 0 (upd (B 8 0) 0 (nI (clB L i + 1)))) (by omega) (by omega) (fun s hs => by rw [upA_o _ _ _ hs, upA_o _ _ _ hs]; exact h1 s hs) (by rw [upA_same, upd_r, if_pos rfl, hs]) (by rw [upA_same, upd_r, if_neg (by omega)]; exact h4) (by rw [upA_a, if_neg (by omega), upA_same, h5, bkF, if_neg c])
      refine ⟨B', ?_, g2⟩
      rw [← g1]
      simp only [fBook_write_12, fBook_write_12_b, fBook_write_38, eB, hv.2.1.2, q, hw, c, hl, bp_s, lt_v, nI_1, ↓reduceIte]
theorem write_c {S : Sg} {v : Vw} (e : S 0 = v) (hv : okStore v) {L : Nat → Int32} {le : Int32} (eL : ∀ b, b < vb v → S 6 12 b = L b) (ele : S 6 2 2 = le) : ∃ B' : Sg, fBook_write S 0 = some B' ∧ (∀ s, s ≠ 8 → B' s = S s) ∧ B' 8 0 0 = nI (clB L (vb v)) ∧ B' 8 0 1 = 1 ∧ B' 8 1 = bkF v L le (vb v) (S 8 1) ∧ ∀ j, j < 6 * clB L (vb v) → B' 8 2 j = B' 8 1 j := by
  have h3 := hv.2.1.1
  have isb1 : isb 1 = true := by decide
  obtain ⟨B', g1, g2⟩ := write_loop e hv eL ele (vb v) 0 FU (upA S 8 0 (upd (upd (S 8 0) 0 0) 1 1)) (by omega) (by unfold FU; omega) (fun s hs => upA_o _ _ _ hs) (by rw [upA_same]; rfl) (by rw [upA_same]; rfl) (by rw [upA_a, if_neg (by omega)]; rfl)
  refine ⟨B', ?_, g2⟩
  rw [← g1]
  simp only [fBook_write, fBook_write_0, lt_v, isb1, gd_t, upA_upA, upA_same]
  rfl
