/-! the reference foretells -/
def FM (T : Sg) (v : Vw) (pa we le : Int32) (tt : Nat → Int32) (d0 k : Nat) (Y : Sg) : Prop := (∀ s, s ≠ 7 → Y s = T s) ∧ Rm 0 (foV v pa we le tt k) (Y 7) ∧ Ofs (T 7) (Y 7) ∧ (∀ j, 26 ≤ j ∨ (1 ≤ j ∧ j < 6) → j ≠ 30 → j ≠ 31 → j ≠ 48 → Y 7 j = T 7 j) ∧ (∀ j, j ≠ 46 → Y 7 0 j = T 7 0 j) ∧ Y 7 0 46 = foE v pa we le tt d0 k ∧ ∀ i, i ≤ k → ∀ j, j < vn v → Y 7 48 (8 * i + j) = wgt (foV v pa we le tt i) (nI j)
theorem foreM_loop {T : Sg} {v : Vw} {P W l d0 n bk : Nat} {tt : Nat → Int32} (hv : okStore v) (hP : P ≤ 100) (hW : W ≤ 10000) (hd : v 0 0 = nI d0) (hn : d0 + n ≤ 199) (hbk : bk ≤ 199) (ht : ∀ k, -2048 ≤ (tt k).toInt ∧ (tt k).toInt ≤ 2048) (hcal : ∀ Y : Sg, Y 7 1 = T 7 1 → Y 7 2 = T 7 2 → ∀ k, k < n → fM_tenthsOf Y (nI (d0 + k - bk)) = some (tt k)) (eP : T 7 0 3 = nI P) (eW : T 7 0 4 = nI W) (el : T 7 0 5 = nI l) : ∀ m k f (Y : Sg), k + m = n → m < f → FM T v (nI P) (nI W) (nI l) tt d0 k Y → ∃ Y' : Sg, fM_foretell_115 f Y (nI bk) (nI n) (nI (k + 1)) = some (nI n, stM (cpS Y' 5 0) (nI n)) ∧ FM T v (nI P) (nI W) (nI l) tt d0 n Y' := by
  have h8 := hv.1.1
  have i6 : ib 0 6 = true := by decide
  have c0 : (0 : Int32).toNatClampNeg = 0 := by decide
  intro m
  induction m with
  | zero =>
    intro k f Y hk hf hY
    obtain ⟨f, rfl⟩ : ∃ j, f = j + 1 := ⟨f - 1, by omega⟩
    have ek : k = n := by omega
    subst ek
    have q : nI k < nI (k + 1) := nI_lt (by omega) (by omega)
    have hcp : fM_copy Y 5 0 = some (cpS Y 5 0) := copy_eq Y (w1 := 5) (w2 := 0) (by omega) (by omega) (by omega)
    refine ⟨Y, ?_, hY⟩
    simp only [fM_foretell_115, fM_foretell_115_b, q, hcp, bp_s, fM_ends_eq, bi_s, ↓reduceIte]
  | succ m ih =>
    intro k f Y hk hf hY
    obtain ⟨f, rfl⟩ : ∃ j, f = j + 1 := ⟨f - 1, by omega⟩
    have hkn : k < n := by omega
    obtain ⟨ho, e0, en, eb⟩ := foV_ok (l := l) hv hP hW hd hn ht k (by omega)
    obtain ⟨ho', e0', en', eb'⟩ := foV_ok (l := l) hv hP hW hd hn ht (k + 1) (by omega)
    obtain ⟨y1, y2, y3, y4, y5, y6, y7⟩ := hY
    have q : ¬ nI n < nI (k + 1) := nI_nlt (by omega) (by omega)
    have Y6 : Y 7 6 0 = nI (d0 + k) := y2.1.1.trans e0
    have hsel : (if nI (d0 + k) ≤ nI bk then fM_foretell_144 (fun σ x2 x3 x4 => fM_foretell_115 f σ x2 x3 x4) Y (nI bk) (nI n) (nI (k + 1)) (nI (d0 + k)) 0 else fM_foretell_144 (fun σ x2 x3 x4 => fM_foretell_115 f σ x2 x3 x4) Y (nI bk) (nI n) (nI (k + 1)) (nI (d0 + k)) (nI (d0 + k) - nI bk)) = fM_foretell_144 (fun σ x2 x3 x4 => fM_foretell_115 f σ x2 x3 x4) Y (nI bk) (nI n) (nI (k + 1)) (nI (d0 + k)) (nI (d0 + k - bk)) := by
      by_cases c : d0 + k ≤ bk
      · rw [if_pos (nI_le c (by omega)), show d0 + k - bk = 0 by omega]; rfl
      · rw [if_neg (nI_ge (by omega) (by omega)), pk_sub (by omega)]
    have a3 : Y 7 0 3 = nI P := by rw [y5 3 (by omega)]; exact eP
    have a4 : Y 7 0 4 = nI W := by rw [y5 4 (by omega)]; exact eW
    have hLB := LB_Ls (v := foV v (nI P) (nI W) (nI l) tt k) ho hP hW (ht k).1 (ht k).2
    obtain ⟨F, f1, f2, f3, f4, f5, f6, f7, f8, f9⟩ := goes_m (τ := Y) ho y2 (d := nI (d0 + k - bk)) (t := tt k) (le := nI l) (fun S b1 b2 => hcal S (b1.trans (y4 1 (by omega) (by omega) (by omega) (by omega))) (b2.trans (y4 2 (by omega) (by omega) (by omega) (by omega))) k hkn) (by rw [a3, a4]; exact hLB) (by rw [y5 5 (by omega)]; exact el) 0 (Or.inl rfl)
    rw [a3, a4] at f3
    have f3 : Rm 0 (foV v (nI P) (nI W) (nI l) tt (k + 1)) (F 7) := f3
    obtain ⟨g, g0, g1, g2⟩ := fsee_m (Y := F) ho' (k := k + 1) f3 (by omega)
    rw [en'] at g1
    have F28 : F 7 28 = Y 7 28 := by rw [f8]; unfold bA; rw [if_pos rfl]
    have F29 : F 7 29 = Y 7 29 := by rw [f9]; unfold bA; rw [if_pos rfl]
    have F27 : F 7 0 27 = Y 7 0 27 := by rw [f7]; unfold bN; rw [if_pos rfl]
    have F70 : F 7 0 = Y 7 0 := by
      funext j
      by_cases c : j = 27
      · rw [c]; exact F27
      · exact f6 j c
    have F48 : F 7 48 = Y 7 48 := f5 48 (by omega) (by omega) (by omega) (by omega) (by omega)
    have rows : ∀ Z : Sg, Z 7 48 = g → ∀ i, i ≤ k + 1 → ∀ j, j < vn v → Z 7 48 (8 * i + j) = wgt (foV v (nI P) (nI W) (nI l) tt i) (nI j) := fun Z hZ i hi j hj => by
      rw [hZ]
      by_cases c : i = k + 1
      · subst c; exact g1 j hj
      · rw [g2 _ (by omega), F48]
        exact y7 i (by omega) j hj
    have base : ∀ Z : Sg, (∀ s, s ≠ 7 → Z s = F s) → (∀ j, j ≠ 0 → j ≠ 48 → Z 7 j = F 7 j) → Z 7 48 = g → (∀ j, j ≠ 46 → Z 7 0 j = F 7 0 j) → Z 7 0 46 = foE v (nI P) (nI W) (nI l) tt d0 (k + 1) → FM T v (nI P) (nI W) (nI l) tt d0 (k + 1) Z := by
      intro Z z1 z2 z3 z4 z5
      refine ⟨fun s hs => ?_, ?_, ?_, fun j hj j30 j31 j48 => ?_, fun j hj => ?_, z5, rows Z z3⟩
      · rw [z1 s hs, f2 s hs]; exact y1 s hs
      · exact Rm_of_k f3 (fun j j6 j24 => z2 j (by omega) (by omega))
      · intro j j6 j25 i hi
        rw [z2 j (by omega) (by omega), f4 j j6 j25 i hi]
        exact y3 j j6 j25 i hi
      · rw [z2 j (by omega) j48]
        by_cases c28 : j = 28
        · rw [c28, F28]; exact y4 28 (by omega) (by omega) (by omega) (by omega)
        · by_cases c29 : j = 29
          · rw [c29, F29]; exact y4 29 (by omega) (by omega) (by omega) (by omega)
          · rw [f5 j hj c28 c29 j30 j31]; exact y4 j hj j30 j31 j48
      · rw [z4 j hj, F70]; exact y5 j hj
    have hall := allBlocks_m (τ := upA F 7 48 g) (v := foV v (nI P) (nI W) (nI l) tt (k + 1)) ho' f3
    have e46 : upA F 7 48 g 7 0 46 = foE v (nI P) (nI W) (nI l) tt d0 k := by rw [upA_a, if_neg (by omega), F70]; exact y6
    have e70 : upA F 7 48 g 7 0 = F 7 0 := by rw [upA_a, if_neg (by omega)]
    have lz : nI (lyB (foV v (nI P) (nI W) (nI l) tt (k + 1))) = 0 ↔ lyB (foV v (nI P) (nI W) (nI l) tt (k + 1)) = 0 := nI_inj0 (by
      have : lyB (foV v (nI P) (nI W) (nI l) tt (k + 1)) ≤ vb (foV v (nI P) (nI W) (nI l) tt (k + 1)) := cntF_le _ _
      have h3 := ho'.2.1.1
      omega)
    have step : ∃ Z : Sg, fM_foretell_115 (f + 1) Y (nI bk) (nI n) (nI (k + 1)) = fM_foretell_115 f Z (nI bk) (nI n) (nI (k + 1 + 1)) ∧ FM T v (nI P) (nI W) (nI l) tt d0 (k + 1) Z := by
      by_cases c : foE v (nI P) (nI W) (nI l) tt d0 k = -2
      · by_cases c2 : lyB (foV v (nI P) (nI W) (nI l) tt (k + 1)) = 0
        · refine ⟨upA (upA F 7 48 g) 7 0 (upd (F 7 0) 46 (nI (d0 + k))), ?_, base _ (fun s hs => by rw [upA_o _ _ _ hs, upA_o _ _ _ hs]) (fun j j0 j48 => by rw [upA_a, if_neg j0, upA_a, if_neg j48]) (by rw [upA_a, if_neg (by omega), upA_same]) (fun j hj => by rw [upA_same, upd_r, if_neg hj]) (by rw [upA_same, upd_r, if_pos rfl, foE, if_pos ⟨c, c2⟩])⟩
          simp only [fM_foretell_115, fM_foretell_115_b, q, i6, c0, gd_t, lt_v, Y6, hsel, ↓reduceIte]
          simp only [fM_foretell_144, fM_foretell_177, f1, bi_s, g0, bp_s, e46, c, hall, c2, show nI 0 = 0 from rfl, e70, lt_v, nI_1, ↓reduceIte]
        · have c2' : ¬ nI (lyB (foV v (nI P) (nI W) (nI l) tt (k + 1))) = 0 := fun z => c2 (lz.mp z)
          refine ⟨upA F 7 48 g, ?_, base _ (fun s hs => upA_o _ _ _ hs) (fun j j0 j48 => by rw [upA_a, if_neg j48]) (upA_same _ _ _ _) (fun j hj => by rw [e70]) (by rw [e46, foE, if_neg (fun z => c2 z.2)])⟩
          simp only [fM_foretell_115, fM_foretell_115_b, q, i6, c0, gd_t, lt_v, Y6, hsel, ↓reduceIte]
          simp only [fM_foretell_144, fM_foretell_177, f1, bi_s, g0, bp_s, e46, c, hall, c2', lt_v, nI_1, ↓reduceIte]
      · refine ⟨upA F 7 48 g, ?_, base _ (fun s hs => upA_o _ _ _ hs) (fun j j0 j48 => by rw [upA_a, if_neg j48]) (upA_same _ _ _ _) (fun j hj => by rw [e70]) (by rw [e46, foE, if_neg (fun z => c z.1)])⟩
        simp only [fM_foretell_115, fM_foretell_115_b, q, i6, c0, gd_t, lt_v, Y6, hsel, ↓reduceIte]
        simp only [fM_foretell_144, fM_foretell_177, f1, bi_s, g0, bp_s, e46, c, lt_v, nI_1, ↓reduceIte]
    obtain ⟨Z, z1, z2⟩ := step
    obtain ⟨Y', r1, r2⟩ := ih (k + 1) f Z (by omega) (by omega) z2
    exact ⟨Y', z1.trans r1, r2⟩
theorem Inv_mk2 {lv lv1 : Nat → Bool} {σ G : Sg} (hI : Inv lv σ) (g14 : G 6 0 14 = G 7 0 0) (g2 : G 6 2 = σ 6 2) (g3 : G 6 3 = σ 6 3) (g5 : G 6 5 = σ 6 5) (g9' : G 6 9 = σ 6 9) (g10 : G 6 10 = σ 6 10) (ga : G 6 14 = σ 6 14) (gb : G 6 15 = σ 6 15) (m345 : ∀ j, 3 ≤ j → j ≤ 5 → G 7 0 j = σ 7 0 j) (m34 : G 7 0 34 = σ 7 0 34) (m1 : G 7 1 = σ 7 1) (m2 : G 7 2 = σ 7 2) (m32 : G 7 32 = σ 7 32) (m33 : G 7 33 = σ 7 33) (m40 : G 7 40 = σ 7 40) (hH : IvHeap (G 6 4) (G 6 16) (G 6 17) (G 7 0) (G 7 49) (G 7 50)) (hL : IvList (G 6 0) (G 6 7) (G 7 0) (G 7 35)) (hT : IvSent (G 6 0) (G 7 0)) (hB : IvBook (lv1 8) (G 8 0) (G 8 1) (G 8 2) (G 7 0) (G 7 28) (G 7 29)) (hF : IvFore (lv1 9) (G 9 0) (G 9 1) (G 7 0) (G 7 48)) (hS : IvSt (G 0) (G 7)) (b12 : IvI1 (lv1 2) 0 (G 2) (G 7)) (b13 : IvI1 (lv1 3) 1 (G 3) (G 7)) (b14 : IvI1 (lv1 4) 2 (G 4) (G 7)) (b15 : IvI1 (lv1 5) 3 (G 5) (G 7)) : Inv lv1 G := by
  obtain ⟨⟨-, a2, a3, a4, -, -, -, a8⟩, -⟩ := hI
  refine ⟨⟨g14, ?_, ?_, ?_, hH, hL, hT, ?_⟩, hB, hF, hS, b12, b13, b14, b15⟩
  · rw [g2]; exact a2.of (fun _ _ => rfl) m345
  · rw [g5, m40]; exact a3
  · rw [g3, ga, gb, m32, m33]; exact a4.of m34
  · rw [g9', g10, m1, m2]; exact a8
theorem IvBook.of {b : Bool} {f fa fb m mb mw m' : Nat → Int32} (h : IvBook b f fa fb m mb mw) (h26 : m' 26 = m 26) (h27 : m' 27 = m 27) : IvBook b f fa fb m' mb mw := by
  obtain ⟨h0, h1⟩ := h
  refine ⟨fun z => ⟨h26.trans (h0 z).1, h27.trans (h0 z).2⟩, fun z => ?_⟩
  obtain ⟨n, a1, a2, a3, a4, a5, a6⟩ := h1 z
  exact ⟨n, a1, a2, h27.trans a3, a4.trans h26.symm, by rw [h26]; exact a5, a6⟩
