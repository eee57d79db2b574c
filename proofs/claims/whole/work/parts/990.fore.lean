/-! the class foretells -/
def FC (σ : Sg) (v : Vw) (pa we le : Int32) (tt : Nat → Int32) (d0 R k : Nat) (X : Sg) : Prop := (∀ s, s ≠ 1 → s ≠ 6 → s ≠ 9 → X s = σ s) ∧ (∀ j, j ≠ 11 → j ≠ 12 → j ≠ 13 → X 6 j = σ 6 j) ∧ X 1 = foV v pa we le tt k ∧ X 9 0 0 = nI k ∧ X 9 0 1 = foE v pa we le tt d0 k ∧ X 9 0 2 = nI R ∧ ∀ i, i ≤ k → X 9 1 (9 * i) = sumF (fun j => wgt (foV v pa we le tt i) (nI j)) R ∧ ∀ j, j < R → X 9 1 (9 * i + 1 + j) = wgt (foV v pa we le tt i) (nI j)
theorem foreC_loop {lv : Nat → Bool} {σ : Sg} (h1 : lv 1 = true) (h9 : lv 9 = true) {v : Vw} {P W l d0 n D bk : Nat} {tt : Nat → Int32} (hv : okStore v) (hP : P ≤ 100) (hW : W ≤ 10000) (hd : v 0 0 = nI d0) (hn : d0 + n ≤ 199) (hnD : n = D ∨ (n ≤ D ∧ d0 + n = 199)) (hD : D ≤ 200) (hbk : bk ≤ 199) (ht : ∀ k, -2048 ≤ (tt k).toInt ∧ (tt k).toInt ≤ 2048) (hcal : ∀ X : Sg, X 6 10 = σ 6 10 → ∀ k, k < n → fCalendar_tenthsOf X (nI (d0 + k - bk)) = some (tt k)) (eP : σ 6 2 0 = nI P) (eW : σ 6 2 1 = nI W) (el : σ 6 2 2 = nI l) : ∀ m k f (X : Sg), k + m = n → m < f → FC σ v (nI P) (nI W) (nI l) tt d0 (vn v) k X → ∃ X' : Sg, fI_foretell_88 lv f X (nI D) (nI bk) (nI k) = some (nI n, stI X' (nI n), lv) ∧ FC σ v (nI P) (nI W) (nI l) tt d0 (vn v) n X' := by
  have h8 := hv.1.1
  intro m
  induction m with
  | zero =>
    intro k f X hk hf hX
    obtain ⟨f, rfl⟩ : ∃ j, f = j + 1 := ⟨f - 1, by omega⟩
    have ek : k = n := by omega
    subst ek
    obtain ⟨ho, e0, -⟩ := foV_ok (l := l) hv hP hW hd hn ht k (Nat.le_refl _)
    have x1 := hX.2.2.1
    have x9 := hX.2.2.2.1
    refine ⟨X, ?_, hX⟩
    by_cases c : D ≤ k
    · have q : nI D ≤ nI k := nI_le c (by omega)
      simp only [fI_foretell_88, fI_foretell_88_b, fI_foretell_175, q, h9, gd_t, x9, fI_answer_eq, bi_s, ↓reduceIte]
    · have q : ¬ nI D ≤ nI k := nI_ge (by omega) (by omega)
      have q2 : (199 : Int32) ≤ X 1 0 0 := by rw [x1, e0]; exact nI_le (a := 199) (by omega) (by omega)
      simp only [fI_foretell_88, fI_foretell_88_b, fI_foretell_175, q, h1, h9, gd_t, q2, x9, fI_answer_eq, bi_s, ↓reduceIte]
  | succ m ih =>
    intro k f X hk hf hX
    obtain ⟨f, rfl⟩ : ∃ j, f = j + 1 := ⟨f - 1, by omega⟩
    have hkn : k < n := by omega
    obtain ⟨ho, e0, en, eb⟩ := foV_ok (l := l) hv hP hW hd hn ht k (by omega)
    obtain ⟨ho', e0', en', eb'⟩ := foV_ok (l := l) hv hP hW hd hn ht (k + 1) (by omega)
    obtain ⟨x1, x2, x3, x4, x5, x6, x7⟩ := hX
    have hDn : k < D := by omega
    have q : ¬ nI D ≤ nI k := nI_ge hDn (by omega)
    have X100 : X 1 0 0 = nI (d0 + k) := by rw [x3, e0]
    have q2 : ¬ (199 : Int32) ≤ nI (d0 + k) := nI_ge (b := 199) (by omega) (by omega)
    have hten : (if 0 ≤ nI (d0 + k) - nI bk then fI_foretell_140 lv (fun σ x1 x2 x3 => fI_foretell_88 lv f σ x1 x2 x3) X (nI D) (nI bk) (nI k) (nI (d0 + k) - nI bk) else fI_foretell_140 lv (fun σ x1 x2 x3 => fI_foretell_88 lv f σ x1 x2 x3) X (nI D) (nI bk) (nI k) 0) = fI_foretell_140 lv (fun σ x1 x2 x3 => fI_foretell_88 lv f σ x1 x2 x3) X (nI D) (nI bk) (nI k) (nI (d0 + k - bk)) := by
      by_cases c : bk ≤ d0 + k
      · rw [pk_sub c, if_pos (nI_pos' (by omega))]
      · rw [if_neg (fun z => absurd (pk_sneg (a := d0 + k) (b := bk) (by omega) (by omega)) (Int32.not_lt.mpr z)), show d0 + k - bk = 0 by omega]
        rfl
    have hcx := hcal X (x2 10 (by omega) (by omega) (by omega)) k hkn
    obtain ⟨S, s1, s2, s3⟩ := weigh_c (σ := X) (a := 1) (by omega) x3 ho (tt k)
    have e62 : X 6 2 = σ 6 2 := x2 2 (by omega) (by omega) (by omega)
    rw [e62, eP, eW] at s3
    have hLB := LB_Ls (v := foV v (nI P) (nI W) (nI l) tt k) ho hP hW (ht k).1 (ht k).2
    obtain ⟨Z, z1, z2, z3, z4⟩ := passDay_c (σ := S) (a := 1) (by omega) ((s2.1 1 (by omega)).trans x3) ho (le := nI l) hLB (by rw [s2.2 2 (by omega) (by omega) (by omega), e62]; exact el) s3
    have Z9 : Z 9 = X 9 := by rw [z2 9 (by omega) (by omega), s2.1 9 (by omega)]
    have Z1 : Z 1 = foV v (nI P) (nI W) (nI l) tt (k + 1) := z4
    -- note
    have q9 : nI k < (199 : Int32) := nI_lt (b := 199) (by omega) (by omega)
    have Z90 : Z 9 0 0 = nI k := by rw [Z9]; exact x4
    generalize hN : upA Z 9 0 (upd (Z 9 0) 0 (nI (k + 1))) = N
    have N1 : N 1 = foV v (nI P) (nI W) (nI l) tt (k + 1) := by rw [← hN, upA_o _ _ _ (by omega)]; exact Z1
    have N90 : N 9 0 = upd (Z 9 0) 0 (nI (k + 1)) := by rw [← hN, upA_same]
    have N91 : N 9 1 = X 9 1 := by rw [← hN, upA_a, if_neg (by omega), Z9]
    obtain ⟨g, g0, g1, g2, g3⟩ := row_c (X := N) N1 ho' (k := k + 1) (R := vn v) (by omega) en' (by rw [N90]; rfl) (by rw [N90]; show Z 9 0 2 = _; rw [Z9]; exact x6)
    have hall := inRooms_c (σ := upA N 9 1 g) (a := 1) ((upA_o _ _ _ (by omega)).trans N1) ho'.w
    have rows : ∀ Y : Sg, Y 9 1 = g → ∀ i, i ≤ k + 1 → Y 9 1 (9 * i) = sumF (fun j => wgt (foV v (nI P) (nI W) (nI l) tt i) (nI j)) (vn v) ∧ ∀ j, j < vn v → Y 9 1 (9 * i + 1 + j) = wgt (foV v (nI P) (nI W) (nI l) tt i) (nI j) := fun Y hY i hi => by
      rw [hY]
      by_cases c : i = k + 1
      · subst c; exact ⟨g1, g2⟩
      · obtain ⟨r1, r2⟩ := x7 i (by omega)
        refine ⟨by rw [g3 _ (by omega), N91]; exact r1, fun j hj => ?_⟩
        rw [g3 _ (by omega), N91]
        exact r2 j hj
    have base : ∀ Y : Sg, (∀ s, s ≠ 9 → Y s = N s) → Y 9 1 = g → Y 9 0 0 = nI (k + 1) → Y 9 0 2 = nI (vn v) → Y 9 0 1 = foE v (nI P) (nI W) (nI l) tt d0 (k + 1) → FC σ v (nI P) (nI W) (nI l) tt d0 (vn v) (k + 1) Y := by
      intro Y y1 y2 y3 y4 y5
      have NZ : ∀ s, s ≠ 9 → N s = Z s := fun s hs => by rw [← hN, upA_o _ _ _ hs]
      refine ⟨fun s a1 a6 a9 => ?_, fun j a11 a12 a13 => ?_, ?_, y3, y5, y4, rows Y y2⟩
      · rw [y1 s a9, NZ s a9, z2 s a6 a1, s2.1 s a6]; exact x1 s a1 a6 a9
      · rw [y1 6 (by omega), NZ 6 (by omega), z3 j a11, s2.2 j a11 a12 a13]; exact x2 j a11 a12 a13
      · rw [y1 1 (by omega)]; exact N1
    have hnote : ∃ Y : Sg, fForecast_note Z 1 = some Y ∧ FC σ v (nI P) (nI W) (nI l) tt d0 (vn v) (k + 1) Y := by
      have eu : upA N 9 1 g 9 0 = upd (Z 9 0) 0 (nI (k + 1)) := by rw [upA_a, if_neg (by omega)]; exact N90
      have e91 : upA N 9 1 g 9 0 1 = foE v (nI P) (nI W) (nI l) tt d0 k := by rw [eu]; show Z 9 0 1 = _; rw [Z9]; exact x5
      have eday : upA N 9 1 g 1 0 0 - 1 = nI (d0 + k) := by
        rw [upA_o _ _ _ (by omega), N1, e0', show d0 + (k + 1) = d0 + k + 1 by omega]
        exact nI_pred _
      have lz : nI (lyB (foV v (nI P) (nI W) (nI l) tt (k + 1))) = 0 ↔ lyB (foV v (nI P) (nI W) (nI l) tt (k + 1)) = 0 := nI_inj0 (by
        have : lyB (foV v (nI P) (nI W) (nI l) tt (k + 1)) ≤ vb (foV v (nI P) (nI W) (nI l) tt (k + 1)) := cntF_le _ _
        have h3 := ho'.2.1.1
        omega)
      by_cases c : foE v (nI P) (nI W) (nI l) tt d0 k = -2
      · by_cases c2 : lyB (foV v (nI P) (nI W) (nI l) tt (k + 1)) = 0
        · refine ⟨upA (upA N 9 1 g) 9 0 (upd (upd (Z 9 0) 0 (nI (k + 1))) 1 (nI (d0 + k))), ?_, base _ (fun s hs => by rw [upA_o _ _ _ hs, upA_o _ _ _ hs]) (by rw [upA_a, if_neg (by omega), upA_same]) (by rw [upA_same]; rfl) (by rw [upA_same]; show Z 9 0 2 = _; rw [Z9]; exact x6) (by rw [upA_same, foE, if_pos ⟨c, c2⟩]; rfl)⟩
          simp only [fForecast_note, fForecast_note_0, Z90, q9, lt_v, nI_1, hN, g0, bp_s, e91, c, hall, c2, show nI 0 = 0 from rfl, eu, eday, ↓reduceIte]
        · refine ⟨upA N 9 1 g, ?_, base _ (fun s hs => upA_o _ _ _ hs) (upA_same _ _ _ _) (by rw [eu]; rfl) (by rw [eu]; show Z 9 0 2 = _; rw [Z9]; exact x6) (by rw [e91, foE, if_neg (fun z => c2 z.2)])⟩
          have c2' : ¬ nI (lyB (foV v (nI P) (nI W) (nI l) tt (k + 1))) = 0 := fun z => c2 (lz.mp z)
          simp only [fForecast_note, fForecast_note_0, Z90, q9, lt_v, nI_1, hN, g0, bp_s, e91, c, hall, c2', ↓reduceIte]
      · refine ⟨upA N 9 1 g, ?_, base _ (fun s hs => upA_o _ _ _ hs) (upA_same _ _ _ _) (by rw [eu]; rfl) (by rw [eu]; show Z 9 0 2 = _; rw [Z9]; exact x6) (by rw [e91, foE, if_neg (fun z => c z.1)])⟩
        simp only [fForecast_note, fForecast_note_0, Z90, q9, lt_v, nI_1, hN, g0, bp_s, e91, c, ↓reduceIte]
    obtain ⟨Y, y1, y2⟩ := hnote
    obtain ⟨X', r1, r2⟩ := ih (k + 1) f Y (by omega) (by omega) y2
    refine ⟨X', ?_, r2⟩
    rw [← r1]
    simp only [fI_foretell_88, fI_foretell_88_b, q, h1, gd_t, X100, q2, lt_v, hten, ↓reduceIte]
    simp only [fI_foretell_140, hcx, s1, h1, h9, gd_t, z1, y1, bp_s, bi_s, lt_v, nI_1]
