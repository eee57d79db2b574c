/-! what a block comes to at the way's end: on both sides -/
def wyS (K t : Int32) (rt l g : Nat) : Nat := if 6 * rt * (wk K t).toNatClampNeg ≤ g ∧ l ≤ g - 6 * rt * (wk K t).toNatClampNeg then g - 6 * rt * (wk K t).toNatClampNeg else 0
theorem wyS_le (K t : Int32) (rt l g : Nat) : wyS K t rt l g ≤ g := by
  unfold wyS
  split <;> omega
def wIn (K : Int32) (rt l : Nat) (tt : Nat → Int32) : Nat → Nat → Nat → Nat
  | 0, _, g => g
  | m + 1, dd, g => wIn K rt l tt m (dd + 1) (wyS K (tt dd) rt l g)
theorem wIn_le (K : Int32) (rt l : Nat) (tt : Nat → Int32) : ∀ m dd g, wIn K rt l tt m dd g ≤ g
  | 0, _, _ => Nat.le_refl _
  | m + 1, dd, g => Nat.le_trans (wIn_le K rt l tt m (dd + 1) _) (wyS_le _ _ _ _ _)
def wOut (Ks : Nat → Int32) (Ds : Nat → Nat) (rt l : Nat) (tt : Nat → Int32) : Nat → Nat → Nat → Nat → Nat
  | 0, _, _, g => g
  | m + 1, i, dd, g => wOut Ks Ds rt l tt m (i + 1) (dd + Ds i) (wIn (Ks i) rt l tt (Ds i) dd g)
/-- the loss of a day on the way, as both count it -/
theorem way_step {K t : Int32} (h1 : -2048 ≤ t.toInt) (h2 : t.toInt ≤ 2048) {rt l g : Nat} (hrt : rt = 5 ∨ rt = 3) (hl : 1 ≤ l) (hl2 : l ≤ 1000000) (hg : g ≤ 1000000) : (wk K t ≤ 0 → (wk K t).toNatClampNeg = 0) ∧ (¬ wk K t ≤ 0 → nI 6 * nI rt * wk K t = nI (6 * rt * (wk K t).toNatClampNeg) ∧ nI 6 * wk K t * nI rt = nI (6 * rt * (wk K t).toNatClampNeg)) ∧ (nI l ≤ nI g - (if nI g < nI (6 * rt * (wk K t).toNatClampNeg) then nI g else nI (6 * rt * (wk K t).toNatClampNeg)) → nI g - (if nI g < nI (6 * rt * (wk K t).toNatClampNeg) then nI g else nI (6 * rt * (wk K t).toNatClampNeg)) = nI (wyS K t rt l g)) ∧ (¬ nI l ≤ nI g - (if nI g < nI (6 * rt * (wk K t).toNatClampNeg) then nI g else nI (6 * rt * (wk K t).toNatClampNeg)) → wyS K t rt l g = 0) ∧ (nI l ≤ nI g - nI (6 * rt * (wk K t).toNatClampNeg) → nI g - nI (6 * rt * (wk K t).toNatClampNeg) = nI (wyS K t rt l g)) ∧ (¬ nI l ≤ nI g - nI (6 * rt * (wk K t).toNatClampNeg) → wyS K t rt l g = 0) := by
  obtain ⟨k1, k2⟩ := wk_rng (k := K) h1 h2
  generalize hw : wk K t = w at *
  have hwn : w.toNatClampNeg ≤ 2200 := by
    rw [Int32.toNatClampNeg]
    omega
  generalize hL : 6 * rt * w.toNatClampNeg = L
  have hL6 : L ≤ 66000 := by
    rw [← hL]
    have : 6 * rt * w.toNatClampNeg ≤ 30 * 2200 := Nat.mul_le_mul (by omega) hwn
    omega
  have eS : wyS K t rt l g = if L ≤ g ∧ l ≤ g - L then g - L else 0 := by unfold wyS; rw [hw, hL]
  refine ⟨fun z => ?_, fun z => ?_, fun z => ?_, fun z => ?_, fun z => ?_, fun z => ?_⟩
  · have := Int32.le_iff_toInt_le.mp z
    have e0 : (0 : Int32).toInt = 0 := by decide
    rw [Int32.toNatClampNeg]
    omega
  · obtain ⟨n, hn, rfl⟩ := nI_of (x := w) (fun y => z (Int32.le_of_lt y))
    rw [nI_clamp hn] at hL
    rw [pk_mul, pk_mul, pk_mul, pk_mul, hL, ← hL]
    exact ⟨rfl, by congr 1; rw [Nat.mul_assoc, Nat.mul_assoc, Nat.mul_comm n rt]⟩
  · rw [eS]
    by_cases c : L ≤ g
    · rw [if_neg (nI_nlt c (by omega))] at z ⊢
      rw [pk_sub c] at z ⊢
      rw [if_pos ⟨c, (nI_leI (by omega) (by omega)).mp z⟩]
    · rw [if_pos (nI_lt (by omega) (by omega)), pk_sub (Nat.le_refl g), Nat.sub_self] at z
      exact absurd z (nI_ge (by omega) (by omega))
  · rw [eS]
    by_cases c : L ≤ g
    · rw [if_neg (nI_nlt c (by omega)), pk_sub c] at z
      rw [if_neg (fun y => z (nI_le y.2 (by omega)))]
    · rw [if_neg (fun y => c y.1)]
  · rw [eS]
    by_cases c : L ≤ g
    · rw [pk_sub c] at z ⊢
      rw [if_pos ⟨c, (nI_leI (by omega) (by omega)).mp z⟩]
    · have hneg := pk_sneg (a := g) (b := L) (by omega) (by omega)
      exact absurd (Int32.lt_of_le_of_lt z hneg) (nI_pos (by omega))
  · rw [eS]
    by_cases c : L ≤ g
    · rw [pk_sub c] at z
      rw [if_neg (fun y => z (nI_le y.2 (by omega)))]
    · rw [if_neg (fun y => c y.1)]
def mn9 (dd : Nat) : Nat := if dd ≤ 199 then dd else 199
theorem tenths_far {X : Sg} {dd : Nat} (hd : dd < 2 ^ 30) : fCalendar_tenthsOf X (nI dd) = some (X 6 10 (mn9 dd)) := by
  unfold mn9
  by_cases c : dd ≤ 199
  · rw [if_pos c]; exact c_tenths X (by omega)
  · rw [if_neg c]
    have w : wi (nI dd) 0 199 = 0 := by
      unfold wi
      rw [if_neg (nI_pos (by omega))]
      have : (199 : Int32) < nI dd := nI_lt (a := 199) (by omega) (by omega)
      rw [if_pos this]
    have i199 : ib 199 200 = true := by decide
    have n199 : (199 : Int32).toNatClampNeg = 199 := by decide
    simp only [fCalendar_tenthsOf, fCalendar_tenthsOf_0, fI_within_eq, w, bp_s, i199, n199, gd_t, ↓reduceIte]
section Way
variable {S l : Nat} {Ds : Nat → Nat} {tt : Nat → Int32} {rt : Nat} {kd : Int32}
theorem leaves_in {X : Sg} {k9 : Int32 → Int32 → Int32 → Int32 → Int32 → Option Int32} (hrt : rt = if kd = 2 then 5 else 3) (hl : 1 ≤ l) (hl2 : l ≤ 1000000) (htt : ∀ dd, dd < 2 ^ 30 → X 6 10 (mn9 dd) = tt dd) (hrng : ∀ dd, -2048 ≤ (tt dd).toInt ∧ (tt dd).toInt ≤ 2048) {i : Nat} (hi : i < 6) (hD : X 6 15 i = nI (Ds i)) (hD20 : Ds i ≤ 20) : ∀ m j f dd g, j + m = Ds i → m < f → dd + m < 2 ^ 30 → g ≤ 1000000 → fJourney_leaves_21 k9 f X kd (nI l) (nI g) (nI dd) (nI i) (nI j) = k9 kd (nI l) (nI (wIn (X 6 14 i) rt l tt m dd g)) (nI (dd + m)) (nI (i + 1)) := by
  have hib : ib (nI i) 6 = true := ib_nI hi (by decide)
  have hcl : (nI i).toNatClampNeg = i := nI_clamp (by omega)
  have hr53 : rt = 5 ∨ rt = 3 := by rw [hrt]; split <;> omega
  have erate : fI_rateOf X kd = some (nI rt) := by
    unfold fI_rateOf fI_rateOf_0
    rw [hrt]
    split <;> rfl
  intro m
  induction m with
  | zero =>
    intro j f dd g hj hf hdd hg
    obtain ⟨f, rfl⟩ : ∃ k, f = k + 1 := ⟨f - 1, by omega⟩
    have ej : j = Ds i := by omega
    have q : nI (Ds i) ≤ nI j := nI_le (by omega) (by omega)
    simp only [fJourney_leaves_21, fJourney_leaves_21_b, hib, hcl, gd_t, hD, q, lt_v, nI_1, ↓reduceIte, wIn, Nat.add_zero]
  | succ m ih =>
    intro j f dd g hj hf hdd hg
    obtain ⟨f, rfl⟩ : ∃ k, f = k + 1 := ⟨f - 1, by omega⟩
    have q : ¬ nI (Ds i) ≤ nI j := nI_ge (by omega) (by omega)
    obtain ⟨r1, r2⟩ := hrng dd
    obtain ⟨s1, s2, s3, s4, -, -⟩ := way_step (K := X 6 14 i) r1 r2 (rt := rt) (l := l) (g := g) hr53 hl hl2 hg
    have hwl := wyS_le (X 6 14 i) (tt dd) rt l g
    have ht : fCalendar_tenthsOf X (nI dd) = some (tt dd) := by rw [tenths_far (by omega), htt dd (by omega)]
    have tail : fJourney_leaves_71 (fun x1 x5 x6 x7 x8 x9 => fJourney_leaves_21 k9 f X x1 x5 x6 x7 x8 x9) X kd (nI l) (nI g) (nI dd) (nI i) (nI j) (nI (6 * rt * (wk (X 6 14 i) (tt dd)).toNatClampNeg)) = fJourney_leaves_21 k9 f X kd (nI l) (nI (wyS (X 6 14 i) (tt dd) rt l g)) (nI (dd + 1)) (nI i) (nI (j + 1)) := by
      by_cases c : nI l ≤ nI g - (if nI g < nI (6 * rt * (wk (X 6 14 i) (tt dd)).toNatClampNeg) then nI g else nI (6 * rt * (wk (X 6 14 i) (tt dd)).toNatClampNeg))
      · have e := s3 c
        rw [e] at c
        simp only [fJourney_leaves_71, fJourney_leaves_95, lt_v, e, c, nI_1, ↓reduceIte]
      · have e := s4 c
        simp only [fJourney_leaves_71, fJourney_leaves_95, lt_v, c, nI_1, ↓reduceIte, e]
        rfl
    have := ih (j + 1) f (dd + 1) (wyS (X 6 14 i) (tt dd) rt l g) (by omega) (by omega) (by omega) (by omega)
    rw [show dd + (m + 1) = dd + 1 + m by omega]
    unfold wIn
    rw [← this, ← tail]
    by_cases cw : wk (X 6 14 i) (tt dd) ≤ 0
    · have e0 := s1 cw
      simp only [fJourney_leaves_21, fJourney_leaves_21_b, hib, hcl, gd_t, hD, q, ht, bp_s, wk_c, cw, ↓reduceIte, e0, Nat.mul_zero]
      rfl
    · obtain ⟨e1, -⟩ := s2 cw
      have e1 : 6 * nI rt * wk (X 6 14 i) (tt dd) = nI (6 * rt * (wk (X 6 14 i) (tt dd)).toNatClampNeg) := e1
      simp only [fJourney_leaves_21, fJourney_leaves_21_b, hib, hcl, gd_t, hD, q, ht, bp_s, wk_c, cw, erate, e1, ↓reduceIte]
theorem leaves_out {X : Sg} (hrt : rt = if kd = 2 then 5 else 3) (hl : 1 ≤ l) (hl2 : l ≤ 1000000) (htt : ∀ dd, dd < 2 ^ 30 → X 6 10 (mn9 dd) = tt dd) (hrng : ∀ dd, -2048 ≤ (tt dd).toInt ∧ (tt dd).toInt ≤ 2048) (hS : S ≤ 6) (eS : X 6 3 0 = nI S) (hD : ∀ i, i < S → X 6 15 i = nI (Ds i) ∧ Ds i ≤ 20) : ∀ m i f dd g, i + m = S → m < f → dd + 20 * m < 2 ^ 29 → g ≤ 1000000 → fJourney_leaves_9 f X kd (nI l) (nI g) (nI dd) (nI i) = some (nI (wOut (X 6 14) Ds rt l tt m i dd g)) := by
  intro m
  induction m with
  | zero =>
    intro i f dd g hi hf hdd hg
    obtain ⟨f, rfl⟩ : ∃ k, f = k + 1 := ⟨f - 1, by omega⟩
    have q : nI S ≤ nI i := nI_le (by omega) (by omega)
    simp only [fJourney_leaves_9, fJourney_leaves_9_b, eS, q, ↓reduceIte, wOut]
  | succ m ih =>
    intro i f dd g hi hf hdd hg
    obtain ⟨f, rfl⟩ : ∃ k, f = k + 1 := ⟨f - 1, by omega⟩
    have q : ¬ nI S ≤ nI i := nI_ge (by omega) (by omega)
    obtain ⟨d1, d2⟩ := hD i (by omega)
    have hin := leaves_in (X := X) (k9 := fun x1 x5 x6 x7 x8 => fJourney_leaves_9 f X x1 x5 x6 x7 x8) hrt hl hl2 htt hrng (show i < 6 by omega) d1 d2 (Ds i) 0 FU dd g (by omega) (by unfold FU; omega) (by omega) hg
    have hwl := wIn_le (X 6 14 i) rt l tt (Ds i) dd g
    have := ih (i + 1) f (dd + Ds i) (wIn (X 6 14 i) rt l tt (Ds i) dd g) (by omega) (by omega) (by omega) (by omega)
    unfold wOut
    rw [← this, ← hin]
    simp only [fJourney_leaves_9, fJourney_leaves_9_b, eS, q, ↓reduceIte]
    rfl
theorem comeOf_in {Y : Sg} {b : Nat} {k17 : Int32 → Int32 → Int32 → Int32 → Option Int32} (hb : b < 300) (ekd : Y 7 19 b = kd) (hrt : rt = if kd = 2 then 5 else 3) (hl : 1 ≤ l) (hl2 : l ≤ 1000000) (el : Y 7 0 5 = nI l) (htt : ∀ dd, dd < 2 ^ 30 → fM_tenthsOf Y (nI (mn9 dd)) = some (tt dd)) (hrng : ∀ dd, -2048 ≤ (tt dd).toInt ∧ (tt dd).toInt ≤ 2048) {i : Nat} (hi : i < 6) (hD : Y 7 33 i = nI (Ds i)) (hD20 : Ds i ≤ 20) : ∀ m j f dd g, j + m = Ds i → m < f → dd + m < 2 ^ 30 → g ≤ 1000000 → fM_comeOf_29 k17 f Y (nI b) (nI g) (nI dd) (nI i) (nI j) = k17 (nI b) (nI (wIn (Y 7 32 i) rt l tt m dd g)) (nI (dd + m)) (nI (i + 1)) := by
  have hib : ib (nI i) 6 = true := ib_nI hi (by decide)
  have hcl : (nI i).toNatClampNeg = i := nI_clamp (by omega)
  have hib2 : ib (nI b) 1800 = true := ib_nI (by omega) (by decide)
  have hcl2 : (nI b).toNatClampNeg = b := nI_clamp (by omega)
  have hr53 : rt = 5 ∨ rt = 3 := by rw [hrt]; split <;> omega
  intro m
  induction m with
  | zero =>
    intro j f dd g hj hf hdd hg
    obtain ⟨f, rfl⟩ : ∃ k, f = k + 1 := ⟨f - 1, by omega⟩
    have ej : j = Ds i := by omega
    have q : nI (Ds i) ≤ nI j := nI_le (by omega) (by omega)
    simp only [fM_comeOf_29, fM_comeOf_29_b, hib, hcl, gd_t, hD, q, lt_v, nI_1, ↓reduceIte, wIn, Nat.add_zero]
  | succ m ih =>
    intro j f dd g hj hf hdd hg
    obtain ⟨f, rfl⟩ : ∃ k, f = k + 1 := ⟨f - 1, by omega⟩
    have q : ¬ nI (Ds i) ≤ nI j := nI_ge (by omega) (by omega)
    obtain ⟨r1, r2⟩ := hrng dd
    obtain ⟨s1, s2, -, -, s3, s4⟩ := way_step (K := Y 7 32 i) r1 r2 (rt := rt) (l := l) (g := g) hr53 hl hl2 hg
    have hwl := wyS_le (Y 7 32 i) (tt dd) rt l g
    have ht := wk_m (htt dd (by omega)) (Y 7 32 i)
    have tail : fM_comeOf_99 (fun x1 x2 x3 x4 x5 => fM_comeOf_29 k17 f Y x1 x2 x3 x4 x5) Y (nI b) (nI dd) (nI i) (nI j) (nI (6 * rt * (wk (Y 7 32 i) (tt dd)).toNatClampNeg)) (nI g) = fM_comeOf_29 k17 f Y (nI b) (nI (wyS (Y 7 32 i) (tt dd) rt l g)) (nI (dd + 1)) (nI i) (nI (j + 1)) := by
      by_cases c : nI l ≤ nI g - nI (6 * rt * (wk (Y 7 32 i) (tt dd)).toNatClampNeg)
      · have e := s3 c
        rw [e] at c
        simp only [fM_comeOf_99, fM_comeOf_114, lt_v, el, e, c, nI_1, ↓reduceIte]
      · have e := s4 c
        simp only [fM_comeOf_99, fM_comeOf_114, lt_v, el, c, nI_1, ↓reduceIte, e]
        rfl
    have sel : (if 199 ≤ nI dd then fM_comeOf_63 (fun x1 x2 x3 x4 x5 => fM_comeOf_29 k17 f Y x1 x2 x3 x4 x5) Y (nI b) (nI g) (nI dd) (nI i) (nI j) 199 (Y 7 32 i) else fM_comeOf_63 (fun x1 x2 x3 x4 x5 => fM_comeOf_29 k17 f Y x1 x2 x3 x4 x5) Y (nI b) (nI g) (nI dd) (nI i) (nI j) (nI dd) (Y 7 32 i)) = fM_comeOf_63 (fun x1 x2 x3 x4 x5 => fM_comeOf_29 k17 f Y x1 x2 x3 x4 x5) Y (nI b) (nI g) (nI dd) (nI i) (nI j) (nI (mn9 dd)) (Y 7 32 i) := by
      by_cases c : 199 ≤ dd
      · have c' : (199 : Int32) ≤ nI dd := nI_le (a := 199) c (by omega)
        have em : mn9 dd = 199 := by unfold mn9; split <;> omega
        rw [if_pos c', em]
        rfl
      · have c' : ¬ (199 : Int32) ≤ nI dd := nI_ge (b := 199) (by omega) (by omega)
        have em : mn9 dd = dd := by unfold mn9; split <;> omega
        rw [if_neg c', em]
    have h63 : fM_comeOf_63 (fun x1 x2 x3 x4 x5 => fM_comeOf_29 k17 f Y x1 x2 x3 x4 x5) Y (nI b) (nI g) (nI dd) (nI i) (nI j) (nI (mn9 dd)) (Y 7 32 i) = fM_comeOf_99 (fun x1 x2 x3 x4 x5 => fM_comeOf_29 k17 f Y x1 x2 x3 x4 x5) Y (nI b) (nI dd) (nI i) (nI j) (nI (6 * rt * (wk (Y 7 32 i) (tt dd)).toNatClampNeg)) (nI g) := by
      by_cases cw : wk (Y 7 32 i) (tt dd) ≤ 0
      · have e0 := s1 cw
        simp only [fM_comeOf_63, ht, bp_s, cw, ↓reduceIte, e0, Nat.mul_zero]
        rfl
      · obtain ⟨-, e1⟩ := s2 cw
        by_cases c2 : kd = 2
        · rw [if_pos c2] at hrt
          subst hrt
          have e1 : 6 * wk (Y 7 32 i) (tt dd) * 5 = nI (6 * 5 * (wk (Y 7 32 i) (tt dd)).toNatClampNeg) := e1
          simp only [fM_comeOf_63, fM_comeOf_94, ht, bp_s, cw, hib2, hcl2, gd_t, ekd, c2, e1, ↓reduceIte]
        · rw [if_neg c2] at hrt
          subst hrt
          have e1 : 6 * wk (Y 7 32 i) (tt dd) * 3 = nI (6 * 3 * (wk (Y 7 32 i) (tt dd)).toNatClampNeg) := e1
          simp only [fM_comeOf_63, fM_comeOf_94, ht, bp_s, cw, hib2, hcl2, gd_t, ekd, c2, e1, ↓reduceIte]
    have := ih (j + 1) f (dd + 1) (wyS (Y 7 32 i) (tt dd) rt l g) (by omega) (by omega) (by omega) (by omega)
    rw [show dd + (m + 1) = dd + 1 + m by omega]
    unfold wIn
    rw [← this, ← tail, ← h63, ← sel]
    simp only [fM_comeOf_29, fM_comeOf_29_b, hib, hcl, gd_t, hD, q, ↓reduceIte]
theorem comeOf_out {Y : Sg} {b : Nat} (hb : b < 300) (ekd : Y 7 19 b = kd) (hrt : rt = if kd = 2 then 5 else 3) (hl : 1 ≤ l) (hl2 : l ≤ 1000000) (el : Y 7 0 5 = nI l) (htt : ∀ dd, dd < 2 ^ 30 → fM_tenthsOf Y (nI (mn9 dd)) = some (tt dd)) (hrng : ∀ dd, -2048 ≤ (tt dd).toInt ∧ (tt dd).toInt ≤ 2048) (hS : S ≤ 6) (eS : Y 7 0 34 = nI S) (hD : ∀ i, i < S → Y 7 33 i = nI (Ds i) ∧ Ds i ≤ 20) : ∀ m i f dd g, i + m = S → m < f → dd + 20 * m < 2 ^ 29 → g ≤ 1000000 → fM_comeOf_17 f Y (nI b) (nI g) (nI dd) (nI i) = some (nI (wOut (Y 7 32) Ds rt l tt m i dd g)) := by
  intro m
  induction m with
  | zero =>
    intro i f dd g hi hf hdd hg
    obtain ⟨f, rfl⟩ : ∃ k, f = k + 1 := ⟨f - 1, by omega⟩
    have q : nI S ≤ nI i := nI_le (by omega) (by omega)
    simp only [fM_comeOf_17, fM_comeOf_17_b, eS, q, ↓reduceIte, wOut]
  | succ m ih =>
    intro i f dd g hi hf hdd hg
    obtain ⟨f, rfl⟩ : ∃ k, f = k + 1 := ⟨f - 1, by omega⟩
    have q : ¬ nI S ≤ nI i := nI_ge (by omega) (by omega)
    obtain ⟨d1, d2⟩ := hD i (by omega)
    have hin := comeOf_in (Y := Y) (k17 := fun x1 x2 x3 x4 => fM_comeOf_17 f Y x1 x2 x3 x4) hb ekd hrt hl hl2 el htt hrng (show i < 6 by omega) d1 d2 (Ds i) 0 FU dd g (by omega) (by unfold FU; omega) (by omega) hg
    have hwl := wIn_le (Y 7 32 i) rt l tt (Ds i) dd g
    have := ih (i + 1) f (dd + Ds i) (wIn (Y 7 32 i) rt l tt (Ds i) dd g) (by omega) (by omega) (by omega) (by omega)
    unfold wOut
    rw [← this, ← hin]
    simp only [fM_comeOf_17, fM_comeOf_17_b, eS, q, ↓reduceIte]
    rfl
end Way
theorem wOut_cong {Ks Ks' : Nat → Int32} {Ds : Nat → Nat} {rt l : Nat} {tt : Nat → Int32} : ∀ m i dd g, (∀ j, i ≤ j → j < i + m → Ks j = Ks' j) → wOut Ks Ds rt l tt m i dd g = wOut Ks' Ds rt l tt m i dd g
  | 0, _, _, _, _ => rfl
  | m + 1, i, dd, g, h => by
    unfold wOut
    rw [h i (by omega) (by omega)]
    exact wOut_cong m (i + 1) _ _ (fun j h1 h2 => h j (by omega) (by omega))
