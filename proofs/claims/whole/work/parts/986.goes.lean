/-! lines of the book -/
def wl (f : Nat → Int32) (k : Nat) (x0 x1 x2 x3 x4 x5 : Int32) : Nat → Int32 := upd (upd (upd (upd (upd (upd f k x0) (k + 1) x1) (k + 2) x2) (k + 3) x3) (k + 4) x4) (k + 5) x5
def lf (le x : Int32) : Int32 := if le ≤ x then x else 0
def clB (L : Nat → Int32) (i : Nat) : Nat := cntF (fun b => !decide (L b ≤ 0)) i
def lnA (v : Vw) (L : Nat → Int32) (le : Int32) (b : Nat) (f : Nat → Int32) (k : Nat) : Nat → Int32 := wl f k (nI b) (v 18 b) (v 19 b) (v 17 b) (L b) (lf le (v 17 b - L b))
def bkF (v : Vw) (L : Nat → Int32) (le : Int32) : Nat → (Nat → Int32) → (Nat → Int32)
  | 0, f => f
  | i + 1, f => if L i ≤ 0 then bkF v L le i f else lnA v L le i (bkF v L le i f) (6 * clB L i)
theorem wline_step {S : Sg} {k j : Nat} (n : Nat) (hk : k + 6 ≤ 1800) (hj : j < 6) : fM_writesLine_85 (n + 1) S (nI k) (nI j) = fM_writesLine_85 n (upA S 7 29 (upd (S 7 29) (k + j) (S 7 28 (k + j)))) (nI k) (nI (j + 1)) := by
  have q : ¬ (6 : Int32) ≤ nI j := nI_ge (b := 6) (by omega) (by decide)
  have hib : ib (nI (k + j)) 1800 = true := ib_nI (by omega) (by decide)
  have hcl : (nI (k + j)).toNatClampNeg = k + j := nI_clamp (by omega)
  simp only [fM_writesLine_85, fM_writesLine_85_b, q, nI_add, hib, hcl, gd_t, lt_v, nI_1, ↓reduceIte]
theorem wline_eq {S : Sg} {c b : Nat} (hc : c < 300) (hb : b < 300) (e27 : S 7 0 27 = nI c) {x1 x2 x3 : Int32} (e1 : S 7 21 b = x1) (e2 : S 7 22 b = x2) (e3 : S 7 20 b = x3) (x4 x5 : Int32) : ∃ S' : Sg, fM_writesLine S (nI b) x4 x5 = some S' ∧ (∀ s, s ≠ 7 → S' s = S s) ∧ (∀ k, k ≠ 0 → k ≠ 28 → k ≠ 29 → S' 7 k = S 7 k) ∧ S' 7 0 = upd (S 7 0) 27 (nI (c + 1)) ∧ S' 7 28 = wl (S 7 28) (6 * c) (nI b) x1 x2 x3 x4 x5 ∧ S' 7 29 = wl (S 7 29) (6 * c) (nI b) x1 x2 x3 x4 x5 := by
  have hib : ib (nI b) 1800 = true := ib_nI (by omega) (by decide)
  have hcl : (nI b).toNatClampNeg = b := nI_clamp (by omega)
  have x6 : 6 * nI c = nI (6 * c) := pk_mul 6 c
  have y0 : ib (nI (6 * c)) 1800 = true := ib_nI (by omega) (by decide)
  have z0 : (nI (6 * c)).toNatClampNeg = 6 * c := nI_clamp (by omega)
  have y1 : ib (nI (6 * c) + 1) 1800 = true := by rw [nI_1]; exact ib_nI (by omega) (by decide)
  have z1 : (nI (6 * c) + 1).toNatClampNeg = 6 * c + 1 := by rw [nI_1]; exact nI_clamp (by omega)
  have w2 : nI (6 * c) + 2 = nI (6 * c + 2) := nI_add (6 * c) 2
  have w3 : nI (6 * c) + 3 = nI (6 * c + 3) := nI_add (6 * c) 3
  have w4 : nI (6 * c) + 4 = nI (6 * c + 4) := nI_add (6 * c) 4
  have w5 : nI (6 * c) + 5 = nI (6 * c + 5) := nI_add (6 * c) 5
  have y2 : ib (nI (6 * c + 2)) 1800 = true := ib_nI (by omega) (by decide)
  have y3 : ib (nI (6 * c + 3)) 1800 = true := ib_nI (by omega) (by decide)
  have y4 : ib (nI (6 * c + 4)) 1800 = true := ib_nI (by omega) (by decide)
  have y5 : ib (nI (6 * c + 5)) 1800 = true := ib_nI (by omega) (by decide)
  have z2 : (nI (6 * c + 2)).toNatClampNeg = 6 * c + 2 := nI_clamp (by omega)
  have z3 : (nI (6 * c + 3)).toNatClampNeg = 6 * c + 3 := nI_clamp (by omega)
  have z4 : (nI (6 * c + 4)).toNatClampNeg = 6 * c + 4 := nI_clamp (by omega)
  have z5 : (nI (6 * c + 5)).toNatClampNeg = 6 * c + 5 := nI_clamp (by omega)
  have step1 : fM_writesLine S (nI b) x4 x5 = fM_writesLine_85 FU (upA S 7 28 (wl (S 7 28) (6 * c) (nI b) x1 x2 x3 x4 x5)) (nI (6 * c)) 0 := by
    simp only [fM_writesLine, fM_writesLine_0, e27, x6, lt_v, hib, hcl, y0, z0, y1, z1, w2, w3, w4, w5, y2, y3, y4, y5, z2, z3, z4, z5, gd_t, upA_upA, upA_a, show ¬ (21 : Nat) = 28 by omega, show ¬ (22 : Nat) = 28 by omega, show ¬ (20 : Nat) = 28 by omega, e1, e2, e3, ↓reduceIte, wl]
  obtain ⟨n, hn⟩ : ∃ n, FU = n + 7 := ⟨FU - 7, by unfold FU; omega⟩
  have e28 : ∀ f : Nat → Int32, ∀ T : Sg, upA T 7 29 f 7 28 = T 7 28 := fun f T => by rw [upA_a, if_neg (by omega)]
  have h0 : ∀ T : Sg, T 7 28 = wl (S 7 28) (6 * c) (nI b) x1 x2 x3 x4 x5 → T 7 28 (6 * c) = nI b ∧ T 7 28 (6 * c + 1) = x1 ∧ T 7 28 (6 * c + 2) = x2 ∧ T 7 28 (6 * c + 3) = x3 ∧ T 7 28 (6 * c + 4) = x4 ∧ T 7 28 (6 * c + 5) = x5 := fun T h => by
    rw [h]
    unfold wl upd
    refine ⟨?_, ?_, ?_, ?_, ?_, ?_⟩
    · rw [if_neg (by omega), if_neg (by omega), if_neg (by omega), if_neg (by omega), if_neg (by omega), if_pos rfl]
    · rw [if_neg (by omega), if_neg (by omega), if_neg (by omega), if_neg (by omega), if_pos rfl]
    · rw [if_neg (by omega), if_neg (by omega), if_neg (by omega), if_pos rfl]
    · rw [if_neg (by omega), if_neg (by omega), if_pos rfl]
    · rw [if_neg (by omega), if_pos rfl]
    · rw [if_pos rfl]
  have step2 : fM_writesLine_85 FU (upA S 7 28 (wl (S 7 28) (6 * c) (nI b) x1 x2 x3 x4 x5)) (nI (6 * c)) 0 = fM_writesLine_85 (n + 1) (upA (upA S 7 28 (wl (S 7 28) (6 * c) (nI b) x1 x2 x3 x4 x5)) 7 29 (wl (S 7 29) (6 * c) (nI b) x1 x2 x3 x4 x5)) (nI (6 * c)) (nI 6) := by
    obtain ⟨g0, g1, g2, g3, g4, g5⟩ := h0 (upA S 7 28 (wl (S 7 28) (6 * c) (nI b) x1 x2 x3 x4 x5)) (by rw [upA_a, if_pos rfl])
    have e29 : upA S 7 28 (wl (S 7 28) (6 * c) (nI b) x1 x2 x3 x4 x5) 7 29 = S 7 29 := by rw [upA_a, if_neg (by omega)]
    rw [hn, show (0 : Int32) = nI 0 from rfl, wline_step _ (by omega) (by omega), wline_step _ (by omega) (by omega), wline_step _ (by omega) (by omega), wline_step _ (by omega) (by omega), wline_step _ (by omega) (by omega), wline_step _ (by omega) (by omega)]
    simp only [upA_upA, e28, upA_same, Nat.add_zero, Nat.zero_add, Nat.reduceAdd, e29]
    rw [upA_same] at g0 g1 g2 g3 g4 g5
    rw [g0, g1, g2, g3, g4, g5]
    rfl
  generalize hT : upA (upA S 7 28 (wl (S 7 28) (6 * c) (nI b) x1 x2 x3 x4 x5)) 7 29 (wl (S 7 29) (6 * c) (nI b) x1 x2 x3 x4 x5) = T at step2
  have T0 : T 7 0 = S 7 0 := by rw [← hT, upA_a, if_neg (by omega), upA_a, if_neg (by omega)]
  refine ⟨upA T 7 0 (upd (T 7 0) 27 (nI (c + 1))), ?_, fun s hs => ?_, fun k k0 k28 k29 => ?_, ?_, ?_, ?_⟩
  · rw [step1, step2]
    have q : (6 : Int32) ≤ nI 6 := by decide
    have T27 : T 7 0 27 = nI c := by rw [T0]; exact e27
    simp only [fM_writesLine_85, fM_writesLine_85_b, q, lt_v, T27, nI_1, ↓reduceIte]
  · rw [upA_o _ _ _ hs, ← hT, upA_o _ _ _ hs, upA_o _ _ _ hs]
  · rw [upA_a, if_neg k0, ← hT, upA_a, if_neg k29, upA_a, if_neg k28]
  · rw [upA_same, T0]
  · rw [upA_a, if_neg (by omega), ← hT, upA_a, if_neg (by omega), upA_same]
  · rw [upA_a, if_neg (by omega), ← hT, upA_same]
/-! the reference's day: its second loop -/
theorem Rm_of_k {v m m' : Vw} {w : Nat} (hm : Rm w v m) (hk : ∀ k, 6 ≤ k → k ≤ 24 → m' k = m k) : Rm w v m' := by
  obtain ⟨a, b, c, d, e, g⟩ := hm
  refine ⟨?_, ?_, fun r hr => ?_, fun r hr j hj => ?_, fun r hr p hp => ?_, fun b hb => ?_⟩
  · rw [hk 6 (by omega) (by omega), hk 7 (by omega) (by omega), hk 8 (by omega) (by omega)]; exact a
  · rw [hk 9 (by omega) (by omega)]; exact b
  · rw [hk 10 (by omega) (by omega), hk 11 (by omega) (by omega), hk 12 (by omega) (by omega), hk 13 (by omega) (by omega), hk 14 (by omega) (by omega), hk 15 (by omega) (by omega), hk 16 (by omega) (by omega)]
    exact c r hr
  · rw [hk 17 (by omega) (by omega)]; exact d r hr j hj
  · rw [hk 18 (by omega) (by omega)]; exact e r hr p hp
  · rw [hk 19 (by omega) (by omega), hk 20 (by omega) (by omega), hk 21 (by omega) (by omega), hk 22 (by omega) (by omega), hk 23 (by omega) (by omega), hk 24 (by omega) (by omega)]
    exact g b hb
def bN (wr : Int32) (L : Nat → Int32) (i : Nat) (n0 : Int32) : Int32 := if wr = 0 then n0 else nI (clB L i)
def bA (wr : Int32) (v : Vw) (L : Nat → Int32) (le : Int32) (i : Nat) (f : Nat → Int32) : Nat → Int32 := if wr = 0 then f else bkF v L le i f
def P2 (T : Sg) (wr : Int32) (v : Vw) (L : Nat → Int32) (le : Int32) (i : Nat) (S : Sg) : Prop := (∀ s, s ≠ 7 → S s = T s) ∧ Rm 0 (Ud v L le i) (S 7) ∧ Ofs (T 7) (S 7) ∧ (∀ k, 26 ≤ k ∨ (1 ≤ k ∧ k < 6) → k ≠ 28 → k ≠ 29 → S 7 k = T 7 k) ∧ (∀ j, j ≠ 27 → S 7 0 j = T 7 0 j) ∧ S 7 0 27 = bN wr L i (T 7 0 27) ∧ S 7 28 = bA wr v L le i (T 7 28) ∧ S 7 29 = bA wr v L le i (T 7 29)
theorem goes2_loop {T : Sg} {wr : Int32} {v : Vw} (hv : okStore v) {L : Nat → Int32} {le : Int32} (hL : LB v L) (ele : T 7 0 5 = le) (e30 : ∀ b, b < vb v → T 7 30 b = L b) (e31 : ∀ b, b < vb v → ¬ v 18 b = -1 → T 7 31 b = if drn v (rmb v b) (plc v b) then 1 else 0) : ∀ m i n (S : Sg) (x : Int32), i + m = vb v → m < n → P2 T wr v L le i S → x = sumF L i → ∃ S' : Sg, fM_goes_138 n S wr x (nI i) = some (sumF L (vb v), upA (upA S' 7 9 (upd (S' 7 9) 2 (S' 7 9 2 + sumF L (vb v)))) 7 6 (upd (S' 7 6) 0 (S' 7 6 0 + 1))) ∧ P2 T wr v L le (vb v) S' := by
  have h3 := hv.2.1.1
  have h8 := hv.1.1
  have i6 : ib 0 6 = true := by decide
  have c0 : (0 : Int32).toNatClampNeg = 0 := by decide
  have i2 : ib 2 36 = true := by decide
  have n2 : (2 : Int32).toNatClampNeg = 2 := by decide
  have i3 : ib 3 36 = true := by decide
  have n3 : (3 : Int32).toNatClampNeg = 3 := by decide
  have k1 : ¬ (1 : Int32) = 0 := by decide
  intro m
  induction m with
  | zero =>
    intro i n S x hi hn hP hx
    obtain ⟨n, rfl⟩ : ∃ k, n = k + 1 := ⟨n - 1, by omega⟩
    have ei : i = vb v := by omega
    subst ei
    have hU := UI_all hv (le := le) hL (vb v) (Nat.le_refl _)
    have e8 : S 7 8 0 = nI (vb v) := by rw [m_8 hU.1 hP.2.1, hU.geo.2.1]
    have q : nI (vb v) ≤ nI (vb v) := nI_le (by omega) (by omega)
    refine ⟨S, ?_, hP⟩
    have f6 : ∀ f : Nat → Int32, upA S 7 9 f 7 6 = S 7 6 := fun f => by rw [upA_a, if_neg (by omega)]
    simp only [fM_goes_138, fM_goes_138_b, i6, c0, gd_t, e8, q, i2, n2, lt_v, f6, ↓reduceIte, hx]
  | succ m ih =>
    intro i n S x hi hn hP hx
    obtain ⟨n, rfl⟩ : ∃ k, n = k + 1 := ⟨n - 1, by omega⟩
    have hiv : i < vb v := by omega
    have hU := UI_all hv (le := le) hL i (by omega)
    obtain ⟨gn, gb, gr⟩ := hU.geo
    obtain ⟨p1, p2, p3, p4, p5, p6, p7, p8⟩ := hP
    have e8 : S 7 8 0 = nI (vb v) := by rw [m_8 hU.1 p2, gb]
    have q : ¬ nI (vb v) ≤ nI i := nI_ge (by omega) (by omega)
    have hib : ib (nI i) 300 = true := ib_nI (by omega) (by decide)
    have hib2 : ib (nI i) 1800 = true := ib_nI (by omega) (by decide)
    have hcl : (nI i).toNatClampNeg = i := nI_clamp (by omega)
    obtain ⟨mb1, mb2, mb3, mb4, -⟩ := m_b p2 (show i < vb (Ud v L le i) by rw [gb]; exact hiv)
    obtain ⟨u18, u19, u17⟩ := hU.2.2.1 i (Nat.le_refl i)
    have s21 : S 7 21 i = v 18 i := mb3.trans u18
    have s22 : S 7 22 i = v 19 i := mb4.trans u19
    have s20 : S 7 20 i = v 17 i := mb2.trans u17
    have s30 : S 7 30 i = L i := by rw [p4 30 (by omega) (by omega) (by omega)]; exact e30 i hiv
    have s5 : S 7 0 5 = le := by rw [p5 5 (by omega)]; exact ele
    by_cases c : v 18 i = -1
    · have cn : ¬ (0 : Int32) ≤ v 18 i := by rw [c]; decide
      have eL0 := (hL i hiv).1 c
      have z0 : L i ≤ 0 := by rw [eL0]; decide
      have ecl : clB L (i + 1) = clB L i := by
        show clB L i + (if (!decide (L i ≤ 0)) = true then 1 else 0) = _
        rw [decide_eq_true z0]; rfl
      obtain ⟨S', g1, g2⟩ := ih (i + 1) n S x (by omega) (by omega) ⟨p1, by rw [Ud, if_pos c]; exact p2, p3, p4, p5, by unfold bN at p6 ⊢; rw [ecl]; exact p6, by unfold bA at p7 ⊢; rw [bkF, if_pos z0]; exact p7, by unfold bA at p8 ⊢; rw [bkF, if_pos z0]; exact p8⟩ (by rw [hx, sumF, eL0, Int32.add_zero])
      refine ⟨S', ?_, g2⟩
      rw [← g1]
      simp only [fM_goes_138, fM_goes_138_b, fM_goes_342, i6, c0, gd_t, e8, q, hib2, hcl, s21, cn, lt_v, nI_1, ↓reduceIte]
    · obtain ⟨hr, hp, o1, o2, o3, v1, v2⟩ := hU.at hv hiv c
      have hvr := vs_le (okS hv hr)
      have cn : (0 : Int32) ≤ v 18 i := by rw [v1]; exact nI_pos' (by omega)
      have hb48 : ib (nI (rmb v i)) 48 = true := ib_nI (by omega) (by decide)
      have hc8 : (nI (rmb v i)).toNatClampNeg = rmb v i := nI_clamp (by omega)
      -- the line
      obtain ⟨S1, w1, w2, w3, w4, w5, w6, w7, w8⟩ : ∃ S1 : Sg, fM_goes_138 (n + 1) S wr x (nI i) = fM_goes_233 (fun σ x2 x3 x4 => fM_goes_138 n σ x2 x3 x4) S1 wr x (nI i) (v 17 i - L i) (if le ≤ v 17 i - L i then 0 else 1) ∧ (∀ s, s ≠ 7 → S1 s = S s) ∧ (∀ k, k ≠ 0 → k ≠ 28 → k ≠ 29 → S1 7 k = S 7 k) ∧ (∀ j, j ≠ 27 → S1 7 0 j = S 7 0 j) ∧ S1 7 0 27 = bN wr L (i + 1) (T 7 0 27) ∧ S1 7 28 = bA wr v L le (i + 1) (T 7 28) ∧ S1 7 29 = bA wr v L le (i + 1) (T 7 29) ∧ True := by
        have hstep : fM_goes_138 (n + 1) S wr x (nI i) = fM_goes_193 (fun σ x2 x3 x4 => fM_goes_138 n σ x2 x3 x4) S wr x (nI i) (v 17 i - L i) (if le ≤ v 17 i - L i then 0 else 1) := by
          simp only [fM_goes_138, fM_goes_138_b, i6, c0, gd_t, e8, q, hib2, hib, hcl, s21, cn, s20, s30, s5, lt_v, ↓reduceIte]
          split <;> rfl
        rw [hstep]
        by_cases cw : wr = 0
        · refine ⟨S, ?_, fun _ _ => rfl, fun _ _ _ _ => rfl, fun _ _ => rfl, ?_, ?_, ?_, trivial⟩
          · simp only [fM_goes_193, cw, ↓reduceIte]
          · rw [p6]; unfold bN; rw [if_pos cw, if_pos cw]
          · rw [p7]; unfold bA; rw [if_pos cw, if_pos cw]
          · rw [p8]; unfold bA; rw [if_pos cw, if_pos cw]
        · by_cases cl : L i ≤ 0
          · have ecl : clB L (i + 1) = clB L i := by
              show clB L i + (if (!decide (L i ≤ 0)) = true then 1 else 0) = _
              rw [decide_eq_true cl]; rfl
            refine ⟨S, ?_, fun _ _ => rfl, fun _ _ _ _ => rfl, fun _ _ => rfl, ?_, ?_, ?_, trivial⟩
            · simp only [fM_goes_193, cw, hib, hcl, gd_t, s30, cl, ↓reduceIte]
            · rw [p6]; unfold bN; rw [if_neg cw, if_neg cw, ecl]
            · rw [p7]; unfold bA; rw [if_neg cw, if_neg cw, bkF, if_pos cl]
            · rw [p8]; unfold bA; rw [if_neg cw, if_neg cw, bkF, if_pos cl]
          · have ecl : clB L (i + 1) = clB L i + 1 := by
              show clB L i + (if (!decide (L i ≤ 0)) = true then 1 else 0) = _
              rw [decide_eq_false cl]; rfl
            have hcb : clB L i ≤ i := cntF_le _ i
            have s27 : S 7 0 27 = nI (clB L i) := by rw [p6]; unfold bN; rw [if_neg cw]
            obtain ⟨S1, a1, a2, a3, a4, a5, a6⟩ := wline_eq (S := S) (c := clB L i) (b := i) (by omega) (by omega) s27 s21 s22 s20 (L i) (lf le (v 17 i - L i))
            refine ⟨S1, ?_, a2, a3, fun j hj => by rw [a4, upd_r, if_neg hj], ?_, ?_, ?_, trivial⟩
            · have hlf : (if (if le ≤ v 17 i - L i then (0 : Int32) else 1) = 0 then fM_goes_230 (fun σ x2 x3 x4 => fM_goes_138 n σ x2 x3 x4) S wr x (nI i) (v 17 i - L i) (if le ≤ v 17 i - L i then 0 else 1) (v 17 i - L i) (L i) (nI i) else fM_goes_230 (fun σ x2 x3 x4 => fM_goes_138 n σ x2 x3 x4) S wr x (nI i) (v 17 i - L i) (if le ≤ v 17 i - L i then 0 else 1) 0 (L i) (nI i)) = fM_goes_230 (fun σ x2 x3 x4 => fM_goes_138 n σ x2 x3 x4) S wr x (nI i) (v 17 i - L i) (if le ≤ v 17 i - L i then 0 else 1) (lf le (v 17 i - L i)) (L i) (nI i) := by
                unfold lf
                by_cases z : le ≤ v 17 i - L i
                · simp only [z, ↓reduceIte]
                · simp only [z, k1, ↓reduceIte]
              simp only [fM_goes_193, cw, hib, hcl, gd_t, s30, cl, ↓reduceIte, hlf]
              simp only [fM_goes_230, a1, bp_s]
            · rw [a4, upd_r, if_pos rfl]; unfold bN; rw [if_neg cw, ecl]
            · rw [a5, p7]; unfold bA; rw [if_neg cw, if_neg cw, bkF, if_neg cl]; rfl
            · rw [a6, p8]; unfold bA; rw [if_neg cw, if_neg cw, bkF, if_neg cl]; rfl
      -- led or standing
      have hR1 : Rm 0 (Ud v L le i) (S1 7) := Rm_of_k p2 (fun k k6 k24 => w3 k (by omega) (by omega) (by omega))
      have hO1 : Ofs (T 7) (S1 7) := fun k k6 k25 j hj => by rw [w3 k (by omega) (by omega) (by omega)]; exact p3 k k6 k25 j hj
      have t30 : S1 7 30 i = L i := by rw [w3 30 (by omega) (by omega) (by omega)]; exact s30
      have t31 : S1 7 31 i = if drn v (rmb v i) (plc v i) then 1 else 0 := by rw [w3 31 (by omega) (by omega) (by omega), p4 31 (by omega) (by omega) (by omega)]; exact e31 i hiv c
      have t21 : S1 7 21 i = nI (rmb v i) := by rw [w3 21 (by omega) (by omega) (by omega), s21]; exact v1
      have t20 : S1 7 20 = S 7 20 := w3 20 (by omega) (by omega) (by omega)
      generalize hS2 : (if drn v (rmb v i) (plc v i) = true then upA S1 7 15 (upd (S1 7 15) (rmb v i) (S1 7 15 (rmb v i) + L i)) else upA S1 7 16 (upd (S1 7 16) (rmb v i) (S1 7 16 (rmb v i) + L i))) = S2
      have y1 : fM_goes_233 (fun σ x2 x3 x4 => fM_goes_138 n σ x2 x3 x4) S1 wr x (nI i) (v 17 i - L i) (if le ≤ v 17 i - L i then 0 else 1) = fM_goes_300 (fun σ x2 x3 x4 => fM_goes_138 n σ x2 x3 x4) S2 wr (x + L i) (nI i) (v 17 i - L i) (if le ≤ v 17 i - L i then 0 else 1) := by
        cases hd : drn v (rmb v i) (plc v i) with
        | true =>
          rw [hd] at hS2 t31
          rw [if_pos rfl] at hS2
          have t31 : S1 7 31 i = 1 := t31
          simp only [fM_goes_233, hib, hcl, gd_t, t30, t31, k1, hib2, t21, hb48, hc8, lt_v, hS2, ↓reduceIte]
        | false =>
          rw [hd] at hS2 t31
          rw [if_neg (by decide)] at hS2
          have t31 : S1 7 31 i = 0 := t31
          simp only [fM_goes_233, hib, hcl, gd_t, t30, t31, hib2, t21, hb48, hc8, lt_v, hS2, ↓reduceIte]
      have hR2 : Rm 0 (sLed (Ud v L le i) (drn v (rmb v i) (plc v i)) (rmb v i) (L i)) (S2 7) := by
        rw [← hS2]
        exact Rm_led hU.1 hR1 _ _ (by rw [gn]; exact hr)
      have hO2 : Ofs (T 7) (S2 7) := by
        rw [← hS2]
        split
        · exact hO1.up (c := 15) (show rmb v i < 8 by omega)
        · exact hO1.up (c := 16) (show rmb v i < 8 by omega)
      have y2 : ∀ s, s ≠ 7 → S2 s = T s := fun s hs => by
        rw [← hS2]
        split
        · rw [upA_o _ _ _ hs, w2 s hs]; exact p1 s hs
        · rw [upA_o _ _ _ hs, w2 s hs]; exact p1 s hs
      have y3 : ∀ k, k ≠ 15 → k ≠ 16 → S2 7 k = S1 7 k := fun k k15 k16 => by
        rw [← hS2]
        split
        · rw [upA_a, if_neg k15]
        · rw [upA_a, if_neg k16]
      have fin : ∀ S3 : Sg, (∀ s, s ≠ 7 → S3 s = S2 s) → Rm 0 (Ud v L le (i + 1)) (S3 7) → Ofs (T 7) (S3 7) → (∀ k, (k < 6 ∨ 26 ≤ k) → S3 7 k = S2 7 k) → ∃ S' : Sg, fM_goes_342 (fun σ x2 x3 x4 => fM_goes_138 n σ x2 x3 x4) S3 wr (x + L i) (nI i) = some (sumF L (vb v), upA (upA S' 7 9 (upd (S' 7 9) 2 (S' 7 9 2 + sumF L (vb v)))) 7 6 (upd (S' 7 6) 0 (S' 7 6 0 + 1))) ∧ P2 T wr v L le (vb v) S' := by
        intro S3 z1 z2 z3 z4
        obtain ⟨S', g1, g2⟩ := ih (i + 1) n S3 (x + L i) (by omega) (by omega) ⟨fun s hs => (z1 s hs).trans (y2 s hs), z2, z3, fun k hk k28 k29 => by
            rw [z4 k (by omega), y3 k (by omega) (by omega), w3 k (by omega) k28 k29]
            exact p4 k hk k28 k29, fun j hj => by
            rw [z4 0 (by omega), y3 0 (by omega) (by omega), w4 j hj]
            exact p5 j hj, by
            rw [z4 0 (by omega), y3 0 (by omega) (by omega)]; exact w5, by
            rw [z4 28 (by omega), y3 28 (by omega) (by omega)]; exact w6, by
            rw [z4 29 (by omega), y3 29 (by omega) (by omega)]; exact w7⟩ (by rw [hx, sumF])
        refine ⟨S', ?_, g2⟩
        rw [← g1]
        simp only [fM_goes_342, lt_v, nI_1]
      have r20 : S2 7 20 = S 7 20 := (y3 20 (by omega) (by omega)).trans t20
      have u17i : Ud v L le i 17 i = v 17 i := u17
      rw [w1, y1]
      by_cases cg : le ≤ v 17 i - L i
      · obtain ⟨S', g1, g2⟩ := fin (upA S2 7 20 (upd (S2 7 20) i (v 17 i - L i))) (fun s hs => upA_o _ _ _ hs) (by
          rw [Ud, if_neg c, dayB, u17i, if_pos cg]
          exact Rm_17 hR2 i _) (hO2.up (c := 20) (show i < 300 by omega)) (fun k hk => by rw [upA_a, if_neg (by omega)])
        refine ⟨S', ?_, g2⟩
        rw [← g1]
        simp only [fM_goes_300, hib2, hcl, gd_t, lt_v, cg, ↓reduceIte]
      · -- gone
        generalize hS3 : upA (upA (upA S2 7 20 (upd (S2 7 20) i (v 17 i - L i))) 7 9 (upd (S2 7 9) 3 (S2 7 9 3 + (v 17 i - L i)))) 7 20 (upd (upd (S2 7 20) i (v 17 i - L i)) i 0) = S3
        have hR3 : Rm 0 (gonV (s17 (sLed (Ud v L le i) (drn v (rmb v i) (plc v i)) (rmb v i) (L i)) i 0) (v 17 i - L i)) (S3 7) := by
          rw [← gon17, ← hS3]
          have a1 := Rm_17 hR2 i (v 17 i - L i)
          have a2 := Rm_gon a1 (v 17 i - L i)
          have a3 := Rm_17 a2 i 0
          exact a3
        have hok3 : okStore (gonV (s17 (sLed (Ud v L le i) (drn v (rmb v i) (plc v i)) (rmb v i) (L i)) i 0) (v 17 i - L i)) := okStore_gon (okStore_17 (okStore_led hU.1 _ _ _) i ⟨0, by omega, rfl⟩) _
        have r21 : S3 7 21 i = nI (rmb v i) := by
          rw [← hS3, upA_a, if_neg (by omega), upA_a, if_neg (by omega), upA_a, if_neg (by omega), y3 21 (by omega) (by omega)]
          exact t21
        have r22 : S3 7 22 i = nI (plc v i) := by
          rw [← hS3, upA_a, if_neg (by omega), upA_a, if_neg (by omega), upA_a, if_neg (by omega), y3 22 (by omega) (by omega), w3 22 (by omega) (by omega) (by omega), s22]
          exact v2
        have hout := out_eq (τ := S3) (b := i) (r := rmb v i) (p := plc v i) (by omega) (by omega) (by omega) r21 r22
        have hO3 : Ofs (T 7) (S3 7) := by
          rw [← hS3]
          have b1 := hO2.up (c := 20) (i := i) (x := v 17 i - L i) (show i < 300 by omega)
          have b2 := b1.up (c := 9) (i := 3) (x := S2 7 9 3 + (v 17 i - L i)) (show 3 < 6 by omega)
          have b3 := b2.up (c := 20) (i := i) (x := 0) (show i < 300 by omega)
          exact b3
        obtain ⟨S', g1, g2⟩ := fin (outM S3 i (rmb v i) (plc v i)) (fun s hs => by rw [outM_o _ hs, ← hS3, upA_o _ _ _ hs, upA_o _ _ _ hs, upA_o _ _ _ hs]) (by
          rw [Ud, if_neg c, dayB, u17i, if_neg cg]
          exact Rm_out hok3 hR3 (show rmb v i < vn (Ud v L le i) by rw [gn]; exact hr) (show plc v i < vs (Ud v L le i) (rmb v i) by rw [(gr _).2]; exact hp)) (Ofs_out hO3 (by omega) (by omega) (by omega)) (fun k hk => by
          rw [outM_k _ (by omega) (by omega) (by omega), ← hS3, upA_a, if_neg (by omega), upA_a, if_neg (by omega), upA_a, if_neg (by omega)])
        refine ⟨S', ?_, g2⟩
        rw [← g1]
        have f9 : ∀ f : Nat → Int32, upA S2 7 20 f 7 9 = S2 7 9 := fun f => by rw [upA_a, if_neg (by omega)]
        have f20 : ∀ f g : Nat → Int32, upA (upA S2 7 20 f) 7 9 g 7 20 = f := fun f g => by rw [upA_a, if_neg (by omega), upA_same]
        simp only [fM_goes_300, hib2, hcl, gd_t, lt_v, cg, k1, i3, n3, f9, f20, hS3, hout, bp_s, ↓reduceIte]
