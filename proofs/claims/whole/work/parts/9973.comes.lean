/-! comes -/
theorem wOut_le (Ks : Nat → Int32) (Ds : Nat → Nat) (rt l : Nat) (tt : Nat → Int32) : ∀ m i dd g, wOut Ks Ds rt l tt m i dd g ≤ g
  | 0, _, _, _ => Nat.le_refl _
  | m + 1, i, dd, g => Nat.le_trans (wOut_le Ks Ds rt l tt m (i + 1) _ _) (wIn_le _ _ _ _ _ _ _)
theorem Inv.way {lv : Nat → Bool} {σ : Sg} (hI : Inv lv σ) : ∃ cm : Nat → Nat, (∀ b, b < vb (σ 0) → cm b ≤ 1000000) ∧ (∀ X : Sg, X 0 16 = σ 0 16 → X 0 17 = σ 0 17 → X 0 0 0 = σ 0 0 0 → X 6 2 2 = σ 6 2 2 → X 6 3 = σ 6 3 → X 6 10 = σ 6 10 → X 6 14 = σ 6 14 → X 6 15 = σ 6 15 → ∀ b, b < vb (σ 0) → fI_atWaysEnd X (nI b) = some (nI (cm b))) ∧ ∀ Y : Sg, Y 7 6 0 = σ 0 0 0 → Y 7 0 5 = σ 7 0 5 → Y 7 0 34 = σ 7 0 34 → Y 7 1 = σ 7 1 → Y 7 2 = σ 7 2 → Y 7 32 = σ 7 32 → Y 7 33 = σ 7 33 → ∀ b, b < vb (σ 0) → Y 7 19 b = σ 0 16 b → Y 7 20 b = σ 0 17 b → fM_comeOf Y (nI b) = some (nI (cm b)) := by
  obtain ⟨h, hm⟩ := hI.2.2.2.1
  have h3 := h.2.1.1
  obtain ⟨d, hd, d1, d2⟩ := hI.today
  obtain ⟨P, W, l, -, -, hl1, hl2, -, -, -, -, el, el'⟩ := hI.1.2.1
  obtain ⟨S, hS, w1, w2, w3⟩ := hI.1.2.2.2.1
  have hD : ∀ i, i < S → σ 6 15 i = nI (σ 6 15 i).toNatClampNeg ∧ (σ 6 15 i).toNatClampNeg ≤ 20 := fun i hi => by
    obtain ⟨-, -, -, q, hq, eq⟩ := w3 i hi
    rw [eq, nI_clamp (by omega)]
    exact ⟨rfl, hq⟩
  have hrng : ∀ dd, -2048 ≤ (σ 6 10 (mn9 dd)).toInt ∧ (σ 6 10 (mn9 dd)).toInt ≤ 2048 := fun dd => hI.rng (by unfold mn9; split <;> omega)
  have hgr : ∀ b, b < vb (σ 0) → (σ 0 17 b).toNatClampNeg ≤ 1000000 ∧ σ 0 17 b = nI (σ 0 17 b).toNatClampNeg := fun b hb => by
    obtain ⟨g, hg, eg⟩ := (h.2.2.2.2.2.1 b hb).2.1
    rw [eg, nI_clamp (by omega)]
    exact ⟨hg, rfl⟩
  refine ⟨fun b => wOut (σ 6 14) (fun i => (σ 6 15 i).toNatClampNeg) (if σ 0 16 b = 2 then 5 else 3) l (fun dd => σ 6 10 (mn9 dd)) S 0 d (σ 0 17 b).toNatClampNeg, fun b hb => Nat.le_trans (wOut_le _ _ _ _ _ _ _ _ _) (hgr b hb).1, fun X x16 x17 x0 x2 x3 x10 x14 x15 b hb => ?_, fun Y y6 y5 y34 y1 y2 y32 y33 b hb y19 y20 => ?_⟩
  · obtain ⟨g1, g2⟩ := hgr b hb
    have hib : ib (nI b) 300 = true := ib_nI (by omega) (by decide)
    have hcl : (nI b).toNatClampNeg = b := nI_clamp (by omega)
    have hlv := leaves_out (X := X) (S := S) (l := l) (Ds := fun i => (σ 6 15 i).toNatClampNeg) (tt := fun dd => σ 6 10 (mn9 dd)) (rt := if σ 0 16 b = 2 then 5 else 3) (kd := σ 0 16 b) rfl hl1 hl2 (fun dd _ => by rw [x10]) hrng hS (by rw [x3]; exact w1) (fun i hi => by rw [x15]; exact hD i hi) S 0 FU d (σ 0 17 b).toNatClampNeg (by omega) (by unfold FU; omega) (by omega) g1
    rw [x14] at hlv
    have e17 : X 0 17 b = nI (σ 0 17 b).toNatClampNeg := by rw [x17]; exact g2
    have e16 : X 0 16 b = σ 0 16 b := by rw [x16]
    have e0 : X 0 0 0 = nI d := x0.trans d1
    have e2 : X 6 2 2 = nI l := x2.trans el
    have hl9 : fJourney_leaves X (σ 0 16 b) (nI (σ 0 17 b).toNatClampNeg) (nI d) (nI l) = some (nI (wOut (σ 6 14) (fun i => (σ 6 15 i).toNatClampNeg) (if σ 0 16 b = 2 then 5 else 3) l (fun dd => σ 6 10 (mn9 dd)) S 0 d (σ 0 17 b).toNatClampNeg)) := hlv
    unfold fI_atWaysEnd fI_atWaysEnd_0
    rw [hib, gd_t, gd_t, hcl, e16, e17, e0, e2, hl9, bp_s]
  · obtain ⟨g1, g2⟩ := hgr b hb
    have hib : ib (nI b) 1800 = true := ib_nI (by omega) (by decide)
    have hcl : (nI b).toNatClampNeg = b := nI_clamp (by omega)
    have i6 : ib 0 6 = true := by decide
    have c0 : (0 : Int32).toNatClampNeg = 0 := by decide
    have hco := comeOf_out (Y := Y) (S := S) (l := l) (Ds := fun i => (σ 6 15 i).toNatClampNeg) (tt := fun dd => σ 6 10 (mn9 dd)) (rt := if σ 0 16 b = 2 then 5 else 3) (kd := σ 0 16 b) (b := b) (by omega) y19 rfl hl1 hl2 (by rw [y5]; exact el') (fun dd _ => (hI.day (show mn9 dd < 200 by unfold mn9; split <;> omega)).2 Y y1 y2) hrng hS (by rw [y34]; exact w2) (fun i hi => by rw [y33, ← (w3 i hi).2.1]; exact hD i hi) S 0 FU d (σ 0 17 b).toNatClampNeg (by omega) (by unfold FU; omega) (by omega) g1
    rw [y32, wOut_cong (Ks' := σ 6 14) S 0 d _ (fun j _ hj => ((w3 j (by omega)).1).symm)] at hco
    have e20 : Y 7 20 b = nI (σ 0 17 b).toNatClampNeg := by rw [y20]; exact g2
    have e6 : Y 7 6 0 = nI d := y6.trans d1
    have hco' : fM_comeOf_17 FU Y (nI b) (nI (σ 0 17 b).toNatClampNeg) (nI d) 0 = some (nI (wOut (σ 6 14) (fun i => (σ 6 15 i).toNatClampNeg) (if σ 0 16 b = 2 then 5 else 3) l (fun dd => σ 6 10 (mn9 dd)) S 0 d (σ 0 17 b).toNatClampNeg)) := hco
    unfold fM_comeOf fM_comeOf_0
    rw [hib, gd_t, lt_v, i6, gd_t, lt_v, hcl, c0, e20, e6, hco']
theorem comesC_loop {X : Sg} {n : Nat} {L : Nat → Nat} {cm : Nat → Nat} (hn : n ≤ 180) (x4 : X 6 0 9 = nI n) (x6 : ∀ i, i < n → X 6 6 i = nI (L i)) (hc : ∀ i, i < n → fI_atWaysEnd X (nI (L i)) = some (nI (cm (L i)))) : ∀ m i f (x : Int32), i + m = n → m < f → x = sumF (fun j => nI (cm (L j))) i → fI_comes_47 f X x (nI i) = bp (fI_putLiftedBack X) (fun σ5 => some (sumF (fun j => nI (cm (L j))) n, σ5)) := by
  intro m
  induction m with
  | zero =>
    intro i f x hi hf hx
    obtain ⟨f, rfl⟩ : ∃ k, f = k + 1 := ⟨f - 1, by omega⟩
    have ei : i = n := by omega
    subst ei
    have q : nI i ≤ nI i := nI_le (by omega) (by omega)
    simp only [fI_comes_47, fI_comes_47_b, x4, q, ↓reduceIte, hx]
  | succ m ih =>
    intro i f x hi hf hx
    obtain ⟨f, rfl⟩ : ∃ k, f = k + 1 := ⟨f - 1, by omega⟩
    have q : ¬ nI n ≤ nI i := nI_ge (by omega) (by omega)
    have hib : ib (nI i) 180 = true := ib_nI (by omega) (by decide)
    have hcl : (nI i).toNatClampNeg = i := nI_clamp (by omega)
    rw [← ih (i + 1) f (x + nI (cm (L i))) (by omega) (by omega) (by rw [hx]; rfl)]
    simp only [fI_comes_47, fI_comes_47_b, x4, q, hib, hcl, gd_t, x6 i (by omega), hc i (by omega), bp_s, lt_v, nI_1, ↓reduceIte]
theorem comesM_loop {T : Sg} {v : Vw} {pa we t : Int32} {r : Nat} (hv : okStore v) (hr : r < vn v) (ePa : T 7 0 3 = pa) (eWe : T 7 0 4 = we) {d : Nat} (hd : v 0 0 = nI d) (ht : ∀ Y : Sg, Y 7 1 = T 7 1 → Y 7 2 = T 7 2 → fM_tenthsOf Y (nI d) = some t) {cm : Nat → Nat} (hcm : ∀ Y : Sg, Y 7 6 0 = v 0 0 → Y 7 0 5 = T 7 0 5 → Y 7 0 34 = T 7 0 34 → Y 7 1 = T 7 1 → Y 7 2 = T 7 2 → Y 7 32 = T 7 32 → Y 7 33 = T 7 33 → ∀ b, b < vb v → Y 7 19 b = v 16 b → Y 7 20 b = v 17 b → fM_comeOf Y (nI b) = some (nI (cm b))) {n : Nat} (hn : n ≤ cR v r) : ∀ m k f (Y : Sg) (x : Int32), k + m = n → m < f → ML T v pa we t r k Y → Y 7 0 36 = T 7 0 36 → Y 7 35 = T 7 35 → x = sumF (fun j => nI (cm (Lb v pa we t r j))) k → ∃ Y' : Sg, fM_comes_46 f Y (nI r) (nI n) x (nI k) = bp (fM_brings Y') (fun σ5 => some (sumF (fun j => nI (cm (Lb v pa we t r j))) n, σ5)) ∧ ML T v pa we t r n Y' ∧ Y' 7 0 36 = T 7 0 36 ∧ Y' 7 35 = T 7 35 := by
  have hcr := cR_le hv hr
  have hvr := vs_le (okS hv hr)
  have h3 := hv.2.1.1
  intro m
  induction m with
  | zero =>
    intro k f Y x hk hf hY u36 u35 hx
    obtain ⟨f, rfl⟩ : ∃ j, f = j + 1 := ⟨f - 1, by omega⟩
    have ek : k = n := by omega
    subst ek
    have q : nI k ≤ nI k := nI_le (by omega) (by omega)
    refine ⟨Y, ?_, hY, u36, u35⟩
    simp only [fM_comes_46, fM_comes_46_b, q, ↓reduceIte, hx]
  | succ m ih =>
    intro k f Y x hk hf hY u36 u35 hx
    obtain ⟨f, rfl⟩ : ∃ j, f = j + 1 := ⟨f - 1, by omega⟩
    have hkn : k < cR v r := by omega
    have q : ¬ nI n ≤ nI k := nI_ge (by omega) (by omega)
    have hnx := next_L hv hr ePa eWe hd ht (by omega) hY
    have hL := Lu_all hv (pa := pa) (we := we) (t := t) hr k (by omega)
    obtain ⟨-, b1, b2, -⟩ := Lu_step hv hr hL hkn
    rw [b2] at hnx
    obtain ⟨M, o1, o2, -, o4, o5, -⟩ := out_L hv hr hkn hY.2.1
    have hML := ML_out hv hr hkn hY
    rw [← o2] at hML
    have e6 : Y 7 6 0 = v 0 0 := by
      rw [show Y 7 6 0 = Lu v pa we t r k 0 0 from hY.2.1.1.1, hL.2.1 0 (by omega) (by omega) (by omega) (by omega) (by omega)]
    have hco := hcm Y e6 (hY.2.2.2.2 5 (by omega)) (hY.2.2.2.2 34 (by omega)) (hY.2.2.2.1 1 (by omega) (by omega) (by omega)) (hY.2.2.2.1 2 (by omega) (by omega) (by omega)) (hY.2.2.2.1 32 (by omega) (by omega) (by omega)) (hY.2.2.2.1 33 (by omega) (by omega) (by omega)) (Lb v pa we t r k) b1 o5 o4
    obtain ⟨Y', r1, r2⟩ := ih (k + 1) f M (x + nI (cm (Lb v pa we t r k))) (by omega) (by omega) hML (by rw [o2, outM_k _ (by omega) (by omega) (by omega)]; exact u36) (by rw [o2, outM_k _ (by omega) (by omega) (by omega)]; exact u35) (by rw [hx]; rfl)
    refine ⟨Y', ?_, r2⟩
    rw [← r1]
    simp only [fM_comes_46, fM_comes_46_b, q, hnx, hco, o1, bp_s, lt_v, nI_1, ↓reduceIte]
theorem op_comes : Op_comes Inv := by
  intro lv σ hI a1 a2
  obtain ⟨h, hm⟩ := hI.2.2.2.1
  have h8 := h.1.1
  have h3 := h.2.1.1
  have k1 : ¬ (1 : Int32) = 0 := by decide
  by_cases c : wi a2 0 300 = 0
  · refine ⟨-1, σ, ?_, σ, ?_, hI⟩
    · simp only [fI_comes, fI_comes_0, fI_within_eq, c, bp_s, ↓reduceIte]
    · simp only [fM_comes, fM_comes_0, fM_in_eq, c, bp_s, ↓reduceIte]
  by_cases hr : inR (σ 0) a1
  · obtain ⟨r, hr, rfl⟩ := hr
    obtain ⟨n, -, hn, rfl⟩ := wiN (lo := 0) (hi := 300) (by decide) c (by decide)
    obtain ⟨d, hd, d1, d2⟩ := hI.today
    obtain ⟨t1, t2, -⟩ := hI.terms
    obtain ⟨hdc, hdm⟩ := hI.day (show d < 200 by omega)
    have htt : ∀ X : Sg, X 6 10 = σ 6 10 → X 0 0 0 = σ 0 0 0 → fI_tenthsToday X = some (σ 6 10 d) := fun X e1 e2 => by
      show bp (fCalendar_tenthsOf X (X 0 0 0)) _ = _
      rw [e2, d1, hdc X e1]; rfl
    obtain ⟨l1, l2⟩ := lift_c (σ := σ) (v := σ 0) (pa := σ 6 2 0) (we := σ 6 2 1) (t := σ 6 10 d) rfl h hr rfl rfl htt hn
    have hcv : cR (σ 0) r ≤ vb (σ 0) := cntF_le _ _
    by_cases cn : n ≤ cR (σ 0) r
    · obtain ⟨X, x1, x2⟩ := l1 cn
      have hcr := cR_le h hr
      have hvr := vs_le (okS h hr)
      obtain ⟨cm, m1, m2, m3⟩ := hI.way
      obtain ⟨y1, y2, y3, y4, y5, y6⟩ := x2
      have hL := Lu_all h (pa := σ 6 2 0) (we := σ 6 2 1) (t := σ 6 10 d) hr n cn
      have hX0 : ∀ j, j ≠ 11 → j ≠ 12 → j ≠ 14 → j ≠ 18 → j ≠ 19 → X 0 j = σ 0 j := fun j j11 j12 j14 j18 j19 => by
        rw [y5]
        unfold W2
        rw [if_neg j18, if_neg j19]
        exact hL.2.1 j j11 j12 j14 j18 j19
      have hcl : ∀ i, i < n → fI_atWaysEnd X (nI (Lb (σ 0) (σ 6 2 0) (σ 6 2 1) (σ 6 10 d) r i)) = some (nI (cm (Lb (σ 0) (σ 6 2 0) (σ 6 2 1) (σ 6 10 d) r i))) := fun i hi => m2 X (hX0 16 (by omega) (by omega) (by omega) (by omega) (by omega)) (hX0 17 (by omega) (by omega) (by omega) (by omega) (by omega)) (by rw [hX0 0 (by omega) (by omega) (by omega) (by omega) (by omega)]) (by rw [y2 2 (by omega) (by omega) (by omega)]) (y2 3 (by omega) (by omega) (by omega)) (y2 10 (by omega) (by omega) (by omega)) (y2 14 (by omega) (by omega) (by omega)) (y2 15 (by omega) (by omega) (by omega)) _ (Lb_at h hr (by omega)).1
      have hC := comesC_loop (X := X) (n := n) (by omega) y4 y6 hcl n 0 FU 0 (by omega) (by unfold FU; omega) rfl
      obtain ⟨Z, z1, z2, z3⟩ := putBack_c h hr cn y4 y5 y6
      rw [z1, bp_s] at hC
      generalize hs : sumF (fun j => nI (cm (Lb (σ 0) (σ 6 2 0) (σ 6 2 1) (σ 6 10 d) r j))) n = s at hC
      have Z7 : Z 7 = σ 7 := (z2 7 (by omega)).trans (y1 7 (by omega) (by omega))
      have hmZ : Rm 0 (σ 0) (Z 7) := by rw [Z7]; exact hm
      obtain ⟨T, r1, r2, r3, r4⟩ := rem_m (T := Z) h hmZ
      have T7 : ∀ k, k ≠ 41 → k ≠ 42 → T 7 k = σ 7 k := fun k k41 k42 => by rw [r3 k k41 k42, Z7]
      have hML0 : ML T (σ 0) (σ 6 2 0) (σ 6 2 1) (σ 6 10 d) r 0 T := ⟨fun _ _ => rfl, Rm_of_k hm (fun k k6 k24 => T7 k (by omega) (by omega)), Ofs.refl _, fun _ _ _ _ => rfl, fun _ _ => rfl⟩
      have T0 : T 7 0 = σ 7 0 := T7 0 (by omega) (by omega)
      obtain ⟨Y, q1, q2, q36, q35⟩ := comesM_loop (T := T) h hr (by rw [T0]; exact t1.symm) (by rw [T0]; exact t2.symm) d1 (fun Y e1 e2 => hdm Y (e1.trans (T7 1 (by omega) (by omega))) (e2.trans (T7 2 (by omega) (by omega)))) (cm := cm) (fun Y a1 a2 a3 a4 a5 a6 a7 b b1 b2 b3 => m3 Y a1 (by rw [a2, T0]) (by rw [a3, T0]) (a4.trans (T7 1 (by omega) (by omega))) (a5.trans (T7 2 (by omega) (by omega))) (a6.trans (T7 32 (by omega) (by omega))) (a7.trans (T7 33 (by omega) (by omega))) b b1 b2 b3) cn n 0 FU T 0 (by omega) (by unfold FU; omega) hML0 rfl rfl rfl
      obtain ⟨p1, p2, p3, p4, p5⟩ := q2
      obtain ⟨B, b1, b2, b3, b4, b5⟩ := bring_m h hr cn p2 (fun b hb => by rw [p4 41 (by omega) (by omega) (by omega), p4 42 (by omega) (by omega) (by omega)]; exact r4 b hb)
      rw [b1, bp_s, hs] at q1
      refine ⟨s, Z, ?_, B, ?_, ?_⟩
      · have hC' : fI_comes_47 FU X 0 0 = some (s, Z) := hC
        simp only [fI_comes, fI_comes_0, fI_within_eq, c, bp_s, has_in h hr, k1, x1, bi_s, ↓reduceIte, hC']
      · have qn : nI n ≤ nI (cR (σ 0) r) := nI_le cn (by omega)
        have q1' : fM_comes_46 FU T (nI r) (nI n) 0 0 = some (s, B) := q1
        simp only [fM_comes, fM_comes_0, fM_in_eq, c, bp_s, isRoom_in h hmZ hr, k1, m_cR h hmZ, qn, r1, ↓reduceIte, q1']
      · have Bs : ∀ s', s' ≠ 7 → B s' = Z s' := fun s' hs' => by rw [b2 s' hs', p1 s' hs', r2 s' hs']
        have G6k : ∀ k, k ≠ 0 → k ≠ 6 → k ≠ 11 → B 6 k = σ 6 k := fun k k0 k6 k11 => by rw [Bs 6 (by omega), z2 6 (by omega)]; exact y2 k k0 k6 k11
        have G60 : ∀ j, j ≠ 9 → B 6 0 j = σ 6 0 j := fun j hj => by rw [Bs 6 (by omega), z2 6 (by omega)]; exact y3 j hj
        have G70 : ∀ j, j ≠ 36 → B 7 0 j = σ 7 0 j := fun j hj => by rw [b3 0 (by omega) (by omega) (by omega), p5 j hj, T0]
        have G70a : ∀ j, B 7 0 j = σ 7 0 j := fun j => by
          by_cases z : j = 36
          · rw [z, b3 0 (by omega) (by omega) (by omega), q36, T0]
          · exact G70 j z
        have G7k : ∀ k, 26 ≤ k ∨ (1 ≤ k ∧ k < 6) → k ≠ 35 → k ≠ 41 → k ≠ 42 → k ≠ 43 → B 7 k = σ 7 k := fun k hk k35 k41 k42 k43 => by
          rw [b3 k (by omega) (by omega) (by omega), p4 k hk k35 k43, T7 k k41 k42]
        have hO : Ofs (σ 7) (B 7) := fun k k6 k25 j hj => by rw [b4 k k6 k25 j hj, p3 k k6 k25 j hj, T7 k (by omega) (by omega)]
        have hI' := hI
        obtain ⟨⟨h14, -, -, -, h5, h6, h7, -⟩, h9, h10, -⟩ := hI'
        have B0 : B 0 = σ 0 := (Bs 0 (by omega)).trans z3
        have Bo : ∀ s', s' ≠ 0 → s' ≠ 6 → s' ≠ 7 → B s' = σ s' := fun s' h0 h6 h7 => by rw [Bs s' h7, z2 s' h0]; exact y1 s' h0 h6
        refine Inv_mk (lv := lv) (σ := σ) hI ?_ (G6k 2 (by omega) (by omega) (by omega)) (G6k 3 (by omega) (by omega) (by omega)) (G6k 5 (by omega) (by omega) (by omega)) (G6k 9 (by omega) (by omega) (by omega)) (G6k 10 (by omega) (by omega) (by omega)) (G6k 14 (by omega) (by omega) (by omega)) (G6k 15 (by omega) (by omega) (by omega)) (fun j j3 j5 => G70a j) (G70a 34) (G7k 1 (by omega) (by omega) (by omega) (by omega) (by omega)) (G7k 2 (by omega) (by omega) (by omega) (by omega) (by omega)) (G7k 32 (by omega) (by omega) (by omega) (by omega) (by omega)) (G7k 33 (by omega) (by omega) (by omega) (by omega) (by omega)) (G7k 40 (by omega) (by omega) (by omega) (by omega) (by omega)) ?_ ?_ ?_ ?_ ?_ ?_ hO ?_
        · rw [G60 14 (by omega), G70a 0]; exact h14
        · rw [G6k 4 (by omega) (by omega) (by omega), G6k 16 (by omega) (by omega) (by omega), G6k 17 (by omega) (by omega) (by omega), G7k 49 (by omega) (by omega) (by omega) (by omega) (by omega), G7k 50 (by omega) (by omega) (by omega) (by omega) (by omega)]
          exact h5.of (G70a 51)
        · rw [G6k 7 (by omega) (by omega) (by omega), b3 35 (by omega) (by omega) (by omega), q35, T7 35 (by omega) (by omega)]
          exact h6.of (G60 10 (by omega)) (G70a 36)
        · exact h7.of (fun j j1 j2 => G60 j (by omega)) (fun j j1 j2 => G70a j)
        · rw [Bo 8 (by omega) (by omega) (by omega), G7k 28 (by omega) (by omega) (by omega) (by omega) (by omega), G7k 29 (by omega) (by omega) (by omega) (by omega) (by omega)]
          exact h9.of (G70a 26) (G70a 27)
        · rw [Bo 9 (by omega) (by omega) (by omega), G7k 48 (by omega) (by omega) (by omega) (by omega) (by omega)]
          exact h10.of (fun j j1 j2 => G70a j)
        · rw [B0]; exact ⟨h, b5⟩
        · exact fun k k2 k5 => ⟨Bo k (by omega) (by omega) (by omega), rfl⟩
    · have hno := l2 cn
      have hm' : Rm 0 (σ 0) (upA σ 6 0 (upd (σ 6 0) 9 0) 7) := hm
      refine ⟨-6, upA σ 6 0 (upd (σ 6 0) 9 0), ?_, upA σ 6 0 (upd (σ 6 0) 9 0), ?_, hI.l9 0⟩
      · simp only [fI_comes, fI_comes_0, fI_within_eq, c, bp_s, has_in h hr, k1, hno, bi_s, ↓reduceIte]
      · have qn : ¬ nI n ≤ nI (cR (σ 0) r) := nI_ge (by omega) (by omega)
        simp only [fM_comes, fM_comes_0, fM_in_eq, c, bp_s, isRoom_in h hm' hr, k1, m_cR h hm', qn, ↓reduceIte]
  · refine ⟨-2, σ, ?_, σ, ?_, hI⟩
    · simp only [fI_comes, fI_comes_0, fI_within_eq, c, bp_s, has_out h hr, ↓reduceIte]
    · simp only [fM_comes, fM_comes_0, fM_in_eq, c, bp_s, isRoom_out h hm hr, ↓reduceIte]
