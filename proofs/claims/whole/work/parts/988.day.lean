/-! day -/
theorem IvTerm.of {i m i' m' : Nat → Int32} (h : IvTerm i m) (hi : ∀ j, j < 3 → i' j = i j) (hm : ∀ j, 3 ≤ j → j ≤ 5 → m' j = m j) : IvTerm i' m' := by
  obtain ⟨p, w, l, h1, h2, h3, h4, e1, e2, e3, e4, e5, e6⟩ := h
  exact ⟨p, w, l, h1, h2, h3, h4, (hi 0 (by omega)).trans e1, (hm 3 (by omega) (by omega)).trans e2, (hi 1 (by omega)).trans e3, (hm 4 (by omega) (by omega)).trans e4, (hi 2 (by omega)).trans e5, (hm 5 (by omega) (by omega)).trans e6⟩
theorem IvWay.of {j jk jd m mk md m' : Nat → Int32} (h : IvWay j jk jd m mk md) (hm : m' 34 = m 34) : IvWay j jk jd m' mk md := by
  obtain ⟨n, h1, h2, h3, h4⟩ := h
  exact ⟨n, h1, h2, hm.trans h3, h4⟩
theorem IvHeap.of {a b c m d e m' : Nat → Int32} (h : IvHeap a b c m d e) (hm : m' 51 = m 51) : IvHeap a b c m' d e := by
  obtain ⟨n, h1, h2, h3, h4⟩ := h
  exact ⟨n, h1, h2, hm.trans h3, h4⟩
theorem IvList.of {a b m d a' m' : Nat → Int32} (h : IvList a b m d) (ha : a' 10 = a 10) (hm : m' 36 = m 36) : IvList a' b m' d := by
  obtain ⟨n, h1, h2, h3, h4⟩ := h
  exact ⟨n, h1, ha.trans h2, hm.trans h3, h4⟩
theorem IvSent.of {a m a' m' : Nat → Int32} (h : IvSent a m) (ha : ∀ j, 11 ≤ j → j ≤ 13 → a' j = a j) (hm : ∀ j, 37 ≤ j → j ≤ 39 → m' j = m j) : IvSent a' m' := by
  obtain ⟨h1, h2, h3⟩ := h
  exact ⟨by rw [ha 11 (by omega) (by omega), hm 37 (by omega) (by omega)]; exact h1, by rw [ha 12 (by omega) (by omega), hm 38 (by omega) (by omega)]; exact h2, by rw [ha 13 (by omega) (by omega), hm 39 (by omega) (by omega)]; exact h3⟩
theorem IvFore.of {b : Bool} {f fg m mg m' : Nat → Int32} (h : IvFore b f fg m mg) (hm : ∀ j, 44 ≤ j → j ≤ 47 → m' j = m j) : IvFore b f fg m' mg := by
  obtain ⟨h0, h1⟩ := h
  refine ⟨fun z => (hm 47 (by omega) (by omega)).trans (h0 z), fun z => ?_⟩
  obtain ⟨a1, d, r, a2, a3, a4, a5, a6, a7, a8, a9⟩ := h1 z
  exact ⟨(hm 47 (by omega) (by omega)).trans a1, d, r, a2, a3, a4, (hm 44 (by omega) (by omega)).trans a5, a6, (hm 45 (by omega) (by omega)).trans a7, a8.trans (hm 46 (by omega) (by omega)).symm, a9⟩
/-- all of Inv, where the parts that a call changes are shown anew -/
theorem Inv_mk {lv lv1 : Nat → Bool} {σ G : Sg} (hI : Inv lv σ) (g14 : G 6 0 14 = G 7 0 0) (g2 : G 6 2 = σ 6 2) (g3 : G 6 3 = σ 6 3) (g5 : G 6 5 = σ 6 5) (g9' : G 6 9 = σ 6 9) (g10 : G 6 10 = σ 6 10) (ga : G 6 14 = σ 6 14) (gb : G 6 15 = σ 6 15) (m345 : ∀ j, 3 ≤ j → j ≤ 5 → G 7 0 j = σ 7 0 j) (m34 : G 7 0 34 = σ 7 0 34) (m1 : G 7 1 = σ 7 1) (m2 : G 7 2 = σ 7 2) (m32 : G 7 32 = σ 7 32) (m33 : G 7 33 = σ 7 33) (m40 : G 7 40 = σ 7 40) (hH : IvHeap (G 6 4) (G 6 16) (G 6 17) (G 7 0) (G 7 49) (G 7 50)) (hL : IvList (G 6 0) (G 6 7) (G 7 0) (G 7 35)) (hT : IvSent (G 6 0) (G 7 0)) (hB : IvBook (lv1 8) (G 8 0) (G 8 1) (G 8 2) (G 7 0) (G 7 28) (G 7 29)) (hF : IvFore (lv1 9) (G 9 0) (G 9 1) (G 7 0) (G 7 48)) (hS : IvSt (G 0) (G 7)) (hO : Ofs (σ 7) (G 7)) (hg : ∀ k, 2 ≤ k → k ≤ 5 → G k = σ k ∧ lv1 k = lv k) : Inv lv1 G := by
  obtain ⟨⟨-, a2, a3, a4, -, -, -, a8⟩, -, -, -, b12, b13, b14, b15⟩ := hI
  obtain ⟨c2, d2⟩ := hg 2 (by omega) (by omega)
  obtain ⟨c3, d3⟩ := hg 3 (by omega) (by omega)
  obtain ⟨c4, d4⟩ := hg 4 (by omega) (by omega)
  obtain ⟨c5, d5⟩ := hg 5 (by omega) (by omega)
  refine ⟨⟨g14, ?_, ?_, ?_, hH, hL, hT, ?_⟩, hB, hF, hS, ?_, ?_, ?_, ?_⟩
  · rw [g2]; exact a2.of (fun _ _ => rfl) m345
  · rw [g5, m40]; exact a3
  · rw [g3, ga, gb, m32, m33]; exact a4.of m34
  · rw [g9', g10, m1, m2]; exact a8
  · rw [c2, d2]; exact b12.ofs hO
  · rw [c3, d3]; exact b13.ofs hO
  · rw [c4, d4]; exact b14.ofs hO
  · rw [c5, d5]; exact b15.ofs hO
theorem okStore_fin {u : Vw} (h : okStore u) (s : Int32) {d : Nat} (e : u 0 0 = nI d) (hd : d < 199) : okStore (finV u s) := by
  obtain ⟨h1, h2, -, h4, h5, h6, h7, h8⟩ := h
  refine ⟨h1, h2, ⟨d + 1, by omega, ?_⟩, h4, h5, h6, h7, h8⟩
  show u 0 0 + 1 = _
  rw [e, nI_1]
theorem Rm_fin {S : Sg} {u : Vw} (hm : Rm 0 u (S 7)) (s : Int32) : Rm 0 (finV u s) (upA (upA S 7 9 (upd (S 7 9) 2 (S 7 9 2 + s))) 7 6 (upd (S 7 6) 0 (S 7 6 0 + 1)) 7) := by
  obtain ⟨⟨a1, a2, a3⟩, ⟨b1, b2, b3, b4⟩, c, d, e, f⟩ := hm
  refine ⟨⟨?_, a2, a3⟩, ⟨b1, b2, ?_, b4⟩, c, d, e, f⟩
  · show S 7 6 0 + 1 = u 0 0 + 1
    rw [show S 7 6 0 = u 0 0 from a1]
  · show S 7 9 2 + s = u 0 3 + s
    rw [show S 7 9 2 = u 0 3 from b3]
theorem bkF_21 (v : Vw) (h : Nat → Int32) (L : Nat → Int32) (le : Int32) (f : Nat → Int32) : ∀ i, bkF (V21 v h) L le i f = bkF v L le i f
  | 0 => rfl
  | i + 1 => by
    unfold bkF
    rw [bkF_21 v h L le f i]
    rfl
theorem bA_21 (wr : Int32) (v : Vw) (h : Nat → Int32) (L : Nat → Int32) (le : Int32) (i : Nat) (f : Nat → Int32) : bA wr (V21 v h) L le i f = bA wr v L le i f := by
  unfold bA
  rw [bkF_21]
/-- the reference's day, whole: on the store v, by the tenths t -/
theorem goes_m {τ : Sg} {v : Vw} (hv : okStore v) (hm : Rm 0 v (τ 7)) {d t le : Int32} (ht : ∀ S : Sg, S 7 1 = τ 7 1 → S 7 2 = τ 7 2 → fM_tenthsOf S d = some t) (hL : LB v (Ls v (τ 7 0 3) (τ 7 0 4) t)) (ele : τ 7 0 5 = le) (wr : Int32) (hwr : wr = 0 ∨ τ 7 0 27 = 0) : ∃ F : Sg, fM_goes τ d wr = some (sumF (Ls v (τ 7 0 3) (τ 7 0 4) t) (vb v), F) ∧ (∀ s, s ≠ 7 → F s = τ s) ∧ Rm 0 (dayV (V21 v (f21 v (vb v))) (Ls v (τ 7 0 3) (τ 7 0 4) t) le) (F 7) ∧ Ofs (τ 7) (F 7) ∧ (∀ k, 26 ≤ k ∨ (1 ≤ k ∧ k < 6) → k ≠ 28 → k ≠ 29 → k ≠ 30 → k ≠ 31 → F 7 k = τ 7 k) ∧ (∀ j, j ≠ 27 → F 7 0 j = τ 7 0 j) ∧ F 7 0 27 = bN wr (Ls v (τ 7 0 3) (τ 7 0 4) t) (vb v) (τ 7 0 27) ∧ F 7 28 = bA wr v (Ls v (τ 7 0 3) (τ 7 0 4) t) le (vb v) (τ 7 28) ∧ F 7 29 = bA wr v (Ls v (τ 7 0 3) (τ 7 0 4) t) le (vb v) (τ 7 29) := by
  have h3 := hv.2.1.1
  obtain ⟨T, hP, h1⟩ := goes1_loop hv hm ht wr 0 (vb v) 0 FU τ (by omega) (by unfold FU; omega) ⟨fun _ _ => rfl, fun _ _ _ _ => rfl, fun b hb => absurd hb (by omega), fun b hb => absurd hb (by omega), fun b => by rw [if_neg (fun z => by omega)]⟩
  have hPr := hP.rm hm
  obtain ⟨p1, p2, p3, p4, p5⟩ := hP
  have t0 : T 7 0 = τ 7 0 := p2 0 (by omega) (by omega) (by omega)
  have t28 : T 7 28 = τ 7 28 := p2 28 (by omega) (by omega) (by omega)
  have t29 : T 7 29 = τ 7 29 := p2 29 (by omega) (by omega) (by omega)
  have hOT : Ofs (τ 7) (T 7) := fun k k6 k25 j hj => by
    by_cases c : k = 24
    · subst c
      have hj : 300 ≤ j := hj
      rw [p5 j, if_neg (fun z => by omega)]
    · rw [p2 k c (by omega) (by omega)]
  obtain ⟨S', g1, g2⟩ := goes2_loop (T := T) (wr := wr) (v := V21 v (f21 v (vb v))) (ok21 hv _) (L := Ls v (τ 7 0 3) (τ 7 0 4) t) (le := le) hL (by rw [t0]; exact ele) (fun b hb => p3 b hb) (fun b hb hn => p4 b hb hn) (vb v) 0 FU T 0 (by show 0 + vb v = vb v; omega) (by unfold FU; omega) ⟨fun _ _ => rfl, hPr, Ofs.refl _, fun _ _ _ _ => rfl, fun _ _ => rfl, by
      unfold bN
      rcases hwr with z | z
      · rw [if_pos z]
      · rw [t0, z]; split <;> rfl, by unfold bA; split <;> rfl, by unfold bA; split <;> rfl⟩ rfl
  obtain ⟨q1, q2, q3, q4, q5, q6, q7, q8⟩ := g2
  refine ⟨upA (upA S' 7 9 (upd (S' 7 9) 2 (S' 7 9 2 + sumF (Ls v (τ 7 0 3) (τ 7 0 4) t) (vb v)))) 7 6 (upd (S' 7 6) 0 (S' 7 6 0 + 1)), ?_, fun s hs => ?_, ?_, ?_, fun k hk k28 k29 k30 k31 => ?_, fun j hj => ?_, ?_, ?_, ?_⟩
  · rw [show fM_goes τ d wr = fM_goes_5 FU τ d wr 0 0 from rfl]
    exact (show fM_goes_5 FU τ d wr 0 0 = _ from h1).trans g1
  · rw [upA_o _ _ _ hs, upA_o _ _ _ hs, q1 s hs]; exact p1 s hs
  · exact Rm_fin q2 _
  · have o1 : Ofs (τ 7) (S' 7) := fun k k6 k25 j hj => (q3 k k6 k25 j hj).trans (hOT k k6 k25 j hj)
    have o2 := o1.up (c := 9) (i := 2) (x := S' 7 9 2 + sumF (Ls v (τ 7 0 3) (τ 7 0 4) t) (vb v)) (show 2 < 6 by omega)
    exact o2.up (c := 6) (i := 0) (x := S' 7 6 0 + 1) (show 0 < 1 by omega)
  · rw [upA_a, if_neg (by omega), upA_a, if_neg (by omega), q4 k hk k28 k29]
    exact p2 k (by omega) k30 k31
  · rw [upA_a, if_neg (by omega), upA_a, if_neg (by omega), q5 j hj, t0]
  · rw [upA_a, if_neg (by omega), upA_a, if_neg (by omega), q6, t0]
    rfl
  · rw [upA_a, if_neg (by omega), upA_a, if_neg (by omega), q7, t28]
    exact bA_21 _ _ _ _ _ _ _
  · rw [upA_a, if_neg (by omega), upA_a, if_neg (by omega), q8, t29]
    exact bA_21 _ _ _ _ _ _ _
theorem day_go {lv lv1 : Nat → Bool} {σ σb : Sg} (hI : Inv lv σ) {d : Nat} (hd : d < 199) (d1 : σ 0 0 0 = nI d) (hb : ∀ s, s ≠ 8 → σb s = σ s) (hlv : ∀ s, s ≠ 8 → lv1 s = lv s) (hl8 : lv1 8 = true) (hfi : fI_day lv σ = fI_day_38 lv1 σb) : ∃ r σ1 lv1, fI_day lv σ = some (r, σ1, lv1) ∧ ∃ σ2, fM_day σ1 = some (r, σ2) ∧ Inv lv1 σ2 := by
  obtain ⟨h, hm⟩ := hI.2.2.2.1
  obtain ⟨hdc, hdm⟩ := hI.day (show d < 200 by omega)
  obtain ⟨g1, g2⟩ := hI.rng (show d < 200 by omega)
  have hterm := hI.1.2.1
  obtain ⟨P, W, l, hP, hW, hl1, hl2, eP, eP', eW, eW', el, el'⟩ := hterm
  have b0 : σb 0 = σ 0 := hb 0 (by omega)
  have b6 : σb 6 = σ 6 := hb 6 (by omega)
  have b7 : σb 7 = σ 7 := hb 7 (by omega)
  have d2 : σ 7 6 0 = nI d := hm.1.1.trans d1
  have hLB := LB_Ls (v := σ 0) h hP hW g1 g2
  have htt : fI_tenthsToday σb = some (σ 6 10 d) := by
    show bp (fCalendar_tenthsOf σb (σb 0 0 0)) _ = _
    rw [b0, d1, hdc σb (by rw [b6])]; rfl
  obtain ⟨S, s1, s2, s3⟩ := weigh_c (σ := σb) (a := 0) (by omega) b0 h (σ 6 10 d)
  rw [b6, eP, eW] at s3
  have S0 : S 0 = σ 0 := (s2.1 0 (by omega)).trans b0
  have S62 : S 6 2 2 = nI l := by rw [s2.2 2 (by omega) (by omega) (by omega), b6]; exact el
  obtain ⟨B, w1, w2, w3, w4, w5, w6⟩ := write_c (S := S) (v := σ 0) S0 h s3 S62
  have B0 : B 0 = σ 0 := (w2 0 (by omega)).trans S0
  obtain ⟨X, x1, x2, x3, x4⟩ := passDay_c (σ := B) (a := 0) (by omega) B0 h (le := nI l) hLB (by rw [w2 6 (by omega)]; exact S62) (fun b hb => by rw [w2 6 (by omega)]; exact s3 b hb)
  generalize hr : sumF (Ls (σ 0) (nI P) (nI W) (σ 6 10 d)) (vb (σ 0)) = r at x1
  have X7 : X 7 = σ 7 := by rw [x2 7 (by omega) (by omega), w2 7 (by omega), s2.1 7 (by omega), b7]
  have X6 : ∀ k, k ≠ 11 → k ≠ 12 → k ≠ 13 → X 6 k = σ 6 k := fun k k11 k12 k13 => by rw [x3 k k11, w2 6 (by omega), s2.2 k k11 k12 k13, b6]
  -- the reference
  generalize hM0 : upA (stI X r) 7 0 (upd (upd (σ 7 0) 27 0) 26 1) = M0
  have M07 : ∀ k, k ≠ 0 → M0 7 k = σ 7 k := fun k hk => by rw [← hM0, upA_a, if_neg hk, stI_o _ _ (by omega), X7]
  have M00 : M0 7 0 = upd (upd (σ 7 0) 27 0) 26 1 := by rw [← hM0, upA_same]
  have hmM : Rm 0 (σ 0) (M0 7) := Rm_of_k hm (fun k k6 _ => M07 k (by omega))
  have a3 : M0 7 0 3 = nI P := by rw [M00]; exact eP'
  have a4 : M0 7 0 4 = nI W := by rw [M00]; exact eW'
  have hLB' : LB (σ 0) (Ls (σ 0) (M0 7 0 3) (M0 7 0 4) (σ 6 10 d)) := by rw [a3, a4]; exact hLB
  obtain ⟨F, f1, f2, f3, f4, f5, f6, f7, f8, f9⟩ := goes_m (τ := M0) h hmM (d := nI d) (t := σ 6 10 d) (le := nI l) (fun S e1 e2 => hdm S (e1.trans (M07 1 (by omega))) (e2.trans (M07 2 (by omega)))) hLB' (by rw [M00]; exact el') 1 (Or.inr (by rw [M00]; rfl))
  rw [a3, a4] at f1 f3 f7 f8 f9
  rw [hr] at f1
  have k1 : ¬ (1 : Int32) = 0 := by decide
  have i6 : ib 0 6 = true := by decide
  have c0 : (0 : Int32).toNatClampNeg = 0 := by decide
  have isb1 : isb 1 = true := by decide
  refine opIm (r := r) (s1 := stI X r) (s2 := stM F r) (lv1 := lv1) (B := fun s => fM_day s) ?_ ?_ ?_
  · rw [hfi]
    simp only [fI_day_38, htt, s1, hl8, gd_t, w1, x1, bp_s, bi_s, fI_answer_eq]
  · have ne : ¬ nI d = 199 := fun z => by have := (nI_eq (a := d) (b := 199) (by omega) (by omega)).mp z; omega
    have q7 : stI X r 7 = σ 7 := by rw [stI_o _ _ (by omega), X7]
    have q6 : M0 7 6 0 = nI d := by rw [M07 6 (by omega)]; exact d2
    have r70 : ∀ f : Nat → Int32, upA (stI X r) 7 0 f 7 0 = f := fun f => upA_same _ _ _ _
    simp only [fM_day, fM_day_0, i6, c0, gd_t, q7, d2, ne, lt_v, isb1, r70, upA_upA, hM0, q6, f1, bi_s, fM_ends_eq, ↓reduceIte]
  · have G6 : ∀ k, stM F r 6 k = stI X r 6 k := fun k => by rw [stM_o _ _ (by omega), f2 6 (by omega), ← hM0, upA_o _ _ _ (by omega)]
    have G6k : ∀ k, k ≠ 0 → k ≠ 11 → k ≠ 12 → k ≠ 13 → stM F r 6 k = σ 6 k := fun k k0 k11 k12 k13 => by
      rw [G6]
      unfold stI
      rw [upA_a, if_neg k0]
      exact X6 k k11 k12 k13
    have Gs : ∀ s, s ≠ 7 → s ≠ 6 → stM F r s = X s := fun s h7 h6 => by rw [stM_o _ _ h7, f2 s h7, ← hM0, upA_o _ _ _ h7, stI_o _ _ h6]
    have G60 : ∀ j, j ≠ 14 → stM F r 6 0 j = σ 6 0 j := fun j hj => by
      rw [G6]
      show upd (X 6 0) 14 _ j = _
      rw [upd_r, if_neg hj, X6 0 (by omega) (by omega) (by omega)]
    have G70 : ∀ j, j ≠ 0 → j ≠ 26 → j ≠ 27 → stM F r 7 0 j = σ 7 0 j := fun j h0 h26 h27 => by
      show upd (F 7 0) 0 _ j = _
      rw [upd_r, if_neg h0, f6 j h27, M00, upd_r, if_neg h26, upd_r, if_neg h27]
    have G7k : ∀ k, 26 ≤ k ∨ (1 ≤ k ∧ k < 6) → k ≠ 28 → k ≠ 29 → k ≠ 30 → k ≠ 31 → stM F r 7 k = σ 7 k := fun k hk k28 k29 k30 k31 => by
      unfold stM
      rw [upA_a, if_neg (by omega), f5 k hk k28 k29 k30 k31]
      exact M07 k (by omega)
    have hOf : Ofs (σ 7) (F 7) := fun k k6 k25 j hj => by rw [f4 k k6 k25 j hj, M07 k (by omega)]
    have hI' := hI
    obtain ⟨⟨-, -, -, -, h5, h6, h7, -⟩, h9, h10, -⟩ := hI'
    have hcb : clB (Ls (σ 0) (nI P) (nI W) (σ 6 10 d)) (vb (σ 0)) ≤ vb (σ 0) := cntF_le _ _
    have h3 := h.2.1.1
    refine Inv_mk (lv := lv) (σ := σ) hI ?_ (G6k 2 (by omega) (by omega) (by omega) (by omega)) (G6k 3 (by omega) (by omega) (by omega) (by omega)) (G6k 5 (by omega) (by omega) (by omega) (by omega)) (G6k 9 (by omega) (by omega) (by omega) (by omega)) (G6k 10 (by omega) (by omega) (by omega) (by omega)) (G6k 14 (by omega) (by omega) (by omega) (by omega)) (G6k 15 (by omega) (by omega) (by omega) (by omega)) (fun j j3 j5 => G70 j (by omega) (by omega) (by omega)) (G70 34 (by omega) (by omega) (by omega)) (G7k 1 (by omega) (by omega) (by omega) (by omega) (by omega)) (G7k 2 (by omega) (by omega) (by omega) (by omega) (by omega)) (G7k 32 (by omega) (by omega) (by omega) (by omega) (by omega)) (G7k 33 (by omega) (by omega) (by omega) (by omega) (by omega)) (G7k 40 (by omega) (by omega) (by omega) (by omega) (by omega)) ?_ ?_ ?_ ?_ ?_ ?_ ?_ ?_
    · rw [G6]; rfl
    · rw [G6k 4 (by omega) (by omega) (by omega) (by omega), G6k 16 (by omega) (by omega) (by omega) (by omega), G6k 17 (by omega) (by omega) (by omega) (by omega), G7k 49 (by omega) (by omega) (by omega) (by omega) (by omega), G7k 50 (by omega) (by omega) (by omega) (by omega) (by omega)]
      exact h5.of (G70 51 (by omega) (by omega) (by omega))
    · rw [G6k 7 (by omega) (by omega) (by omega) (by omega), G7k 35 (by omega) (by omega) (by omega) (by omega) (by omega)]
      exact h6.of (G60 10 (by omega)) (G70 36 (by omega) (by omega) (by omega))
    · exact h7.of (fun j j1 j2 => G60 j (by omega)) (fun j j1 j2 => G70 j (by omega) (by omega) (by omega))
    · have B8 : stM F r 8 = B 8 := by rw [Gs 8 (by omega) (by omega), x2 8 (by omega) (by omega)]
      have G28 : stM F r 7 28 = bkF (σ 0) (Ls (σ 0) (nI P) (nI W) (σ 6 10 d)) (nI l) (vb (σ 0)) (M0 7 28) := by
        show F 7 28 = _
        rw [f8]; unfold bA; rw [if_neg k1]
      have G29 : stM F r 7 29 = bkF (σ 0) (Ls (σ 0) (nI P) (nI W) (σ 6 10 d)) (nI l) (vb (σ 0)) (M0 7 29) := by
        show F 7 29 = _
        rw [f9]; unfold bA; rw [if_neg k1]
      have G26 : stM F r 7 0 26 = 1 := by
        show F 7 0 26 = 1
        rw [f6 26 (by omega), M00]; rfl
      have G27 : stM F r 7 0 27 = nI (clB (Ls (σ 0) (nI P) (nI W) (σ 6 10 d)) (vb (σ 0))) := by
        show F 7 0 27 = _
        rw [f7]; unfold bN; rw [if_neg k1]
      rw [B8, G28, G29]
      refine ⟨fun z => (by rw [hl8] at z; cases z), fun _ => ⟨clB (Ls (σ 0) (nI P) (nI W) (σ 6 10 d)) (vb (σ 0)), by omega, w3, G27, w4.trans G26.symm, Or.inr G26, fun j hj => ⟨?_, ?_⟩⟩⟩
      · rw [w6 j hj, w5]
        exact bkF_agree _ _ _ _ _ _ j hj
      · rw [w5]
        exact bkF_agree _ _ _ _ _ _ j hj
    · have B9 : stM F r 9 = σ 9 := by rw [Gs 9 (by omega) (by omega), x2 9 (by omega) (by omega), w2 9 (by omega), s2.1 9 (by omega), hb 9 (by omega)]
      rw [B9, G7k 48 (by omega) (by omega) (by omega) (by omega) (by omega), hlv 9 (by omega)]
      exact h10.of (fun j j1 j2 => G70 j (by omega) (by omega) (by omega))
    · have G0 : stM F r 0 = dayV (V21 (σ 0) (f21 (σ 0) (vb (σ 0)))) (Ls (σ 0) (nI P) (nI W) (σ 6 10 d)) (nI l) := by rw [Gs 0 (by omega) (by omega), x4]
      rw [G0]
      have hU := UI_all (ok21 h (vb (σ 0))) (le := nI l) (L := Ls (σ 0) (nI P) (nI W) (σ 6 10 d)) hLB (vb (σ 0)) (Nat.le_refl _)
      exact ⟨okStore_fin hU.1 _ (d := d) ((hU.2.2.2.2 0 (by omega)).trans d1) hd, f3⟩
    · exact fun k k6 k25 j hj => by
        unfold stM
        rw [upA_a, if_neg (by omega)]
        exact hOf k k6 k25 j hj
    · exact fun k k2 k5 => ⟨by rw [Gs k (by omega) (by omega), x2 k (by omega) (by omega), w2 k (by omega), s2.1 k (by omega), hb k (by omega)], hlv k (by omega)⟩
theorem op_day : Op_day Inv := by
  intro lv σ hI
  obtain ⟨d, hd, d1, d2⟩ := hI.today
  have i6 : ib 0 6 = true := by decide
  have c0 : (0 : Int32).toNatClampNeg = 0 := by decide
  by_cases c : d < 199
  · have q : nI d < 199 := nI_lt (b := 199) c (by omega)
    cases h8 : lv 8 with
    | true =>
      refine day_go (lv1 := lv) (σb := σ) hI c d1 (fun _ _ => rfl) (fun _ _ => rfl) h8 ?_
      simp only [fI_day, fI_day_0, d1, q, h8, ↓reduceIte]
    | false =>
      refine day_go (lv1 := setL lv 8) (σb := zap σ 8) hI c d1 (fun s hs => if_neg hs) (fun s hs => if_neg hs) (if_pos rfl) ?_
      simp only [fI_day, fI_day_0, d1, q, h8, mk2, Bool.false_eq_true, ↓reduceIte]
  · have e : d = 199 := by omega
    subst e
    have q : ¬ nI 199 < (199 : Int32) := by decide
    have q2 : nI 199 = (199 : Int32) := rfl
    refine opIm (r := -7) (s1 := stI σ (-7)) (lv1 := lv) (s2 := stM (stI σ (-7)) (-7)) (B := fun s => fM_day s) ?_ ?_ (hI.st (-7))
    · simp only [fI_day, fI_day_0, d1, q, fI_answer_eq, bi_s, ↓reduceIte]
    · have e7 : stI σ (-7) 7 6 0 = nI 199 := d2
      simp only [fM_day, fM_day_0, i6, c0, gd_t, e7, q2, fM_ends_eq, bi_s, ↓reduceIte]
