/-! the reference's, one by one -/
theorem dim_of {v : Vw} (h : okStore v) {r : Nat} (hr : r < vn v) : dimOk (vw v r) (vy v r) (vz v r) := by
  obtain ⟨-, ⟨w1, w2, -⟩, ⟨y1, y2, -⟩, ⟨z1, z2, -⟩, -⟩ := okS h hr
  exact ⟨⟨w1, w2⟩, ⟨y1, y2⟩, z1, z2⟩
theorem m_flr {τ : Sg} {v : Vw} (h : okStore v) (hm : Rm 0 v (τ 7)) {r : Nat} (hr : r < vn v) : fM_floor τ (nI r) = some (nI (vw v r * vy v r)) := by
  obtain ⟨m1, m2, m3, m4, -⟩ := hm.2.2.1 r hr
  simp only [Nat.mul_zero, Nat.zero_add] at m1 m2 m3 m4
  obtain ⟨-, ⟨-, -, ew⟩, ⟨-, -, ey⟩, -⟩ := okS h hr
  simp only [fM_floor, fM_floor_0, ib48 h hr, cl8 h hr, gd_t, m2, m3, ew, ey, pk_mul]
theorem Rm_52 {v : Vw} {τ : Sg} (hm : Rm 0 v (τ 7)) (f : Nat → Int32) : Rm 0 v (upA τ 7 52 f 7) := Rm_of_k hm (fun k _ h2 => by rw [upA_a, if_neg (by omega)])
theorem fill_scan {τ : Sg} {v : Vw} (h : okStore v) (hm : Rm 0 v (τ 7)) {r w y z : Nat} (hr : r < vn v) (ew : vw v r = w) (ey : vy v r = y) (ez : vz v r = z) {k38 : Sg → Int32 → Int32 → Int32 → Int32 → Option Sg} {x4 : Int32} {q : Nat} {u : Int32} (hq : q < w * y * z) (he : scn w y z (τ 7 52) (w * y * z) = (nI q, u)) : ∀ m i n, i + m = w * y * z → m < n → fM_fills_56 k38 n τ (nI r) (nI (w * y * z)) (nI (w * y)) x4 (scn w y z (τ 7 52) i).1 (scn w y z (τ 7 52) i).2 (nI i) = k38 (upA τ 7 52 (upd (τ 7 52) q 1)) (nI r) (nI (w * y * z)) (nI (w * y)) (x4 + 1) := by
  have hd := dim_of h hr
  rw [ew, ey, ez] at hd
  have hs := hd.s
  have hsh : ∀ p, p < w * y * z → fM_shut τ (nI r) (nI p) = some (nI (shN w y z (τ 7 52) p)) := fun p hp => by
    have := shut_m h hm hr (p := p) (by unfold vs; rw [ew, ey, ez]; exact hp)
    rwa [ew, ey, ez] at this
  intro m
  induction m with
  | zero =>
    intro i n hi hn
    obtain ⟨n, rfl⟩ : ∃ k, n = k + 1 := ⟨n - 1, by omega⟩
    have e : i = w * y * z := by omega
    have n1 : vp_nar .boolean 1 = 1 := by decide
    rw [fM_fills_56, fM_fills_56_b, if_pos (nI_le (by omega) (by omega)), e, he]
    show gd (ib (nI q) 180) _ = _
    rw [ib_nI (show q < 180 by omega) (by decide), gd_t, lt_v, lt_v, nI_clamp (by omega), n1]
  | succ m ih =>
    intro i n hi hn
    obtain ⟨n, rfl⟩ : ∃ k, n = k + 1 := ⟨n - 1, by omega⟩
    have hp : i < w * y * z := by omega
    have hrec := ih (i + 1) n (by omega) (by omega)
    rw [fM_fills_56, fM_fills_56_b, if_neg (nI_ge (by omega) (by omega)), ib_nI (show i < 180 by omega) (by decide), gd_t, nI_clamp (by omega)]
    simp only [fM_fills_118, fM_fills_90, lt_v, nI_1, hsh i hp, bp_s]
    rw [← hrec]
    have hlt : (scn w y z (τ 7 52) i).2 < nI (shN w y z (τ 7 52) i) ↔ ¬ nI (shN w y z (τ 7 52) i) ≤ (scn w y z (τ 7 52) i).2 := Int32.not_le.symm
    by_cases c1 : τ 7 52 i = 0
    · rw [if_pos c1]
      have go : ∀ (c2 : ¬ (w * y ≤ i ∧ τ 7 52 (i - w * y) = 0)), (if (scn w y z (τ 7 52) i).2 < nI (shN w y z (τ 7 52) i) then fM_fills_56 k38 n τ (nI r) (nI (w * y * z)) (nI (w * y)) x4 (nI i) (nI (shN w y z (τ 7 52) i)) (nI (i + 1)) else fM_fills_56 k38 n τ (nI r) (nI (w * y * z)) (nI (w * y)) x4 (scn w y z (τ 7 52) i).1 (scn w y z (τ 7 52) i).2 (nI (i + 1))) = fM_fills_56 k38 n τ (nI r) (nI (w * y * z)) (nI (w * y)) x4 (scn w y z (τ 7 52) (i + 1)).1 (scn w y z (τ 7 52) (i + 1)).2 (nI (i + 1)) := by
        intro c2
        by_cases c3 : nI (shN w y z (τ 7 52) i) ≤ (scn w y z (τ 7 52) i).2
        · have nc : ¬ (cand w y (τ 7 52) i ∧ ¬ nI (shN w y z (τ 7 52) i) ≤ (scn w y z (τ 7 52) i).2) := fun q => q.2 c3
          rw [if_neg (fun q => hlt.mp q c3)]
          conv => rhs; rw [scn, if_neg nc]
        · have yc : cand w y (τ 7 52) i ∧ ¬ nI (shN w y z (τ 7 52) i) ≤ (scn w y z (τ 7 52) i).2 := ⟨⟨c1, c2⟩, c3⟩
          rw [if_pos (hlt.mpr c3)]
          conv => rhs; rw [scn, if_pos yc]
      by_cases c : w * y ≤ i
      · rw [if_neg (nI_nlt c (by omega)), pk_sub c, ib_nI (show i - w * y < 180 by omega) (by decide), gd_t, nI_clamp (by omega)]
        by_cases d : τ 7 52 (i - w * y) = 0
        · have nc : ¬ (cand w y (τ 7 52) i ∧ ¬ nI (shN w y z (τ 7 52) i) ≤ (scn w y z (τ 7 52) i).2) := fun q => q.1.2 ⟨c, d⟩
          rw [if_pos d]
          conv => rhs; rw [scn, if_neg nc]
        · rw [if_neg d]
          exact go (fun q => d q.2)
      · rw [if_pos (nI_lt (by omega) (by omega))]
        exact go (fun q => c q.1)
    · have nc : ¬ (cand w y (τ 7 52) i ∧ ¬ nI (shN w y z (τ 7 52) i) ≤ (scn w y z (τ 7 52) i).2) := fun q => c1 q.1.1
      rw [if_neg c1]
      conv => rhs; rw [scn, if_neg nc]
theorem fills_loop {v : Vw} (h : okStore v) {r w y z N : Nat} (hr : r < vn v) (ew : vw v r = w) (ey : vy v r = y) (ez : vz v r = z) (hN : N ≤ w * y * z) : ∀ m k n (τ : Sg), k + m = N → m < n → Rm 0 v (τ 7) → τ 7 0 51 = nI N → (∀ p, p < w * y * z → τ 7 52 p = itA w y z k p) → ∃ f, fM_fills_38 n τ (nI r) (nI (w * y * z)) (nI (w * y)) (nI k) = some (upA τ 7 52 f) ∧ ∀ p, p < w * y * z → f p = itA w y z N p := by
  have hd := dim_of h hr
  rw [ew, ey, ez] at hd
  have hs := hd.s
  intro m
  induction m with
  | zero =>
    intro k n τ hk hn hm h51 hA
    obtain ⟨n, rfl⟩ : ∃ k, n = k + 1 := ⟨n - 1, by omega⟩
    have e : k = N := by omega
    refine ⟨τ 7 52, ?_, fun p hp => by rw [← e]; exact hA p hp⟩
    rw [fM_fills_38, fM_fills_38_b, h51, if_pos (nI_le (by omega) (by omega)), upA_id]
  | succ m ih =>
    intro k n τ hk hn hm h51 hA
    obtain ⟨n, rfl⟩ : ∃ k, n = k + 1 := ⟨n - 1, by omega⟩
    obtain ⟨q, hq, e1, e2⟩ := itA_q hd (show k < w * y * z by omega)
    have e3 : scn w y z (τ 7 52) (w * y * z) = (nI q, nI (shN w y z (itA w y z k) q)) := by rw [scn_cong hd hA _ (Nat.le_refl _), e1]
    have hsc := fill_scan h hm hr ew ey ez (k38 := fun σ x1 x2 x3 x4 => fM_fills_38 n σ x1 x2 x3 x4) (x4 := nI k) hq e3 (w * y * z) 0 FU (by omega) (by unfold FU; omega)
    obtain ⟨f, f1, f2⟩ := ih (k + 1) n (upA τ 7 52 (upd (τ 7 52) q 1)) (by omega) (by omega) (Rm_52 hm _) h51 (fun p hp => by
      rw [upA_same, e2, upd_r, upd_r, hA p hp])
    rw [upA_upA] at f1
    refine ⟨f, ?_, f2⟩
    rw [fM_fills_38, fM_fills_38_b, h51, if_neg (nI_ge (by omega) (by omega)), ← f1]
    rw [nI_1] at hsc
    exact hsc
theorem fills_zero {v : Vw} (h : okStore v) {r S F : Nat} (hS : S ≤ 180) : ∀ m i n (τ : Sg), i + m = S → m < n → (∀ p, p < i → τ 7 52 p = 0) → ∃ f, fM_fills_15 n τ (nI r) (nI S) (nI F) (nI i) = fM_fills_38 FU (upA τ 7 52 f) (nI r) (nI S) (nI F) 0 ∧ ∀ p, p < S → f p = 0 := by
  intro m
  induction m with
  | zero =>
    intro i n τ hi hn hz
    obtain ⟨n, rfl⟩ : ∃ k, n = k + 1 := ⟨n - 1, by omega⟩
    refine ⟨τ 7 52, ?_, fun p hp => hz p (by omega)⟩
    rw [fM_fills_15, fM_fills_15_b, if_pos (nI_le (by omega) (by omega)), upA_id]
  | succ m ih =>
    intro i n τ hi hn hz
    obtain ⟨n, rfl⟩ : ∃ k, n = k + 1 := ⟨n - 1, by omega⟩
    have n0 : vp_nar .boolean 0 = 0 := by decide
    obtain ⟨f, f1, f2⟩ := ih (i + 1) n (upA τ 7 52 (upd (τ 7 52) i 0)) (by omega) (by omega) (fun p hp => by
      rw [upA_same, upd_r]
      split
      · rfl
      · exact hz p (by omega))
    rw [upA_upA] at f1
    refine ⟨f, ?_, f2⟩
    rw [fM_fills_15, fM_fills_15_b, if_neg (nI_ge (by omega) (by omega)), ib_nI (show i < 180 by omega) (by decide), gd_t, lt_v, lt_v, nI_1, nI_clamp (by omega), n0, ← f1]
theorem fills_m {τ : Sg} {v : Vw} (h : okStore v) (hm : Rm 0 v (τ 7)) {r N : Nat} (hr : r < vn v) (hN : N ≤ vs v r) (h51 : τ 7 0 51 = nI N) : ∃ f, fM_fills τ (nI r) = some (upA τ 7 52 f) ∧ ∀ p, p < vs v r → f p = itA (vw v r) (vy v r) (vz v r) N p := by
  have hv := vs_le (okS h hr)
  rw [fM_fills, fM_fills_0, m_places h hm hr, bp_s, m_flr h hm hr, bp_s]
  obtain ⟨g, g1, g2⟩ := fills_zero h (r := r) (S := vs v r) (F := vw v r * vy v r) (by omega) (vs v r) 0 FU τ (by omega) (by unfold FU; omega) (fun p hp => absurd hp (Nat.not_lt_zero p))
  obtain ⟨f, f1, f2⟩ := fills_loop h hr rfl rfl rfl hN N 0 FU (upA τ 7 52 g) (by omega) (by unfold FU; omega) (Rm_52 hm g) h51 (fun p hp => by rw [upA_same]; exact g2 p hp)
  rw [upA_upA] at f1
  exact ⟨f, g1.trans f1, f2⟩
