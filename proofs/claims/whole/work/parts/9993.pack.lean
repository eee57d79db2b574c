theorem rooms_10 {τ : Sg} {v : Vw} (h : okStore v) (hm : Rm 0 v (τ 7)) {r : Nat} (hr : r < vn v) : fM_rooms τ (nI r) 10 = some (airR v r) := by
  have k1 : ¬ (1 : Int32) = 0 := by decide
  have w : wi 10 0 11 = 1 := by decide
  rw [fM_rooms, fM_rooms_0, fM_in_eq, w, bp_s, if_neg k1, isRoom_in h hm hr, bp_s, if_neg k1, if_neg (by decide), if_neg (by decide), if_neg (by decide), if_neg (by decide), if_neg (by decide), if_neg (by decide), if_neg (by decide), if_neg (by decide), if_neg (by decide), if_neg (by decide)]
  exact (rooms_m h hm hr).1
theorem pack_go {lv lv1 : Nat → Bool} {σ τ0 : Sg} (hI : Inv lv σ) (hl : lv1 10 = true) (hlv : ∀ s, s ≠ 10 → lv1 s = lv s) (hτ : ∀ s, s ≠ 10 → τ0 s = σ s) {r N : Nat} (hr : r < vn (σ 0)) (hN : N ≤ vs (σ 0) r) (hN30 : N ≤ 30) (e4 : σ 6 4 0 = nI N) (e51 : σ 7 0 51 = nI N) (hb : vb (σ 0) + N ≤ 300) (hz : ∀ q, q < vs (σ 0) r → vc (σ 0) r q = 0) (hh : ∀ i, i < N → σ 6 16 i = σ 7 49 i ∧ σ 6 17 i = σ 7 50 i ∧ (∃ k : Nat, k ≤ 2 ∧ σ 6 16 i = nI k) ∧ ∃ g : Nat, 1000 ≤ g ∧ g ≤ 1000000 ∧ σ 6 17 i = nI g) : ∃ x σ1, fI_pack_137 lv1 τ0 (nI r) = some (x, σ1, lv1) ∧ Rm 0 (σ 0) (σ1 7) ∧ σ1 7 = σ 7 ∧ ∃ σ2, chM σ1 (nI r) = some (x, σ2) ∧ Inv lv1 σ2 := by
  obtain ⟨h, hm⟩ := hI.2.2.2.1
  have hv := vs_le (okS h hr)
  have h0 : τ0 0 = σ 0 := hτ 0 (by decide)
  have h6 : τ0 6 = σ 6 := hτ 6 (by decide)
  obtain ⟨σ9, A, c1, c2, c3, c4, c5⟩ := choose_both (σ := τ0) (r := r) (N := N) (by rw [h0]; exact h) (by rw [h0]; exact hr) (by rw [h0]; exact hN) hN30
  rw [h0] at c3 c4 c5
  have s9 : ∀ s, s ≠ 10 → σ9 s = σ s := fun s hs => (c2 s hs).trans (hτ s hs)
  have n6 := s9 6 (by decide)
  have hkk : ∀ i, i < N → ∃ n : Nat, n ≤ 2 ∧ σ 6 16 i = nI n := fun i hi => (hh i hi).2.2.1
  have hgg : ∀ i, i < N → ∃ n : Nat, n ≤ 1000000 ∧ σ 6 17 i = nI n := fun i hi => by
    obtain ⟨g, -, g2, g3⟩ := (hh i hi).2.2.2
    exact ⟨g, g2, g3⟩
  obtain ⟨Y, y1, y2, y3⟩ := heap_c (lv := lv1) hl (σ := σ9) (v := σ 0) (s9 0 (by decide)) h hr hz c4 hN30 hb (by rw [n6]; exact e4) c3 (by rw [n6]; exact hkk) (by rw [n6]; exact hgg) (vs (σ 0) r) 0 FU σ9 (Nat.zero_add _) (by unfold FU; omega) (s9 0 (by decide)) (fun _ _ => rfl)
  rw [n6] at y1 y2
  have z0 : nI 0 = (0 : Int32) := rfl
  have zA : nI (cntF A 0) = (0 : Int32) := rfl
  rw [zA, z0] at y1
  have hu := cv_ok h (A := A) (hk := σ 6 16) (hg := σ 6 17) hr hz c4 hb hkk hgg (vs (σ 0) r) (Nat.le_refl _)
  obtain ⟨u1, u2, u3, u4, -⟩ := hu
  have hru : r < vn (cvV (σ 0) A (σ 6 16) (σ 6 17) r (vs (σ 0) r)) := by rw [u2]; exact hr
  have hcut : fI_cutHeapInto lv1 σ9 (nI r) = some (upA Y 6 4 (upd (σ 6 4) 0 0)) := by
    have e8 := (okS h hr).2.2.2.2.2.2.2.1
    rw [fI_cutHeapInto, fI_cutHeapInto_0, ib8 h hr, gd_t, lt_v, cl8 h hr, s9 0 (by decide), e8]
    exact y1
  obtain ⟨Z, eZ⟩ : ∃ Z : Sg, upA Y 6 4 (upd (σ 6 4) 0 0) = Z := ⟨_, rfl⟩
  rw [eZ] at hcut
  have Z0 : Z 0 = cvV (σ 0) A (σ 6 16) (σ 6 17) r (vs (σ 0) r) := by rw [← eZ, upA_o _ _ _ (by decide)]; exact y2
  have Zs : ∀ s, s ≠ 0 → s ≠ 6 → Z s = σ9 s := fun s h1 h2 => by rw [← eZ, upA_o _ _ _ h2]; exact y3 s h1
  have Z6 : ∀ k, Z 6 k = if k = 4 then upd (σ 6 4) 0 0 else σ 6 k := fun k => by rw [← eZ, upA_a, y3 6 (by decide), n6]
  obtain ⟨g, hg⟩ := air_c (σ := Z) (a := 0) (by decide) Z0 u1.w hru
  obtain ⟨S1, eS⟩ : ∃ S : Sg, stI (upA Z 6 11 g) (airR (cvV (σ 0) A (σ 6 16) (σ 6 17) r (vs (σ 0) r)) r) = S := ⟨_, rfl⟩
  have Ss : ∀ s, s ≠ 6 → S1 s = Z s := fun s hs => by rw [← eS, stI_o _ _ hs, upA_o _ _ _ hs]
  have S6 : ∀ k, k ≠ 0 → k ≠ 11 → S1 6 k = Z 6 k := fun k h1 h2 => by
    rw [← eS]
    unfold stI
    rw [upA_a, if_neg h1, upA_a, if_neg h2]
  have S60 : ∀ j, j ≠ 14 → S1 6 0 j = σ 6 0 j := fun j hj => by
    rw [← eS]
    unfold stI
    rw [upA_a, if_pos rfl, upd_r, if_neg hj, upA_a, if_neg (by decide), Z6, if_neg (by decide)]
  have S614 : S1 6 0 14 = if 0 ≤ airR (cvV (σ 0) A (σ 6 16) (σ 6 17) r (vs (σ 0) r)) r then 0 else airR (cvV (σ 0) A (σ 6 16) (σ 6 17) r (vs (σ 0) r)) r := by rw [← eS]; rfl
  have S7 : S1 7 = σ 7 := by rw [Ss 7 (by decide), Zs 7 (by decide) (by decide)]; exact s9 7 (by decide)
  refine ⟨airR (cvV (σ 0) A (σ 6 16) (σ 6 17) r (vs (σ 0) r)) r, S1, ?_, by rw [S7]; exact hm, S7, ?_⟩
  · rw [fI_pack_137, hl, gd_t, h6, e4, c1, bp_s, hcut, bp_s, hg, bi_s, fI_answer_eq, bi_s, eS]
  obtain ⟨f, f1, f2⟩ := c5 S1 (by rw [S7]; exact hm) (by rw [S7]; exact e51)
  obtain ⟨T, eT⟩ : ∃ T : Sg, upA S1 7 52 f = T := ⟨_, rfl⟩
  rw [eT] at f1
  have Ts : ∀ s, s ≠ 7 → T s = S1 s := fun s hs => by rw [← eT, upA_o _ _ _ hs]
  have T7 : ∀ k, k ≠ 52 → T 7 k = σ 7 k := fun k hk => by rw [← eT, upA_a, if_neg hk, S7]
  have T52 : T 7 52 = f := by rw [← eT, upA_same]
  have TR : Rm 0 (σ 0) (T 7) := Rm_of_k hm (fun k _ h2 => T7 k (by omega))
  obtain ⟨W, w1, w2, w3, w4, w5⟩ := heap_m (τ := T) h (A := A) (hk := σ 6 16) (hg := σ 6 17) hr hz c4 hN30 hb (by rw [T52]; exact f2) hkk hgg (fun i hi => by rw [T7 49 (by decide)]; exact (hh i hi).1.symm) (fun i hi => by rw [T7 50 (by decide)]; exact (hh i hi).2.1.symm) (vs (σ 0) r) 0 FU T (Nat.zero_add _) (by unfold FU; omega) TR (Ofs.refl _) (fun _ _ => rfl) (fun _ _ => rfl)
  rw [zA, z0] at w1
  obtain ⟨V, eV⟩ : ∃ V : Sg, upA W 7 0 (upd (T 7 0) 51 0) = V := ⟨_, rfl⟩
  rw [eV] at w1
  have Vs : ∀ s, s ≠ 7 → V s = S1 s := fun s hs => by rw [← eV, upA_o _ _ _ hs, w5 s hs]; exact Ts s hs
  have V7 : ∀ k, k ≠ 0 → V 7 k = W 7 k := fun k hk => by rw [← eV, upA_a, if_neg hk]
  have V70 : V 7 0 = upd (σ 7 0) 51 0 := by rw [← eV, upA_same, T7 0 (by decide)]
  have VR : Rm 0 (cvV (σ 0) A (σ 6 16) (σ 6 17) r (vs (σ 0) r)) (V 7) := Rm_of_k w2 (fun k h1 _ => V7 k (by omega))
  refine ⟨stM V (airR (cvV (σ 0) A (σ 6 16) (σ 6 17) r (vs (σ 0) r)) r), ?_, ?_⟩
  · rw [f1, fM_pack_118, w1, rooms_10 u1 VR hru, bp_s, fM_ends_eq, bi_s]
  obtain ⟨G, eG⟩ : ∃ G : Sg, stM V (airR (cvV (σ 0) A (σ 6 16) (σ 6 17) r (vs (σ 0) r)) r) = G := ⟨_, rfl⟩
  rw [eG]
  have Gs : ∀ s, s ≠ 7 → G s = S1 s := fun s hs => by rw [← eG, stM_o _ _ hs]; exact Vs s hs
  have G7 : ∀ k, k ≠ 0 → G 7 k = W 7 k := fun k hk => by
    rw [← eG]
    unfold stM
    rw [upA_a, if_neg hk]
    exact V7 k hk
  have G70 : ∀ j, j ≠ 0 → G 7 0 j = upd (σ 7 0) 51 0 j := fun j hj => by
    rw [← eG]
    unfold stM
    rw [upA_a, if_pos rfl, upd_r, if_neg hj, V70]
  have G700 : G 7 0 0 = if 0 ≤ airR (cvV (σ 0) A (σ 6 16) (σ 6 17) r (vs (σ 0) r)) r then 0 else airR (cvV (σ 0) A (σ 6 16) (σ 6 17) r (vs (σ 0) r)) r := by rw [← eG]; rfl
  have Gk : ∀ k, k ≠ 0 → k ≠ 52 → (k ≤ 5 ∨ 25 ≤ k) → G 7 k = σ 7 k := fun k h1 h2 h3 => by
    rw [G7 k h1, w4 k (by omega), T7 k h2]
  have G0j : ∀ j, j ≠ 0 → j ≠ 51 → G 7 0 j = σ 7 0 j := fun j h1 h2 => by rw [G70 j h1, upd_r, if_neg h2]
  have G6 : ∀ k, k ≠ 0 → k ≠ 4 → k ≠ 11 → G 6 k = σ 6 k := fun k h1 h2 h3 => by rw [Gs 6 (by decide), S6 k h1 h3, Z6, if_neg h2]
  have G60 : ∀ j, j ≠ 14 → G 6 0 j = σ 6 0 j := fun j hj => by rw [Gs 6 (by decide)]; exact S60 j hj
  have G64 : G 6 4 = upd (σ 6 4) 0 0 := by rw [Gs 6 (by decide), S6 4 (by decide) (by decide), Z6, if_pos rfl]
  have Gx : ∀ s, s ≠ 0 → s ≠ 6 → s ≠ 7 → s ≠ 10 → G s = σ s := fun s h1 h2 h3 h4 => by rw [Gs s h3, Ss s h2, Zs s h1 h2, s9 s h4]
  have hI0 := hI
  obtain ⟨⟨-, -, -, -, -, b6, b7, -⟩, b9, b10, -⟩ := hI0
  refine Inv_mk hI ?_ (G6 2 (by decide) (by decide) (by decide)) (G6 3 (by decide) (by decide) (by decide)) (G6 5 (by decide) (by decide) (by decide)) (G6 9 (by decide) (by decide) (by decide)) (G6 10 (by decide) (by decide) (by decide)) (G6 14 (by decide) (by decide) (by decide)) (G6 15 (by decide) (by decide) (by decide)) (fun j h1 h2 => G0j j (by omega) (by omega)) (G0j 34 (by decide) (by decide)) (Gk 1 (by decide) (by decide) (by decide)) (Gk 2 (by decide) (by decide) (by decide)) (Gk 32 (by decide) (by decide) (by decide)) (Gk 33 (by decide) (by decide) (by decide)) (Gk 40 (by decide) (by decide) (by decide)) ?_ ?_ ?_ ?_ ?_ ?_ ?_ ?_
  · rw [Gs 6 (by decide), S614, G700]
  · refine ⟨0, by omega, ?_, ?_, fun i hi => absurd hi (Nat.not_lt_zero i)⟩
    · rw [G64, upd_r, if_pos rfl]; rfl
    · rw [G70 51 (by decide), upd_r, if_pos rfl]; rfl
  · rw [G6 7 (by decide) (by decide) (by decide), Gk 35 (by decide) (by decide) (by decide)]
    exact b6.of (G60 10 (by decide)) (G0j 36 (by decide) (by decide))
  · exact b7.of (fun j h1 h2 => G60 j (by omega)) (fun j h1 h2 => G0j j (by omega) (by omega))
  · rw [hlv 8 (by decide), Gx 8 (by decide) (by decide) (by decide) (by decide), Gk 28 (by decide) (by decide) (by decide), Gk 29 (by decide) (by decide) (by decide)]
    exact b9.of (G0j 26 (by decide) (by decide)) (G0j 27 (by decide) (by decide))
  · rw [hlv 9 (by decide), Gx 9 (by decide) (by decide) (by decide) (by decide), Gk 48 (by decide) (by decide) (by decide)]
    exact b10.of (fun j h1 h2 => G0j j (by omega) (by omega))
  · have G0 : G 0 = cvV (σ 0) A (σ 6 16) (σ 6 17) r (vs (σ 0) r) := by rw [Gs 0 (by decide), Ss 0 (by decide)]; exact Z0
    rw [G0]
    exact ⟨u1, Rm_of_k w2 (fun k h1 _ => G7 k (by omega))⟩
  · intro k h1 h2 j hj
    rw [G7 k (by omega), w3 k h1 h2 j hj, T7 k (by omega)]
  · exact fun k h1 h2 => ⟨Gx k (by omega) (by omega) (by omega) (by omega), hlv k (by omega)⟩
