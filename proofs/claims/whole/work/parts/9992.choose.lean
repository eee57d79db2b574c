/-! pack: both sides choose the same places -/
def chC (σ : Sg) (x3 : Int32) : Option Sg := if 8 < x3 then fPacker_choose_117 σ 0 x3 else if 3 < (σ 10 0 0) then fPacker_choose_117 σ 0 x3 else if 3 < (σ 10 0 1) then fPacker_choose_117 σ 0 x3 else if 2 < (σ 10 0 2) then fPacker_choose_117 σ 0 x3 else bp (fPacker_tryFrom 20 (upA σ 10 0 (upd (σ 10 0) 4 (-1))) 0 x3 0) (fun σ6 => some σ6)
theorem clear_loop {w y z : Nat} (hd : dimOk w y z) {x3 : Int32} : ∀ m i n (σ : Sg), i + m = w * y * z → m < n → PK σ w y z → (∀ q, q < i → σ 10 1 q = 0) → ∃ f, fPacker_choose_49 n σ 0 x3 (nI i) = chC (upA σ 10 1 f) x3 ∧ ∀ q, q < w * y * z → f q = 0 := by
  have hs := hd.s
  intro m
  induction m with
  | zero =>
    intro i n σ hi hn hP h
    obtain ⟨n, rfl⟩ : ∃ k, n = k + 1 := ⟨n - 1, by omega⟩
    refine ⟨σ 10 1, ?_, fun q hq => h q (by omega)⟩
    rw [fPacker_choose_49, fPacker_choose_49_b, hP.2.2.2, if_pos (nI_le (by omega) (by omega)), upA_id]
    rfl
  | succ m ih =>
    intro i n σ hi hn hP h
    obtain ⟨n, rfl⟩ : ∃ k, n = k + 1 := ⟨n - 1, by omega⟩
    have n0 : vp_nar .boolean 0 = 0 := by decide
    obtain ⟨f, f1, f2⟩ := ih (i + 1) n (upA σ 10 1 (upd (σ 10 1) i 0)) (by omega) (by omega) hP (fun q hq => by
      rw [upA_same, upd_r]
      split
      · rfl
      · exact h q (by omega))
    rw [upA_upA] at f1
    refine ⟨f, ?_, f2⟩
    rw [fPacker_choose_49, fPacker_choose_49_b, hP.2.2.2, if_neg (nI_ge (by omega) (by omega)), ib_nI (show i < 180 by omega) (by decide), gd_t, lt_v, lt_v, nI_1, nI_clamp (by omega), n0, ← f1]
theorem choose_c {σ : Sg} (h : okStore (σ 0)) {r : Nat} (hr : r < vn (σ 0)) (x3 : Int32) : ∃ τ : Sg, fPacker_choose σ 0 (nI r) x3 = chC τ x3 ∧ PK τ (vw (σ 0) r) (vy (σ 0) r) (vz (σ 0) r) ∧ (∀ s, s ≠ 10 → τ s = σ s) ∧ ∀ q, q < vs (σ 0) r → τ 10 1 q = 0 := by
  have hk := okS h hr
  have hv := vs_le hk
  have hb := ib8 h hr
  have hc := cl8 h hr
  have hd := dim_of h hr
  obtain ⟨-, ⟨-, -, ew⟩, ⟨-, -, ey⟩, ⟨-, -, ez⟩, -, -, -, e8, -⟩ := hk
  have e180 : ¬ (180 : Int32) < nI (vs (σ 0) r) := nI_nlt (a := 180) (b := vs (σ 0) r) (by omega) (by omega)
  obtain ⟨G, eG⟩ : ∃ G : Sg, upA σ 10 0 (upd (upd (upd (upd (σ 10 0) 0 (nI (vw (σ 0) r))) 1 (nI (vy (σ 0) r))) 2 (nI (vz (σ 0) r))) 3 (nI (vs (σ 0) r))) = G := ⟨_, rfl⟩
  have hG : PK G (vw (σ 0) r) (vy (σ 0) r) (vz (σ 0) r) := by
    rw [← eG]
    exact ⟨rfl, rfl, rfl, rfl⟩
  obtain ⟨f, f1, f2⟩ := clear_loop hd (x3 := x3) (vs (σ 0) r) 0 FU G (Nat.zero_add _) (by unfold FU; omega) hG (fun q hq => absurd hq (Nat.not_lt_zero q))
  rw [show nI 0 = (0 : Int32) from rfl] at f1
  refine ⟨upA G 10 1 f, ?_, hG, fun s hs => ?_, fun q hq => by rw [upA_same]; exact f2 q hq⟩
  · rw [← f1]
    have o : ∀ (X : Sg) (g : Nat → Int32), upA X 10 0 g 0 = X 0 := fun X g => upA_o _ _ _ (by decide)
    rw [fPacker_choose, fPacker_choose_0, hb, gd_t, lt_v, gd_t, lt_v, gd_t, lt_v, gd_t, lt_v, hc]
    simp only [o, upA_upA, upA_same, ew, ey, ez, e8, if_neg e180]
    rw [eG]
  · rw [upA_o _ _ _ hs, ← eG, upA_o _ _ _ hs]
theorem i01_cho {A : Nat → Int32} {q : Nat} (h : A q = 0 ∨ A q = 1) : A q = i01 (cho A q) := by
  unfold cho
  rcases h with h | h <;> rw [h] <;> decide
/-- how the reference goes on -/
def chM (τ : Sg) (v1 : Int32) : Option (Int32 × Sg) := if 8 < (τ 7 0 51) then fM_pack_113 τ v1 else gd (ib v1 48) ((if 3 < (τ 7 11 v1.toNatClampNeg) then fM_pack_113 τ v1 else gd (ib v1 48) ((if 3 < (τ 7 12 v1.toNatClampNeg) then fM_pack_113 τ v1 else gd (ib v1 48) ((if 2 < (τ 7 13 v1.toNatClampNeg) then fM_pack_113 τ v1 else bp (fM_tries τ v1) (fun σ4 => fM_pack_118 σ4 v1)))))))
theorem choose_both {σ : Sg} (h : okStore (σ 0)) {r N : Nat} (hr : r < vn (σ 0)) (hN : N ≤ vs (σ 0) r) (hN30 : N ≤ 30) : ∃ σ9 A, fPacker_choose σ 0 (nI r) (nI N) = some σ9 ∧ (∀ s, s ≠ 10 → σ9 s = σ s) ∧ (∀ q, q < vs (σ 0) r → σ9 10 2 q = i01 (A q)) ∧ cntF A (vs (σ 0) r) = N ∧ ∀ τ : Sg, Rm 0 (σ 0) (τ 7) → τ 7 0 51 = nI N → ∃ f, chM τ (nI r) = fM_pack_118 (upA τ 7 52 f) (nI r) ∧ ∀ q, q < vs (σ 0) r → f q = i01 (A q) := by
  have hk := okS h hr
  have hv := vs_le hk
  have hd := dim_of h hr
  have h48 := ib48 h hr
  have hc := cl8 h hr
  obtain ⟨-, ⟨w1, w2, ew⟩, ⟨y1, y2, ey⟩, ⟨z1, z2, ez⟩, -⟩ := hk
  obtain ⟨G, g1, g2, g3, g4⟩ := choose_c h hr (nI N)
  have mdim : ∀ τ : Sg, Rm 0 (σ 0) (τ 7) → τ 7 11 r = nI (vw (σ 0) r) ∧ τ 7 12 r = nI (vy (σ 0) r) ∧ τ 7 13 r = nI (vz (σ 0) r) := by
    intro τ hm
    obtain ⟨m1, m2, m3, m4, -⟩ := hm.2.2.1 r hr
    simp only [Nat.mul_zero, Nat.zero_add] at m1 m2 m3 m4
    rw [ew] at m2; rw [ey] at m3; rw [ez] at m4
    exact ⟨m2, m3, m4⟩
  have big : (chC G (nI N) = fPacker_choose_117 G 0 (nI N)) → (∀ τ : Sg, Rm 0 (σ 0) (τ 7) → τ 7 0 51 = nI N → chM τ (nI r) = fM_pack_113 τ (nI r)) → ∃ σ9 A, fPacker_choose σ 0 (nI r) (nI N) = some σ9 ∧ (∀ s, s ≠ 10 → σ9 s = σ s) ∧ (∀ q, q < vs (σ 0) r → σ9 10 2 q = i01 (A q)) ∧ cntF A (vs (σ 0) r) = N ∧ ∀ τ : Sg, Rm 0 (σ 0) (τ 7) → τ 7 0 51 = nI N → ∃ f, chM τ (nI r) = fM_pack_118 (upA τ 7 52 f) (nI r) ∧ ∀ q, q < vs (σ 0) r → f q = i01 (A q) := by
    intro b1 b2
    obtain ⟨i1, i2⟩ := itA_ok hd N hN
    obtain ⟨f, f1, f2⟩ := one_loop hd hN N 0 FU G (Nat.zero_add _) (by unfold FU; omega) g2 (fun p hp => g4 p hp)
    obtain ⟨f', f3, f4⟩ := keep_c hd (C := cho (itA (vw (σ 0) r) (vy (σ 0) r) (vz (σ 0) r) N)) (σ := upA G 10 1 f) (by exact g2) (fun q hq => by rw [upA_same, f2 q hq]; exact i01_cho (i2 q))
    refine ⟨upA (upA G 10 1 f) 10 2 f', cho (itA (vw (σ 0) r) (vy (σ 0) r) (vz (σ 0) r) N), ?_, fun s hs => ?_, fun q hq => f4 q hq, i1, fun τ hm h51 => ?_⟩
    · have f1' : fPacker_chooseOneByOne G (nI N) = some (upA G 10 1 f) := f1
      rw [g1, b1, fPacker_choose_117, f1', bp_s, f3, bp_s]
    · rw [upA_o _ _ _ hs, upA_o _ _ _ hs]; exact g3 s hs
    · obtain ⟨g, k1, k2⟩ := fills_m h hm hr hN h51
      refine ⟨g, ?_, fun q hq => by rw [k2 q hq]; exact i01_cho (i2 q)⟩
      rw [b2 τ hm h51, fM_pack_113, k1, bp_s]
  have l8 : (8 : Int32) < nI N ↔ 8 < N := ⟨fun q => Classical.byContradiction (fun c => nI_nlt (a := 8) (b := N) (by omega) (by omega) q), fun q => nI_lt (a := 8) q (by omega)⟩
  have l3 : ∀ a : Nat, a ≤ 6 → ((3 : Int32) < nI a ↔ 3 < a) := fun a ha => ⟨fun q => Classical.byContradiction (fun c => nI_nlt (a := 3) (b := a) (by omega) (by omega) q), fun q => nI_lt (a := 3) q (by omega)⟩
  have l2 : ∀ a : Nat, a ≤ 6 → ((2 : Int32) < nI a ↔ 2 < a) := fun a ha => ⟨fun q => Classical.byContradiction (fun c => nI_nlt (a := 2) (b := a) (by omega) (by omega) q), fun q => nI_lt (a := 2) q (by omega)⟩
  have p0 := g2.1
  have p1 := g2.2.1
  have p2 := g2.2.2.1
  by_cases c1 : 8 < N
  · refine big ?_ (fun τ hm h51 => ?_)
    · unfold chC; rw [if_pos (l8.mpr c1)]
    · unfold chM; rw [h51, if_pos (l8.mpr c1)]
  have d1 : ¬ (8 : Int32) < nI N := fun q => c1 (l8.mp q)
  by_cases c2 : 3 < vw (σ 0) r
  · refine big ?_ (fun τ hm h51 => ?_)
    · unfold chC; rw [if_neg d1, p0, if_pos ((l3 _ w2).mpr c2)]
    · unfold chM; rw [h51, if_neg d1, h48, gd_t, hc, (mdim τ hm).1, if_pos ((l3 _ w2).mpr c2)]
  have d2 : ¬ (3 : Int32) < nI (vw (σ 0) r) := fun q => c2 ((l3 _ w2).mp q)
  by_cases c3 : 3 < vy (σ 0) r
  · refine big ?_ (fun τ hm h51 => ?_)
    · unfold chC; rw [if_neg d1, p0, if_neg d2, p1, if_pos ((l3 _ y2).mpr c3)]
    · unfold chM; rw [h51, if_neg d1, h48, gd_t, hc, (mdim τ hm).1, if_neg d2, gd_t, (mdim τ hm).2.1, if_pos ((l3 _ y2).mpr c3)]
  have d3 : ¬ (3 : Int32) < nI (vy (σ 0) r) := fun q => c3 ((l3 _ y2).mp q)
  by_cases c4 : 2 < vz (σ 0) r
  · refine big ?_ (fun τ hm h51 => ?_)
    · unfold chC; rw [if_neg d1, p0, if_neg d2, p1, if_neg d3, p2, if_pos ((l2 _ (by omega)).mpr c4)]
    · unfold chM; rw [h51, if_neg d1, h48, gd_t, hc, (mdim τ hm).1, if_neg d2, gd_t, (mdim τ hm).2.1, if_neg d3, gd_t, (mdim τ hm).2.2, if_pos ((l2 _ (by omega)).mpr c4)]
  have d4 : ¬ (2 : Int32) < nI (vz (σ 0) r) := fun q => c4 ((l2 _ (by omega)).mp q)
  have hsm : small (vw (σ 0) r) (vy (σ 0) r) (vz (σ 0) r) := ⟨by omega, by omega, by omega⟩
  have hS : vs (σ 0) r ≤ 18 := by
    have a1 : vw (σ 0) r * vy (σ 0) r ≤ 3 * 3 := Nat.mul_le_mul (by omega) (by omega)
    exact Nat.mul_le_mul a1 (show vz (σ 0) r ≤ 2 by omega)
  obtain ⟨σ', K, t1, t2, t3, t4⟩ := try_best hd hsm (by omega) hN g2 (fun q hq => g4 q hq)
  refine ⟨σ', K, ?_, fun s hs => by rw [t2 s hs]; exact g3 s hs, t4, t3.1.1, fun τ hm h51 => ?_⟩
  · rw [g1]
    unfold chC
    rw [if_neg d1, p0, if_neg d2, p1, if_neg d3, p2, if_neg d4, t1, bp_s]
  · obtain ⟨f, b', f1, f2, f3⟩ := tries_m h hm hr hsm hS hN h51
    refine ⟨f, ?_, fun q hq => by rw [f3 q hq, best_one t3 f2 q hq]⟩
    unfold chM
    rw [h51, if_neg d1, h48, gd_t, hc, (mdim τ hm).1, if_neg d2, gd_t, (mdim τ hm).2.1, if_neg d3, gd_t, (mdim τ hm).2.2, if_neg d4, f1, bp_s]
