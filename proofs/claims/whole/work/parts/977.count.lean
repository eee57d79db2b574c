/-! count -/
theorem op_count : Op_count Inv := by
  intro lv σ hI a1
  obtain ⟨h, hm⟩ := hI.2.2.2.1
  have h8 := h.1.1
  have k1 : ¬ (1 : Int32) = 0 := by decide
  have i6 : ib 0 6 = true := by decide
  have c0 : (0 : Int32).toNatClampNeg = 0 := by decide
  have n1 : (1 : Int32).toNatClampNeg = 1 := by decide
  have n2 : (2 : Int32).toNatClampNeg = 2 := by decide
  have n3 : (3 : Int32).toNatClampNeg = 3 := by decide
  have i0 : ib 0 36 = true := by decide
  have i1 : ib 1 36 = true := by decide
  have i2 : ib 2 36 = true := by decide
  have i3 : ib 3 36 = true := by decide
  have e60 : σ 7 6 0 = σ 0 0 0 := hm.1.1
  have e70 : σ 7 7 0 = σ 0 1 0 := hm.1.2.1
  have e80 : σ 7 8 0 = σ 0 15 0 := hm.1.2.2
  have e90 : σ 7 9 0 = σ 0 0 1 := hm.2.1.1
  have e91 : σ 7 9 1 = σ 0 0 2 := hm.2.1.2.1
  have e92 : σ 7 9 2 = σ 0 0 3 := hm.2.1.2.2.1
  have e93 : σ 7 9 3 = σ 0 0 4 := hm.2.1.2.2.2
  by_cases a0 : a1 = 0
  · refine ⟨σ 0 0 0, ?_, ?_, hI⟩
    · simp only [fI_count, fI_count_0, a0, ↓reduceIte]
    · simp only [fM_count, fM_count_0, a0, i6, c0, gd_t, e60, ↓reduceIte]
  by_cases a01 : a1 = 1
  · refine ⟨σ 0 0 1, ?_, ?_, hI⟩
    · simp (decide := true) only [fI_count, fI_count_0, a01, ↓reduceIte]
    · simp (decide := true) only [fM_count, fM_count_0, a01, i0, c0, gd_t, e90, ↓reduceIte]
  by_cases a2 : a1 = 2
  · refine ⟨sumF (fun r => wgt (σ 0) (nI r)) (vn (σ 0)), ?_, ?_, hI⟩
    · simp (decide := true) only [fI_count, fI_count_0, a2, gramsInRooms_c (σ := σ) (a := 0) rfl h.w, bp_s, ↓reduceIte]
    · simp (decide := true) only [fM_count, fM_count_0, a2, weight_all h hm, bp_s, ↓reduceIte]
  by_cases a3 : a1 = 3
  · refine ⟨σ 0 0 2, ?_, ?_, hI⟩
    · simp (decide := true) only [fI_count, fI_count_0, a3, ↓reduceIte]
    · simp (decide := true) only [fM_count, fM_count_0, a3, i1, n1, gd_t, e91, ↓reduceIte]
  by_cases a4 : a1 = 4
  · refine ⟨σ 0 0 3, ?_, ?_, hI⟩
    · simp (decide := true) only [fI_count, fI_count_0, a4, ↓reduceIte]
    · simp (decide := true) only [fM_count, fM_count_0, a4, i2, n2, gd_t, e92, ↓reduceIte]
  by_cases a5 : a1 = 5
  · refine ⟨σ 0 0 4, ?_, ?_, hI⟩
    · simp (decide := true) only [fI_count, fI_count_0, a5, ↓reduceIte]
    · simp (decide := true) only [fM_count, fM_count_0, a5, i3, n3, gd_t, e93, ↓reduceIte]
  by_cases a6 : a1 = 6
  · refine ⟨sumF (σ 0 9) (vn (σ 0)), ?_, ?_, hI⟩
    · simp (decide := true) only [fI_count, fI_count_0, a6, led_c (σ := σ) (a := 0) rfl h.w, bp_s, ↓reduceIte]
    · have := all_m h hm (k := 15) (f := σ 0 9) (fun r hr => by have := (hm.2.2.1 r hr).2.2.2.2.2.1; rwa [show 8 * 0 + r = r by omega] at this)
      simp (decide := true) only [fM_count, fM_count_0, a6, this, bp_s, ↓reduceIte]
  by_cases a7 : a1 = 7
  · refine ⟨sumF (σ 0 10) (vn (σ 0)), ?_, ?_, hI⟩
    · simp (decide := true) only [fI_count, fI_count_0, a7, standing_c (σ := σ) (a := 0) rfl h.w, bp_s, ↓reduceIte]
    · have := all_m h hm (k := 16) (f := σ 0 10) (fun r hr => by have := (hm.2.2.1 r hr).2.2.2.2.2.2; rwa [show 8 * 0 + r = r by omega] at this)
      simp (decide := true) only [fM_count, fM_count_0, a7, this, bp_s, ↓reduceIte]
  by_cases a8 : a1 = 8
  · refine ⟨σ 0 15 0, ?_, ?_, hI⟩
    · simp (decide := true) only [fI_count, fI_count_0, a8, ↓reduceIte]
    · simp (decide := true) only [fM_count, fM_count_0, a8, i6, c0, gd_t, e80, ↓reduceIte]
  by_cases a9 : a1 = 9
  · refine ⟨nI (lyB (σ 0)), ?_, ?_, hI⟩
    · simp (decide := true) only [fI_count, fI_count_0, a9, inRooms_c (σ := σ) (a := 0) rfl h.w, bp_s, ↓reduceIte]
    · simp (decide := true) only [fM_count, fM_count_0, a9, allBlocks_m h hm, bp_s, ↓reduceIte]
  by_cases a10 : a1 = 10
  · refine ⟨σ 0 1 0, ?_, ?_, hI⟩
    · simp (decide := true) only [fI_count, fI_count_0, a10, ↓reduceIte]
    · simp (decide := true) only [fM_count, fM_count_0, a10, i6, c0, gd_t, e70, ↓reduceIte]
  obtain ⟨n, hn, w1, w2, w3⟩ := hI.1.2.2.2.1
  by_cases a11 : a1 = 11
  · refine ⟨nI n, ?_, ?_, hI⟩
    · simp (decide := true) only [fI_count, fI_count_0, a11, w1, ↓reduceIte]
    · simp (decide := true) only [fM_count, fM_count_0, a11, w2, ↓reduceIte]
  by_cases a12 : a1 = 12
  · have d1 : fJourney_daysInAll σ = some (sumF (σ 6 15) n) := by
      refine loopSum (L := fun n y i => fJourney_daysInAll_4 n σ y i) (fun m y => ?_) (fun m y i hi => ?_) n 0 FU 0 (by omega) (by unfold FU; omega) rfl
      · have q : nI n ≤ nI n := nI_le (by omega) (by omega)
        simp only [fJourney_daysInAll_4, fJourney_daysInAll_4_b, w1, q, ↓reduceIte]
      · have q : ¬ nI n ≤ nI i := nI_ge hi (by omega)
        have hib : ib (nI i) 6 = true := ib_nI (by omega) (by decide)
        have hcl : (nI i).toNatClampNeg = i := nI_clamp (by omega)
        simp only [fJourney_daysInAll_4, fJourney_daysInAll_4_b, w1, q, hib, hcl, gd_t, lt_v, nI_1, ↓reduceIte]
    have d2 : fM_days σ = some (sumF (σ 6 15) n) := by
      refine loopSum (L := fun n y i => fM_days_4 n σ y i) (fun m y => ?_) (fun m y i hi => ?_) n 0 FU 0 (by omega) (by unfold FU; omega) rfl
      · have q : nI n ≤ nI n := nI_le (by omega) (by omega)
        simp only [fM_days_4, fM_days_4_b, w2, q, ↓reduceIte]
      · have q : ¬ nI n ≤ nI i := nI_ge hi (by omega)
        have hib : ib (nI i) 6 = true := ib_nI (by omega) (by decide)
        have hcl : (nI i).toNatClampNeg = i := nI_clamp (by omega)
        simp only [fM_days_4, fM_days_4_b, w2, q, hib, hcl, gd_t, lt_v, nI_1, ↓reduceIte, (w3 i hi).2.1]
    refine ⟨sumF (σ 6 15) n, ?_, ?_, hI⟩
    · simp (decide := true) only [fI_count, fI_count_0, a12, d1, bp_s, ↓reduceIte]
    · simp (decide := true) only [fM_count, fM_count_0, a12, d2, bp_s, ↓reduceIte]
  by_cases a13 : a1 = 13
  · refine ⟨σ 7 0 27, ?_, ?_, hI⟩
    · obtain ⟨b0, b1⟩ := hI.2.1
      cases hv : lv 8 with
      | false => simp (decide := true) only [fI_count, fI_count_0, a13, hv, ↓reduceIte, Bool.false_eq_true, (b0 hv).2]
      | true =>
        obtain ⟨q, -, q1, q2, -⟩ := b1 hv
        simp (decide := true) only [fI_count, fI_count_0, a13, hv, ↓reduceIte, q1, q2]
    · simp (decide := true) only [fM_count, fM_count_0, a13, ↓reduceIte]
  by_cases a14 : a1 = 14
  · obtain ⟨q, -, q1, q2, -⟩ := hI.1.2.2.2.2.1
    refine ⟨nI q, ?_, ?_, hI⟩
    · simp (decide := true) only [fI_count, fI_count_0, a14, q1, ↓reduceIte]
    · simp (decide := true) only [fM_count, fM_count_0, a14, q2, ↓reduceIte]
  by_cases a15 : a1 = 15
  · obtain ⟨q, -, q1, q2, -⟩ := hI.1.2.2.2.2.2.1
    refine ⟨nI q, ?_, ?_, hI⟩
    · simp (decide := true) only [fI_count, fI_count_0, a15, q1, ↓reduceIte]
    · simp (decide := true) only [fM_count, fM_count_0, a15, q2, ↓reduceIte]
  refine ⟨-1, ?_, ?_, hI⟩
  · simp only [fI_count, fI_count_0, a0, a01, a2, a3, a4, a5, a6, a7, a8, a9, a10, a11, a12, a13, a14, a15, ↓reduceIte]
  · simp only [fM_count, fM_count_0, a0, a01, a2, a3, a4, a5, a6, a7, a8, a9, a10, a11, a12, a13, a14, a15, ↓reduceIte]
/-! rooms -/
theorem air_loop {σ : Sg} {a : Nat} {v : Vw} (ha : a ≠ 6) (e : σ a = v) (h : okW v) {r : Nat} (hr : r < vn v) : ∀ m i n (x : Int32) (f : Nat → Int32), i + m = vs v r → m < n → x = sumF (fun p => if 10 ≤ vc v r p then nI (nAir v r p) else 0) i → ∃ g : Nat → Int32, fMelting_airSidesIn_16 n (upA σ 6 11 f) a (nI r) x (nI (vs v r)) (nI i) = some (sumF (fun p => if 10 ≤ vc v r p then nI (nAir v r p) else 0) (vs v r), upA σ 6 11 g) := by
  have hv := vs_le (h.2.2.1 r hr)
  intro m
  induction m with
  | zero =>
    intro i n x f hi hn hx
    obtain ⟨n, rfl⟩ : ∃ k, n = k + 1 := ⟨n - 1, by omega⟩
    have ei : i = vs v r := by omega
    subst ei
    have q : nI (vs v r) ≤ nI (vs v r) := nI_le (by omega) (by omega)
    refine ⟨f, ?_⟩
    simp only [fMelting_airSidesIn_16, fMelting_airSidesIn_16_b, q, ↓reduceIte, hx]
  | succ m ih =>
    intro i n x f hi hn hx
    obtain ⟨n, rfl⟩ : ∃ k, n = k + 1 := ⟨n - 1, by omega⟩
    have q : ¬ nI (vs v r) ≤ nI i := nI_ge (by omega) (by omega)
    have ea : upA σ 6 11 f a = v := (upA_o σ 11 f ha).trans e
    have hp : i < vs v r := by omega
    have hat : fRooms_at (upA σ 6 11 f) a (nI r) (nI i) = some (vc v r i) := by
      rw [← ea]
      exact at_inG (by rw [ea]; exact h.1) (by rw [ea]; exact hr) (by rw [ea]; exact h.2.2.1 r hr) (by rw [ea]; exact hp)
    by_cases c : vc v r i < 10
    · obtain ⟨g, hg⟩ := ih (i + 1) n x f (by omega) (by omega) (by
        rw [hx]
        show _ = _ + (if 10 ≤ vc v r i then nI (nAir v r i) else 0)
        rw [if_neg (Int32.not_le.mpr c), Int32.add_zero])
      refine ⟨g, ?_⟩
      rw [← hg]
      simp only [fMelting_airSidesIn_16, fMelting_airSidesIn_16_b, fMelting_airSidesIn_59, q, hat, bp_s, c, lt_v, nI_1, ↓reduceIte]
    · obtain ⟨f', hf', f0, -⟩ := look_eq (σ := upA σ 6 11 f) ha ea h hr hp
      rw [upA_upA] at hf'
      obtain ⟨g, hg⟩ := ih (i + 1) n (x + nI (nAir v r i)) f' (by omega) (by omega) (by
        rw [hx]
        show _ = _ + (if 10 ≤ vc v r i then nI (nAir v r i) else 0)
        rw [if_pos (Int32.not_lt.mp c)])
      refine ⟨g, ?_⟩
      rw [← hg]
      simp only [fMelting_airSidesIn_16, fMelting_airSidesIn_16_b, fMelting_airSidesIn_59, q, hat, bp_s, c, hf', upA_same, f0, lt_v, nI_1, ↓reduceIte]
def airR (v : Vw) (r : Nat) : Int32 := sumF (fun p => if 10 ≤ vc v r p then nI (nAir v r p) else 0) (vs v r)
theorem air_c {σ : Sg} {a : Nat} {v : Vw} (ha : a ≠ 6) (e : σ a = v) (h : okW v) {r : Nat} (hr : r < vn v) : ∃ g : Nat → Int32, fMelting_airSidesIn σ a (nI r) = some (airR v r, upA σ 6 11 g) := by
  have hv := vs_le (h.2.2.1 r hr)
  have h8 := h.1.1
  have hb : ib (nI r) 8 = true := ib_nI (by omega) (by decide)
  have hc : (nI r).toNatClampNeg = r := nI_clamp (by omega)
  have e8 := (h.2.2.1 r hr).2.2.2.2.2.2.2.1
  obtain ⟨g, hg⟩ := air_loop ha e h hr (vs v r) 0 FU 0 (σ 6 11) (by omega) (by unfold FU; omega) rfl
  rw [upA_id] at hg
  refine ⟨g, ?_⟩
  simp only [fMelting_airSidesIn, fMelting_airSidesIn_0, hb, hc, gd_t, lt_v, e, e8]
  exact hg
theorem airR_b {v : Vw} (h : okStore v) {r : Nat} (hr : r < vn v) : airR v r = sumF (fun b => if v 18 b = nI r then nI (nAir v r (v 19 b).toNatClampNeg) else 0) (vb v) := sum_cells h hr (fun p => nI (nAir v r p))
def freR (v : Vw) (r : Nat) : Int32 := sumF (fun p => if frP v r p then 1 else 0) (vs v r)
theorem fre_c {σ : Sg} {a : Nat} {v : Vw} (e : σ a = v) (h : okW v) {r : Nat} (hr : r < vn v) : fRooms_freeOnesIn σ a (nI r) = some (freR v r) := by
  have hv := vs_le (h.2.2.1 r hr)
  have h8 := h.1.1
  have hb : ib (nI r) 8 = true := ib_nI (by omega) (by decide)
  have hc : (nI r).toNatClampNeg = r := nI_clamp (by omega)
  have k1 : ¬ (1 : Int32) = 0 := by decide
  have e8 := (h.2.2.1 r hr).2.2.2.2.2.2.2.1
  refine loopSum (L := fun n y i => fRooms_freeOnesIn_4 n σ a (nI r) y i) (fun m y => ?_) (fun m y i hi => ?_) (vs v r) 0 FU 0 (by omega) (by unfold FU; omega) rfl
  · have q : nI (vs v r) ≤ nI (vs v r) := nI_le (by omega) (by omega)
    simp only [fRooms_freeOnesIn_4, fRooms_freeOnesIn_4_b, hb, hc, gd_t, e, e8, q, ↓reduceIte]
  · have q : ¬ nI (vs v r) ≤ nI i := nI_ge hi (by omega)
    have hf := free_c e h hr hi
    cases c : frP v r i with
    | true =>
      rw [c] at hf
      simp only [fRooms_freeOnesIn_4, fRooms_freeOnesIn_4_b, fRooms_freeOnesIn_26, hb, hc, gd_t, e, e8, q, hf, bp_s, k1, lt_v, nI_1, ↓reduceIte]
    | false =>
      rw [c] at hf
      simp only [fRooms_freeOnesIn_4, fRooms_freeOnesIn_4_b, fRooms_freeOnesIn_26, hb, hc, gd_t, e, e8, q, hf, bp_s, lt_v, nI_1, Bool.false_eq_true, ↓reduceIte, Int32.add_zero]
theorem freR_b {v : Vw} (h : okStore v) {r : Nat} (hr : r < vn v) : freR v r = sumF (fun b => if v 18 b = nI r then (if 10 ≤ sd v r (v 19 b).toNatClampNeg 5 then 0 else 1) else 0) (vb v) := by
  rw [← sum_cells h hr (fun p => if 10 ≤ sd v r p 5 then 0 else 1)]
  refine sumF_cong (fun p hp => ?_)
  unfold frP
  by_cases c : 10 ≤ vc v r p
  · by_cases c2 : 10 ≤ sd v r p 5
    · simp only [c, c2, not_true_eq_false, and_false, decide_false, Bool.false_eq_true, ↓reduceIte]
    · simp only [c, c2, not_false_eq_true, and_true, decide_true, ↓reduceIte]
  · simp only [c, false_and, decide_false, Bool.false_eq_true, ↓reduceIte]
theorem rooms_m {τ : Sg} {v : Vw} (h : okStore v) (hm : Rm 0 v (τ 7)) {r : Nat} (hr : r < vn v) : fM_rooms_159 FU τ (nI r) 10 0 0 = some (airR v r) ∧ fM_rooms_159 FU τ (nI r) 11 0 0 = some (freR v r) := by
  have h3 := h.2.1.1
  have h8 := h.1.1
  have i6 : ib 0 6 = true := by decide
  have c0 : (0 : Int32).toNatClampNeg = 0 := by decide
  have e8 := m_8 h hm
  have q0 : ∀ n y w, fM_rooms_159 (n + 1) τ (nI r) w y (nI (vb v)) = some y := fun n y w => by
    have q : nI (vb v) ≤ nI (vb v) := nI_le (by omega) (by omega)
    simp only [fM_rooms_159, fM_rooms_159_b, i6, c0, gd_t, e8, q, ↓reduceIte]
  have far : ∀ n y w i, i < vb v → ¬ v 18 i = nI r → fM_rooms_159 (n + 1) τ (nI r) w y (nI i) = fM_rooms_159 n τ (nI r) w y (nI (i + 1)) := by
    intro n y w i hi c
    have q : ¬ nI (vb v) ≤ nI i := nI_ge hi (by omega)
    have hib : ib (nI i) 1800 = true := ib_nI (by omega) (by decide)
    have hcl : (nI i).toNatClampNeg = i := nI_clamp (by omega)
    obtain ⟨-, m2, m3, -⟩ := m_b hm hi
    simp only [fM_rooms_159, fM_rooms_159_b, fM_rooms_220, i6, c0, gd_t, e8, q, hib, hcl, m3, c, lt_v, nI_1, ↓reduceIte]
  constructor
  · rw [airR_b h hr]
    refine loopSum (L := fun n y i => fM_rooms_159 n τ (nI r) 10 y i) (fun m y => q0 m y 10) (fun m y i hi => ?_) (vb v) 0 FU 0 (by omega) (by unfold FU; omega) rfl
    by_cases c : v 18 i = nI r
    · have q : ¬ nI (vb v) ≤ nI i := nI_ge hi (by omega)
      have hib : ib (nI i) 1800 = true := ib_nI (by omega) (by decide)
      have hcl : (nI i).toNatClampNeg = i := nI_clamp (by omega)
      obtain ⟨-, m2, m3, m4, -⟩ := m_b hm hi
      obtain ⟨r', p, hr', hp, o1, o2, o3⟩ := blk_lies h hi (by rw [c]; exact nI_nm1 (by omega))
      have er : r' = r := by rw [c] at o1; exact ((nI_eq (by omega) (by omega)).mp o1).symm
      subst er
      have hvr := vs_le (okS h hr)
      have hcp : (nI p).toNatClampNeg = p := nI_clamp (by omega)
      simp only [fM_rooms_159, fM_rooms_159_b, fM_rooms_218, fM_rooms_220, i6, c0, gd_t, e8, q, hib, hcl, m3, m4, c, o2, hcp, m_air h hm hr hp, bp_s, lt_v, nI_1, ↓reduceIte]
    · rw [far m y 10 i hi c]
      simp only [c, ↓reduceIte, Int32.add_zero]
  · rw [freR_b h hr]
    refine loopSum (L := fun n y i => fM_rooms_159 n τ (nI r) 11 y i) (fun m y => q0 m y 11) (fun m y i hi => ?_) (vb v) 0 FU 0 (by omega) (by unfold FU; omega) rfl
    by_cases c : v 18 i = nI r
    · have q : ¬ nI (vb v) ≤ nI i := nI_ge hi (by omega)
      have hib : ib (nI i) 1800 = true := ib_nI (by omega) (by decide)
      have hcl : (nI i).toNatClampNeg = i := nI_clamp (by omega)
      obtain ⟨-, m2, m3, m4, -⟩ := m_b hm hi
      obtain ⟨r', p, hr', hp, o1, o2, o3⟩ := blk_lies h hi (by rw [c]; exact nI_nm1 (by omega))
      have er : r' = r := by rw [c] at o1; exact ((nI_eq (by omega) (by omega)).mp o1).symm
      subst er
      have hvr := vs_le (okS h hr)
      have hcp : (nI p).toNatClampNeg = p := nI_clamp (by omega)
      have hf := free_m h hm hi hr hp o1 o2
      have n11 : ¬ (11 : Int32) = 10 := by decide
      have k1 : ¬ (1 : Int32) = 0 := by decide
      by_cases c5 : 10 ≤ sd v r' p 5
      · simp only [c5, ↓reduceIte] at hf
        simp only [fM_rooms_159, fM_rooms_159_b, fM_rooms_218, fM_rooms_220, i6, c0, gd_t, e8, q, hib, hcl, m3, c, n11, hf, o2, hcp, c5, bp_s, lt_v, nI_1, ↓reduceIte]
      · simp only [c5, ↓reduceIte] at hf
        simp only [fM_rooms_159, fM_rooms_159_b, fM_rooms_218, fM_rooms_220, i6, c0, gd_t, e8, q, hib, hcl, m3, c, n11, hf, o2, hcp, c5, k1, bp_s, lt_v, nI_1, ↓reduceIte]
    · rw [far m y 11 i hi c]
      simp only [c, ↓reduceIte, Int32.add_zero]
theorem op_rooms : Op_rooms Inv := by
  intro lv σ hI a1 a2
  obtain ⟨h, hm⟩ := hI.2.2.2.1
  have h3 := h.2.1.1
  have h8 := h.1.1
  have k1 : ¬ (1 : Int32) = 0 := by decide
  have i6 : ib 0 6 = true := by decide
  have c0 : (0 : Int32).toNatClampNeg = 0 := by decide
  by_cases c : wi a2 0 11 = 0
  · refine ⟨-1, σ, ?_, ?_, hI⟩
    · simp only [fI_rooms, fI_rooms_0, fI_within_eq, c, bp_s, ↓reduceIte]
    · simp only [fM_rooms, fM_rooms_0, fM_in_eq, c, bp_s, ↓reduceIte]
  by_cases hr : inR (σ 0) a1
  · obtain ⟨r, hr, rfl⟩ := hr
    obtain ⟨k, -, hk, rfl⟩ := wiN (lo := 0) (hi := 11) (by decide) c (by decide)
    have hb := ib8 h hr
    have hc := cl8 h hr
    have h48 := ib48 h hr
    have hh := has_in h hr
    have hi := isRoom_in h hm hr
    have md := hm.2.2.1 r hr
    rw [show 8 * 0 + r = r by omega] at md
    obtain ⟨m1, m2, m3, m4, m5, m6, m7⟩ := md
    rcases (show k = 0 ∨ k = 1 ∨ k = 2 ∨ k = 3 ∨ k = 4 ∨ k = 5 ∨ k = 6 ∨ k = 7 ∨ k = 8 ∨ k = 9 ∨ k = 10 ∨ k = 11 by omega) with rfl | rfl | rfl | rfl | rfl | rfl | rfl | rfl | rfl | rfl | rfl | rfl
    · refine ⟨σ 0 2 r, σ, ?_, ?_, hI⟩
      · simp (decide := true) only [fI_rooms, fI_rooms_0, fI_within_eq, c, bp_s, hh, k1, hb, hc, gd_t, ↓reduceIte]
      · simp (decide := true) only [fM_rooms, fM_rooms_0, fM_in_eq, c, bp_s, hi, k1, h48, hc, gd_t, m1, ↓reduceIte]
    · refine ⟨σ 0 3 r, σ, ?_, ?_, hI⟩
      · simp (decide := true) only [fI_rooms, fI_rooms_0, fI_within_eq, c, bp_s, hh, k1, hb, hc, gd_t, ↓reduceIte]
      · simp (decide := true) only [fM_rooms, fM_rooms_0, fM_in_eq, c, bp_s, hi, k1, h48, hc, gd_t, m2, ↓reduceIte]
    · refine ⟨σ 0 4 r, σ, ?_, ?_, hI⟩
      · simp (decide := true) only [fI_rooms, fI_rooms_0, fI_within_eq, c, bp_s, hh, k1, hb, hc, gd_t, ↓reduceIte]
      · simp (decide := true) only [fM_rooms, fM_rooms_0, fM_in_eq, c, bp_s, hi, k1, h48, hc, gd_t, m3, ↓reduceIte]
    · refine ⟨σ 0 5 r, σ, ?_, ?_, hI⟩
      · simp (decide := true) only [fI_rooms, fI_rooms_0, fI_within_eq, c, bp_s, hh, k1, hb, hc, gd_t, ↓reduceIte]
      · simp (decide := true) only [fM_rooms, fM_rooms_0, fM_in_eq, c, bp_s, hi, k1, h48, hc, gd_t, m4, ↓reduceIte]
    · refine ⟨σ 0 6 r, σ, ?_, ?_, hI⟩
      · simp (decide := true) only [fI_rooms, fI_rooms_0, fI_within_eq, c, bp_s, hh, k1, hb, hc, gd_t, ↓reduceIte]
      · simp (decide := true) only [fM_rooms, fM_rooms_0, fM_in_eq, c, bp_s, hi, k1, h48, hc, gd_t, m5, ↓reduceIte]
    · obtain ⟨d, hd, d1, d2⟩ := hI.today
      obtain ⟨hdc, hdm⟩ := hI.day (show d < 200 by omega)
      have htt : fI_tenthsToday σ = some (σ 6 10 d) := by
        show bp (fCalendar_tenthsOf σ (σ 0 0 0)) _ = _
        rw [d1, hdc _ rfl]; rfl
      refine ⟨wrm (σ 0) (σ 6 10 d) r, σ, ?_, ?_, hI⟩
      · simp (decide := true) only [fI_rooms, fI_rooms_0, fI_within_eq, c, bp_s, hh, k1, htt, warmthIn_eq (σ := σ) (a := 0) rfl h.w _ hr, ↓reduceIte]
      · simp (decide := true) only [fM_rooms, fM_rooms_0, fM_in_eq, c, bp_s, hi, k1, i6, c0, gd_t, d2, m_warmth h hm (hdm σ rfl rfl) hr, ↓reduceIte]
    · refine ⟨nI (cntF (fun b => decide (σ 0 18 b = nI r)) (vb (σ 0))), σ, ?_, ?_, hI⟩
      · simp (decide := true) only [fI_rooms, fI_rooms_0, fI_within_eq, c, bp_s, hh, k1, blocksIn_c (σ := σ) (a := 0) rfl h.w, ↓reduceIte]
      · simp (decide := true) only [fM_rooms, fM_rooms_0, fM_in_eq, c, bp_s, hi, k1, m_count h hm, true_or, and_true, ↓reduceIte]
    · refine ⟨wgt (σ 0) (nI r), σ, ?_, ?_, hI⟩
      · simp (decide := true) only [fI_rooms, fI_rooms_0, fI_within_eq, c, bp_s, hh, k1, gramsIn_c (σ := σ) (a := 0) rfl h.w, ↓reduceIte]
      · simp (decide := true) only [fM_rooms, fM_rooms_0, fM_in_eq, c, bp_s, hi, k1, weight_m h hm (show r < 8 by omega), ↓reduceIte]
    · refine ⟨σ 0 9 r, σ, ?_, ?_, hI⟩
      · simp (decide := true) only [fI_rooms, fI_rooms_0, fI_within_eq, c, bp_s, hh, k1, hb, hc, gd_t, ↓reduceIte]
      · simp (decide := true) only [fM_rooms, fM_rooms_0, fM_in_eq, c, bp_s, hi, k1, h48, hc, gd_t, m6, ↓reduceIte]
    · refine ⟨σ 0 10 r, σ, ?_, ?_, hI⟩
      · simp (decide := true) only [fI_rooms, fI_rooms_0, fI_within_eq, c, bp_s, hh, k1, hb, hc, gd_t, ↓reduceIte]
      · simp (decide := true) only [fM_rooms, fM_rooms_0, fM_in_eq, c, bp_s, hi, k1, h48, hc, gd_t, m7, ↓reduceIte]
    · obtain ⟨g, hg⟩ := air_c (σ := σ) (a := 0) (by omega) rfl h.w hr
      refine ⟨airR (σ 0) r, upA σ 6 11 g, ?_, ?_, hI.look g⟩
      · simp (decide := true) only [fI_rooms, fI_rooms_0, fI_within_eq, c, bp_s, hh, k1, hg, bi_s, ↓reduceIte]
      · have hmg : Rm 0 (σ 0) (upA σ 6 11 g 7) := hm
        have := (rooms_m h hmg hr).1
        simp (decide := true) only [fM_rooms, fM_rooms_0, fM_in_eq, c, bp_s, isRoom_in h hmg hr, k1, ↓reduceIte]
        exact this
    · refine ⟨freR (σ 0) r, σ, ?_, ?_, hI⟩
      · simp (decide := true) only [fI_rooms, fI_rooms_0, fI_within_eq, c, bp_s, hh, k1, fre_c (σ := σ) (a := 0) rfl h.w hr, ↓reduceIte]
      · have := (rooms_m h hm hr).2
        simp (decide := true) only [fM_rooms, fM_rooms_0, fM_in_eq, c, bp_s, hi, k1, ↓reduceIte]
        exact this
  · refine ⟨-2, σ, ?_, ?_, hI⟩
    · simp only [fI_rooms, fI_rooms_0, fI_within_eq, c, bp_s, has_out h hr, ↓reduceIte]
    · simp only [fM_rooms, fM_rooms_0, fM_in_eq, c, bp_s, isRoom_out h hm hr, ↓reduceIte]
