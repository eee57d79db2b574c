theorem row_lt {v : Vw} {r p : Nat} (h : okRoom v r) (hp : p < vs v r) : p / vw v r < vy v r * vz v r := Nat.div_lt_of_lt_mul (by rw [← Nat.mul_assoc]; exact hp)
/-- by the class: why a place can't be looked at -/
theorem refP_cases {σ : Sg} (h : okStore (σ 0)) (x y : Int32) : (¬ inR (σ 0) x ∧ fI_refusalOfPlace σ x y = some (-2)) ∨ (∃ r, r < vn (σ 0) ∧ x = nI r ∧ ((¬ (∃ p, p < vs (σ 0) r ∧ y = nI p) ∧ fI_refusalOfPlace σ x y = some (-1)) ∨ ∃ p, p < vs (σ 0) r ∧ y = nI p ∧ ((lb (σ 0) r (p / vw (σ 0) r) = false ∧ fI_refusalOfPlace σ x y = some (-3)) ∨ (lb (σ 0) r (p / vw (σ 0) r) = true ∧ fI_refusalOfPlace σ x y = some 0)))) := by
  have k1 : ¬ (1 : Int32) = 0 := by decide
  by_cases c : inR (σ 0) x
  · obtain ⟨r, hr, rfl⟩ := c
    refine Or.inr ⟨r, hr, rfl, ?_⟩
    have hk := okS h hr
    have hv := vs_le hk
    have hb := ib8 h hr
    have hc := cl8 h hr
    have e8 := hk.2.2.2.2.2.2.2.1
    by_cases c2 : ∃ p, p < vs (σ 0) r ∧ y = nI p
    · obtain ⟨p, hp, rfl⟩ := c2
      refine Or.inr ⟨p, hp, rfl, ?_⟩
      have w1 := hk.2.1.1
      have ew := hk.2.1.2.2
      have q2 : ¬ nI p < 0 := nI_pos (by omega)
      have q4 : ¬ nI (vs (σ 0) r) ≤ nI p := nI_ge hp (by omega)
      have q5 : (1 : Int32) ≤ nI (vw (σ 0) r) := nI_le (a := 1) w1 (by have := hk.2.1.2.1; omega)
      have e1 : nI p / nI (vw (σ 0) r) = nI (p / vw (σ 0) r) := pk_div (by omega) w1 (by have := hk.2.1.2.1; omega)
      have hz := nzi_nI w1 (show vw (σ 0) r < 2 ^ 31 by have := hk.2.1.2.1; omega)
      have hl := isLaid_in h hr (row_lt hk hp)
      cases hb2 : lb (σ 0) r (p / vw (σ 0) r) with
      | false =>
        rw [hb2] at hl
        refine Or.inl ⟨rfl, ?_⟩
        simp only [fI_refusalOfPlace, fI_refusalOfPlace_0, fRooms_hasPlace, fRooms_hasPlace_0, fRooms_rowOf, fRooms_rowOf_0, has_in h hr, bp_s, k1, q2, hb, hc, gd_t, e8, q4, ew, q5, hz, e1, hl, ↓reduceIte, Bool.false_eq_true]
      | true =>
        rw [hb2] at hl
        refine Or.inr ⟨rfl, ?_⟩
        simp only [fI_refusalOfPlace, fI_refusalOfPlace_0, fRooms_hasPlace, fRooms_hasPlace_0, fRooms_rowOf, fRooms_rowOf_0, has_in h hr, bp_s, k1, q2, hb, hc, gd_t, e8, q4, ew, q5, hz, e1, hl, ↓reduceIte]
    · refine Or.inl ⟨c2, ?_⟩
      by_cases q2 : y < 0
      · simp only [fI_refusalOfPlace, fI_refusalOfPlace_0, fRooms_hasPlace, fRooms_hasPlace_0, has_in h hr, bp_s, k1, q2, ↓reduceIte]
      · have q4 : nI (vs (σ 0) r) ≤ y := by
          obtain ⟨j, hj, rfl⟩ := nI_of q2
          exact (nI_leI (by omega) hj).mpr (by
            rcases Nat.lt_or_ge j (vs (σ 0) r) with q | q
            · exact absurd ⟨j, q, rfl⟩ c2
            · exact q)
        simp only [fI_refusalOfPlace, fI_refusalOfPlace_0, fRooms_hasPlace, fRooms_hasPlace_0, has_in h hr, bp_s, k1, q2, hb, hc, gd_t, e8, q4, ↓reduceIte]
  · refine Or.inl ⟨c, ?_⟩
    simp only [fI_refusalOfPlace, fI_refusalOfPlace_0, has_out h c, bp_s, ↓reduceIte]
section MPl
variable {τ : Sg} {v : Vw}
theorem m_dims (h : okStore v) (hm : Rm 0 v (τ 7)) {r : Nat} (hr : r < vn v) : τ 7 10 r = v 2 r ∧ τ 7 11 r = nI (vw v r) ∧ τ 7 12 r = nI (vy v r) ∧ τ 7 13 r = nI (vz v r) ∧ τ 7 14 r = v 6 r := by
  obtain ⟨m1, m2, m3, m4, m5, -⟩ := hm.2.2.1 r hr
  simp only [Nat.mul_zero, Nat.zero_add] at m1 m2 m3 m4 m5
  have hk := okS h hr
  exact ⟨m1, m2.trans hk.2.1.2.2, m3.trans hk.2.2.1.2.2, m4.trans hk.2.2.2.1.2.2, m5⟩
theorem m_places (h : okStore v) (hm : Rm 0 v (τ 7)) {r : Nat} (hr : r < vn v) : fM_places τ (nI r) = some (nI (vs v r)) := by
  obtain ⟨-, m2, m3, m4, -⟩ := m_dims h hm hr
  simp only [fM_places, fM_places_0, ib48 h hr, cl8 h hr, gd_t, m2, m3, m4, pk_mul]
  rfl
theorem m_floor (h : okStore v) (hm : Rm 0 v (τ 7)) {r : Nat} (hr : r < vn v) : fM_floor τ (nI r) = some (nI (vf v r)) := by
  obtain ⟨-, m2, m3, m4, -⟩ := m_dims h hm hr
  simp only [fM_floor, fM_floor_0, ib48 h hr, cl8 h hr, gd_t, m2, m3, pk_mul]
  rfl
theorem m_layer (h : okStore v) (hm : Rm 0 v (τ 7)) {r p : Nat} (hr : r < vn v) (hp : p < 2 ^ 30) : fM_layerOf τ (nI r) (nI p) = some (nI (p / vf v r)) := by
  have hv := vs_le (okS h hr)
  simp only [fM_layerOf, fM_layerOf_0, m_floor h hm hr, bp_s, gd_of (nzi_nI hv.2.2.1 (show vf v r < 2 ^ 31 by omega)), pk_div (show p < 2 ^ 31 by omega) hv.2.2.1 (show vf v r < 2 ^ 31 by omega)]
theorem m_isPlace_in (h : okStore v) (hm : Rm 0 v (τ 7)) {r p : Nat} (hr : r < vn v) (hp : p < vs v r) : fM_isPlace τ (nI r) (nI p) = some 1 := by
  have hv := vs_le (okS h hr)
  simp only [fM_isPlace, fM_isPlace_0, m_places h hm hr, bp_s, fM_in_eq, wiIx0 hp (show vs v r < 2 ^ 31 by omega)]
  rfl
theorem m_isPlace_out (h : okStore v) (hm : Rm 0 v (τ 7)) {r : Nat} {y : Int32} (hr : r < vn v) (hp : ¬ ∃ p, p < vs v r ∧ y = nI p) : fM_isPlace τ (nI r) y = some 0 := by
  have hv := vs_le (okS h hr)
  simp only [fM_isPlace, fM_isPlace_0, m_places h hm hr, bp_s, fM_in_eq, wiIxN (show vs v r < 2 ^ 31 by omega) hp]
  rfl
theorem m_isLaid (h : okStore v) (hm : Rm 0 v (τ 7)) {r p : Nat} (hr : r < vn v) (hp : p < vs v r) : fM_isLaid τ (nI r) (nI p) = some (if lb v r (p / vw v r) then 1 else 0) := by
  have hk := okS h hr
  have hv := vs_le hk
  have h8 := h.1.1
  have hrow := row_lt hk hp
  obtain ⟨-, m2, -⟩ := m_dims h hm hr
  have w1 := hk.2.1.1
  have w2 := hk.2.1.2.1
  have e1 : nI p / nI (vw v r) = nI (p / vw v r) := pk_div (by omega) w1 (by omega)
  have x1 : 30 * nI r + nI (p / vw v r) = nI (30 * r + p / vw v r) := by show nI 30 * nI r + _ = _; rw [pk_mul, nI_add]
  have hib : ib (nI (30 * r + p / vw v r)) 1440 = true := ib_nI (by omega) (by decide)
  have hcl : (nI (30 * r + p / vw v r)).toNatClampNeg = 30 * r + p / vw v r := nI_clamp (by omega)
  simp only [fM_isLaid, fM_isLaid_0, fM_rowOf, fM_rowOf_0, ib48 h hr, cl8 h hr, gd_t, m2, gd_of (nzi_nI w1 (show vw v r < 2 ^ 31 by omega)), e1, x1, bp_s, hib, hcl, m17 hm hr hrow]
  cases lb v r (p / vw v r) <;> rfl
end MPl
theorem op_place : Op_place Inv := by
  intro lv σ hI a1 a2
  obtain ⟨h, hm⟩ := hI.2.2.2.1
  have k1 : ¬ (1 : Int32) = 0 := by decide
  have n1 : ¬ (-1 : Int32) = 0 := by decide
  have n2 : ¬ (-2 : Int32) = 0 := by decide
  have n3 : ¬ (-3 : Int32) = 0 := by decide
  rcases refP_cases h a1 a2 with ⟨c, e⟩ | ⟨r, hr, rfl, ⟨c, e⟩ | ⟨p, hp, rfl, ⟨c, e⟩ | ⟨c, e⟩⟩⟩
  · refine ⟨-2, ?_, ?_, hI⟩
    · simp only [fI_place, fI_place_0, e, bp_s, n2, ↓reduceIte]
    · simp only [fM_place, fM_place_0, isRoom_out h hm c, bp_s, ↓reduceIte]
  · refine ⟨-1, ?_, ?_, hI⟩
    · simp only [fI_place, fI_place_0, e, bp_s, n1, ↓reduceIte]
    · simp only [fM_place, fM_place_0, isRoom_in h hm hr, m_isPlace_out h hm hr c, bp_s, k1, ↓reduceIte]
  · refine ⟨-3, ?_, ?_, hI⟩
    · simp only [fI_place, fI_place_0, e, bp_s, n3, ↓reduceIte]
    · simp only [fM_place, fM_place_0, isRoom_in h hm hr, m_isPlace_in h hm hr hp, m_isLaid h hm hr hp, c, bp_s, k1, ↓reduceIte, Bool.false_eq_true]
  · refine ⟨vc (σ 0) r p, ?_, ?_, hI⟩
    · simp only [fI_place, fI_place_0, e, bp_s, at_in h hr hp, ↓reduceIte]
    · simp only [fM_place, fM_place_0, isRoom_in h hm hr, m_isPlace_in h hm hr hp, m_isLaid h hm hr hp, m_at h hm hr hp, c, bp_s, k1, ↓reduceIte]
