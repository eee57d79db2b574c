/-! rooms and places, on both sides -/
def inR (v : Vw) (x : Int32) : Prop := ∃ r : Nat, r < vn v ∧ x = nI r
theorem wiIx0 {j n : Nat} (hj : j < n) (hn : n < 2 ^ 31) : wi (nI j) 0 (nI n - 1) = 1 := by
  obtain ⟨k, rfl⟩ : ∃ k, n = k + 1 := ⟨n - 1, by omega⟩
  rw [nI_pred]
  unfold wi
  rw [if_neg (nI_pos (by omega)), if_neg (nI_nlt (by omega) (by omega))]
theorem wiIxN {x : Int32} {n : Nat} (hn : n < 2 ^ 31) (h : ¬ ∃ j : Nat, j < n ∧ x = nI j) : wi x 0 (nI n - 1) = 0 := by
  by_cases c : wi x 0 (nI n - 1) = 0
  · exact c
  · exact absurd (wiIx hn c) h
section Geo
variable {σ : Sg} {a : Nat} {v : Vw}
theorem has_in (h : okStore (σ a)) {r : Nat} (hr : r < vn (σ a)) : fRooms_has σ a (nI r) = some 1 := by
  obtain ⟨⟨hn, en⟩, -⟩ := h
  unfold fRooms_has fRooms_has_0
  rw [if_neg (nI_pos (by omega)), en, if_neg (nI_ge hr (by omega))]
theorem has_out (h : okStore (σ a)) {x : Int32} (hr : ¬ inR (σ a) x) : fRooms_has σ a x = some 0 := by
  obtain ⟨⟨hn, en⟩, -⟩ := h
  unfold fRooms_has fRooms_has_0
  by_cases c : x < 0
  · rw [if_pos c]
  · rw [if_neg c, en]
    by_cases c2 : nI (vn (σ a)) ≤ x
    · rw [if_pos c2]
    · exfalso
      obtain ⟨j, hj, rfl⟩ := nI_of c
      exact hr ⟨j, by
        have : ¬ vn (σ a) ≤ j := fun q => c2 ((nI_leI (by omega) hj).mpr q)
        omega, rfl⟩
theorem isRoom_in {τ : Sg} (h : okStore v) (hm : Rm 0 v (τ 7)) {r : Nat} (hr : r < vn v) : fM_isRoom τ (nI r) = some 1 := by
  obtain ⟨⟨hn, en⟩, -⟩ := h
  have e : τ 7 7 0 = nI (vn v) := hm.1.2.1.trans en
  unfold fM_isRoom fM_isRoom_0
  show gd (ib 0 6) (bp (fM_in τ (nI r) 0 (τ 7 7 0 - 1)) _) = _
  rw [e, fM_in_eq, wiIx0 hr (by omega)]
  rfl
theorem isRoom_out {τ : Sg} (h : okStore v) (hm : Rm 0 v (τ 7)) {x : Int32} (hr : ¬ inR v x) : fM_isRoom τ x = some 0 := by
  obtain ⟨⟨hn, en⟩, -⟩ := h
  have e : τ 7 7 0 = nI (vn v) := hm.1.2.1.trans en
  unfold fM_isRoom fM_isRoom_0
  show gd (ib 0 6) (bp (fM_in τ x 0 (τ 7 7 0 - 1)) _) = _
  rw [e, fM_in_eq, wiIxN (by omega) hr]
  rfl
theorem okS {v : Vw} (h : okStore v) {r : Nat} (hr : r < vn v) : okRoom v r := h.2.2.2.1 r hr
theorem vs_le {v : Vw} {r : Nat} (h : okRoom v r) : vs v r ≤ 180 ∧ vf v r ≤ 36 ∧ 1 ≤ vf v r ∧ vf v r ≤ vs v r ∧ vy v r * vz v r ≤ 30 ∧ 1 ≤ vs v r := by
  obtain ⟨-, ⟨w1, w2, -⟩, ⟨y1, y2, -⟩, ⟨z1, z2, -⟩, -⟩ := h
  unfold vs vf
  have a1 : vw v r * vy v r ≤ 6 * 6 := Nat.mul_le_mul w2 y2
  have a2 : vw v r * vy v r * vz v r ≤ 36 * 5 := Nat.mul_le_mul a1 z2
  have a3 : 1 * 1 ≤ vw v r * vy v r := Nat.mul_le_mul w1 y1
  have a4 : vw v r * vy v r * 1 ≤ vw v r * vy v r * vz v r := Nat.mul_le_mul_left _ z1
  have a5 : vy v r * vz v r ≤ 6 * 5 := Nat.mul_le_mul y2 z2
  omega
theorem ib8 (h : okStore (σ a)) {r : Nat} (hr : r < vn (σ a)) : ib (nI r) 8 = true := ib_nI (by have := h.1.1; omega) (by decide)
theorem cl8 {v : Vw} (h : okStore v) {r : Nat} (hr : r < vn v) : (nI r).toNatClampNeg = r := nI_clamp (by have := h.1.1; omega)
theorem ib48 {v : Vw} (h : okStore v) {r : Nat} (hr : r < vn v) : ib (nI r) 48 = true := ib_nI (by have := h.1.1; omega) (by decide)
/-- what lies at a place, by the class -/
theorem at_in (h : okStore (σ a)) {r p : Nat} (hr : r < vn (σ a)) (hp : p < vs (σ a) r) : fRooms_at σ a (nI r) (nI p) = some (vc (σ a) r p) := by
  have hk := okS h hr
  have h8 := h.1.1
  have hs := vs_le hk
  obtain ⟨-, -, -, -, -, -, e7, e8, -⟩ := hk
  have k10 : ¬ (1 : Int32) = 0 := by decide
  have x1 : nI r * 180 + nI p = nI (180 * r + p) := by show nI r * nI 180 + nI p = _; rw [pk_mul, nI_add, Nat.mul_comm]
  have hib : ib (nI (180 * r + p)) 1440 = true := ib_nI (by omega) (by decide)
  have hcl : (nI (180 * r + p)).toNatClampNeg = 180 * r + p := nI_clamp (by omega)
  have q1 : ¬ nI r < 0 := nI_pos (by omega)
  have q2 : ¬ nI p < 0 := nI_pos (by omega)
  have q3 : ¬ nI (vn (σ a)) ≤ nI r := nI_ge hr (by omega)
  have q4 : ¬ nI (vs (σ a) r) ≤ nI p := nI_ge hp (by omega)
  simp only [fRooms_at, fRooms_at_0, fRooms_at_31, h.1.2, q1, q2, q3, q4, ib8 h hr, cl8 h hr, e8, gd_t, x1, hib, hcl, k10, ↓reduceIte, vc]
theorem at_far (h : okStore (σ a)) {r : Nat} {x : Int32} (hr : r < vn (σ a)) (hp : x < 0 ∨ nI (vs (σ a) r) ≤ x) : fRooms_at σ a (nI r) x = some 0 := by
  have hk := okS h hr
  have h8 := h.1.1
  obtain ⟨-, -, -, -, -, -, e7, e8, -⟩ := hk
  have q1 : ¬ nI r < 0 := nI_pos (by omega)
  have q3 : ¬ nI (vn (σ a)) ≤ nI r := nI_ge hr (by omega)
  by_cases c : x < 0
  · simp only [fRooms_at, fRooms_at_0, fRooms_at_30, fRooms_at_31, h.1.2, q1, q3, c, ↓reduceIte]
  · have q4 : nI (vs (σ a) r) ≤ x := hp.resolve_left c
    simp only [fRooms_at, fRooms_at_0, fRooms_at_30, fRooms_at_31, h.1.2, q1, q3, c, q4, ib8 h hr, cl8 h hr, e8, gd_t, ↓reduceIte]
theorem m_at {τ : Sg} (h : okStore v) (hm : Rm 0 v (τ 7)) {r p : Nat} (hr : r < vn v) (hp : p < vs v r) : fM_at τ (nI r) (nI p) = some (vc v r p) := by
  have hk := okS h hr
  have h8 := h.1.1
  have hs := vs_le hk
  have x1 : 180 * nI r + nI p = nI (180 * r + p) := by show nI 180 * nI r + nI p = _; rw [pk_mul, nI_add]
  have hib : ib (nI (180 * r + p)) 8640 = true := ib_nI (by omega) (by decide)
  have hcl : (nI (180 * r + p)).toNatClampNeg = 180 * r + p := nI_clamp (by omega)
  simp only [fM_at, fM_at_0, x1, hib, hcl, gd_t]
  have e := hm.2.2.2.2.1 r hr p hp
  rw [show 1440 * 0 + 180 * r + p = 180 * r + p by omega] at e
  rw [e]
theorem sh5 : ∀ j : Nat, j < 32 → (((nI j).toUInt32 &&& Int32.toUInt32 31).toBitVec % 32).toNat = j := by decide +kernel
/-- a bit of the rows that are laid -/
theorem bit_c {m j : Nat} (hm : m < 2 ^ 30) (hj : j < 32) : (((nI m).toUInt32 >>> ((nI j).toUInt32 &&& Int32.toUInt32 31)).toInt32 &&& 1 = 0) ↔ m.testBit j = false := by
  rw [pk_ushrN (n := m) (by omega) (nI j) j (sh5 j hj)]
  have hlt : m / 2 ^ j < 2 ^ 31 := Nat.lt_of_le_of_lt (Nat.div_le_self _ _) (by omega)
  rw [pk_andN (n := m / 2 ^ j) (by omega) (m := 1) 1 (by decide), nI_inj0 (by omega), Nat.testBit_eq_decide_div_mod_eq]
  have := Nat.mod_two_eq_zero_or_one (m / 2 ^ j)
  rcases this with q | q <;> simp [q]
def lb (v : Vw) (r j : Nat) : Bool := (v 13 r).toNatClampNeg.testBit j
theorem isLaid_in (h : okStore (σ a)) {r j : Nat} (hr : r < vn (σ a)) (hj : j < vy (σ a) r * vz (σ a) r) : fRooms_isLaid σ a (nI r) (nI j) = some (if lb (σ a) r j then 1 else 0) := by
  have hk := okS h hr
  have hs := vs_le hk
  obtain ⟨-, -, ⟨y1, y2, ey⟩, ⟨z1, z2, ez⟩, -, -, -, -, m, hm, em⟩ := hk
  have x1 : nI (vy (σ a) r) * nI (vz (σ a) r) = nI (vy (σ a) r * vz (σ a) r) := pk_mul _ _
  have q4 : ¬ nI (vy (σ a) r * vz (σ a) r) ≤ nI j := nI_ge hj (by omega)
  have hm30 : m < 2 ^ 30 := Nat.lt_of_lt_of_le hm (Nat.pow_le_pow_right (by decide) hs.2.2.2.2.1)
  have el : lb (σ a) r j = m.testBit j := by unfold lb; rw [em, nI_clamp (by omega)]
  have hb := bit_c hm30 (j := j) (by omega)
  simp only [fRooms_isLaid, fRooms_isLaid_0, ib8 h hr, cl8 h hr, gd_t, ey, ez, x1, q4, em, ↓reduceIte, el]
  cases hc : m.testBit j with
  | false => rw [if_pos (hb.mpr hc)]; rfl
  | true => rw [if_neg (fun q => by rw [hb.mp q] at hc; cases hc)]; rfl
theorem isLaid_far (h : okStore (σ a)) {r j : Nat} (hr : r < vn (σ a)) (hj : vy (σ a) r * vz (σ a) r ≤ j) (hj2 : j < 1000) : fRooms_isLaid σ a (nI r) (nI j) = some 0 := by
  have hk := okS h hr
  have hs := vs_le hk
  obtain ⟨-, -, ⟨y1, y2, ey⟩, ⟨z1, z2, ez⟩, -⟩ := hk
  have x1 : nI (vy (σ a) r) * nI (vz (σ a) r) = nI (vy (σ a) r * vz (σ a) r) := pk_mul _ _
  have q4 : nI (vy (σ a) r * vz (σ a) r) ≤ nI j := nI_le hj (by omega)
  simp only [fRooms_isLaid, fRooms_isLaid_0, ib8 h hr, cl8 h hr, gd_t, ey, ez, x1, q4, ↓reduceIte]
theorem m17 {τ : Sg} (hm : Rm 0 v (τ 7)) {r j : Nat} (hr : r < vn v) (hj : j < vy v r * vz v r) : τ 7 17 (30 * r + j) = if lb v r j then 1 else 0 := by
  have e := hm.2.2.2.1 r hr j hj
  rw [show 240 * 0 + 30 * r + j = 30 * r + j by omega] at e
  exact e
end Geo
