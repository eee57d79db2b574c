/-! the six sides of a place -/
def nb6 (w y z p s : Nat) : Option Nat := match s with
  | 0 => if 0 < p % w then some (p - 1) else none
  | 1 => if p % w + 1 < w then some (p + 1) else none
  | 2 => if 0 < p / w % y then some (p - w) else none
  | 3 => if p / w % y + 1 < y then some (p + w) else none
  | 4 => if w * y ≤ p then some (p - w * y) else none
  | _ => if p + w * y < w * y * z then some (p + w * y) else none
def sd (v : Vw) (r p s : Nat) : Int32 := match nb6 (vw v r) (vy v r) (vz v r) p s with
  | some q => vc v r q
  | none => 0
theorem wi_m1 {x w : Nat} (hx : x < w) (hw : w < 2 ^ 30) : wi (nI x + (-1)) 0 (nI w - 1) = if 0 < x then 1 else 0 := by
  cases x with
  | zero =>
    rw [if_neg (by omega)]
    unfold wi
    rw [if_pos (by show (0 : Int32) + (-1) < 0; decide)]
  | succ x =>
    rw [pk_m1, if_pos (by omega)]
    exact wiIx0 (by omega) (by omega)
theorem wi_p1 {x w : Nat} (hx : x < w) (hw : w < 2 ^ 30) : wi (nI x + 1) 0 (nI w - 1) = if x + 1 < w then 1 else 0 := by
  rw [nI_1]
  by_cases c : x + 1 < w
  · rw [if_pos c]; exact wiIx0 c (by omega)
  · rw [if_neg c]
    refine wiIxN (by omega) (fun ⟨j, hj, e⟩ => ?_)
    have := (nI_eq (by omega) (by omega)).mp e
    omega
theorem wi_00 {x w : Nat} (hx : x < w) (hw : w < 2 ^ 30) : wi (nI x + 0) 0 (nI w - 1) = 1 := by
  rw [show nI x + 0 = nI x from nI_add x 0]
  exact wiIx0 hx (by omega)
/-- the neighbour's place is a place -/
theorem nb6_lt {w y z p s q : Nat} (hw : 1 ≤ w) (hy : 1 ≤ y) (hp : p < w * y * z) (h : nb6 w y z p s = some q) : q < w * y * z := by
  have hx : p = w * (p / w) + p % w := (Nat.div_add_mod p w).symm
  have hxw : p % w < w := Nat.mod_lt _ hw
  have hq : p / w < y * z := Nat.div_lt_of_lt_mul (by rw [← Nat.mul_assoc]; exact hp)
  match s, h with
  | 0, h => simp only [nb6] at h; split at h <;> cases h; omega
  | 1, h =>
    simp only [nb6] at h; split at h <;> cases h
    have : w * (p / w) + w ≤ w * (y * z) := by
      have := Nat.mul_le_mul_left w (show p / w + 1 ≤ y * z by omega)
      rwa [Nat.mul_add, Nat.mul_one] at this
    rw [← Nat.mul_assoc] at this
    omega
  | 2, h => simp only [nb6] at h; split at h <;> cases h; omega
  | 3, h =>
    simp only [nb6] at h; split at h <;> cases h
    rename_i hc
    have hz : p / w / y < z := Nat.div_lt_of_lt_mul (by exact hq)
    have e1 : p / w = y * (p / w / y) + p / w % y := (Nat.div_add_mod (p / w) y).symm
    have h2 : y * (p / w / y) + y ≤ y * z := by
      have := Nat.mul_le_mul_left y (show p / w / y + 1 ≤ z by omega)
      rwa [Nat.mul_add, Nat.mul_one] at this
    have h3 : p / w + 1 < y * z ∨ p / w + 1 = y * z → p / w + 2 ≤ y * z := by intro _; omega
    have h4 : p / w + 2 ≤ y * z := by omega
    have h5 := Nat.mul_le_mul_left w h4
    rw [Nat.mul_add, ← Nat.mul_assoc] at h5
    omega
  | 4, h => simp only [nb6] at h; split at h <;> cases h; omega
  | s + 5, h =>
    have h : (if p + w * y < w * y * z then some (p + w * y) else none) = some q := h
    split at h <;> cases h
    assumption
def nbI (o : Option Nat) : Int32 := match o with
  | some q => nI q
  | none => -1
theorem nzi_nI {n : Nat} (h : 1 ≤ n) (h2 : n < 2 ^ 31) : nzi (nI n) = true := by
  unfold nzi
  have : ¬ nI n = 0 := nI_ne0 (by omega) h2
  simp [this]
theorem le_m1 {x w : Nat} (hx : x < w) (hw : w < 2 ^ 30) : (nI w - 1 ≤ nI x) ↔ ¬ x + 1 < w := by
  obtain ⟨k, rfl⟩ : ∃ k, w = k + 1 := ⟨w - 1, by omega⟩
  rw [nI_pred, nI_leI (by omega) (by omega)]
  omega
theorem beside_eq {σ : Sg} {w y z p s : Nat} (w1 : 1 ≤ w) (w6 : w ≤ 6) (y1 : 1 ≤ y) (y6 : y ≤ 6) (z1 : 1 ≤ z) (z5 : z ≤ 5) (hp : p < 400) (hs : s < 6) : fI_beside σ (nI s) (nI p) (nI w) (nI y) (nI z) = some (nbI (nb6 w y z p s)) := by
  have a1 : w * y ≤ 36 := Nat.mul_le_mul w6 y6
  have a2 : w * y * z ≤ 36 * 5 := Nat.mul_le_mul a1 z5
  have hdl : p / w ≤ p := Nat.div_le_self _ _
  have e1 : nI p / nI w = nI (p / w) := pk_div (by omega) w1 (by omega)
  have e2 : nI p - nI (p / w) * nI w = nI (p % w) := by rw [← e1]; exact pk_rem (by omega) w1 (by omega)
  have e3 : nI (p / w) - nI (p / w) / nI y * nI y = nI (p / w % y) := pk_rem (by omega) y1 (by omega)
  have e4 : nI w * nI y = nI (w * y) := pk_mul w y
  have e5 : nI (w * y) * nI z = nI (w * y * z) := pk_mul _ _
  have hxw : p % w < w := Nat.mod_lt _ w1
  have hyy : p / w % y < y := Nat.mod_lt _ y1
  have q1 : ¬ nI w < 1 := nI_nlt (b := 1) w1 (by omega)
  have q2 : (1 : Int32) ≤ nI y := nI_le (a := 1) y1 (by omega)
  unfold fI_beside fI_beside_0
  rw [if_neg q1, if_pos q2]
  simp only [lt_v, gd_of (nzi_nI w1 (by omega)), gd_of (nzi_nI y1 (by omega)), e1, e2, e3, e4, e5]
  rcases (show s = 0 ∨ s = 1 ∨ s = 2 ∨ s = 3 ∨ s = 4 ∨ s = 5 by omega) with rfl | rfl | rfl | rfl | rfl | rfl
  · rw [if_pos (show nI 0 = 0 by decide)]
    simp only [nb6]
    by_cases c : 0 < p % w
    · have hp1 : 1 ≤ p := Nat.pos_of_ne_zero (fun h => by subst h; simp at c)
      rw [if_neg (nI_nle c (by omega)), if_pos c]
      show some (nI p - nI 1) = some (nI (p - 1))
      rw [pk_sub hp1]
    · rw [if_pos (by rw [show p % w = 0 by omega]; decide), if_neg c]; rfl
  · rw [if_neg (show ¬ nI 1 = 0 by decide), if_pos (show nI 1 = 1 by decide)]
    simp only [nb6]
    by_cases c : p % w + 1 < w
    · rw [if_neg (fun q => (le_m1 hxw (by omega)).mp q c), if_pos c, nI_1]; rfl
    · rw [if_pos ((le_m1 hxw (by omega)).mpr c), if_neg c]; rfl
  · rw [if_neg (show ¬ nI 2 = 0 by decide), if_neg (show ¬ nI 2 = 1 by decide), if_pos (show nI 2 = 2 by decide)]
    simp only [nb6]
    by_cases c : 0 < p / w % y
    · have hp1 : w ≤ p := by
        rcases Nat.lt_or_ge p w with h | h
        · rw [Nat.div_eq_of_lt h] at c; simp at c
        · exact h
      rw [if_neg (nI_nle c (by omega)), if_pos c, pk_sub hp1]; rfl
    · rw [if_pos (by rw [show p / w % y = 0 by omega]; decide), if_neg c]; rfl
  · rw [if_neg (show ¬ nI 3 = 0 by decide), if_neg (show ¬ nI 3 = 1 by decide), if_neg (show ¬ nI 3 = 2 by decide), if_pos (show nI 3 = 3 by decide)]
    simp only [nb6]
    by_cases c : p / w % y + 1 < y
    · rw [if_neg (fun q => (le_m1 hyy (by omega)).mp q c), if_pos c, nI_add]; rfl
    · rw [if_pos ((le_m1 hyy (by omega)).mpr c), if_neg c]; rfl
  · rw [if_neg (show ¬ nI 4 = 0 by decide), if_neg (show ¬ nI 4 = 1 by decide), if_neg (show ¬ nI 4 = 2 by decide), if_neg (show ¬ nI 4 = 3 by decide), if_pos (show nI 4 = 4 by decide)]
    simp only [nb6]
    by_cases c : w * y ≤ p
    · rw [if_neg (nI_nlt c (by omega)), if_pos c, pk_sub c]; rfl
    · rw [if_pos (nI_lt (by omega) (by omega)), if_neg c]; rfl
  · rw [if_neg (show ¬ nI 5 = 0 by decide), if_neg (show ¬ nI 5 = 1 by decide), if_neg (show ¬ nI 5 = 2 by decide), if_neg (show ¬ nI 5 = 3 by decide), if_neg (show ¬ nI 5 = 4 by decide), nI_add]
    simp only [nb6]
    by_cases c : p + w * y < w * y * z
    · rw [if_neg (nI_ge c (by omega)), if_pos c]; rfl
    · rw [if_pos (nI_le (by omega) (by omega)), if_neg c]; rfl
/-- by the class: what lies at a side -/
theorem at_side {σ : Sg} {a : Nat} (h : okStore (σ a)) {r p s : Nat} (hr : r < vn (σ a)) (hp : p < vs (σ a) r) (hs : s < 6) : bp (fI_beside σ (nI s) (nI p) (σ a 3 r) (σ a 4 r) (σ a 5 r)) (fun q => fRooms_at σ a (nI r) q) = some (sd (σ a) r p s) := by
  have hk := okS h hr
  have hv := vs_le hk
  obtain ⟨-, ⟨w1, w2, ew⟩, ⟨y1, y2, ey⟩, ⟨z1, z2, ez⟩, -⟩ := hk
  rw [ew, ey, ez, beside_eq w1 w2 y1 y2 z1 z2 (by omega) hs, bp_s]
  unfold sd
  cases hn : nb6 (vw (σ a) r) (vy (σ a) r) (vz (σ a) r) p s with
  | none => exact at_far h hr (Or.inl (by decide))
  | some q => exact at_in h hr (nb6_lt w1 y1 hp hn)
/-- by the reference -/
theorem m_side {τ : Sg} {v : Vw} (h : okStore v) (hm : Rm 0 v (τ 7)) {r p s : Nat} (hr : r < vn v) (hp : p < vs v r) (hs : s < 6) : fM_side τ (nI r) (nI p) (nI s) = some (sd v r p s) := by
  have hk := okS h hr
  have hv := vs_le hk
  have hb := ib48 h hr
  have hc := cl8 h hr
  obtain ⟨m1, m2, m3, m4, -⟩ := hm.2.2.1 r hr
  simp only [Nat.mul_zero, Nat.zero_add] at m1 m2 m3 m4
  obtain ⟨-, ⟨w1, w2, ew⟩, ⟨y1, y2, ey⟩, ⟨z1, z2, ez⟩, -⟩ := hk
  rw [ew] at m2; rw [ey] at m3; rw [ez] at m4
  have hpw : p < vw v r * vy v r * vz v r := hp
  have hat : ∀ q, q < vs v r → fM_at τ (nI r) (nI q) = some (vc v r q) := fun q hq => m_at h hm hr hq
  have hnl : ∀ q, nb6 (vw v r) (vy v r) (vz v r) p s = some q → q < vs v r := fun q hq => nb6_lt w1 y1 hpw hq
  unfold sd
  generalize hw : vw v r = w at *
  generalize hy : vy v r = y at *
  generalize hz : vz v r = z at *
  have a1 : w * y ≤ 36 := Nat.mul_le_mul w2 y2
  have a0 : 1 * 1 ≤ w * y := Nat.mul_le_mul w1 y1
  have a2 : w * y * z ≤ 36 * 5 := Nat.mul_le_mul a1 z2
  have hdl : p / w ≤ p := Nat.div_le_self _ _
  have e1 : nI p / nI w = nI (p / w) := pk_div (by omega) w1 (by omega)
  have e2 : nI p - nI (p / w) * nI w = nI (p % w) := by rw [← e1]; exact pk_rem (by omega) w1 (by omega)
  have e3 : nI (p / w) - nI (p / w) / nI y * nI y = nI (p / w % y) := pk_rem (by omega) y1 (by omega)
  have e4 : nI w * nI y = nI (w * y) := pk_mul w y
  have e6 : nI p / nI (w * y) = nI (p / (w * y)) := pk_div (by omega) (by omega) (by omega)
  have hxw : p % w < w := Nat.mod_lt _ w1
  have hyy : p / w % y < y := Nat.mod_lt _ y1
  have hzz : p / (w * y) < z := Nat.div_lt_of_lt_mul hpw
  have hlay : fM_layerOf τ (nI r) (nI p) = some (nI (p / (w * y))) := by
    simp only [fM_layerOf, fM_layerOf_0, fM_floor, fM_floor_0, hb, hc, gd_t, m2, m3, e4, bp_s, gd_of (nzi_nI (show 1 ≤ w * y by omega) (by omega)), e6]
  have tail : ∀ (dx dy dz : Int32) (q : Int32), wi (nI (p % w) + dx) 0 (nI w - 1) = 1 → wi (nI (p / w % y) + dy) 0 (nI y - 1) = 1 → wi (nI (p / (w * y)) + dz) 0 (nI z - 1) = 1 → nI p + dx + nI w * (dy + nI y * dz) = q → fM_side_95 τ (nI r) (nI p) (nI w) (nI (p % w)) (nI (p / w % y)) (nI (p / (w * y))) dx dy dz = fM_at τ (nI r) q := by
    intro dx dy dz q h1 h2 h3 h4
    have k1 : ¬ (1 : Int32) = 0 := by decide
    simp only [fM_side_95, fM_in_eq, bp_s, hb, hc, gd_t, m3, m4, h1, h2, h3, k1, ↓reduceIte, h4]
    cases fM_at τ (nI r) q <;> rfl
  have no1 : ∀ (dx dy dz : Int32), wi (nI (p % w) + dx) 0 (nI w - 1) = 0 → fM_side_95 τ (nI r) (nI p) (nI w) (nI (p % w)) (nI (p / w % y)) (nI (p / (w * y))) dx dy dz = some 0 := by
    intro dx dy dz h1
    simp only [fM_side_95, fM_in_eq, bp_s, h1, ↓reduceIte]
  have no2 : ∀ (dy dz : Int32), wi (nI (p / w % y) + dy) 0 (nI y - 1) = 0 → fM_side_95 τ (nI r) (nI p) (nI w) (nI (p % w)) (nI (p / w % y)) (nI (p / (w * y))) 0 dy dz = some 0 := by
    intro dy dz h1
    have k1 : ¬ (1 : Int32) = 0 := by decide
    simp only [fM_side_95, fM_in_eq, bp_s, wi_00 hxw (show w < 2 ^ 30 by omega), k1, hb, hc, gd_t, m3, h1, ↓reduceIte]
  have no3 : ∀ (dz : Int32), wi (nI (p / (w * y)) + dz) 0 (nI z - 1) = 0 → fM_side_95 τ (nI r) (nI p) (nI w) (nI (p % w)) (nI (p / w % y)) (nI (p / (w * y))) 0 0 dz = some 0 := by
    intro dz h1
    have k1 : ¬ (1 : Int32) = 0 := by decide
    simp only [fM_side_95, fM_in_eq, bp_s, wi_00 hxw (show w < 2 ^ 30 by omega), wi_00 hyy (show y < 2 ^ 30 by omega), k1, hb, hc, gd_t, m3, m4, h1, ↓reduceIte]
  have t0 : ∀ x : Int32, x + 0 = x := fun x => Int32.add_zero x
  have t1 : ∀ x : Int32, x * 0 = 0 := fun x => Int32.mul_zero
  have z0 : ∀ x : Int32, 0 + x = x := fun x => Int32.zero_add x
  simp only [fM_side, fM_side_0, hb, hc, gd_t, lt_v, m2, m3, gd_of (nzi_nI w1 (show w < 2 ^ 31 by omega)), gd_of (nzi_nI y1 (show y < 2 ^ 31 by omega)), e1, e2, e3, hlay, bp_s]
  rcases (show s = 0 ∨ s = 1 ∨ s = 2 ∨ s = 3 ∨ s = 4 ∨ s = 5 by omega) with rfl | rfl | rfl | rfl | rfl | rfl
  · rw [if_pos (show nI 0 = 0 by decide)]
    simp only [fM_side_53, fM_side_74, show ¬ nI 0 = (2 : Int32) by decide, show ¬ nI 0 = (3 : Int32) by decide, show ¬ nI 0 = (4 : Int32) by decide, show ¬ nI 0 = (5 : Int32) by decide, ↓reduceIte]
    simp only [nb6] at hnl ⊢
    by_cases c : 0 < p % w
    · have hp1 : 1 ≤ p := Nat.pos_of_ne_zero (fun h => by subst h; simp at c)
      rw [if_pos c] at hnl ⊢
      rw [tail (-1) 0 0 (nI (p - 1)) (by rw [wi_m1 hxw (by omega), if_pos c]) (wi_00 hyy (by omega)) (wi_00 hzz (by omega)) (by rw [t1, t0, t1, t0]; obtain ⟨k, rfl⟩ : ∃ k, p = k + 1 := ⟨p - 1, by omega⟩; exact pk_m1 k)]
      exact hat _ (hnl _ rfl)
    · rw [if_neg c, no1 (-1) 0 0 (by rw [wi_m1 hxw (by omega), if_neg c])]
  · rw [if_neg (show ¬ nI 1 = 0 by decide), if_pos (show nI 1 = 1 by decide)]
    simp only [fM_side_53, fM_side_74, show ¬ nI 1 = (2 : Int32) by decide, show ¬ nI 1 = (3 : Int32) by decide, show ¬ nI 1 = (4 : Int32) by decide, show ¬ nI 1 = (5 : Int32) by decide, ↓reduceIte]
    simp only [nb6] at hnl ⊢
    by_cases c : p % w + 1 < w
    · rw [if_pos c] at hnl ⊢
      rw [tail 1 0 0 (nI (p + 1)) (by rw [wi_p1 hxw (by omega), if_pos c]) (wi_00 hyy (by omega)) (wi_00 hzz (by omega)) (by rw [t1, t0, t1, t0]; exact nI_1 p)]
      exact hat _ (hnl _ rfl)
    · rw [if_neg c, no1 1 0 0 (by rw [wi_p1 hxw (by omega), if_neg c])]
  · rw [if_neg (show ¬ nI 2 = 0 by decide), if_neg (show ¬ nI 2 = 1 by decide)]
    simp only [fM_side_53, fM_side_74, show nI 2 = (2 : Int32) by decide, show ¬ (2 : Int32) = (4 : Int32) by decide, show ¬ (2 : Int32) = (5 : Int32) by decide, ↓reduceIte]
    simp only [nb6] at hnl ⊢
    by_cases c : 0 < p / w % y
    · have hp1 : w ≤ p := by
        rcases Nat.lt_or_ge p w with h | h
        · rw [Nat.div_eq_of_lt h] at c; simp at c
        · exact h
      rw [if_pos c] at hnl ⊢
      rw [tail 0 (-1) 0 (nI (p - w)) (wi_00 hxw (by omega)) (by rw [wi_m1 hyy (by omega), if_pos c]) (wi_00 hzz (by omega)) (by rw [t1, t0, t0, ← pk_sub hp1, Int32.mul_neg, Int32.mul_one, Int32.sub_eq_add_neg])]
      exact hat _ (hnl _ rfl)
    · rw [if_neg c, no2 (-1) 0 (by rw [wi_m1 hyy (by omega), if_neg c])]
  · rw [if_neg (show ¬ nI 3 = 0 by decide), if_neg (show ¬ nI 3 = 1 by decide)]
    simp only [fM_side_53, fM_side_74, show nI 3 = (3 : Int32) by decide, show ¬ (3 : Int32) = (2 : Int32) by decide, show ¬ (3 : Int32) = (4 : Int32) by decide, show ¬ (3 : Int32) = (5 : Int32) by decide, ↓reduceIte]
    simp only [nb6] at hnl ⊢
    by_cases c : p / w % y + 1 < y
    · rw [if_pos c] at hnl ⊢
      rw [tail 0 1 0 (nI (p + w)) (wi_00 hxw (by omega)) (by rw [wi_p1 hyy (by omega), if_pos c]) (wi_00 hzz (by omega)) (by rw [t1, t0, t0, Int32.mul_one, nI_add])]
      exact hat _ (hnl _ rfl)
    · rw [if_neg c, no2 1 0 (by rw [wi_p1 hyy (by omega), if_neg c])]
  · rw [if_neg (show ¬ nI 4 = 0 by decide), if_neg (show ¬ nI 4 = 1 by decide)]
    simp only [fM_side_53, fM_side_74, show nI 4 = (4 : Int32) by decide, show ¬ (4 : Int32) = (2 : Int32) by decide, show ¬ (4 : Int32) = (3 : Int32) by decide, ↓reduceIte]
    simp only [nb6] at hnl ⊢
    have hi : 0 < p / (w * y) ↔ w * y ≤ p := Nat.div_pos_iff.trans ⟨fun h => h.2, fun h => ⟨by omega, h⟩⟩
    by_cases c : w * y ≤ p
    · rw [if_pos c] at hnl ⊢
      rw [tail 0 0 (-1) (nI (p - w * y)) (wi_00 hxw (by omega)) (wi_00 hyy (by omega)) (by rw [wi_m1 hzz (by omega), if_pos (hi.mpr c)]) (by rw [t0, z0, ← Int32.mul_assoc, e4, ← pk_sub c, Int32.mul_neg, Int32.mul_one, Int32.sub_eq_add_neg])]
      exact hat _ (hnl _ rfl)
    · rw [if_neg c, no3 (-1) (by rw [wi_m1 hzz (by omega), if_neg (fun q => c (hi.mp q))])]
  · rw [if_neg (show ¬ nI 5 = 0 by decide), if_neg (show ¬ nI 5 = 1 by decide)]
    simp only [fM_side_53, fM_side_74, show nI 5 = (5 : Int32) by decide, show ¬ (5 : Int32) = (2 : Int32) by decide, show ¬ (5 : Int32) = (3 : Int32) by decide, show ¬ (5 : Int32) = (4 : Int32) by decide, ↓reduceIte]
    simp only [nb6] at hnl ⊢
    have hi : p / (w * y) + 1 < z ↔ p + w * y < w * y * z := by
      have h1 : (p + w * y) / (w * y) = p / (w * y) + 1 := Nat.add_div_right p (by omega)
      rw [← h1, Nat.div_lt_iff_lt_mul (by omega), Nat.mul_comm z]
    by_cases c : p + w * y < w * y * z
    · rw [if_pos c] at hnl ⊢
      rw [tail 0 0 1 (nI (p + w * y)) (wi_00 hxw (by omega)) (wi_00 hyy (by omega)) (by rw [wi_p1 hzz (by omega), if_pos (hi.mpr c)]) (by rw [t0, z0, Int32.mul_one, e4, nI_add])]
      exact hat _ (hnl _ rfl)
    · rw [if_neg c, no3 1 (by rw [wi_p1 hzz (by omega), if_neg (fun q => c (hi.mp q))])]
