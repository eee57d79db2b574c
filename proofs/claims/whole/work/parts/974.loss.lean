/-! losses, free blocks -/
def gW (k w : Int32) : Int32 := if w ≤ 0 then 0 else (if k = 2 then 5 else 3) * w
def wtr (v : Vw) (we : Int32) (r p : Nat) : Int32 := if decide (v 2 r = 5 ∧ p < vf v r ∧ dnF v r = 0) = true then we else 0
def lsN (v : Vw) (pa we w : Int32) (b r p : Nat) : Int32 := nI (nAir v r p) * gW (v 16 b) w + nI (nStr v r p) * (gW (v 16 b) w * pa / 100) + wtr v we r p
def lsW (v : Vw) (pa we w : Int32) (b r p : Nat) : Int32 := if v 17 b ≤ lsN v pa we w b r p then v 17 b else lsN v pa we w b r p
theorem mn_lt (g x : Int32) : (if g < x then g else x) = if g ≤ x then g else x := by
  by_cases c : g < x
  · rw [if_pos c, if_pos (Int32.le_of_lt c)]
  · rw [if_neg c]
    by_cases c2 : g ≤ x
    · rw [if_pos c2]
      exact Int32.le_antisymm (Int32.not_lt.mp c) c2
    · rw [if_neg c2]
theorem wtr_1 {v : Vw} {we : Int32} {r p : Nat} (h : wat v r p) : wtr v we r p = we := if_pos (decide_eq_true (p := v 2 r = 5 ∧ p < vf v r ∧ dnF v r = 0) h)
theorem wtr_0 {v : Vw} {we : Int32} {r p : Nat} (h : ¬ wat v r p) : wtr v we r p = 0 := if_neg (fun x => h (of_decide_eq_true (p := v 2 r = 5 ∧ p < vf v r ∧ dnF v r = 0) x))
theorem z100 : (0 : Int32) / 100 = 0 := by decide
theorem lsN_cold {v : Vw} {pa we w : Int32} {b r p : Nat} (h : w ≤ 0) : lsN v pa we w b r p = wtr v we r p := by
  unfold lsN gW
  rw [if_pos h, Int32.zero_mul, z100, Int32.mul_zero, Int32.mul_zero, Int32.add_zero, Int32.zero_add]
theorem loss_c {σ : Sg} {a : Nat} {v : Vw} (ha : a ≠ 6) (e : σ a = v) (h : okW v) {b r p : Nat} (hb : b < vb v) (hr : r < vn v) (hp : p < vs v r) (e1 : v 18 b = nI r) (e2 : v 19 b = nI p) (w : Int32) : ∃ g : Nat → Int32, fMelting_lossOf σ a (nI b) w = some (lsW v (σ 6 2 0) (σ 6 2 1) w b r p, upA σ 6 11 g) := by
  have h3 := h.2.1.1
  have hib : ib (nI b) 300 = true := ib_nI (by omega) (by decide)
  have hcl : (nI b).toNatClampNeg = b := nI_clamp (by omega)
  obtain ⟨x, hx, hw⟩ := water_c e h hr hp
  have hx0 : (if x = 0 then fMelting_lossOf_44 σ a (nI b) w (nI r) (nI p) 0 else fMelting_lossOf_44 σ a (nI b) w (nI r) (nI p) (σ 6 2 1)) = fMelting_lossOf_44 σ a (nI b) w (nI r) (nI p) (wtr v (σ 6 2 1) r p) := by
    rcases hw with ⟨rfl, hw⟩ | ⟨rfl, hw⟩
    · rw [if_neg (by decide), wtr_1 hw]
    · rw [if_pos rfl, wtr_0 hw]
  have hstep : fMelting_lossOf σ a (nI b) w = fMelting_lossOf_44 σ a (nI b) w (nI r) (nI p) (wtr v (σ 6 2 1) r p) := by
    simp only [fMelting_lossOf, fMelting_lossOf_0, hib, hcl, gd_t, lt_v, e, e1, e2, hx, bp_s]
    exact hx0
  rw [hstep]
  by_cases c : w ≤ 0
  · refine ⟨σ 6 11, ?_⟩
    simp only [fMelting_lossOf_44, fMelting_lossOf_112, c, hib, hcl, gd_t, e, ↓reduceIte, mn_lt, upA_id, lsW, lsN_cold c]
  · obtain ⟨g, hg, g0, g1, -⟩ := look_eq ha e h hr hp
    refine ⟨g, ?_⟩
    have ea : upA σ 6 11 g a = v := (upA_o σ 11 g ha).trans e
    have e62 : upA σ 6 11 g 6 2 = σ 6 2 := upA_ne _ _ (by omega)
    have rt : fI_rateOf σ (v 16 b) = some (if v 16 b = 2 then 5 else 3) := by unfold fI_rateOf fI_rateOf_0; split <;> rfl
    have eN : wtr v (σ 6 2 1) r p + (nI (nAir v r p) * ((if v 16 b = 2 then 5 else 3) * w) + nI (nStr v r p) * ((if v 16 b = 2 then 5 else 3) * w * σ 6 2 0 / 100)) = lsN v (σ 6 2 0) (σ 6 2 1) w b r p := by
      unfold lsN gW
      rw [if_neg c, Int32.add_comm]
    simp only [fMelting_lossOf_44, fMelting_lossOf_112, c, hib, hcl, gd_t, e, rt, bp_s, lt_v, hg, upA_same, g0, g1, e62, ea, ↓reduceIte, mn_lt, eN, lsW]
theorem loss_m {τ : Sg} {v : Vw} (h : okStore v) (hm : Rm 0 v (τ 7)) {d t : Int32} (ht : fM_tenthsOf τ d = some t) {b r p : Nat} (hb : b < vb v) (hr : r < vn v) (hp : p < vs v r) (e1 : v 18 b = nI r) (e2 : v 19 b = nI p) : fM_loss τ (nI b) d = some (lsW v (τ 7 0 3) (τ 7 0 4) (wrm v t r) b r p) := by
  have h3 := h.2.1.1
  have hib : ib (nI b) 1800 = true := ib_nI (by omega) (by decide)
  have hcl : (nI b).toNatClampNeg = b := nI_clamp (by omega)
  obtain ⟨m1, m2, m3, m4, -⟩ := m_b hm hb
  have hw := m_warmth h hm ht hr
  have hstep : fM_loss τ (nI b) d = fM_loss_50 τ (nI b) (nI r) (nI p) (gW (v 16 b) (wrm v t r)) := by
    unfold gW
    by_cases c : wrm v t r ≤ 0
    · simp only [fM_loss, fM_loss_0, hib, hcl, gd_t, lt_v, m3, m4, e1, e2, hw, bp_s, c, ↓reduceIte]
    · by_cases c2 : v 16 b = 2
      · simp only [fM_loss, fM_loss_0, fM_loss_43, hib, hcl, gd_t, lt_v, m1, m3, m4, e1, e2, hw, bp_s, c, c2, ↓reduceIte]
      · simp only [fM_loss, fM_loss_0, fM_loss_43, hib, hcl, gd_t, lt_v, m1, m3, m4, e1, e2, hw, bp_s, c, c2, ↓reduceIte]
  rw [hstep]
  obtain ⟨x, hx, hwt⟩ := water_m h hm hr hp
  have hx0 : ∀ y, (if x = 0 then fM_loss_101 τ (nI b) 0 y else fM_loss_101 τ (nI b) (τ 7 0 4) y) = fM_loss_101 τ (nI b) (wtr v (τ 7 0 4) r p) y := fun y => by
    rcases hwt with ⟨rfl, hwt⟩ | ⟨rfl, hwt⟩
    · rw [if_neg (by decide), wtr_1 hwt]
    · rw [if_pos rfl, wtr_0 hwt]
  simp only [fM_loss_50, m_air h hm hr hp, m_str h hm hr hp, hx, bp_s, hx0]
  simp only [fM_loss_101, lt_v, hib, hcl, gd_t, m2]
  show (if v 17 b ≤ lsN v (τ 7 0 3) (τ 7 0 4) (wrm v t r) b r p then some (v 17 b) else some (lsN v (τ 7 0 3) (τ 7 0 4) (wrm v t r) b r p)) = some (if v 17 b ≤ lsN v (τ 7 0 3) (τ 7 0 4) (wrm v t r) b r p then v 17 b else lsN v (τ 7 0 3) (τ 7 0 4) (wrm v t r) b r p)
  by_cases q : v 17 b ≤ lsN v (τ 7 0 3) (τ 7 0 4) (wrm v t r) b r p
  · rw [if_pos q, if_pos q]
  · rw [if_neg q, if_neg q]
/-! free -/
theorem above_G {σ : Sg} {a : Nat} {v : Vw} (e : σ a = v) (h : okW v) {r p : Nat} (hr : r < vn v) (hp : p < vs v r) : fRooms_above σ a (nI r) (nI p) = some (sd v r p 5) := by
  subst e
  have hk := h.2.2.1 r hr
  have hv := vs_le hk
  have h8 := h.1.1
  have hb : ib (nI r) 8 = true := ib_nI (by omega) (by decide)
  have hc : (nI r).toNatClampNeg = r := nI_clamp (by omega)
  have e7 := hk.2.2.2.2.2.2.1
  rw [sd5]
  simp only [fRooms_above, fRooms_above_0, hb, hc, gd_t, e7, nI_add]
  by_cases c : p + vf (σ a) r < vs (σ a) r
  · rw [if_pos c, at_inG h.1 hr hk c]; rfl
  · rw [if_neg c, at_farG h.1 hr hk (Or.inr (nI_le (by omega) (by omega)))]; rfl
def frP (v : Vw) (r p : Nat) : Bool := decide (10 ≤ vc v r p ∧ ¬ 10 ≤ sd v r p 5)
theorem free_c {σ : Sg} {a : Nat} {v : Vw} (e : σ a = v) (h : okW v) {r p : Nat} (hr : r < vn v) (hp : p < vs v r) : fRooms_isFreeBlock σ a (nI r) (nI p) = some (if frP v r p then 1 else 0) := by
  have hat : fRooms_at σ a (nI r) (nI p) = some (vc v r p) := by
    subst e
    exact at_inG h.1 hr (h.2.2.1 r hr) hp
  have hab := above_G e h hr hp
  unfold frP
  by_cases c : vc v r p < 10
  · rw [decide_eq_false (fun x => Int32.not_le.mpr c x.1)]
    simp only [fRooms_isFreeBlock, fRooms_isFreeBlock_0, hat, bp_s, c, ↓reduceIte, Bool.false_eq_true]
  · by_cases c2 : 10 ≤ sd v r p 5
    · rw [decide_eq_false (fun x => x.2 c2)]
      simp only [fRooms_isFreeBlock, fRooms_isFreeBlock_0, hat, hab, bp_s, c, c2, ↓reduceIte, Bool.false_eq_true]
    · rw [decide_eq_true ⟨Int32.not_lt.mp c, c2⟩]
      simp only [fRooms_isFreeBlock, fRooms_isFreeBlock_0, hat, hab, bp_s, c, c2, ↓reduceIte]
theorem free_m {τ : Sg} {v : Vw} (h : okStore v) (hm : Rm 0 v (τ 7)) {b r p : Nat} (hb : b < vb v) (hr : r < vn v) (hp : p < vs v r) (e1 : v 18 b = nI r) (e2 : v 19 b = nI p) : fM_isFree τ (nI b) = some (if 10 ≤ sd v r p 5 then 0 else 1) := by
  have h3 := h.2.1.1
  have hib : ib (nI b) 1800 = true := ib_nI (by omega) (by decide)
  have hcl : (nI b).toNatClampNeg = b := nI_clamp (by omega)
  obtain ⟨m1, m2, m3, m4, -⟩ := m_b hm hb
  have hs : fM_side τ (nI r) (nI p) 5 = some (sd v r p 5) := m_side (s := 5) h hm hr hp (by omega)
  simp only [fM_isFree, fM_isFree_0, hib, hcl, gd_t, m3, m4, e1, e2, hs, bp_s]
  split <;> rfl
/-- a block that lies: its room and place, and its cell -/
theorem blk_lies {v : Vw} (h : okStore v) {b : Nat} (hb : b < vb v) (hn : ¬ v 18 b = -1) : ∃ r p, r < vn v ∧ p < vs v r ∧ v 18 b = nI r ∧ v 19 b = nI p ∧ vc v r p = nI (10 + b) := by
  rcases (h.2.2.2.2.2.1 b hb).2.2 with q | q
  · exact absurd q.1 hn
  · exact q
theorem ge10 {b : Nat} (hb : b < 300) : (10 : Int32) ≤ nI (10 + b) := nI_le (a := 10) (by omega) (by omega)
theorem frP_b {v : Vw} {r p b : Nat} (hb : b < 300) (hc : vc v r p = nI (10 + b)) : frP v r p = decide (¬ 10 ≤ sd v r p 5) := by
  unfold frP
  rw [hc]
  simp only [ge10 hb, true_and]
