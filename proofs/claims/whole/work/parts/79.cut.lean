/-! what lies beyond the reference's slot 0 -/
def lim (k : Nat) : Nat := if k < 9 then 1 else if k = 9 then 6 else if k < 17 then 8 else if k = 17 then 240 else if k = 18 then 1440 else if k < 25 then 300 else 0
def Ofs (m m' : Vw) : Prop := ∀ k, 6 ≤ k → k ≤ 25 → ∀ j, lim k ≤ j → m' k j = m k j
theorem Ofs.refl (m : Vw) : Ofs m m := fun _ _ _ _ _ => rfl
theorem Ofs.up {m : Vw} {σ : Sg} {c i : Nat} {x : Int32} (h : Ofs m (σ 7)) (hi : i < lim c) : Ofs m (upA σ 7 c (upd (σ 7 c) i x) 7) := by
  intro k k1 k2 j hj
  rw [upA_r]
  split
  · next q =>
    obtain ⟨-, rfl⟩ := q
    rw [upd_r, if_neg (by omega)]
    exact h _ k1 k2 j hj
  · exact h k k1 k2 j hj
theorem Ofs.rm {m m' v : Vw} {w : Nat} (h : Ofs m m') (hv : okStore v) (hw : 1 ≤ w) (hr : Rm w v m) : Rm w v m' := by
  obtain ⟨⟨a1, a2, a3⟩, ⟨b1, b2, b3, b4⟩, c, d, e, f⟩ := hr
  have g : ∀ k, 6 ≤ k → k ≤ 25 → ∀ j x, lim k ≤ j → m k j = x → m' k j = x := fun k h1 h2 j x hj hx => (h k h1 h2 j hj).trans hx
  have l9 : lim 9 = 6 := rfl
  have l17 : lim 17 = 240 := rfl
  have l18 : lim 18 = 1440 := rfl
  refine ⟨⟨g _ (by omega) (by omega) _ _ (by show 1 ≤ _; omega) a1, g _ (by omega) (by omega) _ _ (by show 1 ≤ _; omega) a2, g _ (by omega) (by omega) _ _ (by show 1 ≤ _; omega) a3⟩, ⟨g _ (by omega) (by omega) _ _ (by omega) b1, g _ (by omega) (by omega) _ _ (by omega) b2, g _ (by omega) (by omega) _ _ (by omega) b3, g _ (by omega) (by omega) _ _ (by omega) b4⟩, fun r hr => ?_, fun r hr j hj => ?_, fun r hr p hp => ?_, fun b hb => ?_⟩
  · obtain ⟨c1, c2, c3, c4, c5, c6, c7⟩ := c r hr
    exact ⟨g _ (by omega) (by omega) _ _ (by show 8 ≤ _; omega) c1, g _ (by omega) (by omega) _ _ (by show 8 ≤ _; omega) c2, g _ (by omega) (by omega) _ _ (by show 8 ≤ _; omega) c3, g _ (by omega) (by omega) _ _ (by show 8 ≤ _; omega) c4, g _ (by omega) (by omega) _ _ (by show 8 ≤ _; omega) c5, g _ (by omega) (by omega) _ _ (by show 8 ≤ _; omega) c6, g _ (by omega) (by omega) _ _ (by show 8 ≤ _; omega) c7⟩
  · exact g _ (by omega) (by omega) _ _ (by omega) (d r hr j hj)
  · exact g _ (by omega) (by omega) _ _ (by omega) (e r hr p hp)
  · obtain ⟨c1, c2, c3, c4, c5, c6⟩ := f b hb
    exact ⟨g _ (by omega) (by omega) _ _ (by show 300 ≤ _; omega) c1, g _ (by omega) (by omega) _ _ (by show 300 ≤ _; omega) c2, g _ (by omega) (by omega) _ _ (by show 300 ≤ _; omega) c3, g _ (by omega) (by omega) _ _ (by show 300 ≤ _; omega) c4, g _ (by omega) (by omega) _ _ (by show 300 ≤ _; omega) c5, g _ (by omega) (by omega) _ _ (by show 300 ≤ _; omega) c6⟩
theorem IvI1.ofs {b : Bool} {k : Nat} {v m m' : Vw} (h : IvI1 b k v m) (ho : Ofs m m') : IvI1 b k v m' := by
  refine ⟨fun hb => (ho 25 (by omega) (by omega) k (Nat.zero_le k)).trans (h.1 hb), fun hb => ?_⟩
  obtain ⟨h1, h2, h3⟩ := h.2 hb
  exact ⟨(ho 25 (by omega) (by omega) k (Nat.zero_le k)).trans h1, h2, ho.rm h2 (by omega) h3⟩
/-! filling a place, from the rooms alone -/
def okN (v : Vw) : Prop := vn v ≤ 8 ∧ v 1 0 = nI (vn v)
theorem at_inG {σ : Sg} {a : Nat} (h : okN (σ a)) {r p : Nat} (hr : r < vn (σ a)) (hk : okRoom (σ a) r) (hp : p < vs (σ a) r) : fRooms_at σ a (nI r) (nI p) = some (vc (σ a) r p) := by
  have h8 := h.1
  have hs := vs_le hk
  obtain ⟨-, -, -, -, -, -, e7, e8, -⟩ := hk
  have k10 : ¬ (1 : Int32) = 0 := by decide
  have x1 : nI r * 180 + nI p = nI (180 * r + p) := by show nI r * nI 180 + nI p = _; rw [pk_mul, nI_add, Nat.mul_comm]
  have hib : ib (nI (180 * r + p)) 1440 = true := ib_nI (by omega) (by decide)
  have hb : ib (nI r) 8 = true := ib_nI (by omega) (by decide)
  have hc : (nI r).toNatClampNeg = r := nI_clamp (by omega)
  have hcl : (nI (180 * r + p)).toNatClampNeg = 180 * r + p := nI_clamp (by omega)
  have q1 : ¬ nI r < 0 := nI_pos (by omega)
  have q2 : ¬ nI p < 0 := nI_pos (by omega)
  have q3 : ¬ nI (vn (σ a)) ≤ nI r := nI_ge hr (by omega)
  have q4 : ¬ nI (vs (σ a) r) ≤ nI p := nI_ge hp (by omega)
  simp only [fRooms_at, fRooms_at_0, fRooms_at_31, h.2, q1, q2, q3, q4, hb, hc, e8, gd_t, x1, hib, hcl, k10, ↓reduceIte, vc]
theorem fill_eqG {σ : Sg} {a : Nat} (h : okN (σ a)) {r p : Nat} (hr : r < vn (σ a)) (hk : okRoom (σ a) r) (hp : p < vs (σ a) r) (x : Int32) : fRooms_fill σ a (nI r) (nI p) x = some (fillS σ a r p x) := by
  have hv := vs_le hk
  have h8 := h.1
  have hb : ib (nI r) 8 = true := ib_nI (by omega) (by decide)
  have hc : (nI r).toNatClampNeg = r := nI_clamp (by omega)
  have k1 : ¬ (1 : Int32) = 0 := by decide
  have e7 := hk.2.2.2.2.2.2.1
  have e8 := hk.2.2.2.2.2.2.2.1
  have q1 : ¬ nI r < 0 := nI_pos (by omega)
  have q2 : ¬ nI p < 0 := nI_pos (by omega)
  have q3 : ¬ nI (vn (σ a)) ≤ nI r := nI_ge hr (by omega)
  have q4 : ¬ nI (vs (σ a) r) ≤ nI p := nI_ge hp (by omega)
  have x1 : nI r * 180 + nI p = nI (180 * r + p) := by show nI r * nI 180 + nI p = _; rw [pk_mul, nI_add, Nat.mul_comm]
  have hib : ib (nI (180 * r + p)) 1440 = true := ib_nI (by omega) (by decide)
  have hcl : (nI (180 * r + p)).toNatClampNeg = 180 * r + p := nI_clamp (by omega)
  have hhp : fRooms_hasPlace σ a (nI r) (nI p) = some 1 := by
    simp only [fRooms_hasPlace, fRooms_hasPlace_0, fRooms_has, fRooms_has_0, h.2, q1, q3, bp_s, k1, q2, hb, hc, gd_t, e8, q4, ↓reduceIte]
  by_cases c : p < vf (σ a) r
  · have q5 : ¬ nI (vf (σ a) r) ≤ nI p := nI_ge c (by omega)
    have hof : fRooms_isOnFloor σ a (nI r) (nI p) = some 1 := by
      simp only [fRooms_isOnFloor, fRooms_isOnFloor_0, hb, hc, gd_t, e7, q5, ↓reduceIte]
    have e12 : ∀ f : Nat → Int32, upA σ a 12 f a 14 = σ a 14 := fun f => upA_ne _ _ (by omega)
    simp only [fRooms_fill, fRooms_fill_0, fRooms_fill_36, fRooms_fill_51, fRooms_fill_54, hhp, hof, bp_s, k1, hb, hc, gd_t, at_inG h hr hk hp, lt_v, x1, hib, hcl, ↓reduceIte, e12, fillS, drD, c]
    by_cases c2 : x = 2
    · by_cases c3 : vc (σ a) r p = 2
      · simp only [c2, c3, ↓reduceIte]
      · simp only [c2, c3, ↓reduceIte]
    · by_cases c3 : vc (σ a) r p = 2
      · simp only [c2, c3, ↓reduceIte]
      · simp only [c2, c3, ↓reduceIte]
  · have q5 : nI (vf (σ a) r) ≤ nI p := nI_le (by omega) (by omega)
    have hof : fRooms_isOnFloor σ a (nI r) (nI p) = some 0 := by
      simp only [fRooms_isOnFloor, fRooms_isOnFloor_0, hb, hc, gd_t, e7, q5, ↓reduceIte]
    have e0 : σ a 12 r + 0 = σ a 12 r := Int32.add_zero _
    simp only [fRooms_fill, fRooms_fill_0, fRooms_fill_36, fRooms_fill_51, fRooms_fill_54, hhp, hof, bp_s, k1, hb, hc, gd_t, lt_v, x1, hib, hcl, ↓reduceIte, fillS, drD, c, e0, upd_id, upA_id]
