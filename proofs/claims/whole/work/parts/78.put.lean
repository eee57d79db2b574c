/-! filling and clearing a place -/
theorem sd4 (v : Vw) (r p : Nat) : sd v r p 4 = if vf v r ≤ p then vc v r (p - vf v r) else 0 := by
  unfold sd nb6
  show (match (if vf v r ≤ p then some (p - vf v r) else none) with | some q => vc v r q | none => 0) = _
  split
  · next h => split at h <;> cases h; rw [if_pos ‹_›]
  · next h => split at h <;> cases h; rw [if_neg ‹_›]
theorem sd5 (v : Vw) (r p : Nat) : sd v r p 5 = if p + vf v r < vs v r then vc v r (p + vf v r) else 0 := by
  unfold sd nb6
  show (match (if p + vf v r < vs v r then some (p + vf v r) else none) with | some q => vc v r q | none => 0) = _
  split
  · next h => split at h <;> cases h; rw [if_pos ‹_›]
  · next h => split at h <;> cases h; rw [if_neg ‹_›]
theorem above_eq {σ : Sg} {a : Nat} (h : okStore (σ a)) {r p : Nat} (hr : r < vn (σ a)) (hp : p < vs (σ a) r) : fRooms_above σ a (nI r) (nI p) = some (sd (σ a) r p 5) := by
  have hk := okS h hr
  have hv := vs_le hk
  have e7 := hk.2.2.2.2.2.2.1
  rw [sd5]
  simp only [fRooms_above, fRooms_above_0, ib8 h hr, cl8 h hr, gd_t, e7, nI_add]
  by_cases c : p + vf (σ a) r < vs (σ a) r
  · rw [if_pos c, at_in h hr c]; rfl
  · rw [if_neg c, at_far h hr (Or.inr (nI_le (by omega) (by omega)))]; rfl
/-- what bears: the floor, straw or a block below -/
def brs (v : Vw) (r p : Nat) : Prop := p < vf v r ∨ sd v r p 4 = 1 ∨ 10 ≤ sd v r p 4
theorem bears_eq {σ : Sg} {a : Nat} (h : okStore (σ a)) {r p : Nat} (hr : r < vn (σ a)) (hp : p < vs (σ a) r) : ∃ e, fRooms_bears σ a (nI r) (nI p) = some e ∧ ((e = 1 ∧ brs (σ a) r p) ∨ (e = 0 ∧ ¬ brs (σ a) r p)) := by
  have hk := okS h hr
  have hv := vs_le hk
  have e7 := hk.2.2.2.2.2.2.1
  have k1 : ¬ (1 : Int32) = 0 := by decide
  unfold brs
  rw [sd4]
  by_cases c : vf (σ a) r ≤ p
  · have q5 : nI (vf (σ a) r) ≤ nI p := nI_le (by omega) (by omega)
    have ea : fRooms_at σ a (nI r) (nI (p - vf (σ a) r)) = some (vc (σ a) r (p - vf (σ a) r)) := at_in h hr (by omega)
    simp only [fRooms_bears, fRooms_bears_0, fRooms_bears_34, fRooms_isOnFloor, fRooms_isOnFloor_0, ib8 h hr, cl8 h hr, gd_t, e7, pk_sub c, ea, bp_s, q5, ↓reduceIte, c]
    by_cases c1 : vc (σ a) r (p - vf (σ a) r) = 1
    · rw [if_pos c1]; exact ⟨1, rfl, Or.inl ⟨rfl, Or.inr (Or.inl c1)⟩⟩
    · rw [if_neg c1]
      by_cases c2 : vc (σ a) r (p - vf (σ a) r) < 10
      · rw [if_pos c2]
        refine ⟨0, rfl, Or.inr ⟨rfl, fun q => ?_⟩⟩
        rcases q with q | q | q
        · omega
        · exact c1 q
        · exact Int32.not_lt.mpr q c2
      · rw [if_neg c2]
        exact ⟨1, rfl, Or.inl ⟨rfl, Or.inr (Or.inr (Int32.not_lt.mp c2))⟩⟩
  · have q5 : ¬ nI (vf (σ a) r) ≤ nI p := nI_ge (by omega) (by omega)
    have ea : ∃ x, fRooms_at σ a (nI r) (nI p - nI (vf (σ a) r)) = some x := by
      refine ⟨_, at_far h hr (Or.inl ?_)⟩
      rw [Int32.lt_iff_toInt_lt, Int32.toInt_sub, nI_toInt (by omega), nI_toInt (by omega)]
      rw [Int.bmod_eq_of_le (by omega) (by omega)]
      show _ < (0 : Int)
      omega
    obtain ⟨x, ea⟩ := ea
    simp only [fRooms_bears, fRooms_bears_0, fRooms_bears_34, fRooms_isOnFloor, fRooms_isOnFloor_0, ib8 h hr, cl8 h hr, gd_t, e7, ea, bp_s, q5, ↓reduceIte, k1]
    exact ⟨1, rfl, Or.inl ⟨rfl, Or.inl (by omega)⟩⟩
theorem fill_cases {σ : Sg} (h : okStore (σ 0)) (x y : Int32) : ∃ e, fI_refusalToFill σ x y = some e ∧ (∀ τ : Sg, Rm 0 (σ 0) (τ 7) → fM_unfit τ x y = some e) ∧ (¬ e = 0 ∨ (e = 0 ∧ ∃ r p, r < vn (σ 0) ∧ p < vs (σ 0) r ∧ x = nI r ∧ y = nI p ∧ vc (σ 0) r p = 0)) := by
  have k1 : ¬ (1 : Int32) = 0 := by decide
  have n1 : ¬ (-1 : Int32) = 0 := by decide
  have n2 : ¬ (-2 : Int32) = 0 := by decide
  have n3 : ¬ (-3 : Int32) = 0 := by decide
  rcases refP_cases h x y with ⟨c, e⟩ | ⟨r, hr, rfl, ⟨c, e⟩ | ⟨p, hp, rfl, ⟨c, e⟩ | ⟨c, e⟩⟩⟩
  · refine ⟨-2, ?_, fun τ hm => ?_, Or.inl n2⟩
    · simp only [fI_refusalToFill, fI_refusalToFill_0, e, bp_s, n2, ↓reduceIte]
    · simp only [fM_unfit, fM_unfit_0, isRoom_out h hm c, bp_s, ↓reduceIte]
  · refine ⟨-1, ?_, fun τ hm => ?_, Or.inl n1⟩
    · simp only [fI_refusalToFill, fI_refusalToFill_0, e, bp_s, n1, ↓reduceIte]
    · simp only [fM_unfit, fM_unfit_0, isRoom_in h hm hr, m_isPlace_out h hm hr c, bp_s, k1, ↓reduceIte]
  · refine ⟨-3, ?_, fun τ hm => ?_, Or.inl n3⟩
    · simp only [fI_refusalToFill, fI_refusalToFill_0, e, bp_s, n3, ↓reduceIte]
    · simp only [fM_unfit, fM_unfit_0, isRoom_in h hm hr, m_isPlace_in h hm hr hp, m_isLaid h hm hr hp, c, bp_s, k1, ↓reduceIte, Bool.false_eq_true]
  · by_cases c0 : vc (σ 0) r p = 0
    · have hv := vs_le (okS h hr)
      obtain ⟨e3, he3, hb⟩ := bears_eq h hr hp
      have hl : ∀ τ : Sg, Rm 0 (σ 0) (τ 7) → fM_unfit τ (nI r) (nI p) = some (if e3 = 0 then -5 else 0) := by
        intro τ hm
        have hs : fM_side τ (nI r) (nI p) 4 = some (sd (σ 0) r p 4) := m_side (s := 4) h hm hr hp (by omega)
        simp only [fM_unfit, fM_unfit_0, fM_unfit_76, isRoom_in h hm hr, m_isPlace_in h hm hr hp, m_isLaid h hm hr hp, m_at h hm hr hp, m_layer h hm hr (show p < 2 ^ 30 by omega), hs, c, c0, bp_s, k1, ↓reduceIte]
        by_cases c1 : p < vf (σ 0) r
        · have e0 : p / vf (σ 0) r = 0 := Nat.div_eq_of_lt c1
          rw [e0, if_pos (show nI 0 = 0 from rfl)]
          rcases hb with ⟨hb, -⟩ | ⟨-, hb⟩
          · rw [hb]; rfl
          · exact absurd (Or.inl c1) hb
        · have h0 : 0 < p / vf (σ 0) r := Nat.div_pos (by omega) (by omega)
          have hle : p / vf (σ 0) r ≤ p := Nat.div_le_self _ _
          rw [if_neg (nI_ne0 h0 (by omega))]
          rcases hb with ⟨hb, b1 | b1 | b1⟩ | ⟨hb, b1⟩
          · exact absurd b1 c1
          · rw [hb, if_pos b1, ite_self]; rfl
          · rw [hb, if_pos b1]; rfl
          · rw [hb, if_neg (fun q => b1 (Or.inr (Or.inr q))), if_neg (fun q => b1 (Or.inr (Or.inl q)))]; rfl
      refine ⟨if e3 = 0 then -5 else 0, ?_, hl, ?_⟩
      · simp only [fI_refusalToFill, fI_refusalToFill_0, e, bp_s, at_in h hr hp, c0, he3, ↓reduceIte]
        split <;> rfl
      · by_cases q : e3 = 0
        · rw [if_pos q]; exact Or.inl (by decide)
        · rw [if_neg q]; exact Or.inr ⟨rfl, r, p, hr, hp, rfl, rfl, c0⟩
    · refine ⟨-4, ?_, fun τ hm => ?_, Or.inl (by decide)⟩
      · simp only [fI_refusalToFill, fI_refusalToFill_0, e, bp_s, at_in h hr hp, c0, ↓reduceIte]
      · simp only [fM_unfit, fM_unfit_0, isRoom_in h hm hr, m_isPlace_in h hm hr hp, m_isLaid h hm hr hp, m_at h hm hr hp, c, c0, bp_s, k1, ↓reduceIte]
/-- the whole stays in hand when a place of the standing store is filled with no block -/
theorem Inv_fill {lv : Nat → Bool} {σ : Sg} (hI : Inv lv σ) {r p : Nat} {x : Int32} (hr : r < vn (σ 0)) (hp : p < vs (σ 0) r) (ho : vc (σ 0) r p = 0 ∨ vc (σ 0) r p = 1 ∨ vc (σ 0) r p = 2) (hx : x = 0 ∨ x = 1 ∨ x = 2) (s : Int32) : Inv lv (stM (upA (stI (fillS σ 0 r p x) s) 7 18 (upd (stI (fillS σ 0 r p x) s 7 18) (180 * r + p) x)) s) := by
  obtain ⟨⟨h1, h2, h3, h4, h5, h6, h7, h8⟩, h9, h10, ⟨h11, h11m⟩, h12, h13, h14, h15⟩ := hI
  have hv := vs_le (okS h11 hr)
  have h8' := h11.1.1
  have key := Rm_fill (x := x) h11 h11m hr hp
  have hok := okStore_fill h11 hr hp ho hx
  rw [← fillS_a σ 0 r p x] at key hok
  have im : ∀ (k : Nat) (b : Bool) (v : Vw), IvI1 b k v (σ 7) → IvI1 b k v (fun j => if j = 18 then upd (σ 7 18) (180 * r + p) x else σ 7 j) := by
    intro k b v ⟨q1, q2⟩
    refine ⟨q1, fun hb => ?_⟩
    obtain ⟨a1, a2, a3, a4, a5, a6, a7, a8⟩ := q2 hb
    refine ⟨a1, a2, a3, a4, a5, a6, fun q hq s hs => ?_, a8⟩
    have hvq := vs_le (okS a2 hq)
    show upd (σ 7 18) (180 * r + p) x (1440 * (1 + k) + 180 * q + s) = _
    unfold upd
    rw [if_neg (by omega)]
    exact a7 q hq s hs
  exact ⟨⟨rfl, h2, h3, h4, h5, h6, h7, h8⟩, h9, h10, ⟨hok, key⟩, im 0 _ _ h12, im 1 _ _ h13, im 2 _ _ h14, im 3 _ _ h15⟩
theorem op_put : Op_put Inv := by
  intro lv σ hI a1 a2 a3
  obtain ⟨h, hm⟩ := hI.2.2.2.1
  have k1 : ¬ (1 : Int32) = 0 := by decide
  have n7 : ¬ (-7 : Int32) = 0 := by decide
  have hmS : ∀ r, Rm 0 (σ 0) (stI σ r 7) := fun r => hm
  by_cases c : wi a3 0 1 = 0
  · refine opNo (B := fun s => fM_put s a1 a2 a3) hI (-1) ?_ ?_
    · simp only [fI_put, fI_put_0, fI_within_eq, bp_s, c, ↓reduceIte, fI_answer_eq, bi_s]
    · simp only [fM_put, fM_put_0, fM_in_eq, bp_s, c, ↓reduceIte, fM_ends_eq, bi_s]
  · obtain ⟨e, he, hu, hc⟩ := fill_cases h a1 a2
    rcases hc with hc | ⟨rfl, r, p, hr, hp, rfl, rfl, hz⟩
    · refine opNo (B := fun s => fM_put s a1 a2 a3) hI e ?_ ?_
      · simp only [fI_put, fI_put_0, fI_put_50, fI_put_76, fI_within_eq, bp_s, c, he, hc, ↓reduceIte, fI_answer_eq, bi_s]
      · simp only [fM_put, fM_put_0, fM_in_eq, bp_s, c, hu _ (hmS e), hc, ↓reduceIte, fM_ends_eq, bi_s]
    · have hk := okS h hr
      have hv := vs_le hk
      have h8 := h.1.1
      have d1 := fun s => m_dims (τ := stI σ s) h hm hr
      have ez := hk.2.2.2.1.2.2
      have z1 := hk.2.2.2.1.1
      have z5 := hk.2.2.2.1.2.1
      have hle : nI (vz (σ 0) r) ≤ 1 ↔ nI (vz (σ 0) r) = 1 := by
        rw [show (1 : Int32) = nI 1 from rfl, nI_leI (by omega) (by omega), nI_eq (by omega) (by omega)]; omega
      have x1 : 180 * nI r + nI p = nI (180 * r + p) := by show nI 180 * nI r + nI p = _; rw [pk_mul, nI_add]
      have hib : ib (nI (180 * r + p)) 8640 = true := ib_nI (by omega) (by decide)
      have hcl : (nI (180 * r + p)).toNatClampNeg = 180 * r + p := nI_clamp (by omega)
      have hmF : ∀ x s, Rm 0 (σ 0) (stI (fillS σ 0 r p x) s 7) := fun x s => hm
      have go : ∀ x, (x = 0 ∨ x = 1 ∨ x = 2) → fI_put σ (nI r) (nI p) a3 = some (0, stI (fillS σ 0 r p x) 0) → fM_put (stI (fillS σ 0 r p x) 0) (nI r) (nI p) a3 = fM_put_96 (stI (fillS σ 0 r p x) 0) x (180 * nI r + nI p) → ∃ r_1 σ1, fI_put σ (nI r) (nI p) a3 = some (r_1, σ1) ∧ ∃ σ2, fM_put σ1 (nI r) (nI p) a3 = some (r_1, σ2) ∧ Inv lv σ2 := by
        intro x hx e1 e2
        refine opII (B := fun s => fM_put s (nI r) (nI p) a3) e1 ?_ (Inv_fill hI hr hp (Or.inl hz) hx 0)
        show fM_put (stI (fillS σ 0 r p x) 0) (nI r) (nI p) a3 = _
        rw [e2]
        simp only [fM_put_96, x1, hib, hcl, gd_t, lt_v, fM_ends_eq, bi_s]
      have dF : ∀ x s, stI (fillS σ 0 r p x) s 7 10 r = σ 0 2 r ∧ stI (fillS σ 0 r p x) s 7 13 r = nI (vz (σ 0) r) := fun x s => ⟨(d1 0).1, (d1 0).2.2.2.1⟩
      by_cases c3 : a3 = 0
      · subst c3
        by_cases c4 : σ 0 2 r = 4 ∨ (σ 0 2 r = 3 ∧ nI (vz (σ 0) r) = 1)
        · refine opNo (B := fun s => fM_put s (nI r) (nI p) 0) hI (-7) ?_ ?_
          · simp only [fI_put, fI_put_0, fI_put_50, fI_put_76, fI_within_eq, bp_s, c, he, fRooms_mayHoldStraw, fRooms_mayHoldStraw_0, fRooms_mayHoldStraw_30, ib8 h hr, cl8 h hr, gd_t, ez, hle, ↓reduceIte]
            rcases c4 with c4 | ⟨c4, c5⟩
            · simp only [c4, ↓reduceIte, bp_s, n7, fI_answer_eq, bi_s]
            · simp only [c4, c5, ↓reduceIte, bp_s, n7, fI_answer_eq, bi_s, show ¬ (3 : Int32) = 4 by decide]
          · simp only [fM_put, fM_put_0, fM_put_69, fM_in_eq, bp_s, c, hu _ (hmS (-7)), ib48 h hr, cl8 h hr, gd_t, (d1 _).1, (d1 _).2.2.2.1, ↓reduceIte]
            rcases c4 with c4 | ⟨c4, c5⟩
            · simp only [c4, ↓reduceIte, fM_ends_eq, bi_s]
            · simp only [c4, c5, ↓reduceIte, fM_ends_eq, bi_s, show ¬ (3 : Int32) = 4 by decide]
        · have c5 : ¬ σ 0 2 r = 4 := fun q => c4 (Or.inl q)
          refine go 1 (Or.inr (Or.inl rfl)) ?_ ?_
          · simp only [fI_put, fI_put_0, fI_put_50, fI_put_73, fI_put_76, fI_within_eq, bp_s, c, he, fRooms_mayHoldStraw, fRooms_mayHoldStraw_0, fRooms_mayHoldStraw_30, ib8 h hr, cl8 h hr, gd_t, ez, hle, c5, ↓reduceIte]
            by_cases c6 : σ 0 2 r = 3
            · have c7 : ¬ nI (vz (σ 0) r) = 1 := fun q => c4 (Or.inr ⟨c6, q⟩)
              simp only [c6, c7, k1, fill_eq h hr hp, ↓reduceIte, bp_s, fI_answer_eq, bi_s]
            · simp only [c6, k1, fill_eq h hr hp, ↓reduceIte, bp_s, fI_answer_eq, bi_s]
          · simp only [fM_put, fM_put_0, fM_put_69, fM_put_76, fM_in_eq, bp_s, c, hu _ (hmF 1 0), ib48 h hr, cl8 h hr, gd_t, dF, c5, ↓reduceIte]
            by_cases c6 : σ 0 2 r = 3
            · have c7 : ¬ nI (vz (σ 0) r) = 1 := fun q => c4 (Or.inr ⟨c6, q⟩)
              simp only [c6, c7, ↓reduceIte]
            · simp only [c6, ↓reduceIte]
      · refine go 2 (Or.inr (Or.inr rfl)) ?_ ?_
        · simp only [fI_put, fI_put_0, fI_put_50, fI_put_73, fI_put_76, fI_within_eq, bp_s, c, he, c3, fill_eq h hr hp, ↓reduceIte, fI_answer_eq, bi_s]
        · simp only [fM_put, fM_put_0, fM_put_69, fM_put_76, fM_in_eq, bp_s, c, hu _ (hmF 2 0), c3, ↓reduceIte]
theorem op_clear : Op_clear Inv := by
  intro lv σ hI a1 a2
  obtain ⟨h, hm⟩ := hI.2.2.2.1
  have k1 : ¬ (1 : Int32) = 0 := by decide
  have n1 : ¬ (-1 : Int32) = 0 := by decide
  have n2 : ¬ (-2 : Int32) = 0 := by decide
  have n3 : ¬ (-3 : Int32) = 0 := by decide
  have hmS : ∀ r, Rm 0 (σ 0) (stI σ r 7) := fun r => hm
  rcases refP_cases h a1 a2 with ⟨c, e⟩ | ⟨r, hr, rfl, ⟨c, e⟩ | ⟨p, hp, rfl, ⟨c, e⟩ | ⟨c, e⟩⟩⟩
  · refine opNo (B := fun s => fM_clear s a1 a2) hI (-2) ?_ ?_
    · simp only [fI_clear, fI_clear_0, e, bp_s, n2, ↓reduceIte, fI_answer_eq, bi_s]
    · simp only [fM_clear, fM_clear_0, isRoom_out h (hmS _) c, bp_s, ↓reduceIte, fM_ends_eq, bi_s]
  · refine opNo (B := fun s => fM_clear s (nI r) a2) hI (-1) ?_ ?_
    · simp only [fI_clear, fI_clear_0, e, bp_s, n1, ↓reduceIte, fI_answer_eq, bi_s]
    · simp only [fM_clear, fM_clear_0, isRoom_in h (hmS _) hr, m_isPlace_out h (hmS _) hr c, bp_s, k1, ↓reduceIte, fM_ends_eq, bi_s]
  · refine opNo (B := fun s => fM_clear s (nI r) (nI p)) hI (-3) ?_ ?_
    · simp only [fI_clear, fI_clear_0, e, bp_s, n3, ↓reduceIte, fI_answer_eq, bi_s]
    · simp only [fM_clear, fM_clear_0, isRoom_in h (hmS _) hr, m_isPlace_in h (hmS _) hr hp, m_isLaid h (hmS _) hr hp, c, bp_s, k1, ↓reduceIte, Bool.false_eq_true, fM_ends_eq, bi_s]
  · have hv := vs_le (okS h hr)
    have h8 := h.1.1
    have x1 : 180 * nI r + nI p = nI (180 * r + p) := by show nI 180 * nI r + nI p = _; rw [pk_mul, nI_add]
    have hib : ib (nI (180 * r + p)) 8640 = true := ib_nI (by omega) (by decide)
    have hcl : (nI (180 * r + p)).toNatClampNeg = 180 * r + p := nI_clamp (by omega)
    have hs5 : ∀ s, fM_side (stI σ s) (nI r) (nI p) 5 = some (sd (σ 0) r p 5) := fun s => m_side (s := 5) h (hmS s) hr hp (by omega)
    have hs5F : ∀ x s, fM_side (stI (fillS σ 0 r p x) s) (nI r) (nI p) 5 = some (sd (σ 0) r p 5) := fun x s => m_side (s := 5) h hm hr hp (by omega)
    by_cases c2 : vc (σ 0) r p = 1 ∨ vc (σ 0) r p = 2
    · have d2 : ∀ {α : Type} (A B : α), (if vc (σ 0) r p = 1 then A else if vc (σ 0) r p = 2 then A else B) = A := by
        intro α A B
        rcases c2 with q | q
        · rw [if_pos q]
        · rw [if_pos q, ite_self]
      by_cases c3 : sd (σ 0) r p 5 = 0
      · refine opII (B := fun s => fM_clear s (nI r) (nI p)) (r := 0) (s1 := stI (fillS σ 0 r p 0) 0) ?_ ?_ (Inv_fill hI hr hp (Or.inr c2) (Or.inl rfl) 0)
        · simp only [fI_clear, fI_clear_0, fI_clear_43, e, bp_s, at_in h hr hp, d2, above_eq h hr hp, c3, fill_eq h hr hp, ↓reduceIte, fI_answer_eq, bi_s]
        · have hmF : Rm 0 (σ 0) (stI (fillS σ 0 r p 0) 0 7) := hm
          simp only [fM_clear, fM_clear_0, fM_clear_63, isRoom_in h hmF hr, m_isPlace_in h hmF hr hp, m_isLaid h hmF hr hp, m_at h hmF hr hp, c, hs5F, c3, d2, x1, hib, hcl, gd_t, lt_v, bp_s, k1, ↓reduceIte, fM_ends_eq, bi_s]
      · refine opNo (B := fun s => fM_clear s (nI r) (nI p)) hI (-7) ?_ ?_
        · simp only [fI_clear, fI_clear_0, fI_clear_43, fI_clear_58, e, bp_s, at_in h hr hp, d2, above_eq h hr hp, c3, ↓reduceIte, fI_answer_eq, bi_s]
        · simp only [fM_clear, fM_clear_0, fM_clear_63, fM_clear_73, isRoom_in h (hmS _) hr, m_isPlace_in h (hmS _) hr hp, m_isLaid h (hmS _) hr hp, m_at h (hmS _) hr hp, c, hs5, c3, d2, bp_s, k1, ↓reduceIte, fM_ends_eq, bi_s]
    · have c3 : ¬ vc (σ 0) r p = 1 := fun q => c2 (Or.inl q)
      have c4 : ¬ vc (σ 0) r p = 2 := fun q => c2 (Or.inr q)
      refine opNo (B := fun s => fM_clear s (nI r) (nI p)) hI (-7) ?_ ?_
      · simp only [fI_clear, fI_clear_0, fI_clear_58, e, bp_s, at_in h hr hp, c3, c4, ↓reduceIte, fI_answer_eq, bi_s]
      · simp only [fM_clear, fM_clear_0, fM_clear_73, isRoom_in h (hmS _) hr, m_isPlace_in h (hmS _) hr hp, m_isLaid h (hmS _) hr hp, m_at h (hmS _) hr hp, c, c3, c4, bp_s, k1, ↓reduceIte, fM_ends_eq, bi_s]
