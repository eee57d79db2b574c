/-! foretell -/
theorem begin_c {C : Sg} {v : Vw} (hv' : C 1 = v) (hv : okStore v) {d0 : Nat} (hvd : v 0 0 = nI d0) : ∃ A : Sg, fForecast_begin C 1 = some A ∧ (∀ s, s ≠ 9 → A s = C s) ∧ A 9 0 0 = nI 0 ∧ A 9 0 1 = (if lyB v = 0 then nI d0 - 1 else -2) ∧ A 9 0 2 = nI (vn v) ∧ A 9 1 (9 * 0) = sumF (fun j => wgt v (nI j)) (vn v) ∧ ∀ j, j < vn v → A 9 1 (9 * 0 + 1 + j) = wgt v (nI j) := by
  have lz : nI (lyB v) = 0 ↔ lyB v = 0 := nI_inj0 (by
    have : lyB v ≤ vb v := cntF_le _ _
    have h3 := hv.2.1.1
    omega)
  have hall := inRooms_c (σ := upA C 9 0 (upd (upd (C 9 0) 0 0) 2 (nI (vn v)))) (a := 1) ((upA_o _ _ _ (by omega)).trans hv') hv.w
  have e1 : ∀ f : Nat → Int32, upA C 9 0 f 1 = v := fun f => (upA_o _ _ _ (by omega)).trans hv'
  generalize hE' : (if lyB v = 0 then nI d0 - 1 else -2) = e0
  generalize hA : upA C 9 0 (upd (upd (upd (C 9 0) 0 0) 2 (nI (vn v))) 1 e0) = A
  have A1 : A 1 = v := by rw [← hA, upA_o _ _ _ (by omega)]; exact hv'
  have A90 : A 9 0 = upd (upd (upd (C 9 0) 0 0) 2 (nI (vn v))) 1 e0 := by rw [← hA, upA_same]
  obtain ⟨g, g0, g1, g2, -⟩ := row_c (X := A) A1 hv (k := 0) (R := vn v) (by omega) rfl (by rw [A90]; rfl) (by rw [A90]; rfl)
  have A9 : upA A 9 1 g 9 0 = upd (upd (upd (C 9 0) 0 0) 2 (nI (vn v))) 1 e0 := by rw [upA_a, if_neg (by omega)]; exact A90
  refine ⟨upA A 9 1 g, ?_, fun s s9 => ?_, ?_, ?_, ?_, ?_, fun j hj => ?_⟩
  · by_cases c : lyB v = 0
    · rw [if_pos c] at hE'
      subst hE'
      simp only [fForecast_begin, fForecast_begin_0, fForecast_begin_35, lt_v, upA_upA, upA_same, e1, hv.1.2, hall, bp_s, c, show nI 0 = 0 from rfl, hvd, hA, g0, ↓reduceIte]
    · rw [if_neg c] at hE'
      subst hE'
      have c' : ¬ nI (lyB v) = 0 := fun z => c (lz.mp z)
      simp only [fForecast_begin, fForecast_begin_0, fForecast_begin_35, lt_v, upA_upA, upA_same, e1, hv.1.2, hall, bp_s, c', hA, g0, ↓reduceIte]
  · rw [upA_o _ _ _ s9, ← hA, upA_o _ _ _ s9]
  · rw [A9]; rfl
  · rw [A9]; rfl
  · rw [A9]; rfl
  · rw [upA_same]; exact g1
  · rw [upA_same]; exact g2 j hj
theorem begin_m {S : Sg} {v : Vw} (hv : okStore v) {d0 n bk : Nat} (hvd : v 0 0 = nI d0) {K : Sg} (hmc : fM_copy S 0 5 = some K) (K0 : Rm 0 v (K 7)) : ∃ T gm, (∀ s, s ≠ 7 → T s = K s) ∧ (∀ k, k ≠ 0 → T 7 k = K 7 k) ∧ T 7 0 = upd (upd (upd (upd (K 7 0) 47 1) 44 (nI n)) 45 (nI (vn v))) 46 (if lyB v = 0 then nI d0 - 1 else -2) ∧ (∀ j, j < vn v → gm (8 * 0 + j) = wgt v (nI j)) ∧ fM_foretell_56 S (nI bk) (nI n) = fM_foretell_115 FU (upA T 7 48 gm) (nI bk) (nI n) (nI (0 + 1)) := by
  have i6 : ib 0 6 = true := by decide
  have c0 : (0 : Int32).toNatClampNeg = 0 := by decide
  have isb1 : isb 1 = true := by decide
  have lz : nI (lyB v) = 0 ↔ lyB v = 0 := nI_inj0 (by
    have : lyB v ≤ vb v := cntF_le _ _
    have h3 := hv.2.1.1
    omega)
  generalize hE' : (if lyB v = 0 then nI d0 - 1 else -2) = e0
  generalize hT : upA K 7 0 (upd (upd (upd (upd (K 7 0) 47 1) 44 (nI n)) 45 (nI (vn v))) 46 e0) = T
  have TR : Rm 0 v (T 7) := Rm_of_k K0 (fun k k6 _ => by rw [← hT, upA_a, if_neg (by omega)])
  obtain ⟨gm, m0, m1, -⟩ := fsee_m (Y := T) hv (k := 0) TR (by omega)
  have m0' : fM_foresees T 0 = some (upA T 7 48 gm) := m0
  have hall := allBlocks_m (τ := upA K 7 0 (upd (upd (upd (K 7 0) 47 1) 44 (nI n)) 45 (nI (vn v)))) hv (Rm_of_k K0 (fun k k6 _ => by rw [upA_a, if_neg (by omega)]))
  have K77 : K 7 7 0 = nI (vn v) := m_7 hv K0
  have K76 : K 7 6 0 = nI d0 := K0.1.1.trans hvd
  have f7 : ∀ f : Nat → Int32, upA K 7 0 f 7 7 = K 7 7 := fun f => by rw [upA_a, if_neg (by omega)]
  have f6 : ∀ f : Nat → Int32, upA K 7 0 f 7 6 = K 7 6 := fun f => by rw [upA_a, if_neg (by omega)]
  have e1 : (1 : Int32) = nI (0 + 1) := rfl
  refine ⟨T, gm, fun s hs => by rw [← hT, upA_o _ _ _ hs], fun k hk => by rw [← hT, upA_a, if_neg hk], by rw [← hT, upA_same], m1, ?_⟩
  rw [← e1]
  by_cases c : lyB v = 0
  · rw [if_pos c] at hE'
    subst hE'
    simp only [fM_foretell_56, fM_foretell_104, hmc, bp_s, isb1, gd_t, lt_v, upA_upA, upA_same, i6, c0, f7, K77, hall, c, show nI 0 = 0 from rfl, f6, K76, hT, m0', ↓reduceIte]
  · rw [if_neg c] at hE'
    subst hE'
    have c' : ¬ nI (lyB v) = 0 := fun z => c (lz.mp z)
    simp only [fM_foretell_56, fM_foretell_104, hmc, bp_s, isb1, gd_t, lt_v, upA_upA, upA_same, i6, c0, f7, K77, hall, c', hT, m0', ↓reduceIte]
