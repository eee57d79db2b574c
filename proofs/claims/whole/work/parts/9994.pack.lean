theorem op_pack : Op_pack Inv := by
  intro lv σ hI a1
  obtain ⟨h, hm⟩ := hI.2.2.2.1
  have k1 : ¬ (1 : Int32) = 0 := by decide
  have i6 : ib 0 6 = true := by decide
  have c0 : (0 : Int32).toNatClampNeg = 0 := by decide
  have hmS : ∀ x, Rm 0 (σ 0) (stI σ x 7) := fun x => hm
  obtain ⟨N, hN30, e4, e51, hh⟩ := hI.1.2.2.2.2.1
  have h51 : ∀ x, stI σ x 7 0 51 = nI N := fun x => e51
  have no : ∀ x : Int32, fI_pack lv σ a1 = some (x, stI σ x, lv) → fM_pack (stI σ x) a1 = some (x, stM (stI σ x) x) → ∃ r σ1 lv1, fI_pack lv σ a1 = some (r, σ1, lv1) ∧ ∃ σ2, fM_pack σ1 a1 = some (r, σ2) ∧ Inv lv1 σ2 := fun x h1 h2 => ⟨x, _, lv, h1, _, h2, hI.st x⟩
  by_cases hr : inR (σ 0) a1
  · obtain ⟨r, hr, rfl⟩ := hr
    have hv := vs_le (okS h hr)
    have hb3 := h.2.1.1
    have e15 := h.2.1.2
    have e8 := (okS h hr).2.2.2.2.2.2.2.1
    have hb := ib8 h hr
    have hc := cl8 h hr
    have hh1 := has_in h hr
    have e78 : ∀ x, stI σ x 7 8 0 = nI (vb (σ 0)) := fun x => hm.1.2.2.trans e15
    by_cases c1 : vs (σ 0) r < N
    · refine no (-6) ?_ ?_
      · rw [fI_pack, fI_pack_0, hh1, bp_s, if_neg k1, hb, gd_t, hc, e8, e4, if_pos (nI_lt c1 (by omega)), fI_pack_67, fI_answer_eq, bi_s]
      · rw [fM_pack, fM_pack_0, isRoom_in h (hmS _) hr, bp_s, if_neg k1, m_places h (hmS _) hr, bp_s, h51, if_pos (nI_lt c1 (by omega)), fM_pack_44, fM_ends_eq, bi_s]
    have d1 : ¬ nI (vs (σ 0) r) < nI N := nI_nlt (by omega) (by omega)
    have e300 : (300 : Int32) - nI (vb (σ 0)) = nI (300 - vb (σ 0)) := pk_sub (a := 300) hb3
    have l300 : nI (vb (σ 0)) + nI N ≤ 300 ↔ vb (σ 0) + N ≤ 300 := by
      rw [nI_add, show (300 : Int32) = nI 300 from rfl, nI_leI (by omega) (by omega)]
    by_cases c2 : vb (σ 0) + N ≤ 300
    · have d2 : nI N ≤ nI (300 - vb (σ 0)) := nI_le (by omega) (by omega)
      have cls : fI_pack lv σ (nI r) = (if nI N = 0 then fI_pack_112 lv σ else bp (fRooms_isAllLaid σ 0 (nI r)) (fun y2 => (if y2 = 0 then fI_pack_112 lv σ else bp (fRooms_isBare σ 0 (nI r)) (fun y3 => (if y3 = 0 then fI_pack_112 lv σ else if lv 10 = true then fI_pack_137 lv σ (nI r) else mk2 (zap σ 10) (setL lv 10) (fun σ5 lv => fI_pack_137 lv σ5 (nI r))))))) := by
        rw [fI_pack, fI_pack_0, hh1, bp_s, if_neg k1, hb, gd_t, hc, e8, e4, if_neg d1, e15, e300, if_pos d2]
      have mdl : ∀ τ : Sg, Rm 0 (σ 0) (τ 7) → τ 7 0 51 = nI N → fM_pack τ (nI r) = bp (fM_isReady τ (nI r)) (fun y3 => (if y3 = 0 then bi (fM_ends τ ((-7))) (fun y5 σ6 => some (y5, σ6)) else chM τ (nI r))) := by
        intro τ t1 t2
        have t3 : τ 7 8 0 = nI (vb (σ 0)) := t1.1.2.2.trans e15
        rw [fM_pack, fM_pack_0, isRoom_in h t1 hr, bp_s, if_neg k1, m_places h t1 hr, bp_s, t2, if_neg d1, i6, gd_t, c0, t3, if_pos (l300.mpr c2)]
        unfold chM
        rw [t2]
      by_cases c3 : N = 0
      · refine no (-7) ?_ ?_
        · rw [cls, if_pos (by rw [c3]; rfl), fI_pack_112, fI_answer_eq, bi_s]
        · have hrd : fM_isReady (stI σ (-7)) (nI r) = some 0 := by
            rw [fM_isReady, fM_isReady_0, h51, if_pos (by rw [c3]; decide), fM_isReady_12]
            exact ready_no h (hmS _) hr (vs (σ 0) r) 0 FU (Nat.zero_add _) (by unfold FU; omega)
          rw [mdl _ (hmS _) (h51 _), hrd, bp_s, if_pos rfl, fM_ends_eq, bi_s]
      have d3 : ¬ nI N = 0 := fun q => c3 ((nI_inj0 (by omega)).mp q)
      have d4 : ¬ nI N ≤ 0 := nI_nle (by omega) (by omega)
      have rdy : ∀ τ : Sg, τ 7 0 51 = nI N → fM_isReady τ (nI r) = fM_isReady_12 τ (nI r) 1 := fun τ t => by rw [fM_isReady, fM_isReady_0, t, if_neg d4]
      rcases ready_eq h hr with ⟨x, y, a1, a2, a3, a4⟩ | ⟨a1, a2, a3, a4⟩
      · refine no (-7) ?_ ?_
        · rw [cls, if_neg d3, a1, bp_s]
          by_cases hx : x = 0
          · rw [if_pos hx, fI_pack_112, fI_answer_eq, bi_s]
          · have hy : y = 0 := a3.resolve_left hx
            rw [if_neg hx, a2, bp_s, if_pos hy, fI_pack_112, fI_answer_eq, bi_s]
        · rw [mdl _ (hmS _) (h51 _), rdy _ (h51 _), a4 _ (hmS _), bp_s, if_pos rfl, fM_ends_eq, bi_s]
      · have go : ∀ (lv1 : Nat → Bool) (τ0 : Sg), lv1 10 = true → (∀ s, s ≠ 10 → lv1 s = lv s) → (∀ s, s ≠ 10 → τ0 s = σ s) → fI_pack lv σ (nI r) = fI_pack_137 lv1 τ0 (nI r) → ∃ r' σ1 lv1, fI_pack lv σ (nI r) = some (r', σ1, lv1) ∧ ∃ σ2, fM_pack σ1 (nI r) = some (r', σ2) ∧ Inv lv1 σ2 := by
          intro lv1 τ0 t1 t2 t3 t4
          obtain ⟨x, σ1, g1, g2, g3, σ2, g4, g5⟩ := pack_go hI t1 t2 t3 hr (by omega) hN30 e4 e51 c2 a3 hh
          have g51 : σ1 7 0 51 = nI N := by rw [g3]; exact e51
          refine ⟨x, σ1, lv1, t4.trans g1, σ2, ?_, g5⟩
          rw [mdl σ1 g2 g51, rdy σ1 g51, a4 σ1 g2, bp_s, if_neg k1, g4]
        have cls2 : fI_pack lv σ (nI r) = if lv 10 = true then fI_pack_137 lv σ (nI r) else mk2 (zap σ 10) (setL lv 10) (fun σ5 lv => fI_pack_137 lv σ5 (nI r)) := by
          rw [cls, if_neg d3, a1, bp_s, if_neg k1, a2, bp_s, if_neg k1]
        by_cases hl : lv 10 = true
        · exact go lv σ hl (fun _ _ => rfl) (fun _ _ => rfl) (by rw [cls2, if_pos hl])
        · refine go (setL lv 10) (zap σ 10) (if_pos rfl) (fun s hs => if_neg hs) (fun s hs => if_neg hs) ?_
          rw [cls2, if_neg hl]
          rfl
    · have d2 : ¬ nI N ≤ nI (300 - vb (σ 0)) := nI_ge (by omega) (by omega)
      refine no (-6) ?_ ?_
      · rw [fI_pack, fI_pack_0, hh1, bp_s, if_neg k1, hb, gd_t, hc, e8, e4, if_neg d1, e15, e300, if_neg d2, fI_pack_67, fI_answer_eq, bi_s]
      · rw [fM_pack, fM_pack_0, isRoom_in h (hmS _) hr, bp_s, if_neg k1, m_places h (hmS _) hr, bp_s, h51, if_neg d1, i6, gd_t, c0, e78, if_neg (fun q => c2 (l300.mp q)), fM_pack_44, fM_ends_eq, bi_s]
  · refine no (-2) ?_ ?_
    · rw [fI_pack, fI_pack_0, has_out h hr, bp_s, if_pos rfl, fI_answer_eq, bi_s]
    · rw [fM_pack, fM_pack_0, isRoom_out h (hmS _) hr, bp_s, if_pos rfl, fM_ends_eq, bi_s]
