theorem op_send : Op_send Inv := by
  intro lv σ hI a1 a2
  obtain ⟨h, hm⟩ := hI.2.2.2.1
  have h8 := h.1.1
  have h3 := h.2.1.1
  have k1 : ¬ (1 : Int32) = 0 := by decide
  by_cases c : wi a2 1 100000000 = 0
  · refine opNo (B := fun s => fM_send s a1 a2) hI (-1) ?_ ?_
    · simp only [fI_send, fI_send_0, fI_within_eq, c, bp_s, fI_answer_eq, bi_s, ↓reduceIte]
    · simp only [fM_send, fM_send_0, fM_in_eq, c, bp_s, fM_ends_eq, bi_s, ↓reduceIte]
  by_cases hr : inR (σ 0) a1
  · obtain ⟨r, hr, rfl⟩ := hr
    obtain ⟨gr, hg1, hg, rfl⟩ := wiN (lo := 1) (hi := 100000000) (by decide) c (by decide)
    obtain ⟨d, hd, d1, d2⟩ := hI.today
    obtain ⟨t1, t2, -⟩ := hI.terms
    obtain ⟨hdc, hdm⟩ := hI.day (show d < 200 by omega)
    have htt : ∀ X : Sg, X 6 10 = σ 6 10 → X 0 0 0 = σ 0 0 0 → fI_tenthsToday X = some (σ 6 10 d) := fun X e1 e2 => by
      show bp (fCalendar_tenthsOf X (X 0 0 0)) _ = _
      rw [e2, d1, hdc X e1]; rfl
    obtain ⟨cm, m1, m2, m3⟩ := hI.way
    have hcr := cR_le h hr
    have hvr := vs_le (okS h hr)
    have hCX : ∀ k, k ≤ cR (σ 0) r → ∀ X : Sg, CL σ (σ 0) (σ 6 2 0) (σ 6 2 1) (σ 6 10 d) r k X → (∀ j, j ≠ 11 → j ≠ 12 → j ≠ 14 → j ≠ 18 → j ≠ 19 → X 0 j = σ 0 j) := fun k hk X hX j j11 j12 j14 j18 j19 => by
      rw [hX.2.2.2.2.1]
      unfold W2
      rw [if_neg j18, if_neg j19]
      exact (Lu_all h (pa := σ 6 2 0) (we := σ 6 2 1) (t := σ 6 10 d) hr k hk).2.1 j j11 j12 j14 j18 j19
    have hcmX : ∀ k, k ≤ cR (σ 0) r → ∀ X : Sg, CL σ (σ 0) (σ 6 2 0) (σ 6 2 1) (σ 6 10 d) r k X → ∀ b, b < vb (σ 0) → fI_atWaysEnd X (nI b) = some (nI (cm b)) := fun k hk X hX b hb => by
      have hX0 := hCX k hk X hX
      obtain ⟨y1, y2, y3, y4, y5, y6⟩ := hX
      exact m2 X (hX0 16 (by omega) (by omega) (by omega) (by omega) (by omega)) (hX0 17 (by omega) (by omega) (by omega) (by omega) (by omega)) (by rw [hX0 0 (by omega) (by omega) (by omega) (by omega) (by omega)]) (by rw [y2 2 (by omega) (by omega) (by omega)]) (y2 3 (by omega) (by omega) (by omega)) (y2 10 (by omega) (by omega) (by omega)) (y2 14 (by omega) (by omega) (by omega)) (y2 15 (by omega) (by omega) (by omega)) b hb
    obtain ⟨n, hn, hst, hlt⟩ := stop_ex (fun k => nI gr ≤ sumF (fun j => nI (cm (Lb (σ 0) (σ 6 2 0) (σ 6 2 1) (σ 6 10 d) r j))) k) (cR (σ 0) r)
    obtain ⟨X, x1, x2⟩ := sendC_loop (σ := σ) (v := σ 0) (G := nI gr) h hr rfl rfl htt hcmX hn hst hlt n 0 FU (upA σ 6 0 (upd (σ 6 0) 9 0)) (by omega) (by unfold FU; omega) (CL0 rfl)
    have hX0 := hCX n hn X x2
    obtain ⟨y1, y2, y3, y4, y5, y6⟩ := x2
    -- the sum as a number
    have hcs := sumF_nI (fun j => cm (Lb (σ 0) (σ 6 2 0) (σ 6 2 1) (σ 6 10 d) r j)) n
    have hcs2 : sumN (fun j => cm (Lb (σ 0) (σ 6 2 0) (σ 6 2 1) (σ 6 10 d) r j)) n ≤ 1000000 * n := sumN_le n (fun j hj => m1 _ (Lb_at h hr (by omega)).1)
    generalize hsc : sumF (fun j => nI (cm (Lb (σ 0) (σ 6 2 0) (σ 6 2 1) (σ 6 10 d) r j))) n = sc at *
    generalize sumN (fun j => cm (Lb (σ 0) (σ 6 2 0) (σ 6 2 1) (σ 6 10 d) r j)) n = sn at *
    have hlts : fI_liftToSend σ (nI r) (nI gr) = some (sc, X) := x1
    have hI' := hI
    obtain ⟨⟨h14, -, hpr, -, h5, h6, h7, -⟩, h9, h10, -⟩ := hI'
    -- what the reference does ahead of its end
    have ref : ∀ Z : Sg, Z 7 = σ 7 → ∃ T Y : Sg, (∀ s, s ≠ 7 → T s = Z s) ∧ (∀ k, k ≠ 41 → k ≠ 42 → T 7 k = σ 7 k) ∧ (∀ b, b < vb (σ 0) → T 7 41 b = σ 0 18 b ∧ T 7 42 b = σ 0 19 b) ∧ fM_send Z (nI r) (nI gr) = fM_send_175 Y (nI gr) sc (nI n) (sumL (fun j => blB (σ 0) (σ 6 5) (Lb (σ 0) (σ 6 2 0) (σ 6 2 1) (σ 6 10 d) r j)) n) (sumF (fun j => σ 0 17 (Lb (σ 0) (σ 6 2 0) (σ 6 2 1) (σ 6 10 d) r j)) n) ∧ ML T (σ 0) (σ 6 2 0) (σ 6 2 1) (σ 6 10 d) r n Y ∧ Y 7 0 36 = T 7 0 36 ∧ Y 7 35 = T 7 35 ∧ ∀ i, i < n → Y 7 43 i = nI (Lb (σ 0) (σ 6 2 0) (σ 6 2 1) (σ 6 10 d) r i) := by
      intro Z Z7
      have hmZ : Rm 0 (σ 0) (Z 7) := by rw [Z7]; exact hm
      obtain ⟨T, r1, r2, r3, r4⟩ := rem_m (T := Z) h hmZ
      have T7 : ∀ k, k ≠ 41 → k ≠ 42 → T 7 k = σ 7 k := fun k k41 k42 => by rw [r3 k k41 k42, Z7]
      have hML0 : ML T (σ 0) (σ 6 2 0) (σ 6 2 1) (σ 6 10 d) r 0 T := ⟨fun _ _ => rfl, Rm_of_k hm (fun k k6 k24 => T7 k (by omega) (by omega)), Ofs.refl _, fun _ _ _ _ => rfl, fun _ _ => rfl⟩
      have T0 : T 7 0 = σ 7 0 := T7 0 (by omega) (by omega)
      have ht' : ∀ Y : Sg, Y 7 1 = T 7 1 → Y 7 2 = T 7 2 → fM_tenthsOf Y (nI d) = some (σ 6 10 d) := fun Y e1 e2 => hdm Y (e1.trans (T7 1 (by omega) (by omega))) (e2.trans (T7 2 (by omega) (by omega)))
      have hnx := next_L (T := T) h hr (by rw [T0]; exact t1.symm) (by rw [T0]; exact t2.symm) d1 ht' (Nat.zero_le _) hML0
      obtain ⟨Y, q1, q2⟩ := sendM_loop (T := T) (v := σ 0) (pa := σ 6 2 0) (we := σ 6 2 1) (t := σ 6 10 d) (r := r) (n := n) (cm := cm) (G := nI gr) h hr (by rw [T0]; exact t1.symm) (by rw [T0]; exact t2.symm) d1 ht' (pr := σ 6 5) (fun k hk => by
        rw [T7 40 (by omega) (by omega)]
        obtain ⟨q, -, e1, e2⟩ := hpr k hk
        rw [e1, e2]) (fun Y a1 a2 a3 a4 a5 a6 a7 b b1 b2 b3 => m3 Y a1 (by rw [a2, T0]) (by rw [a3, T0]) (a4.trans (T7 1 (by omega) (by omega))) (a5.trans (T7 2 (by omega) (by omega))) (a6.trans (T7 32 (by omega) (by omega))) (a7.trans (T7 33 (by omega) (by omega))) b b1 b2 b3) hn (by rw [hsc]; exact hst) hlt n 0 FU T (by omega) (by unfold FU; omega) hML0 rfl rfl (fun i hi => absurd hi (by omega))
      rw [hsc] at q1
      refine ⟨T, Y, r2, T7, r4, ?_, q2⟩
      have q1' : fM_send_54 FU T (nI r) (nI gr) 0 0 0 0 (nxI (Lu (σ 0) (σ 6 2 0) (σ 6 2 1) (σ 6 10 d) r 0) (σ 6 2 0) (σ 6 2 1) (σ 6 10 d) r) = fM_send_175 Y (nI gr) sc (nI n) (sumL (fun j => blB (σ 0) (σ 6 5) (Lb (σ 0) (σ 6 2 0) (σ 6 2 1) (σ 6 10 d) r j)) n) (sumF (fun j => σ 0 17 (Lb (σ 0) (σ 6 2 0) (σ 6 2 1) (σ 6 10 d) r j)) n) := q1
      rw [← q1']
      simp only [fM_send, fM_send_0, fM_in_eq, c, bp_s, isRoom_in h hmZ hr, k1, r1, hnx, ↓reduceIte]
    by_cases cs : nI gr ≤ sc
    · -- sent
      have hbill := bill_c (v := σ 0) (pa := σ 6 2 0) (we := σ 6 2 1) (t := σ 6 10 d) h hr hn (X := upA X 6 0 (upd (upd (X 6 0) 11 0) 12 sc)) (pr := σ 6 5) (by rw [upA_same]; exact y4) (fun i hi => by rw [upA_a, if_neg (by omega)]; exact y6 i hi) (by rw [upA_o _ _ _ (by omega)]; exact hX0 16 (by omega) (by omega) (by omega) (by omega) (by omega)) (by rw [upA_o _ _ _ (by omega)]; exact hX0 17 (by omega) (by omega) (by omega) (by omega) (by omega)) (by rw [upA_o _ _ _ (by omega)]; exact hX0 21 (by omega) (by omega) (by omega) (by omega) (by omega)) (by rw [upA_a, if_neg (by omega)]; exact y2 5 (by omega) (by omega) (by omega))
      generalize hbl : sumF (fun j => (blB (σ 0) (σ 6 5) (Lb (σ 0) (σ 6 2 0) (σ 6 2 1) (σ 6 10 d) r j)).toInt32) n = bl at hbill
      generalize hX2 : upA X 6 0 (upd (upd (upd (X 6 0) 11 0) 12 sc) 13 bl) = X2
      have X260 : X2 6 0 = upd (upd (upd (X 6 0) 11 0) 12 sc) 13 bl := by rw [← hX2, upA_same]
      have X2k : ∀ k, k ≠ 0 → X2 6 k = X 6 k := fun k hk => by rw [← hX2, upA_a, if_neg hk]
      have X2o : ∀ s, s ≠ 6 → X2 s = X s := fun s hs => by rw [← hX2, upA_o _ _ _ hs]
      obtain ⟨Z, z1, z2, z3, z4, z5, z6, z7⟩ := sell_c (X := X2) (v := σ 0) (pa := σ 6 2 0) (we := σ 6 2 1) (t := σ 6 10 d) h hr hn (by rw [X260]; exact y4) (by rw [X2o 0 (by omega)]; exact y5) (fun i hi => by rw [X2k 6 (by omega)]; exact y6 i hi)
      generalize hs : sumF (fun j => σ 0 17 (Lb (σ 0) (σ 6 2 0) (σ 6 2 1) (σ 6 10 d) r j)) n = s at z1 z7
      have Z7 : Z 7 = σ 7 := by rw [z2 7 (by omega) (by omega), X2o 7 (by omega)]; exact y1 7 (by omega) (by omega)
      have S7 : stI Z (nI n) 7 = σ 7 := by rw [stI_o _ _ (by omega)]; exact Z7
      obtain ⟨T, Y, r2, T7, r4, hsend, ⟨p1, p2, p3, p4, p5⟩, q36, q35, q43⟩ := ref (stI Z (nI n)) S7
      rw [hs] at hsend
      have T0 : T 7 0 = σ 7 0 := T7 0 (by omega) (by omega)
      generalize hS0 : upA Y 7 0 (upd (upd (upd (Y 7 0) 37 0) 38 sc) 39 bl) = S0
      have S070 : S0 7 0 = upd (upd (upd (Y 7 0) 37 0) 38 sc) 39 bl := by rw [← hS0, upA_same]
      have S07k : ∀ k, k ≠ 0 → S0 7 k = Y 7 k := fun k hk => by rw [← hS0, upA_a, if_neg hk]
      have S0o : ∀ s', s' ≠ 7 → S0 s' = Y s' := fun s' hs' => by rw [← hS0, upA_o _ _ _ hs']
      obtain ⟨L, w1, w2, w3, w4⟩ := list_loop (S := S0) (n := n) (L := fun i => Lb (σ 0) (σ 6 2 0) (σ 6 2 1) (σ 6 10 d) r i) (by omega) s (fun i hi => by rw [S07k 43 (by omega)]; exact q43 i hi) n 0 FU S0 (by omega) (by unfold FU; omega) (fun _ _ => rfl) (fun _ _ => rfl) (fun j hj => absurd hj (by omega))
      have h00 : (0 : Int32) ≤ 0 := by decide
      have hmod : fM_send (stI Z (nI n)) (nI r) (nI gr) = some (nI n, stM (upA (upA L 7 0 (upd (S0 7 0) 36 (nI n))) 7 9 (upd (S0 7 9) 1 (S0 7 9 1 + s))) (nI n)) := by
        rw [hsend]
        have e37 : ∀ f : Nat → Int32, upd (upd f 37 0) 38 sc 37 = 0 := fun f => rfl
        have e37' : ∀ f : Nat → Int32, upd f 37 0 37 = (0 : Int32) := fun f => rfl
        have e37'' : ∀ f : Nat → Int32, upd (upd (upd f 37 0) 38 sc) 39 bl 37 = (0 : Int32) := fun f => rfl
        have w1' : fM_send_246 FU S0 (nI n) s 0 = some (nI n, stM (upA (upA L 7 0 (upd (S0 7 0) 36 (nI n))) 7 9 (upd (S0 7 9) 1 (S0 7 9 1 + s))) (nI n)) := w1
        rw [← w1']
        unfold fM_send_175
        rw [if_pos cs]
        unfold fM_send_188
        rw [lt_v, upA_same, e37', if_pos h00]
        unfold fM_send_204
        rw [lt_v, upA_upA, upA_same, upA_same, e37, if_pos h00, sumL_32, hbl]
        unfold fM_send_222
        rw [lt_v, upA_upA, upA_same, upA_same, hS0, e37'', if_pos h00]
      refine opII (r := nI n) (s1 := stI Z (nI n)) (s2 := stM (upA (upA L 7 0 (upd (S0 7 0) 36 (nI n))) 7 9 (upd (S0 7 9) 1 (S0 7 9 1 + s))) (nI n)) (B := fun s => fM_send s (nI r) (nI gr)) ?_ hmod ?_
      · have g0 : ∀ f : Nat → Int32, upA X 6 0 f 6 0 = f := fun f => upA_same _ _ _ _
        simp only [fI_send, fI_send_0, fI_within_eq, c, bp_s, has_in h hr, k1, hlts, bi_s, cs, lt_v, g0, upA_upA, hbill, hX2, z1, z5, fI_answer_eq, ↓reduceIte]
      · generalize hF : upA (upA L 7 0 (upd (S0 7 0) 36 (nI n))) 7 9 (upd (S0 7 9) 1 (S0 7 9 1 + s)) = F
        have hL := Lu_all h (pa := σ 6 2 0) (we := σ 6 2 1) (t := σ 6 10 d) hr n hn
        have Fo : ∀ s', s' ≠ 7 → F s' = stI Z (nI n) s' := fun s' h7 => by rw [← hF, upA_o _ _ _ h7, upA_o _ _ _ h7, w2 s' h7, S0o s' h7, p1 s' h7, r2 s' h7]
        have F70 : F 7 0 = upd (S0 7 0) 36 (nI n) := by rw [← hF, upA_a, if_neg (by omega), upA_same]
        have F7k : ∀ k, k ≠ 0 → k ≠ 9 → k ≠ 35 → F 7 k = Y 7 k := fun k k0 k9 k35 => by rw [← hF, upA_a, if_neg k9, upA_a, if_neg k0, w3 k k35, S07k k k0]
        have F35 : ∀ j, j < n → F 7 35 j = nI (Lb (σ 0) (σ 6 2 0) (σ 6 2 1) (σ 6 10 d) r j) := fun j hj => by rw [← hF, upA_a, if_neg (by omega), upA_a, if_neg (by omega)]; exact w4 j hj
        have FR : Rm 0 (sldV (Lu (σ 0) (σ 6 2 0) (σ 6 2 1) (σ 6 10 d) r n) s) (F 7) := by
          have := Rm_sld (S := Y) p2 s
          refine Rm_of_k this (fun k k6 k24 => ?_)
          by_cases z : k = 9
          · rw [z, upA_same, ← hF, upA_same, S07k 9 (by omega)]
          · rw [upA_a, if_neg z]; exact F7k k (by omega) z (by omega)
        have FO : Ofs (σ 7) (F 7) := fun k k6 k25 j hj => by
          by_cases z : k = 9
          · subst z
            have hj : 6 ≤ j := hj
            rw [← hF, upA_same, upd_r, if_neg (by omega), S07k 9 (by omega), p3 9 (by omega) (by omega) j hj, T7 9 (by omega) (by omega)]
          · rw [F7k k (by omega) z (by omega), p3 k k6 k25 j hj, T7 k (by omega) (by omega)]
        have G6 : ∀ k, stM F (nI n) 6 k = stI Z (nI n) 6 k := fun k => by rw [stM_o _ _ (by omega), Fo 6 (by omega)]
        have Gs : ∀ s', s' ≠ 7 → s' ≠ 6 → stM F (nI n) s' = Z s' := fun s' h7 h6 => by rw [stM_o _ _ h7, Fo s' h7, stI_o _ _ h6]
        have G6k : ∀ k, k ≠ 0 → k ≠ 6 → k ≠ 7 → k ≠ 11 → stM F (nI n) 6 k = σ 6 k := fun k k0 k6 k7 k11 => by
          rw [G6]
          unfold stI
          rw [upA_a, if_neg k0, z3 k k0 k7, X2k k k0]
          exact y2 k k0 k6 k11
        have G60 : ∀ j, j ≠ 14 → stM F (nI n) 6 0 j = Z 6 0 j := fun j hj => by
          rw [G6]
          show upd (Z 6 0) 14 (if 0 ≤ nI n then 0 else nI n) j = _
          rw [upd_r, if_neg hj]
        have G70 : ∀ j, j ≠ 0 → stM F (nI n) 7 0 j = upd (S0 7 0) 36 (nI n) j := fun j h0 => by
          unfold stM
          rw [upA_same, upd_r, if_neg h0, F70]
        have G70s : ∀ j, j ≠ 0 → j ≠ 36 → j ≠ 37 → j ≠ 38 → j ≠ 39 → stM F (nI n) 7 0 j = σ 7 0 j := fun j h0 h36 h37 h38 h39 => by
          rw [G70 j h0, upd_r, if_neg h36, S070, upd_r, if_neg h39, upd_r, if_neg h38, upd_r, if_neg h37, p5 j h36, T0]
        have G7k : ∀ k, 26 ≤ k ∨ (1 ≤ k ∧ k < 6) → k ≠ 35 → k ≠ 41 → k ≠ 42 → k ≠ 43 → stM F (nI n) 7 k = σ 7 k := fun k hk k35 k41 k42 k43 => by
          unfold stM
          rw [upA_a, if_neg (by omega), F7k k (by omega) (by omega) k35, p4 k hk k35 k43, T7 k k41 k42]
        refine Inv_mk (lv := lv) (σ := σ) hI ?_ (G6k 2 (by omega) (by omega) (by omega) (by omega)) (G6k 3 (by omega) (by omega) (by omega) (by omega)) (G6k 5 (by omega) (by omega) (by omega) (by omega)) (G6k 9 (by omega) (by omega) (by omega) (by omega)) (G6k 10 (by omega) (by omega) (by omega) (by omega)) (G6k 14 (by omega) (by omega) (by omega) (by omega)) (G6k 15 (by omega) (by omega) (by omega) (by omega)) (fun j j3 j5 => G70s j (by omega) (by omega) (by omega) (by omega) (by omega)) (G70s 34 (by omega) (by omega) (by omega) (by omega) (by omega)) (G7k 1 (by omega) (by omega) (by omega) (by omega) (by omega)) (G7k 2 (by omega) (by omega) (by omega) (by omega) (by omega)) (G7k 32 (by omega) (by omega) (by omega) (by omega) (by omega)) (G7k 33 (by omega) (by omega) (by omega) (by omega) (by omega)) (G7k 40 (by omega) (by omega) (by omega) (by omega) (by omega)) ?_ ?_ ?_ ?_ ?_ ?_ (FO.st (nI n)) ?_
        · rw [G6]; rfl
        · rw [G6k 4 (by omega) (by omega) (by omega) (by omega), G6k 16 (by omega) (by omega) (by omega) (by omega), G6k 17 (by omega) (by omega) (by omega) (by omega), G7k 49 (by omega) (by omega) (by omega) (by omega) (by omega), G7k 50 (by omega) (by omega) (by omega) (by omega) (by omega)]
          exact h5.of (G70s 51 (by omega) (by omega) (by omega) (by omega) (by omega))
        · refine ⟨n, by omega, ?_, ?_, fun j hj => ?_⟩
          · rw [G60 10 (by omega)]; exact z5
          · rw [G70 36 (by omega), upd_r, if_pos rfl]
          · have e67 : stM F (nI n) 6 7 j = Z 6 7 j := by
              rw [G6]
              unfold stI
              rw [upA_a, if_neg (by omega)]
            rw [e67, z6 j hj]
            show _ = F 7 35 j
            rw [F35 j hj]
        · refine ⟨?_, ?_, ?_⟩
          · rw [G60 11 (by omega), z4 11 (by omega), X260, G70 37 (by omega), S070]; rfl
          · rw [G60 12 (by omega), z4 12 (by omega), X260, G70 38 (by omega), S070]; rfl
          · rw [G60 13 (by omega), z4 13 (by omega), X260, G70 39 (by omega), S070]; rfl
        · rw [Gs 8 (by omega) (by omega), z2 8 (by omega) (by omega), X2o 8 (by omega), y1 8 (by omega) (by omega), G7k 28 (by omega) (by omega) (by omega) (by omega) (by omega), G7k 29 (by omega) (by omega) (by omega) (by omega) (by omega)]
          exact h9.of (G70s 26 (by omega) (by omega) (by omega) (by omega) (by omega)) (G70s 27 (by omega) (by omega) (by omega) (by omega) (by omega))
        · rw [Gs 9 (by omega) (by omega), z2 9 (by omega) (by omega), X2o 9 (by omega), y1 9 (by omega) (by omega), G7k 48 (by omega) (by omega) (by omega) (by omega) (by omega)]
          exact h10.of (fun j j1 j2 => G70s j (by omega) (by omega) (by omega) (by omega) (by omega))
        · rw [Gs 0 (by omega) (by omega), z7]
          refine ⟨okStore_sld hL.1 s, Rm_of_k FR (fun k k6 _ => by unfold stM; rw [upA_a, if_neg (by omega)])⟩
        · exact fun k k2 k5 => ⟨by rw [Gs k (by omega) (by omega), z2 k (by omega) (by omega), X2o k (by omega), y1 k (by omega) (by omega)], rfl⟩
    · -- short
      obtain ⟨Z0, z1, z2, z3⟩ := putBack_c h hr hn y4 y5 y6
      have hlt' : sn < gr := by
        rcases Nat.lt_or_ge sn gr with z | z
        · exact z
        · exact absurd (by rw [hcs]; exact nI_le z (by omega)) cs
      have eG : nI gr - sc = nI (gr - sn) := by rw [hcs]; exact pk_sub (by omega)
      generalize hZ : upA Z0 6 0 (upd (upd (upd (Z0 6 0) 11 (nI (gr - sn))) 12 0) 13 0) = Z
      have Z60 : Z 6 0 = upd (upd (upd (Z0 6 0) 11 (nI (gr - sn))) 12 0) 13 0 := by rw [← hZ, upA_same]
      have Z6k : ∀ k, k ≠ 0 → Z 6 k = X 6 k := fun k hk => by rw [← hZ, upA_a, if_neg hk, z2 6 (by omega)]
      have Zo : ∀ s, s ≠ 0 → s ≠ 6 → Z s = σ s := fun s s0 s6 => by rw [← hZ, upA_o _ _ _ s6, z2 s s0]; exact y1 s s0 s6
      have ZZ : Z 0 = σ 0 := by rw [← hZ, upA_o _ _ _ (by omega)]; exact z3
      have S7 : stI Z (-6) 7 = σ 7 := by rw [stI_o _ _ (by omega)]; exact Zo 7 (by omega) (by omega)
      obtain ⟨T, Y, r2, T7, r4, hsend, ⟨p1, p2, p3, p4, p5⟩, q36, q35, q43⟩ := ref (stI Z (-6)) S7
      have T0 : T 7 0 = σ 7 0 := T7 0 (by omega) (by omega)
      generalize hS0 : upA Y 7 0 (upd (upd (upd (Y 7 0) 37 (nI (gr - sn))) 38 0) 39 0) = S0
      have S070 : S0 7 0 = upd (upd (upd (Y 7 0) 37 (nI (gr - sn))) 38 0) 39 0 := by rw [← hS0, upA_same]
      have S07k : ∀ k, k ≠ 0 → S0 7 k = Y 7 k := fun k hk => by rw [← hS0, upA_a, if_neg hk]
      have S0o : ∀ s', s' ≠ 7 → S0 s' = Y s' := fun s' hs' => by rw [← hS0, upA_o _ _ _ hs']
      obtain ⟨B, b1, b2, b3, b4, b5⟩ := bring_m (Y := S0) h hr hn (Rm_of_k p2 (fun k k6 _ => S07k k (by omega))) (fun b hb => by rw [S07k 41 (by omega), S07k 42 (by omega), p4 41 (by omega) (by omega) (by omega), p4 42 (by omega) (by omega) (by omega)]; exact r4 b hb)
      have hpos : ¬ nI (gr - sn) ≤ 0 := nI_nle (by omega) (by omega)
      have hmod : fM_send (stI Z (-6)) (nI r) (nI gr) = some (-6, stM B (-6)) := by
        rw [hsend]
        have e37 : ∀ f : Nat → Int32, upd (upd f 37 (nI (gr - sn))) 38 0 37 = nI (gr - sn) := fun f => rfl
        have e37' : ∀ f : Nat → Int32, upd f 37 (nI (gr - sn)) 37 = nI (gr - sn) := fun f => rfl
        have e37'' : ∀ f : Nat → Int32, upd (upd (upd f 37 (nI (gr - sn))) 38 0) 39 0 37 = nI (gr - sn) := fun f => rfl
        unfold fM_send_175
        rw [if_neg cs, eG]
        unfold fM_send_188
        rw [lt_v, upA_same, e37', if_neg hpos]
        unfold fM_send_204
        rw [lt_v, upA_upA, upA_same, upA_same, e37, if_neg hpos]
        unfold fM_send_222
        rw [lt_v, upA_upA, upA_same, upA_same, hS0, e37'', if_neg hpos, b1, bp_s, fM_ends_eq, bi_s]
      refine opII (r := -6) (s1 := stI Z (-6)) (s2 := stM B (-6)) (B := fun s => fM_send s (nI r) (nI gr)) ?_ hmod ?_
      · have g0 : ∀ f : Nat → Int32, upA Z0 6 0 f 6 0 = f := fun f => upA_same _ _ _ _
        simp only [fI_send, fI_send_0, fI_within_eq, c, bp_s, has_in h hr, k1, hlts, bi_s, cs, z1, lt_v, eG, g0, upA_upA, hZ, fI_answer_eq, ↓reduceIte]
      · have Bs : ∀ s', s' ≠ 7 → B s' = stI Z (-6) s' := fun s' h7 => by rw [b2 s' h7, S0o s' h7, p1 s' h7, r2 s' h7]
        have G6 : ∀ k, stM B (-6) 6 k = stI Z (-6) 6 k := fun k => by rw [stM_o _ _ (by omega), Bs 6 (by omega)]
        have Gs : ∀ s', s' ≠ 7 → s' ≠ 6 → stM B (-6) s' = Z s' := fun s' h7 h6 => by rw [stM_o _ _ h7, Bs s' h7, stI_o _ _ h6]
        have G6k : ∀ k, k ≠ 0 → k ≠ 6 → k ≠ 11 → stM B (-6) 6 k = σ 6 k := fun k k0 k6 k11 => by
          rw [G6]
          unfold stI
          rw [upA_a, if_neg k0, Z6k k k0]
          exact y2 k k0 k6 k11
        have G60 : ∀ j, j ≠ 14 → stM B (-6) 6 0 j = Z 6 0 j := fun j hj => by
          rw [G6]
          show upd (Z 6 0) 14 (if (0 : Int32) ≤ -6 then 0 else -6) j = _
          rw [upd_r, if_neg hj]
        have Z60s : ∀ j, j ≠ 9 → j ≠ 11 → j ≠ 12 → j ≠ 13 → Z 6 0 j = σ 6 0 j := fun j j9 j11 j12 j13 => by
          rw [Z60, upd_r, if_neg j13, upd_r, if_neg j12, upd_r, if_neg j11, z2 6 (by omega)]; exact y3 j j9
        have B70 : B 7 0 = S0 7 0 := b3 0 (by omega) (by omega) (by omega)
        have G70 : ∀ j, j ≠ 0 → stM B (-6) 7 0 j = S0 7 0 j := fun j h0 => by
          unfold stM
          rw [upA_same, upd_r, if_neg h0, B70]
        have G70s : ∀ j, j ≠ 0 → j ≠ 37 → j ≠ 38 → j ≠ 39 → stM B (-6) 7 0 j = σ 7 0 j := fun j h0 h37 h38 h39 => by
          rw [G70 j h0, S070, upd_r, if_neg h39, upd_r, if_neg h38, upd_r, if_neg h37]
          by_cases z : j = 36
          · rw [z, q36, T0]
          · rw [p5 j z, T0]
        have G7k : ∀ k, 26 ≤ k ∨ (1 ≤ k ∧ k < 6) → k ≠ 41 → k ≠ 42 → k ≠ 43 → stM B (-6) 7 k = σ 7 k := fun k hk k41 k42 k43 => by
          unfold stM
          rw [upA_a, if_neg (by omega), b3 k (by omega) (by omega) (by omega), S07k k (by omega)]
          by_cases z : k = 35
          · rw [z, q35, T7 35 (by omega) (by omega)]
          · rw [p4 k hk z k43, T7 k k41 k42]
        have FO : Ofs (σ 7) (B 7) := fun k k6 k25 j hj => by rw [b4 k k6 k25 j hj, S07k k (by omega), p3 k k6 k25 j hj, T7 k (by omega) (by omega)]
        refine Inv_mk (lv := lv) (σ := σ) hI ?_ (G6k 2 (by omega) (by omega) (by omega)) (G6k 3 (by omega) (by omega) (by omega)) (G6k 5 (by omega) (by omega) (by omega)) (G6k 9 (by omega) (by omega) (by omega)) (G6k 10 (by omega) (by omega) (by omega)) (G6k 14 (by omega) (by omega) (by omega)) (G6k 15 (by omega) (by omega) (by omega)) (fun j j3 j5 => G70s j (by omega) (by omega) (by omega) (by omega)) (G70s 34 (by omega) (by omega) (by omega) (by omega)) (G7k 1 (by omega) (by omega) (by omega) (by omega)) (G7k 2 (by omega) (by omega) (by omega) (by omega)) (G7k 32 (by omega) (by omega) (by omega) (by omega)) (G7k 33 (by omega) (by omega) (by omega) (by omega)) (G7k 40 (by omega) (by omega) (by omega) (by omega)) ?_ ?_ ?_ ?_ ?_ ?_ (FO.st (-6)) ?_
        · rw [G6]; rfl
        · rw [G6k 4 (by omega) (by omega) (by omega), G6k 16 (by omega) (by omega) (by omega), G6k 17 (by omega) (by omega) (by omega), G7k 49 (by omega) (by omega) (by omega) (by omega), G7k 50 (by omega) (by omega) (by omega) (by omega)]
          exact h5.of (G70s 51 (by omega) (by omega) (by omega) (by omega))
        · rw [G6k 7 (by omega) (by omega) (by omega), G7k 35 (by omega) (by omega) (by omega) (by omega)]
          exact h6.of (by rw [G60 10 (by omega)]; exact Z60s 10 (by omega) (by omega) (by omega) (by omega)) (G70s 36 (by omega) (by omega) (by omega) (by omega))
        · refine ⟨?_, ?_, ?_⟩
          · rw [G60 11 (by omega), Z60, G70 37 (by omega), S070]; rfl
          · rw [G60 12 (by omega), Z60, G70 38 (by omega), S070]; rfl
          · rw [G60 13 (by omega), Z60, G70 39 (by omega), S070]; rfl
        · rw [Gs 8 (by omega) (by omega), Zo 8 (by omega) (by omega), G7k 28 (by omega) (by omega) (by omega) (by omega), G7k 29 (by omega) (by omega) (by omega) (by omega)]
          exact h9.of (G70s 26 (by omega) (by omega) (by omega) (by omega)) (G70s 27 (by omega) (by omega) (by omega) (by omega))
        · rw [Gs 9 (by omega) (by omega), Zo 9 (by omega) (by omega), G7k 48 (by omega) (by omega) (by omega) (by omega)]
          exact h10.of (fun j j1 j2 => G70s j (by omega) (by omega) (by omega) (by omega))
        · rw [Gs 0 (by omega) (by omega), ZZ]
          refine ⟨h, Rm_of_k b5 (fun k k6 _ => by unfold stM; rw [upA_a, if_neg (by omega)])⟩
        · exact fun k k2 k5 => ⟨by rw [Gs k (by omega) (by omega), Zo k (by omega) (by omega)], rfl⟩
  · have hm' : Rm 0 (σ 0) (stI σ (-2) 7) := hm
    refine opNo (B := fun s => fM_send s a1 a2) hI (-2) ?_ ?_
    · simp only [fI_send, fI_send_0, fI_within_eq, c, bp_s, has_out h hr, fI_answer_eq, bi_s, ↓reduceIte]
    · simp only [fM_send, fM_send_0, fM_in_eq, c, bp_s, isRoom_out h hm' hr, fM_ends_eq, bi_s, ↓reduceIte]
