/-! the reference's next -/
def plc (v : Vw) (b : Nat) : Nat := (v 19 b).toNatClampNeg
def JM (v : Vw) (pa we w : Int32) (r i : Nat) (x2 x3 : Int32) : Prop := (x2 = -1 ∧ ∀ b, b < i → v 18 b = nI r → frP v r (plc v b) = false) ∨ ∃ c, c < i ∧ v 18 c = nI r ∧ frP v r (plc v c) = true ∧ x2 = nI c ∧ x3 = LL v pa we w r (plc v c) ∧ ∀ b, b < i → v 18 b = nI r → frP v r (plc v b) = true → plc v b = plc v c ∨ btr (LI v pa we w r) (lyr v r) (plc v c) (plc v b)
theorem JM_skip {v : Vw} {pa we w : Int32} {r i : Nat} {x2 x3 : Int32} (hj : JM v pa we w r i x2 x3) (hs : v 18 i = nI r → frP v r (plc v i) = false) : JM v pa we w r (i + 1) x2 x3 := by
  have hq : ∀ b, b < i + 1 → v 18 b = nI r → frP v r (plc v b) = true → b < i := fun b h1 h2 h3 => by
    rcases Nat.lt_or_ge b i with c | c
    · exact c
    · have : b = i := by omega
      subst this
      rw [hs h2] at h3; cases h3
  rcases hj with ⟨a1, a2⟩ | ⟨c, p1, p2, p3, p4, p5, p6⟩
  · refine Or.inl ⟨a1, fun b h1 h2 => ?_⟩
    cases hc : frP v r (plc v b) with
    | false => rfl
    | true => have := a2 b (hq b h1 h2 hc) h2; rw [hc] at this; cases this
  · exact Or.inr ⟨c, by omega, p2, p3, p4, p5, fun b h1 h2 h3 => p6 b (hq b h1 h2 h3) h2 h3⟩
theorem JM_new {v : Vw} {pa we w : Int32} {r i : Nat} {x2 x3 : Int32} (hj : JM v pa we w r i x2 x3) (h18 : v 18 i = nI r) (hf : frP v r (plc v i) = true) (hb : ∀ c, c < i → x2 = nI c → x3 = LL v pa we w r (plc v c) → btr (LI v pa we w r) (lyr v r) (plc v i) (plc v c)) : JM v pa we w r (i + 1) (nI i) (LL v pa we w r (plc v i)) := by
  refine Or.inr ⟨i, by omega, h18, hf, rfl, rfl, fun b h1 h2 h3 => ?_⟩
  by_cases c : b = i
  · rw [c]; exact Or.inl rfl
  · right
    rcases hj with ⟨a1, a2⟩ | ⟨c', p1, p2, p3, p4, p5, p6⟩
    · rw [a2 b (by omega) h2] at h3; cases h3
    · have hip := hb c' p1 p4 p5
      rcases p6 b (by omega) h2 h3 with e | e
      · rw [e]; exact hip
      · exact btr_trans hip e
theorem JM_stay {v : Vw} {pa we w : Int32} {r i : Nat} {x2 x3 : Int32} (hj : JM v pa we w r i x2 x3) (hn : ¬ x2 = -1) (hb : ∀ c, c < i → x2 = nI c → x3 = LL v pa we w r (plc v c) → btr (LI v pa we w r) (lyr v r) (plc v c) (plc v i)) : JM v pa we w r (i + 1) x2 x3 := by
  rcases hj with ⟨a1, a2⟩ | ⟨c, p1, p2, p3, p4, p5, p6⟩
  · exact absurd a1 hn
  · refine Or.inr ⟨c, by omega, p2, p3, p4, p5, fun b h1 h2 h3 => ?_⟩
    by_cases q : b = i
    · right; rw [q]; exact hb c p1 p4 p5
    · exact p6 b (by omega) h2 h3
theorem nextOf_loop {τ : Sg} {v : Vw} (h : okStore v) (hm : Rm 0 v (τ 7)) {t : Int32} (ht : fM_tenthsOf τ (τ 7 6 0) = some t) {r : Nat} (hr : r < vn v) : ∀ m i n (x2 x3 : Int32), i + m = vb v → m < n → JM v (τ 7 0 3) (τ 7 0 4) (wrm v t r) r i x2 x3 → ∃ x y, JM v (τ 7 0 3) (τ 7 0 4) (wrm v t r) r (vb v) x y ∧ fM_nextOf_7 n τ (nI r) x2 x3 (nI i) = some x := by
  have h3 := h.2.1.1
  have h8 := h.1.1
  have i6 : ib 0 6 = true := by decide
  have c0 : (0 : Int32).toNatClampNeg = 0 := by decide
  have k1 : ¬ (1 : Int32) = 0 := by decide
  have e8 := m_8 h hm
  have hvr := vs_le (okS h hr)
  intro m
  induction m with
  | zero =>
    intro i n x2 x3 hi hn hj
    obtain ⟨n, rfl⟩ : ∃ k, n = k + 1 := ⟨n - 1, by omega⟩
    have ei : i = vb v := by omega
    have q : nI (vb v) ≤ nI i := nI_le (by omega) (by omega)
    rw [ei] at hj
    refine ⟨x2, x3, hj, ?_⟩
    simp only [fM_nextOf_7, fM_nextOf_7_b, i6, c0, gd_t, e8, q, ↓reduceIte]
  | succ m ih =>
    intro i n x2 x3 hi hn hj
    obtain ⟨n, rfl⟩ : ∃ k, n = k + 1 := ⟨n - 1, by omega⟩
    have hib' : i < vb v := by omega
    have q : ¬ nI (vb v) ≤ nI i := nI_ge hib' (by omega)
    have hib : ib (nI i) 1800 = true := ib_nI (by omega) (by decide)
    have hcl : (nI i).toNatClampNeg = i := nI_clamp (by omega)
    obtain ⟨-, -, m3, m4, -⟩ := m_b hm hib'
    by_cases c : v 18 i = nI r
    · obtain ⟨r', p, hr', hp, o1, o2, o3⟩ := blk_lies h hib' (by rw [c]; exact nI_nm1 (by omega))
      have er : r' = r := by rw [c] at o1; exact ((nI_eq (by omega) (by omega)).mp o1).symm
      subst er
      have epl : plc v i = p := by unfold plc; rw [o2, nI_clamp (by omega)]
      have hfb : frP v r' p = decide (¬ 10 ≤ sd v r' p 5) := frP_b (by omega) o3
      have hf := free_m h hm hib' hr hp o1 o2
      have hbk : bk v r' p = i := by unfold bk; rw [o3, nI_clamp (by omega)]; omega
      have hl := loss_m h hm ht hib' hr hp o1 o2
      have eL : lsW v (τ 7 0 3) (τ 7 0 4) (wrm v t r') i r' p = LL v (τ 7 0 3) (τ 7 0 4) (wrm v t r') r' p := by unfold LL; rw [hbk]
      rw [eL] at hl
      by_cases c5 : 10 ≤ sd v r' p 5
      · simp only [c5, ↓reduceIte] at hf
        obtain ⟨x, y, hj', hk⟩ := ih (i + 1) n x2 x3 (by omega) (by omega) (JM_skip hj (fun _ => by rw [epl, hfb, decide_eq_false (fun z => z c5)]))
        refine ⟨x, y, hj', ?_⟩
        rw [← hk]
        simp only [fM_nextOf_7, fM_nextOf_7_b, fM_nextOf_172, i6, c0, gd_t, e8, q, hib, hcl, m3, c, hf, bp_s, lt_v, nI_1, ↓reduceIte]
      · simp only [c5, ↓reduceIte] at hf
        have hfr : frP v r' (plc v i) = true := by rw [epl, hfb, decide_eq_true c5]
        have hnew : (∀ c, c < i → x2 = nI c → x3 = LL v (τ 7 0 3) (τ 7 0 4) (wrm v t r') r' (plc v c) → btr (LI v (τ 7 0 3) (τ 7 0 4) (wrm v t r') r') (lyr v r') p (plc v c)) → ∃ x y, JM v (τ 7 0 3) (τ 7 0 4) (wrm v t r') r' (vb v) x y ∧ fM_nextOf_7 n τ (nI r') (nI i) (LL v (τ 7 0 3) (τ 7 0 4) (wrm v t r') r' p) (nI (i + 1)) = some x := fun hb => by
          have := JM_new hj c hfr (by rw [epl]; exact hb)
          rw [epl] at this
          exact ih (i + 1) n _ _ (by omega) (by omega) this
        have hstay : ¬ x2 = -1 → (∀ c, c < i → x2 = nI c → x3 = LL v (τ 7 0 3) (τ 7 0 4) (wrm v t r') r' (plc v c) → btr (LI v (τ 7 0 3) (τ 7 0 4) (wrm v t r') r') (lyr v r') (plc v c) p) → ∃ x y, JM v (τ 7 0 3) (τ 7 0 4) (wrm v t r') r' (vb v) x y ∧ fM_nextOf_7 n τ (nI r') x2 x3 (nI (i + 1)) = some x := fun hn2 hb => ih (i + 1) n _ _ (by omega) (by omega) (JM_stay hj hn2 (by rw [epl]; exact hb))
        by_cases c2 : x2 = -1
        · obtain ⟨x, y, hj', hk⟩ := hnew (fun c hc e2 _ => by rw [c2] at e2; exact absurd e2.symm (nI_nm1 (by omega)))
          refine ⟨x, y, hj', ?_⟩
          rw [← hk]
          simp only [fM_nextOf_7, fM_nextOf_7_b, fM_nextOf_66, fM_nextOf_71, fM_nextOf_148, fM_nextOf_159, fM_nextOf_171, fM_nextOf_172, i6, c0, gd_t, e8, q, hib, hcl, m3, c, hf, hl, bp_s, lt_v, nI_1, c2, k1, ↓reduceIte]
        · obtain ⟨c', p1, p2, p3, p4, p5, -⟩ := hj.resolve_left (fun z => c2 z.1)
          have hc'b : c' < vb v := by omega
          obtain ⟨-, -, -, m4', -⟩ := m_b hm hc'b
          obtain ⟨r2, p', hr2, hp', o1', o2', o3'⟩ := blk_lies h hc'b (by rw [p2]; exact nI_nm1 (by omega))
          have er2 : r2 = r' := by rw [p2] at o1'; exact ((nI_eq (by omega) (by omega)).mp o1').symm
          subst er2
          have epl' : plc v c' = p' := by unfold plc; rw [o2', nI_clamp (by omega)]
          have hib2 : ib (nI c') 1800 = true := ib_nI (by omega) (by decide)
          have hcl2 : (nI c').toNatClampNeg = c' := nI_clamp (by omega)
          have only : ∀ c, x2 = nI c → c < i → c = c' := fun c e2 hc => by rw [p4] at e2; exact ((nI_eq (by omega) (by omega)).mp e2).symm
          rw [epl'] at p5
          have lyp := m_layer h hm hr (show p < 2 ^ 30 by omega)
          have lyp' := m_layer h hm hr (show p' < 2 ^ 30 by omega)
          have hdl : p / vf v r2 ≤ p := Nat.div_le_self _ _
          have hdl' : p' / vf v r2 ≤ p' := Nat.div_le_self _ _
          by_cases c6 : LL v (τ 7 0 3) (τ 7 0 4) (wrm v t r2) r2 p ≤ x3
          · by_cases c7 : LL v (τ 7 0 3) (τ 7 0 4) (wrm v t r2) r2 p = x3
            · have eI : LI v (τ 7 0 3) (τ 7 0 4) (wrm v t r2) r2 p = LI v (τ 7 0 3) (τ 7 0 4) (wrm v t r2) r2 p' := by unfold LI; rw [c7, p5]
              by_cases c8 : p' / vf v r2 < p / vf v r2
              · obtain ⟨x, y, hj', hk⟩ := hnew (fun c hc e2 _ => by
                  rw [only c e2 hc, epl']
                  exact Or.inr ⟨eI, Or.inl c8⟩)
                refine ⟨x, y, hj', ?_⟩
                rw [← hk]
                have q8 : nI (p' / vf v r2) < nI (p / vf v r2) := nI_lt c8 (by omega)
                have c6' : x3 ≤ x3 := Int32.le_refl _
                simp only [fM_nextOf_7, fM_nextOf_7_b, fM_nextOf_66, fM_nextOf_71, fM_nextOf_141, fM_nextOf_145, fM_nextOf_146, fM_nextOf_148, fM_nextOf_159, fM_nextOf_171, fM_nextOf_172, i6, c0, gd_t, e8, q, hib, hcl, m3, m4, c, hf, hl, bp_s, lt_v, nI_1, c2, c6', c7, k1, o2, lyp, p4, hib2, hcl2, m4', o2', lyp', q8, nI_nm1 (show c' < 2 ^ 31 by omega), ↓reduceIte]
              · have q8 : ¬ nI (p' / vf v r2) < nI (p / vf v r2) := nI_nlt (by omega) (by omega)
                have c6' : x3 ≤ x3 := Int32.le_refl _
                by_cases c9 : p / vf v r2 = p' / vf v r2
                · have q9 : nI (p / vf v r2) = nI (p' / vf v r2) := by rw [c9]
                  by_cases c10 : p' ≤ p
                  · have q10 : nI p' ≤ nI p := nI_le c10 (by omega)
                    have hne : p' ≠ p := fun z => by
                      rw [z] at o3'
                      rw [o3] at o3'
                      have := (nI_eq (a := 10 + i) (b := 10 + c') (by omega) (by omega)).mp o3'
                      omega
                    obtain ⟨x, y, hj', hk⟩ := hstay c2 (fun c hc e2 _ => by
                      rw [only c e2 hc, epl']
                      exact Or.inr ⟨eI.symm, Or.inr ⟨c9.symm, by omega⟩⟩)
                    refine ⟨x, y, hj', ?_⟩
                    rw [← hk, p4]
                    simp only [fM_nextOf_7, fM_nextOf_7_b, fM_nextOf_66, fM_nextOf_71, fM_nextOf_141, fM_nextOf_145, fM_nextOf_146, fM_nextOf_148, fM_nextOf_159, fM_nextOf_171, fM_nextOf_172, i6, c0, gd_t, e8, q, hib, hcl, m3, m4, c, hf, hl, bp_s, lt_v, nI_1, c6', c7, k1, o2, lyp, hib2, hcl2, m4', o2', lyp', q8, q9, q10, nI_nm1 (show c' < 2 ^ 31 by omega), Int32.lt_irrefl, ↓reduceIte]
                  · have q10 : ¬ nI p' ≤ nI p := nI_ge (by omega) (by omega)
                    obtain ⟨x, y, hj', hk⟩ := hnew (fun c hc e2 _ => by
                      rw [only c e2 hc, epl']
                      exact Or.inr ⟨eI, Or.inr ⟨c9, by omega⟩⟩)
                    refine ⟨x, y, hj', ?_⟩
                    rw [← hk, p4]
                    simp only [fM_nextOf_7, fM_nextOf_7_b, fM_nextOf_66, fM_nextOf_71, fM_nextOf_141, fM_nextOf_145, fM_nextOf_146, fM_nextOf_148, fM_nextOf_159, fM_nextOf_171, fM_nextOf_172, i6, c0, gd_t, e8, q, hib, hcl, m3, m4, c, hf, hl, bp_s, lt_v, nI_1, c6', c7, k1, o2, lyp, hib2, hcl2, m4', o2', lyp', q8, q9, q10, nI_nm1 (show c' < 2 ^ 31 by omega), Int32.lt_irrefl, ↓reduceIte]
                · have q9 : ¬ nI (p / vf v r2) = nI (p' / vf v r2) := fun z => c9 ((nI_eq (by omega) (by omega)).mp z)
                  obtain ⟨x, y, hj', hk⟩ := hstay c2 (fun c hc e2 _ => by
                    rw [only c e2 hc, epl']
                    refine Or.inr ⟨eI.symm, Or.inl ?_⟩
                    unfold lyr
                    omega)
                  refine ⟨x, y, hj', ?_⟩
                  rw [← hk, p4]
                  simp only [fM_nextOf_7, fM_nextOf_7_b, fM_nextOf_66, fM_nextOf_71, fM_nextOf_141, fM_nextOf_145, fM_nextOf_146, fM_nextOf_148, fM_nextOf_159, fM_nextOf_171, fM_nextOf_172, i6, c0, gd_t, e8, q, hib, hcl, m3, m4, c, hf, hl, bp_s, lt_v, nI_1, c6', c7, k1, o2, lyp, hib2, hcl2, m4', o2', lyp', q8, q9, nI_nm1 (show c' < 2 ^ 31 by omega), ↓reduceIte]
            · obtain ⟨x, y, hj', hk⟩ := hstay c2 (fun c hc e2 _ => by
                rw [only c e2 hc, epl']
                refine Or.inl ?_
                unfold LI
                rw [p5] at c6 c7
                have h1 := Int32.le_iff_toInt_le.mp c6
                have h2 : ¬ (LL v (τ 7 0 3) (τ 7 0 4) (wrm v t r2) r2 p).toInt = (LL v (τ 7 0 3) (τ 7 0 4) (wrm v t r2) r2 p').toInt := fun z => c7 (Int32.toInt_inj.mp z)
                omega)
              refine ⟨x, y, hj', ?_⟩
              rw [← hk]
              simp only [fM_nextOf_7, fM_nextOf_7_b, fM_nextOf_66, fM_nextOf_71, fM_nextOf_141, fM_nextOf_145, fM_nextOf_146, fM_nextOf_148, fM_nextOf_159, fM_nextOf_171, fM_nextOf_172, i6, c0, gd_t, e8, q, hib, hcl, m3, m4, c, hf, hl, bp_s, lt_v, nI_1, c2, c6, c7, k1, ↓reduceIte]
          · obtain ⟨x, y, hj', hk⟩ := hnew (fun c hc e2 _ => by
              rw [only c e2 hc, epl']
              refine Or.inl ?_
              unfold LI
              rw [p5] at c6
              exact Int32.lt_iff_toInt_lt.mp (Int32.not_le.mp c6))
            refine ⟨x, y, hj', ?_⟩
            rw [← hk]
            simp only [fM_nextOf_7, fM_nextOf_7_b, fM_nextOf_66, fM_nextOf_71, fM_nextOf_141, fM_nextOf_145, fM_nextOf_146, fM_nextOf_148, fM_nextOf_159, fM_nextOf_171, fM_nextOf_172, i6, c0, gd_t, e8, q, hib, hcl, m3, m4, c, hf, hl, bp_s, lt_v, nI_1, c2, c6, k1, ↓reduceIte]
    · obtain ⟨x, y, hj', hk⟩ := ih (i + 1) n x2 x3 (by omega) (by omega) (JM_skip hj (fun z => absurd z c))
      refine ⟨x, y, hj', ?_⟩
      rw [← hk]
      simp only [fM_nextOf_7, fM_nextOf_7_b, fM_nextOf_172, i6, c0, gd_t, e8, q, hib, hcl, m3, c, lt_v, nI_1, ↓reduceIte]
theorem next_m {τ : Sg} {v : Vw} (h : okStore v) (hm : Rm 0 v (τ 7)) {t : Int32} (ht : fM_tenthsOf τ (τ 7 6 0) = some t) {r : Nat} (hr : r < vn v) : ∃ x, nxt v (τ 7 0 3) (τ 7 0 4) (wrm v t r) r x ∧ fM_nextOf τ (nI r) = some x := by
  have h3 := h.2.1.1
  have hvr := vs_le (okS h hr)
  obtain ⟨x, y, hj, hx⟩ := nextOf_loop h hm ht hr (vb v) 0 FU (-1) 0 (by omega) (by unfold FU; omega) (Or.inl ⟨rfl, fun b hb => absurd hb (by omega)⟩)
  refine ⟨x, ?_, hx⟩
  have cell : ∀ q, q < vs v r → frP v r q = true → ∃ b, b < vb v ∧ v 18 b = nI r ∧ plc v b = q := fun q hq hf => by
    obtain ⟨b, b1, b2, b3, b4, b5⟩ := frP_cell h.w hr hq hf
    refine ⟨b, b1, b4, ?_⟩
    unfold plc
    rw [b5, nI_clamp (by omega)]
  rcases hj with ⟨a1, a2⟩ | ⟨c, p1, p2, p3, p4, p5, p6⟩
  · refine Or.inl ⟨a1, fun q hq => ?_⟩
    cases hf : frP v r q with
    | false => rfl
    | true =>
      obtain ⟨b, b1, b2, b3⟩ := cell q hq hf
      have := a2 b b1 b2
      rw [b3, hf] at this
      cases this
  · obtain ⟨r2, p', hr2, hp', o1', o2', o3'⟩ := blk_lies h p1 (by rw [p2]; exact nI_nm1 (by have := h.1.1; omega))
    have h8 := h.1.1
    have er2 : r2 = r := by rw [p2] at o1'; exact ((nI_eq (by omega) (by omega)).mp o1').symm
    subst er2
    have epl' : plc v c = p' := by unfold plc; rw [o2', nI_clamp (by omega)]
    refine Or.inr ⟨p', hp', by rw [← epl']; exact p3, ?_, fun q hq hf => ?_⟩
    · rw [p4]
      unfold bk
      rw [o3', nI_clamp (by omega)]
      congr 1
      omega
    · obtain ⟨b, b1, b2, b3⟩ := cell q hq hf
      have := p6 b b1 b2 (by rw [b3]; exact hf)
      rw [b3, epl'] at this
      exact this
theorem op_next : Op_next Inv := by
  intro lv σ hI a1
  obtain ⟨h, hm⟩ := hI.2.2.2.1
  have k1 : ¬ (1 : Int32) = 0 := by decide
  by_cases hr : inR (σ 0) a1
  · obtain ⟨r, hr, rfl⟩ := hr
    obtain ⟨d, hd, d1, d2⟩ := hI.today
    obtain ⟨t1, t2, -⟩ := hI.terms
    obtain ⟨hdc, hdm⟩ := hI.day (show d < 200 by omega)
    have htt : fI_tenthsToday σ = some (σ 6 10 d) := by
      show bp (fCalendar_tenthsOf σ (σ 0 0 0)) _ = _
      rw [d1, hdc _ rfl]; rfl
    obtain ⟨g, x, hx, hg⟩ := near_c (σ := σ) (a := 0) (by omega) rfl h.w hr (σ 6 10 d)
    have hmg : Rm 0 (σ 0) (upA σ 6 11 g 7) := hm
    have htm : fM_tenthsOf (upA σ 6 11 g) (upA σ 6 11 g 7 6 0) = some (σ 6 10 d) := by
      show fM_tenthsOf (upA σ 6 11 g) (σ 7 6 0) = _
      rw [d2]
      exact hdm _ rfl rfl
    obtain ⟨y, hy, hny⟩ := next_m h hmg htm hr
    have hxy : x = y := by
      refine nxt_uniq hx ?_
      rw [t1, t2]
      exact hy
    subst hxy
    refine ⟨x, upA σ 6 11 g, ?_, ?_, hI.look g⟩
    · simp only [fI_next, fI_next_0, has_in h hr, bp_s, k1, htt, hg, bi_s, ↓reduceIte]
    · simp only [fM_next, fM_next_0, isRoom_in h hmg hr, bp_s, k1, hny, ↓reduceIte]
  · refine ⟨-2, σ, ?_, ?_, hI⟩
    · simp only [fI_next, fI_next_0, has_out h hr, bp_s, ↓reduceIte]
    · simp only [fM_next, fM_next_0, isRoom_out h hm hr, bp_s, ↓reduceIte]
