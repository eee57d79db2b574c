/-! the reference takes -/
def ML (T : Sg) (v : Vw) (pa we t : Int32) (r k : Nat) (Y : Sg) : Prop := (∀ s, s ≠ 7 → Y s = T s) ∧ Rm 0 (Lu v pa we t r k) (Y 7) ∧ Ofs (T 7) (Y 7) ∧ (∀ j, 26 ≤ j ∨ (1 ≤ j ∧ j < 6) → j ≠ 35 → j ≠ 43 → Y 7 j = T 7 j) ∧ ∀ j, j ≠ 36 → Y 7 0 j = T 7 0 j
section LiftM
variable {T : Sg} {v : Vw} {pa we t : Int32} {r : Nat}
theorem next_L (hv : okStore v) (hr : r < vn v) (ePa : T 7 0 3 = pa) (eWe : T 7 0 4 = we) {d : Nat} (hd : v 0 0 = nI d) (ht : ∀ Y : Sg, Y 7 1 = T 7 1 → Y 7 2 = T 7 2 → fM_tenthsOf Y (nI d) = some t) {k : Nat} (hk : k ≤ cR v r) {Y : Sg} (hY : ML T v pa we t r k Y) : fM_nextOf Y (nI r) = some (nxI (Lu v pa we t r k) pa we t r) := by
  obtain ⟨y1, y2, y3, y4, y5⟩ := hY
  have hL := Lu_all hv (pa := pa) (we := we) (t := t) hr k hk
  obtain ⟨gn, gb, gr⟩ := hL.geo
  have e6 : Y 7 6 0 = nI d := by
    rw [show Y 7 6 0 = Lu v pa we t r k 0 0 from y2.1.1, hL.2.1 0 (by omega) (by omega) (by omega) (by omega) (by omega)]
    exact hd
  obtain ⟨x, hx, hn⟩ := next_m (τ := Y) hL.1 y2 (t := t) (by rw [e6]; exact ht Y (y4 1 (by omega) (by omega) (by omega)) (y4 2 (by omega) (by omega) (by omega))) (r := r) (by rw [gn]; exact hr)
  rw [y5 3 (by omega), y5 4 (by omega), ePa, eWe] at hx
  rw [hn, nxI_eq hL.1 (by rw [gn]; exact hr) hx]
theorem out_L (hv : okStore v) (hr : r < vn v) {k : Nat} (hk : k < cR v r) {Y : Sg} (hR : Rm 0 (Lu v pa we t r k) (Y 7)) : ∃ Y' : Sg, fM_out Y (nI (Lb v pa we t r k)) = some Y' ∧ Y' = outM Y (Lb v pa we t r k) r (plc v (Lb v pa we t r k)) ∧ Rm 0 (Lu v pa we t r (k + 1)) (Y' 7) ∧ Y 7 20 (Lb v pa we t r k) = v 17 (Lb v pa we t r k) ∧ Y 7 19 (Lb v pa we t r k) = v 16 (Lb v pa we t r k) ∧ Y 7 24 (Lb v pa we t r k) = v 21 (Lb v pa we t r k) := by
  have hL := Lu_all hv (pa := pa) (we := we) (t := t) hr k (by omega)
  obtain ⟨gn, gb, gr⟩ := hL.geo
  obtain ⟨hL', b1, b2, b3, b4, b5, b6, b7, b8⟩ := Lu_step hv hr hL hk
  have h8 := hv.1.1
  have h3 := hv.2.1.1
  have hvr := vs_le (okS hv hr)
  obtain ⟨m1, m2, m3, m4, -, m6⟩ := m_b hR (show Lb v pa we t r k < vb (Lu v pa we t r k) by rw [gb]; exact b1)
  refine ⟨_, out_eq (by omega) (by omega) (by omega) (m3.trans b3) (m4.trans b5), rfl, ?_, ?_, ?_, ?_⟩
  · exact Rm_out hL.1 hR (show r < vn (Lu v pa we t r k) by rw [gn]; exact hr) (show _ < vs (Lu v pa we t r k) r by rw [(gr r).2]; exact b7)
  · rw [m2, hL.2.1 17 (by omega) (by omega) (by omega) (by omega) (by omega)]
  · rw [m1, hL.2.1 16 (by omega) (by omega) (by omega) (by omega) (by omega)]
  · rw [m6, hL.2.1 21 (by omega) (by omega) (by omega) (by omega) (by omega)]
theorem ML_out (hv : okStore v) (hr : r < vn v) {k : Nat} (hk : k < cR v r) {Y : Sg} (hY : ML T v pa we t r k Y) : ML T v pa we t r (k + 1) (outM Y (Lb v pa we t r k) r (plc v (Lb v pa we t r k))) := by
  obtain ⟨y1, y2, y3, y4, y5⟩ := hY
  obtain ⟨Y', o1, o2, o3, -⟩ := out_L hv hr hk y2
  subst o2
  have hL := Lu_all hv (pa := pa) (we := we) (t := t) hr k (by omega)
  obtain ⟨-, b1, -, -, -, -, -, b7, -⟩ := Lu_step hv hr hL hk
  have h8 := hv.1.1
  have h3 := hv.2.1.1
  have hvr := vs_le (okS hv hr)
  exact ⟨fun s hs => (outM_o _ hs).trans (y1 s hs), o3, Ofs_out y3 (by omega) (by omega) (by omega), fun j hj j35 j43 => by rw [outM_k _ (by omega) (by omega) (by omega)]; exact y4 j hj j35 j43, fun j hj => by rw [outM_k _ (by omega) (by omega) (by omega)]; exact y5 j hj⟩
theorem take_loop (hv : okStore v) (hr : r < vn v) (ePa : T 7 0 3 = pa) (eWe : T 7 0 4 = we) {d : Nat} (hd : v 0 0 = nI d) (ht : ∀ Y : Sg, Y 7 1 = T 7 1 → Y 7 2 = T 7 2 → fM_tenthsOf Y (nI d) = some t) {n : Nat} (hn : n ≤ cR v r) : ∀ m k f (Y : Sg) (x : Int32), k + m = n → m < f → ML T v pa we t r k Y → Y 7 0 36 = nI k → (∀ i, i < k → Y 7 35 i = nI (Lb v pa we t r i)) → x = sumF (fun j => v 17 (Lb v pa we t r j)) k → ∃ Y' : Sg, fM_take_59 f Y (nI r) (nI n) x (nI k) = some (sumF (fun j => v 17 (Lb v pa we t r j)) n, stM (upA Y' 7 9 (upd (Y' 7 9) 1 (Y' 7 9 1 + sumF (fun j => v 17 (Lb v pa we t r j)) n))) (sumF (fun j => v 17 (Lb v pa we t r j)) n)) ∧ ML T v pa we t r n Y' ∧ Y' 7 0 36 = nI n ∧ ∀ i, i < n → Y' 7 35 i = nI (Lb v pa we t r i) := by
  have hcr := cR_le hv hr
  have hvr := vs_le (okS hv hr)
  have h3 := hv.2.1.1
  intro m
  induction m with
  | zero =>
    intro k f Y x hk hf hY y36 y35 hx
    obtain ⟨f, rfl⟩ : ∃ j, f = j + 1 := ⟨f - 1, by omega⟩
    have ek : k = n := by omega
    subst ek
    have q : nI k ≤ nI k := nI_le (by omega) (by omega)
    have i1 : ib 1 36 = true := by decide
    have n1 : (1 : Int32).toNatClampNeg = 1 := by decide
    refine ⟨Y, ?_, hY, y36, y35⟩
    simp only [fM_take_59, fM_take_59_b, q, i1, n1, gd_t, lt_v, fM_ends_eq, bi_s, ↓reduceIte, hx]
  | succ m ih =>
    intro k f Y x hk hf hY y36 y35 hx
    obtain ⟨f, rfl⟩ : ∃ j, f = j + 1 := ⟨f - 1, by omega⟩
    have hkn : k < cR v r := by omega
    have q : ¬ nI n ≤ nI k := nI_ge (by omega) (by omega)
    have hib : ib (nI k) 300 = true := ib_nI (by omega) (by decide)
    have hcl : (nI k).toNatClampNeg = k := nI_clamp (by omega)
    have hnx := next_L hv hr ePa eWe hd ht (by omega) hY
    have hL := Lu_all hv (pa := pa) (we := we) (t := t) hr k (by omega)
    obtain ⟨-, b1, b2, -⟩ := Lu_step hv hr hL hkn
    rw [b2] at hnx
    have hib2 : ib (nI (Lb v pa we t r k)) 1800 = true := ib_nI (by omega) (by decide)
    have hcl2 : (nI (Lb v pa we t r k)).toNatClampNeg = Lb v pa we t r k := nI_clamp (by omega)
    generalize hM : upA (upA Y 7 35 (upd (Y 7 35) k (nI (Lb v pa we t r k)))) 7 0 (upd (Y 7 0) 36 (nI (k + 1))) = M
    obtain ⟨y1, y2, y3, y4, y5⟩ := hY
    have hML : ML T v pa we t r k M := by
      rw [← hM]
      refine ⟨fun s hs => by rw [upA_o _ _ _ hs, upA_o _ _ _ hs]; exact y1 s hs, Rm_of_k y2 (fun j j6 j24 => by rw [upA_a, if_neg (by omega), upA_a, if_neg (by omega)]), fun j j6 j25 i hi => by rw [upA_a, if_neg (by omega), upA_a, if_neg (by omega)]; exact y3 j j6 j25 i hi, fun j hj j35 j43 => by rw [upA_a, if_neg (by omega), upA_a, if_neg j35]; exact y4 j hj j35 j43, fun j hj => by rw [upA_same, upd_r, if_neg hj]; exact y5 j hj⟩
    obtain ⟨M', o1, o2, o3, o4, -⟩ := out_L hv hr hkn hML.2.1
    have hML' := ML_out hv hr hkn hML
    rw [← o2] at hML'
    have M36 : M' 7 0 36 = nI (k + 1) := by
      rw [o2, outM_k _ (by omega) (by omega) (by omega), ← hM, upA_same, upd_r, if_pos rfl]
    have M35 : M' 7 35 = upd (Y 7 35) k (nI (Lb v pa we t r k)) := by
      rw [o2, outM_k _ (by omega) (by omega) (by omega), ← hM, upA_a, if_neg (by omega), upA_same]
    obtain ⟨Y', r1, r2⟩ := ih (k + 1) f M' (x + v 17 (Lb v pa we t r k)) (by omega) (by omega) hML' M36 (fun i hi => by
      rw [M35, upd_r]
      split
      · next z => rw [z]
      · exact y35 i (by omega)) (by rw [hx]; rfl)
    refine ⟨Y', ?_, r2⟩
    rw [← r1]
    have f0 : ∀ g : Nat → Int32, upA Y 7 35 g 7 0 = Y 7 0 := fun g => by rw [upA_a, if_neg (by omega)]
    simp only [fM_take_59, fM_take_59_b, q, hnx, bp_s, y36, hib, hcl, gd_t, lt_v, f0, nI_1, hM, hib2, hcl2, o4, o1, ↓reduceIte]
end LiftM
theorem Rm_sld {S : Sg} {u : Vw} (hm : Rm 0 u (S 7)) (s : Int32) : Rm 0 (sldV u s) (upA S 7 9 (upd (S 7 9) 1 (S 7 9 1 + s)) 7) := by
  obtain ⟨a, ⟨b1, b2, b3, b4⟩, c, d, e, f⟩ := hm
  refine ⟨a, ⟨b1, ?_, b3, b4⟩, c, d, e, f⟩
  show S 7 9 1 + s = u 0 2 + s
  rw [show S 7 9 1 = u 0 2 from b2]
theorem okStore_sld {u : Vw} (h : okStore u) (s : Int32) : okStore (sldV u s) := by
  obtain ⟨h1, h2, h3, h4, h5, h6, h7, h8⟩ := h
  exact ⟨h1, h2, h3, h4, h5, h6, h7, h8⟩
theorem Inv.l9 {lv : Nat → Bool} {σ : Sg} (h : Inv lv σ) (x : Int32) : Inv lv (upA σ 6 0 (upd (σ 6 0) 9 x)) := by
  obtain ⟨⟨h1, h2, h3, h4, h5, h6, h7, h8⟩, h9, h10, h11, h12⟩ := h
  exact ⟨⟨h1, h2, h3, h4, h5, h6, h7, h8⟩, h9, h10, h11, h12⟩
theorem m_cR {τ : Sg} {v : Vw} (h : okStore v) (hm : Rm 0 v (τ 7)) (r : Nat) : fM_countOf τ (nI r) (-1) = some (nI (cR v r)) := by
  rw [m_count h hm]
  unfold cR
  congr 2
  refine cntF_cong (fun b hb => ?_)
  exact decide_eq_decide.mpr ⟨fun z => z.1, fun z => ⟨z, Or.inl rfl⟩⟩
theorem op_take : Op_take Inv := by
  intro lv σ hI a1 a2
  obtain ⟨h, hm⟩ := hI.2.2.2.1
  have h8 := h.1.1
  have h3 := h.2.1.1
  have k1 : ¬ (1 : Int32) = 0 := by decide
  by_cases c : wi a2 1 300 = 0
  · refine opNo (B := fun s => fM_take s a1 a2) hI (-1) ?_ ?_
    · simp only [fI_take, fI_take_0, fI_within_eq, c, bp_s, fI_answer_eq, bi_s, ↓reduceIte]
    · simp only [fM_take, fM_take_0, fM_in_eq, c, bp_s, fM_ends_eq, bi_s, ↓reduceIte]
  by_cases hr : inR (σ 0) a1
  · obtain ⟨r, hr, rfl⟩ := hr
    obtain ⟨n, hn1, hn, rfl⟩ := wiN (lo := 1) (hi := 300) (by decide) c (by decide)
    obtain ⟨d, hd, d1, d2⟩ := hI.today
    obtain ⟨t1, t2, -⟩ := hI.terms
    obtain ⟨hdc, hdm⟩ := hI.day (show d < 200 by omega)
    have htt : ∀ X : Sg, X 6 10 = σ 6 10 → X 0 0 0 = σ 0 0 0 → fI_tenthsToday X = some (σ 6 10 d) := fun X e1 e2 => by
      show bp (fCalendar_tenthsOf X (X 0 0 0)) _ = _
      rw [e2, d1, hdc X e1]; rfl
    obtain ⟨l1, l2⟩ := lift_c (σ := σ) (v := σ 0) (pa := σ 6 2 0) (we := σ 6 2 1) (t := σ 6 10 d) rfl h hr rfl rfl htt hn
    have hcv : cR (σ 0) r ≤ vb (σ 0) := cntF_le _ _
    by_cases cn : n ≤ cR (σ 0) r
    · obtain ⟨X, x1, x2⟩ := l1 cn
      have hcr := cR_le h hr
      have hvr := vs_le (okS h hr)
      obtain ⟨y1, y2, y3, y4, y5, y6⟩ := x2
      obtain ⟨Z, z1, z2, z3, z4, z5, z6, z7⟩ := sell_c h hr cn y4 y5 y6
      generalize hs : sumF (fun j => σ 0 17 (Lb (σ 0) (σ 6 2 0) (σ 6 2 1) (σ 6 10 d) r j)) n = s at z1 z7
      have Z7 : Z 7 = σ 7 := (z2 7 (by omega) (by omega)).trans (y1 7 (by omega) (by omega))
      have S7 : stI Z s 7 = σ 7 := by rw [stI_o _ _ (by omega)]; exact Z7
      generalize hT : upA (stI Z s) 7 0 (upd (σ 7 0) 36 0) = T
      have T70 : T 7 0 = upd (σ 7 0) 36 0 := by rw [← hT, upA_same]
      have T7k : ∀ k, k ≠ 0 → T 7 k = σ 7 k := fun k hk => by rw [← hT, upA_a, if_neg hk, S7]
      have To : ∀ s', s' ≠ 7 → T s' = stI Z s s' := fun s' hs' => by rw [← hT, upA_o _ _ _ hs']
      have hML0 : ML T (σ 0) (σ 6 2 0) (σ 6 2 1) (σ 6 10 d) r 0 T := ⟨fun _ _ => rfl, Rm_of_k hm (fun k k6 _ => T7k k (by omega)), Ofs.refl _, fun _ _ _ _ => rfl, fun _ _ => rfl⟩
      obtain ⟨Y, q1, q2, q3, q4⟩ := take_loop (T := T) h hr (by rw [T70]; exact t1.symm) (by rw [T70]; exact t2.symm) d1 (fun Y e1 e2 => hdm Y (e1.trans (T7k 1 (by omega))) (e2.trans (T7k 2 (by omega)))) cn n 0 FU T 0 (by omega) (by unfold FU; omega) hML0 (by rw [T70, upd_r, if_pos rfl]; rfl) (fun i hi => absurd hi (by omega)) rfl
      rw [hs] at q1
      have hmS : Rm 0 (σ 0) (stI Z s 7) := by rw [S7]; exact hm
      refine opII (r := s) (s1 := stI Z s) (B := fun s => fM_take s (nI r) (nI n)) ?_ ?_ (s2 := stM (upA Y 7 9 (upd (Y 7 9) 1 (Y 7 9 1 + s))) s) ?_
      · simp only [fI_take, fI_take_0, fI_within_eq, c, bp_s, has_in h hr, k1, x1, z1, fI_answer_eq, bi_s, ↓reduceIte]
      · have qn : nI n ≤ nI (cR (σ 0) r) := nI_le cn (by omega)
        simp only [fM_take, fM_take_0, fM_in_eq, c, bp_s, isRoom_in h hmS hr, k1, m_cR h hmS, qn, lt_v, S7, hT, ↓reduceIte]
        exact q1
      · obtain ⟨p1, p2, p3, p4, p5⟩ := q2
        have hL := Lu_all h (pa := σ 6 2 0) (we := σ 6 2 1) (t := σ 6 10 d) hr n cn
        have G6 : ∀ k, stM (upA Y 7 9 (upd (Y 7 9) 1 (Y 7 9 1 + s))) s 6 k = stI Z s 6 k := fun k => by rw [stM_o _ _ (by omega), upA_o _ _ _ (by omega), p1 6 (by omega), To 6 (by omega)]
        have G6k : ∀ k, k ≠ 0 → k ≠ 6 → k ≠ 7 → k ≠ 11 → stM (upA Y 7 9 (upd (Y 7 9) 1 (Y 7 9 1 + s))) s 6 k = σ 6 k := fun k k0 k6 k7 k11 => by
          rw [G6]
          unfold stI
          rw [upA_a, if_neg k0, z3 k k0 k7]
          exact y2 k k0 k6 k11
        have Gs : ∀ s', s' ≠ 7 → s' ≠ 6 → stM (upA Y 7 9 (upd (Y 7 9) 1 (Y 7 9 1 + s))) s s' = Z s' := fun s' h7 h6 => by rw [stM_o _ _ h7, upA_o _ _ _ h7, p1 s' h7, To s' h7, stI_o _ _ h6]
        have G60 : ∀ j, j ≠ 14 → stM (upA Y 7 9 (upd (Y 7 9) 1 (Y 7 9 1 + s))) s 6 0 j = Z 6 0 j := fun j hj => by
          rw [G6]
          show upd (Z 6 0) 14 (if 0 ≤ s then 0 else s) j = _
          rw [upd_r, if_neg hj]
        have G60s : ∀ j, j ≠ 14 → j ≠ 10 → j ≠ 9 → stM (upA Y 7 9 (upd (Y 7 9) 1 (Y 7 9 1 + s))) s 6 0 j = σ 6 0 j := fun j j14 j10 j9 => by
          rw [G60 j j14, z4 j j10]; exact y3 j j9
        have G70 : ∀ j, j ≠ 0 → stM (upA Y 7 9 (upd (Y 7 9) 1 (Y 7 9 1 + s))) s 7 0 j = Y 7 0 j := fun j h0 => by
          unfold stM
          rw [upA_same, upd_r, if_neg h0, upA_a, if_neg (by omega)]
        have G70s : ∀ j, j ≠ 0 → j ≠ 36 → stM (upA Y 7 9 (upd (Y 7 9) 1 (Y 7 9 1 + s))) s 7 0 j = σ 7 0 j := fun j h0 h36 => by
          rw [G70 j h0, p5 j h36, T70, upd_r, if_neg h36]
        have G7y : ∀ k, k ≠ 0 → k ≠ 9 → stM (upA Y 7 9 (upd (Y 7 9) 1 (Y 7 9 1 + s))) s 7 k = Y 7 k := fun k k0 k9 => by
          unfold stM
          rw [upA_a, if_neg k0, upA_a, if_neg k9]
        have G7k : ∀ k, 26 ≤ k ∨ (1 ≤ k ∧ k < 6) → k ≠ 35 → k ≠ 43 → stM (upA Y 7 9 (upd (Y 7 9) 1 (Y 7 9 1 + s))) s 7 k = σ 7 k := fun k hk k35 k43 => by
          rw [G7y k (by omega) (by omega), p4 k hk k35 k43, T7k k (by omega)]
        have hI' := hI
        obtain ⟨⟨-, -, -, -, h5, h6, h7, -⟩, h9, h10, -⟩ := hI'
        have hO : Ofs (σ 7) (upA Y 7 9 (upd (Y 7 9) 1 (Y 7 9 1 + s)) 7) := by
          have o1 : Ofs (σ 7) (Y 7) := fun k k6 k25 j hj => by rw [p3 k k6 k25 j hj, T7k k (by omega)]
          exact o1.up (c := 9) (i := 1) (show 1 < 6 by omega)
        refine Inv_mk (lv := lv) (σ := σ) hI ?_ (G6k 2 (by omega) (by omega) (by omega) (by omega)) (G6k 3 (by omega) (by omega) (by omega) (by omega)) (G6k 5 (by omega) (by omega) (by omega) (by omega)) (G6k 9 (by omega) (by omega) (by omega) (by omega)) (G6k 10 (by omega) (by omega) (by omega) (by omega)) (G6k 14 (by omega) (by omega) (by omega) (by omega)) (G6k 15 (by omega) (by omega) (by omega) (by omega)) (fun j j3 j5 => G70s j (by omega) (by omega)) (G70s 34 (by omega) (by omega)) (G7k 1 (by omega) (by omega) (by omega)) (G7k 2 (by omega) (by omega) (by omega)) (G7k 32 (by omega) (by omega) (by omega)) (G7k 33 (by omega) (by omega) (by omega)) (G7k 40 (by omega) (by omega) (by omega)) ?_ ?_ ?_ ?_ ?_ ?_ (hO.st s) ?_
        · rw [G6]; rfl
        · rw [G6k 4 (by omega) (by omega) (by omega) (by omega), G6k 16 (by omega) (by omega) (by omega) (by omega), G6k 17 (by omega) (by omega) (by omega) (by omega), G7k 49 (by omega) (by omega) (by omega), G7k 50 (by omega) (by omega) (by omega)]
          exact h5.of (G70s 51 (by omega) (by omega))
        · refine ⟨n, by omega, ?_, ?_, fun j hj => ?_⟩
          · rw [G60 10 (by omega)]; exact z5
          · rw [G70 36 (by omega)]; exact q3
          · have e67 : stM (upA Y 7 9 (upd (Y 7 9) 1 (Y 7 9 1 + s))) s 6 7 j = Z 6 7 j := by
              rw [G6]
              unfold stI
              rw [upA_a, if_neg (by omega)]
            rw [e67, z6 j hj, G7y 35 (by omega) (by omega), q4 j hj]
        · exact h7.of (fun j j1 j2 => G60s j (by omega) (by omega) (by omega)) (fun j j1 j2 => G70s j (by omega) (by omega))
        · rw [Gs 8 (by omega) (by omega), z2 8 (by omega) (by omega), y1 8 (by omega) (by omega), G7k 28 (by omega) (by omega) (by omega), G7k 29 (by omega) (by omega) (by omega)]
          exact h9.of (G70s 26 (by omega) (by omega)) (G70s 27 (by omega) (by omega))
        · rw [Gs 9 (by omega) (by omega), z2 9 (by omega) (by omega), y1 9 (by omega) (by omega), G7k 48 (by omega) (by omega) (by omega)]
          exact h10.of (fun j j1 j2 => G70s j (by omega) (by omega))
        · rw [Gs 0 (by omega) (by omega), z7]
          exact ⟨okStore_sld hL.1 s, Rm_sld p2 s⟩
        · exact fun k k2 k5 => ⟨by rw [Gs k (by omega) (by omega), z2 k (by omega) (by omega), y1 k (by omega) (by omega)], rfl⟩
    · have hno := l2 cn
      have hm' : Rm 0 (σ 0) (stI (upA σ 6 0 (upd (σ 6 0) 9 0)) (-6) 7) := hm
      refine opII (r := -6) (s1 := stI (upA σ 6 0 (upd (σ 6 0) 9 0)) (-6)) (B := fun s => fM_take s (nI r) (nI n)) ?_ ?_ (s2 := stM (stI (upA σ 6 0 (upd (σ 6 0) 9 0)) (-6)) (-6)) ((hI.l9 0).st (-6))
      · simp only [fI_take, fI_take_0, fI_within_eq, c, bp_s, has_in h hr, k1, hno, fI_answer_eq, bi_s, ↓reduceIte]
      · have qn : ¬ nI n ≤ nI (cR (σ 0) r) := nI_ge (by omega) (by omega)
        simp only [fM_take, fM_take_0, fM_in_eq, c, bp_s, isRoom_in h hm' hr, k1, m_cR h hm', qn, fM_ends_eq, bi_s, ↓reduceIte]
  · have hm' : Rm 0 (σ 0) (stI σ (-2) 7) := hm
    refine opNo (B := fun s => fM_take s a1 a2) hI (-2) ?_ ?_
    · simp only [fI_take, fI_take_0, fI_within_eq, c, bp_s, has_out h hr, fI_answer_eq, bi_s, ↓reduceIte]
    · simp only [fM_take, fM_take_0, fM_in_eq, c, bp_s, isRoom_out h hm' hr, fM_ends_eq, bi_s, ↓reduceIte]
