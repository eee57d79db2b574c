theorem zz_x199 {d0 : Nat} (hd0 : d0 ≤ 199) : (199 : Int32) - nI d0 = nI (199 - d0) := by
  have : nI 199 - nI d0 = nI (199 - d0) := pk_sub (a := 199) hd0
  rw [show (199 : Int32) = nI 199 from rfl]
  exact this
theorem zz_wD {D : Nat} (hD1 : 1 ≤ D) (hD : D ≤ 200) : wi (nI D) 1 200 = 1 := by
  have u1 : ¬ nI D < nI 1 := nI_nlt (b := 1) hD1 (by omega)
  have u2 : ¬ nI 200 < nI D := nI_nlt (a := 200) (b := D) hD (by omega)
  show (if nI D < nI 1 then 0 else if nI 200 < nI D then 0 else 1) = (1 : Int32)
  rw [if_neg u1, if_neg u2]
theorem zz_wB {bk : Nat} (hbk : bk ≤ 199) : wi (nI bk) 0 199 = 1 := wiIx0 (n := 200) (by omega) (by decide)
theorem fore_sel {S : Sg} {D bk d0 n : Nat} (hD1 : 1 ≤ D) (hD : D ≤ 200) (hbk : bk ≤ 199) (hd0 : d0 ≤ 199) (e6 : S 7 6 0 = nI d0) (hn3 : n = D ∧ D ≤ 199 - d0 ∨ n = 199 - d0 ∧ ¬ D ≤ 199 - d0) : fM_foretell S (nI D) (nI bk) = fM_foretell_56 S (nI bk) (nI n) := by
  have i6 : ib 0 6 = true := by decide
  have c0 : (0 : Int32).toNatClampNeg = 0 := by decide
  have k1 : ¬ (1 : Int32) = 0 := by decide
  have wD := zz_wD hD1 hD
  have wB := zz_wB hbk
  have x199 := zz_x199 hd0
  have go : fM_foretell S (nI D) (nI bk) = if nI D ≤ nI (199 - d0) then fM_foretell_56 S (nI bk) (nI D) else fM_foretell_56 S (nI bk) (nI (199 - d0)) := by
    have f0 : fM_foretell S (nI D) (nI bk) = fM_foretell_0 S (nI D) (nI bk) := rfl
    rw [f0]
    unfold fM_foretell_0
    rw [fM_in_eq, wD, bp_s, if_neg k1, fM_in_eq, wB, bp_s, if_neg k1, i6, gd_t, gd_t, c0, e6, x199]
  rw [go]
  rcases hn3 with ⟨e, hc⟩ | ⟨e, hc⟩
  · rw [if_pos (nI_le hc (by omega)), e]
  · rw [if_neg (nI_ge (by omega) (by omega)), e]
theorem fore_go {lv lv1 : Nat → Bool} {σ σb : Sg} (hI : Inv lv σ) {D bk : Nat} (hD1 : 1 ≤ D) (hD : D ≤ 200) (hbk : bk ≤ 199) (hb : ∀ s, s ≠ 1 → s ≠ 9 → σb s = σ s) (hlv : ∀ s, s ≠ 1 → s ≠ 9 → lv1 s = lv s) (hl1 : lv1 1 = true) (hl9 : lv1 9 = true) (hfi : fI_foretell lv σ (nI D) (nI bk) = fI_foretell_64 lv1 σb (nI D) (nI bk)) : ∃ r σ1 lv1, fI_foretell lv σ (nI D) (nI bk) = some (r, σ1, lv1) ∧ ∃ σ2, fM_foretell σ1 (nI D) (nI bk) = some (r, σ2) ∧ Inv lv1 σ2 := by
  obtain ⟨h, hm⟩ := hI.2.2.2.1
  obtain ⟨d0, hd0, d1, d2⟩ := hI.today
  have hterm := hI.1.2.1
  obtain ⟨P, W, l, hP, hW, hl1', hl2, eP, eP', eW, eW', el, el'⟩ := hterm
  have i6 : ib 0 6 = true := by decide
  have c0 : (0 : Int32).toNatClampNeg = 0 := by decide
  have isb1 : isb 1 = true := by decide
  have k1 : ¬ (1 : Int32) = 0 := by decide
  -- how many days
  obtain ⟨n, hn1, hn2, hn3⟩ : ∃ n : Nat, d0 + n ≤ 199 ∧ (n = D ∨ (n ≤ D ∧ d0 + n = 199)) ∧ (n = D ∧ D ≤ 199 - d0 ∨ n = 199 - d0 ∧ ¬ D ≤ 199 - d0) := by
    by_cases c : D ≤ 199 - d0
    · exact ⟨D, by omega, Or.inl rfl, Or.inl ⟨rfl, c⟩⟩
    · exact ⟨199 - d0, by omega, Or.inr ⟨by omega, by omega⟩, Or.inr ⟨rfl, c⟩⟩
  -- the copy
  have b0 : σb 0 = σ 0 := hb 0 (by omega) (by omega)
  have hcp : fStore_copyFrom σb 1 0 = some (cfS σb 1 0 (vn (σb 0)) (vb (σb 0))) := copyFrom_sm (by omega) (by rw [b0]; exact h)
  have hsm : Sm (σb 0) (cfS σb 1 0 (vn (σb 0)) (vb (σb 0)) 1) := cfS_sm (by rw [b0]; exact h)
  have hCo : ∀ s, s ≠ 1 → cfS σb 1 0 (vn (σb 0)) (vb (σb 0)) s = σb s := fun s hs => cfS_o _ hs
  rw [b0] at hcp hsm hCo
  generalize cfS σb 1 0 (vn (σ 0)) (vb (σ 0)) = C at *
  generalize hv' : C 1 = v at hsm
  have hv : okStore v := hsm.ok h
  have hvm : Rm 0 v (σ 7) := hsm.rm h hm
  have hvd : v 0 0 = nI d0 := by rw [hsm.1 0 (by omega)]; exact d1
  have hvn : vn v = vn (σ 0) := hsm.geo.1
  have h8 := hv.1.1
  generalize htt : (fun k => σ 6 10 (d0 + k - bk)) = tt
  have ettk : ∀ k, tt k = σ 6 10 (d0 + k - bk) := fun k => by rw [← htt]
  -- tenths out of reach do not matter: cut them
  generalize htc : (fun k => if k < n then tt k else 0) = tc
  have etc1 : ∀ k, k < n → tc k = σ 6 10 (d0 + k - bk) := fun k hk => by
    rw [← htc]
    show (if k < n then tt k else 0) = _
    rw [if_pos hk, ettk]
  have htr : ∀ k, -2048 ≤ (tc k).toInt ∧ (tc k).toInt ≤ 2048 := fun k => by
    by_cases c : k < n
    · rw [etc1 k c]
      exact hI.rng (by omega)
    · rw [← htc]
      show -2048 ≤ (if k < n then tt k else 0).toInt ∧ (if k < n then tt k else 0).toInt ≤ 2048
      rw [if_neg c]
      decide
  -- the class begins
  have C6 : C 6 = σ 6 := (hCo 6 (by omega)).trans (hb 6 (by omega) (by omega))
  have C7 : C 7 = σ 7 := (hCo 7 (by omega)).trans (hb 7 (by omega) (by omega))
  obtain ⟨A, a1, a2, a3, a4, a5, a6, a7⟩ := begin_c hv' hv hvd
  have hFC : FC σ v (nI P) (nI W) (nI l) tc d0 (vn v) 0 A := by
    refine ⟨fun s s1 s6 s9 => ?_, fun j _ _ _ => ?_, ?_, a3, a4, a5, fun i hi => ?_⟩
    · rw [a2 s s9, hCo s s1]; exact hb s s1 s9
    · rw [a2 6 (by omega), C6]
    · rw [a2 1 (by omega)]; exact hv'
    · have ei : i = 0 := by omega
      subst ei
      exact ⟨a6, a7⟩
  obtain ⟨X, x1, x2⟩ := foreC_loop (lv := lv1) (σ := σ) hl1 hl9 hv hP hW hvd hn1 hn2 hD hbk htr (fun X hX k hk => by
    rw [etc1 k hk]
    exact (hI.day (show d0 + k - bk < 200 by omega)).1 X hX) eP eW el n 0 FU A (by omega) (by unfold FU; omega) hFC
  obtain ⟨p1, p2, p3, p4, p5, p6, p7⟩ := x2
  have X7 : X 7 = σ 7 := p1 7 (by omega) (by omega) (by omega)
  -- the reference begins
  have S7 : stI X (nI n) 7 = σ 7 := by rw [stI_o _ _ (by omega)]; exact X7
  have hmc : fM_copy (stI X (nI n)) 0 5 = some (cpS (stI X (nI n)) 0 5) := copy_eq (stI X (nI n)) (w1 := 0) (w2 := 5) (by omega) (by omega) (by omega)
  have K0 : Rm 0 v (cpS (stI X (nI n)) 0 5 7) := Rm_copy_other hv (by omega) (by rw [S7]; exact hvm)
  have K5 : Rm 5 (σ 0) (cpS (stI X (nI n)) 0 5 7) := Rm_copy h (by rw [S7]; exact hm)
  have Kw : ∀ w u, okStore u → w ≠ 5 → Rm w u (σ 7) → Rm w u (cpS (stI X (nI n)) 0 5 7) := fun w u hu hw hr => Rm_copy_other hu hw (by rw [S7]; exact hr)
  have Kk : ∀ k, k < 6 ∨ 25 ≤ k → cpS (stI X (nI n)) 0 5 7 k = σ 7 k := fun k hk => by rw [cpS_k _ hk, S7]
  have Ko : ∀ s, s ≠ 7 → cpS (stI X (nI n)) 0 5 s = stI X (nI n) s := fun s hs => cpS_o _ hs
  generalize cpS (stI X (nI n)) 0 5 = K at *
  obtain ⟨T, gm, To', T7k, T70', m1, h56⟩ := begin_m (S := stI X (nI n)) hv (n := n) (bk := bk) hvd hmc K0
  have T70 : T 7 0 = upd (upd (upd (upd (σ 7 0) 47 1) 44 (nI n)) 45 (nI (vn v))) 46 (if lyB v = 0 then nI d0 - 1 else -2) := by rw [T70', Kk 0 (by omega)]
  have To : ∀ s, s ≠ 7 → T s = stI X (nI n) s := fun s hs => (To' s hs).trans (Ko s hs)
  have TR : ∀ w u, Rm w u (K 7) → Rm w u (T 7) := fun w u hr => Rm_of_k hr (fun k k6 _ => T7k k (by omega))
  have hFM : FM T v (nI P) (nI W) (nI l) tc d0 0 (upA T 7 48 gm) := by
    refine ⟨fun s hs => upA_o _ _ _ hs, Rm_of_k (TR 0 v K0) (fun k k6 k24 => by rw [upA_a, if_neg (by omega)]), fun k k6 k25 j hj => ?_, fun j _ _ _ j48 => ?_, fun j _ => ?_, ?_, fun i hi j hj => ?_⟩
    · rw [upA_a, if_neg (by omega)]
    · rw [upA_a, if_neg j48]
    · rw [upA_a, if_neg (by omega)]
    · rw [upA_a, if_neg (by omega), T70, upd_r, if_pos rfl]; rfl
    · have ei : i = 0 := by omega
      subst ei
      rw [upA_same]
      exact m1 j hj
  have T1 : T 7 1 = σ 7 1 := (T7k 1 (by omega)).trans (Kk 1 (by omega))
  have T2 : T 7 2 = σ 7 2 := (T7k 2 (by omega)).trans (Kk 2 (by omega))
  obtain ⟨Y, y1, y2⟩ := foreM_loop (T := T) hv hP hW hvd hn1 hbk htr (fun Y b1 b2 k hk => by
    rw [etc1 k hk]
    exact (hI.day (show d0 + k - bk < 200 by omega)).2 Y (b1.trans T1) (b2.trans T2)) (by rw [T70]; exact eP') (by rw [T70]; exact eW') (by rw [T70]; exact el') n 0 FU (upA T 7 48 gm) (by omega) (by unfold FU; omega) hFM
  have Y5 : Rm 5 (σ 0) (Y 7) := y2.2.2.1.rm h (by omega) (TR 5 _ K5)
  have Zo : ∀ s, s ≠ 7 → cpS Y 5 0 s = Y s := fun s hs => cpS_o _ hs
  have Zk : ∀ k, k < 6 ∨ 25 ≤ k → cpS Y 5 0 7 k = Y 7 k := fun k hk => cpS_k _ hk
  have Z0 : Rm 0 (σ 0) (cpS Y 5 0 7) := Rm_copy h Y5
  have Zw : ∀ w u, okStore u → w ≠ 0 → Rm w u (Y 7) → Rm w u (cpS Y 5 0 7) := fun w u hu hw hr => Rm_copy_other hu hw hr
  generalize cpS Y 5 0 = Z at y1 Zo Zk Z0 Zw
  have hmod : fM_foretell (stI X (nI n)) (nI D) (nI bk) = some (nI n, stM Z (nI n)) := by
    have e6 : stI X (nI n) 7 6 0 = nI d0 := by rw [S7]; exact d2
    rw [fore_sel hD1 hD hbk hd0 e6 hn3, h56, y1]
  refine opIm (r := nI n) (s1 := stI X (nI n)) (s2 := stM Z (nI n)) (lv1 := lv1) (B := fun s => fM_foretell s (nI D) (nI bk)) ?_ hmod ?_
  · rw [hfi]
    simp only [fI_foretell_64, hl1, hl9, gd_t, hcp, a1, bp_s]
    exact x1
  · obtain ⟨q1, q2, q3, q4, q5, q6, q7⟩ := y2
    have G6 : ∀ k, stM Z (nI n) 6 k = stI X (nI n) 6 k := fun k => by rw [stM_o _ _ (by omega), Zo _ (by omega), q1 6 (by omega), To 6 (by omega)]
    have G6k : ∀ k, k ≠ 0 → k ≠ 11 → k ≠ 12 → k ≠ 13 → stM Z (nI n) 6 k = σ 6 k := fun k a0 a11 a12 a13 => by
      rw [G6]
      unfold stI
      rw [upA_a, if_neg a0]
      exact p2 k a11 a12 a13
    have Gs : ∀ s, s ≠ 7 → s ≠ 6 → stM Z (nI n) s = X s := fun s h7 h6 => by rw [stM_o _ _ h7, Zo _ h7, q1 s h7, To s h7, stI_o _ _ h6]
    have G60 : ∀ j, j ≠ 14 → stM Z (nI n) 6 0 j = σ 6 0 j := fun j hj => by
      rw [G6]
      show upd (X 6 0) 14 (if 0 ≤ nI n then 0 else nI n) j = _
      rw [upd_r, if_neg hj, p2 0 (by omega) (by omega) (by omega)]
    have G70 : ∀ j, j ≠ 0 → stM Z (nI n) 7 0 j = Y 7 0 j := fun j h0 => by
      unfold stM
      rw [upA_same, upd_r, if_neg h0, Zk _ (by omega)]
    have G70s : ∀ j, j ≠ 0 → j ≠ 44 → j ≠ 45 → j ≠ 46 → j ≠ 47 → stM Z (nI n) 7 0 j = σ 7 0 j := fun j h0 h44 h45 h46 h47 => by
      rw [G70 j h0, q5 j h46, T70, upd_r, if_neg h46, upd_r, if_neg h45, upd_r, if_neg h44, upd_r, if_neg h47]
    have G7y : ∀ k, k ≠ 0 → (k < 6 ∨ 25 ≤ k) → stM Z (nI n) 7 k = Y 7 k := fun k k0 hk => by
      unfold stM
      rw [upA_a, if_neg k0, Zk _ hk]
    have G7k : ∀ k, 26 ≤ k ∨ (1 ≤ k ∧ k < 6) → k ≠ 30 → k ≠ 31 → k ≠ 48 → stM Z (nI n) 7 k = σ 7 k := fun k hk k30 k31 k48 => by
      rw [G7y k (by omega) (by omega), q4 k hk k30 k31 k48, T7k k (by omega), Kk k (by omega)]
    have GR : ∀ w u, Rm w u (Z 7) → Rm w u (stM Z (nI n) 7) := fun w u hr => Rm_of_k hr (fun k k6 _ => by unfold stM; rw [upA_a, if_neg (by omega)])
    have img : ∀ k, k < 4 → IvI1 (lv (2 + k)) k (σ (2 + k)) (σ 7) → IvI1 (lv1 (2 + k)) k (stM Z (nI n) (2 + k)) (stM Z (nI n) 7) := fun k hk hi => by
      rw [Gs (2 + k) (by omega) (by omega), p1 (2 + k) (by omega) (by omega) (by omega), hlv (2 + k) (by omega) (by omega)]
      have e25 : stM Z (nI n) 7 25 k = σ 7 25 k := by
        rw [G7y 25 (by omega) (by omega), q3 25 (by omega) (by omega) k (Nat.zero_le k), T7k 25 (by omega), Kk 25 (by omega)]
      refine ⟨fun z => e25.trans (hi.1 z), fun z => ?_⟩
      obtain ⟨i1, i2, i3⟩ := hi.2 z
      exact ⟨e25.trans i1, i2, GR _ _ (Zw _ _ i2 (by omega) (q3.rm i2 (by omega) (TR _ _ (Kw _ _ i2 (by omega) i3))))⟩
    have hI' := hI
    obtain ⟨⟨-, -, -, -, h5, h6, h7, -⟩, h9, -, -, h12, h13, h14, h15⟩ := hI'
    refine Inv_mk2 (lv := lv) (σ := σ) hI ?_ (G6k 2 (by omega) (by omega) (by omega) (by omega)) (G6k 3 (by omega) (by omega) (by omega) (by omega)) (G6k 5 (by omega) (by omega) (by omega) (by omega)) (G6k 9 (by omega) (by omega) (by omega) (by omega)) (G6k 10 (by omega) (by omega) (by omega) (by omega)) (G6k 14 (by omega) (by omega) (by omega) (by omega)) (G6k 15 (by omega) (by omega) (by omega) (by omega)) (fun j j3 j5 => G70s j (by omega) (by omega) (by omega) (by omega) (by omega)) (G70s 34 (by omega) (by omega) (by omega) (by omega) (by omega)) (G7k 1 (by omega) (by omega) (by omega) (by omega)) (G7k 2 (by omega) (by omega) (by omega) (by omega)) (G7k 32 (by omega) (by omega) (by omega) (by omega)) (G7k 33 (by omega) (by omega) (by omega) (by omega)) (G7k 40 (by omega) (by omega) (by omega) (by omega)) ?_ ?_ ?_ ?_ ?_ ?_ (img 0 (by omega) h12) (img 1 (by omega) h13) (img 2 (by omega) h14) (img 3 (by omega) h15)
    · rw [G6]; rfl
    · rw [G6k 4 (by omega) (by omega) (by omega) (by omega), G6k 16 (by omega) (by omega) (by omega) (by omega), G6k 17 (by omega) (by omega) (by omega) (by omega), G7k 49 (by omega) (by omega) (by omega) (by omega), G7k 50 (by omega) (by omega) (by omega) (by omega)]
      exact h5.of (G70s 51 (by omega) (by omega) (by omega) (by omega) (by omega))
    · rw [G6k 7 (by omega) (by omega) (by omega) (by omega), G7k 35 (by omega) (by omega) (by omega) (by omega)]
      exact h6.of (G60 10 (by omega)) (G70s 36 (by omega) (by omega) (by omega) (by omega) (by omega))
    · exact h7.of (fun j j1 j2 => G60 j (by omega)) (fun j j1 j2 => G70s j (by omega) (by omega) (by omega) (by omega) (by omega))
    · rw [Gs 8 (by omega) (by omega), p1 8 (by omega) (by omega) (by omega), hlv 8 (by omega) (by omega), G7k 28 (by omega) (by omega) (by omega) (by omega), G7k 29 (by omega) (by omega) (by omega) (by omega)]
      exact h9.of (G70s 26 (by omega) (by omega) (by omega) (by omega) (by omega)) (G70s 27 (by omega) (by omega) (by omega) (by omega) (by omega))
    · rw [Gs 9 (by omega) (by omega), G7y 48 (by omega) (by omega)]
      refine ⟨fun z => (by rw [hl9] at z; cases z), fun _ => ⟨?_, n, vn v, by omega, h8, p4, ?_, p6, ?_, ?_, fun i hi => ?_⟩⟩
      · rw [G70 47 (by omega), q5 47 (by omega), T70]; rfl
      · rw [G70 44 (by omega), q5 44 (by omega), T70]; rfl
      · rw [G70 45 (by omega), q5 45 (by omega), T70]; rfl
      · rw [p5, G70 46 (by omega), q6]
      · obtain ⟨r1, r2⟩ := p7 i hi
        refine ⟨?_, fun q hq => ?_⟩
        · rw [r1]
          exact sumF_cong (fun q hq => (q7 i hi q hq).symm)
        · rw [r2 q hq, q7 i hi q hq]
    · rw [Gs 0 (by omega) (by omega), p1 0 (by omega) (by omega) (by omega)]
      exact ⟨h, GR _ _ Z0⟩
theorem op_foretell : Op_foretell Inv := by
  intro lv σ hI a1 a2
  by_cases c1 : wi a1 1 200 = 0
  · refine opIm (r := -1) (s1 := stI σ (-1)) (lv1 := lv) (s2 := stM (stI σ (-1)) (-1)) (B := fun s => fM_foretell s a1 a2) ?_ ?_ (hI.st (-1))
    · simp only [fI_foretell, fI_foretell_0, fI_foretell_22, fI_within_eq, c1, bp_s, fI_answer_eq, bi_s, ↓reduceIte]
    · simp only [fM_foretell, fM_foretell_0, fM_foretell_22, fM_in_eq, c1, bp_s, fM_ends_eq, bi_s, ↓reduceIte]
  by_cases c2 : wi a2 0 199 = 0
  · refine opIm (r := -1) (s1 := stI σ (-1)) (lv1 := lv) (s2 := stM (stI σ (-1)) (-1)) (B := fun s => fM_foretell s a1 a2) ?_ ?_ (hI.st (-1))
    · simp only [fI_foretell, fI_foretell_0, fI_foretell_22, fI_within_eq, c1, c2, bp_s, fI_answer_eq, bi_s, ↓reduceIte]
    · simp only [fM_foretell, fM_foretell_0, fM_foretell_22, fM_in_eq, c1, c2, bp_s, fM_ends_eq, bi_s, ↓reduceIte]
  obtain ⟨D, hD1, hD, rfl⟩ := wiN (lo := 1) (hi := 200) (by decide) c1 (by decide)
  obtain ⟨bk, -, hbk, rfl⟩ := wiN (lo := 0) (hi := 199) (by decide) c2 (by decide)
  cases h1 : lv 1 with
  | true =>
    cases h9 : lv 9 with
    | true =>
      refine fore_go (lv1 := lv) (σb := σ) hI hD1 hD hbk (fun _ _ _ => rfl) (fun _ _ _ => rfl) h1 h9 ?_
      simp only [fI_foretell, fI_foretell_0, fI_foretell_46, fI_within_eq, c1, c2, bp_s, h1, h9, ↓reduceIte]
    | false =>
      refine fore_go (lv1 := setL lv 9) (σb := zap σ 9) hI hD1 hD hbk (fun s _ s9 => if_neg s9) (fun s _ s9 => if_neg s9) h1 (if_pos rfl) ?_
      simp only [fI_foretell, fI_foretell_0, fI_foretell_46, fI_within_eq, c1, c2, bp_s, h1, h9, mk2, Bool.false_eq_true, ↓reduceIte]
  | false =>
    cases h9 : lv 9 with
    | true =>
      have h9' : setL lv 1 9 = true := h9
      refine fore_go (lv1 := setL lv 1) (σb := zap σ 1) hI hD1 hD hbk (fun s s1 _ => if_neg s1) (fun s s1 _ => if_neg s1) (if_pos rfl) h9' ?_
      simp only [fI_foretell, fI_foretell_0, fI_foretell_46, fI_within_eq, c1, c2, bp_s, h1, h9', mk2, Bool.false_eq_true, ↓reduceIte]
    | false =>
      have h9' : setL lv 1 9 = false := h9
      refine fore_go (lv1 := setL (setL lv 1) 9) (σb := zap (zap σ 1) 9) hI hD1 hD hbk (fun s s1 s9 => (if_neg s9).trans (if_neg s1)) (fun s s1 s9 => (if_neg s9).trans (if_neg s1)) rfl rfl ?_
      simp only [fI_foretell, fI_foretell_0, fI_foretell_46, fI_within_eq, c1, c2, bp_s, h1, h9', mk2, Bool.false_eq_true, ↓reduceIte]
