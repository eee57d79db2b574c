theorem try_c {w y z N : Nat} (hd : dimOk w y z) (hs : small w y z) : ∀ f left p C (σ : Sg), left < f → left ≤ 8 → TI w y z N C p left σ → ∃ σ', fPacker_tryFrom f σ (nI p) (nI left) (nI (gn w y z C p)) = some σ' ∧ TO w y z N C p σ σ' := by
  have hz := hd.s
  intro f
  induction f with
  | zero => intro left p C σ h; omega
  | succ f ih =>
    intro left p C σ hf hl hT
    have hT0 := hT
    obtain ⟨hP, h1, h4, hp, hC, hN, hst⟩ := hT
    have hg := gn_small hs C hp
    have q8 : ¬ (8 : Int32) < nI left := nI_nlt (a := 8) (b := left) (by omega) (by omega)
    have e3 : nI (gn w y z C p) + 3 * nI left = nI (gn w y z C p + 3 * left) := by
      rw [show (3 : Int32) = nI 3 from rfl, pk_mul, nI_add]
    rw [fPacker_tryFrom, fPacker_tryFrom_0, if_neg q8, e3]
    by_cases c : σ 10 0 4 < nI (gn w y z C p + 3 * left)
    · rw [if_pos c]
      rw [Int32.lt_iff_toInt_lt, nI_toInt (by omega)] at c
      cases left with
      | zero =>
        have q0 : ¬ (0 : Int32) < nI 0 := by decide
        obtain ⟨g, g1, g2⟩ := keep_c hd (σ := upA σ 10 0 (upd (σ 10 0) 4 (nI (gn w y z C p)))) (C := C) (by exact hP) (by exact h1)
        rw [if_neg q0, lt_v, g1, bp_s]
        have e4 : (nI (gn w y z C p)).toInt = (gn w y z C p : Int) := nI_toInt (by omega)
        have gS : gn w y z C (w * y * z) = gn w y z C p := by
          have := (gn_tail (w := w) (y := y) (z := z) hC (w * y * z - p)).1
          rwa [show p + (w * y * z - p) = w * y * z by omega] at this
        have cS : cntF C (w * y * z) = cntF C p := by
          have := (gn_tail (w := w) (y := y) (z := z) hC (w * y * z - p)).2
          rwa [show p + (w * y * z - p) = w * y * z by omega] at this
        have hX : Ext w y z N C p C := by
          refine ⟨⟨by rw [cS]; omega, fun q hq hE hF => ?_⟩, fun _ _ => rfl⟩
          by_cases e : q < p
          · exact hst q e hE hF
          · rw [hC q (by omega)] at hE; cases hE
        refine ⟨_, rfl, hP, fun s hs => ?_, h1, ?_, Or.inr ⟨C, hX, ?_, ?_, fun q hq => g2 q hq, fun E hE => ?_⟩⟩
        · rw [upA_o _ _ _ hs, upA_o _ _ _ hs]
        · show -1 ≤ (nI (gn w y z C p)).toInt ∧ (nI (gn w y z C p)).toInt ≤ 1000
          rw [e4]; omega
        · show (nI (gn w y z C p)).toInt = _
          rw [e4, gS]
        · rw [gS]; omega
        · have hE := Ext_leaf hp hC (by omega) hE
          exact Or.inr ⟨gn_cong _ hE, by rw [rv_cong _ hE]; exact Nat.le_refl _⟩
      | succ left =>
        have q0 : (0 : Int32) < nI (left + 1) := nI_lt (a := 0) (by omega) (by omega)
        rw [if_pos q0]
        by_cases d : p ≤ w * y * z - left
        · exact try_loop hd hs hl (slf := fun σ v1 v2 v3 => fPacker_tryFrom f σ v1 v2 v3) (fun p C σ h => ih left p C σ (by omega) (by omega) h) (w * y * z - left - p) p FU σ (by omega) (by unfold FU; omega) hT0
        · refine ⟨σ, ?_, hP, fun _ _ => rfl, h1, h4, Or.inl ⟨rfl, fun _ _ => rfl, fun E hE => ?_⟩⟩
          · have e1 : (nI (w * y * z) - nI (left + 1)).toInt < (nI p).toInt := by
              rw [pk_sub_toInt (by omega) (by omega), nI_toInt (by omega)]
              omega
            show fPacker_tryFrom_36 _ (999999 + 1) _ _ _ _ = _
            rw [fPacker_tryFrom_36, fPacker_tryFrom_36_b, hP.2.2.2, if_pos (Int32.lt_iff_toInt_lt.mpr e1)]
          · exfalso
            obtain ⟨⟨a1, -⟩, a2⟩ := hE
            have a3 := cnt_cong a2
            obtain ⟨j, hj⟩ : ∃ j, w * y * z = p + j := ⟨w * y * z - p, by omega⟩
            have a4 := (cnt_up E p j).1
            rw [← hj] at a4
            omega
    · rw [if_neg c]
      rw [Int32.lt_iff_toInt_lt, nI_toInt (by omega)] at c
      refine ⟨σ, rfl, hP, fun _ _ => rfl, h1, h4, Or.inl ⟨rfl, fun _ _ => rfl, fun E hE => ?_⟩⟩
      obtain ⟨⟨a1, -⟩, a2⟩ := hE
      have a3 := cnt_cong a2
      obtain ⟨j, hj⟩ : ∃ j, w * y * z = p + j := ⟨w * y * z - p, by omega⟩
      have a4 := gn_le hs E p j (by omega)
      rw [← hj, a1, a3, gn_cong p a2] at a4
      omega
theorem cnt_first {N : Nat} : ∀ n, cntF (fun q => decide (q < N)) n = min n N := by
  intro n
  induction n with
  | zero => simp [cntF]
  | succ n ih =>
    rw [cnt_s, ih]
    by_cases c : n < N
    · simp [c]; omega
    · simp [c]; omega
theorem try_best {w y z N : Nat} (hd : dimOk w y z) (hs : small w y z) (hN : N ≤ 8) (hNS : N ≤ w * y * z) {σ : Sg} (hP : PK σ w y z) (h1 : ∀ q, q < w * y * z → σ 10 1 q = 0) : ∃ σ' K, fPacker_tryFrom 20 (upA σ 10 0 (upd (σ 10 0) 4 (-1))) 0 (nI N) 0 = some σ' ∧ (∀ s, s ≠ 10 → σ' s = σ s) ∧ bestW w y z N K ∧ ∀ q, q < w * y * z → σ' 10 2 q = i01 (K q) := by
  have hz := hd.s
  obtain ⟨σ', f1, t1, t2, t3, t4, t5⟩ := try_c hd hs (N := N) 20 N 0 (fun _ => false) (upA σ 10 0 (upd (σ 10 0) 4 (-1))) (by omega) hN ⟨hP, fun q hq => h1 q hq, by show -1 ≤ (-1 : Int32).toInt ∧ (-1 : Int32).toInt ≤ 1000; decide, by omega, fun _ _ => rfl, by show 0 + N = N; omega, fun q hq => absurd hq (Nat.not_lt_zero q)⟩
  have hX : ∀ E, Ext w y z N (fun _ => false) 0 E ↔ valid w y z N E := fun E => ⟨fun h => h.1, fun h => ⟨h, fun q hq => absurd hq (Nat.not_lt_zero q)⟩⟩
  have hv : valid w y z N (fun q => decide (q < N)) := by
    refine ⟨by rw [cnt_first]; omega, fun p hp hE hF => ?_⟩
    have := of_decide_eq_true hE
    exact decide_eq_true (by omega)
  rcases t5 with ⟨-, -, l⟩ | ⟨K, k1, -, -, s, l⟩
  · have := l _ ((hX _).mpr hv)
    have e : (upA σ 10 0 (upd (σ 10 0) 4 (-1)) 10 0 4).toInt = -1 := by show (-1 : Int32).toInt = -1; decide
    rw [e] at this
    omega
  · refine ⟨σ', K, f1, fun s hs => by rw [t2 s hs, upA_o _ _ _ hs], ⟨(hX K).mp k1, fun E hE => l E ((hX E).mpr hE)⟩, s⟩
