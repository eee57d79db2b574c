/-! send -/
def sumN (f : Nat → Nat) : Nat → Nat
  | 0 => 0
  | k + 1 => sumN f k + f k
theorem sumF_nI (f : Nat → Nat) : ∀ k, sumF (fun j => nI (f j)) k = nI (sumN f k)
  | 0 => rfl
  | k + 1 => by
    show sumF (fun j => nI (f j)) k + nI (f k) = nI (sumN f k + f k)
    rw [sumF_nI f k, nI_add]
theorem sumN_le {f : Nat → Nat} {M : Nat} : ∀ k, (∀ j, j < k → f j ≤ M) → sumN f k ≤ M * k
  | 0, _ => Nat.zero_le _
  | k + 1, h => by
    have := sumN_le k (fun j hj => h j (by omega))
    have := h k (by omega)
    show sumN f k + f k ≤ M * (k + 1)
    rw [Nat.mul_add, Nat.mul_one]
    omega
def sumL (f : Nat → Int64) : Nat → Int64
  | 0 => 0
  | k + 1 => sumL f k + f k
theorem sumL_32 (f : Nat → Int64) : ∀ k, (sumL f k).toInt32 = sumF (fun j => (f j).toInt32) k
  | 0 => rfl
  | k + 1 => by
    show (sumL f k + f k).toInt32 = sumF (fun j => (f j).toInt32) k + (f k).toInt32
    rw [Int64.toInt32_add, sumL_32 f k]
theorem stop_ex (Q : Nat → Prop) : ∀ c, ∃ n, n ≤ c ∧ (Q n ∨ n = c) ∧ ∀ k, k < n → ¬ Q k
  | 0 => ⟨0, Nat.le_refl 0, Or.inr rfl, fun k hk => absurd hk (by omega)⟩
  | c + 1 => by
    obtain ⟨n, h1, h2, h3⟩ := stop_ex Q c
    by_cases q : Q n
    · exact ⟨n, by omega, Or.inl q, h3⟩
    · have e : n = c := h2.resolve_left q
      refine ⟨c + 1, Nat.le_refl _, Or.inr rfl, fun k hk => ?_⟩
      by_cases z : k = c
      · rw [z, ← e]; exact q
      · exact h3 k (by omega)
section Send
variable {σ T : Sg} {v : Vw} {pa we t : Int32} {r n : Nat} {cm : Nat → Nat} {G : Int32}
theorem sendC_loop (hv : okStore v) (hr : r < vn v) (ePa : σ 6 2 0 = pa) (eWe : σ 6 2 1 = we) (ht : ∀ X : Sg, X 6 10 = σ 6 10 → X 0 0 0 = v 0 0 → fI_tenthsToday X = some t) (hcm : ∀ k, k ≤ cR v r → ∀ X : Sg, CL σ v pa we t r k X → ∀ b, b < vb v → fI_atWaysEnd X (nI b) = some (nI (cm b))) (hn : n ≤ cR v r) (hst : G ≤ sumF (fun j => nI (cm (Lb v pa we t r j))) n ∨ n = cR v r) (hlt : ∀ k, k < n → ¬ G ≤ sumF (fun j => nI (cm (Lb v pa we t r j))) k) : ∀ m k f (X : Sg), k + m = n → m < f → CL σ v pa we t r k X → ∃ X' : Sg, fI_liftToSend_10 f X (nI r) G (sumF (fun j => nI (cm (Lb v pa we t r j))) k) (nI k) = some (sumF (fun j => nI (cm (Lb v pa we t r j))) n, X') ∧ CL σ v pa we t r n X' := by
  have hcr := cR_le hv hr
  have hvr := vs_le (okS hv hr)
  have k1 : ¬ (1 : Int32) = 0 := by decide
  intro m
  induction m with
  | zero =>
    intro k f X hk hf hX
    obtain ⟨f, rfl⟩ : ∃ j, f = j + 1 := ⟨f - 1, by omega⟩
    have ek : k = n := by omega
    subst ek
    by_cases q : (180 : Int32) ≤ nI k
    · refine ⟨X, ?_, hX⟩
      simp only [fI_liftToSend_10, fI_liftToSend_10_b, q, ↓reduceIte]
    · by_cases q2 : G ≤ sumF (fun j => nI (cm (Lb v pa we t r j))) k
      · refine ⟨X, ?_, hX⟩
        simp only [fI_liftToSend_10, fI_liftToSend_10_b, q, q2, ↓reduceIte]
      · obtain ⟨X', h1, h2⟩ := liftNext_0 hv hr ePa eWe ht (hst.resolve_left q2) hX
        refine ⟨X', ?_, h2⟩
        simp only [fI_liftToSend_10, fI_liftToSend_10_b, q, q2, h1, bi_s, ↓reduceIte]
  | succ m ih =>
    intro k f X hk hf hX
    obtain ⟨f, rfl⟩ : ∃ j, f = j + 1 := ⟨f - 1, by omega⟩
    have q : ¬ (180 : Int32) ≤ nI k := nI_ge (b := 180) (by omega) (by omega)
    have q2 := hlt k (by omega)
    obtain ⟨X1, h1, h2⟩ := liftNext_1 hv hr ePa eWe ht (show k < cR v r by omega) hX
    obtain ⟨X', h3, h4⟩ := ih (k + 1) f X1 (by omega) (by omega) h2
    refine ⟨X', ?_, h4⟩
    rw [← h3]
    have e9 : X1 6 0 9 - 1 = nI k := by rw [h2.2.2.2.1]; exact nI_pred k
    have hib : ib (nI k) 180 = true := ib_nI (by omega) (by decide)
    have hcl : (nI k).toNatClampNeg = k := nI_clamp (by omega)
    have e66 : X1 6 6 k = nI (Lb v pa we t r k) := h2.2.2.2.2.2 k (by omega)
    have hw := hcm (k + 1) (by omega) X1 h2 (Lb v pa we t r k) (Lb_at hv hr (by omega)).1
    simp only [fI_liftToSend_10, fI_liftToSend_10_b, q, q2, h1, k1, bi_s, e9, hib, hcl, gd_t, e66, hw, bp_s, lt_v, nI_1, ↓reduceIte]
    rfl
def kI (v : Vw) (b : Nat) : Nat := if v 21 b = -1 then (v 16 b).toNatClampNeg else 0
def blB (v : Vw) (pr : Nat → Int32) (b : Nat) : Int64 := (v 17 b).toInt64 * (pr (kI v b)).toInt64 / 1000
theorem kI_ok (hv : okStore v) {b : Nat} (hb : b < vb v) : kI v b ≤ 2 ∧ v 16 b = nI (v 16 b).toNatClampNeg := by
  obtain ⟨⟨⟨k, hk, ek⟩, -⟩, -⟩ := hv.2.2.2.2.2.1 b hb
  unfold kI
  rw [ek, nI_clamp (by omega)]
  refine ⟨?_, rfl⟩
  split <;> omega
theorem bill_c (hv : okStore v) (hr : r < vn v) (hn : n ≤ cR v r) {X : Sg} {pr : Nat → Int32} (x4 : X 6 0 9 = nI n) (x6 : ∀ i, i < n → X 6 6 i = nI (Lb v pa we t r i)) (e16 : X 0 16 = v 16) (e17 : X 0 17 = v 17) (e21 : X 0 21 = v 21) (e5 : X 6 5 = pr) : fI_billOfLifted X = some (sumF (fun j => (blB v pr (Lb v pa we t r j)).toInt32) n) := by
  have hcr := cR_le hv hr
  have hvr := vs_le (okS hv hr)
  have h3 := hv.2.1.1
  refine loopSum (L := fun f y i => fI_billOfLifted_4 f X y i) (fun f y => ?_) (fun f y i hi => ?_) n 0 FU 0 (by omega) (by unfold FU; omega) rfl
  · have q : nI n ≤ nI n := nI_le (by omega) (by omega)
    simp only [fI_billOfLifted_4, fI_billOfLifted_4_b, x4, q, ↓reduceIte]
  · have q : ¬ nI n ≤ nI i := nI_ge hi (by omega)
    have hib : ib (nI i) 180 = true := ib_nI (by omega) (by decide)
    have hcl : (nI i).toNatClampNeg = i := nI_clamp (by omega)
    obtain ⟨b1, -⟩ := Lb_at (pa := pa) (we := we) (t := t) hv hr (show i < cR v r by omega)
    have hib2 : ib (nI (Lb v pa we t r i)) 300 = true := ib_nI (by omega) (by decide)
    have hcl2 : (nI (Lb v pa we t r i)).toNatClampNeg = Lb v pa we t r i := nI_clamp (by omega)
    obtain ⟨k1, k2⟩ := kI_ok hv b1
    have k10 : ¬ (1 : Int32) = 0 := by decide
    by_cases c : v 21 (Lb v pa we t r i) = -1
    · have ek : kI v (Lb v pa we t r i) = (v 16 (Lb v pa we t r i)).toNatClampNeg := if_pos c
      have hib3 : ib (v 16 (Lb v pa we t r i)) 3 = true := by rw [k2, ← ek]; exact ib_nI (by omega) (by decide)
      simp only [fI_billOfLifted_4, fI_billOfLifted_4_b, fI_billOfLifted_40, fI_billOfLifted_63, x4, q, hib, hcl, gd_t, lt_v, x6 i hi, hib2, hcl2, e21, c, e16, hib3, e17, e5, nI_1, ↓reduceIte, blB, ek]
    · have ek : kI v (Lb v pa we t r i) = 0 := if_neg c
      have hib3 : ib 0 3 = true := by decide
      have c0 : (0 : Int32).toNatClampNeg = 0 := by decide
      simp only [fI_billOfLifted_4, fI_billOfLifted_4_b, fI_billOfLifted_40, fI_billOfLifted_63, x4, q, hib, hcl, gd_t, lt_v, x6 i hi, hib2, hcl2, e21, c, k10, hib3, c0, e17, e5, nI_1, ↓reduceIte, blB, ek]
theorem sendM_loop (hv : okStore v) (hr : r < vn v) (ePa : T 7 0 3 = pa) (eWe : T 7 0 4 = we) {d : Nat} (hd : v 0 0 = nI d) (ht : ∀ Y : Sg, Y 7 1 = T 7 1 → Y 7 2 = T 7 2 → fM_tenthsOf Y (nI d) = some t) {pr : Nat → Int32} (hpr : ∀ k, k < 3 → T 7 40 k = pr k) (hcm : ∀ Y : Sg, Y 7 6 0 = v 0 0 → Y 7 0 5 = T 7 0 5 → Y 7 0 34 = T 7 0 34 → Y 7 1 = T 7 1 → Y 7 2 = T 7 2 → Y 7 32 = T 7 32 → Y 7 33 = T 7 33 → ∀ b, b < vb v → Y 7 19 b = v 16 b → Y 7 20 b = v 17 b → fM_comeOf Y (nI b) = some (nI (cm b))) (hn : n ≤ cR v r) (hst : G ≤ sumF (fun j => nI (cm (Lb v pa we t r j))) n ∨ n = cR v r) (hlt : ∀ k, k < n → ¬ G ≤ sumF (fun j => nI (cm (Lb v pa we t r j))) k) : ∀ m k f (Y : Sg), k + m = n → m < f → ML T v pa we t r k Y → Y 7 0 36 = T 7 0 36 → Y 7 35 = T 7 35 → (∀ i, i < k → Y 7 43 i = nI (Lb v pa we t r i)) → ∃ Y' : Sg, fM_send_54 f Y (nI r) G (sumF (fun j => nI (cm (Lb v pa we t r j))) k) (nI k) (sumL (fun j => blB v pr (Lb v pa we t r j)) k) (sumF (fun j => v 17 (Lb v pa we t r j)) k) (nxI (Lu v pa we t r k) pa we t r) = fM_send_175 Y' G (sumF (fun j => nI (cm (Lb v pa we t r j))) n) (nI n) (sumL (fun j => blB v pr (Lb v pa we t r j)) n) (sumF (fun j => v 17 (Lb v pa we t r j)) n) ∧ ML T v pa we t r n Y' ∧ Y' 7 0 36 = T 7 0 36 ∧ Y' 7 35 = T 7 35 ∧ ∀ i, i < n → Y' 7 43 i = nI (Lb v pa we t r i) := by
  have hcr := cR_le hv hr
  have hvr := vs_le (okS hv hr)
  have h3 := hv.2.1.1
  intro m
  induction m with
  | zero =>
    intro k f Y hk hf hY u36 u35 u43
    obtain ⟨f, rfl⟩ : ∃ j, f = j + 1 := ⟨f - 1, by omega⟩
    have ek : k = n := by omega
    subst ek
    refine ⟨Y, ?_, hY, u36, u35, u43⟩
    by_cases q2 : G ≤ sumF (fun j => nI (cm (Lb v pa we t r j))) k
    · simp only [fM_send_54, fM_send_54_b, q2, ↓reduceIte, ite_self]
    · have hL := Lu_all hv (pa := pa) (we := we) (t := t) hr k hn
      obtain ⟨gn, -, -⟩ := hL.geo
      have hz := nxt_none hL.1 (by rw [gn]; exact hr) (nxI_sp hL.1 pa we t (show r < vn (Lu v pa we t r k) by rw [gn]; exact hr)) (by have := hL.2.2.2; have := hst.resolve_left q2; omega)
      simp only [fM_send_54, fM_send_54_b, hz, ↓reduceIte]
  | succ m ih =>
    intro k f Y hk hf hY u36 u35 u43
    obtain ⟨f, rfl⟩ : ∃ j, f = j + 1 := ⟨f - 1, by omega⟩
    have hkn : k < cR v r := by omega
    have q2 := hlt k (by omega)
    have hL := Lu_all hv (pa := pa) (we := we) (t := t) hr k (by omega)
    obtain ⟨-, b1, b2, -⟩ := Lu_step hv hr hL hkn
    have nb : ¬ nI (Lb v pa we t r k) = -1 := nI_nm1 (by omega)
    have e6 : Y 7 6 0 = v 0 0 := by
      rw [show Y 7 6 0 = Lu v pa we t r k 0 0 from hY.2.1.1.1, hL.2.1 0 (by omega) (by omega) (by omega) (by omega) (by omega)]
    obtain ⟨-, -, -, -, o4, o5, o6⟩ := out_L hv hr hkn hY.2.1
    have hco := hcm Y e6 (hY.2.2.2.2 5 (by omega)) (hY.2.2.2.2 34 (by omega)) (hY.2.2.2.1 1 (by omega) (by omega) (by omega)) (hY.2.2.2.1 2 (by omega) (by omega) (by omega)) (hY.2.2.2.1 32 (by omega) (by omega) (by omega)) (hY.2.2.2.1 33 (by omega) (by omega) (by omega)) (Lb v pa we t r k) b1 o5 o4
    have hib2 : ib (nI (Lb v pa we t r k)) 1800 = true := ib_nI (by omega) (by decide)
    have hcl2 : (nI (Lb v pa we t r k)).toNatClampNeg = Lb v pa we t r k := nI_clamp (by omega)
    have hib : ib (nI k) 300 = true := ib_nI (by omega) (by decide)
    have hcl : (nI k).toNatClampNeg = k := nI_clamp (by omega)
    obtain ⟨k1, k2⟩ := kI_ok hv b1
    -- the state with the block noted
    generalize hM : upA Y 7 43 (upd (Y 7 43) k (nI (Lb v pa we t r k))) = M
    obtain ⟨y1, y2, y3, y4, y5⟩ := hY
    have hML : ML T v pa we t r k M := by
      rw [← hM]
      refine ⟨fun s hs => by rw [upA_o _ _ _ hs]; exact y1 s hs, Rm_of_k y2 (fun j j6 j24 => by rw [upA_a, if_neg (by omega)]), fun j j6 j25 i hi => by rw [upA_a, if_neg (by omega)]; exact y3 j j6 j25 i hi, fun j hj j35 j43 => by rw [upA_a, if_neg j43]; exact y4 j hj j35 j43, fun j hj => by rw [upA_a, if_neg (by omega)]; exact y5 j hj⟩
    obtain ⟨M', p1, p2, -⟩ := out_L hv hr hkn hML.2.1
    have hML' := ML_out hv hr hkn hML
    rw [← p2] at hML'
    have hnx := next_L hv hr ePa eWe hd ht (show k + 1 ≤ cR v r by omega) hML'
    have M43 : M' 7 43 = upd (Y 7 43) k (nI (Lb v pa we t r k)) := by rw [p2, outM_k _ (by omega) (by omega) (by omega), ← hM, upA_same]
    obtain ⟨Y', r1, r2⟩ := ih (k + 1) f M' (by omega) (by omega) hML' (by rw [p2, outM_k _ (by omega) (by omega) (by omega), ← hM, upA_a, if_neg (by omega)]; exact u36) (by rw [p2, outM_k _ (by omega) (by omega) (by omega), ← hM, upA_a, if_neg (by omega)]; exact u35) (fun i hi => by
      rw [M43, upd_r]
      split
      · next z => rw [z]
      · exact u43 i (by omega))
    refine ⟨Y', ?_, r2⟩
    rw [← r1, b2]
    have e40 : ∀ j, j < 3 → Y 7 40 j = pr j := fun j hj => by rw [y4 40 (by omega) (by omega) (by omega)]; exact hpr j hj
    have h119 : ∀ x : Int32, x = nI (kI v (Lb v pa we t r k)) → fM_send_119 (fun σ x1 x2 x3 x4 x5 x7 x8 => fM_send_54 f σ x1 x2 x3 x4 x5 x7 x8) Y (nI r) G (sumF (fun j => nI (cm (Lb v pa we t r j))) (k + 1)) (nI k) (sumL (fun j => blB v pr (Lb v pa we t r j)) k) (sumF (fun j => v 17 (Lb v pa we t r j)) (k + 1)) (nI (Lb v pa we t r k)) x = fM_send_54 f M' (nI r) G (sumF (fun j => nI (cm (Lb v pa we t r j))) (k + 1)) (nI (k + 1)) (sumL (fun j => blB v pr (Lb v pa we t r j)) (k + 1)) (sumF (fun j => v 17 (Lb v pa we t r j)) (k + 1)) (nxI (Lu v pa we t r (k + 1)) pa we t r) := by
      intro x hx
      have hib3 : ib x 3 = true := by rw [hx]; exact ib_nI (by omega) (by decide)
      have hcl3 : x.toNatClampNeg = kI v (Lb v pa we t r k) := by rw [hx]; exact nI_clamp (by omega)
      unfold fM_send_119
      rw [hib2, gd_t, hib3, gd_t, lt_v, hib, gd_t, lt_v, hcl2, hcl3, hcl, e40 _ (by omega), o4, hM, lt_v, p1, bp_s, hnx, bp_s, nI_1]
      rfl
    have a1 : sumF (fun j => nI (cm (Lb v pa we t r j))) k + nI (cm (Lb v pa we t r k)) = sumF (fun j => nI (cm (Lb v pa we t r j))) (k + 1) := rfl
    have a2 : sumF (fun j => v 17 (Lb v pa we t r j)) k + v 17 (Lb v pa we t r k) = sumF (fun j => v 17 (Lb v pa we t r j)) (k + 1) := rfl
    by_cases c1 : v 16 (Lb v pa we t r k) = 1
    · by_cases c2 : v 21 (Lb v pa we t r k) = -1
      · have ek : kI v (Lb v pa we t r k) = (v 16 (Lb v pa we t r k)).toNatClampNeg := if_pos c2
        rw [← h119 (v 16 (Lb v pa we t r k)) (by rw [ek]; exact k2)]
        simp only [fM_send_54, fM_send_54_b, fM_send_112, nb, q2, hco, bp_s, lt_v, hib2, hcl2, gd_t, o4, o5, c1, o6, c2, a1, a2, ↓reduceIte]
      · have ek : kI v (Lb v pa we t r k) = 0 := if_neg c2
        rw [← h119 0 (by rw [ek]; rfl)]
        simp only [fM_send_54, fM_send_54_b, fM_send_112, nb, q2, hco, bp_s, lt_v, hib2, hcl2, gd_t, o4, o5, c1, o6, c2, a1, a2, ↓reduceIte]
    · have c2 : v 21 (Lb v pa we t r k) = -1 := (hv.2.2.2.2.2.1 _ b1).1.2.resolve_right c1
      have ek : kI v (Lb v pa we t r k) = (v 16 (Lb v pa we t r k)).toNatClampNeg := if_pos c2
      rw [← h119 (v 16 (Lb v pa we t r k)) (by rw [ek]; exact k2)]
      simp only [fM_send_54, fM_send_54_b, fM_send_112, nb, q2, hco, bp_s, lt_v, hib2, hcl2, gd_t, o4, o5, c1, a1, a2, ↓reduceIte]
/-- the list is copied -/
theorem list_loop {S : Sg} {L : Nat → Nat} (hn : n ≤ 180) (x7 : Int32) (h43 : ∀ i, i < n → S 7 43 i = nI (L i)) : ∀ m i f (Z : Sg), i + m = n → m < f → (∀ s, s ≠ 7 → Z s = S s) → (∀ k, k ≠ 35 → Z 7 k = S 7 k) → (∀ j, j < i → Z 7 35 j = nI (L j)) → ∃ Z' : Sg, fM_send_246 f Z (nI n) x7 (nI i) = some (nI n, stM (upA (upA Z' 7 0 (upd (S 7 0) 36 (nI n))) 7 9 (upd (S 7 9) 1 (S 7 9 1 + x7))) (nI n)) ∧ (∀ s, s ≠ 7 → Z' s = S s) ∧ (∀ k, k ≠ 35 → Z' 7 k = S 7 k) ∧ ∀ j, j < n → Z' 7 35 j = nI (L j) := by
  have i1 : ib 1 36 = true := by decide
  have n1 : (1 : Int32).toNatClampNeg = 1 := by decide
  intro m
  induction m with
  | zero =>
    intro i f Z hi hf z1 z2 z3
    obtain ⟨f, rfl⟩ : ∃ k, f = k + 1 := ⟨f - 1, by omega⟩
    have ei : i = n := by omega
    subst ei
    have q : nI i ≤ nI i := nI_le (by omega) (by omega)
    refine ⟨Z, ?_, z1, z2, z3⟩
    have e0 : Z 7 0 = S 7 0 := z2 0 (by omega)
    have f9 : ∀ g : Nat → Int32, upA Z 7 0 g 7 9 = S 7 9 := fun g => by rw [upA_a, if_neg (by omega)]; exact z2 9 (by omega)
    simp only [fM_send_246, fM_send_246_b, q, lt_v, i1, n1, gd_t, e0, f9, fM_ends_eq, bi_s, ↓reduceIte]
  | succ m ih =>
    intro i f Z hi hf z1 z2 z3
    obtain ⟨f, rfl⟩ : ∃ k, f = k + 1 := ⟨f - 1, by omega⟩
    have q : ¬ nI n ≤ nI i := nI_ge (by omega) (by omega)
    have hib : ib (nI i) 300 = true := ib_nI (by omega) (by decide)
    have hcl : (nI i).toNatClampNeg = i := nI_clamp (by omega)
    have e43 : Z 7 43 i = nI (L i) := by rw [z2 43 (by omega)]; exact h43 i (by omega)
    obtain ⟨Z', h1, h2⟩ := ih (i + 1) f (upA Z 7 35 (upd (Z 7 35) i (nI (L i)))) (by omega) (by omega) (fun s hs => (upA_o _ _ _ hs).trans (z1 s hs)) (fun k hk => by rw [upA_a, if_neg hk]; exact z2 k hk) (fun j hj => by
      rw [upA_same, upd_r]
      split
      · next z => rw [z]
      · exact z3 j (by omega))
    refine ⟨Z', ?_, h2⟩
    rw [← h1]
    simp only [fM_send_246, fM_send_246_b, q, hib, hcl, gd_t, e43, lt_v, nI_1, ↓reduceIte]
end Send
