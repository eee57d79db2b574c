/-! the class lifts -/
theorem lft_W2 {X : Sg} {u : Vw} {f g : Nat → Int32} {b r p : Nat} (e : X 0 = W2 u f g) : lftS X 0 b r p 0 = W2 (outV u b r p) f g := by
  funext k
  unfold lftS
  rw [upA_a, fillS_a, e]
  by_cases c11 : k = 11
  · subst c11; rfl
  rw [if_neg c11]
  by_cases c12 : k = 12
  · subst c12; rfl
  by_cases c14 : k = 14
  · subst c14; rfl
  unfold fillV W2 outV
  by_cases c18 : k = 18
  · subst c18; rfl
  by_cases c19 : k = 19
  · subst c19; rfl
  simp only [c12, c14, c11, c18, c19, ↓reduceIte]
def CL (σ : Sg) (v : Vw) (pa we t : Int32) (r k : Nat) (X : Sg) : Prop := (∀ s, s ≠ 0 → s ≠ 6 → X s = σ s) ∧ (∀ j, j ≠ 0 → j ≠ 6 → j ≠ 11 → X 6 j = σ 6 j) ∧ (∀ j, j ≠ 9 → X 6 0 j = σ 6 0 j) ∧ X 6 0 9 = nI k ∧ X 0 = W2 (Lu v pa we t r k) (v 18) (v 19) ∧ ∀ i, i < k → X 6 6 i = nI (Lb v pa we t r i)
section Lift
variable {σ : Sg} {v : Vw} {pa we t : Int32} {r : Nat}
theorem near_L (hv : okStore v) (hr : r < vn v) (ePa : σ 6 2 0 = pa) (eWe : σ 6 2 1 = we) (ht : ∀ X : Sg, X 6 10 = σ 6 10 → X 0 0 0 = v 0 0 → fI_tenthsToday X = some t) {k : Nat} (hk : k ≤ cR v r) {X : Sg} (hX : CL σ v pa we t r k X) : fI_tenthsToday X = some t ∧ ∃ g : Nat → Int32, fMelting_nearest X 0 (nI r) t = some (nxI (Lu v pa we t r k) pa we t r, upA X 6 11 g) := by
  obtain ⟨x1, x2, x3, x4, x5, x6⟩ := hX
  have hL := Lu_all hv (pa := pa) (we := we) (t := t) hr k hk
  obtain ⟨gn, gb, gr⟩ := hL.geo
  have hw : okW (W2 (Lu v pa we t r k) (v 18) (v 19)) := W2_w hL.1 (fun b hb => ⟨(hL.2.2.1 b hb).1.symm, (hL.2.2.1 b hb).2.symm⟩)
  have e62 : X 6 2 = σ 6 2 := x2 2 (by omega) (by omega) (by omega)
  refine ⟨ht X (x2 10 (by omega) (by omega) (by omega)) ?_, ?_⟩
  · rw [x5]
    show Lu v pa we t r k 0 0 = _
    rw [hL.2.1 0 (by omega) (by omega) (by omega) (by omega) (by omega)]
  · obtain ⟨g, x, hx, hg⟩ := near_c (σ := X) (a := 0) (by omega) x5 hw (r := r) (show r < vn (Lu v pa we t r k) by rw [gn]; exact hr) t
    rw [e62, ePa, eWe] at hx
    have hx : nxt (Lu v pa we t r k) pa we (wrm (Lu v pa we t r k) t r) r x := hx
    rw [nxI_eq hL.1 (by rw [gn]; exact hr) hx] at hg
    exact ⟨g, hg⟩
theorem liftNext_1 (hv : okStore v) (hr : r < vn v) (ePa : σ 6 2 0 = pa) (eWe : σ 6 2 1 = we) (ht : ∀ X : Sg, X 6 10 = σ 6 10 → X 0 0 0 = v 0 0 → fI_tenthsToday X = some t) {k : Nat} (hk : k < cR v r) {X : Sg} (hX : CL σ v pa we t r k X) : ∃ X' : Sg, fI_liftNext X (nI r) = some (1, X') ∧ CL σ v pa we t r (k + 1) X' := by
  obtain ⟨htt, g, hg⟩ := near_L hv hr ePa eWe ht (by omega) hX
  obtain ⟨x1, x2, x3, x4, x5, x6⟩ := hX
  have hL := Lu_all hv (pa := pa) (we := we) (t := t) hr k (by omega)
  obtain ⟨gn, gb, gr⟩ := hL.geo
  obtain ⟨hL', b1, b2, b3, b4, b5, b6, b7, b8⟩ := Lu_step hv hr hL hk
  have h8 := hv.1.1
  have h3 := hv.2.1.1
  have hvr := vs_le (okS hv hr)
  have hcr := cR_le hv hr
  have hn1 : ¬ nI (Lb v pa we t r k) = -1 := nI_nm1 (by omega)
  have e0 : upA X 6 11 g 0 = W2 (Lu v pa we t r k) (v 18) (v 19) := (upA_o _ _ _ (by omega)).trans x5
  have q9 : upA X 6 11 g 6 0 9 = nI k := by rw [upA_a, if_neg (by omega)]; exact x4
  have q180 : nI k < (180 : Int32) := nI_lt (b := 180) (by omega) (by omega)
  have hlu : fStore_liftUp (upA X 6 11 g) 0 (nI (Lb v pa we t r k)) = some (lftS (upA X 6 11 g) 0 (Lb v pa we t r k) r (plc v (Lb v pa we t r k))) := by
    refine liftUp_eq (n := vb v) ?_ ?_ ?_ ?_ ?_ b1 h3 ?_ ?_
    · rw [e0]; exact hL.1.1
    · rw [e0]; show r < vn (Lu v pa we t r k); rw [gn]; exact hr
    · rw [e0]; exact okS hL.1 (show r < vn (Lu v pa we t r k) by rw [gn]; exact hr)
    · rw [e0]; show _ < vs (Lu v pa we t r k) r; rw [(gr r).2]; exact b7
    · rw [e0]; show Lu v pa we t r k 15 0 = _; rw [hL.1.2.1.2, gb]
    · rw [e0]; exact b4
    · rw [e0]; exact b6
  generalize hM : lftS (upA X 6 11 g) 0 (Lb v pa we t r k) r (plc v (Lb v pa we t r k)) = M at hlu
  have M0 : M 0 = W2 (Lu v pa we t r (k + 1)) (v 18) (v 19) := by rw [← hM]; exact lft_W2 e0
  have Ms : ∀ s, s ≠ 0 → M s = upA X 6 11 g s := fun s hs => by rw [← hM]; exact lftS_o _ hs
  have M9 : M 6 0 9 = nI k := by rw [Ms 6 (by omega)]; exact q9
  have hib : ib (nI k) 180 = true := ib_nI (by omega) (by decide)
  have hcl : (nI k).toNatClampNeg = k := nI_clamp (by omega)
  refine ⟨upA (upA M 6 6 (upd (M 6 6) k (nI (Lb v pa we t r k)))) 6 0 (upd (M 6 0) 9 (nI (k + 1))), ?_, fun s s0 s6 => ?_, fun j j0 j6 j11 => ?_, fun j hj => ?_, ?_, ?_, fun i hi => ?_⟩
  · have f0 : ∀ f : Nat → Int32, upA M 6 6 f 6 0 = M 6 0 := fun f => by rw [upA_a, if_neg (by omega)]
    simp only [fI_liftNext, fI_liftNext_0, htt, hg, b2, bp_s, bi_s, hn1, q9, q180, hlu, M9, hib, hcl, gd_t, lt_v, f0, nI_1, ↓reduceIte]
  · rw [upA_o _ _ _ s6, upA_o _ _ _ s6, Ms s s0, upA_o _ _ _ s6]; exact x1 s s0 s6
  · rw [upA_a, if_neg j0, upA_a, if_neg j6, Ms 6 (by omega), upA_a, if_neg j11]; exact x2 j j0 j6 j11
  · rw [upA_same, upd_r, if_neg hj, Ms 6 (by omega), upA_a, if_neg (by omega)]; exact x3 j hj
  · rw [upA_same, upd_r, if_pos rfl]
  · rw [upA_o _ _ _ (by omega), upA_o _ _ _ (by omega)]; exact M0
  · rw [upA_a, if_neg (by omega), upA_same, upd_r]
    split
    · next z => rw [z]
    · rw [Ms 6 (by omega), upA_a, if_neg (by omega)]; exact x6 i (by omega)
theorem liftNext_0 (hv : okStore v) (hr : r < vn v) (ePa : σ 6 2 0 = pa) (eWe : σ 6 2 1 = we) (ht : ∀ X : Sg, X 6 10 = σ 6 10 → X 0 0 0 = v 0 0 → fI_tenthsToday X = some t) {k : Nat} (hk : k = cR v r) {X : Sg} (hX : CL σ v pa we t r k X) : ∃ X' : Sg, fI_liftNext X (nI r) = some (0, X') ∧ CL σ v pa we t r k X' := by
  obtain ⟨htt, g, hg⟩ := near_L hv hr ePa eWe ht (by omega) hX
  obtain ⟨x1, x2, x3, x4, x5, x6⟩ := hX
  have hL := Lu_all hv (pa := pa) (we := we) (t := t) hr k (by omega)
  obtain ⟨gn, gb, gr⟩ := hL.geo
  have hz := nxt_none hL.1 (by rw [gn]; exact hr) (nxI_sp hL.1 pa we t (show r < vn (Lu v pa we t r k) by rw [gn]; exact hr)) (by have := hL.2.2.2; omega)
  refine ⟨upA X 6 11 g, ?_, fun s s0 s6 => (upA_o _ _ _ s6).trans (x1 s s0 s6), fun j j0 j6 j11 => by rw [upA_a, if_neg j11]; exact x2 j j0 j6 j11, fun j hj => by rw [upA_a, if_neg (by omega)]; exact x3 j hj, by rw [upA_a, if_neg (by omega)]; exact x4, (upA_o _ _ _ (by omega)).trans x5, fun i hi => by rw [upA_a, if_neg (by omega)]; exact x6 i hi⟩
  simp only [fI_liftNext, fI_liftNext_0, htt, hg, hz, bp_s, bi_s, ↓reduceIte]
theorem CL0 (e : σ 0 = v) : CL σ v pa we t r 0 (upA σ 6 0 (upd (σ 6 0) 9 0)) := by
  refine ⟨fun s _ s6 => upA_o _ _ _ s6, fun j j0 _ _ => by rw [upA_a, if_neg j0], fun j hj => by rw [upA_same, upd_r, if_neg hj], by rw [upA_same, upd_r, if_pos rfl]; rfl, ?_, fun i hi => absurd hi (by omega)⟩
  rw [upA_o _ _ _ (by omega), e]
  exact (W2_id v).symm
theorem lift_loop (hv : okStore v) (hr : r < vn v) (ePa : σ 6 2 0 = pa) (eWe : σ 6 2 1 = we) (ht : ∀ X : Sg, X 6 10 = σ 6 10 → X 0 0 0 = v 0 0 → fI_tenthsToday X = some t) {n : Nat} (hn : n ≤ cR v r) (hn3 : n ≤ 300) : ∀ m k f (X : Sg), k + m = n → m < f → CL σ v pa we t r k X → ∃ X' : Sg, fI_lift_21 f X (nI r) (nI n) (nI k) = some (1, X') ∧ CL σ v pa we t r n X' := by
  intro m
  induction m with
  | zero =>
    intro k f X hk hf hX
    obtain ⟨f, rfl⟩ : ∃ j, f = j + 1 := ⟨f - 1, by omega⟩
    have ek : k = n := by omega
    subst ek
    have q : nI k ≤ nI k := nI_le (by omega) (by omega)
    refine ⟨X, ?_, hX⟩
    simp only [fI_lift_21, fI_lift_21_b, q, ↓reduceIte]
  | succ m ih =>
    intro k f X hk hf hX
    obtain ⟨f, rfl⟩ : ∃ j, f = j + 1 := ⟨f - 1, by omega⟩
    have q : ¬ nI n ≤ nI k := nI_ge (by omega) (by omega)
    obtain ⟨X1, h1, h2⟩ := liftNext_1 hv hr ePa eWe ht (show k < cR v r by omega) hX
    obtain ⟨X', h3, h4⟩ := ih (k + 1) f X1 (by omega) (by omega) h2
    refine ⟨X', ?_, h4⟩
    rw [← h3]
    simp only [fI_lift_21, fI_lift_21_b, q, h1, bi_s, lt_v, nI_1, ↓reduceIte]
theorem lift_c (e : σ 0 = v) (hv : okStore v) (hr : r < vn v) (ePa : σ 6 2 0 = pa) (eWe : σ 6 2 1 = we) (ht : ∀ X : Sg, X 6 10 = σ 6 10 → X 0 0 0 = v 0 0 → fI_tenthsToday X = some t) {n : Nat} (hn3 : n ≤ 300) : (n ≤ cR v r → ∃ X : Sg, fI_lift σ (nI r) (nI n) = some (1, X) ∧ CL σ v pa we t r n X) ∧ (¬ n ≤ cR v r → fI_lift σ (nI r) (nI n) = some (0, upA σ 6 0 (upd (σ 6 0) 9 0))) := by
  have e0 : upA σ 6 0 (upd (σ 6 0) 9 0) 0 = v := (upA_o _ _ _ (by omega)).trans e
  have hb := blocksIn_c (σ := upA σ 6 0 (upd (σ 6 0) 9 0)) (a := 0) e0 hv.w (nI r)
  have hb : fStore_blocksIn (upA σ 6 0 (upd (σ 6 0) 9 0)) 0 (nI r) = some (nI (cR v r)) := hb
  have hcv : cR v r ≤ vb v := cntF_le _ _
  have h3 := hv.2.1.1
  constructor
  · intro hn
    obtain ⟨X, h1, h2⟩ := lift_loop hv hr ePa eWe ht hn hn3 n 0 FU (upA σ 6 0 (upd (σ 6 0) 9 0)) (by omega) (by unfold FU; omega) (CL0 e)
    refine ⟨X, ?_, h2⟩
    have q : nI n ≤ nI (cR v r) := nI_le hn (by omega)
    simp only [fI_lift, fI_lift_0, lt_v, hb, bp_s, q, ↓reduceIte]
    exact h1
  · intro hn
    have q : ¬ nI n ≤ nI (cR v r) := nI_ge (by omega) (by omega)
    simp only [fI_lift, fI_lift_0, lt_v, hb, bp_s, q, ↓reduceIte]
end Lift
/-! what was lifted is sold -/
noncomputable def Lf (v : Vw) (pa we t : Int32) (r : Nat) (f : Nat → Int32) : Nat → (Nat → Int32)
  | 0 => f
  | i + 1 => upd (Lf v pa we t r f i) (Lb v pa we t r i) (-1)
theorem Lu_18 (v : Vw) (pa we t : Int32) (r : Nat) : ∀ n, Lu v pa we t r n 18 = Lf v pa we t r (v 18) n ∧ Lu v pa we t r n 19 = Lf v pa we t r (v 19) n
  | 0 => ⟨rfl, rfl⟩
  | n + 1 => by
    obtain ⟨h1, h2⟩ := Lu_18 v pa we t r n
    refine ⟨?_, ?_⟩
    · show upd (Lu v pa we t r n 18) (Lb v pa we t r n) (-1) = _
      rw [h1]; rfl
    · show upd (Lu v pa we t r n 19) (Lb v pa we t r n) (-1) = _
      rw [h2]; rfl
def sldV (u : Vw) (s : Int32) : Vw := fun k => if k = 0 then upd (u 0) 2 (u 0 2 + s) else u k
theorem sell_loop {X : Sg} {v : Vw} {pa we t : Int32} {r n : Nat} (hv : okStore v) (hr : r < vn v) (hn : n ≤ cR v r) (x4 : X 6 0 9 = nI n) (x6 : ∀ i, i < n → X 6 6 i = nI (Lb v pa we t r i)) : ∀ m i f (Z : Sg) (x : Int32), i + m = n → m < f → (∀ s, s ≠ 0 → s ≠ 6 → Z s = X s) → (∀ j, j ≠ 7 → Z 6 j = X 6 j) → Z 0 = W2 (Lu v pa we t r n) (Lf v pa we t r (v 18) i) (Lf v pa we t r (v 19) i) → (∀ j, j < i → Z 6 7 j = nI (Lb v pa we t r j)) → x = sumF (fun j => v 17 (Lb v pa we t r j)) i → ∃ Z' : Sg, fI_sellLifted_4 f Z x (nI i) = some (sumF (fun j => v 17 (Lb v pa we t r j)) n, Z') ∧ (∀ s, s ≠ 0 → s ≠ 6 → Z' s = X s) ∧ (∀ j, j ≠ 0 → j ≠ 7 → Z' 6 j = X 6 j) ∧ (∀ j, j ≠ 10 → Z' 6 0 j = X 6 0 j) ∧ Z' 6 0 10 = nI n ∧ (∀ j, j < n → Z' 6 7 j = nI (Lb v pa we t r j)) ∧ Z' 0 = sldV (Lu v pa we t r n) (sumF (fun j => v 17 (Lb v pa we t r j)) n) := by
  have hcr := cR_le hv hr
  have hvr := vs_le (okS hv hr)
  have h3 := hv.2.1.1
  have hL := Lu_all hv (pa := pa) (we := we) (t := t) hr n hn
  intro m
  induction m with
  | zero =>
    intro i f Z x hi hf z1 z2 z3 z4 hx
    obtain ⟨f, rfl⟩ : ∃ j, f = j + 1 := ⟨f - 1, by omega⟩
    have ei : i = n := by omega
    subst ei
    have e9 : Z 6 0 9 = nI i := by rw [z2 0 (by omega)]; exact x4
    have q : nI i ≤ nI i := nI_le (by omega) (by omega)
    have e60 : Z 6 0 = X 6 0 := z2 0 (by omega)
    refine ⟨upA (upA Z 6 0 (upd (X 6 0) 10 (nI i))) 0 0 (upd (Z 0 0) 2 (Z 0 0 2 + x)), ?_, fun s s0 s6 => ?_, fun j j0 j7 => ?_, fun j hj => ?_, ?_, fun j hj => ?_, ?_⟩
    · have f0 : ∀ g : Nat → Int32, upA Z 6 0 g 0 = Z 0 := fun g => upA_o _ _ _ (by omega)
      simp only [fI_sellLifted_4, fI_sellLifted_4_b, e9, q, lt_v, f0, e60, ↓reduceIte]
      rw [hx]
    · rw [upA_o _ _ _ s0, upA_o _ _ _ s6]; exact z1 s s0 s6
    · rw [upA_o _ _ _ (by omega), upA_a, if_neg j0]; exact z2 j j7
    · rw [upA_o _ _ _ (by omega), upA_same, upd_r, if_neg hj]
    · rw [upA_o _ _ _ (by omega), upA_same, upd_r, if_pos rfl]
    · rw [upA_o _ _ _ (by omega), upA_a, if_neg (by omega)]; exact z4 j hj
    · obtain ⟨l1, l2⟩ := Lu_18 v pa we t r i
      have z3' : Z 0 = Lu v pa we t r i := by rw [z3, ← l1, ← l2]; exact W2_id _
      funext k
      rw [upA_a, upA_o _ _ _ (by omega), z3', hx]
      rfl
  | succ m ih =>
    intro i f Z x hi hf z1 z2 z3 z4 hx
    obtain ⟨f, rfl⟩ : ∃ j, f = j + 1 := ⟨f - 1, by omega⟩
    have hin : i < n := by omega
    have e9 : Z 6 0 9 = nI n := by rw [z2 0 (by omega)]; exact x4
    have q : ¬ nI n ≤ nI i := nI_ge hin (by omega)
    have hib : ib (nI i) 180 = true := ib_nI (by omega) (by decide)
    have hcl : (nI i).toNatClampNeg = i := nI_clamp (by omega)
    obtain ⟨-, b1, -⟩ := Lu_step hv hr (Lu_all hv (pa := pa) (we := we) (t := t) hr i (by omega)) (show i < cR v r by omega)
    have e66 : Z 6 6 i = nI (Lb v pa we t r i) := by rw [z2 6 (by omega)]; exact x6 i hin
    have hib2 : ib (nI (Lb v pa we t r i)) 300 = true := ib_nI (by omega) (by decide)
    have hcl2 : (nI (Lb v pa we t r i)).toNatClampNeg = Lb v pa we t r i := nI_clamp (by omega)
    have e17 : Z 0 17 = v 17 := by
      rw [z3]
      show Lu v pa we t r n 17 = _
      exact hL.2.1 17 (by omega) (by omega) (by omega) (by omega) (by omega)
    have e18 : Z 0 18 = Lf v pa we t r (v 18) i := by rw [z3]; rfl
    have e19 : Z 0 19 = Lf v pa we t r (v 19) i := by rw [z3]; rfl
    have hlv : fBlocks_leave Z 0 (nI (Lb v pa we t r i)) = some (upA (upA Z 0 18 (Lf v pa we t r (v 18) (i + 1))) 0 19 (Lf v pa we t r (v 19) (i + 1))) := by
      simp only [fBlocks_leave, fBlocks_leave_0, hib2, hcl2, gd_t, lt_v, e18, upA_a, e19, show ¬ (19 : Nat) = 18 by omega, ↓reduceIte, Lf]
    obtain ⟨Z', h1, h2⟩ := ih (i + 1) f (upA (upA (upA Z 0 18 (Lf v pa we t r (v 18) (i + 1))) 0 19 (Lf v pa we t r (v 19) (i + 1))) 6 7 (upd (Z 6 7) i (nI (Lb v pa we t r i)))) (x + v 17 (Lb v pa we t r i)) (by omega) (by omega) (fun s s0 s6 => by rw [upA_o _ _ _ s6, upA_o _ _ _ s0, upA_o _ _ _ s0]; exact z1 s s0 s6) (fun j hj => by rw [upA_a, if_neg hj, upA_o _ _ _ (by omega), upA_o _ _ _ (by omega)]; exact z2 j hj) (by
        funext k
        rw [upA_o _ _ _ (by omega), upA_a, upA_a, z3]
        unfold W2
        by_cases c19 : k = 19
        · subst c19; rfl
        · rw [if_neg c19]
          by_cases c18 : k = 18
          · subst c18; rfl
          · rw [if_neg c18, if_neg c18, if_neg c18, if_neg c19, if_neg c19]) (fun j hj => by
        rw [upA_same, upd_r]
        split
        · next z => rw [z]
        · exact z4 j (by omega)) (by rw [hx]; rfl)
    refine ⟨Z', ?_, h2⟩
    rw [← h1]
    have f67 : ∀ g h : Nat → Int32, upA (upA Z 0 18 g) 0 19 h 6 = Z 6 := fun g h => by rw [upA_o _ _ _ (by omega), upA_o _ _ _ (by omega)]
    simp only [fI_sellLifted_4, fI_sellLifted_4_b, e9, q, hib, hcl, gd_t, lt_v, e66, hib2, hcl2, e17, hlv, bp_s, f67, nI_1, ↓reduceIte]
theorem sell_c {X : Sg} {v : Vw} {pa we t : Int32} {r n : Nat} (hv : okStore v) (hr : r < vn v) (hn : n ≤ cR v r) (x4 : X 6 0 9 = nI n) (x5 : X 0 = W2 (Lu v pa we t r n) (v 18) (v 19)) (x6 : ∀ i, i < n → X 6 6 i = nI (Lb v pa we t r i)) : ∃ Z' : Sg, fI_sellLifted X = some (sumF (fun j => v 17 (Lb v pa we t r j)) n, Z') ∧ (∀ s, s ≠ 0 → s ≠ 6 → Z' s = X s) ∧ (∀ j, j ≠ 0 → j ≠ 7 → Z' 6 j = X 6 j) ∧ (∀ j, j ≠ 10 → Z' 6 0 j = X 6 0 j) ∧ Z' 6 0 10 = nI n ∧ (∀ j, j < n → Z' 6 7 j = nI (Lb v pa we t r j)) ∧ Z' 0 = sldV (Lu v pa we t r n) (sumF (fun j => v 17 (Lb v pa we t r j)) n) := by
  have hcr := cR_le hv hr
  have hvr := vs_le (okS hv hr)
  exact sell_loop hv hr hn x4 x6 n 0 FU X 0 (by omega) (by unfold FU; omega) (fun _ _ _ => rfl) (fun _ _ => rfl) x5 (fun j hj => absurd hj (by omega)) rfl
