/-! a day: what it does to one block, and to all of them, one behind the other -/
theorem upd_upd (f : Nat → Int32) (k : Nat) (x y : Int32) : upd (upd f k x) k y = upd f k y := by
  funext j
  unfold upd
  split <;> rfl
def s17 (u : Vw) (b : Nat) (x : Int32) : Vw := fun k => if k = 17 then upd (u 17) b x else u k
def sLed (u : Vw) (dr : Bool) (r : Nat) (L : Int32) : Vw := fun k => if k = 9 then (if dr = true then upd (u 9) r (u 9 r + L) else u 9) else if k = 10 then (if dr = true then u 10 else upd (u 10) r (u 10 r + L)) else u k
def gonV (u : Vw) (x : Int32) : Vw := fun k => if k = 0 then upd (u 0) 4 (u 0 4 + x) else u k
def dayB (u : Vw) (dr : Bool) (L le : Int32) (b r p : Nat) : Vw := if le ≤ u 17 b - L then s17 (sLed u dr r L) b (u 17 b - L) else outV (gonV (s17 (sLed u dr r L) b 0) (u 17 b - L)) b r p
theorem okStore_led {u : Vw} (h : okStore u) (dr : Bool) (r : Nat) (L : Int32) : okStore (sLed u dr r L) := by
  obtain ⟨h1, h2, h3, h4, h5, h6, h7, h8⟩ := h
  exact ⟨h1, h2, h3, h4, h5, h6, h7, h8⟩
theorem okStore_gon {u : Vw} (h : okStore u) (x : Int32) : okStore (gonV u x) := by
  obtain ⟨h1, h2, h3, h4, h5, h6, h7, h8⟩ := h
  exact ⟨h1, h2, h3, h4, h5, h6, h7, h8⟩
theorem okStore_17 {u : Vw} (h : okStore u) (b : Nat) {x : Int32} (hx : ∃ g : Nat, g ≤ 1000000 ∧ x = nI g) : okStore (s17 u b x) := by
  obtain ⟨h1, h2, h3, h4, h5, h6, h7, h8⟩ := h
  refine ⟨h1, h2, h3, h4, h5, fun c hc => ?_, h7, h8⟩
  obtain ⟨b1, b2, b3⟩ := h6 c hc
  refine ⟨b1, ?_, b3⟩
  show ∃ g : Nat, g ≤ 1000000 ∧ upd (u 17) b x c = nI g
  rw [upd_r]
  split
  · exact hx
  · exact b2
theorem Rm_led {τ : Sg} {u : Vw} (h : okStore u) (hm : Rm 0 u (τ 7)) {r : Nat} (dr : Bool) (L : Int32) (hr : r < vn u) : Rm 0 (sLed u dr r L) ((if dr = true then upA τ 7 15 (upd (τ 7 15) r (τ 7 15 r + L)) else upA τ 7 16 (upd (τ 7 16) r (τ 7 16 r + L))) 7) := by
  have m7 := hm.2.2.1 r hr
  rw [show 8 * 0 + r = r by omega] at m7
  obtain ⟨-, -, -, -, -, m6, m7⟩ := m7
  obtain ⟨a, b', c, d, e, f⟩ := hm
  cases dr with
  | true =>
    refine ⟨a, b', fun q hq => ?_, d, e, f⟩
    have := c q hq
    rw [show 8 * 0 + q = q by omega] at this ⊢
    obtain ⟨c1, c2, c3, c4, c5, c6, c7⟩ := this
    refine ⟨c1, c2, c3, c4, c5, ?_, c7⟩
    show upd (τ 7 15) r (τ 7 15 r + L) q = upd (u 9) r (u 9 r + L) q
    rw [upd_r, upd_r, c6, m6]
  | false =>
    refine ⟨a, b', fun q hq => ?_, d, e, f⟩
    have := c q hq
    rw [show 8 * 0 + q = q by omega] at this ⊢
    obtain ⟨c1, c2, c3, c4, c5, c6, c7⟩ := this
    refine ⟨c1, c2, c3, c4, c5, c6, ?_⟩
    show upd (τ 7 16) r (τ 7 16 r + L) q = upd (u 10) r (u 10 r + L) q
    rw [upd_r, upd_r, c7, m7]
theorem Rm_17 {τ : Sg} {u : Vw} (hm : Rm 0 u (τ 7)) (b : Nat) (x : Int32) : Rm 0 (s17 u b x) (upA τ 7 20 (upd (τ 7 20) b x) 7) := by
  obtain ⟨a, b', c, d, e, f⟩ := hm
  refine ⟨a, b', c, d, e, fun k hk => ?_⟩
  have := f k hk
  rw [show 300 * 0 + k = k by omega] at this ⊢
  obtain ⟨f1, f2, f3, f4, f5, f6⟩ := this
  refine ⟨f1, ?_, f3, f4, f5, f6⟩
  show upd (τ 7 20) b x k = upd (u 17) b x k
  rw [upd_r, upd_r, f2]
theorem Rm_gon {τ : Sg} {u : Vw} (hm : Rm 0 u (τ 7)) (x : Int32) : Rm 0 (gonV u x) (upA τ 7 9 (upd (τ 7 9) 3 (τ 7 9 3 + x)) 7) := by
  obtain ⟨a, ⟨b1, b2, b3, b4⟩, c, d, e, f⟩ := hm
  refine ⟨a, ⟨b1, b2, b3, ?_⟩, c, d, e, f⟩
  show τ 7 9 3 + x = u 0 4 + x
  rw [show τ 7 9 3 = u 0 4 from b4]
theorem gon17 (u : Vw) (b : Nat) (x : Int32) : s17 (gonV (s17 u b x) x) b 0 = gonV (s17 u b 0) x := by
  funext k
  unfold s17 gonV
  by_cases c17 : k = 17
  · subst c17
    show upd (upd (u 17) b x) b 0 = upd (u 17) b 0
    exact upd_upd _ _ _ _
  · rw [if_neg c17]
    by_cases c0 : k = 0
    · subst c0; rfl
    · simp only [c17, c0, ↓reduceIte]
/-! the class: one block loses -/
theorem lose_c {σ : Sg} {a : Nat} {u : Vw} (ha : a ≠ 6) (e : σ a = u) (h : okStore u) {b r p : Nat} (hb : b < vb u) (hr : r < vn u) (hp : p < vs u r) (e1 : u 18 b = nI r) (e2 : u 19 b = nI p) {L le : Int32} (eL : σ 6 12 b = L) (ele : σ 6 2 2 = le) : ∃ σ' : Sg, fMelting_lose σ a (nI b) = some σ' ∧ σ' a = dayB u (drn u r p) L le b r p ∧ ∀ s, s ≠ a → σ' s = σ s := by
  have h3 := h.2.1.1
  have h8 := h.1.1
  have hib : ib (nI b) 300 = true := ib_nI (by omega) (by decide)
  have hcl : (nI b).toNatClampNeg = b := nI_clamp (by omega)
  have hb8 : ib (nI r) 8 = true := ib_nI (by omega) (by decide)
  have hc8 : (nI r).toNatClampNeg = r := nI_clamp (by omega)
  have k1 : ¬ (1 : Int32) = 0 := by decide
  -- led or standing
  obtain ⟨σ1, hs1, ha1, ho1⟩ : ∃ σ1 : Sg, fMelting_lose σ a (nI b) = fMelting_lose_76 σ1 a (nI b) ∧ σ1 a = sLed u (drn u r p) r L ∧ ∀ s, s ≠ a → σ1 s = σ s := by
    cases hd : drn u r p with
    | true =>
      refine ⟨upA σ a 9 (upd (u 9) r (u 9 r + L)), ?_, ?_, fun s hs => upA_o _ _ _ hs⟩
      · simp only [fMelting_lose, fMelting_lose_0, hib, hcl, gd_t, lt_v, e, e1, e2, drained_c e h.w hr hp, hd, bp_s, k1, hb8, hc8, eL, ↓reduceIte]
      · funext k
        rw [upA_a, e]
        unfold sLed
        by_cases c9 : k = 9
        · rw [if_pos c9, if_pos c9, if_pos rfl]
        · rw [if_neg c9, if_neg c9]
          by_cases c10 : k = 10
          · rw [if_pos c10, if_pos rfl, c10]
          · rw [if_neg c10]
    | false =>
      refine ⟨upA σ a 10 (upd (u 10) r (u 10 r + L)), ?_, ?_, fun s hs => upA_o _ _ _ hs⟩
      · simp only [fMelting_lose, fMelting_lose_0, hib, hcl, gd_t, lt_v, e, e1, e2, drained_c e h.w hr hp, hd, bp_s, hb8, hc8, eL, Bool.false_eq_true, ↓reduceIte]
      · funext k
        rw [upA_a, e]
        unfold sLed
        by_cases c10 : k = 10
        · rw [if_pos c10, if_neg (by omega), if_pos c10, if_neg (by decide)]
        · rw [if_neg c10]
          by_cases c9 : k = 9
          · rw [if_pos c9, if_neg (by decide), c9]
          · rw [if_neg c9, if_neg c10]
  have e16 : σ1 6 = σ 6 := ho1 6 (fun z => ha z.symm)
  have e17 : σ1 a 17 = u 17 := by rw [ha1]; rfl
  rw [hs1]
  by_cases c : le ≤ u 17 b - L
  · refine ⟨upA σ1 a 17 (upd (u 17) b (u 17 b - L)), ?_, ?_, fun s hs => (upA_o _ _ _ hs).trans (ho1 s hs)⟩
    · have e62 : ∀ f, upA σ1 a 17 f 6 2 2 = le := fun f => by rw [upA_o _ _ _ (fun z => ha z.symm), e16, ele]
      simp only [fMelting_lose_76, fMelting_leftOf, fMelting_leftOf_0, hib, hcl, gd_t, lt_v, e17, e16, eL, ele, c, bp_s, e62, ↓reduceIte]
    · unfold dayB
      rw [if_pos c]
      funext k
      rw [upA_a, ha1]
      unfold s17
      rfl
  · have hlok : okStore (gonV (s17 (sLed u (drn u r p) r L) b 0) (u 17 b - L)) := okStore_gon (okStore_17 (okStore_led h _ _ _) b ⟨0, by omega, rfl⟩) _
    have hA : (upA (upA σ1 a 17 (upd (u 17) b 0)) a 0 (upd (σ1 a 0) 4 (σ1 a 0 4 + (u 17 b - L)))) a = gonV (s17 (sLed u (drn u r p) r L) b 0) (u 17 b - L) := by
      funext k
      rw [upA_a]
      by_cases c0 : k = 0
      · rw [if_pos c0, c0, ha1]; rfl
      · rw [if_neg c0, upA_a, ha1]
        unfold gonV s17
        rw [if_neg c0]
        rfl
    have e0 : upA σ1 a 17 (upd (u 17) b 0) a 0 = σ1 a 0 := by rw [upA_a, if_neg (by omega)]
    generalize hR : upA (upA σ1 a 17 (upd (u 17) b 0)) a 0 (upd (σ1 a 0) 4 (σ1 a 0 4 + (u 17 b - L))) = R at hA
    have hRo : ∀ s, s ≠ a → R s = σ s := fun s hs => by rw [← hR, upA_o _ _ _ hs, upA_o _ _ _ hs, ho1 s hs]
    have hN : okN (R a) := by rw [hA]; exact hlok.1
    have hl : fStore_liftUp R a (nI b) = some (lftS R a b r p) := by
      refine liftUp_eq (n := vb u) hN ?_ ?_ ?_ ?_ hb h3 ?_ ?_
      · rw [hA]; exact hr
      · rw [hA]; exact okS hlok hr
      · rw [hA]; exact hp
      · rw [hA]; exact h.2.1.2
      · rw [hA]; exact e1
      · rw [hA]; exact e2
    refine ⟨levS R a b r p, ?_, ?_, fun s hs => (levS_o R hs).trans (hRo s hs)⟩
    · have e62 : ∀ f, upA σ1 a 17 f 6 2 2 = le := fun f => by rw [upA_o _ _ _ (fun z => ha z.symm), e16, ele]
      simp only [fMelting_lose_76, fMelting_leftOf, fMelting_leftOf_0, hib, hcl, gd_t, lt_v, e17, e16, eL, ele, c, bp_s, e62, e0, hR, hl, leave_eq (show b < 300 by omega), ↓reduceIte]
    · rw [levS_a, hA]
      unfold dayB
      rw [if_neg c]
/-! all blocks -/
def rmb (v : Vw) (b : Nat) : Nat := (v 18 b).toNatClampNeg
def Ud (v : Vw) (L : Nat → Int32) (le : Int32) : Nat → Vw
  | 0 => v
  | i + 1 => if v 18 i = -1 then Ud v L le i else dayB (Ud v L le i) (drn v (rmb v i) (plc v i)) (L i) le i (rmb v i) (plc v i)
def UI (v : Vw) (i : Nat) (u : Vw) : Prop := okStore u ∧ (∀ k, k ≠ 0 → k ≠ 9 → k ≠ 10 → k ≠ 11 → k ≠ 12 → k ≠ 14 → k ≠ 17 → k ≠ 18 → k ≠ 19 → u k = v k) ∧ (∀ c, i ≤ c → u 18 c = v 18 c ∧ u 19 c = v 19 c ∧ u 17 c = v 17 c) ∧ (∀ r p, p < 180 → (vc u r p = 2 ↔ vc v r p = 2)) ∧ ∀ j, j ≠ 4 → u 0 j = v 0 j
theorem UI.geo {v u : Vw} {i : Nat} (h : UI v i u) : vn u = vn v ∧ vb u = vb v ∧ ∀ r, vf u r = vf v r ∧ vs u r = vs v r := by
  obtain ⟨-, hk, -⟩ := h
  have g : ∀ k, k ≠ 0 → k ≠ 9 → k ≠ 10 → k ≠ 11 → k ≠ 12 → k ≠ 14 → k ≠ 17 → k ≠ 18 → k ≠ 19 → u k = v k := hk
  refine ⟨by unfold vn; rw [g 1 (by omega) (by omega) (by omega) (by omega) (by omega) (by omega) (by omega) (by omega) (by omega)], by unfold vb; rw [g 15 (by omega) (by omega) (by omega) (by omega) (by omega) (by omega) (by omega) (by omega) (by omega)], fun r => ?_⟩
  unfold vf vs vw vy vz
  rw [g 3 (by omega) (by omega) (by omega) (by omega) (by omega) (by omega) (by omega) (by omega) (by omega), g 4 (by omega) (by omega) (by omega) (by omega) (by omega) (by omega) (by omega) (by omega) (by omega), g 5 (by omega) (by omega) (by omega) (by omega) (by omega) (by omega) (by omega) (by omega) (by omega)]
  exact ⟨rfl, rfl⟩
theorem UI.dr {v u : Vw} {i : Nat} (h : UI v i u) (hv : okStore v) {r p : Nat} (hr : r < vn v) (hp : p < vs v r) : drn u r p = drn v r p := by
  obtain ⟨-, -, gr⟩ := h.geo
  have hc := h.2.2.2.1
  have hvv := vs_le (okS hv hr)
  have e1 : dnF u r = dnF v r := by
    unfold dnF
    rw [(gr r).1]
    refine cntF_cong (fun q hq => decide_eq_decide.mpr (hc r q (by omega)))
  have e2 : ∀ n, colD u r p n = colD v r p n := fun n => by
    induction n with
    | zero => rfl
    | succ n ih =>
      unfold colD
      rw [ih, (gr r).1]
      congr 1
      exact decide_eq_decide.mpr ⟨fun z => ⟨z.1, (hc r _ (by omega)).mp z.2⟩, fun z => ⟨z.1, (hc r _ (by omega)).mpr z.2⟩⟩
  show (!decide (dnF u r = 0) || colD u r p 4) = (!decide (dnF v r = 0) || colD v r p 4)
  rw [e1, e2]
