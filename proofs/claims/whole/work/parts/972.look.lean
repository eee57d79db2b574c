/-! the six sides, looked at by the class and by the reference; okW: what a store keeps while blocks are lifted -/
def okW (v : Vw) : Prop := okN v ∧ (vb v ≤ 300 ∧ v 15 0 = nI (vb v)) ∧ (∀ r, r < vn v → okRoom v r) ∧ (∀ r, r < vn v → ∀ p, p < vs v r → okCell v r p) ∧ ∀ r, r < vn v → v 12 r = nI (cntF (fun p => decide (vc v r p = 2)) (vf v r))
theorem okStore.w {v : Vw} (h : okStore v) : okW v := ⟨h.1, h.2.1, h.2.2.2.1, h.2.2.2.2.1, h.2.2.2.2.2.2.2⟩
theorem at_farG {σ : Sg} {a : Nat} (h : okN (σ a)) {r : Nat} {x : Int32} (hr : r < vn (σ a)) (hk : okRoom (σ a) r) (hp : x < 0 ∨ nI (vs (σ a) r) ≤ x) : fRooms_at σ a (nI r) x = some 0 := by
  have h8 := h.1
  obtain ⟨-, -, -, -, -, -, e7, e8, -⟩ := hk
  have hb : ib (nI r) 8 = true := ib_nI (by omega) (by decide)
  have hc : (nI r).toNatClampNeg = r := nI_clamp (by omega)
  have q1 : ¬ nI r < 0 := nI_pos (by omega)
  have q3 : ¬ nI (vn (σ a)) ≤ nI r := nI_ge hr (by omega)
  by_cases c : x < 0
  · simp only [fRooms_at, fRooms_at_0, fRooms_at_30, fRooms_at_31, h.2, q1, q3, c, ↓reduceIte]
  · have q4 : nI (vs (σ a) r) ≤ x := hp.resolve_left c
    simp only [fRooms_at, fRooms_at_0, fRooms_at_30, fRooms_at_31, h.2, q1, q3, c, q4, hb, hc, e8, gd_t, ↓reduceIte]
theorem side_q {τ : Sg} {a : Nat} {v : Vw} (e : τ a = v) (h : okN v) {r p s : Nat} (hr : r < vn v) (hk : okRoom v r) (hp : p < vs v r) (hs : s < 6) : ∃ q, fI_beside τ (nI s) (nI p) (v 3 r) (v 4 r) (v 5 r) = some q ∧ fRooms_at τ a (nI r) q = some (sd v r p s) := by
  subst e
  have hv := vs_le hk
  have hk' := hk
  obtain ⟨-, ⟨w1, w2, ew⟩, ⟨y1, y2, ey⟩, ⟨z1, z2, ez⟩, -⟩ := hk
  refine ⟨nbI (nb6 (vw (τ a) r) (vy (τ a) r) (vz (τ a) r) p s), by rw [ew, ey, ez, beside_eq w1 w2 y1 y2 z1 z2 (by omega) hs], ?_⟩
  unfold sd
  cases hn : nb6 (vw (τ a) r) (vy (τ a) r) (vz (τ a) r) p s with
  | none => exact at_farG h hr hk' (Or.inl (by decide))
  | some q => exact at_inG h hr hk' (nb6_lt w1 y1 hp hn)
def isA (v : Vw) (r p s : Nat) : Bool := decide (¬ sd v r p s = 1 ∧ ¬ 10 ≤ sd v r p s)
def isT (v : Vw) (r p s : Nat) : Bool := decide (sd v r p s = 1)
def isX (v : Vw) (r p s : Nat) : Bool := decide (10 ≤ sd v r p s ∧ v 16 ((sd v r p s).toNatClampNeg - 10) = 2)
def nAir (v : Vw) (r p : Nat) : Nat := cntF (isA v r p) 6
def nStr (v : Vw) (r p : Nat) : Nat := cntF (isT v r p) 6
def bySl (v : Vw) (r p : Nat) : Prop := 0 < cntF (isX v r p) 6
theorem sd_blk {v : Vw} (h : okW v) {r p s : Nat} (hr : r < vn v) (hp : p < vs v r) (hs : 10 ≤ sd v r p s) : ∃ b, b < vb v ∧ sd v r p s = nI (10 + b) := by
  obtain ⟨-, -, hk, hc, -⟩ := h
  have hk := hk r hr
  have k0 : ¬ (10 : Int32) ≤ 0 := by decide
  have k1 : ¬ (10 : Int32) ≤ 1 := by decide
  have k2 : ¬ (10 : Int32) ≤ 2 := by decide
  unfold sd at hs ⊢
  cases hn : nb6 (vw v r) (vy v r) (vz v r) p s with
  | none => rw [hn] at hs; exact absurd hs k0
  | some q =>
    rw [hn] at hs
    show ∃ b, b < vb v ∧ vc v r q = nI (10 + b)
    have hs : (10 : Int32) ≤ vc v r q := hs
    rcases hc r hr q (nb6_lt hk.2.1.1 hk.2.2.1.1 hp hn) with o | o | o | ⟨b, o1, o2, -⟩
    · rw [o] at hs; exact absurd hs k0
    · rw [o] at hs; exact absurd hs k1
    · rw [o] at hs; exact absurd hs k2
    · exact ⟨b, o1, o2⟩
theorem cnt_s (P : Nat → Bool) (i : Nat) : cntF P (i + 1) = cntF P i + if P i then 1 else 0 := rfl
theorem look_loop {σ : Sg} {a : Nat} {v : Vw} (ha : a ≠ 6) (e : σ a = v) (h : okW v) {r p : Nat} (hr : r < vn v) (hp : p < vs v r) : ∀ m i n (f : Nat → Int32), i + m = 6 → m < n → f 0 = nI (cntF (isA v r p) i) → f 1 = nI (cntF (isT v r p) i) → f 2 = (if 0 < cntF (isX v r p) i then 1 else 0) → ∃ g : Nat → Int32, fSides_look_24 n (upA σ 6 11 f) a (nI r) (nI p) (nI i) = some (upA σ 6 11 g) ∧ g 0 = nI (nAir v r p) ∧ g 1 = nI (nStr v r p) ∧ g 2 = (if 0 < cntF (isX v r p) 6 then 1 else 0) := by
  have h8 := h.1.1
  have hb : ib (nI r) 8 = true := ib_nI (by omega) (by decide)
  have hc : (nI r).toNatClampNeg = r := nI_clamp (by omega)
  have isb1 : isb 1 = true := by decide
  intro m
  induction m with
  | zero =>
    intro i n f hi hn f0 f1 f2
    obtain ⟨n, rfl⟩ : ∃ k, n = k + 1 := ⟨n - 1, by omega⟩
    have ei : i = 6 := by omega
    subst ei
    have q : (6 : Int32) ≤ nI 6 := by decide
    refine ⟨f, ?_, f0, f1, f2⟩
    simp only [fSides_look_24, fSides_look_24_b, q, ↓reduceIte]
  | succ m ih =>
    intro i n f hi hn f0 f1 f2
    obtain ⟨n, rfl⟩ : ∃ k, n = k + 1 := ⟨n - 1, by omega⟩
    have q : ¬ (6 : Int32) ≤ nI i := nI_ge (b := 6) (by omega) (by decide)
    have ea : upA σ 6 11 f a = v := (upA_o σ 11 f ha).trans e
    obtain ⟨y, hy, hat⟩ := side_q ea h.1 hr (h.2.2.1 r hr) hp (show i < 6 by omega)
    by_cases c1 : sd v r p i = 1
    · obtain ⟨g, hg, g1⟩ := ih (i + 1) n (upd f 1 (f 1 + 1)) (by omega) (by omega) (by
        rw [upd_r, if_neg (by omega), f0, cnt_s, show isA v r p i = false from decide_eq_false (fun x => x.1 c1)]; rfl) (by
        rw [upd_r, if_pos rfl, f1, cnt_s, show isT v r p i = true from decide_eq_true c1, nI_1]; rfl) (by
        rw [upd_r, if_neg (by omega), f2, cnt_s, show isX v r p i = false from decide_eq_false (fun x => absurd x.1 (by rw [c1]; decide))]; rfl)
      refine ⟨g, ?_, g1⟩
      rw [← hg]
      simp only [fSides_look_24, fSides_look_24_b, fSides_look_129, q, hb, hc, gd_t, ea, hy, bp_s, hat, c1, lt_v, upA_upA, upA_same, nI_1, ↓reduceIte]
    · by_cases c2 : 10 ≤ sd v r p i
      · obtain ⟨b, b1, b2⟩ := sd_blk h hr hp c2
        have b3 := h.2.1.1
        have es : fBlocks_isSalt (upA σ 6 11 f) a (sd v r p i - 10) = some (slt (v 16 b)) := by
          have : sd v r p i - 10 = nI b := by
            rw [b2]
            show nI (10 + b) - nI 10 = nI b
            rw [pk_sub (by omega)]
            congr 1
            omega
          rw [this, ← ea]
          exact isSalt_eq (n := vb v) (by rw [ea]; exact h.2.1.2) b1 b3
        have ex : isX v r p i = decide (v 16 b = 2) := by
          unfold isX
          rw [b2, nI_clamp (by omega), show 10 + b - 10 = b by omega]
          rw [b2] at c2
          simp only [c2, true_and]
        have nA : isA v r p i = false := decide_eq_false (fun x => x.2 c2)
        have nT : isT v r p i = false := decide_eq_false c1
        by_cases c3 : v 16 b = 2
        · have e1 : slt (v 16 b) = 1 := if_pos c3
          have ex1 : isX v r p i = true := ex.trans (decide_eq_true c3)
          obtain ⟨g, hg, g1⟩ := ih (i + 1) n (upd f 2 1) (by omega) (by omega) (by
            rw [upd_r, if_neg (by omega), f0, cnt_s, nA]; rfl) (by
            rw [upd_r, if_neg (by omega), f1, cnt_s, nT]; rfl) (by
            rw [upd_r, if_pos rfl, cnt_s, ex1, if_pos (by simp)])
          refine ⟨g, ?_, g1⟩
          rw [← hg]
          simp only [fSides_look_24, fSides_look_24_b, fSides_look_129, q, hb, hc, gd_t, ea, hy, bp_s, hat, c1, c2, es, e1, show ¬ (1 : Int32) = 0 by decide, isb1, lt_v, upA_upA, upA_same, nI_1, ↓reduceIte]
        · have e1 : slt (v 16 b) = 0 := if_neg c3
          have ex1 : isX v r p i = false := ex.trans (decide_eq_false c3)
          obtain ⟨g, hg, g1⟩ := ih (i + 1) n f (by omega) (by omega) (by
            rw [f0, cnt_s, nA]; rfl) (by
            rw [f1, cnt_s, nT]; rfl) (by
            rw [f2, cnt_s, ex1]; rfl)
          refine ⟨g, ?_, g1⟩
          rw [← hg]
          simp only [fSides_look_24, fSides_look_24_b, fSides_look_129, q, hb, hc, gd_t, ea, hy, bp_s, hat, c1, c2, es, e1, lt_v, nI_1, ↓reduceIte]
      · have nA : isA v r p i = true := decide_eq_true ⟨c1, c2⟩
        have nT : isT v r p i = false := decide_eq_false c1
        have ex1 : isX v r p i = false := decide_eq_false (fun x => c2 x.1)
        obtain ⟨g, hg, g1⟩ := ih (i + 1) n (upd f 0 (f 0 + 1)) (by omega) (by omega) (by
          rw [upd_r, if_pos rfl, f0, cnt_s, nA, nI_1]; rfl) (by
          rw [upd_r, if_neg (by omega), f1, cnt_s, nT]; rfl) (by
          rw [upd_r, if_neg (by omega), f2, cnt_s, ex1]; rfl)
        refine ⟨g, ?_, g1⟩
        rw [← hg]
        simp only [fSides_look_24, fSides_look_24_b, fSides_look_129, q, hb, hc, gd_t, ea, hy, bp_s, hat, c1, c2, lt_v, upA_upA, upA_same, nI_1, ↓reduceIte]
theorem look_eq {σ : Sg} {a : Nat} {v : Vw} (ha : a ≠ 6) (e : σ a = v) (h : okW v) {r p : Nat} (hr : r < vn v) (hp : p < vs v r) : ∃ g : Nat → Int32, fSides_look σ a (nI r) (nI p) = some (upA σ 6 11 g) ∧ g 0 = nI (nAir v r p) ∧ g 1 = nI (nStr v r p) ∧ g 2 = (if 0 < cntF (isX v r p) 6 then 1 else 0) := by
  have isb0 : isb 0 = true := by decide
  obtain ⟨g, hg, g1⟩ := look_loop ha e h hr hp 6 0 FU (upd (upd (upd (σ 6 11) 0 0) 1 0) 2 0) (by omega) (by unfold FU; omega) rfl rfl rfl
  refine ⟨g, ?_, g1⟩
  rw [← hg]
  simp only [fSides_look, fSides_look_0, isb0, gd_t, lt_v, upA_upA, upA_same]
  rfl
/-! by the reference -/
def clsI (x : Int32) : Int32 := if x < 10 then (if x = 1 then 1 else 0) else 2
theorem sides_loop {τ : Sg} {v : Vw} (h : okStore v) (hm : Rm 0 v (τ 7)) {r p : Nat} (hr : r < vn v) (hp : p < vs v r) {w : Int32} {P : Nat → Bool} (hP : ∀ s, s < 6 → P s = decide (clsI (sd v r p s) = w)) : ∀ m i n (x : Int32), i + m = 6 → m < n → x = nI (cntF P i) → fM_sides_6 n τ (nI r) (nI p) w x (nI i) = some (nI (cntF P 6)) := by
  intro m
  induction m with
  | zero =>
    intro i n x hi hn hx
    obtain ⟨n, rfl⟩ : ∃ k, n = k + 1 := ⟨n - 1, by omega⟩
    have ei : i = 6 := by omega
    subst ei
    have q : (6 : Int32) ≤ nI 6 := by decide
    simp only [fM_sides_6, fM_sides_6_b, q, ↓reduceIte, hx]
  | succ m ih =>
    intro i n x hi hn hx
    obtain ⟨n, rfl⟩ : ∃ k, n = k + 1 := ⟨n - 1, by omega⟩
    have q : ¬ (6 : Int32) ≤ nI i := nI_ge (b := 6) (by omega) (by decide)
    have hs := m_side h hm hr hp (show i < 6 by omega)
    have step : fM_sides_6 (n + 1) τ (nI r) (nI p) w x (nI i) = fM_sides_45 (fun x1 x2 x3 x4 x5 => fM_sides_6 n τ x1 x2 x3 x4 x5) τ (nI r) (nI p) w x (nI i) (clsI (sd v r p i)) := by
      simp only [fM_sides_6, fM_sides_6_b, q, hs, bp_s, ↓reduceIte]
      unfold clsI
      split
      · split <;> rfl
      · rfl
    rw [step]
    have hPi := hP i (by omega)
    by_cases c : clsI (sd v r p i) = w
    · simp only [fM_sides_45, fM_sides_60, c, lt_v, nI_1, ↓reduceIte]
      exact ih (i + 1) n _ (by omega) (by omega) (by rw [hx, cnt_s, hPi, decide_eq_true c, nI_1]; rfl)
    · simp only [fM_sides_45, fM_sides_60, c, lt_v, nI_1, ↓reduceIte]
      exact ih (i + 1) n _ (by omega) (by omega) (by rw [hx, cnt_s, hPi, decide_eq_false c]; exact nI_add _ 0)
theorem m_air {τ : Sg} {v : Vw} (h : okStore v) (hm : Rm 0 v (τ 7)) {r p : Nat} (hr : r < vn v) (hp : p < vs v r) : fM_sides τ (nI r) (nI p) 0 = some (nI (nAir v r p)) := by
  refine sides_loop h hm hr hp (P := isA v r p) (fun s _ => ?_) 6 0 FU 0 (by omega) (by unfold FU; omega) rfl
  unfold isA clsI
  refine decide_eq_decide.mpr ⟨fun x => ?_, fun x => ?_⟩
  · rw [if_pos (Int32.not_le.mp x.2), if_neg x.1]
  · by_cases c : sd v r p s < 10
    · rw [if_pos c] at x
      refine ⟨fun y => ?_, Int32.not_le.mpr c⟩
      rw [if_pos y] at x
      exact absurd x (by decide)
    · rw [if_neg c] at x
      exact absurd x (by decide)
theorem m_str {τ : Sg} {v : Vw} (h : okStore v) (hm : Rm 0 v (τ 7)) {r p : Nat} (hr : r < vn v) (hp : p < vs v r) : fM_sides τ (nI r) (nI p) 1 = some (nI (nStr v r p)) := by
  refine sides_loop h hm hr hp (P := isT v r p) (fun s _ => ?_) 6 0 FU 0 (by omega) (by unfold FU; omega) rfl
  unfold isT clsI
  refine decide_eq_decide.mpr ⟨fun x => ?_, fun x => ?_⟩
  · rw [x]; decide
  · by_cases c : sd v r p s < 10
    · rw [if_pos c] at x
      by_cases y : sd v r p s = 1
      · exact y
      · rw [if_neg y] at x
        exact absurd x (by decide)
    · rw [if_neg c] at x
      exact absurd x (by decide)
