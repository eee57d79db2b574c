/-! the next of a room: by the class over its places, by the reference over all blocks -/
def btr (A : Nat → Int) (Y : Nat → Nat) (p q : Nat) : Prop := A q < A p ∨ (A p = A q ∧ (Y q < Y p ∨ (Y p = Y q ∧ p < q)))
theorem btr_trans {A : Nat → Int} {Y : Nat → Nat} {p q s : Nat} (h1 : btr A Y p q) (h2 : btr A Y q s) : btr A Y p s := by
  unfold btr at *
  omega
theorem btr_asymm {A : Nat → Int} {Y : Nat → Nat} {p q : Nat} (h1 : btr A Y p q) (h2 : btr A Y q p) : False := by
  unfold btr at *
  omega
def bk (v : Vw) (r p : Nat) : Nat := (vc v r p).toNatClampNeg - 10
def LL (v : Vw) (pa we w : Int32) (r p : Nat) : Int32 := lsW v pa we w (bk v r p) r p
def LI (v : Vw) (pa we w : Int32) (r p : Nat) : Int := (LL v pa we w r p).toInt
def lyr (v : Vw) (r p : Nat) : Nat := p / vf v r
def nxt (v : Vw) (pa we w : Int32) (r : Nat) (x : Int32) : Prop := (x = -1 ∧ ∀ q, q < vs v r → frP v r q = false) ∨ ∃ p, p < vs v r ∧ frP v r p = true ∧ x = nI (bk v r p) ∧ ∀ q, q < vs v r → frP v r q = true → q = p ∨ btr (LI v pa we w r) (lyr v r) p q
theorem nxt_uniq {v : Vw} {pa we w : Int32} {r : Nat} {x y : Int32} (h1 : nxt v pa we w r x) (h2 : nxt v pa we w r y) : x = y := by
  rcases h1 with ⟨a1, a2⟩ | ⟨p, a1, a2, a3, a4⟩
  · rcases h2 with ⟨b1, -⟩ | ⟨q, b1, b2, -⟩
    · rw [a1, b1]
    · rw [a2 q b1] at b2; cases b2
  · rcases h2 with ⟨b1, b2⟩ | ⟨q, b1, b2, b3, b4⟩
    · rw [b2 p a1] at a2; cases a2
    · rcases a4 q b1 b2 with e | e
      · rw [a3, b3, e]
      · rcases b4 p a1 a2 with e' | e'
        · rw [a3, b3, e']
        · exact absurd e' (fun z => btr_asymm e z)
def JC (v : Vw) (pa we w : Int32) (r i : Nat) (x5 x6 x7 : Int32) : Prop := (x5 = -1 ∧ ∀ q, q < i → frP v r q = false) ∨ ∃ p, p < i ∧ frP v r p = true ∧ x5 = nI (bk v r p) ∧ x6 = LL v pa we w r p ∧ x7 = nI (lyr v r p) ∧ ∀ q, q < i → frP v r q = true → q = p ∨ btr (LI v pa we w r) (lyr v r) p q
theorem frP_cell {v : Vw} (h : okW v) {r p : Nat} (hr : r < vn v) (hp : p < vs v r) (hf : frP v r p = true) : ∃ b, b < vb v ∧ vc v r p = nI (10 + b) ∧ bk v r p = b ∧ v 18 b = nI r ∧ v 19 b = nI p := by
  have hc := (of_decide_eq_true hf).1
  have h3 := h.2.1.1
  rcases h.2.2.2.1 r hr p hp with o | o | o | ⟨b, o1, o2, o3, o4⟩
  · rw [o] at hc; exact absurd hc (by decide)
  · rw [o] at hc; exact absurd hc (by decide)
  · rw [o] at hc; exact absurd hc (by decide)
  · refine ⟨b, o1, o2, ?_, o3, o4⟩
    unfold bk
    rw [o2, nI_clamp (by omega)]
    omega
theorem JC_keep {v : Vw} {pa we w : Int32} {r i : Nat} {x5 x6 x7 : Int32} (hj : JC v pa we w r i x5 x6 x7) (hf : frP v r i = false) : JC v pa we w r (i + 1) x5 x6 x7 := by
  have hq : ∀ q, q < i + 1 → frP v r q = true → q < i := fun q h1 h2 => by
    rcases Nat.lt_or_ge q i with c | c
    · exact c
    · have : q = i := by omega
      subst this
      rw [hf] at h2; cases h2
  rcases hj with ⟨a1, a2⟩ | ⟨p, p1, p2, p3, p4, p5, p6⟩
  · refine Or.inl ⟨a1, fun q h1 => ?_⟩
    cases hc : frP v r q with
    | false => rfl
    | true => exact (a2 q (hq q h1 hc)).symm.trans hc ▸ rfl
  · exact Or.inr ⟨p, by omega, p2, p3, p4, p5, fun q h1 h2 => p6 q (hq q h1 h2) h2⟩
theorem JC_new {v : Vw} {pa we w : Int32} {r i : Nat} {x5 x6 x7 : Int32} (hj : JC v pa we w r i x5 x6 x7) (hf : frP v r i = true) (hb : ∀ p, p < i → x5 = nI (bk v r p) → x6 = LL v pa we w r p → x7 = nI (lyr v r p) → btr (LI v pa we w r) (lyr v r) i p) : JC v pa we w r (i + 1) (nI (bk v r i)) (LL v pa we w r i) (nI (lyr v r i)) := by
  refine Or.inr ⟨i, by omega, hf, rfl, rfl, rfl, fun q h1 h2 => ?_⟩
  by_cases c : q = i
  · exact Or.inl c
  · right
    rcases hj with ⟨a1, a2⟩ | ⟨p, p1, p2, p3, p4, p5, p6⟩
    · rw [a2 q (by omega)] at h2; cases h2
    · have hip := hb p p1 p3 p4 p5
      rcases p6 q (by omega) h2 with e | e
      · rw [e]; exact hip
      · exact btr_trans hip e
theorem JC_stay {v : Vw} {pa we w : Int32} {r i : Nat} {x5 x6 x7 : Int32} (hj : JC v pa we w r i x5 x6 x7) (hn : ¬ x5 = -1) (hb : ∀ p, p < i → x5 = nI (bk v r p) → x6 = LL v pa we w r p → x7 = nI (lyr v r p) → btr (LI v pa we w r) (lyr v r) p i) : JC v pa we w r (i + 1) x5 x6 x7 := by
  rcases hj with ⟨a1, a2⟩ | ⟨p, p1, p2, p3, p4, p5, p6⟩
  · exact absurd a1 hn
  · refine Or.inr ⟨p, by omega, p2, p3, p4, p5, fun q h1 h2 => ?_⟩
    by_cases c : q = i
    · right; rw [c]; exact hb p p1 p3 p4 p5
    · exact p6 q (by omega) h2
theorem near_in {σ : Sg} {a : Nat} {v : Vw} (ha : a ≠ 6) (e : σ a = v) (h : okW v) {r z : Nat} (hr : r < vn v) (hz : z < vz v r) (w : Int32) (k32 : Sg → Int32 → Int32 → Int32 → Int32 → Int32 → Int32 → Int32 → Option (Int32 × Sg)) : ∀ m i n (f : Nat → Int32) (x5 x6 x7 : Int32), i + m = (z + 1) * vf v r → z * vf v r ≤ i → m < n → JC v (σ 6 2 0) (σ 6 2 1) w r i x5 x6 x7 → ∃ (f' : Nat → Int32) (x5' x6' x7' : Int32), JC v (σ 6 2 0) (σ 6 2 1) w r ((z + 1) * vf v r) x5' x6' x7' ∧ fMelting_nearest_53 k32 n (upA σ 6 11 f) a (nI r) w x5 x6 x7 (nI (vf v r)) (nI z) (nI i) = k32 (upA σ 6 11 f') (nI r) w x5' x6' x7' (nI (vf v r)) (nI (z + 1)) := by
  have hv := vs_le (h.2.2.1 r hr)
  have hz5 := (h.2.2.1 r hr).2.2.2.1.2.1
  have hzs : (z + 1) * vf v r ≤ vs v r := by
    have : vs v r = vf v r * vz v r := rfl
    rw [this, Nat.mul_comm (z + 1)]
    exact Nat.mul_le_mul_left _ (by omega)
  have xe2 : nI (z + 1) * nI (vf v r) = nI ((z + 1) * vf v r) := pk_mul _ _
  have xe : (nI z + 1) * nI (vf v r) = nI ((z + 1) * vf v r) := by rw [nI_1, pk_mul]
  intro m
  induction m with
  | zero =>
    intro i n f x5 x6 x7 hi hz0 hn hj
    obtain ⟨n, rfl⟩ : ∃ k, n = k + 1 := ⟨n - 1, by omega⟩
    have ei : i = (z + 1) * vf v r := by omega
    have q : nI ((z + 1) * vf v r) ≤ nI i := nI_le (by omega) (by omega)
    rw [ei] at hj
    refine ⟨f, x5, x6, x7, hj, ?_⟩
    simp only [fMelting_nearest_53, fMelting_nearest_53_b, xe, xe2, q, lt_v, nI_1, ↓reduceIte]
  | succ m ih =>
    intro i n f x5 x6 x7 hi hz0 hn hj
    obtain ⟨n, rfl⟩ : ∃ k, n = k + 1 := ⟨n - 1, by omega⟩
    have hp : i < vs v r := by omega
    have q : ¬ nI ((z + 1) * vf v r) ≤ nI i := nI_ge (by omega) (by omega)
    have ea : upA σ 6 11 f a = v := (upA_o σ 11 f ha).trans e
    have e62 : upA σ 6 11 f 6 2 = σ 6 2 := upA_ne _ _ (by omega)
    have hfr := free_c ea h hr hp
    have ely : lyr v r i = z := by
      unfold lyr
      have h1 : i < vf v r * (z + 1) := by rw [Nat.mul_comm]; omega
      have h2 : z ≤ i / vf v r := (Nat.le_div_iff_mul_le (by omega)).mpr hz0
      have h3 : i / vf v r < z + 1 := Nat.div_lt_of_lt_mul h1
      omega
    cases c : frP v r i with
    | false =>
      rw [c] at hfr
      obtain ⟨f', y5, y6, y7, hj', hk⟩ := ih (i + 1) n f x5 x6 x7 (by omega) (by omega) (by omega) (JC_keep hj c)
      refine ⟨f', y5, y6, y7, hj', ?_⟩
      rw [← hk]
      simp only [fMelting_nearest_53, fMelting_nearest_53_b, fMelting_nearest_143, xe, xe2, q, hfr, bp_s, lt_v, nI_1, Bool.false_eq_true, ↓reduceIte]
    | true =>
      rw [c] at hfr
      have k1 : ¬ (1 : Int32) = 0 := by decide
      obtain ⟨b, b1, b2, b3, b4, b5⟩ := frP_cell h hr hp c
      have h3 := h.2.1.1
      have hat : fRooms_at (upA σ 6 11 f) a (nI r) (nI i) = some (vc v r i) := by
        rw [← ea]
        exact at_inG (by rw [ea]; exact h.1) (by rw [ea]; exact hr) (by rw [ea]; exact h.2.2.1 r hr) (by rw [ea]; exact hp)
      have eb : vc v r i - 10 = nI b := by
        rw [b2]
        show nI (10 + b) - nI 10 = nI b
        rw [pk_sub (by omega)]
        congr 1
        omega
      obtain ⟨g, hg⟩ := loss_c (σ := upA σ 6 11 f) ha ea h b1 hr hp b4 b5 w
      rw [e62, upA_upA] at hg
      have eL : lsW v (σ 6 2 0) (σ 6 2 1) w b r i = LL v (σ 6 2 0) (σ 6 2 1) w r i := by unfold LL; rw [b3]
      rw [eL] at hg
      have hnew : (∀ p, p < i → x5 = nI (bk v r p) → x6 = LL v (σ 6 2 0) (σ 6 2 1) w r p → x7 = nI (lyr v r p) → btr (LI v (σ 6 2 0) (σ 6 2 1) w r) (lyr v r) i p) → ∃ (f' : Nat → Int32) (x5' x6' x7' : Int32), JC v (σ 6 2 0) (σ 6 2 1) w r ((z + 1) * vf v r) x5' x6' x7' ∧ fMelting_nearest_131 (fun σ x2 x4 x5 x6 x7 x8 x9 x10 => fMelting_nearest_53 k32 n σ a x2 x4 x5 x6 x7 x8 x9 x10) (upA σ 6 11 g) a (nI r) w (nI (vf v r)) (nI z) (nI i) (nI b) (LL v (σ 6 2 0) (σ 6 2 1) w r i) = k32 (upA σ 6 11 f') (nI r) w x5' x6' x7' (nI (vf v r)) (nI (z + 1)) := by
        intro hb
        have hj2 := JC_new hj c hb
        rw [b3, ely] at hj2
        obtain ⟨f', y5, y6, y7, hj', hk⟩ := ih (i + 1) n g _ _ _ (by omega) (by omega) (by omega) hj2
        refine ⟨f', y5, y6, y7, hj', ?_⟩
        rw [← hk]
        simp only [fMelting_nearest_131, fMelting_nearest_143, lt_v, nI_1]
      have hstay : ¬ x5 = -1 → (∀ p, p < i → x5 = nI (bk v r p) → x6 = LL v (σ 6 2 0) (σ 6 2 1) w r p → x7 = nI (lyr v r p) → btr (LI v (σ 6 2 0) (σ 6 2 1) w r) (lyr v r) p i) → ∃ (f' : Nat → Int32) (x5' x6' x7' : Int32), JC v (σ 6 2 0) (σ 6 2 1) w r ((z + 1) * vf v r) x5' x6' x7' ∧ fMelting_nearest_143 (fun σ x2 x4 x5 x6 x7 x8 x9 x10 => fMelting_nearest_53 k32 n σ a x2 x4 x5 x6 x7 x8 x9 x10) (upA σ 6 11 g) a (nI r) w x5 x6 x7 (nI (vf v r)) (nI z) (nI i) = k32 (upA σ 6 11 f') (nI r) w x5' x6' x7' (nI (vf v r)) (nI (z + 1)) := by
        intro h5 hb
        obtain ⟨f', y5, y6, y7, hj', hk⟩ := ih (i + 1) n g _ _ _ (by omega) (by omega) (by omega) (JC_stay hj h5 hb)
        refine ⟨f', y5, y6, y7, hj', ?_⟩
        rw [← hk]
        simp only [fMelting_nearest_143, lt_v, nI_1]
      have hmono : ∀ p, p < i → lyr v r p ≤ z := fun p hpi => by rw [← ely]; exact Nat.div_le_div_right (by omega)
      have hz7 : z < 2 ^ 31 := by omega
      by_cases c5 : x5 = -1
      · obtain ⟨f', y5, y6, y7, hj', hk⟩ := hnew (fun p hpi e5 _ _ => by
          rw [c5] at e5
          exact absurd e5.symm (nI_nm1 (by
            unfold bk
            have := Int32.toNatClampNeg_lt (vc v r p)
            omega)))
        refine ⟨f', y5, y6, y7, hj', ?_⟩
        rw [← hk]
        simp only [fMelting_nearest_53, fMelting_nearest_53_b, xe, xe2, q, hfr, bp_s, k1, hat, eb, lt_v, hg, bi_s, c5, ↓reduceIte]
      · by_cases c6 : x6 < LL v (σ 6 2 0) (σ 6 2 1) w r i
        · obtain ⟨f', y5, y6, y7, hj', hk⟩ := hnew (fun p hpi _ e6 _ => Or.inl (by
            rw [e6] at c6
            exact Int32.lt_iff_toInt_lt.mp c6))
          refine ⟨f', y5, y6, y7, hj', ?_⟩
          rw [← hk]
          simp only [fMelting_nearest_53, fMelting_nearest_53_b, xe, xe2, q, hfr, bp_s, k1, hat, eb, lt_v, hg, bi_s, c5, c6, ↓reduceIte]
        · by_cases c7 : LL v (σ 6 2 0) (σ 6 2 1) w r i = x6
          · by_cases c8 : nI z ≤ x7
            · obtain ⟨f', y5, y6, y7, hj', hk⟩ := hstay c5 (fun p hpi _ e6 e7 => by
                rw [e7] at c8
                have hl := hmono p hpi
                have := (nI_leI hz7 (by omega)).mp c8
                refine Or.inr ⟨?_, Or.inr ⟨by omega, hpi⟩⟩
                unfold LI
                rw [c7, e6])
              refine ⟨f', y5, y6, y7, hj', ?_⟩
              rw [← hk]
              simp only [fMelting_nearest_53, fMelting_nearest_53_b, xe, xe2, q, hfr, bp_s, k1, hat, eb, lt_v, hg, bi_s, c5, c6, c7, c8, ↓reduceIte]
              rw [if_neg (by rw [← c7]; exact Int32.lt_irrefl)]
            · obtain ⟨f', y5, y6, y7, hj', hk⟩ := hnew (fun p hpi _ e6 e7 => by
                rw [e7] at c8
                have hl := hmono p hpi
                have : ¬ z ≤ lyr v r p := fun x => c8 (nI_le x (by omega))
                refine Or.inr ⟨?_, Or.inl (by omega)⟩
                unfold LI
                rw [c7, e6])
              refine ⟨f', y5, y6, y7, hj', ?_⟩
              rw [← hk]
              simp only [fMelting_nearest_53, fMelting_nearest_53_b, xe, xe2, q, hfr, bp_s, k1, hat, eb, lt_v, hg, bi_s, c5, c6, c7, c8, ↓reduceIte]
              rw [if_neg (by rw [← c7]; exact Int32.lt_irrefl)]
          · obtain ⟨f', y5, y6, y7, hj', hk⟩ := hstay c5 (fun p hpi _ e6 _ => Or.inl (by
              rw [e6] at c6 c7
              unfold LI
              have h1 : ¬ (LL v (σ 6 2 0) (σ 6 2 1) w r p).toInt < (LL v (σ 6 2 0) (σ 6 2 1) w r i).toInt := fun x => c6 (Int32.lt_iff_toInt_lt.mpr x)
              have h2 : ¬ (LL v (σ 6 2 0) (σ 6 2 1) w r i).toInt = (LL v (σ 6 2 0) (σ 6 2 1) w r p).toInt := fun x => c7 (Int32.toInt_inj.mp x)
              omega))
            refine ⟨f', y5, y6, y7, hj', ?_⟩
            rw [← hk]
            simp only [fMelting_nearest_53, fMelting_nearest_53_b, xe, xe2, q, hfr, bp_s, k1, hat, eb, lt_v, hg, bi_s, c5, c6, c7, ↓reduceIte]
theorem near_out {σ : Sg} {a : Nat} {v : Vw} (ha : a ≠ 6) (e : σ a = v) (h : okW v) {r : Nat} (hr : r < vn v) (w : Int32) : ∀ m z n (f : Nat → Int32) (x5 x6 x7 : Int32), z + m = vz v r → m < n → JC v (σ 6 2 0) (σ 6 2 1) w r (z * vf v r) x5 x6 x7 → ∃ (g : Nat → Int32) (x : Int32), nxt v (σ 6 2 0) (σ 6 2 1) w r x ∧ fMelting_nearest_32 n (upA σ 6 11 f) a (nI r) w x5 x6 x7 (nI (vf v r)) (nI z) = some (x, upA σ 6 11 g) := by
  have hk := h.2.2.1 r hr
  have hv := vs_le hk
  have h8 := h.1.1
  have hz5 := hk.2.2.2.1.2.1
  have ez := hk.2.2.2.1.2.2
  have hb : ib (nI r) 8 = true := ib_nI (by omega) (by decide)
  have hc : (nI r).toNatClampNeg = r := nI_clamp (by omega)
  intro m
  induction m with
  | zero =>
    intro z n f x5 x6 x7 hi hn hj
    obtain ⟨n, rfl⟩ : ∃ k, n = k + 1 := ⟨n - 1, by omega⟩
    have ei : z = vz v r := by omega
    have ea : upA σ 6 11 f a = v := (upA_o σ 11 f ha).trans e
    have q : nI (vz v r) ≤ nI z := nI_le (by omega) (by omega)
    have es : z * vf v r = vs v r := by rw [ei, Nat.mul_comm]; rfl
    rw [es] at hj
    refine ⟨f, x5, ?_, ?_⟩
    · rcases hj with ⟨a1, a2⟩ | ⟨p, p1, p2, p3, p4, p5, p6⟩
      · exact Or.inl ⟨a1, a2⟩
      · exact Or.inr ⟨p, p1, p2, p3, p6⟩
    · simp only [fMelting_nearest_32, fMelting_nearest_32_b, hb, hc, gd_t, ea, ez, q, ↓reduceIte]
  | succ m ih =>
    intro z n f x5 x6 x7 hi hn hj
    obtain ⟨n, rfl⟩ : ∃ k, n = k + 1 := ⟨n - 1, by omega⟩
    have ea : upA σ 6 11 f a = v := (upA_o σ 11 f ha).trans e
    have q : ¬ nI (vz v r) ≤ nI z := nI_ge (by omega) (by omega)
    have hzv : (z + 1) * vf v r ≤ vs v r := by
      have : vs v r = vf v r * vz v r := rfl
      rw [this, Nat.mul_comm (z + 1)]
      exact Nat.mul_le_mul_left _ (by omega)
    obtain ⟨f', y5, y6, y7, hj', hk'⟩ := near_in ha e h hr (show z < vz v r by omega) w (fun σ x2 x4 x5 x6 x7 x8 x9 => fMelting_nearest_32 n σ a x2 x4 x5 x6 x7 x8 x9) (vf v r) (z * vf v r) FU f x5 x6 x7 (by rw [Nat.add_mul]; omega) (Nat.le_refl _) (by unfold FU; omega) hj
    obtain ⟨g, x, hx, hg⟩ := ih (z + 1) n f' y5 y6 y7 (by omega) (by omega) hj'
    refine ⟨g, x, hx, ?_⟩
    rw [← hg, ← hk']
    simp only [fMelting_nearest_32, fMelting_nearest_32_b, hb, hc, gd_t, ea, ez, q, lt_v, pk_mul, ↓reduceIte]
theorem near_c {σ : Sg} {a : Nat} {v : Vw} (ha : a ≠ 6) (e : σ a = v) (h : okW v) {r : Nat} (hr : r < vn v) (t : Int32) : ∃ (g : Nat → Int32) (x : Int32), nxt v (σ 6 2 0) (σ 6 2 1) (wrm v t r) r x ∧ fMelting_nearest σ a (nI r) t = some (x, upA σ 6 11 g) := by
  have hk := h.2.2.1 r hr
  have hv := vs_le hk
  have h8 := h.1.1
  have hb : ib (nI r) 8 = true := ib_nI (by omega) (by decide)
  have hc : (nI r).toNatClampNeg = r := nI_clamp (by omega)
  have e7 := hk.2.2.2.2.2.2.1
  obtain ⟨g, x, hx, hg⟩ := near_out ha e h hr (wrm v t r) (vz v r) 0 FU (σ 6 11) (-1) 0 0 (by omega) (by have := hk.2.2.2.1.2.1; unfold FU; omega) (Or.inl ⟨rfl, fun q hq => absurd hq (by omega)⟩)
  rw [upA_id] at hg
  refine ⟨g, x, hx, ?_⟩
  simp only [fMelting_nearest, fMelting_nearest_0, warmthIn_eq e h t hr, bp_s, hb, hc, gd_t, lt_v, e, e7]
  exact hg
