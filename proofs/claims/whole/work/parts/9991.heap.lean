/-! pack: the heap's blocks cut into the chosen places -/
def cvV (v : Vw) (A : Nat → Bool) (hk hg : Nat → Int32) (r : Nat) : Nat → Vw
  | 0 => v
  | p + 1 => if A p then cutV (cvV v A hk hg r p) r p (hk (cntF A p)) (hg (cntF A p)) else cvV v A hk hg r p
theorem cutV_keep (v : Vw) (r p : Nat) (k g : Int32) {c : Nat} (h1 : 1 ≤ c) (h2 : c ≤ 10) : cutV v r p k g c = v c := by
  unfold cutV
  rw [if_neg (by omega), if_neg (by omega), if_neg (by omega), if_neg (by omega), if_neg (by omega), if_neg (by omega), if_neg (by omega), if_neg (by omega), if_neg (by omega), if_neg (by omega), if_neg (by omega)]
theorem cutV_14 (v : Vw) (r p : Nat) (k g : Int32) : cutV v r p k g 14 = upd (v 14) (180 * r + p) (nI (10 + vb v)) := rfl
/-- what holds of the store when the places before p are done -/
def CvOk (v : Vw) (A : Nat → Bool) (r : Nat) (u : Vw) (p : Nat) : Prop := okStore u ∧ vn u = vn v ∧ (∀ c, 1 ≤ c → c ≤ 10 → u c = v c) ∧ vb u = vb v + cntF A p ∧ ∀ q, p ≤ q → q < vs v r → vc u r q = 0
theorem vs_of {u v : Vw} (h : ∀ c, 1 ≤ c → c ≤ 10 → u c = v c) (r : Nat) : vs u r = vs v r := by
  unfold vs vw vy vz
  rw [h 3 (by omega) (by omega), h 4 (by omega) (by omega), h 5 (by omega) (by omega)]
theorem cv_ok {v : Vw} (h : okStore v) {A : Nat → Bool} {hk hg : Nat → Int32} {r N : Nat} (hr : r < vn v) (hz : ∀ q, q < vs v r → vc v r q = 0) (hN : cntF A (vs v r) = N) (hb : vb v + N ≤ 300) (hkk : ∀ i, i < N → ∃ n : Nat, n ≤ 2 ∧ hk i = nI n) (hgg : ∀ i, i < N → ∃ n : Nat, n ≤ 1000000 ∧ hg i = nI n) : ∀ p, p ≤ vs v r → CvOk v A r (cvV v A hk hg r p) p := by
  intro p
  induction p with
  | zero => intro _; exact ⟨h, rfl, fun _ _ _ => rfl, rfl, fun q _ hq => hz q hq⟩
  | succ p ih =>
    intro hp
    obtain ⟨a1, a2, a3, a4, a5⟩ := ih (by omega)
    unfold cvV
    by_cases c : A p = true
    · have hlt : cntF A p < N := by
        have := (cnt_up A (p + 1) (vs v r - (p + 1))).2
        rw [show p + 1 + (vs v r - (p + 1)) = vs v r by omega, hN, cnt_s, c] at this
        simp only [if_true] at this
        omega
      have e : cntF A (p + 1) = cntF A p + 1 := by rw [cnt_s, c]; rfl
      rw [if_pos c]
      have hp' : p < vs (cvV v A hk hg r p) r := by rw [vs_of a3]; omega
      refine ⟨okStore_cut a1 (by omega) (by omega) hp' (a5 p (Nat.le_refl p) (by omega)) (hkk _ hlt) (hgg _ hlt), ?_, fun d d1 d2 => ?_, ?_, fun q h1 h2 => ?_⟩
      · rw [← a2]; unfold vn; rw [cutV_keep _ _ _ _ _ (by omega) (by omega)]
      · rw [cutV_keep _ _ _ _ _ d1 d2]; exact a3 d d1 d2
      · rw [vb_cut a1 (by omega), e]; omega
      · unfold vc
        rw [cutV_14, upd_r, if_neg (by omega)]
        exact a5 q (by omega) h2
    · have e : cntF A (p + 1) = cntF A p := by
        rw [cnt_s]
        cases hA : A p
        · rfl
        · exact absurd hA c
      rw [if_neg c]
      exact ⟨a1, a2, a3, by rw [e]; exact a4, fun q h1 h2 => a5 q (by omega) h2⟩
theorem cv_same {v : Vw} {A : Nat → Bool} {hk hg : Nat → Int32} {r p : Nat} : ∀ m, (∀ q, p ≤ q → q < p + m → A q = false) → cvV v A hk hg r (p + m) = cvV v A hk hg r p := by
  intro m
  induction m with
  | zero => intro _; rfl
  | succ m ih =>
    intro h
    show (if A (p + m) then _ else cvV v A hk hg r (p + m)) = _
    rw [h (p + m) (by omega) (by omega)]
    exact ih (fun q h1 h2 => h q h1 (by omega))
theorem cutS_o (σ : Sg) (r p : Nat) (k g : Int32) {s : Nat} (hs : s ≠ 0) : cutS σ r p k g s = σ s := by
  unfold cutS layS fillS cutA
  simp only [upA_o _ _ _ hs]
/-- the class's -/
theorem heap_c {lv : Nat → Bool} (hl : lv 10 = true) {σ : Sg} {v : Vw} (e0 : σ 0 = v) (h : okStore v) {A : Nat → Bool} {r N : Nat} (hr : r < vn v) (hz : ∀ q, q < vs v r → vc v r q = 0) (hN : cntF A (vs v r) = N) (hN30 : N ≤ 30) (hb : vb v + N ≤ 300) (h4 : σ 6 4 0 = nI N) (hA : ∀ q, q < vs v r → σ 10 2 q = i01 (A q)) (hkk : ∀ i, i < N → ∃ n : Nat, n ≤ 2 ∧ σ 6 16 i = nI n) (hgg : ∀ i, i < N → ∃ n : Nat, n ≤ 1000000 ∧ σ 6 17 i = nI n) : ∀ m p n (X : Sg), p + m = vs v r → m < n → X 0 = cvV v A (σ 6 16) (σ 6 17) r p → (∀ s, s ≠ 0 → X s = σ s) → ∃ Y, fI_cutHeapInto_18 lv n X (nI r) (nI (cntF A p)) (nI (vs v r)) (nI p) = some (upA Y 6 4 (upd (σ 6 4) 0 0)) ∧ Y 0 = cvV v A (σ 6 16) (σ 6 17) r (vs v r) ∧ ∀ s, s ≠ 0 → Y s = σ s := by
  have hv := vs_le (okS h hr)
  intro m
  induction m with
  | zero =>
    intro p n X hp hn h0 hs
    obtain ⟨n, rfl⟩ : ∃ k, n = k + 1 := ⟨n - 1, by omega⟩
    have e : p = vs v r := by omega
    refine ⟨X, ?_, by rw [← e]; exact h0, hs⟩
    rw [fI_cutHeapInto_18, fI_cutHeapInto_18_b, if_pos (nI_le (by omega) (by omega)), fI_cutHeapInto_85, lt_v, hs 6 (by omega)]
  | succ m ih =>
    intro p n X hp hn h0 hs
    obtain ⟨n, rfl⟩ : ∃ k, n = k + 1 := ⟨n - 1, by omega⟩
    have hpS : p < vs v r := by omega
    have hup := cnt_up A p (vs v r - p)
    rw [show p + (vs v r - p) = vs v r by omega, hN] at hup
    rw [fI_cutHeapInto_18, fI_cutHeapInto_18_b, if_neg (nI_ge (by omega) (by omega)), hs 6 (by omega), h4]
    by_cases c : N ≤ cntF A p
    · rw [if_pos (nI_le c (by omega)), fI_cutHeapInto_85, lt_v, hs 6 (by omega)]
      refine ⟨X, rfl, ?_, hs⟩
      rw [h0]
      have := cv_same (v := v) (A := A) (hk := σ 6 16) (hg := σ 6 17) (r := r) (p := p) (vs v r - p) (cnt_same (i := p) (vs v r - p) (by rw [show p + (vs v r - p) = vs v r by omega]; omega))
      rw [show p + (vs v r - p) = vs v r by omega] at this
      exact this.symm
    · have w1 : wi (nI p) 0 179 = 1 := wiIx0 (n := 180) (by omega) (by decide)
      have hch : fPacker_isChosen X (nI p) = some (i01 (A p)) := by
        rw [fPacker_isChosen, fPacker_isChosen_0, fI_within_eq, w1, bp_s, if_neg (by decide), ib_nI (show p < 180 by omega) (by decide), gd_t, nI_clamp (by omega), hs 10 (by omega), hA p hpS]
        cases A p
        · rw [if_pos (by decide)]; rfl
        · rw [if_neg (by decide)]; rfl
      rw [if_neg (nI_ge (by omega) (by omega)), hl, gd_t, hch, bp_s]
      cases hAp : A p
      · rw [if_pos (by decide), fI_cutHeapInto_79, lt_v, nI_1]
        have e : cntF A (p + 1) = cntF A p := by rw [cnt_s, hAp]; rfl
        rw [← e]
        refine ih (p + 1) n X (by omega) (by omega) ?_ hs
        show X 0 = (if A p then _ else cvV v A (σ 6 16) (σ 6 17) r p)
        rw [hAp]; exact h0
      · have hok := cv_ok h (hk := σ 6 16) (hg := σ 6 17) hr hz hN hb hkk hgg p (by omega)
        obtain ⟨a1, a2, a3, a4, a5⟩ := hok
        rw [← h0] at a1 a2 a3 a4 a5
        have hcb := cutBlock_eq a1 (r := r) (p := p) (by omega) (by rw [vs_of a3]; omega) (by omega) (σ 6 16 (cntF A p)) (σ 6 17 (cntF A p))
        rw [if_neg (by decide), ib_nI (show cntF A p < 30 by omega) (by decide), gd_t, gd_t, nI_clamp (by omega), hcb, bi_s, lt_v, fI_cutHeapInto_79, lt_v, nI_1, nI_1]
        have e : cntF A (p + 1) = cntF A p + 1 := by rw [cnt_s, hAp]; rfl
        rw [← e]
        refine ih (p + 1) n _ (by omega) (by omega) ?_ (fun s hs0 => by rw [cutS_o _ _ _ _ _ hs0]; exact hs s hs0)
        show _ = (if A p then cutV (cvV v A (σ 6 16) (σ 6 17) r p) r p _ _ else _)
        rw [hAp, cutS_0, h0]; rfl
/-- the reference's -/
theorem cutM_k (σ : Sg) (b r p : Nat) (k g : Int32) {c : Nat} (hc : c ≤ 7 ∨ 25 ≤ c) : cutM σ b r p k g 7 c = σ 7 c := by
  unfold cutM
  simp only [upA_a]
  rw [if_neg (by omega), if_neg (by omega), if_neg (by omega), if_neg (by omega), if_neg (by omega), if_neg (by omega), if_neg (by omega), if_neg (by omega), if_neg (by omega)]
theorem cutM_o (σ : Sg) (b r p : Nat) (k g : Int32) {s : Nat} (hs : s ≠ 7) : cutM σ b r p k g s = σ s := by
  unfold cutM
  simp only [upA_o _ _ _ hs]
theorem Ofs.trans {a b c : Vw} (h1 : Ofs a b) (h2 : Ofs b c) : Ofs a c := fun k k1 k2 j hj => (h2 k k1 k2 j hj).trans (h1 k k1 k2 j hj)
theorem heap_m {τ : Sg} {v : Vw} (h : okStore v) {A : Nat → Bool} {hk hg : Nat → Int32} {r N : Nat} (hr : r < vn v) (hz : ∀ q, q < vs v r → vc v r q = 0) (hN : cntF A (vs v r) = N) (hN30 : N ≤ 30) (hb : vb v + N ≤ 300) (hA : ∀ q, q < vs v r → τ 7 52 q = i01 (A q)) (hkk : ∀ i, i < N → ∃ n : Nat, n ≤ 2 ∧ hk i = nI n) (hgg : ∀ i, i < N → ∃ n : Nat, n ≤ 1000000 ∧ hg i = nI n) (e49 : ∀ i, i < N → τ 7 49 i = hk i) (e50 : ∀ i, i < N → τ 7 50 i = hg i) : ∀ m p n (X : Sg), p + m = vs v r → m < n → Rm 0 (cvV v A hk hg r p) (X 7) → Ofs (τ 7) (X 7) → (∀ c, c ≤ 7 ∨ 25 ≤ c → X 7 c = τ 7 c) → (∀ s, s ≠ 7 → X s = τ s) → ∃ Y, fM_pack_122 n X (nI r) (nI (cntF A p)) (nI p) = bp (fM_rooms (upA Y 7 0 (upd (τ 7 0) 51 0)) (nI r) 10) (fun y11 => bi (fM_ends (upA Y 7 0 (upd (τ 7 0) 51 0)) y11) (fun y12 σ13 => some (y12, σ13))) ∧ Rm 0 (cvV v A hk hg r (vs v r)) (Y 7) ∧ Ofs (τ 7) (Y 7) ∧ (∀ c, c ≤ 7 ∨ 25 ≤ c → Y 7 c = τ 7 c) ∧ ∀ s, s ≠ 7 → Y s = τ s := by
  have hv := vs_le (okS h hr)
  have h8 := h.1.1
  intro m
  induction m with
  | zero =>
    intro p n X hp hn x1 x2 x3 x4
    obtain ⟨n, rfl⟩ : ∃ k, n = k + 1 := ⟨n - 1, by omega⟩
    have e : p = vs v r := by omega
    obtain ⟨a1, a2, a3, a4, a5⟩ := cv_ok h (hk := hk) (hg := hg) hr hz hN hb hkk hgg p (by omega)
    refine ⟨X, ?_, by rw [← e]; exact x1, x2, x3, x4⟩
    rw [fM_pack_122, fM_pack_122_b, m_places a1 x1 (by omega), bp_s, vs_of a3, if_pos (nI_le (by omega) (by omega)), lt_v, x3 0 (by omega)]
  | succ m ih =>
    intro p n X hp hn x1 x2 x3 x4
    obtain ⟨n, rfl⟩ : ∃ k, n = k + 1 := ⟨n - 1, by omega⟩
    have hpS : p < vs v r := by omega
    obtain ⟨a1, a2, a3, a4, a5⟩ := cv_ok h (hk := hk) (hg := hg) hr hz hN hb hkk hgg p (by omega)
    rw [fM_pack_122, fM_pack_122_b, m_places a1 x1 (by omega), bp_s, vs_of a3, if_neg (nI_ge (by omega) (by omega)), ib_nI (show p < 180 by omega) (by decide), gd_t, nI_clamp (by omega), x3 52 (by omega), hA p hpS]
    cases hAp : A p
    · rw [if_pos (by decide), fM_pack_165, lt_v, nI_1]
      have e : cntF A (p + 1) = cntF A p := by rw [cnt_s, hAp]; rfl
      rw [← e]
      refine ih (p + 1) n X (by omega) (by omega) ?_ x2 x3 x4
      show Rm 0 (if A p then _ else cvV v A hk hg r p) _
      rw [hAp]; exact x1
    · have hlt : cntF A p < N := by
        have := (cnt_up A (p + 1) (vs v r - (p + 1))).2
        rw [show p + 1 + (vs v r - (p + 1)) = vs v r by omega, hN, cnt_s, hAp] at this
        simp only [if_true] at this
        omega
      have e8 : X 7 8 0 = nI (vb (cvV v A hk hg r p)) := x1.1.2.2.trans a1.2.1.2
      have hcu := cuts_eq (σ := X) (b := vb (cvV v A hk hg r p)) (r := r) (p := p) (by omega) (by omega) (by omega) e8 (hk (cntF A p)) (hg (cntF A p))
      rw [if_neg (by decide), ib_nI (show cntF A p < 30 by omega) (by decide), gd_t, gd_t, nI_clamp (by omega), x3 49 (by omega), x3 50 (by omega), e49 _ hlt, e50 _ hlt, hcu, bi_s, lt_v, fM_pack_165, lt_v, nI_1, nI_1]
      have e : cntF A (p + 1) = cntF A p + 1 := by rw [cnt_s, hAp]; rfl
      rw [← e]
      refine ih (p + 1) n _ (by omega) (by omega) ?_ (x2.trans (Ofs_cut X (by omega) (by omega) (by omega) _ _)) (fun c hc => by rw [cutM_k _ _ _ _ _ _ hc]; exact x3 c hc) (fun s hs => by rw [cutM_o _ _ _ _ _ _ hs]; exact x4 s hs)
      show Rm 0 (if A p then cutV (cvV v A hk hg r p) r p _ _ else _) _
      rw [hAp]
      exact Rm_cut a1 x1 (by omega) _ _ (by omega) (by rw [vs_of a3]; omega)
