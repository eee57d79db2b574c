/-! warmth, water, drains -/
def wk (k t : Int32) : Int32 := if k = 1 then (t + 80) / 2 else if k = 5 then (t + 80) / 2 else if k = 3 then t + 10 else if k = 4 then t + 30 else t
theorem wk_c (σ : Sg) (k t : Int32) : fMelting_withoutSalt σ k t = some (wk k t) := by
  unfold fMelting_withoutSalt fMelting_withoutSalt_0 fMelting_withoutSalt_36 wk
  by_cases c1 : k = 1
  · rw [if_pos c1, if_pos c1]
  rw [if_neg c1, if_neg c1]
  by_cases c5 : k = 5
  · subst c5
    rw [if_neg (by decide), if_neg (by decide), if_pos rfl, if_pos rfl]
  rw [if_neg c5, if_neg c5]
  split
  · rfl
  · split <;> rfl
theorem wk_m {τ : Sg} {d t : Int32} (ht : fM_tenthsOf τ d = some t) (k : Int32) : fM_warmthOf τ k d = some (wk k t) := by
  unfold fM_warmthOf fM_warmthOf_0 fM_warmthOf_16 wk
  rw [ht, bp_s]
  split
  · rfl
  · split
    · rfl
    · split
      · rfl
      · split <;> rfl
def oRm (v : Vw) : Nat → Nat → Nat
  | 0, r => r
  | n + 1, r => if v 2 r = 2 then oRm v n (v 6 r).toNatClampNeg else r
def sAn (v : Vw) : Nat → Nat → Int32
  | 0, _ => 0
  | n + 1, r => if v 2 r = 2 then v 11 (v 6 r).toNatClampNeg + sAn v n (v 6 r).toNatClampNeg else 0
def wrm (v : Vw) (t : Int32) (r : Nat) : Int32 := wk (v 2 (oRm v 8 r)) t - 2 * (v 11 r + sAn v 8 r)
theorem warmthIn_loop {σ : Sg} {a : Nat} {v : Vw} (e : σ a = v) (h : okW v) (t : Int32) : ∀ k r i n (s : Int32), r < vn v → r ≤ k → i + r ≤ 7 → r < n → fMelting_warmthIn_17 n σ a t s (nI r) (nI i) = some (wk (v 2 (oRm v k r)) t - 2 * (s + sAn v k r)) := by
  have h8 := h.1.1
  intro k
  induction k with
  | zero =>
    intro r i n s hr hk hi hn
    obtain ⟨n, rfl⟩ : ∃ k, n = k + 1 := ⟨n - 1, by omega⟩
    have er : r = 0 := by omega
    subst er
    have q : ¬ (8 : Int32) ≤ nI i := nI_ge (b := 8) (by omega) (by decide)
    have hb : ib (nI 0) 8 = true := by decide
    have hc : (nI 0).toNatClampNeg = 0 := by decide
    have hne : ¬ v 2 0 = 2 := fun x => by
      obtain ⟨j, hj, -⟩ := (h.2.2.1 0 hr).2.2.2.2.1 x
      omega
    simp only [fMelting_warmthIn_17, fMelting_warmthIn_17_b, fMelting_warmthIn_85, q, hb, hc, gd_t, e, hne, wk_c, bp_s, ↓reduceIte, oRm, sAn, Int32.add_zero]
  | succ k ih =>
    intro r i n s hr hk hi hn
    obtain ⟨n, rfl⟩ : ∃ k, n = k + 1 := ⟨n - 1, by omega⟩
    have q : ¬ (8 : Int32) ≤ nI i := nI_ge (b := 8) (by omega) (by decide)
    have hb : ib (nI r) 8 = true := ib_nI (by omega) (by decide)
    have hc : (nI r).toNatClampNeg = r := nI_clamp (by omega)
    by_cases c : v 2 r = 2
    · obtain ⟨j, hj, ej⟩ := (h.2.2.1 r hr).2.2.2.2.1 c
      have hbj : ib (nI j) 8 = true := ib_nI (by omega) (by decide)
      have hcj : (nI j).toNatClampNeg = j := nI_clamp (by omega)
      have hh : fRooms_has σ a (nI j) = some 1 := by
        have q1 : ¬ nI j < 0 := nI_pos (by omega)
        have q3 : ¬ nI (vn v) ≤ nI j := nI_ge (by omega) (by omega)
        simp only [fRooms_has, fRooms_has_0, e, h.1.2, q1, q3, ↓reduceIte]
      have k1 : ¬ (1 : Int32) = 0 := by decide
      simp only [fMelting_warmthIn_17, fMelting_warmthIn_17_b, q, hb, hc, gd_t, e, c, lt_v, ej, hh, bp_s, k1, hbj, hcj, nI_1, ↓reduceIte, oRm, sAn]
      rw [ih j (i + 1) n _ (by omega) (by omega) (by omega) (by omega), Int32.add_assoc]
    · simp only [fMelting_warmthIn_17, fMelting_warmthIn_17_b, fMelting_warmthIn_85, q, hb, hc, gd_t, e, c, wk_c, bp_s, ↓reduceIte, oRm, sAn, Int32.add_zero]
theorem warmthIn_eq {σ : Sg} {a : Nat} {v : Vw} (e : σ a = v) (h : okW v) (t : Int32) {r : Nat} (hr : r < vn v) : fMelting_warmthIn σ a (nI r) t = some (wrm v t r) := by
  have h8 := h.1.1
  have hb : ib (nI r) 8 = true := ib_nI (by omega) (by decide)
  have hc : (nI r).toNatClampNeg = r := nI_clamp (by omega)
  simp only [fMelting_warmthIn, fMelting_warmthIn_0, hb, hc, gd_t, lt_v, e]
  exact warmthIn_loop e h t 8 r 0 FU (v 11 r) hr (by omega) (by omega) (by unfold FU; omega)
/-! the reference counts a room's blocks -/
theorem m_b {τ : Sg} {v : Vw} (hm : Rm 0 v (τ 7)) {b : Nat} (hb : b < vb v) : τ 7 19 b = v 16 b ∧ τ 7 20 b = v 17 b ∧ τ 7 21 b = v 18 b ∧ τ 7 22 b = v 19 b ∧ τ 7 23 b = v 20 b ∧ τ 7 24 b = v 21 b := by
  have := hm.2.2.2.2.2 b hb
  rw [show 300 * 0 + b = b by omega] at this
  exact this
theorem m_8 {τ : Sg} {v : Vw} (h : okStore v) (hm : Rm 0 v (τ 7)) : τ 7 8 0 = nI (vb v) := hm.1.2.2.trans h.2.1.2
theorem m_7 {τ : Sg} {v : Vw} (h : okStore v) (hm : Rm 0 v (τ 7)) : τ 7 7 0 = nI (vn v) := hm.1.2.1.trans h.1.2
theorem countOf_loop {τ : Sg} {v : Vw} (h : okStore v) (hm : Rm 0 v (τ 7)) {x1 x2 : Int32} {P : Nat → Bool} (hP : ∀ b, P b = true ↔ (v 18 b = x1 ∧ (x2 = -1 ∨ v 16 b = x2))) : ∀ m i n (x : Int32), i + m = vb v → m < n → x = nI (cntF P i) → fM_countOf_5 n τ x1 x2 x (nI i) = some (nI (cntF P (vb v))) := by
  have h3 := h.2.1.1
  have i6 : ib 0 6 = true := by decide
  have c0 : (0 : Int32).toNatClampNeg = 0 := by decide
  have e8 := m_8 h hm
  intro m
  induction m with
  | zero =>
    intro i n x hi hn hx
    obtain ⟨n, rfl⟩ : ∃ k, n = k + 1 := ⟨n - 1, by omega⟩
    have ei : i = vb v := by omega
    subst ei
    have q : nI (vb v) ≤ nI (vb v) := nI_le (by omega) (by omega)
    simp only [fM_countOf_5, fM_countOf_5_b, i6, c0, gd_t, e8, q, ↓reduceIte, hx]
  | succ m ih =>
    intro i n x hi hn hx
    obtain ⟨n, rfl⟩ : ∃ k, n = k + 1 := ⟨n - 1, by omega⟩
    have q : ¬ nI (vb v) ≤ nI i := nI_ge (by omega) (by omega)
    have hib : ib (nI i) 1800 = true := ib_nI (by omega) (by decide)
    have hcl : (nI i).toNatClampNeg = i := nI_clamp (by omega)
    obtain ⟨b1, -, b3, -⟩ := m_b hm (show i < vb v by omega)
    have fin1 : (v 18 i = x1 ∧ (x2 = -1 ∨ v 16 i = x2)) → fM_countOf_5 n τ x1 x2 (x + 1) (nI (i + 1)) = some (nI (cntF P (vb v))) := fun c => ih (i + 1) n _ (by omega) (by omega) (by rw [hx, cnt_s, if_pos ((hP i).mpr c), nI_1])
    have fin0 : ¬ (v 18 i = x1 ∧ (x2 = -1 ∨ v 16 i = x2)) → fM_countOf_5 n τ x1 x2 (x + 0) (nI (i + 1)) = some (nI (cntF P (vb v))) := fun c => ih (i + 1) n _ (by omega) (by omega) (by rw [hx, cnt_s, if_neg (fun y => c ((hP i).mp y))]; exact nI_add _ 0)
    by_cases c1 : v 18 i = x1
    · by_cases c2 : x2 = -1
      · have fin1 := fin1 ⟨c1, Or.inl c2⟩
        rw [← fin1]
        simp only [fM_countOf_5, fM_countOf_5_b, fM_countOf_44, fM_countOf_48, fM_countOf_49, i6, c0, gd_t, e8, q, hib, hcl, b1, b3, c1, c2, lt_v, nI_1, ↓reduceIte]
      · by_cases c3 : v 16 i = x2
        · have fin1 := fin1 ⟨c1, Or.inr c3⟩
          rw [← fin1]
          simp only [fM_countOf_5, fM_countOf_5_b, fM_countOf_44, fM_countOf_48, fM_countOf_49, i6, c0, gd_t, e8, q, hib, hcl, b1, b3, c1, c2, c3, lt_v, nI_1, ↓reduceIte]
        · have fin0 := fin0 (fun y => y.2.elim c2 c3)
          rw [← fin0]
          simp only [fM_countOf_5, fM_countOf_5_b, fM_countOf_44, fM_countOf_48, fM_countOf_49, i6, c0, gd_t, e8, q, hib, hcl, b1, b3, c1, c2, c3, lt_v, nI_1, ↓reduceIte]
    · have fin0 := fin0 (fun y => c1 y.1)
      rw [← fin0]
      simp only [fM_countOf_5, fM_countOf_5_b, fM_countOf_44, fM_countOf_48, fM_countOf_49, i6, c0, gd_t, e8, q, hib, hcl, b1, b3, c1, lt_v, nI_1, ↓reduceIte]
theorem m_count {τ : Sg} {v : Vw} (h : okStore v) (hm : Rm 0 v (τ 7)) (x1 x2 : Int32) : fM_countOf τ x1 x2 = some (nI (cntF (fun b => decide (v 18 b = x1 ∧ (x2 = -1 ∨ v 16 b = x2))) (vb v))) := countOf_loop h hm (fun b => decide_eq_true_iff) (vb v) 0 FU 0 (by omega) (by have := h.2.1.1; unfold FU; omega) rfl
theorem m_salts {τ : Sg} {v : Vw} (h : okStore v) (hm : Rm 0 v (τ 7)) {r : Nat} (hr : r < vn v) : fM_countOf τ (nI r) 2 = some (v 11 r) := by
  rw [m_count h hm, h.2.2.2.2.2.2.1 r hr]
  congr 2
  refine cntF_cong (fun b hb => ?_)
  refine decide_eq_decide.mpr ⟨fun y => ⟨y.1, y.2.elim (fun z => absurd z (by decide)) id⟩, fun y => ⟨y.1, Or.inr y.2⟩⟩
theorem warmth_loop {τ : Sg} {v : Vw} (h : okStore v) (hm : Rm 0 v (τ 7)) {d t : Int32} (ht : fM_tenthsOf τ d = some t) : ∀ k r n (x : Int32), r < vn v → r ≤ k → r < n → fM_warmth_5 n τ d (nI r) x = some (wk (v 2 (oRm v k r)) t - (x + 2 * (v 11 r + sAn v k r))) := by
  have h8 := h.1.1
  intro k
  induction k with
  | zero =>
    intro r n x hr hk hn
    obtain ⟨n, rfl⟩ : ∃ k, n = k + 1 := ⟨n - 1, by omega⟩
    have er : r = 0 := by omega
    subst er
    have hne : ¬ v 2 0 = 2 := fun x => by
      obtain ⟨j, hj, -⟩ := (okS h hr).2.2.2.2.1 x
      omega
    obtain ⟨m1, -⟩ := m_dims h hm hr
    simp only [fM_warmth_5, fM_warmth_5_b, ib48 h hr, cl8 h hr, gd_t, m1, hne, m_salts h hm hr, bp_s, lt_v, wk_m ht, ↓reduceIte, oRm, sAn, Int32.add_zero]
  | succ k ih =>
    intro r n x hr hk hn
    obtain ⟨n, rfl⟩ : ∃ k, n = k + 1 := ⟨n - 1, by omega⟩
    obtain ⟨m1, -, -, -, m5⟩ := m_dims h hm hr
    by_cases c : v 2 r = 2
    · obtain ⟨j, hj, ej⟩ := (okS h hr).2.2.2.2.1 c
      have hcj : (nI j).toNatClampNeg = j := nI_clamp (by omega)
      simp only [fM_warmth_5, fM_warmth_5_b, ib48 h hr, cl8 h hr, gd_t, m1, m5, c, m_salts h hm hr, bp_s, lt_v, ej, hcj, ↓reduceIte, oRm, sAn]
      rw [ih j n _ (by omega) (by omega) (by omega)]
      congr 2
      rw [Int32.add_assoc, ← Int32.mul_add]
    · simp only [fM_warmth_5, fM_warmth_5_b, ib48 h hr, cl8 h hr, gd_t, m1, c, m_salts h hm hr, bp_s, lt_v, wk_m ht, ↓reduceIte, oRm, sAn, Int32.add_zero]
theorem m_warmth {τ : Sg} {v : Vw} (h : okStore v) (hm : Rm 0 v (τ 7)) {d t : Int32} (ht : fM_tenthsOf τ d = some t) {r : Nat} (hr : r < vn v) : fM_warmth τ (nI r) d = some (wrm v t r) := by
  have h8 := h.1.1
  have := warmth_loop h hm ht 8 r FU 0 hr (by omega) (by unfold FU; omega)
  rw [Int32.zero_add] at this
  exact this
/-! drains on the floor, water -/
def dnF (v : Vw) (r : Nat) : Nat := cntF (fun p => decide (vc v r p = 2)) (vf v r)
def wat (v : Vw) (r p : Nat) : Prop := v 2 r = 5 ∧ p < vf v r ∧ dnF v r = 0
theorem drain_c {σ : Sg} {a : Nat} {v : Vw} (e : σ a = v) (h : okW v) {r : Nat} (hr : r < vn v) : fRooms_hasDrainOnFloor σ a (nI r) = some (if dnF v r = 0 then 0 else 1) := by
  have h8 := h.1.1
  have hb : ib (nI r) 8 = true := ib_nI (by omega) (by decide)
  have hc : (nI r).toNatClampNeg = r := nI_clamp (by omega)
  have e12 := h.2.2.2.2 r hr
  have hle := cntF_le (fun p => decide (vc v r p = 2)) (vf v r)
  have hv := vs_le (h.2.2.1 r hr)
  simp only [fRooms_hasDrainOnFloor, fRooms_hasDrainOnFloor_0, hb, hc, gd_t, e, e12]
  unfold dnF
  by_cases c : cntF (fun p => decide (vc v r p = 2)) (vf v r) = 0
  · rw [if_pos c, c, if_pos (by decide)]
  · rw [if_neg c, if_neg (nI_nle (by omega) (by omega))]
theorem onFloor_c {σ : Sg} {a : Nat} {v : Vw} (e : σ a = v) (h : okW v) {r p : Nat} (hr : r < vn v) (hp : p < vs v r) : fRooms_isOnFloor σ a (nI r) (nI p) = some (if p < vf v r then 1 else 0) := by
  have h8 := h.1.1
  have hb : ib (nI r) 8 = true := ib_nI (by omega) (by decide)
  have hc : (nI r).toNatClampNeg = r := nI_clamp (by omega)
  have hv := vs_le (h.2.2.1 r hr)
  have e7 := (h.2.2.1 r hr).2.2.2.2.2.2.1
  simp only [fRooms_isOnFloor, fRooms_isOnFloor_0, hb, hc, gd_t, e, e7]
  by_cases c : p < vf v r
  · rw [if_pos c, if_neg (nI_ge c (by omega))]
  · rw [if_neg c, if_pos (nI_le (by omega) (by omega))]
theorem water_c {σ : Sg} {a : Nat} {v : Vw} (e : σ a = v) (h : okW v) {r p : Nat} (hr : r < vn v) (hp : p < vs v r) : ∃ x, fRooms_standsInWater σ a (nI r) (nI p) = some x ∧ ((x = 1 ∧ wat v r p) ∨ (x = 0 ∧ ¬ wat v r p)) := by
  have h8 := h.1.1
  have hb : ib (nI r) 8 = true := ib_nI (by omega) (by decide)
  have hc : (nI r).toNatClampNeg = r := nI_clamp (by omega)
  have k1 : ¬ (1 : Int32) = 0 := by decide
  by_cases c : v 2 r = 5
  · by_cases c1 : p < vf v r
    · by_cases c2 : dnF v r = 0
      · refine ⟨1, ?_, Or.inl ⟨rfl, c, c1, c2⟩⟩
        simp only [fRooms_standsInWater, fRooms_standsInWater_0, hb, hc, gd_t, e, c, onFloor_c e h hr hp, c1, bp_s, k1, drain_c e h hr, c2, ↓reduceIte]
      · refine ⟨0, ?_, Or.inr ⟨rfl, fun y => c2 y.2.2⟩⟩
        simp only [fRooms_standsInWater, fRooms_standsInWater_0, hb, hc, gd_t, e, c, onFloor_c e h hr hp, c1, bp_s, k1, drain_c e h hr, c2, ↓reduceIte]
    · refine ⟨0, ?_, Or.inr ⟨rfl, fun y => c1 y.2.1⟩⟩
      simp only [fRooms_standsInWater, fRooms_standsInWater_0, hb, hc, gd_t, e, c, onFloor_c e h hr hp, c1, bp_s, ↓reduceIte]
  · refine ⟨0, ?_, Or.inr ⟨rfl, fun y => c y.1⟩⟩
    simp only [fRooms_standsInWater, fRooms_standsInWater_0, hb, hc, gd_t, e, c, ↓reduceIte]
theorem hasDrain_loop {τ : Sg} {v : Vw} (h : okStore v) (hm : Rm 0 v (τ 7)) {r : Nat} (hr : r < vn v) : ∀ m i n (x : Int32), i + m = vf v r → m < n → x = (if cntF (fun p => decide (vc v r p = 2)) i = 0 then 0 else 1) → fM_hasDrain_4 n τ (nI r) x (nI i) = some (if dnF v r = 0 then 0 else 1) := by
  have hv := vs_le (okS h hr)
  intro m
  induction m with
  | zero =>
    intro i n x hi hn hx
    obtain ⟨n, rfl⟩ : ∃ k, n = k + 1 := ⟨n - 1, by omega⟩
    have ei : i = vf v r := by omega
    subst ei
    have q : nI (vf v r) ≤ nI (vf v r) := nI_le (by omega) (by omega)
    have hb : isb x = true := by rw [hx]; split <;> decide
    have hx' : x = if dnF v r = 0 then 0 else 1 := hx
    simp only [fM_hasDrain_4, fM_hasDrain_4_b, m_floor h hm hr, bp_s, q, hb, gd_t, ↓reduceIte]
    rw [hx']
  | succ m ih =>
    intro i n x hi hn hx
    obtain ⟨n, rfl⟩ : ∃ k, n = k + 1 := ⟨n - 1, by omega⟩
    have q : ¬ nI (vf v r) ≤ nI i := nI_ge (by omega) (by omega)
    have hat := m_at h hm hr (show i < vs v r by omega)
    by_cases c : cntF (fun p => decide (vc v r p = 2)) i = 0
    · rw [if_pos c] at hx
      subst hx
      by_cases c2 : vc v r i = 2
      · simp only [fM_hasDrain_4, fM_hasDrain_4_b, fM_hasDrain_27, fM_hasDrain_32, m_floor h hm hr, bp_s, q, hat, c2, lt_v, nI_1, ↓reduceIte]
        exact ih (i + 1) n _ (by omega) (by omega) (by rw [cnt_s, if_pos (decide_eq_true c2), if_neg (by omega)])
      · simp only [fM_hasDrain_4, fM_hasDrain_4_b, fM_hasDrain_27, fM_hasDrain_32, m_floor h hm hr, bp_s, q, hat, c2, lt_v, nI_1, ↓reduceIte]
        exact ih (i + 1) n _ (by omega) (by omega) (by rw [cnt_s, if_neg (fun y => c2 (of_decide_eq_true y)), c]; rfl)
    · rw [if_neg c] at hx
      subst hx
      have k1 : ¬ (1 : Int32) = 0 := by decide
      simp only [fM_hasDrain_4, fM_hasDrain_4_b, fM_hasDrain_27, fM_hasDrain_32, m_floor h hm hr, bp_s, q, k1, lt_v, nI_1, ↓reduceIte]
      exact ih (i + 1) n _ (by omega) (by omega) (by rw [cnt_s, if_neg (by omega)])
theorem m_drain {τ : Sg} {v : Vw} (h : okStore v) (hm : Rm 0 v (τ 7)) {r : Nat} (hr : r < vn v) : fM_hasDrain τ (nI r) = some (if dnF v r = 0 then 0 else 1) := hasDrain_loop h hm hr (vf v r) 0 FU 0 (by omega) (by have := vs_le (okS h hr); unfold FU; omega) rfl
theorem water_m {τ : Sg} {v : Vw} (h : okStore v) (hm : Rm 0 v (τ 7)) {r p : Nat} (hr : r < vn v) (hp : p < vs v r) : ∃ x, fM_isInWater τ (nI r) (nI p) = some x ∧ ((x = 1 ∧ wat v r p) ∨ (x = 0 ∧ ¬ wat v r p)) := by
  have hv := vs_le (okS h hr)
  obtain ⟨m1, -⟩ := m_dims h hm hr
  have k1 : ¬ (1 : Int32) = 0 := by decide
  have hl := m_layer h hm hr (show p < 2 ^ 30 by omega)
  by_cases c : v 2 r = 5
  · by_cases c1 : p < vf v r
    · have e0 : p / vf v r = 0 := Nat.div_eq_of_lt c1
      have z0 : nI 0 = 0 := rfl
      by_cases c2 : dnF v r = 0
      · refine ⟨1, ?_, Or.inl ⟨rfl, c, c1, c2⟩⟩
        simp only [fM_isInWater, fM_isInWater_0, ib48 h hr, cl8 h hr, gd_t, m1, c, hl, e0, z0, bp_s, m_drain h hm hr, c2, ↓reduceIte]
      · refine ⟨0, ?_, Or.inr ⟨rfl, fun y => c2 y.2.2⟩⟩
        simp only [fM_isInWater, fM_isInWater_0, ib48 h hr, cl8 h hr, gd_t, m1, c, hl, e0, z0, bp_s, m_drain h hm hr, c2, k1, ↓reduceIte]
    · have h0 : 0 < p / vf v r := Nat.div_pos (by omega) (by omega)
      have hle : p / vf v r ≤ p := Nat.div_le_self _ _
      have ne := nI_ne0 h0 (show p / vf v r < 2 ^ 31 by omega)
      refine ⟨0, ?_, Or.inr ⟨rfl, fun y => c1 y.2.1⟩⟩
      simp only [fM_isInWater, fM_isInWater_0, ib48 h hr, cl8 h hr, gd_t, m1, c, hl, ne, bp_s, ↓reduceIte]
  · refine ⟨0, ?_, Or.inr ⟨rfl, fun y => c y.1⟩⟩
    simp only [fM_isInWater, fM_isInWater_0, ib48 h hr, cl8 h hr, gd_t, m1, c, ↓reduceIte]
