/-! pack: a room that is all laid and bare -/
theorem shl2 : ∀ j : Nat, j < 31 → ((1 : Int32) <<< (nI j &&& 31)) - 1 = nI (2 ^ j - 1) := by decide +kernel
theorem allLaid_c {σ : Sg} {a : Nat} (h : okStore (σ a)) {r : Nat} (hr : r < vn (σ a)) : (fRooms_isAllLaid σ a (nI r) = some 1 ∧ ∀ j, j < vy (σ a) r * vz (σ a) r → lb (σ a) r j = true) ∨ (fRooms_isAllLaid σ a (nI r) = some 0 ∧ ∃ j, j < vy (σ a) r * vz (σ a) r ∧ ¬ lb (σ a) r j = true) := by
  have hk := okS h hr
  have hv := vs_le hk
  have hb := ib8 h hr
  have hc := cl8 h hr
  obtain ⟨-, -, ⟨-, -, ey⟩, ⟨-, -, ez⟩, -, -, -, -, ⟨m, hm, em⟩⟩ := hk
  have hlt : 2 ^ (vy (σ a) r * vz (σ a) r) ≤ 2 ^ 30 := Nat.pow_le_pow_right (by decide) (by omega)
  have hpos : 0 < 2 ^ (vy (σ a) r * vz (σ a) r) := Nat.two_pow_pos _
  have hcm : (nI m).toNatClampNeg = m := nI_clamp (by omega)
  rw [fRooms_isAllLaid, fRooms_isAllLaid_0, hb, gd_t, gd_t, gd_t, hc, ey, ez, pk_mul, shl2 _ (by omega), em]
  have hlb : ∀ j, lb (σ a) r j = m.testBit j := fun j => by unfold lb; rw [em, hcm]
  by_cases c : m = 2 ^ (vy (σ a) r * vz (σ a) r) - 1
  · left
    refine ⟨by rw [if_pos (by rw [c])], fun j hj => ?_⟩
    rw [hlb, c, Nat.testBit_two_pow_sub_one]
    exact decide_eq_true hj
  · right
    refine ⟨by rw [if_neg (fun q => c ((nI_eq (by omega) (by omega)).mp q))], ?_⟩
    apply Classical.byContradiction
    intro hno
    apply c
    apply Nat.eq_of_testBit_eq
    intro j
    rw [Nat.testBit_two_pow_sub_one]
    by_cases hj : j < vy (σ a) r * vz (σ a) r
    · rw [decide_eq_true hj]
      apply Classical.byContradiction
      intro q
      exact hno ⟨j, hj, by rw [hlb]; exact q⟩
    · rw [decide_eq_false hj]
      exact Nat.testBit_lt_two_pow (Nat.lt_of_lt_of_le hm (Nat.pow_le_pow_right (by decide) (by omega)))
theorem bare_loop {σ : Sg} {a : Nat} (h : okStore (σ a)) {r : Nat} (hr : r < vn (σ a)) : ∀ m i n, i + m = vy (σ a) r * vz (σ a) r → m < n → (fRooms_isBare_16 n σ a (nI r) (nI (vy (σ a) r * vz (σ a) r)) (nI i) = some 1 ∧ ∀ j, i ≤ j → j < vy (σ a) r * vz (σ a) r → ∀ k, k < vw (σ a) r → vc (σ a) r (vw (σ a) r * j + k) = 0) ∨ (fRooms_isBare_16 n σ a (nI r) (nI (vy (σ a) r * vz (σ a) r)) (nI i) = some 0 ∧ ∃ j, j < vy (σ a) r * vz (σ a) r ∧ ∃ k, k < vw (σ a) r ∧ ¬ vc (σ a) r (vw (σ a) r * j + k) = 0) := by
  have hv := vs_le (okS h hr)
  intro m
  induction m with
  | zero =>
    intro i n hi hn
    obtain ⟨n, rfl⟩ : ∃ k, n = k + 1 := ⟨n - 1, by omega⟩
    left
    refine ⟨?_, fun j h1 h2 => absurd h1 (by omega)⟩
    rw [fRooms_isBare_16, fRooms_isBare_16_b, if_pos (nI_le (by omega) (by omega))]
  | succ m ih =>
    intro i n hi hn
    obtain ⟨n, rfl⟩ : ∃ k, n = k + 1 := ⟨n - 1, by omega⟩
    have q : ¬ nI (vy (σ a) r * vz (σ a) r) ≤ nI i := nI_ge (by omega) (by omega)
    rw [fRooms_isBare_16, fRooms_isBare_16_b, if_neg q]
    rcases rowBare_eq h hr (show i < vy (σ a) r * vz (σ a) r by omega) with ⟨e, hz⟩ | ⟨e, hz⟩
    · rw [e, bp_s, if_neg (by decide), lt_v, nI_1]
      rcases ih (i + 1) n (by omega) (by omega) with ⟨f, g⟩ | ⟨f, g⟩
      · left
        refine ⟨f, fun j h1 h2 => ?_⟩
        by_cases e : j = i
        · subst e; exact hz
        · exact g j (by omega) h2
      · exact Or.inr ⟨f, g⟩
    · right
      rw [e, bp_s, if_pos rfl]
      exact ⟨rfl, i, by omega, hz⟩
theorem bare_c {σ : Sg} {a : Nat} (h : okStore (σ a)) {r : Nat} (hr : r < vn (σ a)) : (fRooms_isBare σ a (nI r) = some 1 ∧ ∀ p, p < vs (σ a) r → vc (σ a) r p = 0) ∨ (fRooms_isBare σ a (nI r) = some 0 ∧ ∃ p, p < vs (σ a) r ∧ ¬ vc (σ a) r p = 0) := by
  have hk := okS h hr
  have hv := vs_le hk
  have hb := ib8 h hr
  have hc := cl8 h hr
  have hk' := hk
  obtain ⟨-, ⟨w1, -, -⟩, ⟨-, -, ey⟩, ⟨-, -, ez⟩, -⟩ := hk'
  rw [fRooms_isBare, fRooms_isBare_0, hb, gd_t, gd_t, lt_v, hc, ey, ez, pk_mul]
  rcases bare_loop h hr (vy (σ a) r * vz (σ a) r) 0 FU (by omega) (by unfold FU; omega) with ⟨f, g⟩ | ⟨f, j, hj, k, hk2, g⟩
  · left
    refine ⟨f, fun p hp => ?_⟩
    have := g (p / vw (σ a) r) (Nat.zero_le _) (row_lt hk hp) (p % vw (σ a) r) (Nat.mod_lt _ w1)
    rwa [Nat.div_add_mod] at this
  · right
    refine ⟨f, vw (σ a) r * j + k, ?_, g⟩
    have := row_p hk2 hj
    rw [← Nat.mul_assoc] at this
    exact this
def rdyP (v : Vw) (r p : Nat) : Prop := lb v r (p / vw v r) = true ∧ vc v r p = 0
theorem ready_no {τ : Sg} {v : Vw} (h : okStore v) (hm : Rm 0 v (τ 7)) {r : Nat} (hr : r < vn v) : ∀ m i n, i + m = vs v r → m < n → fM_isReady_15 n τ (nI r) 0 (nI i) = some 0 := by
  have hv := vs_le (okS h hr)
  intro m
  induction m with
  | zero =>
    intro i n hi hn
    obtain ⟨n, rfl⟩ : ∃ k, n = k + 1 := ⟨n - 1, by omega⟩
    rw [fM_isReady_15, fM_isReady_15_b, m_places h hm hr, bp_s, if_pos (nI_le (by omega) (by omega))]
    rfl
  | succ m ih =>
    intro i n hi hn
    obtain ⟨n, rfl⟩ : ∃ k, n = k + 1 := ⟨n - 1, by omega⟩
    rw [fM_isReady_15, fM_isReady_15_b, m_places h hm hr, bp_s, if_neg (nI_ge (by omega) (by omega)), if_pos rfl, fM_isReady_50, fM_isReady_51, lt_v, nI_1]
    exact ih (i + 1) n (by omega) (by omega)
theorem ready_yes {τ : Sg} {v : Vw} (h : okStore v) (hm : Rm 0 v (τ 7)) {r : Nat} (hr : r < vn v) : ∀ m i n, i + m = vs v r → m < n → (fM_isReady_15 n τ (nI r) 1 (nI i) = some 1 ∧ ∀ p, i ≤ p → p < vs v r → rdyP v r p) ∨ (fM_isReady_15 n τ (nI r) 1 (nI i) = some 0 ∧ ∃ p, p < vs v r ∧ ¬ rdyP v r p) := by
  have hv := vs_le (okS h hr)
  intro m
  induction m with
  | zero =>
    intro i n hi hn
    obtain ⟨n, rfl⟩ : ∃ k, n = k + 1 := ⟨n - 1, by omega⟩
    left
    refine ⟨?_, fun j h1 h2 => absurd h1 (by omega)⟩
    rw [fM_isReady_15, fM_isReady_15_b, m_places h hm hr, bp_s, if_pos (nI_le (by omega) (by omega))]
    rfl
  | succ m ih =>
    intro i n hi hn
    obtain ⟨n, rfl⟩ : ∃ k, n = k + 1 := ⟨n - 1, by omega⟩
    have hp : i < vs v r := by omega
    rw [fM_isReady_15, fM_isReady_15_b, m_places h hm hr, bp_s, if_neg (nI_ge (by omega) (by omega)), if_neg (show ¬ (1 : Int32) = 0 by decide), m_isLaid h hm hr hp, bp_s]
    by_cases c : lb v r (i / vw v r) = true
    · rw [if_pos c, if_neg (show ¬ (1 : Int32) = 0 by decide), m_at h hm hr hp, bp_s]
      by_cases d : vc v r i = 0
      · rw [if_pos d, fM_isReady_51, lt_v, nI_1]
        rcases ih (i + 1) n (by omega) (by omega) with ⟨f, g⟩ | ⟨f, g⟩
        · left
          refine ⟨f, fun j h1 h2 => ?_⟩
          by_cases e : j = i
          · subst e; exact ⟨c, d⟩
          · exact g j (by omega) h2
        · exact Or.inr ⟨f, g⟩
      · rw [if_neg d, fM_isReady_50, fM_isReady_51, lt_v, nI_1]
        exact Or.inr ⟨ready_no h hm hr m (i + 1) n (by omega) (by omega), i, hp, fun q => d q.2⟩
    · rw [if_neg c, if_pos rfl, fM_isReady_50, fM_isReady_51, lt_v, nI_1]
      exact Or.inr ⟨ready_no h hm hr m (i + 1) n (by omega) (by omega), i, hp, fun q => c q.1⟩
/-- both sides alike: ready, or not -/
theorem ready_eq {σ : Sg} {a : Nat} (h : okStore (σ a)) {r : Nat} (hr : r < vn (σ a)) : (∃ x y : Int32, fRooms_isAllLaid σ a (nI r) = some x ∧ fRooms_isBare σ a (nI r) = some y ∧ (x = 0 ∨ y = 0) ∧ ∀ τ : Sg, Rm 0 (σ a) (τ 7) → fM_isReady_12 τ (nI r) 1 = some 0) ∨ (fRooms_isAllLaid σ a (nI r) = some 1 ∧ fRooms_isBare σ a (nI r) = some 1 ∧ (∀ p, p < vs (σ a) r → vc (σ a) r p = 0) ∧ ∀ τ : Sg, Rm 0 (σ a) (τ 7) → fM_isReady_12 τ (nI r) 1 = some 1) := by
  have hk := okS h hr
  have hv := vs_le hk
  have w1 := hk.2.1.1
  have fin : ∀ τ : Sg, Rm 0 (σ a) (τ 7) → (fM_isReady_12 τ (nI r) 1 = some 1 ∧ ∀ p, p < vs (σ a) r → rdyP (σ a) r p) ∨ (fM_isReady_12 τ (nI r) 1 = some 0 ∧ ∃ p, p < vs (σ a) r ∧ ¬ rdyP (σ a) r p) := by
    intro τ hm
    rcases ready_yes h hm hr (vs (σ a) r) 0 FU (by omega) (by unfold FU; omega) with ⟨f, g⟩ | ⟨f, g⟩
    · exact Or.inl ⟨f, fun p hp => g p (by omega) hp⟩
    · exact Or.inr ⟨f, g⟩
  rcases allLaid_c h hr with ⟨a1, a2⟩ | ⟨a1, j, hj, a2⟩
  · rcases bare_c h hr with ⟨b1, b2⟩ | ⟨b1, p, hp, b2⟩
    · right
      refine ⟨a1, b1, b2, fun τ hm => ?_⟩
      rcases fin τ hm with ⟨f, -⟩ | ⟨-, p, hp, g⟩
      · exact f
      · exact absurd ⟨a2 _ (row_lt hk hp), b2 p hp⟩ g
    · left
      refine ⟨1, 0, a1, b1, Or.inr rfl, fun τ hm => ?_⟩
      rcases fin τ hm with ⟨-, g⟩ | ⟨f, -⟩
      · exact absurd (g p hp).2 b2
      · exact f
  · left
    have hbare : ∃ y, fRooms_isBare σ a (nI r) = some y := by
      rcases bare_c h hr with ⟨b1, -⟩ | ⟨b1, -⟩
      · exact ⟨_, b1⟩
      · exact ⟨_, b1⟩
    obtain ⟨y, hy⟩ := hbare
    refine ⟨0, y, a1, hy, Or.inl rfl, fun τ hm => ?_⟩
    rcases fin τ hm with ⟨-, g⟩ | ⟨f, -⟩
    · have hp : vw (σ a) r * j + 0 < vs (σ a) r := by
        have := row_p (show 0 < vw (σ a) r by omega) hj
        rw [← Nat.mul_assoc] at this
        exact this
      have := (g _ hp).1
      rw [Nat.add_zero, Nat.mul_div_cancel_left _ (by omega)] at this
      exact absurd this a2
    · exact f
