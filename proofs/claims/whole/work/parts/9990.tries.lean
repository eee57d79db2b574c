theorem valid_mask {w y z N k : Nat} (hd : dimOk w y z) (hS : w * y * z ≤ 18) (hk : k < 2 ^ (w * y * z)) (hN : N ≤ 30) : (nI (cntF k.testBit (w * y * z)) = nI N ∧ (nI k >>> (nI (w * y) &&& 31)) &&& (nI k ^^^ (-1)) = 0) ↔ valid w y z N k.testBit := by
  have hz := hd.s
  have h18 : 2 ^ (w * y * z) ≤ 2 ^ 18 := Nat.pow_le_pow_right (by decide) hS
  have hc := cntF_le k.testBit (w * y * z)
  rw [nI_eq (by omega) (by omega), i_stab (by omega) (by omega)]
  constructor
  · rintro ⟨h1, h2⟩
    refine ⟨h1, fun p hp hE hF => h2 (p - w * y) ?_⟩
    rwa [show w * y + (p - w * y) = p by omega]
  · rintro ⟨h1, h2⟩
    refine ⟨h1, fun j hj => ?_⟩
    have hlt : w * y + j < w * y * z := by
      apply Classical.byContradiction
      intro q
      have : k.testBit (w * y + j) = false := Nat.testBit_lt_two_pow (Nat.lt_of_lt_of_le hk (Nat.pow_le_pow_right (by decide) (by omega)))
      rw [this] at hj
      cases hj
    have := h2 (w * y + j) hlt hj (by omega)
    rwa [show w * y + j - w * y = j by omega] at this
theorem mask_loop {v : Vw} (h : okStore v) {r w y z N : Nat} (hr : r < vn v) (ew : vw v r = w) (ey : vy v r = y) (ez : vz v r = z) (hsm : small w y z) (hS : w * y * z ≤ 18) (hN : N ≤ w * y * z) : ∀ m k n (τ : Sg) (b x : Nat), k + m = 2 ^ (w * y * z) → m < n → Rm 0 v (τ 7) → τ 7 0 51 = nI N → MI w y z N k b x → ∃ f b', fM_tries_23 n τ (nI r) (nI (w * y * z)) (nI (w * y)) (nI b) (nI x) (nI k) = some (upA τ 7 52 f) ∧ bestW w y z N (Nat.testBit b') ∧ ∀ q, q < w * y * z → f q = i01 (b'.testBit q) := by
  have hd := dim_of h hr
  rw [ew, ey, ez] at hd
  have hz := hd.s
  have h18 : 2 ^ (w * y * z) ≤ 2 ^ 18 := Nat.pow_le_pow_right (by decide) hS
  have hpos : 0 < 2 ^ (w * y * z) := Nat.two_pow_pos _
  have hsl : (1 : Int32) <<< (nI (w * y * z) &&& 31) = nI (2 ^ (w * y * z)) := shl1 _ (by omega)
  have hair : ∀ E, valid w y z N E → airB w y z E (w * y * z) + 2 * gn w y z E (w * y * z) = 6 * N := fun E hE => by rw [air_gn hd hsm E, hE.1]
  intro m
  induction m with
  | zero =>
    intro k n τ b x hk hn hm h51 hMI
    obtain ⟨n, rfl⟩ : ∃ k, n = k + 1 := ⟨n - 1, by omega⟩
    have hk : k = 2 ^ (w * y * z) := by omega
    subst hk
    have hv : valid w y z N (fun q => decide (q < N)) := by
      refine ⟨by rw [cnt_first]; omega, fun p hp hE hF => ?_⟩
      have := of_decide_eq_true hE
      exact decide_eq_true (by omega)
    rcases hMI with ⟨-, -, no⟩ | ⟨b1, b2, b3, b4⟩
    · obtain ⟨a1, a2⟩ := mkM_ok (fun q => decide (q < N)) (w * y * z)
      exact absurd (valid_cong (fun p hp => (a2 p hp).symm) hv) (no _ a1)
    · obtain ⟨f, f1, f2⟩ := fin_loop (S := w * y * z) (b := b) hS b1 (w * y * z) 0 FU τ (by omega) (by unfold FU; omega) (fun q hq => absurd hq (Nat.not_lt_zero q))
      refine ⟨f, b, ?_, ⟨b2, fun E hE => ?_⟩, f2⟩
      · rw [fM_tries_23, fM_tries_23_b, hsl, if_pos (nI_le (Nat.le_refl _) (by omega))]
        exact f1
      · obtain ⟨a1, a2⟩ := mkM_ok E (w * y * z)
        exact better_cong a2 (b4 _ a1 (valid_cong (fun p hp => (a2 p hp).symm) hE))
  | succ m ih =>
    intro k n τ b x hk hn hm h51 hMI
    obtain ⟨n, rfl⟩ : ∃ k, n = k + 1 := ⟨n - 1, by omega⟩
    have hklt : k < 2 ^ (w * y * z) := by omega
    have hblt : b < 2 ^ (w * y * z) := by
      rcases hMI with ⟨e, -⟩ | ⟨e, -⟩ <;> omega
    have hx : x ≤ 1000 := by
      rcases hMI with ⟨-, e, -⟩ | ⟨-, -, e, -⟩
      · omega
      · have := airB_le w y z b.testBit (w * y * z); omega
    have hpop := pop_loop (τ := τ) (k23 := fun σ x1 x2 x3 x4 x5 x6 => fM_tries_23 n σ x1 x2 x3 x4 x5 x6) hS hklt (x1 := nI r) (x3 := nI (w * y)) (x4 := nI b) (x5 := nI x) (w * y * z) 0 FU (by omega) (by unfold FU; omega)
    have hent : fM_tries_23 (n + 1) τ (nI r) (nI (w * y * z)) (nI (w * y)) (nI b) (nI x) (nI k) = fM_tries_37 (fun σ x1 x2 x3 x4 x5 x6 => fM_tries_23 n σ x1 x2 x3 x4 x5 x6) FU τ (nI r) (nI (w * y * z)) (nI (w * y)) (nI b) (nI x) (nI k) 0 0 := by
      rw [fM_tries_23, fM_tries_23_b, hsl, if_neg (nI_ge hklt (by omega))]
    rw [hent]
    rw [h51] at hpop
    by_cases hv : valid w y z N k.testBit
    · obtain ⟨v1, v2⟩ := (valid_mask hd hS hklt (by omega)).mpr hv
      rw [if_pos v1, if_pos v2] at hpop
      obtain ⟨g, g1, g2⟩ := wr_loop (k23 := fun σ x1 x2 x3 x4 x5 x6 => fM_tries_23 n σ x1 x2 x3 x4 x5 x6) hS hklt (x1 := nI r) (x3 := nI (w * y)) (x4 := nI b) (x5 := nI x) (w * y * z) 0 FU τ (by omega) (by unfold FU; omega) (fun q hq => absurd hq (Nat.not_lt_zero q))
      have hw := wgh_loop h (Rm_52 hm g) hr ew ey ez (k23 := fun σ x1 x2 x3 x4 x5 x6 => fM_tries_23 n σ x1 x2 x3 x4 x5 x6) (x3 := nI (w * y)) (x4 := nI b) (x5 := nI x) (x6 := nI k) (E := k.testBit) (fun q hq => by rw [upA_same]; exact g2 q hq) (w * y * z) 0 FU (by omega) (by unfold FU; omega)
      have hall := (hpop.trans g1).trans hw
      have ha := hair _ hv
      have hal := airB_le w y z k.testBit (w * y * z)
      have keep : MI w y z N (k + 1) b x → (fM_tries_23 n (upA τ 7 52 g) (nI r) (nI (w * y * z)) (nI (w * y)) (nI b) (nI x) (nI k + 1) = dec (fun σ x1 x2 x3 x4 x5 x6 => fM_tries_23 n σ x1 x2 x3 x4 x5 x6) (upA τ 7 52 g) (nI r) (nI (w * y * z)) (nI (w * y)) (nI b) (nI x) (nI k) (nI (airB w y z k.testBit (w * y * z)))) → ∃ f b', fM_tries_37 (fun σ x1 x2 x3 x4 x5 x6 => fM_tries_23 n σ x1 x2 x3 x4 x5 x6) FU τ (nI r) (nI (w * y * z)) (nI (w * y)) (nI b) (nI x) (nI k) 0 0 = some (upA τ 7 52 f) ∧ bestW w y z N (Nat.testBit b') ∧ ∀ q, q < w * y * z → f q = i01 (b'.testBit q) := by
        intro hM e
        obtain ⟨f, b', f1, f2⟩ := ih (k + 1) n (upA τ 7 52 g) b x (by omega) (by omega) (Rm_52 hm g) h51 hM
        rw [upA_upA] at f1
        refine ⟨f, b', ?_, f2⟩
        rw [← f1, ← nI_1, e]
        exact hall
      have repl : MI w y z N (k + 1) k (airB w y z k.testBit (w * y * z)) → (fM_tries_23 n (upA τ 7 52 g) (nI r) (nI (w * y * z)) (nI (w * y)) (nI k) (nI (airB w y z k.testBit (w * y * z))) (nI k + 1) = dec (fun σ x1 x2 x3 x4 x5 x6 => fM_tries_23 n σ x1 x2 x3 x4 x5 x6) (upA τ 7 52 g) (nI r) (nI (w * y * z)) (nI (w * y)) (nI b) (nI x) (nI k) (nI (airB w y z k.testBit (w * y * z)))) → ∃ f b', fM_tries_37 (fun σ x1 x2 x3 x4 x5 x6 => fM_tries_23 n σ x1 x2 x3 x4 x5 x6) FU τ (nI r) (nI (w * y * z)) (nI (w * y)) (nI b) (nI x) (nI k) 0 0 = some (upA τ 7 52 f) ∧ bestW w y z N (Nat.testBit b') ∧ ∀ q, q < w * y * z → f q = i01 (b'.testBit q) := by
        intro hM e
        obtain ⟨f, b', f1, f2⟩ := ih (k + 1) n (upA τ 7 52 g) k (airB w y z k.testBit (w * y * z)) (by omega) (by omega) (Rm_52 hm g) h51 hM
        rw [upA_upA] at f1
        refine ⟨f, b', ?_, f2⟩
        rw [← f1, ← nI_1, e]
        exact hall
      have toK : (∀ m, m < k → valid w y z N m.testBit → better w y z m.testBit k.testBit) → MI w y z N (k + 1) k (airB w y z k.testBit (w * y * z)) := by
        intro hb
        refine Or.inr ⟨by omega, hv, rfl, fun m hm hvm => ?_⟩
        by_cases e : m = k
        · subst e; exact better.rfl' _
        · exact hb m (by omega) hvm
      rcases hMI with ⟨e1, e2, no⟩ | ⟨b1, b2, b3, b4⟩
      · refine repl (toK (fun m hm hvm => absurd hvm (no m hm))) ?_
        unfold dec
        rw [if_pos (nI_lt (by omega) (by omega))]
      · have hbA := hair _ b2
        have toB : better w y z k.testBit b.testBit → MI w y z N (k + 1) b x := by
          intro hb
          refine Or.inr ⟨by omega, b2, b3, fun m hm hvm => ?_⟩
          by_cases e : m = k
          · subst e; exact hb
          · exact b4 m (by omega) hvm
        rcases Nat.lt_trichotomy (airB w y z k.testBit (w * y * z)) x with c | c | c
        · refine repl (toK (fun m hm hvm => (b4 m hm hvm).trans (Or.inl (by omega)))) ?_
          unfold dec
          rw [if_pos (nI_lt (by omega) (by omega))]
        · obtain ⟨j, hj, j1, j2, j3⟩ := i_low (S := w * y * z) (by omega) hklt hblt (by omega)
          have hge : gn w y z k.testBit (w * y * z) = gn w y z b.testBit (w * y * z) := by omega
          have d1 : ¬ nI (airB w y z k.testBit (w * y * z)) < nI x := nI_nlt (by omega) (by omega)
          have d2 : nI (airB w y z k.testBit (w * y * z)) = nI x := by rw [c]
          by_cases d : k.testBit j = false
          · refine keep (toB (Or.inr ⟨hge, Nat.le_of_lt (rv_lt (j := j) (fun p hp => (j1 p hp).symm) ?_ d _ hj)⟩)) ?_
            · rw [d] at j2
              cases hbj : b.testBit j
              · rw [hbj] at j2; cases j2
              · rfl
            · unfold dec
              rw [if_neg d1, if_pos d2, if_pos (j3.mpr d)]
          · have d' : k.testBit j = true := by
              cases hkj : k.testBit j
              · exact absurd hkj d
              · rfl
            have hbk : better w y z b.testBit k.testBit := Or.inr ⟨hge.symm, Nat.le_of_lt (rv_lt (j := j) j1 d' (by
              rw [d'] at j2
              cases hbj : b.testBit j
              · rfl
              · rw [hbj] at j2; cases j2) _ hj)⟩
            refine repl (toK (fun m hm hvm => (b4 m hm hvm).trans hbk)) ?_
            unfold dec
            rw [if_neg d1, if_pos d2, if_neg (fun q => d (j3.mp q))]
        · refine keep (toB (Or.inl (by omega))) ?_
          unfold dec
          rw [if_neg (nI_nlt (by omega) (by omega)), if_neg (fun q => by have := (nI_eq (by omega) (by omega)).mp q; omega)]
    · have hno : ¬ (nI (cntF k.testBit (w * y * z)) = nI N ∧ (nI k >>> (nI (w * y) &&& 31)) &&& (nI k ^^^ (-1)) = 0) := fun q => hv ((valid_mask hd hS hklt (by omega)).mp q)
      have hM : MI w y z N (k + 1) b x := by
        rcases hMI with ⟨e1, e2, no⟩ | ⟨b1, b2, b3, b4⟩
        · refine Or.inl ⟨e1, e2, fun m hm => ?_⟩
          by_cases e : m = k
          · subst e; exact hv
          · exact no m (by omega)
        · refine Or.inr ⟨by omega, b2, b3, fun m hm hvm => ?_⟩
          by_cases e : m = k
          · subst e; exact absurd hvm hv
          · exact b4 m (by omega) hvm
      obtain ⟨f, b', f1, f2⟩ := ih (k + 1) n τ b x (by omega) (by omega) hm h51 hM
      refine ⟨f, b', ?_, f2⟩
      rw [← f1]
      refine hpop.trans ?_
      simp only [fM_tries_211, lt_v, nI_1]
      by_cases c1 : nI (cntF k.testBit (w * y * z)) = nI N
      · rw [if_pos c1, if_neg (fun q => hno ⟨c1, q⟩)]
      · rw [if_neg c1]
theorem tries_m {τ : Sg} {v : Vw} (h : okStore v) (hm : Rm 0 v (τ 7)) {r N : Nat} (hr : r < vn v) (hsm : small (vw v r) (vy v r) (vz v r)) (hS : vs v r ≤ 18) (hN : N ≤ vs v r) (h51 : τ 7 0 51 = nI N) : ∃ f b', fM_tries τ (nI r) = some (upA τ 7 52 f) ∧ bestW (vw v r) (vy v r) (vz v r) N (Nat.testBit b') ∧ ∀ q, q < vs v r → f q = i01 (b'.testBit q) := by
  have h18 : 2 ^ (vs v r) ≤ 2 ^ 18 := Nat.pow_le_pow_right (by decide) hS
  obtain ⟨f, b', f1, f2⟩ := mask_loop h hr rfl rfl rfl hsm hS hN (2 ^ (vs v r)) 0 FU τ 0 1000 (Nat.zero_add _) (by unfold FU; omega) hm h51 (Or.inl ⟨rfl, rfl, fun m hm => absurd hm (Nat.not_lt_zero m)⟩)
  refine ⟨f, b', ?_, f2⟩
  rw [fM_tries, fM_tries_0, m_places h hm hr, bp_s, m_flr h hm hr, bp_s]
  exact f1
