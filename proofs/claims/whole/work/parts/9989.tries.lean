theorem nI_i01 (a : Nat) (b : Bool) : nI a + i01 b = nI (a + if b then 1 else 0) := by
  cases b
  · exact nI_add a 0
  · exact nI_add a 1
theorem i01_1 (b : Bool) : i01 b = 1 ↔ b = true := by cases b <;> decide
theorem pop_loop {τ : Sg} {k23 : Sg → Int32 → Int32 → Int32 → Int32 → Int32 → Int32 → Option Sg} {S k : Nat} (hS : S ≤ 18) (hk : k < 2 ^ S) {x1 x3 x4 x5 : Int32} : ∀ m j n, j + m = S → m < n → fM_tries_37 k23 n τ x1 (nI S) x3 x4 x5 (nI k) (nI (cntF k.testBit j)) (nI j) = (if nI (cntF k.testBit S) = τ 7 0 51 then (if (nI k >>> (x3 &&& 31)) &&& (nI k ^^^ (-1)) = 0 then fM_tries_88 k23 FU τ x1 (nI S) x3 x4 x5 (nI k) 0 else fM_tries_211 k23 τ x1 (nI S) x3 x4 x5 (nI k)) else fM_tries_211 k23 τ x1 (nI S) x3 x4 x5 (nI k)) := by
  have h18 : 2 ^ S ≤ 2 ^ 18 := Nat.pow_le_pow_right (by decide) hS
  intro m
  induction m with
  | zero =>
    intro j n hj hn
    obtain ⟨n, rfl⟩ : ∃ k, n = k + 1 := ⟨n - 1, by omega⟩
    have e : j = S := by omega
    subst e
    rw [fM_tries_37, fM_tries_37_b, if_pos (nI_le (by omega) (by omega))]
  | succ m ih =>
    intro j n hj hn
    obtain ⟨n, rfl⟩ : ∃ k, n = k + 1 := ⟨n - 1, by omega⟩
    rw [fM_tries_37, fM_tries_37_b, if_neg (nI_ge (by omega) (by omega)), i_bit (by omega) (by omega), nI_i01, lt_v, lt_v, nI_1]
    exact ih (j + 1) n (by omega) (by omega)
theorem wr_loop {k23 : Sg → Int32 → Int32 → Int32 → Int32 → Int32 → Int32 → Option Sg} {S k : Nat} (hS : S ≤ 18) (hk : k < 2 ^ S) {x1 x3 x4 x5 : Int32} : ∀ m j n (τ : Sg), j + m = S → m < n → (∀ q, q < j → τ 7 52 q = i01 (k.testBit q)) → ∃ f, fM_tries_88 k23 n τ x1 (nI S) x3 x4 x5 (nI k) (nI j) = fM_tries_129 k23 FU (upA τ 7 52 f) x1 (nI S) x3 x4 x5 (nI k) 0 0 ∧ ∀ q, q < S → f q = i01 (k.testBit q) := by
  have h18 : 2 ^ S ≤ 2 ^ 18 := Nat.pow_le_pow_right (by decide) hS
  intro m
  induction m with
  | zero =>
    intro j n τ hj hn h
    obtain ⟨n, rfl⟩ : ∃ k, n = k + 1 := ⟨n - 1, by omega⟩
    refine ⟨τ 7 52, ?_, fun q hq => h q (by omega)⟩
    rw [fM_tries_88, fM_tries_88_b, if_pos (nI_le (by omega) (by omega)), upA_id]
  | succ m ih =>
    intro j n τ hj hn h
    obtain ⟨n, rfl⟩ : ∃ k, n = k + 1 := ⟨n - 1, by omega⟩
    obtain ⟨f, f1, f2⟩ := ih (j + 1) n (upA τ 7 52 (upd (τ 7 52) j (i01 (k.testBit j)))) (by omega) (by omega) (fun q hq => by
      rw [upA_same, upd_r]
      by_cases e : q = j
      · rw [if_pos e, e]
      · rw [if_neg e]; exact h q (by omega))
    rw [upA_upA] at f1
    refine ⟨f, ?_, f2⟩
    have hst : ∀ b : Bool, fM_tries_116 (fun σ x1 x2 x3 x4 x5 x6 x8 => fM_tries_88 k23 n σ x1 x2 x3 x4 x5 x6 x8) τ x1 (nI S) x3 x4 x5 (nI k) (nI j) (i01 b) (nI j) = fM_tries_88 k23 n (upA τ 7 52 (upd (τ 7 52) j (i01 b))) x1 (nI S) x3 x4 x5 (nI k) (nI (j + 1)) := by
      intro b
      rw [fM_tries_116, ib_nI (show j < 180 by omega) (by decide), gd_t, lt_v, lt_v, nI_1, nI_clamp (by omega), nar01]
    rw [fM_tries_88, fM_tries_88_b, if_neg (nI_ge (by omega) (by omega)), i_bit (by omega) (by omega), ← f1, ← hst]
    cases k.testBit j
    · rw [if_neg (by decide)]; rfl
    · rw [if_pos (by decide)]; rfl
/-- the reference weighs a way up against the best so far -/
def dec (k23 : Sg → Int32 → Int32 → Int32 → Int32 → Int32 → Int32 → Option Sg) (τ : Sg) (x1 x2 x3 x4 x5 x6 x8 : Int32) : Option Sg := if x8 < x5 then k23 τ x1 x2 x3 x6 x8 (x6 + 1) else if x8 = x5 then (if (((x6 ^^^ x4) &&& (-(x6 ^^^ x4))) &&& x6) = 0 then k23 τ x1 x2 x3 x4 x5 (x6 + 1) else k23 τ x1 x2 x3 x6 x8 (x6 + 1)) else k23 τ x1 x2 x3 x4 x5 (x6 + 1)
theorem cho_i01 (E : Nat → Bool) : cho (fun q => i01 (E q)) = E := by
  funext q
  show decide (¬ i01 (E q) = 0) = E q
  cases E q <;> decide
theorem airB_le (w y z : Nat) (E : Nat → Bool) : ∀ n, airB w y z E n ≤ 6 * n := by
  intro n
  induction n with
  | zero => exact Nat.le_refl _
  | succ n ih =>
    show airB w y z E n + (if E n then 6 - shB w y z E n else 0) ≤ _
    have : (if E n then 6 - shB w y z E n else 0) ≤ 6 := by split <;> omega
    omega
theorem wgh_loop {τ : Sg} {v : Vw} (h : okStore v) (hm : Rm 0 v (τ 7)) {r w y z : Nat} (hr : r < vn v) (ew : vw v r = w) (ey : vy v r = y) (ez : vz v r = z) {k23 : Sg → Int32 → Int32 → Int32 → Int32 → Int32 → Int32 → Option Sg} {x3 x4 x5 x6 : Int32} {E : Nat → Bool} (hE : ∀ q, q < w * y * z → τ 7 52 q = i01 (E q)) : ∀ m j n, j + m = w * y * z → m < n → fM_tries_129 k23 n τ (nI r) (nI (w * y * z)) x3 x4 x5 x6 (nI (airB w y z E j)) (nI j) = dec k23 τ (nI r) (nI (w * y * z)) x3 x4 x5 x6 (nI (airB w y z E (w * y * z))) := by
  have hd := dim_of h hr
  rw [ew, ey, ez] at hd
  have hs := hd.s
  have hsh : ∀ p, p < w * y * z → fM_shut τ (nI r) (nI p) = some (nI (shB w y z E p)) := fun p hp => by
    have := shut_m h hm hr (p := p) (by unfold vs; rw [ew, ey, ez]; exact hp)
    rw [ew, ey, ez, shN_cong hd hE hp, shN_B, cho_i01] at this
    exact this
  intro m
  induction m with
  | zero =>
    intro j n hj hn
    obtain ⟨n, rfl⟩ : ∃ k, n = k + 1 := ⟨n - 1, by omega⟩
    have e : j = w * y * z := by omega
    subst e
    rw [fM_tries_129, fM_tries_129_b, if_pos (nI_le (by omega) (by omega)), lt_v]
    simp only [fM_tries_203, fM_tries_211, lt_v, dec]
  | succ m ih =>
    intro j n hj hn
    obtain ⟨n, rfl⟩ : ∃ k, n = k + 1 := ⟨n - 1, by omega⟩
    have hp : j < w * y * z := by omega
    have hle : shB w y z E j ≤ 6 := cntF_le _ 6
    rw [fM_tries_129, fM_tries_129_b, if_neg (nI_ge (by omega) (by omega)), ib_nI (show j < 180 by omega) (by decide), gd_t, nI_clamp (by omega), hE j hp, hsh j hp, bp_s, ← ih (j + 1) n (by omega) (by omega)]
    have ea : airB w y z E (j + 1) = airB w y z E j + if E j then 6 - shB w y z E j else 0 := rfl
    rw [ea]
    cases c : E j
    · rw [if_pos (by decide), fM_tries_161, lt_v, lt_v, nI_1]
      show fM_tries_129 k23 n τ _ _ _ _ _ _ (nI (airB w y z E j) + nI 0) _ = _
      rw [nI_add]
      rfl
    · rw [if_neg (by decide), fM_tries_161, lt_v, lt_v, nI_1]
      have e6 : (6 : Int32) - nI (shB w y z E j) = nI (6 - shB w y z E j) := pk_sub (a := 6) hle
      rw [e6, nI_add]
      rfl
theorem fin_loop {S b : Nat} (hS : S ≤ 18) (hb : b < 2 ^ S) : ∀ m j n (τ : Sg), j + m = S → m < n → (∀ q, q < j → τ 7 52 q = i01 (b.testBit q)) → ∃ f, fM_tries_220 n τ (nI S) (nI b) (nI j) = some (upA τ 7 52 f) ∧ ∀ q, q < S → f q = i01 (b.testBit q) := by
  have h18 : 2 ^ S ≤ 2 ^ 18 := Nat.pow_le_pow_right (by decide) hS
  intro m
  induction m with
  | zero =>
    intro j n τ hj hn h
    obtain ⟨n, rfl⟩ : ∃ k, n = k + 1 := ⟨n - 1, by omega⟩
    refine ⟨τ 7 52, ?_, fun q hq => h q (by omega)⟩
    rw [fM_tries_220, fM_tries_220_b, if_pos (nI_le (by omega) (by omega)), upA_id]
  | succ m ih =>
    intro j n τ hj hn h
    obtain ⟨n, rfl⟩ : ∃ k, n = k + 1 := ⟨n - 1, by omega⟩
    obtain ⟨f, f1, f2⟩ := ih (j + 1) n (upA τ 7 52 (upd (τ 7 52) j (i01 (b.testBit j)))) (by omega) (by omega) (fun q hq => by
      rw [upA_same, upd_r]
      by_cases e : q = j
      · rw [if_pos e, e]
      · rw [if_neg e]; exact h q (by omega))
    rw [upA_upA] at f1
    refine ⟨f, ?_, f2⟩
    have hst : ∀ c : Bool, fM_tries_248 (fun σ x2 x4 x6 => fM_tries_220 n σ x2 x4 x6) τ (nI S) (nI b) (nI j) (i01 c) (nI j) = fM_tries_220 n (upA τ 7 52 (upd (τ 7 52) j (i01 c))) (nI S) (nI b) (nI (j + 1)) := by
      intro c
      rw [fM_tries_248, ib_nI (show j < 180 by omega) (by decide), gd_t, lt_v, lt_v, nI_1, nI_clamp (by omega), nar01]
    rw [fM_tries_220, fM_tries_220_b, if_neg (nI_ge (by omega) (by omega)), i_bit (by omega) (by omega), ← f1, ← hst]
    cases b.testBit j
    · rw [if_neg (by decide)]; rfl
    · rw [if_pos (by decide)]; rfl
theorem better.trans {w y z : Nat} {a b c : Nat → Bool} (h1 : better w y z a b) (h2 : better w y z b c) : better w y z a c := by
  unfold better at *
  omega
theorem better.rfl' {w y z : Nat} (a : Nat → Bool) : better w y z a a := Or.inr ⟨rfl, Nat.le_refl _⟩
/-- the best of the masks below k -/
def MI (w y z N k b x : Nat) : Prop := (b = 0 ∧ x = 1000 ∧ ∀ m, m < k → ¬ valid w y z N m.testBit) ∨ (b < k ∧ valid w y z N b.testBit ∧ x = airB w y z b.testBit (w * y * z) ∧ ∀ m, m < k → valid w y z N m.testBit → better w y z m.testBit b.testBit)
