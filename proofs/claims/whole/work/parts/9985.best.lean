theorem rv_cong {E E' : Nat → Bool} : ∀ n, (∀ p, p < n → E p = E' p) → rv E n = rv E' n
  | 0, _ => rfl
  | n + 1, h => by unfold rv; rw [rv_cong n (fun p hp => h p (by omega)), h n (by omega)]
theorem rv_inj {E E' : Nat → Bool} : ∀ n, rv E n = rv E' n → ∀ p, p < n → E p = E' p
  | 0, _ => fun p hp => absurd hp (Nat.not_lt_zero p)
  | n + 1, h => by
    unfold rv at h
    have l : ∀ b : Bool, (if b then 1 else 0) ≤ 1 := by intro b; cases b <;> decide
    have l1 := l (E n)
    have l2 := l (E' n)
    have h1 : rv E n = rv E' n := by omega
    have h2 : (if E n = true then 1 else 0) = (if E' n = true then 1 else 0) := by omega
    intro p hp
    by_cases e : p = n
    · subst e
      cases hE : E p <;> cases hE' : E' p <;> simp [hE, hE'] at h2 ⊢
    · exact rv_inj n h1 p (by omega)
theorem rv_lt {E E' : Nat → Bool} {j : Nat} (h : ∀ p, p < j → E p = E' p) (h1 : E j = true) (h2 : E' j = false) : ∀ n, j < n → rv E' n < rv E n := by
  intro n hn
  obtain ⟨m, rfl⟩ : ∃ m, n = j + 1 + m := ⟨n - (j + 1), by omega⟩
  clear hn
  have l : ∀ b : Bool, (if b then 1 else 0) ≤ 1 := by intro b; cases b <;> decide
  induction m with
  | zero =>
    show 2 * rv E' j + (if E' j then 1 else 0) < 2 * rv E j + (if E j then 1 else 0)
    rw [rv_cong j h, h1, h2]
    simp
  | succ m ih =>
    show 2 * rv E' (j + 1 + m) + (if E' (j + 1 + m) then 1 else 0) < 2 * rv E (j + 1 + m) + (if E (j + 1 + m) then 1 else 0)
    have := l (E' (j + 1 + m))
    omega
theorem lo_cong {w y z : Nat} {E E' : Nat → Bool} {p : Nat} (h : ∀ q, q < p → E q = E' q) : lo w y z E p = lo w y z E' p := by
  unfold lo
  exact sN_cong (fun q hq => by rw [h q hq])
theorem gn_cong {w y z : Nat} {E E' : Nat → Bool} : ∀ n, (∀ p, p < n → E p = E' p) → gn w y z E n = gn w y z E' n
  | 0, _ => rfl
  | n + 1, h => by unfold gn; rw [gn_cong n (fun p hp => h p (by omega)), h n (by omega), lo_cong (fun q hq => h q (by omega))]
theorem gn_le {w y z : Nat} (hs : small w y z) (E : Nat → Bool) (i : Nat) : ∀ m, i + m ≤ w * y * z → gn w y z E (i + m) + 3 * cntF E i ≤ gn w y z E i + 3 * cntF E (i + m) := by
  intro m
  induction m with
  | zero => intro _; exact Nat.le_refl _
  | succ m ih =>
    intro h
    have ih := ih (by omega)
    have := lo_le hs E (p := i + m) (by omega)
    show (gn w y z E (i + m) + if E (i + m) then lo w y z E (i + m) else 0) + 3 * cntF E i ≤ gn w y z E i + 3 * (cntF E (i + m) + if E (i + m) then 1 else 0)
    by_cases c : E (i + m) = true
    · simp only [c, if_true]; omega
    · simp only [c]
      show (gn w y z E (i + m) + 0) + 3 * cntF E i ≤ gn w y z E i + 3 * (cntF E (i + m) + 0)
      omega
/-- a way to choose N places, each on the floor or on one chosen -/
def valid (w y z N : Nat) (E : Nat → Bool) : Prop := cntF E (w * y * z) = N ∧ ∀ p, p < w * y * z → E p = true → w * y ≤ p → E (p - w * y) = true
def better (w y z : Nat) (E K : Nat → Bool) : Prop := gn w y z E (w * y * z) < gn w y z K (w * y * z) ∨ (gn w y z E (w * y * z) = gn w y z K (w * y * z) ∧ rv E (w * y * z) ≤ rv K (w * y * z))
def bestW (w y z N : Nat) (K : Nat → Bool) : Prop := valid w y z N K ∧ ∀ E, valid w y z N E → better w y z E K
theorem best_one {w y z N : Nat} {K K' : Nat → Bool} (h : bestW w y z N K) (h' : bestW w y z N K') : ∀ p, p < w * y * z → K p = K' p := by
  have a := h.2 K' h'.1
  have b := h'.2 K h.1
  unfold better at a b
  exact rv_inj _ (by omega)
def i01 (b : Bool) : Int32 := if b then 1 else 0
/-- what a search through the ways X did to the best so far -/
def Res (w y z : Nat) (b b' : Int) (B B' : Nat → Int32) (X : (Nat → Bool) → Prop) : Prop := (b' = b ∧ (∀ q, q < w * y * z → B' q = B q) ∧ ∀ E, X E → (gn w y z E (w * y * z) : Int) ≤ b) ∨ ∃ K, X K ∧ b' = (gn w y z K (w * y * z) : Int) ∧ b < (gn w y z K (w * y * z) : Int) ∧ (∀ q, q < w * y * z → B' q = i01 (K q)) ∧ ∀ E, X E → better w y z E K
theorem Res.comb {w y z : Nat} {b b1 b2 : Int} {B B1 B2 : Nat → Int32} {X X1 X2 : (Nat → Bool) → Prop} (h1 : Res w y z b b1 B B1 X1) (h2 : Res w y z b1 b2 B1 B2 X2) (ho : ∀ E E', X1 E → X2 E' → rv E' (w * y * z) < rv E (w * y * z)) (hx : ∀ E, X E ↔ X1 E ∨ X2 E) : Res w y z b b2 B B2 X := by
  rcases h1 with ⟨e1, s1, l1⟩ | ⟨K1, k1, e1, g1, s1, l1⟩
  · rcases h2 with ⟨e2, s2, l2⟩ | ⟨K2, k2, e2, g2, s2, l2⟩
    · left
      refine ⟨e2.trans e1, fun q hq => (s2 q hq).trans (s1 q hq), fun E hE => ?_⟩
      rcases (hx E).mp hE with h | h
      · exact l1 E h
      · rw [← e1]; exact l2 E h
    · right
      refine ⟨K2, (hx K2).mpr (Or.inr k2), e2, by rw [← e1]; exact g2, s2, fun E hE => ?_⟩
      rcases (hx E).mp hE with h | h
      · left
        have := l1 E h
        omega
      · exact l2 E h
  · rcases h2 with ⟨e2, s2, l2⟩ | ⟨K2, k2, e2, g2, s2, l2⟩
    · right
      refine ⟨K1, (hx K1).mpr (Or.inl k1), e2.trans e1, g1, fun q hq => (s2 q hq).trans (s1 q hq), fun E hE => ?_⟩
      rcases (hx E).mp hE with h | h
      · exact l1 E h
      · have := l2 E h
        have := ho K1 E k1 h
        unfold better
        omega
    · right
      refine ⟨K2, (hx K2).mpr (Or.inr k2), e2, by omega, s2, fun E hE => ?_⟩
      rcases (hx E).mp hE with h | h
      · left
        have := l1 E h
        unfold better at this
        omega
      · exact l2 E h
theorem Res.iff {w y z : Nat} {b b2 : Int} {B B2 : Nat → Int32} {X X2 : (Nat → Bool) → Prop} (h2 : Res w y z b b2 B B2 X2) (hx : ∀ E, X E ↔ X2 E) : Res w y z b b2 B B2 X :=
  Res.comb (X1 := fun _ => False) (Or.inl ⟨rfl, fun _ _ => rfl, fun E h => h.elim⟩) h2 (fun _ _ h => h.elim) (fun E => by rw [hx E]; simp)
/-- the ways that begin as C before p -/
def Ext (w y z N : Nat) (C : Nat → Bool) (p : Nat) (E : Nat → Bool) : Prop := valid w y z N E ∧ ∀ q, q < p → E q = C q
theorem cnt_cong {E C : Nat → Bool} {p : Nat} (h : ∀ q, q < p → E q = C q) : cntF E p = cntF C p := cntF_cong h
theorem cnt_up (E : Nat → Bool) (i : Nat) : ∀ m, cntF E (i + m) ≤ cntF E i + m ∧ cntF E i ≤ cntF E (i + m) := by
  intro m
  induction m with
  | zero => exact ⟨Nat.le_refl _, Nat.le_refl _⟩
  | succ m ih =>
    have l : ∀ b : Bool, (if b then 1 else 0) ≤ 1 := by intro b; cases b <;> decide
    have l1 := l (E (i + m))
    show cntF E (i + m) + (if E (i + m) then 1 else 0) ≤ cntF E i + (m + 1) ∧ cntF E i ≤ cntF E (i + m) + (if E (i + m) then 1 else 0)
    omega
theorem cnt_same {E : Nat → Bool} {i : Nat} : ∀ m, cntF E (i + m) = cntF E i → ∀ q, i ≤ q → q < i + m → E q = false := by
  intro m
  induction m with
  | zero => intro _ q h1 h2; omega
  | succ m ih =>
    intro h q h1 h2
    have h : cntF E (i + m) + (if E (i + m) then 1 else 0) = cntF E i := h
    have := (cnt_up E i m).2
    have hE : E (i + m) = false := by
      cases c : E (i + m)
      · rfl
      · rw [c] at h; simp at h; omega
    by_cases e : q = i + m
    · subst e; exact hE
    · refine ih ?_ q h1 (by omega)
      rw [hE] at h
      simpa using h
/-- no place left: the ways are C alone -/
theorem Ext_leaf {w y z N : Nat} {C : Nat → Bool} {p : Nat} (hp : p ≤ w * y * z) (hC : ∀ q, p ≤ q → C q = false) (hn : cntF C p = N) {E : Nat → Bool} (h : Ext w y z N C p E) : ∀ q, q < w * y * z → E q = C q := by
  obtain ⟨⟨h1, -⟩, h2⟩ := h
  intro q hq
  by_cases c : q < p
  · exact h2 q c
  · rw [hC q (by omega)]
    obtain ⟨m, hm⟩ : ∃ m, w * y * z = p + m := ⟨w * y * z - p, by omega⟩
    refine cnt_same (i := p) m ?_ q (by omega) (by omega)
    rw [← hm, h1, ← hn, cnt_cong h2]
theorem gn_tail {w y z : Nat} {C : Nat → Bool} {p : Nat} (hC : ∀ q, p ≤ q → C q = false) : ∀ m, gn w y z C (p + m) = gn w y z C p ∧ cntF C (p + m) = cntF C p := by
  intro m
  induction m with
  | zero => exact ⟨rfl, rfl⟩
  | succ m ih =>
    show gn w y z C (p + m) + (if C (p + m) then lo w y z C (p + m) else 0) = _ ∧ cntF C (p + m) + (if C (p + m) then 1 else 0) = _
    rw [hC (p + m) (by omega)]
    simpa using ih
def addB (C : Nat → Bool) (i : Nat) : Nat → Bool := fun q => if q = i then true else C q
