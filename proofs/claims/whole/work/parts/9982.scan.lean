/-! pack: places chosen one by one -/
abbrev cand (w y : Nat) (A : Nat → Int32) (p : Nat) : Prop := A p = 0 ∧ ¬ (w * y ≤ p ∧ A (p - w * y) = 0)
def scn (w y z : Nat) (A : Nat → Int32) : Nat → Int32 × Int32
  | 0 => (-1, -1)
  | i + 1 => if cand w y A i ∧ ¬ nI (shN w y z A i) ≤ (scn w y z A i).2 then (nI i, nI (shN w y z A i)) else scn w y z A i
theorem shN_cong {w y z : Nat} {A B : Nat → Int32} (hd : dimOk w y z) (h : ∀ p, p < w * y * z → A p = B p) {p : Nat} (hp : p < w * y * z) : shN w y z A p = shN w y z B p := by
  unfold shN
  refine cntF_cong (fun s hs => ?_)
  unfold nsh
  cases hn : nb6 w y z p s with
  | none => rfl
  | some q => show decide (¬ A q = 0) = decide (¬ B q = 0); rw [h q (nb6_lt hd.1.1 hd.2.1.1 hp hn)]
theorem scn_cong {w y z : Nat} {A B : Nat → Int32} (hd : dimOk w y z) (h : ∀ p, p < w * y * z → A p = B p) : ∀ i, i ≤ w * y * z → scn w y z A i = scn w y z B i := by
  intro i
  induction i with
  | zero => intro _; rfl
  | succ i ih =>
    intro hi
    have e1 : cand w y A i ↔ cand w y B i := by
      unfold cand
      rw [h i (by omega), h (i - w * y) (by omega)]
    unfold scn
    rw [ih (by omega), shN_cong hd h (show i < w * y * z by omega)]
    simp only [e1]
theorem sh_le (w y z : Nat) (A : Nat → Int32) (p : Nat) : shN w y z A p ≤ 6 := cntF_le _ 6
theorem nI_nm (n : Nat) (h : n < 2 ^ 31) : ¬ nI n ≤ -1 := by
  rw [Int32.le_iff_toInt_le, nI_toInt h]
  show ¬ _ ≤ (-1 : Int)
  omega
theorem scn_sh (w y z : Nat) (A : Nat → Int32) : ∀ i, (scn w y z A i = (-1, -1) ∧ ∀ p, p < i → ¬ cand w y A p) ∨ ∃ q, q < i ∧ cand w y A q ∧ scn w y z A i = (nI q, nI (shN w y z A q)) := by
  intro i
  induction i with
  | zero => exact Or.inl ⟨rfl, fun p hp => absurd hp (Nat.not_lt_zero p)⟩
  | succ i ih =>
    unfold scn
    by_cases c : cand w y A i
    · by_cases d : nI (shN w y z A i) ≤ (scn w y z A i).2
      · rw [if_neg (fun q => q.2 d)]
        rcases ih with ⟨e, -⟩ | ⟨q, hq, h1, h2⟩
        · rw [e] at d
          exact absurd d (nI_nm _ (by have := sh_le w y z A i; omega))
        · exact Or.inr ⟨q, by omega, h1, h2⟩
      · rw [if_pos ⟨c, d⟩]
        exact Or.inr ⟨i, by omega, c, rfl⟩
    · rw [if_neg (fun q => c q.1)]
      rcases ih with ⟨e, h⟩ | ⟨q, hq, h1, h2⟩
      · refine Or.inl ⟨e, fun p hp => ?_⟩
        by_cases e : p = i
        · subst e; exact c
        · exact h p (by omega)
      · exact Or.inr ⟨q, by omega, h1, h2⟩
def itA (w y z : Nat) : Nat → Nat → Int32
  | 0 => fun _ => 0
  | k + 1 => upd (itA w y z k) (scn w y z (itA w y z k) (w * y * z)).1.toNatClampNeg 1
def cho (A : Nat → Int32) (p : Nat) : Bool := decide (¬ A p = 0)
theorem cand_ex {w y : Nat} {A : Nat → Int32} (hf : 1 ≤ w * y) : ∀ S, cntF (cho A) S < S → ∃ p, p < S ∧ cand w y A p := by
  intro S hS
  have key : ∀ p, p < S → A p = 0 → ∃ q, q < S ∧ cand w y A q := by
    intro p
    induction p using Nat.strongRecOn with
    | _ p ih =>
      intro hp h0
      by_cases c : w * y ≤ p ∧ A (p - w * y) = 0
      · exact ih (p - w * y) (by omega) (by omega) c.2
      · exact ⟨p, hp, h0, c⟩
  have hn := cnt_not (cho A) S
  obtain ⟨p, hp, h⟩ := cnt_pos (P := fun b => !cho A b) (n := S) (by omega)
  refine key p hp ?_
  unfold cho at h
  simpa using h
theorem itA_ok {w y z : Nat} (hd : dimOk w y z) : ∀ k, k ≤ w * y * z → cntF (cho (itA w y z k)) (w * y * z) = k ∧ ∀ p, itA w y z k p = 0 ∨ itA w y z k p = 1 := by
  have hs := hd.s
  intro k
  induction k with
  | zero => intro _; exact ⟨cntF_zero (fun k _ => by simp [cho, itA]), fun p => Or.inl rfl⟩
  | succ k ih =>
    intro hk
    obtain ⟨h1, h2⟩ := ih (by omega)
    obtain ⟨p, hp, hc⟩ := cand_ex (w := w) (y := y) (A := itA w y z k) (by omega) (w * y * z) (by omega)
    rcases scn_sh w y z (itA w y z k) (w * y * z) with ⟨-, h⟩ | ⟨q, hq, hcq, e⟩
    · exact absurd hc (h p hp)
    · have e2 : itA w y z (k + 1) = upd (itA w y z k) q 1 := by
        show upd _ _ _ = _
        rw [e, nI_clamp (by omega)]
      rw [e2]
      constructor
      · have := cntF_upd (p := cho (itA w y z k)) (q := cho (upd (itA w y z k) q 1)) (i := q) (fun j hj => by unfold cho; rw [upd_r, if_neg hj]) hq
        have a1 : cho (itA w y z k) q = false := by unfold cho; simp [hcq.1]
        have a2 : cho (upd (itA w y z k) q 1) q = true := by unfold cho; rw [upd_r, if_pos rfl]; decide
        rw [a1, a2, h1] at this
        simpa using this
      · intro p
        rw [upd_r]
        split
        · exact Or.inr rfl
        · exact h2 p
theorem itA_q {w y z k : Nat} (hd : dimOk w y z) (hk : k < w * y * z) : ∃ q, q < w * y * z ∧ scn w y z (itA w y z k) (w * y * z) = (nI q, nI (shN w y z (itA w y z k) q)) ∧ itA w y z (k + 1) = upd (itA w y z k) q 1 := by
  have hs := hd.s
  obtain ⟨h1, h2⟩ := itA_ok hd k (by omega)
  obtain ⟨p, hp, hc⟩ := cand_ex (w := w) (y := y) (A := itA w y z k) (by omega) (w * y * z) (by omega)
  rcases scn_sh w y z (itA w y z k) (w * y * z) with ⟨-, h⟩ | ⟨q, hq, hcq, e⟩
  · exact absurd hc (h p hp)
  · refine ⟨q, hq, e, ?_⟩
    show upd _ _ _ = _
    rw [e, nI_clamp (by omega)]
/-! the class's -/
theorem one_scan {σ : Sg} {w y z : Nat} (hd : dimOk w y z) (hk : PK σ w y z) {k2 : Sg → Int32 → Int32 → Option Sg} {x1 x2 : Int32} {q : Nat} {u : Int32} (hq : q < w * y * z) (he : scn w y z (σ 10 1) (w * y * z) = (nI q, u)) : ∀ m i n, i + m = w * y * z → m < n → fPacker_chooseOneByOne_15 k2 n σ x1 x2 (scn w y z (σ 10 1) i).1 (scn w y z (σ 10 1) i).2 (nI i) = k2 (upA σ 10 1 (upd (σ 10 1) q 1)) x1 (x2 + 1) := by
  have hs := hd.s
  have k3 := hk.2.2.2
  intro m
  induction m with
  | zero =>
    intro i n hi hn
    obtain ⟨n, rfl⟩ : ∃ k, n = k + 1 := ⟨n - 1, by omega⟩
    have e : i = w * y * z := by omega
    have n1 : vp_nar .boolean 1 = 1 := by decide
    rw [fPacker_chooseOneByOne_15, fPacker_chooseOneByOne_15_b, k3, if_pos (nI_le (by omega) (by omega)), e, he]
    show (if nI q = -1 then _ else _) = _
    rw [if_neg (nI_nm1 (by omega)), ib_nI (show q < 180 by omega) (by decide), gd_t, lt_v, nI_clamp (by omega), n1, fPacker_chooseOneByOne_83, lt_v]
  | succ m ih =>
    intro i n hi hn
    obtain ⟨n, rfl⟩ : ∃ k, n = k + 1 := ⟨n - 1, by omega⟩
    have hp : i < w * y * z := by omega
    have hrec := ih (i + 1) n (by omega) (by omega)
    rw [fPacker_chooseOneByOne_15, fPacker_chooseOneByOne_15_b, k3, if_neg (nI_ge (by omega) (by omega)), ib_nI (show i < 180 by omega) (by decide), gd_t, nI_clamp (by omega)]
    simp only [fPacker_chooseOneByOne_65, lt_v, nI_1, shut_c hd hp hk, bears_pk hd hp hk, bp_s]
    rw [← hrec]
    by_cases c1 : σ 10 1 i = 0
    · rw [if_pos c1]
      by_cases c2 : w * y ≤ i ∧ σ 10 1 (i - w * y) = 0
      · have nc : ¬ (cand w y (σ 10 1) i ∧ ¬ nI (shN w y z (σ 10 1) i) ≤ (scn w y z (σ 10 1) i).2) := fun q => q.1.2 c2
        rw [if_pos c2, if_pos rfl]
        conv => rhs; rw [scn, if_neg nc]
      · rw [if_neg c2, if_neg (show ¬ (1 : Int32) = 0 by decide)]
        by_cases c3 : nI (shN w y z (σ 10 1) i) ≤ (scn w y z (σ 10 1) i).2
        · have nc : ¬ (cand w y (σ 10 1) i ∧ ¬ nI (shN w y z (σ 10 1) i) ≤ (scn w y z (σ 10 1) i).2) := fun q => q.2 c3
          rw [if_pos c3]
          conv => rhs; rw [scn, if_neg nc]
        · have yc : cand w y (σ 10 1) i ∧ ¬ nI (shN w y z (σ 10 1) i) ≤ (scn w y z (σ 10 1) i).2 := ⟨⟨c1, c2⟩, c3⟩
          rw [if_neg c3]
          conv => rhs; rw [scn, if_pos yc]
    · have nc : ¬ (cand w y (σ 10 1) i ∧ ¬ nI (shN w y z (σ 10 1) i) ≤ (scn w y z (σ 10 1) i).2) := fun q => c1 q.1.1
      rw [if_neg c1]
      conv => rhs; rw [scn, if_neg nc]
theorem one_loop {w y z N : Nat} (hd : dimOk w y z) (hN : N ≤ w * y * z) : ∀ m k n (σ : Sg), k + m = N → m < n → PK σ w y z → (∀ p, p < w * y * z → σ 10 1 p = itA w y z k p) → ∃ f, fPacker_chooseOneByOne_2 n σ (nI N) (nI k) = some (upA σ 10 1 f) ∧ ∀ p, p < w * y * z → f p = itA w y z N p := by
  have hs := hd.s
  intro m
  induction m with
  | zero =>
    intro k n σ hk hn hP h
    obtain ⟨n, rfl⟩ : ∃ k, n = k + 1 := ⟨n - 1, by omega⟩
    have e : k = N := by omega
    refine ⟨σ 10 1, ?_, fun p hp => by rw [← e]; exact h p hp⟩
    rw [fPacker_chooseOneByOne_2, fPacker_chooseOneByOne_2_b, if_pos (nI_le (by omega) (by omega)), upA_id]
  | succ m ih =>
    intro k n σ hk hn hP h
    obtain ⟨n, rfl⟩ : ∃ k, n = k + 1 := ⟨n - 1, by omega⟩
    obtain ⟨q, hq, e1, e2⟩ := itA_q hd (show k < w * y * z by omega)
    have e3 : scn w y z (σ 10 1) (w * y * z) = (nI q, nI (shN w y z (itA w y z k) q)) := by rw [scn_cong hd h _ (Nat.le_refl _), e1]
    have hsc := one_scan hd hP (k2 := fun σ x1 x2 => fPacker_chooseOneByOne_2 n σ x1 x2) (x1 := nI N) (x2 := nI k) hq e3 (w * y * z) 0 FU (by omega) (by unfold FU; omega)
    obtain ⟨f, f1, f2⟩ := ih (k + 1) n (upA σ 10 1 (upd (σ 10 1) q 1)) (by omega) (by omega) hP (fun p hp => by
      rw [upA_same, e2, upd_r, upd_r, h p hp])
    rw [upA_upA] at f1
    refine ⟨f, ?_, f2⟩
    rw [fPacker_chooseOneByOne_2, fPacker_chooseOneByOne_2_b, if_neg (nI_ge (by omega) (by omega)), ← f1]
    rw [nI_1] at hsc
    exact hsc
