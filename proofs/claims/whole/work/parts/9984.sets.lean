/-! pack: ways to choose, tried all -/
def adj (w y z p q : Nat) : Nat := cntF (fun s => decide (nb6 w y z p s = some q)) 6
def shB (w y z : Nat) (E : Nat → Bool) (p : Nat) : Nat := cntF (fun s => match nb6 w y z p s with | some q => E q | none => false) 6
theorem shN_B (w y z : Nat) (A : Nat → Int32) (p : Nat) : shN w y z A p = shB w y z (cho A) p := rfl
def sN (f : Nat → Nat) : Nat → Nat
  | 0 => 0
  | n + 1 => sN f n + f n
theorem sN_cong {f g : Nat → Nat} : ∀ {n : Nat}, (∀ i, i < n → f i = g i) → sN f n = sN g n
  | 0, _ => rfl
  | n + 1, h => by unfold sN; rw [sN_cong (fun i hi => h i (by omega)), h n (by omega)]
theorem sN_add (f g : Nat → Nat) : ∀ n, sN (fun i => f i + g i) n = sN f n + sN g n
  | 0 => rfl
  | n + 1 => by unfold sN; rw [sN_add f g n]; omega
theorem sN_zero {f : Nat → Nat} : ∀ {n : Nat}, (∀ i, i < n → f i = 0) → sN f n = 0
  | 0, _ => rfl
  | n + 1, h => by unfold sN; rw [sN_zero (fun i hi => h i (by omega)), h n (by omega)]
theorem sN_one {n q c : Nat} (hq : q < n) : sN (fun i => if i = q then c else 0) n = c := by
  induction n with
  | zero => omega
  | succ n ih =>
    unfold sN
    by_cases e : q = n
    · subst e
      rw [if_pos rfl, sN_zero (fun i hi => if_neg (by omega))]; omega
    · rw [if_neg (fun h => e h.symm), ih (by omega)]; rfl
theorem sh_adj {w y z : Nat} (hd : dimOk w y z) (E : Nat → Bool) {p : Nat} (hp : p < w * y * z) : shB w y z E p = sN (fun q => if E q then adj w y z p q else 0) (w * y * z) := by
  have key : ∀ k, cntF (fun s => match nb6 w y z p s with | some q => E q | none => false) k = sN (fun q => if E q then cntF (fun s => decide (nb6 w y z p s = some q)) k else 0) (w * y * z) := by
    intro k
    induction k with
    | zero => exact (sN_zero (fun i _ => by show (if E i then 0 else 0) = 0; split <;> rfl)).symm
    | succ k ih =>
      rw [cnt_s, ih]
      have e1 : sN (fun q => if E q then cntF (fun s => decide (nb6 w y z p s = some q)) (k + 1) else 0) (w * y * z) = sN (fun q => (if E q then cntF (fun s => decide (nb6 w y z p s = some q)) k else 0) + (if E q then (if nb6 w y z p k = some q then 1 else 0) else 0)) (w * y * z) := by
        apply sN_cong
        intro q _
        rw [cnt_s]
        by_cases c : E q = true
        · simp only [c, if_true]
          by_cases d : nb6 w y z p k = some q <;> simp [d]
        · simp only [c]; rfl
      rw [e1, sN_add]
      congr 1
      cases hn : nb6 w y z p k with
      | none =>
        rw [sN_zero (fun q _ => by simp)]
        rfl
      | some q =>
        have hq := nb6_lt hd.1.1 hd.2.1.1 hp hn
        have e2 : sN (fun q' => if E q' then (if some q = some q' then 1 else 0) else 0) (w * y * z) = sN (fun q' => if q' = q then (if E q then 1 else 0) else 0) (w * y * z) := by
          apply sN_cong
          intro q' _
          by_cases d : q' = q
          · subst d; simp
          · have d' : ¬ some q = some q' := fun h => d (by injection h with h; exact h.symm)
            rw [if_neg d, if_neg d']
            split <;> rfl
        rw [e2, sN_one hq]
  exact key 6
/-- small rooms: who is beside whom -/
theorem adj_sym : ∀ w, w < 4 → ∀ y, y < 4 → ∀ z, z < 3 → ∀ p, p < w * y * z → ∀ q, q < p → adj w y z p q = adj w y z q p := by decide +kernel
theorem adj_self : ∀ w, w < 4 → ∀ y, y < 4 → ∀ z, z < 3 → ∀ p, p < w * y * z → adj w y z p p = 0 := by decide +kernel
theorem adj_three : ∀ w, w < 4 → ∀ y, y < 4 → ∀ z, z < 3 → ∀ p, p < w * y * z → sN (fun q => adj w y z p q) p ≤ 3 := by decide +kernel
/-- pairs that touch: each place with the lower ones -/
def lo (w y z : Nat) (E : Nat → Bool) (p : Nat) : Nat := sN (fun q => if E q then adj w y z p q else 0) p
def gn (w y z : Nat) (E : Nat → Bool) : Nat → Nat
  | 0 => 0
  | i + 1 => gn w y z E i + if E i then lo w y z E i else 0
def rv (E : Nat → Bool) : Nat → Nat
  | 0 => 0
  | i + 1 => 2 * rv E i + if E i then 1 else 0
def small (w y z : Nat) : Prop := w < 4 ∧ y < 4 ∧ z < 3
theorem lo_le {w y z : Nat} (h : small w y z) (E : Nat → Bool) {p : Nat} (hp : p < w * y * z) : lo w y z E p ≤ 3 := by
  refine Nat.le_trans ?_ (adj_three w h.1 y h.2.1 z h.2.2 p hp)
  unfold lo
  have : ∀ n, sN (fun q => if E q then adj w y z p q else 0) n ≤ sN (fun q => adj w y z p q) n := by
    intro n
    induction n with
    | zero => exact Nat.le_refl _
    | succ n ih =>
      unfold sN
      refine Nat.add_le_add ih ?_
      split
      · exact Nat.le_refl _
      · exact Nat.zero_le _
  exact this p
theorem twice {w y z : Nat} (h : small w y z) (E : Nat → Bool) : ∀ n, n ≤ w * y * z → sN (fun p => if E p then sN (fun q => if E q then adj w y z p q else 0) n else 0) n = 2 * gn w y z E n := by
  intro n
  induction n with
  | zero => intro _; rfl
  | succ n ih =>
    intro hn
    have ih := ih (by omega)
    have e1 : sN (fun p => if E p then sN (fun q => if E q then adj w y z p q else 0) (n + 1) else 0) n = sN (fun p => (if E p then sN (fun q => if E q then adj w y z p q else 0) n else 0) + (if E p then (if E n then adj w y z p n else 0) else 0)) n := by
      apply sN_cong
      intro p _
      by_cases c : E p = true
      · simp only [c, if_true]; rfl
      · simp only [c]; rfl
    have e2 : sN (fun p => if E p then (if E n then adj w y z p n else 0) else 0) n = if E n then lo w y z E n else 0 := by
      by_cases c : E n = true
      · simp only [c, if_true]
        unfold lo
        apply sN_cong
        intro p hp
        rw [adj_sym w h.1 y h.2.1 z h.2.2 n (by omega) p hp]
      · simp only [c]
        rw [sN_zero (fun p _ => by simp)]
        rfl
    have e3 : sN (fun q => if E q then adj w y z n q else 0) (n + 1) = lo w y z E n := by
      show lo w y z E n + (if E n then adj w y z n n else 0) = _
      rw [adj_self w h.1 y h.2.1 z h.2.2 n (by omega)]
      split <;> rfl
    show sN (fun p => if E p then sN (fun q => if E q then adj w y z p q else 0) (n + 1) else 0) n + (if E n then sN (fun q => if E q then adj w y z n q else 0) (n + 1) else 0) = 2 * (gn w y z E n + if E n then lo w y z E n else 0)
    rw [e1, sN_add, ih, e2, e3]
    omega
def airB (w y z : Nat) (E : Nat → Bool) (n : Nat) : Nat := sN (fun p => if E p then 6 - shB w y z E p else 0) n
theorem air_gn {w y z : Nat} (hd : dimOk w y z) (h : small w y z) (E : Nat → Bool) : airB w y z E (w * y * z) + 2 * gn w y z E (w * y * z) = 6 * cntF E (w * y * z) := by
  have e0 : sN (fun p => if E p then shB w y z E p else 0) (w * y * z) = 2 * gn w y z E (w * y * z) := by
    rw [← twice h E (w * y * z) (Nat.le_refl _)]
    apply sN_cong
    intro p hp
    rw [sh_adj hd E hp]
  have key : ∀ n, airB w y z E n + sN (fun p => if E p then shB w y z E p else 0) n = 6 * cntF E n := by
    intro n
    induction n with
    | zero => rfl
    | succ n ih =>
      have hle : shB w y z E n ≤ 6 := cntF_le _ 6
      show (airB w y z E n + if E n then 6 - shB w y z E n else 0) + (sN (fun p => if E p then shB w y z E p else 0) n + if E n then shB w y z E n else 0) = 6 * (cntF E n + if E n then 1 else 0)
      by_cases c : E n = true
      · simp only [c, if_true]; omega
      · simp only [c]
        show (airB w y z E n + 0) + (sN (fun p => if E p then shB w y z E p else 0) n + 0) = 6 * (cntF E n + 0)
        omega
  rw [← e0]
  exact key _
