/-! the class tries: branch and bound -/
theorem nar01 (b : Bool) : vp_nar .boolean (i01 b) = i01 b := by cases b <;> decide
theorem i01_z (b : Bool) : i01 b = 0 ↔ b = false := by cases b <;> decide
theorem keep_loop {w y z : Nat} (hd : dimOk w y z) {C : Nat → Bool} : ∀ m i n (σ : Sg), i + m = w * y * z → m < n → PK σ w y z → (∀ q, q < w * y * z → σ 10 1 q = i01 (C q)) → (∀ q, q < i → σ 10 2 q = i01 (C q)) → ∃ f, fPacker_keepChosen_2 n σ (nI i) = some (upA σ 10 2 f) ∧ ∀ q, q < w * y * z → f q = i01 (C q) := by
  have hs := hd.s
  intro m
  induction m with
  | zero =>
    intro i n σ hi hn hP h1 h2
    obtain ⟨n, rfl⟩ : ∃ k, n = k + 1 := ⟨n - 1, by omega⟩
    refine ⟨σ 10 2, ?_, fun q hq => h2 q (by omega)⟩
    rw [fPacker_keepChosen_2, fPacker_keepChosen_2_b, hP.2.2.2, if_pos (nI_le (by omega) (by omega)), upA_id]
  | succ m ih =>
    intro i n σ hi hn hP h1 h2
    obtain ⟨n, rfl⟩ : ∃ k, n = k + 1 := ⟨n - 1, by omega⟩
    obtain ⟨f, f1, f2⟩ := ih (i + 1) n (upA σ 10 2 (upd (σ 10 2) i (i01 (C i)))) (by omega) (by omega) hP h1 (fun q hq => by
      rw [upA_same, upd_r]
      by_cases e : q = i
      · rw [if_pos e, e]
      · rw [if_neg e]; exact h2 q (by omega))
    rw [upA_upA] at f1
    refine ⟨f, ?_, f2⟩
    rw [fPacker_keepChosen_2, fPacker_keepChosen_2_b, hP.2.2.2, if_neg (nI_ge (by omega) (by omega)), ib_nI (show i < 180 by omega) (by decide), gd_t, gd_t, lt_v, lt_v, nI_1, nI_clamp (by omega), h1 i (by omega), nar01, ← f1]
theorem keep_c {w y z : Nat} (hd : dimOk w y z) {C : Nat → Bool} {σ : Sg} (hP : PK σ w y z) (h1 : ∀ q, q < w * y * z → σ 10 1 q = i01 (C q)) : ∃ f, fPacker_keepChosen σ = some (upA σ 10 2 f) ∧ ∀ q, q < w * y * z → f q = i01 (C q) := by
  have hs := hd.s
  exact keep_loop hd (w * y * z) 0 FU σ (by omega) (by unfold FU; omega) hP h1 (fun q hq => absurd hq (Nat.not_lt_zero q))
/-- what a try from p on ends in -/
def TO (w y z N : Nat) (C : Nat → Bool) (p : Nat) (σ σ' : Sg) : Prop := PK σ' w y z ∧ (∀ s, s ≠ 10 → σ' s = σ s) ∧ (∀ q, q < w * y * z → σ' 10 1 q = i01 (C q)) ∧ (-1 ≤ (σ' 10 0 4).toInt ∧ (σ' 10 0 4).toInt ≤ 1000) ∧ Res w y z (σ 10 0 4).toInt (σ' 10 0 4).toInt (σ 10 2) (σ' 10 2) (Ext w y z N C p)
/-- what a try from p on begins with -/
def TI (w y z N : Nat) (C : Nat → Bool) (p left : Nat) (σ : Sg) : Prop := PK σ w y z ∧ (∀ q, q < w * y * z → σ 10 1 q = i01 (C q)) ∧ (-1 ≤ (σ 10 0 4).toInt ∧ (σ 10 0 4).toInt ≤ 1000) ∧ p ≤ w * y * z ∧ (∀ q, p ≤ q → C q = false) ∧ cntF C p + left = N ∧ ∀ q, q < p → C q = true → w * y ≤ q → C (q - w * y) = true
theorem lo_sh {w y z : Nat} (hd : dimOk w y z) (hs : small w y z) {C : Nat → Bool} {i : Nat} (hi : i < w * y * z) (hC : ∀ q, i ≤ q → C q = false) {A : Nat → Int32} (hA : ∀ q, q < w * y * z → A q = i01 (addB C i q)) : shN w y z A i = lo w y z C i := by
  rw [shN_B, sh_adj hd _ hi]
  have e1 : sN (fun q => if cho A q then adj w y z i q else 0) (w * y * z) = sN (fun q => if C q then adj w y z i q else 0) (w * y * z) := by
    apply sN_cong
    intro q hq
    have e : cho A q = addB C i q := by
      unfold cho
      rw [hA q hq]
      cases addB C i q <;> decide
    rw [e]
    unfold addB
    by_cases c : q = i
    · subst c
      rw [if_pos rfl, adj_self w hs.1 y hs.2.1 z hs.2.2 q hq]
      simp
    · rw [if_neg c]
  rw [e1]
  unfold lo
  obtain ⟨m, hm⟩ : ∃ m, w * y * z = i + m := ⟨w * y * z - i, by omega⟩
  rw [hm]
  clear hm e1
  induction m with
  | zero => rfl
  | succ m ih =>
    show sN (fun q => if C q then adj w y z i q else 0) (i + m) + (if C (i + m) then adj w y z i (i + m) else 0) = _
    rw [hC (i + m) (by omega), ih]
    rfl
theorem gn_small {w y z : Nat} (hs : small w y z) (E : Nat → Bool) {i : Nat} (hi : i ≤ w * y * z) : gn w y z E i ≤ 3 * i := by
  have := gn_le hs E 0 i (by omega)
  rw [Nat.zero_add] at this
  have e0 : gn w y z E 0 = 0 := rfl
  have e1 : cntF E 0 = 0 := rfl
  have := cntF_le E i
  omega
theorem try_loop {w y z N left : Nat} (hd : dimOk w y z) (hs : small w y z) (hl : left + 1 ≤ 8) {slf : Sg → Int32 → Int32 → Int32 → Option Sg} (hslf : ∀ p C σ, TI w y z N C p left σ → ∃ σ', slf σ (nI p) (nI left) (nI (gn w y z C p)) = some σ' ∧ TO w y z N C p σ σ') {C : Nat → Bool} : ∀ m i n (σ : Sg), i + m = w * y * z - left → m < n → TI w y z N C i (left + 1) σ → ∃ σ', fPacker_tryFrom_36 slf n σ (nI (left + 1)) (nI (gn w y z C i)) (nI i) = some σ' ∧ TO w y z N C i σ σ' := by
  have hz := hd.s
  intro m
  induction m with
  | zero =>
    intro i n σ hi hn hT
    obtain ⟨n, rfl⟩ : ∃ k, n = k + 1 := ⟨n - 1, by omega⟩
    obtain ⟨hP, h1, h4, hp, hC, hN, hst⟩ := hT
    refine ⟨σ, ?_, hP, fun _ _ => rfl, h1, h4, Or.inl ⟨rfl, fun _ _ => rfl, fun E hE => ?_⟩⟩
    · have e1 : (nI (w * y * z) - nI (left + 1)).toInt < (nI i).toInt := by
        rw [pk_sub_toInt (by omega) (by omega), nI_toInt (by omega)]
        omega
      rw [fPacker_tryFrom_36, fPacker_tryFrom_36_b, hP.2.2.2, if_pos (Int32.lt_iff_toInt_lt.mpr e1)]
    · exfalso
      obtain ⟨⟨a1, -⟩, a2⟩ := hE
      have a3 := cnt_cong a2
      obtain ⟨j, hj⟩ : ∃ j, w * y * z = i + j := ⟨w * y * z - i, by omega⟩
      have a4 := (cnt_up E i j).1
      rw [← hj] at a4
      omega
  | succ m ih =>
    intro i n σ hi hn hT
    obtain ⟨n, rfl⟩ : ∃ k, n = k + 1 := ⟨n - 1, by omega⟩
    have hT0 := hT
    obtain ⟨hP, h1, h4, hp, hC, hN, hst⟩ := hT
    have hlt : i < w * y * z := by omega
    have hCi : C i = false := hC i (Nat.le_refl i)
    have gC1 : gn w y z C (i + 1) = gn w y z C i := (gn_tail hC 1).1
    have cC1 : cntF C (i + 1) = cntF C i := (gn_tail (w := w) (y := y) (z := z) hC 1).2
    have next : ∀ τ : Sg, PK τ w y z → (∀ q, q < w * y * z → τ 10 1 q = i01 (C q)) → (-1 ≤ (τ 10 0 4).toInt ∧ (τ 10 0 4).toInt ≤ 1000) → ∃ σ', fPacker_tryFrom_36 slf n τ (nI (left + 1)) (nI (gn w y z C i)) (nI (i + 1)) = some σ' ∧ TO w y z N C (i + 1) τ σ' := by
      intro τ t1 t2 t3
      rw [← gC1]
      refine ih (i + 1) n τ (by omega) (by omega) ⟨t1, t2, t3, by omega, fun q hq => hC q (by omega), by rw [cC1]; exact hN, fun q hq => ?_⟩
      by_cases e : q = i
      · subst e; intro h; rw [hCi] at h; cases h
      · exact hst q (by omega)
    have e1 : ¬ (nI (w * y * z) - nI (left + 1)) < nI i := by
      rw [Int32.lt_iff_toInt_lt, pk_sub_toInt (by omega) (by omega), nI_toInt (by omega)]
      omega
    rw [fPacker_tryFrom_36, fPacker_tryFrom_36_b, hP.2.2.2, if_neg e1, bears_pk hd hlt hP, bp_s]
    by_cases c : w * y ≤ i ∧ σ 10 1 (i - w * y) = 0
    · obtain ⟨σ', f1, t1, t2, t3, t4, t5⟩ := next σ hP h1 h4
      rw [if_pos c, if_pos rfl, fPacker_tryFrom_91, lt_v, nI_1]
      refine ⟨σ', f1, t1, t2, t3, t4, t5.iff (fun E => ⟨fun h => ⟨h.1, fun q hq => ?_⟩, fun h => ⟨h.1, fun q hq => h.2 q (by omega)⟩⟩)⟩
      by_cases e : q = i
      · subst e
        rw [hCi]
        cases hE : E q
        · rfl
        · have a1 := h.1.2 q hlt hE c.1
          rw [h.2 (q - w * y) (by omega)] at a1
          have a2 := c.2
          rw [h1 (q - w * y) (by omega), a1] at a2
          exact absurd a2 (by decide)
      · exact h.2 q (by omega)
    · have n1 : vp_nar .boolean 1 = 1 := by decide
      have n0 : vp_nar .boolean 0 = 0 := by decide
      have hib : ib (nI i) 180 = true := ib_nI (by omega) (by decide)
      have hcl : (nI i).toNatClampNeg = i := nI_clamp (by omega)
      have hA : ∀ q, q < w * y * z → upA σ 10 1 (upd (σ 10 1) i 1) 10 1 q = i01 (addB C i q) := by
        intro q hq
        rw [upA_same, upd_r]
        unfold addB
        by_cases e : q = i
        · rw [if_pos e, if_pos e]; rfl
        · rw [if_neg e, if_neg e]; exact h1 q hq
      have hP4 : PK (upA σ 10 1 (upd (σ 10 1) i 1)) w y z := hP
      have hsh := shut_c hd hlt hP4
      rw [lo_sh hd hs hlt hC hA] at hsh
      have aC : ∀ q, q < i → addB C i q = C q := fun q hq => by unfold addB; rw [if_neg (by omega)]
      have ai : addB C i i = true := by unfold addB; rw [if_pos rfl]
      have gA : gn w y z (addB C i) (i + 1) = gn w y z C i + lo w y z C i := by
        show gn w y z (addB C i) i + (if addB C i i then lo w y z (addB C i) i else 0) = _
        rw [ai, gn_cong i aC, lo_cong aC]
        simp
      have cA : cntF (addB C i) (i + 1) = cntF C i + 1 := by
        show cntF (addB C i) i + (if addB C i i then 1 else 0) = _
        rw [ai, cnt_cong aC]
        simp
      obtain ⟨σ6, s1, u1, u2, u3, u4, u5⟩ := hslf (i + 1) (addB C i) (upA σ 10 1 (upd (σ 10 1) i 1)) ⟨hP4, hA, h4, by omega, fun q hq => by unfold addB; rw [if_neg (by omega)]; exact hC q (by omega), by rw [cA]; omega, fun q hq hE hF => by
        have hne : ¬ q - w * y = i := by omega
        by_cases e : q = i
        · subst e
          rw [aC _ (by omega)]
          cases hE2 : C (q - w * y)
          · exact absurd ⟨hF, by rw [h1 _ (by omega), hE2]; rfl⟩ c
          · rfl
        · rw [aC _ (by omega)]
          rw [aC q (by omega)] at hE
          exact hst q (by omega) hE hF⟩
      rw [gA] at s1
      have hA7 : ∀ q, q < w * y * z → upA σ6 10 1 (upd (σ6 10 1) i 0) 10 1 q = i01 (C q) := by
        intro q hq
        rw [upA_same, upd_r]
        by_cases e : q = i
        · rw [if_pos e, e, hCi]; rfl
        · rw [if_neg e, u3 q hq]
          unfold addB
          rw [if_neg e]
      obtain ⟨σ', f1, t1, t2, t3, t4, t5⟩ := next (upA σ6 10 1 (upd (σ6 10 1) i 0)) u1 hA7 u4
      have k1 : ¬ (1 : Int32) = 0 := by decide
      have l1 : nI (left + 1) - 1 = nI left := nI_pred left
      rw [if_neg c, if_neg k1, hib, gd_t, lt_v, hcl, n1, hsh, bp_s, nI_1, l1, nI_add, s1, bp_s, gd_t, lt_v, n0, fPacker_tryFrom_91, lt_v, nI_1]
      refine ⟨σ', f1, t1, fun s hs => ?_, t3, t4, ?_⟩
      · rw [t2 s hs, upA_o _ _ _ hs, u2 s hs, upA_o _ _ _ hs]
      · refine Res.comb (b1 := (σ6 10 0 4).toInt) (B1 := σ6 10 2) u5 t5 (fun E E' hE hE' => ?_) (fun E => ⟨fun h => ?_, fun h => ?_⟩)
        · refine rv_lt (j := i) (fun p hp => ?_) ?_ ?_ _ hlt
          · rw [hE.2 p (by omega), hE'.2 p (by omega), aC p hp]
          · rw [hE.2 i (by omega), ai]
          · rw [hE'.2 i (by omega), hCi]
        · cases hE : E i
          · refine Or.inr ⟨h.1, fun q hq => ?_⟩
            by_cases e : q = i
            · rw [e, hE, hCi]
            · exact h.2 q (by omega)
          · refine Or.inl ⟨h.1, fun q hq => ?_⟩
            by_cases e : q = i
            · rw [e, hE, ai]
            · rw [h.2 q (by omega), aC q (by omega)]
        · rcases h with h | h
          · exact ⟨h.1, fun q hq => by rw [h.2 q (by omega), aC q hq]⟩
          · exact ⟨h.1, fun q hq => h.2 q (by omega)⟩
