theorem dec_ok {v : UInt32} (h : okF v) : FP.Core.val32 v = .fin (decide (2 ^ 31 ≤ v.toNat)) (if v.toNat / 2 ^ 23 % 256 = 0 then v.toNat % 2 ^ 23 else 2 ^ 23 + v.toNat % 2 ^ 23) (if v.toNat / 2 ^ 23 % 256 = 0 then -149 else ((v.toNat / 2 ^ 23 % 256 : Nat) : Int) - 150) := by
  have hm := okF_m h
  have hlt : v.toNat < 2 ^ 32 := v.toNat_lt
  have hE : FP.Core.fieldE FP.Core.b32 v.toNat = v.toNat / 2 ^ 23 % 256 := rfl
  have hT : FP.Core.fieldT FP.Core.b32 v.toNat = v.toNat % 2 ^ 23 := rfl
  have hS : FP.Core.fieldS FP.Core.b32 v.toNat = decide (2 ^ 31 ≤ v.toNat) := by
    show (v.toNat / 2 ^ 23 / 2 ^ 8 % 2 == 1) = _
    by_cases c : 2 ^ 31 ≤ v.toNat
    · have : v.toNat / 2 ^ 23 / 2 ^ 8 % 2 = 1 := by omega
      rw [this]; simp [c]
    · have : v.toNat / 2 ^ 23 / 2 ^ 8 % 2 = 0 := by omega
      rw [this]; simp [c]
  have h1 : ¬ v.toNat / 2 ^ 23 % 256 = 256 - 1 := by omega
  show FP.Core.decode FP.Core.b32 v.toNat = _
  unfold FP.Core.decode
  rw [hE, hT, hS, show FP.Core.b32.exps = 256 from rfl, if_neg h1, qmin32, show FP.Core.b32.tails = 2 ^ 23 from rfl]
  by_cases c : v.toNat / 2 ^ 23 % 256 = 0
  · simp only [c, if_true]
  · simp only [c, if_false]
    congr 1
    omega
theorem v32_0y {y : UInt32} (h : FP.Core.val32 y = .fin false 0 (-149)) : y = 0 := by
  refine FP.Core.val32_inj (by rw [h]; exact FP.Core.Datum.noConfusion) ?_
  rw [h, FP.Core.val32_zero, qmin32]
theorem ten_00 : tenF (FP.fsub FP.fconst0 0) = tenF 2147483648 ∧ FP.Core.FFin (FP.fsub FP.fconst0 0) ∧ nn32 (FP.fsub FP.fconst0 0) = true := by
  refine ⟨by decide +kernel, ?_, by decide +kernel⟩
  rw [FP.Core.fin_bits32]
  decide +kernel
theorem num_end (σ : Sg) {v : Int32} {c e : Nat} (hc : c < 2 ^ 24) (he : 1 ≤ e) (he2 : e ≤ 150) (hv : FP.Core.val32 v.toUInt32 = .fin (decide (2 ^ 31 ≤ v.toUInt32.toNat)) c ((e : Int) - 150)) : ∃ y, fCalendar_numberOf_39 FU σ v (FP.i2f (nI c)) (nI e) = some y ∧ FP.Core.FFin y ∧ tenF y = tenF v.toUInt32 := by
  have h0 : FP.Core.val32 (FP.i2f (nI c)) = FP.Core.round FP.Core.b32 (.fin false c 0) := by
    show FP.Core.val32 (FP.Core.i2f (nI c)) = _
    rw [FP.Core.val32_i2f, nI_toInt (by omega)]
    rfl
  obtain ⟨y, y1, y2⟩ := num_loop σ v hc (150 - e) e FU (FP.i2f (nI c)) 0 (by omega) (by unfold FU; omega) (by omega) (by omega) h0
  have hf : FP.Core.fits FP.Core.b32 (.fin false c ((e : Int) - 150)) := by
    have := FP.Core.val32_fits v.toUInt32
    rw [hv] at this
    exact this
  have y1 : FP.Core.val32 y = .fin false c ((e : Int) - 150) := by
    rw [y1, show (0 : Int) - ((150 - e : Nat) : Int) = (e : Int) - 150 by omega]
    exact FP.Core.round_of_fits FP.Core.good_b32 hf
  have yn : FP.Core.val32 y ≠ .nan := by rw [y1]; exact FP.Core.Datum.noConfusion
  rw [y2]
  unfold numE
  by_cases hs : 0 ≤ v
  · rw [if_pos hs]
    have := (nonneg_u v).mp hs
    have e1 : y = v.toUInt32 := FP.Core.val32_inj yn (by rw [y1, hv]; congr 1; exact (decide_eq_false (by omega)).symm)
    exact ⟨y, rfl, ⟨_, _, _, y1⟩, by rw [e1]⟩
  · rw [if_neg hs]
    have hn : 2 ^ 31 ≤ v.toUInt32.toNat := Nat.le_of_not_lt (fun q => hs ((nonneg_u v).mpr q))
    rw [decide_eq_true hn] at hv
    by_cases c0 : c = 0
    · subst c0
      have q0 : (e : Int) - 150 = -149 := by
        have := FP.Core.fits_zero_q FP.Core.good_b32 hf
        rwa [qmin32] at this
      rw [q0] at y1 hv
      have ey := v32_0y y1
      have ev : v.toUInt32 = 2147483648 := FP.Core.val32_inj (by rw [hv]; exact FP.Core.Datum.noConfusion) (by rw [hv]; decide +kernel)
      rw [ey, ev, ten_00.2.2]
      exact ⟨_, rfl, ten_00.2.1, ten_00.1⟩
    · have e1 : FP.fsub FP.fconst0 y = v.toUInt32 := by
        have hneg : FP.Core.val32 (FP.Core.fneg y) = .fin true c ((e : Int) - 150) := by
          rw [FP.Core.val32_fneg, y1]
          rfl
        have hnn : FP.Core.val32 (FP.Core.fneg y) ≠ .nan := by rw [hneg]; exact FP.Core.Datum.noConfusion
        show FP.Core.fsub FP.Core.fconst0 y = _
        rw [FP.Core.fsub_eq, FP.Core.fadd_comm, FP.Core.fadd_zero hnn ?_]
        · exact FP.Core.val32_inj hnn (by rw [hneg, hv])
        · intro q
          rw [q, FP.Core.val32_fzeroNeg] at hneg
          injection hneg with _ q2 _
          exact c0 q2.symm
      rw [e1, nn_val (by rw [hv]; exact FP.Core.Datum.noConfusion)]
      exact ⟨_, rfl, ⟨_, _, _, hv⟩, rfl⟩
theorem num_c (σ : Sg) {v : Int32} (h : okF v.toUInt32) : ∃ y, fCalendar_numberOf σ v = some y ∧ FP.Core.FFin y ∧ tenF y = tenF v.toUInt32 := by
  have hd := dec_ok h
  have hm := okF_m h
  have hT : v.toUInt32.toNat % 2 ^ 23 < 2 ^ 23 := Nat.mod_lt _ (by decide)
  unfold fCalendar_numberOf fCalendar_numberOf_0
  rw [ub_E, lt_v, ub_T, lt_v]
  have hE : v.toUInt32.toNat / 2 ^ 23 % 256 ≤ 132 := by omega
  generalize v.toUInt32.toNat / 2 ^ 23 % 256 = E at *
  generalize v.toUInt32.toNat % 2 ^ 23 = T at *
  by_cases c : E = 0
  · subst c
    rw [if_pos rfl, if_pos rfl] at hd
    rw [if_pos (by rfl)]
    unfold fCalendar_numberOf_26 fCalendar_numberOf_37
    rw [lt_v, if_pos (by rfl)]
    exact num_end σ (c := T) (e := 1) (by omega) (by omega) (by omega) hd
  · rw [if_neg c, if_neg c] at hd
    have c' : ¬ nI E = 0 := fun q => c ((nI_inj0 (by omega)).mp q)
    rw [if_neg c', ub_O hT]
    unfold fCalendar_numberOf_26 fCalendar_numberOf_37
    rw [lt_v, if_neg c']
    exact num_end σ (c := 2 ^ 23 + T) (e := E) (by omega) (by omega) (by omega) hd
/-! the days that follow carry on -/
theorem carry_loop : ∀ (m d n : Nat) (σ : Sg), d + m = 200 → m < n → ∃ f, fCalendar_carryOnFrom_2 n σ (nI d) = some (upA σ 6 10 f) ∧ (∀ j, j < d → f j = σ 6 10 j) ∧ ∀ j, d ≤ j → j < 200 → f j = if σ 6 9 j = 0 then (if j = 0 then 0 else f (j - 1)) else σ 6 10 j := by
  intro m
  induction m with
  | zero =>
    intro d n σ hd hn
    obtain ⟨n, rfl⟩ : ∃ k, n = k + 1 := ⟨n - 1, by omega⟩
    have e0 : d = 200 := by omega
    subst e0
    have k : (199 : Int32) < nI 200 := by decide
    refine ⟨σ 6 10, ?_, fun _ _ => rfl, fun j h1 h2 => absurd h1 (by omega)⟩
    simp only [fCalendar_carryOnFrom_2, fCalendar_carryOnFrom_2_b, k, ↓reduceIte, upA_id]
  | succ m ih =>
    intro d n σ hd hn
    obtain ⟨n, rfl⟩ : ∃ k, n = k + 1 := ⟨n - 1, by omega⟩
    have k : ¬ (199 : Int32) < nI d := by
      have q1 : (199 : Int32) = nI 199 := rfl
      rw [q1]
      intro h
      have h := Int32.lt_iff_toInt_lt.mp h
      rw [nI_toInt (by omega), nI_toInt (by omega)] at h
      omega
    have hib : ib (nI d) 200 = true := ib_nI (by omega) (by decide)
    have hcl : (nI d).toNatClampNeg = d := nI_clamp (by omega)
    have k2 : nI d + 1 = nI (d + 1) := nI_add d 1
    by_cases c : σ 6 9 d = 0
    · have step : ∀ t : Int32, (t = if d = 0 then 0 else σ 6 10 (d - 1)) → ∃ f, fCalendar_carryOnFrom_2 n (upA σ 6 10 (upd (σ 6 10) d t)) (nI (d + 1)) = some (upA σ 6 10 f) ∧ (∀ j, j < d → f j = σ 6 10 j) ∧ ∀ j, d ≤ j → j < 200 → f j = if σ 6 9 j = 0 then (if j = 0 then 0 else f (j - 1)) else σ 6 10 j := by
        intro t ht
        obtain ⟨f, f1, f2, f3⟩ := ih (d + 1) n (upA σ 6 10 (upd (σ 6 10) d t)) (by omega) (by omega)
        rw [upA_upA] at f1
        rw [upA_same] at f2 f3
        have f3 : ∀ j, d + 1 ≤ j → j < 200 → f j = if σ 6 9 j = 0 then (if j = 0 then 0 else f (j - 1)) else upd (σ 6 10) d t j := f3
        refine ⟨f, f1, fun j hj => ?_, fun j h1 h2 => ?_⟩
        · rw [f2 j (by omega), upd_r, if_neg (by omega)]
        · by_cases e : j = d
          · subst e
            rw [f2 j (by omega), upd_r, if_pos rfl, if_pos c, ht]
            by_cases z : j = 0
            · rw [if_pos z, if_pos z]
            · rw [if_neg z, if_neg z, f2 (j - 1) (by omega), upd_r, if_neg (by omega)]
          · rw [f3 j (by omega) h2, upd_r, if_neg e]
      by_cases z : d = 0
      · subst z
        obtain ⟨f, f1, f2⟩ := step 0 (by rw [if_pos rfl])
        refine ⟨f, ?_, f2⟩
        have z' : nI 0 = 0 := rfl
        rw [← f1, fCalendar_carryOnFrom_2, fCalendar_carryOnFrom_2_b, if_neg k, hib, gd_t, hcl, if_pos c, if_pos z', fCalendar_carryOnFrom_39, hib, gd_t, lt_v, hcl, fCalendar_carryOnFrom_40, lt_v, k2]
      · obtain ⟨f, f1, f2⟩ := step (σ 6 10 (d - 1)) (by rw [if_neg z])
        refine ⟨f, ?_, f2⟩
        have z' : ¬ nI d = 0 := fun q => z ((nI_inj0 (by omega)).mp q)
        obtain ⟨d', rfl⟩ : ∃ k, d = k + 1 := ⟨d - 1, by omega⟩
        have hib' : ib (nI d') 200 = true := ib_nI (by omega) (by decide)
        have hcl' : (nI d').toNatClampNeg = d' := nI_clamp (by omega)
        rw [← f1]
        simp only [fCalendar_carryOnFrom_2, fCalendar_carryOnFrom_2_b, k, hib, hcl, c, gd_t, fCalendar_carryOnFrom_39, fCalendar_carryOnFrom_40, lt_v, k2, z', nI_pred, hib', hcl', ↓reduceIte, Nat.add_sub_cancel]
    · obtain ⟨f, f1, f2, f3⟩ := ih (d + 1) n σ (by omega) (by omega)
      refine ⟨f, ?_, fun j hj => f2 j (by omega), fun j h1 h2 => ?_⟩
      · rw [← f1]
        simp only [fCalendar_carryOnFrom_2, fCalendar_carryOnFrom_2_b, k, hib, hcl, c, gd_t, fCalendar_carryOnFrom_40, lt_v, k2, ↓reduceIte]
      · by_cases e : j = d
        · subst e
          rw [f2 j (by omega), if_neg c]
        · exact f3 j (by omega) h2
theorem tenD_rd {rd out : Nat → Int32} {j : Nat} (h : ¬ rd j = 0) : tenD rd out j = tenF (out j).toUInt32 := by
  cases j <;> (unfold tenD; rw [if_neg h])
theorem tenD_no {rd out : Nat → Int32} {j : Nat} (h : rd j = 0) : tenD rd out j = if j = 0 then 0 else tenD rd out (j - 1) := by
  cases j with
  | zero => unfold tenD; rw [if_pos h, if_pos rfl]
  | succ j => rw [if_neg (by omega)]; show tenD rd out (j + 1) = tenD rd out j; conv => lhs; unfold tenD
              rw [if_pos h]
theorem tenD_pre {rd out rd' out' : Nat → Int32} : ∀ j, (∀ i, i ≤ j → rd i = rd' i ∧ out i = out' i) → tenD rd out j = tenD rd' out' j := by
  intro j
  induction j with
  | zero => intro h; unfold tenD; rw [(h 0 (Nat.le_refl 0)).1, (h 0 (Nat.le_refl 0)).2]
  | succ j ih =>
    intro h
    unfold tenD
    rw [(h (j + 1) (Nat.le_refl _)).1, (h (j + 1) (Nat.le_refl _)).2, ih (fun i hi => h i (by omega))]
