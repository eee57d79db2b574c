theorem cal_new {rd tn mr mo g f : Nat → Int32} {d : Nat} {x b : Int32} (h : IvCal rd tn mr mo) (hx : x = 0 ∨ x = 1) (hb : okF b.toUInt32) (hg : ∀ j, j ≠ d → g j = tn j) (hgd : ¬ x = 0 → g d = tenF b.toUInt32) (h1 : ∀ j, j < d → f j = g j) (h2 : ∀ j, d ≤ j → j < 200 → f j = if upd rd d x j = 0 then (if j = 0 then 0 else f (j - 1)) else g j) : IvCal (upd rd d x) f (upd mr d x) (upd mo d b) := by
  have hrd : ∀ j, j < 200 → upd rd d x j = upd mr d x j := by
    intro j hj
    rw [upd_r, upd_r]
    split
    · rfl
    · exact (h j hj).1
  have hf : ∀ j, j < 200 → f j = tenD (upd mr d x) (upd mo d b) j := by
    intro j
    induction j using Nat.strongRecOn with
    | _ j ih =>
      intro hj
      by_cases c : j < d
      · rw [h1 j c, hg j (by omega), (h j hj).2.2.2]
        refine tenD_pre j (fun i hi => ?_)
        rw [upd_r, upd_r, if_neg (by omega), if_neg (by omega)]
        exact ⟨rfl, rfl⟩
      · rw [h2 j (by omega) hj, hrd j hj]
        by_cases z : upd mr d x j = 0
        · rw [if_pos z, tenD_no z]
          by_cases j0 : j = 0
          · rw [if_pos j0, if_pos j0]
          · rw [if_neg j0, if_neg j0]
            exact ih (j - 1) (by omega) (by omega)
        · rw [if_neg z, tenD_rd z]
          rw [upd_r] at z
          rw [upd_r]
          by_cases e : j = d
          · rw [if_pos e] at z ⊢
            rw [e]
            exact hgd z
          · rw [if_neg e] at z ⊢
            rw [hg j e, (h j hj).2.2.2, tenD_rd z]
  intro j hj
  refine ⟨hrd j hj, ?_, ?_, hf j hj⟩
  · rw [upd_r]
    split
    · exact hx
    · exact (h j hj).2.1
  · rw [upd_r]
    split
    · exact hb
    · exact (h j hj).2.2.1
theorem tell58 (σ : Sg) {d : Nat} (hd : d < 200) : ∃ f, fCalendar_tell_58 σ (nI d) = some (1, upA σ 6 10 f) ∧ (∀ j, j < d → f j = σ 6 10 j) ∧ ∀ j, d ≤ j → j < 200 → f j = if σ 6 9 j = 0 then (if j = 0 then 0 else f (j - 1)) else σ 6 10 j := by
  obtain ⟨f, f1, f2⟩ := carry_loop (200 - d) d FU σ (by omega) (by unfold FU; omega)
  refine ⟨f, ?_, f2⟩
  unfold fCalendar_tell_58 fCalendar_carryOnFrom fCalendar_carryOnFrom_0
  rw [f1, bp_s]
theorem cmp_val {t : UInt32} (h : t.toNat % 2 ^ 31 ≤ 2139095040) : FP.Core.val32 t ≠ .nan := by
  intro q
  have h3 : ¬ (t &&& 0x7fffffff ≤ 0x7f800000) := by
    intro _
    have hn := FP.Core.decode_nan (f := FP.Core.b32) t.toNat
    have := hn.mp q
    have e := FP.Core.infBits_b32
    have e2 := FP.Core.mag_toNat32 t
    omega
  exact h3 (UInt32.le_iff_toNat_le.mpr (by rw [FP.Core.mask_toNat32]; exact h))
theorem nn_60 : FP.Core.val32 1114636288 ≠ .nan ∧ FP.Core.val32 3262119936 ≠ .nan := by
  constructor <;> exact cmp_val (by decide)
theorem cv_lt (o : Option Ordering) : Op.cmpValue o .l < 0 ↔ o = some .lt ∨ o = none := by
  rcases o with _ | _ | _ | _ <;> decide
theorem cv_le (o : Option Ordering) : Op.cmpValue o .g ≤ 0 ↔ o = some .lt ∨ o = some .eq := by
  rcases o with _ | _ | _ | _ <;> decide
theorem key_c (t : UInt32) : FP.Core.fkey t = if 2 ^ 31 ≤ t.toNat then -((t.toNat % 2 ^ 31 : Nat) : Int) else ((t.toNat % 2 ^ 31 : Nat) : Int) := by
  have := t.toNat_lt
  unfold FP.Core.fkey
  split <;> omega
theorem key_60 : FP.Core.fkey 1114636288 = 1114636288 ∧ FP.Core.fkey 3262119936 = -1114636288 := by decide
theorem cmp_lo {t : UInt32} (h : t.toNat % 2 ^ 31 ≤ 2139095040) : Op.cmpValue (FP.fcmp t 3262119936) .l < 0 ↔ 2 ^ 31 ≤ t.toNat ∧ 1114636288 < t.toNat % 2 ^ 31 := by
  rw [cv_lt]
  show FP.Core.fcmp t 3262119936 = some .lt ∨ FP.Core.fcmp t 3262119936 = none ↔ _
  rw [FP.Core.fcmp_lt_key (cmp_val h) nn_60.2, FP.Core.fcmp_none, key_60.2, key_c]
  have a1 := cmp_val h
  have a2 := nn_60.2
  constructor
  · rintro (q | q | q)
    · split at q
      · exact ⟨‹_›, by omega⟩
      · omega
    · exact absurd q a1
    · exact absurd q a2
  · rintro ⟨q1, q2⟩
    left
    rw [if_pos q1]
    omega
theorem cmp_hi {t : UInt32} (h : t.toNat % 2 ^ 31 ≤ 2139095040) : Op.cmpValue (FP.fcmp t 1114636288) .g ≤ 0 ↔ 2 ^ 31 ≤ t.toNat ∨ t.toNat % 2 ^ 31 ≤ 1114636288 := by
  rw [cv_le]
  show FP.Core.fcmp t 1114636288 = some .lt ∨ FP.Core.fcmp t 1114636288 = some .eq ↔ _
  rw [FP.Core.fcmp_lt_key (cmp_val h) nn_60.1, FP.Core.fcmp_eq_key (cmp_val h) nn_60.1, key_60.1, key_c]
  split <;> omega
