set_option maxHeartbeats 4000000 in
set_option maxRecDepth 20000 in
theorem in_B {x : Wx} {A : Nat → Prop} {h0 : Nat} {t : State} (h : at_X1 x A h0 t) : ∃ g : Nat → Nat, g 0 = h0 ∧ (∀ (al1 : Nat → Nat → Nat) (lv1 : Nat → Bool), al1 8 = g → ∀ k, isC 8 k = true → va_at x.1 clsL (g k, ent x al1 lv1 8 k (fun _ => 0)) t.heap) ∧ (∀ k k', isC 8 k = true → isC 8 k' = true → g k = g k' → k' = k) ∧ ∀ k, isC 8 k = true → A (g k) := by
  obtain ⟨q1, q2, hP, hD⟩ := h
  have hc : ∀ k, isC 8 k = true → k < 3 := fun k hk => by exact of_decide_eq_true hk
  have hw : ∀ k, isC 8 k = true → ∃ e, ([(h0, .inr (1, [.int 0, .int 0, .ref q1, .ref q2])), (q1, .inl (x.2.1, 1800, .inl (fun _ => 0))), (q2, .inl (x.2.1, 1800, .inl (fun _ => 0)))] : va_W)[([0, 1, 2] : List Nat).getD k 0]? = some (([h0, q1, q2] : List Nat).getD k 0, e) := fun k hk => by
    have hk2 := hc k hk
    match k, hk2 with
    | 0, _ => exact ⟨_, rfl⟩
    | 1, _ => exact ⟨_, rfl⟩
    | 2, _ => exact ⟨_, rfl⟩
    | k + 3, h => exact absurd h (by omega)
  refine ⟨fun k => ([h0, q1, q2] : List Nat).getD k 0, rfl, fun al1 lv1 hg k hk => ?_, fun k k' hk hk' he => ?_, fun k hk => ?_⟩
  · have hk2 := hc k hk
    match k, hk2 with
    | 0, _ => show va_at x.1 clsL (_, .inr (1, [.int ((fun _ => 0) 0), .int ((fun _ => 0) 1), .ref (al1 8 1), .ref (al1 8 2)])) t.heap; rw [hg]; exact hP 0 _ rfl
    | 1, _ => exact hP 1 _ rfl
    | 2, _ => exact hP 2 _ rfl
    | k + 3, h => exact absurd h (by omega)
  · obtain ⟨e1, h1⟩ := hw k hk
    obtain ⟨e2, h2⟩ := hw k' hk'
    have hp := hD.1 _ _ _ _ h1 h2 he
    have key : ∀ a, a < 3 → isC 8 a = true → ∀ b, b < 3 → isC 8 b = true → ([0, 1, 2] : List Nat).getD a 0 = ([0, 1, 2] : List Nat).getD b 0 → b = a := by decide +kernel
    exact key k (hc k hk) hk k' (hc k' hk') hk' hp
  · obtain ⟨e1, h1⟩ := hw k hk
    exact hD.2 _ _ h1
set_option maxHeartbeats 4000000 in
set_option maxRecDepth 20000 in
theorem in_F {x : Wx} {A : Nat → Prop} {h0 : Nat} {t : State} (h : at_X3 x A h0 t) : ∃ g : Nat → Nat, g 0 = h0 ∧ (∀ (al1 : Nat → Nat → Nat) (lv1 : Nat → Bool), al1 9 = g → ∀ k, isC 9 k = true → va_at x.1 clsL (g k, ent x al1 lv1 9 k (fun _ => 0)) t.heap) ∧ (∀ k k', isC 9 k = true → isC 9 k' = true → g k = g k' → k' = k) ∧ ∀ k, isC 9 k = true → A (g k) := by
  obtain ⟨q1, hP, hD⟩ := h
  have hc : ∀ k, isC 9 k = true → k < 2 := fun k hk => by exact of_decide_eq_true hk
  have hw : ∀ k, isC 9 k = true → ∃ e, ([(h0, .inr (3, [.int 0, .int 0, .int 0, .ref q1])), (q1, .inl (x.2.1, 1800, .inl (fun _ => 0)))] : va_W)[([0, 1] : List Nat).getD k 0]? = some (([h0, q1] : List Nat).getD k 0, e) := fun k hk => by
    have hk2 := hc k hk
    match k, hk2 with
    | 0, _ => exact ⟨_, rfl⟩
    | 1, _ => exact ⟨_, rfl⟩
    | k + 2, h => exact absurd h (by omega)
  refine ⟨fun k => ([h0, q1] : List Nat).getD k 0, rfl, fun al1 lv1 hg k hk => ?_, fun k k' hk hk' he => ?_, fun k hk => ?_⟩
  · have hk2 := hc k hk
    match k, hk2 with
    | 0, _ => show va_at x.1 clsL (_, .inr (3, [.int ((fun _ => 0) 0), .int ((fun _ => 0) 1), .int ((fun _ => 0) 2), .ref (al1 9 1)])) t.heap; rw [hg]; exact hP 0 _ rfl
    | 1, _ => exact hP 1 _ rfl
    | k + 2, h => exact absurd h (by omega)
  · obtain ⟨e1, h1⟩ := hw k hk
    obtain ⟨e2, h2⟩ := hw k' hk'
    have hp := hD.1 _ _ _ _ h1 h2 he
    have key : ∀ a, a < 2 → isC 9 a = true → ∀ b, b < 2 → isC 9 b = true → ([0, 1] : List Nat).getD a 0 = ([0, 1] : List Nat).getD b 0 → b = a := by decide +kernel
    exact key k (hc k hk) hk k' (hc k' hk') hk' hp
  · obtain ⟨e1, h1⟩ := hw k hk
    exact hD.2 _ _ h1
set_option maxHeartbeats 4000000 in
set_option maxRecDepth 20000 in
theorem in_P {x : Wx} {A : Nat → Prop} {h0 : Nat} {t : State} (h : at_X7 x A h0 t) : ∃ g : Nat → Nat, g 0 = h0 ∧ (∀ (al1 : Nat → Nat → Nat) (lv1 : Nat → Bool), al1 10 = g → ∀ k, isC 10 k = true → va_at x.1 clsL (g k, ent x al1 lv1 10 k (fun _ => 0)) t.heap) ∧ (∀ k k', isC 10 k = true → isC 10 k' = true → g k = g k' → k' = k) ∧ ∀ k, isC 10 k = true → A (g k) := by
  obtain ⟨q1, q2, hP, hD⟩ := h
  have hc : ∀ k, isC 10 k = true → k < 3 := fun k hk => by exact of_decide_eq_true hk
  have hw : ∀ k, isC 10 k = true → ∃ e, ([(h0, .inr (7, [.int 0, .int 0, .int 0, .int 0, .int 0, .ref q1, .ref q2])), (q1, .inl (x.2.2.1, 180, .inl (fun _ => 0))), (q2, .inl (x.2.2.1, 180, .inl (fun _ => 0)))] : va_W)[([0, 1, 2] : List Nat).getD k 0]? = some (([h0, q1, q2] : List Nat).getD k 0, e) := fun k hk => by
    have hk2 := hc k hk
    match k, hk2 with
    | 0, _ => exact ⟨_, rfl⟩
    | 1, _ => exact ⟨_, rfl⟩
    | 2, _ => exact ⟨_, rfl⟩
    | k + 3, h => exact absurd h (by omega)
  refine ⟨fun k => ([h0, q1, q2] : List Nat).getD k 0, rfl, fun al1 lv1 hg k hk => ?_, fun k k' hk hk' he => ?_, fun k hk => ?_⟩
  · have hk2 := hc k hk
    match k, hk2 with
    | 0, _ => show va_at x.1 clsL (_, .inr (7, [.int ((fun _ => 0) 0), .int ((fun _ => 0) 1), .int ((fun _ => 0) 2), .int ((fun _ => 0) 3), .int ((fun _ => 0) 4), .ref (al1 10 1), .ref (al1 10 2)])) t.heap; rw [hg]; exact hP 0 _ rfl
    | 1, _ => exact hP 1 _ rfl
    | 2, _ => exact hP 2 _ rfl
    | k + 3, h => exact absurd h (by omega)
  · obtain ⟨e1, h1⟩ := hw k hk
    obtain ⟨e2, h2⟩ := hw k' hk'
    have hp := hD.1 _ _ _ _ h1 h2 he
    have key : ∀ a, a < 3 → isC 10 a = true → ∀ b, b < 3 → isC 10 b = true → ([0, 1, 2] : List Nat).getD a 0 = ([0, 1, 2] : List Nat).getD b 0 → b = a := by decide +kernel
    exact key k (hc k hk) hk k' (hc k' hk') hk' hp
  · obtain ⟨e1, h1⟩ := hw k hk
    exact hD.2 _ _ h1
set_option maxHeartbeats 4000000 in
set_option maxRecDepth 20000 in
theorem in_S {x : Wx} {A : Nat → Prop} {h0 : Nat} {t : State} {i : Nat} (hi : i < 6) (h : at_X10 x A h0 t) : ∃ g : Nat → Nat, g 0 = h0 ∧ (∀ (al1 : Nat → Nat → Nat) (lv1 : Nat → Bool), al1 i = g → ∀ k, isC i k = true → va_at x.1 clsL (g k, ent x al1 lv1 i k (fun _ => 0)) t.heap) ∧ (∀ k k', isC i k = true → isC i k' = true → g k = g k' → k' = k) ∧ ∀ k, isC i k = true → A (g k) := by
  obtain ⟨q1, q2, q3, q4, q5, q6, q7, q8, q9, q10, q11, q12, q13, q14, q15, q16, q17, q18, q19, q20, q21, hP, hD⟩ := h
  have hc : ∀ k, isC i k = true → k < 22 := fun k hk => by unfold isC at hk; rw [if_pos hi] at hk; exact of_decide_eq_true hk
  have hw : ∀ k, isC i k = true → ∃ e, ([(h0, .inr (10, [.int 0, .int 0, .int 0, .int 0, .int 0, .ref q1, .ref q15])), (q1, .inr (8, [.int 0, .ref q2, .ref q3, .ref q4, .ref q5, .ref q6, .ref q7, .ref q8, .ref q9, .ref q10, .ref q11, .ref q12, .ref q13, .ref q14])), (q2, .inl (x.2.1, 8, .inl (fun _ => 0))), (q3, .inl (x.2.1, 8, .inl (fun _ => 0))), (q4, .inl (x.2.1, 8, .inl (fun _ => 0))), (q5, .inl (x.2.1, 8, .inl (fun _ => 0))), (q6, .inl (x.2.1, 8, .inl (fun _ => 0))), (q7, .inl (x.2.1, 8, .inl (fun _ => 0))), (q8, .inl (x.2.1, 8, .inl (fun _ => 0))), (q9, .inl (x.2.1, 8, .inl (fun _ => 0))), (q10, .inl (x.2.1, 8, .inl (fun _ => 0))), (q11, .inl (x.2.1, 8, .inl (fun _ => 0))), (q12, .inl (x.2.1, 8, .inl (fun _ => 0))), (q13, .inl (x.2.1, 8, .inl (fun _ => 0))), (q14, .inl (x.2.1, 1440, .inl (fun _ => 0))), (q15, .inr (0, [.int 0, .ref q16, .ref q17, .ref q18, .ref q19, .ref q20, .ref q21])), (q16, .inl (x.2.1, 300, .inl (fun _ => 0))), (q17, .inl (x.2.1, 300, .inl (fun _ => 0))), (q18, .inl (x.2.1, 300, .inl (fun _ => 0))), (q19, .inl (x.2.1, 300, .inl (fun _ => 0))), (q20, .inl (x.2.1, 300, .inl (fun _ => 0))), (q21, .inl (x.2.1, 300, .inl (fun _ => 0)))] : va_W)[([0, 1, 2, 3, 4, 5, 6, 7, 8, 9, 10, 11, 12, 13, 14, 15, 16, 17, 18, 19, 20, 21] : List Nat).getD k 0]? = some (([h0, q1, q2, q3, q4, q5, q6, q7, q8, q9, q10, q11, q12, q13, q14, q15, q16, q17, q18, q19, q20, q21] : List Nat).getD k 0, e) := fun k hk => by
    have hk2 := hc k hk
    match k, hk2 with
    | 0, _ => exact ⟨_, rfl⟩
    | 1, _ => exact ⟨_, rfl⟩
    | 2, _ => exact ⟨_, rfl⟩
    | 3, _ => exact ⟨_, rfl⟩
    | 4, _ => exact ⟨_, rfl⟩
    | 5, _ => exact ⟨_, rfl⟩
    | 6, _ => exact ⟨_, rfl⟩
    | 7, _ => exact ⟨_, rfl⟩
    | 8, _ => exact ⟨_, rfl⟩
    | 9, _ => exact ⟨_, rfl⟩
    | 10, _ => exact ⟨_, rfl⟩
    | 11, _ => exact ⟨_, rfl⟩
    | 12, _ => exact ⟨_, rfl⟩
    | 13, _ => exact ⟨_, rfl⟩
    | 14, _ => exact ⟨_, rfl⟩
    | 15, _ => exact ⟨_, rfl⟩
    | 16, _ => exact ⟨_, rfl⟩
    | 17, _ => exact ⟨_, rfl⟩
    | 18, _ => exact ⟨_, rfl⟩
    | 19, _ => exact ⟨_, rfl⟩
    | 20, _ => exact ⟨_, rfl⟩
    | 21, _ => exact ⟨_, rfl⟩
    | k + 22, h => exact absurd h (by omega)
  refine ⟨fun k => ([h0, q1, q2, q3, q4, q5, q6, q7, q8, q9, q10, q11, q12, q13, q14, q15, q16, q17, q18, q19, q20, q21] : List Nat).getD k 0, rfl, fun al1 lv1 hg k hk => ?_, fun k k' hk hk' he => ?_, fun k hk => ?_⟩
  · have hk2 := hc k hk
    match k, hk2 with
    | 0, _ => rw [ent_S hi]; show va_at x.1 clsL (_, .inr (10, [.int ((fun _ => 0) 0), .int ((fun _ => 0) 1), .int ((fun _ => 0) 2), .int ((fun _ => 0) 3), .int ((fun _ => 0) 4), .ref (al1 i 1), .ref (al1 i 15)])) t.heap; rw [hg]; exact hP 0 _ rfl
    | 1, _ => rw [ent_S hi]; show va_at x.1 clsL (_, .inr (8, [.int ((fun _ => 0) 0), .ref (al1 i 2), .ref (al1 i 3), .ref (al1 i 4), .ref (al1 i 5), .ref (al1 i 6), .ref (al1 i 7), .ref (al1 i 8), .ref (al1 i 9), .ref (al1 i 10), .ref (al1 i 11), .ref (al1 i 12), .ref (al1 i 13), .ref (al1 i 14)])) t.heap; rw [hg]; exact hP 1 _ rfl
    | 2, _ => rw [ent_S hi]; exact hP 2 _ rfl
    | 3, _ => rw [ent_S hi]; exact hP 3 _ rfl
    | 4, _ => rw [ent_S hi]; exact hP 4 _ rfl
    | 5, _ => rw [ent_S hi]; exact hP 5 _ rfl
    | 6, _ => rw [ent_S hi]; exact hP 6 _ rfl
    | 7, _ => rw [ent_S hi]; exact hP 7 _ rfl
    | 8, _ => rw [ent_S hi]; exact hP 8 _ rfl
    | 9, _ => rw [ent_S hi]; exact hP 9 _ rfl
    | 10, _ => rw [ent_S hi]; exact hP 10 _ rfl
    | 11, _ => rw [ent_S hi]; exact hP 11 _ rfl
    | 12, _ => rw [ent_S hi]; exact hP 12 _ rfl
    | 13, _ => rw [ent_S hi]; exact hP 13 _ rfl
    | 14, _ => rw [ent_S hi]; exact hP 14 _ rfl
    | 15, _ => rw [ent_S hi]; show va_at x.1 clsL (_, .inr (0, [.int ((fun _ => 0) 0), .ref (al1 i 16), .ref (al1 i 17), .ref (al1 i 18), .ref (al1 i 19), .ref (al1 i 20), .ref (al1 i 21)])) t.heap; rw [hg]; exact hP 15 _ rfl
    | 16, _ => rw [ent_S hi]; exact hP 16 _ rfl
    | 17, _ => rw [ent_S hi]; exact hP 17 _ rfl
    | 18, _ => rw [ent_S hi]; exact hP 18 _ rfl
    | 19, _ => rw [ent_S hi]; exact hP 19 _ rfl
    | 20, _ => rw [ent_S hi]; exact hP 20 _ rfl
    | 21, _ => rw [ent_S hi]; exact hP 21 _ rfl
    | k + 22, h => exact absurd h (by omega)
  · obtain ⟨e1, h1⟩ := hw k hk
    obtain ⟨e2, h2⟩ := hw k' hk'
    have hp := hD.1 _ _ _ _ h1 h2 he
    have key : ∀ a, a < 22 → isC i a = true → ∀ b, b < 22 → isC i b = true → ([0, 1, 2, 3, 4, 5, 6, 7, 8, 9, 10, 11, 12, 13, 14, 15, 16, 17, 18, 19, 20, 21] : List Nat).getD a 0 = ([0, 1, 2, 3, 4, 5, 6, 7, 8, 9, 10, 11, 12, 13, 14, 15, 16, 17, 18, 19, 20, 21] : List Nat).getD b 0 → b = a := by 
      have key2 : ∀ a, a < 22 → ∀ b, b < 22 → ([0, 1, 2, 3, 4, 5, 6, 7, 8, 9, 10, 11, 12, 13, 14, 15, 16, 17, 18, 19, 20, 21] : List Nat).getD a 0 = ([0, 1, 2, 3, 4, 5, 6, 7, 8, 9, 10, 11, 12, 13, 14, 15, 16, 17, 18, 19, 20, 21] : List Nat).getD b 0 → b = a := by decide +kernel
      exact fun a h1 _ b h2 _ h3 => key2 a h1 b h2 h3
    exact key k (hc k hk) hk k' (hc k' hk') hk' hp
  · obtain ⟨e1, h1⟩ := hw k hk
    exact hD.2 _ _ h1
