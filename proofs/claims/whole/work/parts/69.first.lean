def al0 (G0 G6 G7 : List Nat) : Nat → Nat → Nat := fun s k => if s = 0 then G0.getD k 0 else if s = 6 then G6.getD k 0 else G7.getD k 0
def lv0 : Nat → Bool := fun s => s == 0 || (s == 6 || s == 7)
def sg0 : Sg := fun s k j => if s = 6 ∧ k = 2 then (match j with | 0 => 40 | 1 => 200 | 2 => 1000 | _ => 0) else if s = 7 ∧ k = 0 then (match j with | 3 => 40 | 4 => 200 | 5 => 1000 | 46 => -1 | _ => 0) else 0
def ps0 : Nat → Nat → Nat := al0 ([1, 2, 3, 4, 5, 6, 7, 8, 9, 10, 11, 12, 13, 14, 15, 16, 17, 18, 19, 20, 21, 22] : List Nat) ([0, 23, 26, 30, 33, 36, 37, 38, 39, 24, 25, 27, 28, 29, 31, 32, 34, 35] : List Nat) ([40, 41, 42, 0, 0, 0, 43, 44, 45, 46, 47, 48, 49, 50, 51, 52, 53, 54, 55, 56, 57, 58, 59, 60, 61, 62, 0, 0, 63, 64, 65, 66, 67, 68, 0, 69, 0, 0, 0, 0, 70, 71, 72, 73, 0, 0, 0, 0, 74, 75, 76, 0, 77] : List Nat)
theorem lv0_c {s : Nat} (h : lv0 s = true) : s = 0 ∨ s = 6 ∨ s = 7 := by
  unfold lv0 at h
  simp only [Bool.or_eq_true, beq_iff_eq] at h
  exact h
theorem isC0_lt {k : Nat} (h : isC 0 k = true) : k < 22 := of_decide_eq_true h
theorem isC6_lt {k : Nat} (h : isC 6 k = true) : k < 18 := of_decide_eq_true h
theorem isC7_lt {k : Nat} (h : isC 7 k = true) : k < 53 := by
  have h1 : k ∈ ([0, 1, 2, 6, 7, 8, 9, 10, 11, 12, 13, 14, 15, 16, 17, 18, 19, 20, 21, 22, 23, 24, 25, 28, 29, 30, 31, 32, 33, 35, 40, 41, 42, 43, 48, 49, 50, 52] : List Nat) := by simpa [isC] using h
  have h2 : ∀ k ∈ ([0, 1, 2, 6, 7, 8, 9, 10, 11, 12, 13, 14, 15, 16, 17, 18, 19, 20, 21, 22, 23, 24, 25, 28, 29, 30, 31, 32, 33, 35, 40, 41, 42, 43, 48, 49, 50, 52] : List Nat), k < 53 := by decide
  exact h2 k h1
theorem ps0_inj : ∀ s, lv0 s = true → ∀ k, isC s k = true → ∀ s', lv0 s' = true → ∀ k', isC s' k' = true → ps0 s k = ps0 s' k' → s' = s ∧ k' = k := by
  have key0 : (([0, 6, 7] : List Nat).all fun s => (List.range 53).all fun k => !isC s k || (([0, 6, 7] : List Nat).all fun s' => (List.range 53).all fun k' => !isC s' k' || (!(ps0 s k == ps0 s' k') || (s' == s && k' == k)))) = true := by decide +kernel
  have key : ∀ s ∈ ([0, 6, 7] : List Nat), ∀ k, k < 53 → isC s k = true → ∀ s' ∈ ([0, 6, 7] : List Nat), ∀ k', k' < 53 → isC s' k' = true → ps0 s k = ps0 s' k' → s' = s ∧ k' = k := by
    intro s hs k hk hc s' hs' k' hk' hc' he
    have h1 := List.all_eq_true.mp (List.all_eq_true.mp key0 s hs) k (List.mem_range.mpr hk)
    rw [hc] at h1
    have h2 := List.all_eq_true.mp (List.all_eq_true.mp h1 s' hs') k' (List.mem_range.mpr hk')
    rw [hc', he] at h2
    simpa using h2
  have hb : ∀ s, lv0 s = true → ∀ k, isC s k = true → s ∈ ([0, 6, 7] : List Nat) ∧ k < 53 := by
    intro s h k hk
    rcases lv0_c h with rfl | rfl | rfl
    · exact ⟨by decide, by have := isC0_lt hk; omega⟩
    · exact ⟨by decide, by have := isC6_lt hk; omega⟩
    · exact ⟨by decide, isC7_lt hk⟩
  intro s h k hk s' h' k' hk' he
  exact key s (hb s h k hk).1 k (hb s h k hk).2 hk s' (hb s' h' k' hk').1 k' (hb s' h' k' hk').2 hk' he
set_option maxHeartbeats 8000000 in
set_option maxRecDepth 100000 in
theorem pic0 {x : Wx} {H : Heap} (q0 q1 q2 q3 q4 q5 q6 q7 q8 q9 q10 q11 q12 q13 q14 q15 q16 q17 q18 q19 q20 q21 q22 q23 q24 q25 q26 q27 q28 q29 q30 q31 q32 q33 q34 q35 q36 q37 q38 q39 p0 p1 p2 p3 p4 p5 p6 p7 p8 p9 p10 p11 p12 p13 p14 p15 p16 p17 p18 p19 p20 p21 p22 p23 p24 p25 p26 p27 p28 p29 p30 p31 p32 p33 p34 p35 p36 p37 : Nat) (hP : va_P x.1 clsL [(q0, .inr (11, [.ref q1, .ref q23, .ref q26, .ref q30, .ref q33, .ref q36, .ref q37, .ref q38, .ref q39, .int 0, .int 0, .int 0, .int 0, .int 0, .int 0, .null, .null, .null, .null])), (q1, .inr (10, [.int 0, .int 0, .int 0, .int 0, .int 0, .ref q2, .ref q16])), (q2, .inr (8, [.int 0, .ref q3, .ref q4, .ref q5, .ref q6, .ref q7, .ref q8, .ref q9, .ref q10, .ref q11, .ref q12, .ref q13, .ref q14, .ref q15])), (q3, .inl (x.2.1, 8, .inl (fun _ => 0))), (q4, .inl (x.2.1, 8, .inl (fun _ => 0))), (q5, .inl (x.2.1, 8, .inl (fun _ => 0))), (q6, .inl (x.2.1, 8, .inl (fun _ => 0))), (q7, .inl (x.2.1, 8, .inl (fun _ => 0))), (q8, .inl (x.2.1, 8, .inl (fun _ => 0))), (q9, .inl (x.2.1, 8, .inl (fun _ => 0))), (q10, .inl (x.2.1, 8, .inl (fun _ => 0))), (q11, .inl (x.2.1, 8, .inl (fun _ => 0))), (q12, .inl (x.2.1, 8, .inl (fun _ => 0))), (q13, .inl (x.2.1, 8, .inl (fun _ => 0))), (q14, .inl (x.2.1, 8, .inl (fun _ => 0))), (q15, .inl (x.2.1, 1440, .inl (fun _ => 0))), (q16, .inr (0, [.int 0, .ref q17, .ref q18, .ref q19, .ref q20, .ref q21, .ref q22])), (q17, .inl (x.2.1, 300, .inl (fun _ => 0))), (q18, .inl (x.2.1, 300, .inl (fun _ => 0))), (q19, .inl (x.2.1, 300, .inl (fun _ => 0))), (q20, .inl (x.2.1, 300, .inl (fun _ => 0))), (q21, .inl (x.2.1, 300, .inl (fun _ => 0))), (q22, .inl (x.2.1, 300, .inl (fun _ => 0))), (q23, .inr (2, [.ref q24, .ref q25])), (q24, .inl (x.2.2.1, 200, .inl (fun _ => 0))), (q25, .inl (x.2.1, 200, .inl (fun _ => 0))), (q26, .inr (6, [.int 40, .int 200, .int 1000, .ref q27, .ref q28, .ref q29])), (q27, .inr (9, [.int 0, .int 0, .int 0])), (q28, .inl (x.2.1, 300, .inl (fun _ => 0))), (q29, .inl (x.2.1, 8, .inl (fun _ => 0))), (q30, .inr (5, [.int 0, .ref q31, .ref q32])), (q31, .inl (x.2.1, 6, .inl (fun _ => 0))), (q32, .inl (x.2.1, 6, .inl (fun _ => 0))), (q33, .inr (4, [.int 0, .ref q34, .ref q35])), (q34, .inl (x.2.1, 30, .inl (fun _ => 0))), (q35, .inl (x.2.1, 30, .inl (fun _ => 0))), (q36, .inl (x.2.1, 3, .inl (fun _ => 0))), (q37, .inl (x.2.1, 180, .inl (fun _ => 0))), (q38, .inl (x.2.1, 180, .inl (fun _ => 0))), (q39, .inl (x.2.2.2.2.1, 4, .inr (.inr (.inr (.inr (fun _ => none)))))), (p0, .inr (12, [.int 0, .ref p1, .ref p2, .int 40, .int 200, .int 1000, .ref p3, .ref p4, .ref p5, .ref p6, .ref p7, .ref p8, .ref p9, .ref p10, .ref p11, .ref p12, .ref p13, .ref p14, .ref p15, .ref p16, .ref p17, .ref p18, .ref p19, .ref p20, .ref p21, .ref p22, .int 0, .int 0, .ref p23, .ref p24, .ref p25, .ref p26, .ref p27, .ref p28, .int 0, .ref p29, .int 0, .int 0, .int 0, .int 0, .ref p30, .ref p31, .ref p32, .ref p33, .int 0, .int 0, .int (-1), .int 0, .ref p34, .ref p35, .ref p36, .int 0, .ref p37])), (p1, .inl (x.2.2.2.1, 200, .inr (.inr (.inl (fun _ => 0))))), (p2, .inl (x.2.2.1, 200, .inl (fun _ => 0))), (p3, .inl (x.2.1, 6, .inl (fun _ => 0))), (p4, .inl (x.2.1, 6, .inl (fun _ => 0))), (p5, .inl (x.2.1, 6, .inl (fun _ => 0))), (p6, .inl (x.2.1, 36, .inl (fun _ => 0))), (p7, .inl (x.2.1, 48, .inl (fun _ => 0))), (p8, .inl (x.2.1, 48, .inl (fun _ => 0))), (p9, .inl (x.2.1, 48, .inl (fun _ => 0))), (p10, .inl (x.2.1, 48, .inl (fun _ => 0))), (p11, .inl (x.2.1, 48, .inl (fun _ => 0))), (p12, .inl (x.2.1, 48, .inl (fun _ => 0))), (p13, .inl (x.2.1, 48, .inl (fun _ => 0))), (p14, .inl (x.2.2.1, 1440, .inl (fun _ => 0))), (p15, .inl (x.2.1, 8640, .inl (fun _ => 0))), (p16, .inl (x.2.1, 1800, .inl (fun _ => 0))), (p17, .inl (x.2.1, 1800, .inl (fun _ => 0))), (p18, .inl (x.2.1, 1800, .inl (fun _ => 0))), (p19, .inl (x.2.1, 1800, .inl (fun _ => 0))), (p20, .inl (x.2.1, 1800, .inl (fun _ => 0))), (p21, .inl (x.2.1, 1800, .inl (fun _ => 0))), (p22, .inl (x.2.2.1, 4, .inl (fun _ => 0))), (p23, .inl (x.2.1, 1800, .inl (fun _ => 0))), (p24, .inl (x.2.1, 1800, .inl (fun _ => 0))), (p25, .inl (x.2.1, 300, .inl (fun _ => 0))), (p26, .inl (x.2.2.1, 300, .inl (fun _ => 0))), (p27, .inl (x.2.1, 6, .inl (fun _ => 0))), (p28, .inl (x.2.1, 6, .inl (fun _ => 0))), (p29, .inl (x.2.1, 300, .inl (fun _ => 0))), (p30, .inl (x.2.1, 3, .inl (fun _ => 0))), (p31, .inl (x.2.1, 300, .inl (fun _ => 0))), (p32, .inl (x.2.1, 300, .inl (fun _ => 0))), (p33, .inl (x.2.1, 300, .inl (fun _ => 0))), (p34, .inl (x.2.1, 1600, .inl (fun _ => 0))), (p35, .inl (x.2.1, 30, .inl (fun _ => 0))), (p36, .inl (x.2.1, 30, .inl (fun _ => 0))), (p37, .inl (x.2.2.1, 180, .inl (fun _ => 0)))] H) (hD : va_D (Ab x) [(q0, .inr (11, [.ref q1, .ref q23, .ref q26, .ref q30, .ref q33, .ref q36, .ref q37, .ref q38, .ref q39, .int 0, .int 0, .int 0, .int 0, .int 0, .int 0, .null, .null, .null, .null])), (q1, .inr (10, [.int 0, .int 0, .int 0, .int 0, .int 0, .ref q2, .ref q16])), (q2, .inr (8, [.int 0, .ref q3, .ref q4, .ref q5, .ref q6, .ref q7, .ref q8, .ref q9, .ref q10, .ref q11, .ref q12, .ref q13, .ref q14, .ref q15])), (q3, .inl (x.2.1, 8, .inl (fun _ => 0))), (q4, .inl (x.2.1, 8, .inl (fun _ => 0))), (q5, .inl (x.2.1, 8, .inl (fun _ => 0))), (q6, .inl (x.2.1, 8, .inl (fun _ => 0))), (q7, .inl (x.2.1, 8, .inl (fun _ => 0))), (q8, .inl (x.2.1, 8, .inl (fun _ => 0))), (q9, .inl (x.2.1, 8, .inl (fun _ => 0))), (q10, .inl (x.2.1, 8, .inl (fun _ => 0))), (q11, .inl (x.2.1, 8, .inl (fun _ => 0))), (q12, .inl (x.2.1, 8, .inl (fun _ => 0))), (q13, .inl (x.2.1, 8, .inl (fun _ => 0))), (q14, .inl (x.2.1, 8, .inl (fun _ => 0))), (q15, .inl (x.2.1, 1440, .inl (fun _ => 0))), (q16, .inr (0, [.int 0, .ref q17, .ref q18, .ref q19, .ref q20, .ref q21, .ref q22])), (q17, .inl (x.2.1, 300, .inl (fun _ => 0))), (q18, .inl (x.2.1, 300, .inl (fun _ => 0))), (q19, .inl (x.2.1, 300, .inl (fun _ => 0))), (q20, .inl (x.2.1, 300, .inl (fun _ => 0))), (q21, .inl (x.2.1, 300, .inl (fun _ => 0))), (q22, .inl (x.2.1, 300, .inl (fun _ => 0))), (q23, .inr (2, [.ref q24, .ref q25])), (q24, .inl (x.2.2.1, 200, .inl (fun _ => 0))), (q25, .inl (x.2.1, 200, .inl (fun _ => 0))), (q26, .inr (6, [.int 40, .int 200, .int 1000, .ref q27, .ref q28, .ref q29])), (q27, .inr (9, [.int 0, .int 0, .int 0])), (q28, .inl (x.2.1, 300, .inl (fun _ => 0))), (q29, .inl (x.2.1, 8, .inl (fun _ => 0))), (q30, .inr (5, [.int 0, .ref q31, .ref q32])), (q31, .inl (x.2.1, 6, .inl (fun _ => 0))), (q32, .inl (x.2.1, 6, .inl (fun _ => 0))), (q33, .inr (4, [.int 0, .ref q34, .ref q35])), (q34, .inl (x.2.1, 30, .inl (fun _ => 0))), (q35, .inl (x.2.1, 30, .inl (fun _ => 0))), (q36, .inl (x.2.1, 3, .inl (fun _ => 0))), (q37, .inl (x.2.1, 180, .inl (fun _ => 0))), (q38, .inl (x.2.1, 180, .inl (fun _ => 0))), (q39, .inl (x.2.2.2.2.1, 4, .inr (.inr (.inr (.inr (fun _ => none)))))), (p0, .inr (12, [.int 0, .ref p1, .ref p2, .int 40, .int 200, .int 1000, .ref p3, .ref p4, .ref p5, .ref p6, .ref p7, .ref p8, .ref p9, .ref p10, .ref p11, .ref p12, .ref p13, .ref p14, .ref p15, .ref p16, .ref p17, .ref p18, .ref p19, .ref p20, .ref p21, .ref p22, .int 0, .int 0, .ref p23, .ref p24, .ref p25, .ref p26, .ref p27, .ref p28, .int 0, .ref p29, .int 0, .int 0, .int 0, .int 0, .ref p30, .ref p31, .ref p32, .ref p33, .int 0, .int 0, .int (-1), .int 0, .ref p34, .ref p35, .ref p36, .int 0, .ref p37])), (p1, .inl (x.2.2.2.1, 200, .inr (.inr (.inl (fun _ => 0))))), (p2, .inl (x.2.2.1, 200, .inl (fun _ => 0))), (p3, .inl (x.2.1, 6, .inl (fun _ => 0))), (p4, .inl (x.2.1, 6, .inl (fun _ => 0))), (p5, .inl (x.2.1, 6, .inl (fun _ => 0))), (p6, .inl (x.2.1, 36, .inl (fun _ => 0))), (p7, .inl (x.2.1, 48, .inl (fun _ => 0))), (p8, .inl (x.2.1, 48, .inl (fun _ => 0))), (p9, .inl (x.2.1, 48, .inl (fun _ => 0))), (p10, .inl (x.2.1, 48, .inl (fun _ => 0))), (p11, .inl (x.2.1, 48, .inl (fun _ => 0))), (p12, .inl (x.2.1, 48, .inl (fun _ => 0))), (p13, .inl (x.2.1, 48, .inl (fun _ => 0))), (p14, .inl (x.2.2.1, 1440, .inl (fun _ => 0))), (p15, .inl (x.2.1, 8640, .inl (fun _ => 0))), (p16, .inl (x.2.1, 1800, .inl (fun _ => 0))), (p17, .inl (x.2.1, 1800, .inl (fun _ => 0))), (p18, .inl (x.2.1, 1800, .inl (fun _ => 0))), (p19, .inl (x.2.1, 1800, .inl (fun _ => 0))), (p20, .inl (x.2.1, 1800, .inl (fun _ => 0))), (p21, .inl (x.2.1, 1800, .inl (fun _ => 0))), (p22, .inl (x.2.2.1, 4, .inl (fun _ => 0))), (p23, .inl (x.2.1, 1800, .inl (fun _ => 0))), (p24, .inl (x.2.1, 1800, .inl (fun _ => 0))), (p25, .inl (x.2.1, 300, .inl (fun _ => 0))), (p26, .inl (x.2.2.1, 300, .inl (fun _ => 0))), (p27, .inl (x.2.1, 6, .inl (fun _ => 0))), (p28, .inl (x.2.1, 6, .inl (fun _ => 0))), (p29, .inl (x.2.1, 300, .inl (fun _ => 0))), (p30, .inl (x.2.1, 3, .inl (fun _ => 0))), (p31, .inl (x.2.1, 300, .inl (fun _ => 0))), (p32, .inl (x.2.1, 300, .inl (fun _ => 0))), (p33, .inl (x.2.1, 300, .inl (fun _ => 0))), (p34, .inl (x.2.1, 1600, .inl (fun _ => 0))), (p35, .inl (x.2.1, 30, .inl (fun _ => 0))), (p36, .inl (x.2.1, 30, .inl (fun _ => 0))), (p37, .inl (x.2.2.1, 180, .inl (fun _ => 0)))]) : Pic x (al0 ([q1, q2, q3, q4, q5, q6, q7, q8, q9, q10, q11, q12, q13, q14, q15, q16, q17, q18, q19, q20, q21, q22] : List Nat) ([q0, q23, q26, q30, q33, q36, q37, q38, q39, q24, q25, q27, q28, q29, q31, q32, q34, q35] : List Nat) ([p0, p1, p2, 0, 0, 0, p3, p4, p5, p6, p7, p8, p9, p10, p11, p12, p13, p14, p15, p16, p17, p18, p19, p20, p21, p22, 0, 0, p23, p24, p25, p26, p27, p28, 0, p29, 0, 0, 0, 0, p30, p31, p32, p33, 0, 0, 0, 0, p34, p35, p36, 0, p37] : List Nat)) lv0 sg0 H := by
  generalize hal : al0 ([q1, q2, q3, q4, q5, q6, q7, q8, q9, q10, q11, q12, q13, q14, q15, q16, q17, q18, q19, q20, q21, q22] : List Nat) ([q0, q23, q26, q30, q33, q36, q37, q38, q39, q24, q25, q27, q28, q29, q31, q32, q34, q35] : List Nat) ([p0, p1, p2, 0, 0, 0, p3, p4, p5, p6, p7, p8, p9, p10, p11, p12, p13, p14, p15, p16, p17, p18, p19, p20, p21, p22, 0, 0, p23, p24, p25, p26, p27, p28, 0, p29, 0, 0, 0, 0, p30, p31, p32, p33, 0, 0, 0, 0, p34, p35, p36, 0, p37] : List Nat) = al
  have hw : ∀ s, lv0 s = true → ∀ k, isC s k = true → ∃ e, ([(q0, .inr (11, [.ref q1, .ref q23, .ref q26, .ref q30, .ref q33, .ref q36, .ref q37, .ref q38, .ref q39, .int 0, .int 0, .int 0, .int 0, .int 0, .int 0, .null, .null, .null, .null])), (q1, .inr (10, [.int 0, .int 0, .int 0, .int 0, .int 0, .ref q2, .ref q16])), (q2, .inr (8, [.int 0, .ref q3, .ref q4, .ref q5, .ref q6, .ref q7, .ref q8, .ref q9, .ref q10, .ref q11, .ref q12, .ref q13, .ref q14, .ref q15])), (q3, .inl (x.2.1, 8, .inl (fun _ => 0))), (q4, .inl (x.2.1, 8, .inl (fun _ => 0))), (q5, .inl (x.2.1, 8, .inl (fun _ => 0))), (q6, .inl (x.2.1, 8, .inl (fun _ => 0))), (q7, .inl (x.2.1, 8, .inl (fun _ => 0))), (q8, .inl (x.2.1, 8, .inl (fun _ => 0))), (q9, .inl (x.2.1, 8, .inl (fun _ => 0))), (q10, .inl (x.2.1, 8, .inl (fun _ => 0))), (q11, .inl (x.2.1, 8, .inl (fun _ => 0))), (q12, .inl (x.2.1, 8, .inl (fun _ => 0))), (q13, .inl (x.2.1, 8, .inl (fun _ => 0))), (q14, .inl (x.2.1, 8, .inl (fun _ => 0))), (q15, .inl (x.2.1, 1440, .inl (fun _ => 0))), (q16, .inr (0, [.int 0, .ref q17, .ref q18, .ref q19, .ref q20, .ref q21, .ref q22])), (q17, .inl (x.2.1, 300, .inl (fun _ => 0))), (q18, .inl (x.2.1, 300, .inl (fun _ => 0))), (q19, .inl (x.2.1, 300, .inl (fun _ => 0))), (q20, .inl (x.2.1, 300, .inl (fun _ => 0))), (q21, .inl (x.2.1, 300, .inl (fun _ => 0))), (q22, .inl (x.2.1, 300, .inl (fun _ => 0))), (q23, .inr (2, [.ref q24, .ref q25])), (q24, .inl (x.2.2.1, 200, .inl (fun _ => 0))), (q25, .inl (x.2.1, 200, .inl (fun _ => 0))), (q26, .inr (6, [.int 40, .int 200, .int 1000, .ref q27, .ref q28, .ref q29])), (q27, .inr (9, [.int 0, .int 0, .int 0])), (q28, .inl (x.2.1, 300, .inl (fun _ => 0))), (q29, .inl (x.2.1, 8, .inl (fun _ => 0))), (q30, .inr (5, [.int 0, .ref q31, .ref q32])), (q31, .inl (x.2.1, 6, .inl (fun _ => 0))), (q32, .inl (x.2.1, 6, .inl (fun _ => 0))), (q33, .inr (4, [.int 0, .ref q34, .ref q35])), (q34, .inl (x.2.1, 30, .inl (fun _ => 0))), (q35, .inl (x.2.1, 30, .inl (fun _ => 0))), (q36, .inl (x.2.1, 3, .inl (fun _ => 0))), (q37, .inl (x.2.1, 180, .inl (fun _ => 0))), (q38, .inl (x.2.1, 180, .inl (fun _ => 0))), (q39, .inl (x.2.2.2.2.1, 4, .inr (.inr (.inr (.inr (fun _ => none)))))), (p0, .inr (12, [.int 0, .ref p1, .ref p2, .int 40, .int 200, .int 1000, .ref p3, .ref p4, .ref p5, .ref p6, .ref p7, .ref p8, .ref p9, .ref p10, .ref p11, .ref p12, .ref p13, .ref p14, .ref p15, .ref p16, .ref p17, .ref p18, .ref p19, .ref p20, .ref p21, .ref p22, .int 0, .int 0, .ref p23, .ref p24, .ref p25, .ref p26, .ref p27, .ref p28, .int 0, .ref p29, .int 0, .int 0, .int 0, .int 0, .ref p30, .ref p31, .ref p32, .ref p33, .int 0, .int 0, .int (-1), .int 0, .ref p34, .ref p35, .ref p36, .int 0, .ref p37])), (p1, .inl (x.2.2.2.1, 200, .inr (.inr (.inl (fun _ => 0))))), (p2, .inl (x.2.2.1, 200, .inl (fun _ => 0))), (p3, .inl (x.2.1, 6, .inl (fun _ => 0))), (p4, .inl (x.2.1, 6, .inl (fun _ => 0))), (p5, .inl (x.2.1, 6, .inl (fun _ => 0))), (p6, .inl (x.2.1, 36, .inl (fun _ => 0))), (p7, .inl (x.2.1, 48, .inl (fun _ => 0))), (p8, .inl (x.2.1, 48, .inl (fun _ => 0))), (p9, .inl (x.2.1, 48, .inl (fun _ => 0))), (p10, .inl (x.2.1, 48, .inl (fun _ => 0))), (p11, .inl (x.2.1, 48, .inl (fun _ => 0))), (p12, .inl (x.2.1, 48, .inl (fun _ => 0))), (p13, .inl (x.2.1, 48, .inl (fun _ => 0))), (p14, .inl (x.2.2.1, 1440, .inl (fun _ => 0))), (p15, .inl (x.2.1, 8640, .inl (fun _ => 0))), (p16, .inl (x.2.1, 1800, .inl (fun _ => 0))), (p17, .inl (x.2.1, 1800, .inl (fun _ => 0))), (p18, .inl (x.2.1, 1800, .inl (fun _ => 0))), (p19, .inl (x.2.1, 1800, .inl (fun _ => 0))), (p20, .inl (x.2.1, 1800, .inl (fun _ => 0))), (p21, .inl (x.2.1, 1800, .inl (fun _ => 0))), (p22, .inl (x.2.2.1, 4, .inl (fun _ => 0))), (p23, .inl (x.2.1, 1800, .inl (fun _ => 0))), (p24, .inl (x.2.1, 1800, .inl (fun _ => 0))), (p25, .inl (x.2.1, 300, .inl (fun _ => 0))), (p26, .inl (x.2.2.1, 300, .inl (fun _ => 0))), (p27, .inl (x.2.1, 6, .inl (fun _ => 0))), (p28, .inl (x.2.1, 6, .inl (fun _ => 0))), (p29, .inl (x.2.1, 300, .inl (fun _ => 0))), (p30, .inl (x.2.1, 3, .inl (fun _ => 0))), (p31, .inl (x.2.1, 300, .inl (fun _ => 0))), (p32, .inl (x.2.1, 300, .inl (fun _ => 0))), (p33, .inl (x.2.1, 300, .inl (fun _ => 0))), (p34, .inl (x.2.1, 1600, .inl (fun _ => 0))), (p35, .inl (x.2.1, 30, .inl (fun _ => 0))), (p36, .inl (x.2.1, 30, .inl (fun _ => 0))), (p37, .inl (x.2.2.1, 180, .inl (fun _ => 0)))] : va_W)[ps0 s k]? = some (al s k, e) := by
    intro s h k hk
    rw [← hal]
    rcases lv0_c h with rfl | rfl | rfl
    · have hk2 := isC0_lt hk
      match k, hk2 with
      | 0, _ => exact ⟨_, rfl⟩
      | 1, _ => exact ⟨_, rfl⟩
      | 2, _ => exact ⟨_, rfl⟩
      | 3, _ => exact ⟨_, rfl⟩
      | 4, _ => exact ⟨_, rfl⟩
      | 5, _ => exact ⟨_, rfl⟩
      | 6, _ => exact ⟨_, rfl⟩
      | 7, _ => exact ⟨_, rfl⟩
      | 8, _ => exact ⟨_, rfl⟩
      | 9, _ => exact ⟨_, rfl⟩
      | 10, _ => exact ⟨_, rfl⟩
      | 11, _ => exact ⟨_, rfl⟩
      | 12, _ => exact ⟨_, rfl⟩
      | 13, _ => exact ⟨_, rfl⟩
      | 14, _ => exact ⟨_, rfl⟩
      | 15, _ => exact ⟨_, rfl⟩
      | 16, _ => exact ⟨_, rfl⟩
      | 17, _ => exact ⟨_, rfl⟩
      | 18, _ => exact ⟨_, rfl⟩
      | 19, _ => exact ⟨_, rfl⟩
      | 20, _ => exact ⟨_, rfl⟩
      | 21, _ => exact ⟨_, rfl⟩
      | k + 22, h => exact absurd h (by omega)
    · have hk2 := isC6_lt hk
      match k, hk2 with
      | 0, _ => exact ⟨_, rfl⟩
      | 1, _ => exact ⟨_, rfl⟩
      | 2, _ => exact ⟨_, rfl⟩
      | 3, _ => exact ⟨_, rfl⟩
      | 4, _ => exact ⟨_, rfl⟩
      | 5, _ => exact ⟨_, rfl⟩
      | 6, _ => exact ⟨_, rfl⟩
      | 7, _ => exact ⟨_, rfl⟩
      | 8, _ => exact ⟨_, rfl⟩
      | 9, _ => exact ⟨_, rfl⟩
      | 10, _ => exact ⟨_, rfl⟩
      | 11, _ => exact ⟨_, rfl⟩
      | 12, _ => exact ⟨_, rfl⟩
      | 13, _ => exact ⟨_, rfl⟩
      | 14, _ => exact ⟨_, rfl⟩
      | 15, _ => exact ⟨_, rfl⟩
      | 16, _ => exact ⟨_, rfl⟩
      | 17, _ => exact ⟨_, rfl⟩
      | k + 18, h => exact absurd h (by omega)
    · have hk2 := isC7_lt hk
      match k, hk2 with
      | 0, _ => exact ⟨_, rfl⟩
      | 1, _ => exact ⟨_, rfl⟩
      | 2, _ => exact ⟨_, rfl⟩
      | 3, _ => exact absurd hk (by decide)
      | 4, _ => exact absurd hk (by decide)
      | 5, _ => exact absurd hk (by decide)
      | 6, _ => exact ⟨_, rfl⟩
      | 7, _ => exact ⟨_, rfl⟩
      | 8, _ => exact ⟨_, rfl⟩
      | 9, _ => exact ⟨_, rfl⟩
      | 10, _ => exact ⟨_, rfl⟩
      | 11, _ => exact ⟨_, rfl⟩
      | 12, _ => exact ⟨_, rfl⟩
      | 13, _ => exact ⟨_, rfl⟩
      | 14, _ => exact ⟨_, rfl⟩
      | 15, _ => exact ⟨_, rfl⟩
      | 16, _ => exact ⟨_, rfl⟩
      | 17, _ => exact ⟨_, rfl⟩
      | 18, _ => exact ⟨_, rfl⟩
      | 19, _ => exact ⟨_, rfl⟩
      | 20, _ => exact ⟨_, rfl⟩
      | 21, _ => exact ⟨_, rfl⟩
      | 22, _ => exact ⟨_, rfl⟩
      | 23, _ => exact ⟨_, rfl⟩
      | 24, _ => exact ⟨_, rfl⟩
      | 25, _ => exact ⟨_, rfl⟩
      | 26, _ => exact absurd hk (by decide)
      | 27, _ => exact absurd hk (by decide)
      | 28, _ => exact ⟨_, rfl⟩
      | 29, _ => exact ⟨_, rfl⟩
      | 30, _ => exact ⟨_, rfl⟩
      | 31, _ => exact ⟨_, rfl⟩
      | 32, _ => exact ⟨_, rfl⟩
      | 33, _ => exact ⟨_, rfl⟩
      | 34, _ => exact absurd hk (by decide)
      | 35, _ => exact ⟨_, rfl⟩
      | 36, _ => exact absurd hk (by decide)
      | 37, _ => exact absurd hk (by decide)
      | 38, _ => exact absurd hk (by decide)
      | 39, _ => exact absurd hk (by decide)
      | 40, _ => exact ⟨_, rfl⟩
      | 41, _ => exact ⟨_, rfl⟩
      | 42, _ => exact ⟨_, rfl⟩
      | 43, _ => exact ⟨_, rfl⟩
      | 44, _ => exact absurd hk (by decide)
      | 45, _ => exact absurd hk (by decide)
      | 46, _ => exact absurd hk (by decide)
      | 47, _ => exact absurd hk (by decide)
      | 48, _ => exact ⟨_, rfl⟩
      | 49, _ => exact ⟨_, rfl⟩
      | 50, _ => exact ⟨_, rfl⟩
      | 51, _ => exact absurd hk (by decide)
      | 52, _ => exact ⟨_, rfl⟩
      | k + 53, h => exact absurd h (by omega)
  refine ⟨fun s k h hk => ?_, fun s k s' k' h hk h' hk' he => ?_, fun s k h hk => ?_, rfl, rfl, rfl⟩
  · rcases lv0_c h with rfl | rfl | rfl
    · have hk2 := isC0_lt hk
      match k, hk2 with
      | 0, _ => rw [← hal]; exact hP 1 _ rfl
      | 1, _ => rw [← hal]; exact hP 2 _ rfl
      | 2, _ => rw [← hal]; exact hP 3 _ rfl
      | 3, _ => rw [← hal]; exact hP 4 _ rfl
      | 4, _ => rw [← hal]; exact hP 5 _ rfl
      | 5, _ => rw [← hal]; exact hP 6 _ rfl
      | 6, _ => rw [← hal]; exact hP 7 _ rfl
      | 7, _ => rw [← hal]; exact hP 8 _ rfl
      | 8, _ => rw [← hal]; exact hP 9 _ rfl
      | 9, _ => rw [← hal]; exact hP 10 _ rfl
      | 10, _ => rw [← hal]; exact hP 11 _ rfl
      | 11, _ => rw [← hal]; exact hP 12 _ rfl
      | 12, _ => rw [← hal]; exact hP 13 _ rfl
      | 13, _ => rw [← hal]; exact hP 14 _ rfl
      | 14, _ => rw [← hal]; exact hP 15 _ rfl
      | 15, _ => rw [← hal]; exact hP 16 _ rfl
      | 16, _ => rw [← hal]; exact hP 17 _ rfl
      | 17, _ => rw [← hal]; exact hP 18 _ rfl
      | 18, _ => rw [← hal]; exact hP 19 _ rfl
      | 19, _ => rw [← hal]; exact hP 20 _ rfl
      | 20, _ => rw [← hal]; exact hP 21 _ rfl
      | 21, _ => rw [← hal]; exact hP 22 _ rfl
      | k + 22, h => exact absurd h (by omega)
    · have hk2 := isC6_lt hk
      match k, hk2 with
      | 0, _ => rw [← hal]; exact hP 0 _ rfl
      | 1, _ => rw [← hal]; exact hP 23 _ rfl
      | 2, _ => rw [← hal]; exact hP 26 _ rfl
      | 3, _ => rw [← hal]; exact hP 30 _ rfl
      | 4, _ => rw [← hal]; exact hP 33 _ rfl
      | 5, _ => rw [← hal]; exact hP 36 _ rfl
      | 6, _ => rw [← hal]; exact hP 37 _ rfl
      | 7, _ => rw [← hal]; exact hP 38 _ rfl
      | 8, _ =>
        have h8 := hP 39 _ rfl
        refine Eq.trans (show H[al 6 8]? = some (arrV x.2.2.2.2.1 4 (fun _ => .null)) from by rw [← hal]; exact h8) ?_
        show some (arrV x.2.2.2.2.1 4 (fun _ => .null)) = some (arrV x.2.2.2.2.1 4 (fun j => va_rf (nro (lv0 (2 + j)) (al (2 + j) 0))))
        unfold arrV
        congr 3
        funext j
        have e0 : lv0 (2 + j.val) = false := by have hj := j.isLt; revert hj; generalize j.val = z; intro hz; rcases (show z = 0 ∨ z = 1 ∨ z = 2 ∨ z = 3 by omega) with rfl | rfl | rfl | rfl <;> rfl
        show Value.null = va_rf (nro (lv0 (2 + j.val)) _)
        rw [e0]; rfl
      | 9, _ => rw [← hal]; exact hP 24 _ rfl
      | 10, _ => rw [← hal]; exact hP 25 _ rfl
      | 11, _ => rw [← hal]; exact hP 27 _ rfl
      | 12, _ => rw [← hal]; exact hP 28 _ rfl
      | 13, _ => rw [← hal]; exact hP 29 _ rfl
      | 14, _ => rw [← hal]; exact hP 31 _ rfl
      | 15, _ => rw [← hal]; exact hP 32 _ rfl
      | 16, _ => rw [← hal]; exact hP 34 _ rfl
      | 17, _ => rw [← hal]; exact hP 35 _ rfl
      | k + 18, h => exact absurd h (by omega)
    · have hk2 := isC7_lt hk
      match k, hk2 with
      | 0, _ => rw [← hal]; exact hP 40 _ rfl
      | 1, _ => rw [← hal]; exact hP 41 _ rfl
      | 2, _ => rw [← hal]; exact hP 42 _ rfl
      | 3, _ => exact absurd hk (by decide)
      | 4, _ => exact absurd hk (by decide)
      | 5, _ => exact absurd hk (by decide)
      | 6, _ => rw [← hal]; exact hP 43 _ rfl
      | 7, _ => rw [← hal]; exact hP 44 _ rfl
      | 8, _ => rw [← hal]; exact hP 45 _ rfl
      | 9, _ => rw [← hal]; exact hP 46 _ rfl
      | 10, _ => rw [← hal]; exact hP 47 _ rfl
      | 11, _ => rw [← hal]; exact hP 48 _ rfl
      | 12, _ => rw [← hal]; exact hP 49 _ rfl
      | 13, _ => rw [← hal]; exact hP 50 _ rfl
      | 14, _ => rw [← hal]; exact hP 51 _ rfl
      | 15, _ => rw [← hal]; exact hP 52 _ rfl
      | 16, _ => rw [← hal]; exact hP 53 _ rfl
      | 17, _ => rw [← hal]; exact hP 54 _ rfl
      | 18, _ => rw [← hal]; exact hP 55 _ rfl
      | 19, _ => rw [← hal]; exact hP 56 _ rfl
      | 20, _ => rw [← hal]; exact hP 57 _ rfl
      | 21, _ => rw [← hal]; exact hP 58 _ rfl
      | 22, _ => rw [← hal]; exact hP 59 _ rfl
      | 23, _ => rw [← hal]; exact hP 60 _ rfl
      | 24, _ => rw [← hal]; exact hP 61 _ rfl
      | 25, _ => rw [← hal]; exact hP 62 _ rfl
      | 26, _ => exact absurd hk (by decide)
      | 27, _ => exact absurd hk (by decide)
      | 28, _ => rw [← hal]; exact hP 63 _ rfl
      | 29, _ => rw [← hal]; exact hP 64 _ rfl
      | 30, _ => rw [← hal]; exact hP 65 _ rfl
      | 31, _ => rw [← hal]; exact hP 66 _ rfl
      | 32, _ => rw [← hal]; exact hP 67 _ rfl
      | 33, _ => rw [← hal]; exact hP 68 _ rfl
      | 34, _ => exact absurd hk (by decide)
      | 35, _ => rw [← hal]; exact hP 69 _ rfl
      | 36, _ => exact absurd hk (by decide)
      | 37, _ => exact absurd hk (by decide)
      | 38, _ => exact absurd hk (by decide)
      | 39, _ => exact absurd hk (by decide)
      | 40, _ => rw [← hal]; exact hP 70 _ rfl
      | 41, _ => rw [← hal]; exact hP 71 _ rfl
      | 42, _ => rw [← hal]; exact hP 72 _ rfl
      | 43, _ => rw [← hal]; exact hP 73 _ rfl
      | 44, _ => exact absurd hk (by decide)
      | 45, _ => exact absurd hk (by decide)
      | 46, _ => exact absurd hk (by decide)
      | 47, _ => exact absurd hk (by decide)
      | 48, _ => rw [← hal]; exact hP 74 _ rfl
      | 49, _ => rw [← hal]; exact hP 75 _ rfl
      | 50, _ => rw [← hal]; exact hP 76 _ rfl
      | 51, _ => exact absurd hk (by decide)
      | 52, _ => rw [← hal]; exact hP 77 _ rfl
      | k + 53, h => exact absurd h (by omega)
  · obtain ⟨e1, h1⟩ := hw s h k hk
    obtain ⟨e2, h2⟩ := hw s' h' k' hk'
    exact ps0_inj s h k hk s' h' k' hk' (hD.1 _ _ _ _ h1 h2 he)
  · obtain ⟨e1, h1⟩ := hw s h k hk
    exact hD.2 _ _ h1
