theorem cntF_zero {p : Nat → Bool} : ∀ {n : Nat}, (∀ k, k < n → p k = false) → cntF p n = 0
  | 0, _ => rfl
  | n + 1, h => by simp only [cntF]; rw [cntF_zero (fun k hk => h k (by omega)), h n (by omega)]; rfl
theorem neg1_ne {r : Nat} (hr : r < 2 ^ 31) : ¬ (-1 : Int32) = nI r := fun q => by
  have := congrArg Int32.toInt q
  rw [nI_toInt hr] at this
  have h2 : Int32.toInt (-1) = -1 := by decide
  omega
section RoomS
variable {σ : Sg} {k q : Int32} {w y z : Nat}
theorem vn_room (h : okStore (σ 0)) (h8 : vn (σ 0) < 8) : vn (roomS σ k (nI w) (nI y) (nI z) q (vn (σ 0)) 0) = vn (σ 0) + 1 := by
  show (nI (vn (σ 0)) + 1).toNatClampNeg = _
  rw [nI_1, nI_clamp (by omega)]
theorem okStore_room (h : okStore (σ 0)) (h8 : vn (σ 0) < 8) (hk : ∃ n : Nat, n ≤ 5 ∧ k = nI n) (w1 : 1 ≤ w) (w6 : w ≤ 6) (y1 : 1 ≤ y) (y6 : y ≤ 6) (z1 : 1 ≤ z) (z5 : z ≤ 5) (hq : k = 2 → ∃ n : Nat, n < vn (σ 0) ∧ q = nI n) (hq2 : k ≠ 2 → q = -1) : okStore (roomS σ k (nI w) (nI y) (nI z) q (vn (σ 0)) 0) := by
  have en := vn_room (k := k) (q := q) (w := w) (y := y) (z := z) h h8
  obtain ⟨h1, h2, h3, h4, h5, h6, h7, h8'⟩ := h
  have e2 : ∀ s, roomS σ k (nI w) (nI y) (nI z) q (vn (σ 0)) 0 2 s = if s = vn (σ 0) then k else σ 0 2 s := fun s => upd_r _ _ _ _
  have e3 : ∀ s, roomS σ k (nI w) (nI y) (nI z) q (vn (σ 0)) 0 3 s = if s = vn (σ 0) then nI w else σ 0 3 s := fun s => upd_r _ _ _ _
  have e4 : ∀ s, roomS σ k (nI w) (nI y) (nI z) q (vn (σ 0)) 0 4 s = if s = vn (σ 0) then nI y else σ 0 4 s := fun s => upd_r _ _ _ _
  have e5 : ∀ s, roomS σ k (nI w) (nI y) (nI z) q (vn (σ 0)) 0 5 s = if s = vn (σ 0) then nI z else σ 0 5 s := fun s => upd_r _ _ _ _
  have e6 : ∀ s, roomS σ k (nI w) (nI y) (nI z) q (vn (σ 0)) 0 6 s = if s = vn (σ 0) then q else σ 0 6 s := fun s => upd_r _ _ _ _
  have e7 : ∀ s, roomS σ k (nI w) (nI y) (nI z) q (vn (σ 0)) 0 7 s = if s = vn (σ 0) then nI w * nI y else σ 0 7 s := fun s => upd_r _ _ _ _
  have e8 : ∀ s, roomS σ k (nI w) (nI y) (nI z) q (vn (σ 0)) 0 8 s = if s = vn (σ 0) then nI w * nI y * nI z else σ 0 8 s := fun s => upd_r _ _ _ _
  have e11 : ∀ s, roomS σ k (nI w) (nI y) (nI z) q (vn (σ 0)) 0 11 s = if s = vn (σ 0) then 0 else σ 0 11 s := fun s => upd_r _ _ _ _
  have e12 : ∀ s, roomS σ k (nI w) (nI y) (nI z) q (vn (σ 0)) 0 12 s = if s = vn (σ 0) then 0 else σ 0 12 s := fun s => upd_r _ _ _ _
  have e13 : ∀ s, roomS σ k (nI w) (nI y) (nI z) q (vn (σ 0)) 0 13 s = if s = vn (σ 0) then 0 else σ 0 13 s := fun s => upd_r _ _ _ _
  have e14 : ∀ s, roomS σ k (nI w) (nI y) (nI z) q (vn (σ 0)) 0 14 s = if 180 * vn (σ 0) ≤ s ∧ s < 180 * vn (σ 0) + 180 then 0 else σ 0 14 s := fun s => rfl
  have e15 : vb (roomS σ k (nI w) (nI y) (nI z) q (vn (σ 0)) 0) = vb (σ 0) := rfl
  have f18 : roomS σ k (nI w) (nI y) (nI z) q (vn (σ 0)) 0 18 = σ 0 18 := rfl
  have f16 : roomS σ k (nI w) (nI y) (nI z) q (vn (σ 0)) 0 16 = σ 0 16 := rfl
  have f17 : roomS σ k (nI w) (nI y) (nI z) q (vn (σ 0)) 0 17 = σ 0 17 := rfl
  have f19 : roomS σ k (nI w) (nI y) (nI z) q (vn (σ 0)) 0 19 = σ 0 19 := rfl
  have f21' : roomS σ k (nI w) (nI y) (nI z) q (vn (σ 0)) 0 21 = σ 0 21 := rfl
  have f15 : roomS σ k (nI w) (nI y) (nI z) q (vn (σ 0)) 0 15 0 = σ 0 15 0 := rfl
  have f1 : roomS σ k (nI w) (nI y) (nI z) q (vn (σ 0)) 0 1 0 = nI (vn (σ 0)) + 1 := rfl
  have f0 : roomS σ k (nI w) (nI y) (nI z) q (vn (σ 0)) 0 0 0 = σ 0 0 0 := rfl
  generalize roomS σ k (nI w) (nI y) (nI z) q (vn (σ 0)) 0 = V at *
  have vwo : ∀ s, s ≠ vn (σ 0) → vw V s = vw (σ 0) s := fun s hs => by unfold vw; rw [e3, if_neg hs]
  have vyo : ∀ s, s ≠ vn (σ 0) → vy V s = vy (σ 0) s := fun s hs => by unfold vy; rw [e4, if_neg hs]
  have vzo : ∀ s, s ≠ vn (σ 0) → vz V s = vz (σ 0) s := fun s hs => by unfold vz; rw [e5, if_neg hs]
  have vso : ∀ s, s ≠ vn (σ 0) → vs V s = vs (σ 0) s := fun s hs => by unfold vs; rw [vwo s hs, vyo s hs, vzo s hs]
  have vfo : ∀ s, s ≠ vn (σ 0) → vf V s = vf (σ 0) s := fun s hs => by unfold vf; rw [vwo s hs, vyo s hs]
  have vwn : vw V (vn (σ 0)) = w := by unfold vw; rw [e3, if_pos rfl, nI_clamp (by omega)]
  have vyn : vy V (vn (σ 0)) = y := by unfold vy; rw [e4, if_pos rfl, nI_clamp (by omega)]
  have vzn : vz V (vn (σ 0)) = z := by unfold vz; rw [e5, if_pos rfl, nI_clamp (by omega)]
  have vco : ∀ s p, s ≠ vn (σ 0) → p < 180 → vc V s p = vc (σ 0) s p := fun s p hs hp => by unfold vc; rw [e14, if_neg (by omega)]
  have vcn : ∀ p, p < 180 → vc V (vn (σ 0)) p = 0 := fun p hp => by unfold vc; rw [e14, if_pos (by omega)]
  have bnd : w * y ≤ 36 := Nat.mul_le_mul w6 y6
  have bnd2 : w * y * z ≤ 36 * 5 := Nat.mul_le_mul bnd z5
  refine ⟨⟨by omega, by rw [f1, en, nI_1]⟩, ⟨by rw [e15]; exact h2.1, by rw [f15, e15]; exact h2.2⟩, by rw [f0]; exact h3, fun s hs => ?_, fun s hs p hp => ?_, fun b hb => ?_, fun s hs => ?_, fun s hs => ?_⟩
  · rw [en] at hs
    unfold okRoom vf vs
    rw [e2, e3, e4, e5, e6, e7, e8, e13]
    by_cases c : s = vn (σ 0)
    · subst c
      simp only [if_pos]
      rw [vwn, vyn, vzn, pk_mul, pk_mul]
      exact ⟨hk, ⟨w1, w6, rfl⟩, ⟨y1, y6, rfl⟩, ⟨z1, z5, rfl⟩, hq, hq2, rfl, rfl, 0, Nat.two_pow_pos _, rfl⟩
    · simp only [if_neg c]
      rw [vwo s c, vyo s c, vzo s c]
      exact h4 s (by omega)
  · rw [en] at hs
    unfold okCell
    rw [e15, f18, f19]
    by_cases c : s = vn (σ 0)
    · subst c
      have hp' : p < 180 := by unfold vs at hp; rw [vwn, vyn, vzn] at hp; omega
      exact Or.inl (vcn p hp')
    · have hp' : p < vs (σ 0) s := by rw [← vso s c]; exact hp
      have hvs := vs_le (h4 s (by omega))
      rw [vco s p c (by omega)]
      exact h5 s (by omega) p hp'
  · rw [e15] at hb
    obtain ⟨b1, b2, b3⟩ := h6 b hb
    unfold okBlock
    rw [f16, f17, f18, f19, f21', en]
    refine ⟨b1, b2, ?_⟩
    rcases b3 with b3 | ⟨s, p, hs, hp, o1, o2, o3⟩
    · exact Or.inl b3
    · have hvs := vs_le (h4 s hs)
      exact Or.inr ⟨s, p, by omega, by rw [vso s (by omega)]; exact hp, o1, o2, by rw [vco s p (by omega) (by omega)]; exact o3⟩
  · rw [en] at hs
    rw [e11, e15, f18, f16]
    by_cases c : s = vn (σ 0)
    · subst c
      rw [if_pos rfl, cntF_zero]
      · rfl
      · intro b hb
        refine decide_eq_false (fun hh => ?_)
        rcases (h6 b hb).2.2 with ⟨b3, -⟩ | ⟨s, p, hs, hp, o1, -⟩
        · rw [b3] at hh; exact neg1_ne (by omega) hh.1
        · rw [o1] at hh
          have := (nI_eq (by omega) (by omega)).mp hh.1
          omega
    · rw [if_neg c]; exact h7 s (by omega)
  · rw [en] at hs
    rw [e12]
    by_cases c : s = vn (σ 0)
    · subst c
      rw [if_pos rfl, cntF_zero]
      · rfl
      · intro p hp
        unfold vf at hp; rw [vwn, vyn] at hp
        rw [vcn p (by omega)]
        rfl
    · have hvs := vs_le (h4 s (by omega))
      rw [if_neg c, h8' s (by omega), vfo s c]
      congr 1
      refine cntF_cong (fun p hp => ?_)
      rw [vco s p c (by omega)]
theorem Rm_room {τ : Sg} (h : okStore (σ 0)) (hm : Rm 0 (σ 0) (τ 7)) (h8 : vn (σ 0) < 8) (w6 : w ≤ 6) (y6 : y ≤ 6) (z5 : z ≤ 5) : Rm 0 (roomS σ k (nI w) (nI y) (nI z) q (vn (σ 0)) 0) (roomM τ k (nI w) (nI y) (nI z) q (vn (σ 0)) 7) := by
  have en := vn_room (k := k) (q := q) (w := w) (y := y) (z := z) h h8
  obtain ⟨⟨a1, a2, a3⟩, b, c, d, e, f⟩ := hm
  have e3 : ∀ s, roomS σ k (nI w) (nI y) (nI z) q (vn (σ 0)) 0 3 s = if s = vn (σ 0) then nI w else σ 0 3 s := fun s => upd_r _ _ _ _
  have e4 : ∀ s, roomS σ k (nI w) (nI y) (nI z) q (vn (σ 0)) 0 4 s = if s = vn (σ 0) then nI y else σ 0 4 s := fun s => upd_r _ _ _ _
  have e5 : ∀ s, roomS σ k (nI w) (nI y) (nI z) q (vn (σ 0)) 0 5 s = if s = vn (σ 0) then nI z else σ 0 5 s := fun s => upd_r _ _ _ _
  have bnd : w * y ≤ 36 := Nat.mul_le_mul w6 y6
  have bnd2 : w * y * z ≤ 36 * 5 := Nat.mul_le_mul bnd z5
  have bnd3 : y * z ≤ 6 * 5 := Nat.mul_le_mul y6 z5
  refine ⟨⟨a1, rfl, a3⟩, b, fun s hs => ?_, fun s hs j hj => ?_, fun s hs p hp => ?_, f⟩
  · rw [en] at hs
    rw [show 8 * 0 + s = s by omega]
    show upd (τ 7 10) (vn (σ 0)) k s = upd (σ 0 2) (vn (σ 0)) k s ∧ upd (τ 7 11) (vn (σ 0)) (nI w) s = upd (σ 0 3) (vn (σ 0)) (nI w) s ∧ upd (τ 7 12) (vn (σ 0)) (nI y) s = upd (σ 0 4) (vn (σ 0)) (nI y) s ∧ upd (τ 7 13) (vn (σ 0)) (nI z) s = upd (σ 0 5) (vn (σ 0)) (nI z) s ∧ upd (τ 7 14) (vn (σ 0)) q s = upd (σ 0 6) (vn (σ 0)) q s ∧ upd (τ 7 15) (vn (σ 0)) 0 s = upd (σ 0 9) (vn (σ 0)) 0 s ∧ upd (τ 7 16) (vn (σ 0)) 0 s = upd (σ 0 10) (vn (σ 0)) 0 s
    simp only [upd_r]
    by_cases cc : s = vn (σ 0)
    · simp only [if_pos cc, and_self]
    · simp only [if_neg cc]
      have := c s (by omega)
      rw [show 8 * 0 + s = s by omega] at this
      exact this
  · rw [en] at hs
    unfold vy vz at hj
    rw [e4, e5] at hj
    rw [show 240 * 0 + 30 * s + j = 30 * s + j by omega]
    show (if 30 * vn (σ 0) ≤ 30 * s + j ∧ 30 * s + j < 30 * vn (σ 0) + 30 then 0 else τ 7 17 (30 * s + j)) = if (upd (σ 0 13) (vn (σ 0)) 0 s).toNatClampNeg.testBit j then 1 else 0
    rw [upd_r]
    by_cases cc : s = vn (σ 0)
    · rw [if_pos cc, if_pos cc, nI_clamp (by omega), nI_clamp (by omega)] at hj
      rw [if_pos (by omega), if_pos cc]
      rw [show (0 : Int32).toNatClampNeg = 0 by decide, Nat.zero_testBit]
      rfl
    · rw [if_neg cc, if_neg cc] at hj
      have hj' : j < vy (σ 0) s * vz (σ 0) s := hj
      have hvs := vs_le (okS h (show s < vn (σ 0) by omega))
      rw [if_neg (by omega), if_neg cc]
      have := d s (by omega) j hj'
      rw [show 240 * 0 + 30 * s + j = 30 * s + j by omega] at this
      exact this
  · rw [en] at hs
    unfold vs vw vy vz at hp
    rw [e3, e4, e5] at hp
    rw [show 1440 * 0 + 180 * s + p = 180 * s + p by omega]
    show (if 180 * vn (σ 0) ≤ 180 * s + p ∧ 180 * s + p < 180 * vn (σ 0) + 180 then 0 else τ 7 18 (180 * s + p)) = if 180 * vn (σ 0) ≤ 180 * s + p ∧ 180 * s + p < 180 * vn (σ 0) + 180 then 0 else σ 0 14 (180 * s + p)
    by_cases cc : s = vn (σ 0)
    · rw [if_pos cc, if_pos cc, if_pos cc, nI_clamp (by omega), nI_clamp (by omega), nI_clamp (by omega)] at hp
      rw [if_pos (by omega), if_pos (by omega)]
    · rw [if_neg cc, if_neg cc, if_neg cc] at hp
      have hp' : p < vs (σ 0) s := hp
      have hvs := vs_le (okS h (show s < vn (σ 0) by omega))
      rw [if_neg (by omega), if_neg (by omega)]
      have := e s (by omega) p hp'
      rw [show 1440 * 0 + 180 * s + p = 180 * s + p by omega] at this
      exact this
end RoomS
