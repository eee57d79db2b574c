theorem cpR_in (g : Int32 → Int32) (f : Nat → Int32) {a b hi i : Nat} (h : i < hi) : cpR g f a b 0 hi (b + i) = g (f (a + i)) := by
  unfold cpR
  rw [if_pos (by omega)]
  congr 2
  omega
theorem cpR_out (g : Int32 → Int32) (f : Nat → Int32) {a b hi j : Nat} (h : j < b ∨ b + hi ≤ j) : cpR g f a b 0 hi j = f j := by
  unfold cpR
  rw [if_neg (by omega)]
theorem nrB01 (c : Bool) : nrB (if c then 1 else 0) = if c then 1 else 0 := by
  cases c
  · exact nar0
  · exact nar1
theorem Rm_copy {σ : Sg} {v : Vw} {w1 w2 : Nat} (h : okStore v) (hm : Rm w1 v (σ 7)) : Rm w2 v (cpS σ w1 w2 7) := by
  have h8 := h.1.1
  have h3 := h.2.1.1
  obtain ⟨⟨a1, a2, a3⟩, ⟨b1, b2, b3, b4⟩, c, d, e, f⟩ := hm
  have g9 : ∀ i, i < 6 → cpS σ w1 w2 7 9 (6 * w2 + i) = σ 7 9 (6 * w1 + i) := fun i hi => cpR_in id (σ 7 9) hi
  refine ⟨⟨?_, ?_, ?_⟩, ⟨(g9 0 (by omega)).trans b1, (g9 1 (by omega)).trans b2, (g9 2 (by omega)).trans b3, (g9 3 (by omega)).trans b4⟩, fun r hr => ?_, fun r hr j hj => ?_, fun r hr p hp => ?_, fun b hb => ?_⟩
  · show upd (σ 7 6) w2 (σ 7 6 w1) w2 = _
    rw [upd_r, if_pos rfl]; exact a1
  · show upd (σ 7 7) w2 (σ 7 7 w1) w2 = _
    rw [upd_r, if_pos rfl]; exact a2
  · show upd (σ 7 8) w2 (σ 7 8 w1) w2 = _
    rw [upd_r, if_pos rfl]; exact a3
  · obtain ⟨c1, c2, c3, c4, c5, c6, c7⟩ := c r hr
    have hr8 : r < 8 := by omega
    exact ⟨(cpR_in id (σ 7 10) hr8).trans c1, (cpR_in id (σ 7 11) hr8).trans c2, (cpR_in id (σ 7 12) hr8).trans c3, (cpR_in id (σ 7 13) hr8).trans c4, (cpR_in id (σ 7 14) hr8).trans c5, (cpR_in id (σ 7 15) hr8).trans c6, (cpR_in id (σ 7 16) hr8).trans c7⟩
  · have hv := vs_le (okS h hr)
    have hj' : 30 * r + j < 240 := by omega
    have e1 : cpS σ w1 w2 7 17 (240 * w2 + (30 * r + j)) = nrB (σ 7 17 (240 * w1 + (30 * r + j))) := cpR_in nrB (σ 7 17) hj'
    rw [Nat.add_assoc, e1, ← Nat.add_assoc, d r hr j hj]
    exact nrB01 _
  · have hv := vs_le (okS h hr)
    have hj' : 180 * r + p < 1440 := by omega
    have e1 : cpS σ w1 w2 7 18 (1440 * w2 + (180 * r + p)) = σ 7 18 (1440 * w1 + (180 * r + p)) := cpR_in id (σ 7 18) hj'
    rw [Nat.add_assoc, e1, ← Nat.add_assoc]
    exact e r hr p hp
  · obtain ⟨c1, c2, c3, c4, c5, c6⟩ := f b hb
    have hb8 : b < 300 := by omega
    exact ⟨(cpR_in id (σ 7 19) hb8).trans c1, (cpR_in id (σ 7 20) hb8).trans c2, (cpR_in id (σ 7 21) hb8).trans c3, (cpR_in id (σ 7 22) hb8).trans c4, (cpR_in id (σ 7 23) hb8).trans c5, (cpR_in id (σ 7 24) hb8).trans c6⟩
theorem Rm_copy_other {σ : Sg} {v : Vw} {w w1 w2 : Nat} (h : okStore v) (hw : w ≠ w2) (hm : Rm w v (σ 7)) : Rm w v (cpS σ w1 w2 7) := by
  have h8 := h.1.1
  have h3 := h.2.1.1
  obtain ⟨⟨a1, a2, a3⟩, ⟨b1, b2, b3, b4⟩, c, d, e, f⟩ := hm
  have g9 : ∀ i, i < 6 → cpS σ w1 w2 7 9 (6 * w + i) = σ 7 9 (6 * w + i) := fun i hi => cpR_out id (σ 7 9) (by omega)
  refine ⟨⟨?_, ?_, ?_⟩, ⟨(g9 0 (by omega)).trans b1, (g9 1 (by omega)).trans b2, (g9 2 (by omega)).trans b3, (g9 3 (by omega)).trans b4⟩, fun r hr => ?_, fun r hr j hj => ?_, fun r hr p hp => ?_, fun b hb => ?_⟩
  · show upd (σ 7 6) w2 (σ 7 6 w1) w = _
    rw [upd_r, if_neg hw]; exact a1
  · show upd (σ 7 7) w2 (σ 7 7 w1) w = _
    rw [upd_r, if_neg hw]; exact a2
  · show upd (σ 7 8) w2 (σ 7 8 w1) w = _
    rw [upd_r, if_neg hw]; exact a3
  · obtain ⟨c1, c2, c3, c4, c5, c6, c7⟩ := c r hr
    have hr8 : 8 * w + r < 8 * w2 ∨ 8 * w2 + 8 ≤ 8 * w + r := by omega
    exact ⟨(cpR_out id (σ 7 10) hr8).trans c1, (cpR_out id (σ 7 11) hr8).trans c2, (cpR_out id (σ 7 12) hr8).trans c3, (cpR_out id (σ 7 13) hr8).trans c4, (cpR_out id (σ 7 14) hr8).trans c5, (cpR_out id (σ 7 15) hr8).trans c6, (cpR_out id (σ 7 16) hr8).trans c7⟩
  · have hv := vs_le (okS h hr)
    have hj' : 240 * w + 30 * r + j < 240 * w2 ∨ 240 * w2 + 240 ≤ 240 * w + 30 * r + j := by omega
    exact (cpR_out nrB (σ 7 17) hj').trans (d r hr j hj)
  · have hv := vs_le (okS h hr)
    have hj' : 1440 * w + 180 * r + p < 1440 * w2 ∨ 1440 * w2 + 1440 ≤ 1440 * w + 180 * r + p := by omega
    exact (cpR_out id (σ 7 18) hj').trans (e r hr p hp)
  · obtain ⟨c1, c2, c3, c4, c5, c6⟩ := f b hb
    have hb8 : 300 * w + b < 300 * w2 ∨ 300 * w2 + 300 ≤ 300 * w + b := by omega
    exact ⟨(cpR_out id (σ 7 19) hb8).trans c1, (cpR_out id (σ 7 20) hb8).trans c2, (cpR_out id (σ 7 21) hb8).trans c3, (cpR_out id (σ 7 22) hb8).trans c4, (cpR_out id (σ 7 23) hb8).trans c5, (cpR_out id (σ 7 24) hb8).trans c6⟩
/-! the same store, as far as it is looked at -/
def Sm (v v' : Vw) : Prop := (∀ i, i < 5 → v' 0 i = v 0 i) ∧ v' 1 0 = v 1 0 ∧ v' 15 0 = v 15 0 ∧ (∀ k, 2 ≤ k → k ≤ 13 → ∀ r, r < vn v → v' k r = v k r) ∧ (∀ j, j < 180 * vn v → v' 14 j = v 14 j) ∧ ∀ k, 16 ≤ k → k ≤ 21 → ∀ b, b < vb v → v' k b = v k b
theorem Sm.geo {v v' : Vw} (s : Sm v v') : vn v' = vn v ∧ vb v' = vb v ∧ ∀ r, r < vn v → vw v' r = vw v r ∧ vy v' r = vy v r ∧ vz v' r = vz v r ∧ vf v' r = vf v r ∧ vs v' r = vs v r := by
  obtain ⟨s0, s1, s15, sr, sc, sb⟩ := s
  refine ⟨by unfold vn; rw [s1], by unfold vb; rw [s15], fun r hr => ?_⟩
  have a : vw v' r = vw v r := by unfold vw; rw [sr 3 (by omega) (by omega) r hr]
  have b : vy v' r = vy v r := by unfold vy; rw [sr 4 (by omega) (by omega) r hr]
  have c : vz v' r = vz v r := by unfold vz; rw [sr 5 (by omega) (by omega) r hr]
  refine ⟨a, b, c, ?_, ?_⟩
  · unfold vf; rw [a, b]
  · unfold vs; rw [a, b, c]
theorem Sm.ok {v v' : Vw} (s : Sm v v') (h : okStore v) : okStore v' := by
  obtain ⟨gn, gb, gr⟩ := s.geo
  obtain ⟨s0, s1, s15, sr, sc, sb⟩ := s
  obtain ⟨h1, h2, h3, h4, h5, h6, h7, h8⟩ := h
  have gc : ∀ r p, r < vn v → p < 180 → vc v' r p = vc v r p := fun r p hr hp => sc _ (by omega)
  refine ⟨⟨by rw [gn]; exact h1.1, by rw [gn, s1]; exact h1.2⟩, ⟨by rw [gb]; exact h2.1, by rw [gb, s15]; exact h2.2⟩, by rw [s0 0 (by omega)]; exact h3, fun r hr => ?_, fun r hr p hp => ?_, fun b hb => ?_, fun r hr => ?_, fun r hr => ?_⟩
  · rw [gn] at hr
    obtain ⟨e1, e2, e3, e4, e5⟩ := gr r hr
    unfold okRoom
    rw [e1, e2, e3, e4, e5, sr 2 (by omega) (by omega) r hr, sr 3 (by omega) (by omega) r hr, sr 4 (by omega) (by omega) r hr, sr 5 (by omega) (by omega) r hr, sr 6 (by omega) (by omega) r hr, sr 7 (by omega) (by omega) r hr, sr 8 (by omega) (by omega) r hr, sr 13 (by omega) (by omega) r hr]
    exact h4 r hr
  · rw [gn] at hr
    obtain ⟨-, -, -, -, e5⟩ := gr r hr
    rw [e5] at hp
    have hv := vs_le (h4 r hr)
    unfold okCell
    rw [gc r p hr (by omega), gb]
    rcases h5 r hr p hp with o | o | o | ⟨b, o1, o2, o3, o4⟩
    · exact Or.inl o
    · exact Or.inr (Or.inl o)
    · exact Or.inr (Or.inr (Or.inl o))
    · exact Or.inr (Or.inr (Or.inr ⟨b, o1, o2, by rw [sb 18 (by omega) (by omega) b o1]; exact o3, by rw [sb 19 (by omega) (by omega) b o1]; exact o4⟩))
  · rw [gb] at hb
    obtain ⟨b1, b2, b3⟩ := h6 b hb
    unfold okBlock
    rw [sb 16 (by omega) (by omega) b hb, sb 17 (by omega) (by omega) b hb, sb 18 (by omega) (by omega) b hb, sb 19 (by omega) (by omega) b hb, sb 21 (by omega) (by omega) b hb, gn]
    refine ⟨b1, b2, ?_⟩
    rcases b3 with b3 | ⟨r, p, hr, hp, o1, o2, o3⟩
    · exact Or.inl b3
    · have hv := vs_le (h4 r hr)
      exact Or.inr ⟨r, p, hr, by rw [(gr r hr).2.2.2.2]; exact hp, o1, o2, by rw [gc r p hr (by omega)]; exact o3⟩
  · rw [gn] at hr
    rw [sr 11 (by omega) (by omega) r hr, h7 r hr, gb]
    congr 1
    refine cntF_cong (fun b hb => ?_)
    rw [sb 18 (by omega) (by omega) b hb, sb 16 (by omega) (by omega) b hb]
  · rw [gn] at hr
    have hv := vs_le (h4 r hr)
    rw [sr 12 (by omega) (by omega) r hr, h8 r hr, (gr r hr).2.2.2.1]
    congr 1
    refine cntF_cong (fun p hp => ?_)
    rw [gc r p hr (by omega)]
theorem Sm.rm {v v' m : Vw} {w : Nat} (s : Sm v v') (h : okStore v) (hm : Rm w v m) : Rm w v' m := by
  obtain ⟨gn, gb, gr⟩ := s.geo
  obtain ⟨s0, s1, s15, sr, sc, sb⟩ := s
  obtain ⟨⟨a1, a2, a3⟩, ⟨b1, b2, b3, b4⟩, c, d, e, f⟩ := hm
  refine ⟨⟨?_, ?_, ?_⟩, ⟨?_, ?_, ?_, ?_⟩, fun r hr => ?_, fun r hr j hj => ?_, fun r hr p hp => ?_, fun b hb => ?_⟩
  · rw [s0 0 (by omega)]; exact a1
  · rw [s1]; exact a2
  · rw [s15]; exact a3
  · rw [s0 1 (by omega)]; exact b1
  · rw [s0 2 (by omega)]; exact b2
  · rw [s0 3 (by omega)]; exact b3
  · rw [s0 4 (by omega)]; exact b4
  · rw [gn] at hr
    rw [sr 2 (by omega) (by omega) r hr, sr 3 (by omega) (by omega) r hr, sr 4 (by omega) (by omega) r hr, sr 5 (by omega) (by omega) r hr, sr 6 (by omega) (by omega) r hr, sr 9 (by omega) (by omega) r hr, sr 10 (by omega) (by omega) r hr]
    exact c r hr
  · rw [gn] at hr
    rw [(gr r hr).2.1, (gr r hr).2.2.1] at hj
    rw [sr 13 (by omega) (by omega) r hr]
    exact d r hr j hj
  · rw [gn] at hr
    rw [(gr r hr).2.2.2.2] at hp
    have hv := vs_le (okS h hr)
    rw [show vc v' r p = vc v r p from sc _ (by omega)]
    exact e r hr p hp
  · rw [gb] at hb
    rw [sb 16 (by omega) (by omega) b hb, sb 17 (by omega) (by omega) b hb, sb 18 (by omega) (by omega) b hb, sb 19 (by omega) (by omega) b hb, sb 20 (by omega) (by omega) b hb, sb 21 (by omega) (by omega) b hb]
    exact f b hb
