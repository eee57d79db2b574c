/-! the reference remembers where all lay, and brings it back -/
theorem rem_loop {T : Sg} {v : Vw} (hv : okStore v) (hm : Rm 0 v (T 7)) : ∀ m i f (S : Sg), i + m = vb v → m < f → (∀ s, s ≠ 7 → S s = T s) → (∀ k, k ≠ 41 → k ≠ 42 → S 7 k = T 7 k) → (∀ b, b < i → S 7 41 b = v 18 b ∧ S 7 42 b = v 19 b) → ∃ S' : Sg, fM_remembers_2 f S (nI i) = some S' ∧ (∀ s, s ≠ 7 → S' s = T s) ∧ (∀ k, k ≠ 41 → k ≠ 42 → S' 7 k = T 7 k) ∧ ∀ b, b < vb v → S' 7 41 b = v 18 b ∧ S' 7 42 b = v 19 b := by
  have h3 := hv.2.1.1
  have i6 : ib 0 6 = true := by decide
  have c0 : (0 : Int32).toNatClampNeg = 0 := by decide
  intro m
  induction m with
  | zero =>
    intro i f S hi hf s1 s2 s3
    obtain ⟨f, rfl⟩ : ∃ k, f = k + 1 := ⟨f - 1, by omega⟩
    have ei : i = vb v := by omega
    subst ei
    have e8 : S 7 8 0 = nI (vb v) := by rw [s2 8 (by omega) (by omega)]; exact m_8 hv hm
    have q : nI (vb v) ≤ nI (vb v) := nI_le (by omega) (by omega)
    refine ⟨S, ?_, s1, s2, s3⟩
    simp only [fM_remembers_2, fM_remembers_2_b, i6, c0, gd_t, e8, q, ↓reduceIte]
  | succ m ih =>
    intro i f S hi hf s1 s2 s3
    obtain ⟨f, rfl⟩ : ∃ k, f = k + 1 := ⟨f - 1, by omega⟩
    have hiv : i < vb v := by omega
    have e8 : S 7 8 0 = nI (vb v) := by rw [s2 8 (by omega) (by omega)]; exact m_8 hv hm
    have q : ¬ nI (vb v) ≤ nI i := nI_ge hiv (by omega)
    have hib : ib (nI i) 300 = true := ib_nI (by omega) (by decide)
    have hib2 : ib (nI i) 1800 = true := ib_nI (by omega) (by decide)
    have hcl : (nI i).toNatClampNeg = i := nI_clamp (by omega)
    obtain ⟨-, -, m3, m4, -⟩ := m_b hm hiv
    have e21 : S 7 21 i = v 18 i := by rw [s2 21 (by omega) (by omega)]; exact m3
    have e22 : S 7 22 i = v 19 i := by rw [s2 22 (by omega) (by omega)]; exact m4
    obtain ⟨S', h1, h2⟩ := ih (i + 1) f (upA (upA S 7 41 (upd (S 7 41) i (v 18 i))) 7 42 (upd (S 7 42) i (v 19 i))) (by omega) (by omega) (fun s hs => by rw [upA_o _ _ _ hs, upA_o _ _ _ hs]; exact s1 s hs) (fun k k41 k42 => by rw [upA_a, if_neg k42, upA_a, if_neg k41]; exact s2 k k41 k42) (fun b hb => by
      rw [upA_a, if_neg (by omega), upA_same, upA_same, upd_r, upd_r]
      split
      · next z => rw [z]; exact ⟨rfl, rfl⟩
      · exact s3 b (by omega))
    refine ⟨S', ?_, h2⟩
    rw [← h1]
    have f22 : ∀ g : Nat → Int32, upA S 7 41 g 7 22 = S 7 22 := fun g => by rw [upA_a, if_neg (by omega)]
    have f42 : ∀ g : Nat → Int32, upA S 7 41 g 7 42 = S 7 42 := fun g => by rw [upA_a, if_neg (by omega)]
    simp only [fM_remembers_2, fM_remembers_2_b, i6, c0, gd_t, e8, q, hib, hib2, hcl, lt_v, e21, f22, f42, e22, nI_1, ↓reduceIte]
theorem rem_m {T : Sg} {v : Vw} (hv : okStore v) (hm : Rm 0 v (T 7)) : ∃ S' : Sg, fM_remembers T = some S' ∧ (∀ s, s ≠ 7 → S' s = T s) ∧ (∀ k, k ≠ 41 → k ≠ 42 → S' 7 k = T 7 k) ∧ ∀ b, b < vb v → S' 7 41 b = v 18 b ∧ S' 7 42 b = v 19 b := by
  have h3 := hv.2.1.1
  exact rem_loop hv hm (vb v) 0 FU T (by omega) (by unfold FU; omega) (fun _ _ => rfl) (fun _ _ _ => rfl) (fun b hb => absurd hb (by omega))
section Bring
variable {v : Vw} {pa we t : Int32} {r n : Nat}
def BR (v : Vw) (pa we t : Int32) (r n : Nat) (Y : Sg) (i : Nat) (B : Sg) : Prop := (∀ s, s ≠ 7 → B s = Y s) ∧ (∀ k, k ≠ 18 → k ≠ 21 → k ≠ 22 → B 7 k = Y 7 k) ∧ Ofs (Y 7) (B 7) ∧ (∀ c, c < i → c < vb v → B 7 21 c = v 18 c ∧ B 7 22 c = v 19 c) ∧ (∀ c, i ≤ c → B 7 21 c = Y 7 21 c ∧ B 7 22 c = Y 7 22 c) ∧ ∀ q, q < vn v → ∀ p, p < vs v q → (∀ j, j < n → i ≤ Lb v pa we t r j → 180 * q + p ≠ 180 * r + plc v (Lb v pa we t r j)) → B 7 18 (180 * q + p) = vc v q p
theorem bring_loop (hv : okStore v) (hr : r < vn v) (hn : n ≤ cR v r) {Y : Sg} (hY : Rm 0 (Lu v pa we t r n) (Y 7)) (h41 : ∀ b, b < vb v → Y 7 41 b = v 18 b ∧ Y 7 42 b = v 19 b) : ∀ m i f (B : Sg), i + m = vb v → m < f → BR v pa we t r n Y i B → ∃ B' : Sg, fM_brings_2 f B (nI i) = some B' ∧ BR v pa we t r n Y (vb v) B' := by
  have h3 := hv.2.1.1
  have h8 := hv.1.1
  have i6 : ib 0 6 = true := by decide
  have c0 : (0 : Int32).toNatClampNeg = 0 := by decide
  have hL := Lu_all hv (pa := pa) (we := we) (t := t) hr n hn
  obtain ⟨gn, gb, gr⟩ := hL.geo
  have Y8 : Y 7 8 0 = nI (vb v) := by rw [m_8 hL.1 hY, gb]
  have hvr := vs_le (okS hv hr)
  intro m
  induction m with
  | zero =>
    intro i f B hi hf hB
    obtain ⟨f, rfl⟩ : ∃ k, f = k + 1 := ⟨f - 1, by omega⟩
    have ei : i = vb v := by omega
    subst ei
    have e8 : B 7 8 0 = nI (vb v) := by rw [hB.2.1 8 (by omega) (by omega) (by omega)]; exact Y8
    have q : nI (vb v) ≤ nI (vb v) := nI_le (by omega) (by omega)
    refine ⟨B, ?_, hB⟩
    simp only [fM_brings_2, fM_brings_2_b, i6, c0, gd_t, e8, q, ↓reduceIte]
  | succ m ih =>
    intro i f B hi hf hB
    obtain ⟨f, rfl⟩ : ∃ k, f = k + 1 := ⟨f - 1, by omega⟩
    have hiv : i < vb v := by omega
    obtain ⟨b1, b2, b3, b4, b5, b6⟩ := hB
    have e8 : B 7 8 0 = nI (vb v) := by rw [b2 8 (by omega) (by omega) (by omega)]; exact Y8
    have q : ¬ nI (vb v) ≤ nI i := nI_ge hiv (by omega)
    have hib : ib (nI i) 300 = true := ib_nI (by omega) (by decide)
    have hib2 : ib (nI i) 1800 = true := ib_nI (by omega) (by decide)
    have hcl : (nI i).toNatClampNeg = i := nI_clamp (by omega)
    have e41 : B 7 41 i = v 18 i := by rw [b2 41 (by omega) (by omega) (by omega)]; exact (h41 i hiv).1
    have e42 : B 7 42 i = v 19 i := by rw [b2 42 (by omega) (by omega) (by omega)]; exact (h41 i hiv).2
    obtain ⟨-, -, m3, m4, -⟩ := m_b hY (show i < vb (Lu v pa we t r n) by rw [gb]; exact hiv)
    have e21 : B 7 21 i = Lu v pa we t r n 18 i := by rw [(b5 i (Nat.le_refl i)).1]; exact m3
    have e22 : B 7 22 i = Lu v pa we t r n 19 i := by rw [(b5 i (Nat.le_refl i)).2]; exact m4
    by_cases c : v 18 i = Lu v pa we t r n 18 i
    · -- it lies as it did
      have e19 : Lu v pa we t r n 19 i = v 19 i := by
        rcases Lu_mem v pa we t r n i with ⟨j, hj, ej⟩ | ⟨-, h⟩
        · exfalso
          obtain ⟨-, x2, -⟩ := Lb_at (pa := pa) (we := we) (t := t) hv hr (show j < cR v r by omega)
          rw [ej] at c
          rw [Lu_gone v pa we t r n j hj, x2] at c
          exact nI_nm1 (n := r) (by omega) c
        · exact h
      obtain ⟨B', h1, h2⟩ := ih (i + 1) f B (by omega) (by omega) ⟨b1, b2, b3, fun c' hc' hcv => by
          by_cases z : c' = i
          · rw [z, e21, e22, ← c, e19]; exact ⟨rfl, rfl⟩
          · exact b4 c' (by omega) hcv, fun c' hc' => b5 c' (by omega), fun q' hq p hp hne => b6 q' hq p hp (fun j hj hle => by
          by_cases z : Lb v pa we t r j = i
          · exfalso
            obtain ⟨-, x2, -⟩ := Lb_at (pa := pa) (we := we) (t := t) hv hr (show j < cR v r by omega)
            rw [← z] at c
            rw [Lu_gone v pa we t r n j hj, x2] at c
            exact nI_nm1 (n := r) (by omega) c
          · exact hne j hj (by omega))⟩
      refine ⟨B', ?_, h2⟩
      rw [← h1]
      simp only [fM_brings_2, fM_brings_2_b, fM_brings_80, i6, c0, gd_t, e8, q, hib, hib2, hcl, e41, e21, ← c, lt_v, nI_1, ↓reduceIte]
    · -- it was taken
      obtain ⟨j, hj, ej⟩ : ∃ j, j < n ∧ i = Lb v pa we t r j := by
        rcases Lu_mem v pa we t r n i with h | ⟨h, -⟩
        · exact h
        · exact absurd h.symm c
      obtain ⟨x1, x2, x3, x4, x5⟩ := Lb_at (pa := pa) (we := we) (t := t) hv hr (show j < cR v r by omega)
      rw [← ej] at x2 x3 x4 x5
      have xp : 180 * nI r + nI (plc v i) = nI (180 * r + plc v i) := by show nI 180 * nI r + nI _ = _; rw [pk_mul, nI_add]
      have hib3 : ib (nI (180 * r + plc v i)) 8640 = true := ib_nI (by omega) (by decide)
      have hcl3 : (nI (180 * r + plc v i)).toNatClampNeg = 180 * r + plc v i := nI_clamp (by omega)
      have x10 : 10 + nI i = nI (10 + i) := nI_add 10 i
      generalize hM : upA (upA (upA B 7 21 (upd (B 7 21) i (v 18 i))) 7 22 (upd (B 7 22) i (v 19 i))) 7 18 (upd (B 7 18) (180 * r + plc v i) (nI (10 + i))) = M
      obtain ⟨B', h1, h2⟩ := ih (i + 1) f M (by omega) (by omega) (by
        rw [← hM]
        refine ⟨fun s hs => by rw [upA_o _ _ _ hs, upA_o _ _ _ hs, upA_o _ _ _ hs]; exact b1 s hs, fun k k18 k21 k22 => by rw [upA_a, if_neg k18, upA_a, if_neg k22, upA_a, if_neg k21]; exact b2 k k18 k21 k22, ?_, fun c' hc' hcv => ?_, fun c' hc' => ?_, fun q' hq p hp hne => ?_⟩
        · have o1 := b3.up (c := 21) (i := i) (x := v 18 i) (show i < 300 by omega)
          have o2 := o1.up (c := 22) (i := i) (x := v 19 i) (show i < 300 by omega)
          have o3 := o2.up (c := 18) (i := 180 * r + plc v i) (x := nI (10 + i)) (show 180 * r + plc v i < 1440 by omega)
          exact o3
        · rw [upA_a, if_neg (by omega), upA_a, if_neg (by omega), upA_same, upA_a, if_neg (by omega), upA_same, upd_r, upd_r]
          split
          · next z => rw [z]; exact ⟨rfl, rfl⟩
          · exact b4 c' (by omega) hcv
        · rw [upA_a, if_neg (by omega), upA_a, if_neg (by omega), upA_same, upA_a, if_neg (by omega), upA_same, upd_r, upd_r, if_neg (by omega), if_neg (by omega)]
          exact b5 c' (by omega)
        · rw [upA_same, upd_r]
          split
          · next z =>
            show _ = v 14 (180 * q' + p)
            rw [z]; exact x5.symm
          · next z =>
            exact b6 q' hq p hp (fun j' hj' hle => by
              by_cases y : Lb v pa we t r j' = i
              · rw [y]; exact z
              · exact hne j' hj' (by omega)))
      refine ⟨B', ?_, h2⟩
      rw [← h1]
      have f22 : ∀ g : Nat → Int32, upA B 7 21 g 7 22 = B 7 22 := fun g => by rw [upA_a, if_neg (by omega)]
      have f42 : ∀ g : Nat → Int32, upA B 7 21 g 7 42 = B 7 42 := fun g => by rw [upA_a, if_neg (by omega)]
      have g21 : ∀ g h : Nat → Int32, upA (upA B 7 21 g) 7 22 h 7 21 = g := fun g h => by rw [upA_a, if_neg (by omega), upA_same]
      have g18 : ∀ g h : Nat → Int32, upA (upA B 7 21 g) 7 22 h 7 18 = B 7 18 := fun g h => by rw [upA_a, if_neg (by omega), upA_a, if_neg (by omega)]
      have u1 : upd (B 7 21) i (v 18 i) i = nI r := by rw [upd_r, if_pos rfl]; exact x2
      have u2 : upd (B 7 22) i (v 19 i) i = nI (plc v i) := by rw [upd_r, if_pos rfl]; exact x3
      simp only [fM_brings_2, fM_brings_2_b, fM_brings_80, i6, c0, gd_t, e8, q, hib, hib2, hcl, e41, e21, c, lt_v, f22, f42, e42, g21, g18, upA_same, u1, u2, xp, hib3, hcl3, x10, hM, nI_1, ↓reduceIte]
theorem bring_m (hv : okStore v) (hr : r < vn v) (hn : n ≤ cR v r) {Y : Sg} (hY : Rm 0 (Lu v pa we t r n) (Y 7)) (h41 : ∀ b, b < vb v → Y 7 41 b = v 18 b ∧ Y 7 42 b = v 19 b) : ∃ B : Sg, fM_brings Y = some B ∧ (∀ s, s ≠ 7 → B s = Y s) ∧ (∀ k, k ≠ 18 → k ≠ 21 → k ≠ 22 → B 7 k = Y 7 k) ∧ Ofs (Y 7) (B 7) ∧ Rm 0 v (B 7) := by
  have h3 := hv.2.1.1
  have h8 := hv.1.1
  have hL := Lu_all hv (pa := pa) (we := we) (t := t) hr n hn
  obtain ⟨gn, gb, gr⟩ := hL.geo
  obtain ⟨-, -, -, c4⟩ := Lu_cells (pa := pa) (we := we) (t := t) hv hr n hn
  obtain ⟨B, h1, h2⟩ := bring_loop hv hr hn hY h41 (vb v) 0 FU Y (by omega) (by unfold FU; omega) ⟨fun _ _ => rfl, fun _ _ _ _ => rfl, Ofs.refl _, fun c hc => absurd hc (by omega), fun _ _ => ⟨rfl, rfl⟩, fun q hq p hp hne => by
    have e := hY.2.2.2.2.1 q (by rw [gn]; exact hq) p (by rw [(gr q).2]; exact hp)
    rw [show 1440 * 0 + 180 * q + p = 180 * q + p by omega] at e
    rw [e]
    exact c4 (180 * q + p) (fun j hj => hne j hj (Nat.zero_le _))⟩
  obtain ⟨b1, b2, b3, b4, b5, b6⟩ := h2
  refine ⟨B, h1, b1, b2, b3, ?_⟩
  obtain ⟨y1, y2, y3, y4, y5, y6⟩ := hY
  have g : ∀ j, j ≠ 11 → j ≠ 12 → j ≠ 14 → j ≠ 18 → j ≠ 19 → Lu v pa we t r n j = v j := hL.2.1
  refine ⟨?_, ?_, fun q hq => ?_, fun q hq j hj => ?_, fun q hq p hp => ?_, fun b hb => ?_⟩
  · rw [b2 6 (by omega) (by omega) (by omega), b2 7 (by omega) (by omega) (by omega), b2 8 (by omega) (by omega) (by omega), ← g 0 (by omega) (by omega) (by omega) (by omega) (by omega), ← g 1 (by omega) (by omega) (by omega) (by omega) (by omega), ← g 15 (by omega) (by omega) (by omega) (by omega) (by omega)]
    exact y1
  · rw [b2 9 (by omega) (by omega) (by omega), ← g 0 (by omega) (by omega) (by omega) (by omega) (by omega)]
    exact y2
  · rw [b2 10 (by omega) (by omega) (by omega), b2 11 (by omega) (by omega) (by omega), b2 12 (by omega) (by omega) (by omega), b2 13 (by omega) (by omega) (by omega), b2 14 (by omega) (by omega) (by omega), b2 15 (by omega) (by omega) (by omega), b2 16 (by omega) (by omega) (by omega), ← g 2 (by omega) (by omega) (by omega) (by omega) (by omega), ← g 3 (by omega) (by omega) (by omega) (by omega) (by omega), ← g 4 (by omega) (by omega) (by omega) (by omega) (by omega), ← g 5 (by omega) (by omega) (by omega) (by omega) (by omega), ← g 6 (by omega) (by omega) (by omega) (by omega) (by omega), ← g 9 (by omega) (by omega) (by omega) (by omega) (by omega), ← g 10 (by omega) (by omega) (by omega) (by omega) (by omega)]
    exact y3 q (by rw [gn]; exact hq)
  · rw [b2 17 (by omega) (by omega) (by omega), ← g 13 (by omega) (by omega) (by omega) (by omega) (by omega)]
    refine y4 q (by rw [gn]; exact hq) j ?_
    unfold vy vz
    rw [g 4 (by omega) (by omega) (by omega) (by omega) (by omega), g 5 (by omega) (by omega) (by omega) (by omega) (by omega)]
    exact hj
  · rw [show 1440 * 0 + 180 * q + p = 180 * q + p by omega]
    refine b6 q hq p hp (fun j hj hle => ?_)
    obtain ⟨x1, -⟩ := Lb_at (pa := pa) (we := we) (t := t) hv hr (show j < cR v r by omega)
    omega
  · have := y6 b (by rw [gb]; exact hb)
    rw [show 300 * 0 + b = b by omega] at this ⊢
    obtain ⟨f1, f2, -, -, f5, f6⟩ := this
    obtain ⟨q1, q2⟩ := b4 b hb hb
    rw [b2 19 (by omega) (by omega) (by omega), b2 20 (by omega) (by omega) (by omega), b2 23 (by omega) (by omega) (by omega), b2 24 (by omega) (by omega) (by omega), ← g 16 (by omega) (by omega) (by omega) (by omega) (by omega), ← g 17 (by omega) (by omega) (by omega) (by omega) (by omega), ← g 20 (by omega) (by omega) (by omega) (by omega) (by omega), ← g 21 (by omega) (by omega) (by omega) (by omega) (by omega)]
    exact ⟨f1, f2, q1, q2, f5, f6⟩
end Bring
