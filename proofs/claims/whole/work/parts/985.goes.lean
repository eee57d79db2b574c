/-! the reference's day: its first loop -/
theorem Rm_24 {v m m' : Vw} {f : Nat → Int32} (hm : Rm 0 v m) (hk : ∀ k, 6 ≤ k → k ≤ 23 → m' k = m k) (h24 : ∀ b, b < vb v → m' 24 b = f b) : Rm 0 (V21 v f) m' := by
  obtain ⟨a, b, c, d, e, g⟩ := hm
  have k6 := hk 6 (by omega) (by omega)
  have k7 := hk 7 (by omega) (by omega)
  have k8 := hk 8 (by omega) (by omega)
  have k9 := hk 9 (by omega) (by omega)
  refine ⟨?_, ?_, fun r hr => ?_, fun r hr j hj => ?_, fun r hr p hp => ?_, fun b hb => ?_⟩
  · rw [k6, k7, k8]; exact a
  · rw [k9]; exact b
  · rw [hk 10 (by omega) (by omega), hk 11 (by omega) (by omega), hk 12 (by omega) (by omega), hk 13 (by omega) (by omega), hk 14 (by omega) (by omega), hk 15 (by omega) (by omega), hk 16 (by omega) (by omega)]
    exact c r hr
  · rw [hk 17 (by omega) (by omega)]; exact d r hr j hj
  · rw [hk 18 (by omega) (by omega)]; exact e r hr p hp
  · rw [hk 19 (by omega) (by omega), hk 20 (by omega) (by omega), hk 21 (by omega) (by omega), hk 22 (by omega) (by omega), hk 23 (by omega) (by omega)]
    obtain ⟨g1, g2, g3, g4, g5, -⟩ := g b hb
    refine ⟨g1, g2, g3, g4, g5, ?_⟩
    rw [show 300 * 0 + b = b by omega]
    exact h24 b hb
def P1 (τ : Sg) (v : Vw) (pa we t : Int32) (i : Nat) (S : Sg) : Prop := (∀ s, s ≠ 7 → S s = τ s) ∧ (∀ k, k ≠ 24 → k ≠ 30 → k ≠ 31 → S 7 k = τ 7 k) ∧ (∀ b, b < i → S 7 30 b = Ls v pa we t b) ∧ (∀ b, b < i → ¬ v 18 b = -1 → S 7 31 b = if drn v (rmb v b) (plc v b) then 1 else 0) ∧ ∀ b, S 7 24 b = if b < i ∧ spB v b = true then v 0 0 else τ 7 24 b
theorem P1.rm {τ : Sg} {v : Vw} {pa we t : Int32} {i : Nat} {S : Sg} (h : P1 τ v pa we t i S) (hm : Rm 0 v (τ 7)) : Rm 0 (V21 v (f21 v i)) (S 7) := by
  refine Rm_24 hm (fun k k1 k2 => h.2.1 k (by omega) (by omega) (by omega)) (fun b hb => ?_)
  rw [h.2.2.2.2 b, (m_b hm hb).2.2.2.2.2]
  rfl
theorem goes1_loop {τ : Sg} {v : Vw} (hv : okStore v) (hm : Rm 0 v (τ 7)) {d t : Int32} (ht : ∀ S : Sg, S 7 1 = τ 7 1 → S 7 2 = τ 7 2 → fM_tenthsOf S d = some t) (wr x3 : Int32) : ∀ m i n (S : Sg), i + m = vb v → m < n → P1 τ v (τ 7 0 3) (τ 7 0 4) t i S → ∃ S' : Sg, P1 τ v (τ 7 0 3) (τ 7 0 4) t (vb v) S' ∧ fM_goes_5 n S d wr x3 (nI i) = fM_goes_138 FU S' wr x3 0 := by
  have h3 := hv.2.1.1
  have h8 := hv.1.1
  have i6 : ib 0 6 = true := by decide
  have c0 : (0 : Int32).toNatClampNeg = 0 := by decide
  have k1 : ¬ (1 : Int32) = 0 := by decide
  intro m
  induction m with
  | zero =>
    intro i n S hi hn hP
    obtain ⟨n, rfl⟩ : ∃ k, n = k + 1 := ⟨n - 1, by omega⟩
    have ei : i = vb v := by omega
    subst ei
    have e8 : S 7 8 0 = nI (vb v) := by rw [hP.2.1 8 (by omega) (by omega) (by omega)]; exact m_8 hv hm
    have q : nI (vb v) ≤ nI (vb v) := nI_le (by omega) (by omega)
    refine ⟨S, hP, ?_⟩
    simp only [fM_goes_5, fM_goes_5_b, i6, c0, gd_t, e8, q, ↓reduceIte]
  | succ m ih =>
    intro i n S hi hn hP
    obtain ⟨n, rfl⟩ : ∃ k, n = k + 1 := ⟨n - 1, by omega⟩
    have hiv : i < vb v := by omega
    have e8 : S 7 8 0 = nI (vb v) := by rw [hP.2.1 8 (by omega) (by omega) (by omega)]; exact m_8 hv hm
    have q : ¬ nI (vb v) ≤ nI i := nI_ge (by omega) (by omega)
    have hib : ib (nI i) 300 = true := ib_nI (by omega) (by decide)
    have hib2 : ib (nI i) 1800 = true := ib_nI (by omega) (by decide)
    have hcl : (nI i).toNatClampNeg = i := nI_clamp (by omega)
    obtain ⟨mb1, mb2, mb3, mb4, mb5, mb6⟩ := m_b hm hiv
    have e21 : S 7 21 i = v 18 i := by rw [hP.2.1 21 (by omega) (by omega) (by omega)]; exact mb3
    obtain ⟨p1, p2, p3, p4, p5⟩ := hP
    by_cases c : v 18 i = -1
    · have cn : ¬ (0 : Int32) ≤ v 18 i := by rw [c]; decide
      obtain ⟨S', g1, g2⟩ := ih (i + 1) n (upA S 7 30 (upd (S 7 30) i 0)) (by omega) (by omega) ⟨fun s hs => (upA_o _ _ _ hs).trans (p1 s hs), fun k k24 k30 k31 => by rw [upA_a, if_neg k30]; exact p2 k k24 k30 k31, fun b hb => by
          rw [upA_a, if_pos rfl, upd_r]
          split
          · next z => rw [z]; exact (if_pos c).symm
          · exact p3 b (by omega), fun b hb hn => by
          rw [upA_a, if_neg (by omega)]
          exact p4 b (by
            rcases Nat.lt_or_ge b i with z | z
            · exact z
            · exact absurd c (by rw [show i = b by omega]; exact hn)) hn, fun b => by
          rw [upA_a, if_neg (by omega), p5 b]
          by_cases z : b = i
          · subst z
            have : spB v b = false := decide_eq_false (fun y => y.2.1 c)
            rw [this, if_neg (fun y => by cases y.2), if_neg (fun y => by cases y.2)]
          · by_cases y : b < i ∧ spB v b = true
            · rw [if_pos y, if_pos ⟨by omega, y.2⟩]
            · rw [if_neg y, if_neg (fun x => y ⟨by omega, x.2⟩)]⟩
      refine ⟨S', g1, ?_⟩
      rw [← g2]
      have f21' : upA S 7 30 (upd (S 7 30) i 0) 7 21 i = v 18 i := by rw [upA_a, if_neg (by omega)]; exact e21
      simp only [fM_goes_5, fM_goes_5_b, fM_goes_129, i6, c0, gd_t, e8, q, hib, hib2, hcl, lt_v, f21', cn, nI_1, ↓reduceIte]
    · obtain ⟨hr, hp, o1, o2, o3⟩ := at_v hv hiv c
      have cn : (0 : Int32) ≤ v 18 i := by rw [o1]; exact nI_pos' (by omega)
      have hP : P1 τ v (τ 7 0 3) (τ 7 0 4) t i S := ⟨p1, p2, p3, p4, p5⟩
      have hrS := hP.rm hm
      have hok := ok21 hv i
      -- the state with the loss, the drain
      have hrm : ∀ (f g : Nat → Int32), Rm 0 (V21 v (f21 v i)) (upA (upA S 7 30 f) 7 31 g 7) := fun f g => hrS
      have hrm1 : ∀ (f : Nat → Int32), Rm 0 (V21 v (f21 v i)) (upA S 7 30 f 7) := fun f => hrS
      have e70 : S 7 0 = τ 7 0 := p2 0 (by omega) (by omega) (by omega)
      have hl : fM_loss (upA S 7 30 (upd (S 7 30) i 0)) (nI i) d = some (Ls v (τ 7 0 3) (τ 7 0 4) t i) := by
        have := loss_m (τ := upA S 7 30 (upd (S 7 30) i 0)) hok (hrm1 _) (ht _ (p2 1 (by omega) (by omega) (by omega)) (p2 2 (by omega) (by omega) (by omega))) (b := i) (r := rmb v i) (p := plc v i) hiv hr hp o1 o2
        rw [this]
        have eL : Ls v (τ 7 0 3) (τ 7 0 4) t i = lsW v (τ 7 0 3) (τ 7 0 4) (wrm v t (rmb v i)) i (rmb v i) (plc v i) := if_neg c
        rw [eL, ← e70]
        rfl
      have hd : fM_isDrained (upA S 7 30 (upd (S 7 30) i (Ls v (τ 7 0 3) (τ 7 0 4) t i))) (nI i) = some (if drn v (rmb v i) (plc v i) then 1 else 0) := drained_m (b := i) (r := rmb v i) (p := plc v i) hok (hrm1 _) hiv hr hp o1 o2
      have hn31 : vp_nar .boolean (if drn v (rmb v i) (plc v i) = true then 1 else 0) = if drn v (rmb v i) (plc v i) = true then 1 else 0 := nrB01 _
      generalize hS5 : upA (upA S 7 30 (upd (S 7 30) i (Ls v (τ 7 0 3) (τ 7 0 4) t i))) 7 31 (upd (S 7 31) i (if drn v (rmb v i) (plc v i) = true then 1 else 0)) = S5
      have hr5 : Rm 0 (V21 v (f21 v i)) (S5 7) := by rw [← hS5]; exact hrm _ _
      have q1 : ∀ s, s ≠ 7 → S5 s = τ s := fun s hs => by rw [← hS5, upA_o _ _ _ hs, upA_o _ _ _ hs]; exact p1 s hs
      have q2 : ∀ k, k ≠ 24 → k ≠ 30 → k ≠ 31 → S5 7 k = τ 7 k := fun k k24 k30 k31 => by rw [← hS5, upA_a, if_neg k31, upA_a, if_neg k30]; exact p2 k k24 k30 k31
      have q3 : ∀ b, b < i + 1 → S5 7 30 b = Ls v (τ 7 0 3) (τ 7 0 4) t b := fun b hb => by
        rw [← hS5, upA_a, if_neg (by omega), upA_a, if_pos rfl, upd_r]
        split
        · next z => rw [z]
        · exact p3 b (by omega)
      have q4 : ∀ b, b < i + 1 → ¬ v 18 b = -1 → S5 7 31 b = if drn v (rmb v b) (plc v b) = true then 1 else 0 := fun b hb hn => by
        rw [← hS5, upA_a, if_pos rfl, upd_r]
        split
        · next z => rw [z]
        · exact p4 b (by omega) hn
      have q5 : ∀ b, S5 7 24 b = if b < i ∧ spB v b = true then v 0 0 else τ 7 24 b := fun b => by
        rw [← hS5, upA_a, if_neg (by omega), upA_a, if_neg (by omega)]; exact p5 b
      have e519 : S5 7 19 i = v 16 i := by rw [q2 19 (by omega) (by omega) (by omega)]; exact mb1
      have e521 : S5 7 21 i = nI (rmb v i) := by rw [q2 21 (by omega) (by omega) (by omega), mb3]; exact o1
      have e522 : S5 7 22 i = nI (plc v i) := by rw [q2 22 (by omega) (by omega) (by omega), mb4]; exact o2
      have e524 : S5 7 24 i = v 21 i := by rw [q5 i, if_neg (fun z => by omega)]; exact mb6
      have e56 : S5 7 6 0 = v 0 0 := by rw [q2 6 (by omega) (by omega) (by omega)]; exact hm.1.1
      have f21' : upA S 7 30 (upd (S 7 30) i 0) 7 21 i = v 18 i := by rw [upA_a, if_neg (by omega)]; exact e21
      have fuse : upd (upA S 7 30 (upd (S 7 30) i 0) 7 30) i (Ls v (τ 7 0 3) (τ 7 0 4) t i) = upd (S 7 30) i (Ls v (τ 7 0 3) (τ 7 0 4) t i) := by rw [upA_a, if_pos rfl, upd_upd]
      have f31 : upA S 7 30 (upd (S 7 30) i (Ls v (τ 7 0 3) (τ 7 0 4) t i)) 7 31 = S 7 31 := by rw [upA_a, if_neg (by omega)]
      -- not spoilt
      have no : spB v i = false → ∃ S' : Sg, P1 τ v (τ 7 0 3) (τ 7 0 4) t (vb v) S' ∧ fM_goes_129 (fun σ x1 x2 x3 x4 => fM_goes_5 n σ x1 x2 x3 x4) S5 d wr x3 (nI i) = fM_goes_138 FU S' wr x3 0 := fun hs => by
        obtain ⟨S', g1, g2⟩ := ih (i + 1) n S5 (by omega) (by omega) ⟨q1, q2, q3, q4, fun b => by
          rw [q5 b]
          by_cases z : b = i
          · subst z
            rw [hs, if_neg (fun y => by cases y.2), if_neg (fun y => by cases y.2)]
          · by_cases y : b < i ∧ spB v b = true
            · rw [if_pos y, if_pos ⟨by omega, y.2⟩]
            · rw [if_neg y, if_neg (fun x => y ⟨by omega, x.2⟩)]⟩
        refine ⟨S', g1, ?_⟩
        rw [← g2]
        simp only [fM_goes_129, lt_v, nI_1]
      have yes : spB v i = true → ∃ S' : Sg, P1 τ v (τ 7 0 3) (τ 7 0 4) t (vb v) S' ∧ fM_goes_116 (fun σ x1 x2 x3 x4 => fM_goes_5 n σ x1 x2 x3 x4) S5 d wr x3 (nI i) = fM_goes_138 FU S' wr x3 0 := fun hs => by
        obtain ⟨S', g1, g2⟩ := ih (i + 1) n (upA S5 7 24 (upd (S5 7 24) i (v 0 0))) (by omega) (by omega) ⟨fun s hs => (upA_o _ _ _ hs).trans (q1 s hs), fun k k24 k30 k31 => by rw [upA_a, if_neg k24]; exact q2 k k24 k30 k31, fun b hb => by rw [upA_a, if_neg (by omega)]; exact q3 b hb, fun b hb hn => by rw [upA_a, if_neg (by omega)]; exact q4 b hb hn, fun b => by
          rw [upA_a, if_pos rfl, upd_r]
          by_cases z : b = i
          · subst z
            rw [if_pos rfl, if_pos ⟨by omega, hs⟩]
          · rw [if_neg z, q5 b]
            by_cases y : b < i ∧ spB v b = true
            · rw [if_pos y, if_pos ⟨by omega, y.2⟩]
            · rw [if_neg y, if_neg (fun x => y ⟨by omega, x.2⟩)]⟩
        refine ⟨S', g1, ?_⟩
        rw [← g2]
        simp only [fM_goes_116, fM_goes_129, i6, c0, hib2, hcl, gd_t, lt_v, e56, nI_1]
      by_cases c16 : v 16 i = 1
      · by_cases c21 : v 21 i = -1
        · have hbs : fM_isBySalt S5 (nI i) = some (if 0 < cntF (isX v (rmb v i) (plc v i)) 6 then 1 else 0) := bySalt_m (b := i) (r := rmb v i) (p := plc v i) hok hr5 hiv hr hp o1 o2
          obtain ⟨x, hx, hwx⟩ := water_m (r := rmb v i) (p := plc v i) hok hr5 hr hp
          by_cases cs : 0 < cntF (isX v (rmb v i) (plc v i)) 6
          · obtain ⟨S', g1, g2⟩ := yes (decide_eq_true ⟨c16, c, c21, Or.inl cs⟩)
            refine ⟨S', g1, ?_⟩
            rw [← g2]
            simp only [fM_goes_5, fM_goes_5_b, i6, c0, gd_t, e8, q, hib, hib2, hcl, lt_v, f21', cn, hl, bp_s, fuse, upA_upA, hd, f31, hn31, hS5, e519, c16, e524, c21, hbs, cs, k1, ↓reduceIte]
          · rcases hwx with ⟨hx1, hwx⟩ | ⟨hx0, hwx⟩
            · obtain ⟨S', g1, g2⟩ := yes (decide_eq_true ⟨c16, c, c21, Or.inr hwx⟩)
              refine ⟨S', g1, ?_⟩
              rw [← g2]
              simp only [fM_goes_5, fM_goes_5_b, i6, c0, gd_t, e8, q, hib, hib2, hcl, lt_v, f21', cn, hl, bp_s, fuse, upA_upA, hd, f31, hn31, hS5, e519, c16, e524, c21, hbs, cs, k1, e521, e522, hx, hx1, ↓reduceIte]
            · obtain ⟨S', g1, g2⟩ := no (decide_eq_false (fun z => z.2.2.2.elim cs hwx))
              refine ⟨S', g1, ?_⟩
              rw [← g2]
              simp only [fM_goes_5, fM_goes_5_b, i6, c0, gd_t, e8, q, hib, hib2, hcl, lt_v, f21', cn, hl, bp_s, fuse, upA_upA, hd, f31, hn31, hS5, e519, c16, e524, c21, hbs, cs, e521, e522, hx, hx0, ↓reduceIte]
        · obtain ⟨S', g1, g2⟩ := no (decide_eq_false (fun z => c21 z.2.2.1))
          refine ⟨S', g1, ?_⟩
          rw [← g2]
          simp only [fM_goes_5, fM_goes_5_b, i6, c0, gd_t, e8, q, hib, hib2, hcl, lt_v, f21', cn, hl, bp_s, fuse, upA_upA, hd, f31, hn31, hS5, e519, c16, e524, c21, ↓reduceIte]
      · obtain ⟨S', g1, g2⟩ := no (decide_eq_false (fun z => c16 z.1))
        refine ⟨S', g1, ?_⟩
        rw [← g2]
        simp only [fM_goes_5, fM_goes_5_b, i6, c0, gd_t, e8, q, hib, hib2, hcl, lt_v, f21', cn, hl, bp_s, fuse, upA_upA, hd, f31, hn31, hS5, e519, c16, ↓reduceIte]
