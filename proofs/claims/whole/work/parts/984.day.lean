/-! weighing a day, and what is spoilt by it: the class -/
def Ls (v : Vw) (pa we t : Int32) (b : Nat) : Int32 := if v 18 b = -1 then 0 else lsW v pa we (wrm v t (rmb v b)) b (rmb v b) (plc v b)
theorem at_v {v : Vw} (hv : okStore v) {b : Nat} (hb : b < vb v) (hn : ¬ v 18 b = -1) : rmb v b < vn v ∧ plc v b < vs v (rmb v b) ∧ v 18 b = nI (rmb v b) ∧ v 19 b = nI (plc v b) ∧ vc v (rmb v b) (plc v b) = nI (10 + b) := by
  obtain ⟨h1, h2, h3, h4, h5, -⟩ := ((UI.zero hv).mono (Nat.zero_le b)).at hv hb hn
  exact ⟨h1, h2, h3, h4, h5⟩
theorem LB_Ls {v : Vw} (hv : okStore v) {P W : Nat} (hP : P ≤ 100) (hW : W ≤ 10000) {t : Int32} (h1 : -2048 ≤ t.toInt) (h2 : t.toInt ≤ 2048) : LB v (Ls v (nI P) (nI W) t) := by
  intro b hb
  obtain ⟨g, hg, eg⟩ := (hv.2.2.2.2.2.1 b hb).2.1
  refine ⟨fun z => if_pos z, ?_⟩
  by_cases c : v 18 b = -1
  · exact ⟨0, g, by omega, hg, eg, if_pos c⟩
  · obtain ⟨hr, -⟩ := at_v hv hb c
    obtain ⟨M, hM, eM⟩ := lsW_nat (v := v) (wrm_rng hv h1 h2 hr) hP hW b (rmb v b) (plc v b) hg eg
    exact ⟨M, g, hM, hg, eg, (if_neg c).trans eM⟩
theorem weigh_1 {σ : Sg} {a : Nat} (ha : a ≠ 6) {v : Vw} (e : σ a = v) (h : okW v) (t : Int32) : ∀ m i n (f : Nat → Int32), i + m = vn v → m < n → (∀ q, q < i → f q = wrm v t q) → ∃ g : Nat → Int32, (∀ q, q < vn v → g q = wrm v t q) ∧ fMelting_weigh_2 n (upA σ 6 13 f) a t (nI i) = fMelting_weigh_34 FU (upA σ 6 13 g) a 0 := by
  have h8 := h.1.1
  intro m
  induction m with
  | zero =>
    intro i n f hi hn hf
    obtain ⟨n, rfl⟩ : ∃ k, n = k + 1 := ⟨n - 1, by omega⟩
    have ei : i = vn v := by omega
    subst ei
    have ea : upA σ 6 13 f a = v := (upA_o σ 13 f ha).trans e
    have q : nI (vn v) ≤ nI (vn v) := nI_le (by omega) (by omega)
    refine ⟨f, hf, ?_⟩
    simp only [fMelting_weigh_2, fMelting_weigh_2_b, ea, h.1.2, q, ↓reduceIte]
  | succ m ih =>
    intro i n f hi hn hf
    obtain ⟨n, rfl⟩ : ∃ k, n = k + 1 := ⟨n - 1, by omega⟩
    have ea : upA σ 6 13 f a = v := (upA_o σ 13 f ha).trans e
    have q : ¬ nI (vn v) ≤ nI i := nI_ge (by omega) (by omega)
    have hb : ib (nI i) 8 = true := ib_nI (by omega) (by decide)
    have hc : (nI i).toNatClampNeg = i := nI_clamp (by omega)
    obtain ⟨g, hg, hk⟩ := ih (i + 1) n (upd f i (wrm v t i)) (by omega) (by omega) (fun q hq => by
      rw [upd_r]
      split
      · next z => rw [z]
      · exact hf q (by omega))
    refine ⟨g, hg, ?_⟩
    rw [← hk]
    simp only [fMelting_weigh_2, fMelting_weigh_2_b, ea, h.1.2, q, warmthIn_eq ea h t (show i < vn v by omega), bp_s, hb, hc, gd_t, lt_v, upA_same, upA_upA, nI_1, ↓reduceIte]
def Sc (σ S : Sg) : Prop := (∀ s, s ≠ 6 → S s = σ s) ∧ ∀ k, k ≠ 11 → k ≠ 12 → k ≠ 13 → S 6 k = σ 6 k
theorem weigh_2 {σ : Sg} {a : Nat} (ha : a ≠ 6) {v : Vw} (e : σ a = v) (hv : okStore v) (t : Int32) : ∀ m i n (S : Sg), i + m = vb v → m < n → Sc σ S → (∀ q, q < vn v → S 6 13 q = wrm v t q) → (∀ b, b < i → S 6 12 b = Ls v (σ 6 2 0) (σ 6 2 1) t b) → ∃ S' : Sg, fMelting_weigh_34 n S a (nI i) = some S' ∧ Sc σ S' ∧ ∀ b, b < vb v → S' 6 12 b = Ls v (σ 6 2 0) (σ 6 2 1) t b := by
  have h3 := hv.2.1.1
  have h8 := hv.1.1
  have k1 : ¬ (1 : Int32) = 0 := by decide
  intro m
  induction m with
  | zero =>
    intro i n S hi hn hS h13 h12
    obtain ⟨n, rfl⟩ : ∃ k, n = k + 1 := ⟨n - 1, by omega⟩
    have ei : i = vb v := by omega
    subst ei
    have ea : S a = v := (hS.1 a ha).trans e
    have q : nI (vb v) ≤ nI (vb v) := nI_le (by omega) (by omega)
    refine ⟨S, ?_, hS, h12⟩
    simp only [fMelting_weigh_34, fMelting_weigh_34_b, ea, hv.2.1.2, q, ↓reduceIte]
  | succ m ih =>
    intro i n S hi hn hS h13 h12
    obtain ⟨n, rfl⟩ : ∃ k, n = k + 1 := ⟨n - 1, by omega⟩
    have ea : S a = v := (hS.1 a ha).trans e
    have q : ¬ nI (vb v) ≤ nI i := nI_ge (by omega) (by omega)
    have hiv : i < vb v := by omega
    have hib : ib (nI i) 300 = true := ib_nI (by omega) (by decide)
    have hcl : (nI i).toNatClampNeg = i := nI_clamp (by omega)
    have hin := inRoom_c ea hv.w hiv
    -- what is written
    have wr : ∀ (S2 : Sg) (x : Int32), Sc σ S2 → S2 6 13 = S 6 13 → S2 6 12 = S 6 12 → x = Ls v (σ 6 2 0) (σ 6 2 1) t i → ∃ S' : Sg, fMelting_weigh_89 (fun σ x3 => fMelting_weigh_34 n σ a x3) S2 a (nI i) x (nI i) = some S' ∧ Sc σ S' ∧ ∀ b, b < vb v → S' 6 12 b = Ls v (σ 6 2 0) (σ 6 2 1) t b := by
      intro S2 x h2 e13 e12 hx
      obtain ⟨S', g1, g2⟩ := ih (i + 1) n (upA S2 6 12 (upd (S2 6 12) i x)) (by omega) (by omega) ⟨fun s hs => (upA_o _ _ _ hs).trans (h2.1 s hs), fun k k11 k12 k13 => by rw [upA_a, if_neg k12]; exact h2.2 k k11 k12 k13⟩ (fun q hq => by rw [upA_a, if_neg (by omega), e13]; exact h13 q hq) (fun b hb => by
        rw [upA_a, if_pos rfl, upd_r, e12]
        split
        · next z => rw [hx, z]
        · exact h12 b (by omega))
      refine ⟨S', ?_, g2⟩
      rw [← g1]
      simp only [fMelting_weigh_89, hib, hcl, gd_t, lt_v, nI_1]
    by_cases c : v 18 i = -1
    · rw [if_pos c] at hin
      obtain ⟨S', g1, g2⟩ := wr S 0 hS rfl rfl (if_pos c).symm
      refine ⟨S', ?_, g2⟩
      rw [← g1]
      simp only [fMelting_weigh_34, fMelting_weigh_34_b, ea, hv.2.1.2, q, hin, bp_s, ↓reduceIte]
    · rw [if_neg c] at hin
      obtain ⟨hr, hp, o1, o2, -⟩ := at_v hv hiv c
      have hb8 : ib (nI (rmb v i)) 8 = true := ib_nI (by omega) (by decide)
      have hc8 : (nI (rmb v i)).toNatClampNeg = rmb v i := nI_clamp (by omega)
      obtain ⟨g, hg⟩ := loss_c ha ea hv.w hiv hr hp o1 o2 (wrm v t (rmb v i))
      have e62 : S 6 2 = σ 6 2 := hS.2 2 (by omega) (by omega) (by omega)
      rw [e62] at hg
      obtain ⟨S', g1, g2⟩ := wr (upA S 6 11 g) (lsW v (σ 6 2 0) (σ 6 2 1) (wrm v t (rmb v i)) i (rmb v i) (plc v i)) ⟨fun s hs => (upA_o _ _ _ hs).trans (hS.1 s hs), fun k k11 k12 k13 => by rw [upA_a, if_neg k11]; exact hS.2 k k11 k12 k13⟩ (by rw [upA_a, if_neg (by omega)]) (by rw [upA_a, if_neg (by omega)]) (if_neg c).symm
      refine ⟨S', ?_, g2⟩
      rw [← g1]
      simp only [fMelting_weigh_34, fMelting_weigh_34_b, ea, hv.2.1.2, q, hin, k1, hib, hcl, gd_t, o1, hb8, hc8, h13 _ hr, hg, bp_s, bi_s, ↓reduceIte]
theorem weigh_c {σ : Sg} {a : Nat} (ha : a ≠ 6) {v : Vw} (e : σ a = v) (hv : okStore v) (t : Int32) : ∃ S : Sg, fMelting_weigh σ a t = some S ∧ Sc σ S ∧ ∀ b, b < vb v → S 6 12 b = Ls v (σ 6 2 0) (σ 6 2 1) t b := by
  have h3 := hv.2.1.1
  have h8 := hv.1.1
  obtain ⟨g, hg, h1⟩ := weigh_1 ha e hv.w t (vn v) 0 FU (σ 6 13) (by omega) (by unfold FU; omega) (fun q hq => absurd hq (by omega))
  rw [upA_id] at h1
  obtain ⟨S, s1, s2⟩ := weigh_2 ha e hv t (vb v) 0 FU (upA σ 6 13 g) (by omega) (by unfold FU; omega) ⟨fun s hs => upA_o _ _ _ hs, fun k k11 k12 k13 => by rw [upA_a, if_neg k13]⟩ (fun q hq => by rw [upA_same]; exact hg q hq) (fun b hb => absurd hb (by omega))
  refine ⟨S, ?_, s2⟩
  rw [← s1]
  exact h1
/-! spoilt -/
def spB (v : Vw) (b : Nat) : Bool := decide (v 16 b = 1 ∧ ¬ v 18 b = -1 ∧ v 21 b = -1 ∧ (0 < cntF (isX v (rmb v b) (plc v b)) 6 ∨ (v 2 (rmb v b) = 5 ∧ plc v b < vf v (rmb v b) ∧ dnF v (rmb v b) = 0)))
def f21 (v : Vw) (n : Nat) : Nat → Int32 := fun b => if b < n ∧ spB v b = true then v 0 0 else v 21 b
def V21 (v : Vw) (f : Nat → Int32) : Vw := fun k => if k = 21 then f else v k
theorem f21_0 (v : Vw) : f21 v 0 = v 21 := by
  funext b
  unfold f21
  rw [if_neg (fun z => by omega)]
theorem V21_id (v : Vw) : V21 v (v 21) = v := by
  funext k
  unfold V21
  split
  · next z => rw [z]
  · rfl
theorem f21_no {v : Vw} {i : Nat} (h : spB v i = false) : f21 v (i + 1) = f21 v i := by
  funext b
  unfold f21
  by_cases c : b = i
  · subst c
    rw [h, if_neg (fun z => by cases z.2), if_neg (fun z => by cases z.2)]
  · by_cases c2 : b < i ∧ spB v b = true
    · rw [if_pos c2, if_pos ⟨by omega, c2.2⟩]
    · rw [if_neg c2, if_neg (fun z => c2 ⟨by omega, z.2⟩)]
theorem f21_yes {v : Vw} {i : Nat} (h : spB v i = true) : f21 v (i + 1) = upd (f21 v i) i (v 0 0) := by
  funext b
  unfold f21 upd
  by_cases c : b = i
  · subst c
    rw [if_pos ⟨by omega, h⟩, if_pos rfl]
  · rw [if_neg c]
    show (if b < i + 1 ∧ spB v b = true then v 0 0 else v 21 b) = if b < i ∧ spB v b = true then v 0 0 else v 21 b
    by_cases c2 : b < i ∧ spB v b = true
    · rw [if_pos c2, if_pos ⟨by omega, c2.2⟩]
    · rw [if_neg c2, if_neg (fun z => c2 ⟨by omega, z.2⟩)]
theorem ok21 {v : Vw} (h : okStore v) (i : Nat) : okStore (V21 v (f21 v i)) := by
  obtain ⟨h1, h2, h3, h4, h5, h6, h7, h8⟩ := h
  refine ⟨h1, h2, h3, h4, h5, fun b hb => ?_, h7, h8⟩
  obtain ⟨⟨b0, b1⟩, b2, b3⟩ := h6 b hb
  refine ⟨⟨b0, ?_⟩, b2, b3⟩
  show f21 v i b = -1 ∨ v 16 b = 1
  unfold f21
  by_cases c : b < i ∧ spB v b = true
  · exact Or.inr (of_decide_eq_true c.2).1
  · rw [if_neg c]; exact b1
theorem spoil_c {τ : Sg} {a : Nat} (ha : a ≠ 6) {v : Vw} {i : Nat} (hv : okStore v) (e : τ a = V21 v (f21 v i)) (hi : i < vb v) : ∃ τ' : Sg, fMelting_spoil τ a (nI i) = some τ' ∧ (∀ s, s ≠ 6 → s ≠ a → τ' s = τ s) ∧ (∀ k, k ≠ 11 → τ' 6 k = τ 6 k) ∧ τ' a = V21 v (f21 v (i + 1)) := by
  have h3 := hv.2.1.1
  have hw : okW (V21 v (f21 v i)) := (ok21 hv _).w
  have hib : ib (nI i) 300 = true := ib_nI (by omega) (by decide)
  have hcl : (nI i).toNatClampNeg = i := nI_clamp (by omega)
  have k1 : ¬ (1 : Int32) = 0 := by decide
  have e16 : τ a 16 i = v 16 i := by rw [e]; rfl
  have e18 : τ a 18 i = v 18 i := by rw [e]; rfl
  have e19 : τ a 19 i = v 19 i := by rw [e]; rfl
  have e21 : τ a 21 i = v 21 i := by
    rw [e]
    show f21 v i i = _
    unfold f21
    rw [if_neg (fun z => by omega)]
  have hin : fBlocks_isInRoom τ a (nI i) = some (if v 18 i = -1 then 0 else 1) := inRoom_c e hw (show i < vb v from hi)
  have no : spB v i = false → fMelting_spoil τ a (nI i) = some τ → ∃ τ' : Sg, fMelting_spoil τ a (nI i) = some τ' ∧ (∀ s, s ≠ 6 → s ≠ a → τ' s = τ s) ∧ (∀ k, k ≠ 11 → τ' 6 k = τ 6 k) ∧ τ' a = V21 v (f21 v (i + 1)) := fun h1 h2 => ⟨τ, h2, fun _ _ _ => rfl, fun _ _ => rfl, by rw [e, f21_no h1]⟩
  by_cases c16 : v 16 i = 1
  · by_cases c18 : v 18 i = -1
    · rw [if_pos c18] at hin
      refine no (decide_eq_false (fun z => z.2.1 c18)) ?_
      simp only [fMelting_spoil, fMelting_spoil_0, hib, hcl, gd_t, e16, c16, hin, bp_s, ↓reduceIte]
    · rw [if_neg c18] at hin
      by_cases c21 : v 21 i = -1
      · obtain ⟨hr, hp, o1, o2, -⟩ := at_v hv hi c18
        obtain ⟨g, hg, -, -, g2⟩ := look_eq ha e hw (r := rmb v i) (p := plc v i) hr hp
        have g2 : g 2 = if 0 < cntF (isX v (rmb v i) (plc v i)) 6 then 1 else 0 := g2
        have ea : upA τ 6 11 g a = V21 v (f21 v i) := (upA_o _ _ _ ha).trans e
        obtain ⟨x, hx, hwx⟩ := water_c ea hw (r := rmb v i) (p := plc v i) hr hp
        have f18 : upA τ 6 11 g a 18 i = nI (rmb v i) := by rw [ea]; exact o1
        have f19 : upA τ 6 11 g a 19 i = nI (plc v i) := by rw [ea]; exact o2
        have yes : spB v i = true → ∃ τ' : Sg, fMelting_spoil_86 (upA τ 6 11 g) a (nI i) = some τ' ∧ (∀ s, s ≠ 6 → s ≠ a → τ' s = τ s) ∧ (∀ k, k ≠ 11 → τ' 6 k = τ 6 k) ∧ τ' a = V21 v (f21 v (i + 1)) := fun hs => by
          refine ⟨upA (upA τ 6 11 g) a 21 (upd (f21 v i) i (v 0 0)), ?_, fun s h6 h7 => by rw [upA_o _ _ _ h7, upA_o _ _ _ h6], fun k hk => by rw [upA_o _ _ _ (fun z => ha z.symm), upA_a, if_neg hk], ?_⟩
          · have f21' : upA τ 6 11 g a 21 = f21 v i := by rw [ea]; rfl
            have f0 : upA τ 6 11 g a 0 0 = v 0 0 := by rw [ea]; rfl
            simp only [fMelting_spoil_86, hib, hcl, gd_t, lt_v, f21', f0]
          · funext k
            rw [upA_a, ea, f21_yes hs]
            unfold V21
            split <;> rfl
        by_cases cs : 0 < cntF (isX v (rmb v i) (plc v i)) 6
        · rw [if_pos cs] at g2
          obtain ⟨τ', t1, t2⟩ := yes (decide_eq_true ⟨c16, c18, c21, Or.inl cs⟩)
          refine ⟨τ', ?_, t2⟩
          rw [← t1]
          simp only [fMelting_spoil, fMelting_spoil_0, hib, hcl, gd_t, e16, c16, hin, k1, e21, c21, e18, e19, o1, o2, hg, upA_same, g2, bp_s, ↓reduceIte]
        · rw [if_neg cs] at g2
          rcases hwx with ⟨hx1, hwx⟩ | ⟨hx0, hwx⟩
          · obtain ⟨τ', t1, t2⟩ := yes (decide_eq_true ⟨c16, c18, c21, Or.inr hwx⟩)
            refine ⟨τ', ?_, t2⟩
            rw [← t1]
            simp only [fMelting_spoil, fMelting_spoil_0, hib, hcl, gd_t, e16, c16, hin, k1, e21, c21, e18, e19, o1, o2, hg, upA_same, g2, f18, f19, hx, hx1, bp_s, ↓reduceIte]
          · refine ⟨upA τ 6 11 g, ?_, fun s h6 h7 => upA_o _ _ _ h6, fun k hk => by rw [upA_a, if_neg hk], ?_⟩
            · simp only [fMelting_spoil, fMelting_spoil_0, hib, hcl, gd_t, e16, c16, hin, k1, e21, c21, e18, e19, o1, o2, hg, upA_same, g2, f18, f19, hx, hx0, bp_s, ↓reduceIte]
            · rw [ea, f21_no (decide_eq_false (fun z => z.2.2.2.elim cs hwx))]
      · refine no (decide_eq_false (fun z => c21 z.2.2.1)) ?_
        simp only [fMelting_spoil, fMelting_spoil_0, hib, hcl, gd_t, e16, c16, hin, k1, e21, c21, bp_s, ↓reduceIte]
  · refine no (decide_eq_false (fun z => c16 z.1)) ?_
    simp only [fMelting_spoil, fMelting_spoil_0, hib, hcl, gd_t, e16, c16, ↓reduceIte]
theorem spoil_loop {σ : Sg} {a : Nat} (ha : a ≠ 6) {v : Vw} (hv : okStore v) : ∀ m i n (τ : Sg), i + m = vb v → m < n → (∀ s, s ≠ 6 → s ≠ a → τ s = σ s) → (∀ k, k ≠ 11 → τ 6 k = σ 6 k) → τ a = V21 v (f21 v i) → ∃ τ' : Sg, fMelting_passDay_2 n τ a (nI i) = fMelting_passDay_29 FU τ' a 0 0 ∧ (∀ s, s ≠ 6 → s ≠ a → τ' s = σ s) ∧ (∀ k, k ≠ 11 → τ' 6 k = σ 6 k) ∧ τ' a = V21 v (f21 v (vb v)) := by
  have h3 := hv.2.1.1
  intro m
  induction m with
  | zero =>
    intro i n τ hi hn h1 h2 h4
    obtain ⟨n, rfl⟩ : ∃ k, n = k + 1 := ⟨n - 1, by omega⟩
    have ei : i = vb v := by omega
    subst ei
    have e15 : τ a 15 0 = nI (vb v) := by rw [h4]; exact hv.2.1.2
    have q : nI (vb v) ≤ nI (vb v) := nI_le (by omega) (by omega)
    refine ⟨τ, ?_, h1, h2, h4⟩
    simp only [fMelting_passDay_2, fMelting_passDay_2_b, e15, q, ↓reduceIte]
  | succ m ih =>
    intro i n τ hi hn h1 h2 h4
    obtain ⟨n, rfl⟩ : ∃ k, n = k + 1 := ⟨n - 1, by omega⟩
    have e15 : τ a 15 0 = nI (vb v) := by rw [h4]; exact hv.2.1.2
    have q : ¬ nI (vb v) ≤ nI i := nI_ge (by omega) (by omega)
    obtain ⟨τ1, s1, s2, s3, s4⟩ := spoil_c ha hv h4 (show i < vb v by omega)
    obtain ⟨τ', t1, t2⟩ := ih (i + 1) n τ1 (by omega) (by omega) (fun s h6 h7 => (s2 s h6 h7).trans (h1 s h6 h7)) (fun k hk => (s3 k hk).trans (h2 k hk)) s4
    refine ⟨τ', ?_, t2⟩
    rw [← t1]
    simp only [fMelting_passDay_2, fMelting_passDay_2_b, e15, q, s1, bp_s, lt_v, nI_1, ↓reduceIte]
theorem passDay_c {σ : Sg} {a : Nat} (ha : a ≠ 6) {v : Vw} (e : σ a = v) (hv : okStore v) {L : Nat → Int32} {le : Int32} (hL : LB v L) (ele : σ 6 2 2 = le) (eL : ∀ b, b < vb v → σ 6 12 b = L b) : ∃ σ' : Sg, fMelting_passDay σ a = some (sumF L (vb v), σ') ∧ (∀ s, s ≠ 6 → s ≠ a → σ' s = σ s) ∧ (∀ k, k ≠ 11 → σ' 6 k = σ 6 k) ∧ σ' a = dayV (V21 v (f21 v (vb v))) L le := by
  have h3 := hv.2.1.1
  obtain ⟨τ, t1, t2, t3, t4⟩ := spoil_loop (σ := σ) ha hv (vb v) 0 FU σ (by omega) (by unfold FU; omega) (fun _ _ _ => rfl) (fun _ _ => rfl) (by rw [e, f21_0, V21_id])
  obtain ⟨σ', p1, p2, p3⟩ := pass_loop (σ0 := τ) ha (ok21 hv (vb v)) (L := L) (le := le) hL (by rw [t3 2 (by omega)]; exact ele) (fun b hb => by rw [t3 12 (by omega)]; exact eL b hb) (vb v) 0 FU τ 0 (by show 0 + vb v = vb v; omega) (by unfold FU; omega) (fun _ _ => rfl) t4 rfl
  refine ⟨σ', ?_, fun s h6 h7 => (p2 s h7).trans (t2 s h6 h7), fun k hk => by rw [p2 6 (fun z => ha z.symm)]; exact t3 k hk, p3⟩
  rw [show fMelting_passDay σ a = fMelting_passDay_2 FU σ a 0 from rfl]
  exact (show fMelting_passDay_2 FU σ a 0 = _ from t1).trans p1
