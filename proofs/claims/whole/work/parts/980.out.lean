/-! a block goes out of its room -/
theorem sub_add32 (x y z : Int32) : x - (y + z) = x - y - z := by
  rw [Int32.sub_eq_add_neg, Int32.neg_add, Int32.sub_eq_add_neg, Int32.sub_eq_add_neg, Int32.sub_eq_add_neg, Int32.add_assoc]
def outV (v : Vw) (b r p : Nat) : Vw := fun k => if k = 12 then upd (v 12) r (v 12 r + drD v r p 0) else if k = 14 then upd (v 14) (180 * r + p) 0 else if k = 11 then upd (v 11) r (v 11 r - slt (v 16 b)) else if k = 18 then upd (v 18) b (-1) else if k = 19 then upd (v 19) b (-1) else v k
theorem okStore_out {v : Vw} (h : okStore v) {b r p : Nat} (hb : b < vb v) (hr : r < vn v) (hp : p < vs v r) (e1 : v 18 b = nI r) (e2 : v 19 b = nI p) (e3 : vc v r p = nI (10 + b)) : okStore (outV v b r p) := by
  have hd := drains_fill (x := 0) h hr hp
  have hv := vs_le (okS h hr)
  have h8 := h.1.1
  have hb3 := h.2.1.1
  obtain ⟨h1, h2, h3, h4, h5, h6, h7, -⟩ := h
  have evc : ∀ q s, s < 180 → vc (outV v b r p) q s = if q = r ∧ s = p then 0 else vc v q s := fun q s hs => vc_fill (v := v) (x := 0) hs (by omega)
  have e18 : ∀ c, outV v b r p 18 c = if c = b then -1 else v 18 c := fun c => upd_r _ _ _ _
  have e19 : ∀ c, outV v b r p 19 c = if c = b then -1 else v 19 c := fun c => upd_r _ _ _ _
  have e11 : ∀ q, outV v b r p 11 q = if q = r then v 11 r - slt (v 16 b) else v 11 q := fun q => upd_r _ _ _ _
  refine ⟨h1, h2, h3, h4, fun q hq s hs => ?_, fun c hc => ?_, fun q hq => ?_, hd⟩
  · have hs' : s < vs v q := hs
    have hq' : q < vn v := hq
    have hvq := vs_le (h4 q hq)
    unfold okCell
    rw [evc q s (by omega)]
    by_cases c : q = r ∧ s = p
    · rw [if_pos c]; exact Or.inl rfl
    · rw [if_neg c]
      rcases h5 q hq s hs' with o | o | o | ⟨b', o1, o2, o3, o4⟩
      · exact Or.inl o
      · exact Or.inr (Or.inl o)
      · exact Or.inr (Or.inr (Or.inl o))
      · have hne : b' ≠ b := fun z => by
          subst z
          rw [e1] at o3
          rw [e2] at o4
          have q1 := (nI_eq (by omega) (by omega)).mp o3
          have q2 := (nI_eq (by omega) (by omega)).mp o4
          exact c ⟨q1.symm, q2.symm⟩
        exact Or.inr (Or.inr (Or.inr ⟨b', o1, o2, by rw [e18, if_neg hne]; exact o3, by rw [e19, if_neg hne]; exact o4⟩))
  · have hc' : c < vb v := hc
    obtain ⟨b1, b2, b3⟩ := h6 c hc
    refine ⟨b1, b2, ?_⟩
    rw [e18, e19]
    by_cases q : c = b
    · exact Or.inl ⟨if_pos q, if_pos q⟩
    · rw [if_neg q, if_neg q]
      rcases b3 with b3 | ⟨q', s, hq, hs, o1, o2, o3⟩
      · exact Or.inl b3
      · have hvq := vs_le (h4 q' hq)
        refine Or.inr ⟨q', s, hq, hs, o1, o2, ?_⟩
        rw [evc q' s (by omega), if_neg (fun z => ?_)]
        · exact o3
        · obtain ⟨rfl, rfl⟩ := z
          rw [e3] at o3
          have := (nI_eq (a := 10 + b) (b := 10 + c) (by omega) (by omega)).mp o3
          omega
  · have hq' : q < vn v := hq
    show outV v b r p 11 q = nI (cntF (fun c => decide (outV v b r p 18 c = nI q ∧ v 16 c = 2)) (vb v))
    have hu := cntF_upd (p := fun c => decide (v 18 c = nI q ∧ v 16 c = 2)) (q := fun c => decide (outV v b r p 18 c = nI q ∧ v 16 c = 2)) (i := b) (fun k hk => by
      show decide (outV v b r p 18 k = nI q ∧ v 16 k = 2) = decide (v 18 k = nI q ∧ v 16 k = 2)
      rw [e18, if_neg hk]) hb
    have z1 : decide (outV v b r p 18 b = nI q ∧ v 16 b = 2) = false := decide_eq_false (fun z => nI_nm1 (n := q) (by omega) (by rw [← z.1, e18, if_pos rfl]))
    rw [z1] at hu
    have h7q := h7 q hq'
    have hle := cntF_le (fun c => decide (v 18 c = nI q ∧ v 16 c = 2)) (vb v)
    rw [e11]
    by_cases c : q = r
    · subst c
      rw [if_pos rfl, h7q]
      unfold slt
      by_cases c2 : v 16 b = 2
      · have z2 : decide (v 18 b = nI q ∧ v 16 b = 2) = true := decide_eq_true ⟨e1, c2⟩
        rw [z2] at hu
        simp only [↓reduceIte, Bool.false_eq_true] at hu
        have hu' : cntF (fun c => decide (v 18 c = nI q ∧ v 16 c = 2)) (vb v) = cntF (fun c => decide (outV v b q p 18 c = nI q ∧ v 16 c = 2)) (vb v) + 1 := by omega
        rw [if_pos c2, hu']
        exact nI_pred _
      · have z2 : decide (v 18 b = nI q ∧ v 16 b = 2) = false := decide_eq_false (fun z => c2 z.2)
        rw [z2] at hu
        simp only [↓reduceIte, Bool.false_eq_true] at hu
        rw [if_neg c2, show cntF (fun c => decide (outV v b q p 18 c = nI q ∧ v 16 c = 2)) (vb v) = cntF (fun c => decide (v 18 c = nI q ∧ v 16 c = 2)) (vb v) by omega]
        exact pk_sub (b := 0) (Nat.zero_le _)
    · have z2 : decide (v 18 b = nI q ∧ v 16 b = 2) = false := decide_eq_false (fun z => c (by
        have := z.1
        rw [e1] at this
        exact ((nI_eq (by omega) (by omega)).mp this).symm))
      rw [z2] at hu
      simp only [↓reduceIte, Bool.false_eq_true] at hu
      rw [if_neg c, h7q]
      congr 1
      omega
def levS (σ : Sg) (a b r p : Nat) : Sg := upA (upA (lftS σ a b r p) a 18 (upd (σ a 18) b (-1))) a 19 (upd (σ a 19) b (-1))
theorem leave_eq {σ : Sg} {a b r p : Nat} (hb : b < 300) : fBlocks_leave (lftS σ a b r p) a (nI b) = some (levS σ a b r p) := by
  have hib : ib (nI b) 300 = true := ib_nI (by omega) (by decide)
  have hcl : (nI b).toNatClampNeg = b := nI_clamp (by omega)
  have e18 : lftS σ a b r p a 18 = σ a 18 := by unfold lftS; rw [upA_a, if_neg (by omega)]; exact fillS_k (by omega) (by omega)
  have e19 : lftS σ a b r p a 19 = σ a 19 := by unfold lftS; rw [upA_a, if_neg (by omega)]; exact fillS_k (by omega) (by omega)
  simp only [fBlocks_leave, fBlocks_leave_0, hib, hcl, gd_t, lt_v, e18, upA_a, e19, levS, show ¬ (19 : Nat) = 18 by omega, ↓reduceIte]
theorem levS_a (σ : Sg) (a b r p : Nat) : levS σ a b r p a = outV (σ a) b r p := by
  funext k
  unfold levS lftS fillS outV
  simp only [upA_a]
  by_cases c19 : k = 19
  · subst c19; simp
  by_cases c18 : k = 18
  · subst c18; simp
  by_cases c11 : k = 11
  · subst c11; simp
  by_cases c14 : k = 14
  · subst c14; simp
  by_cases c12 : k = 12
  · subst c12; simp
  simp [c19, c18, c11, c14, c12]
theorem levS_o (σ : Sg) {a b r p s : Nat} (hs : s ≠ a) : levS σ a b r p s = σ s := by
  unfold levS lftS fillS
  rw [upA_o _ _ _ hs, upA_o _ _ _ hs, upA_o _ _ _ hs, upA_o _ _ _ hs, upA_o _ _ _ hs]
theorem lftS_o (σ : Sg) {a b r p s : Nat} (hs : s ≠ a) : lftS σ a b r p s = σ s := by
  unfold lftS fillS
  rw [upA_o _ _ _ hs, upA_o _ _ _ hs, upA_o _ _ _ hs]
def outM (τ : Sg) (b r p : Nat) : Sg := upA (upA (upA τ 7 18 (upd (τ 7 18) (180 * r + p) 0)) 7 21 (upd (τ 7 21) b (-1))) 7 22 (upd (τ 7 22) b (-1))
theorem out_eq {τ : Sg} {b r p : Nat} (hb : b < 300) (hr : r < 8) (hp : p < 180) (e1 : τ 7 21 b = nI r) (e2 : τ 7 22 b = nI p) : fM_out τ (nI b) = some (outM τ b r p) := by
  have hib : ib (nI b) 1800 = true := ib_nI (by omega) (by decide)
  have hcl : (nI b).toNatClampNeg = b := nI_clamp (by omega)
  have x1 : 180 * nI r + nI p = nI (180 * r + p) := by show nI 180 * nI r + nI p = _; rw [pk_mul, nI_add]
  have hib2 : ib (nI (180 * r + p)) 8640 = true := ib_nI (by omega) (by decide)
  have hcl2 : (nI (180 * r + p)).toNatClampNeg = 180 * r + p := nI_clamp (by omega)
  simp only [fM_out, fM_out_0, hib, hcl, gd_t, lt_v, e1, e2, x1, hib2, hcl2, upA_a, show ¬ (21 : Nat) = 18 by omega, show ¬ (22 : Nat) = 21 by omega, show ¬ (22 : Nat) = 18 by omega, ↓reduceIte, outM]
theorem Rm_out {τ : Sg} {v : Vw} (h : okStore v) (hm : Rm 0 v (τ 7)) {b r p : Nat} (hr : r < vn v) (hp : p < vs v r) : Rm 0 (outV v b r p) (outM τ b r p 7) := by
  have hmf := Rm_fill (x := 0) h hm hr hp
  obtain ⟨a, b', c, d, e, f⟩ := hm
  refine ⟨a, b', c, d, hmf.2.2.2.2.1, fun k hk => ?_⟩
  have hk' : k < vb v := hk
  have := f k hk'
  rw [show 300 * 0 + k = k by omega] at this ⊢
  obtain ⟨f1, f2, f3, f4, f5, f6⟩ := this
  refine ⟨f1, f2, ?_, ?_, f5, f6⟩
  · show upd (τ 7 21) b (-1) k = upd (v 18) b (-1) k
    rw [upd_r, upd_r, f3]
  · show upd (τ 7 22) b (-1) k = upd (v 19) b (-1) k
    rw [upd_r, upd_r, f4]
theorem Ofs_out {m : Vw} {τ : Sg} (h : Ofs m (τ 7)) {b r p : Nat} (hb : b < 300) (hr : r < 8) (hp : p < 180) : Ofs m (outM τ b r p 7) :=
  ((h.up (c := 18) (show 180 * r + p < 1440 by omega)).up (c := 21) (show b < 300 from hb)).up (c := 22) (show b < 300 from hb)
theorem outM_o (τ : Sg) {b r p s : Nat} (hs : s ≠ 7) : outM τ b r p s = τ s := by
  unfold outM
  rw [upA_o _ _ _ hs, upA_o _ _ _ hs, upA_o _ _ _ hs]
theorem outM_k (τ : Sg) {b r p k : Nat} (h18 : k ≠ 18) (h21 : k ≠ 21) (h22 : k ≠ 22) : outM τ b r p 7 k = τ 7 k := by
  unfold outM
  rw [upA_a, if_neg h22, upA_a, if_neg h21, upA_a, if_neg h18]
/-! a drain in the column, or on the floor -/
def colD (v : Vw) (r p : Nat) : Nat → Bool
  | 0 => false
  | n + 1 => colD v r p n || decide ((n + 1) * vf v r ≤ p ∧ vc v r (p - (n + 1) * vf v r) = 2)
def drn (v : Vw) (r p : Nat) : Bool := !decide (dnF v r = 0) || colD v r p 4
theorem drained_loop {σ : Sg} {a : Nat} {v : Vw} (e : σ a = v) (h : okW v) {r p : Nat} (hr : r < vn v) (hp : p < vs v r) : ∀ m i n, i + m = 4 → m < n → colD v r p i = false → fRooms_isDrained_15 n σ a (nI r) (nI p - nI (i * vf v r)) (nI (i + 1)) = some (if colD v r p 4 then 1 else 0) := by
  have hk := h.2.2.1 r hr
  have hv := vs_le hk
  have h8 := h.1.1
  have hb : ib (nI r) 8 = true := ib_nI (by omega) (by decide)
  have hc : (nI r).toNatClampNeg = r := nI_clamp (by omega)
  have e7 := hk.2.2.2.2.2.2.1
  intro m
  induction m with
  | zero =>
    intro i n hi hn hf
    obtain ⟨n, rfl⟩ : ∃ k, n = k + 1 := ⟨n - 1, by omega⟩
    have ei : i = 4 := by omega
    subst ei
    have q : (5 : Int32) ≤ nI (4 + 1) := by decide
    simp only [fRooms_isDrained_15, fRooms_isDrained_15_b, q, ↓reduceIte, hf, Bool.false_eq_true]
  | succ m ih =>
    intro i n hi hn hf
    obtain ⟨n, rfl⟩ : ∃ k, n = k + 1 := ⟨n - 1, by omega⟩
    have q : ¬ (5 : Int32) ≤ nI (i + 1) := nI_ge (b := 5) (by omega) (by decide)
    have xs : nI p - nI (i * vf v r) - nI (vf v r) = nI p - nI ((i + 1) * vf v r) := by
      rw [Nat.add_mul, Nat.one_mul, ← nI_add, sub_add32]
    have hi5 : (i + 1) * vf v r ≤ 5 * 36 := Nat.mul_le_mul (by omega) (by omega)
    have hat : fRooms_at σ a (nI r) (nI p - nI ((i + 1) * vf v r)) = some (if (i + 1) * vf v r ≤ p then vc v r (p - (i + 1) * vf v r) else 0) := by
      subst e
      by_cases c : (i + 1) * vf (σ a) r ≤ p
      · rw [if_pos c, pk_sub c]
        exact at_inG h.1 hr hk (by omega)
      · rw [if_neg c]
        exact at_farG h.1 hr hk (Or.inl (pk_sneg (by omega) (by omega)))
    by_cases c : (i + 1) * vf v r ≤ p ∧ vc v r (p - (i + 1) * vf v r) = 2
    · rw [if_pos c.1, c.2] at hat
      have hall : ∀ j, i + 1 ≤ j → colD v r p j = true := fun j hj => by
        induction j with
        | zero => omega
        | succ j ihj =>
          simp only [colD, Bool.or_eq_true]
          by_cases cj : j = i
          · subst cj; exact Or.inr (decide_eq_true c)
          · exact Or.inl (ihj (by omega))
      simp only [fRooms_isDrained_15, fRooms_isDrained_15_b, q, hb, hc, gd_t, e, e7, lt_v, xs, hat, bp_s, ↓reduceIte, hall 4 (by omega)]
    · have hne : ¬ (if (i + 1) * vf v r ≤ p then vc v r (p - (i + 1) * vf v r) else 0) = 2 := by
        by_cases c1 : (i + 1) * vf v r ≤ p
        · rw [if_pos c1]; exact fun z => c ⟨c1, z⟩
        · rw [if_neg c1]; decide
      have := ih (i + 1) n (by omega) (by omega) (by simp only [colD, hf, Bool.false_or]; exact decide_eq_false c)
      rw [← this]
      simp only [fRooms_isDrained_15, fRooms_isDrained_15_b, q, hb, hc, gd_t, e, e7, lt_v, xs, hat, bp_s, hne, nI_1, ↓reduceIte]
theorem drained_c {σ : Sg} {a : Nat} {v : Vw} (e : σ a = v) (h : okW v) {r p : Nat} (hr : r < vn v) (hp : p < vs v r) : fRooms_isDrained σ a (nI r) (nI p) = some (if drn v r p then 1 else 0) := by
  have hl := drained_loop e h hr hp 4 0 FU (by omega) (by unfold FU; omega) rfl
  rw [Nat.zero_mul, show nI p - nI 0 = nI p from pk_sub (Nat.zero_le p)] at hl
  unfold drn
  by_cases c : dnF v r = 0
  · simp only [fRooms_isDrained, fRooms_isDrained_0, drain_c e h hr, c, bp_s, ↓reduceIte, decide_true, Bool.not_true, Bool.false_or]
    exact hl
  · have k1 : ¬ (1 : Int32) = 0 := by decide
    simp only [fRooms_isDrained, fRooms_isDrained_0, drain_c e h hr, c, bp_s, k1, ↓reduceIte, decide_false, Bool.not_false, Bool.true_or]
theorem drainedM_loop {τ : Sg} {v : Vw} (h : okStore v) (hm : Rm 0 v (τ 7)) {r p : Nat} (hr : r < vn v) (hp : p < vs v r) (base : Bool) : ∀ m i n (x : Int32), i + m = 4 → m + 1 < n → x = (if base || colD v r p i then 1 else 0) → fM_isDrained_27 n τ (nI r) x (nI p - nI ((i + 1) * vf v r)) = some (if base || colD v r p 4 then 1 else 0) := by
  have hk := okS h hr
  have hv := vs_le hk
  have hps : p < vf v r * vz v r := hp
  have hz5 := hk.2.2.2.1.2.1
  have hp5 : p < vf v r * 5 := Nat.lt_of_lt_of_le hps (Nat.mul_le_mul_left _ hz5)
  have k1 : ¬ (1 : Int32) = 0 := by decide
  have stop : ∀ i, ¬ (i + 1) * vf v r ≤ p → ∀ j, i ≤ j → colD v r p j = colD v r p i := fun i hi j hj => by
    induction j with
    | zero => rw [show i = 0 by omega]
    | succ j ihj =>
      by_cases cj : i = j + 1
      · rw [cj]
      · rw [show colD v r p (j + 1) = (colD v r p j || decide ((j + 1) * vf v r ≤ p ∧ vc v r (p - (j + 1) * vf v r) = 2)) from rfl, ihj (by omega), decide_eq_false, Bool.or_false]
        intro z
        have : (i + 1) * vf v r ≤ (j + 1) * vf v r := Nat.mul_le_mul_right _ (by omega)
        omega
  have fin : ∀ i n (x : Int32), i ≤ 4 → 0 < n → x = (if base || colD v r p i then 1 else 0) → ¬ (i + 1) * vf v r ≤ p → fM_isDrained_27 n τ (nI r) x (nI p - nI ((i + 1) * vf v r)) = some (if base || colD v r p 4 then 1 else 0) := by
    intro i n x hi hn hx c
    obtain ⟨n, rfl⟩ : ∃ k, n = k + 1 := ⟨n - 1, by omega⟩
    have hi5 : (i + 1) * vf v r ≤ 5 * 36 := Nat.mul_le_mul (by omega) (by omega)
    have q : nI p - nI ((i + 1) * vf v r) < 0 := pk_sneg (by omega) (by omega)
    have hb : isb x = true := by rw [hx]; split <;> decide
    simp only [fM_isDrained_27, fM_isDrained_27_b, q, hb, gd_t, ↓reduceIte]
    rw [hx, stop i c 4 hi]
  intro m
  induction m with
  | zero =>
    intro i n x hi hn hx
    refine fin i n x (by omega) (by omega) hx ?_
    rw [show i = 4 by omega, Nat.mul_comm]
    omega
  | succ m ih =>
    intro i n x hi hn hx
    by_cases c : (i + 1) * vf v r ≤ p
    · obtain ⟨n, rfl⟩ : ∃ k, n = k + 1 := ⟨n - 1, by omega⟩
      have q : ¬ nI (p - (i + 1) * vf v r) < 0 := nI_pos (by omega)
      have hat := m_at h hm hr (show p - (i + 1) * vf v r < vs v r by omega)
      have xs : nI (p - (i + 1) * vf v r) - nI (vf v r) = nI p - nI ((i + 1 + 1) * vf v r) := by
        rw [← pk_sub c, Nat.add_mul (i + 1) 1, Nat.one_mul, ← nI_add ((i + 1) * vf v r), sub_add32]
      rw [pk_sub c]
      by_cases cb : (base || colD v r p i) = true
      · rw [cb] at hx
        have hx : x = 1 := hx
        have := ih (i + 1) n 1 (by omega) (by omega) (by
          rw [if_pos]
          rw [show colD v r p (i + 1) = (colD v r p i || decide ((i + 1) * vf v r ≤ p ∧ vc v r (p - (i + 1) * vf v r) = 2)) from rfl, ← Bool.or_assoc, cb, Bool.true_or])
        rw [← this]
        simp only [fM_isDrained_27, fM_isDrained_27_b, fM_isDrained_47, fM_isDrained_52, q, hx, k1, m_floor h hm hr, bp_s, lt_v, xs, ↓reduceIte]
      · have cb : (base || colD v r p i) = false := by simpa using cb
        rw [cb] at hx
        have hx : x = 0 := hx
        have ec : (base || colD v r p (i + 1)) = decide (vc v r (p - (i + 1) * vf v r) = 2) := by
          rw [show colD v r p (i + 1) = (colD v r p i || decide ((i + 1) * vf v r ≤ p ∧ vc v r (p - (i + 1) * vf v r) = 2)) from rfl, ← Bool.or_assoc, cb, Bool.false_or]
          simp only [c, true_and]
        by_cases c2 : vc v r (p - (i + 1) * vf v r) = 2
        · have := ih (i + 1) n 1 (by omega) (by omega) (by rw [ec, decide_eq_true c2]; rfl)
          rw [← this]
          simp only [fM_isDrained_27, fM_isDrained_27_b, fM_isDrained_47, fM_isDrained_52, q, hx, hat, c2, m_floor h hm hr, bp_s, lt_v, xs, ↓reduceIte]
        · have := ih (i + 1) n 0 (by omega) (by omega) (by rw [ec, decide_eq_false c2]; rfl)
          rw [← this]
          simp only [fM_isDrained_27, fM_isDrained_27_b, fM_isDrained_47, fM_isDrained_52, q, hx, hat, c2, m_floor h hm hr, bp_s, lt_v, xs, ↓reduceIte]
    · exact fin i n x (by omega) (by omega) hx c
theorem drained_m {τ : Sg} {v : Vw} (h : okStore v) (hm : Rm 0 v (τ 7)) {b r p : Nat} (hb : b < vb v) (hr : r < vn v) (hp : p < vs v r) (e1 : v 18 b = nI r) (e2 : v 19 b = nI p) : fM_isDrained τ (nI b) = some (if drn v r p then 1 else 0) := by
  have h3 := h.2.1.1
  have hib : ib (nI b) 1800 = true := ib_nI (by omega) (by decide)
  have hcl : (nI b).toNatClampNeg = b := nI_clamp (by omega)
  obtain ⟨-, -, m3, m4, -⟩ := m_b hm hb
  have hl := drainedM_loop h hm hr hp (!decide (dnF v r = 0)) 4 0 FU (if dnF v r = 0 then 0 else 1) (by omega) (by unfold FU; omega) (by
    by_cases c : dnF v r = 0
    · simp only [c, ↓reduceIte, decide_true, Bool.not_true, Bool.false_or, colD, Bool.false_eq_true]
    · simp only [c, ↓reduceIte, decide_false, Bool.not_false, Bool.true_or])
  rw [Nat.zero_add, Nat.one_mul] at hl
  unfold drn
  rw [← hl]
  simp only [fM_isDrained, fM_isDrained_0, hib, hcl, gd_t, lt_v, m3, m4, e1, e2, m_drain h hm hr, m_floor h hm hr, bp_s]
/-! by salt, by the reference -/
theorem bySalt_loop {τ : Sg} {v : Vw} (h : okStore v) (hm : Rm 0 v (τ 7)) {b r p : Nat} (hb : b < vb v) (hr : r < vn v) (hp : p < vs v r) (e1 : v 18 b = nI r) (e2 : v 19 b = nI p) : ∀ m i n (x : Int32), i + m = 6 → m < n → x = (if 0 < cntF (isX v r p) i then 1 else 0) → fM_isBySalt_4 n τ (nI b) x (nI i) = some (if 0 < cntF (isX v r p) 6 then 1 else 0) := by
  have h3 := h.2.1.1
  have hib : ib (nI b) 1800 = true := ib_nI (by omega) (by decide)
  have hcl : (nI b).toNatClampNeg = b := nI_clamp (by omega)
  have k1 : ¬ (1 : Int32) = 0 := by decide
  obtain ⟨-, -, m3, m4, -⟩ := m_b hm hb
  intro m
  induction m with
  | zero =>
    intro i n x hi hn hx
    obtain ⟨n, rfl⟩ : ∃ k, n = k + 1 := ⟨n - 1, by omega⟩
    have ei : i = 6 := by omega
    subst ei
    have q : (6 : Int32) ≤ nI 6 := by decide
    have hb : isb x = true := by rw [hx]; split <;> decide
    simp only [fM_isBySalt_4, fM_isBySalt_4_b, q, hb, gd_t, ↓reduceIte]
    rw [hx]
  | succ m ih =>
    intro i n x hi hn hx
    obtain ⟨n, rfl⟩ : ∃ k, n = k + 1 := ⟨n - 1, by omega⟩
    have q : ¬ (6 : Int32) ≤ nI i := nI_ge (b := 6) (by omega) (by decide)
    have hs := m_side h hm hr hp (show i < 6 by omega)
    by_cases c : 0 < cntF (isX v r p) i
    · rw [if_pos c] at hx
      have := ih (i + 1) n 1 (by omega) (by omega) (by rw [cnt_s, if_pos (by omega)])
      rw [← this]
      simp only [fM_isBySalt_4, fM_isBySalt_4_b, fM_isBySalt_54, fM_isBySalt_58, fM_isBySalt_59, q, hib, hcl, gd_t, m3, m4, e1, e2, hs, bp_s, hx, k1, lt_v, nI_1, ↓reduceIte]
    · rw [if_neg c] at hx
      by_cases c2 : sd v r p i < 10
      · have ex : isX v r p i = false := decide_eq_false (fun z => Int32.not_le.mpr c2 z.1)
        have := ih (i + 1) n 0 (by omega) (by omega) (by rw [cnt_s, ex, if_neg (by simp; omega)])
        rw [← this]
        simp only [fM_isBySalt_4, fM_isBySalt_4_b, fM_isBySalt_54, fM_isBySalt_58, fM_isBySalt_59, q, hib, hcl, gd_t, m3, m4, e1, e2, hs, bp_s, hx, c2, lt_v, nI_1, ↓reduceIte]
      · have c2' := Int32.not_lt.mp c2
        obtain ⟨b', b1, b2⟩ := sd_blk h.w hr hp c2'
        have eb : sd v r p i - 10 = nI b' := by
          rw [b2]
          show nI (10 + b') - nI 10 = nI b'
          rw [pk_sub (by omega)]
          congr 1
          omega
        have hib2 : ib (nI b') 1800 = true := ib_nI (by omega) (by decide)
        have hcl2 : (nI b').toNatClampNeg = b' := nI_clamp (by omega)
        obtain ⟨m1, -⟩ := m_b hm b1
        have ex : isX v r p i = decide (v 16 b' = 2) := by
          unfold isX
          rw [b2, nI_clamp (by omega), show 10 + b' - 10 = b' by omega]
          simp only [ge10 (show b' < 300 by omega), true_and]
        by_cases c3 : v 16 b' = 2
        · have := ih (i + 1) n 1 (by omega) (by omega) (by rw [cnt_s, ex, decide_eq_true c3, if_pos (by simp)])
          rw [← this]
          simp only [fM_isBySalt_4, fM_isBySalt_4_b, fM_isBySalt_54, fM_isBySalt_58, fM_isBySalt_59, q, hib, hcl, gd_t, m3, m4, e1, e2, hs, bp_s, hx, c2, eb, hib2, hcl2, m1, c3, lt_v, nI_1, ↓reduceIte]
        · have := ih (i + 1) n 0 (by omega) (by omega) (by rw [cnt_s, ex, decide_eq_false c3, if_neg (by simp; omega)])
          rw [← this]
          simp only [fM_isBySalt_4, fM_isBySalt_4_b, fM_isBySalt_54, fM_isBySalt_58, fM_isBySalt_59, q, hib, hcl, gd_t, m3, m4, e1, e2, hs, bp_s, hx, c2, eb, hib2, hcl2, m1, c3, lt_v, nI_1, ↓reduceIte]
theorem bySalt_m {τ : Sg} {v : Vw} (h : okStore v) (hm : Rm 0 v (τ 7)) {b r p : Nat} (hb : b < vb v) (hr : r < vn v) (hp : p < vs v r) (e1 : v 18 b = nI r) (e2 : v 19 b = nI p) : fM_isBySalt τ (nI b) = some (if 0 < cntF (isX v r p) 6 then 1 else 0) := bySalt_loop h hm hb hr hp e1 e2 6 0 FU 0 (by omega) (by unfold FU; omega) rfl
