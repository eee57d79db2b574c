/-! sums and counts, on both sides -/
theorem sumF_cong {f g : Nat → Int32} : ∀ {n : Nat}, (∀ k, k < n → f k = g k) → sumF f n = sumF g n
  | 0, _ => rfl
  | n + 1, h => by simp only [sumF]; rw [sumF_cong (fun k hk => h k (by omega)), h n (by omega)]
theorem sumF_zero {f : Nat → Int32} : ∀ {n : Nat}, (∀ k, k < n → f k = 0) → sumF f n = 0
  | 0, _ => rfl
  | n + 1, h => by simp only [sumF]; rw [sumF_zero (fun k hk => h k (by omega)), h n (by omega)]; rfl
theorem sumF_add (f g : Nat → Int32) : ∀ n : Nat, sumF (fun k => f k + g k) n = sumF f n + sumF g n
  | 0 => rfl
  | n + 1 => by
    simp only [sumF]
    rw [sumF_add f g n, Int32.add_assoc, Int32.add_assoc, ← Int32.add_assoc (sumF g n), Int32.add_comm (sumF g n) (f n), Int32.add_assoc]
theorem sumF_swap (F : Nat → Nat → Int32) (B : Nat) : ∀ S : Nat, sumF (fun p => sumF (fun b => F p b) B) S = sumF (fun b => sumF (fun p => F p b) S) B
  | 0 => (sumF_zero (fun _ _ => rfl)).symm
  | S + 1 => by
    have e : sumF (fun b => sumF (fun p => F p b) (S + 1)) B = sumF (fun b => sumF (fun p => F p b) S + F S b) B := rfl
    rw [e, sumF_add, ← sumF_swap F B S]
    rfl
theorem sumF_one {f : Nat → Int32} {i : Nat} {x : Int32} (h : f i = x) : ∀ {n : Nat}, i < n → (∀ k, k < n → k ≠ i → f k = 0) → sumF f n = x
  | 0, hi, _ => absurd hi (Nat.not_lt_zero i)
  | n + 1, hi, ho => by
    simp only [sumF]
    by_cases c : i = n
    · subst c
      rw [sumF_zero (fun k hk => ho k (by omega) (by omega)), h, Int32.zero_add]
    · rw [sumF_one h (show i < n by omega) (fun k hk => ho k (by omega)), ho n (by omega) (fun q => c q.symm), Int32.add_zero]
theorem sum_cnt (P : Nat → Bool) : ∀ n, sumF (fun b => if P b then 1 else 0) n = nI (cntF P n)
  | 0 => rfl
  | n + 1 => by
    simp only [sumF, cntF]
    rw [sum_cnt P n]
    cases P n
    · exact nI_add _ 0
    · exact nI_1 _
theorem loopSum {L : Nat → Int32 → Int32 → Option Int32} {N : Nat} {f : Nat → Int32} (h0 : ∀ n x, L (n + 1) x (nI N) = some x) (hs : ∀ n x i, i < N → L (n + 1) x (nI i) = L n (x + f i) (nI (i + 1))) : ∀ m i n x, i + m = N → m < n → x = sumF f i → L n x (nI i) = some (sumF f N) := by
  intro m
  induction m with
  | zero =>
    intro i n x hi hn hx
    obtain ⟨n, rfl⟩ : ∃ k, n = k + 1 := ⟨n - 1, by omega⟩
    have ei : i = N := by omega
    subst ei
    rw [h0, hx]
  | succ m ih =>
    intro i n x hi hn hx
    obtain ⟨n, rfl⟩ : ∃ k, n = k + 1 := ⟨n - 1, by omega⟩
    rw [hs n x i (by omega)]
    exact ih (i + 1) n _ (by omega) (by omega) (by rw [hx]; rfl)
/-- a sum over a room's places that hold blocks is the sum over its blocks -/
theorem sum_cells {v : Vw} (h : okStore v) {r : Nat} (hr : r < vn v) (F : Nat → Int32) : sumF (fun p => if 10 ≤ vc v r p then F p else 0) (vs v r) = sumF (fun b => if v 18 b = nI r then F (v 19 b).toNatClampNeg else 0) (vb v) := by
  have h3 := h.2.1.1
  have h8 := h.1.1
  have hvr := vs_le (okS h hr)
  have e1 : sumF (fun p => if 10 ≤ vc v r p then F p else 0) (vs v r) = sumF (fun p => sumF (fun b => if vc v r p = nI (10 + b) then F p else 0) (vb v)) (vs v r) := by
    refine sumF_cong (fun p hp => ?_)
    by_cases c : 10 ≤ vc v r p
    · obtain ⟨b, b1, b2, -⟩ : ∃ b, b < vb v ∧ vc v r p = nI (10 + b) ∧ v 18 b = nI r := by
        rcases h.2.2.2.2.1 r hr p hp with o | o | o | ⟨b, o1, o2, o3, -⟩
        · rw [o] at c; exact absurd c (by decide)
        · rw [o] at c; exact absurd c (by decide)
        · rw [o] at c; exact absurd c (by decide)
        · exact ⟨b, o1, o2, o3⟩
      rw [if_pos c]
      refine (sumF_one (i := b) (if_pos b2) b1 (fun k hk hne => if_neg (fun q => hne ?_))).symm
      rw [b2] at q
      have := (nI_eq (a := 10 + b) (b := 10 + k) (by omega) (by omega)).mp q
      omega
    · rw [if_neg c]
      refine (sumF_zero (fun k hk => if_neg (fun q => c ?_))).symm
      rw [q]
      exact ge10 (by omega)
  rw [e1, sumF_swap]
  refine sumF_cong (fun b hb => ?_)
  by_cases c : v 18 b = nI r
  · rw [if_pos c]
    have hn : ¬ v 18 b = -1 := by rw [c]; exact nI_nm1 (by omega)
    obtain ⟨r', p, hr', hp, o1, o2, o3⟩ := blk_lies h hb hn
    have er : r' = r := by
      rw [c] at o1
      exact ((nI_eq (by omega) (by omega)).mp o1).symm
    subst er
    rw [o2, nI_clamp (show p < 2 ^ 31 by omega)]
    refine sumF_one (i := p) (if_pos o3) hp (fun k hk hne => if_neg (fun q => hne ?_))
    rcases h.2.2.2.2.1 r' hr k hk with o | o | o | ⟨b', o1', o2', o3', o4'⟩
    · rw [o] at q; exact absurd q.symm (blk_ne (by omega)).1
    · rw [o] at q; exact absurd q.symm (blk_ne (by omega)).2.1
    · rw [o] at q; exact absurd q.symm (blk_ne (by omega)).2.2
    · rw [o2'] at q
      have eb := (nI_eq (a := 10 + b') (b := 10 + b) (by omega) (by omega)).mp q
      have eb : b' = b := by omega
      subst eb
      rw [o2] at o4'
      exact ((nI_eq (by omega) (by omega)).mp o4').symm
  · rw [if_neg c]
    refine sumF_zero (fun k hk => if_neg (fun q => c ?_))
    rcases h.2.2.2.2.1 r hr k hk with o | o | o | ⟨b', o1', o2', o3', o4'⟩
    · rw [o] at q; exact absurd q.symm (blk_ne (by omega)).1
    · rw [o] at q; exact absurd q.symm (blk_ne (by omega)).2.1
    · rw [o] at q; exact absurd q.symm (blk_ne (by omega)).2.2
    · rw [o2'] at q
      have eb := (nI_eq (a := 10 + b') (b := 10 + b) (by omega) (by omega)).mp q
      have eb : b' = b := by omega
      subst eb
      exact o3'
/-! the class's sums over blocks; the reference's -/
section SumC
variable {σ : Sg} {a : Nat} {v : Vw}
theorem blocksIn_c (e : σ a = v) (h : okW v) (x : Int32) : fStore_blocksIn σ a x = some (nI (cntF (fun b => decide (v 18 b = x)) (vb v))) := by
  have h3 := h.2.1.1
  rw [← sum_cnt]
  refine loopSum (L := fun n y i => fStore_blocksIn_4 n σ a x y i) (fun n y => ?_) (fun n y i hi => ?_) (vb v) 0 FU 0 (by omega) (by unfold FU; omega) rfl
  · have q : nI (vb v) ≤ nI (vb v) := nI_le (by omega) (by omega)
    simp only [fStore_blocksIn_4, fStore_blocksIn_4_b, e, h.2.1.2, q, ↓reduceIte]
  · have q : ¬ nI (vb v) ≤ nI i := nI_ge hi (by omega)
    have hib : ib (nI i) 300 = true := ib_nI (by omega) (by decide)
    have hcl : (nI i).toNatClampNeg = i := nI_clamp (by omega)
    by_cases c : v 18 i = x
    · simp only [fStore_blocksIn_4, fStore_blocksIn_4_b, fStore_blocksIn_31, e, h.2.1.2, q, hib, hcl, gd_t, c, lt_v, nI_1, ↓reduceIte, decide_true]
    · simp only [fStore_blocksIn_4, fStore_blocksIn_4_b, fStore_blocksIn_31, e, h.2.1.2, q, hib, hcl, gd_t, c, lt_v, nI_1, ↓reduceIte, decide_false, Bool.false_eq_true, Int32.add_zero]
def wgt (v : Vw) (x : Int32) : Int32 := sumF (fun b => if v 18 b = x then v 17 b else 0) (vb v)
theorem gramsIn_c (e : σ a = v) (h : okW v) (x : Int32) : fStore_gramsIn σ a x = some (wgt v x) := by
  have h3 := h.2.1.1
  refine loopSum (L := fun n y i => fStore_gramsIn_4 n σ a x y i) (fun n y => ?_) (fun n y i hi => ?_) (vb v) 0 FU 0 (by omega) (by unfold FU; omega) rfl
  · have q : nI (vb v) ≤ nI (vb v) := nI_le (by omega) (by omega)
    simp only [fStore_gramsIn_4, fStore_gramsIn_4_b, e, h.2.1.2, q, ↓reduceIte]
  · have q : ¬ nI (vb v) ≤ nI i := nI_ge hi (by omega)
    have hib : ib (nI i) 300 = true := ib_nI (by omega) (by decide)
    have hcl : (nI i).toNatClampNeg = i := nI_clamp (by omega)
    by_cases c : v 18 i = x
    · simp only [fStore_gramsIn_4, fStore_gramsIn_4_b, fStore_gramsIn_40, e, h.2.1.2, q, hib, hcl, gd_t, c, lt_v, nI_1, ↓reduceIte]
    · simp only [fStore_gramsIn_4, fStore_gramsIn_4_b, fStore_gramsIn_40, e, h.2.1.2, q, hib, hcl, gd_t, c, lt_v, nI_1, ↓reduceIte, Int32.add_zero]
theorem gramsInRooms_c (e : σ a = v) (h : okW v) : fStore_gramsInRooms σ a = some (sumF (fun r => wgt v (nI r)) (vn v)) := by
  have h8 := h.1.1
  refine loopSum (L := fun n y i => fStore_gramsInRooms_4 n σ a y i) (fun n y => ?_) (fun n y i hi => ?_) (vn v) 0 FU 0 (by omega) (by unfold FU; omega) rfl
  · have q : nI (vn v) ≤ nI (vn v) := nI_le (by omega) (by omega)
    simp only [fStore_gramsInRooms_4, fStore_gramsInRooms_4_b, e, h.1.2, q, ↓reduceIte]
  · have q : ¬ nI (vn v) ≤ nI i := nI_ge hi (by omega)
    simp only [fStore_gramsInRooms_4, fStore_gramsInRooms_4_b, e, h.1.2, q, gramsIn_c e h, bp_s, lt_v, nI_1, ↓reduceIte]
theorem led_c (e : σ a = v) (h : okW v) : fRooms_ledInAll σ a = some (sumF (v 9) (vn v)) := by
  have h8 := h.1.1
  refine loopSum (L := fun n y i => fRooms_ledInAll_4 n σ a y i) (fun n y => ?_) (fun n y i hi => ?_) (vn v) 0 FU 0 (by omega) (by unfold FU; omega) rfl
  · have q : nI (vn v) ≤ nI (vn v) := nI_le (by omega) (by omega)
    simp only [fRooms_ledInAll_4, fRooms_ledInAll_4_b, e, h.1.2, q, ↓reduceIte]
  · have q : ¬ nI (vn v) ≤ nI i := nI_ge hi (by omega)
    have hib : ib (nI i) 8 = true := ib_nI (by omega) (by decide)
    have hcl : (nI i).toNatClampNeg = i := nI_clamp (by omega)
    simp only [fRooms_ledInAll_4, fRooms_ledInAll_4_b, e, h.1.2, q, hib, hcl, gd_t, lt_v, nI_1, ↓reduceIte]
theorem standing_c (e : σ a = v) (h : okW v) : fRooms_standingInAll σ a = some (sumF (v 10) (vn v)) := by
  have h8 := h.1.1
  refine loopSum (L := fun n y i => fRooms_standingInAll_4 n σ a y i) (fun n y => ?_) (fun n y i hi => ?_) (vn v) 0 FU 0 (by omega) (by unfold FU; omega) rfl
  · have q : nI (vn v) ≤ nI (vn v) := nI_le (by omega) (by omega)
    simp only [fRooms_standingInAll_4, fRooms_standingInAll_4_b, e, h.1.2, q, ↓reduceIte]
  · have q : ¬ nI (vn v) ≤ nI i := nI_ge hi (by omega)
    have hib : ib (nI i) 8 = true := ib_nI (by omega) (by decide)
    have hcl : (nI i).toNatClampNeg = i := nI_clamp (by omega)
    simp only [fRooms_standingInAll_4, fRooms_standingInAll_4_b, e, h.1.2, q, hib, hcl, gd_t, lt_v, nI_1, ↓reduceIte]
theorem cnt_not (P : Nat → Bool) : ∀ n, cntF P n + cntF (fun b => !P b) n = n
  | 0 => rfl
  | n + 1 => by
    have := cnt_not P n
    rw [cnt_s, cnt_s]
    cases h : P n with
    | true => rw [if_pos rfl, if_neg (by decide)]; omega
    | false => rw [if_neg (by decide), if_pos (by decide)]; omega
def lyB (v : Vw) : Nat := cntF (fun b => !decide (v 18 b = -1)) (vb v)
theorem inRooms_c (e : σ a = v) (h : okW v) : fStore_blocksInRooms σ a = some (nI (lyB v)) := by
  have := cnt_not (fun b => decide (v 18 b = -1)) (vb v)
  have h3 := h.2.1.1
  simp only [fStore_blocksInRooms, fStore_blocksInRooms_0, blocksIn_c e h, bp_s, e, h.2.1.2]
  rw [pk_sub (by omega)]
  congr 2
  unfold lyB
  omega
end SumC
section SumM
variable {τ : Sg} {v : Vw}
theorem lies_neg {v : Vw} (h : okStore v) {b : Nat} (hb : b < vb v) : v 18 b < 0 ↔ v 18 b = -1 := by
  constructor
  · intro q
    by_cases c : v 18 b = -1
    · exact c
    · obtain ⟨r, p, hr, -, e, -⟩ := blk_lies h hb c
      rw [e] at q
      exact absurd q (nI_pos (by have := h.1.1; omega))
  · intro q
    rw [q]
    decide
theorem weight_m (h : okStore v) (hm : Rm 0 v (τ 7)) {r : Nat} (hr : r < 8) : fM_weight τ (nI r) = some (wgt v (nI r)) := by
  have h3 := h.2.1.1
  have i6 : ib 0 6 = true := by decide
  have c0 : (0 : Int32).toNatClampNeg = 0 := by decide
  have e8 := m_8 h hm
  have nr : ¬ nI r = -1 := nI_nm1 (by omega)
  refine loopSum (L := fun n y i => fM_weight_4 n τ (nI r) y i) (fun n y => ?_) (fun n y i hi => ?_) (vb v) 0 FU 0 (by omega) (by unfold FU; omega) rfl
  · have q : nI (vb v) ≤ nI (vb v) := nI_le (by omega) (by omega)
    simp only [fM_weight_4, fM_weight_4_b, i6, c0, gd_t, e8, q, ↓reduceIte]
  · have q : ¬ nI (vb v) ≤ nI i := nI_ge hi (by omega)
    have hib : ib (nI i) 1800 = true := ib_nI (by omega) (by decide)
    have hcl : (nI i).toNatClampNeg = i := nI_clamp (by omega)
    obtain ⟨-, m2, m3, -⟩ := m_b hm hi
    by_cases c : v 18 i = nI r
    · have cn : ¬ nI r < 0 := nI_pos (by omega)
      simp only [fM_weight_4, fM_weight_4_b, fM_weight_39, fM_weight_49, i6, c0, gd_t, e8, q, hib, hcl, m2, m3, c, cn, nr, lt_v, nI_1, ↓reduceIte]
    · by_cases c2 : v 18 i < 0
      · simp only [fM_weight_4, fM_weight_4_b, fM_weight_48, fM_weight_49, i6, c0, gd_t, e8, q, hib, hcl, m3, c, c2, lt_v, nI_1, ↓reduceIte]
      · simp only [fM_weight_4, fM_weight_4_b, fM_weight_48, fM_weight_49, i6, c0, gd_t, e8, q, hib, hcl, m3, c, c2, nr, lt_v, nI_1, ↓reduceIte]
theorem weight_all (h : okStore v) (hm : Rm 0 v (τ 7)) : fM_weight τ (-1) = some (sumF (fun r => wgt v (nI r)) (vn v)) := by
  have h3 := h.2.1.1
  have h8 := h.1.1
  have i6 : ib 0 6 = true := by decide
  have c0 : (0 : Int32).toNatClampNeg = 0 := by decide
  have e8 := m_8 h hm
  unfold wgt
  rw [sumF_swap]
  refine loopSum (L := fun n y i => fM_weight_4 n τ (-1) y i) (fun n y => ?_) (fun n y i hi => ?_) (vb v) 0 FU 0 (by omega) (by unfold FU; omega) rfl
  · have q : nI (vb v) ≤ nI (vb v) := nI_le (by omega) (by omega)
    simp only [fM_weight_4, fM_weight_4_b, i6, c0, gd_t, e8, q, ↓reduceIte]
  · have q : ¬ nI (vb v) ≤ nI i := nI_ge hi (by omega)
    have hib : ib (nI i) 1800 = true := ib_nI (by omega) (by decide)
    have hcl : (nI i).toNatClampNeg = i := nI_clamp (by omega)
    obtain ⟨-, m2, m3, -⟩ := m_b hm hi
    by_cases c : v 18 i < 0
    · have cm := (lies_neg h hi).mp c
      have ez : sumF (fun p => if v 18 i = nI p then v 17 i else 0) (vn v) = 0 := sumF_zero (fun k hk => if_neg (fun q => nI_nm1 (n := k) (by omega) (by rw [← q, cm])))
      simp only [fM_weight_4, fM_weight_4_b, fM_weight_48, fM_weight_49, i6, c0, gd_t, e8, q, hib, hcl, m3, c, lt_v, nI_1, ez, ↓reduceIte]
    · obtain ⟨r, p, hr, -, o1, -⟩ := blk_lies h hi (fun q => c ((lies_neg h hi).mpr q))
      have ez : sumF (fun p => if v 18 i = nI p then v 17 i else 0) (vn v) = v 17 i := sumF_one (i := r) (if_pos o1) hr (fun k hk hne => if_neg (fun q => hne (by rw [o1] at q; exact ((nI_eq (by omega) (by omega)).mp q).symm)))
      simp only [fM_weight_4, fM_weight_4_b, fM_weight_39, fM_weight_49, i6, c0, gd_t, e8, q, hib, hcl, m2, m3, c, lt_v, nI_1, ez, ↓reduceIte]
theorem allBlocks_m (h : okStore v) (hm : Rm 0 v (τ 7)) : fM_allBlocks τ = some (nI (lyB v)) := by
  have h3 := h.2.1.1
  have i6 : ib 0 6 = true := by decide
  have c0 : (0 : Int32).toNatClampNeg = 0 := by decide
  have e8 := m_8 h hm
  unfold lyB
  rw [← sum_cnt]
  refine loopSum (L := fun n y i => fM_allBlocks_4 n τ y i) (fun n y => ?_) (fun n y i hi => ?_) (vb v) 0 FU 0 (by omega) (by unfold FU; omega) rfl
  · have q : nI (vb v) ≤ nI (vb v) := nI_le (by omega) (by omega)
    simp only [fM_allBlocks_4, fM_allBlocks_4_b, i6, c0, gd_t, e8, q, ↓reduceIte]
  · have q : ¬ nI (vb v) ≤ nI i := nI_ge hi (by omega)
    have hib : ib (nI i) 1800 = true := ib_nI (by omega) (by decide)
    have hcl : (nI i).toNatClampNeg = i := nI_clamp (by omega)
    obtain ⟨-, m2, m3, -⟩ := m_b hm hi
    by_cases c : v 18 i < 0
    · have cm := (lies_neg h hi).mp c
      simp only [fM_allBlocks_4, fM_allBlocks_4_b, fM_allBlocks_29, i6, c0, gd_t, e8, q, hib, hcl, m3, c, lt_v, nI_1, ↓reduceIte]
      rw [cm]
      rfl
    · have cm : ¬ v 18 i = -1 := fun q => c ((lies_neg h hi).mpr q)
      simp only [fM_allBlocks_4, fM_allBlocks_4_b, fM_allBlocks_29, i6, c0, gd_t, e8, q, hib, hcl, m3, c, cm, lt_v, nI_1, ↓reduceIte, decide_false, Bool.not_false]
theorem all_m (h : okStore v) (hm : Rm 0 v (τ 7)) {k : Nat} {f : Nat → Int32} (hf : ∀ r, r < vn v → τ 7 k r = f r) : fM_all τ 7 k 48 = some (sumF f (vn v)) := by
  have h8 := h.1.1
  have i6 : ib 0 6 = true := by decide
  have c0 : (0 : Int32).toNatClampNeg = 0 := by decide
  have e7 := m_7 h hm
  refine loopSum (L := fun n y i => fM_all_4 n τ 7 k 48 y i) (fun n y => ?_) (fun n y i hi => ?_) (vn v) 0 FU 0 (by omega) (by unfold FU; omega) rfl
  · have q : nI (vn v) ≤ nI (vn v) := nI_le (by omega) (by omega)
    simp only [fM_all_4, fM_all_4_b, i6, c0, gd_t, e7, q, ↓reduceIte]
  · have q : ¬ nI (vn v) ≤ nI i := nI_ge hi (by omega)
    have hib : ib (nI i) 48 = true := ib_nI (by omega) (by decide)
    have hcl : (nI i).toNatClampNeg = i := nI_clamp (by omega)
    simp only [fM_all_4, fM_all_4_b, i6, c0, gd_t, e7, q, hib, hcl, hf i hi, lt_v, nI_1, ↓reduceIte]
end SumM
