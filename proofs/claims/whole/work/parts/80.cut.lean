/-! cutting a block -/
theorem fillS_k {σ : Sg} {a r p : Nat} {x : Int32} {k : Nat} (h : k ≠ 12) (h2 : k ≠ 14) : fillS σ a r p x a k = σ a k := by
  rw [fillS_a]
  unfold fillV
  rw [if_neg h, if_neg h2]
def slt (k : Int32) : Int32 := if k = 2 then 1 else 0
theorem isSalt_eq {σ : Sg} {a b n : Nat} (hn : σ a 15 0 = nI n) (hb : b < n) (h3 : n ≤ 300) : fBlocks_isSalt σ a (nI b) = some (slt (σ a 16 b)) := by
  have q1 : ¬ nI b < 0 := nI_pos (by omega)
  have q2 : ¬ nI n ≤ nI b := nI_ge hb (by omega)
  have hib : ib (nI b) 300 = true := ib_nI (by omega) (by decide)
  have hcl : (nI b).toNatClampNeg = b := nI_clamp (by omega)
  simp only [fBlocks_isSalt, fBlocks_isSalt_0, q1, hn, q2, hib, hcl, gd_t, ↓reduceIte, slt]
  split <;> rfl
/-- a block put into its place -/
def layS (σ : Sg) (a b r p : Nat) : Sg := upA (fillS σ a r p (nI (10 + b))) a 11 (upd (σ a 11) r (σ a 11 r + slt (σ a 16 b)))
def lftS (σ : Sg) (a b r p : Nat) : Sg := upA (fillS σ a r p 0) a 11 (upd (σ a 11) r (σ a 11 r - slt (σ a 16 b)))
theorem layDown_eq {σ : Sg} {a b n r p : Nat} (h : okN (σ a)) (hr : r < vn (σ a)) (hk : okRoom (σ a) r) (hp : p < vs (σ a) r) (hn : σ a 15 0 = nI n) (hb : b < n) (h3 : n ≤ 300) (e1 : σ a 18 b = nI r) (e2 : σ a 19 b = nI p) : fStore_layDown σ a (nI b) = some (layS σ a b r p) := by
  have hib : ib (nI b) 300 = true := ib_nI (by omega) (by decide)
  have hcl : (nI b).toNatClampNeg = b := nI_clamp (by omega)
  have h8 := h.1
  have hb8 : ib (nI r) 8 = true := ib_nI (by omega) (by decide)
  have hc8 : (nI r).toNatClampNeg = r := nI_clamp (by omega)
  have x1 : 10 + nI b = nI (10 + b) := nI_add 10 b
  have f15 : ∀ x, fillS σ a r p x a 15 0 = nI n := fun x => by rw [fillS_k (by omega) (by omega)]; exact hn
  have f16 : ∀ x, fillS σ a r p x a 16 = σ a 16 := fun x => fillS_k (by omega) (by omega)
  have f11 : ∀ x, fillS σ a r p x a 11 = σ a 11 := fun x => fillS_k (by omega) (by omega)
  simp only [fStore_layDown, fStore_layDown_0, fStore_layDown_57, hib, hcl, gd_t, lt_v, e1, e2, x1, fill_eqG h hr hk hp, bp_s, hb8, hc8, isSalt_eq (f15 _) hb h3, f16, f11, layS]
  unfold slt
  by_cases c : σ a 16 b = 2
  · simp only [c, ↓reduceIte, show ¬ (1 : Int32) = 0 by decide]
  · simp only [c, ↓reduceIte]
theorem liftUp_eq {σ : Sg} {a b n r p : Nat} (h : okN (σ a)) (hr : r < vn (σ a)) (hk : okRoom (σ a) r) (hp : p < vs (σ a) r) (hn : σ a 15 0 = nI n) (hb : b < n) (h3 : n ≤ 300) (e1 : σ a 18 b = nI r) (e2 : σ a 19 b = nI p) : fStore_liftUp σ a (nI b) = some (lftS σ a b r p) := by
  have hib : ib (nI b) 300 = true := ib_nI (by omega) (by decide)
  have hcl : (nI b).toNatClampNeg = b := nI_clamp (by omega)
  have h8 := h.1
  have hb8 : ib (nI r) 8 = true := ib_nI (by omega) (by decide)
  have hc8 : (nI r).toNatClampNeg = r := nI_clamp (by omega)
  have f15 : ∀ x, fillS σ a r p x a 15 0 = nI n := fun x => by rw [fillS_k (by omega) (by omega)]; exact hn
  have f16 : ∀ x, fillS σ a r p x a 16 = σ a 16 := fun x => fillS_k (by omega) (by omega)
  have f11 : ∀ x, fillS σ a r p x a 11 = σ a 11 := fun x => fillS_k (by omega) (by omega)
  simp only [fStore_liftUp, fStore_liftUp_0, fStore_liftUp_54, hib, hcl, gd_t, lt_v, e1, e2, fill_eqG h hr hk hp, bp_s, hb8, hc8, isSalt_eq (f15 _) hb h3, f16, f11, lftS]
  unfold slt
  by_cases c : σ a 16 b = 2
  · simp only [c, ↓reduceIte, show ¬ (1 : Int32) = 0 by decide]
  · simp only [c, ↓reduceIte]
def cutA (σ : Sg) (r p : Nat) (k g : Int32) : Sg := upA (upA (upA (upA (upA (upA (upA σ 0 16 (upd (σ 0 16) (vb (σ 0)) k)) 0 17 (upd (σ 0 17) (vb (σ 0)) g)) 0 18 (upd (σ 0 18) (vb (σ 0)) (nI r))) 0 19 (upd (σ 0 19) (vb (σ 0)) (nI p))) 0 20 (upd (σ 0 20) (vb (σ 0)) (σ 0 0 0))) 0 21 (upd (σ 0 21) (vb (σ 0)) (-1))) 0 15 (upd (σ 0 15) 0 (σ 0 15 0 + 1))
def cutS (σ : Sg) (r p : Nat) (k g : Int32) : Sg := upA (layS (cutA σ r p k g) 0 (vb (σ 0)) r p) 0 0 (upd (σ 0 0) 1 (σ 0 0 1 + g))
theorem cutBlock_eq {σ : Sg} (h : okStore (σ 0)) {r p : Nat} (hr : r < vn (σ 0)) (hp : p < vs (σ 0) r) (hb : vb (σ 0) < 300) (k g : Int32) : fStore_cutBlock σ 0 (nI r) (nI p) k g = some (nI (vb (σ 0)), cutS σ r p k g) := by
  have e15 := h.2.1.2
  have hlt : nI (vb (σ 0)) < 300 := nI_lt (b := 300) (by omega) (by omega)
  have hib : ib (nI (vb (σ 0))) 300 = true := ib_nI hb (by decide)
  have hcl : (nI (vb (σ 0))).toNatClampNeg = vb (σ 0) := nI_clamp (by omega)
  have hl : fStore_layDown (cutA σ r p k g) 0 (nI (vb (σ 0))) = some (layS (cutA σ r p k g) 0 (vb (σ 0)) r p) := by
    refine layDown_eq (n := vb (σ 0) + 1) h.1 hr (okS h hr) hp ?_ (by omega) (by omega) ?_ ?_
    · show σ 0 15 0 + 1 = _
      rw [e15, nI_1]
    · show upd (σ 0 18) (vb (σ 0)) (nI r) (vb (σ 0)) = _
      rw [upd_r, if_pos rfl]
    · show upd (σ 0 19) (vb (σ 0)) (nI p) (vb (σ 0)) = _
      rw [upd_r, if_pos rfl]
  have e : fStore_cutBlock σ 0 (nI r) (nI p) k g = bp (fStore_layDown (cutA σ r p k g) 0 (nI (vb (σ 0)))) (fun σ9 => lt (upA σ9 0 0 (upd (σ9 0 0) 1 ((σ9 0 0 1) + g))) (fun σ10 => some (nI (vb (σ 0)), σ10))) := by
    simp only [fStore_cutBlock, fStore_cutBlock_0, lt_v, e15, hlt, hib, hcl, gd_t, ↓reduceIte, upA_r, Nat.reduceEqDiff, and_false, and_self, and_true, true_and, cutA]
  rw [e, hl]
  rfl
