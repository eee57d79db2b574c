def cutV (v : Vw) (r p : Nat) (k g : Int32) : Vw := fun c => if c = 0 then upd (v 0) 1 (v 0 1 + g) else if c = 11 then upd (v 11) r (v 11 r + slt k) else if c = 14 then upd (v 14) (180 * r + p) (nI (10 + vb v)) else if c = 12 then upd (v 12) r (v 12 r + drD v r p (nI (10 + vb v))) else if c = 15 then upd (v 15) 0 (v 15 0 + 1) else if c = 21 then upd (v 21) (vb v) (-1) else if c = 20 then upd (v 20) (vb v) (v 0 0) else if c = 19 then upd (v 19) (vb v) (nI p) else if c = 18 then upd (v 18) (vb v) (nI r) else if c = 17 then upd (v 17) (vb v) g else if c = 16 then upd (v 16) (vb v) k else v c
theorem upA_a (σ : Sg) (a c : Nat) (f : Nat → Int32) (k : Nat) : upA σ a c f a k = if k = c then f else σ a k := by
  rw [upA_r]
  by_cases h : k = c
  · rw [if_pos h, if_pos ⟨rfl, h⟩]
  · rw [if_neg h, if_neg (fun q => h q.2)]
theorem cutS_0 (σ : Sg) (r p : Nat) (k g : Int32) : cutS σ r p k g 0 = cutV (σ 0) r p k g := by
  have e16 : cutA σ r p k g 0 16 (vb (σ 0)) = k := by show upd (σ 0 16) (vb (σ 0)) k (vb (σ 0)) = k; rw [upd_r, if_pos rfl]
  funext c
  unfold cutS cutV layS fillS
  rw [e16]
  simp only [upA_a]
  by_cases c0 : c = 0
  · rw [if_pos c0, if_pos c0]
  rw [if_neg c0, if_neg c0]
  by_cases c1 : c = 11
  · rw [if_pos c1, if_pos c1]; rfl
  rw [if_neg c1, if_neg c1]
  by_cases c2 : c = 14
  · rw [if_pos c2, if_pos c2]; rfl
  rw [if_neg c2, if_neg c2]
  by_cases c3 : c = 12
  · rw [if_pos c3, if_pos c3]; rfl
  rw [if_neg c3, if_neg c3]
  unfold cutA
  simp only [upA_a]
theorem vb_cut {v : Vw} (h : okStore v) (hb : vb v < 300) (r p : Nat) (k g : Int32) : vb (cutV v r p k g) = vb v + 1 := by
  show (v 15 0 + 1).toNatClampNeg = _
  rw [h.2.1.2, nI_1, nI_clamp (by omega)]
theorem okStore_cut {v : Vw} (h : okStore v) (hb : vb v < 300) {r p : Nat} {k g : Int32} (hr : r < vn v) (hp : p < vs v r) (hz : vc v r p = 0) (hk : ∃ n : Nat, n ≤ 2 ∧ k = nI n) (hg : ∃ n : Nat, n ≤ 1000000 ∧ g = nI n) : okStore (cutV v r p k g) := by
  have eb := vb_cut h hb r p k g
  have hd := drains_fill (x := nI (10 + vb v)) h hr hp
  have hv := vs_le (okS h hr)
  have h8 := h.1.1
  obtain ⟨h1, h2, h3, h4, h5, h6, h7, -⟩ := h
  have evc : ∀ q s, s < 180 → vc (cutV v r p k g) q s = if q = r ∧ s = p then nI (10 + vb v) else vc v q s := fun q s hs => vc_fill (v := v) (x := nI (10 + vb v)) hs (by omega)
  have e18 : ∀ b, cutV v r p k g 18 b = if b = vb v then nI r else v 18 b := fun b => upd_r _ _ _ _
  have e19 : ∀ b, cutV v r p k g 19 b = if b = vb v then nI p else v 19 b := fun b => upd_r _ _ _ _
  have e16 : ∀ b, cutV v r p k g 16 b = if b = vb v then k else v 16 b := fun b => upd_r _ _ _ _
  have e17 : ∀ b, cutV v r p k g 17 b = if b = vb v then g else v 17 b := fun b => upd_r _ _ _ _
  have e11 : ∀ q, cutV v r p k g 11 q = if q = r then v 11 r + slt k else v 11 q := fun q => upd_r _ _ _ _
  refine ⟨h1, ⟨by omega, ?_⟩, ?_, h4, fun q hq s hs => ?_, fun b hbb => ?_, fun q hq => ?_, hd⟩
  · rw [eb]
    show v 15 0 + 1 = _
    rw [h2.2, nI_1]
  · exact h3
  · have hs' : s < vs v q := hs
    have hvq := vs_le (h4 q hq)
    unfold okCell
    rw [evc q s (by omega), eb]
    by_cases c : q = r ∧ s = p
    · rw [if_pos c]
      refine Or.inr (Or.inr (Or.inr ⟨vb v, by omega, rfl, ?_, ?_⟩))
      · rw [e18, if_pos rfl, c.1]
      · rw [e19, if_pos rfl, c.2]
    · rw [if_neg c]
      rcases h5 q hq s hs' with o | o | o | ⟨b, o1, o2, o3, o4⟩
      · exact Or.inl o
      · exact Or.inr (Or.inl o)
      · exact Or.inr (Or.inr (Or.inl o))
      · refine Or.inr (Or.inr (Or.inr ⟨b, by omega, o2, ?_, ?_⟩))
        · rw [e18, if_neg (by omega)]; exact o3
        · rw [e19, if_neg (by omega)]; exact o4
  · rw [eb] at hbb
    unfold okBlock
    have e21 : cutV v r p k g 21 b = if b = vb v then -1 else v 21 b := upd_r _ _ _ _
    rw [e16, e17, e18, e19, e21]
    by_cases c : b = vb v
    · simp only [if_pos c]
      refine ⟨⟨hk, by simp⟩, hg, Or.inr ⟨r, p, hr, hp, rfl, rfl, ?_⟩⟩
      rw [evc r p (by omega), if_pos ⟨rfl, rfl⟩, c]
    · simp only [if_neg c]
      obtain ⟨b1, b2, b3⟩ := h6 b (by omega)
      refine ⟨b1, b2, ?_⟩
      rcases b3 with b3 | ⟨q, s, hq, hs, o1, o2, o3⟩
      · exact Or.inl b3
      · have hvq := vs_le (h4 q hq)
        refine Or.inr ⟨q, s, hq, hs, o1, o2, ?_⟩
        rw [evc q s (by omega), if_neg (fun cc => ?_)]
        · exact o3
        · obtain ⟨rfl, rfl⟩ := cc
          rw [hz] at o3
          exact (blk_ne (b := b) (by omega)).1 o3.symm
  · have hq8 : q < vn v := hq
    rw [eb, e11]
    show _ = nI (cntF (fun b => decide (cutV v r p k g 18 b = nI q ∧ cutV v r p k g 16 b = 2)) (vb v) + if decide (cutV v r p k g 18 (vb v) = nI q ∧ cutV v r p k g 16 (vb v) = 2) then 1 else 0)
    have ec : cntF (fun b => decide (cutV v r p k g 18 b = nI q ∧ cutV v r p k g 16 b = 2)) (vb v) = cntF (fun b => decide (v 18 b = nI q ∧ v 16 b = 2)) (vb v) := by
      refine cntF_cong (fun b hb' => ?_)
      rw [e18, e16, if_neg (by omega), if_neg (by omega)]
    rw [ec, e18, e16, if_pos rfl, if_pos rfl]
    have h7q := h7 q hq8
    by_cases c : q = r
    · subst c
      rw [if_pos rfl, h7q]
      unfold slt
      by_cases c2 : k = 2
      · rw [if_pos c2, if_pos (decide_eq_true ⟨rfl, c2⟩), nI_1]
      · rw [if_neg c2, if_neg (fun x => c2 (of_decide_eq_true x).2)]
        exact nI_add _ 0
    · have hne : ¬ nI r = nI q := fun x => c ((nI_eq (by omega) (by omega)).mp x).symm
      rw [if_neg c, h7q, if_neg (fun x => hne (of_decide_eq_true x).1)]
      rfl
def cutM (σ : Sg) (b r p : Nat) (k g : Int32) : Sg := upA (upA (upA (upA (upA (upA (upA (upA (upA σ 7 19 (upd (σ 7 19) b k)) 7 20 (upd (σ 7 20) b g)) 7 21 (upd (σ 7 21) b (nI r))) 7 22 (upd (σ 7 22) b (nI p))) 7 23 (upd (σ 7 23) b (σ 7 6 0))) 7 24 (upd (σ 7 24) b (-1))) 7 18 (upd (σ 7 18) (180 * r + p) (nI (10 + b)))) 7 8 (upd (σ 7 8) 0 (nI b + 1))) 7 9 (upd (σ 7 9) 0 (σ 7 9 0 + g))
theorem cuts_eq {σ : Sg} {b r p : Nat} (hb : b < 300) (hr : r < 8) (hp : p < 180) (e8 : σ 7 8 0 = nI b) (k g : Int32) : fM_cuts σ (nI r) (nI p) k g = some (nI b, cutM σ b r p k g) := by
  have hib : ib (nI b) 1800 = true := ib_nI (by omega) (by decide)
  have hcl : (nI b).toNatClampNeg = b := nI_clamp (by omega)
  have x1 : 180 * nI r + nI p = nI (180 * r + p) := by show nI 180 * nI r + nI p = _; rw [pk_mul, nI_add]
  have hib2 : ib (nI (180 * r + p)) 8640 = true := ib_nI (by omega) (by decide)
  have hcl2 : (nI (180 * r + p)).toNatClampNeg = 180 * r + p := nI_clamp (by omega)
  have x2 : 10 + nI b = nI (10 + b) := nI_add 10 b
  have i6 : ib 0 6 = true := by decide
  have i36 : ib 0 36 = true := by decide
  have c0 : (0 : Int32).toNatClampNeg = 0 := by decide
  simp only [fM_cuts, fM_cuts_0, lt_v, i6, i36, c0, e8, hib, hcl, x1, x2, hib2, hcl2, gd_t, upA_r, Nat.reduceEqDiff, and_false, and_self, and_true, true_and, ↓reduceIte, cutM]
theorem Rm_cut {σ : Sg} {v : Vw} (h : okStore v) (hm : Rm 0 v (σ 7)) (hb : vb v < 300) {r p : Nat} (k g : Int32) (hr : r < vn v) (hp : p < vs v r) : Rm 0 (cutV v r p k g) (cutM σ (vb v) r p k g 7) := by
  have eb := vb_cut h hb r p k g
  have hv := vs_le (okS h hr)
  have hmf := Rm_fill (x := nI (10 + vb v)) h hm hr hp
  obtain ⟨⟨a1, a2, a3⟩, ⟨b1, b2, b3, b4⟩, c, d, e, f⟩ := hm
  refine ⟨⟨a1, a2, ?_⟩, ⟨?_, b2, b3, b4⟩, c, d, hmf.2.2.2.2.1, fun b hb' => ?_⟩
  · show nI (vb v) + 1 = v 15 0 + 1
    rw [h.2.1.2]
  · show σ 7 9 0 + g = v 0 1 + g
    rw [show σ 7 9 0 = v 0 1 from b1]
  · rw [eb] at hb'
    rw [show 300 * 0 + b = b by omega]
    show upd (σ 7 19) (vb v) k b = upd (v 16) (vb v) k b ∧ upd (σ 7 20) (vb v) g b = upd (v 17) (vb v) g b ∧ upd (σ 7 21) (vb v) (nI r) b = upd (v 18) (vb v) (nI r) b ∧ upd (σ 7 22) (vb v) (nI p) b = upd (v 19) (vb v) (nI p) b ∧ upd (σ 7 23) (vb v) (σ 7 6 0) b = upd (v 20) (vb v) (v 0 0) b ∧ upd (σ 7 24) (vb v) (-1) b = upd (v 21) (vb v) (-1) b
    simp only [upd_r]
    by_cases c : b = vb v
    · simp only [if_pos c, and_true, true_and]
      exact a1
    · simp only [if_neg c]
      have := f b (by omega)
      rw [show 300 * 0 + b = b by omega] at this
      exact this
theorem Ofs_cut (σ : Sg) {b r p : Nat} (hb : b < 300) (hr : r < 8) (hp : p < 180) (k g : Int32) : Ofs (σ 7) (cutM σ b r p k g 7) := by
  have h0 := Ofs.refl (σ 7)
  have q : ∀ c, 19 ≤ c → c ≤ 24 → b < lim c := fun c h1 h2 => by
    have : lim c = 300 := by unfold lim; simp only [if_neg (show ¬ c < 9 by omega), if_neg (show ¬ c = 9 by omega), if_neg (show ¬ c < 17 by omega), if_neg (show ¬ c = 17 by omega), if_neg (show ¬ c = 18 by omega), if_pos (show c < 25 by omega)]
    omega
  exact (((((((((h0.up (q 19 (by omega) (by omega))).up (q 20 (by omega) (by omega))).up (q 21 (by omega) (by omega))).up (q 22 (by omega) (by omega))).up (q 23 (by omega) (by omega))).up (q 24 (by omega) (by omega))).up (c := 18) (show 180 * r + p < 1440 by omega)).up (c := 8) (show 0 < 1 by omega)).up (c := 9) (show 0 < 6 by omega))
