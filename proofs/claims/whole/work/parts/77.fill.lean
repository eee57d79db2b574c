/-! what is put into a place -/
theorem cntF_upd {p q : Nat → Bool} {i : Nat} (h : ∀ k, k ≠ i → q k = p k) : ∀ {n : Nat}, i < n → cntF q n + (if p i then 1 else 0) = cntF p n + (if q i then 1 else 0)
  | 0, hn => absurd hn (Nat.not_lt_zero i)
  | n + 1, hn => by
    rcases Nat.lt_or_ge i n with c | c
    · have ih := cntF_upd h c
      have e := h n (by omega)
      simp only [cntF, e]
      omega
    · have e : i = n := by omega
      subst e
      have e2 : cntF q i = cntF p i := by
        have key : ∀ m, m ≤ i → cntF q m = cntF p m := by
          intro m
          induction m with
          | zero => intro _; rfl
          | succ m ih => intro hm; simp only [cntF]; rw [ih (by omega), h m (by omega)]
        exact key i (Nat.le_refl i)
      simp only [cntF, e2]
      omega
theorem cntF_cong {p q : Nat → Bool} : ∀ {n : Nat}, (∀ k, k < n → q k = p k) → cntF q n = cntF p n
  | 0, _ => rfl
  | n + 1, h => by simp only [cntF]; rw [cntF_cong (fun k hk => h k (by omega)), h n (by omega)]
theorem cntF_le (p : Nat → Bool) : ∀ n, cntF p n ≤ n
  | 0 => Nat.le_refl 0
  | n + 1 => by
    have := cntF_le p n
    simp only [cntF]
    split <;> omega
def drD (v : Vw) (r p : Nat) (x : Int32) : Int32 := if p < vf v r then (if x = 2 then 1 else 0) - (if vc v r p = 2 then 1 else 0) else 0
def fillV (v : Vw) (r p : Nat) (x : Int32) : Vw := fun k => if k = 12 then upd (v 12) r (v 12 r + drD v r p x) else if k = 14 then upd (v 14) (180 * r + p) x else v k
def fillS (σ : Sg) (a r p : Nat) (x : Int32) : Sg := upA (upA σ a 12 (upd (σ a 12) r (σ a 12 r + drD (σ a) r p x))) a 14 (upd (σ a 14) (180 * r + p) x)
theorem fillS_a (σ : Sg) (a r p : Nat) (x : Int32) : fillS σ a r p x a = fillV (σ a) r p x := by
  funext k
  unfold fillS fillV upA
  by_cases c : k = 14
  · subst c; simp
  · by_cases c2 : k = 12
    · subst c2; simp
    · simp [c, c2]
theorem upA_id (σ : Sg) (a k : Nat) : upA σ a k (σ a k) = σ := by
  funext s' k'
  unfold upA
  split
  · next h => rw [h.1, h.2]
  · rfl
theorem upd_id (f : Nat → Int32) (k : Nat) : upd f k (f k) = f := by
  funext j
  unfold upd
  split
  · next h => rw [h]
  · rfl
theorem fill_eq {σ : Sg} {a : Nat} (h : okStore (σ a)) {r p : Nat} (hr : r < vn (σ a)) (hp : p < vs (σ a) r) (x : Int32) : fRooms_fill σ a (nI r) (nI p) x = some (fillS σ a r p x) := by
  have hk := okS h hr
  have hv := vs_le hk
  have h8 := h.1.1
  have hb := ib8 h hr
  have hc := cl8 h hr
  have k1 : ¬ (1 : Int32) = 0 := by decide
  have e7 := hk.2.2.2.2.2.2.1
  have e8 := hk.2.2.2.2.2.2.2.1
  have q2 : ¬ nI p < 0 := nI_pos (by omega)
  have q4 : ¬ nI (vs (σ a) r) ≤ nI p := nI_ge hp (by omega)
  have x1 : nI r * 180 + nI p = nI (180 * r + p) := by show nI r * nI 180 + nI p = _; rw [pk_mul, nI_add, Nat.mul_comm]
  have hib : ib (nI (180 * r + p)) 1440 = true := ib_nI (by omega) (by decide)
  have hcl : (nI (180 * r + p)).toNatClampNeg = 180 * r + p := nI_clamp (by omega)
  have hhp : fRooms_hasPlace σ a (nI r) (nI p) = some 1 := by
    simp only [fRooms_hasPlace, fRooms_hasPlace_0, has_in h hr, bp_s, k1, q2, hb, hc, gd_t, e8, q4, ↓reduceIte]
  by_cases c : p < vf (σ a) r
  · have q5 : ¬ nI (vf (σ a) r) ≤ nI p := nI_ge c (by omega)
    have hof : fRooms_isOnFloor σ a (nI r) (nI p) = some 1 := by
      simp only [fRooms_isOnFloor, fRooms_isOnFloor_0, hb, hc, gd_t, e7, q5, ↓reduceIte]
    have e12 : ∀ f : Nat → Int32, upA σ a 12 f a 14 = σ a 14 := fun f => upA_ne _ _ (by omega)
    simp only [fRooms_fill, fRooms_fill_0, fRooms_fill_36, fRooms_fill_51, fRooms_fill_54, hhp, hof, bp_s, k1, hb, hc, gd_t, at_in h hr hp, lt_v, x1, hib, hcl, ↓reduceIte, e12, fillS, drD, c]
    by_cases c2 : x = 2
    · by_cases c3 : vc (σ a) r p = 2
      · simp only [c2, c3, ↓reduceIte]
      · simp only [c2, c3, ↓reduceIte]
    · by_cases c3 : vc (σ a) r p = 2
      · simp only [c2, c3, ↓reduceIte]
      · simp only [c2, c3, ↓reduceIte]
  · have q5 : nI (vf (σ a) r) ≤ nI p := nI_le (by omega) (by omega)
    have hof : fRooms_isOnFloor σ a (nI r) (nI p) = some 0 := by
      simp only [fRooms_isOnFloor, fRooms_isOnFloor_0, hb, hc, gd_t, e7, q5, ↓reduceIte]
    have e0 : σ a 12 r + 0 = σ a 12 r := Int32.add_zero _
    simp only [fRooms_fill, fRooms_fill_0, fRooms_fill_54, hhp, hof, bp_s, k1, x1, hib, hcl, gd_t, lt_v, ↓reduceIte, fillS, drD, c, e0, upd_id, upA_id]
theorem pl_inj {q s r p : Nat} (hs : s < 180) (hp : p < 180) : 180 * q + s = 180 * r + p ↔ q = r ∧ s = p := by omega
theorem vc_fill {v : Vw} {r p q s : Nat} {x : Int32} (hs : s < 180) (hp : p < 180) : vc (fillV v r p x) q s = if q = r ∧ s = p then x else vc v q s := by
  show upd (v 14) (180 * r + p) x (180 * q + s) = _
  unfold upd
  by_cases c : q = r ∧ s = p
  · rw [if_pos c, if_pos ((pl_inj hs hp).mpr c)]
  · rw [if_neg c, if_neg (fun e => c ((pl_inj hs hp).mp e))]
    rfl
/-- the drains on the floor are counted right when a place is filled -/
theorem drains_fill {v : Vw} (h : okStore v) {r p : Nat} {x : Int32} (hr : r < vn v) (hp : p < vs v r) : ∀ q, q < vn v → fillV v r p x 12 q = nI (cntF (fun s => decide (vc (fillV v r p x) q s = 2)) (vf v q)) := by
  intro q hq
  have hkq := vs_le (okS h hq)
  have hk := vs_le (okS h hr)
  have h12 := h.2.2.2.2.2.2.2 q hq
  show upd (v 12) r (v 12 r + drD v r p x) q = _
  unfold upd
  by_cases c : q = r
  · subst c
    rw [if_pos rfl, h12]
    unfold drD
    by_cases cp : p < vf v q
    · rw [if_pos cp]
      have hu := cntF_upd (p := fun s => decide (vc v q s = 2)) (q := fun s => decide (vc (fillV v q p x) q s = 2)) (i := p) (fun s hs => by
        show decide (vc (fillV v q p x) q s = 2) = decide (vc v q s = 2)
        have e : vc (fillV v q p x) q s = vc v q s := by
          show upd (v 14) (180 * q + p) x (180 * q + s) = _
          unfold upd
          rw [if_neg (by omega)]
          rfl
        rw [e]) cp
      have e1 : vc (fillV v q p x) q p = x := by rw [vc_fill (by omega) (by omega), if_pos ⟨rfl, rfl⟩]
      simp only [e1] at hu
      have hle := cntF_le (fun s => decide (vc v q s = 2)) (vf v q)
      have hle2 := cntF_le (fun s => decide (vc (fillV v q p x) q s = 2)) (vf v q)
      generalize cntF (fun s => decide (vc v q s = 2)) (vf v q) = A at *
      generalize cntF (fun s => decide (vc (fillV v q p x) q s = 2)) (vf v q) = B at *
      by_cases c2 : x = 2 <;> by_cases c3 : vc v q p = 2 <;> simp only [c2, c3, decide_true, decide_false, ↓reduceIte, Bool.false_eq_true] at hu ⊢
      · rw [show A = B by omega]; show nI B + 0 = nI B; exact nI_add B 0
      · rw [show B = A + 1 by omega]; exact nI_1 A
      · rw [show A = B + 1 by omega]
        show nI (B + 1) + (0 - 1) = nI B
        exact pk_m1 B
      · rw [show A = B by omega]; show nI B + 0 = nI B; exact nI_add B 0
    · rw [if_neg cp]
      rw [show nI (cntF (fun s => decide (vc v q s = 2)) (vf v q)) + 0 = nI (cntF (fun s => decide (vc v q s = 2)) (vf v q)) from nI_add _ 0]
      congr 1
      refine cntF_cong (fun s hs => ?_)
      rw [vc_fill (by omega) (by omega), if_neg (fun e => by omega)]
  · rw [if_neg c, h12]
    congr 1
    refine cntF_cong (fun s hs => ?_)
    rw [vc_fill (by omega) (by omega), if_neg (fun e => c e.1)]
theorem blk_ne {b : Nat} (hb : b < 300) : ¬ nI (10 + b) = 0 ∧ ¬ nI (10 + b) = 1 ∧ ¬ nI (10 + b) = 2 := by
  refine ⟨fun e => ?_, fun e => ?_, fun e => ?_⟩
  · have := (nI_eq (a := 10 + b) (b := 0) (by omega) (by decide)).mp e; omega
  · have := (nI_eq (a := 10 + b) (b := 1) (by omega) (by decide)).mp e; omega
  · have := (nI_eq (a := 10 + b) (b := 2) (by omega) (by decide)).mp e; omega
/-- straw, a drain or nothing in the place of such -/
theorem okStore_fill {v : Vw} (h : okStore v) {r p : Nat} {x : Int32} (hr : r < vn v) (hp : p < vs v r) (ho : vc v r p = 0 ∨ vc v r p = 1 ∨ vc v r p = 2) (hx : x = 0 ∨ x = 1 ∨ x = 2) : okStore (fillV v r p x) := by
  have hd := drains_fill (x := x) h hr hp
  have hv := vs_le (okS h hr)
  obtain ⟨h1, h2, h3, h4, h5, h6, h7, h8⟩ := h
  refine ⟨h1, h2, h3, h4, fun q hq s hs => ?_, fun b hb => ?_, h7, hd⟩
  · have hvq := vs_le (h4 q hq)
    have hs' : s < vs v q := hs
    unfold okCell
    rw [vc_fill (by omega) (by omega)]
    by_cases c : q = r ∧ s = p
    · rw [if_pos c]
      rcases hx with e | e | e
      · exact Or.inl e
      · exact Or.inr (Or.inl e)
      · exact Or.inr (Or.inr (Or.inl e))
    · rw [if_neg c]
      exact h5 q hq s hs
  · have hb' : b < vb v := hb
    obtain ⟨b1, b2, b3⟩ := h6 b hb
    refine ⟨b1, b2, ?_⟩
    rcases b3 with b3 | ⟨q, s, hq, hs, e1, e2, e3⟩
    · exact Or.inl b3
    · have hvq := vs_le (h4 q hq)
      refine Or.inr ⟨q, s, hq, hs, e1, e2, ?_⟩
      rw [vc_fill (by omega) (by omega), if_neg (fun c => ?_)]
      · exact e3
      · obtain ⟨c1, c2⟩ := c
        subst c1; subst c2
        have hn := blk_ne (b := b) (by have := h2.1; omega)
        rw [e3] at ho
        rcases ho with o | o | o
        · exact hn.1 o
        · exact hn.2.1 o
        · exact hn.2.2 o
theorem Rm_fill {v m : Vw} {r p : Nat} {x : Int32} (h : okStore v) (hm : Rm 0 v m) (hr : r < vn v) (hp : p < vs v r) : Rm 0 (fillV v r p x) (fun k => if k = 18 then upd (m 18) (180 * r + p) x else m k) := by
  have hv := vs_le (okS h hr)
  obtain ⟨m1, m2, m3, m4, m5, m6⟩ := hm
  refine ⟨m1, m2, m3, m4, fun q hq s hs => ?_, m6⟩
  have hvq := vs_le (okS h hq)
  have hs' : s < vs v q := hs
  rw [vc_fill (by omega) (by omega)]
  show upd (m 18) (180 * r + p) x (1440 * 0 + 180 * q + s) = _
  unfold upd
  rw [show 1440 * 0 + 180 * q + s = 180 * q + s by omega]
  by_cases c : q = r ∧ s = p
  · rw [if_pos c, if_pos ((pl_inj (by omega) (by omega)).mpr c)]
  · rw [if_neg c, if_neg (fun e => c ((pl_inj (by omega) (by omega)).mp e))]
    have := m5 q hq s hs
    rw [show 1440 * 0 + 180 * q + s = 180 * q + s by omega] at this
    exact this
