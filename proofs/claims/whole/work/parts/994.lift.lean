/-! blocks lifted one by one: the stores behind it, on paper -/
def W2 (u : Vw) (f g : Nat → Int32) : Vw := fun k => if k = 18 then f else if k = 19 then g else u k
theorem W2_id (u : Vw) : W2 u (u 18) (u 19) = u := by
  funext k
  unfold W2
  by_cases c : k = 18
  · rw [if_pos c, c]
  · rw [if_neg c]
    by_cases c2 : k = 19
    · rw [if_pos c2, c2]
    · rw [if_neg c2]
theorem W2_w {u : Vw} (h : okStore u) {f g : Nat → Int32} (hfg : ∀ b, ¬ u 18 b = -1 → f b = u 18 b ∧ g b = u 19 b) : okW (W2 u f g) := by
  have h8 := h.1.1
  refine ⟨h.1, h.2.1, h.2.2.2.1, fun r hr p hp => ?_, h.2.2.2.2.2.2.2⟩
  have hr' : r < vn u := hr
  rcases h.2.2.2.2.1 r hr p hp with o | o | o | ⟨b, o1, o2, o3, o4⟩
  · exact Or.inl o
  · exact Or.inr (Or.inl o)
  · exact Or.inr (Or.inr (Or.inl o))
  · have := hfg b (by rw [o3]; exact nI_nm1 (by omega))
    exact Or.inr (Or.inr (Or.inr ⟨b, o1, o2, this.1.trans o3, this.2.trans o4⟩))
theorem nxt_ex {u : Vw} (h : okStore u) (pa we t : Int32) {r : Nat} (hr : r < vn u) : ∃ x, nxt u pa we (wrm u t r) r x := by
  obtain ⟨-, x, hx, -⟩ := near_c (σ := fun s => if s = 6 then (fun _ j => if j = 0 then pa else we) else u) (a := 0) (v := u) (by omega) rfl h.w hr t
  exact ⟨x, hx⟩
noncomputable def nxI (u : Vw) (pa we t : Int32) (r : Nat) : Int32 := Classical.epsilon (fun x => nxt u pa we (wrm u t r) r x)
theorem nxI_sp {u : Vw} (h : okStore u) (pa we t : Int32) {r : Nat} (hr : r < vn u) : nxt u pa we (wrm u t r) r (nxI u pa we t r) := Classical.epsilon_spec (nxt_ex h pa we t hr)
theorem nxI_eq {u : Vw} (h : okStore u) {pa we t : Int32} {r : Nat} (hr : r < vn u) {x : Int32} (hx : nxt u pa we (wrm u t r) r x) : x = nxI u pa we t r := nxt_uniq hx (nxI_sp h pa we t hr)
def cR (u : Vw) (r : Nat) : Nat := cntF (fun b => decide (u 18 b = nI r)) (vb u)
theorem cnt_pos {P : Nat → Bool} : ∀ {n : Nat}, 0 < cntF P n → ∃ i, i < n ∧ P i = true
  | 0, h => absurd h (by show ¬ 0 < 0; omega)
  | n + 1, h => by
    rw [cnt_s] at h
    by_cases c : P n = true
    · exact ⟨n, by omega, c⟩
    · rw [if_neg c] at h
      obtain ⟨i, h1, h2⟩ := cnt_pos (P := P) (n := n) (by omega)
      exact ⟨i, by omega, h2⟩
theorem cnt_zero {P : Nat → Bool} : ∀ {n : Nat}, cntF P n = 0 → ∀ i, i < n → P i = false
  | 0, _, i, hi => absurd hi (by omega)
  | n + 1, h, i, hi => by
    rw [cnt_s] at h
    cases hP : P n with
    | true => rw [hP, if_pos rfl] at h; omega
    | false =>
      rw [hP, if_neg (by decide)] at h
      by_cases c : i = n
      · rw [c]; exact hP
      · exact cnt_zero (P := P) (n := n) (by omega) i (by omega)
theorem max_ex {Q : Nat → Prop} : ∀ {n : Nat}, (∃ p, p < n ∧ Q p) → ∃ p, p < n ∧ Q p ∧ ∀ q, q < n → p < q → ¬ Q q
  | 0, ⟨p, hp, _⟩ => absurd hp (by omega)
  | n + 1, ⟨p, hp, hq⟩ => by
    by_cases c : Q n
    · exact ⟨n, by omega, c, fun q h1 h2 => absurd h1 (by omega)⟩
    · have hpn : p ≠ n := fun z => c (z ▸ hq)
      obtain ⟨p', h1, h2, h3⟩ := max_ex (Q := Q) (n := n) ⟨p, by omega, hq⟩
      refine ⟨p', by omega, h2, fun q h4 h5 => ?_⟩
      by_cases z : q = n
      · rw [z]; exact c
      · exact h3 q (by omega) h5
theorem free_ex {u : Vw} (h : okStore u) {r : Nat} (hr : r < vn u) (hc : 0 < cR u r) : ∃ p, p < vs u r ∧ frP u r p = true := by
  obtain ⟨b, hb, hbr⟩ := cnt_pos hc
  have hbr := of_decide_eq_true hbr
  have h8 := h.1.1
  have h3 := h.2.1.1
  have hv := vs_le (okS h hr)
  obtain ⟨r', p, hr', hp, o1, o2, o3⟩ := blk_lies h hb (by rw [hbr]; exact nI_nm1 (by omega))
  have er : r' = r := by rw [hbr] at o1; exact ((nI_eq (by omega) (by omega)).mp o1).symm
  subst er
  obtain ⟨q, q1, q2, q3⟩ := max_ex (Q := fun q => 10 ≤ vc u r' q) ⟨p, hp, by rw [o3]; exact ge10 (by omega)⟩
  refine ⟨q, q1, decide_eq_true ⟨q2, ?_⟩⟩
  rw [sd5]
  by_cases c : q + vf u r' < vs u r'
  · rw [if_pos c]; exact q3 _ c (by omega)
  · rw [if_neg c]; decide
theorem nxt_some {u : Vw} (h : okStore u) {pa we w : Int32} {r : Nat} (hr : r < vn u) {x : Int32} (hx : nxt u pa we w r x) (hc : 0 < cR u r) : ∃ b, b < vb u ∧ x = nI b ∧ u 18 b = nI r ∧ u 19 b = nI (plc u b) ∧ plc u b < vs u r ∧ vc u r (plc u b) = nI (10 + b) := by
  rcases hx with ⟨-, a2⟩ | ⟨p, a1, a2, a3, -⟩
  · obtain ⟨p, p1, p2⟩ := free_ex h hr hc
    rw [a2 p p1] at p2; cases p2
  · have hv := vs_le (okS h hr)
    obtain ⟨b, b1, b2, b3, b4, b5⟩ := frP_cell h.w hr a1 a2
    have ep : plc u b = p := by unfold plc; rw [b5, nI_clamp (by omega)]
    exact ⟨b, b1, by rw [a3, b3], b4, by rw [ep]; exact b5, by rw [ep]; exact a1, by rw [ep]; exact b2⟩
theorem nxt_none {u : Vw} (h : okStore u) {pa we w : Int32} {r : Nat} (hr : r < vn u) {x : Int32} (hx : nxt u pa we w r x) (hc : cR u r = 0) : x = -1 := by
  rcases hx with ⟨a1, -⟩ | ⟨p, a1, a2, a3, -⟩
  · exact a1
  · obtain ⟨b, b1, b2, b3, b4, b5⟩ := frP_cell h.w hr a1 a2
    have := cnt_zero hc b b1
    rw [decide_eq_true b4] at this; cases this
theorem cR_le {u : Vw} (h : okStore u) {r : Nat} (hr : r < vn u) : cR u r ≤ vs u r := by
  have hs := sum_cells h hr (fun _ => 1)
  have hv := vs_le (okS h hr)
  have h3 := h.2.1.1
  have e1 : sumF (fun p => if 10 ≤ vc u r p then (1 : Int32) else 0) (vs u r) = nI (cntF (fun p => decide (10 ≤ vc u r p)) (vs u r)) := by
    rw [← sum_cnt]
    exact sumF_cong (fun k _ => by
      by_cases c : 10 ≤ vc u r k
      · rw [if_pos c, if_pos (decide_eq_true c)]
      · rw [if_neg c, if_neg (fun z => c (of_decide_eq_true z))])
  have e2 : sumF (fun b => if u 18 b = nI r then (1 : Int32) else 0) (vb u) = nI (cR u r) := by
    unfold cR
    rw [← sum_cnt]
    exact sumF_cong (fun k _ => by
      by_cases c : u 18 k = nI r
      · rw [if_pos c, if_pos (decide_eq_true c)]
      · rw [if_neg c, if_neg (fun z => c (of_decide_eq_true z))])
  rw [e1, e2] at hs
  have l1 := cntF_le (fun p => decide (10 ≤ vc u r p)) (vs u r)
  have l2 : cR u r ≤ vb u := cntF_le _ _
  have := (nI_eq (by omega) (by omega)).mp hs
  omega
theorem cR_out {u : Vw} {b r p : Nat} (hr : r < 8) (hb : b < vb u) (e1 : u 18 b = nI r) : cR (outV u b r p) r + 1 = cR u r := by
  have e18 : ∀ c, outV u b r p 18 c = if c = b then -1 else u 18 c := fun c => upd_r _ _ _ _
  have hu := cntF_upd (p := fun c => decide (u 18 c = nI r)) (q := fun c => decide (outV u b r p 18 c = nI r)) (i := b) (fun k hk => by
    show decide (outV u b r p 18 k = nI r) = decide (u 18 k = nI r)
    rw [e18, if_neg hk]) hb
  have z1 : decide (outV u b r p 18 b = nI r) = false := decide_eq_false (fun z => nI_nm1 (n := r) (by omega) (by rw [← z, e18, if_pos rfl]))
  have z2 : decide (u 18 b = nI r) = true := decide_eq_true e1
  rw [z1, z2] at hu
  simp only [↓reduceIte, Bool.false_eq_true] at hu
  show cntF (fun c => decide (outV u b r p 18 c = nI r)) (vb u) + 1 = cntF (fun c => decide (u 18 c = nI r)) (vb u)
  omega
noncomputable def Lu (v : Vw) (pa we t : Int32) (r : Nat) : Nat → Vw
  | 0 => v
  | k + 1 => outV (Lu v pa we t r k) (nxI (Lu v pa we t r k) pa we t r).toNatClampNeg r (plc v (nxI (Lu v pa we t r k) pa we t r).toNatClampNeg)
noncomputable def Lb (v : Vw) (pa we t : Int32) (r k : Nat) : Nat := (nxI (Lu v pa we t r k) pa we t r).toNatClampNeg
def LV (v : Vw) (r k : Nat) (u : Vw) : Prop := okStore u ∧ (∀ j, j ≠ 11 → j ≠ 12 → j ≠ 14 → j ≠ 18 → j ≠ 19 → u j = v j) ∧ (∀ b, ¬ u 18 b = -1 → u 18 b = v 18 b ∧ u 19 b = v 19 b) ∧ cR u r + k = cR v r
theorem LV.geo {v u : Vw} {r k : Nat} (h : LV v r k u) : vn u = vn v ∧ vb u = vb v ∧ ∀ q, vf u q = vf v q ∧ vs u q = vs v q := by
  obtain ⟨-, hk, -⟩ := h
  have g : ∀ j, j ≠ 11 → j ≠ 12 → j ≠ 14 → j ≠ 18 → j ≠ 19 → u j = v j := hk
  refine ⟨by unfold vn; rw [g 1 (by omega) (by omega) (by omega) (by omega) (by omega)], by unfold vb; rw [g 15 (by omega) (by omega) (by omega) (by omega) (by omega)], fun q => ?_⟩
  unfold vf vs vw vy vz
  rw [g 3 (by omega) (by omega) (by omega) (by omega) (by omega), g 4 (by omega) (by omega) (by omega) (by omega) (by omega), g 5 (by omega) (by omega) (by omega) (by omega) (by omega)]
  exact ⟨rfl, rfl⟩
theorem Lu_step {v : Vw} (hv : okStore v) {pa we t : Int32} {r k : Nat} (hr : r < vn v) (h : LV v r k (Lu v pa we t r k)) (hk : k < cR v r) : LV v r (k + 1) (Lu v pa we t r (k + 1)) ∧ Lb v pa we t r k < vb v ∧ nxI (Lu v pa we t r k) pa we t r = nI (Lb v pa we t r k) ∧ Lu v pa we t r k 18 (Lb v pa we t r k) = nI r ∧ v 18 (Lb v pa we t r k) = nI r ∧ Lu v pa we t r k 19 (Lb v pa we t r k) = nI (plc v (Lb v pa we t r k)) ∧ v 19 (Lb v pa we t r k) = nI (plc v (Lb v pa we t r k)) ∧ plc v (Lb v pa we t r k) < vs v r ∧ vc (Lu v pa we t r k) r (plc v (Lb v pa we t r k)) = nI (10 + Lb v pa we t r k) := by
  obtain ⟨gn, gb, gr⟩ := h.geo
  obtain ⟨ho, h1, h2, h3⟩ := h
  have h8 := hv.1.1
  have h300 := hv.2.1.1
  have hsp := nxI_sp ho pa we t (show r < vn (Lu v pa we t r k) by rw [gn]; exact hr)
  obtain ⟨b, b1, b2, b3, b4, b5, b6⟩ := nxt_some ho (by rw [gn]; exact hr) hsp (by omega)
  rw [gb] at b1
  have eb : Lb v pa we t r k = b := by unfold Lb; rw [b2, nI_clamp (by omega)]
  obtain ⟨c1, c2⟩ := h2 b (by rw [b3]; exact nI_nm1 (by omega))
  have ep : plc (Lu v pa we t r k) b = plc v b := by unfold plc; rw [c2]
  rw [ep] at b4 b5 b6
  rw [(gr r).2] at b5
  rw [eb]
  have eL : Lu v pa we t r (k + 1) = outV (Lu v pa we t r k) b r (plc v b) := by
    show outV (Lu v pa we t r k) (Lb v pa we t r k) r (plc v (Lb v pa we t r k)) = _
    rw [eb]
  refine ⟨?_, b1, b2, b3, c1.symm.trans b3, b4, c2.symm.trans b4, b5, b6⟩
  rw [eL]
  refine ⟨okStore_out ho (by rw [gb]; exact b1) (by rw [gn]; exact hr) (by rw [(gr r).2]; exact b5) b3 b4 b6, fun j j11 j12 j14 j18 j19 => ?_, fun c hc => ?_, ?_⟩
  · unfold outV
    rw [if_neg j12, if_neg j14, if_neg j11, if_neg j18, if_neg j19]
    exact h1 j j11 j12 j14 j18 j19
  · have e18 : outV (Lu v pa we t r k) b r (plc v b) 18 c = if c = b then -1 else Lu v pa we t r k 18 c := upd_r _ _ _ _
    have e19 : outV (Lu v pa we t r k) b r (plc v b) 19 c = if c = b then -1 else Lu v pa we t r k 19 c := upd_r _ _ _ _
    rw [e18] at hc ⊢
    rw [e19]
    by_cases z : c = b
    · rw [if_pos z] at hc; exact absurd rfl hc
    · rw [if_neg z] at hc
      rw [if_neg z, if_neg z]
      exact h2 c hc
  · have := cR_out (p := plc v b) (show r < 8 by omega) (show b < vb (Lu v pa we t r k) by rw [gb]; exact b1) b3
    omega
theorem Lu_all {v : Vw} (hv : okStore v) {pa we t : Int32} {r : Nat} (hr : r < vn v) : ∀ k, k ≤ cR v r → LV v r k (Lu v pa we t r k)
  | 0, _ => ⟨hv, fun _ _ _ _ _ _ => rfl, fun _ _ => ⟨rfl, rfl⟩, rfl⟩
  | k + 1, hk => (Lu_step hv hr (Lu_all hv hr k (by omega)) (by omega)).1
