/-! what was lifted is laid down again -/
section Back
variable {v : Vw} {pa we t : Int32} {r : Nat}
theorem Lu_mem (v : Vw) (pa we t : Int32) (r : Nat) : ∀ n c, (∃ i, i < n ∧ c = Lb v pa we t r i) ∨ (Lu v pa we t r n 18 c = v 18 c ∧ Lu v pa we t r n 19 c = v 19 c)
  | 0, c => Or.inr ⟨rfl, rfl⟩
  | n + 1, c => by
    have e18 : Lu v pa we t r (n + 1) 18 c = if c = Lb v pa we t r n then -1 else Lu v pa we t r n 18 c := upd_r _ _ _ _
    have e19 : Lu v pa we t r (n + 1) 19 c = if c = Lb v pa we t r n then -1 else Lu v pa we t r n 19 c := upd_r _ _ _ _
    by_cases z : c = Lb v pa we t r n
    · exact Or.inl ⟨n, by omega, z⟩
    · rw [e18, e19, if_neg z, if_neg z]
      rcases Lu_mem v pa we t r n c with ⟨i, h1, h2⟩ | h
      · exact Or.inl ⟨i, by omega, h2⟩
      · exact Or.inr h
theorem Lu_gone (v : Vw) (pa we t : Int32) (r : Nat) : ∀ n i, i < n → Lu v pa we t r n 18 (Lb v pa we t r i) = -1
  | 0, i, hi => absurd hi (by omega)
  | n + 1, i, hi => by
    have e18 : Lu v pa we t r (n + 1) 18 (Lb v pa we t r i) = if Lb v pa we t r i = Lb v pa we t r n then -1 else Lu v pa we t r n 18 (Lb v pa we t r i) := upd_r _ _ _ _
    rw [e18]
    by_cases z : i = n
    · rw [z, if_pos rfl]
    · rw [Lu_gone v pa we t r n i (by omega), ite_self]
theorem Lb_inj (hv : okStore v) (hr : r < vn v) {i j : Nat} (hj : j < cR v r) (hij : i < j) : Lb v pa we t r i ≠ Lb v pa we t r j := by
  intro z
  have h8 := hv.1.1
  obtain ⟨-, -, -, b3, -⟩ := Lu_step hv hr (Lu_all hv (pa := pa) (we := we) (t := t) hr j (by omega)) hj
  have := Lu_gone v pa we t r j i hij
  rw [z, b3] at this
  exact nI_nm1 (n := r) (by omega) this
theorem P_inj (hv : okStore v) (hr : r < vn v) {i j : Nat} (hi : i < cR v r) (hj : j < cR v r) (hne : i ≠ j) : 180 * r + plc v (Lb v pa we t r i) ≠ 180 * r + plc v (Lb v pa we t r j) := by
  intro z
  have h3 := hv.2.1.1
  have h8 := hv.1.1
  have ez : plc v (Lb v pa we t r i) = plc v (Lb v pa we t r j) := by omega
  obtain ⟨-, b1, -, -, b4, -, b6, b7, -⟩ := Lu_step hv hr (Lu_all hv (pa := pa) (we := we) (t := t) hr i (by omega)) hi
  obtain ⟨-, c1, -, -, c4, -, c6, c7, -⟩ := Lu_step hv hr (Lu_all hv (pa := pa) (we := we) (t := t) hr j (by omega)) hj
  obtain ⟨x1, x2, x3, x4, x5⟩ := at_v hv b1 (by rw [b4]; exact nI_nm1 (by omega))
  obtain ⟨y1, y2, y3, y4, y5⟩ := at_v hv c1 (by rw [c4]; exact nI_nm1 (by omega))
  have ri : rmb v (Lb v pa we t r i) = r := by unfold rmb; rw [b4, nI_clamp (by omega)]
  have rj : rmb v (Lb v pa we t r j) = r := by unfold rmb; rw [c4, nI_clamp (by omega)]
  rw [ri, ez] at x5
  rw [rj, x5] at y5
  have := (nI_eq (a := 10 + Lb v pa we t r i) (b := 10 + Lb v pa we t r j) (by omega) (by omega)).mp y5
  rcases Nat.lt_or_ge i j with q | q
  · exact Lb_inj (pa := pa) (we := we) (t := t) hv hr hj q (by omega)
  · exact Lb_inj (pa := pa) (we := we) (t := t) (i := j) (j := i) hv hr hi (by omega) (by omega)
theorem Lb_at (hv : okStore v) (hr : r < vn v) {i : Nat} (hi : i < cR v r) : Lb v pa we t r i < vb v ∧ v 18 (Lb v pa we t r i) = nI r ∧ v 19 (Lb v pa we t r i) = nI (plc v (Lb v pa we t r i)) ∧ plc v (Lb v pa we t r i) < vs v r ∧ v 14 (180 * r + plc v (Lb v pa we t r i)) = nI (10 + Lb v pa we t r i) := by
  have h8 := hv.1.1
  obtain ⟨-, b1, -, -, b4, -, b6, b7, -⟩ := Lu_step hv hr (Lu_all hv (pa := pa) (we := we) (t := t) hr i (by omega)) hi
  obtain ⟨x1, x2, x3, x4, x5⟩ := at_v hv b1 (by rw [b4]; exact nI_nm1 (by omega))
  have ri : rmb v (Lb v pa we t r i) = r := by unfold rmb; rw [b4, nI_clamp (by omega)]
  rw [ri] at x5
  exact ⟨b1, b4, b6, b7, x5⟩
/-- cells, salts and drains behind n lifts -/
theorem Lu_cells (hv : okStore v) (hr : r < vn v) : ∀ n, n ≤ cR v r → Lu v pa we t r n 12 = v 12 ∧ Lu v pa we t r n 11 = upd (v 11) r (v 11 r - sumF (fun i => slt (v 16 (Lb v pa we t r i))) n) ∧ (∀ i, i < n → Lu v pa we t r n 14 (180 * r + plc v (Lb v pa we t r i)) = 0) ∧ ∀ pos, (∀ i, i < n → pos ≠ 180 * r + plc v (Lb v pa we t r i)) → Lu v pa we t r n 14 pos = v 14 pos
  | 0, _ => ⟨rfl, by
      rw [show sumF (fun i => slt (v 16 (Lb v pa we t r i))) 0 = 0 from rfl, Int32.sub_zero, upd_id]
      rfl, fun i hi => absurd hi (by omega), fun _ _ => rfl⟩
  | n + 1, hn => by
    obtain ⟨h1, h2, h3, h4⟩ := Lu_cells hv hr n (by omega)
    have h300 := hv.2.1.1
    have hL := Lu_all hv (pa := pa) (we := we) (t := t) hr n (by omega)
    obtain ⟨-, b1, -, -, b4, -, b6, b7, b8⟩ := Lu_step hv hr hL (show n < cR v r by omega)
    have e12 : Lu v pa we t r (n + 1) 12 = upd (Lu v pa we t r n 12) r (Lu v pa we t r n 12 r + drD (Lu v pa we t r n) r (plc v (Lb v pa we t r n)) 0) := rfl
    have e11 : Lu v pa we t r (n + 1) 11 = upd (Lu v pa we t r n 11) r (Lu v pa we t r n 11 r - slt (Lu v pa we t r n 16 (Lb v pa we t r n))) := rfl
    have e14 : Lu v pa we t r (n + 1) 14 = upd (Lu v pa we t r n 14) (180 * r + plc v (Lb v pa we t r n)) 0 := rfl
    have d0 : drD (Lu v pa we t r n) r (plc v (Lb v pa we t r n)) 0 = 0 := by
      unfold drD
      rw [b8, if_neg (show ¬ (0 : Int32) = 2 by decide), if_neg (blk_ne (b := Lb v pa we t r n) (by omega)).2.2]
      split <;> rfl
    refine ⟨?_, ?_, fun i hi => ?_, fun pos hp => ?_⟩
    · rw [e12, d0, Int32.add_zero, upd_id]; exact h1
    · rw [e11, h2, hL.2.1 16 (by omega) (by omega) (by omega) (by omega) (by omega), upd_upd, upd_r, if_pos rfl]
      congr 1
      rw [show sumF (fun i => slt (v 16 (Lb v pa we t r i))) (n + 1) = sumF (fun i => slt (v 16 (Lb v pa we t r i))) n + slt (v 16 (Lb v pa we t r n)) from rfl, sub_add32]
    · rw [e14, upd_r]
      split
      · rfl
      · next z =>
        exact h3 i (by
          rcases Nat.lt_or_ge i n with q | q
          · exact q
          · exact absurd (by rw [show i = n by omega]) z)
    · rw [e14, upd_r, if_neg (hp n (by omega))]
      exact h4 pos (fun i hi => hp i (by omega))
theorem okRoom_of {u w : Vw} {q : Nat} (hk : ∀ j, (2 ≤ j ∧ j ≤ 8) ∨ j = 13 → u j = w j) (h : okRoom w q) : okRoom u q := by
  unfold okRoom vf vs vw vy vz at *
  rw [hk 2 (by omega), hk 3 (by omega), hk 4 (by omega), hk 5 (by omega), hk 6 (by omega), hk 7 (by omega), hk 8 (by omega), hk 13 (by omega)]
  exact h
theorem putBack_loop (hv : okStore v) (hr : r < vn v) {n : Nat} (hn : n ≤ cR v r) {X : Sg} (x4 : X 6 0 9 = nI n) (x6 : ∀ i, i < n → X 6 6 i = nI (Lb v pa we t r i)) : ∀ m j f (Z : Sg), j + m = n → m < f → (∀ s, s ≠ 0 → Z s = X s) → (∀ k, k ≠ 11 → k ≠ 14 → Z 0 k = v k) → Z 0 11 = upd (v 11) r (v 11 r - sumF (fun i => slt (v 16 (Lb v pa we t r i))) n + sumF (fun i => slt (v 16 (Lb v pa we t r i))) j) → (∀ i, j ≤ i → i < n → Z 0 14 (180 * r + plc v (Lb v pa we t r i)) = 0) → (∀ pos, (∀ i, j ≤ i → i < n → pos ≠ 180 * r + plc v (Lb v pa we t r i)) → Z 0 14 pos = v 14 pos) → ∃ Z' : Sg, fI_putLiftedBack_2 f Z (nI j) = some Z' ∧ (∀ s, s ≠ 0 → Z' s = X s) ∧ Z' 0 = v := by
  have h3 := hv.2.1.1
  have h8 := hv.1.1
  have hcr := cR_le hv hr
  have hvr := vs_le (okS hv hr)
  intro m
  induction m with
  | zero =>
    intro j f Z hj hf z1 z2 z3 z4 z5
    obtain ⟨f, rfl⟩ : ∃ k, f = k + 1 := ⟨f - 1, by omega⟩
    have ej : j = n := by omega
    subst ej
    have e9 : Z 6 0 9 = nI j := by rw [z1 6 (by omega)]; exact x4
    have q : nI j ≤ nI j := nI_le (by omega) (by omega)
    refine ⟨Z, ?_, z1, ?_⟩
    · simp only [fI_putLiftedBack_2, fI_putLiftedBack_2_b, e9, q, ↓reduceIte]
    · funext k
      by_cases c11 : k = 11
      · subst c11
        rw [z3, Int32.sub_add_cancel, upd_id]
      · by_cases c14 : k = 14
        · subst c14
          funext pos
          exact z5 pos (fun i h1 h2 => absurd h1 (by omega))
        · exact z2 k c11 c14
  | succ m ih =>
    intro j f Z hj hf z1 z2 z3 z4 z5
    obtain ⟨f, rfl⟩ : ∃ k, f = k + 1 := ⟨f - 1, by omega⟩
    have hjn : j < n := by omega
    have e9 : Z 6 0 9 = nI n := by rw [z1 6 (by omega)]; exact x4
    have q : ¬ nI n ≤ nI j := nI_ge hjn (by omega)
    have hib : ib (nI j) 180 = true := ib_nI (by omega) (by decide)
    have hcl : (nI j).toNatClampNeg = j := nI_clamp (by omega)
    have e66 : Z 6 6 j = nI (Lb v pa we t r j) := by rw [z1 6 (by omega)]; exact x6 j hjn
    obtain ⟨b1, b4, b6, b7, b8⟩ := Lb_at (pa := pa) (we := we) (t := t) hv hr (show j < cR v r by omega)
    have n1 : vn (Z 0) = vn v := by unfold vn; rw [z2 1 (by omega) (by omega)]
    have hsz : vs (Z 0) r = vs v r := by unfold vs vw vy vz; rw [z2 3 (by omega) (by omega), z2 4 (by omega) (by omega), z2 5 (by omega) (by omega)]
    have hfl : vf (Z 0) r = vf v r := by unfold vf vw vy; rw [z2 3 (by omega) (by omega), z2 4 (by omega) (by omega)]
    have hok : okRoom (Z 0) r := okRoom_of (fun k hk => z2 k (by omega) (by omega)) (okS hv hr)
    have hl := layDown_eq (σ := Z) (a := 0) (b := Lb v pa we t r j) (n := vb v) (r := r) (p := plc v (Lb v pa we t r j)) ⟨by rw [n1]; exact h8, by rw [n1, z2 1 (by omega) (by omega)]; exact hv.1.2⟩ (by rw [n1]; exact hr) hok (by rw [hsz]; exact b7) (by rw [z2 15 (by omega) (by omega)]; exact hv.2.1.2) b1 h3 (by rw [z2 18 (by omega) (by omega)]; exact b4) (by rw [z2 19 (by omega) (by omega)]; exact b6)
    have d0 : drD (Z 0) r (plc v (Lb v pa we t r j)) (nI (10 + Lb v pa we t r j)) = 0 := by
      have ec : vc (Z 0) r (plc v (Lb v pa we t r j)) = 0 := z4 j (Nat.le_refl j) hjn
      unfold drD
      rw [ec, if_neg (blk_ne (b := Lb v pa we t r j) (by omega)).2.2, if_neg (show ¬ (0 : Int32) = 2 by decide)]
      split <;> rfl
    have hA : ∀ k, layS Z 0 (Lb v pa we t r j) r (plc v (Lb v pa we t r j)) 0 k = if k = 11 then upd (Z 0 11) r (Z 0 11 r + slt (v 16 (Lb v pa we t r j))) else if k = 14 then upd (Z 0 14) (180 * r + plc v (Lb v pa we t r j)) (nI (10 + Lb v pa we t r j)) else v k := fun k => by
      unfold layS
      rw [upA_a, fillS_a, z2 16 (by omega) (by omega)]
      by_cases c11 : k = 11
      · rw [if_pos c11, if_pos c11]
      · rw [if_neg c11, if_neg c11]
        unfold fillV
        by_cases c12 : k = 12
        · subst c12
          rw [if_pos rfl, if_neg (by omega), d0, Int32.add_zero, upd_id]
          exact z2 12 (by omega) (by omega)
        · rw [if_neg c12]
          by_cases c14 : k = 14
          · rw [if_pos c14, if_pos c14]
          · rw [if_neg c14, if_neg c14]
            exact z2 k c11 c14
    have hO : ∀ s, s ≠ 0 → layS Z 0 (Lb v pa we t r j) r (plc v (Lb v pa we t r j)) s = Z s := fun s hs => by
      unfold layS fillS
      rw [upA_o _ _ _ hs, upA_o _ _ _ hs, upA_o _ _ _ hs]
    generalize layS Z 0 (Lb v pa we t r j) r (plc v (Lb v pa we t r j)) = M at hl hA hO
    have M11 : M 0 11 = upd (Z 0 11) r (Z 0 11 r + slt (v 16 (Lb v pa we t r j))) := by rw [hA 11, if_pos rfl]
    have M14 : M 0 14 = upd (Z 0 14) (180 * r + plc v (Lb v pa we t r j)) (nI (10 + Lb v pa we t r j)) := by rw [hA 14, if_neg (by omega), if_pos rfl]
    obtain ⟨Z', h1, h2⟩ := ih (j + 1) f M (by omega) (by omega) (fun s hs => (hO s hs).trans (z1 s hs)) (fun k k11 k14 => by rw [hA k, if_neg k11, if_neg k14]) (by
        rw [M11, z3, upd_upd, upd_r, if_pos rfl]
        congr 1
        rw [Int32.add_assoc]
        rfl) (fun i h1 h2 => by
        rw [M14, upd_r, if_neg (P_inj hv hr (by omega) (by omega) (by omega))]
        exact z4 i (by omega) h2) (fun pos hp => by
        rw [M14, upd_r]
        split
        · next z => rw [z]; exact b8.symm
        · next z =>
          exact z5 pos (fun i h1 h2 => by
            by_cases y : i = j
            · rw [y]; exact z
            · exact hp i (by omega) h2))
    refine ⟨Z', ?_, h2⟩
    rw [← h1]
    simp only [fI_putLiftedBack_2, fI_putLiftedBack_2_b, e9, q, hib, hcl, gd_t, e66, hl, bp_s, lt_v, nI_1, ↓reduceIte]
theorem putBack_c (hv : okStore v) (hr : r < vn v) {n : Nat} (hn : n ≤ cR v r) {X : Sg} (x4 : X 6 0 9 = nI n) (x5 : X 0 = W2 (Lu v pa we t r n) (v 18) (v 19)) (x6 : ∀ i, i < n → X 6 6 i = nI (Lb v pa we t r i)) : ∃ Z' : Sg, fI_putLiftedBack X = some Z' ∧ (∀ s, s ≠ 0 → Z' s = X s) ∧ Z' 0 = v := by
  have hcr := cR_le hv hr
  have hvr := vs_le (okS hv hr)
  obtain ⟨c1, c2, c3, c4⟩ := Lu_cells (pa := pa) (we := we) (t := t) hv hr n hn
  have hL := Lu_all hv (pa := pa) (we := we) (t := t) hr n hn
  refine putBack_loop hv hr hn x4 x6 n 0 FU X (by omega) (by unfold FU; omega) (fun _ _ => rfl) (fun k k11 k14 => ?_) ?_ (fun i _ hi => ?_) (fun pos hp => ?_)
  · rw [x5]
    unfold W2
    by_cases c18 : k = 18
    · rw [if_pos c18, c18]
    · rw [if_neg c18]
      by_cases c19 : k = 19
      · rw [if_pos c19, c19]
      · rw [if_neg c19]
        by_cases c12 : k = 12
        · rw [c12]; exact c1
        · exact hL.2.1 k k11 c12 k14 c18 c19
  · rw [x5]
    show Lu v pa we t r n 11 = _
    rw [c2]
    congr 1
    exact (Int32.add_zero _).symm
  · rw [x5]; exact c3 i hi
  · rw [x5]; exact c4 pos (fun i hi => hp i (by omega) hi)
end Back
