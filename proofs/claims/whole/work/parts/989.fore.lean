/-! days foretold: one behind the other -/
def foV (v : Vw) (pa we le : Int32) (tt : Nat → Int32) : Nat → Vw
  | 0 => v
  | k + 1 => dayV (V21 (foV v pa we le tt k) (f21 (foV v pa we le tt k) (vb (foV v pa we le tt k)))) (Ls (foV v pa we le tt k) pa we (tt k)) le
def foE (v : Vw) (pa we le : Int32) (tt : Nat → Int32) (d0 : Nat) : Nat → Int32
  | 0 => if lyB v = 0 then nI d0 - 1 else -2
  | k + 1 => if foE v pa we le tt d0 k = -2 ∧ lyB (foV v pa we le tt (k + 1)) = 0 then nI (d0 + k) else foE v pa we le tt d0 k
section Fo
variable {v : Vw} {P W l d0 n : Nat} {tt : Nat → Int32}
theorem foV_ok (hv : okStore v) (hP : P ≤ 100) (hW : W ≤ 10000) (hd : v 0 0 = nI d0) (hn : d0 + n ≤ 199) (ht : ∀ k, -2048 ≤ (tt k).toInt ∧ (tt k).toInt ≤ 2048) : ∀ k, k ≤ n → okStore (foV v (nI P) (nI W) (nI l) tt k) ∧ foV v (nI P) (nI W) (nI l) tt k 0 0 = nI (d0 + k) ∧ vn (foV v (nI P) (nI W) (nI l) tt k) = vn v ∧ vb (foV v (nI P) (nI W) (nI l) tt k) = vb v
  | 0, _ => ⟨hv, hd, rfl, rfl⟩
  | k + 1, hk => by
    obtain ⟨h1, h2, h3, h4⟩ := foV_ok hv hP hW hd hn ht k (by omega)
    have hLB := LB_Ls (v := foV v (nI P) (nI W) (nI l) tt k) h1 hP hW (ht k).1 (ht k).2
    have hU := UI_all (ok21 h1 (vb (foV v (nI P) (nI W) (nI l) tt k))) (le := nI l) (L := Ls (foV v (nI P) (nI W) (nI l) tt k) (nI P) (nI W) (tt k)) hLB (vb (foV v (nI P) (nI W) (nI l) tt k)) (Nat.le_refl _)
    obtain ⟨gn, gb, -⟩ := hU.geo
    have e0 := (hU.2.2.2.2 0 (by omega)).trans h2
    refine ⟨okStore_fin hU.1 _ (d := d0 + k) e0 (by omega), ?_, ?_, ?_⟩
    · show Ud _ _ _ _ 0 0 + 1 = nI (d0 + (k + 1))
      rw [show nI (d0 + (k + 1)) = nI (d0 + k) + 1 from (nI_1 _).symm]
      exact congrArg (· + 1) e0
    · exact gn.trans h3
    · exact gb.trans h4
end Fo
/-! the class's rows -/
theorem row_loop {X : Sg} {u : Vw} (e : X 1 = u) (hu : okStore u) {k R : Nat} (hk : k < 200) (hR : vn u = R) (e2 : X 9 0 2 = nI R) : ∀ m q n (f : Nat → Int32), q + m = R → m < n → f (9 * k) = sumF (fun j => wgt u (nI j)) q → (∀ j, j < q → f (9 * k + 1 + j) = wgt u (nI j)) → (∀ j, j < 9 * k → f j = X 9 1 j) → ∃ g : Nat → Int32, fForecast_writeRow_17 n (upA X 9 1 f) 1 (nI (9 * k)) (nI q) = some (upA X 9 1 g) ∧ g (9 * k) = sumF (fun j => wgt u (nI j)) R ∧ (∀ j, j < R → g (9 * k + 1 + j) = wgt u (nI j)) ∧ ∀ j, j < 9 * k → g j = X 9 1 j := by
  have h8 := hu.1.1
  intro m
  induction m with
  | zero =>
    intro q n f hq hn f1 f2 f3
    obtain ⟨n, rfl⟩ : ∃ k, n = k + 1 := ⟨n - 1, by omega⟩
    have eq : q = R := by omega
    subst eq
    have c : nI q ≤ nI q := nI_le (by omega) (by omega)
    have e9 : upA X 9 1 f 9 0 2 = nI q := by rw [upA_a, if_neg (by omega)]; exact e2
    refine ⟨f, ?_, f1, f2, f3⟩
    simp only [fForecast_writeRow_17, fForecast_writeRow_17_b, e9, c, ↓reduceIte]
  | succ m ih =>
    intro q n f hq hn f1 f2 f3
    obtain ⟨n, rfl⟩ : ∃ k, n = k + 1 := ⟨n - 1, by omega⟩
    have c : ¬ nI R ≤ nI q := nI_ge (by omega) (by omega)
    have e9 : upA X 9 1 f 9 0 2 = nI R := by rw [upA_a, if_neg (by omega)]; exact e2
    have e1 : upA X 9 1 f 1 = u := (upA_o _ _ _ (by omega)).trans e
    have xk : nI (9 * k) + 1 + nI q = nI (9 * k + 1 + q) := by rw [nI_1, nI_add]
    have hib : ib (nI (9 * k + 1 + q)) 1800 = true := ib_nI (by omega) (by decide)
    have hcl : (nI (9 * k + 1 + q)).toNatClampNeg = 9 * k + 1 + q := nI_clamp (by omega)
    have hib2 : ib (nI (9 * k)) 1800 = true := ib_nI (by omega) (by decide)
    have hcl2 : (nI (9 * k)).toNatClampNeg = 9 * k := nI_clamp (by omega)
    have hib3 : ib (nI (9 * k + 1) + nI q) 1800 = true := by rw [nI_add]; exact hib
    have hcl3 : (nI (9 * k + 1) + nI q).toNatClampNeg = 9 * k + 1 + q := by rw [nI_add]; exact hcl
    obtain ⟨g, g0, g1⟩ := ih (q + 1) n (upd (upd f (9 * k + 1 + q) (wgt u (nI q))) (9 * k) (upd f (9 * k + 1 + q) (wgt u (nI q)) (9 * k) + upd f (9 * k + 1 + q) (wgt u (nI q)) (9 * k + 1 + q))) (by omega) (by omega) (by
        rw [upd_r, if_pos rfl, upd_r, if_neg (by omega), upd_r, if_pos rfl, f1]; rfl) (fun j hj => by
        rw [upd_r, if_neg (by omega), upd_r]
        split
        · next z => rw [show j = q by omega]
        · exact f2 j (by omega)) (fun j hj => by
        rw [upd_r, if_neg (by omega), upd_r, if_neg (by omega)]; exact f3 j hj)
    refine ⟨g, ?_, g1⟩
    rw [← g0]
    simp only [fForecast_writeRow_17, fForecast_writeRow_17_b, e9, c, gramsIn_c e1 hu.w, bp_s, xk, nI_1, hib, hcl, hib2, hcl2, hib3, hcl3, gd_t, lt_v, upA_same, upA_upA, ↓reduceIte]
theorem row_c {X : Sg} {u : Vw} (e : X 1 = u) (hu : okStore u) {k R : Nat} (hk : k < 200) (hR : vn u = R) (e0 : X 9 0 0 = nI k) (e2 : X 9 0 2 = nI R) : ∃ g : Nat → Int32, fForecast_writeRow X 1 = some (upA X 9 1 g) ∧ g (9 * k) = sumF (fun j => wgt u (nI j)) R ∧ (∀ j, j < R → g (9 * k + 1 + j) = wgt u (nI j)) ∧ ∀ j, j < 9 * k → g j = X 9 1 j := by
  have h8 := hu.1.1
  have x9 : nI k * 9 = nI (9 * k) := by show nI k * nI 9 = _; rw [pk_mul, Nat.mul_comm]
  have hib2 : ib (nI (9 * k)) 1800 = true := ib_nI (by omega) (by decide)
  have hcl2 : (nI (9 * k)).toNatClampNeg = 9 * k := nI_clamp (by omega)
  obtain ⟨g, g0, g1⟩ := row_loop e hu hk hR e2 R 0 FU (upd (X 9 1) (9 * k) 0) (by omega) (by unfold FU; omega) (by rw [upd_r, if_pos rfl]; rfl) (fun j hj => absurd hj (by omega)) (fun j hj => by rw [upd_r, if_neg (by omega)])
  refine ⟨g, ?_, g1⟩
  rw [← g0]
  simp only [fForecast_writeRow, fForecast_writeRow_0, e0, x9, lt_v, hib2, hcl2, gd_t]
  rfl
/-! the reference's rows -/
theorem fsee_loop {Y : Sg} {u : Vw} (hu : okStore u) {k : Nat} (hm : Rm 0 u (Y 7)) (hk : k < 200) : ∀ m q n (f : Nat → Int32), q + m = vn u → m < n → (∀ j, j < q → f (8 * k + j) = wgt u (nI j)) → (∀ j, j < 8 * k → f j = Y 7 48 j) → ∃ g : Nat → Int32, fM_foresees_2 n (upA Y 7 48 f) (nI k) (nI q) = some (upA Y 7 48 g) ∧ (∀ j, j < vn u → g (8 * k + j) = wgt u (nI j)) ∧ ∀ j, j < 8 * k → g j = Y 7 48 j := by
  have h8 := hu.1.1
  have i6 : ib 0 6 = true := by decide
  have c0 : (0 : Int32).toNatClampNeg = 0 := by decide
  intro m
  induction m with
  | zero =>
    intro q n f hq hn f1 f2
    obtain ⟨n, rfl⟩ : ∃ k, n = k + 1 := ⟨n - 1, by omega⟩
    have eq : q = vn u := by omega
    subst eq
    have hmf : Rm 0 u (upA Y 7 48 f 7) := hm
    have c : nI (vn u) ≤ nI (vn u) := nI_le (by omega) (by omega)
    have e7 : upA Y 7 48 f 7 7 0 = nI (vn u) := m_7 hu hmf
    refine ⟨f, ?_, f1, f2⟩
    simp only [fM_foresees_2, fM_foresees_2_b, i6, c0, gd_t, e7, c, ↓reduceIte]
  | succ m ih =>
    intro q n f hq hn f1 f2
    obtain ⟨n, rfl⟩ : ∃ k, n = k + 1 := ⟨n - 1, by omega⟩
    have hmf : Rm 0 u (upA Y 7 48 f 7) := hm
    have c : ¬ nI (vn u) ≤ nI q := nI_ge (by omega) (by omega)
    have e7 : upA Y 7 48 f 7 7 0 = nI (vn u) := m_7 hu hmf
    have xk : 8 * nI k + nI q = nI (8 * k + q) := by show nI 8 * nI k + nI q = _; rw [pk_mul, nI_add]
    have hib : ib (nI (8 * k + q)) 1600 = true := ib_nI (by omega) (by decide)
    have hcl : (nI (8 * k + q)).toNatClampNeg = 8 * k + q := nI_clamp (by omega)
    obtain ⟨g, g0, g1⟩ := ih (q + 1) n (upd f (8 * k + q) (wgt u (nI q))) (by omega) (by omega) (fun j hj => by
        rw [upd_r]
        split
        · next z => rw [show j = q by omega]
        · exact f1 j (by omega)) (fun j hj => by rw [upd_r, if_neg (by omega)]; exact f2 j hj)
    refine ⟨g, ?_, g1⟩
    rw [← g0]
    simp only [fM_foresees_2, fM_foresees_2_b, i6, c0, gd_t, e7, c, weight_m hu hmf (show q < 8 by omega), bp_s, xk, hib, hcl, lt_v, upA_same, upA_upA, nI_1, ↓reduceIte]
theorem fsee_m {Y : Sg} {u : Vw} (hu : okStore u) {k : Nat} (hm : Rm 0 u (Y 7)) (hk : k < 200) : ∃ g : Nat → Int32, fM_foresees Y (nI k) = some (upA Y 7 48 g) ∧ (∀ j, j < vn u → g (8 * k + j) = wgt u (nI j)) ∧ ∀ j, j < 8 * k → g j = Y 7 48 j := by
  have h8 := hu.1.1
  obtain ⟨g, g0, g1⟩ := fsee_loop hu hm hk (vn u) 0 FU (Y 7 48) (by omega) (by unfold FU; omega) (fun j hj => absurd hj (by omega)) (fun _ _ => rfl)
  rw [upA_id] at g0
  exact ⟨g, g0, g1⟩
