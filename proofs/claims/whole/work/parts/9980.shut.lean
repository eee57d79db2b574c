/-! pack: the sides that chosen places shut -/
def nsh (w y z : Nat) (A : Nat → Int32) (p s : Nat) : Bool := match nb6 w y z p s with
  | some q => decide (¬ A q = 0)
  | none => false
def shN (w y z : Nat) (A : Nat → Int32) (p : Nat) : Nat := cntF (nsh w y z A p) 6
/-- a room's sizes -/
def dimOk (w y z : Nat) : Prop := (1 ≤ w ∧ w ≤ 6) ∧ (1 ≤ y ∧ y ≤ 6) ∧ 1 ≤ z ∧ z ≤ 5
theorem dimOk.s {w y z : Nat} (h : dimOk w y z) : w * y * z ≤ 180 ∧ w * y ≤ 36 ∧ 1 ≤ w * y ∧ w * y ≤ w * y * z := by
  obtain ⟨⟨w1, w2⟩, ⟨y1, y2⟩, z1, z2⟩ := h
  have a1 : w * y ≤ 6 * 6 := Nat.mul_le_mul w2 y2
  have a2 : 1 * 1 ≤ w * y := Nat.mul_le_mul w1 y1
  have a3 : w * y * z ≤ 36 * 5 := Nat.mul_le_mul a1 z2
  have a4 : w * y * 1 ≤ w * y * z := Nat.mul_le_mul_left _ z1
  omega
/-- the class's packer stands before a room w y z -/
def PK (σ : Sg) (w y z : Nat) : Prop := σ 10 0 0 = nI w ∧ σ 10 0 1 = nI y ∧ σ 10 0 2 = nI z ∧ σ 10 0 3 = nI (w * y * z)
theorem shut_loop {σ : Sg} {w y z p : Nat} (hd : dimOk w y z) (hp : p < w * y * z) (hk : PK σ w y z) : ∀ m i n (x : Int32), i + m = 6 → m < n → x = nI (cntF (nsh w y z (σ 10 1) p) i) → fPacker_sidesShut_4 n σ (nI p) x (nI i) = some (nI (shN w y z (σ 10 1) p)) := by
  have hsz := hd.s
  obtain ⟨⟨w1, w2⟩, ⟨y1, y2⟩, z1, z2⟩ := hd
  obtain ⟨k0, k1, k2, k3⟩ := hk
  intro m
  induction m with
  | zero =>
    intro i n x hi hn hx
    obtain ⟨n, rfl⟩ : ∃ k, n = k + 1 := ⟨n - 1, by omega⟩
    have e : i = 6 := by omega
    subst e
    have q : (6 : Int32) ≤ nI 6 := by decide
    simp only [fPacker_sidesShut_4, fPacker_sidesShut_4_b, q, ↓reduceIte, hx, shN]
  | succ m ih =>
    intro i n x hi hn hx
    obtain ⟨n, rfl⟩ : ∃ k, n = k + 1 := ⟨n - 1, by omega⟩
    have q : ¬ (6 : Int32) ≤ nI i := nI_ge (a := i) (b := 6) (by omega) (by omega)
    have q2 : nI i + 1 = nI (i + 1) := nI_add i 1
    have hb := beside_eq (σ := σ) (w := w) (y := y) (z := z) (p := p) (s := i) w1 w2 y1 y2 z1 z2 (by omega) (by omega)
    rw [fPacker_sidesShut_4, fPacker_sidesShut_4_b, if_neg q, k0, k1, k2, k3, hb, bp_s, fI_within_eq, bp_s]
    cases hn6 : nb6 w y z p i with
    | none =>
      have e1 : wi (nbI none) 0 (nI (w * y * z) - 1) = 0 := by
        unfold wi nbI
        rw [if_pos (by decide)]
      rw [e1, if_pos rfl, fPacker_sidesShut_57, lt_v, q2]
      refine ih (i + 1) n x (by omega) (by omega) ?_
      rw [hx, cnt_s]
      simp [nsh, hn6]
    | some q' =>
      have hq := nb6_lt w1 y1 hp hn6
      have e1 : wi (nbI (some q')) 0 (nI (w * y * z) - 1) = 1 := wiIx0 hq (by omega)
      have e2 : ib (nbI (some q')) 180 = true := ib_nI (by omega) (by decide)
      have e3 : (nbI (some q')).toNatClampNeg = q' := nI_clamp (by omega)
      rw [e1, if_neg (by decide), e2, gd_t, e3]
      by_cases c : σ 10 1 q' = 0
      · rw [if_pos c, fPacker_sidesShut_57, lt_v, q2]
        refine ih (i + 1) n x (by omega) (by omega) ?_
        rw [hx, cnt_s]
        simp [nsh, hn6, c]
      · rw [if_neg c, lt_v, fPacker_sidesShut_57, lt_v, q2]
        refine ih (i + 1) n (x + 1) (by omega) (by omega) ?_
        rw [hx, cnt_s, nI_1]
        simp [nsh, hn6, c]
theorem shut_c {σ : Sg} {w y z p : Nat} (hd : dimOk w y z) (hp : p < w * y * z) (hk : PK σ w y z) : fPacker_sidesShut σ (nI p) = some (nI (shN w y z (σ 10 1) p)) := shut_loop hd hp hk 6 0 FU 0 (by omega) (by unfold FU; omega) rfl
theorem bears_pk {σ : Sg} {w y z p : Nat} (hd : dimOk w y z) (hp : p < w * y * z) (hk : PK σ w y z) : fPacker_bears σ (nI p) = some (if w * y ≤ p ∧ σ 10 1 (p - w * y) = 0 then 0 else 1) := by
  have hsz := hd.s
  obtain ⟨k0, k1, k2, k3⟩ := hk
  rw [fPacker_bears, fPacker_bears_0, k0, k1, pk_mul, lt_v]
  by_cases c : w * y ≤ p
  · have e1 : nI p - nI (w * y) = nI (p - w * y) := pk_sub c
    have e2 : ¬ nI (p - w * y) < 0 := nI_nlt (b := 0) (by omega) (by omega)
    rw [e1, if_neg e2, ib_nI (show p - w * y < 180 by omega) (by decide), gd_t, nI_clamp (by omega)]
    by_cases d : σ 10 1 (p - w * y) = 0
    · rw [if_pos d, if_pos ⟨c, d⟩]
    · rw [if_neg d, if_neg (fun q => d q.2)]; rfl
  · have e2 : nI p - nI (w * y) < 0 := by
      rw [Int32.lt_iff_toInt_lt, pk_sub_toInt (by omega) (by omega)]
      show _ < (0 : Int)
      omega
    rw [if_pos e2, if_neg (fun q => c q.1)]; rfl
/-- the reference's shut -/
theorem shut_m {τ : Sg} {v : Vw} (h : okStore v) (hm : Rm 0 v (τ 7)) {r p : Nat} (hr : r < vn v) (hp : p < vs v r) : fM_shut τ (nI r) (nI p) = some (nI (shN (vw v r) (vy v r) (vz v r) (τ 7 52) p)) := by
  have hk := okS h hr
  have hb := ib48 h hr
  have hc := cl8 h hr
  obtain ⟨m1, m2, m3, m4, -⟩ := hm.2.2.1 r hr
  simp only [Nat.mul_zero, Nat.zero_add] at m1 m2 m3 m4
  obtain ⟨-, ⟨w1, w2, ew⟩, ⟨y1, y2, ey⟩, ⟨z1, z2, ez⟩, -⟩ := hk
  rw [ew] at m2; rw [ey] at m3; rw [ez] at m4
  have hp : p < vw v r * vy v r * vz v r := hp
  generalize vw v r = w at *
  generalize vy v r = y at *
  generalize vz v r = z at *
  have hd : dimOk w y z := ⟨⟨w1, w2⟩, ⟨y1, y2⟩, z1, z2⟩
  have hsz := hd.s
  have hnl : ∀ s q, nb6 w y z p s = some q → q < w * y * z := fun s q hq => nb6_lt w1 y1 hp hq
  have hdl : p / w ≤ p := Nat.div_le_self _ _
  have e1 : nI p / nI w = nI (p / w) := pk_div (by omega) w1 (by omega)
  have e2 : nI p - nI (p / w) * nI w = nI (p % w) := by rw [← e1]; exact pk_rem (by omega) w1 (by omega)
  have e3 : nI (p / w) - nI (p / w) / nI y * nI y = nI (p / w % y) := pk_rem (by omega) y1 (by omega)
  have e4 : nI w * nI y = nI (w * y) := pk_mul w y
  have hxw : p % w < w := Nat.mod_lt _ w1
  have hyy : p / w % y < y := Nat.mod_lt _ y1
  have hfl : fM_floor τ (nI r) = some (nI (w * y)) := by
    simp only [fM_floor, fM_floor_0, hb, hc, gd_t, m2, m3, e4]
  have hpl : fM_places τ (nI r) = some (nI (w * y * z)) := by
    simp only [fM_places, fM_places_0, hb, hc, gd_t, m2, m3, m4, pk_mul]
  have nw : nzi (nI w) = true := nzi_nI w1 (by omega)
  have ny : nzi (nI y) = true := nzi_nI y1 (by omega)
  have one : ∀ k : Nat, nI k + 1 = nI (k + 1) := fun k => nI_add k 1
  -- the six steps, from the last
  have s5 : ∀ k, k ≤ 100 → fM_shut_143 τ (nI r) (nI p) (nI (w * y)) (nI k) = some (nI (k + if nsh w y z (τ 7 52) p 5 then 1 else 0)) := by
    intro k hk
    rw [fM_shut_143, hpl, bp_s, nI_add]
    by_cases c : p + w * y < w * y * z
    · have e5 : nb6 w y z p 5 = some (p + w * y) := by show (if _ then _ else _) = _; rw [if_pos c]
      rw [if_neg (nI_ge c (by omega)), ib_nI (show p + w * y < 180 by omega) (by decide), gd_t, nI_clamp (by omega)]
      by_cases d : τ 7 52 (p + w * y) = 0
      · rw [if_pos d]; simp [nsh, e5, d]
      · rw [if_neg d, lt_v, one]; simp [nsh, e5, d]
    · have e5 : nb6 w y z p 5 = none := by show (if _ then _ else _) = _; rw [if_neg c]
      rw [if_pos (nI_le (by omega) (by omega))]; simp [nsh, e5]
  have s4 : ∀ k, k ≤ 100 → fM_shut_122 τ (nI r) (nI p) (nI (w * y)) (nI k) = fM_shut_143 τ (nI r) (nI p) (nI (w * y)) (nI (k + if nsh w y z (τ 7 52) p 4 then 1 else 0)) := by
    intro k hk
    rw [fM_shut_122]
    by_cases c : w * y ≤ p
    · have e5 : nb6 w y z p 4 = some (p - w * y) := by show (if _ then _ else _) = _; rw [if_pos c]
      rw [if_neg (nI_nlt c (by omega)), pk_sub c, ib_nI (show p - w * y < 180 by omega) (by decide), gd_t, nI_clamp (by omega)]
      by_cases d : τ 7 52 (p - w * y) = 0
      · rw [if_pos d]; simp [nsh, e5, d]
      · rw [if_neg d, lt_v, one]; simp [nsh, e5, d]
    · have e5 : nb6 w y z p 4 = none := by show (if _ then _ else _) = _; rw [if_neg c]
      rw [if_pos (nI_lt (by omega) (by omega))]; simp [nsh, e5]
  have s3 : ∀ k, k ≤ 100 → fM_shut_87 τ (nI r) (nI p) (nI w) (nI (w * y)) (nI k) = fM_shut_122 τ (nI r) (nI p) (nI (w * y)) (nI (k + if nsh w y z (τ 7 52) p 3 then 1 else 0)) := by
    intro k hk
    rw [fM_shut_87, nw, gd_t, hb, gd_t, hc, m3, ny, gd_t, gd_t, e1, e3]
    by_cases c : p / w % y + 1 < y
    · have e5 : nb6 w y z p 3 = some (p + w) := by show (if _ then _ else _) = _; rw [if_pos c]
      have := hnl 3 _ e5
      rw [if_neg (fun q => (le_m1 hyy (by omega)).mp q c), nI_add, ib_nI (show p + w < 180 by omega) (by decide), gd_t, nI_clamp (by omega)]
      by_cases d : τ 7 52 (p + w) = 0
      · rw [if_pos d]; simp [nsh, e5, d]
      · rw [if_neg d, lt_v, one]; simp [nsh, e5, d]
    · have e5 : nb6 w y z p 3 = none := by show (if _ then _ else _) = _; rw [if_neg c]
      rw [if_pos ((le_m1 hyy (by omega)).mpr c)]; simp [nsh, e5]
  have s2 : ∀ k, k ≤ 100 → fM_shut_60 τ (nI r) (nI p) (nI w) (nI (w * y)) (nI k) = fM_shut_87 τ (nI r) (nI p) (nI w) (nI (w * y)) (nI (k + if nsh w y z (τ 7 52) p 2 then 1 else 0)) := by
    intro k hk
    rw [fM_shut_60, nw, gd_t, hb, gd_t, hc, m3, ny, gd_t, e1, e3]
    by_cases c : 0 < p / w % y
    · have hp1 : w ≤ p := by
        rcases Nat.lt_or_ge p w with h | h
        · rw [Nat.div_eq_of_lt h] at c; simp at c
        · exact h
      have e5 : nb6 w y z p 2 = some (p - w) := by show (if _ then _ else _) = _; rw [if_pos c]
      rw [if_neg (nI_nle c (by omega)), pk_sub hp1, ib_nI (show p - w < 180 by omega) (by decide), gd_t, nI_clamp (by omega)]
      by_cases d : τ 7 52 (p - w) = 0
      · rw [if_pos d]; simp [nsh, e5, d]
      · rw [if_neg d, lt_v, one]; simp [nsh, e5, d]
    · have e5 : nb6 w y z p 2 = none := by show (if _ then _ else _) = _; rw [if_neg c]
      rw [if_pos (by rw [show p / w % y = 0 by omega]; decide)]; simp [nsh, e5]
  have s1 : ∀ k, k ≤ 100 → fM_shut_37 τ (nI r) (nI p) (nI w) (nI (w * y)) (nI k) = fM_shut_60 τ (nI r) (nI p) (nI w) (nI (w * y)) (nI (k + if nsh w y z (τ 7 52) p 1 then 1 else 0)) := by
    intro k hk
    rw [fM_shut_37, nw, gd_t, e1, e2]
    by_cases c : p % w + 1 < w
    · have e5 : nb6 w y z p 1 = some (p + 1) := by show (if _ then _ else _) = _; rw [if_pos c]
      have := hnl 1 _ e5
      rw [if_neg (fun q => (le_m1 hxw (by omega)).mp q c), one, ib_nI (show p + 1 < 180 by omega) (by decide), gd_t, nI_clamp (by omega)]
      by_cases d : τ 7 52 (p + 1) = 0
      · rw [if_pos d]; simp [nsh, e5, d]
      · rw [if_neg d, lt_v, one]; simp [nsh, e5, d]
    · have e5 : nb6 w y z p 1 = none := by show (if _ then _ else _) = _; rw [if_neg c]
      rw [if_pos ((le_m1 hxw (by omega)).mpr c)]; simp [nsh, e5]
  have s0 : fM_shut τ (nI r) (nI p) = fM_shut_37 τ (nI r) (nI p) (nI w) (nI (w * y)) (nI (0 + if nsh w y z (τ 7 52) p 0 then 1 else 0)) := by
    rw [fM_shut, fM_shut_0, hb, gd_t, hc, m2, lt_v, hfl, bp_s, nw, gd_t, e1, e2]
    by_cases c : 0 < p % w
    · have hp1 : 1 ≤ p := Nat.pos_of_ne_zero (fun h => by subst h; simp at c)
      have e5 : nb6 w y z p 0 = some (p - 1) := by show (if _ then _ else _) = _; rw [if_pos c]
      have e6 : nI p - 1 = nI (p - 1) := pk_sub (b := 1) hp1
      rw [if_neg (nI_nle c (by omega)), e6, ib_nI (show p - 1 < 180 by omega) (by decide), gd_t, nI_clamp (by omega)]
      by_cases d : τ 7 52 (p - 1) = 0
      · rw [if_pos d]; simp [nsh, e5, d]; rfl
      · rw [if_neg d, lt_v]; simp [nsh, e5, d]; rfl
    · have e5 : nb6 w y z p 0 = none := by show (if _ then _ else _) = _; rw [if_neg c]
      rw [if_pos (by rw [show p % w = 0 by omega]; decide)]; simp [nsh, e5]; rfl
  have le1 : ∀ b : Bool, (if b then 1 else 0) ≤ 1 := by intro b; cases b <;> decide
  have l0 := le1 (nsh w y z (τ 7 52) p 0)
  have l1 := le1 (nsh w y z (τ 7 52) p 1)
  have l2 := le1 (nsh w y z (τ 7 52) p 2)
  have l3 := le1 (nsh w y z (τ 7 52) p 3)
  have l4 := le1 (nsh w y z (τ 7 52) p 4)
  rw [s0, s1 _ (by omega), s2 _ (by omega), s3 _ (by omega), s4 _ (by omega), s5 _ (by omega)]
  rfl
