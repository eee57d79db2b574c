/-! a room opened -/
def clrF (f : Nat → Int32) (lo hi : Nat) : Nat → Int32 := fun j => if lo ≤ j ∧ j < hi then 0 else f j
theorem clrF_nil (f : Nat → Int32) (lo : Nat) : clrF f lo lo = f := by
  funext j
  unfold clrF
  rw [if_neg (by omega)]
theorem clrF_step (f : Nat → Int32) {lo hi : Nat} (h : lo < hi) : clrF (upd f lo 0) (lo + 1) hi = clrF f lo hi := by
  funext j
  unfold clrF
  rw [upd_r]
  by_cases c : j = lo
  · rw [if_pos c, ite_self, if_pos (by omega)]
  · rw [if_neg c]
    by_cases c2 : lo ≤ j ∧ j < hi
    · rw [if_pos c2, if_pos (by omega)]
    · rw [if_neg c2, if_neg (by omega)]
theorem upA_upA (σ : Sg) (a k : Nat) (f g : Nat → Int32) : upA (upA σ a k f) a k g = upA σ a k g := by
  funext s j
  simp only [upA_r]
  split <;> rfl
theorem open_loop {a r : Nat} (hr : r < 8) : ∀ m i n (σ : Sg), i + m = 180 → m < n → fRooms_open_128 n σ a (nI r) (nI i) = some (nI r, upA σ a 14 (clrF (σ a 14) (180 * r + i) (180 * r + 180))) := by
  intro m
  induction m with
  | zero =>
    intro i n σ hi hn
    obtain ⟨n, rfl⟩ : ∃ k, n = k + 1 := ⟨n - 1, by omega⟩
    have e : i = 180 := by omega
    subst e
    have q : (180 : Int32) ≤ nI 180 := by decide
    simp only [fRooms_open_128, fRooms_open_128_b, q, ↓reduceIte, clrF_nil, upA_id]
  | succ m ih =>
    intro i n σ hi hn
    obtain ⟨n, rfl⟩ : ∃ k, n = k + 1 := ⟨n - 1, by omega⟩
    have q : ¬ (180 : Int32) ≤ nI i := nI_ge (b := 180) (by omega) (by decide)
    have x1 : nI r * 180 + nI i = nI (180 * r + i) := by show nI r * nI 180 + nI i = _; rw [pk_mul, nI_add, Nat.mul_comm]
    have hib : ib (nI (180 * r + i)) 1440 = true := ib_nI (by omega) (by decide)
    have hcl : (nI (180 * r + i)).toNatClampNeg = 180 * r + i := nI_clamp (by omega)
    simp only [fRooms_open_128, fRooms_open_128_b, q, x1, hib, hcl, gd_t, lt_v, nI_1, ↓reduceIte]
    rw [ih (i + 1) n _ (by omega) (by omega), upA_upA, upA_a, if_pos rfl, ← Nat.add_assoc, clrF_step _ (by omega)]
theorem mroom18_loop {r : Nat} (hr : r < 8) : ∀ m i n (σ : Sg), i + m = 180 → m < n → fM_room_185 n σ (nI r) (nI i) = some (nI r, stM (upA (upA σ 7 18 (clrF (σ 7 18) (180 * r + i) (180 * r + 180))) 7 7 (upd (σ 7 7) 0 (σ 7 7 0 + 1))) (nI r)) := by
  have i6 : ib 0 6 = true := by decide
  have c0 : (0 : Int32).toNatClampNeg = 0 := by decide
  intro m
  induction m with
  | zero =>
    intro i n σ hi hn
    obtain ⟨n, rfl⟩ : ∃ k, n = k + 1 := ⟨n - 1, by omega⟩
    have e : i = 180 := by omega
    subst e
    have q : (180 : Int32) ≤ nI 180 := by decide
    simp only [fM_room_185, fM_room_185_b, q, ↓reduceIte, clrF_nil, upA_id, i6, c0, gd_t, lt_v, fM_ends_eq, bi_s]
  | succ m ih =>
    intro i n σ hi hn
    obtain ⟨n, rfl⟩ : ∃ k, n = k + 1 := ⟨n - 1, by omega⟩
    have q : ¬ (180 : Int32) ≤ nI i := nI_ge (b := 180) (by omega) (by decide)
    have x1 : 180 * nI r + nI i = nI (180 * r + i) := by show nI 180 * nI r + nI i = _; rw [pk_mul, nI_add]
    have hib : ib (nI (180 * r + i)) 8640 = true := ib_nI (by omega) (by decide)
    have hcl : (nI (180 * r + i)).toNatClampNeg = 180 * r + i := nI_clamp (by omega)
    simp only [fM_room_185, fM_room_185_b, q, x1, hib, hcl, gd_t, lt_v, nI_1, ↓reduceIte]
    rw [ih (i + 1) n _ (by omega) (by omega), upA_upA, upA_a, if_pos rfl, ← Nat.add_assoc, clrF_step _ (by omega)]
    rfl
theorem mroom17_loop {r : Nat} (hr : r < 8) : ∀ m i n (σ : Sg), i + m = 30 → m < n → fM_room_155 n σ (nI r) (nI i) = fM_room_185 FU (upA σ 7 17 (clrF (σ 7 17) (30 * r + i) (30 * r + 30))) (nI r) 0 := by
  intro m
  induction m with
  | zero =>
    intro i n σ hi hn
    obtain ⟨n, rfl⟩ : ∃ k, n = k + 1 := ⟨n - 1, by omega⟩
    have e : i = 30 := by omega
    subst e
    have q : (30 : Int32) ≤ nI 30 := by decide
    simp only [fM_room_155, fM_room_155_b, q, ↓reduceIte, clrF_nil, upA_id]
  | succ m ih =>
    intro i n σ hi hn
    obtain ⟨n, rfl⟩ : ∃ k, n = k + 1 := ⟨n - 1, by omega⟩
    have q : ¬ (30 : Int32) ≤ nI i := nI_ge (b := 30) (by omega) (by decide)
    have x1 : 30 * nI r + nI i = nI (30 * r + i) := by show nI 30 * nI r + nI i = _; rw [pk_mul, nI_add]
    have hib : ib (nI (30 * r + i)) 1440 = true := ib_nI (by omega) (by decide)
    have hcl : (nI (30 * r + i)).toNatClampNeg = 30 * r + i := nI_clamp (by omega)
    simp only [fM_room_155, fM_room_155_b, q, x1, hib, hcl, gd_t, lt_v, nI_1, nar0, ↓reduceIte]
    rw [ih (i + 1) n _ (by omega) (by omega), upA_upA, upA_a, if_pos rfl, ← Nat.add_assoc, clrF_step _ (by omega)]
/-- the class's store with one room more -/
def roomS (σ : Sg) (k w y z q : Int32) (r : Nat) : Sg := upA (upA (upA (upA (upA (upA (upA (upA (upA (upA (upA (upA (upA (upA σ 0 2 (upd (σ 0 2) r k)) 0 3 (upd (σ 0 3) r w)) 0 4 (upd (σ 0 4) r y)) 0 5 (upd (σ 0 5) r z)) 0 6 (upd (σ 0 6) r q)) 0 7 (upd (σ 0 7) r (w * y))) 0 8 (upd (σ 0 8) r (w * y * z))) 0 9 (upd (σ 0 9) r 0)) 0 10 (upd (σ 0 10) r 0)) 0 11 (upd (σ 0 11) r 0)) 0 12 (upd (σ 0 12) r 0)) 0 13 (upd (σ 0 13) r 0)) 0 1 (upd (σ 0 1) 0 (nI r + 1))) 0 14 (clrF (σ 0 14) (180 * r) (180 * r + 180))
theorem open_eq {σ : Sg} {r : Nat} (hr : r < 8) (e : σ 0 1 0 = nI r) (k w y z q : Int32) : fRooms_open σ 0 k w y z q = some (nI r, roomS σ k w y z q r) := by
  have hib : ib (nI r) 8 = true := ib_nI (by omega) (by decide)
  have hcl : (nI r).toNatClampNeg = r := nI_clamp (by omega)
  have hu : ∀ (f : Nat → Int32) (x : Int32), upd f r x r = x := fun f x => by rw [upd_r, if_pos rfl]
  have hl := fun (τ : Sg) => open_loop (a := 0) hr 180 0 FU τ (by omega) (by unfold FU; omega)
  have hl' : ∀ τ : Sg, fRooms_open_128 FU τ 0 (nI r) 0 = some (nI r, upA τ 0 14 (clrF (τ 0 14) (180 * r) (180 * r + 180))) := fun τ => hl τ
  simp only [fRooms_open, fRooms_open_0, lt_v, e, hib, hcl, gd_t, upA_r, Nat.reduceEqDiff, and_false, and_self, and_true, true_and, hu, hl', roomS, ↓reduceIte]
def roomM (σ : Sg) (k w y z q : Int32) (r : Nat) : Sg := upA (upA (upA (upA (upA (upA (upA (upA (upA (upA σ 7 10 (upd (σ 7 10) r k)) 7 11 (upd (σ 7 11) r w)) 7 12 (upd (σ 7 12) r y)) 7 13 (upd (σ 7 13) r z)) 7 14 (upd (σ 7 14) r q)) 7 15 (upd (σ 7 15) r 0)) 7 16 (upd (σ 7 16) r 0)) 7 17 (clrF (σ 7 17) (30 * r) (30 * r + 30))) 7 18 (clrF (σ 7 18) (180 * r) (180 * r + 180))) 7 7 (upd (σ 7 7) 0 (nI r + 1))
theorem mroom_eq {σ : Sg} {r : Nat} (hr : r < 8) (e : σ 7 7 0 = nI r) (k w y z q : Int32) : fM_room_68 σ k w y z q = some (nI r, stM (roomM σ k w y z q r) (nI r)) := by
  have hib : ib (nI r) 48 = true := ib_nI (by omega) (by decide)
  have hcl : (nI r).toNatClampNeg = r := nI_clamp (by omega)
  have i6 : ib 0 6 = true := by decide
  have c0 : (0 : Int32).toNatClampNeg = 0 := by decide
  have q8 : ¬ nI r = 8 := fun q => by have := (nI_eq (a := r) (b := 8) (by omega) (by decide)).mp q; omega
  have hl : ∀ τ : Sg, fM_room_155 FU τ (nI r) 0 = some (nI r, stM (upA (upA (upA τ 7 17 (clrF (τ 7 17) (30 * r) (30 * r + 30))) 7 18 (clrF (τ 7 18) (180 * r) (180 * r + 180))) 7 7 (upd (τ 7 7) 0 (τ 7 7 0 + 1))) (nI r)) := by
    intro τ
    have h1 : fM_room_155 FU τ (nI r) 0 = _ := mroom17_loop hr 30 0 FU τ (by omega) (by unfold FU; omega)
    rw [h1]
    have h2 : fM_room_185 FU (upA τ 7 17 (clrF (τ 7 17) (30 * r + 0) (30 * r + 30))) (nI r) 0 = _ := mroom18_loop hr 180 0 FU _ (by omega) (by unfold FU; omega)
    rw [h2]
    rfl
  simp only [fM_room_68, lt_v, i6, c0, e, q8, hib, hcl, gd_t, upA_r, Nat.reduceEqDiff, and_false, and_self, and_true, true_and, hl, roomM, ↓reduceIte]
