/-! STAGE B: pure. The invariant between the class's store and the reference's -/
/-- a store of the class (kinds, sizes, blocks ..) as its instance holds it: v cell place -/
abbrev Vw : Type := Nat → Nat → Int32
def IvTerm (i : Nat → Int32) (m : Nat → Int32) : Prop := ∃ p w l : Nat, p ≤ 100 ∧ w ≤ 10000 ∧ 1 ≤ l ∧ l ≤ 1000000 ∧ i 0 = nI p ∧ m 3 = nI p ∧ i 1 = nI w ∧ m 4 = nI w ∧ i 2 = nI l ∧ m 5 = nI l
def IvPrice (i m : Nat → Int32) : Prop := ∀ k, k < 3 → ∃ c : Nat, c ≤ 5000 ∧ i k = nI c ∧ m k = nI c
def IvWay (j jk jd : Nat → Int32) (m mk md : Nat → Int32) : Prop := ∃ n : Nat, n ≤ 6 ∧ j 0 = nI n ∧ m 34 = nI n ∧ ∀ i, i < n → jk i = mk i ∧ jd i = md i ∧ (jk i = 3 ∨ jk i = 4) ∧ ∃ d : Nat, d ≤ 20 ∧ jd i = nI d
def IvHeap (h hk hg : Nat → Int32) (m mk mg : Nat → Int32) : Prop := ∃ n : Nat, n ≤ 30 ∧ h 0 = nI n ∧ m 51 = nI n ∧ ∀ i, i < n → hk i = mk i ∧ hg i = mg i ∧ (∃ k : Nat, k ≤ 2 ∧ hk i = nI k) ∧ ∃ g : Nat, 1000 ≤ g ∧ g ≤ 1000000 ∧ hg i = nI g
def IvList (i t : Nat → Int32) (m mt : Nat → Int32) : Prop := ∃ n : Nat, n ≤ 180 ∧ i 10 = nI n ∧ m 36 = nI n ∧ ∀ j, j < n → t j = mt j
def IvSent (i m : Nat → Int32) : Prop := i 11 = m 37 ∧ i 12 = m 38 ∧ i 13 = m 39
/-- a float -60 .. 60, or no matter: what the day's warmth holds -/
def okF (b : UInt32) : Prop := (b &&& 0x7fffffff).toNat ≤ 0x42700000
def tenF (b : UInt32) : Int32 := FP.f2i (FP.fmul b 1092616192)
def tenD (rd out : Nat → Int32) : Nat → Int32
  | 0 => if rd 0 = 0 then 0 else tenF (out 0).toUInt32
  | d + 1 => if rd (d + 1) = 0 then tenD rd out d else tenF (out (d + 1)).toUInt32
def IvCal (rd tn : Nat → Int32) (mr mo : Nat → Int32) : Prop := ∀ d, d < 200 → rd d = mr d ∧ (mr d = 0 ∨ mr d = 1) ∧ okF (mo d).toUInt32 ∧ tn d = tenD mr mo d
def IvBook (lv8 : Bool) (b ba bb : Nat → Int32) (m mb mw : Nat → Int32) : Prop := (lv8 = false → m 26 = 0 ∧ m 27 = 0) ∧ (lv8 = true → ∃ n : Nat, n ≤ 300 ∧ b 0 = nI n ∧ m 27 = nI n ∧ b 1 = m 26 ∧ (m 26 = 0 ∨ m 26 = 1) ∧ ∀ j, j < 6 * n → bb j = mb j ∧ ba j = mw j)
def sumF (f : Nat → Int32) : Nat → Int32
  | 0 => 0
  | n + 1 => sumF f n + f n
def IvFore (lv9 : Bool) (f fg : Nat → Int32) (m mg : Nat → Int32) : Prop := (lv9 = false → m 47 = 0) ∧ (lv9 = true → m 47 = 1 ∧ ∃ d r : Nat, d ≤ 199 ∧ r ≤ 8 ∧ f 0 = nI d ∧ m 44 = nI d ∧ f 2 = nI r ∧ m 45 = nI r ∧ f 1 = m 46 ∧ ∀ i, i ≤ d → fg (9 * i) = sumF (fun q => mg (8 * i + q)) r ∧ ∀ q, q < r → fg (9 * i + 1 + q) = mg (8 * i + q))
/-! a store -/
def vn (v : Vw) : Nat := (v 1 0).toNatClampNeg
def vb (v : Vw) : Nat := (v 15 0).toNatClampNeg
def vw (v : Vw) (r : Nat) : Nat := (v 3 r).toNatClampNeg
def vy (v : Vw) (r : Nat) : Nat := (v 4 r).toNatClampNeg
def vz (v : Vw) (r : Nat) : Nat := (v 5 r).toNatClampNeg
def vf (v : Vw) (r : Nat) : Nat := vw v r * vy v r
def vs (v : Vw) (r : Nat) : Nat := vw v r * vy v r * vz v r
def vc (v : Vw) (r p : Nat) : Int32 := v 14 (180 * r + p)
/-- a room's numbers -/
def okRoom (v : Vw) (r : Nat) : Prop := (∃ k : Nat, k ≤ 5 ∧ v 2 r = nI k) ∧ (1 ≤ vw v r ∧ vw v r ≤ 6 ∧ v 3 r = nI (vw v r)) ∧ (1 ≤ vy v r ∧ vy v r ≤ 6 ∧ v 4 r = nI (vy v r)) ∧ (1 ≤ vz v r ∧ vz v r ≤ 5 ∧ v 5 r = nI (vz v r)) ∧ (v 2 r = 2 → ∃ q : Nat, q < r ∧ v 6 r = nI q) ∧ (v 2 r ≠ 2 → v 6 r = -1) ∧ v 7 r = nI (vf v r) ∧ v 8 r = nI (vs v r) ∧ (∃ m : Nat, m < 2 ^ (vy v r * vz v r) ∧ v 13 r = nI m)
/-- a block's numbers -/
def okBlock (v : Vw) (b : Nat) : Prop := ((∃ k : Nat, k ≤ 2 ∧ v 16 b = nI k) ∧ (v 21 b = -1 ∨ v 16 b = 1)) ∧ (∃ g : Nat, g ≤ 1000000 ∧ v 17 b = nI g) ∧ ((v 18 b = -1 ∧ v 19 b = -1) ∨ ∃ r p : Nat, r < vn v ∧ p < vs v r ∧ v 18 b = nI r ∧ v 19 b = nI p ∧ vc v r p = nI (10 + b))
def cntF (p : Nat → Bool) : Nat → Nat
  | 0 => 0
  | n + 1 => cntF p n + (if p n then 1 else 0)
def okCell (v : Vw) (r p : Nat) : Prop := vc v r p = 0 ∨ vc v r p = 1 ∨ vc v r p = 2 ∨ ∃ b : Nat, b < vb v ∧ vc v r p = nI (10 + b) ∧ v 18 b = nI r ∧ v 19 b = nI p
def okStore (v : Vw) : Prop := (vn v ≤ 8 ∧ v 1 0 = nI (vn v)) ∧ (vb v ≤ 300 ∧ v 15 0 = nI (vb v)) ∧ (∃ t : Nat, t ≤ 199 ∧ v 0 0 = nI t) ∧ (∀ r, r < vn v → okRoom v r) ∧ (∀ r, r < vn v → ∀ p, p < vs v r → okCell v r p) ∧ (∀ b, b < vb v → okBlock v b) ∧ (∀ r, r < vn v → v 11 r = nI (cntF (fun b => decide (v 18 b = nI r ∧ v 16 b = 2)) (vb v))) ∧ ∀ r, r < vn v → v 12 r = nI (cntF (fun p => decide (vc v r p = 2)) (vf v r))
/-- the reference's slot w holds the store v -/
def Rm (w : Nat) (v : Vw) (m : Vw) : Prop := (m 6 w = v 0 0 ∧ m 7 w = v 1 0 ∧ m 8 w = v 15 0) ∧ (m 9 (6 * w) = v 0 1 ∧ m 9 (6 * w + 1) = v 0 2 ∧ m 9 (6 * w + 2) = v 0 3 ∧ m 9 (6 * w + 3) = v 0 4) ∧ (∀ r, r < vn v → m 10 (8 * w + r) = v 2 r ∧ m 11 (8 * w + r) = v 3 r ∧ m 12 (8 * w + r) = v 4 r ∧ m 13 (8 * w + r) = v 5 r ∧ m 14 (8 * w + r) = v 6 r ∧ m 15 (8 * w + r) = v 9 r ∧ m 16 (8 * w + r) = v 10 r) ∧ (∀ r, r < vn v → ∀ j, j < vy v r * vz v r → m 17 (240 * w + 30 * r + j) = if (v 13 r).toNatClampNeg.testBit j then 1 else 0) ∧ (∀ r, r < vn v → ∀ p, p < vs v r → m 18 (1440 * w + 180 * r + p) = vc v r p) ∧ ∀ b, b < vb v → m 19 (300 * w + b) = v 16 b ∧ m 20 (300 * w + b) = v 17 b ∧ m 21 (300 * w + b) = v 18 b ∧ m 22 (300 * w + b) = v 19 b ∧ m 23 (300 * w + b) = v 20 b ∧ m 24 (300 * w + b) = v 21 b
def IvSt (v : Vw) (m : Vw) : Prop := okStore v ∧ Rm 0 v m
def IvI1 (b : Bool) (k : Nat) (v : Vw) (m : Vw) : Prop := (b = false → m 25 k = 0) ∧ (b = true → m 25 k = 1 ∧ okStore v ∧ Rm (1 + k) v m)
def Inv (lv : Nat → Bool) (σ : Sg) : Prop := (σ 6 0 14 = σ 7 0 0 ∧ IvTerm (σ 6 2) (σ 7 0) ∧ IvPrice (σ 6 5) (σ 7 40) ∧ IvWay (σ 6 3) (σ 6 14) (σ 6 15) (σ 7 0) (σ 7 32) (σ 7 33) ∧ IvHeap (σ 6 4) (σ 6 16) (σ 6 17) (σ 7 0) (σ 7 49) (σ 7 50) ∧ IvList (σ 6 0) (σ 6 7) (σ 7 0) (σ 7 35) ∧ IvSent (σ 6 0) (σ 7 0) ∧ IvCal (σ 6 9) (σ 6 10) (σ 7 2) (σ 7 1)) ∧ IvBook (lv 8) (σ 8 0) (σ 8 1) (σ 8 2) (σ 7 0) (σ 7 28) (σ 7 29) ∧ IvFore (lv 9) (σ 9 0) (σ 9 1) (σ 7 0) (σ 7 48) ∧ IvSt (σ 0) (σ 7) ∧ IvI1 (lv 2) 0 (σ 2) (σ 7) ∧ IvI1 (lv 3) 1 (σ 3) (σ 7) ∧ IvI1 (lv 4) 2 (σ 4) (σ 7) ∧ IvI1 (lv 5) 3 (σ 5) (σ 7)
/-! answers: status on both sides -/
def stI (σ : Sg) (r : Int32) : Sg := upA σ 6 0 (upd (σ 6 0) 14 (if 0 ≤ r then 0 else r))
def stM (σ : Sg) (r : Int32) : Sg := upA σ 7 0 (upd (σ 7 0) 0 (if 0 ≤ r then 0 else r))
theorem fI_answer_eq (σ : Sg) (r : Int32) : fI_answer σ r = some (r, stI σ r) := by
  unfold fI_answer fI_answer_0 fI_answer_10 stI lt
  split <;> rfl
theorem fM_ends_eq (σ : Sg) (r : Int32) : fM_ends σ r = some (r, stM σ r) := by
  unfold fM_ends fM_ends_0 fM_ends_10 stM lt
  split <;> rfl
def wi (a lo hi : Int32) : Int32 := if a < lo then 0 else if hi < a then 0 else 1
theorem fI_within_eq (σ : Sg) (a lo hi : Int32) : fI_within σ a lo hi = some (wi a lo hi) := by
  unfold fI_within fI_within_0 wi
  split
  · rfl
  · split <;> rfl
theorem fM_in_eq (σ : Sg) (a lo hi : Int32) : fM_in σ a lo hi = some (wi a lo hi) := by
  unfold fM_in fM_in_0 wi
  split
  · rfl
  · split <;> rfl
theorem bp_s {α β : Type} (a : α) (F : α → Option β) : bp (some a) F = F a := rfl
theorem bi_s {α β : Type} (a : α) (u : Sg) (F : α → Sg → Option β) : bi (some (a, u)) F = F a u := rfl
theorem lt_v {α β : Type} (a : α) (f : α → β) : lt a f = f a := rfl
theorem gd_t {β : Type} (o : Option β) : gd true o = o := rfl
theorem gd_of {β : Type} {b : Bool} (h : b = true) (o : Option β) : gd b o = o := by subst h; rfl
theorem wi0 {a lo hi : Int32} (h : ¬ wi a lo hi = 0) : lo ≤ a ∧ a ≤ hi := by
  unfold wi at h
  split at h
  · exact absurd rfl h
  · split at h
    · exact absurd rfl h
    · exact ⟨Int32.not_lt.mp ‹_›, Int32.not_lt.mp ‹_›⟩
/-- a number from nI lo to nI hi is one of them -/
theorem wiN {a : Int32} {lo hi : Nat} (hh : hi < 2 ^ 31) (h : ¬ wi a (nI lo) (nI hi) = 0) (hl : lo < 2 ^ 31) : ∃ n : Nat, lo ≤ n ∧ n ≤ hi ∧ a = nI n := by
  obtain ⟨h1, h2⟩ := wi0 h
  have e1 : (lo : Int) ≤ a.toInt := by have := Int32.le_iff_toInt_le.mp h1; rwa [nI_toInt hl] at this
  have e2 : a.toInt ≤ (hi : Int) := by have := Int32.le_iff_toInt_le.mp h2; rwa [nI_toInt hh] at this
  refine ⟨a.toInt.toNat, by omega, by omega, ?_⟩
  apply Int32.toInt_inj.mp
  rw [nI_toInt (by omega)]
  omega
theorem ib_nI {i n : Nat} (h : i < n) (hn : n < 2 ^ 31) : ib (nI i) n = true := decide_eq_true (by rw [nI_toInt (by omega)]; omega)
theorem stI_6 (σ : Sg) (r : Int32) : stI σ r 6 0 14 = if 0 ≤ r then 0 else r := rfl
/-- the status settled on both sides keeps all else -/
theorem Inv.st {lv : Nat → Bool} {σ : Sg} (h : Inv lv σ) (r : Int32) : Inv lv (stM (stI σ r) r) := by
  obtain ⟨⟨h1, h2, h3, h4, h5, h6, h7, h8⟩, h9, h10, h11, h12⟩ := h
  exact ⟨⟨rfl, h2, h3, h4, h5, h6, h7, h8⟩, h9, h10, h11, h12⟩
theorem upA_r (σ : Sg) (s k : Nat) (f : Nat → Int32) (s' k' : Nat) : upA σ s k f s' k' = if s' = s ∧ k' = k then f else σ s' k' := rfl
theorem upd_r (f : Nat → Int32) (k : Nat) (v : Int32) (j : Nat) : upd f k v j = if j = k then v else f j := rfl
theorem opII {lv : Nat → Bool} {A : Option (Int32 × Sg)} {B : Sg → Option (Int32 × Sg)} {r : Int32} {s1 s2 : Sg} (h1 : A = some (r, s1)) (h2 : B s1 = some (r, s2)) (h3 : Inv lv s2) : ∃ r σ1, A = some (r, σ1) ∧ ∃ σ2, B σ1 = some (r, σ2) ∧ Inv lv σ2 := ⟨r, s1, h1, s2, h2, h3⟩
theorem opPP {lv : Nat → Bool} {A : Option Int32} {B : Option Int32} {σ : Sg} {r : Int32} (h1 : A = some r) (h2 : B = some r) (h3 : Inv lv σ) : ∃ r, A = some r ∧ B = some r ∧ Inv lv σ := ⟨r, h1, h2, h3⟩
theorem nI_inj0 {n : Nat} (h : n < 2 ^ 31) : nI n = 0 ↔ n = 0 := nI_eq (b := 0) h (by decide)
/-- an index into n things, looked at by 'within 0 .. n - 1' -/
theorem wiIx {a : Int32} {n : Nat} (hn : n < 2 ^ 31) (h : ¬ wi a 0 (nI n - 1) = 0) : ∃ j : Nat, j < n ∧ a = nI j := by
  cases n with
  | zero =>
    have hc := wi0 h
    exact absurd (Int32.le_trans hc.1 hc.2) (by decide)
  | succ n =>
    rw [nI_pred] at h
    obtain ⟨j, -, hj, rfl⟩ := wiN (lo := 0) (hi := n) (by omega) h (by decide)
    exact ⟨j, by omega, rfl⟩
theorem opNo {lv : Nat → Bool} {σ : Sg} {A : Option (Int32 × Sg)} {B : Sg → Option (Int32 × Sg)} (hI : Inv lv σ) (r : Int32) (h1 : A = some (r, stI σ r)) (h2 : B (stI σ r) = some (r, stM (stI σ r) r)) : ∃ r σ1, A = some (r, σ1) ∧ ∃ σ2, B σ1 = some (r, σ2) ∧ Inv lv σ2 := ⟨r, _, h1, _, h2, hI.st r⟩
