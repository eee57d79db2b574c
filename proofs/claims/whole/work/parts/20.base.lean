/-! the abstract store: instance, cell, place -/
abbrev Sg : Type := Nat → Nat → Nat → Int32
def upA (σ : Sg) (s k : Nat) (f : Nat → Int32) : Sg := fun s' k' => if s' = s ∧ k' = k then f else σ s' k'
theorem upA_same (σ : Sg) (s k : Nat) (f : Nat → Int32) : upA σ s k f s k = f := if_pos ⟨rfl, rfl⟩
theorem upA_ne (σ : Sg) {s k s' k' : Nat} (f : Nat → Int32) (h : ¬ (s' = s ∧ k' = k)) : upA σ s k f s' k' = σ s' k' := if_neg h
def lt {α β : Type} (a : α) (f : α → β) : β := f a
def gd {β : Type} (b : Bool) (o : Option β) : Option β := match b with
  | true => o
  | false => none
theorem gd_e {β : Type} {b : Bool} {o : Option β} {r : β} (h : gd b o = some r) : b = true ∧ o = some r := by
  cases b
  · cases h
  · exact ⟨rfl, h⟩
def ib (i : Int32) (n : Nat) : Bool := decide (0 ≤ i.toInt ∧ i.toInt < n)
theorem ib_in {i : Int32} {n : Nat} (h : ib i n = true) : vp_in i n := vp_in_iff.mpr (of_decide_eq_true h)
def bp {α β : Type} (o : Option α) (F : α → Option β) : Option β := match o with
  | some r => F r
  | none => none
theorem bp_e {α β : Type} {o : Option α} {F : α → Option β} {r : β} (h : bp o F = some r) : ∃ q, o = some q ∧ F q = some r := by
  cases o with
  | none => cases h
  | some q => exact ⟨q, rfl, h⟩
def bi {α β : Type} (o : Option (α × Sg)) (F : α → Sg → Option β) : Option β := match o with
  | some (r, u) => F r u
  | none => none
theorem bi_e {α β : Type} {o : Option (α × Sg)} {F : α → Sg → Option β} {r : β} (h : bi o F = some r) : ∃ q u, o = some (q, u) ∧ F q u = some r := by
  cases o with
  | none => cases h
  | some q => exact ⟨q.1, q.2, rfl, h⟩
def isb (v : Int32) : Bool := v == 0 || v == 1
theorem isb_n {v : Int32} (h : isb v = true) : narrow .boolean (.int v) = .int v := by
  unfold isb at h
  rcases Bool.or_eq_true_iff.mp h with h | h
  · rw [eq_of_beq h]; rfl
  · rw [eq_of_beq h]; rfl
theorem isb_f {v : Int32} (h : isb v = true) : fits .boolean (.int v) = true := by
  unfold isb at h
  rcases Bool.or_eq_true_iff.mp h with h | h
  · rw [eq_of_beq h]; rfl
  · rw [eq_of_beq h]; rfl
def nn32 (r : UInt32) : Bool := decide (r &&& 0x7fffffff ≤ 0x7f800000)
theorem nn32_n {r : UInt32} (h : nn32 r = true) : vf_n32 r := by
  unfold nn32 at h
  exact (of_decide_eq_true h : r &&& 0x7fffffff ≤ 0x7f800000)
def nzi (y : Int32) : Bool := !(y == 0)
theorem nzi_n {y : Int32} (h : nzi y = true) : ¬ y = 0 := fun e => by subst e; cases h
def nzl (y : Int64) : Bool := !(y == 0)
theorem nzl_n {y : Int64} (h : nzl y = true) : ¬ y = 0 := fun e => by subst e; cases h
def FU : Nat := 1000000
/-! words -/
def lwg : List Cond := lw_tbl.filter goodWord
theorem mg {w : Cond} (i : Nat) (h : lw_tbl[i]? = some w) (hg : goodWord w = true) : w ∈ lwg := List.mem_filter.mpr ⟨List.mem_of_getElem? h, hg⟩
theorem lwg_tbl {w : Cond} (h : w ∈ lwg) : w ∈ lw_tbl := (List.mem_filter.mp h).1
theorem lwg_good {w : Cond} (h : w ∈ lwg) : goodWord w = true := (List.mem_filter.mp h).2
theorem good_ww {w : Cond} (h : w ∈ lwg) : GoodIn lwg (w :: lwg) := by
  intro v hv
  rcases List.mem_cons.mp hv with e | e
  · rw [e]; exact ⟨h, good_of_word (lwg_good h)⟩
  · exact ⟨e, good_of_word (lwg_good e)⟩
abbrev Wx : Type := va_G × ClassId × ClassId × ClassId × ClassId × Nat
abbrev Ab (x : Wx) : Nat → Prop := fun q => x.2.2.2.2.2 ≤ q
abbrev tysOf (x : Wx) : List (ClassId × FieldType) := [(x.2.1, .int), (x.2.2.1, .boolean), (x.2.2.2.1, .float), (x.2.2.2.2.1, .object "IceTrade$Store")]
def nrf (b : Bool) (a : Nat) : Value := match b with
  | true => .ref a
  | false => .null
def nro (b : Bool) (a : Nat) : Option Nat := match b with
  | true => some a
  | false => none
theorem va_rf_nro (b : Bool) (a : Nat) : va_rf (nro b a) = nrf b a := by cases b <;> rfl
abbrev nest : Type := String × Nat × MethodName × String
abbrev nestW (q : nest) : Cond := .methodLinkNest q.1 q.2.1 q.2.2.1 q.2.2.2
def rmm (d mc ms : Nat) : Room := { frames := d, cells := mc, slots := ms, locals := 100 * d }
