abbrev clsL : List vw_C := [(RX0, TX0, 7), (RX1, TX1, 4), (RX2, TX2, 2), (RX3, TX3, 4), (RX4, TX4, 3), (RX5, TX5, 3), (RX6, TX6, 6), (RX7, TX7, 7), (RX8, TX8, 14), (RX9, TX9, 3), (RX10, TX10, 7), (RX11, TX11, 19), (RX12, TX12, 53)]
def entS (x : Wx) (al : Nat → Nat → Nat) (lv : Nat → Bool) (a : Nat) (k : Nat) (d : Nat → Int32) : va_E := match k with
  | 0 => .inr (10, [.int (d 0), .int (d 1), .int (d 2), .int (d 3), .int (d 4), .ref (al a 1), .ref (al a 15)])
  | 1 => .inr (8, [.int (d 0), .ref (al a 2), .ref (al a 3), .ref (al a 4), .ref (al a 5), .ref (al a 6), .ref (al a 7), .ref (al a 8), .ref (al a 9), .ref (al a 10), .ref (al a 11), .ref (al a 12), .ref (al a 13), .ref (al a 14)])
  | 2 => .inl (x.2.1, 8, .inl d)
  | 3 => .inl (x.2.1, 8, .inl d)
  | 4 => .inl (x.2.1, 8, .inl d)
  | 5 => .inl (x.2.1, 8, .inl d)
  | 6 => .inl (x.2.1, 8, .inl d)
  | 7 => .inl (x.2.1, 8, .inl d)
  | 8 => .inl (x.2.1, 8, .inl d)
  | 9 => .inl (x.2.1, 8, .inl d)
  | 10 => .inl (x.2.1, 8, .inl d)
  | 11 => .inl (x.2.1, 8, .inl d)
  | 12 => .inl (x.2.1, 8, .inl d)
  | 13 => .inl (x.2.1, 8, .inl d)
  | 14 => .inl (x.2.1, 1440, .inl d)
  | 15 => .inr (0, [.int (d 0), .ref (al a 16), .ref (al a 17), .ref (al a 18), .ref (al a 19), .ref (al a 20), .ref (al a 21)])
  | 16 => .inl (x.2.1, 300, .inl d)
  | 17 => .inl (x.2.1, 300, .inl d)
  | 18 => .inl (x.2.1, 300, .inl d)
  | 19 => .inl (x.2.1, 300, .inl d)
  | 20 => .inl (x.2.1, 300, .inl d)
  | 21 => .inl (x.2.1, 300, .inl d)
  | _ => .inl (x.2.1, 0, .inl d)
def entI (x : Wx) (al : Nat → Nat → Nat) (lv : Nat → Bool) (k : Nat) (d : Nat → Int32) : va_E := match k with
  | 0 => .inr (11, [.ref (al 0 0), .ref (al 6 1), .ref (al 6 2), .ref (al 6 3), .ref (al 6 4), .ref (al 6 5), .ref (al 6 6), .ref (al 6 7), .ref (al 6 8), .int (d 9), .int (d 10), .int (d 11), .int (d 12), .int (d 13), .int (d 14), nrf (lv 1) (al 1 0), nrf (lv 9) (al 9 0), nrf (lv 8) (al 8 0), nrf (lv 10) (al 10 0)])
  | 1 => .inr (2, [.ref (al 6 9), .ref (al 6 10)])
  | 2 => .inr (6, [.int (d 0), .int (d 1), .int (d 2), .ref (al 6 11), .ref (al 6 12), .ref (al 6 13)])
  | 3 => .inr (5, [.int (d 0), .ref (al 6 14), .ref (al 6 15)])
  | 4 => .inr (4, [.int (d 0), .ref (al 6 16), .ref (al 6 17)])
  | 5 => .inl (x.2.1, 3, .inl d)
  | 6 => .inl (x.2.1, 180, .inl d)
  | 7 => .inl (x.2.1, 180, .inl d)
  | 8 => .inl (x.2.2.2.2.1, 4, .inr (.inr (.inr (.inr (fun j => nro (lv (2 + j)) (al (2 + j) 0))))))
  | 9 => .inl (x.2.2.1, 200, .inl d)
  | 10 => .inl (x.2.1, 200, .inl d)
  | 11 => .inr (9, [.int (d 0), .int (d 1), .int (d 2)])
  | 12 => .inl (x.2.1, 300, .inl d)
  | 13 => .inl (x.2.1, 8, .inl d)
  | 14 => .inl (x.2.1, 6, .inl d)
  | 15 => .inl (x.2.1, 6, .inl d)
  | 16 => .inl (x.2.1, 30, .inl d)
  | 17 => .inl (x.2.1, 30, .inl d)
  | _ => .inl (x.2.1, 0, .inl d)
def entM (x : Wx) (al : Nat → Nat → Nat) (lv : Nat → Bool) (k : Nat) (d : Nat → Int32) : va_E := match k with
  | 0 => .inr (12, [.int (d 0), .ref (al 7 1), .ref (al 7 2), .int (d 3), .int (d 4), .int (d 5), .ref (al 7 6), .ref (al 7 7), .ref (al 7 8), .ref (al 7 9), .ref (al 7 10), .ref (al 7 11), .ref (al 7 12), .ref (al 7 13), .ref (al 7 14), .ref (al 7 15), .ref (al 7 16), .ref (al 7 17), .ref (al 7 18), .ref (al 7 19), .ref (al 7 20), .ref (al 7 21), .ref (al 7 22), .ref (al 7 23), .ref (al 7 24), .ref (al 7 25), .int (d 26), .int (d 27), .ref (al 7 28), .ref (al 7 29), .ref (al 7 30), .ref (al 7 31), .ref (al 7 32), .ref (al 7 33), .int (d 34), .ref (al 7 35), .int (d 36), .int (d 37), .int (d 38), .int (d 39), .ref (al 7 40), .ref (al 7 41), .ref (al 7 42), .ref (al 7 43), .int (d 44), .int (d 45), .int (d 46), .int (d 47), .ref (al 7 48), .ref (al 7 49), .ref (al 7 50), .int (d 51), .ref (al 7 52)])
  | 1 => .inl (x.2.2.2.1, 200, .inr (.inr (.inl (fun j => (d j).toUInt32))))
  | 2 => .inl (x.2.2.1, 200, .inl d)
  | 3 => .inl (x.2.1, 0, .inl d)
  | 4 => .inl (x.2.1, 0, .inl d)
  | 5 => .inl (x.2.1, 0, .inl d)
  | 6 => .inl (x.2.1, 6, .inl d)
  | 7 => .inl (x.2.1, 6, .inl d)
  | 8 => .inl (x.2.1, 6, .inl d)
  | 9 => .inl (x.2.1, 36, .inl d)
  | 10 => .inl (x.2.1, 48, .inl d)
  | 11 => .inl (x.2.1, 48, .inl d)
  | 12 => .inl (x.2.1, 48, .inl d)
  | 13 => .inl (x.2.1, 48, .inl d)
  | 14 => .inl (x.2.1, 48, .inl d)
  | 15 => .inl (x.2.1, 48, .inl d)
  | 16 => .inl (x.2.1, 48, .inl d)
  | 17 => .inl (x.2.2.1, 1440, .inl d)
  | 18 => .inl (x.2.1, 8640, .inl d)
  | 19 => .inl (x.2.1, 1800, .inl d)
  | 20 => .inl (x.2.1, 1800, .inl d)
  | 21 => .inl (x.2.1, 1800, .inl d)
  | 22 => .inl (x.2.1, 1800, .inl d)
  | 23 => .inl (x.2.1, 1800, .inl d)
  | 24 => .inl (x.2.1, 1800, .inl d)
  | 25 => .inl (x.2.2.1, 4, .inl d)
  | 26 => .inl (x.2.1, 0, .inl d)
  | 27 => .inl (x.2.1, 0, .inl d)
  | 28 => .inl (x.2.1, 1800, .inl d)
  | 29 => .inl (x.2.1, 1800, .inl d)
  | 30 => .inl (x.2.1, 300, .inl d)
  | 31 => .inl (x.2.2.1, 300, .inl d)
  | 32 => .inl (x.2.1, 6, .inl d)
  | 33 => .inl (x.2.1, 6, .inl d)
  | 34 => .inl (x.2.1, 0, .inl d)
  | 35 => .inl (x.2.1, 300, .inl d)
  | 36 => .inl (x.2.1, 0, .inl d)
  | 37 => .inl (x.2.1, 0, .inl d)
  | 38 => .inl (x.2.1, 0, .inl d)
  | 39 => .inl (x.2.1, 0, .inl d)
  | 40 => .inl (x.2.1, 3, .inl d)
  | 41 => .inl (x.2.1, 300, .inl d)
  | 42 => .inl (x.2.1, 300, .inl d)
  | 43 => .inl (x.2.1, 300, .inl d)
  | 44 => .inl (x.2.1, 0, .inl d)
  | 45 => .inl (x.2.1, 0, .inl d)
  | 46 => .inl (x.2.1, 0, .inl d)
  | 47 => .inl (x.2.1, 0, .inl d)
  | 48 => .inl (x.2.1, 1600, .inl d)
  | 49 => .inl (x.2.1, 30, .inl d)
  | 50 => .inl (x.2.1, 30, .inl d)
  | 51 => .inl (x.2.1, 0, .inl d)
  | 52 => .inl (x.2.2.1, 180, .inl d)
  | _ => .inl (x.2.1, 0, .inl d)
def entB (x : Wx) (al : Nat → Nat → Nat) (lv : Nat → Bool) (k : Nat) (d : Nat → Int32) : va_E := match k with
  | 0 => .inr (1, [.int (d 0), .int (d 1), .ref (al 8 1), .ref (al 8 2)])
  | 1 => .inl (x.2.1, 1800, .inl d)
  | 2 => .inl (x.2.1, 1800, .inl d)
  | _ => .inl (x.2.1, 0, .inl d)
def entF (x : Wx) (al : Nat → Nat → Nat) (lv : Nat → Bool) (k : Nat) (d : Nat → Int32) : va_E := match k with
  | 0 => .inr (3, [.int (d 0), .int (d 1), .int (d 2), .ref (al 9 1)])
  | 1 => .inl (x.2.1, 1800, .inl d)
  | _ => .inl (x.2.1, 0, .inl d)
def entP (x : Wx) (al : Nat → Nat → Nat) (lv : Nat → Bool) (k : Nat) (d : Nat → Int32) : va_E := match k with
  | 0 => .inr (7, [.int (d 0), .int (d 1), .int (d 2), .int (d 3), .int (d 4), .ref (al 10 1), .ref (al 10 2)])
  | 1 => .inl (x.2.2.1, 180, .inl d)
  | 2 => .inl (x.2.2.1, 180, .inl d)
  | _ => .inl (x.2.1, 0, .inl d)
def ent (x : Wx) (al : Nat → Nat → Nat) (lv : Nat → Bool) (s k : Nat) (d : Nat → Int32) : va_E := if s < 6 then entS x al lv s k d else match s with
  | 6 => entI x al lv k d
  | 7 => entM x al lv k d
  | 8 => entB x al lv k d
  | 9 => entF x al lv k d
  | 10 => entP x al lv k d
  | _ => .inl (x.2.1, 0, .inl d)
def isC (s k : Nat) : Bool := if s < 6 then decide (k < 22) else match s with
  | 6 => decide (k < 18)
  | 7 => ([0, 1, 2, 6, 7, 8, 9, 10, 11, 12, 13, 14, 15, 16, 17, 18, 19, 20, 21, 22, 23, 24, 25, 28, 29, 30, 31, 32, 33, 35, 40, 41, 42, 43, 48, 49, 50, 52] : List Nat).contains k
  | 8 => decide (k < 3)
  | 9 => decide (k < 2)
  | 10 => decide (k < 3)
  | _ => false
theorem ent_S {x : Wx} {al : Nat → Nat → Nat} {lv : Nat → Bool} {a k : Nat} {d : Nat → Int32} (ha : a < 6) : ent x al lv a k d = entS x al lv a k d := if_pos ha
theorem isC_S {a k : Nat} (ha : a < 6) (hk : Nat.ble (k + 1) 22 = true) : isC a k = true := by unfold isC; rw [if_pos ha]; exact decide_eq_true (Nat.le_of_ble_eq_true hk)
def nests : List nest := [("IceTrade", 11, ⟨"IceTrade$Store", "<init>", "()V"⟩, "IceTrade"), ("IceTrade$Store", 11, ⟨"IceTrade$Rooms", "<init>", "()V"⟩, "IceTrade"), ("IceTrade$Store", 20, ⟨"IceTrade$Blocks", "<init>", "()V"⟩, "IceTrade"), ("IceTrade", 18, ⟨"IceTrade$Calendar", "<init>", "()V"⟩, "IceTrade"), ("IceTrade", 25, ⟨"IceTrade$Melting", "<init>", "()V"⟩, "IceTrade"), ("IceTrade$Melting", 23, ⟨"IceTrade$Sides", "<init>", "()V"⟩, "IceTrade"), ("IceTrade", 32, ⟨"IceTrade$Journey", "<init>", "()V"⟩, "IceTrade"), ("IceTrade", 39, ⟨"IceTrade$Heap", "<init>", "()V"⟩, "IceTrade"), ("IceTrade$Calendar", 19, ⟨"IceTrade", "within", "(III)Z"⟩, "IceTrade"), ("IceTrade$Sides", 40, ⟨"IceTrade", "beside", "(IIIII)I"⟩, "IceTrade"), ("IceTrade$Melting", 77, ⟨"IceTrade", "rateOf", "(I)I"⟩, "IceTrade"), ("IceTrade", 219, ⟨"IceTrade$Book", "<init>", "()V"⟩, "IceTrade"), ("IceTrade$Melting", 99, ⟨"IceTrade", "within", "(III)Z"⟩, "IceTrade"), ("IceTrade$Journey", 34, ⟨"IceTrade", "rateOf", "(I)I"⟩, "IceTrade"), ("IceTrade", 315, ⟨"IceTrade$Forecast", "<init>", "()V"⟩, "IceTrade"), ("IceTrade$Forecast", 50, ⟨"IceTrade", "within", "(III)Z"⟩, "IceTrade"), ("IceTrade", 353, ⟨"IceTrade$Packer", "<init>", "()V"⟩, "IceTrade"), ("IceTrade$Packer", 74, ⟨"IceTrade", "beside", "(IIIII)I"⟩, "IceTrade"), ("IceTrade$Packer", 18, ⟨"IceTrade", "within", "(III)Z"⟩, "IceTrade")]
def Kw (x : Wx) (U : State) : Prop := va_K x.1 clsL (tysOf x) U ∧ ∀ q ∈ nests, va_Nw (nestW q) U
def Pic (x : Wx) (al : Nat → Nat → Nat) (lv : Nat → Bool) (σ : Sg) (H : Heap) : Prop :=
  (∀ s k, lv s = true → isC s k = true → va_at x.1 clsL (al s k, ent x al lv s k (σ s k)) H) ∧
  (∀ s k s' k', lv s = true → isC s k = true → lv s' = true → isC s' k' = true → al s k = al s' k' → s' = s ∧ k' = k) ∧
  (∀ s k, lv s = true → isC s k = true → x.2.2.2.2.2 ≤ al s k) ∧ lv 0 = true ∧ lv 6 = true ∧ lv 7 = true
def Wd (x : Wx) (al : Nat → Nat → Nat) (lv : Nat → Bool) (σ : Sg) (U : State) : Prop := Kw x U ∧ Pic x al lv σ U.heap
theorem Pic.l0 {x : Wx} {al : Nat → Nat → Nat} {lv : Nat → Bool} {σ : Sg} {H : Heap} (h : Pic x al lv σ H) : lv 0 = true := h.2.2.2.1
theorem Pic.l6 {x : Wx} {al : Nat → Nat → Nat} {lv : Nat → Bool} {σ : Sg} {H : Heap} (h : Pic x al lv σ H) : lv 6 = true := h.2.2.2.2.1
theorem Pic.l7 {x : Wx} {al : Nat → Nat → Nat} {lv : Nat → Bool} {σ : Sg} {H : Heap} (h : Pic x al lv σ H) : lv 7 = true := h.2.2.2.2.2
theorem h06 : (0 : Nat) < 6 := by decide
theorem h16 : (1 : Nat) < 6 := by decide
def Cx (x : Wx) (p : Program) (s : State) (m : MethodId) (args : Array Value) (meth : Method) (c : Code) (cc : ByteArray) (nL : Nat) (rt : Option FieldType) (own : String) : Prop := CallFix p m c cc nL s args lwg own ∧ meth.sig.returnType = rt ∧ meth.locks = false ∧ Kw x s
theorem gX0 : ∀ w ∈ u_ws RX0 TX0 7, w ∈ lwg := by decide +kernel
theorem gX1 : ∀ w ∈ u_ws RX1 TX1 4, w ∈ lwg := by decide +kernel
theorem gX2 : ∀ w ∈ u_ws RX2 TX2 2, w ∈ lwg := by decide +kernel
theorem gX3 : ∀ w ∈ u_ws RX3 TX3 4, w ∈ lwg := by decide +kernel
theorem gX4 : ∀ w ∈ u_ws RX4 TX4 3, w ∈ lwg := by decide +kernel
theorem gX5 : ∀ w ∈ u_ws RX5 TX5 3, w ∈ lwg := by decide +kernel
theorem gX6 : ∀ w ∈ u_ws RX6 TX6 6, w ∈ lwg := by decide +kernel
theorem gX7 : ∀ w ∈ u_ws RX7 TX7 7, w ∈ lwg := by decide +kernel
theorem gX8 : ∀ w ∈ u_ws RX8 TX8 14, w ∈ lwg := by decide +kernel
theorem gX9 : ∀ w ∈ u_ws RX9 TX9 3, w ∈ lwg := by decide +kernel
theorem gX10 : ∀ w ∈ u_ws RX10 TX10 7, w ∈ lwg := by decide +kernel
theorem gX11 : ∀ w ∈ u_ws RX11 TX11 19, w ∈ lwg := by decide +kernel
theorem gX12 : ∀ w ∈ u_ws RX12 TX12 53, w ∈ lwg := by decide +kernel
def AI (x : Wx) (al : Nat → Nat → Nat) (lv : Nat → Bool) (s k n : Nat) : Prop := lv s = true ∧ isC s k = true ∧ ∀ d, ent x al lv s k d = .inl (x.2.1, n, .inl d)
def AZ (x : Wx) (al : Nat → Nat → Nat) (lv : Nat → Bool) (s k n : Nat) : Prop := lv s = true ∧ isC s k = true ∧ ∀ d, ent x al lv s k d = .inl (x.2.2.1, n, .inl d)
def AF (x : Wx) (al : Nat → Nat → Nat) (lv : Nat → Bool) (s k n : Nat) : Prop := lv s = true ∧ isC s k = true ∧ ∀ d, ent x al lv s k d = .inl (x.2.2.2.1, n, .inr (.inr (.inl (fun j => (d j).toUInt32))))
section AR
variable {x : Wx} {al : Nat → Nat → Nat} {lv : Nat → Bool}
theorem aS_2 {a : Nat} (ha : a < 6) (hv : lv a = true) : AI x al lv a 2 8 := ⟨hv, isC_S ha rfl, fun d => ent_S ha⟩
theorem aS_3 {a : Nat} (ha : a < 6) (hv : lv a = true) : AI x al lv a 3 8 := ⟨hv, isC_S ha rfl, fun d => ent_S ha⟩
theorem aS_4 {a : Nat} (ha : a < 6) (hv : lv a = true) : AI x al lv a 4 8 := ⟨hv, isC_S ha rfl, fun d => ent_S ha⟩
theorem aS_5 {a : Nat} (ha : a < 6) (hv : lv a = true) : AI x al lv a 5 8 := ⟨hv, isC_S ha rfl, fun d => ent_S ha⟩
theorem aS_6 {a : Nat} (ha : a < 6) (hv : lv a = true) : AI x al lv a 6 8 := ⟨hv, isC_S ha rfl, fun d => ent_S ha⟩
theorem aS_7 {a : Nat} (ha : a < 6) (hv : lv a = true) : AI x al lv a 7 8 := ⟨hv, isC_S ha rfl, fun d => ent_S ha⟩
theorem aS_8 {a : Nat} (ha : a < 6) (hv : lv a = true) : AI x al lv a 8 8 := ⟨hv, isC_S ha rfl, fun d => ent_S ha⟩
theorem aS_9 {a : Nat} (ha : a < 6) (hv : lv a = true) : AI x al lv a 9 8 := ⟨hv, isC_S ha rfl, fun d => ent_S ha⟩
theorem aS_10 {a : Nat} (ha : a < 6) (hv : lv a = true) : AI x al lv a 10 8 := ⟨hv, isC_S ha rfl, fun d => ent_S ha⟩
theorem aS_11 {a : Nat} (ha : a < 6) (hv : lv a = true) : AI x al lv a 11 8 := ⟨hv, isC_S ha rfl, fun d => ent_S ha⟩
theorem aS_12 {a : Nat} (ha : a < 6) (hv : lv a = true) : AI x al lv a 12 8 := ⟨hv, isC_S ha rfl, fun d => ent_S ha⟩
theorem aS_13 {a : Nat} (ha : a < 6) (hv : lv a = true) : AI x al lv a 13 8 := ⟨hv, isC_S ha rfl, fun d => ent_S ha⟩
theorem aS_14 {a : Nat} (ha : a < 6) (hv : lv a = true) : AI x al lv a 14 1440 := ⟨hv, isC_S ha rfl, fun d => ent_S ha⟩
theorem aS_16 {a : Nat} (ha : a < 6) (hv : lv a = true) : AI x al lv a 16 300 := ⟨hv, isC_S ha rfl, fun d => ent_S ha⟩
theorem aS_17 {a : Nat} (ha : a < 6) (hv : lv a = true) : AI x al lv a 17 300 := ⟨hv, isC_S ha rfl, fun d => ent_S ha⟩
theorem aS_18 {a : Nat} (ha : a < 6) (hv : lv a = true) : AI x al lv a 18 300 := ⟨hv, isC_S ha rfl, fun d => ent_S ha⟩
theorem aS_19 {a : Nat} (ha : a < 6) (hv : lv a = true) : AI x al lv a 19 300 := ⟨hv, isC_S ha rfl, fun d => ent_S ha⟩
theorem aS_20 {a : Nat} (ha : a < 6) (hv : lv a = true) : AI x al lv a 20 300 := ⟨hv, isC_S ha rfl, fun d => ent_S ha⟩
theorem aS_21 {a : Nat} (ha : a < 6) (hv : lv a = true) : AI x al lv a 21 300 := ⟨hv, isC_S ha rfl, fun d => ent_S ha⟩
theorem aI_5 (hv : lv 6 = true) : AI x al lv 6 5 3 := ⟨hv, by decide +kernel, fun d => rfl⟩
theorem aI_6 (hv : lv 6 = true) : AI x al lv 6 6 180 := ⟨hv, by decide +kernel, fun d => rfl⟩
theorem aI_7 (hv : lv 6 = true) : AI x al lv 6 7 180 := ⟨hv, by decide +kernel, fun d => rfl⟩
theorem aI_9 (hv : lv 6 = true) : AZ x al lv 6 9 200 := ⟨hv, by decide +kernel, fun d => rfl⟩
theorem aI_10 (hv : lv 6 = true) : AI x al lv 6 10 200 := ⟨hv, by decide +kernel, fun d => rfl⟩
theorem aI_12 (hv : lv 6 = true) : AI x al lv 6 12 300 := ⟨hv, by decide +kernel, fun d => rfl⟩
theorem aI_13 (hv : lv 6 = true) : AI x al lv 6 13 8 := ⟨hv, by decide +kernel, fun d => rfl⟩
theorem aI_14 (hv : lv 6 = true) : AI x al lv 6 14 6 := ⟨hv, by decide +kernel, fun d => rfl⟩
theorem aI_15 (hv : lv 6 = true) : AI x al lv 6 15 6 := ⟨hv, by decide +kernel, fun d => rfl⟩
theorem aI_16 (hv : lv 6 = true) : AI x al lv 6 16 30 := ⟨hv, by decide +kernel, fun d => rfl⟩
theorem aI_17 (hv : lv 6 = true) : AI x al lv 6 17 30 := ⟨hv, by decide +kernel, fun d => rfl⟩
theorem aB_1 (hv : lv 8 = true) : AI x al lv 8 1 1800 := ⟨hv, by decide +kernel, fun d => rfl⟩
theorem aB_2 (hv : lv 8 = true) : AI x al lv 8 2 1800 := ⟨hv, by decide +kernel, fun d => rfl⟩
theorem aF_1 (hv : lv 9 = true) : AI x al lv 9 1 1800 := ⟨hv, by decide +kernel, fun d => rfl⟩
theorem aP_1 (hv : lv 10 = true) : AZ x al lv 10 1 180 := ⟨hv, by decide +kernel, fun d => rfl⟩
theorem aP_2 (hv : lv 10 = true) : AZ x al lv 10 2 180 := ⟨hv, by decide +kernel, fun d => rfl⟩
theorem aM_1 (hv : lv 7 = true) : AF x al lv 7 1 200 := ⟨hv, by decide +kernel, fun d => rfl⟩
theorem aM_2 (hv : lv 7 = true) : AZ x al lv 7 2 200 := ⟨hv, by decide +kernel, fun d => rfl⟩
theorem aM_6 (hv : lv 7 = true) : AI x al lv 7 6 6 := ⟨hv, by decide +kernel, fun d => rfl⟩
theorem aM_7 (hv : lv 7 = true) : AI x al lv 7 7 6 := ⟨hv, by decide +kernel, fun d => rfl⟩
theorem aM_8 (hv : lv 7 = true) : AI x al lv 7 8 6 := ⟨hv, by decide +kernel, fun d => rfl⟩
theorem aM_9 (hv : lv 7 = true) : AI x al lv 7 9 36 := ⟨hv, by decide +kernel, fun d => rfl⟩
theorem aM_10 (hv : lv 7 = true) : AI x al lv 7 10 48 := ⟨hv, by decide +kernel, fun d => rfl⟩
theorem aM_11 (hv : lv 7 = true) : AI x al lv 7 11 48 := ⟨hv, by decide +kernel, fun d => rfl⟩
theorem aM_12 (hv : lv 7 = true) : AI x al lv 7 12 48 := ⟨hv, by decide +kernel, fun d => rfl⟩
theorem aM_13 (hv : lv 7 = true) : AI x al lv 7 13 48 := ⟨hv, by decide +kernel, fun d => rfl⟩
theorem aM_14 (hv : lv 7 = true) : AI x al lv 7 14 48 := ⟨hv, by decide +kernel, fun d => rfl⟩
theorem aM_15 (hv : lv 7 = true) : AI x al lv 7 15 48 := ⟨hv, by decide +kernel, fun d => rfl⟩
theorem aM_16 (hv : lv 7 = true) : AI x al lv 7 16 48 := ⟨hv, by decide +kernel, fun d => rfl⟩
theorem aM_17 (hv : lv 7 = true) : AZ x al lv 7 17 1440 := ⟨hv, by decide +kernel, fun d => rfl⟩
theorem aM_18 (hv : lv 7 = true) : AI x al lv 7 18 8640 := ⟨hv, by decide +kernel, fun d => rfl⟩
theorem aM_19 (hv : lv 7 = true) : AI x al lv 7 19 1800 := ⟨hv, by decide +kernel, fun d => rfl⟩
theorem aM_20 (hv : lv 7 = true) : AI x al lv 7 20 1800 := ⟨hv, by decide +kernel, fun d => rfl⟩
theorem aM_21 (hv : lv 7 = true) : AI x al lv 7 21 1800 := ⟨hv, by decide +kernel, fun d => rfl⟩
theorem aM_22 (hv : lv 7 = true) : AI x al lv 7 22 1800 := ⟨hv, by decide +kernel, fun d => rfl⟩
theorem aM_23 (hv : lv 7 = true) : AI x al lv 7 23 1800 := ⟨hv, by decide +kernel, fun d => rfl⟩
theorem aM_24 (hv : lv 7 = true) : AI x al lv 7 24 1800 := ⟨hv, by decide +kernel, fun d => rfl⟩
theorem aM_25 (hv : lv 7 = true) : AZ x al lv 7 25 4 := ⟨hv, by decide +kernel, fun d => rfl⟩
theorem aM_28 (hv : lv 7 = true) : AI x al lv 7 28 1800 := ⟨hv, by decide +kernel, fun d => rfl⟩
theorem aM_29 (hv : lv 7 = true) : AI x al lv 7 29 1800 := ⟨hv, by decide +kernel, fun d => rfl⟩
theorem aM_30 (hv : lv 7 = true) : AI x al lv 7 30 300 := ⟨hv, by decide +kernel, fun d => rfl⟩
theorem aM_31 (hv : lv 7 = true) : AZ x al lv 7 31 300 := ⟨hv, by decide +kernel, fun d => rfl⟩
theorem aM_32 (hv : lv 7 = true) : AI x al lv 7 32 6 := ⟨hv, by decide +kernel, fun d => rfl⟩
theorem aM_33 (hv : lv 7 = true) : AI x al lv 7 33 6 := ⟨hv, by decide +kernel, fun d => rfl⟩
theorem aM_35 (hv : lv 7 = true) : AI x al lv 7 35 300 := ⟨hv, by decide +kernel, fun d => rfl⟩
theorem aM_40 (hv : lv 7 = true) : AI x al lv 7 40 3 := ⟨hv, by decide +kernel, fun d => rfl⟩
theorem aM_41 (hv : lv 7 = true) : AI x al lv 7 41 300 := ⟨hv, by decide +kernel, fun d => rfl⟩
theorem aM_42 (hv : lv 7 = true) : AI x al lv 7 42 300 := ⟨hv, by decide +kernel, fun d => rfl⟩
theorem aM_43 (hv : lv 7 = true) : AI x al lv 7 43 300 := ⟨hv, by decide +kernel, fun d => rfl⟩
theorem aM_48 (hv : lv 7 = true) : AI x al lv 7 48 1600 := ⟨hv, by decide +kernel, fun d => rfl⟩
theorem aM_49 (hv : lv 7 = true) : AI x al lv 7 49 30 := ⟨hv, by decide +kernel, fun d => rfl⟩
theorem aM_50 (hv : lv 7 = true) : AI x al lv 7 50 30 := ⟨hv, by decide +kernel, fun d => rfl⟩
theorem aM_52 (hv : lv 7 = true) : AZ x al lv 7 52 180 := ⟨hv, by decide +kernel, fun d => rfl⟩
end AR
