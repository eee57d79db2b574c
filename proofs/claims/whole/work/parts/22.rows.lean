section PicL
variable {x : Wx} {al : Nat → Nat → Nat} {lv : Nat → Bool} {σ : Sg} {H H1 : Heap}
theorem Pic.one (hP : Pic x al lv σ H) {a k : Nat} (hv : lv a = true) (hk : isC a k = true) : va_P x.1 clsL [(al a k, ent x al lv a k (σ a k))] H := by
  intro q w hw
  have hz : q < 1 := (List.getElem?_eq_some_iff.mp hw).1
  rw [show q = 0 by omega] at hw
  cases hw
  exact hP.1 a k hv hk
theorem Pic.set (hP : Pic x al lv σ H) {a k : Nat} (hv : lv a = true) (hk : isC a k = true) {f : Nat → Int32} (he : va_at x.1 clsL (al a k, ent x al lv a k f) H1) (oq : ∀ q : Nat, q ≠ al a k → H1[q]? = H[q]?) : Pic x al lv (upA σ a k f) H1 := by
  refine ⟨fun s' k' hv' hk' => ?_, hP.2.1, hP.2.2.1, hP.2.2.2⟩
  by_cases h : s' = a ∧ k' = k
  · obtain ⟨h1, h2⟩ := h
    subst h1; subst h2
    rw [upA_same]
    exact he
  · rw [upA_ne _ _ h]
    exact (hP.1 s' k' hv' hk').kept (oq _ (fun e => h (hP.2.1 a k s' k' hv hk hv' hk' e.symm)))
theorem Wd.blind (args : List Value) : FrameBlind (va_Pc args (Wd x al lv σ)) := by
  intro a U g mk ⟨h1, ⟨h2, h3⟩, h4⟩
  exact ⟨h1, ⟨va_K.moved (u := U) (U := U.calling g mk a) (Vm.Alike.refl U.vm) h2, fun q hq => va_Nw.same (by rfl) (rfl : U.vm = (U.calling g mk a).vm) (h3 q hq)⟩, h4⟩
theorem Kw.warm {s U : State} (hK : Kw x s) (hW : s.WarmedH U.vm) : Kw x U := ⟨va_K.moved hW.alike hK.1, fun q hq => va_Nw.warmM hW (hK.2 q hq)⟩
theorem Pic.recv (hP : Pic x al lv σ H) {s : State} (hK : Kw x s) {a k ci : Nat} {q : vw_C} {fs : List Value} (hv : lv a = true) (hk : isC a k = true) (he : ent x al lv a k (σ a k) = .inr (ci, fs)) (hc : clsL[ci]? = some q) : ∃ cell : Cell, H[al a k]? = some cell ∧ cell.vm.isStatics = false ∧ s.vm.findClass q.1 = some cell.cls :=
  va_recv (q0 := 0) (ci := ci) (fs := fs) hK.1 (hP.one hv hk) hc (by rw [he]; rfl)
end PicL
/-! what a call needs of the tables -/
abbrev Lk0 (y : MethodName) (n : Nat) : Prop := y.cls ≠ "java/lang/invoke/MethodHandle" ∧ y.cls ≠ "java/lang/invoke/VarHandle" ∧ (parseMethodDescriptor y.desc).map (fun d => d.parameters.length) = some n
def LkV (own : String) (idx : Nat) (C : String) (y : MethodName) (n : Nat) : Prop := Cond.methodLink own idx y ∈ lwg ∧ Cond.instanceMethod y ∈ lwg ∧ Cond.selects C y y ∈ lwg ∧ Cond.initialized y.cls ∈ lwg ∧ Lk0 y n
def LkS (own : String) (idx : Nat) (y : MethodName) (n : Nat) : Prop := Cond.methodLink own idx y ∈ lwg ∧ Cond.static y ∈ lwg ∧ Cond.initialized y.cls ∈ lwg ∧ Lk0 y n
def LkN (own : String) (idx : Nat) (y : MethodName) (n : Nat) : Prop := ∃ host : String, (own, idx, y, host) ∈ nests ∧ Cond.static y ∈ lwg ∧ Cond.initialized y.cls ∈ lwg ∧ Lk0 y n
def QI (x : Wx) (al : Nat → Nat → Nat) (lv : Nat → Bool) (res : Int32 × Sg) : Array Value → State → Outcome → State → Prop := va_Qi (fun r (u : Sg) => (r, u) = res) (fun u t => Wd x al lv u t) (Ab x)
def QP (x : Wx) (al : Nat → Nat → Nat) (lv : Nat → Bool) (σ : Sg) (res : Int32) : Array Value → State → Outcome → State → Prop := va_Qi (fun r (u : Sg) => r = res ∧ u = σ) (fun u t => Wd x al lv u t) (Ab x)
def QV (x : Wx) (al : Nat → Nat → Nat) (lv : Nat → Bool) (res : Sg) : Array Value → State → Outcome → State → Prop := va_Qv (fun (u : Sg) => u = res) (fun u t => Wd x al lv u t) (Ab x)
def QF (x : Wx) (al : Nat → Nat → Nat) (lv : Nat → Bool) (σ : Sg) (res : UInt32) : Array Value → State → Outcome → State → Prop := va_Qf (fun r (u : Sg) => r = res ∧ u = σ) (fun u t => Wd x al lv u t) (Ab x)
section RW
variable {p : Program} {l : Launch} {e : Env} {R : Room} {s : State} {m : MethodId} {args : Array Value} {below : List Frame} {meth : Method} {c : Code} {H : Heap} {locs : List Loc} {cells slots : Nat} {Q : State → Prop}
variable {cc : ByteArray} {nL pc : Nat} {rt : Option FieldType} {own : String} {ls : Array Slot} {rest st : List Value} {x : Wx} {al : Nat → Nat → Nat} {lv : Nat → Bool} {σ : Sg} {β : Type} {res : β}
theorem r_get {C : String} {T : u_T} {N ci : Nat} (hC : Cx x p s m args meth c cc nL rt own) (hP : Pic x al lv σ H) {a k : Nat} (hv : lv a = true) (hk : isC a k = true) {fs : List Value} (he : ent x al lv a k (σ a k) = .inr (ci, fs)) (hc : clsL[ci]? = some (C, T, N)) (hin : ∀ w ∈ u_ws C T N, w ∈ lwg) (j : Nat) (hj : j < N) {index : Nat} (hlink : Cond.fieldLink own index (T j).1 (T j).2.1 (T j).2.2.1 ∈ lwg) {v : Value} (hfv : fs[j]? = some v) (hdg : decode cc pc = .ok (.getfield index, 3))
    (kk : W p l e R s m args below meth c H locs cells slots Q (F0 m (pc + 3) ls (v :: rest))) : W p l e R s m args below meth c H locs cells slots Q (F0 m pc ls (.ref (al a k) :: rest)) := by
  obtain ⟨⟨hx, hb, -, hown, hts⟩, -, -, hK⟩ := hC
  exact va_get hx hb hts hin hown hK.1 (hP.one hv hk) 0 (fs := fs) (by rw [he]; rfl) hc j hj (hts _ hlink) (fun _ h => h) hfv hdg kk
theorem r_put {C : String} {T : u_T} {N ci : Nat} (hC : Cx x p s m args meth c cc nL rt own) (hP : Pic x al lv σ H) (hS : va_S (Ab x) s.heap H locs) {a k : Nat} (hv : lv a = true) (hk : isC a k = true) {fsf : (Nat → Int32) → List Value} (he : ∀ d, ent x al lv a k d = .inr (ci, fsf d)) (hc : clsL[ci]? = some (C, T, N)) (hin : ∀ w ∈ u_ws C T N, w ∈ lwg) (ty0 : Nat → FieldType) (hty : ∀ k, k < N → parseFieldDescriptor (T k).2.2.1 = some (ty0 k)) (hnm : ∀ a, a < N → ∀ b, b < N → a ≠ b → (T a).2.1 ≠ (T b).2.1) (j : Nat) (hj : j < N) {index : Nat} (hlink : Cond.fieldLink own index (T j).1 (T j).2.1 (T j).2.2.1 ∈ lwg) (hfin : (T j).2.2.2 = false) {v : Int32} (hn : narrow (ty0 j) (.int v) = .int v) (hfit : fits (ty0 j) (.int v) = true) (hset : (fsf (σ a k)).set j (.int v) = fsf (upd (σ a k) j v)) (hl : j < (fsf (σ a k)).length)
    {F : Sg → Option β} (h : lt (upA σ a k (upd (σ a k) j v)) F = some res) (hdg : decode cc pc = .ok (.putfield index, 3))
    (kk : ∀ (σ1 : Sg) (H1 : Heap) (locs1 : List Loc), F σ1 = some res → Pic x al lv σ1 H1 → va_S (Ab x) s.heap H1 locs1 → W p l e R s m args below meth c H1 locs1 cells slots Q (F0 m (pc + 3) ls rest)) : W p l e R s m args below meth c H locs cells slots Q (F0 m pc ls (.int v :: .ref (al a k) :: rest)) := by
  obtain ⟨⟨hx, hb, -, hown, hts⟩, -, -, hK⟩ := hC
  have hap := va_apart (own := own) hts hin ty0 hty hnm hK.1 hc
  have h0 := hP.1 a k hv hk
  rw [he] at h0
  obtain ⟨r, h1, cell, q1, q2, q3, q4⟩ := h0
  have hr : r = (C, T, N) := Option.some.inj (h1.symm.trans hc)
  subst hr
  obtain ⟨hSl, hfc, kC, hkC, hkind⟩ := hK.1.1 ci _ hc
  obtain ⟨cf, kf, fi, f, hi, hsl⟩ := hSl j hj
  have hlay := hts _ (hin _ (u_in_lay hj))
  unfold u_lay at hlay
  rw [if_neg (by rw [hfin]; decide)] at hlay
  have hst := (u_facts hfc hkC (u_lays hts hin hj) hi).1
  have h6 := u_store hfc hkC hkind hlay hi (hty j hj) hn hfit
  refine W.putK hx hb (f := f) ⟨hown, hts _ hlink, ⟨_, _, _, hi⟩, hst⟩ (by rw [q2]; exact h6) q1 q3 (by rw [hsl]; exact k2_hasslot (q4 j hj)) rfl rfl hdg fun H' e1 e2 e3 => ?_
  rw [hsl] at e1 ⊢
  refine kk _ H' _ h (hP.set hv hk ?_ e3) (hS.put e2 e3 (hP.2.2.1 a k hv hk))
  rw [he]
  refine ⟨_, hc, ?_⟩
  rw [← hset]
  exact t_OB.to (V := updV (vp_V (fsf (σ a k))) j (.int v)) ⟨_, e1, q2, q3, t_set q4 hap hj (.int v)⟩ (fun i _ => vp_updV_set hl (.int v) i)
theorem r_iald (hC : Cx x p s m args meth c cc nL rt own) (hP : Pic x al lv σ H) {a k n : Nat} (hA : AI x al lv a k n) {i : Int32} {o : Option β} (h : gd (ib i n) o = some res) (hdg : decode cc pc = .ok (.iaload, 1))
    (kk : o = some res → W p l e R s m args below meth c H locs cells slots Q (F0 m (pc + 1) ls (.int (σ a k i.toNatClampNeg) :: rest))) : W p l e R s m args below meth c H locs cells slots Q (F0 m pc ls (.int i :: .ref (al a k) :: rest)) := by
  obtain ⟨⟨hx, hb, -, hown, hts⟩, -, -, hK⟩ := hC
  obtain ⟨hg, h⟩ := gd_e h
  exact va_iald hx hb hK.1 (hP.one hA.1 hA.2.1) 0 0 (by rw [hA.2.2]; rfl) rfl (ib_in hg) hdg (kk h)
theorem r_zald (hC : Cx x p s m args meth c cc nL rt own) (hP : Pic x al lv σ H) {a k n : Nat} (hA : AZ x al lv a k n) {i : Int32} {o : Option β} (h : gd (ib i n) o = some res) (hdg : decode cc pc = .ok (.baload, 1))
    (kk : o = some res → W p l e R s m args below meth c H locs cells slots Q (F0 m (pc + 1) ls (.int (σ a k i.toNatClampNeg) :: rest))) : W p l e R s m args below meth c H locs cells slots Q (F0 m pc ls (.int i :: .ref (al a k) :: rest)) := by
  obtain ⟨⟨hx, hb, -, hown, hts⟩, -, -, hK⟩ := hC
  obtain ⟨hg, h⟩ := gd_e h
  exact va_zald hx hb hK.1 (hP.one hA.1 hA.2.1) 0 1 (by rw [hA.2.2]; rfl) rfl (ib_in hg) hdg (kk h)
theorem r_fald (hC : Cx x p s m args meth c cc nL rt own) (hP : Pic x al lv σ H) {a k n : Nat} (hA : AF x al lv a k n) {i : Int32} {o : Option β} (h : gd (ib i n) o = some res) (hdg : decode cc pc = .ok (.faload, 1))
    (kk : o = some res → W p l e R s m args below meth c H locs cells slots Q (F0 m (pc + 1) ls (.float (σ a k i.toNatClampNeg).toUInt32 :: rest))) : W p l e R s m args below meth c H locs cells slots Q (F0 m pc ls (.int i :: .ref (al a k) :: rest)) := by
  obtain ⟨⟨hx, hb, -, hown, hts⟩, -, -, hK⟩ := hC
  obtain ⟨hg, h⟩ := gd_e h
  exact va_fald hx hb hK.1 (hP.one hA.1 hA.2.1) 0 2 (f := fun j => (σ a k j).toUInt32) (by rw [hA.2.2]; rfl) rfl (ib_in hg) hdg (kk h)
theorem r_iast (hC : Cx x p s m args meth c cc nL rt own) (hP : Pic x al lv σ H) (hS : va_S (Ab x) s.heap H locs) {a k n : Nat} (hA : AI x al lv a k n) {i v : Int32} {F : Sg → Option β} (h : gd (ib i n) (lt (upA σ a k (upd (σ a k) i.toNatClampNeg v)) F) = some res) (hdg : decode cc pc = .ok (.iastore, 1))
    (kk : ∀ (σ1 : Sg) (H1 : Heap) (locs1 : List Loc), F σ1 = some res → Pic x al lv σ1 H1 → va_S (Ab x) s.heap H1 locs1 → W p l e R s m args below meth c H1 locs1 cells slots Q (F0 m (pc + 1) ls rest)) : W p l e R s m args below meth c H locs cells slots Q (F0 m pc ls (.int v :: .int i :: .ref (al a k) :: rest)) := by
  obtain ⟨⟨hx, hb, -, hown, hts⟩, -, -, hK⟩ := hC
  obtain ⟨hg, h⟩ := gd_e h
  have h0 := hP.1 a k hA.1 hA.2.1
  rw [hA.2.2] at h0
  refine W.iast hx hb h0 ((hK.1.2 0 _ rfl).1 n (fun j => .int (σ a k j))) (fun q => by cases q) (by show ¬ (i < 0 ∨ (arrV _ _ _).slots.size ≤ _); rw [arrV_size]; exact ib_in hg) rfl rfl hdg fun H1 e1 z oq => ?_
  refine kk _ H1 _ h (hP.set hA.1 hA.2.1 ?_ oq) (hS.put z oq (hP.2.2.1 a k hA.1 hA.2.1))
  rw [hA.2.2]
  show H1[al a k]? = some (vp_cell _ _)
  rw [e1]
  rw [vp_cell_i, vp_cell_i, arrV_store]
  congr 2
  funext q
  by_cases hq : q = i.toNatClampNeg
  · subst hq
    simp [updV, upd]
  · simp [updV, upd, hq]
theorem r_zast (hC : Cx x p s m args meth c cc nL rt own) (hP : Pic x al lv σ H) (hS : va_S (Ab x) s.heap H locs) {a k n : Nat} (hA : AZ x al lv a k n) {i v : Int32} {F : Sg → Option β} (h : gd (ib i n) (lt (upA σ a k (upd (σ a k) i.toNatClampNeg (vp_nar .boolean v))) F) = some res) (hdg : decode cc pc = .ok (.bastore, 1))
    (kk : ∀ (σ1 : Sg) (H1 : Heap) (locs1 : List Loc), F σ1 = some res → Pic x al lv σ1 H1 → va_S (Ab x) s.heap H1 locs1 → W p l e R s m args below meth c H1 locs1 cells slots Q (F0 m (pc + 1) ls rest)) : W p l e R s m args below meth c H locs cells slots Q (F0 m pc ls (.int v :: .int i :: .ref (al a k) :: rest)) := by
  obtain ⟨⟨hx, hb, -, hown, hts⟩, -, -, hK⟩ := hC
  obtain ⟨hg, h⟩ := gd_e h
  have h0 := hP.1 a k hA.1 hA.2.1
  rw [hA.2.2] at h0
  refine W.zast hx hb h0 ((hK.1.2 1 _ rfl).1 n (fun j => .int (σ a k j))) (fun q => by cases q) (by show ¬ (i < 0 ∨ (arrV _ _ _).slots.size ≤ _); rw [arrV_size]; exact ib_in hg) rfl rfl hdg fun H1 e1 z oq => ?_
  refine kk _ H1 _ h (hP.set hA.1 hA.2.1 ?_ oq) (hS.put z oq (hP.2.2.1 a k hA.1 hA.2.1))
  rw [hA.2.2]
  show H1[al a k]? = some (vp_cell _ _)
  rw [e1]
  rw [vp_cell_i, vp_cell_i, arrV_store]
  congr 2
  funext q
  by_cases hq : q = i.toNatClampNeg
  · subst hq
    simp [updV, upd, vp_nar]
    try rfl
  · simp [updV, upd, hq]
theorem r_fast (hC : Cx x p s m args meth c cc nL rt own) (hP : Pic x al lv σ H) (hS : va_S (Ab x) s.heap H locs) {a k n : Nat} (hA : AF x al lv a k n) {i : Int32} {v : UInt32} {F : Sg → Option β} (h : gd (ib i n) (lt (upA σ a k (upd (σ a k) i.toNatClampNeg v.toInt32)) F) = some res) (hdg : decode cc pc = .ok (.fastore, 1))
    (kk : ∀ (σ1 : Sg) (H1 : Heap) (locs1 : List Loc), F σ1 = some res → Pic x al lv σ1 H1 → va_S (Ab x) s.heap H1 locs1 → W p l e R s m args below meth c H1 locs1 cells slots Q (F0 m (pc + 1) ls rest)) : W p l e R s m args below meth c H locs cells slots Q (F0 m pc ls (.float v :: .int i :: .ref (al a k) :: rest)) := by
  obtain ⟨⟨hx, hb, -, hown, hts⟩, -, -, hK⟩ := hC
  obtain ⟨hg, h⟩ := gd_e h
  have h0 := hP.1 a k hA.1 hA.2.1
  rw [hA.2.2] at h0
  refine W.fast hx hb h0 ((hK.1.2 2 _ rfl).1 n (fun j => .float (σ a k j).toUInt32)) (fun q => by cases q) (by show ¬ (i < 0 ∨ (arrV _ _ _).slots.size ≤ _); rw [arrV_size]; exact ib_in hg) rfl rfl hdg fun H1 e1 z oq => ?_
  refine kk _ H1 _ h (hP.set hA.1 hA.2.1 ?_ oq) (hS.put z oq (hP.2.2.1 a k hA.1 hA.2.1))
  rw [hA.2.2]
  show H1[al a k]? = some (vp_cell _ _)
  rw [e1]
  rw [vp_cell_f, vp_cell_f, arrV_store]
  congr 2
  funext q
  by_cases hq : q = i.toNatClampNeg
  · subst hq
    simp [updV, upd]
  · simp [updV, upd, hq]
theorem r_lt {v : Int32} {F : Int32 → Option β} (h : lt v F = some res) (kk : ∀ y : Int32, F y = some res → W p l e R s m args below meth c H locs cells slots Q (F0 m pc ls (.int y :: rest))) : W p l e R s m args below meth c H locs cells slots Q (F0 m pc ls (.int v :: rest)) := kk v h
theorem r_ltl {v : Int64} {F : Int64 → Option β} (h : lt v F = some res) (kk : ∀ y : Int64, F y = some res → W p l e R s m args below meth c H locs cells slots Q (F0 m pc ls (.long y :: rest))) : W p l e R s m args below meth c H locs cells slots Q (F0 m pc ls (.long v :: rest)) := kk v h
theorem r_ltf {v : UInt32} {F : UInt32 → Option β} (h : lt v F = some res) (kk : ∀ y : UInt32, F y = some res → W p l e R s m args below meth c H locs cells slots Q (F0 m pc ls (.float y :: rest))) : W p l e R s m args below meth c H locs cells slots Q (F0 m pc ls (.float v :: rest)) := kk v h
theorem r_iinc (hC : Cx x p s m args meth c cc nL rt own) {i k : Nat} {n : Int} {z v : Int32} {lvs : List (Nat × Value)} {F : Int32 → Option β} (h : lt (z + v) F = some res) (hdg : decode cc pc = .ok (.iinc i n, 3)) (hl : lv_has ls nL lvs) (hk : lvs[k]? = some (i, .int z)) (hv : Int32.ofInt n = v) (hn : i < nL) (lvf : Int32 → List (Nat × Value)) (hf : ∀ y, (i, Value.int y) :: lvs.filter (fun q => !(q.1 == i) && !(q.1 + 1 == i && q.2.category == 2)) = lvf y)
    (kk : ∀ (y : Int32) (ls : Array Slot), F y = some res → lv_has ls nL (lvf y) → W p l e R s m args below meth c H locs cells slots Q (F0 m (pc + 3) ls rest)) : W p l e R s m args below meth c H locs cells slots Q (F0 m pc ls rest) := by
  obtain ⟨⟨hx, hb, -⟩, -⟩ := hC
  exact lv_iinc (v := z + v) hx hb hdg hl hk (by rw [hv]) hn (hf _) (fun ls hl => kk _ ls h hl)
theorem br {P : Prop} {iP : Decidable P} {A B : Option β} (h : (if P then A else B) = some res) : (P → A = some res) ∧ (¬ P → B = some res) := ⟨fun k => by rw [if_pos k] at h; exact h, fun k => by rw [if_neg k] at h; exact h⟩
theorem r_ifnn (hC : Cx x p s m args meth c cc nL rt own) {b : Bool} {q : Nat} {A B : Option β} (h : (if b = true then A else B) = some res) {off : Int} {tgt : Nat} (hdg : decode cc pc = .ok (.ifnonnull off, 3)) (ht : (pc : Int) + off = (tgt : Int)) (kt : b = true → A = some res → W p l e R s m args below meth c H locs cells slots Q (F0 m tgt ls rest)) (kf : b = false → B = some res → W p l e R s m args below meth c H locs cells slots Q (F0 m (pc + 3) ls rest)) : W p l e R s m args below meth c H locs cells slots Q (F0 m pc ls (nrf b q :: rest)) := by
  obtain ⟨⟨hx, hb, -⟩, -⟩ := hC
  cases b with
  | true => exact lv_ifnonnull hx hb hdg ht (kt rfl h)
  | false => exact lv_ifnonnullN hx hb hdg (kf rfl h)
theorem r_ifn (hC : Cx x p s m args meth c cc nL rt own) {b : Bool} {q : Nat} {A B : Option β} (h : (if b = true then A else B) = some res) {off : Int} {tgt : Nat} (hdg : decode cc pc = .ok (.ifnull off, 3)) (ht : (pc : Int) + off = (tgt : Int)) (kt : b = true → A = some res → W p l e R s m args below meth c H locs cells slots Q (F0 m (pc + 3) ls rest)) (kf : b = false → B = some res → W p l e R s m args below meth c H locs cells slots Q (F0 m tgt ls rest)) : W p l e R s m args below meth c H locs cells slots Q (F0 m pc ls (nrf b q :: rest)) := by
  obtain ⟨⟨hx, hb, -⟩, -⟩ := hC
  cases b with
  | true => exact lv_ifnull hx hb hdg (kt rfl h)
  | false => exact lv_ifnullN hx hb hdg ht (kf rfl h)
theorem r_nn {b : Bool} {q : Nat} (hb : b = true) (kk : W p l e R s m args below meth c H locs cells slots Q (F0 m pc ls (.ref q :: rest))) : W p l e R s m args below meth c H locs cells slots Q (F0 m pc ls (nrf b q :: rest)) := by
  subst hb; exact kk
/-! calls -/
theorem r_runV (hC : Cx x p s m args meth c cc nL rt own) {y : MethodName} {cb : ByteArray} {mL idx n d b mc ms : Nat} {rt2 : Option FieldType} {Cn : String} {As : List Value} {Qc : Array Value → State → Outcome → State → Prop} (hL : LkV own idx Cn y n) (hcw : Cond.code y cb mL rt2 ∈ lwg) (hrec : ∃ cell : Cell, H[b]? = some cell ∧ cell.vm.isStatics = false ∧ s.vm.findClass Cn = some cell.cls) (hP : Pic x al lv σ H)
    (hM : Met l y (Cond.code y cb mL rt2 :: lwg) (rmm d mc ms) (va_Pc (.ref b :: As) (Wd x al lv σ)) Qc mc ms (Ab x)) (hn : As.length = n) (hsz : ls.size = nL) (hR : d + 1 ≤ R.frames ∧ 8 + (mL + 11) + 100 * d ≤ R.locals) (hcs : cells + mc ≤ R.cells ∧ slots + ms ≤ R.slots) (hro : (rest.map fun v => v.category).sum ≤ 8) (hdg : decode cc pc = .ok (.invokevirtual idx, 3)) :
    va_Run p l e R s m args below meth c H locs cells slots mc ms (F0 m pc ls (As.reverse ++ .ref b :: rest)) rest (Qc (Value.ref b :: As).toArray) (Ab x) := by
  obtain ⟨hF, -, -, hK⟩ := hC
  obtain ⟨h1, h2, h3, h4, h5⟩ := hL
  have hts := hF.2.2.2.2
  exact va_runV hF hM ⟨callB_of n hts (good_ww hcw) rfl rfl rfl (hts _ h4) (hts _ h1) h5 hR, hts _ h2, hts _ h3⟩ ⟨Wd.blind _, hrec, fun U hU hW => ⟨rfl, hK.warm hW, by rw [hU]; exact hP⟩⟩ rfl hn hsz rfl (lv_room hro) hdg hcs
theorem r_runS (hC : Cx x p s m args meth c cc nL rt own) {y : MethodName} {cb : ByteArray} {mL idx n d mc ms : Nat} {rt2 : Option FieldType} {As : List Value} {Qc : Array Value → State → Outcome → State → Prop} (hL : LkS own idx y n) (hcw : Cond.code y cb mL rt2 ∈ lwg) (hP : Pic x al lv σ H)
    (hM : Met l y (Cond.code y cb mL rt2 :: lwg) (rmm d mc ms) (va_Pc As (Wd x al lv σ)) Qc mc ms (Ab x)) (hn : As.length = n) (hsz : ls.size = nL) (hR : d + 1 ≤ R.frames ∧ 8 + (mL + 11) + 100 * d ≤ R.locals) (hcs : cells + mc ≤ R.cells ∧ slots + ms ≤ R.slots) (hro : (rest.map fun v => v.category).sum ≤ 8) (hdg : decode cc pc = .ok (.invokestatic idx, 3)) :
    va_Run p l e R s m args below meth c H locs cells slots mc ms (F0 m pc ls (As.reverse ++ rest)) rest (Qc As.toArray) (Ab x) := by
  obtain ⟨hF, -, -, hK⟩ := hC
  obtain ⟨h1, h2, h4, h5⟩ := hL
  have hts := hF.2.2.2.2
  exact va_runS hF hM ⟨callB_of n hts (good_ww hcw) rfl rfl rfl (hts _ h4) (hts _ h1) h5 hR, hts _ h2⟩ ⟨Wd.blind _, fun U hU hW => ⟨rfl, hK.warm hW, by rw [hU]; exact hP⟩⟩ rfl hn hsz rfl (lv_room hro) hdg hcs
theorem r_runN (hC : Cx x p s m args meth c cc nL rt own) {y : MethodName} {cb : ByteArray} {mL idx n d mc ms : Nat} {rt2 : Option FieldType} {As : List Value} {Qc : Array Value → State → Outcome → State → Prop} (hL : LkN own idx y n) (hcw : Cond.code y cb mL rt2 ∈ lwg) (hP : Pic x al lv σ H)
    (hM : Met l y (Cond.code y cb mL rt2 :: lwg) (rmm d mc ms) (va_Pc As (Wd x al lv σ)) Qc mc ms (Ab x)) (hn : As.length = n) (hsz : ls.size = nL) (hR : d + 1 ≤ R.frames ∧ 8 + (mL + 11) + 100 * d ≤ R.locals) (hcs : cells + mc ≤ R.cells ∧ slots + ms ≤ R.slots) (hro : (rest.map fun v => v.category).sum ≤ 8) (hdg : decode cc pc = .ok (.invokestatic idx, 3)) :
    va_Run p l e R s m args below meth c H locs cells slots mc ms (F0 m pc ls (As.reverse ++ rest)) rest (Qc As.toArray) (Ab x) := by
  obtain ⟨hF, -, -, hK⟩ := hC
  obtain ⟨host, h1, h2, h4, h5⟩ := hL
  have hts := hF.2.2.2.2
  exact va_runSN hF hM ⟨va_cnB n hts (good_ww hcw) rfl rfl rfl (hK.2 _ h1) (hts _ h4) h5 hR, hts _ h2, trivial⟩ ⟨Wd.blind _, fun U hU hW => ⟨rfl, hK.warm hW, by rw [hU]; exact hP⟩⟩ rfl hn hsz rfl (lv_room hro) hdg hcs
theorem r_cP {av : Array Value} {o : Option Int32} {F : Int32 → Option β} (hS : va_S (Ab x) s.heap H locs) (h : bp o F = some res) (hr : ∀ r, o = some r → va_Run p l e R s m args below meth c H locs cells slots 0 0 (F0 m pc ls st) rest (QP x al lv σ r av) (Ab x))
    (kk : ∀ (r : Int32) (H1 : Heap) (locs1 : List Loc), F r = some res → Pic x al lv σ H1 → va_S (Ab x) s.heap H1 locs1 → W p l e R s m args below meth c H1 locs1 cells slots Q (F0 m (pc + 3) ls (.int r :: rest))) : W p l e R s m args below meth c H locs cells slots Q (F0 m pc ls st) := by
  obtain ⟨r, ho, hf⟩ := bp_e h
  refine va_calli (hr r ho) hS (fun _ _ h => h) (fun _ h => h) (fun r1 u t H1 locs1 ht hvm hw hB hz1 hk1 hS1 => ?_)
  obtain ⟨rfl, rfl⟩ := hw
  subst ht
  exact kk _ _ _ hf hB.2 hS1
theorem r_cI {av : Array Value} {o : Option (Int32 × Sg)} {F : Int32 → Sg → Option β} (hS : va_S (Ab x) s.heap H locs) (h : bi o F = some res) (hr : ∀ r, o = some r → va_Run p l e R s m args below meth c H locs cells slots 0 0 (F0 m pc ls st) rest (QI x al lv r av) (Ab x))
    (kk : ∀ (r : Int32) (σ1 : Sg) (H1 : Heap) (locs1 : List Loc), F r σ1 = some res → Pic x al lv σ1 H1 → va_S (Ab x) s.heap H1 locs1 → W p l e R s m args below meth c H1 locs1 cells slots Q (F0 m (pc + 3) ls (.int r :: rest))) : W p l e R s m args below meth c H locs cells slots Q (F0 m pc ls st) := by
  obtain ⟨r, u0, ho, hf⟩ := bi_e h
  refine va_calli (hr (r, u0) ho) hS (fun _ _ h => h) (fun _ h => h) (fun r1 u t H1 locs1 ht hvm hw hB hz1 hk1 hS1 => ?_)
  cases hw
  subst ht
  exact kk _ _ _ _ hf hB.2 hS1
theorem r_cV {av : Array Value} {o : Option Sg} {F : Sg → Option β} (hS : va_S (Ab x) s.heap H locs) (h : bp o F = some res) (hr : ∀ r, o = some r → va_Run p l e R s m args below meth c H locs cells slots 0 0 (F0 m pc ls st) rest (QV x al lv r av) (Ab x))
    (kk : ∀ (σ1 : Sg) (H1 : Heap) (locs1 : List Loc), F σ1 = some res → Pic x al lv σ1 H1 → va_S (Ab x) s.heap H1 locs1 → W p l e R s m args below meth c H1 locs1 cells slots Q (F0 m (pc + 3) ls rest)) : W p l e R s m args below meth c H locs cells slots Q (F0 m pc ls st) := by
  obtain ⟨r, ho, hf⟩ := bp_e h
  refine va_callv (hr r ho) hS (fun _ _ h => h) (fun _ h => h) (fun u t H1 locs1 ht hvm hw hB hz1 hk1 hS1 => ?_)
  cases hw
  subst ht
  exact kk _ _ _ hf hB.2 hS1
theorem r_cF {av : Array Value} {o : Option UInt32} {F : UInt32 → Option β} (hS : va_S (Ab x) s.heap H locs) (h : bp o F = some res) (hr : ∀ r, o = some r → va_Run p l e R s m args below meth c H locs cells slots 0 0 (F0 m pc ls st) rest (QF x al lv σ r av) (Ab x))
    (kk : ∀ (r : UInt32) (H1 : Heap) (locs1 : List Loc), F r = some res → Pic x al lv σ H1 → va_S (Ab x) s.heap H1 locs1 → W p l e R s m args below meth c H1 locs1 cells slots Q (F0 m (pc + 3) ls (.float r :: rest))) : W p l e R s m args below meth c H locs cells slots Q (F0 m pc ls st) := by
  obtain ⟨r, ho, hf⟩ := bp_e h
  refine va_callf (hr r ho) hS (fun _ _ h => h) (fun _ h => h) (fun r1 u t H1 locs1 ht hvm hw hB hz1 hk1 hS1 => ?_)
  obtain ⟨rfl, rfl⟩ := hw
  subst ht
  exact kk _ _ _ hf hB.2 hS1
/-! ends -/
theorem r_retI {ty : FieldType} (hC : Cx x p s m args meth c cc nL (some ty) own) (hP : Pic x al lv σ H) (hS : va_S (Ab x) s.heap H locs) {v : Int32} {r : Int32 × Sg} (hn : narrow ty (.int v) = .int v) (h : some (v, σ) = some r) (hdg : decode cc pc = .ok (.ireturn, 1)) : W p l e R s m args below meth c H locs cells slots (MQ below (QI x al lv r) args s cells slots (Ab x)) (F0 m pc ls [.int v]) := by
  obtain ⟨⟨hx, hb, -, hown, hts⟩, hr, hlk, hK⟩ := hC
  cases h
  exact W.zret hx hb hr hn (fun t ht hW => ⟨⟨v, σ, rfl, rfl, hK.warm hW, by rw [ht]; exact hP⟩, hS.F ht⟩) hS.2.2 hdg hlk
theorem r_retP {ty : FieldType} (hC : Cx x p s m args meth c cc nL (some ty) own) (hP : Pic x al lv σ H) (hS : va_S (Ab x) s.heap H locs) {v r : Int32} (hn : narrow ty (.int v) = .int v) (h : some v = some r) (hdg : decode cc pc = .ok (.ireturn, 1)) : W p l e R s m args below meth c H locs cells slots (MQ below (QP x al lv σ r) args s cells slots (Ab x)) (F0 m pc ls [.int v]) := by
  obtain ⟨⟨hx, hb, -, hown, hts⟩, hr, hlk, hK⟩ := hC
  cases h
  exact W.zret hx hb hr hn (fun t ht hW => ⟨⟨v, σ, rfl, ⟨rfl, rfl⟩, hK.warm hW, by rw [ht]; exact hP⟩, hS.F ht⟩) hS.2.2 hdg hlk
theorem r_retV (hC : Cx x p s m args meth c cc nL none own) (hP : Pic x al lv σ H) (hS : va_S (Ab x) s.heap H locs) {r : Sg} (h : some σ = some r) (hdg : decode cc pc = .ok (.return_, 1)) : W p l e R s m args below meth c H locs cells slots (MQ below (QV x al lv r) args s cells slots (Ab x)) (F0 m pc ls []) := by
  obtain ⟨⟨hx, hb, -, hown, hts⟩, hr, hlk, hK⟩ := hC
  cases h
  exact W.vret hx hb hr (fun t ht hW => ⟨⟨σ, rfl, rfl, hK.warm hW, by rw [ht]; exact hP⟩, hS.F ht⟩) hS.2.2 hdg hlk
theorem r_retF (hC : Cx x p s m args meth c cc nL (some .float) own) (hP : Pic x al lv σ H) (hS : va_S (Ab x) s.heap H locs) {v r : UInt32} (h : some v = some r) (hdg : decode cc pc = .ok (.freturn, 1)) : W p l e R s m args below meth c H locs cells slots (MQ below (QF x al lv σ r) args s cells slots (Ab x)) (F0 m pc ls [.float v]) := by
  obtain ⟨⟨hx, hb, -, hown, hts⟩, hr, hlk, hK⟩ := hC
  cases h
  exact W.fret hx hb hr (fun t ht hW => ⟨⟨v, σ, rfl, ⟨rfl, rfl⟩, hK.warm hW, by rw [ht]; exact hP⟩, hS.F ht⟩) hS.2.2 hdg hlk
/-- a method's contract out of the walk of its body -/
theorem met_W {y : MethodName} {cb : ByteArray} {mL d mc ms : Nat} {rt2 : Option FieldType} {av : List Value} {lv0 : List (Nat × Value)} {Qc : Array Value → State → Outcome → State → Prop} (hy : plainName y.cls = true) (hlen : (lg_sl av).length ≤ mL) (hlv : lv_args 0 av = lv0)
    (body : ∀ (p : Program) (e : Env) (s : State) (m : MethodId) (args : Array Value) (below : List Frame) (meth : Method) (c : Code) (ls : Array Slot), Cx x p s m args meth c cb mL rt2 y.cls → Pic x al lv σ s.heap → va_S (Ab x) s.heap s.heap [] → lv_has ls mL lv0 → W p l e (rmm d mc ms) s m args below meth c s.heap [] 0 0 (MQ below Qc args s mc ms (Ab x)) (F0 m 0 ls [])) :
    Met l y (Cond.code y cb mL rt2 :: lwg) (rmm d mc ms) (va_Pc av (Wd x al lv σ)) Qc mc ms (Ab x) := by
  refine Met.ofW (cc := cb) (maxL := mL) (ret := rt2) hy rfl ?_
  intro p e s m args below meth c s₁ B hml hv
  obtain ⟨rfl, hK, hP⟩ := hv
  have hts := atoms_spec (ws := Cond.code y cb mL rt2 :: lwg) B.pre
  have hl := lv_entry av (n := mL) hlen
  rw [hlv] at hl
  rw [lg_entry_eq]
  exact body p e s m av.toArray below meth c _ ⟨⟨B.exec, B.bytes, hml, findClass_of_methodNamed B.named, fun w hw => hts w (List.mem_cons_of_mem _ hw)⟩, B.returns, B.notSynchronized, hK⟩ hP va_S.rf hl
end RW
