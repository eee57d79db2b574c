/-! constructors: rows over the kit's worlds -/
def CPre (x : Wx) (h0 : Nat) (e0 : va_E) (sz : Nat) (ex : State → Prop) : State → Prop := fun U => U.heap.size = sz ∧ va_P x.1 clsL [(h0, e0)] U.heap ∧ Kw x U ∧ ex U ∧ va_D (fun _ => True) [(h0, e0)]
theorem wa_int : Cond.arrayClass .int ∈ lwg := by decide +kernel
theorem wa_boolean : Cond.arrayClass .boolean ∈ lwg := by decide +kernel
theorem wa_float : Cond.arrayClass .float ∈ lwg := by decide +kernel
theorem wo_im : Cond.instanceMethod objectInit ∈ lwg := by decide +kernel
theorem wo_cw : Cond.code objectInit ⟨#[0xb1]⟩ 1 none ∈ lwg := by decide +kernel
section CR
variable {p : Program} {l : Launch} {e : Env} {R : Room} {s : State} {m : MethodId} {args : Array Value} {below : List Frame} {meth : Method} {c : Code} {H : Heap} {locs : List Loc} {cells slots : Nat} {Q : State → Prop}
variable {cc : ByteArray} {nL pc index : Nat} {rt : Option FieldType} {own : String} {ls : Array Slot} {rest st : List Value} {x : Wx} {A : Nat → Prop} {ws : va_W}
theorem n_obj (hC : Cx x p s m args meth c cc nL rt own) (hsz : ls.size = nL) (hlink : Cond.methodLink own index objectInit ∈ lwg) {a : Nat} (hdg : decode cc pc = .ok (.invokespecial index, 3)) (hfr : 1 ≤ R.frames) (hlo : (rest.map fun v => v.category).sum + 12 ≤ R.locals)
    (kk : W p l e R s m args below meth c H locs cells slots Q (F0 m (pc + 3) ls rest)) : W p l e R s m args below meth c H locs cells slots Q (F0 m pc ls (.ref a :: rest)) := by
  obtain ⟨⟨hx, hb, hml, hown, hts⟩, -, -, hK⟩ := hC
  exact W.objInit hx hb hown (hts _ hlink) (hts _ wo_im) (hts _ wo_cw) rfl (hsz.trans hml.symm) rfl hdg hfr (by show 2 * 0 + _ + 12 ≤ _; omega) kk
theorem n_arr (hC : Cx x p s m args meth c cc nL rt own) {atype : ArrayType} (harr : Cond.arrayClass (newarray.typeOf atype) ∈ lwg) (hP : va_P x.1 clsL ws H) (hD : va_D A ws) (hS : va_S A s.heap H locs) (hA : ∀ q, s.heap.size ≤ q → A q) {cA0 : ClassId} (t0 : Nat) (ht : (tysOf x)[t0]? = some (cA0, newarray.typeOf atype)) (hu : ∀ c1 c2, va_RA s c1 (newarray.typeOf atype) → va_RA s c2 (newarray.typeOf atype) → c1 = c2)
    {n : Int32} {N' : Nat} {a0 : vp_A} (ha : ∀ cA : ClassId, vp_cell cA a0 = arrV cA N' (fun _ => defaultValue (newarray.typeOf atype))) (hn : ¬ n < 0) (hN : n.toNatClampNeg = N') (hbytes : N' * componentBytes (newarray.typeOf atype) ≤ 536870912) (hcells : cells + 1 ≤ R.cells) (hslots : slots + N' ≤ R.slots) (hdg : decode cc pc = .ok (.newarray atype, 2))
    (kk : ∀ (q : Nat) (H1 : Heap), va_P x.1 clsL (ws ++ [(q, .inl (cA0, a0))]) H1 → va_D A (ws ++ [(q, .inl (cA0, a0))]) → va_S A s.heap H1 locs → W p l e R s m args below meth c H1 locs (cells + 1) (slots + N') Q (F0 m (pc + 2) ls (.ref q :: rest))) : W p l e R s m args below meth c H locs cells slots Q (F0 m pc ls (.int n :: rest)) := by
  obtain ⟨⟨hx, hb, hml, hown, hts⟩, -, -, hK⟩ := hC
  refine va_newa hx hb (hts _ harr) rfl hK.1 hP hD hS hA ha hn hN hbytes hcells hslots hdg (fun q cA H1 hK1 hP1 hD1 hS1 => ?_)
  have e1 : cA = cA0 := hu _ _ (hK1.2 4 (cA, _) rfl).2 (hK.1.2 t0 _ ht).2
  subst e1
  exact kk q H1 hP1 hD1 hS1
theorem n_arrO (hC : Cx x p s m args meth c cc nL rt own) (hao : va_AO "IceTrade$Store" s) (hcl : Cond.classLink own index "IceTrade$Store" ∈ lwg) (hP : va_P x.1 clsL ws H) (hD : va_D A ws) (hS : va_S A s.heap H locs) (hA : ∀ q, s.heap.size ≤ q → A q) {n : Int32} {N' : Nat} (hn : ¬ n < 0) (hN : n.toNatClampNeg = N') (hbytes : N' * 4 ≤ 536870912) (hcells : cells + 1 ≤ R.cells) (hslots : slots + N' ≤ R.slots) (hdg : decode cc pc = .ok (.anewarray index, 3))
    (kk : ∀ (q : Nat) (H1 : Heap), va_P x.1 clsL (ws ++ [(q, .inl (x.2.2.2.2.1, N', .inr (.inr (.inr (.inr (fun _ => none))))))]) H1 → va_D A (ws ++ [(q, .inl (x.2.2.2.2.1, N', .inr (.inr (.inr (.inr (fun _ => none))))))]) → va_S A s.heap H1 locs → W p l e R s m args below meth c H1 locs (cells + 1) (slots + N') Q (F0 m (pc + 3) ls (.ref q :: rest))) : W p l e R s m args below meth c H locs cells slots Q (F0 m pc ls (.int n :: rest)) := by
  obtain ⟨⟨hx, hb, hml, hown, hts⟩, -, -, hK⟩ := hC
  refine va_newq hx hb hown (hts _ hcl) hao hK.1 hP hD hS hA hn hN hbytes hcells hslots hdg (fun q cA H1 hK1 hP1 hD1 hS1 => ?_)
  obtain ⟨_, _, _, _, _, h1⟩ := (hK1.2 4 (cA, _) rfl).2
  obtain ⟨_, _, _, _, _, h2⟩ := (hK.1.2 3 _ rfl).2
  have e1 : cA = x.2.2.2.2.1 := Option.some.inj (h1.symm.trans h2)
  subst e1
  exact kk q H1 hP1 hD1 hS1
theorem n_put {C : String} {T : u_T} {N ci : Nat} (hC : Cx x p s m args meth c cc nL rt own) (hin2 : meth.name = "<init>") (hP : va_P x.1 clsL ws H) (hD : va_D A ws) (hS : va_S A s.heap H locs) (q0 : Nat) {a : Nat} {fs : List Value} (he : ws[q0]? = some (a, .inr (ci, fs))) (hc : clsL[ci]? = some (C, T, N)) (hin : ∀ w ∈ u_ws C T N, w ∈ lwg) (ty0 : Nat → FieldType) (hty : ∀ k, k < N → parseFieldDescriptor (T k).2.2.1 = some (ty0 k)) (hnm : ∀ a, a < N → ∀ b, b < N → a ≠ b → (T a).2.1 ≠ (T b).2.1) (j : Nat) (hj : j < N) (hlink : Cond.fieldLink own index (T j).1 (T j).2.1 (T j).2.2.1 ∈ lwg) (hdecl : (T j).1 = own) {v : Value} (hn : narrow (ty0 j) v = v) (hfit : fits (ty0 j) v = true) (hl : j < fs.length) (hdg : decode cc pc = .ok (.putfield index, 3))
    (kk : ∀ (H1 : Heap) (locs1 : List Loc), va_P x.1 clsL (ws.set q0 (a, .inr (ci, fs.set j v))) H1 → va_D A (ws.set q0 (a, .inr (ci, fs.set j v))) → va_S A s.heap H1 locs1 → W p l e R s m args below meth c H1 locs1 cells slots Q (F0 m (pc + 3) ls rest)) : W p l e R s m args below meth c H locs cells slots Q (F0 m pc ls (v :: .ref a :: rest)) := by
  obtain ⟨⟨hx, hb, hml, hown, hts⟩, -, -, hK⟩ := hC
  by_cases hf : (T j).2.2.2 = true
  · exact va_putF hx hb hts hin ty0 hty hnm hown hK.1 hP hD hS q0 he hc j hj (hts _ hlink) (fun _ h => h) hf hin2 hdecl (hty j hj) hn hfit hl hdg kk
  · exact va_put hx hb hts hin ty0 hty hnm hown hK.1 hP hD hS q0 he hc j hj (hts _ hlink) (fun _ h => h) (by simpa using hf) (hty j hj) hn hfit hl hdg kk
theorem n_new {C : String} {T : u_T} {N ci : Nat} (hC : Cx x p s m args meth c cc nL rt own) (hP : va_P x.1 clsL ws H) (hD : va_D A ws) (hS : va_S A s.heap H locs) (hA : ∀ q, s.heap.size ≤ q → A q) (hc : clsL[ci]? = some (C, T, N)) (hin : ∀ w ∈ u_ws C T N, w ∈ lwg) (ty : Nat → FieldType) (hty : ∀ k, k < N → parseFieldDescriptor (T k).2.2.1 = some (ty k)) (h1 : Cond.classLink own index C ∈ lwg) (h2 : Cond.instantiable C N ∈ lwg) (h3 : Cond.initialized C ∈ lwg) {fs : List Value} (hfs : ∀ j, j < N → defaultValue (ty j) = vp_V fs j) (hcells : cells + 1 ≤ R.cells) (hslots : slots + N ≤ R.slots) (hdg : decode cc pc = .ok (.new index, 3))
    (kk : ∀ (q : Nat) (H1 : Heap), va_P x.1 clsL (ws ++ [(q, .inr (ci, fs))]) H1 → va_D A (ws ++ [(q, .inr (ci, fs))]) → va_S A s.heap H1 locs → W p l e R s m args below meth c H1 locs (cells + 1) (slots + N) Q (F0 m (pc + 3) ls (.ref q :: rest))) : W p l e R s m args below meth c H locs cells slots Q (F0 m pc ls rest) := by
  obtain ⟨⟨hx, hb, hml, hown, hts⟩, -, -, hK⟩ := hC
  exact va_new hx hb hts hin ty hty hown (hts _ h1) (hts _ h2) (hts _ h3) hK.1 hP hD hS hA hc hfs hcells hslots hdg kk
theorem CPre.blind {h0 : Nat} {e0 : va_E} {sz : Nat} {ex : State → Prop} (hex : ∀ (U : State) (g : JFrame) (mk : MethodId) (a : Array Value), ex U → ex (U.calling g mk a)) (as : List Value) : FrameBlind (va_Pc as (CPre x h0 e0 sz ex)) := by
  intro a U g mk ⟨h1, hz, hp, ⟨h2, h3⟩, h4, h5⟩
  exact ⟨h1, hz, hp, ⟨va_K.moved (u := U) (U := U.calling g mk a) (Vm.Alike.refl U.vm) h2, fun q hq => va_Nw.same (by rfl) (rfl : U.vm = (U.calling g mk a).vm) (h3 q hq)⟩, hex U g mk a h4, h5⟩
/-- the making of an object: its constructor is called -/
theorem n_run (hC : Cx x p s m args meth c cc nL rt own) {y : MethodName} {cb : ByteArray} {d q mc ms : Nat} {e0 : va_E} {Qc : Array Value → State → Outcome → State → Prop} {free : Addr → Prop} (hN : (own, index, y, "IceTrade") ∈ nests) (hy1 : y.name = "<init>") (him : Cond.instanceMethod y ∈ lwg) (hini : Cond.initialized y.cls ∈ lwg) (hd : Lk0 y 0) (hcw : Cond.code y cb 1 none ∈ lwg)
    (hM : Met l y (Cond.code y cb 1 none :: lwg) (rmm d mc ms) (va_Pc [.ref q] (CPre x q e0 H.size (fun _ => True))) Qc mc ms free) (hPc : va_P x.1 clsL [(q, e0)] H) (hDc : va_D (fun _ => True) [(q, e0)]) (hsz : ls.size = nL) (hR : d + 1 ≤ R.frames ∧ 8 + (1 + 11) + 100 * d ≤ R.locals) (hcs : cells + mc ≤ R.cells ∧ slots + ms ≤ R.slots) (hro : (rest.map fun v => v.category).sum ≤ 8) (hdg : decode cc pc = .ok (.invokespecial index, 3)) :
    va_Run p l e R s m args below meth c H locs cells slots mc ms (F0 m pc ls (.ref q :: rest)) rest (Qc [Value.ref q].toArray) free := by
  obtain ⟨hF, -, -, hK⟩ := hC
  have hts := hF.2.2.2.2
  exact va_runIN (As := []) hF hM ⟨va_cnB 0 hts (good_ww hcw) rfl rfl rfl (hK.2 _ hN) (hts _ hini) hd hR, hy1, hts _ him⟩ ⟨CPre.blind (fun _ _ _ _ h => h) _, fun U hU hW => ⟨rfl, by rw [hU], by rw [hU]; exact hPc, hK.warm hW, trivial, hDc⟩⟩ rfl rfl hsz rfl (lv_room hro) hdg hcs
theorem n_init {B : (Nat → Prop) → State → Prop} {q mc ms i : Nat} {e0 : va_E} (hP : va_P x.1 clsL ws H) (hD : va_D A ws) (hS : va_S A s.heap H locs) (hA : ∀ q, s.heap.size ≤ q → A q) (hi : ws[i]? = some (q, e0))
    (hr : va_P x.1 clsL [(q, e0)] H → va_D (fun _ => True) [(q, e0)] → va_Run p l e R s m args below meth c H locs cells slots mc ms (F0 m pc ls st) rest (va_Qv (fun (_ : Unit) => True) (fun _ t => B (va_A [(q, e0)] H.size) t) (va_A [(q, e0)] H.size) [Value.ref q].toArray) (va_A [(q, e0)] H.size))
    (kk : ∀ (t : State) (H1 : Heap) (locs1 : List Loc), t.heap = H1 → B (va_A [(q, e0)] H.size) t → (∀ z : Nat, z < H.size → ¬ va_A [(q, e0)] H.size z → H1[z]? = H[z]?) → (∀ z, va_A [(q, e0)] H.size z → A z) → va_S A s.heap H1 locs1 → W p l e R s m args below meth c H1 locs1 (cells + mc) (slots + ms) Q (F0 m (pc + 3) ls rest)) : W p l e R s m args below meth c H locs cells slots Q (F0 m pc ls st) := by
  have hs : ([i].map (fun i => ws[i]?)) = [(q, e0)].map some := by simp [hi]
  have hFc := va_free (wc := [(q, e0)]) hD hS hA [i] hs
  have hPc : va_P x.1 clsL [(q, e0)] H := hP.sub [i] (by simp [hi])
  have hDc : va_D (fun _ => True) [(q, e0)] := (hD.sub [i] (by rfl) hs).weaken (fun _ _ _ _ => trivial)
  exact va_callv (hr hPc hDc) hS (fun z _ h => hFc z h) hFc (fun u t H1 locs1 ht hvm hw hB hz1 hk1 hS1 => kk t H1 locs1 ht hB hk1 hFc hS1)
theorem n_ret {B : (Nat → Prop) → State → Prop} (hC : Cx x p s m args meth c cc nL none own) (hS : va_S A s.heap H locs) (hB : ∀ t : State, t.heap = H → B A t) (hdg : decode cc pc = .ok (.return_, 1)) : W p l e R s m args below meth c H locs cells slots (MQ below (va_Qv (fun (_ : Unit) => True) (fun _ t => B A t) A) args s cells slots A) (F0 m pc ls []) := by
  obtain ⟨⟨hx, hb, -, hown, hts⟩, hr, hlk, hK⟩ := hC
  exact W.vret hx hb hr (fun t ht hW => ⟨⟨(), rfl, trivial, hB t ht⟩, hS.F ht⟩) hS.2.2 hdg hlk
theorem met_C {y : MethodName} {cb : ByteArray} {d mc ms h0 sz : Nat} {e0 : va_E} {ex : State → Prop} {B : (Nat → Prop) → State → Prop} (hy : plainName y.cls = true) (hy1 : y.name = "<init>")
    (body : ∀ (p : Program) (e : Env) (s : State) (m : MethodId) (args : Array Value) (below : List Frame) (meth : Method) (c : Code) (ls : Array Slot) (A : Nat → Prop), Cx x p s m args meth c cb 1 none y.cls → meth.name = "<init>" → ex s → va_P x.1 clsL [(h0, e0)] s.heap → va_D A [(h0, e0)] → (∀ q, s.heap.size ≤ q → A q) → va_S A s.heap s.heap [] → lv_has ls 1 [(0, .ref h0)] → W p l e (rmm d mc ms) s m args below meth c s.heap [] 0 0 (MQ below (va_Qv (fun (_ : Unit) => True) (fun _ t => B A t) A) args s mc ms A) (F0 m 0 ls [])) :
    Met l y (Cond.code y cb 1 none :: lwg) (rmm d mc ms) (va_Pc [.ref h0] (CPre x h0 e0 sz ex)) (va_Qv (fun (_ : Unit) => True) (fun _ t => B (va_A [(h0, e0)] sz) t) (va_A [(h0, e0)] sz)) mc ms (va_A [(h0, e0)] sz) := by
  refine Met.ofW (cc := cb) (maxL := 1) (ret := none) hy rfl ?_
  intro p e s m args below meth c s₁ Bd hml hv
  obtain ⟨rfl, hsz, hP, hK, hex, hD0⟩ := hv
  have hts := atoms_spec (ws := Cond.code y cb 1 none :: lwg) Bd.pre
  subst hsz
  have hl := lv_entry ([.ref h0] : List Value) (n := 1) (Nat.le_of_ble_eq_true rfl)
  rw [lg_entry_eq]
  exact body p e s m _ below meth c _ _ ⟨⟨Bd.exec, Bd.bytes, hml, findClass_of_methodNamed Bd.named, fun w hw => hts w (List.mem_cons_of_mem _ hw)⟩, Bd.returns, Bd.notSynchronized, hK⟩ ((name_of_methodNamed Bd.named Bd.method).1.trans hy1) hex hP (hD0.self (sz := s.heap.size)) (fun q h => Or.inr h) va_S.rf hl
end CR
