/-! Float.intBitsToFloat of a signalling NaN: one of two NaNs, drawn -/
abbrev nanCopy : Choice := Jvm.Choice.named "NaN.copy"
theorem dr_stepC {cs : List Choice} {s : State} {d0 d1 : Drawn} (hd0 : s.drawn.sameBut d0 cs) (hn : nanCopy ∈ cs) (hT : d1 = d0) : s.drawn.sameBut (d1.next nanCopy) cs := by
  subst hT
  exact Drawn.sameBut.trans hd0 (Drawn.sameBut.mono (Drawn.next_named d1 "NaN.copy") (fun c hc => by
      simp only [List.mem_cons, List.not_mem_nil, or_false] at hc
      rw [hc]; exact hn))
theorem i2fSig {e : Env} {below : List Frame} {s target : State} {g : JFrame} {c : Code} {m : MethodId} {k : Class} {meth : Method} {ig : Instr} {len : Nat} (p : Program) (h : At s g.method c below) (acts : List Action)
    (N : NativeOf s.vm m k meth "java/lang/Float" "intBitsToFloat" "(I)F" true [.int]) (v : Int32)
    (hroom : e.platform.stackFull (((s.setTop g).threads[(s.setTop g).cur]?).getD { frames := [] }) (s.setTop g).frames (nativeFrameWords "java/lang/Float" "intBitsToFloat" 1) = false)
    (hv : (v.toUInt32 &&& 0x7fffffff > 0x7f800000 && v.toUInt32 &&& 0x00400000 == 0) = true)
    (hdg : decode c.code g.pc = .ok (ig, len))
    (hrest : Steps p.tables e below ((s.setDrawn (s.drawn.next nanCopy)).setTop { g with pc := g.pc + len, stack := .float (if e.choices nanCopy (s.drawn.count nanCopy) % 2 == 0 then v.toUInt32 else v.toUInt32 ||| 0x00400000) :: g.stack }) target) :
    Steps p.tables e below (doInvoke e (s.setTop g) acts m #[.int v]).1 target := by
  have hseen : seenByNative meth #[.int v] = #[.int v] := by simp [seenByNative, N.static, N.sig, narrow]
  refine Steps.nativeEnds (row := Native.java_lang_Float.bits.rowIntBitsToFloat) (v := some (.float (if e.choices nanCopy (s.drawn.count nanCopy) % 2 == 0 then v.toUInt32 else v.toUInt32 ||| 0x00400000))) (T := fun s => s.setDrawn (s.drawn.next nanCopy)) h acts N.cls N.meth N.boot N.native N.noCode N.noLock
    (by rw [N.className, N.name, N.desc]; exact intBitsToFloat_row p) (by rw [N.className, N.name]; exact hroom) (fun _ => rfl) rfl (fun _ => h.code) ?_ hdg hrest
  intro Q hq
  rw [hseen] at hq ⊢
  rw [Native.java_lang_Float.bits.intBitsToFloat_on]
  simp only [hv, if_true, wp_bind', _root_.Jvm.W.choose, _root_.Jvm.W.mark, wp_pure']
  exact hq _ _
section WI
variable {p : Program} {l : Launch} {e : Env} {R : Room} {s : State} {m : MethodId} {args : Array Value} {below : List Frame} {meth : Method} {c : Code} {H : Heap} {locs : List Loc} {cells slots : Nat} {Q : State → Prop}
variable {cc : ByteArray} {nL pc index : Nat} {rt : Option FieldType} {own : String} {ls : Array Slot} {rest st : List Value} {x : Wx} {al : Nat → Nat → Nat} {lv : Nat → Bool} {σ : Sg}
theorem Cx.drew (hC : Cx x p s m args meth c cc nL rt own) (d : Drawn) : Cx x p (s.setDrawn d) m args meth c cc nL rt own := by
  obtain ⟨⟨hx, hb, hml, hown, hts⟩, hr, hlk, hK1, hK2⟩ := hC
  exact ⟨⟨hx, hb, hml, hown, dr_words hts d⟩, hr, hlk, va_K.moved (u := s) (U := s.setDrawn d) (Vm.Alike.refl s.vm) hK1, fun q hq => va_Nw.same (by rfl) (rfl : s.vm = (s.setDrawn d).vm) (hK2 q hq)⟩
theorem wj_f1 : Cond.native ⟨"java/lang/Float", "intBitsToFloat", "(I)F"⟩ ∈ lwg := by decide +kernel
theorem wj_f2 : Cond.static ⟨"java/lang/Float", "intBitsToFloat", "(I)F"⟩ ∈ lwg := by decide +kernel
theorem wj_f3 : Cond.initialized "java/lang/Float" ∈ lwg := by decide +kernel
theorem r_i2f {cs : List Choice} {d0 : Drawn} (hd0 : s.drawn.sameBut d0 cs) (hn : nanCopy ∈ cs) (hC : Cx x p (s.setDrawn d0) m args meth c cc nL rt own) (hsz : ls.size = nL) (hlink : Cond.methodLink own index ⟨"java/lang/Float", "intBitsToFloat", "(I)F"⟩ ∈ lwg) {b : Int32} (hfr : 1 ≤ R.frames) (hlo : (rest.map fun v => v.category).sum + 15 ≤ R.locals) (hdg : decode cc pc = .ok (.invokestatic index, 3))
    (kk : ∀ (r : UInt32) (d1 : Drawn), (r = b.toUInt32 ∨ (vn_sni2f b = true ∧ r = b.toUInt32 ||| 0x00400000)) → s.drawn.sameBut d1 cs → W p l e R (s.setDrawn d1) m args below meth c H locs cells slots Q (F0 m (pc + 3) ls (.float r :: rest))) : W p l e R (s.setDrawn d0) m args below meth c H locs cells slots Q (F0 m pc ls (.int b :: rest)) := by
  obtain ⟨⟨hx, hb, hml, hown, hts⟩, -, -, hK⟩ := hC
  by_cases hv : vn_sni2f b = true
  · intro T hT X
    have hml2 := hml.trans hsz.symm
    obtain ⟨r, kS, methS, hnS, hmS, hkS, N⟩ := NativeOf.of_static (hts _ wj_f1) (hts _ wj_f2) (ps := [.int]) (ret := some .float) (by decide +kernel)
    have hinitS : kS.init = .initialized := Cond.initialized_spec (findClass_of_methodNamed hnS) hkS (hts _ wj_f3)
    obtain ⟨vm', X', step⟩ := X.invokestatic hx hown (hts _ hlink) hnS hmS N.static hkS hinitS (by decide) (g := F0 m pc ls (.int b :: rest)) rfl (argsL := [.int b]) (rest := rest) (by rw [N.sig]; rfl) rfl (by rw [hb]; exact hdg)
    obtain ⟨kS', N'⟩ := N.alike X'.warmed.alike
    have X2 := X'.drew (T.drawn.next nanCopy)
    obtain ⟨t, a1, b1⟩ := kk (if e.choices nanCopy (T.drawn.count nanCopy) % 2 == 0 then b.toUInt32 else b.toUInt32 ||| 0x00400000) (T.drawn.next nanCopy) (by split <;> first | exact Or.inl rfl | exact Or.inr ⟨hv, rfl⟩) (dr_stepC hd0 hn X.drawn_eq) _ (by show (T.setVm vm').heap = H; exact hT) X2
    refine ⟨t, step t fun acts => ?_, b1⟩
    exact i2fSig (g := F0 m pc ls rest) (ig := .invokestatic index) (len := 3) p X'.here acts N' b (X'.notFull (g := F0 m pc ls rest) (by show ls.size = _; rw [hml2]) (vars := nativeFrameWords "java/lang/Float" "intBitsToFloat" 1) hfr (by show 2 * 0 + (rest.map fun v => v.category).sum + _ ≤ _; have hw : nativeFrameWords "java/lang/Float" "intBitsToFloat" 1 = 3 := (by decide); omega)) hv (by rw [hb]; exact hdg) a1
  · exact vn_i2f hx hb (hml.trans hsz.symm) hown (hts _ hlink) (hts _ wj_f1) (hts _ wj_f2) (hts _ wj_f3) (by simpa using hv) hfr hlo hdg (kk _ d0 (Or.inl rfl) hd0)
end WI
/-- the reference's warm: what its rest does with the float t0 -/
def fM_warm (σ : Sg) (v1 v2 : Int32) : Option (Int32 × Sg) := fM_warm_4 σ v1 v2.toUInt32
theorem nan_dec {r : UInt32} (h : ¬ (r &&& 0x7fffffff ≤ 0x7f800000)) : FP.Core.decode FP.Core.b32 r.toNat = .nan := by
  have h1 : (r &&& 0x7fffffff).toNat = r.toNat % 2 ^ 31 := by
    rw [UInt32.toNat_and]
    exact Nat.and_two_pow_sub_one_eq_mod r.toNat 31
  have h2 : 0x7f800000 < r.toNat % 2 ^ 31 := by
    rw [← h1]
    exact Nat.lt_of_not_le (fun q => h (UInt32.le_iff_toNat_le.mpr q))
  have h3 : FP.Core.fieldE FP.Core.b32 r.toNat = 255 := by
    show r.toNat / 8388608 % 256 = 255
    omega
  have h4 : ¬ FP.Core.fieldT FP.Core.b32 r.toNat = 0 := by
    show ¬ r.toNat % 8388608 = 0
    omega
  unfold FP.Core.decode
  rw [if_pos (by rw [h3]; rfl), if_neg h4]
theorem nan_cmp {r : UInt32} (h : ¬ (r &&& 0x7fffffff ≤ 0x7f800000)) : FP.fcmp r r = none := by
  show FP.Core.order _ _ = none
  rw [nan_dec h]
  rfl
theorem nan_quiet {r : UInt32} (h : ¬ (r &&& 0x7fffffff ≤ 0x7f800000)) : ¬ ((r ||| 0x00400000) &&& 0x7fffffff ≤ 0x7f800000) := by
  intro q
  refine h (UInt32.le_iff_toNat_le.mpr (Nat.le_trans ?_ (UInt32.le_iff_toNat_le.mp q)))
  rw [UInt32.toNat_and, UInt32.toNat_and, UInt32.toNat_or, Nat.and_or_distrib_right]
  exact Nat.left_le_or
theorem warm_nan {σ : Sg} {x1 : Int32} {t : UInt32} (h : FP.fcmp t t = none) : fM_warm_4 σ x1 t = fM_warm_16 σ x1 0 0 := by
  unfold fM_warm_4
  rw [h, if_neg (by decide)]
  unfold fM_warm_16
  congr 1
theorem warm_any {σ : Sg} {v1 v2 : Int32} {r : UInt32} (h : r = v2.toUInt32 ∨ (vn_sni2f v2 = true ∧ r = v2.toUInt32 ||| 0x00400000)) : fM_warm_4 σ v1 r = fM_warm_4 σ v1 v2.toUInt32 := by
  rcases h with rfl | ⟨h1, rfl⟩
  · rfl
  · have h2 : ¬ (v2.toUInt32 &&& 0x7fffffff ≤ 0x7f800000) := by
      unfold vn_sni2f at h1
      simp only [Bool.and_eq_true, decide_eq_true_eq] at h1
      exact UInt32.not_le.mpr h1.1
    rw [warm_nan (nan_cmp h2), warm_nan (nan_cmp (nan_quiet h2))]
set_option maxRecDepth 20000 in
theorem tM_warm {l : Launch} (x : Wx) (al : Nat → Nat → Nat) (lv : Nat → Bool) (σ : Sg) (v1 : Int32) (v2 : Int32) (res : Int32 × Sg) (h : fM_warm σ v1 v2 = some res) : MetD lw_cs l yX12_warm (Cond.code yX12_warm cX12_warm 5 (some .int) :: lwg) (rmm 2 0 0) (va_Pc [.ref (al 7 0), .int v1, .int v2] (Wd x al lv σ)) (QI x al lv res) 0 0 (Ab x) := by
  refine MetD.ofW (cc := cX12_warm) (maxL := 5) (ret := some .int) (by decide) rfl ?_
  intro p e s m args below meth c s₁ B hml hv hd0
  obtain ⟨rfl, hK, hP⟩ := hv
  have hts := atoms_spec (ws := Cond.code yX12_warm cX12_warm 5 (some .int) :: lwg) B.pre
  have hC : Cx x p s m _ meth c cX12_warm 5 (some .int) RX12 := ⟨⟨B.exec, B.bytes, hml, findClass_of_methodNamed B.named, fun w hw => hts w (List.mem_cons_of_mem _ hw)⟩, B.returns, B.notSynchronized, hK⟩
  have hC' := hC.drew s.drawn
  obtain ⟨hx, hb, -⟩ := hC.1
  have hl := lv_entry ([.ref (al 7 0), .int v1, .int v2] : List Value) (n := 5) (Nat.le_of_ble_eq_true rfl)
  rw [lg_entry_eq]
  generalize (lg_sl ([.ref (al 7 0), .int v1, .int v2] : List Value) ++ List.replicate (5 - (lg_sl ([.ref (al 7 0), .int v1, .int v2] : List Value)).length) Slot.unset).toArray = ls at hl ⊢
  have hl : lv_has ls 5 [(0, .ref (al 7 0)), (1, .int v1), (2, .int v2)] := hl
  refine lv_iload_n hx hb dX12_warm_0 rfl (lv_at hl 2 rfl) ?_
  refine r_i2f hd0 (by decide) hC' hl.1 wm_X12_139 (Nat.le_of_ble_eq_true rfl) (Nat.le_of_ble_eq_true rfl) dX12_warm_1 (fun r d1 hr hd1 => ?_)
  refine W.endD hd1 ?_
  exact wM_warm_4 (hC.drew d1) σ v1 r _ _ ls (by rw [warm_any hr]; exact h) hP va_S.rf (lv_sub hl [0, 1] rfl)
