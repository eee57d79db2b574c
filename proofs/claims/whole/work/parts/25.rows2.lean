def acg (sp dp n : Int32) (n0 n1 : Nat) : Bool := decide ((¬ sp < 0 ∧ ¬ dp < 0 ∧ ¬ n < 0) ∧ sp.toNatClampNeg + n.toNatClampNeg ≤ n0 ∧ dp.toNatClampNeg + n.toNatClampNeg ≤ n1)
theorem wj_st : Cond.static Lib.Math.min.name ∈ lwg := by decide +kernel
theorem wj_in : Cond.initialized "java/lang/Math" ∈ lwg := by decide +kernel
theorem wj_cw : Cond.code Lib.Math.min.name Lib.Math.min.code 2 (some .int) ∈ lwg := by decide +kernel
theorem wj_ac1 : Cond.native arraycopyName ∈ lwg := by decide +kernel
theorem wj_ac2 : Cond.static arraycopyName ∈ lwg := by decide +kernel
theorem wj_ac3 : Cond.initialized "java/lang/System" ∈ lwg := by decide +kernel
theorem h26 {n : Nat} (h : n < 4) : 2 + n < 6 := by omega
section RW2
variable {p : Program} {l : Launch} {e : Env} {R : Room} {s : State} {m : MethodId} {args : Array Value} {below : List Frame} {meth : Method} {c : Code} {H : Heap} {locs : List Loc} {cells slots : Nat} {Q : State → Prop}
variable {cc : ByteArray} {nL pc index : Nat} {rt : Option FieldType} {own : String} {ls : Array Slot} {rest st : List Value} {x : Wx} {al : Nat → Nat → Nat} {lv : Nat → Bool} {σ : Sg} {β : Type} {res : β}
theorem r_min (hC : Cx x p s m args meth c cc nL rt own) (hsz : ls.size = nL) (hlink : Cond.methodLink own index Lib.Math.min.name ∈ lwg) {a b : Int32} (hfr : 1 ≤ R.frames) (hlo : (rest.map fun v => v.category).sum + 13 ≤ R.locals) (hc : cells ≤ R.cells) (hs : slots ≤ R.slots) (hdg : decode cc pc = .ok (.invokestatic index, 3))
    (kk : W p l e R s m args below meth c H locs cells slots Q (F0 m (pc + 3) ls (.int (if b < a then b else a) :: rest))) : W p l e R s m args below meth c H locs cells slots Q (F0 m pc ls (.int b :: .int a :: rest)) := by
  obtain ⟨⟨hx, hb, hml, hown, hts⟩, -, -, hK⟩ := hC
  exact va_mmin hx hb (hml.trans hsz.symm) hown (hts _ hlink) (hts _ wj_st) (hts _ wj_in) (hts _ wj_cw) hfr hlo hc hs hdg kk
theorem r_acopy (hC : Cx x p s m args meth c cc nL rt own) (hP : Pic x al lv σ H) (hS : va_S (Ab x) s.heap H locs) (hsz : ls.size = nL) (hlink : Cond.methodLink own index arraycopyName ∈ lwg) {a0 k0 n0 a1 k1 n1 : Nat} (hA0 : AI x al lv a0 k0 n0) (hA1 : AI x al lv a1 k1 n1) {sp dp n : Int32} {F : Sg → Option β} (h : gd (acg sp dp n n0 n1) (lt (upA σ a1 k1 (va_cpy (σ a0 k0) (σ a1 k1) sp.toNatClampNeg dp.toNatClampNeg n.toNatClampNeg)) F) = some res)
    (hfr : 1 ≤ R.frames) (hlo : (rest.map fun v => v.category).sum + (nativeFrameWords "java/lang/System" "arraycopy" 5 + 11) ≤ R.locals) (hdg : decode cc pc = .ok (.invokestatic index, 3))
    (kk : ∀ (σ1 : Sg) (H1 : Heap) (locs1 : List Loc), F σ1 = some res → Pic x al lv σ1 H1 → va_S (Ab x) s.heap H1 locs1 → W p l e R s m args below meth c H1 locs1 cells slots Q (F0 m (pc + 3) ls rest)) : W p l e R s m args below meth c H locs cells slots Q (F0 m pc ls (.int n :: .int dp :: .ref (al a1 k1) :: .int sp :: .ref (al a0 k0) :: rest)) := by
  obtain ⟨⟨hx, hb, hml, hown, hts⟩, -, -, hK⟩ := hC
  obtain ⟨hg, h⟩ := gd_e h
  obtain ⟨⟨h1, h2, h3⟩, h4, h5⟩ := of_decide_eq_true hg
  have nn : ∀ z : Int32, ¬ z < 0 → z.toInt = (z.toNatClampNeg : Int) := by
    intro z hz
    have hz0 : (0 : Int) ≤ z.toInt := by
      have := Int32.not_lt.mp hz
      simpa using Int32.le_iff_toInt_le.mp this
    show z.toInt = ((z.toInt.toNat : Nat) : Int)
    omega
  intro T hT X
  have hc0 : H[al a0 k0]? = some (vp_cell x.2.1 (n0, .inl (σ a0 k0))) := by
    have h0 := hP.1 a0 k0 hA0.1 hA0.2.1
    rw [hA0.2.2] at h0
    exact h0
  have hc1 : H[al a1 k1]? = some (vp_cell x.2.1 (n1, .inl (σ a1 k1))) := by
    have h0 := hP.1 a1 k1 hA1.1 hA1.2.1
    rw [hA1.2.2] at h0
    exact h0
  obtain ⟨-, q0, hk0, cm0, hkk0⟩ := (hK.1.2 0 _ rfl).1 n0 (fun j => .int (σ a0 k0 j))
  obtain ⟨vm', X', step⟩ := X.arraycopy hx hown (hts _ hlink) (hts _ wj_ac1) (hts _ wj_ac2) (hts _ wj_ac3) (src := al a0 k0) (dst := al a1 k1) (cs := vp_cell x.2.1 (n0, .inl (σ a0 k0))) (cd := vp_cell x.2.1 (n1, .inl (σ a1 k1))) (srcPos := sp) (destPos := dp) (n := n) (by rw [hT]; exact hc0) (by rw [hT]; exact hc1)
    (fun _ h => by cases h) (fun _ h => by cases h) (fun h => by cases h) (fun h => by cases h) hk0 hk0 hkk0 hkk0 (by simp [refKind]) h1 h2 h3
    (by rw [nn sp h1, nn n h3]; show ¬ _ > ((arrV x.2.1 n0 (fun j => .int (σ a0 k0 j))).slots.size : Int); rw [arrV_size]; omega)
    (by rw [nn dp h2, nn n h3]; show ¬ _ > ((arrV x.2.1 n1 (fun j => .int (σ a1 k1 j))).slots.size : Int); rw [arrV_size]; omega)
    (fun vm₁ _ i hi => by
      have e : (vp_cell x.2.1 (n0, .inl (σ a0 k0))).slots.getD (sp.toNatClampNeg + i) .null = .int (σ a0 k0 (sp.toNatClampNeg + i)) := by
        show (arrV x.2.1 n0 (fun j => .int (σ a0 k0 j))).slots.getD _ _ = _
        rw [Array.getD_eq_getD_getElem?, arrV_read _ _ (by omega)]
        rfl
      refine ⟨?_, ?_⟩
      · rw [e]
        rfl
      · rw [e]
        exact trivial)
    (g := F0 m pc ls (.int n :: .int dp :: .ref (al a1 k1) :: .int sp :: .ref (al a0 k0) :: rest)) rfl (by rw [hml]; exact hsz) (rest := rest) rfl (by rw [hb]; exact hdg) hfr (by show 2 * 0 + _ + _ ≤ _; omega)
  have e1 : copied (vp_cell x.2.1 (n0, .inl (σ a0 k0))) (vp_cell x.2.1 (n1, .inl (σ a1 k1))) sp dp n = vp_cell x.2.1 (n1, .inl (va_cpy (σ a0 k0) (σ a1 k1) sp.toNatClampNeg dp.toNatClampNeg n.toNatClampNeg)) := va_copied (fun z => .int z) x.2.1 x.2.1 (σ a0 k0) (σ a1 k1) h4
  rw [e1] at X' step
  have hl : al a1 k1 < H.size := (Array.getElem?_eq_some_iff.mp hc1).1
  have hheap : ((T.setVm vm').setCell (al a1 k1) (vp_cell x.2.1 (n1, .inl (va_cpy (σ a0 k0) (σ a1 k1) sp.toNatClampNeg dp.toNatClampNeg n.toNatClampNeg)))).heap = H.setIfInBounds (al a1 k1) (vp_cell x.2.1 (n1, .inl (va_cpy (σ a0 k0) (σ a1 k1) sp.toNatClampNeg dp.toNatClampNeg n.toNatClampNeg))) := by rw [← hT]; rfl
  have oq : ∀ q : Nat, q ≠ al a1 k1 → (H.setIfInBounds (al a1 k1) (vp_cell x.2.1 (n1, .inl (va_cpy (σ a0 k0) (σ a1 k1) sp.toNatClampNeg dp.toNatClampNeg n.toNatClampNeg))))[q]? = H[q]? := fun q hq => by simp [Array.getElem?_setIfInBounds, Ne.symm hq]
  have hb1 := hP.2.2.1 a1 k1 hA1.1 hA1.2.1
  have hPn : Pic x al lv (upA σ a1 k1 (va_cpy (σ a0 k0) (σ a1 k1) sp.toNatClampNeg dp.toNatClampNeg n.toNatClampNeg)) (H.setIfInBounds (al a1 k1) (vp_cell x.2.1 (n1, .inl (va_cpy (σ a0 k0) (σ a1 k1) sp.toNatClampNeg dp.toNatClampNeg n.toNatClampNeg)))) := by
    refine hP.set hA1.1 hA1.2.1 ?_ oq
    rw [hA1.2.2]
    show (H.setIfInBounds (al a1 k1) _)[al a1 k1]? = some _
    simp [Array.getElem?_setIfInBounds, hl]
  obtain ⟨t, b2, b3⟩ := kk _ _ _ h hPn ⟨by simp; exact hS.1, fun q g1 g2 => by
      rw [oq q (fun e => g2 (by rw [e]; exact hb1))]
      exact hS.2.1 q g1 g2, fun q hq => by
      rcases List.mem_append.mp hq with h | h
      · exact hS.2.2 q h
      · obtain ⟨z, -, hz⟩ := List.mem_map.mp h
        rw [← hz]
        exact hb1⟩ _ hheap X'
  exact ⟨t, step t b2, b3⟩
theorem r_aald (hC : Cx x p s m args meth c cc nL rt own) (hP : Pic x al lv σ H) {i : Int32} {o : Option β} (h : gd (ib i 4) o = some res) (hdg : decode cc pc = .ok (.aaload, 1))
    (kk : i.toNatClampNeg < 4 → o = some res → W p l e R s m args below meth c H locs cells slots Q (F0 m (pc + 1) ls (nrf (lv (2 + i.toNatClampNeg)) (al (2 + i.toNatClampNeg) 0) :: rest))) : W p l e R s m args below meth c H locs cells slots Q (F0 m pc ls (.int i :: .ref (al 6 8) :: rest)) := by
  obtain ⟨⟨hx, hb, -, hown, hts⟩, -, -, hK⟩ := hC
  obtain ⟨hg, h⟩ := gd_e h
  have hlt : i.toNatClampNeg < 4 := Nat.not_le.mp fun q => ib_in hg (Or.inr q)
  have h1 := kk hlt h
  rw [← va_rf_nro] at h1
  exact va_aldq (n := 4) (f := fun j => nro (lv (2 + j)) (al (2 + j) 0)) hx hb hK.1 (hP.one (a := 6) (k := 8) hP.l6 rfl) 0 3 rfl rfl (ib_in hg) hdg h1
end RW2
