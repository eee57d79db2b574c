
def mk2 {β : Type} (σ : Sg) (lv : Nat → Bool) (F : Sg → (Nat → Bool) → Option β) : Option β := F σ lv
def zap (σ : Sg) (i : Nat) : Sg := fun s => if s = i then (fun _ _ => 0) else σ s
def setL (lv : Nat → Bool) (i : Nat) : Nat → Bool := fun s => if s = i then true else lv s
def setA (al : Nat → Nat → Nat) (i : Nat) (g : Nat → Nat) : Nat → Nat → Nat := fun s => if s = i then g else al s
theorem setA_ne {al : Nat → Nat → Nat} {i s : Nat} {g : Nat → Nat} (h : ¬ s = i) : setA al i g s = al s := if_neg h
theorem setA_eq {al : Nat → Nat → Nat} {i : Nat} {g : Nat → Nat} : setA al i g i = g := if_pos rfl
theorem setL_ne {lv : Nat → Bool} {i s : Nat} (h : ¬ s = i) : setL lv i s = lv s := if_neg h
theorem zap_ne {σ : Sg} {i s : Nat} (h : ¬ s = i) : zap σ i s = σ s := if_neg h
theorem zap_eq {σ : Sg} {i : Nat} : zap σ i i = fun _ _ => 0 := if_pos rfl
theorem isC_le {s k : Nat} (h : isC s k = true) : s ≤ 10 := by
  rcases Nat.lt_or_ge 10 s with q | q
  · exfalso
    unfold isC at h
    rw [if_neg (by omega)] at h
    split at h <;> first | omega | cases h
  · exact q
set_option maxHeartbeats 4000000 in
theorem ent_cong {x : Wx} {al al1 : Nat → Nat → Nat} {lv lv1 : Nat → Bool} {s k : Nat} {d : Nat → Int32} (h : al1 s = al s) (hs : ¬ (s = 6 ∧ (k = 0 ∨ k = 8))) : ent x al1 lv1 s k d = ent x al lv s k d := by
  unfold ent
  by_cases h6 : s < 6
  · rw [if_pos h6, if_pos h6]
    unfold entS
    rw [h]
  · rw [if_neg h6, if_neg h6]
    split
    · unfold entI
      split <;> first | rfl | (exfalso; exact hs ⟨rfl, Or.inl rfl⟩) | (exfalso; exact hs ⟨rfl, Or.inr rfl⟩) | (rw [h])
    · unfold entM; rw [h]
    · unfold entB; rw [h]
    · unfold entF; rw [h]
    · unfold entP; rw [h]
    · rfl
theorem Pic.grow {x : Wx} {al : Nat → Nat → Nat} {lv : Nat → Bool} {σ : Sg} {H H2 : Heap} (hP : Pic x al lv σ H) {i : Nat} {g : Nat → Nat} (h0 : ¬ 0 = i) (h6 : ¬ 6 = i) (h7 : ¬ 7 = i) (hv : lv i = false)
    (hn : ∀ k, isC i k = true → va_at x.1 clsL (g k, ent x (setA al i g) (setL lv i) i k (fun _ => 0)) H2) (hinj : ∀ k k', isC i k = true → isC i k' = true → g k = g k' → k' = k) (hfr : ∀ k, isC i k = true → H.size ≤ g k)
    (h60 : va_at x.1 clsL (al 6 0, ent x (setA al i g) (setL lv i) 6 0 (σ 6 0)) H2) (h68 : va_at x.1 clsL (al 6 8, ent x (setA al i g) (setL lv i) 6 8 (σ 6 8)) H2)
    (hot : ∀ s k, lv s = true → isC s k = true → ¬ (s = 6 ∧ (k = 0 ∨ k = 8)) → H2[al s k]? = H[al s k]?) : Pic x (setA al i g) (setL lv i) (zap σ i) H2 := by
  have hb : x.2.2.2.2.2 ≤ H.size := Nat.le_trans (hP.2.2.1 0 0 hP.l0 rfl) (Nat.le_of_lt (hP.1 0 0 hP.l0 rfl).lt)
  have hlt : ∀ s k, lv s = true → isC s k = true → al s k < H.size := fun s k h1 h2 => (hP.1 s k h1 h2).lt
  refine ⟨fun s k h1 h2 => ?_, fun s k s' k' h1 h2 h3 h4 h5 => ?_, fun s k h1 h2 => ?_, ?_, ?_, ?_⟩
  · by_cases hs : s = i
    · subst hs
      rw [zap_eq, setA_eq]
      exact hn k h2
    · rw [zap_ne hs, setA_ne hs]
      rw [setL_ne hs] at h1
      by_cases hz : s = 6 ∧ (k = 0 ∨ k = 8)
      · obtain ⟨rfl, rfl | rfl⟩ := hz
        · exact h60
        · exact h68
      · rw [ent_cong (al := al) (lv := lv) (setA_ne hs) hz]
        exact (hP.1 s k h1 h2).kept (hot s k h1 h2 hz)
  · by_cases hs : s = i
    · subst hs
      rw [setA_eq] at h5
      by_cases hs' : s' = s
      · subst hs'
        rw [setA_eq] at h5
        exact ⟨rfl, hinj k k' h2 h4 h5⟩
      · rw [setA_ne hs'] at h5
        rw [setL_ne hs'] at h3
        have a1 := hfr k h2
        have a2 := hlt s' k' h3 h4
        omega
    · rw [setA_ne hs] at h5
      rw [setL_ne hs] at h1
      by_cases hs' : s' = i
      · subst hs'
        rw [setA_eq] at h5
        have a1 := hfr k' h4
        have a2 := hlt s k h1 h2
        omega
      · rw [setA_ne hs'] at h5
        rw [setL_ne hs'] at h3
        exact hP.2.1 s k s' k' h1 h2 h3 h4 h5
  · by_cases hs : s = i
    · subst hs
      rw [setA_eq]
      exact Nat.le_trans hb (hfr k h2)
    · rw [setA_ne hs]
      rw [setL_ne hs] at h1
      exact hP.2.2.1 s k h1 h2
  · rw [setL_ne h0]; exact hP.l0
  · rw [setL_ne h6]; exact hP.l6
  · rw [setL_ne h7]; exact hP.l7
theorem rowO_cong {x : Wx} {al al1 : Nat → Nat → Nat} {lv lv1 : Nat → Bool} {d : Nat → Int32} {q : Nat} {H : Heap} (h1 : ∀ j, j < 4 → al1 (2 + j) = al (2 + j)) (h2 : ∀ j, j < 4 → lv1 (2 + j) = lv (2 + j)) (h : va_at x.1 clsL (q, ent x al lv 6 8 d) H) : va_at x.1 clsL (q, ent x al1 lv1 6 8 d) H := by
  have h0 : H[q]? = some (arrV x.2.2.2.2.1 4 (fun j => va_rf (nro (lv (2 + j)) (al (2 + j) 0)))) := h
  show H[q]? = some (arrV x.2.2.2.2.1 4 (fun j => va_rf (nro (lv1 (2 + j)) (al1 (2 + j) 0))))
  rw [h0]
  unfold arrV
  congr 3
  funext j
  show va_rf (nro (lv (2 + j.val)) (al (2 + j.val) 0)) = va_rf (nro (lv1 (2 + j.val)) (al1 (2 + j.val) 0))
  rw [h1 j.val j.isLt, h2 j.val j.isLt]
theorem hb_size {x : Wx} {al : Nat → Nat → Nat} {lv : Nat → Bool} {σ : Sg} {H : Heap} (hP : Pic x al lv σ H) : x.2.2.2.2.2 ≤ H.size := Nat.le_trans (hP.2.2.1 0 0 hP.l0 rfl) (Nat.le_of_lt (hP.1 0 0 hP.l0 rfl).lt)
theorem one_P {x : Wx} {q : Nat} {w : va_E} {H : Heap} (h : va_at x.1 clsL (q, w) H) : va_P x.1 clsL [(q, w)] H := by
  intro k w' hw
  have hz : k < 1 := (List.getElem?_eq_some_iff.mp hw).1
  rw [show k = 0 by omega] at hw
  cases hw
  exact h
theorem one_D {q : Nat} {w : va_E} : va_D (fun _ => True) [(q, w)] := ⟨fun i j a b h1 h2 _ => by
    have z1 : i < 1 := (List.getElem?_eq_some_iff.mp h1).1
    have z2 : j < 1 := (List.getElem?_eq_some_iff.mp h2).1
    omega, fun _ _ _ => trivial⟩
theorem one_A {q z sz : Nat} {w : va_E} (h : va_A [(q, w)] sz z) : z = q ∨ sz ≤ z := by
  rcases h with ⟨k, w', h⟩ | h
  · have hz : k < 1 := (List.getElem?_eq_some_iff.mp h).1
    rw [show k = 0 by omega] at h
    cases h
    exact Or.inl rfl
  · exact Or.inr h
def QA (x : Wx) (al0 : Nat → Nat → Nat) (res : Int32 × Sg × (Nat → Bool)) : Array Value → State → Outcome → State → Prop := va_Qi (fun r (u : Sg × (Nat → Bool)) => (r, u) = res) (fun u t => ∃ al1 : Nat → Nat → Nat, al1 6 0 = al0 6 0 ∧ al1 7 0 = al0 7 0 ∧ Wd x al1 u.2 u.1 t) (Ab x)
theorem r_retA {p : Program} {l : Launch} {e : Env} {R : Room} {s : State} {m : MethodId} {args : Array Value} {below : List Frame} {meth : Method} {c : Code} {H : Heap} {locs : List Loc} {cells slots : Nat} {cc : ByteArray} {nL pc : Nat} {own : String} {ls : Array Slot} {x : Wx} {al al0 : Nat → Nat → Nat} {lv : Nat → Bool} {σ : Sg} {ty : FieldType} (hC : Cx x p s m args meth c cc nL (some ty) own) (h60 : al 6 0 = al0 6 0) (h70 : al 7 0 = al0 7 0) (hP : Pic x al lv σ H) (hS : va_S (Ab x) s.heap H locs) {v : Int32} {r : Int32 × Sg × (Nat → Bool)} (hn : narrow ty (.int v) = .int v) (h : some (v, σ, lv) = some r) (hdg : decode cc pc = .ok (.ireturn, 1)) : W p l e R s m args below meth c H locs cells slots (MQ below (QA x al0 r) args s cells slots (Ab x)) (F0 m pc ls [.int v]) := by
  obtain ⟨⟨hx, hb, -, hown, hts⟩, hr, hlk, hK⟩ := hC
  cases h
  exact W.zret hx hb hr hn (fun t ht hW => ⟨⟨v, (σ, lv), rfl, rfl, al, h60, h70, hK.warm hW, by rw [ht]; exact hP⟩, hS.F ht⟩) hS.2.2 hdg hlk
section MK
variable {p : Program} {l : Launch} {e : Env} {R : Room} {s : State} {m : MethodId} {args : Array Value} {below : List Frame} {meth : Method} {c : Code} {H : Heap} {locs : List Loc} {cells slots : Nat} {Q : State → Prop}
variable {cc : ByteArray} {nL pc index : Nat} {rt : Option FieldType} {own : String} {ls : Array Slot} {rest st : List Value} {x : Wx} {al : Nat → Nat → Nat} {lv : Nat → Bool} {σ : Sg} {β : Type} {res : β}
/-- a reference into a field that isn't final -/
theorem r_putR {C : String} {T : u_T} {N ci : Nat} (hC : Cx x p s m args meth c cc nL rt own) {a : Nat} {fs : List Value} (he : va_at x.1 clsL (a, .inr (ci, fs)) H) (hS : va_S (Ab x) s.heap H locs) (hab : x.2.2.2.2.2 ≤ a) (hc : clsL[ci]? = some (C, T, N)) (hin : ∀ w ∈ u_ws C T N, w ∈ lwg) (ty0 : Nat → FieldType) (hty : ∀ k, k < N → parseFieldDescriptor (T k).2.2.1 = some (ty0 k)) (hnm : ∀ a, a < N → ∀ b, b < N → a ≠ b → (T a).2.1 ≠ (T b).2.1) (j : Nat) (hj : j < N) (hlink : Cond.fieldLink own index (T j).1 (T j).2.1 (T j).2.2.1 ∈ lwg) (hfin : (T j).2.2.2 = false) {v : Value} (hn : narrow (ty0 j) v = v) (hfit : fits (ty0 j) v = true) (hl : j < fs.length) (hdg : decode cc pc = .ok (.putfield index, 3))
    (kk : ∀ (H1 : Heap) (locs1 : List Loc), va_at x.1 clsL (a, .inr (ci, fs.set j v)) H1 → (∀ q : Nat, q ≠ a → H1[q]? = H[q]?) → va_S (Ab x) s.heap H1 locs1 → W p l e R s m args below meth c H1 locs1 cells slots Q (F0 m (pc + 3) ls rest)) : W p l e R s m args below meth c H locs cells slots Q (F0 m pc ls (v :: .ref a :: rest)) := by
  obtain ⟨⟨hx, hb, -, hown, hts⟩, -, -, hK⟩ := hC
  have hap := va_apart (own := own) hts hin ty0 hty hnm hK.1 hc
  obtain ⟨r, h1, cell, q1, q2, q3, q4⟩ := he
  have hr : r = (C, T, N) := Option.some.inj (h1.symm.trans hc)
  subst hr
  obtain ⟨hSl, hfc, kC, hkC, hkind⟩ := hK.1.1 ci _ hc
  obtain ⟨cf, kf, fi, f, hi, hsl⟩ := hSl j hj
  have hlay := hts _ (hin _ (u_in_lay hj))
  unfold u_lay at hlay
  rw [if_neg (by rw [hfin]; decide)] at hlay
  have hst := (u_facts hfc hkC (u_lays hts hin hj) hi).1
  have h6 := u_store hfc hkC hkind hlay hi (hty j hj) hn hfit
  refine W.putK hx hb (f := f) ⟨hown, hts _ hlink, ⟨_, _, _, hi⟩, hst⟩ (by rw [q2]; exact h6) q1 q3 (by rw [hsl]; exact k2_hasslot (q4 j hj)) rfl rfl hdg fun H' e1 e2 e3 => ?_
  rw [hsl] at e1 ⊢
  exact kk H' _ ⟨_, hc, t_OB.to (V := updV (vp_V fs) j v) ⟨_, e1, q2, q3, t_set q4 hap hj v⟩ (fun i _ => vp_updV_set hl v i)⟩ e3 (hS.put e2 e3 hab)
/-- new, dup, the constructor: a made object beside the world -/
theorem r_made {C : String} {T : u_T} {N ci idxN idxI d mc ms : Nat} {fs : List Value} {y : MethodName} {cb : ByteArray} {B : (Nat → Prop) → Nat → State → Prop} (hC : Cx x p s m args meth c cc nL rt own) (hP : Pic x al lv σ H) (hS : va_S (Ab x) s.heap H locs) (hsz : ls.size = nL) (hc : clsL[ci]? = some (C, T, N)) (hin : ∀ w ∈ u_ws C T N, w ∈ lwg) (ty : Nat → FieldType) (hty : ∀ k, k < N → parseFieldDescriptor (T k).2.2.1 = some (ty k)) (h1 : Cond.classLink own idxN C ∈ lwg) (h2 : Cond.instantiable C N ∈ lwg) (h3 : Cond.initialized C ∈ lwg) (hfs : ∀ j, j < N → defaultValue (ty j) = vp_V fs j)
    (hN : (own, idxI, y, "IceTrade") ∈ nests) (hy1 : y.name = "<init>") (him : Cond.instanceMethod y ∈ lwg) (hini : Cond.initialized y.cls ∈ lwg) (hd : Lk0 y 0) (hcw : Cond.code y cb 1 none ∈ lwg)
    (hM : ∀ q sz, Met l y (Cond.code y cb 1 none :: lwg) (rmm d mc ms) (va_Pc [.ref q] (CPre x q (.inr (ci, fs)) sz (fun _ => True))) (va_Qv (fun (_ : Unit) => True) (fun _ t => B (va_A [(q, .inr (ci, fs))] sz) q t) (va_A [(q, .inr (ci, fs))] sz)) mc ms (va_A [(q, .inr (ci, fs))] sz))
    (hR : d + 1 ≤ R.frames ∧ 8 + (1 + 11) + 100 * d ≤ R.locals) (hcs : cells + 1 + mc ≤ R.cells ∧ slots + N + ms ≤ R.slots) (hro : (rest.map fun v => v.category).sum ≤ 7) (d1 : decode cc pc = .ok (.new idxN, 3)) (d2 : decode cc (pc + 3) = .ok (.dup, 1)) (d3 : decode cc (pc + 4) = .ok (.invokespecial idxI, 3))
    (kk : ∀ (q : Nat) (t : State) (H1 : Heap) (locs1 : List Loc), q = H.size → t.heap = H1 → B (va_A [(q, .inr (ci, fs))] (H.size + 1)) q t → (∀ z, z < H.size → H1[z]? = H[z]?) → va_S (Ab x) s.heap H1 locs1 → W p l e R s m args below meth c H1 locs1 (cells + 1 + mc) (slots + N + ms) Q (F0 m (pc + 7) ls (.ref q :: rest))) : W p l e R s m args below meth c H locs cells slots Q (F0 m pc ls rest) := by
  have hbs := hb_size hP
  obtain ⟨⟨hx, hb, hml, hown, hts⟩, hr, hlk, hK⟩ := id hC
  have hKn := hK.1.1 ci _ hc
  refine W.newcK hx hb hown (hts _ h1) (hts _ h2) (hts _ h3) rfl d1 (by omega) (by omega) hKn.2.1 rfl fun H1 kC hkC e1 z1 o1 => ?_
  have hB1 : va_at x.1 clsL (H.size, .inr (ci, fs)) H1 := ⟨_, hc, (u_born ty hts hin hKn hkC e1 hty).to hfs⟩
  refine lv_dup hx hb d2 rfl ?_
  have hS1 : va_S (Ab x) s.heap H1 locs := ⟨Nat.le_trans hS.1 (by omega), fun z g1 g2 => (o1 z (Nat.lt_of_lt_of_le g1 hS.1)).trans (hS.2.1 z g1 g2), hS.2.2⟩
  have hab : ∀ z, va_A [(H.size, (.inr (ci, fs) : va_E))] H1.size z → Ab x z := fun z h => by
    rcases one_A h with q | q
    · rw [q]; exact hbs
    · exact Nat.le_trans hbs (by omega)
  refine va_callv (n_run (rest := .ref H.size :: rest) hC hN hy1 him hini hd hcw (hM H.size H1.size) (one_P hB1) one_D hsz hR ⟨by omega, by omega⟩ (by simp only [List.map_cons, List.sum_cons]; show 1 + _ ≤ 8; omega) d3) hS1 (fun z _ h => hab z h) hab (fun u t H2 locs2 ht hvm hw hB hz hk hS2 => ?_)
  refine kk H.size t H2 locs2 rfl ht (by rw [← z1]; exact hB) (fun z hz => ?_) hS2
  rw [hk z (by omega) (fun h => by rcases one_A h with q | q <;> omega)]
  exact o1 z hz
set_option maxHeartbeats 4000000 in
theorem mk_B {idxN idxI idxP : Nat} (hC : Cx x p s m args meth c cc nL rt RX11) (hP : Pic x al lv σ H) (hS : va_S (Ab x) s.heap H locs) (hsz : ls.size = nL) (hv : lv 8 = false) (h1 : Cond.classLink RX11 idxN RX1 ∈ lwg) (hN : (RX11, idxI, yX1_init, "IceTrade") ∈ nests) (hlink : Cond.fieldLink RX11 idxP RX11 "book" "LIceTrade$Book;" ∈ lwg)
    (hR : 1 + 1 ≤ R.frames ∧ 8 + (1 + 11) + 100 * 1 ≤ R.locals) (hcs : cells + 1 + 2 ≤ R.cells ∧ slots + 4 + 3600 ≤ R.slots) (hro : (rest.map fun v => v.category).sum ≤ 6) (d1 : decode cc pc = .ok (.new idxN, 3)) (d2 : decode cc (pc + 3) = .ok (.dup, 1)) (d3 : decode cc (pc + 4) = .ok (.invokespecial idxI, 3)) (d4 : decode cc (pc + 7) = .ok (.putfield idxP, 3))
    {F : Sg → (Nat → Bool) → Option β} (h : mk2 (zap σ 8) (setL lv 8) F = some res)
    (kk : ∀ (σ1 : Sg) (lv1 : Nat → Bool) (al1 : Nat → Nat → Nat) (H1 : Heap) (locs1 : List Loc), F σ1 lv1 = some res → al1 6 0 = al 6 0 → al1 7 0 = al 7 0 → lv1 8 = true → (∀ z, lv z = true → lv1 z = true) → Pic x al1 lv1 σ1 H1 → va_S (Ab x) s.heap H1 locs1 → W p l e R s m args below meth c H1 locs1 (cells + 1 + 2) (slots + 4 + 3600) Q (F0 m (pc + 10) ls rest)) : W p l e R s m args below meth c H locs cells slots Q (F0 m pc ls (.ref (al 6 0) :: rest)) := by
  refine r_made (ci := 1) (fs := [.int 0, .int 0, .null, .null]) (B := fun A q t => at_X1 x A q t) hC hP hS hsz rfl gX1 tyX1 tyX1_ok h1 wi_X1 in_X1 (df_X1) hN rfl im0_X1 in_X1 l0_X1_init cw_X1_init (fun q sz => c_X1 l x q sz) hR hcs (by simp only [List.map_cons, List.sum_cons]; show 1 + _ ≤ 7; omega) d1 d2 d3 (fun q t H1 locs1 hq ht hB old hS1 => ?_)
  obtain ⟨g, g0, hg, hgi, hgA⟩ := in_B hB
  have hbs := hb_size hP
  have h60 : va_at x.1 clsL (al 6 0, ent x al lv 6 0 (σ 6 0)) H1 := (hP.1 6 0 hP.l6 rfl).kept (old _ (hP.1 6 0 hP.l6 rfl).lt)
  refine r_putR (ci := 11) (fs := [.ref (al 0 0), .ref (al 6 1), .ref (al 6 2), .ref (al 6 3), .ref (al 6 4), .ref (al 6 5), .ref (al 6 6), .ref (al 6 7), .ref (al 6 8), .int (σ 6 0 9), .int (σ 6 0 10), .int (σ 6 0 11), .int (σ 6 0 12), .int (σ 6 0 13), .int (σ 6 0 14), nrf (lv 1) (al 1 0), nrf (lv 9) (al 9 0), nrf (lv 8) (al 8 0), nrf (lv 10) (al 10 0)]) hC h60 hS1 (hP.2.2.1 6 0 hP.l6 rfl) rfl gX11 tyX11 tyX11_ok nmX11 17 (by decide) hlink rfl rfl rfl (Nat.le_of_ble_eq_true rfl) d4 (fun H2 locs2 e2 oq hS2 => ?_)
  have hin : ∀ s k, lv s = true → isC s k = true → ¬ (s = 6 ∧ (k = 0 ∨ k = 8)) → H2[al s k]? = H[al s k]? := fun s k a1 a2 a3 => by
    rw [oq (al s k) (fun e => a3 (by obtain ⟨b1, b2⟩ := hP.2.1 6 0 s k hP.l6 rfl a1 a2 e.symm; exact ⟨b1, Or.inl b2⟩))]
    exact old _ (hP.1 s k a1 a2).lt
  have hfr : ∀ k, isC 8 k = true → H.size ≤ g k := fun k hk => by
    rcases one_A (hgA k hk) with z | z <;> omega
  refine kk _ _ (setA al 8 g) H2 locs2 h (congrFun (setA_ne (by decide)) 0) (congrFun (setA_ne (by decide)) 0) (if_pos rfl) (fun z hz => by unfold setL; split <;> first | rfl | exact hz) (hP.grow (by decide) (by decide) (by decide) hv (fun k hk => ?_) hgi hfr ?_ ?_ hin) hS2
  · have e1 := hg (setA al 8 g) (setL lv 8) setA_eq k hk
    rw [ht] at e1
    exact e1.kept (oq (g k) (fun e => by have a1 := hfr k hk; have a2 := (hP.1 6 0 hP.l6 rfl).lt; rw [e] at a1; exact absurd a2 (Nat.not_lt.mpr a1)))
  · rw [← g0] at e2
    exact e2
  · refine rowO_cong (al := al) (lv := lv) (fun j hj => setA_ne (by omega)) (fun j hj => setL_ne (by omega)) ((hP.1 6 8 hP.l6 rfl).kept ?_)
    rw [oq (al 6 8) (fun e => by obtain ⟨b1, b2⟩ := hP.2.1 6 0 6 8 hP.l6 rfl hP.l6 rfl e.symm; cases b2)]
    exact old _ (hP.1 6 8 hP.l6 rfl).lt
set_option maxHeartbeats 4000000 in
theorem mk_F {idxN idxI idxP : Nat} (hC : Cx x p s m args meth c cc nL rt RX11) (hP : Pic x al lv σ H) (hS : va_S (Ab x) s.heap H locs) (hsz : ls.size = nL) (hv : lv 9 = false) (h1 : Cond.classLink RX11 idxN RX3 ∈ lwg) (hN : (RX11, idxI, yX3_init, "IceTrade") ∈ nests) (hlink : Cond.fieldLink RX11 idxP RX11 "forecast" "LIceTrade$Forecast;" ∈ lwg)
    (hR : 1 + 1 ≤ R.frames ∧ 8 + (1 + 11) + 100 * 1 ≤ R.locals) (hcs : cells + 1 + 1 ≤ R.cells ∧ slots + 4 + 1800 ≤ R.slots) (hro : (rest.map fun v => v.category).sum ≤ 6) (d1 : decode cc pc = .ok (.new idxN, 3)) (d2 : decode cc (pc + 3) = .ok (.dup, 1)) (d3 : decode cc (pc + 4) = .ok (.invokespecial idxI, 3)) (d4 : decode cc (pc + 7) = .ok (.putfield idxP, 3))
    {F : Sg → (Nat → Bool) → Option β} (h : mk2 (zap σ 9) (setL lv 9) F = some res)
    (kk : ∀ (σ1 : Sg) (lv1 : Nat → Bool) (al1 : Nat → Nat → Nat) (H1 : Heap) (locs1 : List Loc), F σ1 lv1 = some res → al1 6 0 = al 6 0 → al1 7 0 = al 7 0 → lv1 9 = true → (∀ z, lv z = true → lv1 z = true) → Pic x al1 lv1 σ1 H1 → va_S (Ab x) s.heap H1 locs1 → W p l e R s m args below meth c H1 locs1 (cells + 1 + 1) (slots + 4 + 1800) Q (F0 m (pc + 10) ls rest)) : W p l e R s m args below meth c H locs cells slots Q (F0 m pc ls (.ref (al 6 0) :: rest)) := by
  refine r_made (ci := 3) (fs := [.int 0, .int 0, .int 0, .null]) (B := fun A q t => at_X3 x A q t) hC hP hS hsz rfl gX3 tyX3 tyX3_ok h1 wi_X3 in_X3 (df_X3) hN rfl im0_X3 in_X3 l0_X3_init cw_X3_init (fun q sz => c_X3 l x q sz) hR hcs (by simp only [List.map_cons, List.sum_cons]; show 1 + _ ≤ 7; omega) d1 d2 d3 (fun q t H1 locs1 hq ht hB old hS1 => ?_)
  obtain ⟨g, g0, hg, hgi, hgA⟩ := in_F hB
  have hbs := hb_size hP
  have h60 : va_at x.1 clsL (al 6 0, ent x al lv 6 0 (σ 6 0)) H1 := (hP.1 6 0 hP.l6 rfl).kept (old _ (hP.1 6 0 hP.l6 rfl).lt)
  refine r_putR (ci := 11) (fs := [.ref (al 0 0), .ref (al 6 1), .ref (al 6 2), .ref (al 6 3), .ref (al 6 4), .ref (al 6 5), .ref (al 6 6), .ref (al 6 7), .ref (al 6 8), .int (σ 6 0 9), .int (σ 6 0 10), .int (σ 6 0 11), .int (σ 6 0 12), .int (σ 6 0 13), .int (σ 6 0 14), nrf (lv 1) (al 1 0), nrf (lv 9) (al 9 0), nrf (lv 8) (al 8 0), nrf (lv 10) (al 10 0)]) hC h60 hS1 (hP.2.2.1 6 0 hP.l6 rfl) rfl gX11 tyX11 tyX11_ok nmX11 16 (by decide) hlink rfl rfl rfl (Nat.le_of_ble_eq_true rfl) d4 (fun H2 locs2 e2 oq hS2 => ?_)
  have hin : ∀ s k, lv s = true → isC s k = true → ¬ (s = 6 ∧ (k = 0 ∨ k = 8)) → H2[al s k]? = H[al s k]? := fun s k a1 a2 a3 => by
    rw [oq (al s k) (fun e => a3 (by obtain ⟨b1, b2⟩ := hP.2.1 6 0 s k hP.l6 rfl a1 a2 e.symm; exact ⟨b1, Or.inl b2⟩))]
    exact old _ (hP.1 s k a1 a2).lt
  have hfr : ∀ k, isC 9 k = true → H.size ≤ g k := fun k hk => by
    rcases one_A (hgA k hk) with z | z <;> omega
  refine kk _ _ (setA al 9 g) H2 locs2 h (congrFun (setA_ne (by decide)) 0) (congrFun (setA_ne (by decide)) 0) (if_pos rfl) (fun z hz => by unfold setL; split <;> first | rfl | exact hz) (hP.grow (by decide) (by decide) (by decide) hv (fun k hk => ?_) hgi hfr ?_ ?_ hin) hS2
  · have e1 := hg (setA al 9 g) (setL lv 9) setA_eq k hk
    rw [ht] at e1
    exact e1.kept (oq (g k) (fun e => by have a1 := hfr k hk; have a2 := (hP.1 6 0 hP.l6 rfl).lt; rw [e] at a1; exact absurd a2 (Nat.not_lt.mpr a1)))
  · rw [← g0] at e2
    exact e2
  · refine rowO_cong (al := al) (lv := lv) (fun j hj => setA_ne (by omega)) (fun j hj => setL_ne (by omega)) ((hP.1 6 8 hP.l6 rfl).kept ?_)
    rw [oq (al 6 8) (fun e => by obtain ⟨b1, b2⟩ := hP.2.1 6 0 6 8 hP.l6 rfl hP.l6 rfl e.symm; cases b2)]
    exact old _ (hP.1 6 8 hP.l6 rfl).lt
set_option maxHeartbeats 4000000 in
theorem mk_P {idxN idxI idxP : Nat} (hC : Cx x p s m args meth c cc nL rt RX11) (hP : Pic x al lv σ H) (hS : va_S (Ab x) s.heap H locs) (hsz : ls.size = nL) (hv : lv 10 = false) (h1 : Cond.classLink RX11 idxN RX7 ∈ lwg) (hN : (RX11, idxI, yX7_init, "IceTrade") ∈ nests) (hlink : Cond.fieldLink RX11 idxP RX11 "packer" "LIceTrade$Packer;" ∈ lwg)
    (hR : 1 + 1 ≤ R.frames ∧ 8 + (1 + 11) + 100 * 1 ≤ R.locals) (hcs : cells + 1 + 2 ≤ R.cells ∧ slots + 7 + 360 ≤ R.slots) (hro : (rest.map fun v => v.category).sum ≤ 6) (d1 : decode cc pc = .ok (.new idxN, 3)) (d2 : decode cc (pc + 3) = .ok (.dup, 1)) (d3 : decode cc (pc + 4) = .ok (.invokespecial idxI, 3)) (d4 : decode cc (pc + 7) = .ok (.putfield idxP, 3))
    {F : Sg → (Nat → Bool) → Option β} (h : mk2 (zap σ 10) (setL lv 10) F = some res)
    (kk : ∀ (σ1 : Sg) (lv1 : Nat → Bool) (al1 : Nat → Nat → Nat) (H1 : Heap) (locs1 : List Loc), F σ1 lv1 = some res → al1 6 0 = al 6 0 → al1 7 0 = al 7 0 → lv1 10 = true → (∀ z, lv z = true → lv1 z = true) → Pic x al1 lv1 σ1 H1 → va_S (Ab x) s.heap H1 locs1 → W p l e R s m args below meth c H1 locs1 (cells + 1 + 2) (slots + 7 + 360) Q (F0 m (pc + 10) ls rest)) : W p l e R s m args below meth c H locs cells slots Q (F0 m pc ls (.ref (al 6 0) :: rest)) := by
  refine r_made (ci := 7) (fs := [.int 0, .int 0, .int 0, .int 0, .int 0, .null, .null]) (B := fun A q t => at_X7 x A q t) hC hP hS hsz rfl gX7 tyX7 tyX7_ok h1 wi_X7 in_X7 (df_X7) hN rfl im0_X7 in_X7 l0_X7_init cw_X7_init (fun q sz => c_X7 l x q sz) hR hcs (by simp only [List.map_cons, List.sum_cons]; show 1 + _ ≤ 7; omega) d1 d2 d3 (fun q t H1 locs1 hq ht hB old hS1 => ?_)
  obtain ⟨g, g0, hg, hgi, hgA⟩ := in_P hB
  have hbs := hb_size hP
  have h60 : va_at x.1 clsL (al 6 0, ent x al lv 6 0 (σ 6 0)) H1 := (hP.1 6 0 hP.l6 rfl).kept (old _ (hP.1 6 0 hP.l6 rfl).lt)
  refine r_putR (ci := 11) (fs := [.ref (al 0 0), .ref (al 6 1), .ref (al 6 2), .ref (al 6 3), .ref (al 6 4), .ref (al 6 5), .ref (al 6 6), .ref (al 6 7), .ref (al 6 8), .int (σ 6 0 9), .int (σ 6 0 10), .int (σ 6 0 11), .int (σ 6 0 12), .int (σ 6 0 13), .int (σ 6 0 14), nrf (lv 1) (al 1 0), nrf (lv 9) (al 9 0), nrf (lv 8) (al 8 0), nrf (lv 10) (al 10 0)]) hC h60 hS1 (hP.2.2.1 6 0 hP.l6 rfl) rfl gX11 tyX11 tyX11_ok nmX11 18 (by decide) hlink rfl rfl rfl (Nat.le_of_ble_eq_true rfl) d4 (fun H2 locs2 e2 oq hS2 => ?_)
  have hin : ∀ s k, lv s = true → isC s k = true → ¬ (s = 6 ∧ (k = 0 ∨ k = 8)) → H2[al s k]? = H[al s k]? := fun s k a1 a2 a3 => by
    rw [oq (al s k) (fun e => a3 (by obtain ⟨b1, b2⟩ := hP.2.1 6 0 s k hP.l6 rfl a1 a2 e.symm; exact ⟨b1, Or.inl b2⟩))]
    exact old _ (hP.1 s k a1 a2).lt
  have hfr : ∀ k, isC 10 k = true → H.size ≤ g k := fun k hk => by
    rcases one_A (hgA k hk) with z | z <;> omega
  refine kk _ _ (setA al 10 g) H2 locs2 h (congrFun (setA_ne (by decide)) 0) (congrFun (setA_ne (by decide)) 0) (if_pos rfl) (fun z hz => by unfold setL; split <;> first | rfl | exact hz) (hP.grow (by decide) (by decide) (by decide) hv (fun k hk => ?_) hgi hfr ?_ ?_ hin) hS2
  · have e1 := hg (setA al 10 g) (setL lv 10) setA_eq k hk
    rw [ht] at e1
    exact e1.kept (oq (g k) (fun e => by have a1 := hfr k hk; have a2 := (hP.1 6 0 hP.l6 rfl).lt; rw [e] at a1; exact absurd a2 (Nat.not_lt.mpr a1)))
  · rw [← g0] at e2
    exact e2
  · refine rowO_cong (al := al) (lv := lv) (fun j hj => setA_ne (by omega)) (fun j hj => setL_ne (by omega)) ((hP.1 6 8 hP.l6 rfl).kept ?_)
    rw [oq (al 6 8) (fun e => by obtain ⟨b1, b2⟩ := hP.2.1 6 0 6 8 hP.l6 rfl hP.l6 rfl e.symm; cases b2)]
    exact old _ (hP.1 6 8 hP.l6 rfl).lt
set_option maxHeartbeats 4000000 in
theorem mk_S {idxN idxI idxP : Nat} (hC : Cx x p s m args meth c cc nL rt RX11) (hP : Pic x al lv σ H) (hS : va_S (Ab x) s.heap H locs) (hsz : ls.size = nL) (hv : lv 1 = false) (h1 : Cond.classLink RX11 idxN RX10 ∈ lwg) (hN : (RX11, idxI, yX10_init, "IceTrade") ∈ nests) (hlink : Cond.fieldLink RX11 idxP RX11 "spare" "LIceTrade$Store;" ∈ lwg)
    (hR : 2 + 1 ≤ R.frames ∧ 8 + (1 + 11) + 100 * 2 ≤ R.locals) (hcs : cells + 1 + 21 ≤ R.cells ∧ slots + 7 + 3357 ≤ R.slots) (hro : (rest.map fun v => v.category).sum ≤ 6) (d1 : decode cc pc = .ok (.new idxN, 3)) (d2 : decode cc (pc + 3) = .ok (.dup, 1)) (d3 : decode cc (pc + 4) = .ok (.invokespecial idxI, 3)) (d4 : decode cc (pc + 7) = .ok (.putfield idxP, 3))
    {F : Sg → (Nat → Bool) → Option β} (h : mk2 (zap σ 1) (setL lv 1) F = some res)
    (kk : ∀ (σ1 : Sg) (lv1 : Nat → Bool) (al1 : Nat → Nat → Nat) (H1 : Heap) (locs1 : List Loc), F σ1 lv1 = some res → al1 6 0 = al 6 0 → al1 7 0 = al 7 0 → lv1 1 = true → (∀ z, lv z = true → lv1 z = true) → Pic x al1 lv1 σ1 H1 → va_S (Ab x) s.heap H1 locs1 → W p l e R s m args below meth c H1 locs1 (cells + 1 + 21) (slots + 7 + 3357) Q (F0 m (pc + 10) ls rest)) : W p l e R s m args below meth c H locs cells slots Q (F0 m pc ls (.ref (al 6 0) :: rest)) := by
  refine r_made (ci := 10) (fs := [.int 0, .int 0, .int 0, .int 0, .int 0, .null, .null]) (B := fun A q t => at_X10 x A q t) hC hP hS hsz rfl gX10 tyX10 tyX10_ok h1 wi_X10 in_X10 (df_X10) hN rfl im0_X10 in_X10 l0_X10_init cw_X10_init (fun q sz => c_X10 l x q sz) hR hcs (by simp only [List.map_cons, List.sum_cons]; show 1 + _ ≤ 7; omega) d1 d2 d3 (fun q t H1 locs1 hq ht hB old hS1 => ?_)
  obtain ⟨g, g0, hg, hgi, hgA⟩ := in_S h16 hB
  have hbs := hb_size hP
  have h60 : va_at x.1 clsL (al 6 0, ent x al lv 6 0 (σ 6 0)) H1 := (hP.1 6 0 hP.l6 rfl).kept (old _ (hP.1 6 0 hP.l6 rfl).lt)
  refine r_putR (ci := 11) (fs := [.ref (al 0 0), .ref (al 6 1), .ref (al 6 2), .ref (al 6 3), .ref (al 6 4), .ref (al 6 5), .ref (al 6 6), .ref (al 6 7), .ref (al 6 8), .int (σ 6 0 9), .int (σ 6 0 10), .int (σ 6 0 11), .int (σ 6 0 12), .int (σ 6 0 13), .int (σ 6 0 14), nrf (lv 1) (al 1 0), nrf (lv 9) (al 9 0), nrf (lv 8) (al 8 0), nrf (lv 10) (al 10 0)]) hC h60 hS1 (hP.2.2.1 6 0 hP.l6 rfl) rfl gX11 tyX11 tyX11_ok nmX11 15 (by decide) hlink rfl rfl rfl (Nat.le_of_ble_eq_true rfl) d4 (fun H2 locs2 e2 oq hS2 => ?_)
  have hin : ∀ s k, lv s = true → isC s k = true → ¬ (s = 6 ∧ (k = 0 ∨ k = 8)) → H2[al s k]? = H[al s k]? := fun s k a1 a2 a3 => by
    rw [oq (al s k) (fun e => a3 (by obtain ⟨b1, b2⟩ := hP.2.1 6 0 s k hP.l6 rfl a1 a2 e.symm; exact ⟨b1, Or.inl b2⟩))]
    exact old _ (hP.1 s k a1 a2).lt
  have hfr : ∀ k, isC 1 k = true → H.size ≤ g k := fun k hk => by
    rcases one_A (hgA k hk) with z | z <;> omega
  refine kk _ _ (setA al 1 g) H2 locs2 h (congrFun (setA_ne (by decide)) 0) (congrFun (setA_ne (by decide)) 0) (if_pos rfl) (fun z hz => by unfold setL; split <;> first | rfl | exact hz) (hP.grow (by decide) (by decide) (by decide) hv (fun k hk => ?_) hgi hfr ?_ ?_ hin) hS2
  · have e1 := hg (setA al 1 g) (setL lv 1) setA_eq k hk
    rw [ht] at e1
    exact e1.kept (oq (g k) (fun e => by have a1 := hfr k hk; have a2 := (hP.1 6 0 hP.l6 rfl).lt; rw [e] at a1; exact absurd a2 (Nat.not_lt.mpr a1)))
  · rw [← g0] at e2
    exact e2
  · refine rowO_cong (al := al) (lv := lv) (fun j hj => setA_ne (by omega)) (fun j hj => setL_ne (by omega)) ((hP.1 6 8 hP.l6 rfl).kept ?_)
    rw [oq (al 6 8) (fun e => by obtain ⟨b1, b2⟩ := hP.2.1 6 0 6 8 hP.l6 rfl hP.l6 rfl e.symm; cases b2)]
    exact old _ (hP.1 6 8 hP.l6 rfl).lt
set_option maxHeartbeats 4000000 in
theorem mk_I {idxN idxI : Nat} {i : Int32} (hC : Cx x p s m args meth c cc nL rt RX11) (hP : Pic x al lv σ H) (hS : va_S (Ab x) s.heap H locs) (hsz : ls.size = nL) (hg4 : ib i 4 = true) (hv : lv (2 + i.toNatClampNeg) = false) (h1 : Cond.classLink RX11 idxN RX10 ∈ lwg) (hN : (RX11, idxI, yX10_init, "IceTrade") ∈ nests)
    (hR : 2 + 1 ≤ R.frames ∧ 8 + (1 + 11) + 100 * 2 ≤ R.locals) (hcs : cells + 1 + 21 ≤ R.cells ∧ slots + 7 + 3357 ≤ R.slots) (hro : (rest.map fun v => v.category).sum ≤ 5) (d1 : decode cc pc = .ok (.new idxN, 3)) (d2 : decode cc (pc + 3) = .ok (.dup, 1)) (d3 : decode cc (pc + 4) = .ok (.invokespecial idxI, 3)) (d4 : decode cc (pc + 7) = .ok (.aastore, 1))
    {F : Sg → (Nat → Bool) → Option β} (h : mk2 (zap σ (2 + i.toNatClampNeg)) (setL lv (2 + i.toNatClampNeg)) F = some res)
    (kk : ∀ (σ1 : Sg) (lv1 : Nat → Bool) (al1 : Nat → Nat → Nat) (H1 : Heap) (locs1 : List Loc), F σ1 lv1 = some res → al1 6 0 = al 6 0 → al1 7 0 = al 7 0 → lv1 (2 + i.toNatClampNeg) = true → (∀ z, lv z = true → lv1 z = true) → Pic x al1 lv1 σ1 H1 → va_S (Ab x) s.heap H1 locs1 → W p l e R s m args below meth c H1 locs1 (cells + 1 + 21) (slots + 7 + 3357) Q (F0 m (pc + 8) ls rest)) : W p l e R s m args below meth c H locs cells slots Q (F0 m pc ls (.int i :: .ref (al 6 8) :: rest)) := by
  refine r_made (ci := 10) (fs := [.int 0, .int 0, .int 0, .int 0, .int 0, .null, .null]) (B := fun A q t => at_X10 x A q t) hC hP hS hsz rfl gX10 tyX10 tyX10_ok h1 wi_X10 in_X10 (df_X10) hN rfl im0_X10 in_X10 l0_X10_init cw_X10_init (fun q sz => c_X10 l x q sz) hR hcs (by simp only [List.map_cons, List.sum_cons]; show 1 + (1 + _) ≤ 7; omega) d1 d2 d3 (fun q t H1 locs1 hq ht hB old hS1 => ?_)
  have hlt : i.toNatClampNeg < 4 := Nat.not_le.mp fun z => ib_in hg4 (Or.inr z)
  have hn0 : ¬ i < 0 := fun z => ib_in hg4 (Or.inl z)
  have hi6 := h26 hlt
  obtain ⟨g, g0, hg, hgi, hgA⟩ := in_S (i := 2 + i.toNatClampNeg) hi6 hB
  have hbs := hb_size hP
  have h68 : va_at x.1 clsL (al 6 8, ent x al lv 6 8 (σ 6 8)) H1 := (hP.1 6 8 hP.l6 rfl).kept (old _ (hP.1 6 8 hP.l6 rfl).lt)
  have h68' : H1[al 6 8]? = some (arrV x.2.2.2.2.1 4 (fun j => va_rf (nro (lv (2 + j)) (al (2 + j) 0)))) := h68
  have hK := hC.2.2.2
  have hq0 := hg (setA al (2 + i.toNatClampNeg) g) (setL lv (2 + i.toNatClampNeg)) setA_eq 0 (isC_S hi6 rfl)
  rw [ent_S hi6, ht, g0] at hq0
  obtain ⟨r', hr', cellV, c1, c2, c3, -⟩ := hq0
  have hcls := (hK.1.1 10 _ rfl).2
  obtain ⟨kA, comp, k1, k2, k3, -⟩ := (hK.1.2 3 _ rfl).2
  have hcomp : comp = x.1.1 10 := Option.some.inj (k3.symm.trans hcls.1)
  subst hcomp
  obtain ⟨kC, hkC, -⟩ := hcls.2
  refine W.aast hC.1.1 hC.1.2.1 h68' (fun q h => by cases h) (fun h => by cases h) k1 k2 rfl hkC ⟨hn0, by show _ < (arrV _ _ _).slots.size; rw [arrV_size]; exact hlt⟩ c1 (fun q h => by rw [c3] at h; cases h) (by rw [c2]; exact hkC) (by rw [c2]; exact va_assign hcls) rfl rfl d4 fun H2 e2 z2 oq => ?_
  have hin : ∀ s k, lv s = true → isC s k = true → ¬ (s = 6 ∧ (k = 0 ∨ k = 8)) → H2[al s k]? = H[al s k]? := fun s k a1 a2 a3 => by
    rw [oq (al s k) (fun e => a3 (by obtain ⟨b1, b2⟩ := hP.2.1 6 8 s k hP.l6 rfl a1 a2 e.symm; exact ⟨b1, Or.inr b2⟩))]
    exact old _ (hP.1 s k a1 a2).lt
  have hfr : ∀ k, isC (2 + i.toNatClampNeg) k = true → H.size ≤ g k := fun k hk => by
    rcases one_A (hgA k hk) with z | z <;> omega
  refine kk _ _ (setA al (2 + i.toNatClampNeg) g) H2 _ h (congrFun (setA_ne (by omega)) 0) (congrFun (setA_ne (by omega)) 0) (if_pos rfl) (fun z hz => by unfold setL; split <;> first | rfl | exact hz) (hP.grow (by omega) (by omega) (by omega) hv (fun k hk => ?_) hgi hfr ?_ ?_ hin) (hS1.put z2 oq (hP.2.2.1 6 8 hP.l6 rfl))
  · have e1 := hg (setA al (2 + i.toNatClampNeg) g) (setL lv (2 + i.toNatClampNeg)) setA_eq k hk
    rw [ht] at e1
    exact e1.kept (oq (g k) (fun e => by have a1 := hfr k hk; have a2 := (hP.1 6 8 hP.l6 rfl).lt; rw [e] at a1; exact absurd a2 (Nat.not_lt.mpr a1)))
  · have e60 : ent x (setA al (2 + i.toNatClampNeg) g) (setL lv (2 + i.toNatClampNeg)) 6 0 (σ 6 0) = ent x al lv 6 0 (σ 6 0) := by
      show (.inr (11, [.ref ((setA al (2 + i.toNatClampNeg) g) 0 0), .ref ((setA al (2 + i.toNatClampNeg) g) 6 1), .ref ((setA al (2 + i.toNatClampNeg) g) 6 2), .ref ((setA al (2 + i.toNatClampNeg) g) 6 3), .ref ((setA al (2 + i.toNatClampNeg) g) 6 4), .ref ((setA al (2 + i.toNatClampNeg) g) 6 5), .ref ((setA al (2 + i.toNatClampNeg) g) 6 6), .ref ((setA al (2 + i.toNatClampNeg) g) 6 7), .ref ((setA al (2 + i.toNatClampNeg) g) 6 8), .int (σ 6 0 9), .int (σ 6 0 10), .int (σ 6 0 11), .int (σ 6 0 12), .int (σ 6 0 13), .int (σ 6 0 14), nrf ((setL lv (2 + i.toNatClampNeg)) 1) ((setA al (2 + i.toNatClampNeg) g) 1 0), nrf ((setL lv (2 + i.toNatClampNeg)) 9) ((setA al (2 + i.toNatClampNeg) g) 9 0), nrf ((setL lv (2 + i.toNatClampNeg)) 8) ((setA al (2 + i.toNatClampNeg) g) 8 0), nrf ((setL lv (2 + i.toNatClampNeg)) 10) ((setA al (2 + i.toNatClampNeg) g) 10 0)]) : va_E) = .inr (11, [.ref (al 0 0), .ref (al 6 1), .ref (al 6 2), .ref (al 6 3), .ref (al 6 4), .ref (al 6 5), .ref (al 6 6), .ref (al 6 7), .ref (al 6 8), .int (σ 6 0 9), .int (σ 6 0 10), .int (σ 6 0 11), .int (σ 6 0 12), .int (σ 6 0 13), .int (σ 6 0 14), nrf (lv 1) (al 1 0), nrf (lv 9) (al 9 0), nrf (lv 8) (al 8 0), nrf (lv 10) (al 10 0)])
      rw [setA_ne (s := 0) (by omega), setA_ne (s := 6) (by omega), setA_ne (s := 1) (by omega), setA_ne (s := 8) (by omega), setA_ne (s := 9) (by omega), setA_ne (s := 10) (by omega), setL_ne (s := 1) (by omega), setL_ne (s := 8) (by omega), setL_ne (s := 9) (by omega), setL_ne (s := 10) (by omega)]
    rw [e60]
    refine (hP.1 6 0 hP.l6 rfl).kept ?_
    rw [oq (al 6 0) (fun e => by obtain ⟨b1, b2⟩ := hP.2.1 6 8 6 0 hP.l6 rfl hP.l6 rfl e.symm; cases b2)]
    exact old _ (hP.1 6 0 hP.l6 rfl).lt
  · show H2[al 6 8]? = some (arrV x.2.2.2.2.1 4 (fun j => va_rf (nro (setL lv (2 + i.toNatClampNeg) (2 + j)) (setA al (2 + i.toNatClampNeg) g (2 + j) 0))))
    rw [e2, arrV_store]
    congr 2
    funext j
    by_cases hj : j = i.toNatClampNeg
    · subst hj
      simp [updV, setL, setA, nro, va_rf, g0]
    · simp [updV, hj, setL, setA]
end MK
