/-! the day's second loop, by the class -/
def LB (v : Vw) (L : Nat → Int32) : Prop := ∀ b, b < vb v → (v 18 b = -1 → L b = 0) ∧ ∃ M g : Nat, M ≤ g ∧ g ≤ 1000000 ∧ v 17 b = nI g ∧ L b = nI M
theorem UI.at {v u : Vw} {i : Nat} (h : UI v i u) (hv : okStore v) (hi : i < vb v) (hn : ¬ v 18 i = -1) : rmb v i < vn v ∧ plc v i < vs v (rmb v i) ∧ u 18 i = nI (rmb v i) ∧ u 19 i = nI (plc v i) ∧ vc u (rmb v i) (plc v i) = nI (10 + i) ∧ v 18 i = nI (rmb v i) ∧ v 19 i = nI (plc v i) := by
  obtain ⟨gn, gb, gr⟩ := h.geo
  obtain ⟨r, p, hr, hp, o1, o2, -⟩ := blk_lies hv hi hn
  have h8 := hv.1.1
  have hvr := vs_le (okS hv hr)
  have er : rmb v i = r := by unfold rmb; rw [o1, nI_clamp (by omega)]
  have ep : plc v i = p := by unfold plc; rw [o2, nI_clamp (by omega)]
  obtain ⟨c1, c2, -⟩ := h.2.2.1 i (Nat.le_refl i)
  obtain ⟨r', p', hr', hp', o1', o2', o3'⟩ := blk_lies h.1 (by rw [gb]; exact hi) (by rw [c1]; exact hn)
  rw [c1, o1] at o1'
  rw [c2, o2] at o2'
  rw [gn] at hr'
  rw [(gr r').2] at hp'
  have hvr' := vs_le (okS hv hr')
  have e1 := (nI_eq (by omega) (by omega)).mp o1'
  have e2 := (nI_eq (by omega) (by omega)).mp o2'
  subst e1; subst e2
  rw [er, ep]
  exact ⟨hr, hp, c1.trans o1, c2.trans o2, o3', o1, o2⟩
theorem vc_out {v : Vw} {b r p q s : Nat} (hs : s < 180) (hp : p < 180) : vc (outV v b r p) q s = if q = r ∧ s = p then 0 else vc v q s := vc_fill (v := v) (x := 0) hs hp
theorem UI.step {v u : Vw} {i : Nat} (h : UI v i u) (hv : okStore v) {L : Nat → Int32} {le : Int32} (hL : LB v L) (hi : i < vb v) (hn : ¬ v 18 i = -1) (dr : Bool) : UI v (i + 1) (dayB u dr (L i) le i (rmb v i) (plc v i)) := by
  obtain ⟨gn, gb, gr⟩ := h.geo
  obtain ⟨hr, hp, o1, o2, o3, -⟩ := h.at hv hi hn
  have h3 := hv.2.1.1
  have hvr := vs_le (okS hv hr)
  obtain ⟨M, g, hM, hg, eg, eL⟩ := (hL i hi).2
  obtain ⟨hok, hk, hc, h2, h0⟩ := h
  have e17 : u 17 i = nI g := (hc i (Nat.le_refl i)).2.2.trans eg
  unfold dayB
  by_cases c : le ≤ u 17 i - L i
  · rw [if_pos c]
    refine ⟨okStore_17 (okStore_led hok _ _ _) i ⟨g - M, by omega, by rw [e17, eL, pk_sub hM]⟩, fun k k0 k9 k10 k11 k12 k14 k17 k18 k19 => ?_, fun c' hc' => ?_, h2, h0⟩
    · unfold s17 sLed
      simp only [k17, k9, k10, ↓reduceIte]
      exact hk k k0 k9 k10 k11 k12 k14 k17 k18 k19
    · obtain ⟨q1, q2, q3⟩ := hc c' (by omega)
      refine ⟨q1, q2, ?_⟩
      show upd (u 17) i _ c' = _
      rw [upd_r, if_neg (by omega)]
      exact q3
  · rw [if_neg c]
    have hok2 : okStore (gonV (s17 (sLed u dr (rmb v i) (L i)) i 0) (u 17 i - L i)) := okStore_gon (okStore_17 (okStore_led hok _ _ _) i ⟨0, by omega, rfl⟩) _
    refine ⟨okStore_out hok2 (by show i < vb u; rw [gb]; exact hi) (by show rmb v i < vn u; rw [gn]; exact hr) (by show plc v i < vs u (rmb v i); rw [(gr _).2]; exact hp) o1 o2 o3, fun k k0 k9 k10 k11 k12 k14 k17 k18 k19 => ?_, fun c' hc' => ?_, fun q s hs => ?_, fun j hj => ?_⟩
    · unfold outV gonV s17 sLed
      simp only [k0, k17, k9, k10, k11, k12, k14, k18, k19, ↓reduceIte]
      exact hk k k0 k9 k10 k11 k12 k14 k17 k18 k19
    · obtain ⟨q1, q2, q3⟩ := hc c' (by omega)
      refine ⟨?_, ?_, ?_⟩
      · show upd (u 18) i (-1) c' = _
        rw [upd_r, if_neg (by omega)]; exact q1
      · show upd (u 19) i (-1) c' = _
        rw [upd_r, if_neg (by omega)]; exact q2
      · show upd (u 17) i _ c' = _
        rw [upd_r, if_neg (by omega)]
        exact q3
    · rw [vc_out hs (by omega)]
      by_cases cc : q = rmb v i ∧ s = plc v i
      · rw [if_pos cc]
        have hb := (h2 q s hs)
        rw [cc.1, cc.2, o3] at hb
        rw [cc.1, cc.2, ← hb]
        constructor
        · intro z; exact absurd z (by decide)
        · intro z; exact absurd z (blk_ne (by omega)).2.2
      · rw [if_neg cc]
        exact h2 q s hs
    · show upd (u 0) 4 _ j = _
      rw [upd_r, if_neg hj]
      exact h0 j hj
theorem UI.zero {v : Vw} (hv : okStore v) : UI v 0 v := ⟨hv, fun _ _ _ _ _ _ _ _ _ _ => rfl, fun _ _ => ⟨rfl, rfl, rfl⟩, fun _ _ _ => Iff.rfl, fun _ _ => rfl⟩
theorem UI.mono {v u : Vw} {i j : Nat} (h : UI v i u) (hij : i ≤ j) : UI v j u := ⟨h.1, h.2.1, fun c hc => h.2.2.1 c (by omega), h.2.2.2.1, h.2.2.2.2⟩
theorem UI_all {v : Vw} (hv : okStore v) {L : Nat → Int32} {le : Int32} (hL : LB v L) : ∀ i, i ≤ vb v → UI v i (Ud v L le i)
  | 0, _ => UI.zero hv
  | i + 1, hi => by
    have ih := UI_all hv (le := le) hL i (by omega)
    unfold Ud
    by_cases c : v 18 i = -1
    · rw [if_pos c]; exact ih.mono (by omega)
    · rw [if_neg c]; exact ih.step hv hL (by omega) c _
def finV (u : Vw) (s : Int32) : Vw := fun k => if k = 0 then upd (upd (u 0) 3 (u 0 3 + s)) 0 (u 0 0 + 1) else u k
def dayV (v : Vw) (L : Nat → Int32) (le : Int32) : Vw := finV (Ud v L le (vb v)) (sumF L (vb v))
theorem inRoom_c {σ : Sg} {a : Nat} {u : Vw} (e : σ a = u) (h : okW u) {b : Nat} (hb : b < vb u) : fBlocks_isInRoom σ a (nI b) = some (if u 18 b = -1 then 0 else 1) := by
  have h3 := h.2.1.1
  have hib : ib (nI b) 300 = true := ib_nI (by omega) (by decide)
  have hcl : (nI b).toNatClampNeg = b := nI_clamp (by omega)
  have k1 : ¬ (1 : Int32) = 0 := by decide
  simp only [fBlocks_isInRoom, fBlocks_isInRoom_0, hasB_in e h hb, bp_s, k1, hib, hcl, gd_t, e, ↓reduceIte]
  split <;> rfl
theorem pass_loop {σ0 : Sg} {a : Nat} (ha : a ≠ 6) {v : Vw} (hv : okStore v) {L : Nat → Int32} {le : Int32} (hL : LB v L) (ele : σ0 6 2 2 = le) (eL : ∀ b, b < vb v → σ0 6 12 b = L b) : ∀ m i n (σ : Sg) (x : Int32), i + m = vb v → m < n → (∀ s, s ≠ a → σ s = σ0 s) → σ a = Ud v L le i → x = sumF L i → ∃ σ' : Sg, fMelting_passDay_29 n σ a x (nI i) = some (sumF L (vb v), σ') ∧ (∀ s, s ≠ a → σ' s = σ0 s) ∧ σ' a = dayV v L le := by
  have h3 := hv.2.1.1
  have k1 : ¬ (1 : Int32) = 0 := by decide
  intro m
  induction m with
  | zero =>
    intro i n σ x hi hn ho hA hx
    obtain ⟨n, rfl⟩ : ∃ k, n = k + 1 := ⟨n - 1, by omega⟩
    have ei : i = vb v := by omega
    subst ei
    have hU := UI_all hv (le := le) hL (vb v) (Nat.le_refl _)
    have e15 : σ a 15 0 = nI (vb v) := by rw [hA, hU.1.2.1.2, hU.geo.2.1]
    have q : nI (vb v) ≤ nI (vb v) := nI_le (by omega) (by omega)
    refine ⟨upA (upA σ a 0 (upd (σ a 0) 3 (σ a 0 3 + x))) a 0 (upd (upd (σ a 0) 3 (σ a 0 3 + x)) 0 (upd (σ a 0) 3 (σ a 0 3 + x) 0 + 1)), ?_, fun s hs => by rw [upA_o _ _ _ hs, upA_o _ _ _ hs, ho s hs], ?_⟩
    · simp only [fMelting_passDay_29, fMelting_passDay_29_b, e15, q, lt_v, upA_same, ↓reduceIte]
      rw [hx]
    · funext k
      rw [upA_upA, upA_a, hA, hx]
      rfl
  | succ m ih =>
    intro i n σ x hi hn ho hA hx
    obtain ⟨n, rfl⟩ : ∃ k, n = k + 1 := ⟨n - 1, by omega⟩
    have hU := UI_all hv (le := le) hL i (by omega)
    obtain ⟨gn, gb, gr⟩ := hU.geo
    have e15 : σ a 15 0 = nI (vb v) := by rw [hA, hU.1.2.1.2, gb]
    have q : ¬ nI (vb v) ≤ nI i := nI_ge (by omega) (by omega)
    have hiv : i < vb v := by omega
    have hin := inRoom_c hA hU.1.w (show i < vb (Ud v L le i) by rw [gb]; exact hiv)
    rw [(hU.2.2.1 i (Nat.le_refl i)).1] at hin
    have hib : ib (nI i) 300 = true := ib_nI (by omega) (by decide)
    have hcl : (nI i).toNatClampNeg = i := nI_clamp (by omega)
    by_cases c : v 18 i = -1
    · rw [if_pos c] at hin
      obtain ⟨σ', h1, h2⟩ := ih (i + 1) n σ x (by omega) (by omega) ho (by rw [hA, Ud, if_pos c]) (by rw [hx, sumF, (hL i hiv).1 c, Int32.add_zero])
      refine ⟨σ', ?_, h2⟩
      rw [← h1]
      simp only [fMelting_passDay_29, fMelting_passDay_29_b, fMelting_passDay_66, e15, q, hin, bp_s, lt_v, nI_1, ↓reduceIte]
    · rw [if_neg c] at hin
      obtain ⟨hr, hp, o1, o2, o3, -⟩ := hU.at hv hiv c
      obtain ⟨σ1, l1, l2, l3⟩ := lose_c (L := L i) (le := le) ha hA hU.1 (show i < vb (Ud v L le i) by rw [gb]; exact hiv) (by rw [gn]; exact hr) (by rw [(gr _).2]; exact hp) o1 o2 (by rw [ho 6 (fun z => ha z.symm)]; exact eL i hiv) (by rw [ho 6 (fun z => ha z.symm)]; exact ele)
      rw [hU.dr hv hr hp] at l2
      obtain ⟨σ', h1, h2⟩ := ih (i + 1) n σ1 (x + L i) (by omega) (by omega) (fun s hs => (l3 s hs).trans (ho s hs)) (by rw [l2, Ud, if_neg c]) (by rw [hx, sumF])
      refine ⟨σ', ?_, h2⟩
      rw [← h1]
      have e12 : σ1 6 12 i = L i := by rw [l3 6 (fun z => ha z.symm), ho 6 (fun z => ha z.symm)]; exact eL i hiv
      simp only [fMelting_passDay_29, fMelting_passDay_29_b, fMelting_passDay_66, e15, q, hin, k1, l1, hib, hcl, gd_t, e12, bp_s, lt_v, nI_1, ↓reduceIte]
