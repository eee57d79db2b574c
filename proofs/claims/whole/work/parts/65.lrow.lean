
section LR
variable {p : Program} {l : Launch} {e : Env} {R : Room} {s : State} {m : MethodId} {args : Array Value} {below : List Frame} {meth : Method} {c : Code} {H : Heap} {locs : List Loc} {cells slots : Nat} {Q : State → Prop}
variable {cc : ByteArray} {nL pc index : Nat} {rt : Option FieldType} {own : String} {ls : Array Slot} {rest st : List Value} {x : Wx} {al : Nat → Nat → Nat} {lv : Nat → Bool} {σ : Sg} {s0 : State}
theorem l_cP {av : Array Value} {r : Int32} (hS : va_S (Ab x) s0.heap H locs) (hr : va_Run p l e R s m args below meth c H locs cells slots 0 0 (F0 m pc ls st) rest (QP x al lv σ r av) (Ab x))
    (kk : ∀ (H1 : Heap) (locs1 : List Loc), Pic x al lv σ H1 → va_S (Ab x) s0.heap H1 locs1 → W p l e R s m args below meth c H1 locs1 cells slots Q (F0 m (pc + 3) ls (.int r :: rest))) : W p l e R s m args below meth c H locs cells slots Q (F0 m pc ls st) := by
  refine va_calli hr hS (fun _ _ h => h) (fun _ h => h) (fun r1 u t H1 locs1 ht hvm hw hB hz1 hk1 hS1 => ?_)
  obtain ⟨rfl, rfl⟩ := hw
  subst ht
  exact kk _ _ hB.2 hS1
theorem l_cI {av : Array Value} {r : Int32} {σ1 : Sg} (hS : va_S (Ab x) s0.heap H locs) (hr : va_Run p l e R s m args below meth c H locs cells slots 0 0 (F0 m pc ls st) rest (QI x al lv (r, σ1) av) (Ab x))
    (kk : ∀ (H1 : Heap) (locs1 : List Loc), Pic x al lv σ1 H1 → va_S (Ab x) s0.heap H1 locs1 → W p l e R s m args below meth c H1 locs1 cells slots Q (F0 m (pc + 3) ls (.int r :: rest))) : W p l e R s m args below meth c H locs cells slots Q (F0 m pc ls st) := by
  refine va_calli hr hS (fun _ _ h => h) (fun _ h => h) (fun r1 u t H1 locs1 ht hvm hw hB hz1 hk1 hS1 => ?_)
  cases hw
  subst ht
  exact kk _ _ hB.2 hS1
theorem l_cA {av : Array Value} {r : Int32} {σ1 : Sg} {lv1 : Nat → Bool} {mc ms : Nat} (hS : va_S (Ab x) s0.heap H locs) (hr : va_Run p l e R s m args below meth c H locs cells slots mc ms (F0 m pc ls st) rest (QA x al (r, σ1, lv1) av) (Ab x))
    (kk : ∀ (al1 : Nat → Nat → Nat) (H1 : Heap) (locs1 : List Loc), al1 6 0 = al 6 0 → al1 7 0 = al 7 0 → Pic x al1 lv1 σ1 H1 → va_S (Ab x) s0.heap H1 locs1 → W p l e R s m args below meth c H1 locs1 (cells + mc) (slots + ms) Q (F0 m (pc + 3) ls (.int r :: rest))) : W p l e R s m args below meth c H locs cells slots Q (F0 m pc ls st) := by
  refine va_calli hr hS (fun _ _ h => h) (fun _ h => h) (fun r1 u t H1 locs1 ht hvm hw hB hz1 hk1 hS1 => ?_)
  cases hw
  subst ht
  obtain ⟨al1, h1, h2, h3⟩ := hB
  exact kk al1 _ _ h1 h2 h3.2 hS1
theorem r_runVD (hC : Cx x p s m args meth c cc nL rt own) {y : MethodName} {cb : ByteArray} {mL idx n d b mc ms : Nat} {rt2 : Option FieldType} {Cn : String} {As : List Value} {Qc : Array Value → State → Outcome → State → Prop} (hL : LkV own idx Cn y n) (hcw : Cond.code y cb mL rt2 ∈ lwg) (hrec : ∃ cell : Cell, H[b]? = some cell ∧ cell.vm.isStatics = false ∧ s.vm.findClass Cn = some cell.cls) (hP : Pic x al lv σ H)
    (hM : MetD lw_cs l y (Cond.code y cb mL rt2 :: lwg) (rmm d mc ms) (va_Pc (.ref b :: As) (Wd x al lv σ)) Qc mc ms (Ab x)) (hn : As.length = n) (hsz : ls.size = nL) (hR : d + 1 ≤ R.frames ∧ 8 + (mL + 11) + 100 * d ≤ R.locals) (hcs : cells + mc ≤ R.cells ∧ slots + ms ≤ R.slots) (hro : (rest.map fun v => v.category).sum ≤ 8) (hdg : decode cc pc = .ok (.invokevirtual idx, 3)) :
    va_RunD lw_cs p l e R s m args below meth c H locs cells slots mc ms (F0 m pc ls (As.reverse ++ .ref b :: rest)) rest (Qc (Value.ref b :: As).toArray) (Ab x) := by
  obtain ⟨hF, -, -, hK⟩ := hC
  obtain ⟨h1, h2, h3, h4, h5⟩ := hL
  have hts := hF.2.2.2.2
  exact va_runV_D hF hM ⟨callB_of n hts (good_ww hcw) rfl rfl rfl (hts _ h4) (hts _ h1) h5 hR, hts _ h2, hts _ h3⟩ ⟨Wd.blind _, hrec, fun U hU hW => ⟨rfl, hK.warm hW, by rw [hU]; exact hP⟩⟩ rfl hn hsz rfl (lv_room hro) hdg hcs
theorem l_cID {d0 : Drawn} {av : Array Value} {r : Int32} {σ1 : Sg} (hd0 : s.drawn.sameBut d0 lw_cs) (hS : va_S (Ab x) s0.heap H locs) (hr : va_RunD lw_cs p l e R (s.setDrawn d0) m args below meth c H locs cells slots 0 0 (F0 m pc ls st) rest (QI x al lv (r, σ1) av) (Ab x))
    (kk : ∀ (H1 : Heap) (locs1 : List Loc) (d1 : Drawn), s.drawn.sameBut d1 lw_cs → Pic x al lv σ1 H1 → va_S (Ab x) s0.heap H1 locs1 → W p l e R (s.setDrawn d1) m args below meth c H1 locs1 cells slots Q (F0 m (pc + 3) ls (.int r :: rest))) : W p l e R (s.setDrawn d0) m args below meth c H locs cells slots Q (F0 m pc ls st) := by
  refine va_calliD hd0 hr hS (fun _ _ h => h) (fun _ h => h) (fun r1 u t H1 locs1 ht hvm hw hB hz1 hk1 hS1 d1 hd1 => ?_)
  cases hw
  subst ht
  exact kk _ _ d1 hd1 hB.2 hS1
end LR
theorem nI_sm {n : Nat} (h : n < 2 ^ 31) : (nI n).toInt = (n : Int) := nI_toInt h
theorem law_in {L i j : Nat} {x3 : Int32} {v : Int32} (hL : L ≤ 3072) (hx3 : x3 = nI i) (hi6 : i + 6 ≤ L) (hj : j < 6) (hv : v = nI j) : vp_in (x3 + v) L := by
  subst hx3; subst hv
  rw [nI_add]
  exact vp_in_nI (by omega) (by omega)
theorem law_go {L i : Nat} {x3 : Int32} (hL : L ≤ 3072) (hi : i ≤ 4000) (hx3 : x3 = nI i) (h : ¬ Int32.ofNat L - 6 < x3) : i + 6 ≤ L := by
  subst hx3
  have h1 : (Int32.ofNat L - 6).toInt = (L : Int) - 6 := by
    have e : (Int32.ofNat L - 6 : Int32) = nI L - nI 6 := rfl
    rw [e]
    have := pk_sub_toInt (a := L) (b := 6) (by omega) (by omega)
    simpa using this
  have h2 : (nI i).toInt = (i : Int) := nI_toInt (by omega)
  have h3 : ¬ (Int32.ofNat L - 6).toInt < (nI i).toInt := fun q => h (Int32.lt_iff_toInt_lt.mpr q)
  omega
def Op_room (Inv : (Nat → Bool) → Sg → Prop) : Prop := ∀ (lv : Nat → Bool) (σ : Sg), Inv lv σ → ∀ (a1 a2 a3 a4 a5 : Int32), ∃ r σ1, fI_room σ a1 a2 a3 a4 a5 = some (r, σ1) ∧ ∃ σ2, fM_room σ1 a1 a2 a3 a4 a5 = some (r, σ2) ∧ Inv lv σ2
def Op_rooms (Inv : (Nat → Bool) → Sg → Prop) : Prop := ∀ (lv : Nat → Bool) (σ : Sg), Inv lv σ → ∀ (a1 a2 : Int32), ∃ r σ1, fI_rooms σ a1 a2 = some (r, σ1) ∧ fM_rooms σ1 a1 a2 = some r ∧ Inv lv σ1
def Op_lay (Inv : (Nat → Bool) → Sg → Prop) : Prop := ∀ (lv : Nat → Bool) (σ : Sg), Inv lv σ → ∀ (a1 a2 a3 : Int32), ∃ r σ1, fI_lay σ a1 a2 a3 = some (r, σ1) ∧ ∃ σ2, fM_lay σ1 a1 a2 a3 = some (r, σ2) ∧ Inv lv σ2
def Op_tear (Inv : (Nat → Bool) → Sg → Prop) : Prop := ∀ (lv : Nat → Bool) (σ : Sg), Inv lv σ → ∀ (a1 a2 a3 : Int32), ∃ r σ1, fI_tear σ a1 a2 a3 = some (r, σ1) ∧ ∃ σ2, fM_tear σ1 a1 a2 a3 = some (r, σ2) ∧ Inv lv σ2
def Op_cut (Inv : (Nat → Bool) → Sg → Prop) : Prop := ∀ (lv : Nat → Bool) (σ : Sg), Inv lv σ → ∀ (a1 a2 a3 a4 : Int32), ∃ r σ1, fI_cut σ a1 a2 a3 a4 = some (r, σ1) ∧ ∃ σ2, fM_cut σ1 a1 a2 a3 a4 = some (r, σ2) ∧ Inv lv σ2
def Op_put (Inv : (Nat → Bool) → Sg → Prop) : Prop := ∀ (lv : Nat → Bool) (σ : Sg), Inv lv σ → ∀ (a1 a2 a3 : Int32), ∃ r σ1, fI_put σ a1 a2 a3 = some (r, σ1) ∧ ∃ σ2, fM_put σ1 a1 a2 a3 = some (r, σ2) ∧ Inv lv σ2
def Op_clear (Inv : (Nat → Bool) → Sg → Prop) : Prop := ∀ (lv : Nat → Bool) (σ : Sg), Inv lv σ → ∀ (a1 a2 : Int32), ∃ r σ1, fI_clear σ a1 a2 = some (r, σ1) ∧ ∃ σ2, fM_clear σ1 a1 a2 = some (r, σ2) ∧ Inv lv σ2
def Op_place (Inv : (Nat → Bool) → Sg → Prop) : Prop := ∀ (lv : Nat → Bool) (σ : Sg), Inv lv σ → ∀ (a1 a2 : Int32), ∃ r, fI_place σ a1 a2 = some r ∧ fM_place σ a1 a2 = some r ∧ Inv lv σ
def Op_block (Inv : (Nat → Bool) → Sg → Prop) : Prop := ∀ (lv : Nat → Bool) (σ : Sg), Inv lv σ → ∀ (a1 a2 : Int32), ∃ r σ1, fI_block σ a1 a2 = some (r, σ1) ∧ fM_block σ1 a1 a2 = some r ∧ Inv lv σ1
def Op_warm (Inv : (Nat → Bool) → Sg → Prop) : Prop := ∀ (lv : Nat → Bool) (σ : Sg), Inv lv σ → ∀ (a1 a2 : Int32), ∃ r σ1, fI_warm σ a1 a2 = some (r, σ1) ∧ ∃ σ2, fM_warm σ1 a1 a2 = some (r, σ2) ∧ Inv lv σ2
def Op_tenths (Inv : (Nat → Bool) → Sg → Prop) : Prop := ∀ (lv : Nat → Bool) (σ : Sg), Inv lv σ → ∀ (a1 : Int32), ∃ r, fI_tenths σ a1 = some r ∧ fM_tenths σ a1 = some r ∧ Inv lv σ
def Op_terms (Inv : (Nat → Bool) → Sg → Prop) : Prop := ∀ (lv : Nat → Bool) (σ : Sg), Inv lv σ → ∀ (a1 a2 a3 : Int32), ∃ r σ1, fI_terms σ a1 a2 a3 = some (r, σ1) ∧ ∃ σ2, fM_terms σ1 a1 a2 a3 = some (r, σ2) ∧ Inv lv σ2
def Op_day (Inv : (Nat → Bool) → Sg → Prop) : Prop := ∀ (lv : Nat → Bool) (σ : Sg), Inv lv σ → ∃ r σ1 lv1, fI_day lv σ = some (r, σ1, lv1) ∧ ∃ σ2, fM_day σ1 = some (r, σ2) ∧ Inv lv1 σ2
def Op_count (Inv : (Nat → Bool) → Sg → Prop) : Prop := ∀ (lv : Nat → Bool) (σ : Sg), Inv lv σ → ∀ (a1 : Int32), ∃ r, fI_count lv σ a1 = some r ∧ fM_count σ a1 = some r ∧ Inv lv σ
def Op_next (Inv : (Nat → Bool) → Sg → Prop) : Prop := ∀ (lv : Nat → Bool) (σ : Sg), Inv lv σ → ∀ (a1 : Int32), ∃ r σ1, fI_next σ a1 = some (r, σ1) ∧ fM_next σ1 a1 = some r ∧ Inv lv σ1
def Op_take (Inv : (Nat → Bool) → Sg → Prop) : Prop := ∀ (lv : Nat → Bool) (σ : Sg), Inv lv σ → ∀ (a1 a2 : Int32), ∃ r σ1, fI_take σ a1 a2 = some (r, σ1) ∧ ∃ σ2, fM_take σ1 a1 a2 = some (r, σ2) ∧ Inv lv σ2
def Op_way (Inv : (Nat → Bool) → Sg → Prop) : Prop := ∀ (lv : Nat → Bool) (σ : Sg), Inv lv σ → ∀ (a1 a2 : Int32), ∃ r σ1, fI_way σ a1 a2 = some (r, σ1) ∧ ∃ σ2, fM_way σ1 a1 a2 = some (r, σ2) ∧ Inv lv σ2
def Op_home (Inv : (Nat → Bool) → Sg → Prop) : Prop := ∀ (lv : Nat → Bool) (σ : Sg), Inv lv σ → ∃ r σ1, fI_home σ = some (r, σ1) ∧ ∃ σ2, fM_home σ1 = some (r, σ2) ∧ Inv lv σ2
def Op_comes (Inv : (Nat → Bool) → Sg → Prop) : Prop := ∀ (lv : Nat → Bool) (σ : Sg), Inv lv σ → ∀ (a1 a2 : Int32), ∃ r σ1, fI_comes σ a1 a2 = some (r, σ1) ∧ ∃ σ2, fM_comes σ1 a1 a2 = some (r, σ2) ∧ Inv lv σ2
def Op_send (Inv : (Nat → Bool) → Sg → Prop) : Prop := ∀ (lv : Nat → Bool) (σ : Sg), Inv lv σ → ∀ (a1 a2 : Int32), ∃ r σ1, fI_send σ a1 a2 = some (r, σ1) ∧ ∃ σ2, fM_send σ1 a1 a2 = some (r, σ2) ∧ Inv lv σ2
def Op_sent (Inv : (Nat → Bool) → Sg → Prop) : Prop := ∀ (lv : Nat → Bool) (σ : Sg), Inv lv σ → ∀ (a1 : Int32), ∃ r, fI_sent σ a1 = some r ∧ fM_sent σ a1 = some r ∧ Inv lv σ
def Op_list (Inv : (Nat → Bool) → Sg → Prop) : Prop := ∀ (lv : Nat → Bool) (σ : Sg), Inv lv σ → ∀ (a1 : Int32), ∃ r, fI_list σ a1 = some r ∧ fM_list σ a1 = some r ∧ Inv lv σ
def Op_price (Inv : (Nat → Bool) → Sg → Prop) : Prop := ∀ (lv : Nat → Bool) (σ : Sg), Inv lv σ → ∀ (a1 a2 : Int32), ∃ r σ1, fI_price σ a1 a2 = some (r, σ1) ∧ ∃ σ2, fM_price σ1 a1 a2 = some (r, σ2) ∧ Inv lv σ2
def Op_foretell (Inv : (Nat → Bool) → Sg → Prop) : Prop := ∀ (lv : Nat → Bool) (σ : Sg), Inv lv σ → ∀ (a1 a2 : Int32), ∃ r σ1 lv1, fI_foretell lv σ a1 a2 = some (r, σ1, lv1) ∧ ∃ σ2, fM_foretell σ1 a1 a2 = some (r, σ2) ∧ Inv lv1 σ2
def Op_foretold (Inv : (Nat → Bool) → Sg → Prop) : Prop := ∀ (lv : Nat → Bool) (σ : Sg), Inv lv σ → ∀ (a1 a2 : Int32), ∃ r, fI_foretold lv σ a1 a2 = some r ∧ fM_foretold σ a1 a2 = some r ∧ Inv lv σ
def Op_last (Inv : (Nat → Bool) → Sg → Prop) : Prop := ∀ (lv : Nat → Bool) (σ : Sg), Inv lv σ → ∃ r, fI_last lv σ = some r ∧ fM_last σ = some r ∧ Inv lv σ
def Op_heap (Inv : (Nat → Bool) → Sg → Prop) : Prop := ∀ (lv : Nat → Bool) (σ : Sg), Inv lv σ → ∀ (a1 a2 : Int32), ∃ r σ1, fI_heap σ a1 a2 = some (r, σ1) ∧ ∃ σ2, fM_heap σ1 a1 a2 = some (r, σ2) ∧ Inv lv σ2
def Op_pack (Inv : (Nat → Bool) → Sg → Prop) : Prop := ∀ (lv : Nat → Bool) (σ : Sg), Inv lv σ → ∀ (a1 : Int32), ∃ r σ1 lv1, fI_pack lv σ a1 = some (r, σ1, lv1) ∧ ∃ σ2, fM_pack σ1 a1 = some (r, σ2) ∧ Inv lv1 σ2
def Op_image (Inv : (Nat → Bool) → Sg → Prop) : Prop := ∀ (lv : Nat → Bool) (σ : Sg), Inv lv σ → ∀ (a1 : Int32), ∃ r σ1 lv1, fI_image lv σ a1 = some (r, σ1, lv1) ∧ ∃ σ2, fM_image σ1 a1 = some (r, σ2) ∧ Inv lv1 σ2
def Op_back (Inv : (Nat → Bool) → Sg → Prop) : Prop := ∀ (lv : Nat → Bool) (σ : Sg), Inv lv σ → ∀ (a1 : Int32), ∃ r σ1, fI_back lv σ a1 = some (r, σ1) ∧ ∃ σ2, fM_back σ1 a1 = some (r, σ2) ∧ Inv lv σ2
def Op_line (Inv : (Nat → Bool) → Sg → Prop) : Prop := ∀ (lv : Nat → Bool) (σ : Sg), Inv lv σ → ∀ (a1 a2 : Int32), ∃ r, fI_line lv σ a1 a2 = some r ∧ fM_line σ a1 a2 = some r ∧ Inv lv σ
def Op_alter (Inv : (Nat → Bool) → Sg → Prop) : Prop := ∀ (lv : Nat → Bool) (σ : Sg), Inv lv σ → ∀ (a1 a2 a3 : Int32), ∃ r σ1, fI_alter lv σ a1 a2 a3 = some (r, σ1) ∧ ∃ σ2, fM_alter σ1 a1 a2 a3 = some (r, σ2) ∧ Inv lv σ2
def Op_check (Inv : (Nat → Bool) → Sg → Prop) : Prop := ∀ (lv : Nat → Bool) (σ : Sg), Inv lv σ → ∃ r, fI_check lv σ = some r ∧ fM_check σ = some r ∧ Inv lv σ
def Op_status (Inv : (Nat → Bool) → Sg → Prop) : Prop := ∀ (lv : Nat → Bool) (σ : Sg), Inv lv σ → ∃ r, fI_status σ = some r ∧ fM_status σ = some r ∧ Inv lv σ
def AllOps (Inv : (Nat → Bool) → Sg → Prop) : Prop := Op_room Inv ∧ Op_rooms Inv ∧ Op_lay Inv ∧ Op_tear Inv ∧ Op_cut Inv ∧ Op_put Inv ∧ Op_clear Inv ∧ Op_place Inv ∧ Op_block Inv ∧ Op_warm Inv ∧ Op_tenths Inv ∧ Op_terms Inv ∧ Op_day Inv ∧ Op_count Inv ∧ Op_next Inv ∧ Op_take Inv ∧ Op_way Inv ∧ Op_home Inv ∧ Op_comes Inv ∧ Op_send Inv ∧ Op_sent Inv ∧ Op_list Inv ∧ Op_price Inv ∧ Op_foretell Inv ∧ Op_foretold Inv ∧ Op_last Inv ∧ Op_heap Inv ∧ Op_pack Inv ∧ Op_image Inv ∧ Op_back Inv ∧ Op_line Inv ∧ Op_alter Inv ∧ Op_check Inv ∧ Op_status Inv
