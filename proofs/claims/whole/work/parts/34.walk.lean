set_option maxHeartbeats 4000000 in
set_option maxRecDepth 20000 in
theorem wBlocks_copy_0 {p : Program} {l : Launch} {e : Env} {s : State} {m : MethodId} {args : Array Value} {below : List Frame} {meth : Method} {c : Code} {x : Wx} {al : Nat → Nat → Nat} {lv : Nat → Bool} {res : Sg} {a : Nat} (hia : a < 6) (hla : lv a = true) {as0 ak0 an0 : Nat} (hA0 : AI x al lv as0 ak0 an0) {as1 ak1 an1 : Nat} (hA1 : AI x al lv as1 ak1 an1) (hC : Cx x p s m args meth c cX0_copy 3 none RX0) (σ : Sg) (H : Heap) (locs : List Loc) (ls : Array Slot) (h : fBlocks_copy_0 σ a as0 ak0 an0 as1 ak1 an1 = some res) (hP : Pic x al lv σ H) (hS : va_S (Ab x) s.heap H locs) (hl : lv_has ls 3 [(0, .ref (al a 15)), (1, .ref (al as0 ak0)), (2, .ref (al as1 ak1))]) : W p l e (rmm 1 0 0) s m args below meth c H locs 0 0 (MQ below (QV x al lv res) args s 0 0 (Ab x)) (F0 m 0 ls []) := by
  obtain ⟨hx, hb, hml, hown, hts⟩ := hC.1
  unfold fBlocks_copy_0 at h
  refine lv_aload_n hx hb dX0_copy_0 rfl (lv_at hl 1 rfl) ?_
  refine lv_iconst (v := 0) hx hb dX0_copy_1 (by decide) ?_
  refine lv_aload_n hx hb dX0_copy_2 rfl (lv_at hl 2 rfl) ?_
  refine lv_iconst (v := 0) hx hb dX0_copy_3 (by decide) ?_
  refine lv_aload_n hx hb dX0_copy_4 rfl (lv_at hl 0 rfl) ?_
  refine gt_X0_0 (a := a) hia hla hC hP wf_X0_30 dX0_copy_5 ?_
  refine r_acopy hC hP hS hl.1 wm_X0_38 hA0 hA1 h (Nat.le_of_ble_eq_true rfl) (Nat.le_of_ble_eq_true rfl) dX0_copy_8 (fun σ1 H locs h hP hS => ?_)
  exact r_retV hC hP hS h dX0_copy_11

set_option maxRecDepth 20000 in
theorem tBlocks_copy {l : Launch} (x : Wx) (al : Nat → Nat → Nat) (lv : Nat → Bool) (σ : Sg) (a : Nat) (hia : a < 6) (hla : lv a = true) (as0 ak0 an0 : Nat) (hA0 : AI x al lv as0 ak0 an0) (as1 ak1 an1 : Nat) (hA1 : AI x al lv as1 ak1 an1) (res : Sg) (h : fBlocks_copy σ a as0 ak0 an0 as1 ak1 an1 = some res) : Met l yX0_copy (Cond.code yX0_copy cX0_copy 3 none :: lwg) (rmm 1 0 0) (va_Pc [.ref (al a 15), .ref (al as0 ak0), .ref (al as1 ak1)] (Wd x al lv σ)) (QV x al lv res) 0 0 (Ab x) := by
  refine met_W (by decide) (Nat.le_of_ble_eq_true rfl) rfl (fun p e s m args below meth c ls hC hP hS hl => ?_)
  exact wBlocks_copy_0 hia hla hA0 hA1 hC σ  _ _ ls h hP hS hl
set_option maxHeartbeats 4000000 in
set_option maxRecDepth 20000 in
theorem wBlocks_copyFrom_0 {p : Program} {l : Launch} {e : Env} {s : State} {m : MethodId} {args : Array Value} {below : List Frame} {meth : Method} {c : Code} {x : Wx} {al : Nat → Nat → Nat} {lv : Nat → Bool} {res : Sg} {a : Nat} (hia : a < 6) (hla : lv a = true) {b : Nat} (hib : b < 6) (hlb : lv b = true) (hC : Cx x p s m args meth c cX0_copyFrom 2 none RX0) (σ : Sg) (H : Heap) (locs : List Loc) (ls : Array Slot) (h : fBlocks_copyFrom_0 σ a b = some res) (hP : Pic x al lv σ H) (hS : va_S (Ab x) s.heap H locs) (hl : lv_has ls 2 [(0, .ref (al a 15)), (1, .ref (al b 15))]) : W p l e (rmm 2 0 0) s m args below meth c H locs 0 0 (MQ below (QV x al lv res) args s 0 0 (Ab x)) (F0 m 0 ls []) := by
  obtain ⟨hx, hb, hml, hown, hts⟩ := hC.1
  unfold fBlocks_copyFrom_0 at h
  refine lv_aload_n hx hb dX0_copyFrom_0 rfl (lv_at hl 0 rfl) ?_
  refine lv_aload_n hx hb dX0_copyFrom_1 rfl (lv_at hl 1 rfl) ?_
  refine gt_X0_0 (a := b) hib hlb hC hP wf_X0_30 dX0_copyFrom_2 ?_
  refine pt_X0_0 (a := a) hia hla hC hP hS wf_X0_30 h dX0_copyFrom_5 (fun σ1 H locs h hP hS => ?_)
  refine lv_aload_n hx hb dX0_copyFrom_8 rfl (lv_at hl 0 rfl) ?_
  refine lv_aload_n hx hb dX0_copyFrom_9 rfl (lv_at hl 1 rfl) ?_
  refine gt_X0_1 (a := b) hib hlb hC hP wf_X0_9 dX0_copyFrom_10 ?_
  refine lv_aload_n hx hb dX0_copyFrom_13 rfl (lv_at hl 0 rfl) ?_
  refine gt_X0_1 (a := a) hia hla hC hP wf_X0_9 dX0_copyFrom_14 ?_
  refine r_cV hS h (fun r hr => r_runV (As := [.ref (al b 16), .ref (al a 16)]) (rest := []) hC kV_X0_34 cw_X0_copy (rc_X0 (a := a) hia hla hC hP) hP (tBlocks_copy x al lv σ1 a hia hla b 16 300 (aS_16 (a := b) hib hlb) a 16 300 (aS_16 (a := a) hia hla) r hr) rfl hl.1 ⟨Nat.le_of_ble_eq_true rfl, Nat.le_of_ble_eq_true rfl⟩ ⟨Nat.le_of_ble_eq_true rfl, Nat.le_of_ble_eq_true rfl⟩ (Nat.le_of_ble_eq_true rfl) dX0_copyFrom_17) (fun σ2 H locs h hP hS => ?_)
  refine lv_aload_n hx hb dX0_copyFrom_20 rfl (lv_at hl 0 rfl) ?_
  refine lv_aload_n hx hb dX0_copyFrom_21 rfl (lv_at hl 1 rfl) ?_
  refine gt_X0_2 (a := b) hib hlb hC hP wf_X0_15 dX0_copyFrom_22 ?_
  refine lv_aload_n hx hb dX0_copyFrom_25 rfl (lv_at hl 0 rfl) ?_
  refine gt_X0_2 (a := a) hia hla hC hP wf_X0_15 dX0_copyFrom_26 ?_
  refine r_cV hS h (fun r hr => r_runV (As := [.ref (al b 17), .ref (al a 17)]) (rest := []) hC kV_X0_34 cw_X0_copy (rc_X0 (a := a) hia hla hC hP) hP (tBlocks_copy x al lv σ2 a hia hla b 17 300 (aS_17 (a := b) hib hlb) a 17 300 (aS_17 (a := a) hia hla) r hr) rfl hl.1 ⟨Nat.le_of_ble_eq_true rfl, Nat.le_of_ble_eq_true rfl⟩ ⟨Nat.le_of_ble_eq_true rfl, Nat.le_of_ble_eq_true rfl⟩ (Nat.le_of_ble_eq_true rfl) dX0_copyFrom_29) (fun σ3 H locs h hP hS => ?_)
  refine lv_aload_n hx hb dX0_copyFrom_32 rfl (lv_at hl 0 rfl) ?_
  refine lv_aload_n hx hb dX0_copyFrom_33 rfl (lv_at hl 1 rfl) ?_
  refine gt_X0_3 (a := b) hib hlb hC hP wf_X0_18 dX0_copyFrom_34 ?_
  refine lv_aload_n hx hb dX0_copyFrom_37 rfl (lv_at hl 0 rfl) ?_
  refine gt_X0_3 (a := a) hia hla hC hP wf_X0_18 dX0_copyFrom_38 ?_
  refine r_cV hS h (fun r hr => r_runV (As := [.ref (al b 18), .ref (al a 18)]) (rest := []) hC kV_X0_34 cw_X0_copy (rc_X0 (a := a) hia hla hC hP) hP (tBlocks_copy x al lv σ3 a hia hla b 18 300 (aS_18 (a := b) hib hlb) a 18 300 (aS_18 (a := a) hia hla) r hr) rfl hl.1 ⟨Nat.le_of_ble_eq_true rfl, Nat.le_of_ble_eq_true rfl⟩ ⟨Nat.le_of_ble_eq_true rfl, Nat.le_of_ble_eq_true rfl⟩ (Nat.le_of_ble_eq_true rfl) dX0_copyFrom_41) (fun σ4 H locs h hP hS => ?_)
  refine lv_aload_n hx hb dX0_copyFrom_44 rfl (lv_at hl 0 rfl) ?_
  refine lv_aload_n hx hb dX0_copyFrom_45 rfl (lv_at hl 1 rfl) ?_
  refine gt_X0_4 (a := b) hib hlb hC hP wf_X0_21 dX0_copyFrom_46 ?_
  refine lv_aload_n hx hb dX0_copyFrom_49 rfl (lv_at hl 0 rfl) ?_
  refine gt_X0_4 (a := a) hia hla hC hP wf_X0_21 dX0_copyFrom_50 ?_
  refine r_cV hS h (fun r hr => r_runV (As := [.ref (al b 19), .ref (al a 19)]) (rest := []) hC kV_X0_34 cw_X0_copy (rc_X0 (a := a) hia hla hC hP) hP (tBlocks_copy x al lv σ4 a hia hla b 19 300 (aS_19 (a := b) hib hlb) a 19 300 (aS_19 (a := a) hia hla) r hr) rfl hl.1 ⟨Nat.le_of_ble_eq_true rfl, Nat.le_of_ble_eq_true rfl⟩ ⟨Nat.le_of_ble_eq_true rfl, Nat.le_of_ble_eq_true rfl⟩ (Nat.le_of_ble_eq_true rfl) dX0_copyFrom_53) (fun σ5 H locs h hP hS => ?_)
  refine lv_aload_n hx hb dX0_copyFrom_56 rfl (lv_at hl 0 rfl) ?_
  refine lv_aload_n hx hb dX0_copyFrom_57 rfl (lv_at hl 1 rfl) ?_
  refine gt_X0_5 (a := b) hib hlb hC hP wf_X0_24 dX0_copyFrom_58 ?_
  refine lv_aload_n hx hb dX0_copyFrom_61 rfl (lv_at hl 0 rfl) ?_
  refine gt_X0_5 (a := a) hia hla hC hP wf_X0_24 dX0_copyFrom_62 ?_
  refine r_cV hS h (fun r hr => r_runV (As := [.ref (al b 20), .ref (al a 20)]) (rest := []) hC kV_X0_34 cw_X0_copy (rc_X0 (a := a) hia hla hC hP) hP (tBlocks_copy x al lv σ5 a hia hla b 20 300 (aS_20 (a := b) hib hlb) a 20 300 (aS_20 (a := a) hia hla) r hr) rfl hl.1 ⟨Nat.le_of_ble_eq_true rfl, Nat.le_of_ble_eq_true rfl⟩ ⟨Nat.le_of_ble_eq_true rfl, Nat.le_of_ble_eq_true rfl⟩ (Nat.le_of_ble_eq_true rfl) dX0_copyFrom_65) (fun σ6 H locs h hP hS => ?_)
  refine lv_aload_n hx hb dX0_copyFrom_68 rfl (lv_at hl 0 rfl) ?_
  refine lv_aload_n hx hb dX0_copyFrom_69 rfl (lv_at hl 1 rfl) ?_
  refine gt_X0_6 (a := b) hib hlb hC hP wf_X0_27 dX0_copyFrom_70 ?_
  refine lv_aload_n hx hb dX0_copyFrom_73 rfl (lv_at hl 0 rfl) ?_
  refine gt_X0_6 (a := a) hia hla hC hP wf_X0_27 dX0_copyFrom_74 ?_
  refine r_cV hS h (fun r hr => r_runV (As := [.ref (al b 21), .ref (al a 21)]) (rest := []) hC kV_X0_34 cw_X0_copy (rc_X0 (a := a) hia hla hC hP) hP (tBlocks_copy x al lv σ6 a hia hla b 21 300 (aS_21 (a := b) hib hlb) a 21 300 (aS_21 (a := a) hia hla) r hr) rfl hl.1 ⟨Nat.le_of_ble_eq_true rfl, Nat.le_of_ble_eq_true rfl⟩ ⟨Nat.le_of_ble_eq_true rfl, Nat.le_of_ble_eq_true rfl⟩ (Nat.le_of_ble_eq_true rfl) dX0_copyFrom_77) (fun σ7 H locs h hP hS => ?_)
  exact r_retV hC hP hS h dX0_copyFrom_80

set_option maxRecDepth 20000 in
theorem tBlocks_copyFrom {l : Launch} (x : Wx) (al : Nat → Nat → Nat) (lv : Nat → Bool) (σ : Sg) (a : Nat) (hia : a < 6) (hla : lv a = true) (b : Nat) (hib : b < 6) (hlb : lv b = true) (res : Sg) (h : fBlocks_copyFrom σ a b = some res) : Met l yX0_copyFrom (Cond.code yX0_copyFrom cX0_copyFrom 2 none :: lwg) (rmm 2 0 0) (va_Pc [.ref (al a 15), .ref (al b 15)] (Wd x al lv σ)) (QV x al lv res) 0 0 (Ab x) := by
  refine met_W (by decide) (Nat.le_of_ble_eq_true rfl) rfl (fun p e s m args below meth c ls hC hP hS hl => ?_)
  exact wBlocks_copyFrom_0 hia hla hib hlb hC σ  _ _ ls h hP hS hl
set_option maxHeartbeats 4000000 in
set_option maxRecDepth 20000 in
theorem wBlocks_has_0 {p : Program} {l : Launch} {e : Env} {s : State} {m : MethodId} {args : Array Value} {below : List Frame} {meth : Method} {c : Code} {x : Wx} {al : Nat → Nat → Nat} {lv : Nat → Bool} {res : Int32} {σ : Sg} {a : Nat} (hia : a < 6) (hla : lv a = true) (hC : Cx x p s m args meth c cX0_has 2 (some .boolean) RX0) (v1 : Int32) (H : Heap) (locs : List Loc) (ls : Array Slot) (h : fBlocks_has_0 σ a v1 = some res) (hP : Pic x al lv σ H) (hS : va_S (Ab x) s.heap H locs) (hl : lv_has ls 2 [(0, .ref (al a 15)), (1, .int v1)]) : W p l e (rmm 1 0 0) s m args below meth c H locs 0 0 (MQ below (QP x al lv σ res) args s 0 0 (Ab x)) (F0 m 0 ls []) := by
  obtain ⟨hx, hb, hml, hown, hts⟩ := hC.1
  unfold fBlocks_has_0 at h
  refine lv_iload_n hx hb dX0_has_0 rfl (lv_at hl 1 rfl) ?_
  refine lv_if_lt (tgt := 16) hx hb dX0_has_1 (by decide) (fun hc => ?_) (fun hc => ?_)
  · replace h := (br h).1 hc
    refine lv_iconst (v := 0) hx hb dX0_has_16 (by decide) ?_
    exact r_retP hC hP hS rfl h dX0_has_17
  · replace h := (br h).2 hc
    refine lv_iload_n hx hb dX0_has_4 rfl (lv_at hl 1 rfl) ?_
    refine lv_aload_n hx hb dX0_has_5 rfl (lv_at hl 0 rfl) ?_
    refine gt_X0_0 (a := a) hia hla hC hP wf_X0_30 dX0_has_6 ?_
    refine lv_icmp_ge (tgt := 16) hx hb dX0_has_9 (by decide) (fun hc => ?_) (fun hc => ?_)
    · replace h := (br h).1 hc
      refine lv_iconst (v := 0) hx hb dX0_has_16 (by decide) ?_
      exact r_retP hC hP hS rfl h dX0_has_17
    · replace h := (br h).2 hc
      refine lv_iconst (v := 1) hx hb dX0_has_12 (by decide) ?_
      refine lv_goto (tgt := 17) hx hb dX0_has_13 (by decide) ?_
      exact r_retP hC hP hS rfl h dX0_has_17

set_option maxRecDepth 20000 in
theorem tBlocks_has {l : Launch} (x : Wx) (al : Nat → Nat → Nat) (lv : Nat → Bool) (σ : Sg) (a : Nat) (hia : a < 6) (hla : lv a = true) (v1 : Int32) (res : Int32) (h : fBlocks_has σ a v1 = some res) : Met l yX0_has (Cond.code yX0_has cX0_has 2 (some .boolean) :: lwg) (rmm 1 0 0) (va_Pc [.ref (al a 15), .int v1] (Wd x al lv σ)) (QP x al lv σ res) 0 0 (Ab x) := by
  refine met_W (by decide) (Nat.le_of_ble_eq_true rfl) rfl (fun p e s m args below meth c ls hC hP hS hl => ?_)
  exact wBlocks_has_0 hia hla hC v1 _ _ ls h hP hS hl
set_option maxHeartbeats 4000000 in
set_option maxRecDepth 20000 in
theorem wBlocks_isSalt_0 {p : Program} {l : Launch} {e : Env} {s : State} {m : MethodId} {args : Array Value} {below : List Frame} {meth : Method} {c : Code} {x : Wx} {al : Nat → Nat → Nat} {lv : Nat → Bool} {res : Int32} {σ : Sg} {a : Nat} (hia : a < 6) (hla : lv a = true) (hC : Cx x p s m args meth c cX0_isSalt 2 (some .boolean) RX0) (v1 : Int32) (H : Heap) (locs : List Loc) (ls : Array Slot) (h : fBlocks_isSalt_0 σ a v1 = some res) (hP : Pic x al lv σ H) (hS : va_S (Ab x) s.heap H locs) (hl : lv_has ls 2 [(0, .ref (al a 15)), (1, .int v1)]) : W p l e (rmm 1 0 0) s m args below meth c H locs 0 0 (MQ below (QP x al lv σ res) args s 0 0 (Ab x)) (F0 m 0 ls []) := by
  obtain ⟨hx, hb, hml, hown, hts⟩ := hC.1
  unfold fBlocks_isSalt_0 at h
  refine lv_iload_n hx hb dX0_isSalt_0 rfl (lv_at hl 1 rfl) ?_
  refine lv_if_lt (tgt := 26) hx hb dX0_isSalt_1 (by decide) (fun hc => ?_) (fun hc => ?_)
  · replace h := (br h).1 hc
    refine lv_iconst (v := 0) hx hb dX0_isSalt_26 (by decide) ?_
    exact r_retP hC hP hS rfl h dX0_isSalt_27
  · replace h := (br h).2 hc
    refine lv_iload_n hx hb dX0_isSalt_4 rfl (lv_at hl 1 rfl) ?_
    refine lv_aload_n hx hb dX0_isSalt_5 rfl (lv_at hl 0 rfl) ?_
    refine gt_X0_0 (a := a) hia hla hC hP wf_X0_30 dX0_isSalt_6 ?_
    refine lv_icmp_ge (tgt := 26) hx hb dX0_isSalt_9 (by decide) (fun hc => ?_) (fun hc => ?_)
    · replace h := (br h).1 hc
      refine lv_iconst (v := 0) hx hb dX0_isSalt_26 (by decide) ?_
      exact r_retP hC hP hS rfl h dX0_isSalt_27
    · replace h := (br h).2 hc
      refine lv_aload_n hx hb dX0_isSalt_12 rfl (lv_at hl 0 rfl) ?_
      refine gt_X0_1 (a := a) hia hla hC hP wf_X0_9 dX0_isSalt_13 ?_
      refine lv_iload_n hx hb dX0_isSalt_16 rfl (lv_at hl 1 rfl) ?_
      refine r_iald hC hP (aS_16 (a := a) hia hla) h dX0_isSalt_17 (fun h => ?_)
      refine lv_iconst (v := 2) hx hb dX0_isSalt_18 (by decide) ?_
      refine lv_icmp_ne (tgt := 26) hx hb dX0_isSalt_19 (by decide) (fun hc => ?_) (fun hc => ?_)
      · replace h := (br h).2 hc
        refine lv_iconst (v := 0) hx hb dX0_isSalt_26 (by decide) ?_
        exact r_retP hC hP hS rfl h dX0_isSalt_27
      · replace h := (br h).1 hc
        refine lv_iconst (v := 1) hx hb dX0_isSalt_22 (by decide) ?_
        refine lv_goto (tgt := 27) hx hb dX0_isSalt_23 (by decide) ?_
        exact r_retP hC hP hS rfl h dX0_isSalt_27

set_option maxRecDepth 20000 in
theorem tBlocks_isSalt {l : Launch} (x : Wx) (al : Nat → Nat → Nat) (lv : Nat → Bool) (σ : Sg) (a : Nat) (hia : a < 6) (hla : lv a = true) (v1 : Int32) (res : Int32) (h : fBlocks_isSalt σ a v1 = some res) : Met l yX0_isSalt (Cond.code yX0_isSalt cX0_isSalt 2 (some .boolean) :: lwg) (rmm 1 0 0) (va_Pc [.ref (al a 15), .int v1] (Wd x al lv σ)) (QP x al lv σ res) 0 0 (Ab x) := by
  refine met_W (by decide) (Nat.le_of_ble_eq_true rfl) rfl (fun p e s m args below meth c ls hC hP hS hl => ?_)
  exact wBlocks_isSalt_0 hia hla hC v1 _ _ ls h hP hS hl
set_option maxHeartbeats 4000000 in
set_option maxRecDepth 20000 in
theorem wBlocks_isInRoom_0 {p : Program} {l : Launch} {e : Env} {s : State} {m : MethodId} {args : Array Value} {below : List Frame} {meth : Method} {c : Code} {x : Wx} {al : Nat → Nat → Nat} {lv : Nat → Bool} {res : Int32} {σ : Sg} {a : Nat} (hia : a < 6) (hla : lv a = true) (hC : Cx x p s m args meth c cX0_isInRoom 2 (some .boolean) RX0) (v1 : Int32) (H : Heap) (locs : List Loc) (ls : Array Slot) (h : fBlocks_isInRoom_0 σ a v1 = some res) (hP : Pic x al lv σ H) (hS : va_S (Ab x) s.heap H locs) (hl : lv_has ls 2 [(0, .ref (al a 15)), (1, .int v1)]) : W p l e (rmm 2 0 0) s m args below meth c H locs 0 0 (MQ below (QP x al lv σ res) args s 0 0 (Ab x)) (F0 m 0 ls []) := by
  obtain ⟨hx, hb, hml, hown, hts⟩ := hC.1
  unfold fBlocks_isInRoom_0 at h
  refine lv_aload_n hx hb dX0_isInRoom_0 rfl (lv_at hl 0 rfl) ?_
  refine lv_iload_n hx hb dX0_isInRoom_1 rfl (lv_at hl 1 rfl) ?_
  refine r_cP hS h (fun r hr => r_runV (As := [.int v1]) (rest := []) hC kV_X0_44 cw_X0_has (rc_X0 (a := a) hia hla hC hP) hP (tBlocks_has x al lv σ a hia hla v1 r hr) rfl hl.1 ⟨Nat.le_of_ble_eq_true rfl, Nat.le_of_ble_eq_true rfl⟩ ⟨Nat.le_of_ble_eq_true rfl, Nat.le_of_ble_eq_true rfl⟩ (Nat.le_of_ble_eq_true rfl) dX0_isInRoom_2) (fun y1 H locs h hP hS => ?_)
  refine lv_if_eq (tgt := 22) hx hb dX0_isInRoom_5 (by decide) (fun hc => ?_) (fun hc => ?_)
  · replace h := (br h).1 hc
    refine lv_iconst (v := 0) hx hb dX0_isInRoom_22 (by decide) ?_
    exact r_retP hC hP hS rfl h dX0_isInRoom_23
  · replace h := (br h).2 hc
    refine lv_aload_n hx hb dX0_isInRoom_8 rfl (lv_at hl 0 rfl) ?_
    refine gt_X0_3 (a := a) hia hla hC hP wf_X0_18 dX0_isInRoom_9 ?_
    refine lv_iload_n hx hb dX0_isInRoom_12 rfl (lv_at hl 1 rfl) ?_
    refine r_iald hC hP (aS_18 (a := a) hia hla) h dX0_isInRoom_13 (fun h => ?_)
    refine lv_iconst (v := (-1)) hx hb dX0_isInRoom_14 (by decide) ?_
    refine lv_icmp_eq (tgt := 22) hx hb dX0_isInRoom_15 (by decide) (fun hc => ?_) (fun hc => ?_)
    · replace h := (br h).1 hc
      refine lv_iconst (v := 0) hx hb dX0_isInRoom_22 (by decide) ?_
      exact r_retP hC hP hS rfl h dX0_isInRoom_23
    · replace h := (br h).2 hc
      refine lv_iconst (v := 1) hx hb dX0_isInRoom_18 (by decide) ?_
      refine lv_goto (tgt := 23) hx hb dX0_isInRoom_19 (by decide) ?_
      exact r_retP hC hP hS rfl h dX0_isInRoom_23

set_option maxRecDepth 20000 in
theorem tBlocks_isInRoom {l : Launch} (x : Wx) (al : Nat → Nat → Nat) (lv : Nat → Bool) (σ : Sg) (a : Nat) (hia : a < 6) (hla : lv a = true) (v1 : Int32) (res : Int32) (h : fBlocks_isInRoom σ a v1 = some res) : Met l yX0_isInRoom (Cond.code yX0_isInRoom cX0_isInRoom 2 (some .boolean) :: lwg) (rmm 2 0 0) (va_Pc [.ref (al a 15), .int v1] (Wd x al lv σ)) (QP x al lv σ res) 0 0 (Ab x) := by
  refine met_W (by decide) (Nat.le_of_ble_eq_true rfl) rfl (fun p e s m args below meth c ls hC hP hS hl => ?_)
  exact wBlocks_isInRoom_0 hia hla hC v1 _ _ ls h hP hS hl
set_option maxHeartbeats 4000000 in
set_option maxRecDepth 20000 in
theorem wBlocks_leave_0 {p : Program} {l : Launch} {e : Env} {s : State} {m : MethodId} {args : Array Value} {below : List Frame} {meth : Method} {c : Code} {x : Wx} {al : Nat → Nat → Nat} {lv : Nat → Bool} {res : Sg} {a : Nat} (hia : a < 6) (hla : lv a = true) (hC : Cx x p s m args meth c cX0_leave 2 none RX0) (σ : Sg) (v1 : Int32) (H : Heap) (locs : List Loc) (ls : Array Slot) (h : fBlocks_leave_0 σ a v1 = some res) (hP : Pic x al lv σ H) (hS : va_S (Ab x) s.heap H locs) (hl : lv_has ls 2 [(0, .ref (al a 15)), (1, .int v1)]) : W p l e (rmm 1 0 0) s m args below meth c H locs 0 0 (MQ below (QV x al lv res) args s 0 0 (Ab x)) (F0 m 0 ls []) := by
  obtain ⟨hx, hb, hml, hown, hts⟩ := hC.1
  unfold fBlocks_leave_0 at h
  refine lv_aload_n hx hb dX0_leave_0 rfl (lv_at hl 0 rfl) ?_
  refine gt_X0_3 (a := a) hia hla hC hP wf_X0_18 dX0_leave_1 ?_
  refine lv_iload_n hx hb dX0_leave_4 rfl (lv_at hl 1 rfl) ?_
  refine lv_iconst (v := (-1)) hx hb dX0_leave_5 (by decide) ?_
  refine r_iast hC hP hS (aS_18 (a := a) hia hla) h dX0_leave_6 (fun σ1 H locs h hP hS => ?_)
  refine lv_aload_n hx hb dX0_leave_7 rfl (lv_at hl 0 rfl) ?_
  refine gt_X0_4 (a := a) hia hla hC hP wf_X0_21 dX0_leave_8 ?_
  refine lv_iload_n hx hb dX0_leave_11 rfl (lv_at hl 1 rfl) ?_
  refine lv_iconst (v := (-1)) hx hb dX0_leave_12 (by decide) ?_
  refine r_iast hC hP hS (aS_19 (a := a) hia hla) h dX0_leave_13 (fun σ2 H locs h hP hS => ?_)
  exact r_retV hC hP hS h dX0_leave_14

set_option maxRecDepth 20000 in
theorem tBlocks_leave {l : Launch} (x : Wx) (al : Nat → Nat → Nat) (lv : Nat → Bool) (σ : Sg) (a : Nat) (hia : a < 6) (hla : lv a = true) (v1 : Int32) (res : Sg) (h : fBlocks_leave σ a v1 = some res) : Met l yX0_leave (Cond.code yX0_leave cX0_leave 2 none :: lwg) (rmm 1 0 0) (va_Pc [.ref (al a 15), .int v1] (Wd x al lv σ)) (QV x al lv res) 0 0 (Ab x) := by
  refine met_W (by decide) (Nat.le_of_ble_eq_true rfl) rfl (fun p e s m args below meth c ls hC hP hS hl => ?_)
  exact wBlocks_leave_0 hia hla hC σ v1 _ _ ls h hP hS hl
set_option maxHeartbeats 4000000 in
set_option maxRecDepth 20000 in
theorem wBook_empty_0 {p : Program} {l : Launch} {e : Env} {s : State} {m : MethodId} {args : Array Value} {below : List Frame} {meth : Method} {c : Code} {x : Wx} {al : Nat → Nat → Nat} {lv : Nat → Bool} {res : Sg} (hl8 : lv 8 = true) (hC : Cx x p s m args meth c cX1_empty 1 none RX1) (σ : Sg) (H : Heap) (locs : List Loc) (ls : Array Slot) (h : fBook_empty_0 σ = some res) (hP : Pic x al lv σ H) (hS : va_S (Ab x) s.heap H locs) (hl : lv_has ls 1 [(0, .ref (al 8 0))]) : W p l e (rmm 1 0 0) s m args below meth c H locs 0 0 (MQ below (QV x al lv res) args s 0 0 (Ab x)) (F0 m 0 ls []) := by
  obtain ⟨hx, hb, hml, hown, hts⟩ := hC.1
  unfold fBook_empty_0 at h
  refine lv_aload_n hx hb dX1_empty_0 rfl (lv_at hl 0 rfl) ?_
  refine lv_iconst (v := 0) hx hb dX1_empty_1 (by decide) ?_
  refine pt_X1_0 hl8 hC hP hS wf_X1_18 h dX1_empty_2 (fun σ1 H locs h hP hS => ?_)
  refine lv_aload_n hx hb dX1_empty_5 rfl (lv_at hl 0 rfl) ?_
  refine lv_iconst (v := 0) hx hb dX1_empty_6 (by decide) ?_
  refine pt_X1_1 hl8 hC hP hS wf_X1_22 h dX1_empty_7 (fun σ2 H locs h hP hS => ?_)
  exact r_retV hC hP hS h dX1_empty_10

set_option maxRecDepth 20000 in
theorem tBook_empty {l : Launch} (x : Wx) (al : Nat → Nat → Nat) (lv : Nat → Bool) (σ : Sg) (hl8 : lv 8 = true) (res : Sg) (h : fBook_empty σ = some res) : Met l yX1_empty (Cond.code yX1_empty cX1_empty 1 none :: lwg) (rmm 1 0 0) (va_Pc [.ref (al 8 0)] (Wd x al lv σ)) (QV x al lv res) 0 0 (Ab x) := by
  refine met_W (by decide) (Nat.le_of_ble_eq_true rfl) rfl (fun p e s m args below meth c ls hC hP hS hl => ?_)
  exact wBook_empty_0 hl8 hC σ  _ _ ls h hP hS hl
set_option maxHeartbeats 4000000 in
set_option maxRecDepth 20000 in
theorem wMelting_leftOf_0 {p : Program} {l : Launch} {e : Env} {s : State} {m : MethodId} {args : Array Value} {below : List Frame} {meth : Method} {c : Code} {x : Wx} {al : Nat → Nat → Nat} {lv : Nat → Bool} {res : Int32} {σ : Sg} (hC : Cx x p s m args meth c cX6_leftOf 2 (some .int) RX6) (v1 : Int32) (H : Heap) (locs : List Loc) (ls : Array Slot) (h : fMelting_leftOf_0 σ v1 = some res) (hP : Pic x al lv σ H) (hS : va_S (Ab x) s.heap H locs) (hl : lv_has ls 2 [(0, .ref (al 6 2)), (1, .int v1)]) : W p l e (rmm 1 0 0) s m args below meth c H locs 0 0 (MQ below (QP x al lv σ res) args s 0 0 (Ab x)) (F0 m 0 ls []) := by
  obtain ⟨hx, hb, hml, hown, hts⟩ := hC.1
  unfold fMelting_leftOf_0 at h
  refine lv_iload_n hx hb dX6_leftOf_0 rfl (lv_at hl 1 rfl) ?_
  refine lv_aload_n hx hb dX6_leftOf_1 rfl (lv_at hl 0 rfl) ?_
  refine gt_X6_2 hC hP wf_X6_18 dX6_leftOf_2 ?_
  refine lv_icmp_ge (tgt := 12) hx hb dX6_leftOf_5 (by decide) (fun hc => ?_) (fun hc => ?_)
  · replace h := (br h).1 hc
    refine lv_iload_n hx hb dX6_leftOf_12 rfl (lv_at hl 1 rfl) ?_
    exact r_retP hC hP hS rfl h dX6_leftOf_13
  · replace h := (br h).2 hc
    refine lv_iconst (v := 0) hx hb dX6_leftOf_8 (by decide) ?_
    refine lv_goto (tgt := 13) hx hb dX6_leftOf_9 (by decide) ?_
    exact r_retP hC hP hS rfl h dX6_leftOf_13

set_option maxRecDepth 20000 in
theorem tMelting_leftOf {l : Launch} (x : Wx) (al : Nat → Nat → Nat) (lv : Nat → Bool) (σ : Sg) (v1 : Int32) (res : Int32) (h : fMelting_leftOf σ v1 = some res) : Met l yX6_leftOf (Cond.code yX6_leftOf cX6_leftOf 2 (some .int) :: lwg) (rmm 1 0 0) (va_Pc [.ref (al 6 2), .int v1] (Wd x al lv σ)) (QP x al lv σ res) 0 0 (Ab x) := by
  refine met_W (by decide) (Nat.le_of_ble_eq_true rfl) rfl (fun p e s m args below meth c ls hC hP hS hl => ?_)
  exact wMelting_leftOf_0  hC v1 _ _ ls h hP hS hl
set_option maxHeartbeats 4000000 in
set_option maxRecDepth 20000 in
theorem wI_within_0 {p : Program} {l : Launch} {e : Env} {s : State} {m : MethodId} {args : Array Value} {below : List Frame} {meth : Method} {c : Code} {x : Wx} {al : Nat → Nat → Nat} {lv : Nat → Bool} {res : Int32} {σ : Sg} (hC : Cx x p s m args meth c cX11_within 3 (some .boolean) RX11) (v0 : Int32) (v1 : Int32) (v2 : Int32) (H : Heap) (locs : List Loc) (ls : Array Slot) (h : fI_within_0 σ v0 v1 v2 = some res) (hP : Pic x al lv σ H) (hS : va_S (Ab x) s.heap H locs) (hl : lv_has ls 3 [(0, .int v0), (1, .int v1), (2, .int v2)]) : W p l e (rmm 1 0 0) s m args below meth c H locs 0 0 (MQ below (QP x al lv σ res) args s 0 0 (Ab x)) (F0 m 0 ls []) := by
  obtain ⟨hx, hb, hml, hown, hts⟩ := hC.1
  unfold fI_within_0 at h
  refine lv_iload_n hx hb dX11_within_0 rfl (lv_at hl 0 rfl) ?_
  refine lv_iload_n hx hb dX11_within_1 rfl (lv_at hl 1 rfl) ?_
  refine lv_icmp_lt (tgt := 14) hx hb dX11_within_2 (by decide) (fun hc => ?_) (fun hc => ?_)
  · replace h := (br h).1 hc
    refine lv_iconst (v := 0) hx hb dX11_within_14 (by decide) ?_
    exact r_retP hC hP hS rfl h dX11_within_15
  · replace h := (br h).2 hc
    refine lv_iload_n hx hb dX11_within_5 rfl (lv_at hl 0 rfl) ?_
    refine lv_iload_n hx hb dX11_within_6 rfl (lv_at hl 2 rfl) ?_
    refine lv_icmp_gt (tgt := 14) hx hb dX11_within_7 (by decide) (fun hc => ?_) (fun hc => ?_)
    · replace h := (br h).1 hc
      refine lv_iconst (v := 0) hx hb dX11_within_14 (by decide) ?_
      exact r_retP hC hP hS rfl h dX11_within_15
    · replace h := (br h).2 hc
      refine lv_iconst (v := 1) hx hb dX11_within_10 (by decide) ?_
      refine lv_goto (tgt := 15) hx hb dX11_within_11 (by decide) ?_
      exact r_retP hC hP hS rfl h dX11_within_15

set_option maxRecDepth 20000 in
theorem tI_within {l : Launch} (x : Wx) (al : Nat → Nat → Nat) (lv : Nat → Bool) (σ : Sg) (v0 : Int32) (v1 : Int32) (v2 : Int32) (res : Int32) (h : fI_within σ v0 v1 v2 = some res) : Met l yX11_within (Cond.code yX11_within cX11_within 3 (some .boolean) :: lwg) (rmm 1 0 0) (va_Pc [.int v0, .int v1, .int v2] (Wd x al lv σ)) (QP x al lv σ res) 0 0 (Ab x) := by
  refine met_W (by decide) (Nat.le_of_ble_eq_true rfl) rfl (fun p e s m args below meth c ls hC hP hS hl => ?_)
  exact wI_within_0  hC v0 v1 v2 _ _ ls h hP hS hl
set_option maxHeartbeats 4000000 in
set_option maxRecDepth 20000 in
theorem wMelting_lossWeighed_0 {p : Program} {l : Launch} {e : Env} {s : State} {m : MethodId} {args : Array Value} {below : List Frame} {meth : Method} {c : Code} {x : Wx} {al : Nat → Nat → Nat} {lv : Nat → Bool} {res : Int32} {σ : Sg} (hC : Cx x p s m args meth c cX6_lossWeighed 2 (some .int) RX6) (v1 : Int32) (H : Heap) (locs : List Loc) (ls : Array Slot) (h : fMelting_lossWeighed_0 σ v1 = some res) (hP : Pic x al lv σ H) (hS : va_S (Ab x) s.heap H locs) (hl : lv_has ls 2 [(0, .ref (al 6 2)), (1, .int v1)]) : W p l e (rmm 2 0 0) s m args below meth c H locs 0 0 (MQ below (QP x al lv σ res) args s 0 0 (Ab x)) (F0 m 0 ls []) := by
  obtain ⟨hx, hb, hml, hown, hts⟩ := hC.1
  unfold fMelting_lossWeighed_0 at h
  refine lv_iload_n hx hb dX6_lossWeighed_0 rfl (lv_at hl 1 rfl) ?_
  refine lv_iconst (v := 0) hx hb dX6_lossWeighed_1 (by decide) ?_
  refine lv_sipush (v := 299) hx hb dX6_lossWeighed_2 (by decide) ?_
  refine r_cP hS h (fun r hr => r_runN (As := [.int v1, .int 0, .int 299]) (rest := []) hC kN_X6_99 cw_X11_within hP (tI_within x al lv σ v1 0 299 r hr) rfl hl.1 ⟨Nat.le_of_ble_eq_true rfl, Nat.le_of_ble_eq_true rfl⟩ ⟨Nat.le_of_ble_eq_true rfl, Nat.le_of_ble_eq_true rfl⟩ (Nat.le_of_ble_eq_true rfl) dX6_lossWeighed_5) (fun y1 H locs h hP hS => ?_)
  refine lv_if_eq (tgt := 20) hx hb dX6_lossWeighed_8 (by decide) (fun hc => ?_) (fun hc => ?_)
  · replace h := (br h).1 hc
    refine lv_iconst (v := 0) hx hb dX6_lossWeighed_20 (by decide) ?_
    exact r_retP hC hP hS rfl h dX6_lossWeighed_21
  · replace h := (br h).2 hc
    refine lv_aload_n hx hb dX6_lossWeighed_11 rfl (lv_at hl 0 rfl) ?_
    refine gt_X6_4 hC hP wf_X6_28 dX6_lossWeighed_12 ?_
    refine lv_iload_n hx hb dX6_lossWeighed_15 rfl (lv_at hl 1 rfl) ?_
    refine r_iald hC hP (aI_12 hP.l6) h dX6_lossWeighed_16 (fun h => ?_)
    refine lv_goto (tgt := 21) hx hb dX6_lossWeighed_17 (by decide) ?_
    exact r_retP hC hP hS rfl h dX6_lossWeighed_21

set_option maxRecDepth 20000 in
theorem tMelting_lossWeighed {l : Launch} (x : Wx) (al : Nat → Nat → Nat) (lv : Nat → Bool) (σ : Sg) (v1 : Int32) (res : Int32) (h : fMelting_lossWeighed σ v1 = some res) : Met l yX6_lossWeighed (Cond.code yX6_lossWeighed cX6_lossWeighed 2 (some .int) :: lwg) (rmm 2 0 0) (va_Pc [.ref (al 6 2), .int v1] (Wd x al lv σ)) (QP x al lv σ res) 0 0 (Ab x) := by
  refine met_W (by decide) (Nat.le_of_ble_eq_true rfl) rfl (fun p e s m args below meth c ls hC hP hS hl => ?_)
  exact wMelting_lossWeighed_0  hC v1 _ _ ls h hP hS hl
set_option maxHeartbeats 4000000 in
set_option maxRecDepth 20000 in
theorem wBook_writeLine_0 {p : Program} {l : Launch} {e : Env} {s : State} {m : MethodId} {args : Array Value} {below : List Frame} {meth : Method} {c : Code} {x : Wx} {al : Nat → Nat → Nat} {lv : Nat → Bool} {res : Sg} {b : Nat} (hib : b < 6) (hlb : lv b = true) (hl8 : lv 8 = true) (hC : Cx x p s m args meth c cX1_writeLine 6 none RX1) (σ : Sg) (v2 : Int32) (H : Heap) (locs : List Loc) (ls : Array Slot) (h : fBook_writeLine_0 σ b v2 = some res) (hP : Pic x al lv σ H) (hS : va_S (Ab x) s.heap H locs) (hl : lv_has ls 6 [(0, .ref (al 8 0)), (1, .ref (al b 0)), (2, .int v2), (3, .ref (al 6 2))]) : W p l e (rmm 3 0 0) s m args below meth c H locs 0 0 (MQ below (QV x al lv res) args s 0 0 (Ab x)) (F0 m 0 ls []) := by
  obtain ⟨hx, hb, hml, hown, hts⟩ := hC.1
  unfold fBook_writeLine_0 at h
  refine lv_aload_n hx hb dX1_writeLine_0 rfl (lv_at hl 0 rfl) ?_
  refine gt_X1_0 hl8 hC hP wf_X1_18 dX1_writeLine_1 ?_
  refine lv_bipush (v := 6) hx hb dX1_writeLine_4 (by decide) ?_
  refine lv_imul hx hb dX1_writeLine_6 ?_
  refine r_lt h (fun y1 h => ?_)
  refine lv_istore (lv' := [(4, .int y1), (0, .ref (al 8 0)), (1, .ref (al b 0)), (2, .int v2), (3, .ref (al 6 2))]) hx hb dX1_writeLine_7 hl (by decide) rfl (fun ls hl => ?_)
  refine lv_aload_n hx hb dX1_writeLine_9 rfl (lv_at hl 4 rfl) ?_
  refine lv_iload_n hx hb dX1_writeLine_10 rfl (lv_at hl 3 rfl) ?_
  refine r_cP hS h (fun r hr => r_runV (As := [.int v2]) (rest := []) hC kV_X1_37 cw_X6_lossWeighed (rc_X6 hC hP) hP (tMelting_lossWeighed x al lv σ v2 r hr) rfl hl.1 ⟨Nat.le_of_ble_eq_true rfl, Nat.le_of_ble_eq_true rfl⟩ ⟨Nat.le_of_ble_eq_true rfl, Nat.le_of_ble_eq_true rfl⟩ (Nat.le_of_ble_eq_true rfl) dX1_writeLine_11) (fun y2 H locs h hP hS => ?_)
  refine lv_istore (lv' := [(5, .int y2), (4, .int y1), (0, .ref (al 8 0)), (1, .ref (al b 0)), (2, .int v2), (3, .ref (al 6 2))]) hx hb dX1_writeLine_14 hl (by decide) rfl (fun ls hl => ?_)
  refine lv_aload_n hx hb dX1_writeLine_16 rfl (lv_at hl 2 rfl) ?_
  refine gt_X1_2 hl8 hC hP wf_X1_11 dX1_writeLine_17 ?_
  refine lv_iload hx hb dX1_writeLine_20 (lv_at hl 1 rfl) ?_
  refine lv_iload_n hx hb dX1_writeLine_22 rfl (lv_at hl 4 rfl) ?_
  refine r_iast hC hP hS (aB_1 hl8) h dX1_writeLine_23 (fun σ3 H locs h hP hS => ?_)
  refine lv_aload_n hx hb dX1_writeLine_24 rfl (lv_at hl 2 rfl) ?_
  refine gt_X1_2 hl8 hC hP wf_X1_11 dX1_writeLine_25 ?_
  refine lv_iload hx hb dX1_writeLine_28 (lv_at hl 1 rfl) ?_
  refine lv_iconst (v := 1) hx hb dX1_writeLine_30 (by decide) ?_
  refine lv_iadd hx hb dX1_writeLine_31 ?_
  refine lv_aload_n hx hb dX1_writeLine_32 rfl (lv_at hl 3 rfl) ?_
  refine gt_X10_6 (a := b) hib hlb hC hP wf_X1_26 dX1_writeLine_33 ?_
  refine gt_X0_3 (a := b) hib hlb hC hP wf_X1_53 dX1_writeLine_36 ?_
  refine lv_iload_n hx hb dX1_writeLine_39 rfl (lv_at hl 4 rfl) ?_
  refine r_iald hC hP (aS_18 (a := b) hib hlb) h dX1_writeLine_40 (fun h => ?_)
  refine r_iast hC hP hS (aB_1 hl8) h dX1_writeLine_41 (fun σ4 H locs h hP hS => ?_)
  refine lv_aload_n hx hb dX1_writeLine_42 rfl (lv_at hl 2 rfl) ?_
  refine gt_X1_2 hl8 hC hP wf_X1_11 dX1_writeLine_43 ?_
  refine lv_iload hx hb dX1_writeLine_46 (lv_at hl 1 rfl) ?_
  refine lv_iconst (v := 2) hx hb dX1_writeLine_48 (by decide) ?_
  refine lv_iadd hx hb dX1_writeLine_49 ?_
  refine lv_aload_n hx hb dX1_writeLine_50 rfl (lv_at hl 3 rfl) ?_
  refine gt_X10_6 (a := b) hib hlb hC hP wf_X1_26 dX1_writeLine_51 ?_
  refine gt_X0_4 (a := b) hib hlb hC hP wf_X1_56 dX1_writeLine_54 ?_
  refine lv_iload_n hx hb dX1_writeLine_57 rfl (lv_at hl 4 rfl) ?_
  refine r_iald hC hP (aS_19 (a := b) hib hlb) h dX1_writeLine_58 (fun h => ?_)
  refine r_iast hC hP hS (aB_1 hl8) h dX1_writeLine_59 (fun σ5 H locs h hP hS => ?_)
  refine lv_aload_n hx hb dX1_writeLine_60 rfl (lv_at hl 2 rfl) ?_
  refine gt_X1_2 hl8 hC hP wf_X1_11 dX1_writeLine_61 ?_
  refine lv_iload hx hb dX1_writeLine_64 (lv_at hl 1 rfl) ?_
  refine lv_iconst (v := 3) hx hb dX1_writeLine_66 (by decide) ?_
  refine lv_iadd hx hb dX1_writeLine_67 ?_
  refine lv_aload_n hx hb dX1_writeLine_68 rfl (lv_at hl 3 rfl) ?_
  refine gt_X10_6 (a := b) hib hlb hC hP wf_X1_26 dX1_writeLine_69 ?_
  refine gt_X0_2 (a := b) hib hlb hC hP wf_X1_59 dX1_writeLine_72 ?_
  refine lv_iload_n hx hb dX1_writeLine_75 rfl (lv_at hl 4 rfl) ?_
  refine r_iald hC hP (aS_17 (a := b) hib hlb) h dX1_writeLine_76 (fun h => ?_)
  refine r_iast hC hP hS (aB_1 hl8) h dX1_writeLine_77 (fun σ6 H locs h hP hS => ?_)
  refine lv_aload_n hx hb dX1_writeLine_78 rfl (lv_at hl 2 rfl) ?_
  refine gt_X1_2 hl8 hC hP wf_X1_11 dX1_writeLine_79 ?_
  refine lv_iload hx hb dX1_writeLine_82 (lv_at hl 1 rfl) ?_
  refine lv_iconst (v := 4) hx hb dX1_writeLine_84 (by decide) ?_
  refine lv_iadd hx hb dX1_writeLine_85 ?_
  refine lv_iload hx hb dX1_writeLine_86 (lv_at hl 0 rfl) ?_
  refine r_iast hC hP hS (aB_1 hl8) h dX1_writeLine_88 (fun σ7 H locs h hP hS => ?_)
  refine lv_aload_n hx hb dX1_writeLine_89 rfl (lv_at hl 2 rfl) ?_
  refine gt_X1_2 hl8 hC hP wf_X1_11 dX1_writeLine_90 ?_
  refine lv_iload hx hb dX1_writeLine_93 (lv_at hl 1 rfl) ?_
  refine lv_iconst (v := 5) hx hb dX1_writeLine_95 (by decide) ?_
  refine lv_iadd hx hb dX1_writeLine_96 ?_
  refine lv_aload_n hx hb dX1_writeLine_97 rfl (lv_at hl 5 rfl) ?_
  refine lv_aload_n hx hb dX1_writeLine_98 rfl (lv_at hl 3 rfl) ?_
  refine gt_X10_6 (a := b) hib hlb hC hP wf_X1_26 dX1_writeLine_99 ?_
  refine gt_X0_2 (a := b) hib hlb hC hP wf_X1_59 dX1_writeLine_102 ?_
  refine lv_iload_n hx hb dX1_writeLine_105 rfl (lv_at hl 4 rfl) ?_
  refine r_iald hC hP (aS_17 (a := b) hib hlb) h dX1_writeLine_106 (fun h => ?_)
  refine lv_iload hx hb dX1_writeLine_107 (lv_at hl 0 rfl) ?_
  refine lv_isub hx hb dX1_writeLine_109 ?_
  refine r_cP hS h (fun r hr => r_runV (As := [.int ((σ7 b 17 v2.toNatClampNeg) - y2)]) (rest := [.int (y1 + 5), .ref (al 8 1)]) hC kV_X1_62 cw_X6_leftOf (rc_X6 hC hP) hP (tMelting_leftOf x al lv σ7 ((σ7 b 17 v2.toNatClampNeg) - y2) r hr) rfl hl.1 ⟨Nat.le_of_ble_eq_true rfl, Nat.le_of_ble_eq_true rfl⟩ ⟨Nat.le_of_ble_eq_true rfl, Nat.le_of_ble_eq_true rfl⟩ (Nat.le_of_ble_eq_true rfl) dX1_writeLine_110) (fun y8 H locs h hP hS => ?_)
  refine r_iast hC hP hS (aB_1 hl8) h dX1_writeLine_113 (fun σ9 H locs h hP hS => ?_)
  refine lv_aload_n hx hb dX1_writeLine_114 rfl (lv_at hl 2 rfl) ?_
  refine lv_dup hx hb dX1_writeLine_115 rfl ?_
  refine gt_X1_0 hl8 hC hP wf_X1_18 dX1_writeLine_116 ?_
  refine lv_iconst (v := 1) hx hb dX1_writeLine_119 (by decide) ?_
  refine lv_iadd hx hb dX1_writeLine_120 ?_
  refine pt_X1_0 hl8 hC hP hS wf_X1_18 h dX1_writeLine_121 (fun σ10 H locs h hP hS => ?_)
  exact r_retV hC hP hS h dX1_writeLine_124

set_option maxRecDepth 20000 in
theorem tBook_writeLine {l : Launch} (x : Wx) (al : Nat → Nat → Nat) (lv : Nat → Bool) (σ : Sg) (b : Nat) (hib : b < 6) (hlb : lv b = true) (hl8 : lv 8 = true) (v2 : Int32) (res : Sg) (h : fBook_writeLine σ b v2 = some res) : Met l yX1_writeLine (Cond.code yX1_writeLine cX1_writeLine 6 none :: lwg) (rmm 3 0 0) (va_Pc [.ref (al 8 0), .ref (al b 0), .int v2, .ref (al 6 2)] (Wd x al lv σ)) (QV x al lv res) 0 0 (Ab x) := by
  refine met_W (by decide) (Nat.le_of_ble_eq_true rfl) rfl (fun p e s m args below meth c ls hC hP hS hl => ?_)
  exact wBook_writeLine_0 hib hlb hl8 hC σ v2 _ _ ls h hP hS hl
set_option maxHeartbeats 4000000 in
set_option maxRecDepth 20000 in
theorem wBook_write_38 {p : Program} {l : Launch} {e : Env} {s : State} {m : MethodId} {args : Array Value} {below : List Frame} {meth : Method} {c : Code} {x : Wx} {al : Nat → Nat → Nat} {lv : Nat → Bool} {res : Sg} {b : Nat} (hib : b < 6) (hlb : lv b = true) (hl8 : lv 8 = true) (hC : Cx x p s m args meth c cX1_write 4 none RX1) (k12 : Sg → Int32 → Option (Sg)) (hk12 : ∀ (σ : Sg) (x3 : Int32) (H : Heap) (locs : List Loc) (ls : Array Slot), k12 σ x3 = some res → Pic x al lv σ H → va_S (Ab x) s.heap H locs → lv_has ls 4 [(0, .ref (al 8 0)), (1, .ref (al b 0)), (2, .ref (al 6 2)), (3, .int x3)] → W p l e (rmm 4 0 0) s m args below meth c H locs 0 0 (MQ below (QV x al lv res) args s 0 0 (Ab x)) (F0 m 12 ls [])) (σ : Sg) (x3 : Int32) (H : Heap) (locs : List Loc) (ls : Array Slot) (h : fBook_write_38 k12 σ b x3 = some res) (hP : Pic x al lv σ H) (hS : va_S (Ab x) s.heap H locs) (hl : lv_has ls 4 [(0, .ref (al 8 0)), (1, .ref (al b 0)), (2, .ref (al 6 2)), (3, .int x3)]) : W p l e (rmm 4 0 0) s m args below meth c H locs 0 0 (MQ below (QV x al lv res) args s 0 0 (Ab x)) (F0 m 38 ls []) := by
  obtain ⟨hx, hb, hml, hown, hts⟩ := hC.1
  unfold fBook_write_38 at h
  refine r_iinc (v := 1) hC h dX1_write_38 hl (k := 3) rfl rfl (by decide) (fun y6 => [(3, .int y6), (0, .ref (al 8 0)), (1, .ref (al b 0)), (2, .ref (al 6 2))]) (fun _ => rfl) (fun y6 ls h hl => ?_)
  refine lv_goto (tgt := 12) hx hb dX1_write_41 (by decide) ?_
  exact hk12 σ y6 H locs ls h hP hS (lv_sub hl [1, 2, 3, 0] rfl)

set_option maxHeartbeats 4000000 in
set_option maxRecDepth 20000 in
theorem wBook_write_12_b {p : Program} {l : Launch} {e : Env} {s : State} {m : MethodId} {args : Array Value} {below : List Frame} {meth : Method} {c : Code} {x : Wx} {al : Nat → Nat → Nat} {lv : Nat → Bool} {res : Sg} {b : Nat} (hib : b < 6) (hlb : lv b = true) (hl8 : lv 8 = true) (hC : Cx x p s m args meth c cX1_write 4 none RX1) (k12 : Sg → Int32 → Option (Sg)) (hk12 : ∀ (σ : Sg) (x3 : Int32) (H : Heap) (locs : List Loc) (ls : Array Slot), k12 σ x3 = some res → Pic x al lv σ H → va_S (Ab x) s.heap H locs → lv_has ls 4 [(0, .ref (al 8 0)), (1, .ref (al b 0)), (2, .ref (al 6 2)), (3, .int x3)] → W p l e (rmm 4 0 0) s m args below meth c H locs 0 0 (MQ below (QV x al lv res) args s 0 0 (Ab x)) (F0 m 12 ls [])) (σ : Sg) (x3 : Int32) (H : Heap) (locs : List Loc) (ls : Array Slot) (h : fBook_write_12_b k12 σ b x3 = some res) (hP : Pic x al lv σ H) (hS : va_S (Ab x) s.heap H locs) (hl : lv_has ls 4 [(0, .ref (al 8 0)), (1, .ref (al b 0)), (2, .ref (al 6 2)), (3, .int x3)]) : W p l e (rmm 4 0 0) s m args below meth c H locs 0 0 (MQ below (QV x al lv res) args s 0 0 (Ab x)) (F0 m 12 ls []) := by
  obtain ⟨hx, hb, hml, hown, hts⟩ := hC.1
  unfold fBook_write_12_b at h
  refine lv_iload_n hx hb dX1_write_12 rfl (lv_at hl 3 rfl) ?_
  refine lv_aload_n hx hb dX1_write_13 rfl (lv_at hl 1 rfl) ?_
  refine gt_X10_6 (a := b) hib hlb hC hP wf_X1_26 dX1_write_14 ?_
  refine gt_X0_0 (a := b) hib hlb hC hP wf_X1_32 dX1_write_17 ?_
  refine lv_icmp_ge (tgt := 44) hx hb dX1_write_20 (by decide) (fun hc => ?_) (fun hc => ?_)
  · replace h := (br h).1 hc
    refine lv_aload_n hx hb dX1_write_44 rfl (lv_at hl 0 rfl) ?_
    refine gt_X1_2 hl8 hC hP wf_X1_11 dX1_write_45 ?_
    refine lv_iconst (v := 0) hx hb dX1_write_48 (by decide) ?_
    refine lv_aload_n hx hb dX1_write_49 rfl (lv_at hl 0 rfl) ?_
    refine gt_X1_3 hl8 hC hP wf_X1_15 dX1_write_50 ?_
    refine lv_iconst (v := 0) hx hb dX1_write_53 (by decide) ?_
    refine lv_aload_n hx hb dX1_write_54 rfl (lv_at hl 0 rfl) ?_
    refine gt_X1_0 hl8 hC hP wf_X1_18 dX1_write_55 ?_
    refine lv_bipush (v := 6) hx hb dX1_write_58 (by decide) ?_
    refine lv_imul hx hb dX1_write_60 ?_
    refine r_acopy hC hP hS hl.1 wm_X1_47 (aB_1 hl8) (aB_2 hl8) h (Nat.le_of_ble_eq_true rfl) (Nat.le_of_ble_eq_true rfl) dX1_write_61 (fun σ3 H locs h hP hS => ?_)
    exact r_retV hC hP hS h dX1_write_64
  · replace h := (br h).2 hc
    refine lv_aload_n hx hb dX1_write_23 rfl (lv_at hl 2 rfl) ?_
    refine lv_iload_n hx hb dX1_write_24 rfl (lv_at hl 3 rfl) ?_
    refine r_cP hS h (fun r hr => r_runV (As := [.int x3]) (rest := []) hC kV_X1_37 cw_X6_lossWeighed (rc_X6 hC hP) hP (tMelting_lossWeighed x al lv σ x3 r hr) rfl hl.1 ⟨Nat.le_of_ble_eq_true rfl, Nat.le_of_ble_eq_true rfl⟩ ⟨Nat.le_of_ble_eq_true rfl, Nat.le_of_ble_eq_true rfl⟩ (Nat.le_of_ble_eq_true rfl) dX1_write_25) (fun y4 H locs h hP hS => ?_)
    refine lv_if_le (tgt := 38) hx hb dX1_write_28 (by decide) (fun hc => ?_) (fun hc => ?_)
    · replace h := (br h).1 hc
      exact wBook_write_38 hib hlb hl8 hC k12 hk12 σ x3 H locs ls h hP hS (lv_sub hl [0, 1, 2, 3] rfl)
    · replace h := (br h).2 hc
      refine lv_aload_n hx hb dX1_write_31 rfl (lv_at hl 0 rfl) ?_
      refine lv_aload_n hx hb dX1_write_32 rfl (lv_at hl 1 rfl) ?_
      refine lv_iload_n hx hb dX1_write_33 rfl (lv_at hl 3 rfl) ?_
      refine lv_aload_n hx hb dX1_write_34 rfl (lv_at hl 2 rfl) ?_
      refine r_cV hS h (fun r hr => r_runV (As := [.ref (al b 0), .int x3, .ref (al 6 2)]) (rest := []) hC kV_X1_43 cw_X1_writeLine (rc_X1 hl8 hC hP) hP (tBook_writeLine x al lv σ b hib hlb hl8 x3 r hr) rfl hl.1 ⟨Nat.le_of_ble_eq_true rfl, Nat.le_of_ble_eq_true rfl⟩ ⟨Nat.le_of_ble_eq_true rfl, Nat.le_of_ble_eq_true rfl⟩ (Nat.le_of_ble_eq_true rfl) dX1_write_35) (fun σ5 H locs h hP hS => ?_)
      exact wBook_write_38 hib hlb hl8 hC k12 hk12 σ5 x3 H locs ls h hP hS (lv_sub hl [0, 1, 2, 3] rfl)

set_option maxHeartbeats 4000000 in
set_option maxRecDepth 20000 in
theorem wBook_write_12 {p : Program} {l : Launch} {e : Env} {s : State} {m : MethodId} {args : Array Value} {below : List Frame} {meth : Method} {c : Code} {x : Wx} {al : Nat → Nat → Nat} {lv : Nat → Bool} {res : Sg} {b : Nat} (hib : b < 6) (hlb : lv b = true) (hl8 : lv 8 = true) (hC : Cx x p s m args meth c cX1_write 4 none RX1) (n : Nat) (σ : Sg) (x3 : Int32) (H : Heap) (locs : List Loc) (ls : Array Slot) (h : fBook_write_12 n σ b x3 = some res) (hP : Pic x al lv σ H) (hS : va_S (Ab x) s.heap H locs) (hl : lv_has ls 4 [(0, .ref (al 8 0)), (1, .ref (al b 0)), (2, .ref (al 6 2)), (3, .int x3)]) : W p l e (rmm 4 0 0) s m args below meth c H locs 0 0 (MQ below (QV x al lv res) args s 0 0 (Ab x)) (F0 m 12 ls []) := by
  induction n generalizing σ x3 H locs ls with
  | zero => exact nomatch h
  | succ n ih => exact wBook_write_12_b hib hlb hl8 hC  _ (fun σ x3 H locs ls h hP hS hl => ih σ x3 H locs ls h hP hS hl) σ x3 H locs ls h hP hS hl
set_option maxHeartbeats 4000000 in
set_option maxRecDepth 20000 in
theorem wBook_write_0 {p : Program} {l : Launch} {e : Env} {s : State} {m : MethodId} {args : Array Value} {below : List Frame} {meth : Method} {c : Code} {x : Wx} {al : Nat → Nat → Nat} {lv : Nat → Bool} {res : Sg} {b : Nat} (hib : b < 6) (hlb : lv b = true) (hl8 : lv 8 = true) (hC : Cx x p s m args meth c cX1_write 4 none RX1) (σ : Sg) (H : Heap) (locs : List Loc) (ls : Array Slot) (h : fBook_write_0 σ b = some res) (hP : Pic x al lv σ H) (hS : va_S (Ab x) s.heap H locs) (hl : lv_has ls 4 [(0, .ref (al 8 0)), (1, .ref (al b 0)), (2, .ref (al 6 2))]) : W p l e (rmm 4 0 0) s m args below meth c H locs 0 0 (MQ below (QV x al lv res) args s 0 0 (Ab x)) (F0 m 0 ls []) := by
  obtain ⟨hx, hb, hml, hown, hts⟩ := hC.1
  unfold fBook_write_0 at h
  refine lv_aload_n hx hb dX1_write_0 rfl (lv_at hl 0 rfl) ?_
  refine lv_iconst (v := 0) hx hb dX1_write_1 (by decide) ?_
  refine pt_X1_0 hl8 hC hP hS wf_X1_18 h dX1_write_2 (fun σ1 H locs h hP hS => ?_)
  refine lv_aload_n hx hb dX1_write_5 rfl (lv_at hl 0 rfl) ?_
  refine lv_iconst (v := 1) hx hb dX1_write_6 (by decide) ?_
  refine pt_X1_1 hl8 hC hP hS wf_X1_22 h dX1_write_7 (fun σ2 H locs h hP hS => ?_)
  refine lv_iconst (v := 0) hx hb dX1_write_10 (by decide) ?_
  refine lv_istore_n (lv' := [(3, .int 0), (0, .ref (al 8 0)), (1, .ref (al b 0)), (2, .ref (al 6 2))]) hx hb dX1_write_11 rfl hl (by decide) rfl (fun ls hl => ?_)
  exact wBook_write_12 hib hlb hl8 hC  FU σ2 0 H locs ls h hP hS (lv_sub hl [1, 2, 3, 0] rfl)

set_option maxRecDepth 20000 in
theorem tBook_write {l : Launch} (x : Wx) (al : Nat → Nat → Nat) (lv : Nat → Bool) (σ : Sg) (b : Nat) (hib : b < 6) (hlb : lv b = true) (hl8 : lv 8 = true) (res : Sg) (h : fBook_write σ b = some res) : Met l yX1_write (Cond.code yX1_write cX1_write 4 none :: lwg) (rmm 4 0 0) (va_Pc [.ref (al 8 0), .ref (al b 0), .ref (al 6 2)] (Wd x al lv σ)) (QV x al lv res) 0 0 (Ab x) := by
  refine met_W (by decide) (Nat.le_of_ble_eq_true rfl) rfl (fun p e s m args below meth c ls hC hP hS hl => ?_)
  exact wBook_write_0 hib hlb hl8 hC σ  _ _ ls h hP hS hl
set_option maxHeartbeats 4000000 in
set_option maxRecDepth 20000 in
theorem wBook_number_0 {p : Program} {l : Launch} {e : Env} {s : State} {m : MethodId} {args : Array Value} {below : List Frame} {meth : Method} {c : Code} {x : Wx} {al : Nat → Nat → Nat} {lv : Nat → Bool} {res : Int32} {σ : Sg} (hl8 : lv 8 = true) (hC : Cx x p s m args meth c cX1_number 3 (some .int) RX1) (v1 : Int32) (v2 : Int32) (H : Heap) (locs : List Loc) (ls : Array Slot) (h : fBook_number_0 σ v1 v2 = some res) (hP : Pic x al lv σ H) (hS : va_S (Ab x) s.heap H locs) (hl : lv_has ls 3 [(0, .ref (al 8 0)), (1, .int v1), (2, .int v2)]) : W p l e (rmm 1 0 0) s m args below meth c H locs 0 0 (MQ below (QP x al lv σ res) args s 0 0 (Ab x)) (F0 m 0 ls []) := by
  obtain ⟨hx, hb, hml, hown, hts⟩ := hC.1
  unfold fBook_number_0 at h
  refine lv_aload_n hx hb dX1_number_0 rfl (lv_at hl 0 rfl) ?_
  refine gt_X1_3 hl8 hC hP wf_X1_15 dX1_number_1 ?_
  refine lv_iload_n hx hb dX1_number_4 rfl (lv_at hl 1 rfl) ?_
  refine lv_bipush (v := 6) hx hb dX1_number_5 (by decide) ?_
  refine lv_imul hx hb dX1_number_7 ?_
  refine lv_iload_n hx hb dX1_number_8 rfl (lv_at hl 2 rfl) ?_
  refine lv_iadd hx hb dX1_number_9 ?_
  refine r_iald hC hP (aB_2 hl8) h dX1_number_10 (fun h => ?_)
  exact r_retP hC hP hS rfl h dX1_number_11

set_option maxRecDepth 20000 in
theorem tBook_number {l : Launch} (x : Wx) (al : Nat → Nat → Nat) (lv : Nat → Bool) (σ : Sg) (hl8 : lv 8 = true) (v1 : Int32) (v2 : Int32) (res : Int32) (h : fBook_number σ v1 v2 = some res) : Met l yX1_number (Cond.code yX1_number cX1_number 3 (some .int) :: lwg) (rmm 1 0 0) (va_Pc [.ref (al 8 0), .int v1, .int v2] (Wd x al lv σ)) (QP x al lv σ res) 0 0 (Ab x) := by
  refine met_W (by decide) (Nat.le_of_ble_eq_true rfl) rfl (fun p e s m args below meth c ls hC hP hS hl => ?_)
  exact wBook_number_0 hl8 hC v1 v2 _ _ ls h hP hS hl
set_option maxHeartbeats 4000000 in
set_option maxRecDepth 20000 in
theorem wBook_change_0 {p : Program} {l : Launch} {e : Env} {s : State} {m : MethodId} {args : Array Value} {below : List Frame} {meth : Method} {c : Code} {x : Wx} {al : Nat → Nat → Nat} {lv : Nat → Bool} {res : Sg} (hl8 : lv 8 = true) (hC : Cx x p s m args meth c cX1_change 4 none RX1) (σ : Sg) (v1 : Int32) (v2 : Int32) (v3 : Int32) (H : Heap) (locs : List Loc) (ls : Array Slot) (h : fBook_change_0 σ v1 v2 v3 = some res) (hP : Pic x al lv σ H) (hS : va_S (Ab x) s.heap H locs) (hl : lv_has ls 4 [(0, .ref (al 8 0)), (1, .int v1), (2, .int v2), (3, .int v3)]) : W p l e (rmm 1 0 0) s m args below meth c H locs 0 0 (MQ below (QV x al lv res) args s 0 0 (Ab x)) (F0 m 0 ls []) := by
  obtain ⟨hx, hb, hml, hown, hts⟩ := hC.1
  unfold fBook_change_0 at h
  refine lv_aload_n hx hb dX1_change_0 rfl (lv_at hl 0 rfl) ?_
  refine gt_X1_3 hl8 hC hP wf_X1_15 dX1_change_1 ?_
  refine lv_iload_n hx hb dX1_change_4 rfl (lv_at hl 1 rfl) ?_
  refine lv_bipush (v := 6) hx hb dX1_change_5 (by decide) ?_
  refine lv_imul hx hb dX1_change_7 ?_
  refine lv_iload_n hx hb dX1_change_8 rfl (lv_at hl 2 rfl) ?_
  refine lv_iadd hx hb dX1_change_9 ?_
  refine lv_dup2_11 hx hb dX1_change_10 rfl rfl ?_
  refine r_iald hC hP (aB_2 hl8) h dX1_change_11 (fun h => ?_)
  refine lv_iload_n hx hb dX1_change_12 rfl (lv_at hl 3 rfl) ?_
  refine lv_ixor hx hb dX1_change_13 ?_
  refine r_iast hC hP hS (aB_2 hl8) h dX1_change_14 (fun σ1 H locs h hP hS => ?_)
  exact r_retV hC hP hS h dX1_change_15

set_option maxRecDepth 20000 in
theorem tBook_change {l : Launch} (x : Wx) (al : Nat → Nat → Nat) (lv : Nat → Bool) (σ : Sg) (hl8 : lv 8 = true) (v1 : Int32) (v2 : Int32) (v3 : Int32) (res : Sg) (h : fBook_change σ v1 v2 v3 = some res) : Met l yX1_change (Cond.code yX1_change cX1_change 4 none :: lwg) (rmm 1 0 0) (va_Pc [.ref (al 8 0), .int v1, .int v2, .int v3] (Wd x al lv σ)) (QV x al lv res) 0 0 (Ab x) := by
  refine met_W (by decide) (Nat.le_of_ble_eq_true rfl) rfl (fun p e s m args below meth c ls hC hP hS hl => ?_)
  exact wBook_change_0 hl8 hC σ v1 v2 v3 _ _ ls h hP hS hl
set_option maxHeartbeats 4000000 in
set_option maxRecDepth 20000 in
theorem wBook_firstWrong_2_b {p : Program} {l : Launch} {e : Env} {s : State} {m : MethodId} {args : Array Value} {below : List Frame} {meth : Method} {c : Code} {x : Wx} {al : Nat → Nat → Nat} {lv : Nat → Bool} {res : Int32} {σ : Sg} (hl8 : lv 8 = true) (hC : Cx x p s m args meth c cX1_firstWrong 2 (some .int) RX1) (k2 : Int32 → Option (Int32)) (hk2 : ∀ (x1 : Int32) (H : Heap) (locs : List Loc) (ls : Array Slot), k2 x1 = some res → Pic x al lv σ H → va_S (Ab x) s.heap H locs → lv_has ls 2 [(0, .ref (al 8 0)), (1, .int x1)] → W p l e (rmm 1 0 0) s m args below meth c H locs 0 0 (MQ below (QP x al lv σ res) args s 0 0 (Ab x)) (F0 m 2 ls [])) (x1 : Int32) (H : Heap) (locs : List Loc) (ls : Array Slot) (h : fBook_firstWrong_2_b k2 σ x1 = some res) (hP : Pic x al lv σ H) (hS : va_S (Ab x) s.heap H locs) (hl : lv_has ls 2 [(0, .ref (al 8 0)), (1, .int x1)]) : W p l e (rmm 1 0 0) s m args below meth c H locs 0 0 (MQ below (QP x al lv σ res) args s 0 0 (Ab x)) (F0 m 2 ls []) := by
  obtain ⟨hx, hb, hml, hown, hts⟩ := hC.1
  unfold fBook_firstWrong_2_b at h
  refine lv_iload_n hx hb dX1_firstWrong_2 rfl (lv_at hl 1 rfl) ?_
  refine lv_aload_n hx hb dX1_firstWrong_3 rfl (lv_at hl 0 rfl) ?_
  refine gt_X1_0 hl8 hC hP wf_X1_18 dX1_firstWrong_4 ?_
  refine lv_bipush (v := 6) hx hb dX1_firstWrong_7 (by decide) ?_
  refine lv_imul hx hb dX1_firstWrong_9 ?_
  refine lv_icmp_ge (tgt := 39) hx hb dX1_firstWrong_10 (by decide) (fun hc => ?_) (fun hc => ?_)
  · replace h := (br h).1 hc
    refine lv_iconst (v := (-1)) hx hb dX1_firstWrong_39 (by decide) ?_
    exact r_retP hC hP hS rfl h dX1_firstWrong_40
  · replace h := (br h).2 hc
    refine lv_aload_n hx hb dX1_firstWrong_13 rfl (lv_at hl 0 rfl) ?_
    refine gt_X1_3 hl8 hC hP wf_X1_15 dX1_firstWrong_14 ?_
    refine lv_iload_n hx hb dX1_firstWrong_17 rfl (lv_at hl 1 rfl) ?_
    refine r_iald hC hP (aB_2 hl8) h dX1_firstWrong_18 (fun h => ?_)
    refine lv_aload_n hx hb dX1_firstWrong_19 rfl (lv_at hl 0 rfl) ?_
    refine gt_X1_2 hl8 hC hP wf_X1_11 dX1_firstWrong_20 ?_
    refine lv_iload_n hx hb dX1_firstWrong_23 rfl (lv_at hl 1 rfl) ?_
    refine r_iald hC hP (aB_1 hl8) h dX1_firstWrong_24 (fun h => ?_)
    refine lv_icmp_eq (tgt := 33) hx hb dX1_firstWrong_25 (by decide) (fun hc => ?_) (fun hc => ?_)
    · replace h := (br h).1 hc
      refine r_iinc (v := 1) hC h dX1_firstWrong_33 hl (k := 1) rfl rfl (by decide) (fun y1 => [(1, .int y1), (0, .ref (al 8 0))]) (fun _ => rfl) (fun y1 ls h hl => ?_)
      refine lv_goto (tgt := 2) hx hb dX1_firstWrong_36 (by decide) ?_
      exact hk2 y1 H locs ls h hP hS (lv_sub hl [1, 0] rfl)
    · replace h := (br h).2 hc
      refine lv_iload_n hx hb dX1_firstWrong_28 rfl (lv_at hl 1 rfl) ?_
      refine lv_bipush (v := 6) hx hb dX1_firstWrong_29 (by decide) ?_
      refine lv_idiv hx hb dX1_firstWrong_31 (by decide) ?_
      exact r_retP hC hP hS rfl h dX1_firstWrong_32

set_option maxHeartbeats 4000000 in
set_option maxRecDepth 20000 in
theorem wBook_firstWrong_2 {p : Program} {l : Launch} {e : Env} {s : State} {m : MethodId} {args : Array Value} {below : List Frame} {meth : Method} {c : Code} {x : Wx} {al : Nat → Nat → Nat} {lv : Nat → Bool} {res : Int32} {σ : Sg} (hl8 : lv 8 = true) (hC : Cx x p s m args meth c cX1_firstWrong 2 (some .int) RX1) (n : Nat) (x1 : Int32) (H : Heap) (locs : List Loc) (ls : Array Slot) (h : fBook_firstWrong_2 n σ x1 = some res) (hP : Pic x al lv σ H) (hS : va_S (Ab x) s.heap H locs) (hl : lv_has ls 2 [(0, .ref (al 8 0)), (1, .int x1)]) : W p l e (rmm 1 0 0) s m args below meth c H locs 0 0 (MQ below (QP x al lv σ res) args s 0 0 (Ab x)) (F0 m 2 ls []) := by
  induction n generalizing x1 H locs ls with
  | zero => exact nomatch h
  | succ n ih => exact wBook_firstWrong_2_b hl8 hC  _ (fun x1 H locs ls h hP hS hl => ih x1 H locs ls h hP hS hl) x1 H locs ls h hP hS hl
set_option maxHeartbeats 4000000 in
set_option maxRecDepth 20000 in
theorem wBook_firstWrong_0 {p : Program} {l : Launch} {e : Env} {s : State} {m : MethodId} {args : Array Value} {below : List Frame} {meth : Method} {c : Code} {x : Wx} {al : Nat → Nat → Nat} {lv : Nat → Bool} {res : Int32} {σ : Sg} (hl8 : lv 8 = true) (hC : Cx x p s m args meth c cX1_firstWrong 2 (some .int) RX1) (H : Heap) (locs : List Loc) (ls : Array Slot) (h : fBook_firstWrong_0 σ = some res) (hP : Pic x al lv σ H) (hS : va_S (Ab x) s.heap H locs) (hl : lv_has ls 2 [(0, .ref (al 8 0))]) : W p l e (rmm 1 0 0) s m args below meth c H locs 0 0 (MQ below (QP x al lv σ res) args s 0 0 (Ab x)) (F0 m 0 ls []) := by
  obtain ⟨hx, hb, hml, hown, hts⟩ := hC.1
  unfold fBook_firstWrong_0 at h
  refine lv_iconst (v := 0) hx hb dX1_firstWrong_0 (by decide) ?_
  refine lv_istore_n (lv' := [(1, .int 0), (0, .ref (al 8 0))]) hx hb dX1_firstWrong_1 rfl hl (by decide) rfl (fun ls hl => ?_)
  exact wBook_firstWrong_2 hl8 hC  FU 0 H locs ls h hP hS (lv_sub hl [1, 0] rfl)

set_option maxRecDepth 20000 in
theorem tBook_firstWrong {l : Launch} (x : Wx) (al : Nat → Nat → Nat) (lv : Nat → Bool) (σ : Sg) (hl8 : lv 8 = true) (res : Int32) (h : fBook_firstWrong σ = some res) : Met l yX1_firstWrong (Cond.code yX1_firstWrong cX1_firstWrong 2 (some .int) :: lwg) (rmm 1 0 0) (va_Pc [.ref (al 8 0)] (Wd x al lv σ)) (QP x al lv σ res) 0 0 (Ab x) := by
  refine met_W (by decide) (Nat.le_of_ble_eq_true rfl) rfl (fun p e s m args below meth c ls hC hP hS hl => ?_)
  exact wBook_firstWrong_0 hl8 hC  _ _ ls h hP hS hl
set_option maxHeartbeats 4000000 in
set_option maxRecDepth 20000 in
theorem wCalendar_tenthsOf_0 {p : Program} {l : Launch} {e : Env} {s : State} {m : MethodId} {args : Array Value} {below : List Frame} {meth : Method} {c : Code} {x : Wx} {al : Nat → Nat → Nat} {lv : Nat → Bool} {res : Int32} {σ : Sg} (hC : Cx x p s m args meth c cX2_tenthsOf 2 (some .int) RX2) (v1 : Int32) (H : Heap) (locs : List Loc) (ls : Array Slot) (h : fCalendar_tenthsOf_0 σ v1 = some res) (hP : Pic x al lv σ H) (hS : va_S (Ab x) s.heap H locs) (hl : lv_has ls 2 [(0, .ref (al 6 1)), (1, .int v1)]) : W p l e (rmm 2 0 0) s m args below meth c H locs 0 0 (MQ below (QP x al lv σ res) args s 0 0 (Ab x)) (F0 m 0 ls []) := by
  obtain ⟨hx, hb, hml, hown, hts⟩ := hC.1
  unfold fCalendar_tenthsOf_0 at h
  refine lv_iload_n hx hb dX2_tenthsOf_0 rfl (lv_at hl 1 rfl) ?_
  refine lv_iconst (v := 0) hx hb dX2_tenthsOf_1 (by decide) ?_
  refine lv_sipush (v := 199) hx hb dX2_tenthsOf_2 (by decide) ?_
  refine r_cP hS h (fun r hr => r_runN (As := [.int v1, .int 0, .int 199]) (rest := []) hC kN_X2_19 cw_X11_within hP (tI_within x al lv σ v1 0 199 r hr) rfl hl.1 ⟨Nat.le_of_ble_eq_true rfl, Nat.le_of_ble_eq_true rfl⟩ ⟨Nat.le_of_ble_eq_true rfl, Nat.le_of_ble_eq_true rfl⟩ (Nat.le_of_ble_eq_true rfl) dX2_tenthsOf_5) (fun y1 H locs h hP hS => ?_)
  refine lv_if_eq (tgt := 20) hx hb dX2_tenthsOf_8 (by decide) (fun hc => ?_) (fun hc => ?_)
  · replace h := (br h).1 hc
    refine lv_aload_n hx hb dX2_tenthsOf_20 rfl (lv_at hl 0 rfl) ?_
    refine gt_X2_1 hC hP wf_X2_15 dX2_tenthsOf_21 ?_
    refine lv_sipush (v := 199) hx hb dX2_tenthsOf_24 (by decide) ?_
    refine r_iald hC hP (aI_10 hP.l6) h dX2_tenthsOf_27 (fun h => ?_)
    exact r_retP hC hP hS rfl h dX2_tenthsOf_28
  · replace h := (br h).2 hc
    refine lv_aload_n hx hb dX2_tenthsOf_11 rfl (lv_at hl 0 rfl) ?_
    refine gt_X2_1 hC hP wf_X2_15 dX2_tenthsOf_12 ?_
    refine lv_iload_n hx hb dX2_tenthsOf_15 rfl (lv_at hl 1 rfl) ?_
    refine r_iald hC hP (aI_10 hP.l6) h dX2_tenthsOf_16 (fun h => ?_)
    refine lv_goto (tgt := 28) hx hb dX2_tenthsOf_17 (by decide) ?_
    exact r_retP hC hP hS rfl h dX2_tenthsOf_28

set_option maxRecDepth 20000 in
theorem tCalendar_tenthsOf {l : Launch} (x : Wx) (al : Nat → Nat → Nat) (lv : Nat → Bool) (σ : Sg) (v1 : Int32) (res : Int32) (h : fCalendar_tenthsOf σ v1 = some res) : Met l yX2_tenthsOf (Cond.code yX2_tenthsOf cX2_tenthsOf 2 (some .int) :: lwg) (rmm 2 0 0) (va_Pc [.ref (al 6 1), .int v1] (Wd x al lv σ)) (QP x al lv σ res) 0 0 (Ab x) := by
  refine met_W (by decide) (Nat.le_of_ble_eq_true rfl) rfl (fun p e s m args below meth c ls hC hP hS hl => ?_)
  exact wCalendar_tenthsOf_0  hC v1 _ _ ls h hP hS hl
set_option maxHeartbeats 4000000 in
set_option maxRecDepth 20000 in
theorem wCalendar_carryOnFrom_40 {p : Program} {l : Launch} {e : Env} {s : State} {m : MethodId} {args : Array Value} {below : List Frame} {meth : Method} {c : Code} {x : Wx} {al : Nat → Nat → Nat} {lv : Nat → Bool} {res : Sg} (hC : Cx x p s m args meth c cX2_carryOnFrom 3 none RX2) (k2 : Sg → Int32 → Option (Sg)) (hk2 : ∀ (σ : Sg) (x2 : Int32) (H : Heap) (locs : List Loc) (ls : Array Slot), k2 σ x2 = some res → Pic x al lv σ H → va_S (Ab x) s.heap H locs → lv_has ls 3 [(0, .ref (al 6 1)), (2, .int x2)] → W p l e (rmm 1 0 0) s m args below meth c H locs 0 0 (MQ below (QV x al lv res) args s 0 0 (Ab x)) (F0 m 2 ls [])) (σ : Sg) (x2 : Int32) (H : Heap) (locs : List Loc) (ls : Array Slot) (h : fCalendar_carryOnFrom_40 k2 σ x2 = some res) (hP : Pic x al lv σ H) (hS : va_S (Ab x) s.heap H locs) (hl : lv_has ls 3 [(0, .ref (al 6 1)), (2, .int x2)]) : W p l e (rmm 1 0 0) s m args below meth c H locs 0 0 (MQ below (QV x al lv res) args s 0 0 (Ab x)) (F0 m 40 ls []) := by
  obtain ⟨hx, hb, hml, hown, hts⟩ := hC.1
  unfold fCalendar_carryOnFrom_40 at h
  refine r_iinc (v := 1) hC h dX2_carryOnFrom_40 hl (k := 1) rfl rfl (by decide) (fun y2 => [(2, .int y2), (0, .ref (al 6 1))]) (fun _ => rfl) (fun y2 ls h hl => ?_)
  refine lv_goto (tgt := 2) hx hb dX2_carryOnFrom_43 (by decide) ?_
  exact hk2 σ y2 H locs ls h hP hS (lv_sub hl [1, 0] rfl)

set_option maxHeartbeats 4000000 in
set_option maxRecDepth 20000 in
theorem wCalendar_carryOnFrom_39 {p : Program} {l : Launch} {e : Env} {s : State} {m : MethodId} {args : Array Value} {below : List Frame} {meth : Method} {c : Code} {x : Wx} {al : Nat → Nat → Nat} {lv : Nat → Bool} {res : Sg} (hC : Cx x p s m args meth c cX2_carryOnFrom 3 none RX2) (k2 : Sg → Int32 → Option (Sg)) (hk2 : ∀ (σ : Sg) (x2 : Int32) (H : Heap) (locs : List Loc) (ls : Array Slot), k2 σ x2 = some res → Pic x al lv σ H → va_S (Ab x) s.heap H locs → lv_has ls 3 [(0, .ref (al 6 1)), (2, .int x2)] → W p l e (rmm 1 0 0) s m args below meth c H locs 0 0 (MQ below (QV x al lv res) args s 0 0 (Ab x)) (F0 m 2 ls [])) (σ : Sg) (x2 : Int32) (t0 : Int32) (t1 : Int32) (H : Heap) (locs : List Loc) (ls : Array Slot) (h : fCalendar_carryOnFrom_39 k2 σ x2 t0 t1 = some res) (hP : Pic x al lv σ H) (hS : va_S (Ab x) s.heap H locs) (hl : lv_has ls 3 [(0, .ref (al 6 1)), (2, .int x2)]) : W p l e (rmm 1 0 0) s m args below meth c H locs 0 0 (MQ below (QV x al lv res) args s 0 0 (Ab x)) (F0 m 39 ls [.int t0, .int t1, .ref (al 6 10)]) := by
  obtain ⟨hx, hb, hml, hown, hts⟩ := hC.1
  unfold fCalendar_carryOnFrom_39 at h
  refine r_iast hC hP hS (aI_10 hP.l6) h dX2_carryOnFrom_39 (fun σ1 H locs h hP hS => ?_)
  exact wCalendar_carryOnFrom_40  hC k2 hk2 σ1 x2 H locs ls h hP hS (lv_sub hl [0, 1] rfl)

set_option maxHeartbeats 4000000 in
set_option maxRecDepth 20000 in
theorem wCalendar_carryOnFrom_2_b {p : Program} {l : Launch} {e : Env} {s : State} {m : MethodId} {args : Array Value} {below : List Frame} {meth : Method} {c : Code} {x : Wx} {al : Nat → Nat → Nat} {lv : Nat → Bool} {res : Sg} (hC : Cx x p s m args meth c cX2_carryOnFrom 3 none RX2) (k2 : Sg → Int32 → Option (Sg)) (hk2 : ∀ (σ : Sg) (x2 : Int32) (H : Heap) (locs : List Loc) (ls : Array Slot), k2 σ x2 = some res → Pic x al lv σ H → va_S (Ab x) s.heap H locs → lv_has ls 3 [(0, .ref (al 6 1)), (2, .int x2)] → W p l e (rmm 1 0 0) s m args below meth c H locs 0 0 (MQ below (QV x al lv res) args s 0 0 (Ab x)) (F0 m 2 ls [])) (σ : Sg) (x2 : Int32) (H : Heap) (locs : List Loc) (ls : Array Slot) (h : fCalendar_carryOnFrom_2_b k2 σ x2 = some res) (hP : Pic x al lv σ H) (hS : va_S (Ab x) s.heap H locs) (hl : lv_has ls 3 [(0, .ref (al 6 1)), (2, .int x2)]) : W p l e (rmm 1 0 0) s m args below meth c H locs 0 0 (MQ below (QV x al lv res) args s 0 0 (Ab x)) (F0 m 2 ls []) := by
  obtain ⟨hx, hb, hml, hown, hts⟩ := hC.1
  unfold fCalendar_carryOnFrom_2_b at h
  refine lv_iload_n hx hb dX2_carryOnFrom_2 rfl (lv_at hl 1 rfl) ?_
  refine lv_sipush (v := 199) hx hb dX2_carryOnFrom_3 (by decide) ?_
  refine lv_icmp_gt (tgt := 46) hx hb dX2_carryOnFrom_6 (by decide) (fun hc => ?_) (fun hc => ?_)
  · replace h := (br h).1 hc
    exact r_retV hC hP hS h dX2_carryOnFrom_46
  · replace h := (br h).2 hc
    refine lv_aload_n hx hb dX2_carryOnFrom_9 rfl (lv_at hl 0 rfl) ?_
    refine gt_X2_0 hC hP wf_X2_9 dX2_carryOnFrom_10 ?_
    refine lv_iload_n hx hb dX2_carryOnFrom_13 rfl (lv_at hl 1 rfl) ?_
    refine r_zald hC hP (aI_9 hP.l6) h dX2_carryOnFrom_14 (fun h => ?_)
    refine lv_if_ne (tgt := 40) hx hb dX2_carryOnFrom_15 (by decide) (fun hc => ?_) (fun hc => ?_)
    · replace h := (br h).2 hc
      exact wCalendar_carryOnFrom_40  hC k2 hk2 σ x2 H locs ls h hP hS (lv_sub hl [0, 1] rfl)
    · replace h := (br h).1 hc
      refine lv_aload_n hx hb dX2_carryOnFrom_18 rfl (lv_at hl 0 rfl) ?_
      refine gt_X2_1 hC hP wf_X2_15 dX2_carryOnFrom_19 ?_
      refine lv_iload_n hx hb dX2_carryOnFrom_22 rfl (lv_at hl 1 rfl) ?_
      refine lv_iload_n hx hb dX2_carryOnFrom_23 rfl (lv_at hl 1 rfl) ?_
      refine lv_if_ne (tgt := 31) hx hb dX2_carryOnFrom_24 (by decide) (fun hc => ?_) (fun hc => ?_)
      · replace h := (br h).2 hc
        refine lv_aload_n hx hb dX2_carryOnFrom_31 rfl (lv_at hl 0 rfl) ?_
        refine gt_X2_1 hC hP wf_X2_15 dX2_carryOnFrom_32 ?_
        refine lv_iload_n hx hb dX2_carryOnFrom_35 rfl (lv_at hl 1 rfl) ?_
        refine lv_iconst (v := 1) hx hb dX2_carryOnFrom_36 (by decide) ?_
        refine lv_isub hx hb dX2_carryOnFrom_37 ?_
        refine r_iald hC hP (aI_10 hP.l6) h dX2_carryOnFrom_38 (fun h => ?_)
        exact wCalendar_carryOnFrom_39  hC k2 hk2 σ x2 (σ 6 10 (x2 - 1).toNatClampNeg) x2 H locs ls h hP hS (lv_sub hl [0, 1] rfl)
      · replace h := (br h).1 hc
        refine lv_iconst (v := 0) hx hb dX2_carryOnFrom_27 (by decide) ?_
        refine lv_goto (tgt := 39) hx hb dX2_carryOnFrom_28 (by decide) ?_
        exact wCalendar_carryOnFrom_39  hC k2 hk2 σ x2 0 x2 H locs ls h hP hS (lv_sub hl [0, 1] rfl)

set_option maxHeartbeats 4000000 in
set_option maxRecDepth 20000 in
theorem wCalendar_carryOnFrom_2 {p : Program} {l : Launch} {e : Env} {s : State} {m : MethodId} {args : Array Value} {below : List Frame} {meth : Method} {c : Code} {x : Wx} {al : Nat → Nat → Nat} {lv : Nat → Bool} {res : Sg} (hC : Cx x p s m args meth c cX2_carryOnFrom 3 none RX2) (n : Nat) (σ : Sg) (x2 : Int32) (H : Heap) (locs : List Loc) (ls : Array Slot) (h : fCalendar_carryOnFrom_2 n σ x2 = some res) (hP : Pic x al lv σ H) (hS : va_S (Ab x) s.heap H locs) (hl : lv_has ls 3 [(0, .ref (al 6 1)), (2, .int x2)]) : W p l e (rmm 1 0 0) s m args below meth c H locs 0 0 (MQ below (QV x al lv res) args s 0 0 (Ab x)) (F0 m 2 ls []) := by
  induction n generalizing σ x2 H locs ls with
  | zero => exact nomatch h
  | succ n ih => exact wCalendar_carryOnFrom_2_b  hC  _ (fun σ x2 H locs ls h hP hS hl => ih σ x2 H locs ls h hP hS hl) σ x2 H locs ls h hP hS hl
set_option maxHeartbeats 4000000 in
set_option maxRecDepth 20000 in
theorem wCalendar_carryOnFrom_0 {p : Program} {l : Launch} {e : Env} {s : State} {m : MethodId} {args : Array Value} {below : List Frame} {meth : Method} {c : Code} {x : Wx} {al : Nat → Nat → Nat} {lv : Nat → Bool} {res : Sg} (hC : Cx x p s m args meth c cX2_carryOnFrom 3 none RX2) (σ : Sg) (v1 : Int32) (H : Heap) (locs : List Loc) (ls : Array Slot) (h : fCalendar_carryOnFrom_0 σ v1 = some res) (hP : Pic x al lv σ H) (hS : va_S (Ab x) s.heap H locs) (hl : lv_has ls 3 [(0, .ref (al 6 1)), (1, .int v1)]) : W p l e (rmm 1 0 0) s m args below meth c H locs 0 0 (MQ below (QV x al lv res) args s 0 0 (Ab x)) (F0 m 0 ls []) := by
  obtain ⟨hx, hb, hml, hown, hts⟩ := hC.1
  unfold fCalendar_carryOnFrom_0 at h
  refine lv_iload_n hx hb dX2_carryOnFrom_0 rfl (lv_at hl 1 rfl) ?_
  refine lv_istore_n (lv' := [(2, .int v1), (0, .ref (al 6 1)), (1, .int v1)]) hx hb dX2_carryOnFrom_1 rfl hl (by decide) rfl (fun ls hl => ?_)
  exact wCalendar_carryOnFrom_2  hC  FU σ v1 H locs ls h hP hS (lv_sub hl [1, 0] rfl)

set_option maxRecDepth 20000 in
theorem tCalendar_carryOnFrom {l : Launch} (x : Wx) (al : Nat → Nat → Nat) (lv : Nat → Bool) (σ : Sg) (v1 : Int32) (res : Sg) (h : fCalendar_carryOnFrom σ v1 = some res) : Met l yX2_carryOnFrom (Cond.code yX2_carryOnFrom cX2_carryOnFrom 3 none :: lwg) (rmm 1 0 0) (va_Pc [.ref (al 6 1), .int v1] (Wd x al lv σ)) (QV x al lv res) 0 0 (Ab x) := by
  refine met_W (by decide) (Nat.le_of_ble_eq_true rfl) rfl (fun p e s m args below meth c ls hC hP hS hl => ?_)
  exact wCalendar_carryOnFrom_0  hC σ v1 _ _ ls h hP hS hl
set_option maxHeartbeats 4000000 in
set_option maxRecDepth 20000 in
theorem wCalendar_numberOf_39_b {p : Program} {l : Launch} {e : Env} {s : State} {m : MethodId} {args : Array Value} {below : List Frame} {meth : Method} {c : Code} {x : Wx} {al : Nat → Nat → Nat} {lv : Nat → Bool} {res : UInt32} {σ : Sg} (hC : Cx x p s m args meth c cX2_numberOf 5 (some .float) RX2) (k39 : Int32 → UInt32 → Int32 → Option (UInt32)) (hk39 : ∀ (x0 : Int32) (x3 : UInt32) (x4 : Int32) (H : Heap) (locs : List Loc) (ls : Array Slot), k39 x0 x3 x4 = some res → Pic x al lv σ H → va_S (Ab x) s.heap H locs → lv_has ls 5 [(0, .int x0), (3, .float x3), (4, .int x4)] → W p l e (rmm 1 0 0) s m args below meth c H locs 0 0 (MQ below (QF x al lv σ res) args s 0 0 (Ab x)) (F0 m 39 ls [])) (x0 : Int32) (x3 : UInt32) (x4 : Int32) (H : Heap) (locs : List Loc) (ls : Array Slot) (h : fCalendar_numberOf_39_b k39 σ x0 x3 x4 = some res) (hP : Pic x al lv σ H) (hS : va_S (Ab x) s.heap H locs) (hl : lv_has ls 5 [(0, .int x0), (3, .float x3), (4, .int x4)]) : W p l e (rmm 1 0 0) s m args below meth c H locs 0 0 (MQ below (QF x al lv σ res) args s 0 0 (Ab x)) (F0 m 39 ls []) := by
  obtain ⟨hx, hb, hml, hown, hts⟩ := hC.1
  unfold fCalendar_numberOf_39_b at h
  refine lv_iload hx hb dX2_numberOf_39 (lv_at hl 2 rfl) ?_
  refine lv_sipush (v := 150) hx hb dX2_numberOf_41 (by decide) ?_
  refine lv_icmp_ge (tgt := 57) hx hb dX2_numberOf_44 (by decide) (fun hc => ?_) (fun hc => ?_)
  · replace h := (br h).1 hc
    refine lv_iload_n hx hb dX2_numberOf_57 rfl (lv_at hl 0 rfl) ?_
    refine lv_if_ge (tgt := 67) hx hb dX2_numberOf_58 (by decide) (fun hc => ?_) (fun hc => ?_)
    · replace h := (br h).1 hc
      refine lv_fload_n hx hb dX2_numberOf_67 rfl (lv_at hl 1 rfl) ?_
      exact r_retF hC hP hS h dX2_numberOf_68
    · replace h := (br h).2 hc
      refine lv_fconst0 hx hb dX2_numberOf_61 ?_
      refine lv_fload_n hx hb dX2_numberOf_62 rfl (lv_at hl 1 rfl) ?_
      obtain ⟨hz4, h⟩ := gd_e h
      refine lv_fsub hx hb dX2_numberOf_63 (nn32_n hz4) ?_
      refine lv_goto (tgt := 68) hx hb dX2_numberOf_64 (by decide) ?_
      exact r_retF hC hP hS h dX2_numberOf_68
  · replace h := (br h).2 hc
    refine lv_fload_n hx hb dX2_numberOf_47 rfl (lv_at hl 1 rfl) ?_
    refine lv_fconst2 hx hb dX2_numberOf_48 ?_
    obtain ⟨hz5, h⟩ := gd_e h
    refine lv_fdiv hx hb dX2_numberOf_49 (nn32_n hz5) ?_
    refine r_ltf h (fun y6 h => ?_)
    refine lv_fstore_n (lv' := [(3, .float y6), (0, .int x0), (4, .int x4)]) hx hb dX2_numberOf_50 rfl hl (by decide) rfl (fun ls hl => ?_)
    refine r_iinc (v := 1) hC h dX2_numberOf_51 hl (k := 2) rfl rfl (by decide) (fun y7 => [(4, .int y7), (3, .float y6), (0, .int x0)]) (fun _ => rfl) (fun y7 ls h hl => ?_)
    refine lv_goto (tgt := 39) hx hb dX2_numberOf_54 (by decide) ?_
    exact hk39 x0 y6 y7 H locs ls h hP hS (lv_sub hl [2, 1, 0] rfl)

set_option maxHeartbeats 4000000 in
set_option maxRecDepth 20000 in
theorem wCalendar_numberOf_39 {p : Program} {l : Launch} {e : Env} {s : State} {m : MethodId} {args : Array Value} {below : List Frame} {meth : Method} {c : Code} {x : Wx} {al : Nat → Nat → Nat} {lv : Nat → Bool} {res : UInt32} {σ : Sg} (hC : Cx x p s m args meth c cX2_numberOf 5 (some .float) RX2) (n : Nat) (x0 : Int32) (x3 : UInt32) (x4 : Int32) (H : Heap) (locs : List Loc) (ls : Array Slot) (h : fCalendar_numberOf_39 n σ x0 x3 x4 = some res) (hP : Pic x al lv σ H) (hS : va_S (Ab x) s.heap H locs) (hl : lv_has ls 5 [(0, .int x0), (3, .float x3), (4, .int x4)]) : W p l e (rmm 1 0 0) s m args below meth c H locs 0 0 (MQ below (QF x al lv σ res) args s 0 0 (Ab x)) (F0 m 39 ls []) := by
  induction n generalizing x0 x3 x4 H locs ls with
  | zero => exact nomatch h
  | succ n ih => exact wCalendar_numberOf_39_b  hC  _ (fun x0 x3 x4 H locs ls h hP hS hl => ih x0 x3 x4 H locs ls h hP hS hl) x0 x3 x4 H locs ls h hP hS hl
set_option maxHeartbeats 4000000 in
set_option maxRecDepth 20000 in
theorem wCalendar_numberOf_37 {p : Program} {l : Launch} {e : Env} {s : State} {m : MethodId} {args : Array Value} {below : List Frame} {meth : Method} {c : Code} {x : Wx} {al : Nat → Nat → Nat} {lv : Nat → Bool} {res : UInt32} {σ : Sg} (hC : Cx x p s m args meth c cX2_numberOf 5 (some .float) RX2) (x0 : Int32) (x3 : UInt32) (t0 : Int32) (H : Heap) (locs : List Loc) (ls : Array Slot) (h : fCalendar_numberOf_37 σ x0 x3 t0 = some res) (hP : Pic x al lv σ H) (hS : va_S (Ab x) s.heap H locs) (hl : lv_has ls 5 [(0, .int x0), (3, .float x3)]) : W p l e (rmm 1 0 0) s m args below meth c H locs 0 0 (MQ below (QF x al lv σ res) args s 0 0 (Ab x)) (F0 m 37 ls [.int t0]) := by
  obtain ⟨hx, hb, hml, hown, hts⟩ := hC.1
  unfold fCalendar_numberOf_37 at h
  refine lv_istore (lv' := [(4, .int t0), (0, .int x0), (3, .float x3)]) hx hb dX2_numberOf_37 hl (by decide) rfl (fun ls hl => ?_)
  exact wCalendar_numberOf_39  hC  FU x0 x3 t0 H locs ls h hP hS (lv_sub hl [1, 2, 0] rfl)

set_option maxHeartbeats 4000000 in
set_option maxRecDepth 20000 in
theorem wCalendar_numberOf_26 {p : Program} {l : Launch} {e : Env} {s : State} {m : MethodId} {args : Array Value} {below : List Frame} {meth : Method} {c : Code} {x : Wx} {al : Nat → Nat → Nat} {lv : Nat → Bool} {res : UInt32} {σ : Sg} (hC : Cx x p s m args meth c cX2_numberOf 5 (some .float) RX2) (x0 : Int32) (x1 : Int32) (t0 : Int32) (H : Heap) (locs : List Loc) (ls : Array Slot) (h : fCalendar_numberOf_26 σ x0 x1 t0 = some res) (hP : Pic x al lv σ H) (hS : va_S (Ab x) s.heap H locs) (hl : lv_has ls 5 [(0, .int x0), (1, .int x1)]) : W p l e (rmm 1 0 0) s m args below meth c H locs 0 0 (MQ below (QF x al lv σ res) args s 0 0 (Ab x)) (F0 m 26 ls [.int t0]) := by
  obtain ⟨hx, hb, hml, hown, hts⟩ := hC.1
  unfold fCalendar_numberOf_26 at h
  refine lv_i2f hx hb dX2_numberOf_26 ?_
  refine r_ltf h (fun y3 h => ?_)
  refine lv_fstore_n (lv' := [(3, .float y3), (0, .int x0), (1, .int x1)]) hx hb dX2_numberOf_27 rfl hl (by decide) rfl (fun ls hl => ?_)
  refine lv_iload_n hx hb dX2_numberOf_28 rfl (lv_at hl 2 rfl) ?_
  refine lv_if_ne (tgt := 36) hx hb dX2_numberOf_29 (by decide) (fun hc => ?_) (fun hc => ?_)
  · replace h := (br h).2 hc
    refine lv_iload_n hx hb dX2_numberOf_36 rfl (lv_at hl 2 rfl) ?_
    exact wCalendar_numberOf_37  hC  x0 y3 x1 H locs ls h hP hS (lv_sub hl [1, 0] rfl)
  · replace h := (br h).1 hc
    refine lv_iconst (v := 1) hx hb dX2_numberOf_32 (by decide) ?_
    refine lv_goto (tgt := 37) hx hb dX2_numberOf_33 (by decide) ?_
    exact wCalendar_numberOf_37  hC  x0 y3 1 H locs ls h hP hS (lv_sub hl [1, 0] rfl)

set_option maxHeartbeats 4000000 in
set_option maxRecDepth 20000 in
theorem wCalendar_numberOf_0 {p : Program} {l : Launch} {e : Env} {s : State} {m : MethodId} {args : Array Value} {below : List Frame} {meth : Method} {c : Code} {x : Wx} {al : Nat → Nat → Nat} {lv : Nat → Bool} {res : UInt32} {σ : Sg} (hC : Cx x p s m args meth c cX2_numberOf 5 (some .float) RX2) (v0 : Int32) (H : Heap) (locs : List Loc) (ls : Array Slot) (h : fCalendar_numberOf_0 σ v0 = some res) (hP : Pic x al lv σ H) (hS : va_S (Ab x) s.heap H locs) (hl : lv_has ls 5 [(0, .int v0)]) : W p l e (rmm 1 0 0) s m args below meth c H locs 0 0 (MQ below (QF x al lv σ res) args s 0 0 (Ab x)) (F0 m 0 ls []) := by
  obtain ⟨hx, hb, hml, hown, hts⟩ := hC.1
  unfold fCalendar_numberOf_0 at h
  refine lv_iload_n hx hb dX2_numberOf_0 rfl (lv_at hl 0 rfl) ?_
  refine lv_bipush (v := 23) hx hb dX2_numberOf_1 (by decide) ?_
  refine lv_iushr (v := (v0.toUInt32 >>> ((23 : Int32).toUInt32 &&& Int32.toUInt32 31)).toInt32) hx hb dX2_numberOf_3 rfl ?_
  refine lv_sipush (v := 255) hx hb dX2_numberOf_4 (by decide) ?_
  refine lv_iand hx hb dX2_numberOf_7 ?_
  refine r_lt h (fun y1 h => ?_)
  refine lv_istore_n (lv' := [(1, .int y1), (0, .int v0)]) hx hb dX2_numberOf_8 rfl hl (by decide) rfl (fun ls hl => ?_)
  refine lv_iload_n hx hb dX2_numberOf_9 rfl (lv_at hl 1 rfl) ?_
  refine lv_ldc hx hb hown (hts _ wk_X2_35) dX2_numberOf_10 ?_
  refine lv_iand hx hb dX2_numberOf_12 ?_
  refine r_lt h (fun y2 h => ?_)
  refine lv_istore_n (lv' := [(2, .int y2), (1, .int y1), (0, .int v0)]) hx hb dX2_numberOf_13 rfl hl (by decide) rfl (fun ls hl => ?_)
  refine lv_iload_n hx hb dX2_numberOf_14 rfl (lv_at hl 1 rfl) ?_
  refine lv_if_ne (tgt := 22) hx hb dX2_numberOf_15 (by decide) (fun hc => ?_) (fun hc => ?_)
  · replace h := (br h).2 hc
    refine lv_iload_n hx hb dX2_numberOf_22 rfl (lv_at hl 0 rfl) ?_
    refine lv_ldc hx hb hown (hts _ wk_X2_36) dX2_numberOf_23 ?_
    refine lv_ior hx hb dX2_numberOf_25 ?_
    exact wCalendar_numberOf_26  hC  v0 y1 (y2 ||| 8388608) H locs ls h hP hS (lv_sub hl [2, 1] rfl)
  · replace h := (br h).1 hc
    refine lv_iload_n hx hb dX2_numberOf_18 rfl (lv_at hl 0 rfl) ?_
    refine lv_goto (tgt := 26) hx hb dX2_numberOf_19 (by decide) ?_
    exact wCalendar_numberOf_26  hC  v0 y1 y2 H locs ls h hP hS (lv_sub hl [2, 1] rfl)

set_option maxRecDepth 20000 in
theorem tCalendar_numberOf {l : Launch} (x : Wx) (al : Nat → Nat → Nat) (lv : Nat → Bool) (σ : Sg) (v0 : Int32) (res : UInt32) (h : fCalendar_numberOf σ v0 = some res) : Met l yX2_numberOf (Cond.code yX2_numberOf cX2_numberOf 5 (some .float) :: lwg) (rmm 1 0 0) (va_Pc [.int v0] (Wd x al lv σ)) (QF x al lv σ res) 0 0 (Ab x) := by
  refine met_W (by decide) (Nat.le_of_ble_eq_true rfl) rfl (fun p e s m args below meth c ls hC hP hS hl => ?_)
  exact wCalendar_numberOf_0  hC v0 _ _ ls h hP hS hl
set_option maxHeartbeats 4000000 in
set_option maxRecDepth 20000 in
theorem wCalendar_tell_58 {p : Program} {l : Launch} {e : Env} {s : State} {m : MethodId} {args : Array Value} {below : List Frame} {meth : Method} {c : Code} {x : Wx} {al : Nat → Nat → Nat} {lv : Nat → Bool} {res : Int32 × Sg} (hC : Cx x p s m args meth c cX2_tell 5 (some .boolean) RX2) (σ : Sg) (x1 : Int32) (H : Heap) (locs : List Loc) (ls : Array Slot) (h : fCalendar_tell_58 σ x1 = some res) (hP : Pic x al lv σ H) (hS : va_S (Ab x) s.heap H locs) (hl : lv_has ls 5 [(0, .ref (al 6 1)), (1, .int x1)]) : W p l e (rmm 2 0 0) s m args below meth c H locs 0 0 (MQ below (QI x al lv res) args s 0 0 (Ab x)) (F0 m 58 ls []) := by
  obtain ⟨hx, hb, hml, hown, hts⟩ := hC.1
  unfold fCalendar_tell_58 at h
  refine lv_aload_n hx hb dX2_tell_58 rfl (lv_at hl 0 rfl) ?_
  refine lv_iload_n hx hb dX2_tell_59 rfl (lv_at hl 1 rfl) ?_
  refine r_cV hS h (fun r hr => r_runV (As := [.int x1]) (rest := []) hC kV_X2_31 cw_X2_carryOnFrom (rc_X2 hC hP) hP (tCalendar_carryOnFrom x al lv σ x1 r hr) rfl hl.1 ⟨Nat.le_of_ble_eq_true rfl, Nat.le_of_ble_eq_true rfl⟩ ⟨Nat.le_of_ble_eq_true rfl, Nat.le_of_ble_eq_true rfl⟩ (Nat.le_of_ble_eq_true rfl) dX2_tell_60) (fun σ6 H locs h hP hS => ?_)
  refine lv_iconst (v := 1) hx hb dX2_tell_63 (by decide) ?_
  exact r_retI hC hP hS rfl h dX2_tell_64

set_option maxHeartbeats 4000000 in
set_option maxRecDepth 20000 in
theorem wCalendar_tell_31 {p : Program} {l : Launch} {e : Env} {s : State} {m : MethodId} {args : Array Value} {below : List Frame} {meth : Method} {c : Code} {x : Wx} {al : Nat → Nat → Nat} {lv : Nat → Bool} {res : Int32 × Sg} (hC : Cx x p s m args meth c cX2_tell 5 (some .boolean) RX2) (σ : Sg) (x1 : Int32) (x2 : Int32) (x4 : Int32) (H : Heap) (locs : List Loc) (ls : Array Slot) (h : fCalendar_tell_31 σ x1 x2 x4 = some res) (hP : Pic x al lv σ H) (hS : va_S (Ab x) s.heap H locs) (hl : lv_has ls 5 [(0, .ref (al 6 1)), (1, .int x1), (2, .int x2), (4, .int x4)]) : W p l e (rmm 2 0 0) s m args below meth c H locs 0 0 (MQ below (QI x al lv res) args s 0 0 (Ab x)) (F0 m 31 ls []) := by
  obtain ⟨hx, hb, hml, hown, hts⟩ := hC.1
  unfold fCalendar_tell_31 at h
  refine lv_aload_n hx hb dX2_tell_31 rfl (lv_at hl 0 rfl) ?_
  refine gt_X2_0 hC hP wf_X2_9 dX2_tell_32 ?_
  refine lv_iload_n hx hb dX2_tell_35 rfl (lv_at hl 1 rfl) ?_
  refine lv_iload hx hb dX2_tell_36 (lv_at hl 3 rfl) ?_
  refine r_zast hC hP hS (aI_9 hP.l6) h dX2_tell_38 (fun σ2 H locs h hP hS => ?_)
  refine lv_iload hx hb dX2_tell_39 (lv_at hl 3 rfl) ?_
  refine lv_if_eq (tgt := 58) hx hb dX2_tell_41 (by decide) (fun hc => ?_) (fun hc => ?_)
  · replace h := (br h).1 hc
    exact wCalendar_tell_58  hC  σ2 x1 H locs ls h hP hS (lv_sub hl [0, 1] rfl)
  · replace h := (br h).2 hc
    refine lv_aload_n hx hb dX2_tell_44 rfl (lv_at hl 0 rfl) ?_
    refine gt_X2_1 hC hP wf_X2_15 dX2_tell_45 ?_
    refine lv_iload_n hx hb dX2_tell_48 rfl (lv_at hl 1 rfl) ?_
    refine lv_iload_n hx hb dX2_tell_49 rfl (lv_at hl 2 rfl) ?_
    refine r_cF hS h (fun r hr => r_runS (As := [.int x2]) (rest := [.int x1, .ref (al 6 10)]) hC kS_X2_26 cw_X2_numberOf hP (tCalendar_numberOf x al lv σ2 x2 r hr) rfl hl.1 ⟨Nat.le_of_ble_eq_true rfl, Nat.le_of_ble_eq_true rfl⟩ ⟨Nat.le_of_ble_eq_true rfl, Nat.le_of_ble_eq_true rfl⟩ (Nat.le_of_ble_eq_true rfl) dX2_tell_50) (fun y3 H locs h hP hS => ?_)
    refine lv_ldcf hx hb hown (hts _ wk_X2_30) dX2_tell_53 ?_
    obtain ⟨hz4, h⟩ := gd_e h
    refine lv_fmul hx hb dX2_tell_55 (nn32_n hz4) ?_
    refine lv_f2i hx hb dX2_tell_56 ?_
    refine r_iast hC hP hS (aI_10 hP.l6) h dX2_tell_57 (fun σ5 H locs h hP hS => ?_)
    exact wCalendar_tell_58  hC  σ5 x1 H locs ls h hP hS (lv_sub hl [0, 1] rfl)

set_option maxHeartbeats 4000000 in
set_option maxRecDepth 20000 in
theorem wCalendar_tell_16 {p : Program} {l : Launch} {e : Env} {s : State} {m : MethodId} {args : Array Value} {below : List Frame} {meth : Method} {c : Code} {x : Wx} {al : Nat → Nat → Nat} {lv : Nat → Bool} {res : Int32 × Sg} (hC : Cx x p s m args meth c cX2_tell 5 (some .boolean) RX2) (σ : Sg) (x1 : Int32) (x2 : Int32) (x3 : Int32) (t0 : Int32) (H : Heap) (locs : List Loc) (ls : Array Slot) (h : fCalendar_tell_16 σ x1 x2 x3 t0 = some res) (hP : Pic x al lv σ H) (hS : va_S (Ab x) s.heap H locs) (hl : lv_has ls 5 [(0, .ref (al 6 1)), (1, .int x1), (2, .int x2), (3, .int x3)]) : W p l e (rmm 2 0 0) s m args below meth c H locs 0 0 (MQ below (QI x al lv res) args s 0 0 (Ab x)) (F0 m 16 ls [.int t0]) := by
  obtain ⟨hx, hb, hml, hown, hts⟩ := hC.1
  unfold fCalendar_tell_16 at h
  refine lv_istore (lv' := [(4, .int t0), (0, .ref (al 6 1)), (1, .int x1), (2, .int x2), (3, .int x3)]) hx hb dX2_tell_16 hl (by decide) rfl (fun ls hl => ?_)
  refine lv_iload hx hb dX2_tell_18 (lv_at hl 0 rfl) ?_
  refine lv_if_eq (tgt := 31) hx hb dX2_tell_20 (by decide) (fun hc => ?_) (fun hc => ?_)
  · replace h := (br h).1 hc
    exact wCalendar_tell_31  hC  σ x1 x2 t0 H locs ls h hP hS (lv_sub hl [1, 2, 3, 0] rfl)
  · replace h := (br h).2 hc
    refine lv_iload_n hx hb dX2_tell_23 rfl (lv_at hl 4 rfl) ?_
    refine lv_ldc hx hb hown (hts _ wk_X2_25) dX2_tell_24 ?_
    refine lv_icmp_le (tgt := 31) hx hb dX2_tell_26 (by decide) (fun hc => ?_) (fun hc => ?_)
    · replace h := (br h).1 hc
      exact wCalendar_tell_31  hC  σ x1 x2 t0 H locs ls h hP hS (lv_sub hl [1, 2, 3, 0] rfl)
    · replace h := (br h).2 hc
      refine lv_iconst (v := 0) hx hb dX2_tell_29 (by decide) ?_
      exact r_retI hC hP hS rfl h dX2_tell_30

set_option maxHeartbeats 4000000 in
set_option maxRecDepth 20000 in
theorem wCalendar_tell_0 {p : Program} {l : Launch} {e : Env} {s : State} {m : MethodId} {args : Array Value} {below : List Frame} {meth : Method} {c : Code} {x : Wx} {al : Nat → Nat → Nat} {lv : Nat → Bool} {res : Int32 × Sg} (hC : Cx x p s m args meth c cX2_tell 5 (some .boolean) RX2) (σ : Sg) (v1 : Int32) (v2 : Int32) (H : Heap) (locs : List Loc) (ls : Array Slot) (h : fCalendar_tell_0 σ v1 v2 = some res) (hP : Pic x al lv σ H) (hS : va_S (Ab x) s.heap H locs) (hl : lv_has ls 5 [(0, .ref (al 6 1)), (1, .int v1), (2, .int v2)]) : W p l e (rmm 2 0 0) s m args below meth c H locs 0 0 (MQ below (QI x al lv res) args s 0 0 (Ab x)) (F0 m 0 ls []) := by
  obtain ⟨hx, hb, hml, hown, hts⟩ := hC.1
  unfold fCalendar_tell_0 at h
  refine lv_iload_n hx hb dX2_tell_0 rfl (lv_at hl 2 rfl) ?_
  refine lv_ldc hx hb hown (hts _ wk_X2_23) dX2_tell_1 ?_
  refine lv_iand hx hb dX2_tell_3 ?_
  refine r_lt h (fun y1 h => ?_)
  refine lv_istore_n (lv' := [(3, .int y1), (0, .ref (al 6 1)), (1, .int v1), (2, .int v2)]) hx hb dX2_tell_4 rfl hl (by decide) rfl (fun ls hl => ?_)
  refine lv_iload_n hx hb dX2_tell_5 rfl (lv_at hl 0 rfl) ?_
  refine lv_ldc hx hb hown (hts _ wk_X2_24) dX2_tell_6 ?_
  refine lv_icmp_gt (tgt := 15) hx hb dX2_tell_8 (by decide) (fun hc => ?_) (fun hc => ?_)
  · replace h := (br h).1 hc
    refine lv_iconst (v := 0) hx hb dX2_tell_15 (by decide) ?_
    exact wCalendar_tell_16  hC  σ v1 v2 y1 0 H locs ls h hP hS (lv_sub hl [1, 2, 3, 0] rfl)
  · replace h := (br h).2 hc
    refine lv_iconst (v := 1) hx hb dX2_tell_11 (by decide) ?_
    refine lv_goto (tgt := 16) hx hb dX2_tell_12 (by decide) ?_
    exact wCalendar_tell_16  hC  σ v1 v2 y1 1 H locs ls h hP hS (lv_sub hl [1, 2, 3, 0] rfl)

set_option maxRecDepth 20000 in
theorem tCalendar_tell {l : Launch} (x : Wx) (al : Nat → Nat → Nat) (lv : Nat → Bool) (σ : Sg) (v1 : Int32) (v2 : Int32) (res : Int32 × Sg) (h : fCalendar_tell σ v1 v2 = some res) : Met l yX2_tell (Cond.code yX2_tell cX2_tell 5 (some .boolean) :: lwg) (rmm 2 0 0) (va_Pc [.ref (al 6 1), .int v1, .int v2] (Wd x al lv σ)) (QI x al lv res) 0 0 (Ab x) := by
  refine met_W (by decide) (Nat.le_of_ble_eq_true rfl) rfl (fun p e s m args below meth c ls hC hP hS hl => ?_)
  exact wCalendar_tell_0  hC σ v1 v2 _ _ ls h hP hS hl
set_option maxHeartbeats 4000000 in
set_option maxRecDepth 20000 in
theorem wStore_gramsIn_40 {p : Program} {l : Launch} {e : Env} {s : State} {m : MethodId} {args : Array Value} {below : List Frame} {meth : Method} {c : Code} {x : Wx} {al : Nat → Nat → Nat} {lv : Nat → Bool} {res : Int32} {σ : Sg} {a : Nat} (hia : a < 6) (hla : lv a = true) (hC : Cx x p s m args meth c cX10_gramsIn 4 (some .int) RX10) (k4 : Int32 → Int32 → Int32 → Option (Int32)) (hk4 : ∀ (x1 : Int32) (x2 : Int32) (x3 : Int32) (H : Heap) (locs : List Loc) (ls : Array Slot), k4 x1 x2 x3 = some res → Pic x al lv σ H → va_S (Ab x) s.heap H locs → lv_has ls 4 [(0, .ref (al a 0)), (1, .int x1), (2, .int x2), (3, .int x3)] → W p l e (rmm 1 0 0) s m args below meth c H locs 0 0 (MQ below (QP x al lv σ res) args s 0 0 (Ab x)) (F0 m 4 ls [])) (x1 : Int32) (x2 : Int32) (x3 : Int32) (H : Heap) (locs : List Loc) (ls : Array Slot) (h : fStore_gramsIn_40 k4 σ a x1 x2 x3 = some res) (hP : Pic x al lv σ H) (hS : va_S (Ab x) s.heap H locs) (hl : lv_has ls 4 [(0, .ref (al a 0)), (1, .int x1), (2, .int x2), (3, .int x3)]) : W p l e (rmm 1 0 0) s m args below meth c H locs 0 0 (MQ below (QP x al lv σ res) args s 0 0 (Ab x)) (F0 m 40 ls []) := by
  obtain ⟨hx, hb, hml, hown, hts⟩ := hC.1
  unfold fStore_gramsIn_40 at h
  refine r_iinc (v := 1) hC h dX10_gramsIn_40 hl (k := 3) rfl rfl (by decide) (fun y2 => [(3, .int y2), (0, .ref (al a 0)), (1, .int x1), (2, .int x2)]) (fun _ => rfl) (fun y2 ls h hl => ?_)
  refine lv_goto (tgt := 4) hx hb dX10_gramsIn_43 (by decide) ?_
  exact hk4 x1 x2 y2 H locs ls h hP hS (lv_sub hl [1, 2, 3, 0] rfl)

set_option maxHeartbeats 4000000 in
set_option maxRecDepth 20000 in
theorem wStore_gramsIn_4_b {p : Program} {l : Launch} {e : Env} {s : State} {m : MethodId} {args : Array Value} {below : List Frame} {meth : Method} {c : Code} {x : Wx} {al : Nat → Nat → Nat} {lv : Nat → Bool} {res : Int32} {σ : Sg} {a : Nat} (hia : a < 6) (hla : lv a = true) (hC : Cx x p s m args meth c cX10_gramsIn 4 (some .int) RX10) (k4 : Int32 → Int32 → Int32 → Option (Int32)) (hk4 : ∀ (x1 : Int32) (x2 : Int32) (x3 : Int32) (H : Heap) (locs : List Loc) (ls : Array Slot), k4 x1 x2 x3 = some res → Pic x al lv σ H → va_S (Ab x) s.heap H locs → lv_has ls 4 [(0, .ref (al a 0)), (1, .int x1), (2, .int x2), (3, .int x3)] → W p l e (rmm 1 0 0) s m args below meth c H locs 0 0 (MQ below (QP x al lv σ res) args s 0 0 (Ab x)) (F0 m 4 ls [])) (x1 : Int32) (x2 : Int32) (x3 : Int32) (H : Heap) (locs : List Loc) (ls : Array Slot) (h : fStore_gramsIn_4_b k4 σ a x1 x2 x3 = some res) (hP : Pic x al lv σ H) (hS : va_S (Ab x) s.heap H locs) (hl : lv_has ls 4 [(0, .ref (al a 0)), (1, .int x1), (2, .int x2), (3, .int x3)]) : W p l e (rmm 1 0 0) s m args below meth c H locs 0 0 (MQ below (QP x al lv σ res) args s 0 0 (Ab x)) (F0 m 4 ls []) := by
  obtain ⟨hx, hb, hml, hown, hts⟩ := hC.1
  unfold fStore_gramsIn_4_b at h
  refine lv_iload_n hx hb dX10_gramsIn_4 rfl (lv_at hl 3 rfl) ?_
  refine lv_aload_n hx hb dX10_gramsIn_5 rfl (lv_at hl 0 rfl) ?_
  refine gt_X10_6 (a := a) hia hla hC hP wf_X10_21 dX10_gramsIn_6 ?_
  refine gt_X0_0 (a := a) hia hla hC hP wf_X10_48 dX10_gramsIn_9 ?_
  refine lv_icmp_ge (tgt := 46) hx hb dX10_gramsIn_12 (by decide) (fun hc => ?_) (fun hc => ?_)
  · replace h := (br h).1 hc
    refine lv_iload_n hx hb dX10_gramsIn_46 rfl (lv_at hl 2 rfl) ?_
    exact r_retP hC hP hS rfl h dX10_gramsIn_47
  · replace h := (br h).2 hc
    refine lv_aload_n hx hb dX10_gramsIn_15 rfl (lv_at hl 0 rfl) ?_
    refine gt_X10_6 (a := a) hia hla hC hP wf_X10_21 dX10_gramsIn_16 ?_
    refine gt_X0_3 (a := a) hia hla hC hP wf_X10_58 dX10_gramsIn_19 ?_
    refine lv_iload_n hx hb dX10_gramsIn_22 rfl (lv_at hl 3 rfl) ?_
    refine r_iald hC hP (aS_18 (a := a) hia hla) h dX10_gramsIn_23 (fun h => ?_)
    refine lv_iload_n hx hb dX10_gramsIn_24 rfl (lv_at hl 1 rfl) ?_
    refine lv_icmp_ne (tgt := 40) hx hb dX10_gramsIn_25 (by decide) (fun hc => ?_) (fun hc => ?_)
    · replace h := (br h).2 hc
      exact wStore_gramsIn_40 hia hla hC k4 hk4 x1 x2 x3 H locs ls h hP hS (lv_sub hl [0, 1, 2, 3] rfl)
    · replace h := (br h).1 hc
      refine lv_iload_n hx hb dX10_gramsIn_28 rfl (lv_at hl 2 rfl) ?_
      refine lv_aload_n hx hb dX10_gramsIn_29 rfl (lv_at hl 0 rfl) ?_
      refine gt_X10_6 (a := a) hia hla hC hP wf_X10_21 dX10_gramsIn_30 ?_
      refine gt_X0_2 (a := a) hia hla hC hP wf_X10_55 dX10_gramsIn_33 ?_
      refine lv_iload_n hx hb dX10_gramsIn_36 rfl (lv_at hl 3 rfl) ?_
      refine r_iald hC hP (aS_17 (a := a) hia hla) h dX10_gramsIn_37 (fun h => ?_)
      refine lv_iadd hx hb dX10_gramsIn_38 ?_
      refine r_lt h (fun y1 h => ?_)
      refine lv_istore_n (lv' := [(2, .int y1), (0, .ref (al a 0)), (1, .int x1), (3, .int x3)]) hx hb dX10_gramsIn_39 rfl hl (by decide) rfl (fun ls hl => ?_)
      exact wStore_gramsIn_40 hia hla hC k4 hk4 x1 y1 x3 H locs ls h hP hS (lv_sub hl [1, 2, 0, 3] rfl)

set_option maxHeartbeats 4000000 in
set_option maxRecDepth 20000 in
theorem wStore_gramsIn_4 {p : Program} {l : Launch} {e : Env} {s : State} {m : MethodId} {args : Array Value} {below : List Frame} {meth : Method} {c : Code} {x : Wx} {al : Nat → Nat → Nat} {lv : Nat → Bool} {res : Int32} {σ : Sg} {a : Nat} (hia : a < 6) (hla : lv a = true) (hC : Cx x p s m args meth c cX10_gramsIn 4 (some .int) RX10) (n : Nat) (x1 : Int32) (x2 : Int32) (x3 : Int32) (H : Heap) (locs : List Loc) (ls : Array Slot) (h : fStore_gramsIn_4 n σ a x1 x2 x3 = some res) (hP : Pic x al lv σ H) (hS : va_S (Ab x) s.heap H locs) (hl : lv_has ls 4 [(0, .ref (al a 0)), (1, .int x1), (2, .int x2), (3, .int x3)]) : W p l e (rmm 1 0 0) s m args below meth c H locs 0 0 (MQ below (QP x al lv σ res) args s 0 0 (Ab x)) (F0 m 4 ls []) := by
  induction n generalizing x1 x2 x3 H locs ls with
  | zero => exact nomatch h
  | succ n ih => exact wStore_gramsIn_4_b hia hla hC  _ (fun x1 x2 x3 H locs ls h hP hS hl => ih x1 x2 x3 H locs ls h hP hS hl) x1 x2 x3 H locs ls h hP hS hl
set_option maxHeartbeats 4000000 in
set_option maxRecDepth 20000 in
theorem wStore_gramsIn_0 {p : Program} {l : Launch} {e : Env} {s : State} {m : MethodId} {args : Array Value} {below : List Frame} {meth : Method} {c : Code} {x : Wx} {al : Nat → Nat → Nat} {lv : Nat → Bool} {res : Int32} {σ : Sg} {a : Nat} (hia : a < 6) (hla : lv a = true) (hC : Cx x p s m args meth c cX10_gramsIn 4 (some .int) RX10) (v1 : Int32) (H : Heap) (locs : List Loc) (ls : Array Slot) (h : fStore_gramsIn_0 σ a v1 = some res) (hP : Pic x al lv σ H) (hS : va_S (Ab x) s.heap H locs) (hl : lv_has ls 4 [(0, .ref (al a 0)), (1, .int v1)]) : W p l e (rmm 1 0 0) s m args below meth c H locs 0 0 (MQ below (QP x al lv σ res) args s 0 0 (Ab x)) (F0 m 0 ls []) := by
  obtain ⟨hx, hb, hml, hown, hts⟩ := hC.1
  unfold fStore_gramsIn_0 at h
  refine lv_iconst (v := 0) hx hb dX10_gramsIn_0 (by decide) ?_
  refine lv_istore_n (lv' := [(2, .int 0), (0, .ref (al a 0)), (1, .int v1)]) hx hb dX10_gramsIn_1 rfl hl (by decide) rfl (fun ls hl => ?_)
  refine lv_iconst (v := 0) hx hb dX10_gramsIn_2 (by decide) ?_
  refine lv_istore_n (lv' := [(3, .int 0), (2, .int 0), (0, .ref (al a 0)), (1, .int v1)]) hx hb dX10_gramsIn_3 rfl hl (by decide) rfl (fun ls hl => ?_)
  exact wStore_gramsIn_4 hia hla hC  FU v1 0 0 H locs ls h hP hS (lv_sub hl [2, 3, 1, 0] rfl)

set_option maxRecDepth 20000 in
theorem tStore_gramsIn {l : Launch} (x : Wx) (al : Nat → Nat → Nat) (lv : Nat → Bool) (σ : Sg) (a : Nat) (hia : a < 6) (hla : lv a = true) (v1 : Int32) (res : Int32) (h : fStore_gramsIn σ a v1 = some res) : Met l yX10_gramsIn (Cond.code yX10_gramsIn cX10_gramsIn 4 (some .int) :: lwg) (rmm 1 0 0) (va_Pc [.ref (al a 0), .int v1] (Wd x al lv σ)) (QP x al lv σ res) 0 0 (Ab x) := by
  refine met_W (by decide) (Nat.le_of_ble_eq_true rfl) rfl (fun p e s m args below meth c ls hC hP hS hl => ?_)
  exact wStore_gramsIn_0 hia hla hC v1 _ _ ls h hP hS hl
set_option maxHeartbeats 4000000 in
set_option maxRecDepth 20000 in
theorem wForecast_writeRow_17_b {p : Program} {l : Launch} {e : Env} {s : State} {m : MethodId} {args : Array Value} {below : List Frame} {meth : Method} {c : Code} {x : Wx} {al : Nat → Nat → Nat} {lv : Nat → Bool} {res : Sg} {b : Nat} (hib : b < 6) (hlb : lv b = true) (hl9 : lv 9 = true) (hC : Cx x p s m args meth c cX3_writeRow 4 none RX3) (k17 : Sg → Int32 → Int32 → Option (Sg)) (hk17 : ∀ (σ : Sg) (x2 : Int32) (x3 : Int32) (H : Heap) (locs : List Loc) (ls : Array Slot), k17 σ x2 x3 = some res → Pic x al lv σ H → va_S (Ab x) s.heap H locs → lv_has ls 4 [(0, .ref (al 9 0)), (1, .ref (al b 0)), (2, .int x2), (3, .int x3)] → W p l e (rmm 2 0 0) s m args below meth c H locs 0 0 (MQ below (QV x al lv res) args s 0 0 (Ab x)) (F0 m 17 ls [])) (σ : Sg) (x2 : Int32) (x3 : Int32) (H : Heap) (locs : List Loc) (ls : Array Slot) (h : fForecast_writeRow_17_b k17 σ b x2 x3 = some res) (hP : Pic x al lv σ H) (hS : va_S (Ab x) s.heap H locs) (hl : lv_has ls 4 [(0, .ref (al 9 0)), (1, .ref (al b 0)), (2, .int x2), (3, .int x3)]) : W p l e (rmm 2 0 0) s m args below meth c H locs 0 0 (MQ below (QV x al lv res) args s 0 0 (Ab x)) (F0 m 17 ls []) := by
  obtain ⟨hx, hb, hml, hown, hts⟩ := hC.1
  unfold fForecast_writeRow_17_b at h
  refine lv_iload_n hx hb dX3_writeRow_17 rfl (lv_at hl 3 rfl) ?_
  refine lv_aload_n hx hb dX3_writeRow_18 rfl (lv_at hl 0 rfl) ?_
  refine gt_X3_2 hl9 hC hP wf_X3_30 dX3_writeRow_19 ?_
  refine lv_icmp_ge (tgt := 65) hx hb dX3_writeRow_22 (by decide) (fun hc => ?_) (fun hc => ?_)
  · replace h := (br h).1 hc
    exact r_retV hC hP hS h dX3_writeRow_65
  · replace h := (br h).2 hc
    refine lv_aload_n hx hb dX3_writeRow_25 rfl (lv_at hl 0 rfl) ?_
    refine gt_X3_3 hl9 hC hP wf_X3_11 dX3_writeRow_26 ?_
    refine lv_iload_n hx hb dX3_writeRow_29 rfl (lv_at hl 2 rfl) ?_
    refine lv_iconst (v := 1) hx hb dX3_writeRow_30 (by decide) ?_
    refine lv_iadd hx hb dX3_writeRow_31 ?_
    refine lv_iload_n hx hb dX3_writeRow_32 rfl (lv_at hl 3 rfl) ?_
    refine lv_iadd hx hb dX3_writeRow_33 ?_
    refine lv_aload_n hx hb dX3_writeRow_34 rfl (lv_at hl 1 rfl) ?_
    refine lv_iload_n hx hb dX3_writeRow_35 rfl (lv_at hl 3 rfl) ?_
    refine r_cP hS h (fun r hr => r_runV (As := [.int x3]) (rest := [.int ((x2 + 1) + x3), .ref (al 9 1)]) hC kV_X3_46 cw_X10_gramsIn (rc_X10 (a := b) hib hlb hC hP) hP (tStore_gramsIn x al lv σ b hib hlb x3 r hr) rfl hl.1 ⟨Nat.le_of_ble_eq_true rfl, Nat.le_of_ble_eq_true rfl⟩ ⟨Nat.le_of_ble_eq_true rfl, Nat.le_of_ble_eq_true rfl⟩ (Nat.le_of_ble_eq_true rfl) dX3_writeRow_36) (fun y3 H locs h hP hS => ?_)
    refine r_iast hC hP hS (aF_1 hl9) h dX3_writeRow_39 (fun σ4 H locs h hP hS => ?_)
    refine lv_aload_n hx hb dX3_writeRow_40 rfl (lv_at hl 0 rfl) ?_
    refine gt_X3_3 hl9 hC hP wf_X3_11 dX3_writeRow_41 ?_
    refine lv_iload_n hx hb dX3_writeRow_44 rfl (lv_at hl 2 rfl) ?_
    refine lv_dup2_11 hx hb dX3_writeRow_45 rfl rfl ?_
    refine r_iald hC hP (aF_1 hl9) h dX3_writeRow_46 (fun h => ?_)
    refine lv_aload_n hx hb dX3_writeRow_47 rfl (lv_at hl 0 rfl) ?_
    refine gt_X3_3 hl9 hC hP wf_X3_11 dX3_writeRow_48 ?_
    refine lv_iload_n hx hb dX3_writeRow_51 rfl (lv_at hl 2 rfl) ?_
    refine lv_iconst (v := 1) hx hb dX3_writeRow_52 (by decide) ?_
    refine lv_iadd hx hb dX3_writeRow_53 ?_
    refine lv_iload_n hx hb dX3_writeRow_54 rfl (lv_at hl 3 rfl) ?_
    refine lv_iadd hx hb dX3_writeRow_55 ?_
    refine r_iald hC hP (aF_1 hl9) h dX3_writeRow_56 (fun h => ?_)
    refine lv_iadd hx hb dX3_writeRow_57 ?_
    refine r_iast hC hP hS (aF_1 hl9) h dX3_writeRow_58 (fun σ5 H locs h hP hS => ?_)
    refine r_iinc (v := 1) hC h dX3_writeRow_59 hl (k := 3) rfl rfl (by decide) (fun y6 => [(3, .int y6), (0, .ref (al 9 0)), (1, .ref (al b 0)), (2, .int x2)]) (fun _ => rfl) (fun y6 ls h hl => ?_)
    refine lv_goto (tgt := 17) hx hb dX3_writeRow_62 (by decide) ?_
    exact hk17 σ5 x2 y6 H locs ls h hP hS (lv_sub hl [1, 2, 3, 0] rfl)

set_option maxHeartbeats 4000000 in
set_option maxRecDepth 20000 in
theorem wForecast_writeRow_17 {p : Program} {l : Launch} {e : Env} {s : State} {m : MethodId} {args : Array Value} {below : List Frame} {meth : Method} {c : Code} {x : Wx} {al : Nat → Nat → Nat} {lv : Nat → Bool} {res : Sg} {b : Nat} (hib : b < 6) (hlb : lv b = true) (hl9 : lv 9 = true) (hC : Cx x p s m args meth c cX3_writeRow 4 none RX3) (n : Nat) (σ : Sg) (x2 : Int32) (x3 : Int32) (H : Heap) (locs : List Loc) (ls : Array Slot) (h : fForecast_writeRow_17 n σ b x2 x3 = some res) (hP : Pic x al lv σ H) (hS : va_S (Ab x) s.heap H locs) (hl : lv_has ls 4 [(0, .ref (al 9 0)), (1, .ref (al b 0)), (2, .int x2), (3, .int x3)]) : W p l e (rmm 2 0 0) s m args below meth c H locs 0 0 (MQ below (QV x al lv res) args s 0 0 (Ab x)) (F0 m 17 ls []) := by
  induction n generalizing σ x2 x3 H locs ls with
  | zero => exact nomatch h
  | succ n ih => exact wForecast_writeRow_17_b hib hlb hl9 hC  _ (fun σ x2 x3 H locs ls h hP hS hl => ih σ x2 x3 H locs ls h hP hS hl) σ x2 x3 H locs ls h hP hS hl
set_option maxHeartbeats 4000000 in
set_option maxRecDepth 20000 in
theorem wForecast_writeRow_0 {p : Program} {l : Launch} {e : Env} {s : State} {m : MethodId} {args : Array Value} {below : List Frame} {meth : Method} {c : Code} {x : Wx} {al : Nat → Nat → Nat} {lv : Nat → Bool} {res : Sg} {b : Nat} (hib : b < 6) (hlb : lv b = true) (hl9 : lv 9 = true) (hC : Cx x p s m args meth c cX3_writeRow 4 none RX3) (σ : Sg) (H : Heap) (locs : List Loc) (ls : Array Slot) (h : fForecast_writeRow_0 σ b = some res) (hP : Pic x al lv σ H) (hS : va_S (Ab x) s.heap H locs) (hl : lv_has ls 4 [(0, .ref (al 9 0)), (1, .ref (al b 0))]) : W p l e (rmm 2 0 0) s m args below meth c H locs 0 0 (MQ below (QV x al lv res) args s 0 0 (Ab x)) (F0 m 0 ls []) := by
  obtain ⟨hx, hb, hml, hown, hts⟩ := hC.1
  unfold fForecast_writeRow_0 at h
  refine lv_aload_n hx hb dX3_writeRow_0 rfl (lv_at hl 0 rfl) ?_
  refine gt_X3_0 hl9 hC hP wf_X3_15 dX3_writeRow_1 ?_
  refine lv_bipush (v := 9) hx hb dX3_writeRow_4 (by decide) ?_
  refine lv_imul hx hb dX3_writeRow_6 ?_
  refine r_lt h (fun y1 h => ?_)
  refine lv_istore_n (lv' := [(2, .int y1), (0, .ref (al 9 0)), (1, .ref (al b 0))]) hx hb dX3_writeRow_7 rfl hl (by decide) rfl (fun ls hl => ?_)
  refine lv_aload_n hx hb dX3_writeRow_8 rfl (lv_at hl 1 rfl) ?_
  refine gt_X3_3 hl9 hC hP wf_X3_11 dX3_writeRow_9 ?_
  refine lv_iload_n hx hb dX3_writeRow_12 rfl (lv_at hl 0 rfl) ?_
  refine lv_iconst (v := 0) hx hb dX3_writeRow_13 (by decide) ?_
  refine r_iast hC hP hS (aF_1 hl9) h dX3_writeRow_14 (fun σ2 H locs h hP hS => ?_)
  refine lv_iconst (v := 0) hx hb dX3_writeRow_15 (by decide) ?_
  refine lv_istore_n (lv' := [(3, .int 0), (2, .int y1), (0, .ref (al 9 0)), (1, .ref (al b 0))]) hx hb dX3_writeRow_16 rfl hl (by decide) rfl (fun ls hl => ?_)
  exact wForecast_writeRow_17 hib hlb hl9 hC  FU σ2 y1 0 H locs ls h hP hS (lv_sub hl [2, 3, 1, 0] rfl)

set_option maxRecDepth 20000 in
theorem tForecast_writeRow {l : Launch} (x : Wx) (al : Nat → Nat → Nat) (lv : Nat → Bool) (σ : Sg) (b : Nat) (hib : b < 6) (hlb : lv b = true) (hl9 : lv 9 = true) (res : Sg) (h : fForecast_writeRow σ b = some res) : Met l yX3_writeRow (Cond.code yX3_writeRow cX3_writeRow 4 none :: lwg) (rmm 2 0 0) (va_Pc [.ref (al 9 0), .ref (al b 0)] (Wd x al lv σ)) (QV x al lv res) 0 0 (Ab x) := by
  refine met_W (by decide) (Nat.le_of_ble_eq_true rfl) rfl (fun p e s m args below meth c ls hC hP hS hl => ?_)
  exact wForecast_writeRow_0 hib hlb hl9 hC σ  _ _ ls h hP hS hl
set_option maxHeartbeats 4000000 in
set_option maxRecDepth 20000 in
theorem wStore_blocksIn_31 {p : Program} {l : Launch} {e : Env} {s : State} {m : MethodId} {args : Array Value} {below : List Frame} {meth : Method} {c : Code} {x : Wx} {al : Nat → Nat → Nat} {lv : Nat → Bool} {res : Int32} {σ : Sg} {a : Nat} (hia : a < 6) (hla : lv a = true) (hC : Cx x p s m args meth c cX10_blocksIn 4 (some .int) RX10) (k4 : Int32 → Int32 → Int32 → Option (Int32)) (hk4 : ∀ (x1 : Int32) (x2 : Int32) (x3 : Int32) (H : Heap) (locs : List Loc) (ls : Array Slot), k4 x1 x2 x3 = some res → Pic x al lv σ H → va_S (Ab x) s.heap H locs → lv_has ls 4 [(0, .ref (al a 0)), (1, .int x1), (2, .int x2), (3, .int x3)] → W p l e (rmm 1 0 0) s m args below meth c H locs 0 0 (MQ below (QP x al lv σ res) args s 0 0 (Ab x)) (F0 m 4 ls [])) (x1 : Int32) (x2 : Int32) (x3 : Int32) (H : Heap) (locs : List Loc) (ls : Array Slot) (h : fStore_blocksIn_31 k4 σ a x1 x2 x3 = some res) (hP : Pic x al lv σ H) (hS : va_S (Ab x) s.heap H locs) (hl : lv_has ls 4 [(0, .ref (al a 0)), (1, .int x1), (2, .int x2), (3, .int x3)]) : W p l e (rmm 1 0 0) s m args below meth c H locs 0 0 (MQ below (QP x al lv σ res) args s 0 0 (Ab x)) (F0 m 31 ls []) := by
  obtain ⟨hx, hb, hml, hown, hts⟩ := hC.1
  unfold fStore_blocksIn_31 at h
  refine r_iinc (v := 1) hC h dX10_blocksIn_31 hl (k := 3) rfl rfl (by decide) (fun y2 => [(3, .int y2), (0, .ref (al a 0)), (1, .int x1), (2, .int x2)]) (fun _ => rfl) (fun y2 ls h hl => ?_)
  refine lv_goto (tgt := 4) hx hb dX10_blocksIn_34 (by decide) ?_
  exact hk4 x1 x2 y2 H locs ls h hP hS (lv_sub hl [1, 2, 3, 0] rfl)

set_option maxHeartbeats 4000000 in
set_option maxRecDepth 20000 in
theorem wStore_blocksIn_4_b {p : Program} {l : Launch} {e : Env} {s : State} {m : MethodId} {args : Array Value} {below : List Frame} {meth : Method} {c : Code} {x : Wx} {al : Nat → Nat → Nat} {lv : Nat → Bool} {res : Int32} {σ : Sg} {a : Nat} (hia : a < 6) (hla : lv a = true) (hC : Cx x p s m args meth c cX10_blocksIn 4 (some .int) RX10) (k4 : Int32 → Int32 → Int32 → Option (Int32)) (hk4 : ∀ (x1 : Int32) (x2 : Int32) (x3 : Int32) (H : Heap) (locs : List Loc) (ls : Array Slot), k4 x1 x2 x3 = some res → Pic x al lv σ H → va_S (Ab x) s.heap H locs → lv_has ls 4 [(0, .ref (al a 0)), (1, .int x1), (2, .int x2), (3, .int x3)] → W p l e (rmm 1 0 0) s m args below meth c H locs 0 0 (MQ below (QP x al lv σ res) args s 0 0 (Ab x)) (F0 m 4 ls [])) (x1 : Int32) (x2 : Int32) (x3 : Int32) (H : Heap) (locs : List Loc) (ls : Array Slot) (h : fStore_blocksIn_4_b k4 σ a x1 x2 x3 = some res) (hP : Pic x al lv σ H) (hS : va_S (Ab x) s.heap H locs) (hl : lv_has ls 4 [(0, .ref (al a 0)), (1, .int x1), (2, .int x2), (3, .int x3)]) : W p l e (rmm 1 0 0) s m args below meth c H locs 0 0 (MQ below (QP x al lv σ res) args s 0 0 (Ab x)) (F0 m 4 ls []) := by
  obtain ⟨hx, hb, hml, hown, hts⟩ := hC.1
  unfold fStore_blocksIn_4_b at h
  refine lv_iload_n hx hb dX10_blocksIn_4 rfl (lv_at hl 3 rfl) ?_
  refine lv_aload_n hx hb dX10_blocksIn_5 rfl (lv_at hl 0 rfl) ?_
  refine gt_X10_6 (a := a) hia hla hC hP wf_X10_21 dX10_blocksIn_6 ?_
  refine gt_X0_0 (a := a) hia hla hC hP wf_X10_48 dX10_blocksIn_9 ?_
  refine lv_icmp_ge (tgt := 37) hx hb dX10_blocksIn_12 (by decide) (fun hc => ?_) (fun hc => ?_)
  · replace h := (br h).1 hc
    refine lv_iload_n hx hb dX10_blocksIn_37 rfl (lv_at hl 2 rfl) ?_
    exact r_retP hC hP hS rfl h dX10_blocksIn_38
  · replace h := (br h).2 hc
    refine lv_aload_n hx hb dX10_blocksIn_15 rfl (lv_at hl 0 rfl) ?_
    refine gt_X10_6 (a := a) hia hla hC hP wf_X10_21 dX10_blocksIn_16 ?_
    refine gt_X0_3 (a := a) hia hla hC hP wf_X10_58 dX10_blocksIn_19 ?_
    refine lv_iload_n hx hb dX10_blocksIn_22 rfl (lv_at hl 3 rfl) ?_
    refine r_iald hC hP (aS_18 (a := a) hia hla) h dX10_blocksIn_23 (fun h => ?_)
    refine lv_iload_n hx hb dX10_blocksIn_24 rfl (lv_at hl 1 rfl) ?_
    refine lv_icmp_ne (tgt := 31) hx hb dX10_blocksIn_25 (by decide) (fun hc => ?_) (fun hc => ?_)
    · replace h := (br h).2 hc
      exact wStore_blocksIn_31 hia hla hC k4 hk4 x1 x2 x3 H locs ls h hP hS (lv_sub hl [0, 1, 2, 3] rfl)
    · replace h := (br h).1 hc
      refine r_iinc (v := 1) hC h dX10_blocksIn_28 hl (k := 2) rfl rfl (by decide) (fun y1 => [(2, .int y1), (0, .ref (al a 0)), (1, .int x1), (3, .int x3)]) (fun _ => rfl) (fun y1 ls h hl => ?_)
      exact wStore_blocksIn_31 hia hla hC k4 hk4 x1 y1 x3 H locs ls h hP hS (lv_sub hl [1, 2, 0, 3] rfl)

set_option maxHeartbeats 4000000 in
set_option maxRecDepth 20000 in
theorem wStore_blocksIn_4 {p : Program} {l : Launch} {e : Env} {s : State} {m : MethodId} {args : Array Value} {below : List Frame} {meth : Method} {c : Code} {x : Wx} {al : Nat → Nat → Nat} {lv : Nat → Bool} {res : Int32} {σ : Sg} {a : Nat} (hia : a < 6) (hla : lv a = true) (hC : Cx x p s m args meth c cX10_blocksIn 4 (some .int) RX10) (n : Nat) (x1 : Int32) (x2 : Int32) (x3 : Int32) (H : Heap) (locs : List Loc) (ls : Array Slot) (h : fStore_blocksIn_4 n σ a x1 x2 x3 = some res) (hP : Pic x al lv σ H) (hS : va_S (Ab x) s.heap H locs) (hl : lv_has ls 4 [(0, .ref (al a 0)), (1, .int x1), (2, .int x2), (3, .int x3)]) : W p l e (rmm 1 0 0) s m args below meth c H locs 0 0 (MQ below (QP x al lv σ res) args s 0 0 (Ab x)) (F0 m 4 ls []) := by
  induction n generalizing x1 x2 x3 H locs ls with
  | zero => exact nomatch h
  | succ n ih => exact wStore_blocksIn_4_b hia hla hC  _ (fun x1 x2 x3 H locs ls h hP hS hl => ih x1 x2 x3 H locs ls h hP hS hl) x1 x2 x3 H locs ls h hP hS hl
set_option maxHeartbeats 4000000 in
set_option maxRecDepth 20000 in
theorem wStore_blocksIn_0 {p : Program} {l : Launch} {e : Env} {s : State} {m : MethodId} {args : Array Value} {below : List Frame} {meth : Method} {c : Code} {x : Wx} {al : Nat → Nat → Nat} {lv : Nat → Bool} {res : Int32} {σ : Sg} {a : Nat} (hia : a < 6) (hla : lv a = true) (hC : Cx x p s m args meth c cX10_blocksIn 4 (some .int) RX10) (v1 : Int32) (H : Heap) (locs : List Loc) (ls : Array Slot) (h : fStore_blocksIn_0 σ a v1 = some res) (hP : Pic x al lv σ H) (hS : va_S (Ab x) s.heap H locs) (hl : lv_has ls 4 [(0, .ref (al a 0)), (1, .int v1)]) : W p l e (rmm 1 0 0) s m args below meth c H locs 0 0 (MQ below (QP x al lv σ res) args s 0 0 (Ab x)) (F0 m 0 ls []) := by
  obtain ⟨hx, hb, hml, hown, hts⟩ := hC.1
  unfold fStore_blocksIn_0 at h
  refine lv_iconst (v := 0) hx hb dX10_blocksIn_0 (by decide) ?_
  refine lv_istore_n (lv' := [(2, .int 0), (0, .ref (al a 0)), (1, .int v1)]) hx hb dX10_blocksIn_1 rfl hl (by decide) rfl (fun ls hl => ?_)
  refine lv_iconst (v := 0) hx hb dX10_blocksIn_2 (by decide) ?_
  refine lv_istore_n (lv' := [(3, .int 0), (2, .int 0), (0, .ref (al a 0)), (1, .int v1)]) hx hb dX10_blocksIn_3 rfl hl (by decide) rfl (fun ls hl => ?_)
  exact wStore_blocksIn_4 hia hla hC  FU v1 0 0 H locs ls h hP hS (lv_sub hl [2, 3, 1, 0] rfl)

set_option maxRecDepth 20000 in
theorem tStore_blocksIn {l : Launch} (x : Wx) (al : Nat → Nat → Nat) (lv : Nat → Bool) (σ : Sg) (a : Nat) (hia : a < 6) (hla : lv a = true) (v1 : Int32) (res : Int32) (h : fStore_blocksIn σ a v1 = some res) : Met l yX10_blocksIn (Cond.code yX10_blocksIn cX10_blocksIn 4 (some .int) :: lwg) (rmm 1 0 0) (va_Pc [.ref (al a 0), .int v1] (Wd x al lv σ)) (QP x al lv σ res) 0 0 (Ab x) := by
  refine met_W (by decide) (Nat.le_of_ble_eq_true rfl) rfl (fun p e s m args below meth c ls hC hP hS hl => ?_)
  exact wStore_blocksIn_0 hia hla hC v1 _ _ ls h hP hS hl
set_option maxHeartbeats 4000000 in
set_option maxRecDepth 20000 in
theorem wStore_blocksInRooms_0 {p : Program} {l : Launch} {e : Env} {s : State} {m : MethodId} {args : Array Value} {below : List Frame} {meth : Method} {c : Code} {x : Wx} {al : Nat → Nat → Nat} {lv : Nat → Bool} {res : Int32} {σ : Sg} {a : Nat} (hia : a < 6) (hla : lv a = true) (hC : Cx x p s m args meth c cX10_blocksInRooms 1 (some .int) RX10) (H : Heap) (locs : List Loc) (ls : Array Slot) (h : fStore_blocksInRooms_0 σ a = some res) (hP : Pic x al lv σ H) (hS : va_S (Ab x) s.heap H locs) (hl : lv_has ls 1 [(0, .ref (al a 0))]) : W p l e (rmm 2 0 0) s m args below meth c H locs 0 0 (MQ below (QP x al lv σ res) args s 0 0 (Ab x)) (F0 m 0 ls []) := by
  obtain ⟨hx, hb, hml, hown, hts⟩ := hC.1
  unfold fStore_blocksInRooms_0 at h
  refine lv_aload_n hx hb dX10_blocksInRooms_0 rfl (lv_at hl 0 rfl) ?_
  refine gt_X10_6 (a := a) hia hla hC hP wf_X10_21 dX10_blocksInRooms_1 ?_
  refine gt_X0_0 (a := a) hia hla hC hP wf_X10_48 dX10_blocksInRooms_4 ?_
  refine lv_aload_n hx hb dX10_blocksInRooms_7 rfl (lv_at hl 0 rfl) ?_
  refine lv_iconst (v := (-1)) hx hb dX10_blocksInRooms_8 (by decide) ?_
  refine r_cP hS h (fun r hr => r_runV (As := [.int ((-1))]) (rest := [.int (σ a 15 0)]) hC kV_X10_85 cw_X10_blocksIn (rc_X10 (a := a) hia hla hC hP) hP (tStore_blocksIn x al lv σ a hia hla ((-1)) r hr) rfl hl.1 ⟨Nat.le_of_ble_eq_true rfl, Nat.le_of_ble_eq_true rfl⟩ ⟨Nat.le_of_ble_eq_true rfl, Nat.le_of_ble_eq_true rfl⟩ (Nat.le_of_ble_eq_true rfl) dX10_blocksInRooms_9) (fun y1 H locs h hP hS => ?_)
  refine lv_isub hx hb dX10_blocksInRooms_12 ?_
  exact r_retP hC hP hS rfl h dX10_blocksInRooms_13

set_option maxRecDepth 20000 in
theorem tStore_blocksInRooms {l : Launch} (x : Wx) (al : Nat → Nat → Nat) (lv : Nat → Bool) (σ : Sg) (a : Nat) (hia : a < 6) (hla : lv a = true) (res : Int32) (h : fStore_blocksInRooms σ a = some res) : Met l yX10_blocksInRooms (Cond.code yX10_blocksInRooms cX10_blocksInRooms 1 (some .int) :: lwg) (rmm 2 0 0) (va_Pc [.ref (al a 0)] (Wd x al lv σ)) (QP x al lv σ res) 0 0 (Ab x) := by
  refine met_W (by decide) (Nat.le_of_ble_eq_true rfl) rfl (fun p e s m args below meth c ls hC hP hS hl => ?_)
  exact wStore_blocksInRooms_0 hia hla hC  _ _ ls h hP hS hl
set_option maxHeartbeats 4000000 in
set_option maxRecDepth 20000 in
theorem wForecast_begin_35 {p : Program} {l : Launch} {e : Env} {s : State} {m : MethodId} {args : Array Value} {below : List Frame} {meth : Method} {c : Code} {x : Wx} {al : Nat → Nat → Nat} {lv : Nat → Bool} {res : Sg} {b : Nat} (hib : b < 6) (hlb : lv b = true) (hl9 : lv 9 = true) (hC : Cx x p s m args meth c cX3_begin 2 none RX3) (σ : Sg) (t0 : Int32) (H : Heap) (locs : List Loc) (ls : Array Slot) (h : fForecast_begin_35 σ b t0 = some res) (hP : Pic x al lv σ H) (hS : va_S (Ab x) s.heap H locs) (hl : lv_has ls 2 [(0, .ref (al 9 0)), (1, .ref (al b 0))]) : W p l e (rmm 3 0 0) s m args below meth c H locs 0 0 (MQ below (QV x al lv res) args s 0 0 (Ab x)) (F0 m 35 ls [.int t0, .ref (al 9 0)]) := by
  obtain ⟨hx, hb, hml, hown, hts⟩ := hC.1
  unfold fForecast_begin_35 at h
  refine pt_X3_1 hl9 hC hP hS wf_X3_39 h dX3_begin_35 (fun σ4 H locs h hP hS => ?_)
  refine lv_aload_n hx hb dX3_begin_38 rfl (lv_at hl 0 rfl) ?_
  refine lv_aload_n hx hb dX3_begin_39 rfl (lv_at hl 1 rfl) ?_
  refine r_cV hS h (fun r hr => r_runV (As := [.ref (al b 0)]) (rest := []) hC kV_X3_42 cw_X3_writeRow (rc_X3 hl9 hC hP) hP (tForecast_writeRow x al lv σ4 b hib hlb hl9 r hr) rfl hl.1 ⟨Nat.le_of_ble_eq_true rfl, Nat.le_of_ble_eq_true rfl⟩ ⟨Nat.le_of_ble_eq_true rfl, Nat.le_of_ble_eq_true rfl⟩ (Nat.le_of_ble_eq_true rfl) dX3_begin_40) (fun σ5 H locs h hP hS => ?_)
  exact r_retV hC hP hS h dX3_begin_43

set_option maxHeartbeats 4000000 in
set_option maxRecDepth 20000 in
theorem wForecast_begin_0 {p : Program} {l : Launch} {e : Env} {s : State} {m : MethodId} {args : Array Value} {below : List Frame} {meth : Method} {c : Code} {x : Wx} {al : Nat → Nat → Nat} {lv : Nat → Bool} {res : Sg} {b : Nat} (hib : b < 6) (hlb : lv b = true) (hl9 : lv 9 = true) (hC : Cx x p s m args meth c cX3_begin 2 none RX3) (σ : Sg) (H : Heap) (locs : List Loc) (ls : Array Slot) (h : fForecast_begin_0 σ b = some res) (hP : Pic x al lv σ H) (hS : va_S (Ab x) s.heap H locs) (hl : lv_has ls 2 [(0, .ref (al 9 0)), (1, .ref (al b 0))]) : W p l e (rmm 3 0 0) s m args below meth c H locs 0 0 (MQ below (QV x al lv res) args s 0 0 (Ab x)) (F0 m 0 ls []) := by
  obtain ⟨hx, hb, hml, hown, hts⟩ := hC.1
  unfold fForecast_begin_0 at h
  refine lv_aload_n hx hb dX3_begin_0 rfl (lv_at hl 0 rfl) ?_
  refine lv_iconst (v := 0) hx hb dX3_begin_1 (by decide) ?_
  refine pt_X3_0 hl9 hC hP hS wf_X3_15 h dX3_begin_2 (fun σ1 H locs h hP hS => ?_)
  refine lv_aload_n hx hb dX3_begin_5 rfl (lv_at hl 0 rfl) ?_
  refine lv_aload_n hx hb dX3_begin_6 rfl (lv_at hl 1 rfl) ?_
  refine gt_X10_5 (a := b) hib hlb hC hP wf_X3_19 dX3_begin_7 ?_
  refine gt_X8_0 (a := b) hib hlb hC hP wf_X3_25 dX3_begin_10 ?_
  refine pt_X3_2 hl9 hC hP hS wf_X3_30 h dX3_begin_13 (fun σ2 H locs h hP hS => ?_)
  refine lv_aload_n hx hb dX3_begin_16 rfl (lv_at hl 0 rfl) ?_
  refine lv_aload_n hx hb dX3_begin_17 rfl (lv_at hl 1 rfl) ?_
  refine r_cP hS h (fun r hr => r_runV (As := []) (rest := [.ref (al 9 0)]) hC kV_X3_32 cw_X10_blocksInRooms (rc_X10 (a := b) hib hlb hC hP) hP (tStore_blocksInRooms x al lv σ2 b hib hlb r hr) rfl hl.1 ⟨Nat.le_of_ble_eq_true rfl, Nat.le_of_ble_eq_true rfl⟩ ⟨Nat.le_of_ble_eq_true rfl, Nat.le_of_ble_eq_true rfl⟩ (Nat.le_of_ble_eq_true rfl) dX3_begin_18) (fun y3 H locs h hP hS => ?_)
  refine lv_if_ne (tgt := 33) hx hb dX3_begin_21 (by decide) (fun hc => ?_) (fun hc => ?_)
  · replace h := (br h).2 hc
    refine lv_bipush (v := (-2)) hx hb dX3_begin_33 (by decide) ?_
    exact wForecast_begin_35 hib hlb hl9 hC  σ2 ((-2)) H locs ls h hP hS (lv_sub hl [0, 1] rfl)
  · replace h := (br h).1 hc
    refine lv_aload_n hx hb dX3_begin_24 rfl (lv_at hl 1 rfl) ?_
    refine gt_X10_0 (a := b) hib hlb hC hP wf_X3_36 dX3_begin_25 ?_
    refine lv_iconst (v := 1) hx hb dX3_begin_28 (by decide) ?_
    refine lv_isub hx hb dX3_begin_29 ?_
    refine lv_goto (tgt := 35) hx hb dX3_begin_30 (by decide) ?_
    exact wForecast_begin_35 hib hlb hl9 hC  σ2 ((σ2 b 0 0) - 1) H locs ls h hP hS (lv_sub hl [0, 1] rfl)

set_option maxRecDepth 20000 in
theorem tForecast_begin {l : Launch} (x : Wx) (al : Nat → Nat → Nat) (lv : Nat → Bool) (σ : Sg) (b : Nat) (hib : b < 6) (hlb : lv b = true) (hl9 : lv 9 = true) (res : Sg) (h : fForecast_begin σ b = some res) : Met l yX3_begin (Cond.code yX3_begin cX3_begin 2 none :: lwg) (rmm 3 0 0) (va_Pc [.ref (al 9 0), .ref (al b 0)] (Wd x al lv σ)) (QV x al lv res) 0 0 (Ab x) := by
  refine met_W (by decide) (Nat.le_of_ble_eq_true rfl) rfl (fun p e s m args below meth c ls hC hP hS hl => ?_)
  exact wForecast_begin_0 hib hlb hl9 hC σ  _ _ ls h hP hS hl
set_option maxHeartbeats 4000000 in
set_option maxRecDepth 20000 in
theorem wForecast_note_0 {p : Program} {l : Launch} {e : Env} {s : State} {m : MethodId} {args : Array Value} {below : List Frame} {meth : Method} {c : Code} {x : Wx} {al : Nat → Nat → Nat} {lv : Nat → Bool} {res : Sg} {b : Nat} (hib : b < 6) (hlb : lv b = true) (hl9 : lv 9 = true) (hC : Cx x p s m args meth c cX3_note 2 none RX3) (σ : Sg) (H : Heap) (locs : List Loc) (ls : Array Slot) (h : fForecast_note_0 σ b = some res) (hP : Pic x al lv σ H) (hS : va_S (Ab x) s.heap H locs) (hl : lv_has ls 2 [(0, .ref (al 9 0)), (1, .ref (al b 0))]) : W p l e (rmm 3 0 0) s m args below meth c H locs 0 0 (MQ below (QV x al lv res) args s 0 0 (Ab x)) (F0 m 0 ls []) := by
  obtain ⟨hx, hb, hml, hown, hts⟩ := hC.1
  unfold fForecast_note_0 at h
  refine lv_aload_n hx hb dX3_note_0 rfl (lv_at hl 0 rfl) ?_
  refine gt_X3_0 hl9 hC hP wf_X3_15 dX3_note_1 ?_
  refine lv_sipush (v := 199) hx hb dX3_note_4 (by decide) ?_
  refine lv_icmp_lt (tgt := 11) hx hb dX3_note_7 (by decide) (fun hc => ?_) (fun hc => ?_)
  · replace h := (br h).1 hc
    refine lv_aload_n hx hb dX3_note_11 rfl (lv_at hl 0 rfl) ?_
    refine lv_dup hx hb dX3_note_12 rfl ?_
    refine gt_X3_0 hl9 hC hP wf_X3_15 dX3_note_13 ?_
    refine lv_iconst (v := 1) hx hb dX3_note_16 (by decide) ?_
    refine lv_iadd hx hb dX3_note_17 ?_
    refine pt_X3_0 hl9 hC hP hS wf_X3_15 h dX3_note_18 (fun σ1 H locs h hP hS => ?_)
    refine lv_aload_n hx hb dX3_note_21 rfl (lv_at hl 0 rfl) ?_
    refine lv_aload_n hx hb dX3_note_22 rfl (lv_at hl 1 rfl) ?_
    refine r_cV hS h (fun r hr => r_runV (As := [.ref (al b 0)]) (rest := []) hC kV_X3_42 cw_X3_writeRow (rc_X3 hl9 hC hP) hP (tForecast_writeRow x al lv σ1 b hib hlb hl9 r hr) rfl hl.1 ⟨Nat.le_of_ble_eq_true rfl, Nat.le_of_ble_eq_true rfl⟩ ⟨Nat.le_of_ble_eq_true rfl, Nat.le_of_ble_eq_true rfl⟩ (Nat.le_of_ble_eq_true rfl) dX3_note_23) (fun σ2 H locs h hP hS => ?_)
    refine lv_aload_n hx hb dX3_note_26 rfl (lv_at hl 0 rfl) ?_
    refine gt_X3_1 hl9 hC hP wf_X3_39 dX3_note_27 ?_
    refine lv_bipush (v := (-2)) hx hb dX3_note_30 (by decide) ?_
    refine lv_icmp_ne (tgt := 52) hx hb dX3_note_32 (by decide) (fun hc => ?_) (fun hc => ?_)
    · replace h := (br h).2 hc
      exact r_retV hC hP hS h dX3_note_52
    · replace h := (br h).1 hc
      refine lv_aload_n hx hb dX3_note_35 rfl (lv_at hl 1 rfl) ?_
      refine r_cP hS h (fun r hr => r_runV (As := []) (rest := []) hC kV_X3_32 cw_X10_blocksInRooms (rc_X10 (a := b) hib hlb hC hP) hP (tStore_blocksInRooms x al lv σ2 b hib hlb r hr) rfl hl.1 ⟨Nat.le_of_ble_eq_true rfl, Nat.le_of_ble_eq_true rfl⟩ ⟨Nat.le_of_ble_eq_true rfl, Nat.le_of_ble_eq_true rfl⟩ (Nat.le_of_ble_eq_true rfl) dX3_note_36) (fun y3 H locs h hP hS => ?_)
      refine lv_if_ne (tgt := 52) hx hb dX3_note_39 (by decide) (fun hc => ?_) (fun hc => ?_)
      · replace h := (br h).2 hc
        exact r_retV hC hP hS h dX3_note_52
      · replace h := (br h).1 hc
        refine lv_aload_n hx hb dX3_note_42 rfl (lv_at hl 0 rfl) ?_
        refine lv_aload_n hx hb dX3_note_43 rfl (lv_at hl 1 rfl) ?_
        refine gt_X10_0 (a := b) hib hlb hC hP wf_X3_36 dX3_note_44 ?_
        refine lv_iconst (v := 1) hx hb dX3_note_47 (by decide) ?_
        refine lv_isub hx hb dX3_note_48 ?_
        refine pt_X3_1 hl9 hC hP hS wf_X3_39 h dX3_note_49 (fun σ4 H locs h hP hS => ?_)
        exact r_retV hC hP hS h dX3_note_52
  · replace h := (br h).2 hc
    exact r_retV hC hP hS h dX3_note_10

set_option maxRecDepth 20000 in
theorem tForecast_note {l : Launch} (x : Wx) (al : Nat → Nat → Nat) (lv : Nat → Bool) (σ : Sg) (b : Nat) (hib : b < 6) (hlb : lv b = true) (hl9 : lv 9 = true) (res : Sg) (h : fForecast_note σ b = some res) : Met l yX3_note (Cond.code yX3_note cX3_note 2 none :: lwg) (rmm 3 0 0) (va_Pc [.ref (al 9 0), .ref (al b 0)] (Wd x al lv σ)) (QV x al lv res) 0 0 (Ab x) := by
  refine met_W (by decide) (Nat.le_of_ble_eq_true rfl) rfl (fun p e s m args below meth c ls hC hP hS hl => ?_)
  exact wForecast_note_0 hib hlb hl9 hC σ  _ _ ls h hP hS hl
