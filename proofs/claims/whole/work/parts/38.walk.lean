set_option maxHeartbeats 4000000 in
set_option maxRecDepth 20000 in
theorem wRooms_standingInAll_4_b {p : Program} {l : Launch} {e : Env} {s : State} {m : MethodId} {args : Array Value} {below : List Frame} {meth : Method} {c : Code} {x : Wx} {al : Nat → Nat → Nat} {lv : Nat → Bool} {res : Int32} {σ : Sg} {a : Nat} (hia : a < 6) (hla : lv a = true) (hC : Cx x p s m args meth c cX8_standingInAll 3 (some .int) RX8) (k4 : Int32 → Int32 → Option (Int32)) (hk4 : ∀ (x1 : Int32) (x2 : Int32) (H : Heap) (locs : List Loc) (ls : Array Slot), k4 x1 x2 = some res → Pic x al lv σ H → va_S (Ab x) s.heap H locs → lv_has ls 3 [(0, .ref (al a 1)), (1, .int x1), (2, .int x2)] → W p l e (rmm 1 0 0) s m args below meth c H locs 0 0 (MQ below (QP x al lv σ res) args s 0 0 (Ab x)) (F0 m 4 ls [])) (x1 : Int32) (x2 : Int32) (H : Heap) (locs : List Loc) (ls : Array Slot) (h : fRooms_standingInAll_4_b k4 σ a x1 x2 = some res) (hP : Pic x al lv σ H) (hS : va_S (Ab x) s.heap H locs) (hl : lv_has ls 3 [(0, .ref (al a 1)), (1, .int x1), (2, .int x2)]) : W p l e (rmm 1 0 0) s m args below meth c H locs 0 0 (MQ below (QP x al lv σ res) args s 0 0 (Ab x)) (F0 m 4 ls []) := by
  obtain ⟨hx, hb, hml, hown, hts⟩ := hC.1
  unfold fRooms_standingInAll_4_b at h
  refine lv_iload_n hx hb dX8_standingInAll_4 rfl (lv_at hl 2 rfl) ?_
  refine lv_aload_n hx hb dX8_standingInAll_5 rfl (lv_at hl 0 rfl) ?_
  refine gt_X8_0 (a := a) hia hla hC hP wf_X8_51 dX8_standingInAll_6 ?_
  refine lv_icmp_ge (tgt := 27) hx hb dX8_standingInAll_9 (by decide) (fun hc => ?_) (fun hc => ?_)
  · replace h := (br h).1 hc
    refine lv_iload_n hx hb dX8_standingInAll_27 rfl (lv_at hl 1 rfl) ?_
    exact r_retP hC hP hS rfl h dX8_standingInAll_28
  · replace h := (br h).2 hc
    refine lv_iload_n hx hb dX8_standingInAll_12 rfl (lv_at hl 1 rfl) ?_
    refine lv_aload_n hx hb dX8_standingInAll_13 rfl (lv_at hl 0 rfl) ?_
    refine gt_X8_9 (a := a) hia hla hC hP wf_X8_36 dX8_standingInAll_14 ?_
    refine lv_iload_n hx hb dX8_standingInAll_17 rfl (lv_at hl 2 rfl) ?_
    refine r_iald hC hP (aS_10 (a := a) hia hla) h dX8_standingInAll_18 (fun h => ?_)
    refine lv_iadd hx hb dX8_standingInAll_19 ?_
    refine r_lt h (fun y1 h => ?_)
    refine lv_istore_n (lv' := [(1, .int y1), (0, .ref (al a 1)), (2, .int x2)]) hx hb dX8_standingInAll_20 rfl hl (by decide) rfl (fun ls hl => ?_)
    refine r_iinc (v := 1) hC h dX8_standingInAll_21 hl (k := 2) rfl rfl (by decide) (fun y2 => [(2, .int y2), (1, .int y1), (0, .ref (al a 1))]) (fun _ => rfl) (fun y2 ls h hl => ?_)
    refine lv_goto (tgt := 4) hx hb dX8_standingInAll_24 (by decide) ?_
    exact hk4 y1 y2 H locs ls h hP hS (lv_sub hl [2, 1, 0] rfl)

set_option maxHeartbeats 4000000 in
set_option maxRecDepth 20000 in
theorem wRooms_standingInAll_4 {p : Program} {l : Launch} {e : Env} {s : State} {m : MethodId} {args : Array Value} {below : List Frame} {meth : Method} {c : Code} {x : Wx} {al : Nat → Nat → Nat} {lv : Nat → Bool} {res : Int32} {σ : Sg} {a : Nat} (hia : a < 6) (hla : lv a = true) (hC : Cx x p s m args meth c cX8_standingInAll 3 (some .int) RX8) (n : Nat) (x1 : Int32) (x2 : Int32) (H : Heap) (locs : List Loc) (ls : Array Slot) (h : fRooms_standingInAll_4 n σ a x1 x2 = some res) (hP : Pic x al lv σ H) (hS : va_S (Ab x) s.heap H locs) (hl : lv_has ls 3 [(0, .ref (al a 1)), (1, .int x1), (2, .int x2)]) : W p l e (rmm 1 0 0) s m args below meth c H locs 0 0 (MQ below (QP x al lv σ res) args s 0 0 (Ab x)) (F0 m 4 ls []) := by
  induction n generalizing x1 x2 H locs ls with
  | zero => exact nomatch h
  | succ n ih => exact wRooms_standingInAll_4_b hia hla hC  _ (fun x1 x2 H locs ls h hP hS hl => ih x1 x2 H locs ls h hP hS hl) x1 x2 H locs ls h hP hS hl
set_option maxHeartbeats 4000000 in
set_option maxRecDepth 20000 in
theorem wRooms_standingInAll_0 {p : Program} {l : Launch} {e : Env} {s : State} {m : MethodId} {args : Array Value} {below : List Frame} {meth : Method} {c : Code} {x : Wx} {al : Nat → Nat → Nat} {lv : Nat → Bool} {res : Int32} {σ : Sg} {a : Nat} (hia : a < 6) (hla : lv a = true) (hC : Cx x p s m args meth c cX8_standingInAll 3 (some .int) RX8) (H : Heap) (locs : List Loc) (ls : Array Slot) (h : fRooms_standingInAll_0 σ a = some res) (hP : Pic x al lv σ H) (hS : va_S (Ab x) s.heap H locs) (hl : lv_has ls 3 [(0, .ref (al a 1))]) : W p l e (rmm 1 0 0) s m args below meth c H locs 0 0 (MQ below (QP x al lv σ res) args s 0 0 (Ab x)) (F0 m 0 ls []) := by
  obtain ⟨hx, hb, hml, hown, hts⟩ := hC.1
  unfold fRooms_standingInAll_0 at h
  refine lv_iconst (v := 0) hx hb dX8_standingInAll_0 (by decide) ?_
  refine lv_istore_n (lv' := [(1, .int 0), (0, .ref (al a 1))]) hx hb dX8_standingInAll_1 rfl hl (by decide) rfl (fun ls hl => ?_)
  refine lv_iconst (v := 0) hx hb dX8_standingInAll_2 (by decide) ?_
  refine lv_istore_n (lv' := [(2, .int 0), (1, .int 0), (0, .ref (al a 1))]) hx hb dX8_standingInAll_3 rfl hl (by decide) rfl (fun ls hl => ?_)
  exact wRooms_standingInAll_4 hia hla hC  FU 0 0 H locs ls h hP hS (lv_sub hl [2, 1, 0] rfl)

set_option maxRecDepth 20000 in
theorem tRooms_standingInAll {l : Launch} (x : Wx) (al : Nat → Nat → Nat) (lv : Nat → Bool) (σ : Sg) (a : Nat) (hia : a < 6) (hla : lv a = true) (res : Int32) (h : fRooms_standingInAll σ a = some res) : Met l yX8_standingInAll (Cond.code yX8_standingInAll cX8_standingInAll 3 (some .int) :: lwg) (rmm 1 0 0) (va_Pc [.ref (al a 1)] (Wd x al lv σ)) (QP x al lv σ res) 0 0 (Ab x) := by
  refine met_W (by decide) (Nat.le_of_ble_eq_true rfl) rfl (fun p e s m args below meth c ls hC hP hS hl => ?_)
  exact wRooms_standingInAll_0 hia hla hC  _ _ ls h hP hS hl
set_option maxHeartbeats 4000000 in
set_option maxRecDepth 20000 in
theorem wStore_copyFrom_0 {p : Program} {l : Launch} {e : Env} {s : State} {m : MethodId} {args : Array Value} {below : List Frame} {meth : Method} {c : Code} {x : Wx} {al : Nat → Nat → Nat} {lv : Nat → Bool} {res : Sg} {a : Nat} (hia : a < 6) (hla : lv a = true) {b : Nat} (hib : b < 6) (hlb : lv b = true) (hC : Cx x p s m args meth c cX10_copyFrom 2 none RX10) (σ : Sg) (H : Heap) (locs : List Loc) (ls : Array Slot) (h : fStore_copyFrom_0 σ a b = some res) (hP : Pic x al lv σ H) (hS : va_S (Ab x) s.heap H locs) (hl : lv_has ls 2 [(0, .ref (al a 0)), (1, .ref (al b 0))]) : W p l e (rmm 3 0 0) s m args below meth c H locs 0 0 (MQ below (QV x al lv res) args s 0 0 (Ab x)) (F0 m 0 ls []) := by
  obtain ⟨hx, hb, hml, hown, hts⟩ := hC.1
  unfold fStore_copyFrom_0 at h
  refine lv_aload_n hx hb dX10_copyFrom_0 rfl (lv_at hl 0 rfl) ?_
  refine lv_aload_n hx hb dX10_copyFrom_1 rfl (lv_at hl 1 rfl) ?_
  refine gt_X10_0 (a := b) hib hlb hC hP wf_X10_25 dX10_copyFrom_2 ?_
  refine pt_X10_0 (a := a) hia hla hC hP hS wf_X10_25 h dX10_copyFrom_5 (fun σ1 H locs h hP hS => ?_)
  refine lv_aload_n hx hb dX10_copyFrom_8 rfl (lv_at hl 0 rfl) ?_
  refine lv_aload_n hx hb dX10_copyFrom_9 rfl (lv_at hl 1 rfl) ?_
  refine gt_X10_1 (a := b) hib hlb hC hP wf_X10_29 dX10_copyFrom_10 ?_
  refine pt_X10_1 (a := a) hia hla hC hP hS wf_X10_29 h dX10_copyFrom_13 (fun σ2 H locs h hP hS => ?_)
  refine lv_aload_n hx hb dX10_copyFrom_16 rfl (lv_at hl 0 rfl) ?_
  refine lv_aload_n hx hb dX10_copyFrom_17 rfl (lv_at hl 1 rfl) ?_
  refine gt_X10_2 (a := b) hib hlb hC hP wf_X10_32 dX10_copyFrom_18 ?_
  refine pt_X10_2 (a := a) hia hla hC hP hS wf_X10_32 h dX10_copyFrom_21 (fun σ3 H locs h hP hS => ?_)
  refine lv_aload_n hx hb dX10_copyFrom_24 rfl (lv_at hl 0 rfl) ?_
  refine lv_aload_n hx hb dX10_copyFrom_25 rfl (lv_at hl 1 rfl) ?_
  refine gt_X10_3 (a := b) hib hlb hC hP wf_X10_35 dX10_copyFrom_26 ?_
  refine pt_X10_3 (a := a) hia hla hC hP hS wf_X10_35 h dX10_copyFrom_29 (fun σ4 H locs h hP hS => ?_)
  refine lv_aload_n hx hb dX10_copyFrom_32 rfl (lv_at hl 0 rfl) ?_
  refine lv_aload_n hx hb dX10_copyFrom_33 rfl (lv_at hl 1 rfl) ?_
  refine gt_X10_4 (a := b) hib hlb hC hP wf_X10_38 dX10_copyFrom_34 ?_
  refine pt_X10_4 (a := a) hia hla hC hP hS wf_X10_38 h dX10_copyFrom_37 (fun σ5 H locs h hP hS => ?_)
  refine lv_aload_n hx hb dX10_copyFrom_40 rfl (lv_at hl 0 rfl) ?_
  refine gt_X10_5 (a := a) hia hla hC hP wf_X10_12 dX10_copyFrom_41 ?_
  refine lv_aload_n hx hb dX10_copyFrom_44 rfl (lv_at hl 1 rfl) ?_
  refine gt_X10_5 (a := b) hib hlb hC hP wf_X10_12 dX10_copyFrom_45 ?_
  refine r_cV hS h (fun r hr => r_runV (As := [.ref (al b 1)]) (rest := []) hC kV_X10_41 cw_X8_copyFrom (rc_X8 (a := a) hia hla hC hP) hP (tRooms_copyFrom x al lv σ5 a hia hla b hib hlb r hr) rfl hl.1 ⟨Nat.le_of_ble_eq_true rfl, Nat.le_of_ble_eq_true rfl⟩ ⟨Nat.le_of_ble_eq_true rfl, Nat.le_of_ble_eq_true rfl⟩ (Nat.le_of_ble_eq_true rfl) dX10_copyFrom_48) (fun σ6 H locs h hP hS => ?_)
  refine lv_aload_n hx hb dX10_copyFrom_51 rfl (lv_at hl 0 rfl) ?_
  refine gt_X10_6 (a := a) hia hla hC hP wf_X10_21 dX10_copyFrom_52 ?_
  refine lv_aload_n hx hb dX10_copyFrom_55 rfl (lv_at hl 1 rfl) ?_
  refine gt_X10_6 (a := b) hib hlb hC hP wf_X10_21 dX10_copyFrom_56 ?_
  refine r_cV hS h (fun r hr => r_runV (As := [.ref (al b 15)]) (rest := []) hC kV_X10_45 cw_X0_copyFrom (rc_X0 (a := a) hia hla hC hP) hP (tBlocks_copyFrom x al lv σ6 a hia hla b hib hlb r hr) rfl hl.1 ⟨Nat.le_of_ble_eq_true rfl, Nat.le_of_ble_eq_true rfl⟩ ⟨Nat.le_of_ble_eq_true rfl, Nat.le_of_ble_eq_true rfl⟩ (Nat.le_of_ble_eq_true rfl) dX10_copyFrom_59) (fun σ7 H locs h hP hS => ?_)
  exact r_retV hC hP hS h dX10_copyFrom_62

set_option maxRecDepth 20000 in
theorem tStore_copyFrom {l : Launch} (x : Wx) (al : Nat → Nat → Nat) (lv : Nat → Bool) (σ : Sg) (a : Nat) (hia : a < 6) (hla : lv a = true) (b : Nat) (hib : b < 6) (hlb : lv b = true) (res : Sg) (h : fStore_copyFrom σ a b = some res) : Met l yX10_copyFrom (Cond.code yX10_copyFrom cX10_copyFrom 2 none :: lwg) (rmm 3 0 0) (va_Pc [.ref (al a 0), .ref (al b 0)] (Wd x al lv σ)) (QV x al lv res) 0 0 (Ab x) := by
  refine met_W (by decide) (Nat.le_of_ble_eq_true rfl) rfl (fun p e s m args below meth c ls hC hP hS hl => ?_)
  exact wStore_copyFrom_0 hia hla hib hlb hC σ  _ _ ls h hP hS hl
set_option maxHeartbeats 4000000 in
set_option maxRecDepth 20000 in
theorem wStore_layDown_57 {p : Program} {l : Launch} {e : Env} {s : State} {m : MethodId} {args : Array Value} {below : List Frame} {meth : Method} {c : Code} {x : Wx} {al : Nat → Nat → Nat} {lv : Nat → Bool} {res : Sg} {a : Nat} (hia : a < 6) (hla : lv a = true) (hC : Cx x p s m args meth c cX10_layDown 3 none RX10) (σ : Sg) (t0 : Int32) (t1 : Int32) (t2 : Int32) (H : Heap) (locs : List Loc) (ls : Array Slot) (h : fStore_layDown_57 σ a t0 t1 t2 = some res) (hP : Pic x al lv σ H) (hS : va_S (Ab x) s.heap H locs) (hl : lv_has ls 3 []) : W p l e (rmm 4 0 0) s m args below meth c H locs 0 0 (MQ below (QV x al lv res) args s 0 0 (Ab x)) (F0 m 57 ls [.int t0, .int t1, .int t2, .ref (al a 11)]) := by
  obtain ⟨hx, hb, hml, hown, hts⟩ := hC.1
  unfold fStore_layDown_57 at h
  refine lv_iadd hx hb dX10_layDown_57 ?_
  refine r_iast hC hP hS (aS_11 (a := a) hia hla) h dX10_layDown_58 (fun σ4 H locs h hP hS => ?_)
  exact r_retV hC hP hS h dX10_layDown_59

set_option maxHeartbeats 4000000 in
set_option maxRecDepth 20000 in
theorem wStore_layDown_0 {p : Program} {l : Launch} {e : Env} {s : State} {m : MethodId} {args : Array Value} {below : List Frame} {meth : Method} {c : Code} {x : Wx} {al : Nat → Nat → Nat} {lv : Nat → Bool} {res : Sg} {a : Nat} (hia : a < 6) (hla : lv a = true) (hC : Cx x p s m args meth c cX10_layDown 3 none RX10) (σ : Sg) (v1 : Int32) (H : Heap) (locs : List Loc) (ls : Array Slot) (h : fStore_layDown_0 σ a v1 = some res) (hP : Pic x al lv σ H) (hS : va_S (Ab x) s.heap H locs) (hl : lv_has ls 3 [(0, .ref (al a 0)), (1, .int v1)]) : W p l e (rmm 4 0 0) s m args below meth c H locs 0 0 (MQ below (QV x al lv res) args s 0 0 (Ab x)) (F0 m 0 ls []) := by
  obtain ⟨hx, hb, hml, hown, hts⟩ := hC.1
  unfold fStore_layDown_0 at h
  refine lv_aload_n hx hb dX10_layDown_0 rfl (lv_at hl 0 rfl) ?_
  refine gt_X10_6 (a := a) hia hla hC hP wf_X10_21 dX10_layDown_1 ?_
  refine gt_X0_3 (a := a) hia hla hC hP wf_X10_58 dX10_layDown_4 ?_
  refine lv_iload_n hx hb dX10_layDown_7 rfl (lv_at hl 1 rfl) ?_
  refine r_iald hC hP (aS_18 (a := a) hia hla) h dX10_layDown_8 (fun h => ?_)
  refine r_lt h (fun y1 h => ?_)
  refine lv_istore_n (lv' := [(2, .int y1), (0, .ref (al a 0)), (1, .int v1)]) hx hb dX10_layDown_9 rfl hl (by decide) rfl (fun ls hl => ?_)
  refine lv_aload_n hx hb dX10_layDown_10 rfl (lv_at hl 1 rfl) ?_
  refine gt_X10_5 (a := a) hia hla hC hP wf_X10_12 dX10_layDown_11 ?_
  refine lv_iload_n hx hb dX10_layDown_14 rfl (lv_at hl 0 rfl) ?_
  refine lv_aload_n hx hb dX10_layDown_15 rfl (lv_at hl 1 rfl) ?_
  refine gt_X10_6 (a := a) hia hla hC hP wf_X10_21 dX10_layDown_16 ?_
  refine gt_X0_4 (a := a) hia hla hC hP wf_X10_61 dX10_layDown_19 ?_
  refine lv_iload_n hx hb dX10_layDown_22 rfl (lv_at hl 2 rfl) ?_
  refine r_iald hC hP (aS_19 (a := a) hia hla) h dX10_layDown_23 (fun h => ?_)
  refine lv_bipush (v := 10) hx hb dX10_layDown_24 (by decide) ?_
  refine lv_iload_n hx hb dX10_layDown_26 rfl (lv_at hl 2 rfl) ?_
  refine lv_iadd hx hb dX10_layDown_27 ?_
  refine r_cV hS h (fun r hr => r_runV (As := [.int y1, .int (σ a 19 v1.toNatClampNeg), .int (10 + v1)]) (rest := []) hC kV_X10_74 cw_X8_fill (rc_X8 (a := a) hia hla hC hP) hP (tRooms_fill x al lv σ a hia hla y1 (σ a 19 v1.toNatClampNeg) (10 + v1) r hr) rfl hl.1 ⟨Nat.le_of_ble_eq_true rfl, Nat.le_of_ble_eq_true rfl⟩ ⟨Nat.le_of_ble_eq_true rfl, Nat.le_of_ble_eq_true rfl⟩ (Nat.le_of_ble_eq_true rfl) dX10_layDown_28) (fun σ2 H locs h hP hS => ?_)
  refine lv_aload_n hx hb dX10_layDown_31 rfl (lv_at hl 1 rfl) ?_
  refine gt_X10_5 (a := a) hia hla hC hP wf_X10_12 dX10_layDown_32 ?_
  refine gt_X8_10 (a := a) hia hla hC hP wf_X10_78 dX10_layDown_35 ?_
  refine lv_iload_n hx hb dX10_layDown_38 rfl (lv_at hl 0 rfl) ?_
  refine lv_dup2_11 hx hb dX10_layDown_39 rfl rfl ?_
  refine r_iald hC hP (aS_11 (a := a) hia hla) h dX10_layDown_40 (fun h => ?_)
  refine lv_aload_n hx hb dX10_layDown_41 rfl (lv_at hl 1 rfl) ?_
  refine gt_X10_6 (a := a) hia hla hC hP wf_X10_21 dX10_layDown_42 ?_
  refine lv_iload_n hx hb dX10_layDown_45 rfl (lv_at hl 2 rfl) ?_
  refine r_cP hS h (fun r hr => r_runV (As := [.int v1]) (rest := [.int (σ2 a 11 y1.toNatClampNeg), .int y1, .ref (al a 11)]) hC kV_X10_81 cw_X0_isSalt (rc_X0 (a := a) hia hla hC hP) hP (tBlocks_isSalt x al lv σ2 a hia hla v1 r hr) rfl hl.1 ⟨Nat.le_of_ble_eq_true rfl, Nat.le_of_ble_eq_true rfl⟩ ⟨Nat.le_of_ble_eq_true rfl, Nat.le_of_ble_eq_true rfl⟩ (Nat.le_of_ble_eq_true rfl) dX10_layDown_46) (fun y3 H locs h hP hS => ?_)
  refine lv_if_eq (tgt := 56) hx hb dX10_layDown_49 (by decide) (fun hc => ?_) (fun hc => ?_)
  · replace h := (br h).1 hc
    refine lv_iconst (v := 0) hx hb dX10_layDown_56 (by decide) ?_
    exact wStore_layDown_57 hia hla hC  σ2 0 (σ2 a 11 y1.toNatClampNeg) y1 H locs ls h hP hS (lv_sub hl [] rfl)
  · replace h := (br h).2 hc
    refine lv_iconst (v := 1) hx hb dX10_layDown_52 (by decide) ?_
    refine lv_goto (tgt := 57) hx hb dX10_layDown_53 (by decide) ?_
    exact wStore_layDown_57 hia hla hC  σ2 1 (σ2 a 11 y1.toNatClampNeg) y1 H locs ls h hP hS (lv_sub hl [] rfl)

set_option maxRecDepth 20000 in
theorem tStore_layDown {l : Launch} (x : Wx) (al : Nat → Nat → Nat) (lv : Nat → Bool) (σ : Sg) (a : Nat) (hia : a < 6) (hla : lv a = true) (v1 : Int32) (res : Sg) (h : fStore_layDown σ a v1 = some res) : Met l yX10_layDown (Cond.code yX10_layDown cX10_layDown 3 none :: lwg) (rmm 4 0 0) (va_Pc [.ref (al a 0), .int v1] (Wd x al lv σ)) (QV x al lv res) 0 0 (Ab x) := by
  refine met_W (by decide) (Nat.le_of_ble_eq_true rfl) rfl (fun p e s m args below meth c ls hC hP hS hl => ?_)
  exact wStore_layDown_0 hia hla hC σ v1 _ _ ls h hP hS hl
set_option maxHeartbeats 4000000 in
set_option maxRecDepth 20000 in
theorem wStore_cutBlock_0 {p : Program} {l : Launch} {e : Env} {s : State} {m : MethodId} {args : Array Value} {below : List Frame} {meth : Method} {c : Code} {x : Wx} {al : Nat → Nat → Nat} {lv : Nat → Bool} {res : Int32 × Sg} {a : Nat} (hia : a < 6) (hla : lv a = true) (hC : Cx x p s m args meth c cX10_cutBlock 6 (some .int) RX10) (σ : Sg) (v1 : Int32) (v2 : Int32) (v3 : Int32) (v4 : Int32) (H : Heap) (locs : List Loc) (ls : Array Slot) (h : fStore_cutBlock_0 σ a v1 v2 v3 v4 = some res) (hP : Pic x al lv σ H) (hS : va_S (Ab x) s.heap H locs) (hl : lv_has ls 6 [(0, .ref (al a 0)), (1, .int v1), (2, .int v2), (3, .int v3), (4, .int v4)]) : W p l e (rmm 5 0 0) s m args below meth c H locs 0 0 (MQ below (QI x al lv res) args s 0 0 (Ab x)) (F0 m 0 ls []) := by
  obtain ⟨hx, hb, hml, hown, hts⟩ := hC.1
  unfold fStore_cutBlock_0 at h
  refine lv_aload_n hx hb dX10_cutBlock_0 rfl (lv_at hl 0 rfl) ?_
  refine gt_X10_6 (a := a) hia hla hC hP wf_X10_21 dX10_cutBlock_1 ?_
  refine gt_X0_0 (a := a) hia hla hC hP wf_X10_48 dX10_cutBlock_4 ?_
  refine r_lt h (fun y1 h => ?_)
  refine lv_istore (lv' := [(5, .int y1), (0, .ref (al a 0)), (1, .int v1), (2, .int v2), (3, .int v3), (4, .int v4)]) hx hb dX10_cutBlock_7 hl (by decide) rfl (fun ls hl => ?_)
  refine lv_iload hx hb dX10_cutBlock_9 (lv_at hl 0 rfl) ?_
  refine lv_sipush (v := 300) hx hb dX10_cutBlock_11 (by decide) ?_
  refine lv_icmp_lt (tgt := 20) hx hb dX10_cutBlock_14 (by decide) (fun hc => ?_) (fun hc => ?_)
  · replace h := (br h).1 hc
    refine lv_aload_n hx hb dX10_cutBlock_20 rfl (lv_at hl 1 rfl) ?_
    refine gt_X10_6 (a := a) hia hla hC hP wf_X10_21 dX10_cutBlock_21 ?_
    refine gt_X0_1 (a := a) hia hla hC hP wf_X10_51 dX10_cutBlock_24 ?_
    refine lv_iload hx hb dX10_cutBlock_27 (lv_at hl 0 rfl) ?_
    refine lv_iload_n hx hb dX10_cutBlock_29 rfl (lv_at hl 4 rfl) ?_
    refine r_iast hC hP hS (aS_16 (a := a) hia hla) h dX10_cutBlock_30 (fun σ2 H locs h hP hS => ?_)
    refine lv_aload_n hx hb dX10_cutBlock_31 rfl (lv_at hl 1 rfl) ?_
    refine gt_X10_6 (a := a) hia hla hC hP wf_X10_21 dX10_cutBlock_32 ?_
    refine gt_X0_2 (a := a) hia hla hC hP wf_X10_55 dX10_cutBlock_35 ?_
    refine lv_iload hx hb dX10_cutBlock_38 (lv_at hl 0 rfl) ?_
    refine lv_iload hx hb dX10_cutBlock_40 (lv_at hl 5 rfl) ?_
    refine r_iast hC hP hS (aS_17 (a := a) hia hla) h dX10_cutBlock_42 (fun σ3 H locs h hP hS => ?_)
    refine lv_aload_n hx hb dX10_cutBlock_43 rfl (lv_at hl 1 rfl) ?_
    refine gt_X10_6 (a := a) hia hla hC hP wf_X10_21 dX10_cutBlock_44 ?_
    refine gt_X0_3 (a := a) hia hla hC hP wf_X10_58 dX10_cutBlock_47 ?_
    refine lv_iload hx hb dX10_cutBlock_50 (lv_at hl 0 rfl) ?_
    refine lv_iload_n hx hb dX10_cutBlock_52 rfl (lv_at hl 2 rfl) ?_
    refine r_iast hC hP hS (aS_18 (a := a) hia hla) h dX10_cutBlock_53 (fun σ4 H locs h hP hS => ?_)
    refine lv_aload_n hx hb dX10_cutBlock_54 rfl (lv_at hl 1 rfl) ?_
    refine gt_X10_6 (a := a) hia hla hC hP wf_X10_21 dX10_cutBlock_55 ?_
    refine gt_X0_4 (a := a) hia hla hC hP wf_X10_61 dX10_cutBlock_58 ?_
    refine lv_iload hx hb dX10_cutBlock_61 (lv_at hl 0 rfl) ?_
    refine lv_iload_n hx hb dX10_cutBlock_63 rfl (lv_at hl 3 rfl) ?_
    refine r_iast hC hP hS (aS_19 (a := a) hia hla) h dX10_cutBlock_64 (fun σ5 H locs h hP hS => ?_)
    refine lv_aload_n hx hb dX10_cutBlock_65 rfl (lv_at hl 1 rfl) ?_
    refine gt_X10_6 (a := a) hia hla hC hP wf_X10_21 dX10_cutBlock_66 ?_
    refine gt_X0_5 (a := a) hia hla hC hP wf_X10_64 dX10_cutBlock_69 ?_
    refine lv_iload hx hb dX10_cutBlock_72 (lv_at hl 0 rfl) ?_
    refine lv_aload_n hx hb dX10_cutBlock_74 rfl (lv_at hl 1 rfl) ?_
    refine gt_X10_0 (a := a) hia hla hC hP wf_X10_25 dX10_cutBlock_75 ?_
    refine r_iast hC hP hS (aS_20 (a := a) hia hla) h dX10_cutBlock_78 (fun σ6 H locs h hP hS => ?_)
    refine lv_aload_n hx hb dX10_cutBlock_79 rfl (lv_at hl 1 rfl) ?_
    refine gt_X10_6 (a := a) hia hla hC hP wf_X10_21 dX10_cutBlock_80 ?_
    refine gt_X0_6 (a := a) hia hla hC hP wf_X10_67 dX10_cutBlock_83 ?_
    refine lv_iload hx hb dX10_cutBlock_86 (lv_at hl 0 rfl) ?_
    refine lv_iconst (v := (-1)) hx hb dX10_cutBlock_88 (by decide) ?_
    refine r_iast hC hP hS (aS_21 (a := a) hia hla) h dX10_cutBlock_89 (fun σ7 H locs h hP hS => ?_)
    refine lv_aload_n hx hb dX10_cutBlock_90 rfl (lv_at hl 1 rfl) ?_
    refine gt_X10_6 (a := a) hia hla hC hP wf_X10_21 dX10_cutBlock_91 ?_
    refine lv_dup hx hb dX10_cutBlock_94 rfl ?_
    refine gt_X0_0 (a := a) hia hla hC hP wf_X10_48 dX10_cutBlock_95 ?_
    refine lv_iconst (v := 1) hx hb dX10_cutBlock_98 (by decide) ?_
    refine lv_iadd hx hb dX10_cutBlock_99 ?_
    refine pt_X0_0 (a := a) hia hla hC hP hS wf_X10_48 h dX10_cutBlock_100 (fun σ8 H locs h hP hS => ?_)
    refine lv_aload_n hx hb dX10_cutBlock_103 rfl (lv_at hl 1 rfl) ?_
    refine lv_iload hx hb dX10_cutBlock_104 (lv_at hl 0 rfl) ?_
    refine r_cV hS h (fun r hr => r_runV (As := [.int y1]) (rest := []) hC kV_X10_70 cw_X10_layDown (rc_X10 (a := a) hia hla hC hP) hP (tStore_layDown x al lv σ8 a hia hla y1 r hr) rfl hl.1 ⟨Nat.le_of_ble_eq_true rfl, Nat.le_of_ble_eq_true rfl⟩ ⟨Nat.le_of_ble_eq_true rfl, Nat.le_of_ble_eq_true rfl⟩ (Nat.le_of_ble_eq_true rfl) dX10_cutBlock_106) (fun σ9 H locs h hP hS => ?_)
    refine lv_aload_n hx hb dX10_cutBlock_109 rfl (lv_at hl 1 rfl) ?_
    refine lv_dup hx hb dX10_cutBlock_110 rfl ?_
    refine gt_X10_1 (a := a) hia hla hC hP wf_X10_29 dX10_cutBlock_111 ?_
    refine lv_iload hx hb dX10_cutBlock_114 (lv_at hl 5 rfl) ?_
    refine lv_iadd hx hb dX10_cutBlock_116 ?_
    refine pt_X10_1 (a := a) hia hla hC hP hS wf_X10_29 h dX10_cutBlock_117 (fun σ10 H locs h hP hS => ?_)
    refine lv_iload hx hb dX10_cutBlock_120 (lv_at hl 0 rfl) ?_
    exact r_retI hC hP hS rfl h dX10_cutBlock_122
  · replace h := (br h).2 hc
    refine lv_bipush (v := (-6)) hx hb dX10_cutBlock_17 (by decide) ?_
    exact r_retI hC hP hS rfl h dX10_cutBlock_19

set_option maxRecDepth 20000 in
theorem tStore_cutBlock {l : Launch} (x : Wx) (al : Nat → Nat → Nat) (lv : Nat → Bool) (σ : Sg) (a : Nat) (hia : a < 6) (hla : lv a = true) (v1 : Int32) (v2 : Int32) (v3 : Int32) (v4 : Int32) (res : Int32 × Sg) (h : fStore_cutBlock σ a v1 v2 v3 v4 = some res) : Met l yX10_cutBlock (Cond.code yX10_cutBlock cX10_cutBlock 6 (some .int) :: lwg) (rmm 5 0 0) (va_Pc [.ref (al a 0), .int v1, .int v2, .int v3, .int v4] (Wd x al lv σ)) (QI x al lv res) 0 0 (Ab x) := by
  refine met_W (by decide) (Nat.le_of_ble_eq_true rfl) rfl (fun p e s m args below meth c ls hC hP hS hl => ?_)
  exact wStore_cutBlock_0 hia hla hC σ v1 v2 v3 v4 _ _ ls h hP hS hl
set_option maxHeartbeats 4000000 in
set_option maxRecDepth 20000 in
theorem wStore_gramsInRooms_4_b {p : Program} {l : Launch} {e : Env} {s : State} {m : MethodId} {args : Array Value} {below : List Frame} {meth : Method} {c : Code} {x : Wx} {al : Nat → Nat → Nat} {lv : Nat → Bool} {res : Int32} {σ : Sg} {a : Nat} (hia : a < 6) (hla : lv a = true) (hC : Cx x p s m args meth c cX10_gramsInRooms 3 (some .int) RX10) (k4 : Int32 → Int32 → Option (Int32)) (hk4 : ∀ (x1 : Int32) (x2 : Int32) (H : Heap) (locs : List Loc) (ls : Array Slot), k4 x1 x2 = some res → Pic x al lv σ H → va_S (Ab x) s.heap H locs → lv_has ls 3 [(0, .ref (al a 0)), (1, .int x1), (2, .int x2)] → W p l e (rmm 2 0 0) s m args below meth c H locs 0 0 (MQ below (QP x al lv σ res) args s 0 0 (Ab x)) (F0 m 4 ls [])) (x1 : Int32) (x2 : Int32) (H : Heap) (locs : List Loc) (ls : Array Slot) (h : fStore_gramsInRooms_4_b k4 σ a x1 x2 = some res) (hP : Pic x al lv σ H) (hS : va_S (Ab x) s.heap H locs) (hl : lv_has ls 3 [(0, .ref (al a 0)), (1, .int x1), (2, .int x2)]) : W p l e (rmm 2 0 0) s m args below meth c H locs 0 0 (MQ below (QP x al lv σ res) args s 0 0 (Ab x)) (F0 m 4 ls []) := by
  obtain ⟨hx, hb, hml, hown, hts⟩ := hC.1
  unfold fStore_gramsInRooms_4_b at h
  refine lv_iload_n hx hb dX10_gramsInRooms_4 rfl (lv_at hl 2 rfl) ?_
  refine lv_aload_n hx hb dX10_gramsInRooms_5 rfl (lv_at hl 0 rfl) ?_
  refine gt_X10_5 (a := a) hia hla hC hP wf_X10_12 dX10_gramsInRooms_6 ?_
  refine gt_X8_0 (a := a) hia hla hC hP wf_X10_89 dX10_gramsInRooms_9 ?_
  refine lv_icmp_ge (tgt := 29) hx hb dX10_gramsInRooms_12 (by decide) (fun hc => ?_) (fun hc => ?_)
  · replace h := (br h).1 hc
    refine lv_iload_n hx hb dX10_gramsInRooms_29 rfl (lv_at hl 1 rfl) ?_
    exact r_retP hC hP hS rfl h dX10_gramsInRooms_30
  · replace h := (br h).2 hc
    refine lv_iload_n hx hb dX10_gramsInRooms_15 rfl (lv_at hl 1 rfl) ?_
    refine lv_aload_n hx hb dX10_gramsInRooms_16 rfl (lv_at hl 0 rfl) ?_
    refine lv_iload_n hx hb dX10_gramsInRooms_17 rfl (lv_at hl 2 rfl) ?_
    refine r_cP hS h (fun r hr => r_runV (As := [.int x2]) (rest := [.int x1]) hC kV_X10_90 cw_X10_gramsIn (rc_X10 (a := a) hia hla hC hP) hP (tStore_gramsIn x al lv σ a hia hla x2 r hr) rfl hl.1 ⟨Nat.le_of_ble_eq_true rfl, Nat.le_of_ble_eq_true rfl⟩ ⟨Nat.le_of_ble_eq_true rfl, Nat.le_of_ble_eq_true rfl⟩ (Nat.le_of_ble_eq_true rfl) dX10_gramsInRooms_18) (fun y1 H locs h hP hS => ?_)
    refine lv_iadd hx hb dX10_gramsInRooms_21 ?_
    refine r_lt h (fun y2 h => ?_)
    refine lv_istore_n (lv' := [(1, .int y2), (0, .ref (al a 0)), (2, .int x2)]) hx hb dX10_gramsInRooms_22 rfl hl (by decide) rfl (fun ls hl => ?_)
    refine r_iinc (v := 1) hC h dX10_gramsInRooms_23 hl (k := 2) rfl rfl (by decide) (fun y3 => [(2, .int y3), (1, .int y2), (0, .ref (al a 0))]) (fun _ => rfl) (fun y3 ls h hl => ?_)
    refine lv_goto (tgt := 4) hx hb dX10_gramsInRooms_26 (by decide) ?_
    exact hk4 y2 y3 H locs ls h hP hS (lv_sub hl [2, 1, 0] rfl)

set_option maxHeartbeats 4000000 in
set_option maxRecDepth 20000 in
theorem wStore_gramsInRooms_4 {p : Program} {l : Launch} {e : Env} {s : State} {m : MethodId} {args : Array Value} {below : List Frame} {meth : Method} {c : Code} {x : Wx} {al : Nat → Nat → Nat} {lv : Nat → Bool} {res : Int32} {σ : Sg} {a : Nat} (hia : a < 6) (hla : lv a = true) (hC : Cx x p s m args meth c cX10_gramsInRooms 3 (some .int) RX10) (n : Nat) (x1 : Int32) (x2 : Int32) (H : Heap) (locs : List Loc) (ls : Array Slot) (h : fStore_gramsInRooms_4 n σ a x1 x2 = some res) (hP : Pic x al lv σ H) (hS : va_S (Ab x) s.heap H locs) (hl : lv_has ls 3 [(0, .ref (al a 0)), (1, .int x1), (2, .int x2)]) : W p l e (rmm 2 0 0) s m args below meth c H locs 0 0 (MQ below (QP x al lv σ res) args s 0 0 (Ab x)) (F0 m 4 ls []) := by
  induction n generalizing x1 x2 H locs ls with
  | zero => exact nomatch h
  | succ n ih => exact wStore_gramsInRooms_4_b hia hla hC  _ (fun x1 x2 H locs ls h hP hS hl => ih x1 x2 H locs ls h hP hS hl) x1 x2 H locs ls h hP hS hl
set_option maxHeartbeats 4000000 in
set_option maxRecDepth 20000 in
theorem wStore_gramsInRooms_0 {p : Program} {l : Launch} {e : Env} {s : State} {m : MethodId} {args : Array Value} {below : List Frame} {meth : Method} {c : Code} {x : Wx} {al : Nat → Nat → Nat} {lv : Nat → Bool} {res : Int32} {σ : Sg} {a : Nat} (hia : a < 6) (hla : lv a = true) (hC : Cx x p s m args meth c cX10_gramsInRooms 3 (some .int) RX10) (H : Heap) (locs : List Loc) (ls : Array Slot) (h : fStore_gramsInRooms_0 σ a = some res) (hP : Pic x al lv σ H) (hS : va_S (Ab x) s.heap H locs) (hl : lv_has ls 3 [(0, .ref (al a 0))]) : W p l e (rmm 2 0 0) s m args below meth c H locs 0 0 (MQ below (QP x al lv σ res) args s 0 0 (Ab x)) (F0 m 0 ls []) := by
  obtain ⟨hx, hb, hml, hown, hts⟩ := hC.1
  unfold fStore_gramsInRooms_0 at h
  refine lv_iconst (v := 0) hx hb dX10_gramsInRooms_0 (by decide) ?_
  refine lv_istore_n (lv' := [(1, .int 0), (0, .ref (al a 0))]) hx hb dX10_gramsInRooms_1 rfl hl (by decide) rfl (fun ls hl => ?_)
  refine lv_iconst (v := 0) hx hb dX10_gramsInRooms_2 (by decide) ?_
  refine lv_istore_n (lv' := [(2, .int 0), (1, .int 0), (0, .ref (al a 0))]) hx hb dX10_gramsInRooms_3 rfl hl (by decide) rfl (fun ls hl => ?_)
  exact wStore_gramsInRooms_4 hia hla hC  FU 0 0 H locs ls h hP hS (lv_sub hl [2, 1, 0] rfl)

set_option maxRecDepth 20000 in
theorem tStore_gramsInRooms {l : Launch} (x : Wx) (al : Nat → Nat → Nat) (lv : Nat → Bool) (σ : Sg) (a : Nat) (hia : a < 6) (hla : lv a = true) (res : Int32) (h : fStore_gramsInRooms σ a = some res) : Met l yX10_gramsInRooms (Cond.code yX10_gramsInRooms cX10_gramsInRooms 3 (some .int) :: lwg) (rmm 2 0 0) (va_Pc [.ref (al a 0)] (Wd x al lv σ)) (QP x al lv σ res) 0 0 (Ab x) := by
  refine met_W (by decide) (Nat.le_of_ble_eq_true rfl) rfl (fun p e s m args below meth c ls hC hP hS hl => ?_)
  exact wStore_gramsInRooms_0 hia hla hC  _ _ ls h hP hS hl
set_option maxHeartbeats 4000000 in
set_option maxRecDepth 20000 in
theorem wI_answer_10 {p : Program} {l : Launch} {e : Env} {s : State} {m : MethodId} {args : Array Value} {below : List Frame} {meth : Method} {c : Code} {x : Wx} {al : Nat → Nat → Nat} {lv : Nat → Bool} {res : Int32 × Sg} (hC : Cx x p s m args meth c cX11_answer 2 (some .int) RX11) (σ : Sg) (x1 : Int32) (t0 : Int32) (H : Heap) (locs : List Loc) (ls : Array Slot) (h : fI_answer_10 σ x1 t0 = some res) (hP : Pic x al lv σ H) (hS : va_S (Ab x) s.heap H locs) (hl : lv_has ls 2 [(1, .int x1)]) : W p l e (rmm 1 0 0) s m args below meth c H locs 0 0 (MQ below (QI x al lv res) args s 0 0 (Ab x)) (F0 m 10 ls [.int t0, .ref (al 6 0)]) := by
  obtain ⟨hx, hb, hml, hown, hts⟩ := hC.1
  unfold fI_answer_10 at h
  refine pt_X11_14 hC hP hS wf_X11_380 h dX11_answer_10 (fun σ1 H locs h hP hS => ?_)
  refine lv_iload_n hx hb dX11_answer_13 rfl (lv_at hl 0 rfl) ?_
  exact r_retI hC hP hS rfl h dX11_answer_14

set_option maxHeartbeats 4000000 in
set_option maxRecDepth 20000 in
theorem wI_answer_0 {p : Program} {l : Launch} {e : Env} {s : State} {m : MethodId} {args : Array Value} {below : List Frame} {meth : Method} {c : Code} {x : Wx} {al : Nat → Nat → Nat} {lv : Nat → Bool} {res : Int32 × Sg} (hC : Cx x p s m args meth c cX11_answer 2 (some .int) RX11) (σ : Sg) (v1 : Int32) (H : Heap) (locs : List Loc) (ls : Array Slot) (h : fI_answer_0 σ v1 = some res) (hP : Pic x al lv σ H) (hS : va_S (Ab x) s.heap H locs) (hl : lv_has ls 2 [(0, .ref (al 6 0)), (1, .int v1)]) : W p l e (rmm 1 0 0) s m args below meth c H locs 0 0 (MQ below (QI x al lv res) args s 0 0 (Ab x)) (F0 m 0 ls []) := by
  obtain ⟨hx, hb, hml, hown, hts⟩ := hC.1
  unfold fI_answer_0 at h
  refine lv_aload_n hx hb dX11_answer_0 rfl (lv_at hl 0 rfl) ?_
  refine lv_iload_n hx hb dX11_answer_1 rfl (lv_at hl 1 rfl) ?_
  refine lv_if_ge (tgt := 9) hx hb dX11_answer_2 (by decide) (fun hc => ?_) (fun hc => ?_)
  · replace h := (br h).1 hc
    refine lv_iconst (v := 0) hx hb dX11_answer_9 (by decide) ?_
    exact wI_answer_10  hC  σ v1 0 H locs ls h hP hS (lv_sub hl [1] rfl)
  · replace h := (br h).2 hc
    refine lv_iload_n hx hb dX11_answer_5 rfl (lv_at hl 1 rfl) ?_
    refine lv_goto (tgt := 10) hx hb dX11_answer_6 (by decide) ?_
    exact wI_answer_10  hC  σ v1 v1 H locs ls h hP hS (lv_sub hl [1] rfl)

set_option maxRecDepth 20000 in
theorem tI_answer {l : Launch} (x : Wx) (al : Nat → Nat → Nat) (lv : Nat → Bool) (σ : Sg) (v1 : Int32) (res : Int32 × Sg) (h : fI_answer σ v1 = some res) : Met l yX11_answer (Cond.code yX11_answer cX11_answer 2 (some .int) :: lwg) (rmm 1 0 0) (va_Pc [.ref (al 6 0), .int v1] (Wd x al lv σ)) (QI x al lv res) 0 0 (Ab x) := by
  refine met_W (by decide) (Nat.le_of_ble_eq_true rfl) rfl (fun p e s m args below meth c ls hC hP hS hl => ?_)
  exact wI_answer_0  hC σ v1 _ _ ls h hP hS hl
set_option maxHeartbeats 4000000 in
set_option maxRecDepth 20000 in
theorem wI_room_77 {p : Program} {l : Launch} {e : Env} {s : State} {m : MethodId} {args : Array Value} {below : List Frame} {meth : Method} {c : Code} {x : Wx} {al : Nat → Nat → Nat} {lv : Nat → Bool} {res : Int32 × Sg} (hC : Cx x p s m args meth c cX11_room 7 (some .int) RX11) (σ : Sg) (H : Heap) (locs : List Loc) (ls : Array Slot) (h : fI_room_77 σ = some res) (hP : Pic x al lv σ H) (hS : va_S (Ab x) s.heap H locs) (hl : lv_has ls 7 [(0, .ref (al 6 0))]) : W p l e (rmm 2 0 0) s m args below meth c H locs 0 0 (MQ below (QI x al lv res) args s 0 0 (Ab x)) (F0 m 77 ls []) := by
  obtain ⟨hx, hb, hml, hown, hts⟩ := hC.1
  unfold fI_room_77 at h
  refine lv_aload_n hx hb dX11_room_77 rfl (lv_at hl 0 rfl) ?_
  refine lv_iconst (v := (-1)) hx hb dX11_room_78 (by decide) ?_
  refine r_cI hS h (fun r hr => r_runV (As := [.int ((-1))]) (rest := []) hC kV_X11_72 cw_X11_answer (rc_X11 hC hP) hP (tI_answer x al lv σ ((-1)) r hr) rfl hl.1 ⟨Nat.le_of_ble_eq_true rfl, Nat.le_of_ble_eq_true rfl⟩ ⟨Nat.le_of_ble_eq_true rfl, Nat.le_of_ble_eq_true rfl⟩ (Nat.le_of_ble_eq_true rfl) dX11_room_79) (fun y12 σ13 H locs h hP hS => ?_)
  exact r_retI hC hP hS rfl h dX11_room_82

set_option maxHeartbeats 4000000 in
set_option maxRecDepth 20000 in
theorem wI_room_31 {p : Program} {l : Launch} {e : Env} {s : State} {m : MethodId} {args : Array Value} {below : List Frame} {meth : Method} {c : Code} {x : Wx} {al : Nat → Nat → Nat} {lv : Nat → Bool} {res : Int32 × Sg} (hC : Cx x p s m args meth c cX11_room 7 (some .int) RX11) (σ : Sg) (x1 : Int32) (x2 : Int32) (x3 : Int32) (x4 : Int32) (x5 : Int32) (t0 : Int32) (H : Heap) (locs : List Loc) (ls : Array Slot) (h : fI_room_31 σ x1 x2 x3 x4 x5 t0 = some res) (hP : Pic x al lv σ H) (hS : va_S (Ab x) s.heap H locs) (hl : lv_has ls 7 [(0, .ref (al 6 0)), (1, .int x1), (2, .int x2), (3, .int x3), (4, .int x4), (5, .int x5)]) : W p l e (rmm 2 0 0) s m args below meth c H locs 0 0 (MQ below (QI x al lv res) args s 0 0 (Ab x)) (F0 m 31 ls [.int t0]) := by
  obtain ⟨hx, hb, hml, hown, hts⟩ := hC.1
  unfold fI_room_31 at h
  refine lv_istore (lv' := [(6, .int t0), (0, .ref (al 6 0)), (1, .int x1), (2, .int x2), (3, .int x3), (4, .int x4), (5, .int x5)]) hx hb dX11_room_31 hl (by decide) rfl (fun ls hl => ?_)
  refine lv_iload_n hx hb dX11_room_33 rfl (lv_at hl 2 rfl) ?_
  refine lv_iconst (v := 0) hx hb dX11_room_34 (by decide) ?_
  refine lv_iconst (v := 5) hx hb dX11_room_35 (by decide) ?_
  refine r_cP hS h (fun r hr => r_runS (As := [.int x1, .int 0, .int 5]) (rest := []) hC kS_X11_68 cw_X11_within hP (tI_within x al lv σ x1 0 5 r hr) rfl hl.1 ⟨Nat.le_of_ble_eq_true rfl, Nat.le_of_ble_eq_true rfl⟩ ⟨Nat.le_of_ble_eq_true rfl, Nat.le_of_ble_eq_true rfl⟩ (Nat.le_of_ble_eq_true rfl) dX11_room_36) (fun y2 H locs h hP hS => ?_)
  refine lv_if_eq (tgt := 77) hx hb dX11_room_39 (by decide) (fun hc => ?_) (fun hc => ?_)
  · replace h := (br h).1 hc
    exact wI_room_77  hC  σ H locs ls h hP hS (lv_sub hl [1] rfl)
  · replace h := (br h).2 hc
    refine lv_iload_n hx hb dX11_room_42 rfl (lv_at hl 3 rfl) ?_
    refine lv_iconst (v := 1) hx hb dX11_room_43 (by decide) ?_
    refine lv_bipush (v := 6) hx hb dX11_room_44 (by decide) ?_
    refine r_cP hS h (fun r hr => r_runS (As := [.int x2, .int 1, .int 6]) (rest := []) hC kS_X11_68 cw_X11_within hP (tI_within x al lv σ x2 1 6 r hr) rfl hl.1 ⟨Nat.le_of_ble_eq_true rfl, Nat.le_of_ble_eq_true rfl⟩ ⟨Nat.le_of_ble_eq_true rfl, Nat.le_of_ble_eq_true rfl⟩ (Nat.le_of_ble_eq_true rfl) dX11_room_46) (fun y3 H locs h hP hS => ?_)
    refine lv_if_eq (tgt := 77) hx hb dX11_room_49 (by decide) (fun hc => ?_) (fun hc => ?_)
    · replace h := (br h).1 hc
      exact wI_room_77  hC  σ H locs ls h hP hS (lv_sub hl [1] rfl)
    · replace h := (br h).2 hc
      refine lv_iload_n hx hb dX11_room_52 rfl (lv_at hl 4 rfl) ?_
      refine lv_iconst (v := 1) hx hb dX11_room_53 (by decide) ?_
      refine lv_bipush (v := 6) hx hb dX11_room_54 (by decide) ?_
      refine r_cP hS h (fun r hr => r_runS (As := [.int x3, .int 1, .int 6]) (rest := []) hC kS_X11_68 cw_X11_within hP (tI_within x al lv σ x3 1 6 r hr) rfl hl.1 ⟨Nat.le_of_ble_eq_true rfl, Nat.le_of_ble_eq_true rfl⟩ ⟨Nat.le_of_ble_eq_true rfl, Nat.le_of_ble_eq_true rfl⟩ (Nat.le_of_ble_eq_true rfl) dX11_room_56) (fun y4 H locs h hP hS => ?_)
      refine lv_if_eq (tgt := 77) hx hb dX11_room_59 (by decide) (fun hc => ?_) (fun hc => ?_)
      · replace h := (br h).1 hc
        exact wI_room_77  hC  σ H locs ls h hP hS (lv_sub hl [1] rfl)
      · replace h := (br h).2 hc
        refine lv_iload hx hb dX11_room_62 (lv_at hl 5 rfl) ?_
        refine lv_iconst (v := 1) hx hb dX11_room_64 (by decide) ?_
        refine lv_iconst (v := 5) hx hb dX11_room_65 (by decide) ?_
        refine r_cP hS h (fun r hr => r_runS (As := [.int x4, .int 1, .int 5]) (rest := []) hC kS_X11_68 cw_X11_within hP (tI_within x al lv σ x4 1 5 r hr) rfl hl.1 ⟨Nat.le_of_ble_eq_true rfl, Nat.le_of_ble_eq_true rfl⟩ ⟨Nat.le_of_ble_eq_true rfl, Nat.le_of_ble_eq_true rfl⟩ (Nat.le_of_ble_eq_true rfl) dX11_room_66) (fun y5 H locs h hP hS => ?_)
        refine lv_if_eq (tgt := 77) hx hb dX11_room_69 (by decide) (fun hc => ?_) (fun hc => ?_)
        · replace h := (br h).1 hc
          exact wI_room_77  hC  σ H locs ls h hP hS (lv_sub hl [1] rfl)
        · replace h := (br h).2 hc
          refine lv_iload hx hb dX11_room_72 (lv_at hl 0 rfl) ?_
          refine lv_if_ne (tgt := 83) hx hb dX11_room_74 (by decide) (fun hc => ?_) (fun hc => ?_)
          · replace h := (br h).2 hc
            refine lv_aload_n hx hb dX11_room_83 rfl (lv_at hl 1 rfl) ?_
            refine gt_X11_0 hC hP wf_X11_12 dX11_room_84 ?_
            refine gt_X10_5 (a := 0) h06 hP.l0 hC hP wf_X11_58 dX11_room_87 ?_
            refine gt_X8_0 (a := 0) h06 hP.l0 hC hP wf_X11_76 dX11_room_90 ?_
            refine lv_bipush (v := 8) hx hb dX11_room_93 (by decide) ?_
            refine lv_icmp_lt (tgt := 105) hx hb dX11_room_95 (by decide) (fun hc => ?_) (fun hc => ?_)
            · replace h := (br h).1 hc
              refine lv_aload_n hx hb dX11_room_105 rfl (lv_at hl 1 rfl) ?_
              refine lv_aload_n hx hb dX11_room_106 rfl (lv_at hl 1 rfl) ?_
              refine gt_X11_0 hC hP wf_X11_12 dX11_room_107 ?_
              refine gt_X10_5 (a := 0) h06 hP.l0 hC hP wf_X11_58 dX11_room_110 ?_
              refine lv_iload_n hx hb dX11_room_113 rfl (lv_at hl 2 rfl) ?_
              refine lv_iload_n hx hb dX11_room_114 rfl (lv_at hl 3 rfl) ?_
              refine lv_iload_n hx hb dX11_room_115 rfl (lv_at hl 4 rfl) ?_
              refine lv_iload hx hb dX11_room_116 (lv_at hl 5 rfl) ?_
              refine lv_iload hx hb dX11_room_118 (lv_at hl 6 rfl) ?_
              refine r_cI hS h (fun r hr => r_runV (As := [.int x1, .int x2, .int x3, .int x4, .int x5]) (rest := [.ref (al 6 0)]) hC kV_X11_80 cw_X8_open (rc_X8 (a := 0) h06 hP.l0 hC hP) hP (tRooms_open x al lv σ 0 h06 hP.l0 x1 x2 x3 x4 x5 r hr) rfl hl.1 ⟨Nat.le_of_ble_eq_true rfl, Nat.le_of_ble_eq_true rfl⟩ ⟨Nat.le_of_ble_eq_true rfl, Nat.le_of_ble_eq_true rfl⟩ (Nat.le_of_ble_eq_true rfl) dX11_room_120) (fun y6 σ7 H locs h hP hS => ?_)
              refine r_cI hS h (fun r hr => r_runV (As := [.int y6]) (rest := []) hC kV_X11_72 cw_X11_answer (rc_X11 hC hP) hP (tI_answer x al lv σ7 y6 r hr) rfl hl.1 ⟨Nat.le_of_ble_eq_true rfl, Nat.le_of_ble_eq_true rfl⟩ ⟨Nat.le_of_ble_eq_true rfl, Nat.le_of_ble_eq_true rfl⟩ (Nat.le_of_ble_eq_true rfl) dX11_room_123) (fun y8 σ9 H locs h hP hS => ?_)
              exact r_retI hC hP hS rfl h dX11_room_126
            · replace h := (br h).2 hc
              refine lv_aload_n hx hb dX11_room_98 rfl (lv_at hl 1 rfl) ?_
              refine lv_bipush (v := (-6)) hx hb dX11_room_99 (by decide) ?_
              refine r_cI hS h (fun r hr => r_runV (As := [.int ((-6))]) (rest := []) hC kV_X11_72 cw_X11_answer (rc_X11 hC hP) hP (tI_answer x al lv σ ((-6)) r hr) rfl hl.1 ⟨Nat.le_of_ble_eq_true rfl, Nat.le_of_ble_eq_true rfl⟩ ⟨Nat.le_of_ble_eq_true rfl, Nat.le_of_ble_eq_true rfl⟩ (Nat.le_of_ble_eq_true rfl) dX11_room_101) (fun y10 σ11 H locs h hP hS => ?_)
              exact r_retI hC hP hS rfl h dX11_room_104
          · replace h := (br h).1 hc
            exact wI_room_77  hC  σ H locs ls h hP hS (lv_sub hl [1] rfl)

set_option maxHeartbeats 4000000 in
set_option maxRecDepth 20000 in
theorem wI_room_0 {p : Program} {l : Launch} {e : Env} {s : State} {m : MethodId} {args : Array Value} {below : List Frame} {meth : Method} {c : Code} {x : Wx} {al : Nat → Nat → Nat} {lv : Nat → Bool} {res : Int32 × Sg} (hC : Cx x p s m args meth c cX11_room 7 (some .int) RX11) (σ : Sg) (v1 : Int32) (v2 : Int32) (v3 : Int32) (v4 : Int32) (v5 : Int32) (H : Heap) (locs : List Loc) (ls : Array Slot) (h : fI_room_0 σ v1 v2 v3 v4 v5 = some res) (hP : Pic x al lv σ H) (hS : va_S (Ab x) s.heap H locs) (hl : lv_has ls 7 [(0, .ref (al 6 0)), (1, .int v1), (2, .int v2), (3, .int v3), (4, .int v4), (5, .int v5)]) : W p l e (rmm 2 0 0) s m args below meth c H locs 0 0 (MQ below (QI x al lv res) args s 0 0 (Ab x)) (F0 m 0 ls []) := by
  obtain ⟨hx, hb, hml, hown, hts⟩ := hC.1
  unfold fI_room_0 at h
  refine lv_iload_n hx hb dX11_room_0 rfl (lv_at hl 1 rfl) ?_
  refine lv_iconst (v := 2) hx hb dX11_room_1 (by decide) ?_
  refine lv_icmp_ne (tgt := 20) hx hb dX11_room_2 (by decide) (fun hc => ?_) (fun hc => ?_)
  · replace h := (br h).2 hc
    refine lv_iload hx hb dX11_room_20 (lv_at hl 5 rfl) ?_
    refine lv_iconst (v := (-1)) hx hb dX11_room_22 (by decide) ?_
    refine lv_icmp_ne (tgt := 30) hx hb dX11_room_23 (by decide) (fun hc => ?_) (fun hc => ?_)
    · replace h := (br h).2 hc
      refine lv_iconst (v := 0) hx hb dX11_room_30 (by decide) ?_
      exact wI_room_31  hC  σ v1 v2 v3 v4 v5 0 H locs ls h hP hS (lv_sub hl [0, 1, 2, 3, 4, 5] rfl)
    · replace h := (br h).1 hc
      refine lv_iconst (v := 1) hx hb dX11_room_26 (by decide) ?_
      refine lv_goto (tgt := 31) hx hb dX11_room_27 (by decide) ?_
      exact wI_room_31  hC  σ v1 v2 v3 v4 v5 1 H locs ls h hP hS (lv_sub hl [0, 1, 2, 3, 4, 5] rfl)
  · replace h := (br h).1 hc
    refine lv_aload_n hx hb dX11_room_5 rfl (lv_at hl 0 rfl) ?_
    refine gt_X11_0 hC hP wf_X11_12 dX11_room_6 ?_
    refine gt_X10_5 (a := 0) h06 hP.l0 hC hP wf_X11_58 dX11_room_9 ?_
    refine lv_iload hx hb dX11_room_12 (lv_at hl 5 rfl) ?_
    refine r_cP hS h (fun r hr => r_runV (As := [.int v5]) (rest := []) hC kV_X11_62 cw_X8_has (rc_X8 (a := 0) h06 hP.l0 hC hP) hP (tRooms_has x al lv σ 0 h06 hP.l0 v5 r hr) rfl hl.1 ⟨Nat.le_of_ble_eq_true rfl, Nat.le_of_ble_eq_true rfl⟩ ⟨Nat.le_of_ble_eq_true rfl, Nat.le_of_ble_eq_true rfl⟩ (Nat.le_of_ble_eq_true rfl) dX11_room_14) (fun y1 H locs h hP hS => ?_)
    refine lv_goto (tgt := 31) hx hb dX11_room_17 (by decide) ?_
    exact wI_room_31  hC  σ v1 v2 v3 v4 v5 y1 H locs ls h hP hS (lv_sub hl [0, 1, 2, 3, 4, 5] rfl)

set_option maxRecDepth 20000 in
theorem tI_room {l : Launch} (x : Wx) (al : Nat → Nat → Nat) (lv : Nat → Bool) (σ : Sg) (v1 : Int32) (v2 : Int32) (v3 : Int32) (v4 : Int32) (v5 : Int32) (res : Int32 × Sg) (h : fI_room σ v1 v2 v3 v4 v5 = some res) : Met l yX11_room (Cond.code yX11_room cX11_room 7 (some .int) :: lwg) (rmm 2 0 0) (va_Pc [.ref (al 6 0), .int v1, .int v2, .int v3, .int v4, .int v5] (Wd x al lv σ)) (QI x al lv res) 0 0 (Ab x) := by
  refine met_W (by decide) (Nat.le_of_ble_eq_true rfl) rfl (fun p e s m args below meth c ls hC hP hS hl => ?_)
  exact wI_room_0  hC σ v1 v2 v3 v4 v5 _ _ ls h hP hS hl
set_option maxHeartbeats 4000000 in
set_option maxRecDepth 20000 in
theorem wI_tenthsToday_0 {p : Program} {l : Launch} {e : Env} {s : State} {m : MethodId} {args : Array Value} {below : List Frame} {meth : Method} {c : Code} {x : Wx} {al : Nat → Nat → Nat} {lv : Nat → Bool} {res : Int32} {σ : Sg} (hC : Cx x p s m args meth c cX11_tenthsToday 1 (some .int) RX11) (H : Heap) (locs : List Loc) (ls : Array Slot) (h : fI_tenthsToday_0 σ = some res) (hP : Pic x al lv σ H) (hS : va_S (Ab x) s.heap H locs) (hl : lv_has ls 1 [(0, .ref (al 6 0))]) : W p l e (rmm 3 0 0) s m args below meth c H locs 0 0 (MQ below (QP x al lv σ res) args s 0 0 (Ab x)) (F0 m 0 ls []) := by
  obtain ⟨hx, hb, hml, hown, hts⟩ := hC.1
  unfold fI_tenthsToday_0 at h
  refine lv_aload_n hx hb dX11_tenthsToday_0 rfl (lv_at hl 0 rfl) ?_
  refine gt_X11_1 hC hP wf_X11_19 dX11_tenthsToday_1 ?_
  refine lv_aload_n hx hb dX11_tenthsToday_4 rfl (lv_at hl 0 rfl) ?_
  refine gt_X11_0 hC hP wf_X11_12 dX11_tenthsToday_5 ?_
  refine gt_X10_0 (a := 0) h06 hP.l0 hC hP wf_X11_210 dX11_tenthsToday_8 ?_
  refine r_cP hS h (fun r hr => r_runV (As := [.int (σ 0 0 0)]) (rest := []) hC kV_X11_197 cw_X2_tenthsOf (rc_X2 hC hP) hP (tCalendar_tenthsOf x al lv σ (σ 0 0 0) r hr) rfl hl.1 ⟨Nat.le_of_ble_eq_true rfl, Nat.le_of_ble_eq_true rfl⟩ ⟨Nat.le_of_ble_eq_true rfl, Nat.le_of_ble_eq_true rfl⟩ (Nat.le_of_ble_eq_true rfl) dX11_tenthsToday_11) (fun y1 H locs h hP hS => ?_)
  exact r_retP hC hP hS rfl h dX11_tenthsToday_14

set_option maxRecDepth 20000 in
theorem tI_tenthsToday {l : Launch} (x : Wx) (al : Nat → Nat → Nat) (lv : Nat → Bool) (σ : Sg) (res : Int32) (h : fI_tenthsToday σ = some res) : Met l yX11_tenthsToday (Cond.code yX11_tenthsToday cX11_tenthsToday 1 (some .int) :: lwg) (rmm 3 0 0) (va_Pc [.ref (al 6 0)] (Wd x al lv σ)) (QP x al lv σ res) 0 0 (Ab x) := by
  refine met_W (by decide) (Nat.le_of_ble_eq_true rfl) rfl (fun p e s m args below meth c ls hC hP hS hl => ?_)
  exact wI_tenthsToday_0  hC  _ _ ls h hP hS hl
set_option maxHeartbeats 4000000 in
set_option maxRecDepth 20000 in
theorem wI_rooms_0 {p : Program} {l : Launch} {e : Env} {s : State} {m : MethodId} {args : Array Value} {below : List Frame} {meth : Method} {c : Code} {x : Wx} {al : Nat → Nat → Nat} {lv : Nat → Bool} {res : Int32 × Sg} (hC : Cx x p s m args meth c cX11_rooms 3 (some .int) RX11) (σ : Sg) (v1 : Int32) (v2 : Int32) (H : Heap) (locs : List Loc) (ls : Array Slot) (h : fI_rooms_0 σ v1 v2 = some res) (hP : Pic x al lv σ H) (hS : va_S (Ab x) s.heap H locs) (hl : lv_has ls 3 [(0, .ref (al 6 0)), (1, .int v1), (2, .int v2)]) : W p l e (rmm 5 0 0) s m args below meth c H locs 0 0 (MQ below (QI x al lv res) args s 0 0 (Ab x)) (F0 m 0 ls []) := by
  obtain ⟨hx, hb, hml, hown, hts⟩ := hC.1
  unfold fI_rooms_0 at h
  refine lv_iload_n hx hb dX11_rooms_0 rfl (lv_at hl 2 rfl) ?_
  refine lv_iconst (v := 0) hx hb dX11_rooms_1 (by decide) ?_
  refine lv_bipush (v := 11) hx hb dX11_rooms_2 (by decide) ?_
  refine r_cP hS h (fun r hr => r_runS (As := [.int v2, .int 0, .int 11]) (rest := []) hC kS_X11_68 cw_X11_within hP (tI_within x al lv σ v2 0 11 r hr) rfl hl.1 ⟨Nat.le_of_ble_eq_true rfl, Nat.le_of_ble_eq_true rfl⟩ ⟨Nat.le_of_ble_eq_true rfl, Nat.le_of_ble_eq_true rfl⟩ (Nat.le_of_ble_eq_true rfl) dX11_rooms_4) (fun y1 H locs h hP hS => ?_)
  refine lv_if_ne (tgt := 12) hx hb dX11_rooms_7 (by decide) (fun hc => ?_) (fun hc => ?_)
  · replace h := (br h).2 hc
    refine lv_aload_n hx hb dX11_rooms_12 rfl (lv_at hl 0 rfl) ?_
    refine gt_X11_0 hC hP wf_X11_12 dX11_rooms_13 ?_
    refine gt_X10_5 (a := 0) h06 hP.l0 hC hP wf_X11_58 dX11_rooms_16 ?_
    refine lv_iload_n hx hb dX11_rooms_19 rfl (lv_at hl 1 rfl) ?_
    refine r_cP hS h (fun r hr => r_runV (As := [.int v1]) (rest := []) hC kV_X11_62 cw_X8_has (rc_X8 (a := 0) h06 hP.l0 hC hP) hP (tRooms_has x al lv σ 0 h06 hP.l0 v1 r hr) rfl hl.1 ⟨Nat.le_of_ble_eq_true rfl, Nat.le_of_ble_eq_true rfl⟩ ⟨Nat.le_of_ble_eq_true rfl, Nat.le_of_ble_eq_true rfl⟩ (Nat.le_of_ble_eq_true rfl) dX11_rooms_20) (fun y2 H locs h hP hS => ?_)
    refine lv_if_ne (tgt := 29) hx hb dX11_rooms_23 (by decide) (fun hc => ?_) (fun hc => ?_)
    · replace h := (br h).2 hc
      refine lv_iload_n hx hb dX11_rooms_29 rfl (lv_at hl 2 rfl) ?_
      refine Classical.byCases (p := v2 = 0) (fun hc => ?_) (fun n0 => ?_)
      · skip
        replace h := (br h).1 hc
        rw [hc]
        refine lv_tableIn (off := 58) (tgt := 88) hx hb dX11_rooms_30 (by decide) (by decide) rfl (by decide) ?_
        refine lv_aload_n hx hb dX11_rooms_88 rfl (lv_at hl 0 rfl) ?_
        refine gt_X11_0 hC hP wf_X11_12 dX11_rooms_89 ?_
        refine gt_X10_5 (a := 0) h06 hP.l0 hC hP wf_X11_58 dX11_rooms_92 ?_
        refine gt_X8_1 (a := 0) h06 hP.l0 hC hP wf_X11_84 dX11_rooms_95 ?_
        refine lv_iload_n hx hb dX11_rooms_98 rfl (lv_at hl 1 rfl) ?_
        refine r_iald hC hP (aS_2 (a := 0) h06 hP.l0) h dX11_rooms_99 (fun h => ?_)
        exact r_retI hC hP hS rfl h dX11_rooms_100
      · skip
        replace h := (br h).2 n0
        refine Classical.byCases (p := v2 = 1) (fun hc => ?_) (fun n1 => ?_)
        · skip
          replace h := (br h).1 hc
          rw [hc]
          refine lv_tableIn (off := 71) (tgt := 101) hx hb dX11_rooms_30 (by decide) (by decide) rfl (by decide) ?_
          refine lv_aload_n hx hb dX11_rooms_101 rfl (lv_at hl 0 rfl) ?_
          refine gt_X11_0 hC hP wf_X11_12 dX11_rooms_102 ?_
          refine gt_X10_5 (a := 0) h06 hP.l0 hC hP wf_X11_58 dX11_rooms_105 ?_
          refine gt_X8_2 (a := 0) h06 hP.l0 hC hP wf_X11_87 dX11_rooms_108 ?_
          refine lv_iload_n hx hb dX11_rooms_111 rfl (lv_at hl 1 rfl) ?_
          refine r_iald hC hP (aS_3 (a := 0) h06 hP.l0) h dX11_rooms_112 (fun h => ?_)
          exact r_retI hC hP hS rfl h dX11_rooms_113
        · skip
          replace h := (br h).2 n1
          refine Classical.byCases (p := v2 = 2) (fun hc => ?_) (fun n2 => ?_)
          · skip
            replace h := (br h).1 hc
            rw [hc]
            refine lv_tableIn (off := 84) (tgt := 114) hx hb dX11_rooms_30 (by decide) (by decide) rfl (by decide) ?_
            refine lv_aload_n hx hb dX11_rooms_114 rfl (lv_at hl 0 rfl) ?_
            refine gt_X11_0 hC hP wf_X11_12 dX11_rooms_115 ?_
            refine gt_X10_5 (a := 0) h06 hP.l0 hC hP wf_X11_58 dX11_rooms_118 ?_
            refine gt_X8_3 (a := 0) h06 hP.l0 hC hP wf_X11_90 dX11_rooms_121 ?_
            refine lv_iload_n hx hb dX11_rooms_124 rfl (lv_at hl 1 rfl) ?_
            refine r_iald hC hP (aS_4 (a := 0) h06 hP.l0) h dX11_rooms_125 (fun h => ?_)
            exact r_retI hC hP hS rfl h dX11_rooms_126
          · skip
            replace h := (br h).2 n2
            refine Classical.byCases (p := v2 = 3) (fun hc => ?_) (fun n3 => ?_)
            · skip
              replace h := (br h).1 hc
              rw [hc]
              refine lv_tableIn (off := 97) (tgt := 127) hx hb dX11_rooms_30 (by decide) (by decide) rfl (by decide) ?_
              refine lv_aload_n hx hb dX11_rooms_127 rfl (lv_at hl 0 rfl) ?_
              refine gt_X11_0 hC hP wf_X11_12 dX11_rooms_128 ?_
              refine gt_X10_5 (a := 0) h06 hP.l0 hC hP wf_X11_58 dX11_rooms_131 ?_
              refine gt_X8_4 (a := 0) h06 hP.l0 hC hP wf_X11_93 dX11_rooms_134 ?_
              refine lv_iload_n hx hb dX11_rooms_137 rfl (lv_at hl 1 rfl) ?_
              refine r_iald hC hP (aS_5 (a := 0) h06 hP.l0) h dX11_rooms_138 (fun h => ?_)
              exact r_retI hC hP hS rfl h dX11_rooms_139
            · skip
              replace h := (br h).2 n3
              refine Classical.byCases (p := v2 = 4) (fun hc => ?_) (fun n4 => ?_)
              · skip
                replace h := (br h).1 hc
                rw [hc]
                refine lv_tableIn (off := 110) (tgt := 140) hx hb dX11_rooms_30 (by decide) (by decide) rfl (by decide) ?_
                refine lv_aload_n hx hb dX11_rooms_140 rfl (lv_at hl 0 rfl) ?_
                refine gt_X11_0 hC hP wf_X11_12 dX11_rooms_141 ?_
                refine gt_X10_5 (a := 0) h06 hP.l0 hC hP wf_X11_58 dX11_rooms_144 ?_
                refine gt_X8_5 (a := 0) h06 hP.l0 hC hP wf_X11_96 dX11_rooms_147 ?_
                refine lv_iload_n hx hb dX11_rooms_150 rfl (lv_at hl 1 rfl) ?_
                refine r_iald hC hP (aS_6 (a := 0) h06 hP.l0) h dX11_rooms_151 (fun h => ?_)
                exact r_retI hC hP hS rfl h dX11_rooms_152
              · skip
                replace h := (br h).2 n4
                refine Classical.byCases (p := v2 = 5) (fun hc => ?_) (fun n5 => ?_)
                · skip
                  replace h := (br h).1 hc
                  rw [hc]
                  refine lv_tableIn (off := 123) (tgt := 153) hx hb dX11_rooms_30 (by decide) (by decide) rfl (by decide) ?_
                  refine lv_aload_n hx hb dX11_rooms_153 rfl (lv_at hl 0 rfl) ?_
                  refine gt_X11_2 hC hP wf_X11_26 dX11_rooms_154 ?_
                  refine lv_aload_n hx hb dX11_rooms_157 rfl (lv_at hl 0 rfl) ?_
                  refine gt_X11_0 hC hP wf_X11_12 dX11_rooms_158 ?_
                  refine lv_iload_n hx hb dX11_rooms_161 rfl (lv_at hl 1 rfl) ?_
                  refine lv_aload_n hx hb dX11_rooms_162 rfl (lv_at hl 0 rfl) ?_
                  refine r_cP hS h (fun r hr => r_runV (As := []) (rest := [.int v1, .ref (al 0 0), .ref (al 6 2)]) hC kV_X11_99 cw_X11_tenthsToday (rc_X11 hC hP) hP (tI_tenthsToday x al lv σ  r hr) rfl hl.1 ⟨Nat.le_of_ble_eq_true rfl, Nat.le_of_ble_eq_true rfl⟩ ⟨Nat.le_of_ble_eq_true rfl, Nat.le_of_ble_eq_true rfl⟩ (Nat.le_of_ble_eq_true rfl) dX11_rooms_163) (fun y3 H locs h hP hS => ?_)
                  refine r_cP hS h (fun r hr => r_runV (As := [.ref (al 0 0), .int v1, .int y3]) (rest := []) hC kV_X11_103 cw_X6_warmthIn (rc_X6 hC hP) hP (tMelting_warmthIn x al lv σ 0 h06 hP.l0 v1 y3 r hr) rfl hl.1 ⟨Nat.le_of_ble_eq_true rfl, Nat.le_of_ble_eq_true rfl⟩ ⟨Nat.le_of_ble_eq_true rfl, Nat.le_of_ble_eq_true rfl⟩ (Nat.le_of_ble_eq_true rfl) dX11_rooms_166) (fun y4 H locs h hP hS => ?_)
                  exact r_retI hC hP hS rfl h dX11_rooms_169
                · skip
                  replace h := (br h).2 n5
                  refine Classical.byCases (p := v2 = 6) (fun hc => ?_) (fun n6 => ?_)
                  · skip
                    replace h := (br h).1 hc
                    rw [hc]
                    refine lv_tableIn (off := 140) (tgt := 170) hx hb dX11_rooms_30 (by decide) (by decide) rfl (by decide) ?_
                    refine lv_aload_n hx hb dX11_rooms_170 rfl (lv_at hl 0 rfl) ?_
                    refine gt_X11_0 hC hP wf_X11_12 dX11_rooms_171 ?_
                    refine lv_iload_n hx hb dX11_rooms_174 rfl (lv_at hl 1 rfl) ?_
                    refine r_cP hS h (fun r hr => r_runV (As := [.int v1]) (rest := []) hC kV_X11_107 cw_X10_blocksIn (rc_X10 (a := 0) h06 hP.l0 hC hP) hP (tStore_blocksIn x al lv σ 0 h06 hP.l0 v1 r hr) rfl hl.1 ⟨Nat.le_of_ble_eq_true rfl, Nat.le_of_ble_eq_true rfl⟩ ⟨Nat.le_of_ble_eq_true rfl, Nat.le_of_ble_eq_true rfl⟩ (Nat.le_of_ble_eq_true rfl) dX11_rooms_175) (fun y5 H locs h hP hS => ?_)
                    exact r_retI hC hP hS rfl h dX11_rooms_178
                  · skip
                    replace h := (br h).2 n6
                    refine Classical.byCases (p := v2 = 7) (fun hc => ?_) (fun n7 => ?_)
                    · skip
                      replace h := (br h).1 hc
                      rw [hc]
                      refine lv_tableIn (off := 149) (tgt := 179) hx hb dX11_rooms_30 (by decide) (by decide) rfl (by decide) ?_
                      refine lv_aload_n hx hb dX11_rooms_179 rfl (lv_at hl 0 rfl) ?_
                      refine gt_X11_0 hC hP wf_X11_12 dX11_rooms_180 ?_
                      refine lv_iload_n hx hb dX11_rooms_183 rfl (lv_at hl 1 rfl) ?_
                      refine r_cP hS h (fun r hr => r_runV (As := [.int v1]) (rest := []) hC kV_X11_110 cw_X10_gramsIn (rc_X10 (a := 0) h06 hP.l0 hC hP) hP (tStore_gramsIn x al lv σ 0 h06 hP.l0 v1 r hr) rfl hl.1 ⟨Nat.le_of_ble_eq_true rfl, Nat.le_of_ble_eq_true rfl⟩ ⟨Nat.le_of_ble_eq_true rfl, Nat.le_of_ble_eq_true rfl⟩ (Nat.le_of_ble_eq_true rfl) dX11_rooms_184) (fun y6 H locs h hP hS => ?_)
                      exact r_retI hC hP hS rfl h dX11_rooms_187
                    · skip
                      replace h := (br h).2 n7
                      refine Classical.byCases (p := v2 = 8) (fun hc => ?_) (fun n8 => ?_)
                      · skip
                        replace h := (br h).1 hc
                        rw [hc]
                        refine lv_tableIn (off := 158) (tgt := 188) hx hb dX11_rooms_30 (by decide) (by decide) rfl (by decide) ?_
                        refine lv_aload_n hx hb dX11_rooms_188 rfl (lv_at hl 0 rfl) ?_
                        refine gt_X11_0 hC hP wf_X11_12 dX11_rooms_189 ?_
                        refine gt_X10_5 (a := 0) h06 hP.l0 hC hP wf_X11_58 dX11_rooms_192 ?_
                        refine gt_X8_8 (a := 0) h06 hP.l0 hC hP wf_X11_113 dX11_rooms_195 ?_
                        refine lv_iload_n hx hb dX11_rooms_198 rfl (lv_at hl 1 rfl) ?_
                        refine r_iald hC hP (aS_9 (a := 0) h06 hP.l0) h dX11_rooms_199 (fun h => ?_)
                        exact r_retI hC hP hS rfl h dX11_rooms_200
                      · skip
                        replace h := (br h).2 n8
                        refine Classical.byCases (p := v2 = 9) (fun hc => ?_) (fun n9 => ?_)
                        · skip
                          replace h := (br h).1 hc
                          rw [hc]
                          refine lv_tableIn (off := 171) (tgt := 201) hx hb dX11_rooms_30 (by decide) (by decide) rfl (by decide) ?_
                          refine lv_aload_n hx hb dX11_rooms_201 rfl (lv_at hl 0 rfl) ?_
                          refine gt_X11_0 hC hP wf_X11_12 dX11_rooms_202 ?_
                          refine gt_X10_5 (a := 0) h06 hP.l0 hC hP wf_X11_58 dX11_rooms_205 ?_
                          refine gt_X8_9 (a := 0) h06 hP.l0 hC hP wf_X11_116 dX11_rooms_208 ?_
                          refine lv_iload_n hx hb dX11_rooms_211 rfl (lv_at hl 1 rfl) ?_
                          refine r_iald hC hP (aS_10 (a := 0) h06 hP.l0) h dX11_rooms_212 (fun h => ?_)
                          exact r_retI hC hP hS rfl h dX11_rooms_213
                        · skip
                          replace h := (br h).2 n9
                          refine Classical.byCases (p := v2 = 10) (fun hc => ?_) (fun n10 => ?_)
                          · skip
                            replace h := (br h).1 hc
                            rw [hc]
                            refine lv_tableIn (off := 184) (tgt := 214) hx hb dX11_rooms_30 (by decide) (by decide) rfl (by decide) ?_
                            refine lv_aload_n hx hb dX11_rooms_214 rfl (lv_at hl 0 rfl) ?_
                            refine gt_X11_2 hC hP wf_X11_26 dX11_rooms_215 ?_
                            refine lv_aload_n hx hb dX11_rooms_218 rfl (lv_at hl 0 rfl) ?_
                            refine gt_X11_0 hC hP wf_X11_12 dX11_rooms_219 ?_
                            refine lv_iload_n hx hb dX11_rooms_222 rfl (lv_at hl 1 rfl) ?_
                            refine r_cI hS h (fun r hr => r_runV (As := [.ref (al 0 0), .int v1]) (rest := []) hC kV_X11_119 cw_X6_airSidesIn (rc_X6 hC hP) hP (tMelting_airSidesIn x al lv σ 0 h06 hP.l0 v1 r hr) rfl hl.1 ⟨Nat.le_of_ble_eq_true rfl, Nat.le_of_ble_eq_true rfl⟩ ⟨Nat.le_of_ble_eq_true rfl, Nat.le_of_ble_eq_true rfl⟩ (Nat.le_of_ble_eq_true rfl) dX11_rooms_223) (fun y7 σ8 H locs h hP hS => ?_)
                            exact r_retI hC hP hS rfl h dX11_rooms_226
                          · skip
                            replace h := (br h).2 n10
                            have m0 := lv_neT (a := 0) n0 rfl
                            have m1 := lv_neT (a := 1) n1 rfl
                            have m2 := lv_neT (a := 2) n2 rfl
                            have m3 := lv_neT (a := 3) n3 rfl
                            have m4 := lv_neT (a := 4) n4 rfl
                            have m5 := lv_neT (a := 5) n5 rfl
                            have m6 := lv_neT (a := 6) n6 rfl
                            have m7 := lv_neT (a := 7) n7 rfl
                            have m8 := lv_neT (a := 8) n8 rfl
                            have m9 := lv_neT (a := 9) n9 rfl
                            have m10 := lv_neT (a := 10) n10 rfl
                            refine lv_tableOut (tgt := 227) hx hb dX11_rooms_30 (by omega) (by decide) ?_
                            refine lv_aload_n hx hb dX11_rooms_227 rfl (lv_at hl 0 rfl) ?_
                            refine gt_X11_0 hC hP wf_X11_12 dX11_rooms_228 ?_
                            refine gt_X10_5 (a := 0) h06 hP.l0 hC hP wf_X11_58 dX11_rooms_231 ?_
                            refine lv_iload_n hx hb dX11_rooms_234 rfl (lv_at hl 1 rfl) ?_
                            refine r_cP hS h (fun r hr => r_runV (As := [.int v1]) (rest := []) hC kV_X11_123 cw_X8_freeOnesIn (rc_X8 (a := 0) h06 hP.l0 hC hP) hP (tRooms_freeOnesIn x al lv σ 0 h06 hP.l0 v1 r hr) rfl hl.1 ⟨Nat.le_of_ble_eq_true rfl, Nat.le_of_ble_eq_true rfl⟩ ⟨Nat.le_of_ble_eq_true rfl, Nat.le_of_ble_eq_true rfl⟩ (Nat.le_of_ble_eq_true rfl) dX11_rooms_235) (fun y9 H locs h hP hS => ?_)
                            exact r_retI hC hP hS rfl h dX11_rooms_238
    · replace h := (br h).1 hc
      refine lv_bipush (v := (-2)) hx hb dX11_rooms_26 (by decide) ?_
      exact r_retI hC hP hS rfl h dX11_rooms_28
  · replace h := (br h).1 hc
    refine lv_iconst (v := (-1)) hx hb dX11_rooms_10 (by decide) ?_
    exact r_retI hC hP hS rfl h dX11_rooms_11

set_option maxRecDepth 20000 in
theorem tI_rooms {l : Launch} (x : Wx) (al : Nat → Nat → Nat) (lv : Nat → Bool) (σ : Sg) (v1 : Int32) (v2 : Int32) (res : Int32 × Sg) (h : fI_rooms σ v1 v2 = some res) : Met l yX11_rooms (Cond.code yX11_rooms cX11_rooms 3 (some .int) :: lwg) (rmm 5 0 0) (va_Pc [.ref (al 6 0), .int v1, .int v2] (Wd x al lv σ)) (QI x al lv res) 0 0 (Ab x) := by
  refine met_W (by decide) (Nat.le_of_ble_eq_true rfl) rfl (fun p e s m args below meth c ls hC hP hS hl => ?_)
  exact wI_rooms_0  hC σ v1 v2 _ _ ls h hP hS hl
set_option maxHeartbeats 4000000 in
set_option maxRecDepth 20000 in
theorem wI_refusalOfRow_66 {p : Program} {l : Launch} {e : Env} {s : State} {m : MethodId} {args : Array Value} {below : List Frame} {meth : Method} {c : Code} {x : Wx} {al : Nat → Nat → Nat} {lv : Nat → Bool} {res : Int32} {σ : Sg} (hC : Cx x p s m args meth c cX11_refusalOfRow 5 (some .int) RX11) (t0 : Int32) (H : Heap) (locs : List Loc) (ls : Array Slot) (h : fI_refusalOfRow_66 σ t0 = some res) (hP : Pic x al lv σ H) (hS : va_S (Ab x) s.heap H locs) (hl : lv_has ls 5 []) : W p l e (rmm 2 0 0) s m args below meth c H locs 0 0 (MQ below (QP x al lv σ res) args s 0 0 (Ab x)) (F0 m 66 ls [.int t0]) := by
  obtain ⟨hx, hb, hml, hown, hts⟩ := hC.1
  unfold fI_refusalOfRow_66 at h
  refine lv_istore (lv' := [(4, .int t0)]) hx hb dX11_refusalOfRow_66 hl (by decide) rfl (fun ls hl => ?_)
  refine lv_iload hx hb dX11_refusalOfRow_68 (lv_at hl 0 rfl) ?_
  refine lv_if_eq (tgt := 77) hx hb dX11_refusalOfRow_70 (by decide) (fun hc => ?_) (fun hc => ?_)
  · replace h := (br h).1 hc
    refine lv_iconst (v := (-1)) hx hb dX11_refusalOfRow_77 (by decide) ?_
    exact r_retP hC hP hS rfl h dX11_refusalOfRow_78
  · replace h := (br h).2 hc
    refine lv_iconst (v := 0) hx hb dX11_refusalOfRow_73 (by decide) ?_
    refine lv_goto (tgt := 78) hx hb dX11_refusalOfRow_74 (by decide) ?_
    exact r_retP hC hP hS rfl h dX11_refusalOfRow_78

set_option maxHeartbeats 4000000 in
set_option maxRecDepth 20000 in
theorem wI_refusalOfRow_65 {p : Program} {l : Launch} {e : Env} {s : State} {m : MethodId} {args : Array Value} {below : List Frame} {meth : Method} {c : Code} {x : Wx} {al : Nat → Nat → Nat} {lv : Nat → Bool} {res : Int32} {σ : Sg} (hC : Cx x p s m args meth c cX11_refusalOfRow 5 (some .int) RX11) (H : Heap) (locs : List Loc) (ls : Array Slot) (h : fI_refusalOfRow_65 σ = some res) (hP : Pic x al lv σ H) (hS : va_S (Ab x) s.heap H locs) (hl : lv_has ls 5 []) : W p l e (rmm 2 0 0) s m args below meth c H locs 0 0 (MQ below (QP x al lv σ res) args s 0 0 (Ab x)) (F0 m 65 ls []) := by
  obtain ⟨hx, hb, hml, hown, hts⟩ := hC.1
  unfold fI_refusalOfRow_65 at h
  refine lv_iconst (v := 0) hx hb dX11_refusalOfRow_65 (by decide) ?_
  exact wI_refusalOfRow_66  hC  0 H locs ls h hP hS (lv_sub hl [] rfl)

set_option maxHeartbeats 4000000 in
set_option maxRecDepth 20000 in
theorem wI_refusalOfRow_0 {p : Program} {l : Launch} {e : Env} {s : State} {m : MethodId} {args : Array Value} {below : List Frame} {meth : Method} {c : Code} {x : Wx} {al : Nat → Nat → Nat} {lv : Nat → Bool} {res : Int32} {σ : Sg} (hC : Cx x p s m args meth c cX11_refusalOfRow 5 (some .int) RX11) (v1 : Int32) (v2 : Int32) (v3 : Int32) (H : Heap) (locs : List Loc) (ls : Array Slot) (h : fI_refusalOfRow_0 σ v1 v2 v3 = some res) (hP : Pic x al lv σ H) (hS : va_S (Ab x) s.heap H locs) (hl : lv_has ls 5 [(0, .ref (al 6 0)), (1, .int v1), (2, .int v2), (3, .int v3)]) : W p l e (rmm 2 0 0) s m args below meth c H locs 0 0 (MQ below (QP x al lv σ res) args s 0 0 (Ab x)) (F0 m 0 ls []) := by
  obtain ⟨hx, hb, hml, hown, hts⟩ := hC.1
  unfold fI_refusalOfRow_0 at h
  refine lv_aload_n hx hb dX11_refusalOfRow_0 rfl (lv_at hl 0 rfl) ?_
  refine gt_X11_0 hC hP wf_X11_12 dX11_refusalOfRow_1 ?_
  refine gt_X10_5 (a := 0) h06 hP.l0 hC hP wf_X11_58 dX11_refusalOfRow_4 ?_
  refine lv_iload_n hx hb dX11_refusalOfRow_7 rfl (lv_at hl 1 rfl) ?_
  refine r_cP hS h (fun r hr => r_runV (As := [.int v1]) (rest := []) hC kV_X11_62 cw_X8_has (rc_X8 (a := 0) h06 hP.l0 hC hP) hP (tRooms_has x al lv σ 0 h06 hP.l0 v1 r hr) rfl hl.1 ⟨Nat.le_of_ble_eq_true rfl, Nat.le_of_ble_eq_true rfl⟩ ⟨Nat.le_of_ble_eq_true rfl, Nat.le_of_ble_eq_true rfl⟩ (Nat.le_of_ble_eq_true rfl) dX11_refusalOfRow_8) (fun y1 H locs h hP hS => ?_)
  refine lv_if_ne (tgt := 17) hx hb dX11_refusalOfRow_11 (by decide) (fun hc => ?_) (fun hc => ?_)
  · replace h := (br h).2 hc
    refine lv_iload_n hx hb dX11_refusalOfRow_17 rfl (lv_at hl 2 rfl) ?_
    refine lv_iconst (v := 0) hx hb dX11_refusalOfRow_18 (by decide) ?_
    refine lv_aload_n hx hb dX11_refusalOfRow_19 rfl (lv_at hl 0 rfl) ?_
    refine gt_X11_0 hC hP wf_X11_12 dX11_refusalOfRow_20 ?_
    refine gt_X10_5 (a := 0) h06 hP.l0 hC hP wf_X11_58 dX11_refusalOfRow_23 ?_
    refine gt_X8_4 (a := 0) h06 hP.l0 hC hP wf_X11_93 dX11_refusalOfRow_26 ?_
    refine lv_iload_n hx hb dX11_refusalOfRow_29 rfl (lv_at hl 1 rfl) ?_
    refine r_iald hC hP (aS_5 (a := 0) h06 hP.l0) h dX11_refusalOfRow_30 (fun h => ?_)
    refine lv_iconst (v := 1) hx hb dX11_refusalOfRow_31 (by decide) ?_
    refine lv_isub hx hb dX11_refusalOfRow_32 ?_
    refine r_cP hS h (fun r hr => r_runS (As := [.int v2, .int 0, .int ((σ 0 5 v1.toNatClampNeg) - 1)]) (rest := []) hC kS_X11_68 cw_X11_within hP (tI_within x al lv σ v2 0 ((σ 0 5 v1.toNatClampNeg) - 1) r hr) rfl hl.1 ⟨Nat.le_of_ble_eq_true rfl, Nat.le_of_ble_eq_true rfl⟩ ⟨Nat.le_of_ble_eq_true rfl, Nat.le_of_ble_eq_true rfl⟩ (Nat.le_of_ble_eq_true rfl) dX11_refusalOfRow_33) (fun y2 H locs h hP hS => ?_)
    refine lv_if_eq (tgt := 65) hx hb dX11_refusalOfRow_36 (by decide) (fun hc => ?_) (fun hc => ?_)
    · replace h := (br h).1 hc
      exact wI_refusalOfRow_65  hC   H locs ls h hP hS (lv_sub hl [] rfl)
    · replace h := (br h).2 hc
      refine lv_iload_n hx hb dX11_refusalOfRow_39 rfl (lv_at hl 3 rfl) ?_
      refine lv_iconst (v := 0) hx hb dX11_refusalOfRow_40 (by decide) ?_
      refine lv_aload_n hx hb dX11_refusalOfRow_41 rfl (lv_at hl 0 rfl) ?_
      refine gt_X11_0 hC hP wf_X11_12 dX11_refusalOfRow_42 ?_
      refine gt_X10_5 (a := 0) h06 hP.l0 hC hP wf_X11_58 dX11_refusalOfRow_45 ?_
      refine gt_X8_3 (a := 0) h06 hP.l0 hC hP wf_X11_90 dX11_refusalOfRow_48 ?_
      refine lv_iload_n hx hb dX11_refusalOfRow_51 rfl (lv_at hl 1 rfl) ?_
      refine r_iald hC hP (aS_4 (a := 0) h06 hP.l0) h dX11_refusalOfRow_52 (fun h => ?_)
      refine lv_iconst (v := 1) hx hb dX11_refusalOfRow_53 (by decide) ?_
      refine lv_isub hx hb dX11_refusalOfRow_54 ?_
      refine r_cP hS h (fun r hr => r_runS (As := [.int v3, .int 0, .int ((σ 0 4 v1.toNatClampNeg) - 1)]) (rest := []) hC kS_X11_68 cw_X11_within hP (tI_within x al lv σ v3 0 ((σ 0 4 v1.toNatClampNeg) - 1) r hr) rfl hl.1 ⟨Nat.le_of_ble_eq_true rfl, Nat.le_of_ble_eq_true rfl⟩ ⟨Nat.le_of_ble_eq_true rfl, Nat.le_of_ble_eq_true rfl⟩ (Nat.le_of_ble_eq_true rfl) dX11_refusalOfRow_55) (fun y3 H locs h hP hS => ?_)
      refine lv_if_eq (tgt := 65) hx hb dX11_refusalOfRow_58 (by decide) (fun hc => ?_) (fun hc => ?_)
      · replace h := (br h).1 hc
        exact wI_refusalOfRow_65  hC   H locs ls h hP hS (lv_sub hl [] rfl)
      · replace h := (br h).2 hc
        refine lv_iconst (v := 1) hx hb dX11_refusalOfRow_61 (by decide) ?_
        refine lv_goto (tgt := 66) hx hb dX11_refusalOfRow_62 (by decide) ?_
        exact wI_refusalOfRow_66  hC  1 H locs ls h hP hS (lv_sub hl [] rfl)
  · replace h := (br h).1 hc
    refine lv_bipush (v := (-2)) hx hb dX11_refusalOfRow_14 (by decide) ?_
    exact r_retP hC hP hS rfl h dX11_refusalOfRow_16

set_option maxRecDepth 20000 in
theorem tI_refusalOfRow {l : Launch} (x : Wx) (al : Nat → Nat → Nat) (lv : Nat → Bool) (σ : Sg) (v1 : Int32) (v2 : Int32) (v3 : Int32) (res : Int32) (h : fI_refusalOfRow σ v1 v2 v3 = some res) : Met l yX11_refusalOfRow (Cond.code yX11_refusalOfRow cX11_refusalOfRow 5 (some .int) :: lwg) (rmm 2 0 0) (va_Pc [.ref (al 6 0), .int v1, .int v2, .int v3] (Wd x al lv σ)) (QP x al lv σ res) 0 0 (Ab x) := by
  refine met_W (by decide) (Nat.le_of_ble_eq_true rfl) rfl (fun p e s m args below meth c ls hC hP hS hl => ?_)
  exact wI_refusalOfRow_0  hC v1 v2 v3 _ _ ls h hP hS hl
set_option maxHeartbeats 4000000 in
set_option maxRecDepth 20000 in
theorem wI_lay_82 {p : Program} {l : Launch} {e : Env} {s : State} {m : MethodId} {args : Array Value} {below : List Frame} {meth : Method} {c : Code} {x : Wx} {al : Nat → Nat → Nat} {lv : Nat → Bool} {res : Int32 × Sg} (hC : Cx x p s m args meth c cX11_lay 7 (some .int) RX11) (σ : Sg) (H : Heap) (locs : List Loc) (ls : Array Slot) (h : fI_lay_82 σ = some res) (hP : Pic x al lv σ H) (hS : va_S (Ab x) s.heap H locs) (hl : lv_has ls 7 [(0, .ref (al 6 0))]) : W p l e (rmm 3 0 0) s m args below meth c H locs 0 0 (MQ below (QI x al lv res) args s 0 0 (Ab x)) (F0 m 82 ls []) := by
  obtain ⟨hx, hb, hml, hown, hts⟩ := hC.1
  unfold fI_lay_82 at h
  refine lv_aload_n hx hb dX11_lay_82 rfl (lv_at hl 0 rfl) ?_
  refine lv_bipush (v := (-7)) hx hb dX11_lay_83 (by decide) ?_
  refine r_cI hS h (fun r hr => r_runV (As := [.int ((-7))]) (rest := []) hC kV_X11_72 cw_X11_answer (rc_X11 hC hP) hP (tI_answer x al lv σ ((-7)) r hr) rfl hl.1 ⟨Nat.le_of_ble_eq_true rfl, Nat.le_of_ble_eq_true rfl⟩ ⟨Nat.le_of_ble_eq_true rfl, Nat.le_of_ble_eq_true rfl⟩ (Nat.le_of_ble_eq_true rfl) dX11_lay_85) (fun y11 σ12 H locs h hP hS => ?_)
  exact r_retI hC hP hS rfl h dX11_lay_88

set_option maxHeartbeats 4000000 in
set_option maxRecDepth 20000 in
theorem wI_lay_89 {p : Program} {l : Launch} {e : Env} {s : State} {m : MethodId} {args : Array Value} {below : List Frame} {meth : Method} {c : Code} {x : Wx} {al : Nat → Nat → Nat} {lv : Nat → Bool} {res : Int32 × Sg} (hC : Cx x p s m args meth c cX11_lay 7 (some .int) RX11) (σ : Sg) (x1 : Int32) (x6 : Int32) (H : Heap) (locs : List Loc) (ls : Array Slot) (h : fI_lay_89 σ x1 x6 = some res) (hP : Pic x al lv σ H) (hS : va_S (Ab x) s.heap H locs) (hl : lv_has ls 7 [(0, .ref (al 6 0)), (1, .int x1), (6, .int x6)]) : W p l e (rmm 3 0 0) s m args below meth c H locs 0 0 (MQ below (QI x al lv res) args s 0 0 (Ab x)) (F0 m 89 ls []) := by
  obtain ⟨hx, hb, hml, hown, hts⟩ := hC.1
  unfold fI_lay_89 at h
  refine lv_aload_n hx hb dX11_lay_89 rfl (lv_at hl 0 rfl) ?_
  refine gt_X11_0 hC hP wf_X11_12 dX11_lay_90 ?_
  refine gt_X10_5 (a := 0) h06 hP.l0 hC hP wf_X11_58 dX11_lay_93 ?_
  refine gt_X8_12 (a := 0) h06 hP.l0 hC hP wf_X11_134 dX11_lay_96 ?_
  refine lv_iload_n hx hb dX11_lay_99 rfl (lv_at hl 1 rfl) ?_
  refine lv_dup2_11 hx hb dX11_lay_100 rfl rfl ?_
  refine r_iald hC hP (aS_13 (a := 0) h06 hP.l0) h dX11_lay_101 (fun h => ?_)
  refine lv_iconst (v := 1) hx hb dX11_lay_102 (by decide) ?_
  refine lv_iload hx hb dX11_lay_103 (lv_at hl 2 rfl) ?_
  refine lv_ishl hx hb dX11_lay_105 ?_
  refine lv_ior hx hb dX11_lay_106 ?_
  refine r_iast hC hP hS (aS_13 (a := 0) h06 hP.l0) h dX11_lay_107 (fun σ8 H locs h hP hS => ?_)
  refine lv_aload_n hx hb dX11_lay_108 rfl (lv_at hl 0 rfl) ?_
  refine lv_iconst (v := 0) hx hb dX11_lay_109 (by decide) ?_
  refine r_cI hS h (fun r hr => r_runV (As := [.int 0]) (rest := []) hC kV_X11_72 cw_X11_answer (rc_X11 hC hP) hP (tI_answer x al lv σ8 0 r hr) rfl hl.1 ⟨Nat.le_of_ble_eq_true rfl, Nat.le_of_ble_eq_true rfl⟩ ⟨Nat.le_of_ble_eq_true rfl, Nat.le_of_ble_eq_true rfl⟩ (Nat.le_of_ble_eq_true rfl) dX11_lay_110) (fun y9 σ10 H locs h hP hS => ?_)
  exact r_retI hC hP hS rfl h dX11_lay_113

set_option maxHeartbeats 4000000 in
set_option maxRecDepth 20000 in
theorem wI_lay_0 {p : Program} {l : Launch} {e : Env} {s : State} {m : MethodId} {args : Array Value} {below : List Frame} {meth : Method} {c : Code} {x : Wx} {al : Nat → Nat → Nat} {lv : Nat → Bool} {res : Int32 × Sg} (hC : Cx x p s m args meth c cX11_lay 7 (some .int) RX11) (σ : Sg) (v1 : Int32) (v2 : Int32) (v3 : Int32) (H : Heap) (locs : List Loc) (ls : Array Slot) (h : fI_lay_0 σ v1 v2 v3 = some res) (hP : Pic x al lv σ H) (hS : va_S (Ab x) s.heap H locs) (hl : lv_has ls 7 [(0, .ref (al 6 0)), (1, .int v1), (2, .int v2), (3, .int v3)]) : W p l e (rmm 3 0 0) s m args below meth c H locs 0 0 (MQ below (QI x al lv res) args s 0 0 (Ab x)) (F0 m 0 ls []) := by
  obtain ⟨hx, hb, hml, hown, hts⟩ := hC.1
  unfold fI_lay_0 at h
  refine lv_aload_n hx hb dX11_lay_0 rfl (lv_at hl 0 rfl) ?_
  refine lv_iload_n hx hb dX11_lay_1 rfl (lv_at hl 1 rfl) ?_
  refine lv_iload_n hx hb dX11_lay_2 rfl (lv_at hl 2 rfl) ?_
  refine lv_iload_n hx hb dX11_lay_3 rfl (lv_at hl 3 rfl) ?_
  refine r_cP hS h (fun r hr => r_runV (As := [.int v1, .int v2, .int v3]) (rest := []) hC kV_X11_126 cw_X11_refusalOfRow (rc_X11 hC hP) hP (tI_refusalOfRow x al lv σ v1 v2 v3 r hr) rfl hl.1 ⟨Nat.le_of_ble_eq_true rfl, Nat.le_of_ble_eq_true rfl⟩ ⟨Nat.le_of_ble_eq_true rfl, Nat.le_of_ble_eq_true rfl⟩ (Nat.le_of_ble_eq_true rfl) dX11_lay_4) (fun y1 H locs h hP hS => ?_)
  refine lv_istore (lv' := [(4, .int y1), (0, .ref (al 6 0)), (1, .int v1), (2, .int v2), (3, .int v3)]) hx hb dX11_lay_7 hl (by decide) rfl (fun ls hl => ?_)
  refine lv_iload hx hb dX11_lay_9 (lv_at hl 0 rfl) ?_
  refine lv_if_eq (tgt := 21) hx hb dX11_lay_11 (by decide) (fun hc => ?_) (fun hc => ?_)
  · replace h := (br h).1 hc
    refine lv_aload_n hx hb dX11_lay_21 rfl (lv_at hl 1 rfl) ?_
    refine gt_X11_0 hC hP wf_X11_12 dX11_lay_22 ?_
    refine gt_X10_5 (a := 0) h06 hP.l0 hC hP wf_X11_58 dX11_lay_25 ?_
    refine gt_X8_3 (a := 0) h06 hP.l0 hC hP wf_X11_90 dX11_lay_28 ?_
    refine lv_iload_n hx hb dX11_lay_31 rfl (lv_at hl 2 rfl) ?_
    refine r_iald hC hP (aS_4 (a := 0) h06 hP.l0) h dX11_lay_32 (fun h => ?_)
    refine r_lt h (fun y2 h => ?_)
    refine lv_istore (lv' := [(5, .int y2), (4, .int y1), (0, .ref (al 6 0)), (1, .int v1), (2, .int v2), (3, .int v3)]) hx hb dX11_lay_33 hl (by decide) rfl (fun ls hl => ?_)
    refine lv_iload_n hx hb dX11_lay_35 rfl (lv_at hl 5 rfl) ?_
    refine lv_iload hx hb dX11_lay_36 (lv_at hl 0 rfl) ?_
    refine lv_iload_n hx hb dX11_lay_38 rfl (lv_at hl 4 rfl) ?_
    refine lv_imul hx hb dX11_lay_39 ?_
    refine lv_iadd hx hb dX11_lay_40 ?_
    refine r_lt h (fun y3 h => ?_)
    refine lv_istore (lv' := [(6, .int y3), (5, .int y2), (4, .int y1), (0, .ref (al 6 0)), (1, .int v1), (2, .int v2), (3, .int v3)]) hx hb dX11_lay_41 hl (by decide) rfl (fun ls hl => ?_)
    refine lv_aload_n hx hb dX11_lay_43 rfl (lv_at hl 3 rfl) ?_
    refine gt_X11_0 hC hP wf_X11_12 dX11_lay_44 ?_
    refine gt_X10_5 (a := 0) h06 hP.l0 hC hP wf_X11_58 dX11_lay_47 ?_
    refine lv_iload_n hx hb dX11_lay_50 rfl (lv_at hl 4 rfl) ?_
    refine lv_iload hx hb dX11_lay_51 (lv_at hl 0 rfl) ?_
    refine r_cP hS h (fun r hr => r_runV (As := [.int v1, .int y3]) (rest := []) hC kV_X11_130 cw_X8_isLaid (rc_X8 (a := 0) h06 hP.l0 hC hP) hP (tRooms_isLaid x al lv σ 0 h06 hP.l0 v1 y3 r hr) rfl hl.1 ⟨Nat.le_of_ble_eq_true rfl, Nat.le_of_ble_eq_true rfl⟩ ⟨Nat.le_of_ble_eq_true rfl, Nat.le_of_ble_eq_true rfl⟩ (Nat.le_of_ble_eq_true rfl) dX11_lay_53) (fun y4 H locs h hP hS => ?_)
    refine lv_if_ne (tgt := 82) hx hb dX11_lay_56 (by decide) (fun hc => ?_) (fun hc => ?_)
    · replace h := (br h).2 hc
      exact wI_lay_82  hC  σ H locs ls h hP hS (lv_sub hl [3] rfl)
    · replace h := (br h).1 hc
      refine lv_iload_n hx hb dX11_lay_59 rfl (lv_at hl 5 rfl) ?_
      refine lv_if_le (tgt := 89) hx hb dX11_lay_60 (by decide) (fun hc => ?_) (fun hc => ?_)
      · replace h := (br h).1 hc
        exact wI_lay_89  hC  σ v1 y3 H locs ls h hP hS (lv_sub hl [3, 4, 0] rfl)
      · replace h := (br h).2 hc
        refine lv_aload_n hx hb dX11_lay_63 rfl (lv_at hl 3 rfl) ?_
        refine gt_X11_0 hC hP wf_X11_12 dX11_lay_64 ?_
        refine gt_X10_5 (a := 0) h06 hP.l0 hC hP wf_X11_58 dX11_lay_67 ?_
        refine lv_iload_n hx hb dX11_lay_70 rfl (lv_at hl 4 rfl) ?_
        refine lv_iload hx hb dX11_lay_71 (lv_at hl 0 rfl) ?_
        refine lv_iload hx hb dX11_lay_73 (lv_at hl 1 rfl) ?_
        refine lv_isub hx hb dX11_lay_75 ?_
        refine r_cP hS h (fun r hr => r_runV (As := [.int v1, .int (y3 - y2)]) (rest := []) hC kV_X11_130 cw_X8_isLaid (rc_X8 (a := 0) h06 hP.l0 hC hP) hP (tRooms_isLaid x al lv σ 0 h06 hP.l0 v1 (y3 - y2) r hr) rfl hl.1 ⟨Nat.le_of_ble_eq_true rfl, Nat.le_of_ble_eq_true rfl⟩ ⟨Nat.le_of_ble_eq_true rfl, Nat.le_of_ble_eq_true rfl⟩ (Nat.le_of_ble_eq_true rfl) dX11_lay_76) (fun y5 H locs h hP hS => ?_)
        refine lv_if_ne (tgt := 89) hx hb dX11_lay_79 (by decide) (fun hc => ?_) (fun hc => ?_)
        · replace h := (br h).2 hc
          exact wI_lay_89  hC  σ v1 y3 H locs ls h hP hS (lv_sub hl [3, 4, 0] rfl)
        · replace h := (br h).1 hc
          exact wI_lay_82  hC  σ H locs ls h hP hS (lv_sub hl [3] rfl)
  · replace h := (br h).2 hc
    refine lv_aload_n hx hb dX11_lay_14 rfl (lv_at hl 1 rfl) ?_
    refine lv_iload hx hb dX11_lay_15 (lv_at hl 0 rfl) ?_
    refine r_cI hS h (fun r hr => r_runV (As := [.int y1]) (rest := []) hC kV_X11_72 cw_X11_answer (rc_X11 hC hP) hP (tI_answer x al lv σ y1 r hr) rfl hl.1 ⟨Nat.le_of_ble_eq_true rfl, Nat.le_of_ble_eq_true rfl⟩ ⟨Nat.le_of_ble_eq_true rfl, Nat.le_of_ble_eq_true rfl⟩ (Nat.le_of_ble_eq_true rfl) dX11_lay_17) (fun y6 σ7 H locs h hP hS => ?_)
    exact r_retI hC hP hS rfl h dX11_lay_20

set_option maxRecDepth 20000 in
theorem tI_lay {l : Launch} (x : Wx) (al : Nat → Nat → Nat) (lv : Nat → Bool) (σ : Sg) (v1 : Int32) (v2 : Int32) (v3 : Int32) (res : Int32 × Sg) (h : fI_lay σ v1 v2 v3 = some res) : Met l yX11_lay (Cond.code yX11_lay cX11_lay 7 (some .int) :: lwg) (rmm 3 0 0) (va_Pc [.ref (al 6 0), .int v1, .int v2, .int v3] (Wd x al lv σ)) (QI x al lv res) 0 0 (Ab x) := by
  refine met_W (by decide) (Nat.le_of_ble_eq_true rfl) rfl (fun p e s m args below meth c ls hC hP hS hl => ?_)
  exact wI_lay_0  hC σ v1 v2 v3 _ _ ls h hP hS hl
set_option maxHeartbeats 4000000 in
set_option maxRecDepth 20000 in
theorem wI_tear_101 {p : Program} {l : Launch} {e : Env} {s : State} {m : MethodId} {args : Array Value} {below : List Frame} {meth : Method} {c : Code} {x : Wx} {al : Nat → Nat → Nat} {lv : Nat → Bool} {res : Int32 × Sg} (hC : Cx x p s m args meth c cX11_tear 7 (some .int) RX11) (σ : Sg) (H : Heap) (locs : List Loc) (ls : Array Slot) (h : fI_tear_101 σ = some res) (hP : Pic x al lv σ H) (hS : va_S (Ab x) s.heap H locs) (hl : lv_has ls 7 [(0, .ref (al 6 0))]) : W p l e (rmm 3 0 0) s m args below meth c H locs 0 0 (MQ below (QI x al lv res) args s 0 0 (Ab x)) (F0 m 101 ls []) := by
  obtain ⟨hx, hb, hml, hown, hts⟩ := hC.1
  unfold fI_tear_101 at h
  refine lv_aload_n hx hb dX11_tear_101 rfl (lv_at hl 0 rfl) ?_
  refine lv_bipush (v := (-7)) hx hb dX11_tear_102 (by decide) ?_
  refine r_cI hS h (fun r hr => r_runV (As := [.int ((-7))]) (rest := []) hC kV_X11_72 cw_X11_answer (rc_X11 hC hP) hP (tI_answer x al lv σ ((-7)) r hr) rfl hl.1 ⟨Nat.le_of_ble_eq_true rfl, Nat.le_of_ble_eq_true rfl⟩ ⟨Nat.le_of_ble_eq_true rfl, Nat.le_of_ble_eq_true rfl⟩ (Nat.le_of_ble_eq_true rfl) dX11_tear_104) (fun y14 σ15 H locs h hP hS => ?_)
  exact r_retI hC hP hS rfl h dX11_tear_107

set_option maxHeartbeats 4000000 in
set_option maxRecDepth 20000 in
theorem wI_tear_0 {p : Program} {l : Launch} {e : Env} {s : State} {m : MethodId} {args : Array Value} {below : List Frame} {meth : Method} {c : Code} {x : Wx} {al : Nat → Nat → Nat} {lv : Nat → Bool} {res : Int32 × Sg} (hC : Cx x p s m args meth c cX11_tear 7 (some .int) RX11) (σ : Sg) (v1 : Int32) (v2 : Int32) (v3 : Int32) (H : Heap) (locs : List Loc) (ls : Array Slot) (h : fI_tear_0 σ v1 v2 v3 = some res) (hP : Pic x al lv σ H) (hS : va_S (Ab x) s.heap H locs) (hl : lv_has ls 7 [(0, .ref (al 6 0)), (1, .int v1), (2, .int v2), (3, .int v3)]) : W p l e (rmm 3 0 0) s m args below meth c H locs 0 0 (MQ below (QI x al lv res) args s 0 0 (Ab x)) (F0 m 0 ls []) := by
  obtain ⟨hx, hb, hml, hown, hts⟩ := hC.1
  unfold fI_tear_0 at h
  refine lv_aload_n hx hb dX11_tear_0 rfl (lv_at hl 0 rfl) ?_
  refine lv_iload_n hx hb dX11_tear_1 rfl (lv_at hl 1 rfl) ?_
  refine lv_iload_n hx hb dX11_tear_2 rfl (lv_at hl 2 rfl) ?_
  refine lv_iload_n hx hb dX11_tear_3 rfl (lv_at hl 3 rfl) ?_
  refine r_cP hS h (fun r hr => r_runV (As := [.int v1, .int v2, .int v3]) (rest := []) hC kV_X11_126 cw_X11_refusalOfRow (rc_X11 hC hP) hP (tI_refusalOfRow x al lv σ v1 v2 v3 r hr) rfl hl.1 ⟨Nat.le_of_ble_eq_true rfl, Nat.le_of_ble_eq_true rfl⟩ ⟨Nat.le_of_ble_eq_true rfl, Nat.le_of_ble_eq_true rfl⟩ (Nat.le_of_ble_eq_true rfl) dX11_tear_4) (fun y1 H locs h hP hS => ?_)
  refine lv_istore (lv' := [(4, .int y1), (0, .ref (al 6 0)), (1, .int v1), (2, .int v2), (3, .int v3)]) hx hb dX11_tear_7 hl (by decide) rfl (fun ls hl => ?_)
  refine lv_iload hx hb dX11_tear_9 (lv_at hl 0 rfl) ?_
  refine lv_if_eq (tgt := 21) hx hb dX11_tear_11 (by decide) (fun hc => ?_) (fun hc => ?_)
  · replace h := (br h).1 hc
    refine lv_aload_n hx hb dX11_tear_21 rfl (lv_at hl 1 rfl) ?_
    refine gt_X11_0 hC hP wf_X11_12 dX11_tear_22 ?_
    refine gt_X10_5 (a := 0) h06 hP.l0 hC hP wf_X11_58 dX11_tear_25 ?_
    refine gt_X8_3 (a := 0) h06 hP.l0 hC hP wf_X11_90 dX11_tear_28 ?_
    refine lv_iload_n hx hb dX11_tear_31 rfl (lv_at hl 2 rfl) ?_
    refine r_iald hC hP (aS_4 (a := 0) h06 hP.l0) h dX11_tear_32 (fun h => ?_)
    refine r_lt h (fun y2 h => ?_)
    refine lv_istore (lv' := [(5, .int y2), (4, .int y1), (0, .ref (al 6 0)), (1, .int v1), (2, .int v2), (3, .int v3)]) hx hb dX11_tear_33 hl (by decide) rfl (fun ls hl => ?_)
    refine lv_iload_n hx hb dX11_tear_35 rfl (lv_at hl 5 rfl) ?_
    refine lv_iload hx hb dX11_tear_36 (lv_at hl 0 rfl) ?_
    refine lv_iload_n hx hb dX11_tear_38 rfl (lv_at hl 4 rfl) ?_
    refine lv_imul hx hb dX11_tear_39 ?_
    refine lv_iadd hx hb dX11_tear_40 ?_
    refine r_lt h (fun y3 h => ?_)
    refine lv_istore (lv' := [(6, .int y3), (5, .int y2), (4, .int y1), (0, .ref (al 6 0)), (1, .int v1), (2, .int v2), (3, .int v3)]) hx hb dX11_tear_41 hl (by decide) rfl (fun ls hl => ?_)
    refine lv_aload_n hx hb dX11_tear_43 rfl (lv_at hl 3 rfl) ?_
    refine gt_X11_0 hC hP wf_X11_12 dX11_tear_44 ?_
    refine gt_X10_5 (a := 0) h06 hP.l0 hC hP wf_X11_58 dX11_tear_47 ?_
    refine lv_iload_n hx hb dX11_tear_50 rfl (lv_at hl 4 rfl) ?_
    refine lv_iload hx hb dX11_tear_51 (lv_at hl 0 rfl) ?_
    refine r_cP hS h (fun r hr => r_runV (As := [.int v1, .int y3]) (rest := []) hC kV_X11_130 cw_X8_isLaid (rc_X8 (a := 0) h06 hP.l0 hC hP) hP (tRooms_isLaid x al lv σ 0 h06 hP.l0 v1 y3 r hr) rfl hl.1 ⟨Nat.le_of_ble_eq_true rfl, Nat.le_of_ble_eq_true rfl⟩ ⟨Nat.le_of_ble_eq_true rfl, Nat.le_of_ble_eq_true rfl⟩ (Nat.le_of_ble_eq_true rfl) dX11_tear_53) (fun y4 H locs h hP hS => ?_)
    refine lv_if_ne (tgt := 66) hx hb dX11_tear_56 (by decide) (fun hc => ?_) (fun hc => ?_)
    · replace h := (br h).2 hc
      refine lv_aload_n hx hb dX11_tear_66 rfl (lv_at hl 3 rfl) ?_
      refine gt_X11_0 hC hP wf_X11_12 dX11_tear_67 ?_
      refine gt_X10_5 (a := 0) h06 hP.l0 hC hP wf_X11_58 dX11_tear_70 ?_
      refine lv_iload_n hx hb dX11_tear_73 rfl (lv_at hl 4 rfl) ?_
      refine lv_iload hx hb dX11_tear_74 (lv_at hl 0 rfl) ?_
      refine lv_iload hx hb dX11_tear_76 (lv_at hl 1 rfl) ?_
      refine lv_iadd hx hb dX11_tear_78 ?_
      refine r_cP hS h (fun r hr => r_runV (As := [.int v1, .int (y3 + y2)]) (rest := []) hC kV_X11_130 cw_X8_isLaid (rc_X8 (a := 0) h06 hP.l0 hC hP) hP (tRooms_isLaid x al lv σ 0 h06 hP.l0 v1 (y3 + y2) r hr) rfl hl.1 ⟨Nat.le_of_ble_eq_true rfl, Nat.le_of_ble_eq_true rfl⟩ ⟨Nat.le_of_ble_eq_true rfl, Nat.le_of_ble_eq_true rfl⟩ (Nat.le_of_ble_eq_true rfl) dX11_tear_79) (fun y5 H locs h hP hS => ?_)
      refine lv_if_ne (tgt := 101) hx hb dX11_tear_82 (by decide) (fun hc => ?_) (fun hc => ?_)
      · replace h := (br h).2 hc
        exact wI_tear_101  hC  σ H locs ls h hP hS (lv_sub hl [3] rfl)
      · replace h := (br h).1 hc
        refine lv_aload_n hx hb dX11_tear_85 rfl (lv_at hl 3 rfl) ?_
        refine gt_X11_0 hC hP wf_X11_12 dX11_tear_86 ?_
        refine gt_X10_5 (a := 0) h06 hP.l0 hC hP wf_X11_58 dX11_tear_89 ?_
        refine lv_iload_n hx hb dX11_tear_92 rfl (lv_at hl 4 rfl) ?_
        refine lv_iload hx hb dX11_tear_93 (lv_at hl 0 rfl) ?_
        refine r_cP hS h (fun r hr => r_runV (As := [.int v1, .int y3]) (rest := []) hC kV_X11_137 cw_X8_isRowBare (rc_X8 (a := 0) h06 hP.l0 hC hP) hP (tRooms_isRowBare x al lv σ 0 h06 hP.l0 v1 y3 r hr) rfl hl.1 ⟨Nat.le_of_ble_eq_true rfl, Nat.le_of_ble_eq_true rfl⟩ ⟨Nat.le_of_ble_eq_true rfl, Nat.le_of_ble_eq_true rfl⟩ (Nat.le_of_ble_eq_true rfl) dX11_tear_95) (fun y6 H locs h hP hS => ?_)
        refine lv_if_ne (tgt := 108) hx hb dX11_tear_98 (by decide) (fun hc => ?_) (fun hc => ?_)
        · replace h := (br h).2 hc
          refine lv_aload_n hx hb dX11_tear_108 rfl (lv_at hl 3 rfl) ?_
          refine gt_X11_0 hC hP wf_X11_12 dX11_tear_109 ?_
          refine gt_X10_5 (a := 0) h06 hP.l0 hC hP wf_X11_58 dX11_tear_112 ?_
          refine gt_X8_12 (a := 0) h06 hP.l0 hC hP wf_X11_134 dX11_tear_115 ?_
          refine lv_iload_n hx hb dX11_tear_118 rfl (lv_at hl 4 rfl) ?_
          refine lv_dup2_11 hx hb dX11_tear_119 rfl rfl ?_
          refine r_iald hC hP (aS_13 (a := 0) h06 hP.l0) h dX11_tear_120 (fun h => ?_)
          refine lv_iconst (v := 1) hx hb dX11_tear_121 (by decide) ?_
          refine lv_iload hx hb dX11_tear_122 (lv_at hl 0 rfl) ?_
          refine lv_ishl hx hb dX11_tear_124 ?_
          refine lv_iconst (v := (-1)) hx hb dX11_tear_125 (by decide) ?_
          refine lv_ixor hx hb dX11_tear_126 ?_
          refine lv_iand hx hb dX11_tear_127 ?_
          refine r_iast hC hP hS (aS_13 (a := 0) h06 hP.l0) h dX11_tear_128 (fun σ7 H locs h hP hS => ?_)
          refine lv_aload_n hx hb dX11_tear_129 rfl (lv_at hl 3 rfl) ?_
          refine lv_iconst (v := 0) hx hb dX11_tear_130 (by decide) ?_
          refine r_cI hS h (fun r hr => r_runV (As := [.int 0]) (rest := []) hC kV_X11_72 cw_X11_answer (rc_X11 hC hP) hP (tI_answer x al lv σ7 0 r hr) rfl hl.1 ⟨Nat.le_of_ble_eq_true rfl, Nat.le_of_ble_eq_true rfl⟩ ⟨Nat.le_of_ble_eq_true rfl, Nat.le_of_ble_eq_true rfl⟩ (Nat.le_of_ble_eq_true rfl) dX11_tear_131) (fun y8 σ9 H locs h hP hS => ?_)
          exact r_retI hC hP hS rfl h dX11_tear_134
        · replace h := (br h).1 hc
          exact wI_tear_101  hC  σ H locs ls h hP hS (lv_sub hl [3] rfl)
    · replace h := (br h).1 hc
      refine lv_aload_n hx hb dX11_tear_59 rfl (lv_at hl 3 rfl) ?_
      refine lv_bipush (v := (-3)) hx hb dX11_tear_60 (by decide) ?_
      refine r_cI hS h (fun r hr => r_runV (As := [.int ((-3))]) (rest := []) hC kV_X11_72 cw_X11_answer (rc_X11 hC hP) hP (tI_answer x al lv σ ((-3)) r hr) rfl hl.1 ⟨Nat.le_of_ble_eq_true rfl, Nat.le_of_ble_eq_true rfl⟩ ⟨Nat.le_of_ble_eq_true rfl, Nat.le_of_ble_eq_true rfl⟩ (Nat.le_of_ble_eq_true rfl) dX11_tear_62) (fun y10 σ11 H locs h hP hS => ?_)
      exact r_retI hC hP hS rfl h dX11_tear_65
  · replace h := (br h).2 hc
    refine lv_aload_n hx hb dX11_tear_14 rfl (lv_at hl 1 rfl) ?_
    refine lv_iload hx hb dX11_tear_15 (lv_at hl 0 rfl) ?_
    refine r_cI hS h (fun r hr => r_runV (As := [.int y1]) (rest := []) hC kV_X11_72 cw_X11_answer (rc_X11 hC hP) hP (tI_answer x al lv σ y1 r hr) rfl hl.1 ⟨Nat.le_of_ble_eq_true rfl, Nat.le_of_ble_eq_true rfl⟩ ⟨Nat.le_of_ble_eq_true rfl, Nat.le_of_ble_eq_true rfl⟩ (Nat.le_of_ble_eq_true rfl) dX11_tear_17) (fun y12 σ13 H locs h hP hS => ?_)
    exact r_retI hC hP hS rfl h dX11_tear_20

set_option maxRecDepth 20000 in
theorem tI_tear {l : Launch} (x : Wx) (al : Nat → Nat → Nat) (lv : Nat → Bool) (σ : Sg) (v1 : Int32) (v2 : Int32) (v3 : Int32) (res : Int32 × Sg) (h : fI_tear σ v1 v2 v3 = some res) : Met l yX11_tear (Cond.code yX11_tear cX11_tear 7 (some .int) :: lwg) (rmm 3 0 0) (va_Pc [.ref (al 6 0), .int v1, .int v2, .int v3] (Wd x al lv σ)) (QI x al lv res) 0 0 (Ab x) := by
  refine met_W (by decide) (Nat.le_of_ble_eq_true rfl) rfl (fun p e s m args below meth c ls hC hP hS hl => ?_)
  exact wI_tear_0  hC σ v1 v2 v3 _ _ ls h hP hS hl
set_option maxHeartbeats 4000000 in
set_option maxRecDepth 20000 in
theorem wI_isWeightOfKind_0 {p : Program} {l : Launch} {e : Env} {s : State} {m : MethodId} {args : Array Value} {below : List Frame} {meth : Method} {c : Code} {x : Wx} {al : Nat → Nat → Nat} {lv : Nat → Bool} {res : Int32} {σ : Sg} (hC : Cx x p s m args meth c cX11_isWeightOfKind 2 (some .boolean) RX11) (v0 : Int32) (v1 : Int32) (H : Heap) (locs : List Loc) (ls : Array Slot) (h : fI_isWeightOfKind_0 σ v0 v1 = some res) (hP : Pic x al lv σ H) (hS : va_S (Ab x) s.heap H locs) (hl : lv_has ls 2 [(0, .int v0), (1, .int v1)]) : W p l e (rmm 2 0 0) s m args below meth c H locs 0 0 (MQ below (QP x al lv σ res) args s 0 0 (Ab x)) (F0 m 0 ls []) := by
  obtain ⟨hx, hb, hml, hown, hts⟩ := hC.1
  unfold fI_isWeightOfKind_0 at h
  refine lv_iload_n hx hb dX11_isWeightOfKind_0 rfl (lv_at hl 0 rfl) ?_
  refine lv_iconst (v := 0) hx hb dX11_isWeightOfKind_1 (by decide) ?_
  refine lv_iconst (v := 2) hx hb dX11_isWeightOfKind_2 (by decide) ?_
  refine r_cP hS h (fun r hr => r_runS (As := [.int v0, .int 0, .int 2]) (rest := []) hC kS_X11_68 cw_X11_within hP (tI_within x al lv σ v0 0 2 r hr) rfl hl.1 ⟨Nat.le_of_ble_eq_true rfl, Nat.le_of_ble_eq_true rfl⟩ ⟨Nat.le_of_ble_eq_true rfl, Nat.le_of_ble_eq_true rfl⟩ (Nat.le_of_ble_eq_true rfl) dX11_isWeightOfKind_3) (fun y1 H locs h hP hS => ?_)
  refine lv_if_eq (tgt := 25) hx hb dX11_isWeightOfKind_6 (by decide) (fun hc => ?_) (fun hc => ?_)
  · replace h := (br h).1 hc
    refine lv_iconst (v := 0) hx hb dX11_isWeightOfKind_25 (by decide) ?_
    exact r_retP hC hP hS rfl h dX11_isWeightOfKind_26
  · replace h := (br h).2 hc
    refine lv_iload_n hx hb dX11_isWeightOfKind_9 rfl (lv_at hl 1 rfl) ?_
    refine lv_sipush (v := 1000) hx hb dX11_isWeightOfKind_10 (by decide) ?_
    refine lv_ldc hx hb hown (hts _ wk_X11_200) dX11_isWeightOfKind_13 ?_
    refine r_cP hS h (fun r hr => r_runS (As := [.int v1, .int 1000, .int 1000000]) (rest := []) hC kS_X11_68 cw_X11_within hP (tI_within x al lv σ v1 1000 1000000 r hr) rfl hl.1 ⟨Nat.le_of_ble_eq_true rfl, Nat.le_of_ble_eq_true rfl⟩ ⟨Nat.le_of_ble_eq_true rfl, Nat.le_of_ble_eq_true rfl⟩ (Nat.le_of_ble_eq_true rfl) dX11_isWeightOfKind_15) (fun y2 H locs h hP hS => ?_)
    refine lv_if_eq (tgt := 25) hx hb dX11_isWeightOfKind_18 (by decide) (fun hc => ?_) (fun hc => ?_)
    · replace h := (br h).1 hc
      refine lv_iconst (v := 0) hx hb dX11_isWeightOfKind_25 (by decide) ?_
      exact r_retP hC hP hS rfl h dX11_isWeightOfKind_26
    · replace h := (br h).2 hc
      refine lv_iconst (v := 1) hx hb dX11_isWeightOfKind_21 (by decide) ?_
      refine lv_goto (tgt := 26) hx hb dX11_isWeightOfKind_22 (by decide) ?_
      exact r_retP hC hP hS rfl h dX11_isWeightOfKind_26

set_option maxRecDepth 20000 in
theorem tI_isWeightOfKind {l : Launch} (x : Wx) (al : Nat → Nat → Nat) (lv : Nat → Bool) (σ : Sg) (v0 : Int32) (v1 : Int32) (res : Int32) (h : fI_isWeightOfKind σ v0 v1 = some res) : Met l yX11_isWeightOfKind (Cond.code yX11_isWeightOfKind cX11_isWeightOfKind 2 (some .boolean) :: lwg) (rmm 2 0 0) (va_Pc [.int v0, .int v1] (Wd x al lv σ)) (QP x al lv σ res) 0 0 (Ab x) := by
  refine met_W (by decide) (Nat.le_of_ble_eq_true rfl) rfl (fun p e s m args below meth c ls hC hP hS hl => ?_)
  exact wI_isWeightOfKind_0  hC v0 v1 _ _ ls h hP hS hl
set_option maxHeartbeats 4000000 in
set_option maxRecDepth 20000 in
theorem wI_refusalOfPlace_0 {p : Program} {l : Launch} {e : Env} {s : State} {m : MethodId} {args : Array Value} {below : List Frame} {meth : Method} {c : Code} {x : Wx} {al : Nat → Nat → Nat} {lv : Nat → Bool} {res : Int32} {σ : Sg} (hC : Cx x p s m args meth c cX11_refusalOfPlace 3 (some .int) RX11) (v1 : Int32) (v2 : Int32) (H : Heap) (locs : List Loc) (ls : Array Slot) (h : fI_refusalOfPlace_0 σ v1 v2 = some res) (hP : Pic x al lv σ H) (hS : va_S (Ab x) s.heap H locs) (hl : lv_has ls 3 [(0, .ref (al 6 0)), (1, .int v1), (2, .int v2)]) : W p l e (rmm 3 0 0) s m args below meth c H locs 0 0 (MQ below (QP x al lv σ res) args s 0 0 (Ab x)) (F0 m 0 ls []) := by
  obtain ⟨hx, hb, hml, hown, hts⟩ := hC.1
  unfold fI_refusalOfPlace_0 at h
  refine lv_aload_n hx hb dX11_refusalOfPlace_0 rfl (lv_at hl 0 rfl) ?_
  refine gt_X11_0 hC hP wf_X11_12 dX11_refusalOfPlace_1 ?_
  refine gt_X10_5 (a := 0) h06 hP.l0 hC hP wf_X11_58 dX11_refusalOfPlace_4 ?_
  refine lv_iload_n hx hb dX11_refusalOfPlace_7 rfl (lv_at hl 1 rfl) ?_
  refine r_cP hS h (fun r hr => r_runV (As := [.int v1]) (rest := []) hC kV_X11_62 cw_X8_has (rc_X8 (a := 0) h06 hP.l0 hC hP) hP (tRooms_has x al lv σ 0 h06 hP.l0 v1 r hr) rfl hl.1 ⟨Nat.le_of_ble_eq_true rfl, Nat.le_of_ble_eq_true rfl⟩ ⟨Nat.le_of_ble_eq_true rfl, Nat.le_of_ble_eq_true rfl⟩ (Nat.le_of_ble_eq_true rfl) dX11_refusalOfPlace_8) (fun y1 H locs h hP hS => ?_)
  refine lv_if_ne (tgt := 17) hx hb dX11_refusalOfPlace_11 (by decide) (fun hc => ?_) (fun hc => ?_)
  · replace h := (br h).2 hc
    refine lv_aload_n hx hb dX11_refusalOfPlace_17 rfl (lv_at hl 0 rfl) ?_
    refine gt_X11_0 hC hP wf_X11_12 dX11_refusalOfPlace_18 ?_
    refine gt_X10_5 (a := 0) h06 hP.l0 hC hP wf_X11_58 dX11_refusalOfPlace_21 ?_
    refine lv_iload_n hx hb dX11_refusalOfPlace_24 rfl (lv_at hl 1 rfl) ?_
    refine lv_iload_n hx hb dX11_refusalOfPlace_25 rfl (lv_at hl 2 rfl) ?_
    refine r_cP hS h (fun r hr => r_runV (As := [.int v1, .int v2]) (rest := []) hC kV_X11_383 cw_X8_hasPlace (rc_X8 (a := 0) h06 hP.l0 hC hP) hP (tRooms_hasPlace x al lv σ 0 h06 hP.l0 v1 v2 r hr) rfl hl.1 ⟨Nat.le_of_ble_eq_true rfl, Nat.le_of_ble_eq_true rfl⟩ ⟨Nat.le_of_ble_eq_true rfl, Nat.le_of_ble_eq_true rfl⟩ (Nat.le_of_ble_eq_true rfl) dX11_refusalOfPlace_26) (fun y2 H locs h hP hS => ?_)
    refine lv_if_ne (tgt := 34) hx hb dX11_refusalOfPlace_29 (by decide) (fun hc => ?_) (fun hc => ?_)
    · replace h := (br h).2 hc
      refine lv_aload_n hx hb dX11_refusalOfPlace_34 rfl (lv_at hl 0 rfl) ?_
      refine gt_X11_0 hC hP wf_X11_12 dX11_refusalOfPlace_35 ?_
      refine gt_X10_5 (a := 0) h06 hP.l0 hC hP wf_X11_58 dX11_refusalOfPlace_38 ?_
      refine lv_iload_n hx hb dX11_refusalOfPlace_41 rfl (lv_at hl 1 rfl) ?_
      refine lv_aload_n hx hb dX11_refusalOfPlace_42 rfl (lv_at hl 0 rfl) ?_
      refine gt_X11_0 hC hP wf_X11_12 dX11_refusalOfPlace_43 ?_
      refine gt_X10_5 (a := 0) h06 hP.l0 hC hP wf_X11_58 dX11_refusalOfPlace_46 ?_
      refine lv_iload_n hx hb dX11_refusalOfPlace_49 rfl (lv_at hl 1 rfl) ?_
      refine lv_iload_n hx hb dX11_refusalOfPlace_50 rfl (lv_at hl 2 rfl) ?_
      refine r_cP hS h (fun r hr => r_runV (As := [.int v1, .int v2]) (rest := [.int v1, .ref (al 0 1)]) hC kV_X11_386 cw_X8_rowOf (rc_X8 (a := 0) h06 hP.l0 hC hP) hP (tRooms_rowOf x al lv σ 0 h06 hP.l0 v1 v2 r hr) rfl hl.1 ⟨Nat.le_of_ble_eq_true rfl, Nat.le_of_ble_eq_true rfl⟩ ⟨Nat.le_of_ble_eq_true rfl, Nat.le_of_ble_eq_true rfl⟩ (Nat.le_of_ble_eq_true rfl) dX11_refusalOfPlace_51) (fun y3 H locs h hP hS => ?_)
      refine r_cP hS h (fun r hr => r_runV (As := [.int v1, .int y3]) (rest := []) hC kV_X11_130 cw_X8_isLaid (rc_X8 (a := 0) h06 hP.l0 hC hP) hP (tRooms_isLaid x al lv σ 0 h06 hP.l0 v1 y3 r hr) rfl hl.1 ⟨Nat.le_of_ble_eq_true rfl, Nat.le_of_ble_eq_true rfl⟩ ⟨Nat.le_of_ble_eq_true rfl, Nat.le_of_ble_eq_true rfl⟩ (Nat.le_of_ble_eq_true rfl) dX11_refusalOfPlace_54) (fun y4 H locs h hP hS => ?_)
      refine lv_if_eq (tgt := 64) hx hb dX11_refusalOfPlace_57 (by decide) (fun hc => ?_) (fun hc => ?_)
      · replace h := (br h).1 hc
        refine lv_bipush (v := (-3)) hx hb dX11_refusalOfPlace_64 (by decide) ?_
        exact r_retP hC hP hS rfl h dX11_refusalOfPlace_66
      · replace h := (br h).2 hc
        refine lv_iconst (v := 0) hx hb dX11_refusalOfPlace_60 (by decide) ?_
        refine lv_goto (tgt := 66) hx hb dX11_refusalOfPlace_61 (by decide) ?_
        exact r_retP hC hP hS rfl h dX11_refusalOfPlace_66
    · replace h := (br h).1 hc
      refine lv_iconst (v := (-1)) hx hb dX11_refusalOfPlace_32 (by decide) ?_
      exact r_retP hC hP hS rfl h dX11_refusalOfPlace_33
  · replace h := (br h).1 hc
    refine lv_bipush (v := (-2)) hx hb dX11_refusalOfPlace_14 (by decide) ?_
    exact r_retP hC hP hS rfl h dX11_refusalOfPlace_16

set_option maxRecDepth 20000 in
theorem tI_refusalOfPlace {l : Launch} (x : Wx) (al : Nat → Nat → Nat) (lv : Nat → Bool) (σ : Sg) (v1 : Int32) (v2 : Int32) (res : Int32) (h : fI_refusalOfPlace σ v1 v2 = some res) : Met l yX11_refusalOfPlace (Cond.code yX11_refusalOfPlace cX11_refusalOfPlace 3 (some .int) :: lwg) (rmm 3 0 0) (va_Pc [.ref (al 6 0), .int v1, .int v2] (Wd x al lv σ)) (QP x al lv σ res) 0 0 (Ab x) := by
  refine met_W (by decide) (Nat.le_of_ble_eq_true rfl) rfl (fun p e s m args below meth c ls hC hP hS hl => ?_)
  exact wI_refusalOfPlace_0  hC v1 v2 _ _ ls h hP hS hl
set_option maxHeartbeats 4000000 in
set_option maxRecDepth 20000 in
theorem wI_refusalToFill_0 {p : Program} {l : Launch} {e : Env} {s : State} {m : MethodId} {args : Array Value} {below : List Frame} {meth : Method} {c : Code} {x : Wx} {al : Nat → Nat → Nat} {lv : Nat → Bool} {res : Int32} {σ : Sg} (hC : Cx x p s m args meth c cX11_refusalToFill 4 (some .int) RX11) (v1 : Int32) (v2 : Int32) (H : Heap) (locs : List Loc) (ls : Array Slot) (h : fI_refusalToFill_0 σ v1 v2 = some res) (hP : Pic x al lv σ H) (hS : va_S (Ab x) s.heap H locs) (hl : lv_has ls 4 [(0, .ref (al 6 0)), (1, .int v1), (2, .int v2)]) : W p l e (rmm 4 0 0) s m args below meth c H locs 0 0 (MQ below (QP x al lv σ res) args s 0 0 (Ab x)) (F0 m 0 ls []) := by
  obtain ⟨hx, hb, hml, hown, hts⟩ := hC.1
  unfold fI_refusalToFill_0 at h
  refine lv_aload_n hx hb dX11_refusalToFill_0 rfl (lv_at hl 0 rfl) ?_
  refine lv_iload_n hx hb dX11_refusalToFill_1 rfl (lv_at hl 1 rfl) ?_
  refine lv_iload_n hx hb dX11_refusalToFill_2 rfl (lv_at hl 2 rfl) ?_
  refine r_cP hS h (fun r hr => r_runV (As := [.int v1, .int v2]) (rest := []) hC kV_X11_165 cw_X11_refusalOfPlace (rc_X11 hC hP) hP (tI_refusalOfPlace x al lv σ v1 v2 r hr) rfl hl.1 ⟨Nat.le_of_ble_eq_true rfl, Nat.le_of_ble_eq_true rfl⟩ ⟨Nat.le_of_ble_eq_true rfl, Nat.le_of_ble_eq_true rfl⟩ (Nat.le_of_ble_eq_true rfl) dX11_refusalToFill_3) (fun y1 H locs h hP hS => ?_)
  refine lv_istore_n (lv' := [(3, .int y1), (0, .ref (al 6 0)), (1, .int v1), (2, .int v2)]) hx hb dX11_refusalToFill_6 rfl hl (by decide) rfl (fun ls hl => ?_)
  refine lv_iload_n hx hb dX11_refusalToFill_7 rfl (lv_at hl 0 rfl) ?_
  refine lv_if_eq (tgt := 13) hx hb dX11_refusalToFill_8 (by decide) (fun hc => ?_) (fun hc => ?_)
  · replace h := (br h).1 hc
    refine lv_aload_n hx hb dX11_refusalToFill_13 rfl (lv_at hl 1 rfl) ?_
    refine gt_X11_0 hC hP wf_X11_12 dX11_refusalToFill_14 ?_
    refine gt_X10_5 (a := 0) h06 hP.l0 hC hP wf_X11_58 dX11_refusalToFill_17 ?_
    refine lv_iload_n hx hb dX11_refusalToFill_20 rfl (lv_at hl 2 rfl) ?_
    refine lv_iload_n hx hb dX11_refusalToFill_21 rfl (lv_at hl 3 rfl) ?_
    refine r_cP hS h (fun r hr => r_runV (As := [.int v1, .int v2]) (rest := []) hC kV_X11_168 cw_X8_at (rc_X8 (a := 0) h06 hP.l0 hC hP) hP (tRooms_at x al lv σ 0 h06 hP.l0 v1 v2 r hr) rfl hl.1 ⟨Nat.le_of_ble_eq_true rfl, Nat.le_of_ble_eq_true rfl⟩ ⟨Nat.le_of_ble_eq_true rfl, Nat.le_of_ble_eq_true rfl⟩ (Nat.le_of_ble_eq_true rfl) dX11_refusalToFill_22) (fun y2 H locs h hP hS => ?_)
    refine lv_if_eq (tgt := 31) hx hb dX11_refusalToFill_25 (by decide) (fun hc => ?_) (fun hc => ?_)
    · replace h := (br h).1 hc
      refine lv_aload_n hx hb dX11_refusalToFill_31 rfl (lv_at hl 1 rfl) ?_
      refine gt_X11_0 hC hP wf_X11_12 dX11_refusalToFill_32 ?_
      refine gt_X10_5 (a := 0) h06 hP.l0 hC hP wf_X11_58 dX11_refusalToFill_35 ?_
      refine lv_iload_n hx hb dX11_refusalToFill_38 rfl (lv_at hl 2 rfl) ?_
      refine lv_iload_n hx hb dX11_refusalToFill_39 rfl (lv_at hl 3 rfl) ?_
      refine r_cP hS h (fun r hr => r_runV (As := [.int v1, .int v2]) (rest := []) hC kV_X11_389 cw_X8_bears (rc_X8 (a := 0) h06 hP.l0 hC hP) hP (tRooms_bears x al lv σ 0 h06 hP.l0 v1 v2 r hr) rfl hl.1 ⟨Nat.le_of_ble_eq_true rfl, Nat.le_of_ble_eq_true rfl⟩ ⟨Nat.le_of_ble_eq_true rfl, Nat.le_of_ble_eq_true rfl⟩ (Nat.le_of_ble_eq_true rfl) dX11_refusalToFill_40) (fun y3 H locs h hP hS => ?_)
      refine lv_if_eq (tgt := 50) hx hb dX11_refusalToFill_43 (by decide) (fun hc => ?_) (fun hc => ?_)
      · replace h := (br h).1 hc
        refine lv_bipush (v := (-5)) hx hb dX11_refusalToFill_50 (by decide) ?_
        exact r_retP hC hP hS rfl h dX11_refusalToFill_52
      · replace h := (br h).2 hc
        refine lv_iconst (v := 0) hx hb dX11_refusalToFill_46 (by decide) ?_
        refine lv_goto (tgt := 52) hx hb dX11_refusalToFill_47 (by decide) ?_
        exact r_retP hC hP hS rfl h dX11_refusalToFill_52
    · replace h := (br h).2 hc
      refine lv_bipush (v := (-4)) hx hb dX11_refusalToFill_28 (by decide) ?_
      exact r_retP hC hP hS rfl h dX11_refusalToFill_30
  · replace h := (br h).2 hc
    refine lv_iload_n hx hb dX11_refusalToFill_11 rfl (lv_at hl 0 rfl) ?_
    exact r_retP hC hP hS rfl h dX11_refusalToFill_12

set_option maxRecDepth 20000 in
theorem tI_refusalToFill {l : Launch} (x : Wx) (al : Nat → Nat → Nat) (lv : Nat → Bool) (σ : Sg) (v1 : Int32) (v2 : Int32) (res : Int32) (h : fI_refusalToFill σ v1 v2 = some res) : Met l yX11_refusalToFill (Cond.code yX11_refusalToFill cX11_refusalToFill 4 (some .int) :: lwg) (rmm 4 0 0) (va_Pc [.ref (al 6 0), .int v1, .int v2] (Wd x al lv σ)) (QP x al lv σ res) 0 0 (Ab x) := by
  refine met_W (by decide) (Nat.le_of_ble_eq_true rfl) rfl (fun p e s m args below meth c ls hC hP hS hl => ?_)
  exact wI_refusalToFill_0  hC v1 v2 _ _ ls h hP hS hl
set_option maxHeartbeats 4000000 in
set_option maxRecDepth 20000 in
theorem wI_cut_71 {p : Program} {l : Launch} {e : Env} {s : State} {m : MethodId} {args : Array Value} {below : List Frame} {meth : Method} {c : Code} {x : Wx} {al : Nat → Nat → Nat} {lv : Nat → Bool} {res : Int32 × Sg} (hC : Cx x p s m args meth c cX11_cut 6 (some .int) RX11) (σ : Sg) (t0 : Int32) (H : Heap) (locs : List Loc) (ls : Array Slot) (h : fI_cut_71 σ t0 = some res) (hP : Pic x al lv σ H) (hS : va_S (Ab x) s.heap H locs) (hl : lv_has ls 6 []) : W p l e (rmm 6 0 0) s m args below meth c H locs 0 0 (MQ below (QI x al lv res) args s 0 0 (Ab x)) (F0 m 71 ls [.int t0, .ref (al 6 0)]) := by
  obtain ⟨hx, hb, hml, hown, hts⟩ := hC.1
  unfold fI_cut_71 at h
  refine r_cI hS h (fun r hr => r_runV (As := [.int t0]) (rest := []) hC kV_X11_72 cw_X11_answer (rc_X11 hC hP) hP (tI_answer x al lv σ t0 r hr) rfl hl.1 ⟨Nat.le_of_ble_eq_true rfl, Nat.le_of_ble_eq_true rfl⟩ ⟨Nat.le_of_ble_eq_true rfl, Nat.le_of_ble_eq_true rfl⟩ (Nat.le_of_ble_eq_true rfl) dX11_cut_71) (fun y7 σ8 H locs h hP hS => ?_)
  exact r_retI hC hP hS rfl h dX11_cut_74

set_option maxHeartbeats 4000000 in
set_option maxRecDepth 20000 in
theorem wI_cut_48 {p : Program} {l : Launch} {e : Env} {s : State} {m : MethodId} {args : Array Value} {below : List Frame} {meth : Method} {c : Code} {x : Wx} {al : Nat → Nat → Nat} {lv : Nat → Bool} {res : Int32 × Sg} (hC : Cx x p s m args meth c cX11_cut 6 (some .int) RX11) (σ : Sg) (x1 : Int32) (x2 : Int32) (x3 : Int32) (x4 : Int32) (x5 : Int32) (H : Heap) (locs : List Loc) (ls : Array Slot) (h : fI_cut_48 σ x1 x2 x3 x4 x5 = some res) (hP : Pic x al lv σ H) (hS : va_S (Ab x) s.heap H locs) (hl : lv_has ls 6 [(0, .ref (al 6 0)), (1, .int x1), (2, .int x2), (3, .int x3), (4, .int x4), (5, .int x5)]) : W p l e (rmm 6 0 0) s m args below meth c H locs 0 0 (MQ below (QI x al lv res) args s 0 0 (Ab x)) (F0 m 48 ls []) := by
  obtain ⟨hx, hb, hml, hown, hts⟩ := hC.1
  unfold fI_cut_48 at h
  refine lv_aload_n hx hb dX11_cut_48 rfl (lv_at hl 0 rfl) ?_
  refine lv_iload hx hb dX11_cut_49 (lv_at hl 5 rfl) ?_
  refine lv_if_eq (tgt := 59) hx hb dX11_cut_51 (by decide) (fun hc => ?_) (fun hc => ?_)
  · replace h := (br h).1 hc
    refine lv_aload_n hx hb dX11_cut_59 rfl (lv_at hl 0 rfl) ?_
    refine gt_X11_0 hC hP wf_X11_12 dX11_cut_60 ?_
    refine lv_iload_n hx hb dX11_cut_63 rfl (lv_at hl 1 rfl) ?_
    refine lv_iload_n hx hb dX11_cut_64 rfl (lv_at hl 2 rfl) ?_
    refine lv_iload_n hx hb dX11_cut_65 rfl (lv_at hl 3 rfl) ?_
    refine lv_iload hx hb dX11_cut_66 (lv_at hl 4 rfl) ?_
    refine r_cI hS h (fun r hr => r_runV (As := [.int x1, .int x2, .int x3, .int x4]) (rest := [.ref (al 6 0)]) hC kV_X11_154 cw_X10_cutBlock (rc_X10 (a := 0) h06 hP.l0 hC hP) hP (tStore_cutBlock x al lv σ 0 h06 hP.l0 x1 x2 x3 x4 r hr) rfl hl.1 ⟨Nat.le_of_ble_eq_true rfl, Nat.le_of_ble_eq_true rfl⟩ ⟨Nat.le_of_ble_eq_true rfl, Nat.le_of_ble_eq_true rfl⟩ (Nat.le_of_ble_eq_true rfl) dX11_cut_68) (fun y5 σ6 H locs h hP hS => ?_)
    exact wI_cut_71  hC  σ6 y5 H locs ls h hP hS (lv_sub hl [] rfl)
  · replace h := (br h).2 hc
    refine lv_iload hx hb dX11_cut_54 (lv_at hl 5 rfl) ?_
    refine lv_goto (tgt := 71) hx hb dX11_cut_56 (by decide) ?_
    exact wI_cut_71  hC  σ x5 H locs ls h hP hS (lv_sub hl [] rfl)

set_option maxHeartbeats 4000000 in
set_option maxRecDepth 20000 in
theorem wI_cut_0 {p : Program} {l : Launch} {e : Env} {s : State} {m : MethodId} {args : Array Value} {below : List Frame} {meth : Method} {c : Code} {x : Wx} {al : Nat → Nat → Nat} {lv : Nat → Bool} {res : Int32 × Sg} (hC : Cx x p s m args meth c cX11_cut 6 (some .int) RX11) (σ : Sg) (v1 : Int32) (v2 : Int32) (v3 : Int32) (v4 : Int32) (H : Heap) (locs : List Loc) (ls : Array Slot) (h : fI_cut_0 σ v1 v2 v3 v4 = some res) (hP : Pic x al lv σ H) (hS : va_S (Ab x) s.heap H locs) (hl : lv_has ls 6 [(0, .ref (al 6 0)), (1, .int v1), (2, .int v2), (3, .int v3), (4, .int v4)]) : W p l e (rmm 6 0 0) s m args below meth c H locs 0 0 (MQ below (QI x al lv res) args s 0 0 (Ab x)) (F0 m 0 ls []) := by
  obtain ⟨hx, hb, hml, hown, hts⟩ := hC.1
  unfold fI_cut_0 at h
  refine lv_iload_n hx hb dX11_cut_0 rfl (lv_at hl 3 rfl) ?_
  refine lv_iload hx hb dX11_cut_1 (lv_at hl 4 rfl) ?_
  refine r_cP hS h (fun r hr => r_runS (As := [.int v3, .int v4]) (rest := []) hC kS_X11_140 cw_X11_isWeightOfKind hP (tI_isWeightOfKind x al lv σ v3 v4 r hr) rfl hl.1 ⟨Nat.le_of_ble_eq_true rfl, Nat.le_of_ble_eq_true rfl⟩ ⟨Nat.le_of_ble_eq_true rfl, Nat.le_of_ble_eq_true rfl⟩ (Nat.le_of_ble_eq_true rfl) dX11_cut_3) (fun y1 H locs h hP hS => ?_)
  refine lv_if_ne (tgt := 15) hx hb dX11_cut_6 (by decide) (fun hc => ?_) (fun hc => ?_)
  · replace h := (br h).2 hc
    refine lv_aload_n hx hb dX11_cut_15 rfl (lv_at hl 0 rfl) ?_
    refine lv_iload_n hx hb dX11_cut_16 rfl (lv_at hl 1 rfl) ?_
    refine lv_iload_n hx hb dX11_cut_17 rfl (lv_at hl 2 rfl) ?_
    refine r_cP hS h (fun r hr => r_runV (As := [.int v1, .int v2]) (rest := []) hC kV_X11_143 cw_X11_refusalToFill (rc_X11 hC hP) hP (tI_refusalToFill x al lv σ v1 v2 r hr) rfl hl.1 ⟨Nat.le_of_ble_eq_true rfl, Nat.le_of_ble_eq_true rfl⟩ ⟨Nat.le_of_ble_eq_true rfl, Nat.le_of_ble_eq_true rfl⟩ (Nat.le_of_ble_eq_true rfl) dX11_cut_18) (fun y2 H locs h hP hS => ?_)
    refine lv_istore (lv' := [(5, .int y2), (0, .ref (al 6 0)), (1, .int v1), (2, .int v2), (3, .int v3), (4, .int v4)]) hx hb dX11_cut_21 hl (by decide) rfl (fun ls hl => ?_)
    refine lv_iload hx hb dX11_cut_23 (lv_at hl 0 rfl) ?_
    refine lv_if_ne (tgt := 48) hx hb dX11_cut_25 (by decide) (fun hc => ?_) (fun hc => ?_)
    · replace h := (br h).2 hc
      exact wI_cut_48  hC  σ v1 v2 v3 v4 y2 H locs ls h hP hS (lv_sub hl [1, 2, 3, 4, 5, 0] rfl)
    · replace h := (br h).1 hc
      refine lv_aload_n hx hb dX11_cut_28 rfl (lv_at hl 1 rfl) ?_
      refine gt_X11_0 hC hP wf_X11_12 dX11_cut_29 ?_
      refine gt_X10_6 (a := 0) h06 hP.l0 hC hP wf_X11_147 dX11_cut_32 ?_
      refine gt_X0_0 (a := 0) h06 hP.l0 hC hP wf_X11_151 dX11_cut_35 ?_
      refine lv_sipush (v := 300) hx hb dX11_cut_38 (by decide) ?_
      refine lv_icmp_lt (tgt := 48) hx hb dX11_cut_41 (by decide) (fun hc => ?_) (fun hc => ?_)
      · replace h := (br h).1 hc
        exact wI_cut_48  hC  σ v1 v2 v3 v4 y2 H locs ls h hP hS (lv_sub hl [1, 2, 3, 4, 5, 0] rfl)
      · replace h := (br h).2 hc
        refine lv_bipush (v := (-6)) hx hb dX11_cut_44 (by decide) ?_
        refine lv_istore (lv' := [(5, .int ((-6))), (0, .ref (al 6 0)), (1, .int v1), (2, .int v2), (3, .int v3), (4, .int v4)]) hx hb dX11_cut_46 hl (by decide) rfl (fun ls hl => ?_)
        exact wI_cut_48  hC  σ v1 v2 v3 v4 ((-6)) H locs ls h hP hS (lv_sub hl [1, 2, 3, 4, 5, 0] rfl)
  · replace h := (br h).1 hc
    refine lv_aload_n hx hb dX11_cut_9 rfl (lv_at hl 0 rfl) ?_
    refine lv_iconst (v := (-1)) hx hb dX11_cut_10 (by decide) ?_
    refine r_cI hS h (fun r hr => r_runV (As := [.int ((-1))]) (rest := []) hC kV_X11_72 cw_X11_answer (rc_X11 hC hP) hP (tI_answer x al lv σ ((-1)) r hr) rfl hl.1 ⟨Nat.le_of_ble_eq_true rfl, Nat.le_of_ble_eq_true rfl⟩ ⟨Nat.le_of_ble_eq_true rfl, Nat.le_of_ble_eq_true rfl⟩ (Nat.le_of_ble_eq_true rfl) dX11_cut_11) (fun y3 σ4 H locs h hP hS => ?_)
    exact r_retI hC hP hS rfl h dX11_cut_14

set_option maxRecDepth 20000 in
theorem tI_cut {l : Launch} (x : Wx) (al : Nat → Nat → Nat) (lv : Nat → Bool) (σ : Sg) (v1 : Int32) (v2 : Int32) (v3 : Int32) (v4 : Int32) (res : Int32 × Sg) (h : fI_cut σ v1 v2 v3 v4 = some res) : Met l yX11_cut (Cond.code yX11_cut cX11_cut 6 (some .int) :: lwg) (rmm 6 0 0) (va_Pc [.ref (al 6 0), .int v1, .int v2, .int v3, .int v4] (Wd x al lv σ)) (QI x al lv res) 0 0 (Ab x) := by
  refine met_W (by decide) (Nat.le_of_ble_eq_true rfl) rfl (fun p e s m args below meth c ls hC hP hS hl => ?_)
  exact wI_cut_0  hC σ v1 v2 v3 v4 _ _ ls h hP hS hl
set_option maxHeartbeats 4000000 in
set_option maxRecDepth 20000 in
theorem wI_put_76 {p : Program} {l : Launch} {e : Env} {s : State} {m : MethodId} {args : Array Value} {below : List Frame} {meth : Method} {c : Code} {x : Wx} {al : Nat → Nat → Nat} {lv : Nat → Bool} {res : Int32 × Sg} (hC : Cx x p s m args meth c cX11_put 5 (some .int) RX11) (σ : Sg) (x4 : Int32) (H : Heap) (locs : List Loc) (ls : Array Slot) (h : fI_put_76 σ x4 = some res) (hP : Pic x al lv σ H) (hS : va_S (Ab x) s.heap H locs) (hl : lv_has ls 5 [(0, .ref (al 6 0)), (4, .int x4)]) : W p l e (rmm 5 0 0) s m args below meth c H locs 0 0 (MQ below (QI x al lv res) args s 0 0 (Ab x)) (F0 m 76 ls []) := by
  obtain ⟨hx, hb, hml, hown, hts⟩ := hC.1
  unfold fI_put_76 at h
  refine lv_aload_n hx hb dX11_put_76 rfl (lv_at hl 0 rfl) ?_
  refine lv_iload hx hb dX11_put_77 (lv_at hl 1 rfl) ?_
  refine r_cI hS h (fun r hr => r_runV (As := [.int x4]) (rest := []) hC kV_X11_72 cw_X11_answer (rc_X11 hC hP) hP (tI_answer x al lv σ x4 r hr) rfl hl.1 ⟨Nat.le_of_ble_eq_true rfl, Nat.le_of_ble_eq_true rfl⟩ ⟨Nat.le_of_ble_eq_true rfl, Nat.le_of_ble_eq_true rfl⟩ (Nat.le_of_ble_eq_true rfl) dX11_put_79) (fun y7 σ8 H locs h hP hS => ?_)
  exact r_retI hC hP hS rfl h dX11_put_82

set_option maxHeartbeats 4000000 in
set_option maxRecDepth 20000 in
theorem wI_put_73 {p : Program} {l : Launch} {e : Env} {s : State} {m : MethodId} {args : Array Value} {below : List Frame} {meth : Method} {c : Code} {x : Wx} {al : Nat → Nat → Nat} {lv : Nat → Bool} {res : Int32 × Sg} (hC : Cx x p s m args meth c cX11_put 5 (some .int) RX11) (σ : Sg) (x4 : Int32) (t0 : Int32) (t1 : Int32) (t2 : Int32) (H : Heap) (locs : List Loc) (ls : Array Slot) (h : fI_put_73 σ x4 t0 t1 t2 = some res) (hP : Pic x al lv σ H) (hS : va_S (Ab x) s.heap H locs) (hl : lv_has ls 5 [(0, .ref (al 6 0)), (4, .int x4)]) : W p l e (rmm 5 0 0) s m args below meth c H locs 0 0 (MQ below (QI x al lv res) args s 0 0 (Ab x)) (F0 m 73 ls [.int t0, .int t1, .int t2, .ref (al 0 1)]) := by
  obtain ⟨hx, hb, hml, hown, hts⟩ := hC.1
  unfold fI_put_73 at h
  refine r_cV hS h (fun r hr => r_runV (As := [.int t2, .int t1, .int t0]) (rest := []) hC kV_X11_161 cw_X8_fill (rc_X8 (a := 0) h06 hP.l0 hC hP) hP (tRooms_fill x al lv σ 0 h06 hP.l0 t2 t1 t0 r hr) rfl hl.1 ⟨Nat.le_of_ble_eq_true rfl, Nat.le_of_ble_eq_true rfl⟩ ⟨Nat.le_of_ble_eq_true rfl, Nat.le_of_ble_eq_true rfl⟩ (Nat.le_of_ble_eq_true rfl) dX11_put_73) (fun σ6 H locs h hP hS => ?_)
  exact wI_put_76  hC  σ6 x4 H locs ls h hP hS (lv_sub hl [0, 1] rfl)

set_option maxHeartbeats 4000000 in
set_option maxRecDepth 20000 in
theorem wI_put_50 {p : Program} {l : Launch} {e : Env} {s : State} {m : MethodId} {args : Array Value} {below : List Frame} {meth : Method} {c : Code} {x : Wx} {al : Nat → Nat → Nat} {lv : Nat → Bool} {res : Int32 × Sg} (hC : Cx x p s m args meth c cX11_put 5 (some .int) RX11) (σ : Sg) (x1 : Int32) (x2 : Int32) (x3 : Int32) (x4 : Int32) (H : Heap) (locs : List Loc) (ls : Array Slot) (h : fI_put_50 σ x1 x2 x3 x4 = some res) (hP : Pic x al lv σ H) (hS : va_S (Ab x) s.heap H locs) (hl : lv_has ls 5 [(0, .ref (al 6 0)), (1, .int x1), (2, .int x2), (3, .int x3), (4, .int x4)]) : W p l e (rmm 5 0 0) s m args below meth c H locs 0 0 (MQ below (QI x al lv res) args s 0 0 (Ab x)) (F0 m 50 ls []) := by
  obtain ⟨hx, hb, hml, hown, hts⟩ := hC.1
  unfold fI_put_50 at h
  refine lv_iload hx hb dX11_put_50 (lv_at hl 4 rfl) ?_
  refine lv_if_ne (tgt := 76) hx hb dX11_put_52 (by decide) (fun hc => ?_) (fun hc => ?_)
  · replace h := (br h).2 hc
    exact wI_put_76  hC  σ x4 H locs ls h hP hS (lv_sub hl [0, 4] rfl)
  · replace h := (br h).1 hc
    refine lv_aload_n hx hb dX11_put_55 rfl (lv_at hl 0 rfl) ?_
    refine gt_X11_0 hC hP wf_X11_12 dX11_put_56 ?_
    refine gt_X10_5 (a := 0) h06 hP.l0 hC hP wf_X11_58 dX11_put_59 ?_
    refine lv_iload_n hx hb dX11_put_62 rfl (lv_at hl 1 rfl) ?_
    refine lv_iload_n hx hb dX11_put_63 rfl (lv_at hl 2 rfl) ?_
    refine lv_iload_n hx hb dX11_put_64 rfl (lv_at hl 3 rfl) ?_
    refine lv_if_ne (tgt := 72) hx hb dX11_put_65 (by decide) (fun hc => ?_) (fun hc => ?_)
    · replace h := (br h).2 hc
      refine lv_iconst (v := 2) hx hb dX11_put_72 (by decide) ?_
      exact wI_put_73  hC  σ x4 2 x2 x1 H locs ls h hP hS (lv_sub hl [0, 4] rfl)
    · replace h := (br h).1 hc
      refine lv_iconst (v := 1) hx hb dX11_put_68 (by decide) ?_
      refine lv_goto (tgt := 73) hx hb dX11_put_69 (by decide) ?_
      exact wI_put_73  hC  σ x4 1 x2 x1 H locs ls h hP hS (lv_sub hl [0, 4] rfl)

set_option maxHeartbeats 4000000 in
set_option maxRecDepth 20000 in
theorem wI_put_0 {p : Program} {l : Launch} {e : Env} {s : State} {m : MethodId} {args : Array Value} {below : List Frame} {meth : Method} {c : Code} {x : Wx} {al : Nat → Nat → Nat} {lv : Nat → Bool} {res : Int32 × Sg} (hC : Cx x p s m args meth c cX11_put 5 (some .int) RX11) (σ : Sg) (v1 : Int32) (v2 : Int32) (v3 : Int32) (H : Heap) (locs : List Loc) (ls : Array Slot) (h : fI_put_0 σ v1 v2 v3 = some res) (hP : Pic x al lv σ H) (hS : va_S (Ab x) s.heap H locs) (hl : lv_has ls 5 [(0, .ref (al 6 0)), (1, .int v1), (2, .int v2), (3, .int v3)]) : W p l e (rmm 5 0 0) s m args below meth c H locs 0 0 (MQ below (QI x al lv res) args s 0 0 (Ab x)) (F0 m 0 ls []) := by
  obtain ⟨hx, hb, hml, hown, hts⟩ := hC.1
  unfold fI_put_0 at h
  refine lv_iload_n hx hb dX11_put_0 rfl (lv_at hl 3 rfl) ?_
  refine lv_iconst (v := 0) hx hb dX11_put_1 (by decide) ?_
  refine lv_iconst (v := 1) hx hb dX11_put_2 (by decide) ?_
  refine r_cP hS h (fun r hr => r_runS (As := [.int v3, .int 0, .int 1]) (rest := []) hC kS_X11_68 cw_X11_within hP (tI_within x al lv σ v3 0 1 r hr) rfl hl.1 ⟨Nat.le_of_ble_eq_true rfl, Nat.le_of_ble_eq_true rfl⟩ ⟨Nat.le_of_ble_eq_true rfl, Nat.le_of_ble_eq_true rfl⟩ (Nat.le_of_ble_eq_true rfl) dX11_put_3) (fun y1 H locs h hP hS => ?_)
  refine lv_if_ne (tgt := 15) hx hb dX11_put_6 (by decide) (fun hc => ?_) (fun hc => ?_)
  · replace h := (br h).2 hc
    refine lv_aload_n hx hb dX11_put_15 rfl (lv_at hl 0 rfl) ?_
    refine lv_iload_n hx hb dX11_put_16 rfl (lv_at hl 1 rfl) ?_
    refine lv_iload_n hx hb dX11_put_17 rfl (lv_at hl 2 rfl) ?_
    refine r_cP hS h (fun r hr => r_runV (As := [.int v1, .int v2]) (rest := []) hC kV_X11_143 cw_X11_refusalToFill (rc_X11 hC hP) hP (tI_refusalToFill x al lv σ v1 v2 r hr) rfl hl.1 ⟨Nat.le_of_ble_eq_true rfl, Nat.le_of_ble_eq_true rfl⟩ ⟨Nat.le_of_ble_eq_true rfl, Nat.le_of_ble_eq_true rfl⟩ (Nat.le_of_ble_eq_true rfl) dX11_put_18) (fun y2 H locs h hP hS => ?_)
    refine lv_istore (lv' := [(4, .int y2), (0, .ref (al 6 0)), (1, .int v1), (2, .int v2), (3, .int v3)]) hx hb dX11_put_21 hl (by decide) rfl (fun ls hl => ?_)
    refine lv_iload hx hb dX11_put_23 (lv_at hl 0 rfl) ?_
    refine lv_if_ne (tgt := 50) hx hb dX11_put_25 (by decide) (fun hc => ?_) (fun hc => ?_)
    · replace h := (br h).2 hc
      exact wI_put_50  hC  σ v1 v2 v3 y2 H locs ls h hP hS (lv_sub hl [1, 2, 3, 4, 0] rfl)
    · replace h := (br h).1 hc
      refine lv_iload_n hx hb dX11_put_28 rfl (lv_at hl 4 rfl) ?_
      refine lv_if_ne (tgt := 50) hx hb dX11_put_29 (by decide) (fun hc => ?_) (fun hc => ?_)
      · replace h := (br h).2 hc
        exact wI_put_50  hC  σ v1 v2 v3 y2 H locs ls h hP hS (lv_sub hl [1, 2, 3, 4, 0] rfl)
      · replace h := (br h).1 hc
        refine lv_aload_n hx hb dX11_put_32 rfl (lv_at hl 1 rfl) ?_
        refine gt_X11_0 hC hP wf_X11_12 dX11_put_33 ?_
        refine gt_X10_5 (a := 0) h06 hP.l0 hC hP wf_X11_58 dX11_put_36 ?_
        refine lv_iload_n hx hb dX11_put_39 rfl (lv_at hl 2 rfl) ?_
        refine r_cP hS h (fun r hr => r_runV (As := [.int v1]) (rest := []) hC kV_X11_158 cw_X8_mayHoldStraw (rc_X8 (a := 0) h06 hP.l0 hC hP) hP (tRooms_mayHoldStraw x al lv σ 0 h06 hP.l0 v1 r hr) rfl hl.1 ⟨Nat.le_of_ble_eq_true rfl, Nat.le_of_ble_eq_true rfl⟩ ⟨Nat.le_of_ble_eq_true rfl, Nat.le_of_ble_eq_true rfl⟩ (Nat.le_of_ble_eq_true rfl) dX11_put_40) (fun y3 H locs h hP hS => ?_)
        refine lv_if_ne (tgt := 50) hx hb dX11_put_43 (by decide) (fun hc => ?_) (fun hc => ?_)
        · replace h := (br h).2 hc
          exact wI_put_50  hC  σ v1 v2 v3 y2 H locs ls h hP hS (lv_sub hl [1, 2, 3, 4, 0] rfl)
        · replace h := (br h).1 hc
          refine lv_bipush (v := (-7)) hx hb dX11_put_46 (by decide) ?_
          refine lv_istore (lv' := [(4, .int ((-7))), (0, .ref (al 6 0)), (1, .int v1), (2, .int v2), (3, .int v3)]) hx hb dX11_put_48 hl (by decide) rfl (fun ls hl => ?_)
          exact wI_put_50  hC  σ v1 v2 v3 ((-7)) H locs ls h hP hS (lv_sub hl [1, 2, 3, 4, 0] rfl)
  · replace h := (br h).1 hc
    refine lv_aload_n hx hb dX11_put_9 rfl (lv_at hl 0 rfl) ?_
    refine lv_iconst (v := (-1)) hx hb dX11_put_10 (by decide) ?_
    refine r_cI hS h (fun r hr => r_runV (As := [.int ((-1))]) (rest := []) hC kV_X11_72 cw_X11_answer (rc_X11 hC hP) hP (tI_answer x al lv σ ((-1)) r hr) rfl hl.1 ⟨Nat.le_of_ble_eq_true rfl, Nat.le_of_ble_eq_true rfl⟩ ⟨Nat.le_of_ble_eq_true rfl, Nat.le_of_ble_eq_true rfl⟩ (Nat.le_of_ble_eq_true rfl) dX11_put_11) (fun y4 σ5 H locs h hP hS => ?_)
    exact r_retI hC hP hS rfl h dX11_put_14

set_option maxRecDepth 20000 in
theorem tI_put {l : Launch} (x : Wx) (al : Nat → Nat → Nat) (lv : Nat → Bool) (σ : Sg) (v1 : Int32) (v2 : Int32) (v3 : Int32) (res : Int32 × Sg) (h : fI_put σ v1 v2 v3 = some res) : Met l yX11_put (Cond.code yX11_put cX11_put 5 (some .int) :: lwg) (rmm 5 0 0) (va_Pc [.ref (al 6 0), .int v1, .int v2, .int v3] (Wd x al lv σ)) (QI x al lv res) 0 0 (Ab x) := by
  refine met_W (by decide) (Nat.le_of_ble_eq_true rfl) rfl (fun p e s m args below meth c ls hC hP hS hl => ?_)
  exact wI_put_0  hC σ v1 v2 v3 _ _ ls h hP hS hl
