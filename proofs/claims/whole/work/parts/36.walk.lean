set_option maxHeartbeats 4000000 in
set_option maxRecDepth 20000 in
theorem wRooms_isDrained_15_b {p : Program} {l : Launch} {e : Env} {s : State} {m : MethodId} {args : Array Value} {below : List Frame} {meth : Method} {c : Code} {x : Wx} {al : Nat → Nat → Nat} {lv : Nat → Bool} {res : Int32} {σ : Sg} {a : Nat} (hia : a < 6) (hla : lv a = true) (hC : Cx x p s m args meth c cX8_isDrained 5 (some .boolean) RX8) (k15 : Int32 → Int32 → Int32 → Option (Int32)) (hk15 : ∀ (x1 : Int32) (x3 : Int32) (x4 : Int32) (H : Heap) (locs : List Loc) (ls : Array Slot), k15 x1 x3 x4 = some res → Pic x al lv σ H → va_S (Ab x) s.heap H locs → lv_has ls 5 [(0, .ref (al a 1)), (1, .int x1), (3, .int x3), (4, .int x4)] → W p l e (rmm 2 0 0) s m args below meth c H locs 0 0 (MQ below (QP x al lv σ res) args s 0 0 (Ab x)) (F0 m 15 ls [])) (x1 : Int32) (x3 : Int32) (x4 : Int32) (H : Heap) (locs : List Loc) (ls : Array Slot) (h : fRooms_isDrained_15_b k15 σ a x1 x3 x4 = some res) (hP : Pic x al lv σ H) (hS : va_S (Ab x) s.heap H locs) (hl : lv_has ls 5 [(0, .ref (al a 1)), (1, .int x1), (3, .int x3), (4, .int x4)]) : W p l e (rmm 2 0 0) s m args below meth c H locs 0 0 (MQ below (QP x al lv σ res) args s 0 0 (Ab x)) (F0 m 15 ls []) := by
  obtain ⟨hx, hb, hml, hown, hts⟩ := hC.1
  unfold fRooms_isDrained_15_b at h
  refine lv_iload hx hb dX8_isDrained_15 (lv_at hl 3 rfl) ?_
  refine lv_iconst (v := 5) hx hb dX8_isDrained_17 (by decide) ?_
  refine lv_icmp_ge (tgt := 48) hx hb dX8_isDrained_18 (by decide) (fun hc => ?_) (fun hc => ?_)
  · replace h := (br h).1 hc
    refine lv_iconst (v := 0) hx hb dX8_isDrained_48 (by decide) ?_
    exact r_retP hC hP hS rfl h dX8_isDrained_49
  · replace h := (br h).2 hc
    refine lv_iload_n hx hb dX8_isDrained_21 rfl (lv_at hl 2 rfl) ?_
    refine lv_aload_n hx hb dX8_isDrained_22 rfl (lv_at hl 0 rfl) ?_
    refine gt_X8_6 (a := a) hia hla hC hP wf_X8_27 dX8_isDrained_23 ?_
    refine lv_iload_n hx hb dX8_isDrained_26 rfl (lv_at hl 1 rfl) ?_
    refine r_iald hC hP (aS_7 (a := a) hia hla) h dX8_isDrained_27 (fun h => ?_)
    refine lv_isub hx hb dX8_isDrained_28 ?_
    refine r_lt h (fun y2 h => ?_)
    refine lv_istore_n (lv' := [(3, .int y2), (0, .ref (al a 1)), (1, .int x1), (4, .int x4)]) hx hb dX8_isDrained_29 rfl hl (by decide) rfl (fun ls hl => ?_)
    refine lv_aload_n hx hb dX8_isDrained_30 rfl (lv_at hl 1 rfl) ?_
    refine lv_iload_n hx hb dX8_isDrained_31 rfl (lv_at hl 2 rfl) ?_
    refine lv_iload_n hx hb dX8_isDrained_32 rfl (lv_at hl 0 rfl) ?_
    refine r_cP hS h (fun r hr => r_runV (As := [.int x1, .int y2]) (rest := []) hC kV_X8_76 cw_X8_at (rc_X8 (a := a) hia hla hC hP) hP (tRooms_at x al lv σ a hia hla x1 y2 r hr) rfl hl.1 ⟨Nat.le_of_ble_eq_true rfl, Nat.le_of_ble_eq_true rfl⟩ ⟨Nat.le_of_ble_eq_true rfl, Nat.le_of_ble_eq_true rfl⟩ (Nat.le_of_ble_eq_true rfl) dX8_isDrained_33) (fun y3 H locs h hP hS => ?_)
    refine lv_iconst (v := 2) hx hb dX8_isDrained_36 (by decide) ?_
    refine lv_icmp_ne (tgt := 42) hx hb dX8_isDrained_37 (by decide) (fun hc => ?_) (fun hc => ?_)
    · replace h := (br h).2 hc
      refine r_iinc (v := 1) hC h dX8_isDrained_42 hl (k := 3) rfl rfl (by decide) (fun y4 => [(4, .int y4), (3, .int y2), (0, .ref (al a 1)), (1, .int x1)]) (fun _ => rfl) (fun y4 ls h hl => ?_)
      refine lv_goto (tgt := 15) hx hb dX8_isDrained_45 (by decide) ?_
      exact hk15 x1 y2 y4 H locs ls h hP hS (lv_sub hl [2, 3, 1, 0] rfl)
    · replace h := (br h).1 hc
      refine lv_iconst (v := 1) hx hb dX8_isDrained_40 (by decide) ?_
      exact r_retP hC hP hS rfl h dX8_isDrained_41

set_option maxHeartbeats 4000000 in
set_option maxRecDepth 20000 in
theorem wRooms_isDrained_15 {p : Program} {l : Launch} {e : Env} {s : State} {m : MethodId} {args : Array Value} {below : List Frame} {meth : Method} {c : Code} {x : Wx} {al : Nat → Nat → Nat} {lv : Nat → Bool} {res : Int32} {σ : Sg} {a : Nat} (hia : a < 6) (hla : lv a = true) (hC : Cx x p s m args meth c cX8_isDrained 5 (some .boolean) RX8) (n : Nat) (x1 : Int32) (x3 : Int32) (x4 : Int32) (H : Heap) (locs : List Loc) (ls : Array Slot) (h : fRooms_isDrained_15 n σ a x1 x3 x4 = some res) (hP : Pic x al lv σ H) (hS : va_S (Ab x) s.heap H locs) (hl : lv_has ls 5 [(0, .ref (al a 1)), (1, .int x1), (3, .int x3), (4, .int x4)]) : W p l e (rmm 2 0 0) s m args below meth c H locs 0 0 (MQ below (QP x al lv σ res) args s 0 0 (Ab x)) (F0 m 15 ls []) := by
  induction n generalizing x1 x3 x4 H locs ls with
  | zero => exact nomatch h
  | succ n ih => exact wRooms_isDrained_15_b hia hla hC  _ (fun x1 x3 x4 H locs ls h hP hS hl => ih x1 x3 x4 H locs ls h hP hS hl) x1 x3 x4 H locs ls h hP hS hl
set_option maxHeartbeats 4000000 in
set_option maxRecDepth 20000 in
theorem wRooms_isDrained_0 {p : Program} {l : Launch} {e : Env} {s : State} {m : MethodId} {args : Array Value} {below : List Frame} {meth : Method} {c : Code} {x : Wx} {al : Nat → Nat → Nat} {lv : Nat → Bool} {res : Int32} {σ : Sg} {a : Nat} (hia : a < 6) (hla : lv a = true) (hC : Cx x p s m args meth c cX8_isDrained 5 (some .boolean) RX8) (v1 : Int32) (v2 : Int32) (H : Heap) (locs : List Loc) (ls : Array Slot) (h : fRooms_isDrained_0 σ a v1 v2 = some res) (hP : Pic x al lv σ H) (hS : va_S (Ab x) s.heap H locs) (hl : lv_has ls 5 [(0, .ref (al a 1)), (1, .int v1), (2, .int v2)]) : W p l e (rmm 2 0 0) s m args below meth c H locs 0 0 (MQ below (QP x al lv σ res) args s 0 0 (Ab x)) (F0 m 0 ls []) := by
  obtain ⟨hx, hb, hml, hown, hts⟩ := hC.1
  unfold fRooms_isDrained_0 at h
  refine lv_aload_n hx hb dX8_isDrained_0 rfl (lv_at hl 0 rfl) ?_
  refine lv_iload_n hx hb dX8_isDrained_1 rfl (lv_at hl 1 rfl) ?_
  refine r_cP hS h (fun r hr => r_runV (As := [.int v1]) (rest := []) hC kV_X8_89 cw_X8_hasDrainOnFloor (rc_X8 (a := a) hia hla hC hP) hP (tRooms_hasDrainOnFloor x al lv σ a hia hla v1 r hr) rfl hl.1 ⟨Nat.le_of_ble_eq_true rfl, Nat.le_of_ble_eq_true rfl⟩ ⟨Nat.le_of_ble_eq_true rfl, Nat.le_of_ble_eq_true rfl⟩ (Nat.le_of_ble_eq_true rfl) dX8_isDrained_2) (fun y1 H locs h hP hS => ?_)
  refine lv_if_eq (tgt := 10) hx hb dX8_isDrained_5 (by decide) (fun hc => ?_) (fun hc => ?_)
  · replace h := (br h).1 hc
    refine lv_iload_n hx hb dX8_isDrained_10 rfl (lv_at hl 2 rfl) ?_
    refine lv_istore_n (lv' := [(3, .int v2), (0, .ref (al a 1)), (1, .int v1), (2, .int v2)]) hx hb dX8_isDrained_11 rfl hl (by decide) rfl (fun ls hl => ?_)
    refine lv_iconst (v := 1) hx hb dX8_isDrained_12 (by decide) ?_
    refine lv_istore (lv' := [(4, .int 1), (3, .int v2), (0, .ref (al a 1)), (1, .int v1), (2, .int v2)]) hx hb dX8_isDrained_13 hl (by decide) rfl (fun ls hl => ?_)
    exact wRooms_isDrained_15 hia hla hC  FU v1 v2 1 H locs ls h hP hS (lv_sub hl [2, 3, 1, 0] rfl)
  · replace h := (br h).2 hc
    refine lv_iconst (v := 1) hx hb dX8_isDrained_8 (by decide) ?_
    exact r_retP hC hP hS rfl h dX8_isDrained_9

set_option maxRecDepth 20000 in
theorem tRooms_isDrained {l : Launch} (x : Wx) (al : Nat → Nat → Nat) (lv : Nat → Bool) (σ : Sg) (a : Nat) (hia : a < 6) (hla : lv a = true) (v1 : Int32) (v2 : Int32) (res : Int32) (h : fRooms_isDrained σ a v1 v2 = some res) : Met l yX8_isDrained (Cond.code yX8_isDrained cX8_isDrained 5 (some .boolean) :: lwg) (rmm 2 0 0) (va_Pc [.ref (al a 1), .int v1, .int v2] (Wd x al lv σ)) (QP x al lv σ res) 0 0 (Ab x) := by
  refine met_W (by decide) (Nat.le_of_ble_eq_true rfl) rfl (fun p e s m args below meth c ls hC hP hS hl => ?_)
  exact wRooms_isDrained_0 hia hla hC v1 v2 _ _ ls h hP hS hl
set_option maxHeartbeats 4000000 in
set_option maxRecDepth 20000 in
theorem wRooms_hasPlace_0 {p : Program} {l : Launch} {e : Env} {s : State} {m : MethodId} {args : Array Value} {below : List Frame} {meth : Method} {c : Code} {x : Wx} {al : Nat → Nat → Nat} {lv : Nat → Bool} {res : Int32} {σ : Sg} {a : Nat} (hia : a < 6) (hla : lv a = true) (hC : Cx x p s m args meth c cX8_hasPlace 3 (some .boolean) RX8) (v1 : Int32) (v2 : Int32) (H : Heap) (locs : List Loc) (ls : Array Slot) (h : fRooms_hasPlace_0 σ a v1 v2 = some res) (hP : Pic x al lv σ H) (hS : va_S (Ab x) s.heap H locs) (hl : lv_has ls 3 [(0, .ref (al a 1)), (1, .int v1), (2, .int v2)]) : W p l e (rmm 2 0 0) s m args below meth c H locs 0 0 (MQ below (QP x al lv σ res) args s 0 0 (Ab x)) (F0 m 0 ls []) := by
  obtain ⟨hx, hb, hml, hown, hts⟩ := hC.1
  unfold fRooms_hasPlace_0 at h
  refine lv_aload_n hx hb dX8_hasPlace_0 rfl (lv_at hl 0 rfl) ?_
  refine lv_iload_n hx hb dX8_hasPlace_1 rfl (lv_at hl 1 rfl) ?_
  refine r_cP hS h (fun r hr => r_runV (As := [.int v1]) (rest := []) hC kV_X8_65 cw_X8_has (rc_X8 (a := a) hia hla hC hP) hP (tRooms_has x al lv σ a hia hla v1 r hr) rfl hl.1 ⟨Nat.le_of_ble_eq_true rfl, Nat.le_of_ble_eq_true rfl⟩ ⟨Nat.le_of_ble_eq_true rfl, Nat.le_of_ble_eq_true rfl⟩ (Nat.le_of_ble_eq_true rfl) dX8_hasPlace_2) (fun y1 H locs h hP hS => ?_)
  refine lv_if_eq (tgt := 26) hx hb dX8_hasPlace_5 (by decide) (fun hc => ?_) (fun hc => ?_)
  · replace h := (br h).1 hc
    refine lv_iconst (v := 0) hx hb dX8_hasPlace_26 (by decide) ?_
    exact r_retP hC hP hS rfl h dX8_hasPlace_27
  · replace h := (br h).2 hc
    refine lv_iload_n hx hb dX8_hasPlace_8 rfl (lv_at hl 2 rfl) ?_
    refine lv_if_lt (tgt := 26) hx hb dX8_hasPlace_9 (by decide) (fun hc => ?_) (fun hc => ?_)
    · replace h := (br h).1 hc
      refine lv_iconst (v := 0) hx hb dX8_hasPlace_26 (by decide) ?_
      exact r_retP hC hP hS rfl h dX8_hasPlace_27
    · replace h := (br h).2 hc
      refine lv_iload_n hx hb dX8_hasPlace_12 rfl (lv_at hl 2 rfl) ?_
      refine lv_aload_n hx hb dX8_hasPlace_13 rfl (lv_at hl 0 rfl) ?_
      refine gt_X8_7 (a := a) hia hla hC hP wf_X8_30 dX8_hasPlace_14 ?_
      refine lv_iload_n hx hb dX8_hasPlace_17 rfl (lv_at hl 1 rfl) ?_
      refine r_iald hC hP (aS_8 (a := a) hia hla) h dX8_hasPlace_18 (fun h => ?_)
      refine lv_icmp_ge (tgt := 26) hx hb dX8_hasPlace_19 (by decide) (fun hc => ?_) (fun hc => ?_)
      · replace h := (br h).1 hc
        refine lv_iconst (v := 0) hx hb dX8_hasPlace_26 (by decide) ?_
        exact r_retP hC hP hS rfl h dX8_hasPlace_27
      · replace h := (br h).2 hc
        refine lv_iconst (v := 1) hx hb dX8_hasPlace_22 (by decide) ?_
        refine lv_goto (tgt := 27) hx hb dX8_hasPlace_23 (by decide) ?_
        exact r_retP hC hP hS rfl h dX8_hasPlace_27

set_option maxRecDepth 20000 in
theorem tRooms_hasPlace {l : Launch} (x : Wx) (al : Nat → Nat → Nat) (lv : Nat → Bool) (σ : Sg) (a : Nat) (hia : a < 6) (hla : lv a = true) (v1 : Int32) (v2 : Int32) (res : Int32) (h : fRooms_hasPlace σ a v1 v2 = some res) : Met l yX8_hasPlace (Cond.code yX8_hasPlace cX8_hasPlace 3 (some .boolean) :: lwg) (rmm 2 0 0) (va_Pc [.ref (al a 1), .int v1, .int v2] (Wd x al lv σ)) (QP x al lv σ res) 0 0 (Ab x) := by
  refine met_W (by decide) (Nat.le_of_ble_eq_true rfl) rfl (fun p e s m args below meth c ls hC hP hS hl => ?_)
  exact wRooms_hasPlace_0 hia hla hC v1 v2 _ _ ls h hP hS hl
set_option maxHeartbeats 4000000 in
set_option maxRecDepth 20000 in
theorem wRooms_fill_54 {p : Program} {l : Launch} {e : Env} {s : State} {m : MethodId} {args : Array Value} {below : List Frame} {meth : Method} {c : Code} {x : Wx} {al : Nat → Nat → Nat} {lv : Nat → Bool} {res : Sg} {a : Nat} (hia : a < 6) (hla : lv a = true) (hC : Cx x p s m args meth c cX8_fill 4 none RX8) (σ : Sg) (x1 : Int32) (x2 : Int32) (x3 : Int32) (H : Heap) (locs : List Loc) (ls : Array Slot) (h : fRooms_fill_54 σ a x1 x2 x3 = some res) (hP : Pic x al lv σ H) (hS : va_S (Ab x) s.heap H locs) (hl : lv_has ls 4 [(0, .ref (al a 1)), (1, .int x1), (2, .int x2), (3, .int x3)]) : W p l e (rmm 3 0 0) s m args below meth c H locs 0 0 (MQ below (QV x al lv res) args s 0 0 (Ab x)) (F0 m 54 ls []) := by
  obtain ⟨hx, hb, hml, hown, hts⟩ := hC.1
  unfold fRooms_fill_54 at h
  refine lv_aload_n hx hb dX8_fill_54 rfl (lv_at hl 0 rfl) ?_
  refine gt_X8_13 (a := a) hia hla hC hP wf_X8_48 dX8_fill_55 ?_
  refine lv_iload_n hx hb dX8_fill_58 rfl (lv_at hl 1 rfl) ?_
  refine lv_sipush (v := 180) hx hb dX8_fill_59 (by decide) ?_
  refine lv_imul hx hb dX8_fill_62 ?_
  refine lv_iload_n hx hb dX8_fill_63 rfl (lv_at hl 2 rfl) ?_
  refine lv_iadd hx hb dX8_fill_64 ?_
  refine lv_iload_n hx hb dX8_fill_65 rfl (lv_at hl 3 rfl) ?_
  refine r_iast hC hP hS (aS_14 (a := a) hia hla) h dX8_fill_66 (fun σ5 H locs h hP hS => ?_)
  exact r_retV hC hP hS h dX8_fill_67

set_option maxHeartbeats 4000000 in
set_option maxRecDepth 20000 in
theorem wRooms_fill_51 {p : Program} {l : Launch} {e : Env} {s : State} {m : MethodId} {args : Array Value} {below : List Frame} {meth : Method} {c : Code} {x : Wx} {al : Nat → Nat → Nat} {lv : Nat → Bool} {res : Sg} {a : Nat} (hia : a < 6) (hla : lv a = true) (hC : Cx x p s m args meth c cX8_fill 4 none RX8) (σ : Sg) (x1 : Int32) (x2 : Int32) (x3 : Int32) (t0 : Int32) (t1 : Int32) (t2 : Int32) (t3 : Int32) (H : Heap) (locs : List Loc) (ls : Array Slot) (h : fRooms_fill_51 σ a x1 x2 x3 t0 t1 t2 t3 = some res) (hP : Pic x al lv σ H) (hS : va_S (Ab x) s.heap H locs) (hl : lv_has ls 4 [(0, .ref (al a 1)), (1, .int x1), (2, .int x2), (3, .int x3)]) : W p l e (rmm 3 0 0) s m args below meth c H locs 0 0 (MQ below (QV x al lv res) args s 0 0 (Ab x)) (F0 m 51 ls [.int t0, .int t1, .int t2, .int t3, .ref (al a 12)]) := by
  obtain ⟨hx, hb, hml, hown, hts⟩ := hC.1
  unfold fRooms_fill_51 at h
  refine lv_isub hx hb dX8_fill_51 ?_
  refine lv_iadd hx hb dX8_fill_52 ?_
  refine r_iast hC hP hS (aS_12 (a := a) hia hla) h dX8_fill_53 (fun σ4 H locs h hP hS => ?_)
  exact wRooms_fill_54 hia hla hC  σ4 x1 x2 x3 H locs ls h hP hS (lv_sub hl [0, 1, 2, 3] rfl)

set_option maxHeartbeats 4000000 in
set_option maxRecDepth 20000 in
theorem wRooms_fill_36 {p : Program} {l : Launch} {e : Env} {s : State} {m : MethodId} {args : Array Value} {below : List Frame} {meth : Method} {c : Code} {x : Wx} {al : Nat → Nat → Nat} {lv : Nat → Bool} {res : Sg} {a : Nat} (hia : a < 6) (hla : lv a = true) (hC : Cx x p s m args meth c cX8_fill 4 none RX8) (σ : Sg) (x1 : Int32) (x2 : Int32) (x3 : Int32) (t0 : Int32) (t1 : Int32) (t2 : Int32) (H : Heap) (locs : List Loc) (ls : Array Slot) (h : fRooms_fill_36 σ a x1 x2 x3 t0 t1 t2 = some res) (hP : Pic x al lv σ H) (hS : va_S (Ab x) s.heap H locs) (hl : lv_has ls 4 [(0, .ref (al a 1)), (1, .int x1), (2, .int x2), (3, .int x3)]) : W p l e (rmm 3 0 0) s m args below meth c H locs 0 0 (MQ below (QV x al lv res) args s 0 0 (Ab x)) (F0 m 36 ls [.int t0, .int t1, .int t2, .ref (al a 12)]) := by
  obtain ⟨hx, hb, hml, hown, hts⟩ := hC.1
  unfold fRooms_fill_36 at h
  refine lv_aload_n hx hb dX8_fill_36 rfl (lv_at hl 0 rfl) ?_
  refine lv_iload_n hx hb dX8_fill_37 rfl (lv_at hl 1 rfl) ?_
  refine lv_iload_n hx hb dX8_fill_38 rfl (lv_at hl 2 rfl) ?_
  refine r_cP hS h (fun r hr => r_runV (As := [.int x1, .int x2]) (rest := [.int t0, .int t1, .int t2, .ref (al a 12)]) hC kV_X8_76 cw_X8_at (rc_X8 (a := a) hia hla hC hP) hP (tRooms_at x al lv σ a hia hla x1 x2 r hr) rfl hl.1 ⟨Nat.le_of_ble_eq_true rfl, Nat.le_of_ble_eq_true rfl⟩ ⟨Nat.le_of_ble_eq_true rfl, Nat.le_of_ble_eq_true rfl⟩ (Nat.le_of_ble_eq_true rfl) dX8_fill_39) (fun y3 H locs h hP hS => ?_)
  refine lv_iconst (v := 2) hx hb dX8_fill_42 (by decide) ?_
  refine lv_icmp_ne (tgt := 50) hx hb dX8_fill_43 (by decide) (fun hc => ?_) (fun hc => ?_)
  · replace h := (br h).2 hc
    refine lv_iconst (v := 0) hx hb dX8_fill_50 (by decide) ?_
    exact wRooms_fill_51 hia hla hC  σ x1 x2 x3 0 t0 t1 t2 H locs ls h hP hS (lv_sub hl [0, 1, 2, 3] rfl)
  · replace h := (br h).1 hc
    refine lv_iconst (v := 1) hx hb dX8_fill_46 (by decide) ?_
    refine lv_goto (tgt := 51) hx hb dX8_fill_47 (by decide) ?_
    exact wRooms_fill_51 hia hla hC  σ x1 x2 x3 1 t0 t1 t2 H locs ls h hP hS (lv_sub hl [0, 1, 2, 3] rfl)

set_option maxHeartbeats 4000000 in
set_option maxRecDepth 20000 in
theorem wRooms_fill_0 {p : Program} {l : Launch} {e : Env} {s : State} {m : MethodId} {args : Array Value} {below : List Frame} {meth : Method} {c : Code} {x : Wx} {al : Nat → Nat → Nat} {lv : Nat → Bool} {res : Sg} {a : Nat} (hia : a < 6) (hla : lv a = true) (hC : Cx x p s m args meth c cX8_fill 4 none RX8) (σ : Sg) (v1 : Int32) (v2 : Int32) (v3 : Int32) (H : Heap) (locs : List Loc) (ls : Array Slot) (h : fRooms_fill_0 σ a v1 v2 v3 = some res) (hP : Pic x al lv σ H) (hS : va_S (Ab x) s.heap H locs) (hl : lv_has ls 4 [(0, .ref (al a 1)), (1, .int v1), (2, .int v2), (3, .int v3)]) : W p l e (rmm 3 0 0) s m args below meth c H locs 0 0 (MQ below (QV x al lv res) args s 0 0 (Ab x)) (F0 m 0 ls []) := by
  obtain ⟨hx, hb, hml, hown, hts⟩ := hC.1
  unfold fRooms_fill_0 at h
  refine lv_aload_n hx hb dX8_fill_0 rfl (lv_at hl 0 rfl) ?_
  refine lv_iload_n hx hb dX8_fill_1 rfl (lv_at hl 1 rfl) ?_
  refine lv_iload_n hx hb dX8_fill_2 rfl (lv_at hl 2 rfl) ?_
  refine r_cP hS h (fun r hr => r_runV (As := [.int v1, .int v2]) (rest := []) hC kV_X8_69 cw_X8_hasPlace (rc_X8 (a := a) hia hla hC hP) hP (tRooms_hasPlace x al lv σ a hia hla v1 v2 r hr) rfl hl.1 ⟨Nat.le_of_ble_eq_true rfl, Nat.le_of_ble_eq_true rfl⟩ ⟨Nat.le_of_ble_eq_true rfl, Nat.le_of_ble_eq_true rfl⟩ (Nat.le_of_ble_eq_true rfl) dX8_fill_3) (fun y1 H locs h hP hS => ?_)
  refine lv_if_ne (tgt := 10) hx hb dX8_fill_6 (by decide) (fun hc => ?_) (fun hc => ?_)
  · replace h := (br h).2 hc
    refine lv_aload_n hx hb dX8_fill_10 rfl (lv_at hl 0 rfl) ?_
    refine lv_iload_n hx hb dX8_fill_11 rfl (lv_at hl 1 rfl) ?_
    refine lv_iload_n hx hb dX8_fill_12 rfl (lv_at hl 2 rfl) ?_
    refine r_cP hS h (fun r hr => r_runV (As := [.int v1, .int v2]) (rest := []) hC kV_X8_73 cw_X8_isOnFloor (rc_X8 (a := a) hia hla hC hP) hP (tRooms_isOnFloor x al lv σ a hia hla v1 v2 r hr) rfl hl.1 ⟨Nat.le_of_ble_eq_true rfl, Nat.le_of_ble_eq_true rfl⟩ ⟨Nat.le_of_ble_eq_true rfl, Nat.le_of_ble_eq_true rfl⟩ (Nat.le_of_ble_eq_true rfl) dX8_fill_13) (fun y2 H locs h hP hS => ?_)
    refine lv_if_eq (tgt := 54) hx hb dX8_fill_16 (by decide) (fun hc => ?_) (fun hc => ?_)
    · replace h := (br h).1 hc
      exact wRooms_fill_54 hia hla hC  σ v1 v2 v3 H locs ls h hP hS (lv_sub hl [0, 1, 2, 3] rfl)
    · replace h := (br h).2 hc
      refine lv_aload_n hx hb dX8_fill_19 rfl (lv_at hl 0 rfl) ?_
      refine gt_X8_11 (a := a) hia hla hC hP wf_X8_42 dX8_fill_20 ?_
      refine lv_iload_n hx hb dX8_fill_23 rfl (lv_at hl 1 rfl) ?_
      refine lv_dup2_11 hx hb dX8_fill_24 rfl rfl ?_
      refine r_iald hC hP (aS_12 (a := a) hia hla) h dX8_fill_25 (fun h => ?_)
      refine lv_iload_n hx hb dX8_fill_26 rfl (lv_at hl 3 rfl) ?_
      refine lv_iconst (v := 2) hx hb dX8_fill_27 (by decide) ?_
      refine lv_icmp_ne (tgt := 35) hx hb dX8_fill_28 (by decide) (fun hc => ?_) (fun hc => ?_)
      · replace h := (br h).2 hc
        refine lv_iconst (v := 0) hx hb dX8_fill_35 (by decide) ?_
        exact wRooms_fill_36 hia hla hC  σ v1 v2 v3 0 (σ a 12 v1.toNatClampNeg) v1 H locs ls h hP hS (lv_sub hl [0, 1, 2, 3] rfl)
      · replace h := (br h).1 hc
        refine lv_iconst (v := 1) hx hb dX8_fill_31 (by decide) ?_
        refine lv_goto (tgt := 36) hx hb dX8_fill_32 (by decide) ?_
        exact wRooms_fill_36 hia hla hC  σ v1 v2 v3 1 (σ a 12 v1.toNatClampNeg) v1 H locs ls h hP hS (lv_sub hl [0, 1, 2, 3] rfl)
  · replace h := (br h).1 hc
    exact r_retV hC hP hS h dX8_fill_9

set_option maxRecDepth 20000 in
theorem tRooms_fill {l : Launch} (x : Wx) (al : Nat → Nat → Nat) (lv : Nat → Bool) (σ : Sg) (a : Nat) (hia : a < 6) (hla : lv a = true) (v1 : Int32) (v2 : Int32) (v3 : Int32) (res : Sg) (h : fRooms_fill σ a v1 v2 v3 = some res) : Met l yX8_fill (Cond.code yX8_fill cX8_fill 4 none :: lwg) (rmm 3 0 0) (va_Pc [.ref (al a 1), .int v1, .int v2, .int v3] (Wd x al lv σ)) (QV x al lv res) 0 0 (Ab x) := by
  refine met_W (by decide) (Nat.le_of_ble_eq_true rfl) rfl (fun p e s m args below meth c ls hC hP hS hl => ?_)
  exact wRooms_fill_0 hia hla hC σ v1 v2 v3 _ _ ls h hP hS hl
set_option maxHeartbeats 4000000 in
set_option maxRecDepth 20000 in
theorem wStore_liftUp_54 {p : Program} {l : Launch} {e : Env} {s : State} {m : MethodId} {args : Array Value} {below : List Frame} {meth : Method} {c : Code} {x : Wx} {al : Nat → Nat → Nat} {lv : Nat → Bool} {res : Sg} {a : Nat} (hia : a < 6) (hla : lv a = true) (hC : Cx x p s m args meth c cX10_liftUp 3 none RX10) (σ : Sg) (t0 : Int32) (t1 : Int32) (t2 : Int32) (H : Heap) (locs : List Loc) (ls : Array Slot) (h : fStore_liftUp_54 σ a t0 t1 t2 = some res) (hP : Pic x al lv σ H) (hS : va_S (Ab x) s.heap H locs) (hl : lv_has ls 3 []) : W p l e (rmm 4 0 0) s m args below meth c H locs 0 0 (MQ below (QV x al lv res) args s 0 0 (Ab x)) (F0 m 54 ls [.int t0, .int t1, .int t2, .ref (al a 11)]) := by
  obtain ⟨hx, hb, hml, hown, hts⟩ := hC.1
  unfold fStore_liftUp_54 at h
  refine lv_isub hx hb dX10_liftUp_54 ?_
  refine r_iast hC hP hS (aS_11 (a := a) hia hla) h dX10_liftUp_55 (fun σ4 H locs h hP hS => ?_)
  exact r_retV hC hP hS h dX10_liftUp_56

set_option maxHeartbeats 4000000 in
set_option maxRecDepth 20000 in
theorem wStore_liftUp_0 {p : Program} {l : Launch} {e : Env} {s : State} {m : MethodId} {args : Array Value} {below : List Frame} {meth : Method} {c : Code} {x : Wx} {al : Nat → Nat → Nat} {lv : Nat → Bool} {res : Sg} {a : Nat} (hia : a < 6) (hla : lv a = true) (hC : Cx x p s m args meth c cX10_liftUp 3 none RX10) (σ : Sg) (v1 : Int32) (H : Heap) (locs : List Loc) (ls : Array Slot) (h : fStore_liftUp_0 σ a v1 = some res) (hP : Pic x al lv σ H) (hS : va_S (Ab x) s.heap H locs) (hl : lv_has ls 3 [(0, .ref (al a 0)), (1, .int v1)]) : W p l e (rmm 4 0 0) s m args below meth c H locs 0 0 (MQ below (QV x al lv res) args s 0 0 (Ab x)) (F0 m 0 ls []) := by
  obtain ⟨hx, hb, hml, hown, hts⟩ := hC.1
  unfold fStore_liftUp_0 at h
  refine lv_aload_n hx hb dX10_liftUp_0 rfl (lv_at hl 0 rfl) ?_
  refine gt_X10_6 (a := a) hia hla hC hP wf_X10_21 dX10_liftUp_1 ?_
  refine gt_X0_3 (a := a) hia hla hC hP wf_X10_58 dX10_liftUp_4 ?_
  refine lv_iload_n hx hb dX10_liftUp_7 rfl (lv_at hl 1 rfl) ?_
  refine r_iald hC hP (aS_18 (a := a) hia hla) h dX10_liftUp_8 (fun h => ?_)
  refine r_lt h (fun y1 h => ?_)
  refine lv_istore_n (lv' := [(2, .int y1), (0, .ref (al a 0)), (1, .int v1)]) hx hb dX10_liftUp_9 rfl hl (by decide) rfl (fun ls hl => ?_)
  refine lv_aload_n hx hb dX10_liftUp_10 rfl (lv_at hl 1 rfl) ?_
  refine gt_X10_5 (a := a) hia hla hC hP wf_X10_12 dX10_liftUp_11 ?_
  refine lv_iload_n hx hb dX10_liftUp_14 rfl (lv_at hl 0 rfl) ?_
  refine lv_aload_n hx hb dX10_liftUp_15 rfl (lv_at hl 1 rfl) ?_
  refine gt_X10_6 (a := a) hia hla hC hP wf_X10_21 dX10_liftUp_16 ?_
  refine gt_X0_4 (a := a) hia hla hC hP wf_X10_61 dX10_liftUp_19 ?_
  refine lv_iload_n hx hb dX10_liftUp_22 rfl (lv_at hl 2 rfl) ?_
  refine r_iald hC hP (aS_19 (a := a) hia hla) h dX10_liftUp_23 (fun h => ?_)
  refine lv_iconst (v := 0) hx hb dX10_liftUp_24 (by decide) ?_
  refine r_cV hS h (fun r hr => r_runV (As := [.int y1, .int (σ a 19 v1.toNatClampNeg), .int 0]) (rest := []) hC kV_X10_74 cw_X8_fill (rc_X8 (a := a) hia hla hC hP) hP (tRooms_fill x al lv σ a hia hla y1 (σ a 19 v1.toNatClampNeg) 0 r hr) rfl hl.1 ⟨Nat.le_of_ble_eq_true rfl, Nat.le_of_ble_eq_true rfl⟩ ⟨Nat.le_of_ble_eq_true rfl, Nat.le_of_ble_eq_true rfl⟩ (Nat.le_of_ble_eq_true rfl) dX10_liftUp_25) (fun σ2 H locs h hP hS => ?_)
  refine lv_aload_n hx hb dX10_liftUp_28 rfl (lv_at hl 1 rfl) ?_
  refine gt_X10_5 (a := a) hia hla hC hP wf_X10_12 dX10_liftUp_29 ?_
  refine gt_X8_10 (a := a) hia hla hC hP wf_X10_78 dX10_liftUp_32 ?_
  refine lv_iload_n hx hb dX10_liftUp_35 rfl (lv_at hl 0 rfl) ?_
  refine lv_dup2_11 hx hb dX10_liftUp_36 rfl rfl ?_
  refine r_iald hC hP (aS_11 (a := a) hia hla) h dX10_liftUp_37 (fun h => ?_)
  refine lv_aload_n hx hb dX10_liftUp_38 rfl (lv_at hl 1 rfl) ?_
  refine gt_X10_6 (a := a) hia hla hC hP wf_X10_21 dX10_liftUp_39 ?_
  refine lv_iload_n hx hb dX10_liftUp_42 rfl (lv_at hl 2 rfl) ?_
  refine r_cP hS h (fun r hr => r_runV (As := [.int v1]) (rest := [.int (σ2 a 11 y1.toNatClampNeg), .int y1, .ref (al a 11)]) hC kV_X10_81 cw_X0_isSalt (rc_X0 (a := a) hia hla hC hP) hP (tBlocks_isSalt x al lv σ2 a hia hla v1 r hr) rfl hl.1 ⟨Nat.le_of_ble_eq_true rfl, Nat.le_of_ble_eq_true rfl⟩ ⟨Nat.le_of_ble_eq_true rfl, Nat.le_of_ble_eq_true rfl⟩ (Nat.le_of_ble_eq_true rfl) dX10_liftUp_43) (fun y3 H locs h hP hS => ?_)
  refine lv_if_eq (tgt := 53) hx hb dX10_liftUp_46 (by decide) (fun hc => ?_) (fun hc => ?_)
  · replace h := (br h).1 hc
    refine lv_iconst (v := 0) hx hb dX10_liftUp_53 (by decide) ?_
    exact wStore_liftUp_54 hia hla hC  σ2 0 (σ2 a 11 y1.toNatClampNeg) y1 H locs ls h hP hS (lv_sub hl [] rfl)
  · replace h := (br h).2 hc
    refine lv_iconst (v := 1) hx hb dX10_liftUp_49 (by decide) ?_
    refine lv_goto (tgt := 54) hx hb dX10_liftUp_50 (by decide) ?_
    exact wStore_liftUp_54 hia hla hC  σ2 1 (σ2 a 11 y1.toNatClampNeg) y1 H locs ls h hP hS (lv_sub hl [] rfl)

set_option maxRecDepth 20000 in
theorem tStore_liftUp {l : Launch} (x : Wx) (al : Nat → Nat → Nat) (lv : Nat → Bool) (σ : Sg) (a : Nat) (hia : a < 6) (hla : lv a = true) (v1 : Int32) (res : Sg) (h : fStore_liftUp σ a v1 = some res) : Met l yX10_liftUp (Cond.code yX10_liftUp cX10_liftUp 3 none :: lwg) (rmm 4 0 0) (va_Pc [.ref (al a 0), .int v1] (Wd x al lv σ)) (QV x al lv res) 0 0 (Ab x) := by
  refine met_W (by decide) (Nat.le_of_ble_eq_true rfl) rfl (fun p e s m args below meth c ls hC hP hS hl => ?_)
  exact wStore_liftUp_0 hia hla hC σ v1 _ _ ls h hP hS hl
set_option maxHeartbeats 4000000 in
set_option maxRecDepth 20000 in
theorem wMelting_lose_76 {p : Program} {l : Launch} {e : Env} {s : State} {m : MethodId} {args : Array Value} {below : List Frame} {meth : Method} {c : Code} {x : Wx} {al : Nat → Nat → Nat} {lv : Nat → Bool} {res : Sg} {b : Nat} (hib : b < 6) (hlb : lv b = true) (hC : Cx x p s m args meth c cX6_lose 7 none RX6) (σ : Sg) (x2 : Int32) (H : Heap) (locs : List Loc) (ls : Array Slot) (h : fMelting_lose_76 σ b x2 = some res) (hP : Pic x al lv σ H) (hS : va_S (Ab x) s.heap H locs) (hl : lv_has ls 7 [(0, .ref (al 6 2)), (1, .ref (al b 0)), (2, .int x2), (3, .ref (al b 15))]) : W p l e (rmm 5 0 0) s m args below meth c H locs 0 0 (MQ below (QV x al lv res) args s 0 0 (Ab x)) (F0 m 76 ls []) := by
  obtain ⟨hx, hb, hml, hown, hts⟩ := hC.1
  unfold fMelting_lose_76 at h
  refine lv_aload_n hx hb dX6_lose_76 rfl (lv_at hl 3 rfl) ?_
  refine gt_X0_2 (a := b) hib hlb hC hP wf_X6_91 dX6_lose_77 ?_
  refine lv_iload_n hx hb dX6_lose_80 rfl (lv_at hl 2 rfl) ?_
  refine r_iald hC hP (aS_17 (a := b) hib hlb) h dX6_lose_81 (fun h => ?_)
  refine lv_aload_n hx hb dX6_lose_82 rfl (lv_at hl 0 rfl) ?_
  refine gt_X6_4 hC hP wf_X6_28 dX6_lose_83 ?_
  refine lv_iload_n hx hb dX6_lose_86 rfl (lv_at hl 2 rfl) ?_
  refine r_iald hC hP (aI_12 hP.l6) h dX6_lose_87 (fun h => ?_)
  refine lv_isub hx hb dX6_lose_88 ?_
  refine r_lt h (fun y6 h => ?_)
  refine lv_istore (lv' := [(6, .int y6), (0, .ref (al 6 2)), (1, .ref (al b 0)), (2, .int x2), (3, .ref (al b 15))]) hx hb dX6_lose_89 hl (by decide) rfl (fun ls hl => ?_)
  refine lv_aload_n hx hb dX6_lose_91 rfl (lv_at hl 4 rfl) ?_
  refine gt_X0_2 (a := b) hib hlb hC hP wf_X6_91 dX6_lose_92 ?_
  refine lv_iload_n hx hb dX6_lose_95 rfl (lv_at hl 3 rfl) ?_
  refine lv_aload_n hx hb dX6_lose_96 rfl (lv_at hl 1 rfl) ?_
  refine lv_iload hx hb dX6_lose_97 (lv_at hl 0 rfl) ?_
  refine r_cP hS h (fun r hr => r_runV (As := [.int y6]) (rest := [.int x2, .ref (al b 17)]) hC kV_X6_146 cw_X6_leftOf (rc_X6 hC hP) hP (tMelting_leftOf x al lv σ y6 r hr) rfl hl.1 ⟨Nat.le_of_ble_eq_true rfl, Nat.le_of_ble_eq_true rfl⟩ ⟨Nat.le_of_ble_eq_true rfl, Nat.le_of_ble_eq_true rfl⟩ (Nat.le_of_ble_eq_true rfl) dX6_lose_99) (fun y7 H locs h hP hS => ?_)
  refine r_iast hC hP hS (aS_17 (a := b) hib hlb) h dX6_lose_102 (fun σ8 H locs h hP hS => ?_)
  refine lv_iload hx hb dX6_lose_103 (lv_at hl 0 rfl) ?_
  refine lv_aload_n hx hb dX6_lose_105 rfl (lv_at hl 1 rfl) ?_
  refine gt_X6_2 hC hP wf_X6_18 dX6_lose_106 ?_
  refine lv_icmp_ge (tgt := 133) hx hb dX6_lose_109 (by decide) (fun hc => ?_) (fun hc => ?_)
  · replace h := (br h).1 hc
    exact r_retV hC hP hS h dX6_lose_133
  · replace h := (br h).2 hc
    refine lv_aload_n hx hb dX6_lose_112 rfl (lv_at hl 2 rfl) ?_
    refine lv_dup hx hb dX6_lose_113 rfl ?_
    refine gt_X10_4 (a := b) hib hlb hC hP wf_X6_149 dX6_lose_114 ?_
    refine lv_iload hx hb dX6_lose_117 (lv_at hl 0 rfl) ?_
    refine lv_iadd hx hb dX6_lose_119 ?_
    refine pt_X10_4 (a := b) hib hlb hC hP hS wf_X6_149 h dX6_lose_120 (fun σ9 H locs h hP hS => ?_)
    refine lv_aload_n hx hb dX6_lose_123 rfl (lv_at hl 2 rfl) ?_
    refine lv_iload_n hx hb dX6_lose_124 rfl (lv_at hl 3 rfl) ?_
    refine r_cV hS h (fun r hr => r_runV (As := [.int x2]) (rest := []) hC kV_X6_152 cw_X10_liftUp (rc_X10 (a := b) hib hlb hC hP) hP (tStore_liftUp x al lv σ9 b hib hlb x2 r hr) rfl hl.1 ⟨Nat.le_of_ble_eq_true rfl, Nat.le_of_ble_eq_true rfl⟩ ⟨Nat.le_of_ble_eq_true rfl, Nat.le_of_ble_eq_true rfl⟩ (Nat.le_of_ble_eq_true rfl) dX6_lose_125) (fun σ10 H locs h hP hS => ?_)
    refine lv_aload_n hx hb dX6_lose_128 rfl (lv_at hl 4 rfl) ?_
    refine lv_iload_n hx hb dX6_lose_129 rfl (lv_at hl 3 rfl) ?_
    refine r_cV hS h (fun r hr => r_runV (As := [.int x2]) (rest := []) hC kV_X6_156 cw_X0_leave (rc_X0 (a := b) hib hlb hC hP) hP (tBlocks_leave x al lv σ10 b hib hlb x2 r hr) rfl hl.1 ⟨Nat.le_of_ble_eq_true rfl, Nat.le_of_ble_eq_true rfl⟩ ⟨Nat.le_of_ble_eq_true rfl, Nat.le_of_ble_eq_true rfl⟩ (Nat.le_of_ble_eq_true rfl) dX6_lose_130) (fun σ11 H locs h hP hS => ?_)
    exact r_retV hC hP hS h dX6_lose_133

set_option maxHeartbeats 4000000 in
set_option maxRecDepth 20000 in
theorem wMelting_lose_0 {p : Program} {l : Launch} {e : Env} {s : State} {m : MethodId} {args : Array Value} {below : List Frame} {meth : Method} {c : Code} {x : Wx} {al : Nat → Nat → Nat} {lv : Nat → Bool} {res : Sg} {b : Nat} (hib : b < 6) (hlb : lv b = true) (hC : Cx x p s m args meth c cX6_lose 7 none RX6) (σ : Sg) (v2 : Int32) (H : Heap) (locs : List Loc) (ls : Array Slot) (h : fMelting_lose_0 σ b v2 = some res) (hP : Pic x al lv σ H) (hS : va_S (Ab x) s.heap H locs) (hl : lv_has ls 7 [(0, .ref (al 6 2)), (1, .ref (al b 0)), (2, .int v2)]) : W p l e (rmm 5 0 0) s m args below meth c H locs 0 0 (MQ below (QV x al lv res) args s 0 0 (Ab x)) (F0 m 0 ls []) := by
  obtain ⟨hx, hb, hml, hown, hts⟩ := hC.1
  unfold fMelting_lose_0 at h
  refine lv_aload_n hx hb dX6_lose_0 rfl (lv_at hl 1 rfl) ?_
  refine gt_X10_6 (a := b) hib hlb hC hP wf_X6_60 dX6_lose_1 ?_
  refine lv_astore_n (lv' := [(3, .ref (al b 15)), (0, .ref (al 6 2)), (1, .ref (al b 0)), (2, .int v2)]) hx hb dX6_lose_4 rfl hl (by decide) rfl (fun ls hl => ?_)
  refine lv_aload_n hx hb dX6_lose_5 rfl (lv_at hl 0 rfl) ?_
  refine gt_X0_3 (a := b) hib hlb hC hP wf_X6_64 dX6_lose_6 ?_
  refine lv_iload_n hx hb dX6_lose_9 rfl (lv_at hl 3 rfl) ?_
  refine r_iald hC hP (aS_18 (a := b) hib hlb) h dX6_lose_10 (fun h => ?_)
  refine r_lt h (fun y1 h => ?_)
  refine lv_istore (lv' := [(4, .int y1), (3, .ref (al b 15)), (0, .ref (al 6 2)), (1, .ref (al b 0)), (2, .int v2)]) hx hb dX6_lose_11 hl (by decide) rfl (fun ls hl => ?_)
  refine lv_aload_n hx hb dX6_lose_13 rfl (lv_at hl 1 rfl) ?_
  refine gt_X0_4 (a := b) hib hlb hC hP wf_X6_69 dX6_lose_14 ?_
  refine lv_iload_n hx hb dX6_lose_17 rfl (lv_at hl 4 rfl) ?_
  refine r_iald hC hP (aS_19 (a := b) hib hlb) h dX6_lose_18 (fun h => ?_)
  refine r_lt h (fun y2 h => ?_)
  refine lv_istore (lv' := [(5, .int y2), (4, .int y1), (3, .ref (al b 15)), (0, .ref (al 6 2)), (1, .ref (al b 0)), (2, .int v2)]) hx hb dX6_lose_19 hl (by decide) rfl (fun ls hl => ?_)
  refine lv_aload_n hx hb dX6_lose_21 rfl (lv_at hl 4 rfl) ?_
  refine gt_X10_5 (a := b) hib hlb hC hP wf_X6_35 dX6_lose_22 ?_
  refine lv_iload hx hb dX6_lose_25 (lv_at hl 1 rfl) ?_
  refine lv_iload hx hb dX6_lose_27 (lv_at hl 0 rfl) ?_
  refine r_cP hS h (fun r hr => r_runV (As := [.int y1, .int y2]) (rest := []) hC kV_X6_137 cw_X8_isDrained (rc_X8 (a := b) hib hlb hC hP) hP (tRooms_isDrained x al lv σ b hib hlb y1 y2 r hr) rfl hl.1 ⟨Nat.le_of_ble_eq_true rfl, Nat.le_of_ble_eq_true rfl⟩ ⟨Nat.le_of_ble_eq_true rfl, Nat.le_of_ble_eq_true rfl⟩ (Nat.le_of_ble_eq_true rfl) dX6_lose_29) (fun y3 H locs h hP hS => ?_)
  refine lv_if_eq (tgt := 57) hx hb dX6_lose_32 (by decide) (fun hc => ?_) (fun hc => ?_)
  · replace h := (br h).1 hc
    refine lv_aload_n hx hb dX6_lose_57 rfl (lv_at hl 4 rfl) ?_
    refine gt_X10_5 (a := b) hib hlb hC hP wf_X6_35 dX6_lose_58 ?_
    refine gt_X8_9 (a := b) hib hlb hC hP wf_X6_143 dX6_lose_61 ?_
    refine lv_iload hx hb dX6_lose_64 (lv_at hl 1 rfl) ?_
    refine lv_dup2_11 hx hb dX6_lose_66 rfl rfl ?_
    refine r_iald hC hP (aS_10 (a := b) hib hlb) h dX6_lose_67 (fun h => ?_)
    refine lv_aload_n hx hb dX6_lose_68 rfl (lv_at hl 3 rfl) ?_
    refine gt_X6_4 hC hP wf_X6_28 dX6_lose_69 ?_
    refine lv_iload_n hx hb dX6_lose_72 rfl (lv_at hl 5 rfl) ?_
    refine r_iald hC hP (aI_12 hP.l6) h dX6_lose_73 (fun h => ?_)
    refine lv_iadd hx hb dX6_lose_74 ?_
    refine r_iast hC hP hS (aS_10 (a := b) hib hlb) h dX6_lose_75 (fun σ4 H locs h hP hS => ?_)
    exact wMelting_lose_76 hib hlb hC  σ4 v2 H locs ls h hP hS (lv_sub hl [3, 4, 5, 2] rfl)
  · replace h := (br h).2 hc
    refine lv_aload_n hx hb dX6_lose_35 rfl (lv_at hl 4 rfl) ?_
    refine gt_X10_5 (a := b) hib hlb hC hP wf_X6_35 dX6_lose_36 ?_
    refine gt_X8_8 (a := b) hib hlb hC hP wf_X6_140 dX6_lose_39 ?_
    refine lv_iload hx hb dX6_lose_42 (lv_at hl 1 rfl) ?_
    refine lv_dup2_11 hx hb dX6_lose_44 rfl rfl ?_
    refine r_iald hC hP (aS_9 (a := b) hib hlb) h dX6_lose_45 (fun h => ?_)
    refine lv_aload_n hx hb dX6_lose_46 rfl (lv_at hl 3 rfl) ?_
    refine gt_X6_4 hC hP wf_X6_28 dX6_lose_47 ?_
    refine lv_iload_n hx hb dX6_lose_50 rfl (lv_at hl 5 rfl) ?_
    refine r_iald hC hP (aI_12 hP.l6) h dX6_lose_51 (fun h => ?_)
    refine lv_iadd hx hb dX6_lose_52 ?_
    refine r_iast hC hP hS (aS_9 (a := b) hib hlb) h dX6_lose_53 (fun σ5 H locs h hP hS => ?_)
    refine lv_goto (tgt := 76) hx hb dX6_lose_54 (by decide) ?_
    exact wMelting_lose_76 hib hlb hC  σ5 v2 H locs ls h hP hS (lv_sub hl [3, 4, 5, 2] rfl)

set_option maxRecDepth 20000 in
theorem tMelting_lose {l : Launch} (x : Wx) (al : Nat → Nat → Nat) (lv : Nat → Bool) (σ : Sg) (b : Nat) (hib : b < 6) (hlb : lv b = true) (v2 : Int32) (res : Sg) (h : fMelting_lose σ b v2 = some res) : Met l yX6_lose (Cond.code yX6_lose cX6_lose 7 none :: lwg) (rmm 5 0 0) (va_Pc [.ref (al 6 2), .ref (al b 0), .int v2] (Wd x al lv σ)) (QV x al lv res) 0 0 (Ab x) := by
  refine met_W (by decide) (Nat.le_of_ble_eq_true rfl) rfl (fun p e s m args below meth c ls hC hP hS hl => ?_)
  exact wMelting_lose_0 hib hlb hC σ v2 _ _ ls h hP hS hl
set_option maxHeartbeats 4000000 in
set_option maxRecDepth 20000 in
theorem wMelting_spoil_86 {p : Program} {l : Launch} {e : Env} {s : State} {m : MethodId} {args : Array Value} {below : List Frame} {meth : Method} {c : Code} {x : Wx} {al : Nat → Nat → Nat} {lv : Nat → Bool} {res : Sg} {b : Nat} (hib : b < 6) (hlb : lv b = true) (hC : Cx x p s m args meth c cX6_spoil 4 none RX6) (σ : Sg) (x2 : Int32) (H : Heap) (locs : List Loc) (ls : Array Slot) (h : fMelting_spoil_86 σ b x2 = some res) (hP : Pic x al lv σ H) (hS : va_S (Ab x) s.heap H locs) (hl : lv_has ls 4 [(1, .ref (al b 0)), (2, .int x2), (3, .ref (al b 15))]) : W p l e (rmm 3 0 0) s m args below meth c H locs 0 0 (MQ below (QV x al lv res) args s 0 0 (Ab x)) (F0 m 86 ls []) := by
  obtain ⟨hx, hb, hml, hown, hts⟩ := hC.1
  unfold fMelting_spoil_86 at h
  refine lv_aload_n hx hb dX6_spoil_86 rfl (lv_at hl 2 rfl) ?_
  refine gt_X0_6 (a := b) hib hlb hC hP wf_X6_130 dX6_spoil_87 ?_
  refine lv_iload_n hx hb dX6_spoil_90 rfl (lv_at hl 1 rfl) ?_
  refine lv_aload_n hx hb dX6_spoil_91 rfl (lv_at hl 0 rfl) ?_
  refine gt_X10_0 (a := b) hib hlb hC hP wf_X6_127 dX6_spoil_92 ?_
  refine r_iast hC hP hS (aS_21 (a := b) hib hlb) h dX6_spoil_95 (fun σ4 H locs h hP hS => ?_)
  exact r_retV hC hP hS h dX6_spoil_96

set_option maxHeartbeats 4000000 in
set_option maxRecDepth 20000 in
theorem wMelting_spoil_0 {p : Program} {l : Launch} {e : Env} {s : State} {m : MethodId} {args : Array Value} {below : List Frame} {meth : Method} {c : Code} {x : Wx} {al : Nat → Nat → Nat} {lv : Nat → Bool} {res : Sg} {b : Nat} (hib : b < 6) (hlb : lv b = true) (hC : Cx x p s m args meth c cX6_spoil 4 none RX6) (σ : Sg) (v2 : Int32) (H : Heap) (locs : List Loc) (ls : Array Slot) (h : fMelting_spoil_0 σ b v2 = some res) (hP : Pic x al lv σ H) (hS : va_S (Ab x) s.heap H locs) (hl : lv_has ls 4 [(0, .ref (al 6 2)), (1, .ref (al b 0)), (2, .int v2)]) : W p l e (rmm 3 0 0) s m args below meth c H locs 0 0 (MQ below (QV x al lv res) args s 0 0 (Ab x)) (F0 m 0 ls []) := by
  obtain ⟨hx, hb, hml, hown, hts⟩ := hC.1
  unfold fMelting_spoil_0 at h
  refine lv_aload_n hx hb dX6_spoil_0 rfl (lv_at hl 1 rfl) ?_
  refine gt_X10_6 (a := b) hib hlb hC hP wf_X6_60 dX6_spoil_1 ?_
  refine lv_astore_n (lv' := [(3, .ref (al b 15)), (0, .ref (al 6 2)), (1, .ref (al b 0)), (2, .int v2)]) hx hb dX6_spoil_4 rfl hl (by decide) rfl (fun ls hl => ?_)
  refine lv_aload_n hx hb dX6_spoil_5 rfl (lv_at hl 0 rfl) ?_
  refine gt_X0_1 (a := b) hib hlb hC hP wf_X6_76 dX6_spoil_6 ?_
  refine lv_iload_n hx hb dX6_spoil_9 rfl (lv_at hl 3 rfl) ?_
  refine r_iald hC hP (aS_16 (a := b) hib hlb) h dX6_spoil_10 (fun h => ?_)
  refine lv_iconst (v := 1) hx hb dX6_spoil_11 (by decide) ?_
  refine lv_icmp_ne (tgt := 33) hx hb dX6_spoil_12 (by decide) (fun hc => ?_) (fun hc => ?_)
  · replace h := (br h).2 hc
    exact r_retV hC hP hS h dX6_spoil_33
  · replace h := (br h).1 hc
    refine lv_aload_n hx hb dX6_spoil_15 rfl (lv_at hl 0 rfl) ?_
    refine lv_iload_n hx hb dX6_spoil_16 rfl (lv_at hl 3 rfl) ?_
    refine r_cP hS h (fun r hr => r_runV (As := [.int v2]) (rest := []) hC kV_X6_111 cw_X0_isInRoom (rc_X0 (a := b) hib hlb hC hP) hP (tBlocks_isInRoom x al lv σ b hib hlb v2 r hr) rfl hl.1 ⟨Nat.le_of_ble_eq_true rfl, Nat.le_of_ble_eq_true rfl⟩ ⟨Nat.le_of_ble_eq_true rfl, Nat.le_of_ble_eq_true rfl⟩ (Nat.le_of_ble_eq_true rfl) dX6_spoil_17) (fun y1 H locs h hP hS => ?_)
    refine lv_if_eq (tgt := 33) hx hb dX6_spoil_20 (by decide) (fun hc => ?_) (fun hc => ?_)
    · replace h := (br h).1 hc
      exact r_retV hC hP hS h dX6_spoil_33
    · replace h := (br h).2 hc
      refine lv_aload_n hx hb dX6_spoil_23 rfl (lv_at hl 0 rfl) ?_
      refine gt_X0_6 (a := b) hib hlb hC hP wf_X6_130 dX6_spoil_24 ?_
      refine lv_iload_n hx hb dX6_spoil_27 rfl (lv_at hl 3 rfl) ?_
      refine r_iald hC hP (aS_21 (a := b) hib hlb) h dX6_spoil_28 (fun h => ?_)
      refine lv_iconst (v := (-1)) hx hb dX6_spoil_29 (by decide) ?_
      refine lv_icmp_eq (tgt := 34) hx hb dX6_spoil_30 (by decide) (fun hc => ?_) (fun hc => ?_)
      · replace h := (br h).1 hc
        refine lv_aload_n hx hb dX6_spoil_34 rfl (lv_at hl 1 rfl) ?_
        refine gt_X6_3 hC hP wf_X6_24 dX6_spoil_35 ?_
        refine lv_aload_n hx hb dX6_spoil_38 rfl (lv_at hl 2 rfl) ?_
        refine lv_aload_n hx hb dX6_spoil_39 rfl (lv_at hl 0 rfl) ?_
        refine gt_X0_3 (a := b) hib hlb hC hP wf_X6_64 dX6_spoil_40 ?_
        refine lv_iload_n hx hb dX6_spoil_43 rfl (lv_at hl 3 rfl) ?_
        refine r_iald hC hP (aS_18 (a := b) hib hlb) h dX6_spoil_44 (fun h => ?_)
        refine lv_aload_n hx hb dX6_spoil_45 rfl (lv_at hl 0 rfl) ?_
        refine gt_X0_4 (a := b) hib hlb hC hP wf_X6_69 dX6_spoil_46 ?_
        refine lv_iload_n hx hb dX6_spoil_49 rfl (lv_at hl 3 rfl) ?_
        refine r_iald hC hP (aS_19 (a := b) hib hlb) h dX6_spoil_50 (fun h => ?_)
        refine r_cV hS h (fun r hr => r_runV (As := [.ref (al b 0), .int (σ b 18 v2.toNatClampNeg), .int (σ b 19 v2.toNatClampNeg)]) (rest := []) hC kV_X6_81 cw_X9_look (rc_X9 hC hP) hP (tSides_look x al lv σ b hib hlb (σ b 18 v2.toNatClampNeg) (σ b 19 v2.toNatClampNeg) r hr) rfl hl.1 ⟨Nat.le_of_ble_eq_true rfl, Nat.le_of_ble_eq_true rfl⟩ ⟨Nat.le_of_ble_eq_true rfl, Nat.le_of_ble_eq_true rfl⟩ (Nat.le_of_ble_eq_true rfl) dX6_spoil_51) (fun σ2 H locs h hP hS => ?_)
        refine lv_aload_n hx hb dX6_spoil_54 rfl (lv_at hl 1 rfl) ?_
        refine gt_X6_3 hC hP wf_X6_24 dX6_spoil_55 ?_
        refine gt_X9_2 hC hP wf_X6_133 dX6_spoil_58 ?_
        refine lv_if_ne (tgt := 86) hx hb dX6_spoil_61 (by decide) (fun hc => ?_) (fun hc => ?_)
        · replace h := (br h).2 hc
          exact wMelting_spoil_86 hib hlb hC  σ2 v2 H locs ls h hP hS (lv_sub hl [2, 3, 0] rfl)
        · replace h := (br h).1 hc
          refine lv_aload_n hx hb dX6_spoil_64 rfl (lv_at hl 2 rfl) ?_
          refine gt_X10_5 (a := b) hib hlb hC hP wf_X6_35 dX6_spoil_65 ?_
          refine lv_aload_n hx hb dX6_spoil_68 rfl (lv_at hl 0 rfl) ?_
          refine gt_X0_3 (a := b) hib hlb hC hP wf_X6_64 dX6_spoil_69 ?_
          refine lv_iload_n hx hb dX6_spoil_72 rfl (lv_at hl 3 rfl) ?_
          refine r_iald hC hP (aS_18 (a := b) hib hlb) h dX6_spoil_73 (fun h => ?_)
          refine lv_aload_n hx hb dX6_spoil_74 rfl (lv_at hl 0 rfl) ?_
          refine gt_X0_4 (a := b) hib hlb hC hP wf_X6_69 dX6_spoil_75 ?_
          refine lv_iload_n hx hb dX6_spoil_78 rfl (lv_at hl 3 rfl) ?_
          refine r_iald hC hP (aS_19 (a := b) hib hlb) h dX6_spoil_79 (fun h => ?_)
          refine r_cP hS h (fun r hr => r_runV (As := [.int (σ2 b 18 v2.toNatClampNeg), .int (σ2 b 19 v2.toNatClampNeg)]) (rest := []) hC kV_X6_72 cw_X8_standsInWater (rc_X8 (a := b) hib hlb hC hP) hP (tRooms_standsInWater x al lv σ2 b hib hlb (σ2 b 18 v2.toNatClampNeg) (σ2 b 19 v2.toNatClampNeg) r hr) rfl hl.1 ⟨Nat.le_of_ble_eq_true rfl, Nat.le_of_ble_eq_true rfl⟩ ⟨Nat.le_of_ble_eq_true rfl, Nat.le_of_ble_eq_true rfl⟩ (Nat.le_of_ble_eq_true rfl) dX6_spoil_80) (fun y3 H locs h hP hS => ?_)
          refine lv_if_eq (tgt := 96) hx hb dX6_spoil_83 (by decide) (fun hc => ?_) (fun hc => ?_)
          · replace h := (br h).1 hc
            exact r_retV hC hP hS h dX6_spoil_96
          · replace h := (br h).2 hc
            exact wMelting_spoil_86 hib hlb hC  σ2 v2 H locs ls h hP hS (lv_sub hl [2, 3, 0] rfl)
      · replace h := (br h).2 hc
        exact r_retV hC hP hS h dX6_spoil_33

set_option maxRecDepth 20000 in
theorem tMelting_spoil {l : Launch} (x : Wx) (al : Nat → Nat → Nat) (lv : Nat → Bool) (σ : Sg) (b : Nat) (hib : b < 6) (hlb : lv b = true) (v2 : Int32) (res : Sg) (h : fMelting_spoil σ b v2 = some res) : Met l yX6_spoil (Cond.code yX6_spoil cX6_spoil 4 none :: lwg) (rmm 3 0 0) (va_Pc [.ref (al 6 2), .ref (al b 0), .int v2] (Wd x al lv σ)) (QV x al lv res) 0 0 (Ab x) := by
  refine met_W (by decide) (Nat.le_of_ble_eq_true rfl) rfl (fun p e s m args below meth c ls hC hP hS hl => ?_)
  exact wMelting_spoil_0 hib hlb hC σ v2 _ _ ls h hP hS hl
set_option maxHeartbeats 4000000 in
set_option maxRecDepth 20000 in
theorem wMelting_passDay_66 {p : Program} {l : Launch} {e : Env} {s : State} {m : MethodId} {args : Array Value} {below : List Frame} {meth : Method} {c : Code} {x : Wx} {al : Nat → Nat → Nat} {lv : Nat → Bool} {res : Int32 × Sg} {b : Nat} (hib : b < 6) (hlb : lv b = true) (hC : Cx x p s m args meth c cX6_passDay 4 (some .int) RX6) (k29 : Sg → Int32 → Int32 → Option (Int32 × Sg)) (hk29 : ∀ (σ : Sg) (x2 : Int32) (x3 : Int32) (H : Heap) (locs : List Loc) (ls : Array Slot), k29 σ x2 x3 = some res → Pic x al lv σ H → va_S (Ab x) s.heap H locs → lv_has ls 4 [(0, .ref (al 6 2)), (1, .ref (al b 0)), (2, .int x2), (3, .int x3)] → W p l e (rmm 6 0 0) s m args below meth c H locs 0 0 (MQ below (QI x al lv res) args s 0 0 (Ab x)) (F0 m 29 ls [])) (σ : Sg) (x2 : Int32) (x3 : Int32) (H : Heap) (locs : List Loc) (ls : Array Slot) (h : fMelting_passDay_66 k29 σ b x2 x3 = some res) (hP : Pic x al lv σ H) (hS : va_S (Ab x) s.heap H locs) (hl : lv_has ls 4 [(0, .ref (al 6 2)), (1, .ref (al b 0)), (2, .int x2), (3, .int x3)]) : W p l e (rmm 6 0 0) s m args below meth c H locs 0 0 (MQ below (QI x al lv res) args s 0 0 (Ab x)) (F0 m 66 ls []) := by
  obtain ⟨hx, hb, hml, hown, hts⟩ := hC.1
  unfold fMelting_passDay_66 at h
  refine r_iinc (v := 1) hC h dX6_passDay_66 hl (k := 3) rfl rfl (by decide) (fun y8 => [(3, .int y8), (0, .ref (al 6 2)), (1, .ref (al b 0)), (2, .int x2)]) (fun _ => rfl) (fun y8 ls h hl => ?_)
  refine lv_goto (tgt := 29) hx hb dX6_passDay_69 (by decide) ?_
  exact hk29 σ x2 y8 H locs ls h hP hS (lv_sub hl [1, 2, 3, 0] rfl)

set_option maxHeartbeats 4000000 in
set_option maxRecDepth 20000 in
theorem wMelting_passDay_29_b {p : Program} {l : Launch} {e : Env} {s : State} {m : MethodId} {args : Array Value} {below : List Frame} {meth : Method} {c : Code} {x : Wx} {al : Nat → Nat → Nat} {lv : Nat → Bool} {res : Int32 × Sg} {b : Nat} (hib : b < 6) (hlb : lv b = true) (hC : Cx x p s m args meth c cX6_passDay 4 (some .int) RX6) (k29 : Sg → Int32 → Int32 → Option (Int32 × Sg)) (hk29 : ∀ (σ : Sg) (x2 : Int32) (x3 : Int32) (H : Heap) (locs : List Loc) (ls : Array Slot), k29 σ x2 x3 = some res → Pic x al lv σ H → va_S (Ab x) s.heap H locs → lv_has ls 4 [(0, .ref (al 6 2)), (1, .ref (al b 0)), (2, .int x2), (3, .int x3)] → W p l e (rmm 6 0 0) s m args below meth c H locs 0 0 (MQ below (QI x al lv res) args s 0 0 (Ab x)) (F0 m 29 ls [])) (σ : Sg) (x2 : Int32) (x3 : Int32) (H : Heap) (locs : List Loc) (ls : Array Slot) (h : fMelting_passDay_29_b k29 σ b x2 x3 = some res) (hP : Pic x al lv σ H) (hS : va_S (Ab x) s.heap H locs) (hl : lv_has ls 4 [(0, .ref (al 6 2)), (1, .ref (al b 0)), (2, .int x2), (3, .int x3)]) : W p l e (rmm 6 0 0) s m args below meth c H locs 0 0 (MQ below (QI x al lv res) args s 0 0 (Ab x)) (F0 m 29 ls []) := by
  obtain ⟨hx, hb, hml, hown, hts⟩ := hC.1
  unfold fMelting_passDay_29_b at h
  refine lv_iload_n hx hb dX6_passDay_29 rfl (lv_at hl 3 rfl) ?_
  refine lv_aload_n hx hb dX6_passDay_30 rfl (lv_at hl 1 rfl) ?_
  refine gt_X10_6 (a := b) hib hlb hC hP wf_X6_60 dX6_passDay_31 ?_
  refine gt_X0_0 (a := b) hib hlb hC hP wf_X6_110 dX6_passDay_34 ?_
  refine lv_icmp_ge (tgt := 72) hx hb dX6_passDay_37 (by decide) (fun hc => ?_) (fun hc => ?_)
  · replace h := (br h).1 hc
    refine lv_aload_n hx hb dX6_passDay_72 rfl (lv_at hl 1 rfl) ?_
    refine lv_dup hx hb dX6_passDay_73 rfl ?_
    refine gt_X10_3 (a := b) hib hlb hC hP wf_X6_124 dX6_passDay_74 ?_
    refine lv_iload_n hx hb dX6_passDay_77 rfl (lv_at hl 2 rfl) ?_
    refine lv_iadd hx hb dX6_passDay_78 ?_
    refine pt_X10_3 (a := b) hib hlb hC hP hS wf_X6_124 h dX6_passDay_79 (fun σ3 H locs h hP hS => ?_)
    refine lv_aload_n hx hb dX6_passDay_82 rfl (lv_at hl 1 rfl) ?_
    refine lv_dup hx hb dX6_passDay_83 rfl ?_
    refine gt_X10_0 (a := b) hib hlb hC hP wf_X6_127 dX6_passDay_84 ?_
    refine lv_iconst (v := 1) hx hb dX6_passDay_87 (by decide) ?_
    refine lv_iadd hx hb dX6_passDay_88 ?_
    refine pt_X10_0 (a := b) hib hlb hC hP hS wf_X6_127 h dX6_passDay_89 (fun σ4 H locs h hP hS => ?_)
    refine lv_iload_n hx hb dX6_passDay_92 rfl (lv_at hl 2 rfl) ?_
    exact r_retI hC hP hS rfl h dX6_passDay_93
  · replace h := (br h).2 hc
    refine lv_aload_n hx hb dX6_passDay_40 rfl (lv_at hl 1 rfl) ?_
    refine gt_X10_6 (a := b) hib hlb hC hP wf_X6_60 dX6_passDay_41 ?_
    refine lv_iload_n hx hb dX6_passDay_44 rfl (lv_at hl 3 rfl) ?_
    refine r_cP hS h (fun r hr => r_runV (As := [.int x3]) (rest := []) hC kV_X6_111 cw_X0_isInRoom (rc_X0 (a := b) hib hlb hC hP) hP (tBlocks_isInRoom x al lv σ b hib hlb x3 r hr) rfl hl.1 ⟨Nat.le_of_ble_eq_true rfl, Nat.le_of_ble_eq_true rfl⟩ ⟨Nat.le_of_ble_eq_true rfl, Nat.le_of_ble_eq_true rfl⟩ (Nat.le_of_ble_eq_true rfl) dX6_passDay_45) (fun y5 H locs h hP hS => ?_)
    refine lv_if_eq (tgt := 66) hx hb dX6_passDay_48 (by decide) (fun hc => ?_) (fun hc => ?_)
    · replace h := (br h).1 hc
      exact wMelting_passDay_66 hib hlb hC k29 hk29 σ x2 x3 H locs ls h hP hS (lv_sub hl [0, 1, 2, 3] rfl)
    · replace h := (br h).2 hc
      refine lv_aload_n hx hb dX6_passDay_51 rfl (lv_at hl 0 rfl) ?_
      refine lv_aload_n hx hb dX6_passDay_52 rfl (lv_at hl 1 rfl) ?_
      refine lv_iload_n hx hb dX6_passDay_53 rfl (lv_at hl 3 rfl) ?_
      refine r_cV hS h (fun r hr => r_runV (As := [.ref (al b 0), .int x3]) (rest := []) hC kV_X6_121 cw_X6_lose (rc_X6 hC hP) hP (tMelting_lose x al lv σ b hib hlb x3 r hr) rfl hl.1 ⟨Nat.le_of_ble_eq_true rfl, Nat.le_of_ble_eq_true rfl⟩ ⟨Nat.le_of_ble_eq_true rfl, Nat.le_of_ble_eq_true rfl⟩ (Nat.le_of_ble_eq_true rfl) dX6_passDay_54) (fun σ6 H locs h hP hS => ?_)
      refine lv_iload_n hx hb dX6_passDay_57 rfl (lv_at hl 2 rfl) ?_
      refine lv_aload_n hx hb dX6_passDay_58 rfl (lv_at hl 0 rfl) ?_
      refine gt_X6_4 hC hP wf_X6_28 dX6_passDay_59 ?_
      refine lv_iload_n hx hb dX6_passDay_62 rfl (lv_at hl 3 rfl) ?_
      refine r_iald hC hP (aI_12 hP.l6) h dX6_passDay_63 (fun h => ?_)
      refine lv_iadd hx hb dX6_passDay_64 ?_
      refine r_lt h (fun y7 h => ?_)
      refine lv_istore_n (lv' := [(2, .int y7), (0, .ref (al 6 2)), (1, .ref (al b 0)), (3, .int x3)]) hx hb dX6_passDay_65 rfl hl (by decide) rfl (fun ls hl => ?_)
      exact wMelting_passDay_66 hib hlb hC k29 hk29 σ6 y7 x3 H locs ls h hP hS (lv_sub hl [1, 2, 0, 3] rfl)

set_option maxHeartbeats 4000000 in
set_option maxRecDepth 20000 in
theorem wMelting_passDay_29 {p : Program} {l : Launch} {e : Env} {s : State} {m : MethodId} {args : Array Value} {below : List Frame} {meth : Method} {c : Code} {x : Wx} {al : Nat → Nat → Nat} {lv : Nat → Bool} {res : Int32 × Sg} {b : Nat} (hib : b < 6) (hlb : lv b = true) (hC : Cx x p s m args meth c cX6_passDay 4 (some .int) RX6) (n : Nat) (σ : Sg) (x2 : Int32) (x3 : Int32) (H : Heap) (locs : List Loc) (ls : Array Slot) (h : fMelting_passDay_29 n σ b x2 x3 = some res) (hP : Pic x al lv σ H) (hS : va_S (Ab x) s.heap H locs) (hl : lv_has ls 4 [(0, .ref (al 6 2)), (1, .ref (al b 0)), (2, .int x2), (3, .int x3)]) : W p l e (rmm 6 0 0) s m args below meth c H locs 0 0 (MQ below (QI x al lv res) args s 0 0 (Ab x)) (F0 m 29 ls []) := by
  induction n generalizing σ x2 x3 H locs ls with
  | zero => exact nomatch h
  | succ n ih => exact wMelting_passDay_29_b hib hlb hC  _ (fun σ x2 x3 H locs ls h hP hS hl => ih σ x2 x3 H locs ls h hP hS hl) σ x2 x3 H locs ls h hP hS hl
set_option maxHeartbeats 4000000 in
set_option maxRecDepth 20000 in
theorem wMelting_passDay_2_b {p : Program} {l : Launch} {e : Env} {s : State} {m : MethodId} {args : Array Value} {below : List Frame} {meth : Method} {c : Code} {x : Wx} {al : Nat → Nat → Nat} {lv : Nat → Bool} {res : Int32 × Sg} {b : Nat} (hib : b < 6) (hlb : lv b = true) (hC : Cx x p s m args meth c cX6_passDay 4 (some .int) RX6) (k2 : Sg → Int32 → Option (Int32 × Sg)) (hk2 : ∀ (σ : Sg) (x2 : Int32) (H : Heap) (locs : List Loc) (ls : Array Slot), k2 σ x2 = some res → Pic x al lv σ H → va_S (Ab x) s.heap H locs → lv_has ls 4 [(0, .ref (al 6 2)), (1, .ref (al b 0)), (2, .int x2)] → W p l e (rmm 6 0 0) s m args below meth c H locs 0 0 (MQ below (QI x al lv res) args s 0 0 (Ab x)) (F0 m 2 ls [])) (σ : Sg) (x2 : Int32) (H : Heap) (locs : List Loc) (ls : Array Slot) (h : fMelting_passDay_2_b k2 σ b x2 = some res) (hP : Pic x al lv σ H) (hS : va_S (Ab x) s.heap H locs) (hl : lv_has ls 4 [(0, .ref (al 6 2)), (1, .ref (al b 0)), (2, .int x2)]) : W p l e (rmm 6 0 0) s m args below meth c H locs 0 0 (MQ below (QI x al lv res) args s 0 0 (Ab x)) (F0 m 2 ls []) := by
  obtain ⟨hx, hb, hml, hown, hts⟩ := hC.1
  unfold fMelting_passDay_2_b at h
  refine lv_iload_n hx hb dX6_passDay_2 rfl (lv_at hl 2 rfl) ?_
  refine lv_aload_n hx hb dX6_passDay_3 rfl (lv_at hl 1 rfl) ?_
  refine gt_X10_6 (a := b) hib hlb hC hP wf_X6_60 dX6_passDay_4 ?_
  refine gt_X0_0 (a := b) hib hlb hC hP wf_X6_110 dX6_passDay_7 ?_
  refine lv_icmp_ge (tgt := 25) hx hb dX6_passDay_10 (by decide) (fun hc => ?_) (fun hc => ?_)
  · replace h := (br h).1 hc
    refine lv_iconst (v := 0) hx hb dX6_passDay_25 (by decide) ?_
    refine lv_istore_n (lv' := [(2, .int 0), (0, .ref (al 6 2)), (1, .ref (al b 0))]) hx hb dX6_passDay_26 rfl hl (by decide) rfl (fun ls hl => ?_)
    refine lv_iconst (v := 0) hx hb dX6_passDay_27 (by decide) ?_
    refine lv_istore_n (lv' := [(3, .int 0), (2, .int 0), (0, .ref (al 6 2)), (1, .ref (al b 0))]) hx hb dX6_passDay_28 rfl hl (by decide) rfl (fun ls hl => ?_)
    exact wMelting_passDay_29 hib hlb hC  FU σ 0 0 H locs ls h hP hS (lv_sub hl [2, 3, 1, 0] rfl)
  · replace h := (br h).2 hc
    refine lv_aload_n hx hb dX6_passDay_13 rfl (lv_at hl 0 rfl) ?_
    refine lv_aload_n hx hb dX6_passDay_14 rfl (lv_at hl 1 rfl) ?_
    refine lv_iload_n hx hb dX6_passDay_15 rfl (lv_at hl 2 rfl) ?_
    refine r_cV hS h (fun r hr => r_runV (As := [.ref (al b 0), .int x2]) (rest := []) hC kV_X6_117 cw_X6_spoil (rc_X6 hC hP) hP (tMelting_spoil x al lv σ b hib hlb x2 r hr) rfl hl.1 ⟨Nat.le_of_ble_eq_true rfl, Nat.le_of_ble_eq_true rfl⟩ ⟨Nat.le_of_ble_eq_true rfl, Nat.le_of_ble_eq_true rfl⟩ (Nat.le_of_ble_eq_true rfl) dX6_passDay_16) (fun σ1 H locs h hP hS => ?_)
    refine r_iinc (v := 1) hC h dX6_passDay_19 hl (k := 2) rfl rfl (by decide) (fun y2 => [(2, .int y2), (0, .ref (al 6 2)), (1, .ref (al b 0))]) (fun _ => rfl) (fun y2 ls h hl => ?_)
    refine lv_goto (tgt := 2) hx hb dX6_passDay_22 (by decide) ?_
    exact hk2 σ1 y2 H locs ls h hP hS (lv_sub hl [1, 2, 0] rfl)

set_option maxHeartbeats 4000000 in
set_option maxRecDepth 20000 in
theorem wMelting_passDay_2 {p : Program} {l : Launch} {e : Env} {s : State} {m : MethodId} {args : Array Value} {below : List Frame} {meth : Method} {c : Code} {x : Wx} {al : Nat → Nat → Nat} {lv : Nat → Bool} {res : Int32 × Sg} {b : Nat} (hib : b < 6) (hlb : lv b = true) (hC : Cx x p s m args meth c cX6_passDay 4 (some .int) RX6) (n : Nat) (σ : Sg) (x2 : Int32) (H : Heap) (locs : List Loc) (ls : Array Slot) (h : fMelting_passDay_2 n σ b x2 = some res) (hP : Pic x al lv σ H) (hS : va_S (Ab x) s.heap H locs) (hl : lv_has ls 4 [(0, .ref (al 6 2)), (1, .ref (al b 0)), (2, .int x2)]) : W p l e (rmm 6 0 0) s m args below meth c H locs 0 0 (MQ below (QI x al lv res) args s 0 0 (Ab x)) (F0 m 2 ls []) := by
  induction n generalizing σ x2 H locs ls with
  | zero => exact nomatch h
  | succ n ih => exact wMelting_passDay_2_b hib hlb hC  _ (fun σ x2 H locs ls h hP hS hl => ih σ x2 H locs ls h hP hS hl) σ x2 H locs ls h hP hS hl
set_option maxHeartbeats 4000000 in
set_option maxRecDepth 20000 in
theorem wMelting_passDay_0 {p : Program} {l : Launch} {e : Env} {s : State} {m : MethodId} {args : Array Value} {below : List Frame} {meth : Method} {c : Code} {x : Wx} {al : Nat → Nat → Nat} {lv : Nat → Bool} {res : Int32 × Sg} {b : Nat} (hib : b < 6) (hlb : lv b = true) (hC : Cx x p s m args meth c cX6_passDay 4 (some .int) RX6) (σ : Sg) (H : Heap) (locs : List Loc) (ls : Array Slot) (h : fMelting_passDay_0 σ b = some res) (hP : Pic x al lv σ H) (hS : va_S (Ab x) s.heap H locs) (hl : lv_has ls 4 [(0, .ref (al 6 2)), (1, .ref (al b 0))]) : W p l e (rmm 6 0 0) s m args below meth c H locs 0 0 (MQ below (QI x al lv res) args s 0 0 (Ab x)) (F0 m 0 ls []) := by
  obtain ⟨hx, hb, hml, hown, hts⟩ := hC.1
  unfold fMelting_passDay_0 at h
  refine lv_iconst (v := 0) hx hb dX6_passDay_0 (by decide) ?_
  refine lv_istore_n (lv' := [(2, .int 0), (0, .ref (al 6 2)), (1, .ref (al b 0))]) hx hb dX6_passDay_1 rfl hl (by decide) rfl (fun ls hl => ?_)
  exact wMelting_passDay_2 hib hlb hC  FU σ 0 H locs ls h hP hS (lv_sub hl [1, 2, 0] rfl)

set_option maxRecDepth 20000 in
theorem tMelting_passDay {l : Launch} (x : Wx) (al : Nat → Nat → Nat) (lv : Nat → Bool) (σ : Sg) (b : Nat) (hib : b < 6) (hlb : lv b = true) (res : Int32 × Sg) (h : fMelting_passDay σ b = some res) : Met l yX6_passDay (Cond.code yX6_passDay cX6_passDay 4 (some .int) :: lwg) (rmm 6 0 0) (va_Pc [.ref (al 6 2), .ref (al b 0)] (Wd x al lv σ)) (QI x al lv res) 0 0 (Ab x) := by
  refine met_W (by decide) (Nat.le_of_ble_eq_true rfl) rfl (fun p e s m args below meth c ls hC hP hS hl => ?_)
  exact wMelting_passDay_0 hib hlb hC σ  _ _ ls h hP hS hl
set_option maxHeartbeats 4000000 in
set_option maxRecDepth 20000 in
theorem wRooms_above_0 {p : Program} {l : Launch} {e : Env} {s : State} {m : MethodId} {args : Array Value} {below : List Frame} {meth : Method} {c : Code} {x : Wx} {al : Nat → Nat → Nat} {lv : Nat → Bool} {res : Int32} {σ : Sg} {a : Nat} (hia : a < 6) (hla : lv a = true) (hC : Cx x p s m args meth c cX8_above 3 (some .int) RX8) (v1 : Int32) (v2 : Int32) (H : Heap) (locs : List Loc) (ls : Array Slot) (h : fRooms_above_0 σ a v1 v2 = some res) (hP : Pic x al lv σ H) (hS : va_S (Ab x) s.heap H locs) (hl : lv_has ls 3 [(0, .ref (al a 1)), (1, .int v1), (2, .int v2)]) : W p l e (rmm 2 0 0) s m args below meth c H locs 0 0 (MQ below (QP x al lv σ res) args s 0 0 (Ab x)) (F0 m 0 ls []) := by
  obtain ⟨hx, hb, hml, hown, hts⟩ := hC.1
  unfold fRooms_above_0 at h
  refine lv_aload_n hx hb dX8_above_0 rfl (lv_at hl 0 rfl) ?_
  refine lv_iload_n hx hb dX8_above_1 rfl (lv_at hl 1 rfl) ?_
  refine lv_iload_n hx hb dX8_above_2 rfl (lv_at hl 2 rfl) ?_
  refine lv_aload_n hx hb dX8_above_3 rfl (lv_at hl 0 rfl) ?_
  refine gt_X8_6 (a := a) hia hla hC hP wf_X8_27 dX8_above_4 ?_
  refine lv_iload_n hx hb dX8_above_7 rfl (lv_at hl 1 rfl) ?_
  refine r_iald hC hP (aS_7 (a := a) hia hla) h dX8_above_8 (fun h => ?_)
  refine lv_iadd hx hb dX8_above_9 ?_
  refine r_cP hS h (fun r hr => r_runV (As := [.int v1, .int (v2 + (σ a 7 v1.toNatClampNeg))]) (rest := []) hC kV_X8_76 cw_X8_at (rc_X8 (a := a) hia hla hC hP) hP (tRooms_at x al lv σ a hia hla v1 (v2 + (σ a 7 v1.toNatClampNeg)) r hr) rfl hl.1 ⟨Nat.le_of_ble_eq_true rfl, Nat.le_of_ble_eq_true rfl⟩ ⟨Nat.le_of_ble_eq_true rfl, Nat.le_of_ble_eq_true rfl⟩ (Nat.le_of_ble_eq_true rfl) dX8_above_10) (fun y1 H locs h hP hS => ?_)
  exact r_retP hC hP hS rfl h dX8_above_13

set_option maxRecDepth 20000 in
theorem tRooms_above {l : Launch} (x : Wx) (al : Nat → Nat → Nat) (lv : Nat → Bool) (σ : Sg) (a : Nat) (hia : a < 6) (hla : lv a = true) (v1 : Int32) (v2 : Int32) (res : Int32) (h : fRooms_above σ a v1 v2 = some res) : Met l yX8_above (Cond.code yX8_above cX8_above 3 (some .int) :: lwg) (rmm 2 0 0) (va_Pc [.ref (al a 1), .int v1, .int v2] (Wd x al lv σ)) (QP x al lv σ res) 0 0 (Ab x) := by
  refine met_W (by decide) (Nat.le_of_ble_eq_true rfl) rfl (fun p e s m args below meth c ls hC hP hS hl => ?_)
  exact wRooms_above_0 hia hla hC v1 v2 _ _ ls h hP hS hl
set_option maxHeartbeats 4000000 in
set_option maxRecDepth 20000 in
theorem wRooms_isFreeBlock_0 {p : Program} {l : Launch} {e : Env} {s : State} {m : MethodId} {args : Array Value} {below : List Frame} {meth : Method} {c : Code} {x : Wx} {al : Nat → Nat → Nat} {lv : Nat → Bool} {res : Int32} {σ : Sg} {a : Nat} (hia : a < 6) (hla : lv a = true) (hC : Cx x p s m args meth c cX8_isFreeBlock 3 (some .boolean) RX8) (v1 : Int32) (v2 : Int32) (H : Heap) (locs : List Loc) (ls : Array Slot) (h : fRooms_isFreeBlock_0 σ a v1 v2 = some res) (hP : Pic x al lv σ H) (hS : va_S (Ab x) s.heap H locs) (hl : lv_has ls 3 [(0, .ref (al a 1)), (1, .int v1), (2, .int v2)]) : W p l e (rmm 3 0 0) s m args below meth c H locs 0 0 (MQ below (QP x al lv σ res) args s 0 0 (Ab x)) (F0 m 0 ls []) := by
  obtain ⟨hx, hb, hml, hown, hts⟩ := hC.1
  unfold fRooms_isFreeBlock_0 at h
  refine lv_aload_n hx hb dX8_isFreeBlock_0 rfl (lv_at hl 0 rfl) ?_
  refine lv_iload_n hx hb dX8_isFreeBlock_1 rfl (lv_at hl 1 rfl) ?_
  refine lv_iload_n hx hb dX8_isFreeBlock_2 rfl (lv_at hl 2 rfl) ?_
  refine r_cP hS h (fun r hr => r_runV (As := [.int v1, .int v2]) (rest := []) hC kV_X8_76 cw_X8_at (rc_X8 (a := a) hia hla hC hP) hP (tRooms_at x al lv σ a hia hla v1 v2 r hr) rfl hl.1 ⟨Nat.le_of_ble_eq_true rfl, Nat.le_of_ble_eq_true rfl⟩ ⟨Nat.le_of_ble_eq_true rfl, Nat.le_of_ble_eq_true rfl⟩ (Nat.le_of_ble_eq_true rfl) dX8_isFreeBlock_3) (fun y1 H locs h hP hS => ?_)
  refine lv_bipush (v := 10) hx hb dX8_isFreeBlock_6 (by decide) ?_
  refine lv_icmp_lt (tgt := 26) hx hb dX8_isFreeBlock_8 (by decide) (fun hc => ?_) (fun hc => ?_)
  · replace h := (br h).1 hc
    refine lv_iconst (v := 0) hx hb dX8_isFreeBlock_26 (by decide) ?_
    exact r_retP hC hP hS rfl h dX8_isFreeBlock_27
  · replace h := (br h).2 hc
    refine lv_aload_n hx hb dX8_isFreeBlock_11 rfl (lv_at hl 0 rfl) ?_
    refine lv_iload_n hx hb dX8_isFreeBlock_12 rfl (lv_at hl 1 rfl) ?_
    refine lv_iload_n hx hb dX8_isFreeBlock_13 rfl (lv_at hl 2 rfl) ?_
    refine r_cP hS h (fun r hr => r_runV (As := [.int v1, .int v2]) (rest := []) hC kV_X8_83 cw_X8_above (rc_X8 (a := a) hia hla hC hP) hP (tRooms_above x al lv σ a hia hla v1 v2 r hr) rfl hl.1 ⟨Nat.le_of_ble_eq_true rfl, Nat.le_of_ble_eq_true rfl⟩ ⟨Nat.le_of_ble_eq_true rfl, Nat.le_of_ble_eq_true rfl⟩ (Nat.le_of_ble_eq_true rfl) dX8_isFreeBlock_14) (fun y2 H locs h hP hS => ?_)
    refine lv_bipush (v := 10) hx hb dX8_isFreeBlock_17 (by decide) ?_
    refine lv_icmp_ge (tgt := 26) hx hb dX8_isFreeBlock_19 (by decide) (fun hc => ?_) (fun hc => ?_)
    · replace h := (br h).1 hc
      refine lv_iconst (v := 0) hx hb dX8_isFreeBlock_26 (by decide) ?_
      exact r_retP hC hP hS rfl h dX8_isFreeBlock_27
    · replace h := (br h).2 hc
      refine lv_iconst (v := 1) hx hb dX8_isFreeBlock_22 (by decide) ?_
      refine lv_goto (tgt := 27) hx hb dX8_isFreeBlock_23 (by decide) ?_
      exact r_retP hC hP hS rfl h dX8_isFreeBlock_27

set_option maxRecDepth 20000 in
theorem tRooms_isFreeBlock {l : Launch} (x : Wx) (al : Nat → Nat → Nat) (lv : Nat → Bool) (σ : Sg) (a : Nat) (hia : a < 6) (hla : lv a = true) (v1 : Int32) (v2 : Int32) (res : Int32) (h : fRooms_isFreeBlock σ a v1 v2 = some res) : Met l yX8_isFreeBlock (Cond.code yX8_isFreeBlock cX8_isFreeBlock 3 (some .boolean) :: lwg) (rmm 3 0 0) (va_Pc [.ref (al a 1), .int v1, .int v2] (Wd x al lv σ)) (QP x al lv σ res) 0 0 (Ab x) := by
  refine met_W (by decide) (Nat.le_of_ble_eq_true rfl) rfl (fun p e s m args below meth c ls hC hP hS hl => ?_)
  exact wRooms_isFreeBlock_0 hia hla hC v1 v2 _ _ ls h hP hS hl
set_option maxHeartbeats 4000000 in
set_option maxRecDepth 20000 in
theorem wMelting_nearest_143 {p : Program} {l : Launch} {e : Env} {s : State} {m : MethodId} {args : Array Value} {below : List Frame} {meth : Method} {c : Code} {x : Wx} {al : Nat → Nat → Nat} {lv : Nat → Bool} {res : Int32 × Sg} {b : Nat} (hib : b < 6) (hlb : lv b = true) (hC : Cx x p s m args meth c cX6_nearest 13 (some .int) RX6) (k53 : Sg → Int32 → Int32 → Int32 → Int32 → Int32 → Int32 → Int32 → Int32 → Option (Int32 × Sg)) (hk53 : ∀ (σ : Sg) (x2 : Int32) (x4 : Int32) (x5 : Int32) (x6 : Int32) (x7 : Int32) (x8 : Int32) (x9 : Int32) (x10 : Int32) (H : Heap) (locs : List Loc) (ls : Array Slot), k53 σ x2 x4 x5 x6 x7 x8 x9 x10 = some res → Pic x al lv σ H → va_S (Ab x) s.heap H locs → lv_has ls 13 [(0, .ref (al 6 2)), (1, .ref (al b 0)), (2, .int x2), (4, .int x4), (5, .int x5), (6, .int x6), (7, .int x7), (8, .int x8), (9, .int x9), (10, .int x10)] → W p l e (rmm 4 0 0) s m args below meth c H locs 0 0 (MQ below (QI x al lv res) args s 0 0 (Ab x)) (F0 m 53 ls [])) (σ : Sg) (x2 : Int32) (x4 : Int32) (x5 : Int32) (x6 : Int32) (x7 : Int32) (x8 : Int32) (x9 : Int32) (x10 : Int32) (H : Heap) (locs : List Loc) (ls : Array Slot) (h : fMelting_nearest_143 k53 σ b x2 x4 x5 x6 x7 x8 x9 x10 = some res) (hP : Pic x al lv σ H) (hS : va_S (Ab x) s.heap H locs) (hl : lv_has ls 13 [(0, .ref (al 6 2)), (1, .ref (al b 0)), (2, .int x2), (4, .int x4), (5, .int x5), (6, .int x6), (7, .int x7), (8, .int x8), (9, .int x9), (10, .int x10)]) : W p l e (rmm 4 0 0) s m args below meth c H locs 0 0 (MQ below (QI x al lv res) args s 0 0 (Ab x)) (F0 m 143 ls []) := by
  obtain ⟨hx, hb, hml, hown, hts⟩ := hC.1
  unfold fMelting_nearest_143 at h
  refine r_iinc (v := 1) hC h dX6_nearest_143 hl (k := 9) rfl rfl (by decide) (fun y10 => [(10, .int y10), (0, .ref (al 6 2)), (1, .ref (al b 0)), (2, .int x2), (4, .int x4), (5, .int x5), (6, .int x6), (7, .int x7), (8, .int x8), (9, .int x9)]) (fun _ => rfl) (fun y10 ls h hl => ?_)
  refine lv_goto (tgt := 53) hx hb dX6_nearest_146 (by decide) ?_
  exact hk53 σ x2 x4 x5 x6 x7 x8 x9 y10 H locs ls h hP hS (lv_sub hl [1, 2, 3, 4, 5, 6, 7, 8, 9, 0] rfl)

set_option maxHeartbeats 4000000 in
set_option maxRecDepth 20000 in
theorem wMelting_nearest_131 {p : Program} {l : Launch} {e : Env} {s : State} {m : MethodId} {args : Array Value} {below : List Frame} {meth : Method} {c : Code} {x : Wx} {al : Nat → Nat → Nat} {lv : Nat → Bool} {res : Int32 × Sg} {b : Nat} (hib : b < 6) (hlb : lv b = true) (hC : Cx x p s m args meth c cX6_nearest 13 (some .int) RX6) (k53 : Sg → Int32 → Int32 → Int32 → Int32 → Int32 → Int32 → Int32 → Int32 → Option (Int32 × Sg)) (hk53 : ∀ (σ : Sg) (x2 : Int32) (x4 : Int32) (x5 : Int32) (x6 : Int32) (x7 : Int32) (x8 : Int32) (x9 : Int32) (x10 : Int32) (H : Heap) (locs : List Loc) (ls : Array Slot), k53 σ x2 x4 x5 x6 x7 x8 x9 x10 = some res → Pic x al lv σ H → va_S (Ab x) s.heap H locs → lv_has ls 13 [(0, .ref (al 6 2)), (1, .ref (al b 0)), (2, .int x2), (4, .int x4), (5, .int x5), (6, .int x6), (7, .int x7), (8, .int x8), (9, .int x9), (10, .int x10)] → W p l e (rmm 4 0 0) s m args below meth c H locs 0 0 (MQ below (QI x al lv res) args s 0 0 (Ab x)) (F0 m 53 ls [])) (σ : Sg) (x2 : Int32) (x4 : Int32) (x8 : Int32) (x9 : Int32) (x10 : Int32) (x11 : Int32) (x12 : Int32) (H : Heap) (locs : List Loc) (ls : Array Slot) (h : fMelting_nearest_131 k53 σ b x2 x4 x8 x9 x10 x11 x12 = some res) (hP : Pic x al lv σ H) (hS : va_S (Ab x) s.heap H locs) (hl : lv_has ls 13 [(0, .ref (al 6 2)), (1, .ref (al b 0)), (2, .int x2), (4, .int x4), (8, .int x8), (9, .int x9), (10, .int x10), (11, .int x11), (12, .int x12)]) : W p l e (rmm 4 0 0) s m args below meth c H locs 0 0 (MQ below (QI x al lv res) args s 0 0 (Ab x)) (F0 m 131 ls []) := by
  obtain ⟨hx, hb, hml, hown, hts⟩ := hC.1
  unfold fMelting_nearest_131 at h
  refine lv_iload hx hb dX6_nearest_131 (lv_at hl 7 rfl) ?_
  refine lv_istore (lv' := [(5, .int x11), (0, .ref (al 6 2)), (1, .ref (al b 0)), (2, .int x2), (4, .int x4), (8, .int x8), (9, .int x9), (10, .int x10), (11, .int x11), (12, .int x12)]) hx hb dX6_nearest_133 hl (by decide) rfl (fun ls hl => ?_)
  refine lv_iload hx hb dX6_nearest_135 (lv_at hl 9 rfl) ?_
  refine lv_istore (lv' := [(6, .int x12), (5, .int x11), (0, .ref (al 6 2)), (1, .ref (al b 0)), (2, .int x2), (4, .int x4), (8, .int x8), (9, .int x9), (10, .int x10), (11, .int x11), (12, .int x12)]) hx hb dX6_nearest_137 hl (by decide) rfl (fun ls hl => ?_)
  refine lv_iload hx hb dX6_nearest_139 (lv_at hl 7 rfl) ?_
  refine lv_istore (lv' := [(7, .int x9), (6, .int x12), (5, .int x11), (0, .ref (al 6 2)), (1, .ref (al b 0)), (2, .int x2), (4, .int x4), (8, .int x8), (9, .int x9), (10, .int x10), (11, .int x11), (12, .int x12)]) hx hb dX6_nearest_141 hl (by decide) rfl (fun ls hl => ?_)
  exact wMelting_nearest_143 hib hlb hC k53 hk53 σ x2 x4 x11 x12 x9 x8 x9 x10 H locs ls h hP hS (lv_sub hl [3, 4, 5, 6, 2, 1, 0, 7, 8, 9] rfl)

set_option maxHeartbeats 4000000 in
set_option maxRecDepth 20000 in
theorem wMelting_nearest_53_b {p : Program} {l : Launch} {e : Env} {s : State} {m : MethodId} {args : Array Value} {below : List Frame} {meth : Method} {c : Code} {x : Wx} {al : Nat → Nat → Nat} {lv : Nat → Bool} {res : Int32 × Sg} {b : Nat} (hib : b < 6) (hlb : lv b = true) (hC : Cx x p s m args meth c cX6_nearest 13 (some .int) RX6) (k32 : Sg → Int32 → Int32 → Int32 → Int32 → Int32 → Int32 → Int32 → Option (Int32 × Sg)) (hk32 : ∀ (σ : Sg) (x2 : Int32) (x4 : Int32) (x5 : Int32) (x6 : Int32) (x7 : Int32) (x8 : Int32) (x9 : Int32) (H : Heap) (locs : List Loc) (ls : Array Slot), k32 σ x2 x4 x5 x6 x7 x8 x9 = some res → Pic x al lv σ H → va_S (Ab x) s.heap H locs → lv_has ls 13 [(0, .ref (al 6 2)), (1, .ref (al b 0)), (2, .int x2), (4, .int x4), (5, .int x5), (6, .int x6), (7, .int x7), (8, .int x8), (9, .int x9)] → W p l e (rmm 4 0 0) s m args below meth c H locs 0 0 (MQ below (QI x al lv res) args s 0 0 (Ab x)) (F0 m 32 ls [])) (k53 : Sg → Int32 → Int32 → Int32 → Int32 → Int32 → Int32 → Int32 → Int32 → Option (Int32 × Sg)) (hk53 : ∀ (σ : Sg) (x2 : Int32) (x4 : Int32) (x5 : Int32) (x6 : Int32) (x7 : Int32) (x8 : Int32) (x9 : Int32) (x10 : Int32) (H : Heap) (locs : List Loc) (ls : Array Slot), k53 σ x2 x4 x5 x6 x7 x8 x9 x10 = some res → Pic x al lv σ H → va_S (Ab x) s.heap H locs → lv_has ls 13 [(0, .ref (al 6 2)), (1, .ref (al b 0)), (2, .int x2), (4, .int x4), (5, .int x5), (6, .int x6), (7, .int x7), (8, .int x8), (9, .int x9), (10, .int x10)] → W p l e (rmm 4 0 0) s m args below meth c H locs 0 0 (MQ below (QI x al lv res) args s 0 0 (Ab x)) (F0 m 53 ls [])) (σ : Sg) (x2 : Int32) (x4 : Int32) (x5 : Int32) (x6 : Int32) (x7 : Int32) (x8 : Int32) (x9 : Int32) (x10 : Int32) (H : Heap) (locs : List Loc) (ls : Array Slot) (h : fMelting_nearest_53_b k32 k53 σ b x2 x4 x5 x6 x7 x8 x9 x10 = some res) (hP : Pic x al lv σ H) (hS : va_S (Ab x) s.heap H locs) (hl : lv_has ls 13 [(0, .ref (al 6 2)), (1, .ref (al b 0)), (2, .int x2), (4, .int x4), (5, .int x5), (6, .int x6), (7, .int x7), (8, .int x8), (9, .int x9), (10, .int x10)]) : W p l e (rmm 4 0 0) s m args below meth c H locs 0 0 (MQ below (QI x al lv res) args s 0 0 (Ab x)) (F0 m 53 ls []) := by
  obtain ⟨hx, hb, hml, hown, hts⟩ := hC.1
  unfold fMelting_nearest_53_b at h
  refine lv_iload hx hb dX6_nearest_53 (lv_at hl 9 rfl) ?_
  refine lv_iload hx hb dX6_nearest_55 (lv_at hl 8 rfl) ?_
  refine lv_iconst (v := 1) hx hb dX6_nearest_57 (by decide) ?_
  refine lv_iadd hx hb dX6_nearest_58 ?_
  refine lv_iload hx hb dX6_nearest_59 (lv_at hl 7 rfl) ?_
  refine lv_imul hx hb dX6_nearest_61 ?_
  refine lv_icmp_ge (tgt := 149) hx hb dX6_nearest_62 (by decide) (fun hc => ?_) (fun hc => ?_)
  · replace h := (br h).1 hc
    refine r_iinc (v := 1) hC h dX6_nearest_149 hl (k := 8) rfl rfl (by decide) (fun y4 => [(9, .int y4), (0, .ref (al 6 2)), (1, .ref (al b 0)), (2, .int x2), (4, .int x4), (5, .int x5), (6, .int x6), (7, .int x7), (8, .int x8), (10, .int x10)]) (fun _ => rfl) (fun y4 ls h hl => ?_)
    refine lv_goto (tgt := 32) hx hb dX6_nearest_152 (by decide) ?_
    exact hk32 σ x2 x4 x5 x6 x7 x8 y4 H locs ls h hP hS (lv_sub hl [1, 2, 3, 4, 5, 6, 7, 8, 0] rfl)
  · replace h := (br h).2 hc
    refine lv_aload_n hx hb dX6_nearest_65 rfl (lv_at hl 1 rfl) ?_
    refine gt_X10_5 (a := b) hib hlb hC hP wf_X6_35 dX6_nearest_66 ?_
    refine lv_iload_n hx hb dX6_nearest_69 rfl (lv_at hl 2 rfl) ?_
    refine lv_iload hx hb dX6_nearest_70 (lv_at hl 9 rfl) ?_
    refine r_cP hS h (fun r hr => r_runV (As := [.int x2, .int x10]) (rest := []) hC kV_X6_165 cw_X8_isFreeBlock (rc_X8 (a := b) hib hlb hC hP) hP (tRooms_isFreeBlock x al lv σ b hib hlb x2 x10 r hr) rfl hl.1 ⟨Nat.le_of_ble_eq_true rfl, Nat.le_of_ble_eq_true rfl⟩ ⟨Nat.le_of_ble_eq_true rfl, Nat.le_of_ble_eq_true rfl⟩ (Nat.le_of_ble_eq_true rfl) dX6_nearest_72) (fun y5 H locs h hP hS => ?_)
    refine lv_if_eq (tgt := 143) hx hb dX6_nearest_75 (by decide) (fun hc => ?_) (fun hc => ?_)
    · replace h := (br h).1 hc
      exact wMelting_nearest_143 hib hlb hC k53 hk53 σ x2 x4 x5 x6 x7 x8 x9 x10 H locs ls h hP hS (lv_sub hl [0, 1, 2, 3, 4, 5, 6, 7, 8, 9] rfl)
    · replace h := (br h).2 hc
      refine lv_aload_n hx hb dX6_nearest_78 rfl (lv_at hl 1 rfl) ?_
      refine gt_X10_5 (a := b) hib hlb hC hP wf_X6_35 dX6_nearest_79 ?_
      refine lv_iload_n hx hb dX6_nearest_82 rfl (lv_at hl 2 rfl) ?_
      refine lv_iload hx hb dX6_nearest_83 (lv_at hl 9 rfl) ?_
      refine r_cP hS h (fun r hr => r_runV (As := [.int x2, .int x10]) (rest := []) hC kV_X6_168 cw_X8_at (rc_X8 (a := b) hib hlb hC hP) hP (tRooms_at x al lv σ b hib hlb x2 x10 r hr) rfl hl.1 ⟨Nat.le_of_ble_eq_true rfl, Nat.le_of_ble_eq_true rfl⟩ ⟨Nat.le_of_ble_eq_true rfl, Nat.le_of_ble_eq_true rfl⟩ (Nat.le_of_ble_eq_true rfl) dX6_nearest_85) (fun y6 H locs h hP hS => ?_)
      refine lv_bipush (v := 10) hx hb dX6_nearest_88 (by decide) ?_
      refine lv_isub hx hb dX6_nearest_90 ?_
      refine r_lt h (fun y7 h => ?_)
      refine lv_istore (lv' := [(11, .int y7), (0, .ref (al 6 2)), (1, .ref (al b 0)), (2, .int x2), (4, .int x4), (5, .int x5), (6, .int x6), (7, .int x7), (8, .int x8), (9, .int x9), (10, .int x10)]) hx hb dX6_nearest_91 hl (by decide) rfl (fun ls hl => ?_)
      refine lv_aload_n hx hb dX6_nearest_93 rfl (lv_at hl 1 rfl) ?_
      refine lv_aload_n hx hb dX6_nearest_94 rfl (lv_at hl 2 rfl) ?_
      refine lv_iload hx hb dX6_nearest_95 (lv_at hl 0 rfl) ?_
      refine lv_iload hx hb dX6_nearest_97 (lv_at hl 4 rfl) ?_
      refine r_cI hS h (fun r hr => r_runV (As := [.ref (al b 0), .int y7, .int x4]) (rest := []) hC kV_X6_114 cw_X6_lossOf (rc_X6 hC hP) hP (tMelting_lossOf x al lv σ b hib hlb y7 x4 r hr) rfl hl.1 ⟨Nat.le_of_ble_eq_true rfl, Nat.le_of_ble_eq_true rfl⟩ ⟨Nat.le_of_ble_eq_true rfl, Nat.le_of_ble_eq_true rfl⟩ (Nat.le_of_ble_eq_true rfl) dX6_nearest_99) (fun y8 σ9 H locs h hP hS => ?_)
      refine lv_istore (lv' := [(12, .int y8), (11, .int y7), (0, .ref (al 6 2)), (1, .ref (al b 0)), (2, .int x2), (4, .int x4), (5, .int x5), (6, .int x6), (7, .int x7), (8, .int x8), (9, .int x9), (10, .int x10)]) hx hb dX6_nearest_102 hl (by decide) rfl (fun ls hl => ?_)
      refine lv_iload hx hb dX6_nearest_104 (lv_at hl 6 rfl) ?_
      refine lv_iconst (v := (-1)) hx hb dX6_nearest_106 (by decide) ?_
      refine lv_icmp_eq (tgt := 131) hx hb dX6_nearest_107 (by decide) (fun hc => ?_) (fun hc => ?_)
      · replace h := (br h).1 hc
        exact wMelting_nearest_131 hib hlb hC k53 hk53 σ9 x2 x4 x8 x9 x10 y7 y8 H locs ls h hP hS (lv_sub hl [2, 3, 4, 5, 9, 10, 11, 1, 0] rfl)
      · replace h := (br h).2 hc
        refine lv_iload hx hb dX6_nearest_110 (lv_at hl 0 rfl) ?_
        refine lv_iload hx hb dX6_nearest_112 (lv_at hl 7 rfl) ?_
        refine lv_icmp_gt (tgt := 131) hx hb dX6_nearest_114 (by decide) (fun hc => ?_) (fun hc => ?_)
        · replace h := (br h).1 hc
          exact wMelting_nearest_131 hib hlb hC k53 hk53 σ9 x2 x4 x8 x9 x10 y7 y8 H locs ls h hP hS (lv_sub hl [2, 3, 4, 5, 9, 10, 11, 1, 0] rfl)
        · replace h := (br h).2 hc
          refine lv_iload hx hb dX6_nearest_117 (lv_at hl 0 rfl) ?_
          refine lv_iload hx hb dX6_nearest_119 (lv_at hl 7 rfl) ?_
          refine lv_icmp_ne (tgt := 143) hx hb dX6_nearest_121 (by decide) (fun hc => ?_) (fun hc => ?_)
          · replace h := (br h).2 hc
            exact wMelting_nearest_143 hib hlb hC k53 hk53 σ9 x2 x4 x5 x6 x7 x8 x9 x10 H locs ls h hP hS (lv_sub hl [2, 3, 4, 5, 6, 7, 8, 9, 10, 11] rfl)
          · replace h := (br h).1 hc
            refine lv_iload hx hb dX6_nearest_124 (lv_at hl 10 rfl) ?_
            refine lv_iload hx hb dX6_nearest_126 (lv_at hl 8 rfl) ?_
            refine lv_icmp_le (tgt := 143) hx hb dX6_nearest_128 (by decide) (fun hc => ?_) (fun hc => ?_)
            · replace h := (br h).1 hc
              exact wMelting_nearest_143 hib hlb hC k53 hk53 σ9 x2 x4 x5 x6 x7 x8 x9 x10 H locs ls h hP hS (lv_sub hl [2, 3, 4, 5, 6, 7, 8, 9, 10, 11] rfl)
            · replace h := (br h).2 hc
              exact wMelting_nearest_131 hib hlb hC k53 hk53 σ9 x2 x4 x8 x9 x10 y7 y8 H locs ls h hP hS (lv_sub hl [2, 3, 4, 5, 9, 10, 11, 1, 0] rfl)

set_option maxHeartbeats 4000000 in
set_option maxRecDepth 20000 in
theorem wMelting_nearest_53 {p : Program} {l : Launch} {e : Env} {s : State} {m : MethodId} {args : Array Value} {below : List Frame} {meth : Method} {c : Code} {x : Wx} {al : Nat → Nat → Nat} {lv : Nat → Bool} {res : Int32 × Sg} {b : Nat} (hib : b < 6) (hlb : lv b = true) (hC : Cx x p s m args meth c cX6_nearest 13 (some .int) RX6) (k32 : Sg → Int32 → Int32 → Int32 → Int32 → Int32 → Int32 → Int32 → Option (Int32 × Sg)) (hk32 : ∀ (σ : Sg) (x2 : Int32) (x4 : Int32) (x5 : Int32) (x6 : Int32) (x7 : Int32) (x8 : Int32) (x9 : Int32) (H : Heap) (locs : List Loc) (ls : Array Slot), k32 σ x2 x4 x5 x6 x7 x8 x9 = some res → Pic x al lv σ H → va_S (Ab x) s.heap H locs → lv_has ls 13 [(0, .ref (al 6 2)), (1, .ref (al b 0)), (2, .int x2), (4, .int x4), (5, .int x5), (6, .int x6), (7, .int x7), (8, .int x8), (9, .int x9)] → W p l e (rmm 4 0 0) s m args below meth c H locs 0 0 (MQ below (QI x al lv res) args s 0 0 (Ab x)) (F0 m 32 ls [])) (n : Nat) (σ : Sg) (x2 : Int32) (x4 : Int32) (x5 : Int32) (x6 : Int32) (x7 : Int32) (x8 : Int32) (x9 : Int32) (x10 : Int32) (H : Heap) (locs : List Loc) (ls : Array Slot) (h : fMelting_nearest_53 k32 n σ b x2 x4 x5 x6 x7 x8 x9 x10 = some res) (hP : Pic x al lv σ H) (hS : va_S (Ab x) s.heap H locs) (hl : lv_has ls 13 [(0, .ref (al 6 2)), (1, .ref (al b 0)), (2, .int x2), (4, .int x4), (5, .int x5), (6, .int x6), (7, .int x7), (8, .int x8), (9, .int x9), (10, .int x10)]) : W p l e (rmm 4 0 0) s m args below meth c H locs 0 0 (MQ below (QI x al lv res) args s 0 0 (Ab x)) (F0 m 53 ls []) := by
  induction n generalizing σ x2 x4 x5 x6 x7 x8 x9 x10 H locs ls with
  | zero => exact nomatch h
  | succ n ih => exact wMelting_nearest_53_b hib hlb hC k32 hk32 _ (fun σ x2 x4 x5 x6 x7 x8 x9 x10 H locs ls h hP hS hl => ih σ x2 x4 x5 x6 x7 x8 x9 x10 H locs ls h hP hS hl) σ x2 x4 x5 x6 x7 x8 x9 x10 H locs ls h hP hS hl
set_option maxHeartbeats 4000000 in
set_option maxRecDepth 20000 in
theorem wMelting_nearest_32_b {p : Program} {l : Launch} {e : Env} {s : State} {m : MethodId} {args : Array Value} {below : List Frame} {meth : Method} {c : Code} {x : Wx} {al : Nat → Nat → Nat} {lv : Nat → Bool} {res : Int32 × Sg} {b : Nat} (hib : b < 6) (hlb : lv b = true) (hC : Cx x p s m args meth c cX6_nearest 13 (some .int) RX6) (k32 : Sg → Int32 → Int32 → Int32 → Int32 → Int32 → Int32 → Int32 → Option (Int32 × Sg)) (hk32 : ∀ (σ : Sg) (x2 : Int32) (x4 : Int32) (x5 : Int32) (x6 : Int32) (x7 : Int32) (x8 : Int32) (x9 : Int32) (H : Heap) (locs : List Loc) (ls : Array Slot), k32 σ x2 x4 x5 x6 x7 x8 x9 = some res → Pic x al lv σ H → va_S (Ab x) s.heap H locs → lv_has ls 13 [(0, .ref (al 6 2)), (1, .ref (al b 0)), (2, .int x2), (4, .int x4), (5, .int x5), (6, .int x6), (7, .int x7), (8, .int x8), (9, .int x9)] → W p l e (rmm 4 0 0) s m args below meth c H locs 0 0 (MQ below (QI x al lv res) args s 0 0 (Ab x)) (F0 m 32 ls [])) (σ : Sg) (x2 : Int32) (x4 : Int32) (x5 : Int32) (x6 : Int32) (x7 : Int32) (x8 : Int32) (x9 : Int32) (H : Heap) (locs : List Loc) (ls : Array Slot) (h : fMelting_nearest_32_b k32 σ b x2 x4 x5 x6 x7 x8 x9 = some res) (hP : Pic x al lv σ H) (hS : va_S (Ab x) s.heap H locs) (hl : lv_has ls 13 [(0, .ref (al 6 2)), (1, .ref (al b 0)), (2, .int x2), (4, .int x4), (5, .int x5), (6, .int x6), (7, .int x7), (8, .int x8), (9, .int x9)]) : W p l e (rmm 4 0 0) s m args below meth c H locs 0 0 (MQ below (QI x al lv res) args s 0 0 (Ab x)) (F0 m 32 ls []) := by
  obtain ⟨hx, hb, hml, hown, hts⟩ := hC.1
  unfold fMelting_nearest_32_b at h
  refine lv_iload hx hb dX6_nearest_32 (lv_at hl 8 rfl) ?_
  refine lv_aload_n hx hb dX6_nearest_34 rfl (lv_at hl 1 rfl) ?_
  refine gt_X10_5 (a := b) hib hlb hC hP wf_X6_35 dX6_nearest_35 ?_
  refine gt_X8_4 (a := b) hib hlb hC hP wf_X6_162 dX6_nearest_38 ?_
  refine lv_iload_n hx hb dX6_nearest_41 rfl (lv_at hl 2 rfl) ?_
  refine r_iald hC hP (aS_5 (a := b) hib hlb) h dX6_nearest_42 (fun h => ?_)
  refine lv_icmp_ge (tgt := 155) hx hb dX6_nearest_43 (by decide) (fun hc => ?_) (fun hc => ?_)
  · replace h := (br h).1 hc
    refine lv_iload hx hb dX6_nearest_155 (lv_at hl 4 rfl) ?_
    exact r_retI hC hP hS rfl h dX6_nearest_157
  · replace h := (br h).2 hc
    refine lv_iload hx hb dX6_nearest_46 (lv_at hl 8 rfl) ?_
    refine lv_iload hx hb dX6_nearest_48 (lv_at hl 7 rfl) ?_
    refine lv_imul hx hb dX6_nearest_50 ?_
    refine r_lt h (fun y3 h => ?_)
    refine lv_istore (lv' := [(10, .int y3), (0, .ref (al 6 2)), (1, .ref (al b 0)), (2, .int x2), (4, .int x4), (5, .int x5), (6, .int x6), (7, .int x7), (8, .int x8), (9, .int x9)]) hx hb dX6_nearest_51 hl (by decide) rfl (fun ls hl => ?_)
    exact wMelting_nearest_53 hib hlb hC k32 hk32 FU σ x2 x4 x5 x6 x7 x8 x9 y3 H locs ls h hP hS (lv_sub hl [1, 2, 3, 4, 5, 6, 7, 8, 9, 0] rfl)

set_option maxHeartbeats 4000000 in
set_option maxRecDepth 20000 in
theorem wMelting_nearest_32 {p : Program} {l : Launch} {e : Env} {s : State} {m : MethodId} {args : Array Value} {below : List Frame} {meth : Method} {c : Code} {x : Wx} {al : Nat → Nat → Nat} {lv : Nat → Bool} {res : Int32 × Sg} {b : Nat} (hib : b < 6) (hlb : lv b = true) (hC : Cx x p s m args meth c cX6_nearest 13 (some .int) RX6) (n : Nat) (σ : Sg) (x2 : Int32) (x4 : Int32) (x5 : Int32) (x6 : Int32) (x7 : Int32) (x8 : Int32) (x9 : Int32) (H : Heap) (locs : List Loc) (ls : Array Slot) (h : fMelting_nearest_32 n σ b x2 x4 x5 x6 x7 x8 x9 = some res) (hP : Pic x al lv σ H) (hS : va_S (Ab x) s.heap H locs) (hl : lv_has ls 13 [(0, .ref (al 6 2)), (1, .ref (al b 0)), (2, .int x2), (4, .int x4), (5, .int x5), (6, .int x6), (7, .int x7), (8, .int x8), (9, .int x9)]) : W p l e (rmm 4 0 0) s m args below meth c H locs 0 0 (MQ below (QI x al lv res) args s 0 0 (Ab x)) (F0 m 32 ls []) := by
  induction n generalizing σ x2 x4 x5 x6 x7 x8 x9 H locs ls with
  | zero => exact nomatch h
  | succ n ih => exact wMelting_nearest_32_b hib hlb hC  _ (fun σ x2 x4 x5 x6 x7 x8 x9 H locs ls h hP hS hl => ih σ x2 x4 x5 x6 x7 x8 x9 H locs ls h hP hS hl) σ x2 x4 x5 x6 x7 x8 x9 H locs ls h hP hS hl
set_option maxHeartbeats 4000000 in
set_option maxRecDepth 20000 in
theorem wMelting_nearest_0 {p : Program} {l : Launch} {e : Env} {s : State} {m : MethodId} {args : Array Value} {below : List Frame} {meth : Method} {c : Code} {x : Wx} {al : Nat → Nat → Nat} {lv : Nat → Bool} {res : Int32 × Sg} {b : Nat} (hib : b < 6) (hlb : lv b = true) (hC : Cx x p s m args meth c cX6_nearest 13 (some .int) RX6) (σ : Sg) (v2 : Int32) (v3 : Int32) (H : Heap) (locs : List Loc) (ls : Array Slot) (h : fMelting_nearest_0 σ b v2 v3 = some res) (hP : Pic x al lv σ H) (hS : va_S (Ab x) s.heap H locs) (hl : lv_has ls 13 [(0, .ref (al 6 2)), (1, .ref (al b 0)), (2, .int v2), (3, .int v3)]) : W p l e (rmm 4 0 0) s m args below meth c H locs 0 0 (MQ below (QI x al lv res) args s 0 0 (Ab x)) (F0 m 0 ls []) := by
  obtain ⟨hx, hb, hml, hown, hts⟩ := hC.1
  unfold fMelting_nearest_0 at h
  refine lv_aload_n hx hb dX6_nearest_0 rfl (lv_at hl 0 rfl) ?_
  refine lv_aload_n hx hb dX6_nearest_1 rfl (lv_at hl 1 rfl) ?_
  refine lv_iload_n hx hb dX6_nearest_2 rfl (lv_at hl 2 rfl) ?_
  refine lv_iload_n hx hb dX6_nearest_3 rfl (lv_at hl 3 rfl) ?_
  refine r_cP hS h (fun r hr => r_runV (As := [.ref (al b 0), .int v2, .int v3]) (rest := []) hC kV_X6_106 cw_X6_warmthIn (rc_X6 hC hP) hP (tMelting_warmthIn x al lv σ b hib hlb v2 v3 r hr) rfl hl.1 ⟨Nat.le_of_ble_eq_true rfl, Nat.le_of_ble_eq_true rfl⟩ ⟨Nat.le_of_ble_eq_true rfl, Nat.le_of_ble_eq_true rfl⟩ (Nat.le_of_ble_eq_true rfl) dX6_nearest_4) (fun y1 H locs h hP hS => ?_)
  refine lv_istore (lv' := [(4, .int y1), (0, .ref (al 6 2)), (1, .ref (al b 0)), (2, .int v2), (3, .int v3)]) hx hb dX6_nearest_7 hl (by decide) rfl (fun ls hl => ?_)
  refine lv_iconst (v := (-1)) hx hb dX6_nearest_9 (by decide) ?_
  refine lv_istore (lv' := [(5, .int ((-1))), (4, .int y1), (0, .ref (al 6 2)), (1, .ref (al b 0)), (2, .int v2), (3, .int v3)]) hx hb dX6_nearest_10 hl (by decide) rfl (fun ls hl => ?_)
  refine lv_iconst (v := 0) hx hb dX6_nearest_12 (by decide) ?_
  refine lv_istore (lv' := [(6, .int 0), (5, .int ((-1))), (4, .int y1), (0, .ref (al 6 2)), (1, .ref (al b 0)), (2, .int v2), (3, .int v3)]) hx hb dX6_nearest_13 hl (by decide) rfl (fun ls hl => ?_)
  refine lv_iconst (v := 0) hx hb dX6_nearest_15 (by decide) ?_
  refine lv_istore (lv' := [(7, .int 0), (6, .int 0), (5, .int ((-1))), (4, .int y1), (0, .ref (al 6 2)), (1, .ref (al b 0)), (2, .int v2), (3, .int v3)]) hx hb dX6_nearest_16 hl (by decide) rfl (fun ls hl => ?_)
  refine lv_aload_n hx hb dX6_nearest_18 rfl (lv_at hl 5 rfl) ?_
  refine gt_X10_5 (a := b) hib hlb hC hP wf_X6_35 dX6_nearest_19 ?_
  refine gt_X8_6 (a := b) hib hlb hC hP wf_X6_159 dX6_nearest_22 ?_
  refine lv_iload_n hx hb dX6_nearest_25 rfl (lv_at hl 6 rfl) ?_
  refine r_iald hC hP (aS_7 (a := b) hib hlb) h dX6_nearest_26 (fun h => ?_)
  refine r_lt h (fun y2 h => ?_)
  refine lv_istore (lv' := [(8, .int y2), (7, .int 0), (6, .int 0), (5, .int ((-1))), (4, .int y1), (0, .ref (al 6 2)), (1, .ref (al b 0)), (2, .int v2), (3, .int v3)]) hx hb dX6_nearest_27 hl (by decide) rfl (fun ls hl => ?_)
  refine lv_iconst (v := 0) hx hb dX6_nearest_29 (by decide) ?_
  refine lv_istore (lv' := [(9, .int 0), (8, .int y2), (7, .int 0), (6, .int 0), (5, .int ((-1))), (4, .int y1), (0, .ref (al 6 2)), (1, .ref (al b 0)), (2, .int v2), (3, .int v3)]) hx hb dX6_nearest_30 hl (by decide) rfl (fun ls hl => ?_)
  exact wMelting_nearest_32 hib hlb hC  FU σ v2 y1 ((-1)) 0 0 y2 0 H locs ls h hP hS (lv_sub hl [6, 7, 8, 5, 4, 3, 2, 1, 0] rfl)

set_option maxRecDepth 20000 in
theorem tMelting_nearest {l : Launch} (x : Wx) (al : Nat → Nat → Nat) (lv : Nat → Bool) (σ : Sg) (b : Nat) (hib : b < 6) (hlb : lv b = true) (v2 : Int32) (v3 : Int32) (res : Int32 × Sg) (h : fMelting_nearest σ b v2 v3 = some res) : Met l yX6_nearest (Cond.code yX6_nearest cX6_nearest 13 (some .int) :: lwg) (rmm 4 0 0) (va_Pc [.ref (al 6 2), .ref (al b 0), .int v2, .int v3] (Wd x al lv σ)) (QI x al lv res) 0 0 (Ab x) := by
  refine met_W (by decide) (Nat.le_of_ble_eq_true rfl) rfl (fun p e s m args below meth c ls hC hP hS hl => ?_)
  exact wMelting_nearest_0 hib hlb hC σ v2 v3 _ _ ls h hP hS hl
set_option maxHeartbeats 4000000 in
set_option maxRecDepth 20000 in
theorem wMelting_airSidesIn_59 {p : Program} {l : Launch} {e : Env} {s : State} {m : MethodId} {args : Array Value} {below : List Frame} {meth : Method} {c : Code} {x : Wx} {al : Nat → Nat → Nat} {lv : Nat → Bool} {res : Int32 × Sg} {b : Nat} (hib : b < 6) (hlb : lv b = true) (hC : Cx x p s m args meth c cX6_airSidesIn 6 (some .int) RX6) (k16 : Sg → Int32 → Int32 → Int32 → Int32 → Option (Int32 × Sg)) (hk16 : ∀ (σ : Sg) (x2 : Int32) (x3 : Int32) (x4 : Int32) (x5 : Int32) (H : Heap) (locs : List Loc) (ls : Array Slot), k16 σ x2 x3 x4 x5 = some res → Pic x al lv σ H → va_S (Ab x) s.heap H locs → lv_has ls 6 [(0, .ref (al 6 2)), (1, .ref (al b 0)), (2, .int x2), (3, .int x3), (4, .int x4), (5, .int x5)] → W p l e (rmm 3 0 0) s m args below meth c H locs 0 0 (MQ below (QI x al lv res) args s 0 0 (Ab x)) (F0 m 16 ls [])) (σ : Sg) (x2 : Int32) (x3 : Int32) (x4 : Int32) (x5 : Int32) (H : Heap) (locs : List Loc) (ls : Array Slot) (h : fMelting_airSidesIn_59 k16 σ b x2 x3 x4 x5 = some res) (hP : Pic x al lv σ H) (hS : va_S (Ab x) s.heap H locs) (hl : lv_has ls 6 [(0, .ref (al 6 2)), (1, .ref (al b 0)), (2, .int x2), (3, .int x3), (4, .int x4), (5, .int x5)]) : W p l e (rmm 3 0 0) s m args below meth c H locs 0 0 (MQ below (QI x al lv res) args s 0 0 (Ab x)) (F0 m 59 ls []) := by
  obtain ⟨hx, hb, hml, hown, hts⟩ := hC.1
  unfold fMelting_airSidesIn_59 at h
  refine r_iinc (v := 1) hC h dX6_airSidesIn_59 hl (k := 5) rfl rfl (by decide) (fun y5 => [(5, .int y5), (0, .ref (al 6 2)), (1, .ref (al b 0)), (2, .int x2), (3, .int x3), (4, .int x4)]) (fun _ => rfl) (fun y5 ls h hl => ?_)
  refine lv_goto (tgt := 16) hx hb dX6_airSidesIn_62 (by decide) ?_
  exact hk16 σ x2 x3 x4 y5 H locs ls h hP hS (lv_sub hl [1, 2, 3, 4, 5, 0] rfl)

set_option maxHeartbeats 4000000 in
set_option maxRecDepth 20000 in
theorem wMelting_airSidesIn_16_b {p : Program} {l : Launch} {e : Env} {s : State} {m : MethodId} {args : Array Value} {below : List Frame} {meth : Method} {c : Code} {x : Wx} {al : Nat → Nat → Nat} {lv : Nat → Bool} {res : Int32 × Sg} {b : Nat} (hib : b < 6) (hlb : lv b = true) (hC : Cx x p s m args meth c cX6_airSidesIn 6 (some .int) RX6) (k16 : Sg → Int32 → Int32 → Int32 → Int32 → Option (Int32 × Sg)) (hk16 : ∀ (σ : Sg) (x2 : Int32) (x3 : Int32) (x4 : Int32) (x5 : Int32) (H : Heap) (locs : List Loc) (ls : Array Slot), k16 σ x2 x3 x4 x5 = some res → Pic x al lv σ H → va_S (Ab x) s.heap H locs → lv_has ls 6 [(0, .ref (al 6 2)), (1, .ref (al b 0)), (2, .int x2), (3, .int x3), (4, .int x4), (5, .int x5)] → W p l e (rmm 3 0 0) s m args below meth c H locs 0 0 (MQ below (QI x al lv res) args s 0 0 (Ab x)) (F0 m 16 ls [])) (σ : Sg) (x2 : Int32) (x3 : Int32) (x4 : Int32) (x5 : Int32) (H : Heap) (locs : List Loc) (ls : Array Slot) (h : fMelting_airSidesIn_16_b k16 σ b x2 x3 x4 x5 = some res) (hP : Pic x al lv σ H) (hS : va_S (Ab x) s.heap H locs) (hl : lv_has ls 6 [(0, .ref (al 6 2)), (1, .ref (al b 0)), (2, .int x2), (3, .int x3), (4, .int x4), (5, .int x5)]) : W p l e (rmm 3 0 0) s m args below meth c H locs 0 0 (MQ below (QI x al lv res) args s 0 0 (Ab x)) (F0 m 16 ls []) := by
  obtain ⟨hx, hb, hml, hown, hts⟩ := hC.1
  unfold fMelting_airSidesIn_16_b at h
  refine lv_iload hx hb dX6_airSidesIn_16 (lv_at hl 5 rfl) ?_
  refine lv_iload hx hb dX6_airSidesIn_18 (lv_at hl 4 rfl) ?_
  refine lv_icmp_ge (tgt := 65) hx hb dX6_airSidesIn_20 (by decide) (fun hc => ?_) (fun hc => ?_)
  · replace h := (br h).1 hc
    refine lv_iload_n hx hb dX6_airSidesIn_65 rfl (lv_at hl 3 rfl) ?_
    exact r_retI hC hP hS rfl h dX6_airSidesIn_66
  · replace h := (br h).2 hc
    refine lv_aload_n hx hb dX6_airSidesIn_23 rfl (lv_at hl 1 rfl) ?_
    refine gt_X10_5 (a := b) hib hlb hC hP wf_X6_35 dX6_airSidesIn_24 ?_
    refine lv_iload_n hx hb dX6_airSidesIn_27 rfl (lv_at hl 2 rfl) ?_
    refine lv_iload hx hb dX6_airSidesIn_28 (lv_at hl 5 rfl) ?_
    refine r_cP hS h (fun r hr => r_runV (As := [.int x2, .int x5]) (rest := []) hC kV_X6_168 cw_X8_at (rc_X8 (a := b) hib hlb hC hP) hP (tRooms_at x al lv σ b hib hlb x2 x5 r hr) rfl hl.1 ⟨Nat.le_of_ble_eq_true rfl, Nat.le_of_ble_eq_true rfl⟩ ⟨Nat.le_of_ble_eq_true rfl, Nat.le_of_ble_eq_true rfl⟩ (Nat.le_of_ble_eq_true rfl) dX6_airSidesIn_30) (fun y2 H locs h hP hS => ?_)
    refine lv_bipush (v := 10) hx hb dX6_airSidesIn_33 (by decide) ?_
    refine lv_icmp_lt (tgt := 59) hx hb dX6_airSidesIn_35 (by decide) (fun hc => ?_) (fun hc => ?_)
    · replace h := (br h).1 hc
      exact wMelting_airSidesIn_59 hib hlb hC k16 hk16 σ x2 x3 x4 x5 H locs ls h hP hS (lv_sub hl [0, 1, 2, 3, 4, 5] rfl)
    · replace h := (br h).2 hc
      refine lv_aload_n hx hb dX6_airSidesIn_38 rfl (lv_at hl 0 rfl) ?_
      refine gt_X6_3 hC hP wf_X6_24 dX6_airSidesIn_39 ?_
      refine lv_aload_n hx hb dX6_airSidesIn_42 rfl (lv_at hl 1 rfl) ?_
      refine lv_iload_n hx hb dX6_airSidesIn_43 rfl (lv_at hl 2 rfl) ?_
      refine lv_iload hx hb dX6_airSidesIn_44 (lv_at hl 5 rfl) ?_
      refine r_cV hS h (fun r hr => r_runV (As := [.ref (al b 0), .int x2, .int x5]) (rest := []) hC kV_X6_81 cw_X9_look (rc_X9 hC hP) hP (tSides_look x al lv σ b hib hlb x2 x5 r hr) rfl hl.1 ⟨Nat.le_of_ble_eq_true rfl, Nat.le_of_ble_eq_true rfl⟩ ⟨Nat.le_of_ble_eq_true rfl, Nat.le_of_ble_eq_true rfl⟩ (Nat.le_of_ble_eq_true rfl) dX6_airSidesIn_46) (fun σ3 H locs h hP hS => ?_)
      refine lv_iload_n hx hb dX6_airSidesIn_49 rfl (lv_at hl 3 rfl) ?_
      refine lv_aload_n hx hb dX6_airSidesIn_50 rfl (lv_at hl 0 rfl) ?_
      refine gt_X6_3 hC hP wf_X6_24 dX6_airSidesIn_51 ?_
      refine gt_X9_0 hC hP wf_X6_85 dX6_airSidesIn_54 ?_
      refine lv_iadd hx hb dX6_airSidesIn_57 ?_
      refine r_lt h (fun y4 h => ?_)
      refine lv_istore_n (lv' := [(3, .int y4), (0, .ref (al 6 2)), (1, .ref (al b 0)), (2, .int x2), (4, .int x4), (5, .int x5)]) hx hb dX6_airSidesIn_58 rfl hl (by decide) rfl (fun ls hl => ?_)
      exact wMelting_airSidesIn_59 hib hlb hC k16 hk16 σ3 x2 y4 x4 x5 H locs ls h hP hS (lv_sub hl [1, 2, 3, 0, 4, 5] rfl)

set_option maxHeartbeats 4000000 in
set_option maxRecDepth 20000 in
theorem wMelting_airSidesIn_16 {p : Program} {l : Launch} {e : Env} {s : State} {m : MethodId} {args : Array Value} {below : List Frame} {meth : Method} {c : Code} {x : Wx} {al : Nat → Nat → Nat} {lv : Nat → Bool} {res : Int32 × Sg} {b : Nat} (hib : b < 6) (hlb : lv b = true) (hC : Cx x p s m args meth c cX6_airSidesIn 6 (some .int) RX6) (n : Nat) (σ : Sg) (x2 : Int32) (x3 : Int32) (x4 : Int32) (x5 : Int32) (H : Heap) (locs : List Loc) (ls : Array Slot) (h : fMelting_airSidesIn_16 n σ b x2 x3 x4 x5 = some res) (hP : Pic x al lv σ H) (hS : va_S (Ab x) s.heap H locs) (hl : lv_has ls 6 [(0, .ref (al 6 2)), (1, .ref (al b 0)), (2, .int x2), (3, .int x3), (4, .int x4), (5, .int x5)]) : W p l e (rmm 3 0 0) s m args below meth c H locs 0 0 (MQ below (QI x al lv res) args s 0 0 (Ab x)) (F0 m 16 ls []) := by
  induction n generalizing σ x2 x3 x4 x5 H locs ls with
  | zero => exact nomatch h
  | succ n ih => exact wMelting_airSidesIn_16_b hib hlb hC  _ (fun σ x2 x3 x4 x5 H locs ls h hP hS hl => ih σ x2 x3 x4 x5 H locs ls h hP hS hl) σ x2 x3 x4 x5 H locs ls h hP hS hl
set_option maxHeartbeats 4000000 in
set_option maxRecDepth 20000 in
theorem wMelting_airSidesIn_0 {p : Program} {l : Launch} {e : Env} {s : State} {m : MethodId} {args : Array Value} {below : List Frame} {meth : Method} {c : Code} {x : Wx} {al : Nat → Nat → Nat} {lv : Nat → Bool} {res : Int32 × Sg} {b : Nat} (hib : b < 6) (hlb : lv b = true) (hC : Cx x p s m args meth c cX6_airSidesIn 6 (some .int) RX6) (σ : Sg) (v2 : Int32) (H : Heap) (locs : List Loc) (ls : Array Slot) (h : fMelting_airSidesIn_0 σ b v2 = some res) (hP : Pic x al lv σ H) (hS : va_S (Ab x) s.heap H locs) (hl : lv_has ls 6 [(0, .ref (al 6 2)), (1, .ref (al b 0)), (2, .int v2)]) : W p l e (rmm 3 0 0) s m args below meth c H locs 0 0 (MQ below (QI x al lv res) args s 0 0 (Ab x)) (F0 m 0 ls []) := by
  obtain ⟨hx, hb, hml, hown, hts⟩ := hC.1
  unfold fMelting_airSidesIn_0 at h
  refine lv_iconst (v := 0) hx hb dX6_airSidesIn_0 (by decide) ?_
  refine lv_istore_n (lv' := [(3, .int 0), (0, .ref (al 6 2)), (1, .ref (al b 0)), (2, .int v2)]) hx hb dX6_airSidesIn_1 rfl hl (by decide) rfl (fun ls hl => ?_)
  refine lv_aload_n hx hb dX6_airSidesIn_2 rfl (lv_at hl 2 rfl) ?_
  refine gt_X10_5 (a := b) hib hlb hC hP wf_X6_35 dX6_airSidesIn_3 ?_
  refine gt_X8_7 (a := b) hib hlb hC hP wf_X6_171 dX6_airSidesIn_6 ?_
  refine lv_iload_n hx hb dX6_airSidesIn_9 rfl (lv_at hl 3 rfl) ?_
  refine r_iald hC hP (aS_8 (a := b) hib hlb) h dX6_airSidesIn_10 (fun h => ?_)
  refine r_lt h (fun y1 h => ?_)
  refine lv_istore (lv' := [(4, .int y1), (3, .int 0), (0, .ref (al 6 2)), (1, .ref (al b 0)), (2, .int v2)]) hx hb dX6_airSidesIn_11 hl (by decide) rfl (fun ls hl => ?_)
  refine lv_iconst (v := 0) hx hb dX6_airSidesIn_13 (by decide) ?_
  refine lv_istore (lv' := [(5, .int 0), (4, .int y1), (3, .int 0), (0, .ref (al 6 2)), (1, .ref (al b 0)), (2, .int v2)]) hx hb dX6_airSidesIn_14 hl (by decide) rfl (fun ls hl => ?_)
  exact wMelting_airSidesIn_16 hib hlb hC  FU σ v2 0 y1 0 H locs ls h hP hS (lv_sub hl [3, 4, 5, 2, 1, 0] rfl)

set_option maxRecDepth 20000 in
theorem tMelting_airSidesIn {l : Launch} (x : Wx) (al : Nat → Nat → Nat) (lv : Nat → Bool) (σ : Sg) (b : Nat) (hib : b < 6) (hlb : lv b = true) (v2 : Int32) (res : Int32 × Sg) (h : fMelting_airSidesIn σ b v2 = some res) : Met l yX6_airSidesIn (Cond.code yX6_airSidesIn cX6_airSidesIn 6 (some .int) :: lwg) (rmm 3 0 0) (va_Pc [.ref (al 6 2), .ref (al b 0), .int v2] (Wd x al lv σ)) (QI x al lv res) 0 0 (Ab x) := by
  refine met_W (by decide) (Nat.le_of_ble_eq_true rfl) rfl (fun p e s m args below meth c ls hC hP hS hl => ?_)
  exact wMelting_airSidesIn_0 hib hlb hC σ v2 _ _ ls h hP hS hl
set_option maxHeartbeats 4000000 in
set_option maxRecDepth 20000 in
theorem wPacker_isChosen_0 {p : Program} {l : Launch} {e : Env} {s : State} {m : MethodId} {args : Array Value} {below : List Frame} {meth : Method} {c : Code} {x : Wx} {al : Nat → Nat → Nat} {lv : Nat → Bool} {res : Int32} {σ : Sg} (hl10 : lv 10 = true) (hC : Cx x p s m args meth c cX7_isChosen 2 (some .boolean) RX7) (v1 : Int32) (H : Heap) (locs : List Loc) (ls : Array Slot) (h : fPacker_isChosen_0 σ v1 = some res) (hP : Pic x al lv σ H) (hS : va_S (Ab x) s.heap H locs) (hl : lv_has ls 2 [(0, .ref (al 10 0)), (1, .int v1)]) : W p l e (rmm 2 0 0) s m args below meth c H locs 0 0 (MQ below (QP x al lv σ res) args s 0 0 (Ab x)) (F0 m 0 ls []) := by
  obtain ⟨hx, hb, hml, hown, hts⟩ := hC.1
  unfold fPacker_isChosen_0 at h
  refine lv_iload_n hx hb dX7_isChosen_0 rfl (lv_at hl 1 rfl) ?_
  refine lv_iconst (v := 0) hx hb dX7_isChosen_1 (by decide) ?_
  refine lv_sipush (v := 179) hx hb dX7_isChosen_2 (by decide) ?_
  refine r_cP hS h (fun r hr => r_runN (As := [.int v1, .int 0, .int 179]) (rest := []) hC kN_X7_18 cw_X11_within hP (tI_within x al lv σ v1 0 179 r hr) rfl hl.1 ⟨Nat.le_of_ble_eq_true rfl, Nat.le_of_ble_eq_true rfl⟩ ⟨Nat.le_of_ble_eq_true rfl, Nat.le_of_ble_eq_true rfl⟩ (Nat.le_of_ble_eq_true rfl) dX7_isChosen_5) (fun y1 H locs h hP hS => ?_)
  refine lv_if_eq (tgt := 24) hx hb dX7_isChosen_8 (by decide) (fun hc => ?_) (fun hc => ?_)
  · replace h := (br h).1 hc
    refine lv_iconst (v := 0) hx hb dX7_isChosen_24 (by decide) ?_
    exact r_retP hC hP hS rfl h dX7_isChosen_25
  · replace h := (br h).2 hc
    refine lv_aload_n hx hb dX7_isChosen_11 rfl (lv_at hl 0 rfl) ?_
    refine gt_X7_6 hl10 hC hP wf_X7_15 dX7_isChosen_12 ?_
    refine lv_iload_n hx hb dX7_isChosen_15 rfl (lv_at hl 1 rfl) ?_
    refine r_zald hC hP (aP_2 hl10) h dX7_isChosen_16 (fun h => ?_)
    refine lv_if_eq (tgt := 24) hx hb dX7_isChosen_17 (by decide) (fun hc => ?_) (fun hc => ?_)
    · replace h := (br h).1 hc
      refine lv_iconst (v := 0) hx hb dX7_isChosen_24 (by decide) ?_
      exact r_retP hC hP hS rfl h dX7_isChosen_25
    · replace h := (br h).2 hc
      refine lv_iconst (v := 1) hx hb dX7_isChosen_20 (by decide) ?_
      refine lv_goto (tgt := 25) hx hb dX7_isChosen_21 (by decide) ?_
      exact r_retP hC hP hS rfl h dX7_isChosen_25

set_option maxRecDepth 20000 in
theorem tPacker_isChosen {l : Launch} (x : Wx) (al : Nat → Nat → Nat) (lv : Nat → Bool) (σ : Sg) (hl10 : lv 10 = true) (v1 : Int32) (res : Int32) (h : fPacker_isChosen σ v1 = some res) : Met l yX7_isChosen (Cond.code yX7_isChosen cX7_isChosen 2 (some .boolean) :: lwg) (rmm 2 0 0) (va_Pc [.ref (al 10 0), .int v1] (Wd x al lv σ)) (QP x al lv σ res) 0 0 (Ab x) := by
  refine met_W (by decide) (Nat.le_of_ble_eq_true rfl) rfl (fun p e s m args below meth c ls hC hP hS hl => ?_)
  exact wPacker_isChosen_0 hl10 hC v1 _ _ ls h hP hS hl
set_option maxHeartbeats 4000000 in
set_option maxRecDepth 20000 in
theorem wPacker_bears_25 {p : Program} {l : Launch} {e : Env} {s : State} {m : MethodId} {args : Array Value} {below : List Frame} {meth : Method} {c : Code} {x : Wx} {al : Nat → Nat → Nat} {lv : Nat → Bool} {res : Int32} {σ : Sg} (hl10 : lv 10 = true) (hC : Cx x p s m args meth c cX7_bears 3 (some .boolean) RX7) (H : Heap) (locs : List Loc) (ls : Array Slot) (h : fPacker_bears_25 σ = some res) (hP : Pic x al lv σ H) (hS : va_S (Ab x) s.heap H locs) (hl : lv_has ls 3 []) : W p l e (rmm 1 0 0) s m args below meth c H locs 0 0 (MQ below (QP x al lv σ res) args s 0 0 (Ab x)) (F0 m 25 ls []) := by
  obtain ⟨hx, hb, hml, hown, hts⟩ := hC.1
  unfold fPacker_bears_25 at h
  refine lv_iconst (v := 1) hx hb dX7_bears_25 (by decide) ?_
  refine lv_goto (tgt := 30) hx hb dX7_bears_26 (by decide) ?_
  exact r_retP hC hP hS rfl h dX7_bears_30

set_option maxHeartbeats 4000000 in
set_option maxRecDepth 20000 in
theorem wPacker_bears_0 {p : Program} {l : Launch} {e : Env} {s : State} {m : MethodId} {args : Array Value} {below : List Frame} {meth : Method} {c : Code} {x : Wx} {al : Nat → Nat → Nat} {lv : Nat → Bool} {res : Int32} {σ : Sg} (hl10 : lv 10 = true) (hC : Cx x p s m args meth c cX7_bears 3 (some .boolean) RX7) (v1 : Int32) (H : Heap) (locs : List Loc) (ls : Array Slot) (h : fPacker_bears_0 σ v1 = some res) (hP : Pic x al lv σ H) (hS : va_S (Ab x) s.heap H locs) (hl : lv_has ls 3 [(0, .ref (al 10 0)), (1, .int v1)]) : W p l e (rmm 1 0 0) s m args below meth c H locs 0 0 (MQ below (QP x al lv σ res) args s 0 0 (Ab x)) (F0 m 0 ls []) := by
  obtain ⟨hx, hb, hml, hown, hts⟩ := hC.1
  unfold fPacker_bears_0 at h
  refine lv_iload_n hx hb dX7_bears_0 rfl (lv_at hl 1 rfl) ?_
  refine lv_aload_n hx hb dX7_bears_1 rfl (lv_at hl 0 rfl) ?_
  refine gt_X7_0 hl10 hC hP wf_X7_28 dX7_bears_2 ?_
  refine lv_aload_n hx hb dX7_bears_5 rfl (lv_at hl 0 rfl) ?_
  refine gt_X7_1 hl10 hC hP wf_X7_34 dX7_bears_6 ?_
  refine lv_imul hx hb dX7_bears_9 ?_
  refine lv_isub hx hb dX7_bears_10 ?_
  refine r_lt h (fun y1 h => ?_)
  refine lv_istore_n (lv' := [(2, .int y1), (0, .ref (al 10 0)), (1, .int v1)]) hx hb dX7_bears_11 rfl hl (by decide) rfl (fun ls hl => ?_)
  refine lv_iload_n hx hb dX7_bears_12 rfl (lv_at hl 0 rfl) ?_
  refine lv_if_lt (tgt := 25) hx hb dX7_bears_13 (by decide) (fun hc => ?_) (fun hc => ?_)
  · replace h := (br h).1 hc
    exact wPacker_bears_25 hl10 hC   H locs ls h hP hS (lv_sub hl [] rfl)
  · replace h := (br h).2 hc
    refine lv_aload_n hx hb dX7_bears_16 rfl (lv_at hl 1 rfl) ?_
    refine gt_X7_5 hl10 hC hP wf_X7_9 dX7_bears_17 ?_
    refine lv_iload_n hx hb dX7_bears_20 rfl (lv_at hl 0 rfl) ?_
    refine r_zald hC hP (aP_1 hl10) h dX7_bears_21 (fun h => ?_)
    refine lv_if_eq (tgt := 29) hx hb dX7_bears_22 (by decide) (fun hc => ?_) (fun hc => ?_)
    · replace h := (br h).1 hc
      refine lv_iconst (v := 0) hx hb dX7_bears_29 (by decide) ?_
      exact r_retP hC hP hS rfl h dX7_bears_30
    · replace h := (br h).2 hc
      exact wPacker_bears_25 hl10 hC   H locs ls h hP hS (lv_sub hl [] rfl)

set_option maxRecDepth 20000 in
theorem tPacker_bears {l : Launch} (x : Wx) (al : Nat → Nat → Nat) (lv : Nat → Bool) (σ : Sg) (hl10 : lv 10 = true) (v1 : Int32) (res : Int32) (h : fPacker_bears σ v1 = some res) : Met l yX7_bears (Cond.code yX7_bears cX7_bears 3 (some .boolean) :: lwg) (rmm 1 0 0) (va_Pc [.ref (al 10 0), .int v1] (Wd x al lv σ)) (QP x al lv σ res) 0 0 (Ab x) := by
  refine met_W (by decide) (Nat.le_of_ble_eq_true rfl) rfl (fun p e s m args below meth c ls hC hP hS hl => ?_)
  exact wPacker_bears_0 hl10 hC v1 _ _ ls h hP hS hl
set_option maxHeartbeats 4000000 in
set_option maxRecDepth 20000 in
theorem wPacker_sidesShut_57 {p : Program} {l : Launch} {e : Env} {s : State} {m : MethodId} {args : Array Value} {below : List Frame} {meth : Method} {c : Code} {x : Wx} {al : Nat → Nat → Nat} {lv : Nat → Bool} {res : Int32} {σ : Sg} (hl10 : lv 10 = true) (hC : Cx x p s m args meth c cX7_sidesShut 5 (some .int) RX7) (k4 : Int32 → Int32 → Int32 → Option (Int32)) (hk4 : ∀ (x1 : Int32) (x2 : Int32) (x3 : Int32) (H : Heap) (locs : List Loc) (ls : Array Slot), k4 x1 x2 x3 = some res → Pic x al lv σ H → va_S (Ab x) s.heap H locs → lv_has ls 5 [(0, .ref (al 10 0)), (1, .int x1), (2, .int x2), (3, .int x3)] → W p l e (rmm 2 0 0) s m args below meth c H locs 0 0 (MQ below (QP x al lv σ res) args s 0 0 (Ab x)) (F0 m 4 ls [])) (x1 : Int32) (x2 : Int32) (x3 : Int32) (H : Heap) (locs : List Loc) (ls : Array Slot) (h : fPacker_sidesShut_57 k4 σ x1 x2 x3 = some res) (hP : Pic x al lv σ H) (hS : va_S (Ab x) s.heap H locs) (hl : lv_has ls 5 [(0, .ref (al 10 0)), (1, .int x1), (2, .int x2), (3, .int x3)]) : W p l e (rmm 2 0 0) s m args below meth c H locs 0 0 (MQ below (QP x al lv σ res) args s 0 0 (Ab x)) (F0 m 57 ls []) := by
  obtain ⟨hx, hb, hml, hown, hts⟩ := hC.1
  unfold fPacker_sidesShut_57 at h
  refine r_iinc (v := 1) hC h dX7_sidesShut_57 hl (k := 3) rfl rfl (by decide) (fun y4 => [(3, .int y4), (0, .ref (al 10 0)), (1, .int x1), (2, .int x2)]) (fun _ => rfl) (fun y4 ls h hl => ?_)
  refine lv_goto (tgt := 4) hx hb dX7_sidesShut_60 (by decide) ?_
  exact hk4 x1 x2 y4 H locs ls h hP hS (lv_sub hl [1, 2, 3, 0] rfl)

set_option maxHeartbeats 4000000 in
set_option maxRecDepth 20000 in
theorem wPacker_sidesShut_4_b {p : Program} {l : Launch} {e : Env} {s : State} {m : MethodId} {args : Array Value} {below : List Frame} {meth : Method} {c : Code} {x : Wx} {al : Nat → Nat → Nat} {lv : Nat → Bool} {res : Int32} {σ : Sg} (hl10 : lv 10 = true) (hC : Cx x p s m args meth c cX7_sidesShut 5 (some .int) RX7) (k4 : Int32 → Int32 → Int32 → Option (Int32)) (hk4 : ∀ (x1 : Int32) (x2 : Int32) (x3 : Int32) (H : Heap) (locs : List Loc) (ls : Array Slot), k4 x1 x2 x3 = some res → Pic x al lv σ H → va_S (Ab x) s.heap H locs → lv_has ls 5 [(0, .ref (al 10 0)), (1, .int x1), (2, .int x2), (3, .int x3)] → W p l e (rmm 2 0 0) s m args below meth c H locs 0 0 (MQ below (QP x al lv σ res) args s 0 0 (Ab x)) (F0 m 4 ls [])) (x1 : Int32) (x2 : Int32) (x3 : Int32) (H : Heap) (locs : List Loc) (ls : Array Slot) (h : fPacker_sidesShut_4_b k4 σ x1 x2 x3 = some res) (hP : Pic x al lv σ H) (hS : va_S (Ab x) s.heap H locs) (hl : lv_has ls 5 [(0, .ref (al 10 0)), (1, .int x1), (2, .int x2), (3, .int x3)]) : W p l e (rmm 2 0 0) s m args below meth c H locs 0 0 (MQ below (QP x al lv σ res) args s 0 0 (Ab x)) (F0 m 4 ls []) := by
  obtain ⟨hx, hb, hml, hown, hts⟩ := hC.1
  unfold fPacker_sidesShut_4_b at h
  refine lv_iload_n hx hb dX7_sidesShut_4 rfl (lv_at hl 3 rfl) ?_
  refine lv_bipush (v := 6) hx hb dX7_sidesShut_5 (by decide) ?_
  refine lv_icmp_ge (tgt := 63) hx hb dX7_sidesShut_7 (by decide) (fun hc => ?_) (fun hc => ?_)
  · replace h := (br h).1 hc
    refine lv_iload_n hx hb dX7_sidesShut_63 rfl (lv_at hl 2 rfl) ?_
    exact r_retP hC hP hS rfl h dX7_sidesShut_64
  · replace h := (br h).2 hc
    refine lv_iload_n hx hb dX7_sidesShut_10 rfl (lv_at hl 3 rfl) ?_
    refine lv_iload_n hx hb dX7_sidesShut_11 rfl (lv_at hl 1 rfl) ?_
    refine lv_aload_n hx hb dX7_sidesShut_12 rfl (lv_at hl 0 rfl) ?_
    refine gt_X7_0 hl10 hC hP wf_X7_28 dX7_sidesShut_13 ?_
    refine lv_aload_n hx hb dX7_sidesShut_16 rfl (lv_at hl 0 rfl) ?_
    refine gt_X7_1 hl10 hC hP wf_X7_34 dX7_sidesShut_17 ?_
    refine lv_aload_n hx hb dX7_sidesShut_20 rfl (lv_at hl 0 rfl) ?_
    refine gt_X7_2 hl10 hC hP wf_X7_39 dX7_sidesShut_21 ?_
    refine r_cP hS h (fun r hr => r_runN (As := [.int x3, .int x1, .int (σ 10 0 0), .int (σ 10 0 1), .int (σ 10 0 2)]) (rest := []) hC kN_X7_74 cw_X11_beside hP (tI_beside x al lv σ x3 x1 (σ 10 0 0) (σ 10 0 1) (σ 10 0 2) r hr) rfl hl.1 ⟨Nat.le_of_ble_eq_true rfl, Nat.le_of_ble_eq_true rfl⟩ ⟨Nat.le_of_ble_eq_true rfl, Nat.le_of_ble_eq_true rfl⟩ (Nat.le_of_ble_eq_true rfl) dX7_sidesShut_24) (fun y1 H locs h hP hS => ?_)
    refine lv_istore (lv' := [(4, .int y1), (0, .ref (al 10 0)), (1, .int x1), (2, .int x2), (3, .int x3)]) hx hb dX7_sidesShut_27 hl (by decide) rfl (fun ls hl => ?_)
    refine lv_iload hx hb dX7_sidesShut_29 (lv_at hl 0 rfl) ?_
    refine lv_iconst (v := 0) hx hb dX7_sidesShut_31 (by decide) ?_
    refine lv_aload_n hx hb dX7_sidesShut_32 rfl (lv_at hl 1 rfl) ?_
    refine gt_X7_3 hl10 hC hP wf_X7_50 dX7_sidesShut_33 ?_
    refine lv_iconst (v := 1) hx hb dX7_sidesShut_36 (by decide) ?_
    refine lv_isub hx hb dX7_sidesShut_37 ?_
    refine r_cP hS h (fun r hr => r_runN (As := [.int y1, .int 0, .int ((σ 10 0 3) - 1)]) (rest := []) hC kN_X7_18 cw_X11_within hP (tI_within x al lv σ y1 0 ((σ 10 0 3) - 1) r hr) rfl hl.1 ⟨Nat.le_of_ble_eq_true rfl, Nat.le_of_ble_eq_true rfl⟩ ⟨Nat.le_of_ble_eq_true rfl, Nat.le_of_ble_eq_true rfl⟩ (Nat.le_of_ble_eq_true rfl) dX7_sidesShut_38) (fun y2 H locs h hP hS => ?_)
    refine lv_if_eq (tgt := 57) hx hb dX7_sidesShut_41 (by decide) (fun hc => ?_) (fun hc => ?_)
    · replace h := (br h).1 hc
      exact wPacker_sidesShut_57 hl10 hC k4 hk4 x1 x2 x3 H locs ls h hP hS (lv_sub hl [1, 2, 3, 4] rfl)
    · replace h := (br h).2 hc
      refine lv_aload_n hx hb dX7_sidesShut_44 rfl (lv_at hl 1 rfl) ?_
      refine gt_X7_5 hl10 hC hP wf_X7_9 dX7_sidesShut_45 ?_
      refine lv_iload hx hb dX7_sidesShut_48 (lv_at hl 0 rfl) ?_
      refine r_zald hC hP (aP_1 hl10) h dX7_sidesShut_50 (fun h => ?_)
      refine lv_if_eq (tgt := 57) hx hb dX7_sidesShut_51 (by decide) (fun hc => ?_) (fun hc => ?_)
      · replace h := (br h).1 hc
        exact wPacker_sidesShut_57 hl10 hC k4 hk4 x1 x2 x3 H locs ls h hP hS (lv_sub hl [1, 2, 3, 4] rfl)
      · replace h := (br h).2 hc
        refine r_iinc (v := 1) hC h dX7_sidesShut_54 hl (k := 3) rfl rfl (by decide) (fun y3 => [(2, .int y3), (4, .int y1), (0, .ref (al 10 0)), (1, .int x1), (3, .int x3)]) (fun _ => rfl) (fun y3 ls h hl => ?_)
        exact wPacker_sidesShut_57 hl10 hC k4 hk4 x1 y3 x3 H locs ls h hP hS (lv_sub hl [2, 3, 0, 4] rfl)

set_option maxHeartbeats 4000000 in
set_option maxRecDepth 20000 in
theorem wPacker_sidesShut_4 {p : Program} {l : Launch} {e : Env} {s : State} {m : MethodId} {args : Array Value} {below : List Frame} {meth : Method} {c : Code} {x : Wx} {al : Nat → Nat → Nat} {lv : Nat → Bool} {res : Int32} {σ : Sg} (hl10 : lv 10 = true) (hC : Cx x p s m args meth c cX7_sidesShut 5 (some .int) RX7) (n : Nat) (x1 : Int32) (x2 : Int32) (x3 : Int32) (H : Heap) (locs : List Loc) (ls : Array Slot) (h : fPacker_sidesShut_4 n σ x1 x2 x3 = some res) (hP : Pic x al lv σ H) (hS : va_S (Ab x) s.heap H locs) (hl : lv_has ls 5 [(0, .ref (al 10 0)), (1, .int x1), (2, .int x2), (3, .int x3)]) : W p l e (rmm 2 0 0) s m args below meth c H locs 0 0 (MQ below (QP x al lv σ res) args s 0 0 (Ab x)) (F0 m 4 ls []) := by
  induction n generalizing x1 x2 x3 H locs ls with
  | zero => exact nomatch h
  | succ n ih => exact wPacker_sidesShut_4_b hl10 hC  _ (fun x1 x2 x3 H locs ls h hP hS hl => ih x1 x2 x3 H locs ls h hP hS hl) x1 x2 x3 H locs ls h hP hS hl
set_option maxHeartbeats 4000000 in
set_option maxRecDepth 20000 in
theorem wPacker_sidesShut_0 {p : Program} {l : Launch} {e : Env} {s : State} {m : MethodId} {args : Array Value} {below : List Frame} {meth : Method} {c : Code} {x : Wx} {al : Nat → Nat → Nat} {lv : Nat → Bool} {res : Int32} {σ : Sg} (hl10 : lv 10 = true) (hC : Cx x p s m args meth c cX7_sidesShut 5 (some .int) RX7) (v1 : Int32) (H : Heap) (locs : List Loc) (ls : Array Slot) (h : fPacker_sidesShut_0 σ v1 = some res) (hP : Pic x al lv σ H) (hS : va_S (Ab x) s.heap H locs) (hl : lv_has ls 5 [(0, .ref (al 10 0)), (1, .int v1)]) : W p l e (rmm 2 0 0) s m args below meth c H locs 0 0 (MQ below (QP x al lv σ res) args s 0 0 (Ab x)) (F0 m 0 ls []) := by
  obtain ⟨hx, hb, hml, hown, hts⟩ := hC.1
  unfold fPacker_sidesShut_0 at h
  refine lv_iconst (v := 0) hx hb dX7_sidesShut_0 (by decide) ?_
  refine lv_istore_n (lv' := [(2, .int 0), (0, .ref (al 10 0)), (1, .int v1)]) hx hb dX7_sidesShut_1 rfl hl (by decide) rfl (fun ls hl => ?_)
  refine lv_iconst (v := 0) hx hb dX7_sidesShut_2 (by decide) ?_
  refine lv_istore_n (lv' := [(3, .int 0), (2, .int 0), (0, .ref (al 10 0)), (1, .int v1)]) hx hb dX7_sidesShut_3 rfl hl (by decide) rfl (fun ls hl => ?_)
  exact wPacker_sidesShut_4 hl10 hC  FU v1 0 0 H locs ls h hP hS (lv_sub hl [2, 3, 1, 0] rfl)

set_option maxRecDepth 20000 in
theorem tPacker_sidesShut {l : Launch} (x : Wx) (al : Nat → Nat → Nat) (lv : Nat → Bool) (σ : Sg) (hl10 : lv 10 = true) (v1 : Int32) (res : Int32) (h : fPacker_sidesShut σ v1 = some res) : Met l yX7_sidesShut (Cond.code yX7_sidesShut cX7_sidesShut 5 (some .int) :: lwg) (rmm 2 0 0) (va_Pc [.ref (al 10 0), .int v1] (Wd x al lv σ)) (QP x al lv σ res) 0 0 (Ab x) := by
  refine met_W (by decide) (Nat.le_of_ble_eq_true rfl) rfl (fun p e s m args below meth c ls hC hP hS hl => ?_)
  exact wPacker_sidesShut_0 hl10 hC v1 _ _ ls h hP hS hl
