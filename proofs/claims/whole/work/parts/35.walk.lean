set_option maxHeartbeats 4000000 in
set_option maxRecDepth 20000 in
theorem wForecast_gramsBehind_31 {p : Program} {l : Launch} {e : Env} {s : State} {m : MethodId} {args : Array Value} {below : List Frame} {meth : Method} {c : Code} {x : Wx} {al : Nat → Nat → Nat} {lv : Nat → Bool} {res : Int32} {σ : Sg} (hl9 : lv 9 = true) (hC : Cx x p s m args meth c cX3_gramsBehind 4 (some .int) RX3) (x1 : Int32) (x2 : Int32) (t0 : Int32) (H : Heap) (locs : List Loc) (ls : Array Slot) (h : fForecast_gramsBehind_31 σ x1 x2 t0 = some res) (hP : Pic x al lv σ H) (hS : va_S (Ab x) s.heap H locs) (hl : lv_has ls 4 [(0, .ref (al 9 0)), (1, .int x1), (2, .int x2)]) : W p l e (rmm 2 0 0) s m args below meth c H locs 0 0 (MQ below (QP x al lv σ res) args s 0 0 (Ab x)) (F0 m 31 ls [.int t0]) := by
  obtain ⟨hx, hb, hml, hown, hts⟩ := hC.1
  unfold fForecast_gramsBehind_31 at h
  refine lv_istore_n (lv' := [(3, .int t0), (0, .ref (al 9 0)), (1, .int x1), (2, .int x2)]) hx hb dX3_gramsBehind_31 rfl hl (by decide) rfl (fun ls hl => ?_)
  refine lv_iload_n hx hb dX3_gramsBehind_32 rfl (lv_at hl 0 rfl) ?_
  refine lv_if_eq (tgt := 52) hx hb dX3_gramsBehind_33 (by decide) (fun hc => ?_) (fun hc => ?_)
  · replace h := (br h).1 hc
    refine lv_iconst (v := (-1)) hx hb dX3_gramsBehind_52 (by decide) ?_
    exact r_retP hC hP hS rfl h dX3_gramsBehind_53
  · replace h := (br h).2 hc
    refine lv_aload_n hx hb dX3_gramsBehind_36 rfl (lv_at hl 1 rfl) ?_
    refine gt_X3_3 hl9 hC hP wf_X3_11 dX3_gramsBehind_37 ?_
    refine lv_iload_n hx hb dX3_gramsBehind_40 rfl (lv_at hl 3 rfl) ?_
    refine lv_bipush (v := 9) hx hb dX3_gramsBehind_41 (by decide) ?_
    refine lv_imul hx hb dX3_gramsBehind_43 ?_
    refine lv_iconst (v := 1) hx hb dX3_gramsBehind_44 (by decide) ?_
    refine lv_iadd hx hb dX3_gramsBehind_45 ?_
    refine lv_iload_n hx hb dX3_gramsBehind_46 rfl (lv_at hl 2 rfl) ?_
    refine lv_iadd hx hb dX3_gramsBehind_47 ?_
    refine r_iald hC hP (aF_1 hl9) h dX3_gramsBehind_48 (fun h => ?_)
    refine lv_goto (tgt := 53) hx hb dX3_gramsBehind_49 (by decide) ?_
    exact r_retP hC hP hS rfl h dX3_gramsBehind_53

set_option maxHeartbeats 4000000 in
set_option maxRecDepth 20000 in
theorem wForecast_gramsBehind_30 {p : Program} {l : Launch} {e : Env} {s : State} {m : MethodId} {args : Array Value} {below : List Frame} {meth : Method} {c : Code} {x : Wx} {al : Nat → Nat → Nat} {lv : Nat → Bool} {res : Int32} {σ : Sg} (hl9 : lv 9 = true) (hC : Cx x p s m args meth c cX3_gramsBehind 4 (some .int) RX3) (x1 : Int32) (x2 : Int32) (H : Heap) (locs : List Loc) (ls : Array Slot) (h : fForecast_gramsBehind_30 σ x1 x2 = some res) (hP : Pic x al lv σ H) (hS : va_S (Ab x) s.heap H locs) (hl : lv_has ls 4 [(0, .ref (al 9 0)), (1, .int x1), (2, .int x2)]) : W p l e (rmm 2 0 0) s m args below meth c H locs 0 0 (MQ below (QP x al lv σ res) args s 0 0 (Ab x)) (F0 m 30 ls []) := by
  obtain ⟨hx, hb, hml, hown, hts⟩ := hC.1
  unfold fForecast_gramsBehind_30 at h
  refine lv_iconst (v := 0) hx hb dX3_gramsBehind_30 (by decide) ?_
  exact wForecast_gramsBehind_31 hl9 hC  x1 x2 0 H locs ls h hP hS (lv_sub hl [0, 1, 2] rfl)

set_option maxHeartbeats 4000000 in
set_option maxRecDepth 20000 in
theorem wForecast_gramsBehind_0 {p : Program} {l : Launch} {e : Env} {s : State} {m : MethodId} {args : Array Value} {below : List Frame} {meth : Method} {c : Code} {x : Wx} {al : Nat → Nat → Nat} {lv : Nat → Bool} {res : Int32} {σ : Sg} (hl9 : lv 9 = true) (hC : Cx x p s m args meth c cX3_gramsBehind 4 (some .int) RX3) (v1 : Int32) (v2 : Int32) (H : Heap) (locs : List Loc) (ls : Array Slot) (h : fForecast_gramsBehind_0 σ v1 v2 = some res) (hP : Pic x al lv σ H) (hS : va_S (Ab x) s.heap H locs) (hl : lv_has ls 4 [(0, .ref (al 9 0)), (1, .int v1), (2, .int v2)]) : W p l e (rmm 2 0 0) s m args below meth c H locs 0 0 (MQ below (QP x al lv σ res) args s 0 0 (Ab x)) (F0 m 0 ls []) := by
  obtain ⟨hx, hb, hml, hown, hts⟩ := hC.1
  unfold fForecast_gramsBehind_0 at h
  refine lv_iload_n hx hb dX3_gramsBehind_0 rfl (lv_at hl 1 rfl) ?_
  refine lv_iconst (v := (-1)) hx hb dX3_gramsBehind_1 (by decide) ?_
  refine lv_aload_n hx hb dX3_gramsBehind_2 rfl (lv_at hl 0 rfl) ?_
  refine gt_X3_2 hl9 hC hP wf_X3_30 dX3_gramsBehind_3 ?_
  refine lv_iconst (v := 1) hx hb dX3_gramsBehind_6 (by decide) ?_
  refine lv_isub hx hb dX3_gramsBehind_7 ?_
  refine r_cP hS h (fun r hr => r_runN (As := [.int v1, .int ((-1)), .int ((σ 9 0 2) - 1)]) (rest := []) hC kN_X3_50 cw_X11_within hP (tI_within x al lv σ v1 ((-1)) ((σ 9 0 2) - 1) r hr) rfl hl.1 ⟨Nat.le_of_ble_eq_true rfl, Nat.le_of_ble_eq_true rfl⟩ ⟨Nat.le_of_ble_eq_true rfl, Nat.le_of_ble_eq_true rfl⟩ (Nat.le_of_ble_eq_true rfl) dX3_gramsBehind_8) (fun y1 H locs h hP hS => ?_)
  refine lv_if_eq (tgt := 30) hx hb dX3_gramsBehind_11 (by decide) (fun hc => ?_) (fun hc => ?_)
  · replace h := (br h).1 hc
    exact wForecast_gramsBehind_30 hl9 hC  v1 v2 H locs ls h hP hS (lv_sub hl [0, 1, 2] rfl)
  · replace h := (br h).2 hc
    refine lv_iload_n hx hb dX3_gramsBehind_14 rfl (lv_at hl 2 rfl) ?_
    refine lv_iconst (v := 0) hx hb dX3_gramsBehind_15 (by decide) ?_
    refine lv_aload_n hx hb dX3_gramsBehind_16 rfl (lv_at hl 0 rfl) ?_
    refine gt_X3_0 hl9 hC hP wf_X3_15 dX3_gramsBehind_17 ?_
    refine r_cP hS h (fun r hr => r_runN (As := [.int v2, .int 0, .int (σ 9 0 0)]) (rest := []) hC kN_X3_50 cw_X11_within hP (tI_within x al lv σ v2 0 (σ 9 0 0) r hr) rfl hl.1 ⟨Nat.le_of_ble_eq_true rfl, Nat.le_of_ble_eq_true rfl⟩ ⟨Nat.le_of_ble_eq_true rfl, Nat.le_of_ble_eq_true rfl⟩ (Nat.le_of_ble_eq_true rfl) dX3_gramsBehind_20) (fun y2 H locs h hP hS => ?_)
    refine lv_if_eq (tgt := 30) hx hb dX3_gramsBehind_23 (by decide) (fun hc => ?_) (fun hc => ?_)
    · replace h := (br h).1 hc
      exact wForecast_gramsBehind_30 hl9 hC  v1 v2 H locs ls h hP hS (lv_sub hl [0, 1, 2] rfl)
    · replace h := (br h).2 hc
      refine lv_iconst (v := 1) hx hb dX3_gramsBehind_26 (by decide) ?_
      refine lv_goto (tgt := 31) hx hb dX3_gramsBehind_27 (by decide) ?_
      exact wForecast_gramsBehind_31 hl9 hC  v1 v2 1 H locs ls h hP hS (lv_sub hl [0, 1, 2] rfl)

set_option maxRecDepth 20000 in
theorem tForecast_gramsBehind {l : Launch} (x : Wx) (al : Nat → Nat → Nat) (lv : Nat → Bool) (σ : Sg) (hl9 : lv 9 = true) (v1 : Int32) (v2 : Int32) (res : Int32) (h : fForecast_gramsBehind σ v1 v2 = some res) : Met l yX3_gramsBehind (Cond.code yX3_gramsBehind cX3_gramsBehind 4 (some .int) :: lwg) (rmm 2 0 0) (va_Pc [.ref (al 9 0), .int v1, .int v2] (Wd x al lv σ)) (QP x al lv σ res) 0 0 (Ab x) := by
  refine met_W (by decide) (Nat.le_of_ble_eq_true rfl) rfl (fun p e s m args below meth c ls hC hP hS hl => ?_)
  exact wForecast_gramsBehind_0 hl9 hC v1 v2 _ _ ls h hP hS hl
set_option maxHeartbeats 4000000 in
set_option maxRecDepth 20000 in
theorem wHeap_add_0 {p : Program} {l : Launch} {e : Env} {s : State} {m : MethodId} {args : Array Value} {below : List Frame} {meth : Method} {c : Code} {x : Wx} {al : Nat → Nat → Nat} {lv : Nat → Bool} {res : Int32 × Sg} (hC : Cx x p s m args meth c cX4_add 3 (some .int) RX4) (σ : Sg) (v1 : Int32) (v2 : Int32) (H : Heap) (locs : List Loc) (ls : Array Slot) (h : fHeap_add_0 σ v1 v2 = some res) (hP : Pic x al lv σ H) (hS : va_S (Ab x) s.heap H locs) (hl : lv_has ls 3 [(0, .ref (al 6 4)), (1, .int v1), (2, .int v2)]) : W p l e (rmm 1 0 0) s m args below meth c H locs 0 0 (MQ below (QI x al lv res) args s 0 0 (Ab x)) (F0 m 0 ls []) := by
  obtain ⟨hx, hb, hml, hown, hts⟩ := hC.1
  unfold fHeap_add_0 at h
  refine lv_aload_n hx hb dX4_add_0 rfl (lv_at hl 0 rfl) ?_
  refine gt_X4_1 hC hP wf_X4_9 dX4_add_1 ?_
  refine lv_aload_n hx hb dX4_add_4 rfl (lv_at hl 0 rfl) ?_
  refine gt_X4_0 hC hP wf_X4_16 dX4_add_5 ?_
  refine lv_iload_n hx hb dX4_add_8 rfl (lv_at hl 1 rfl) ?_
  refine r_iast hC hP hS (aI_16 hP.l6) h dX4_add_9 (fun σ1 H locs h hP hS => ?_)
  refine lv_aload_n hx hb dX4_add_10 rfl (lv_at hl 0 rfl) ?_
  refine gt_X4_2 hC hP wf_X4_13 dX4_add_11 ?_
  refine lv_aload_n hx hb dX4_add_14 rfl (lv_at hl 0 rfl) ?_
  refine gt_X4_0 hC hP wf_X4_16 dX4_add_15 ?_
  refine lv_iload_n hx hb dX4_add_18 rfl (lv_at hl 2 rfl) ?_
  refine r_iast hC hP hS (aI_17 hP.l6) h dX4_add_19 (fun σ2 H locs h hP hS => ?_)
  refine lv_aload_n hx hb dX4_add_20 rfl (lv_at hl 0 rfl) ?_
  refine lv_dup hx hb dX4_add_21 rfl ?_
  refine gt_X4_0 hC hP wf_X4_16 dX4_add_22 ?_
  refine lv_iconst (v := 1) hx hb dX4_add_25 (by decide) ?_
  refine lv_iadd hx hb dX4_add_26 ?_
  refine pt_X4_0 hC hP hS wf_X4_16 h dX4_add_27 (fun σ3 H locs h hP hS => ?_)
  refine lv_aload_n hx hb dX4_add_30 rfl (lv_at hl 0 rfl) ?_
  refine gt_X4_0 hC hP wf_X4_16 dX4_add_31 ?_
  exact r_retI hC hP hS rfl h dX4_add_34

set_option maxRecDepth 20000 in
theorem tHeap_add {l : Launch} (x : Wx) (al : Nat → Nat → Nat) (lv : Nat → Bool) (σ : Sg) (v1 : Int32) (v2 : Int32) (res : Int32 × Sg) (h : fHeap_add σ v1 v2 = some res) : Met l yX4_add (Cond.code yX4_add cX4_add 3 (some .int) :: lwg) (rmm 1 0 0) (va_Pc [.ref (al 6 4), .int v1, .int v2] (Wd x al lv σ)) (QI x al lv res) 0 0 (Ab x) := by
  refine met_W (by decide) (Nat.le_of_ble_eq_true rfl) rfl (fun p e s m args below meth c ls hC hP hS hl => ?_)
  exact wHeap_add_0  hC σ v1 v2 _ _ ls h hP hS hl
set_option maxHeartbeats 4000000 in
set_option maxRecDepth 20000 in
theorem wJourney_stretch_0 {p : Program} {l : Launch} {e : Env} {s : State} {m : MethodId} {args : Array Value} {below : List Frame} {meth : Method} {c : Code} {x : Wx} {al : Nat → Nat → Nat} {lv : Nat → Bool} {res : Int32 × Sg} (hC : Cx x p s m args meth c cX5_stretch 3 (some .int) RX5) (σ : Sg) (v1 : Int32) (v2 : Int32) (H : Heap) (locs : List Loc) (ls : Array Slot) (h : fJourney_stretch_0 σ v1 v2 = some res) (hP : Pic x al lv σ H) (hS : va_S (Ab x) s.heap H locs) (hl : lv_has ls 3 [(0, .ref (al 6 3)), (1, .int v1), (2, .int v2)]) : W p l e (rmm 1 0 0) s m args below meth c H locs 0 0 (MQ below (QI x al lv res) args s 0 0 (Ab x)) (F0 m 0 ls []) := by
  obtain ⟨hx, hb, hml, hown, hts⟩ := hC.1
  unfold fJourney_stretch_0 at h
  refine lv_aload_n hx hb dX5_stretch_0 rfl (lv_at hl 0 rfl) ?_
  refine gt_X5_1 hC hP wf_X5_11 dX5_stretch_1 ?_
  refine lv_aload_n hx hb dX5_stretch_4 rfl (lv_at hl 0 rfl) ?_
  refine gt_X5_0 hC hP wf_X5_18 dX5_stretch_5 ?_
  refine lv_iload_n hx hb dX5_stretch_8 rfl (lv_at hl 1 rfl) ?_
  refine r_iast hC hP hS (aI_14 hP.l6) h dX5_stretch_9 (fun σ1 H locs h hP hS => ?_)
  refine lv_aload_n hx hb dX5_stretch_10 rfl (lv_at hl 0 rfl) ?_
  refine gt_X5_2 hC hP wf_X5_15 dX5_stretch_11 ?_
  refine lv_aload_n hx hb dX5_stretch_14 rfl (lv_at hl 0 rfl) ?_
  refine gt_X5_0 hC hP wf_X5_18 dX5_stretch_15 ?_
  refine lv_iload_n hx hb dX5_stretch_18 rfl (lv_at hl 2 rfl) ?_
  refine r_iast hC hP hS (aI_15 hP.l6) h dX5_stretch_19 (fun σ2 H locs h hP hS => ?_)
  refine lv_aload_n hx hb dX5_stretch_20 rfl (lv_at hl 0 rfl) ?_
  refine lv_dup hx hb dX5_stretch_21 rfl ?_
  refine gt_X5_0 hC hP wf_X5_18 dX5_stretch_22 ?_
  refine lv_iconst (v := 1) hx hb dX5_stretch_25 (by decide) ?_
  refine lv_iadd hx hb dX5_stretch_26 ?_
  refine pt_X5_0 hC hP hS wf_X5_18 h dX5_stretch_27 (fun σ3 H locs h hP hS => ?_)
  refine lv_aload_n hx hb dX5_stretch_30 rfl (lv_at hl 0 rfl) ?_
  refine gt_X5_0 hC hP wf_X5_18 dX5_stretch_31 ?_
  exact r_retI hC hP hS rfl h dX5_stretch_34

set_option maxRecDepth 20000 in
theorem tJourney_stretch {l : Launch} (x : Wx) (al : Nat → Nat → Nat) (lv : Nat → Bool) (σ : Sg) (v1 : Int32) (v2 : Int32) (res : Int32 × Sg) (h : fJourney_stretch σ v1 v2 = some res) : Met l yX5_stretch (Cond.code yX5_stretch cX5_stretch 3 (some .int) :: lwg) (rmm 1 0 0) (va_Pc [.ref (al 6 3), .int v1, .int v2] (Wd x al lv σ)) (QI x al lv res) 0 0 (Ab x) := by
  refine met_W (by decide) (Nat.le_of_ble_eq_true rfl) rfl (fun p e s m args below meth c ls hC hP hS hl => ?_)
  exact wJourney_stretch_0  hC σ v1 v2 _ _ ls h hP hS hl
set_option maxHeartbeats 4000000 in
set_option maxRecDepth 20000 in
theorem wJourney_daysInAll_4_b {p : Program} {l : Launch} {e : Env} {s : State} {m : MethodId} {args : Array Value} {below : List Frame} {meth : Method} {c : Code} {x : Wx} {al : Nat → Nat → Nat} {lv : Nat → Bool} {res : Int32} {σ : Sg} (hC : Cx x p s m args meth c cX5_daysInAll 3 (some .int) RX5) (k4 : Int32 → Int32 → Option (Int32)) (hk4 : ∀ (x1 : Int32) (x2 : Int32) (H : Heap) (locs : List Loc) (ls : Array Slot), k4 x1 x2 = some res → Pic x al lv σ H → va_S (Ab x) s.heap H locs → lv_has ls 3 [(0, .ref (al 6 3)), (1, .int x1), (2, .int x2)] → W p l e (rmm 1 0 0) s m args below meth c H locs 0 0 (MQ below (QP x al lv σ res) args s 0 0 (Ab x)) (F0 m 4 ls [])) (x1 : Int32) (x2 : Int32) (H : Heap) (locs : List Loc) (ls : Array Slot) (h : fJourney_daysInAll_4_b k4 σ x1 x2 = some res) (hP : Pic x al lv σ H) (hS : va_S (Ab x) s.heap H locs) (hl : lv_has ls 3 [(0, .ref (al 6 3)), (1, .int x1), (2, .int x2)]) : W p l e (rmm 1 0 0) s m args below meth c H locs 0 0 (MQ below (QP x al lv σ res) args s 0 0 (Ab x)) (F0 m 4 ls []) := by
  obtain ⟨hx, hb, hml, hown, hts⟩ := hC.1
  unfold fJourney_daysInAll_4_b at h
  refine lv_iload_n hx hb dX5_daysInAll_4 rfl (lv_at hl 2 rfl) ?_
  refine lv_aload_n hx hb dX5_daysInAll_5 rfl (lv_at hl 0 rfl) ?_
  refine gt_X5_0 hC hP wf_X5_18 dX5_daysInAll_6 ?_
  refine lv_icmp_ge (tgt := 27) hx hb dX5_daysInAll_9 (by decide) (fun hc => ?_) (fun hc => ?_)
  · replace h := (br h).1 hc
    refine lv_iload_n hx hb dX5_daysInAll_27 rfl (lv_at hl 1 rfl) ?_
    exact r_retP hC hP hS rfl h dX5_daysInAll_28
  · replace h := (br h).2 hc
    refine lv_iload_n hx hb dX5_daysInAll_12 rfl (lv_at hl 1 rfl) ?_
    refine lv_aload_n hx hb dX5_daysInAll_13 rfl (lv_at hl 0 rfl) ?_
    refine gt_X5_2 hC hP wf_X5_15 dX5_daysInAll_14 ?_
    refine lv_iload_n hx hb dX5_daysInAll_17 rfl (lv_at hl 2 rfl) ?_
    refine r_iald hC hP (aI_15 hP.l6) h dX5_daysInAll_18 (fun h => ?_)
    refine lv_iadd hx hb dX5_daysInAll_19 ?_
    refine r_lt h (fun y1 h => ?_)
    refine lv_istore_n (lv' := [(1, .int y1), (0, .ref (al 6 3)), (2, .int x2)]) hx hb dX5_daysInAll_20 rfl hl (by decide) rfl (fun ls hl => ?_)
    refine r_iinc (v := 1) hC h dX5_daysInAll_21 hl (k := 2) rfl rfl (by decide) (fun y2 => [(2, .int y2), (1, .int y1), (0, .ref (al 6 3))]) (fun _ => rfl) (fun y2 ls h hl => ?_)
    refine lv_goto (tgt := 4) hx hb dX5_daysInAll_24 (by decide) ?_
    exact hk4 y1 y2 H locs ls h hP hS (lv_sub hl [2, 1, 0] rfl)

set_option maxHeartbeats 4000000 in
set_option maxRecDepth 20000 in
theorem wJourney_daysInAll_4 {p : Program} {l : Launch} {e : Env} {s : State} {m : MethodId} {args : Array Value} {below : List Frame} {meth : Method} {c : Code} {x : Wx} {al : Nat → Nat → Nat} {lv : Nat → Bool} {res : Int32} {σ : Sg} (hC : Cx x p s m args meth c cX5_daysInAll 3 (some .int) RX5) (n : Nat) (x1 : Int32) (x2 : Int32) (H : Heap) (locs : List Loc) (ls : Array Slot) (h : fJourney_daysInAll_4 n σ x1 x2 = some res) (hP : Pic x al lv σ H) (hS : va_S (Ab x) s.heap H locs) (hl : lv_has ls 3 [(0, .ref (al 6 3)), (1, .int x1), (2, .int x2)]) : W p l e (rmm 1 0 0) s m args below meth c H locs 0 0 (MQ below (QP x al lv σ res) args s 0 0 (Ab x)) (F0 m 4 ls []) := by
  induction n generalizing x1 x2 H locs ls with
  | zero => exact nomatch h
  | succ n ih => exact wJourney_daysInAll_4_b  hC  _ (fun x1 x2 H locs ls h hP hS hl => ih x1 x2 H locs ls h hP hS hl) x1 x2 H locs ls h hP hS hl
set_option maxHeartbeats 4000000 in
set_option maxRecDepth 20000 in
theorem wJourney_daysInAll_0 {p : Program} {l : Launch} {e : Env} {s : State} {m : MethodId} {args : Array Value} {below : List Frame} {meth : Method} {c : Code} {x : Wx} {al : Nat → Nat → Nat} {lv : Nat → Bool} {res : Int32} {σ : Sg} (hC : Cx x p s m args meth c cX5_daysInAll 3 (some .int) RX5) (H : Heap) (locs : List Loc) (ls : Array Slot) (h : fJourney_daysInAll_0 σ = some res) (hP : Pic x al lv σ H) (hS : va_S (Ab x) s.heap H locs) (hl : lv_has ls 3 [(0, .ref (al 6 3))]) : W p l e (rmm 1 0 0) s m args below meth c H locs 0 0 (MQ below (QP x al lv σ res) args s 0 0 (Ab x)) (F0 m 0 ls []) := by
  obtain ⟨hx, hb, hml, hown, hts⟩ := hC.1
  unfold fJourney_daysInAll_0 at h
  refine lv_iconst (v := 0) hx hb dX5_daysInAll_0 (by decide) ?_
  refine lv_istore_n (lv' := [(1, .int 0), (0, .ref (al 6 3))]) hx hb dX5_daysInAll_1 rfl hl (by decide) rfl (fun ls hl => ?_)
  refine lv_iconst (v := 0) hx hb dX5_daysInAll_2 (by decide) ?_
  refine lv_istore_n (lv' := [(2, .int 0), (1, .int 0), (0, .ref (al 6 3))]) hx hb dX5_daysInAll_3 rfl hl (by decide) rfl (fun ls hl => ?_)
  exact wJourney_daysInAll_4  hC  FU 0 0 H locs ls h hP hS (lv_sub hl [2, 1, 0] rfl)

set_option maxRecDepth 20000 in
theorem tJourney_daysInAll {l : Launch} (x : Wx) (al : Nat → Nat → Nat) (lv : Nat → Bool) (σ : Sg) (res : Int32) (h : fJourney_daysInAll σ = some res) : Met l yX5_daysInAll (Cond.code yX5_daysInAll cX5_daysInAll 3 (some .int) :: lwg) (rmm 1 0 0) (va_Pc [.ref (al 6 3)] (Wd x al lv σ)) (QP x al lv σ res) 0 0 (Ab x) := by
  refine met_W (by decide) (Nat.le_of_ble_eq_true rfl) rfl (fun p e s m args below meth c ls hC hP hS hl => ?_)
  exact wJourney_daysInAll_0  hC  _ _ ls h hP hS hl
set_option maxHeartbeats 4000000 in
set_option maxRecDepth 20000 in
theorem wI_rateOf_0 {p : Program} {l : Launch} {e : Env} {s : State} {m : MethodId} {args : Array Value} {below : List Frame} {meth : Method} {c : Code} {x : Wx} {al : Nat → Nat → Nat} {lv : Nat → Bool} {res : Int32} {σ : Sg} (hC : Cx x p s m args meth c cX11_rateOf 1 (some .int) RX11) (v0 : Int32) (H : Heap) (locs : List Loc) (ls : Array Slot) (h : fI_rateOf_0 σ v0 = some res) (hP : Pic x al lv σ H) (hS : va_S (Ab x) s.heap H locs) (hl : lv_has ls 1 [(0, .int v0)]) : W p l e (rmm 1 0 0) s m args below meth c H locs 0 0 (MQ below (QP x al lv σ res) args s 0 0 (Ab x)) (F0 m 0 ls []) := by
  obtain ⟨hx, hb, hml, hown, hts⟩ := hC.1
  unfold fI_rateOf_0 at h
  refine lv_iload_n hx hb dX11_rateOf_0 rfl (lv_at hl 0 rfl) ?_
  refine lv_iconst (v := 2) hx hb dX11_rateOf_1 (by decide) ?_
  refine lv_icmp_ne (tgt := 9) hx hb dX11_rateOf_2 (by decide) (fun hc => ?_) (fun hc => ?_)
  · replace h := (br h).2 hc
    refine lv_iconst (v := 3) hx hb dX11_rateOf_9 (by decide) ?_
    exact r_retP hC hP hS rfl h dX11_rateOf_10
  · replace h := (br h).1 hc
    refine lv_iconst (v := 5) hx hb dX11_rateOf_5 (by decide) ?_
    refine lv_goto (tgt := 10) hx hb dX11_rateOf_6 (by decide) ?_
    exact r_retP hC hP hS rfl h dX11_rateOf_10

set_option maxRecDepth 20000 in
theorem tI_rateOf {l : Launch} (x : Wx) (al : Nat → Nat → Nat) (lv : Nat → Bool) (σ : Sg) (v0 : Int32) (res : Int32) (h : fI_rateOf σ v0 = some res) : Met l yX11_rateOf (Cond.code yX11_rateOf cX11_rateOf 1 (some .int) :: lwg) (rmm 1 0 0) (va_Pc [.int v0] (Wd x al lv σ)) (QP x al lv σ res) 0 0 (Ab x) := by
  refine met_W (by decide) (Nat.le_of_ble_eq_true rfl) rfl (fun p e s m args below meth c ls hC hP hS hl => ?_)
  exact wI_rateOf_0  hC v0 _ _ ls h hP hS hl
set_option maxHeartbeats 4000000 in
set_option maxRecDepth 20000 in
theorem wMelting_withoutSalt_36 {p : Program} {l : Launch} {e : Env} {s : State} {m : MethodId} {args : Array Value} {below : List Frame} {meth : Method} {c : Code} {x : Wx} {al : Nat → Nat → Nat} {lv : Nat → Bool} {res : Int32} {σ : Sg} (hC : Cx x p s m args meth c cX6_withoutSalt 2 (some .int) RX6) (x1 : Int32) (H : Heap) (locs : List Loc) (ls : Array Slot) (h : fMelting_withoutSalt_36 σ x1 = some res) (hP : Pic x al lv σ H) (hS : va_S (Ab x) s.heap H locs) (hl : lv_has ls 2 [(1, .int x1)]) : W p l e (rmm 1 0 0) s m args below meth c H locs 0 0 (MQ below (QP x al lv σ res) args s 0 0 (Ab x)) (F0 m 36 ls []) := by
  obtain ⟨hx, hb, hml, hown, hts⟩ := hC.1
  unfold fMelting_withoutSalt_36 at h
  refine lv_iload_n hx hb dX6_withoutSalt_36 rfl (lv_at hl 0 rfl) ?_
  refine lv_bipush (v := 80) hx hb dX6_withoutSalt_37 (by decide) ?_
  refine lv_iadd hx hb dX6_withoutSalt_39 ?_
  refine lv_iconst (v := 2) hx hb dX6_withoutSalt_40 (by decide) ?_
  refine lv_idiv hx hb dX6_withoutSalt_41 (by decide) ?_
  exact r_retP hC hP hS rfl h dX6_withoutSalt_42

set_option maxHeartbeats 4000000 in
set_option maxRecDepth 20000 in
theorem wMelting_withoutSalt_0 {p : Program} {l : Launch} {e : Env} {s : State} {m : MethodId} {args : Array Value} {below : List Frame} {meth : Method} {c : Code} {x : Wx} {al : Nat → Nat → Nat} {lv : Nat → Bool} {res : Int32} {σ : Sg} (hC : Cx x p s m args meth c cX6_withoutSalt 2 (some .int) RX6) (v0 : Int32) (v1 : Int32) (H : Heap) (locs : List Loc) (ls : Array Slot) (h : fMelting_withoutSalt_0 σ v0 v1 = some res) (hP : Pic x al lv σ H) (hS : va_S (Ab x) s.heap H locs) (hl : lv_has ls 2 [(0, .int v0), (1, .int v1)]) : W p l e (rmm 1 0 0) s m args below meth c H locs 0 0 (MQ below (QP x al lv σ res) args s 0 0 (Ab x)) (F0 m 0 ls []) := by
  obtain ⟨hx, hb, hml, hown, hts⟩ := hC.1
  unfold fMelting_withoutSalt_0 at h
  refine lv_iload_n hx hb dX6_withoutSalt_0 rfl (lv_at hl 0 rfl) ?_
  refine Classical.byCases (p := v0 = 1) (fun hc => ?_) (fun n1 => ?_)
  · skip
    replace h := (br h).1 hc
    rw [hc]
    refine lv_tableIn (off := 35) (tgt := 36) hx hb dX6_withoutSalt_1 (by decide) (by decide) rfl (by decide) ?_
    exact wMelting_withoutSalt_36  hC  v1 H locs ls h hP hS (lv_sub hl [1] rfl)
  · skip
    replace h := (br h).2 n1
    refine Classical.byCases (p := v0 = 3) (fun hc => ?_) (fun n3 => ?_)
    · skip
      replace h := (br h).1 hc
      rw [hc]
      refine lv_tableIn (off := 42) (tgt := 43) hx hb dX6_withoutSalt_1 (by decide) (by decide) rfl (by decide) ?_
      refine lv_iload_n hx hb dX6_withoutSalt_43 rfl (lv_at hl 1 rfl) ?_
      refine lv_bipush (v := 10) hx hb dX6_withoutSalt_44 (by decide) ?_
      refine lv_iadd hx hb dX6_withoutSalt_46 ?_
      exact r_retP hC hP hS rfl h dX6_withoutSalt_47
    · skip
      replace h := (br h).2 n3
      refine Classical.byCases (p := v0 = 4) (fun hc => ?_) (fun n4 => ?_)
      · skip
        replace h := (br h).1 hc
        rw [hc]
        refine lv_tableIn (off := 47) (tgt := 48) hx hb dX6_withoutSalt_1 (by decide) (by decide) rfl (by decide) ?_
        refine lv_iload_n hx hb dX6_withoutSalt_48 rfl (lv_at hl 1 rfl) ?_
        refine lv_bipush (v := 30) hx hb dX6_withoutSalt_49 (by decide) ?_
        refine lv_iadd hx hb dX6_withoutSalt_51 ?_
        exact r_retP hC hP hS rfl h dX6_withoutSalt_52
      · skip
        replace h := (br h).2 n4
        refine Classical.byCases (p := v0 = 5) (fun hc => ?_) (fun n5 => ?_)
        · skip
          replace h := (br h).1 hc
          rw [hc]
          refine lv_tableIn (off := 35) (tgt := 36) hx hb dX6_withoutSalt_1 (by decide) (by decide) rfl (by decide) ?_
          exact wMelting_withoutSalt_36  hC  v1 H locs ls h hP hS (lv_sub hl [1] rfl)
        · skip
          replace h := (br h).2 n5
          have m1 := lv_neT (a := 1) n1 rfl
          have m3 := lv_neT (a := 3) n3 rfl
          have m4 := lv_neT (a := 4) n4 rfl
          have m5 := lv_neT (a := 5) n5 rfl
          refine Classical.byCases (p := v0 = 2) (fun hc => ?_) (fun n2 => ?_)
          · skip
            rw [hc]
            refine lv_tableIn (off := 52) (tgt := 53) hx hb dX6_withoutSalt_1 (by decide) (by decide) rfl (by decide) ?_
            refine lv_iload_n hx hb dX6_withoutSalt_53 rfl (lv_at hl 1 rfl) ?_
            exact r_retP hC hP hS rfl h dX6_withoutSalt_54
          · skip
            have m2 := lv_neT (a := 2) n2 rfl
            refine lv_tableOut (tgt := 53) hx hb dX6_withoutSalt_1 (by omega) (by decide) ?_
            refine lv_iload_n hx hb dX6_withoutSalt_53 rfl (lv_at hl 1 rfl) ?_
            exact r_retP hC hP hS rfl h dX6_withoutSalt_54

set_option maxRecDepth 20000 in
theorem tMelting_withoutSalt {l : Launch} (x : Wx) (al : Nat → Nat → Nat) (lv : Nat → Bool) (σ : Sg) (v0 : Int32) (v1 : Int32) (res : Int32) (h : fMelting_withoutSalt σ v0 v1 = some res) : Met l yX6_withoutSalt (Cond.code yX6_withoutSalt cX6_withoutSalt 2 (some .int) :: lwg) (rmm 1 0 0) (va_Pc [.int v0, .int v1] (Wd x al lv σ)) (QP x al lv σ res) 0 0 (Ab x) := by
  refine met_W (by decide) (Nat.le_of_ble_eq_true rfl) rfl (fun p e s m args below meth c ls hC hP hS hl => ?_)
  exact wMelting_withoutSalt_0  hC v0 v1 _ _ ls h hP hS hl
set_option maxHeartbeats 4000000 in
set_option maxRecDepth 20000 in
theorem wJourney_leaves_95 {p : Program} {l : Launch} {e : Env} {s : State} {m : MethodId} {args : Array Value} {below : List Frame} {meth : Method} {c : Code} {x : Wx} {al : Nat → Nat → Nat} {lv : Nat → Bool} {res : Int32} {σ : Sg} (hC : Cx x p s m args meth c cX5_leaves 12 (some .int) RX5) (k21 : Int32 → Int32 → Int32 → Int32 → Int32 → Int32 → Option (Int32)) (hk21 : ∀ (x1 : Int32) (x5 : Int32) (x6 : Int32) (x7 : Int32) (x8 : Int32) (x9 : Int32) (H : Heap) (locs : List Loc) (ls : Array Slot), k21 x1 x5 x6 x7 x8 x9 = some res → Pic x al lv σ H → va_S (Ab x) s.heap H locs → lv_has ls 12 [(0, .ref (al 6 3)), (1, .int x1), (4, .ref (al 6 1)), (5, .int x5), (6, .int x6), (7, .int x7), (8, .int x8), (9, .int x9)] → W p l e (rmm 3 0 0) s m args below meth c H locs 0 0 (MQ below (QP x al lv σ res) args s 0 0 (Ab x)) (F0 m 21 ls [])) (x1 : Int32) (x5 : Int32) (x6 : Int32) (x7 : Int32) (x8 : Int32) (x9 : Int32) (H : Heap) (locs : List Loc) (ls : Array Slot) (h : fJourney_leaves_95 k21 σ x1 x5 x6 x7 x8 x9 = some res) (hP : Pic x al lv σ H) (hS : va_S (Ab x) s.heap H locs) (hl : lv_has ls 12 [(0, .ref (al 6 3)), (1, .int x1), (4, .ref (al 6 1)), (5, .int x5), (6, .int x6), (7, .int x7), (8, .int x8), (9, .int x9)]) : W p l e (rmm 3 0 0) s m args below meth c H locs 0 0 (MQ below (QP x al lv σ res) args s 0 0 (Ab x)) (F0 m 95 ls []) := by
  obtain ⟨hx, hb, hml, hown, hts⟩ := hC.1
  unfold fJourney_leaves_95 at h
  refine r_iinc (v := 1) hC h dX5_leaves_95 hl (k := 5) rfl rfl (by decide) (fun y6 => [(7, .int y6), (0, .ref (al 6 3)), (1, .int x1), (4, .ref (al 6 1)), (5, .int x5), (6, .int x6), (8, .int x8), (9, .int x9)]) (fun _ => rfl) (fun y6 ls h hl => ?_)
  refine r_iinc (v := 1) hC h dX5_leaves_98 hl (k := 7) rfl rfl (by decide) (fun y7 => [(9, .int y7), (7, .int y6), (0, .ref (al 6 3)), (1, .int x1), (4, .ref (al 6 1)), (5, .int x5), (6, .int x6), (8, .int x8)]) (fun _ => rfl) (fun y7 ls h hl => ?_)
  refine lv_goto (tgt := 21) hx hb dX5_leaves_101 (by decide) ?_
  exact hk21 x1 x5 x6 y6 x8 y7 H locs ls h hP hS (lv_sub hl [2, 3, 4, 5, 6, 1, 7, 0] rfl)

set_option maxHeartbeats 4000000 in
set_option maxRecDepth 20000 in
theorem wJourney_leaves_71 {p : Program} {l : Launch} {e : Env} {s : State} {m : MethodId} {args : Array Value} {below : List Frame} {meth : Method} {c : Code} {x : Wx} {al : Nat → Nat → Nat} {lv : Nat → Bool} {res : Int32} {σ : Sg} (hC : Cx x p s m args meth c cX5_leaves 12 (some .int) RX5) (k21 : Int32 → Int32 → Int32 → Int32 → Int32 → Int32 → Option (Int32)) (hk21 : ∀ (x1 : Int32) (x5 : Int32) (x6 : Int32) (x7 : Int32) (x8 : Int32) (x9 : Int32) (H : Heap) (locs : List Loc) (ls : Array Slot), k21 x1 x5 x6 x7 x8 x9 = some res → Pic x al lv σ H → va_S (Ab x) s.heap H locs → lv_has ls 12 [(0, .ref (al 6 3)), (1, .int x1), (4, .ref (al 6 1)), (5, .int x5), (6, .int x6), (7, .int x7), (8, .int x8), (9, .int x9)] → W p l e (rmm 3 0 0) s m args below meth c H locs 0 0 (MQ below (QP x al lv σ res) args s 0 0 (Ab x)) (F0 m 21 ls [])) (x1 : Int32) (x5 : Int32) (x6 : Int32) (x7 : Int32) (x8 : Int32) (x9 : Int32) (t0 : Int32) (H : Heap) (locs : List Loc) (ls : Array Slot) (h : fJourney_leaves_71 k21 σ x1 x5 x6 x7 x8 x9 t0 = some res) (hP : Pic x al lv σ H) (hS : va_S (Ab x) s.heap H locs) (hl : lv_has ls 12 [(0, .ref (al 6 3)), (1, .int x1), (4, .ref (al 6 1)), (5, .int x5), (6, .int x6), (7, .int x7), (8, .int x8), (9, .int x9)]) : W p l e (rmm 3 0 0) s m args below meth c H locs 0 0 (MQ below (QP x al lv σ res) args s 0 0 (Ab x)) (F0 m 71 ls [.int t0]) := by
  obtain ⟨hx, hb, hml, hown, hts⟩ := hC.1
  unfold fJourney_leaves_71 at h
  refine lv_istore (lv' := [(11, .int t0), (0, .ref (al 6 3)), (1, .int x1), (4, .ref (al 6 1)), (5, .int x5), (6, .int x6), (7, .int x7), (8, .int x8), (9, .int x9)]) hx hb dX5_leaves_71 hl (by decide) rfl (fun ls hl => ?_)
  refine lv_iload hx hb dX5_leaves_73 (lv_at hl 5 rfl) ?_
  refine lv_iload hx hb dX5_leaves_75 (lv_at hl 0 rfl) ?_
  refine lv_iload hx hb dX5_leaves_77 (lv_at hl 5 rfl) ?_
  refine r_min hC hl.1 wm_X5_37 (Nat.le_of_ble_eq_true rfl) (Nat.le_of_ble_eq_true rfl) (Nat.le_of_ble_eq_true rfl) (Nat.le_of_ble_eq_true rfl) dX5_leaves_79 ?_
  refine lv_isub hx hb dX5_leaves_82 ?_
  refine r_lt h (fun y5 h => ?_)
  refine lv_istore (lv' := [(6, .int y5), (11, .int t0), (0, .ref (al 6 3)), (1, .int x1), (4, .ref (al 6 1)), (5, .int x5), (7, .int x7), (8, .int x8), (9, .int x9)]) hx hb dX5_leaves_83 hl (by decide) rfl (fun ls hl => ?_)
  refine lv_iload hx hb dX5_leaves_85 (lv_at hl 0 rfl) ?_
  refine lv_iload hx hb dX5_leaves_87 (lv_at hl 5 rfl) ?_
  refine lv_icmp_ge (tgt := 95) hx hb dX5_leaves_89 (by decide) (fun hc => ?_) (fun hc => ?_)
  · replace h := (br h).1 hc
    exact wJourney_leaves_95  hC k21 hk21 x1 x5 y5 x7 x8 x9 H locs ls h hP hS (lv_sub hl [2, 3, 4, 5, 0, 6, 7, 8] rfl)
  · replace h := (br h).2 hc
    refine lv_iconst (v := 0) hx hb dX5_leaves_92 (by decide) ?_
    refine lv_istore (lv' := [(6, .int 0), (11, .int t0), (0, .ref (al 6 3)), (1, .int x1), (4, .ref (al 6 1)), (5, .int x5), (7, .int x7), (8, .int x8), (9, .int x9)]) hx hb dX5_leaves_93 hl (by decide) rfl (fun ls hl => ?_)
    exact wJourney_leaves_95  hC k21 hk21 x1 x5 0 x7 x8 x9 H locs ls h hP hS (lv_sub hl [2, 3, 4, 5, 0, 6, 7, 8] rfl)

set_option maxHeartbeats 4000000 in
set_option maxRecDepth 20000 in
theorem wJourney_leaves_21_b {p : Program} {l : Launch} {e : Env} {s : State} {m : MethodId} {args : Array Value} {below : List Frame} {meth : Method} {c : Code} {x : Wx} {al : Nat → Nat → Nat} {lv : Nat → Bool} {res : Int32} {σ : Sg} (hC : Cx x p s m args meth c cX5_leaves 12 (some .int) RX5) (k9 : Int32 → Int32 → Int32 → Int32 → Int32 → Option (Int32)) (hk9 : ∀ (x1 : Int32) (x5 : Int32) (x6 : Int32) (x7 : Int32) (x8 : Int32) (H : Heap) (locs : List Loc) (ls : Array Slot), k9 x1 x5 x6 x7 x8 = some res → Pic x al lv σ H → va_S (Ab x) s.heap H locs → lv_has ls 12 [(0, .ref (al 6 3)), (1, .int x1), (4, .ref (al 6 1)), (5, .int x5), (6, .int x6), (7, .int x7), (8, .int x8)] → W p l e (rmm 3 0 0) s m args below meth c H locs 0 0 (MQ below (QP x al lv σ res) args s 0 0 (Ab x)) (F0 m 9 ls [])) (k21 : Int32 → Int32 → Int32 → Int32 → Int32 → Int32 → Option (Int32)) (hk21 : ∀ (x1 : Int32) (x5 : Int32) (x6 : Int32) (x7 : Int32) (x8 : Int32) (x9 : Int32) (H : Heap) (locs : List Loc) (ls : Array Slot), k21 x1 x5 x6 x7 x8 x9 = some res → Pic x al lv σ H → va_S (Ab x) s.heap H locs → lv_has ls 12 [(0, .ref (al 6 3)), (1, .int x1), (4, .ref (al 6 1)), (5, .int x5), (6, .int x6), (7, .int x7), (8, .int x8), (9, .int x9)] → W p l e (rmm 3 0 0) s m args below meth c H locs 0 0 (MQ below (QP x al lv σ res) args s 0 0 (Ab x)) (F0 m 21 ls [])) (x1 : Int32) (x5 : Int32) (x6 : Int32) (x7 : Int32) (x8 : Int32) (x9 : Int32) (H : Heap) (locs : List Loc) (ls : Array Slot) (h : fJourney_leaves_21_b k9 k21 σ x1 x5 x6 x7 x8 x9 = some res) (hP : Pic x al lv σ H) (hS : va_S (Ab x) s.heap H locs) (hl : lv_has ls 12 [(0, .ref (al 6 3)), (1, .int x1), (4, .ref (al 6 1)), (5, .int x5), (6, .int x6), (7, .int x7), (8, .int x8), (9, .int x9)]) : W p l e (rmm 3 0 0) s m args below meth c H locs 0 0 (MQ below (QP x al lv σ res) args s 0 0 (Ab x)) (F0 m 21 ls []) := by
  obtain ⟨hx, hb, hml, hown, hts⟩ := hC.1
  unfold fJourney_leaves_21_b at h
  refine lv_iload hx hb dX5_leaves_21 (lv_at hl 7 rfl) ?_
  refine lv_aload_n hx hb dX5_leaves_23 rfl (lv_at hl 0 rfl) ?_
  refine gt_X5_2 hC hP wf_X5_15 dX5_leaves_24 ?_
  refine lv_iload hx hb dX5_leaves_27 (lv_at hl 6 rfl) ?_
  refine r_iald hC hP (aI_15 hP.l6) h dX5_leaves_29 (fun h => ?_)
  refine lv_icmp_ge (tgt := 104) hx hb dX5_leaves_30 (by decide) (fun hc => ?_) (fun hc => ?_)
  · replace h := (br h).1 hc
    refine r_iinc (v := 1) hC h dX5_leaves_104 hl (k := 6) rfl rfl (by decide) (fun y1 => [(8, .int y1), (0, .ref (al 6 3)), (1, .int x1), (4, .ref (al 6 1)), (5, .int x5), (6, .int x6), (7, .int x7), (9, .int x9)]) (fun _ => rfl) (fun y1 ls h hl => ?_)
    refine lv_goto (tgt := 9) hx hb dX5_leaves_107 (by decide) ?_
    exact hk9 x1 x5 x6 x7 y1 H locs ls h hP hS (lv_sub hl [1, 2, 3, 4, 5, 6, 0] rfl)
  · replace h := (br h).2 hc
    refine lv_aload_n hx hb dX5_leaves_33 rfl (lv_at hl 0 rfl) ?_
    refine gt_X5_1 hC hP wf_X5_11 dX5_leaves_34 ?_
    refine lv_iload hx hb dX5_leaves_37 (lv_at hl 6 rfl) ?_
    refine r_iald hC hP (aI_14 hP.l6) h dX5_leaves_39 (fun h => ?_)
    refine lv_aload hx hb dX5_leaves_40 (lv_at hl 2 rfl) ?_
    refine lv_iload hx hb dX5_leaves_42 (lv_at hl 5 rfl) ?_
    refine r_cP hS h (fun r hr => r_runV (As := [.int x7]) (rest := [.int (σ 6 14 x8.toNatClampNeg)]) hC kV_X5_22 cw_X2_tenthsOf (rc_X2 hC hP) hP (tCalendar_tenthsOf x al lv σ x7 r hr) rfl hl.1 ⟨Nat.le_of_ble_eq_true rfl, Nat.le_of_ble_eq_true rfl⟩ ⟨Nat.le_of_ble_eq_true rfl, Nat.le_of_ble_eq_true rfl⟩ (Nat.le_of_ble_eq_true rfl) dX5_leaves_44) (fun y2 H locs h hP hS => ?_)
    refine r_cP hS h (fun r hr => r_runS (As := [.int (σ 6 14 x8.toNatClampNeg), .int y2]) (rest := []) hC kS_X5_28 cw_X6_withoutSalt hP (tMelting_withoutSalt x al lv σ (σ 6 14 x8.toNatClampNeg) y2 r hr) rfl hl.1 ⟨Nat.le_of_ble_eq_true rfl, Nat.le_of_ble_eq_true rfl⟩ ⟨Nat.le_of_ble_eq_true rfl, Nat.le_of_ble_eq_true rfl⟩ (Nat.le_of_ble_eq_true rfl) dX5_leaves_47) (fun y3 H locs h hP hS => ?_)
    refine lv_istore (lv' := [(10, .int y3), (0, .ref (al 6 3)), (1, .int x1), (4, .ref (al 6 1)), (5, .int x5), (6, .int x6), (7, .int x7), (8, .int x8), (9, .int x9)]) hx hb dX5_leaves_50 hl (by decide) rfl (fun ls hl => ?_)
    refine lv_iload hx hb dX5_leaves_52 (lv_at hl 0 rfl) ?_
    refine lv_if_le (tgt := 70) hx hb dX5_leaves_54 (by decide) (fun hc => ?_) (fun hc => ?_)
    · replace h := (br h).1 hc
      refine lv_iconst (v := 0) hx hb dX5_leaves_70 (by decide) ?_
      exact wJourney_leaves_71  hC k21 hk21 x1 x5 x6 x7 x8 x9 0 H locs ls h hP hS (lv_sub hl [1, 2, 3, 4, 5, 6, 7, 8] rfl)
    · replace h := (br h).2 hc
      refine lv_bipush (v := 6) hx hb dX5_leaves_57 (by decide) ?_
      refine lv_iload_n hx hb dX5_leaves_59 rfl (lv_at hl 2 rfl) ?_
      refine r_cP hS h (fun r hr => r_runN (As := [.int x1]) (rest := [.int 6]) hC kN_X5_34 cw_X11_rateOf hP (tI_rateOf x al lv σ x1 r hr) rfl hl.1 ⟨Nat.le_of_ble_eq_true rfl, Nat.le_of_ble_eq_true rfl⟩ ⟨Nat.le_of_ble_eq_true rfl, Nat.le_of_ble_eq_true rfl⟩ (Nat.le_of_ble_eq_true rfl) dX5_leaves_60) (fun y4 H locs h hP hS => ?_)
      refine lv_imul hx hb dX5_leaves_63 ?_
      refine lv_iload hx hb dX5_leaves_64 (lv_at hl 0 rfl) ?_
      refine lv_imul hx hb dX5_leaves_66 ?_
      refine lv_goto (tgt := 71) hx hb dX5_leaves_67 (by decide) ?_
      exact wJourney_leaves_71  hC k21 hk21 x1 x5 x6 x7 x8 x9 ((6 * y4) * y3) H locs ls h hP hS (lv_sub hl [1, 2, 3, 4, 5, 6, 7, 8] rfl)

set_option maxHeartbeats 4000000 in
set_option maxRecDepth 20000 in
theorem wJourney_leaves_21 {p : Program} {l : Launch} {e : Env} {s : State} {m : MethodId} {args : Array Value} {below : List Frame} {meth : Method} {c : Code} {x : Wx} {al : Nat → Nat → Nat} {lv : Nat → Bool} {res : Int32} {σ : Sg} (hC : Cx x p s m args meth c cX5_leaves 12 (some .int) RX5) (k9 : Int32 → Int32 → Int32 → Int32 → Int32 → Option (Int32)) (hk9 : ∀ (x1 : Int32) (x5 : Int32) (x6 : Int32) (x7 : Int32) (x8 : Int32) (H : Heap) (locs : List Loc) (ls : Array Slot), k9 x1 x5 x6 x7 x8 = some res → Pic x al lv σ H → va_S (Ab x) s.heap H locs → lv_has ls 12 [(0, .ref (al 6 3)), (1, .int x1), (4, .ref (al 6 1)), (5, .int x5), (6, .int x6), (7, .int x7), (8, .int x8)] → W p l e (rmm 3 0 0) s m args below meth c H locs 0 0 (MQ below (QP x al lv σ res) args s 0 0 (Ab x)) (F0 m 9 ls [])) (n : Nat) (x1 : Int32) (x5 : Int32) (x6 : Int32) (x7 : Int32) (x8 : Int32) (x9 : Int32) (H : Heap) (locs : List Loc) (ls : Array Slot) (h : fJourney_leaves_21 k9 n σ x1 x5 x6 x7 x8 x9 = some res) (hP : Pic x al lv σ H) (hS : va_S (Ab x) s.heap H locs) (hl : lv_has ls 12 [(0, .ref (al 6 3)), (1, .int x1), (4, .ref (al 6 1)), (5, .int x5), (6, .int x6), (7, .int x7), (8, .int x8), (9, .int x9)]) : W p l e (rmm 3 0 0) s m args below meth c H locs 0 0 (MQ below (QP x al lv σ res) args s 0 0 (Ab x)) (F0 m 21 ls []) := by
  induction n generalizing x1 x5 x6 x7 x8 x9 H locs ls with
  | zero => exact nomatch h
  | succ n ih => exact wJourney_leaves_21_b  hC k9 hk9 _ (fun x1 x5 x6 x7 x8 x9 H locs ls h hP hS hl => ih x1 x5 x6 x7 x8 x9 H locs ls h hP hS hl) x1 x5 x6 x7 x8 x9 H locs ls h hP hS hl
set_option maxHeartbeats 4000000 in
set_option maxRecDepth 20000 in
theorem wJourney_leaves_9_b {p : Program} {l : Launch} {e : Env} {s : State} {m : MethodId} {args : Array Value} {below : List Frame} {meth : Method} {c : Code} {x : Wx} {al : Nat → Nat → Nat} {lv : Nat → Bool} {res : Int32} {σ : Sg} (hC : Cx x p s m args meth c cX5_leaves 12 (some .int) RX5) (k9 : Int32 → Int32 → Int32 → Int32 → Int32 → Option (Int32)) (hk9 : ∀ (x1 : Int32) (x5 : Int32) (x6 : Int32) (x7 : Int32) (x8 : Int32) (H : Heap) (locs : List Loc) (ls : Array Slot), k9 x1 x5 x6 x7 x8 = some res → Pic x al lv σ H → va_S (Ab x) s.heap H locs → lv_has ls 12 [(0, .ref (al 6 3)), (1, .int x1), (4, .ref (al 6 1)), (5, .int x5), (6, .int x6), (7, .int x7), (8, .int x8)] → W p l e (rmm 3 0 0) s m args below meth c H locs 0 0 (MQ below (QP x al lv σ res) args s 0 0 (Ab x)) (F0 m 9 ls [])) (x1 : Int32) (x5 : Int32) (x6 : Int32) (x7 : Int32) (x8 : Int32) (H : Heap) (locs : List Loc) (ls : Array Slot) (h : fJourney_leaves_9_b k9 σ x1 x5 x6 x7 x8 = some res) (hP : Pic x al lv σ H) (hS : va_S (Ab x) s.heap H locs) (hl : lv_has ls 12 [(0, .ref (al 6 3)), (1, .int x1), (4, .ref (al 6 1)), (5, .int x5), (6, .int x6), (7, .int x7), (8, .int x8)]) : W p l e (rmm 3 0 0) s m args below meth c H locs 0 0 (MQ below (QP x al lv σ res) args s 0 0 (Ab x)) (F0 m 9 ls []) := by
  obtain ⟨hx, hb, hml, hown, hts⟩ := hC.1
  unfold fJourney_leaves_9_b at h
  refine lv_iload hx hb dX5_leaves_9 (lv_at hl 6 rfl) ?_
  refine lv_aload_n hx hb dX5_leaves_11 rfl (lv_at hl 0 rfl) ?_
  refine gt_X5_0 hC hP wf_X5_18 dX5_leaves_12 ?_
  refine lv_icmp_ge (tgt := 110) hx hb dX5_leaves_15 (by decide) (fun hc => ?_) (fun hc => ?_)
  · replace h := (br h).1 hc
    refine lv_iload hx hb dX5_leaves_110 (lv_at hl 4 rfl) ?_
    exact r_retP hC hP hS rfl h dX5_leaves_112
  · replace h := (br h).2 hc
    refine lv_iconst (v := 0) hx hb dX5_leaves_18 (by decide) ?_
    refine lv_istore (lv' := [(9, .int 0), (0, .ref (al 6 3)), (1, .int x1), (4, .ref (al 6 1)), (5, .int x5), (6, .int x6), (7, .int x7), (8, .int x8)]) hx hb dX5_leaves_19 hl (by decide) rfl (fun ls hl => ?_)
    exact wJourney_leaves_21  hC k9 hk9 FU x1 x5 x6 x7 x8 0 H locs ls h hP hS (lv_sub hl [1, 2, 3, 4, 5, 6, 7, 0] rfl)

set_option maxHeartbeats 4000000 in
set_option maxRecDepth 20000 in
theorem wJourney_leaves_9 {p : Program} {l : Launch} {e : Env} {s : State} {m : MethodId} {args : Array Value} {below : List Frame} {meth : Method} {c : Code} {x : Wx} {al : Nat → Nat → Nat} {lv : Nat → Bool} {res : Int32} {σ : Sg} (hC : Cx x p s m args meth c cX5_leaves 12 (some .int) RX5) (n : Nat) (x1 : Int32) (x5 : Int32) (x6 : Int32) (x7 : Int32) (x8 : Int32) (H : Heap) (locs : List Loc) (ls : Array Slot) (h : fJourney_leaves_9 n σ x1 x5 x6 x7 x8 = some res) (hP : Pic x al lv σ H) (hS : va_S (Ab x) s.heap H locs) (hl : lv_has ls 12 [(0, .ref (al 6 3)), (1, .int x1), (4, .ref (al 6 1)), (5, .int x5), (6, .int x6), (7, .int x7), (8, .int x8)]) : W p l e (rmm 3 0 0) s m args below meth c H locs 0 0 (MQ below (QP x al lv σ res) args s 0 0 (Ab x)) (F0 m 9 ls []) := by
  induction n generalizing x1 x5 x6 x7 x8 H locs ls with
  | zero => exact nomatch h
  | succ n ih => exact wJourney_leaves_9_b  hC  _ (fun x1 x5 x6 x7 x8 H locs ls h hP hS hl => ih x1 x5 x6 x7 x8 H locs ls h hP hS hl) x1 x5 x6 x7 x8 H locs ls h hP hS hl
set_option maxHeartbeats 4000000 in
set_option maxRecDepth 20000 in
theorem wJourney_leaves_0 {p : Program} {l : Launch} {e : Env} {s : State} {m : MethodId} {args : Array Value} {below : List Frame} {meth : Method} {c : Code} {x : Wx} {al : Nat → Nat → Nat} {lv : Nat → Bool} {res : Int32} {σ : Sg} (hC : Cx x p s m args meth c cX5_leaves 12 (some .int) RX5) (v1 : Int32) (v2 : Int32) (v3 : Int32) (v5 : Int32) (H : Heap) (locs : List Loc) (ls : Array Slot) (h : fJourney_leaves_0 σ v1 v2 v3 v5 = some res) (hP : Pic x al lv σ H) (hS : va_S (Ab x) s.heap H locs) (hl : lv_has ls 12 [(0, .ref (al 6 3)), (1, .int v1), (2, .int v2), (3, .int v3), (4, .ref (al 6 1)), (5, .int v5)]) : W p l e (rmm 3 0 0) s m args below meth c H locs 0 0 (MQ below (QP x al lv σ res) args s 0 0 (Ab x)) (F0 m 0 ls []) := by
  obtain ⟨hx, hb, hml, hown, hts⟩ := hC.1
  unfold fJourney_leaves_0 at h
  refine lv_iload_n hx hb dX5_leaves_0 rfl (lv_at hl 2 rfl) ?_
  refine lv_istore (lv' := [(6, .int v2), (0, .ref (al 6 3)), (1, .int v1), (2, .int v2), (3, .int v3), (4, .ref (al 6 1)), (5, .int v5)]) hx hb dX5_leaves_1 hl (by decide) rfl (fun ls hl => ?_)
  refine lv_iload_n hx hb dX5_leaves_3 rfl (lv_at hl 4 rfl) ?_
  refine lv_istore (lv' := [(7, .int v3), (6, .int v2), (0, .ref (al 6 3)), (1, .int v1), (2, .int v2), (3, .int v3), (4, .ref (al 6 1)), (5, .int v5)]) hx hb dX5_leaves_4 hl (by decide) rfl (fun ls hl => ?_)
  refine lv_iconst (v := 0) hx hb dX5_leaves_6 (by decide) ?_
  refine lv_istore (lv' := [(8, .int 0), (7, .int v3), (6, .int v2), (0, .ref (al 6 3)), (1, .int v1), (2, .int v2), (3, .int v3), (4, .ref (al 6 1)), (5, .int v5)]) hx hb dX5_leaves_7 hl (by decide) rfl (fun ls hl => ?_)
  exact wJourney_leaves_9  hC  FU v1 v5 v2 v3 0 H locs ls h hP hS (lv_sub hl [3, 4, 7, 8, 2, 1, 0] rfl)

set_option maxRecDepth 20000 in
theorem tJourney_leaves {l : Launch} (x : Wx) (al : Nat → Nat → Nat) (lv : Nat → Bool) (σ : Sg) (v1 : Int32) (v2 : Int32) (v3 : Int32) (v5 : Int32) (res : Int32) (h : fJourney_leaves σ v1 v2 v3 v5 = some res) : Met l yX5_leaves (Cond.code yX5_leaves cX5_leaves 12 (some .int) :: lwg) (rmm 3 0 0) (va_Pc [.ref (al 6 3), .int v1, .int v2, .int v3, .ref (al 6 1), .int v5] (Wd x al lv σ)) (QP x al lv σ res) 0 0 (Ab x) := by
  refine met_W (by decide) (Nat.le_of_ble_eq_true rfl) rfl (fun p e s m args below meth c ls hC hP hS hl => ?_)
  exact wJourney_leaves_0  hC v1 v2 v3 v5 _ _ ls h hP hS hl
set_option maxHeartbeats 4000000 in
set_option maxRecDepth 20000 in
theorem wRooms_has_0 {p : Program} {l : Launch} {e : Env} {s : State} {m : MethodId} {args : Array Value} {below : List Frame} {meth : Method} {c : Code} {x : Wx} {al : Nat → Nat → Nat} {lv : Nat → Bool} {res : Int32} {σ : Sg} {a : Nat} (hia : a < 6) (hla : lv a = true) (hC : Cx x p s m args meth c cX8_has 2 (some .boolean) RX8) (v1 : Int32) (H : Heap) (locs : List Loc) (ls : Array Slot) (h : fRooms_has_0 σ a v1 = some res) (hP : Pic x al lv σ H) (hS : va_S (Ab x) s.heap H locs) (hl : lv_has ls 2 [(0, .ref (al a 1)), (1, .int v1)]) : W p l e (rmm 1 0 0) s m args below meth c H locs 0 0 (MQ below (QP x al lv σ res) args s 0 0 (Ab x)) (F0 m 0 ls []) := by
  obtain ⟨hx, hb, hml, hown, hts⟩ := hC.1
  unfold fRooms_has_0 at h
  refine lv_iload_n hx hb dX8_has_0 rfl (lv_at hl 1 rfl) ?_
  refine lv_if_lt (tgt := 16) hx hb dX8_has_1 (by decide) (fun hc => ?_) (fun hc => ?_)
  · replace h := (br h).1 hc
    refine lv_iconst (v := 0) hx hb dX8_has_16 (by decide) ?_
    exact r_retP hC hP hS rfl h dX8_has_17
  · replace h := (br h).2 hc
    refine lv_iload_n hx hb dX8_has_4 rfl (lv_at hl 1 rfl) ?_
    refine lv_aload_n hx hb dX8_has_5 rfl (lv_at hl 0 rfl) ?_
    refine gt_X8_0 (a := a) hia hla hC hP wf_X8_51 dX8_has_6 ?_
    refine lv_icmp_ge (tgt := 16) hx hb dX8_has_9 (by decide) (fun hc => ?_) (fun hc => ?_)
    · replace h := (br h).1 hc
      refine lv_iconst (v := 0) hx hb dX8_has_16 (by decide) ?_
      exact r_retP hC hP hS rfl h dX8_has_17
    · replace h := (br h).2 hc
      refine lv_iconst (v := 1) hx hb dX8_has_12 (by decide) ?_
      refine lv_goto (tgt := 17) hx hb dX8_has_13 (by decide) ?_
      exact r_retP hC hP hS rfl h dX8_has_17

set_option maxRecDepth 20000 in
theorem tRooms_has {l : Launch} (x : Wx) (al : Nat → Nat → Nat) (lv : Nat → Bool) (σ : Sg) (a : Nat) (hia : a < 6) (hla : lv a = true) (v1 : Int32) (res : Int32) (h : fRooms_has σ a v1 = some res) : Met l yX8_has (Cond.code yX8_has cX8_has 2 (some .boolean) :: lwg) (rmm 1 0 0) (va_Pc [.ref (al a 1), .int v1] (Wd x al lv σ)) (QP x al lv σ res) 0 0 (Ab x) := by
  refine met_W (by decide) (Nat.le_of_ble_eq_true rfl) rfl (fun p e s m args below meth c ls hC hP hS hl => ?_)
  exact wRooms_has_0 hia hla hC v1 _ _ ls h hP hS hl
set_option maxHeartbeats 4000000 in
set_option maxRecDepth 20000 in
theorem wMelting_warmthIn_85 {p : Program} {l : Launch} {e : Env} {s : State} {m : MethodId} {args : Array Value} {below : List Frame} {meth : Method} {c : Code} {x : Wx} {al : Nat → Nat → Nat} {lv : Nat → Bool} {res : Int32} {σ : Sg} {b : Nat} (hib : b < 6) (hlb : lv b = true) (hC : Cx x p s m args meth c cX6_warmthIn 7 (some .int) RX6) (x3 : Int32) (x4 : Int32) (x5 : Int32) (H : Heap) (locs : List Loc) (ls : Array Slot) (h : fMelting_warmthIn_85 σ b x3 x4 x5 = some res) (hP : Pic x al lv σ H) (hS : va_S (Ab x) s.heap H locs) (hl : lv_has ls 7 [(1, .ref (al b 0)), (3, .int x3), (4, .int x4), (5, .int x5)]) : W p l e (rmm 2 0 0) s m args below meth c H locs 0 0 (MQ below (QP x al lv σ res) args s 0 0 (Ab x)) (F0 m 85 ls []) := by
  obtain ⟨hx, hb, hml, hown, hts⟩ := hC.1
  unfold fMelting_warmthIn_85 at h
  refine lv_aload_n hx hb dX6_warmthIn_85 rfl (lv_at hl 0 rfl) ?_
  refine gt_X10_5 (a := b) hib hlb hC hP wf_X6_35 dX6_warmthIn_86 ?_
  refine gt_X8_1 (a := b) hib hlb hC hP wf_X6_46 dX6_warmthIn_89 ?_
  refine lv_iload hx hb dX6_warmthIn_92 (lv_at hl 3 rfl) ?_
  refine r_iald hC hP (aS_2 (a := b) hib hlb) h dX6_warmthIn_94 (fun h => ?_)
  refine lv_iload_n hx hb dX6_warmthIn_95 rfl (lv_at hl 1 rfl) ?_
  refine r_cP hS h (fun r hr => r_runS (As := [.int (σ b 2 x5.toNatClampNeg), .int x3]) (rest := []) hC kS_X6_56 cw_X6_withoutSalt hP (tMelting_withoutSalt x al lv σ (σ b 2 x5.toNatClampNeg) x3 r hr) rfl hl.1 ⟨Nat.le_of_ble_eq_true rfl, Nat.le_of_ble_eq_true rfl⟩ ⟨Nat.le_of_ble_eq_true rfl, Nat.le_of_ble_eq_true rfl⟩ (Nat.le_of_ble_eq_true rfl) dX6_warmthIn_96) (fun y6 H locs h hP hS => ?_)
  refine lv_iconst (v := 2) hx hb dX6_warmthIn_99 (by decide) ?_
  refine lv_iload hx hb dX6_warmthIn_100 (lv_at hl 2 rfl) ?_
  refine lv_imul hx hb dX6_warmthIn_102 ?_
  refine lv_isub hx hb dX6_warmthIn_103 ?_
  exact r_retP hC hP hS rfl h dX6_warmthIn_104

set_option maxHeartbeats 4000000 in
set_option maxRecDepth 20000 in
theorem wMelting_warmthIn_17_b {p : Program} {l : Launch} {e : Env} {s : State} {m : MethodId} {args : Array Value} {below : List Frame} {meth : Method} {c : Code} {x : Wx} {al : Nat → Nat → Nat} {lv : Nat → Bool} {res : Int32} {σ : Sg} {b : Nat} (hib : b < 6) (hlb : lv b = true) (hC : Cx x p s m args meth c cX6_warmthIn 7 (some .int) RX6) (k17 : Int32 → Int32 → Int32 → Int32 → Option (Int32)) (hk17 : ∀ (x3 : Int32) (x4 : Int32) (x5 : Int32) (x6 : Int32) (H : Heap) (locs : List Loc) (ls : Array Slot), k17 x3 x4 x5 x6 = some res → Pic x al lv σ H → va_S (Ab x) s.heap H locs → lv_has ls 7 [(1, .ref (al b 0)), (3, .int x3), (4, .int x4), (5, .int x5), (6, .int x6)] → W p l e (rmm 2 0 0) s m args below meth c H locs 0 0 (MQ below (QP x al lv σ res) args s 0 0 (Ab x)) (F0 m 17 ls [])) (x3 : Int32) (x4 : Int32) (x5 : Int32) (x6 : Int32) (H : Heap) (locs : List Loc) (ls : Array Slot) (h : fMelting_warmthIn_17_b k17 σ b x3 x4 x5 x6 = some res) (hP : Pic x al lv σ H) (hS : va_S (Ab x) s.heap H locs) (hl : lv_has ls 7 [(1, .ref (al b 0)), (3, .int x3), (4, .int x4), (5, .int x5), (6, .int x6)]) : W p l e (rmm 2 0 0) s m args below meth c H locs 0 0 (MQ below (QP x al lv σ res) args s 0 0 (Ab x)) (F0 m 17 ls []) := by
  obtain ⟨hx, hb, hml, hown, hts⟩ := hC.1
  unfold fMelting_warmthIn_17_b at h
  refine lv_iload hx hb dX6_warmthIn_17 (lv_at hl 4 rfl) ?_
  refine lv_bipush (v := 8) hx hb dX6_warmthIn_19 (by decide) ?_
  refine lv_icmp_ge (tgt := 85) hx hb dX6_warmthIn_21 (by decide) (fun hc => ?_) (fun hc => ?_)
  · replace h := (br h).1 hc
    exact wMelting_warmthIn_85 hib hlb hC  x3 x4 x5 H locs ls h hP hS (lv_sub hl [0, 1, 2, 3] rfl)
  · replace h := (br h).2 hc
    refine lv_aload_n hx hb dX6_warmthIn_24 rfl (lv_at hl 0 rfl) ?_
    refine gt_X10_5 (a := b) hib hlb hC hP wf_X6_35 dX6_warmthIn_25 ?_
    refine gt_X8_1 (a := b) hib hlb hC hP wf_X6_46 dX6_warmthIn_28 ?_
    refine lv_iload hx hb dX6_warmthIn_31 (lv_at hl 3 rfl) ?_
    refine r_iald hC hP (aS_2 (a := b) hib hlb) h dX6_warmthIn_33 (fun h => ?_)
    refine lv_iconst (v := 2) hx hb dX6_warmthIn_34 (by decide) ?_
    refine lv_icmp_ne (tgt := 85) hx hb dX6_warmthIn_35 (by decide) (fun hc => ?_) (fun hc => ?_)
    · replace h := (br h).2 hc
      exact wMelting_warmthIn_85 hib hlb hC  x3 x4 x5 H locs ls h hP hS (lv_sub hl [0, 1, 2, 3] rfl)
    · replace h := (br h).1 hc
      refine lv_aload_n hx hb dX6_warmthIn_38 rfl (lv_at hl 0 rfl) ?_
      refine gt_X10_5 (a := b) hib hlb hC hP wf_X6_35 dX6_warmthIn_39 ?_
      refine gt_X8_5 (a := b) hib hlb hC hP wf_X6_49 dX6_warmthIn_42 ?_
      refine lv_iload hx hb dX6_warmthIn_45 (lv_at hl 3 rfl) ?_
      refine r_iald hC hP (aS_6 (a := b) hib hlb) h dX6_warmthIn_47 (fun h => ?_)
      refine r_lt h (fun y2 h => ?_)
      refine lv_istore (lv' := [(5, .int y2), (1, .ref (al b 0)), (3, .int x3), (4, .int x4), (6, .int x6)]) hx hb dX6_warmthIn_48 hl (by decide) rfl (fun ls hl => ?_)
      refine lv_aload_n hx hb dX6_warmthIn_50 rfl (lv_at hl 1 rfl) ?_
      refine gt_X10_5 (a := b) hib hlb hC hP wf_X6_35 dX6_warmthIn_51 ?_
      refine lv_iload hx hb dX6_warmthIn_54 (lv_at hl 0 rfl) ?_
      refine r_cP hS h (fun r hr => r_runV (As := [.int y2]) (rest := []) hC kV_X6_52 cw_X8_has (rc_X8 (a := b) hib hlb hC hP) hP (tRooms_has x al lv σ b hib hlb y2 r hr) rfl hl.1 ⟨Nat.le_of_ble_eq_true rfl, Nat.le_of_ble_eq_true rfl⟩ ⟨Nat.le_of_ble_eq_true rfl, Nat.le_of_ble_eq_true rfl⟩ (Nat.le_of_ble_eq_true rfl) dX6_warmthIn_56) (fun y3 H locs h hP hS => ?_)
      refine lv_if_ne (tgt := 64) hx hb dX6_warmthIn_59 (by decide) (fun hc => ?_) (fun hc => ?_)
      · replace h := (br h).2 hc
        refine lv_iload hx hb dX6_warmthIn_64 (lv_at hl 3 rfl) ?_
        refine lv_aload_n hx hb dX6_warmthIn_66 rfl (lv_at hl 1 rfl) ?_
        refine gt_X10_5 (a := b) hib hlb hC hP wf_X6_35 dX6_warmthIn_67 ?_
        refine gt_X8_10 (a := b) hib hlb hC hP wf_X6_41 dX6_warmthIn_70 ?_
        refine lv_iload hx hb dX6_warmthIn_73 (lv_at hl 0 rfl) ?_
        refine r_iald hC hP (aS_11 (a := b) hib hlb) h dX6_warmthIn_75 (fun h => ?_)
        refine lv_iadd hx hb dX6_warmthIn_76 ?_
        refine r_lt h (fun y4 h => ?_)
        refine lv_istore (lv' := [(4, .int y4), (5, .int y2), (1, .ref (al b 0)), (3, .int x3), (6, .int x6)]) hx hb dX6_warmthIn_77 hl (by decide) rfl (fun ls hl => ?_)
        refine r_iinc (v := 1) hC h dX6_warmthIn_79 hl (k := 4) rfl rfl (by decide) (fun y5 => [(6, .int y5), (4, .int y4), (5, .int y2), (1, .ref (al b 0)), (3, .int x3)]) (fun _ => rfl) (fun y5 ls h hl => ?_)
        refine lv_goto (tgt := 17) hx hb dX6_warmthIn_82 (by decide) ?_
        exact hk17 x3 y4 y2 y5 H locs ls h hP hS (lv_sub hl [3, 4, 1, 2, 0] rfl)
      · replace h := (br h).1 hc
        refine lv_iconst (v := 0) hx hb dX6_warmthIn_62 (by decide) ?_
        exact r_retP hC hP hS rfl h dX6_warmthIn_63

set_option maxHeartbeats 4000000 in
set_option maxRecDepth 20000 in
theorem wMelting_warmthIn_17 {p : Program} {l : Launch} {e : Env} {s : State} {m : MethodId} {args : Array Value} {below : List Frame} {meth : Method} {c : Code} {x : Wx} {al : Nat → Nat → Nat} {lv : Nat → Bool} {res : Int32} {σ : Sg} {b : Nat} (hib : b < 6) (hlb : lv b = true) (hC : Cx x p s m args meth c cX6_warmthIn 7 (some .int) RX6) (n : Nat) (x3 : Int32) (x4 : Int32) (x5 : Int32) (x6 : Int32) (H : Heap) (locs : List Loc) (ls : Array Slot) (h : fMelting_warmthIn_17 n σ b x3 x4 x5 x6 = some res) (hP : Pic x al lv σ H) (hS : va_S (Ab x) s.heap H locs) (hl : lv_has ls 7 [(1, .ref (al b 0)), (3, .int x3), (4, .int x4), (5, .int x5), (6, .int x6)]) : W p l e (rmm 2 0 0) s m args below meth c H locs 0 0 (MQ below (QP x al lv σ res) args s 0 0 (Ab x)) (F0 m 17 ls []) := by
  induction n generalizing x3 x4 x5 x6 H locs ls with
  | zero => exact nomatch h
  | succ n ih => exact wMelting_warmthIn_17_b hib hlb hC  _ (fun x3 x4 x5 x6 H locs ls h hP hS hl => ih x3 x4 x5 x6 H locs ls h hP hS hl) x3 x4 x5 x6 H locs ls h hP hS hl
set_option maxHeartbeats 4000000 in
set_option maxRecDepth 20000 in
theorem wMelting_warmthIn_0 {p : Program} {l : Launch} {e : Env} {s : State} {m : MethodId} {args : Array Value} {below : List Frame} {meth : Method} {c : Code} {x : Wx} {al : Nat → Nat → Nat} {lv : Nat → Bool} {res : Int32} {σ : Sg} {b : Nat} (hib : b < 6) (hlb : lv b = true) (hC : Cx x p s m args meth c cX6_warmthIn 7 (some .int) RX6) (v2 : Int32) (v3 : Int32) (H : Heap) (locs : List Loc) (ls : Array Slot) (h : fMelting_warmthIn_0 σ b v2 v3 = some res) (hP : Pic x al lv σ H) (hS : va_S (Ab x) s.heap H locs) (hl : lv_has ls 7 [(0, .ref (al 6 2)), (1, .ref (al b 0)), (2, .int v2), (3, .int v3)]) : W p l e (rmm 2 0 0) s m args below meth c H locs 0 0 (MQ below (QP x al lv σ res) args s 0 0 (Ab x)) (F0 m 0 ls []) := by
  obtain ⟨hx, hb, hml, hown, hts⟩ := hC.1
  unfold fMelting_warmthIn_0 at h
  refine lv_aload_n hx hb dX6_warmthIn_0 rfl (lv_at hl 1 rfl) ?_
  refine gt_X10_5 (a := b) hib hlb hC hP wf_X6_35 dX6_warmthIn_1 ?_
  refine gt_X8_10 (a := b) hib hlb hC hP wf_X6_41 dX6_warmthIn_4 ?_
  refine lv_iload_n hx hb dX6_warmthIn_7 rfl (lv_at hl 2 rfl) ?_
  refine r_iald hC hP (aS_11 (a := b) hib hlb) h dX6_warmthIn_8 (fun h => ?_)
  refine r_lt h (fun y1 h => ?_)
  refine lv_istore (lv' := [(4, .int y1), (0, .ref (al 6 2)), (1, .ref (al b 0)), (2, .int v2), (3, .int v3)]) hx hb dX6_warmthIn_9 hl (by decide) rfl (fun ls hl => ?_)
  refine lv_iload_n hx hb dX6_warmthIn_11 rfl (lv_at hl 3 rfl) ?_
  refine lv_istore (lv' := [(5, .int v2), (4, .int y1), (0, .ref (al 6 2)), (1, .ref (al b 0)), (2, .int v2), (3, .int v3)]) hx hb dX6_warmthIn_12 hl (by decide) rfl (fun ls hl => ?_)
  refine lv_iconst (v := 0) hx hb dX6_warmthIn_14 (by decide) ?_
  refine lv_istore (lv' := [(6, .int 0), (5, .int v2), (4, .int y1), (0, .ref (al 6 2)), (1, .ref (al b 0)), (2, .int v2), (3, .int v3)]) hx hb dX6_warmthIn_15 hl (by decide) rfl (fun ls hl => ?_)
  exact wMelting_warmthIn_17 hib hlb hC  FU v3 y1 v2 0 H locs ls h hP hS (lv_sub hl [4, 6, 2, 1, 0] rfl)

set_option maxRecDepth 20000 in
theorem tMelting_warmthIn {l : Launch} (x : Wx) (al : Nat → Nat → Nat) (lv : Nat → Bool) (σ : Sg) (b : Nat) (hib : b < 6) (hlb : lv b = true) (v2 : Int32) (v3 : Int32) (res : Int32) (h : fMelting_warmthIn σ b v2 v3 = some res) : Met l yX6_warmthIn (Cond.code yX6_warmthIn cX6_warmthIn 7 (some .int) :: lwg) (rmm 2 0 0) (va_Pc [.ref (al 6 2), .ref (al b 0), .int v2, .int v3] (Wd x al lv σ)) (QP x al lv σ res) 0 0 (Ab x) := by
  refine met_W (by decide) (Nat.le_of_ble_eq_true rfl) rfl (fun p e s m args below meth c ls hC hP hS hl => ?_)
  exact wMelting_warmthIn_0 hib hlb hC v2 v3 _ _ ls h hP hS hl
set_option maxHeartbeats 4000000 in
set_option maxRecDepth 20000 in
theorem wRooms_hasDrainOnFloor_0 {p : Program} {l : Launch} {e : Env} {s : State} {m : MethodId} {args : Array Value} {below : List Frame} {meth : Method} {c : Code} {x : Wx} {al : Nat → Nat → Nat} {lv : Nat → Bool} {res : Int32} {σ : Sg} {a : Nat} (hia : a < 6) (hla : lv a = true) (hC : Cx x p s m args meth c cX8_hasDrainOnFloor 2 (some .boolean) RX8) (v1 : Int32) (H : Heap) (locs : List Loc) (ls : Array Slot) (h : fRooms_hasDrainOnFloor_0 σ a v1 = some res) (hP : Pic x al lv σ H) (hS : va_S (Ab x) s.heap H locs) (hl : lv_has ls 2 [(0, .ref (al a 1)), (1, .int v1)]) : W p l e (rmm 1 0 0) s m args below meth c H locs 0 0 (MQ below (QP x al lv σ res) args s 0 0 (Ab x)) (F0 m 0 ls []) := by
  obtain ⟨hx, hb, hml, hown, hts⟩ := hC.1
  unfold fRooms_hasDrainOnFloor_0 at h
  refine lv_aload_n hx hb dX8_hasDrainOnFloor_0 rfl (lv_at hl 0 rfl) ?_
  refine gt_X8_11 (a := a) hia hla hC hP wf_X8_42 dX8_hasDrainOnFloor_1 ?_
  refine lv_iload_n hx hb dX8_hasDrainOnFloor_4 rfl (lv_at hl 1 rfl) ?_
  refine r_iald hC hP (aS_12 (a := a) hia hla) h dX8_hasDrainOnFloor_5 (fun h => ?_)
  refine lv_if_le (tgt := 13) hx hb dX8_hasDrainOnFloor_6 (by decide) (fun hc => ?_) (fun hc => ?_)
  · replace h := (br h).1 hc
    refine lv_iconst (v := 0) hx hb dX8_hasDrainOnFloor_13 (by decide) ?_
    exact r_retP hC hP hS rfl h dX8_hasDrainOnFloor_14
  · replace h := (br h).2 hc
    refine lv_iconst (v := 1) hx hb dX8_hasDrainOnFloor_9 (by decide) ?_
    refine lv_goto (tgt := 14) hx hb dX8_hasDrainOnFloor_10 (by decide) ?_
    exact r_retP hC hP hS rfl h dX8_hasDrainOnFloor_14

set_option maxRecDepth 20000 in
theorem tRooms_hasDrainOnFloor {l : Launch} (x : Wx) (al : Nat → Nat → Nat) (lv : Nat → Bool) (σ : Sg) (a : Nat) (hia : a < 6) (hla : lv a = true) (v1 : Int32) (res : Int32) (h : fRooms_hasDrainOnFloor σ a v1 = some res) : Met l yX8_hasDrainOnFloor (Cond.code yX8_hasDrainOnFloor cX8_hasDrainOnFloor 2 (some .boolean) :: lwg) (rmm 1 0 0) (va_Pc [.ref (al a 1), .int v1] (Wd x al lv σ)) (QP x al lv σ res) 0 0 (Ab x) := by
  refine met_W (by decide) (Nat.le_of_ble_eq_true rfl) rfl (fun p e s m args below meth c ls hC hP hS hl => ?_)
  exact wRooms_hasDrainOnFloor_0 hia hla hC v1 _ _ ls h hP hS hl
set_option maxHeartbeats 4000000 in
set_option maxRecDepth 20000 in
theorem wRooms_isOnFloor_0 {p : Program} {l : Launch} {e : Env} {s : State} {m : MethodId} {args : Array Value} {below : List Frame} {meth : Method} {c : Code} {x : Wx} {al : Nat → Nat → Nat} {lv : Nat → Bool} {res : Int32} {σ : Sg} {a : Nat} (hia : a < 6) (hla : lv a = true) (hC : Cx x p s m args meth c cX8_isOnFloor 3 (some .boolean) RX8) (v1 : Int32) (v2 : Int32) (H : Heap) (locs : List Loc) (ls : Array Slot) (h : fRooms_isOnFloor_0 σ a v1 v2 = some res) (hP : Pic x al lv σ H) (hS : va_S (Ab x) s.heap H locs) (hl : lv_has ls 3 [(0, .ref (al a 1)), (1, .int v1), (2, .int v2)]) : W p l e (rmm 1 0 0) s m args below meth c H locs 0 0 (MQ below (QP x al lv σ res) args s 0 0 (Ab x)) (F0 m 0 ls []) := by
  obtain ⟨hx, hb, hml, hown, hts⟩ := hC.1
  unfold fRooms_isOnFloor_0 at h
  refine lv_iload_n hx hb dX8_isOnFloor_0 rfl (lv_at hl 2 rfl) ?_
  refine lv_aload_n hx hb dX8_isOnFloor_1 rfl (lv_at hl 0 rfl) ?_
  refine gt_X8_6 (a := a) hia hla hC hP wf_X8_27 dX8_isOnFloor_2 ?_
  refine lv_iload_n hx hb dX8_isOnFloor_5 rfl (lv_at hl 1 rfl) ?_
  refine r_iald hC hP (aS_7 (a := a) hia hla) h dX8_isOnFloor_6 (fun h => ?_)
  refine lv_icmp_ge (tgt := 14) hx hb dX8_isOnFloor_7 (by decide) (fun hc => ?_) (fun hc => ?_)
  · replace h := (br h).1 hc
    refine lv_iconst (v := 0) hx hb dX8_isOnFloor_14 (by decide) ?_
    exact r_retP hC hP hS rfl h dX8_isOnFloor_15
  · replace h := (br h).2 hc
    refine lv_iconst (v := 1) hx hb dX8_isOnFloor_10 (by decide) ?_
    refine lv_goto (tgt := 15) hx hb dX8_isOnFloor_11 (by decide) ?_
    exact r_retP hC hP hS rfl h dX8_isOnFloor_15

set_option maxRecDepth 20000 in
theorem tRooms_isOnFloor {l : Launch} (x : Wx) (al : Nat → Nat → Nat) (lv : Nat → Bool) (σ : Sg) (a : Nat) (hia : a < 6) (hla : lv a = true) (v1 : Int32) (v2 : Int32) (res : Int32) (h : fRooms_isOnFloor σ a v1 v2 = some res) : Met l yX8_isOnFloor (Cond.code yX8_isOnFloor cX8_isOnFloor 3 (some .boolean) :: lwg) (rmm 1 0 0) (va_Pc [.ref (al a 1), .int v1, .int v2] (Wd x al lv σ)) (QP x al lv σ res) 0 0 (Ab x) := by
  refine met_W (by decide) (Nat.le_of_ble_eq_true rfl) rfl (fun p e s m args below meth c ls hC hP hS hl => ?_)
  exact wRooms_isOnFloor_0 hia hla hC v1 v2 _ _ ls h hP hS hl
set_option maxHeartbeats 4000000 in
set_option maxRecDepth 20000 in
theorem wRooms_standsInWater_0 {p : Program} {l : Launch} {e : Env} {s : State} {m : MethodId} {args : Array Value} {below : List Frame} {meth : Method} {c : Code} {x : Wx} {al : Nat → Nat → Nat} {lv : Nat → Bool} {res : Int32} {σ : Sg} {a : Nat} (hia : a < 6) (hla : lv a = true) (hC : Cx x p s m args meth c cX8_standsInWater 3 (some .boolean) RX8) (v1 : Int32) (v2 : Int32) (H : Heap) (locs : List Loc) (ls : Array Slot) (h : fRooms_standsInWater_0 σ a v1 v2 = some res) (hP : Pic x al lv σ H) (hS : va_S (Ab x) s.heap H locs) (hl : lv_has ls 3 [(0, .ref (al a 1)), (1, .int v1), (2, .int v2)]) : W p l e (rmm 2 0 0) s m args below meth c H locs 0 0 (MQ below (QP x al lv σ res) args s 0 0 (Ab x)) (F0 m 0 ls []) := by
  obtain ⟨hx, hb, hml, hown, hts⟩ := hC.1
  unfold fRooms_standsInWater_0 at h
  refine lv_aload_n hx hb dX8_standsInWater_0 rfl (lv_at hl 0 rfl) ?_
  refine gt_X8_1 (a := a) hia hla hC hP wf_X8_9 dX8_standsInWater_1 ?_
  refine lv_iload_n hx hb dX8_standsInWater_4 rfl (lv_at hl 1 rfl) ?_
  refine r_iald hC hP (aS_2 (a := a) hia hla) h dX8_standsInWater_5 (fun h => ?_)
  refine lv_iconst (v := 5) hx hb dX8_standsInWater_6 (by decide) ?_
  refine lv_icmp_ne (tgt := 31) hx hb dX8_standsInWater_7 (by decide) (fun hc => ?_) (fun hc => ?_)
  · replace h := (br h).2 hc
    refine lv_iconst (v := 0) hx hb dX8_standsInWater_31 (by decide) ?_
    exact r_retP hC hP hS rfl h dX8_standsInWater_32
  · replace h := (br h).1 hc
    refine lv_aload_n hx hb dX8_standsInWater_10 rfl (lv_at hl 0 rfl) ?_
    refine lv_iload_n hx hb dX8_standsInWater_11 rfl (lv_at hl 1 rfl) ?_
    refine lv_iload_n hx hb dX8_standsInWater_12 rfl (lv_at hl 2 rfl) ?_
    refine r_cP hS h (fun r hr => r_runV (As := [.int v1, .int v2]) (rest := []) hC kV_X8_73 cw_X8_isOnFloor (rc_X8 (a := a) hia hla hC hP) hP (tRooms_isOnFloor x al lv σ a hia hla v1 v2 r hr) rfl hl.1 ⟨Nat.le_of_ble_eq_true rfl, Nat.le_of_ble_eq_true rfl⟩ ⟨Nat.le_of_ble_eq_true rfl, Nat.le_of_ble_eq_true rfl⟩ (Nat.le_of_ble_eq_true rfl) dX8_standsInWater_13) (fun y1 H locs h hP hS => ?_)
    refine lv_if_eq (tgt := 31) hx hb dX8_standsInWater_16 (by decide) (fun hc => ?_) (fun hc => ?_)
    · replace h := (br h).1 hc
      refine lv_iconst (v := 0) hx hb dX8_standsInWater_31 (by decide) ?_
      exact r_retP hC hP hS rfl h dX8_standsInWater_32
    · replace h := (br h).2 hc
      refine lv_aload_n hx hb dX8_standsInWater_19 rfl (lv_at hl 0 rfl) ?_
      refine lv_iload_n hx hb dX8_standsInWater_20 rfl (lv_at hl 1 rfl) ?_
      refine r_cP hS h (fun r hr => r_runV (As := [.int v1]) (rest := []) hC kV_X8_89 cw_X8_hasDrainOnFloor (rc_X8 (a := a) hia hla hC hP) hP (tRooms_hasDrainOnFloor x al lv σ a hia hla v1 r hr) rfl hl.1 ⟨Nat.le_of_ble_eq_true rfl, Nat.le_of_ble_eq_true rfl⟩ ⟨Nat.le_of_ble_eq_true rfl, Nat.le_of_ble_eq_true rfl⟩ (Nat.le_of_ble_eq_true rfl) dX8_standsInWater_21) (fun y2 H locs h hP hS => ?_)
      refine lv_if_ne (tgt := 31) hx hb dX8_standsInWater_24 (by decide) (fun hc => ?_) (fun hc => ?_)
      · replace h := (br h).2 hc
        refine lv_iconst (v := 0) hx hb dX8_standsInWater_31 (by decide) ?_
        exact r_retP hC hP hS rfl h dX8_standsInWater_32
      · replace h := (br h).1 hc
        refine lv_iconst (v := 1) hx hb dX8_standsInWater_27 (by decide) ?_
        refine lv_goto (tgt := 32) hx hb dX8_standsInWater_28 (by decide) ?_
        exact r_retP hC hP hS rfl h dX8_standsInWater_32

set_option maxRecDepth 20000 in
theorem tRooms_standsInWater {l : Launch} (x : Wx) (al : Nat → Nat → Nat) (lv : Nat → Bool) (σ : Sg) (a : Nat) (hia : a < 6) (hla : lv a = true) (v1 : Int32) (v2 : Int32) (res : Int32) (h : fRooms_standsInWater σ a v1 v2 = some res) : Met l yX8_standsInWater (Cond.code yX8_standsInWater cX8_standsInWater 3 (some .boolean) :: lwg) (rmm 2 0 0) (va_Pc [.ref (al a 1), .int v1, .int v2] (Wd x al lv σ)) (QP x al lv σ res) 0 0 (Ab x) := by
  refine met_W (by decide) (Nat.le_of_ble_eq_true rfl) rfl (fun p e s m args below meth c ls hC hP hS hl => ?_)
  exact wRooms_standsInWater_0 hia hla hC v1 v2 _ _ ls h hP hS hl
set_option maxHeartbeats 4000000 in
set_option maxRecDepth 20000 in
theorem wI_beside_0 {p : Program} {l : Launch} {e : Env} {s : State} {m : MethodId} {args : Array Value} {below : List Frame} {meth : Method} {c : Code} {x : Wx} {al : Nat → Nat → Nat} {lv : Nat → Bool} {res : Int32} {σ : Sg} (hC : Cx x p s m args meth c cX11_beside 8 (some .int) RX11) (v0 : Int32) (v1 : Int32) (v2 : Int32) (v3 : Int32) (v4 : Int32) (H : Heap) (locs : List Loc) (ls : Array Slot) (h : fI_beside_0 σ v0 v1 v2 v3 v4 = some res) (hP : Pic x al lv σ H) (hS : va_S (Ab x) s.heap H locs) (hl : lv_has ls 8 [(0, .int v0), (1, .int v1), (2, .int v2), (3, .int v3), (4, .int v4)]) : W p l e (rmm 1 0 0) s m args below meth c H locs 0 0 (MQ below (QP x al lv σ res) args s 0 0 (Ab x)) (F0 m 0 ls []) := by
  obtain ⟨hx, hb, hml, hown, hts⟩ := hC.1
  unfold fI_beside_0 at h
  refine lv_iload_n hx hb dX11_beside_0 rfl (lv_at hl 2 rfl) ?_
  refine lv_iconst (v := 1) hx hb dX11_beside_1 (by decide) ?_
  refine lv_icmp_lt (tgt := 10) hx hb dX11_beside_2 (by decide) (fun hc => ?_) (fun hc => ?_)
  · replace h := (br h).1 hc
    refine lv_iconst (v := (-1)) hx hb dX11_beside_10 (by decide) ?_
    exact r_retP hC hP hS rfl h dX11_beside_11
  · replace h := (br h).2 hc
    refine lv_iload_n hx hb dX11_beside_5 rfl (lv_at hl 3 rfl) ?_
    refine lv_iconst (v := 1) hx hb dX11_beside_6 (by decide) ?_
    refine lv_icmp_ge (tgt := 12) hx hb dX11_beside_7 (by decide) (fun hc => ?_) (fun hc => ?_)
    · replace h := (br h).1 hc
      refine lv_iload_n hx hb dX11_beside_12 rfl (lv_at hl 2 rfl) ?_
      refine lv_iload_n hx hb dX11_beside_13 rfl (lv_at hl 3 rfl) ?_
      refine lv_imul hx hb dX11_beside_14 ?_
      refine r_lt h (fun y1 h => ?_)
      refine lv_istore (lv' := [(5, .int y1), (0, .int v0), (1, .int v1), (2, .int v2), (3, .int v3), (4, .int v4)]) hx hb dX11_beside_15 hl (by decide) rfl (fun ls hl => ?_)
      refine lv_iload_n hx hb dX11_beside_17 rfl (lv_at hl 2 rfl) ?_
      refine lv_iload_n hx hb dX11_beside_18 rfl (lv_at hl 3 rfl) ?_
      obtain ⟨hz2, h⟩ := gd_e h
      refine lv_irem hx hb dX11_beside_19 (nzi_n hz2) ?_
      refine r_lt h (fun y3 h => ?_)
      refine lv_istore (lv' := [(6, .int y3), (5, .int y1), (0, .int v0), (1, .int v1), (2, .int v2), (3, .int v3), (4, .int v4)]) hx hb dX11_beside_20 hl (by decide) rfl (fun ls hl => ?_)
      refine lv_iload_n hx hb dX11_beside_22 rfl (lv_at hl 3 rfl) ?_
      refine lv_iload_n hx hb dX11_beside_23 rfl (lv_at hl 4 rfl) ?_
      obtain ⟨hz4, h⟩ := gd_e h
      refine lv_idiv hx hb dX11_beside_24 (nzi_n hz4) ?_
      refine lv_iload_n hx hb dX11_beside_25 rfl (lv_at hl 5 rfl) ?_
      obtain ⟨hz5, h⟩ := gd_e h
      refine lv_irem hx hb dX11_beside_26 (nzi_n hz5) ?_
      refine r_lt h (fun y6 h => ?_)
      refine lv_istore (lv' := [(7, .int y6), (6, .int y3), (5, .int y1), (0, .int v0), (1, .int v1), (2, .int v2), (3, .int v3), (4, .int v4)]) hx hb dX11_beside_27 hl (by decide) rfl (fun ls hl => ?_)
      refine lv_iload_n hx hb dX11_beside_29 rfl (lv_at hl 3 rfl) ?_
      refine Classical.byCases (p := v0 = 0) (fun hc => ?_) (fun n0 => ?_)
      · skip
        replace h := (br h).1 hc
        rw [hc]
        refine lv_tableIn (off := 34) (tgt := 64) hx hb dX11_beside_30 (by decide) (by decide) rfl (by decide) ?_
        refine lv_iload hx hb dX11_beside_64 (lv_at hl 1 rfl) ?_
        refine lv_if_le (tgt := 75) hx hb dX11_beside_66 (by decide) (fun hc => ?_) (fun hc => ?_)
        · replace h := (br h).1 hc
          refine lv_iconst (v := (-1)) hx hb dX11_beside_75 (by decide) ?_
          exact r_retP hC hP hS rfl h dX11_beside_76
        · replace h := (br h).2 hc
          refine lv_iload_n hx hb dX11_beside_69 rfl (lv_at hl 4 rfl) ?_
          refine lv_iconst (v := 1) hx hb dX11_beside_70 (by decide) ?_
          refine lv_isub hx hb dX11_beside_71 ?_
          refine lv_goto (tgt := 76) hx hb dX11_beside_72 (by decide) ?_
          exact r_retP hC hP hS rfl h dX11_beside_76
      · skip
        replace h := (br h).2 n0
        refine Classical.byCases (p := v0 = 1) (fun hc => ?_) (fun n1 => ?_)
        · skip
          replace h := (br h).1 hc
          rw [hc]
          refine lv_tableIn (off := 47) (tgt := 77) hx hb dX11_beside_30 (by decide) (by decide) rfl (by decide) ?_
          refine lv_iload hx hb dX11_beside_77 (lv_at hl 1 rfl) ?_
          refine lv_iload_n hx hb dX11_beside_79 rfl (lv_at hl 5 rfl) ?_
          refine lv_iconst (v := 1) hx hb dX11_beside_80 (by decide) ?_
          refine lv_isub hx hb dX11_beside_81 ?_
          refine lv_icmp_ge (tgt := 91) hx hb dX11_beside_82 (by decide) (fun hc => ?_) (fun hc => ?_)
          · replace h := (br h).1 hc
            refine lv_iconst (v := (-1)) hx hb dX11_beside_91 (by decide) ?_
            exact r_retP hC hP hS rfl h dX11_beside_92
          · replace h := (br h).2 hc
            refine lv_iload_n hx hb dX11_beside_85 rfl (lv_at hl 4 rfl) ?_
            refine lv_iconst (v := 1) hx hb dX11_beside_86 (by decide) ?_
            refine lv_iadd hx hb dX11_beside_87 ?_
            refine lv_goto (tgt := 92) hx hb dX11_beside_88 (by decide) ?_
            exact r_retP hC hP hS rfl h dX11_beside_92
        · skip
          replace h := (br h).2 n1
          refine Classical.byCases (p := v0 = 2) (fun hc => ?_) (fun n2 => ?_)
          · skip
            replace h := (br h).1 hc
            rw [hc]
            refine lv_tableIn (off := 63) (tgt := 93) hx hb dX11_beside_30 (by decide) (by decide) rfl (by decide) ?_
            refine lv_iload hx hb dX11_beside_93 (lv_at hl 0 rfl) ?_
            refine lv_if_le (tgt := 104) hx hb dX11_beside_95 (by decide) (fun hc => ?_) (fun hc => ?_)
            · replace h := (br h).1 hc
              refine lv_iconst (v := (-1)) hx hb dX11_beside_104 (by decide) ?_
              exact r_retP hC hP hS rfl h dX11_beside_105
            · replace h := (br h).2 hc
              refine lv_iload_n hx hb dX11_beside_98 rfl (lv_at hl 4 rfl) ?_
              refine lv_iload_n hx hb dX11_beside_99 rfl (lv_at hl 5 rfl) ?_
              refine lv_isub hx hb dX11_beside_100 ?_
              refine lv_goto (tgt := 105) hx hb dX11_beside_101 (by decide) ?_
              exact r_retP hC hP hS rfl h dX11_beside_105
          · skip
            replace h := (br h).2 n2
            refine Classical.byCases (p := v0 = 3) (fun hc => ?_) (fun n3 => ?_)
            · skip
              replace h := (br h).1 hc
              rw [hc]
              refine lv_tableIn (off := 76) (tgt := 106) hx hb dX11_beside_30 (by decide) (by decide) rfl (by decide) ?_
              refine lv_iload hx hb dX11_beside_106 (lv_at hl 0 rfl) ?_
              refine lv_iload_n hx hb dX11_beside_108 rfl (lv_at hl 6 rfl) ?_
              refine lv_iconst (v := 1) hx hb dX11_beside_109 (by decide) ?_
              refine lv_isub hx hb dX11_beside_110 ?_
              refine lv_icmp_ge (tgt := 120) hx hb dX11_beside_111 (by decide) (fun hc => ?_) (fun hc => ?_)
              · replace h := (br h).1 hc
                refine lv_iconst (v := (-1)) hx hb dX11_beside_120 (by decide) ?_
                exact r_retP hC hP hS rfl h dX11_beside_121
              · replace h := (br h).2 hc
                refine lv_iload_n hx hb dX11_beside_114 rfl (lv_at hl 4 rfl) ?_
                refine lv_iload_n hx hb dX11_beside_115 rfl (lv_at hl 5 rfl) ?_
                refine lv_iadd hx hb dX11_beside_116 ?_
                refine lv_goto (tgt := 121) hx hb dX11_beside_117 (by decide) ?_
                exact r_retP hC hP hS rfl h dX11_beside_121
            · skip
              replace h := (br h).2 n3
              refine Classical.byCases (p := v0 = 4) (fun hc => ?_) (fun n4 => ?_)
              · skip
                replace h := (br h).1 hc
                rw [hc]
                refine lv_tableIn (off := 92) (tgt := 122) hx hb dX11_beside_30 (by decide) (by decide) rfl (by decide) ?_
                refine lv_iload_n hx hb dX11_beside_122 rfl (lv_at hl 4 rfl) ?_
                refine lv_iload hx hb dX11_beside_123 (lv_at hl 2 rfl) ?_
                refine lv_icmp_lt (tgt := 135) hx hb dX11_beside_125 (by decide) (fun hc => ?_) (fun hc => ?_)
                · replace h := (br h).1 hc
                  refine lv_iconst (v := (-1)) hx hb dX11_beside_135 (by decide) ?_
                  exact r_retP hC hP hS rfl h dX11_beside_136
                · replace h := (br h).2 hc
                  refine lv_iload_n hx hb dX11_beside_128 rfl (lv_at hl 4 rfl) ?_
                  refine lv_iload hx hb dX11_beside_129 (lv_at hl 2 rfl) ?_
                  refine lv_isub hx hb dX11_beside_131 ?_
                  refine lv_goto (tgt := 136) hx hb dX11_beside_132 (by decide) ?_
                  exact r_retP hC hP hS rfl h dX11_beside_136
              · skip
                replace h := (br h).2 n4
                have m0 := lv_neT (a := 0) n0 rfl
                have m1 := lv_neT (a := 1) n1 rfl
                have m2 := lv_neT (a := 2) n2 rfl
                have m3 := lv_neT (a := 3) n3 rfl
                have m4 := lv_neT (a := 4) n4 rfl
                refine lv_tableOut (tgt := 137) hx hb dX11_beside_30 (by omega) (by decide) ?_
                refine lv_iload_n hx hb dX11_beside_137 rfl (lv_at hl 4 rfl) ?_
                refine lv_iload hx hb dX11_beside_138 (lv_at hl 2 rfl) ?_
                refine lv_iadd hx hb dX11_beside_140 ?_
                refine lv_iload hx hb dX11_beside_141 (lv_at hl 2 rfl) ?_
                refine lv_iload hx hb dX11_beside_143 (lv_at hl 7 rfl) ?_
                refine lv_imul hx hb dX11_beside_145 ?_
                refine lv_icmp_ge (tgt := 156) hx hb dX11_beside_146 (by decide) (fun hc => ?_) (fun hc => ?_)
                · replace h := (br h).1 hc
                  refine lv_iconst (v := (-1)) hx hb dX11_beside_156 (by decide) ?_
                  exact r_retP hC hP hS rfl h dX11_beside_157
                · replace h := (br h).2 hc
                  refine lv_iload_n hx hb dX11_beside_149 rfl (lv_at hl 4 rfl) ?_
                  refine lv_iload hx hb dX11_beside_150 (lv_at hl 2 rfl) ?_
                  refine lv_iadd hx hb dX11_beside_152 ?_
                  refine lv_goto (tgt := 157) hx hb dX11_beside_153 (by decide) ?_
                  exact r_retP hC hP hS rfl h dX11_beside_157
    · replace h := (br h).2 hc
      refine lv_iconst (v := (-1)) hx hb dX11_beside_10 (by decide) ?_
      exact r_retP hC hP hS rfl h dX11_beside_11

set_option maxRecDepth 20000 in
theorem tI_beside {l : Launch} (x : Wx) (al : Nat → Nat → Nat) (lv : Nat → Bool) (σ : Sg) (v0 : Int32) (v1 : Int32) (v2 : Int32) (v3 : Int32) (v4 : Int32) (res : Int32) (h : fI_beside σ v0 v1 v2 v3 v4 = some res) : Met l yX11_beside (Cond.code yX11_beside cX11_beside 8 (some .int) :: lwg) (rmm 1 0 0) (va_Pc [.int v0, .int v1, .int v2, .int v3, .int v4] (Wd x al lv σ)) (QP x al lv σ res) 0 0 (Ab x) := by
  refine met_W (by decide) (Nat.le_of_ble_eq_true rfl) rfl (fun p e s m args below meth c ls hC hP hS hl => ?_)
  exact wI_beside_0  hC v0 v1 v2 v3 v4 _ _ ls h hP hS hl
set_option maxHeartbeats 4000000 in
set_option maxRecDepth 20000 in
theorem wRooms_at_31 {p : Program} {l : Launch} {e : Env} {s : State} {m : MethodId} {args : Array Value} {below : List Frame} {meth : Method} {c : Code} {x : Wx} {al : Nat → Nat → Nat} {lv : Nat → Bool} {res : Int32} {σ : Sg} {a : Nat} (hia : a < 6) (hla : lv a = true) (hC : Cx x p s m args meth c cX8_at 4 (some .int) RX8) (x1 : Int32) (x2 : Int32) (t0 : Int32) (H : Heap) (locs : List Loc) (ls : Array Slot) (h : fRooms_at_31 σ a x1 x2 t0 = some res) (hP : Pic x al lv σ H) (hS : va_S (Ab x) s.heap H locs) (hl : lv_has ls 4 [(0, .ref (al a 1)), (1, .int x1), (2, .int x2)]) : W p l e (rmm 1 0 0) s m args below meth c H locs 0 0 (MQ below (QP x al lv σ res) args s 0 0 (Ab x)) (F0 m 31 ls [.int t0]) := by
  obtain ⟨hx, hb, hml, hown, hts⟩ := hC.1
  unfold fRooms_at_31 at h
  refine lv_istore_n (lv' := [(3, .int t0), (0, .ref (al a 1)), (1, .int x1), (2, .int x2)]) hx hb dX8_at_31 rfl hl (by decide) rfl (fun ls hl => ?_)
  refine lv_iload_n hx hb dX8_at_32 rfl (lv_at hl 0 rfl) ?_
  refine lv_if_eq (tgt := 51) hx hb dX8_at_33 (by decide) (fun hc => ?_) (fun hc => ?_)
  · replace h := (br h).1 hc
    refine lv_iconst (v := 0) hx hb dX8_at_51 (by decide) ?_
    exact r_retP hC hP hS rfl h dX8_at_52
  · replace h := (br h).2 hc
    refine lv_aload_n hx hb dX8_at_36 rfl (lv_at hl 1 rfl) ?_
    refine gt_X8_13 (a := a) hia hla hC hP wf_X8_48 dX8_at_37 ?_
    refine lv_iload_n hx hb dX8_at_40 rfl (lv_at hl 2 rfl) ?_
    refine lv_sipush (v := 180) hx hb dX8_at_41 (by decide) ?_
    refine lv_imul hx hb dX8_at_44 ?_
    refine lv_iload_n hx hb dX8_at_45 rfl (lv_at hl 3 rfl) ?_
    refine lv_iadd hx hb dX8_at_46 ?_
    refine r_iald hC hP (aS_14 (a := a) hia hla) h dX8_at_47 (fun h => ?_)
    refine lv_goto (tgt := 52) hx hb dX8_at_48 (by decide) ?_
    exact r_retP hC hP hS rfl h dX8_at_52

set_option maxHeartbeats 4000000 in
set_option maxRecDepth 20000 in
theorem wRooms_at_30 {p : Program} {l : Launch} {e : Env} {s : State} {m : MethodId} {args : Array Value} {below : List Frame} {meth : Method} {c : Code} {x : Wx} {al : Nat → Nat → Nat} {lv : Nat → Bool} {res : Int32} {σ : Sg} {a : Nat} (hia : a < 6) (hla : lv a = true) (hC : Cx x p s m args meth c cX8_at 4 (some .int) RX8) (x1 : Int32) (x2 : Int32) (H : Heap) (locs : List Loc) (ls : Array Slot) (h : fRooms_at_30 σ a x1 x2 = some res) (hP : Pic x al lv σ H) (hS : va_S (Ab x) s.heap H locs) (hl : lv_has ls 4 [(0, .ref (al a 1)), (1, .int x1), (2, .int x2)]) : W p l e (rmm 1 0 0) s m args below meth c H locs 0 0 (MQ below (QP x al lv σ res) args s 0 0 (Ab x)) (F0 m 30 ls []) := by
  obtain ⟨hx, hb, hml, hown, hts⟩ := hC.1
  unfold fRooms_at_30 at h
  refine lv_iconst (v := 0) hx hb dX8_at_30 (by decide) ?_
  exact wRooms_at_31 hia hla hC  x1 x2 0 H locs ls h hP hS (lv_sub hl [0, 1, 2] rfl)

set_option maxHeartbeats 4000000 in
set_option maxRecDepth 20000 in
theorem wRooms_at_0 {p : Program} {l : Launch} {e : Env} {s : State} {m : MethodId} {args : Array Value} {below : List Frame} {meth : Method} {c : Code} {x : Wx} {al : Nat → Nat → Nat} {lv : Nat → Bool} {res : Int32} {σ : Sg} {a : Nat} (hia : a < 6) (hla : lv a = true) (hC : Cx x p s m args meth c cX8_at 4 (some .int) RX8) (v1 : Int32) (v2 : Int32) (H : Heap) (locs : List Loc) (ls : Array Slot) (h : fRooms_at_0 σ a v1 v2 = some res) (hP : Pic x al lv σ H) (hS : va_S (Ab x) s.heap H locs) (hl : lv_has ls 4 [(0, .ref (al a 1)), (1, .int v1), (2, .int v2)]) : W p l e (rmm 1 0 0) s m args below meth c H locs 0 0 (MQ below (QP x al lv σ res) args s 0 0 (Ab x)) (F0 m 0 ls []) := by
  obtain ⟨hx, hb, hml, hown, hts⟩ := hC.1
  unfold fRooms_at_0 at h
  refine lv_iload_n hx hb dX8_at_0 rfl (lv_at hl 1 rfl) ?_
  refine lv_if_lt (tgt := 30) hx hb dX8_at_1 (by decide) (fun hc => ?_) (fun hc => ?_)
  · replace h := (br h).1 hc
    exact wRooms_at_30 hia hla hC  v1 v2 H locs ls h hP hS (lv_sub hl [0, 1, 2] rfl)
  · replace h := (br h).2 hc
    refine lv_iload_n hx hb dX8_at_4 rfl (lv_at hl 1 rfl) ?_
    refine lv_aload_n hx hb dX8_at_5 rfl (lv_at hl 0 rfl) ?_
    refine gt_X8_0 (a := a) hia hla hC hP wf_X8_51 dX8_at_6 ?_
    refine lv_icmp_ge (tgt := 30) hx hb dX8_at_9 (by decide) (fun hc => ?_) (fun hc => ?_)
    · replace h := (br h).1 hc
      exact wRooms_at_30 hia hla hC  v1 v2 H locs ls h hP hS (lv_sub hl [0, 1, 2] rfl)
    · replace h := (br h).2 hc
      refine lv_iload_n hx hb dX8_at_12 rfl (lv_at hl 2 rfl) ?_
      refine lv_if_lt (tgt := 30) hx hb dX8_at_13 (by decide) (fun hc => ?_) (fun hc => ?_)
      · replace h := (br h).1 hc
        exact wRooms_at_30 hia hla hC  v1 v2 H locs ls h hP hS (lv_sub hl [0, 1, 2] rfl)
      · replace h := (br h).2 hc
        refine lv_iload_n hx hb dX8_at_16 rfl (lv_at hl 2 rfl) ?_
        refine lv_aload_n hx hb dX8_at_17 rfl (lv_at hl 0 rfl) ?_
        refine gt_X8_7 (a := a) hia hla hC hP wf_X8_30 dX8_at_18 ?_
        refine lv_iload_n hx hb dX8_at_21 rfl (lv_at hl 1 rfl) ?_
        refine r_iald hC hP (aS_8 (a := a) hia hla) h dX8_at_22 (fun h => ?_)
        refine lv_icmp_ge (tgt := 30) hx hb dX8_at_23 (by decide) (fun hc => ?_) (fun hc => ?_)
        · replace h := (br h).1 hc
          exact wRooms_at_30 hia hla hC  v1 v2 H locs ls h hP hS (lv_sub hl [0, 1, 2] rfl)
        · replace h := (br h).2 hc
          refine lv_iconst (v := 1) hx hb dX8_at_26 (by decide) ?_
          refine lv_goto (tgt := 31) hx hb dX8_at_27 (by decide) ?_
          exact wRooms_at_31 hia hla hC  v1 v2 1 H locs ls h hP hS (lv_sub hl [0, 1, 2] rfl)

set_option maxRecDepth 20000 in
theorem tRooms_at {l : Launch} (x : Wx) (al : Nat → Nat → Nat) (lv : Nat → Bool) (σ : Sg) (a : Nat) (hia : a < 6) (hla : lv a = true) (v1 : Int32) (v2 : Int32) (res : Int32) (h : fRooms_at σ a v1 v2 = some res) : Met l yX8_at (Cond.code yX8_at cX8_at 4 (some .int) :: lwg) (rmm 1 0 0) (va_Pc [.ref (al a 1), .int v1, .int v2] (Wd x al lv σ)) (QP x al lv σ res) 0 0 (Ab x) := by
  refine met_W (by decide) (Nat.le_of_ble_eq_true rfl) rfl (fun p e s m args below meth c ls hC hP hS hl => ?_)
  exact wRooms_at_0 hia hla hC v1 v2 _ _ ls h hP hS hl
set_option maxHeartbeats 4000000 in
set_option maxRecDepth 20000 in
theorem wSides_look_129 {p : Program} {l : Launch} {e : Env} {s : State} {m : MethodId} {args : Array Value} {below : List Frame} {meth : Method} {c : Code} {x : Wx} {al : Nat → Nat → Nat} {lv : Nat → Bool} {res : Sg} {b : Nat} (hib : b < 6) (hlb : lv b = true) (hC : Cx x p s m args meth c cX9_look 8 none RX9) (k24 : Sg → Int32 → Int32 → Int32 → Option (Sg)) (hk24 : ∀ (σ : Sg) (x2 : Int32) (x3 : Int32) (x5 : Int32) (H : Heap) (locs : List Loc) (ls : Array Slot), k24 σ x2 x3 x5 = some res → Pic x al lv σ H → va_S (Ab x) s.heap H locs → lv_has ls 8 [(0, .ref (al 6 11)), (1, .ref (al b 0)), (2, .int x2), (3, .int x3), (4, .ref (al b 1)), (5, .int x5)] → W p l e (rmm 2 0 0) s m args below meth c H locs 0 0 (MQ below (QV x al lv res) args s 0 0 (Ab x)) (F0 m 24 ls [])) (σ : Sg) (x2 : Int32) (x3 : Int32) (x5 : Int32) (H : Heap) (locs : List Loc) (ls : Array Slot) (h : fSides_look_129 k24 σ b x2 x3 x5 = some res) (hP : Pic x al lv σ H) (hS : va_S (Ab x) s.heap H locs) (hl : lv_has ls 8 [(0, .ref (al 6 11)), (1, .ref (al b 0)), (2, .int x2), (3, .int x3), (4, .ref (al b 1)), (5, .int x5)]) : W p l e (rmm 2 0 0) s m args below meth c H locs 0 0 (MQ below (QV x al lv res) args s 0 0 (Ab x)) (F0 m 129 ls []) := by
  obtain ⟨hx, hb, hml, hown, hts⟩ := hC.1
  unfold fSides_look_129 at h
  refine r_iinc (v := 1) hC h dX9_look_129 hl (k := 5) rfl rfl (by decide) (fun y10 => [(5, .int y10), (0, .ref (al 6 11)), (1, .ref (al b 0)), (2, .int x2), (3, .int x3), (4, .ref (al b 1))]) (fun _ => rfl) (fun y10 ls h hl => ?_)
  refine lv_goto (tgt := 24) hx hb dX9_look_132 (by decide) ?_
  exact hk24 σ x2 x3 y10 H locs ls h hP hS (lv_sub hl [1, 2, 3, 4, 5, 0] rfl)

set_option maxHeartbeats 4000000 in
set_option maxRecDepth 20000 in
theorem wSides_look_24_b {p : Program} {l : Launch} {e : Env} {s : State} {m : MethodId} {args : Array Value} {below : List Frame} {meth : Method} {c : Code} {x : Wx} {al : Nat → Nat → Nat} {lv : Nat → Bool} {res : Sg} {b : Nat} (hib : b < 6) (hlb : lv b = true) (hC : Cx x p s m args meth c cX9_look 8 none RX9) (k24 : Sg → Int32 → Int32 → Int32 → Option (Sg)) (hk24 : ∀ (σ : Sg) (x2 : Int32) (x3 : Int32) (x5 : Int32) (H : Heap) (locs : List Loc) (ls : Array Slot), k24 σ x2 x3 x5 = some res → Pic x al lv σ H → va_S (Ab x) s.heap H locs → lv_has ls 8 [(0, .ref (al 6 11)), (1, .ref (al b 0)), (2, .int x2), (3, .int x3), (4, .ref (al b 1)), (5, .int x5)] → W p l e (rmm 2 0 0) s m args below meth c H locs 0 0 (MQ below (QV x al lv res) args s 0 0 (Ab x)) (F0 m 24 ls [])) (σ : Sg) (x2 : Int32) (x3 : Int32) (x5 : Int32) (H : Heap) (locs : List Loc) (ls : Array Slot) (h : fSides_look_24_b k24 σ b x2 x3 x5 = some res) (hP : Pic x al lv σ H) (hS : va_S (Ab x) s.heap H locs) (hl : lv_has ls 8 [(0, .ref (al 6 11)), (1, .ref (al b 0)), (2, .int x2), (3, .int x3), (4, .ref (al b 1)), (5, .int x5)]) : W p l e (rmm 2 0 0) s m args below meth c H locs 0 0 (MQ below (QV x al lv res) args s 0 0 (Ab x)) (F0 m 24 ls []) := by
  obtain ⟨hx, hb, hml, hown, hts⟩ := hC.1
  unfold fSides_look_24_b at h
  refine lv_iload hx hb dX9_look_24 (lv_at hl 5 rfl) ?_
  refine lv_bipush (v := 6) hx hb dX9_look_26 (by decide) ?_
  refine lv_icmp_ge (tgt := 135) hx hb dX9_look_28 (by decide) (fun hc => ?_) (fun hc => ?_)
  · replace h := (br h).1 hc
    exact r_retV hC hP hS h dX9_look_135
  · replace h := (br h).2 hc
    refine lv_iload hx hb dX9_look_31 (lv_at hl 5 rfl) ?_
    refine lv_iload_n hx hb dX9_look_33 rfl (lv_at hl 3 rfl) ?_
    refine lv_aload hx hb dX9_look_34 (lv_at hl 4 rfl) ?_
    refine gt_X8_2 (a := b) hib hlb hC hP wf_X9_28 dX9_look_36 ?_
    refine lv_iload_n hx hb dX9_look_39 rfl (lv_at hl 2 rfl) ?_
    refine r_iald hC hP (aS_3 (a := b) hib hlb) h dX9_look_40 (fun h => ?_)
    refine lv_aload hx hb dX9_look_41 (lv_at hl 4 rfl) ?_
    refine gt_X8_3 (a := b) hib hlb hC hP wf_X9_34 dX9_look_43 ?_
    refine lv_iload_n hx hb dX9_look_46 rfl (lv_at hl 2 rfl) ?_
    refine r_iald hC hP (aS_4 (a := b) hib hlb) h dX9_look_47 (fun h => ?_)
    refine lv_aload hx hb dX9_look_48 (lv_at hl 4 rfl) ?_
    refine gt_X8_4 (a := b) hib hlb hC hP wf_X9_37 dX9_look_50 ?_
    refine lv_iload_n hx hb dX9_look_53 rfl (lv_at hl 2 rfl) ?_
    refine r_iald hC hP (aS_5 (a := b) hib hlb) h dX9_look_54 (fun h => ?_)
    refine r_cP hS h (fun r hr => r_runN (As := [.int x5, .int x3, .int (σ b 3 x2.toNatClampNeg), .int (σ b 4 x2.toNatClampNeg), .int (σ b 5 x2.toNatClampNeg)]) (rest := []) hC kN_X9_40 cw_X11_beside hP (tI_beside x al lv σ x5 x3 (σ b 3 x2.toNatClampNeg) (σ b 4 x2.toNatClampNeg) (σ b 5 x2.toNatClampNeg) r hr) rfl hl.1 ⟨Nat.le_of_ble_eq_true rfl, Nat.le_of_ble_eq_true rfl⟩ ⟨Nat.le_of_ble_eq_true rfl, Nat.le_of_ble_eq_true rfl⟩ (Nat.le_of_ble_eq_true rfl) dX9_look_55) (fun y4 H locs h hP hS => ?_)
    refine lv_istore (lv' := [(6, .int y4), (0, .ref (al 6 11)), (1, .ref (al b 0)), (2, .int x2), (3, .int x3), (4, .ref (al b 1)), (5, .int x5)]) hx hb dX9_look_58 hl (by decide) rfl (fun ls hl => ?_)
    refine lv_aload hx hb dX9_look_60 (lv_at hl 5 rfl) ?_
    refine lv_iload_n hx hb dX9_look_62 rfl (lv_at hl 3 rfl) ?_
    refine lv_iload hx hb dX9_look_63 (lv_at hl 0 rfl) ?_
    refine r_cP hS h (fun r hr => r_runV (As := [.int x2, .int y4]) (rest := []) hC kV_X9_44 cw_X8_at (rc_X8 (a := b) hib hlb hC hP) hP (tRooms_at x al lv σ b hib hlb x2 y4 r hr) rfl hl.1 ⟨Nat.le_of_ble_eq_true rfl, Nat.le_of_ble_eq_true rfl⟩ ⟨Nat.le_of_ble_eq_true rfl, Nat.le_of_ble_eq_true rfl⟩ (Nat.le_of_ble_eq_true rfl) dX9_look_65) (fun y5 H locs h hP hS => ?_)
    refine lv_istore (lv' := [(7, .int y5), (6, .int y4), (0, .ref (al 6 11)), (1, .ref (al b 0)), (2, .int x2), (3, .int x3), (4, .ref (al b 1)), (5, .int x5)]) hx hb dX9_look_68 hl (by decide) rfl (fun ls hl => ?_)
    refine lv_iload hx hb dX9_look_70 (lv_at hl 0 rfl) ?_
    refine lv_iconst (v := 1) hx hb dX9_look_72 (by decide) ?_
    refine lv_icmp_ne (tgt := 89) hx hb dX9_look_73 (by decide) (fun hc => ?_) (fun hc => ?_)
    · replace h := (br h).2 hc
      refine lv_iload hx hb dX9_look_89 (lv_at hl 0 rfl) ?_
      refine lv_bipush (v := 10) hx hb dX9_look_91 (by decide) ?_
      refine lv_icmp_ge (tgt := 109) hx hb dX9_look_93 (by decide) (fun hc => ?_) (fun hc => ?_)
      · replace h := (br h).1 hc
        refine lv_aload_n hx hb dX9_look_109 rfl (lv_at hl 3 rfl) ?_
        refine gt_X10_6 (a := b) hib hlb hC hP wf_X9_48 dX9_look_110 ?_
        refine lv_iload hx hb dX9_look_113 (lv_at hl 0 rfl) ?_
        refine lv_bipush (v := 10) hx hb dX9_look_115 (by decide) ?_
        refine lv_isub hx hb dX9_look_117 ?_
        refine r_cP hS h (fun r hr => r_runV (As := [.int (y5 - 10)]) (rest := []) hC kV_X9_52 cw_X0_isSalt (rc_X0 (a := b) hib hlb hC hP) hP (tBlocks_isSalt x al lv σ b hib hlb (y5 - 10) r hr) rfl hl.1 ⟨Nat.le_of_ble_eq_true rfl, Nat.le_of_ble_eq_true rfl⟩ ⟨Nat.le_of_ble_eq_true rfl, Nat.le_of_ble_eq_true rfl⟩ (Nat.le_of_ble_eq_true rfl) dX9_look_118) (fun y6 H locs h hP hS => ?_)
        refine lv_if_eq (tgt := 129) hx hb dX9_look_121 (by decide) (fun hc => ?_) (fun hc => ?_)
        · replace h := (br h).1 hc
          exact wSides_look_129 hib hlb hC k24 hk24 σ x2 x3 x5 H locs ls h hP hS (lv_sub hl [2, 3, 4, 5, 6, 7] rfl)
        · replace h := (br h).2 hc
          refine lv_aload_n hx hb dX9_look_124 rfl (lv_at hl 2 rfl) ?_
          refine lv_iconst (v := 1) hx hb dX9_look_125 (by decide) ?_
          refine pt_X9_2 hC hP hS wf_X9_18 h dX9_look_126 (fun σ7 H locs h hP hS => ?_)
          exact wSides_look_129 hib hlb hC k24 hk24 σ7 x2 x3 x5 H locs ls h hP hS (lv_sub hl [2, 3, 4, 5, 6, 7] rfl)
      · replace h := (br h).2 hc
        refine lv_aload_n hx hb dX9_look_96 rfl (lv_at hl 2 rfl) ?_
        refine lv_dup hx hb dX9_look_97 rfl ?_
        refine gt_X9_0 hC hP wf_X9_9 dX9_look_98 ?_
        refine lv_iconst (v := 1) hx hb dX9_look_101 (by decide) ?_
        refine lv_iadd hx hb dX9_look_102 ?_
        refine pt_X9_0 hC hP hS wf_X9_9 h dX9_look_103 (fun σ8 H locs h hP hS => ?_)
        refine lv_goto (tgt := 129) hx hb dX9_look_106 (by decide) ?_
        exact wSides_look_129 hib hlb hC k24 hk24 σ8 x2 x3 x5 H locs ls h hP hS (lv_sub hl [2, 3, 4, 5, 6, 7] rfl)
    · replace h := (br h).1 hc
      refine lv_aload_n hx hb dX9_look_76 rfl (lv_at hl 2 rfl) ?_
      refine lv_dup hx hb dX9_look_77 rfl ?_
      refine gt_X9_1 hC hP wf_X9_15 dX9_look_78 ?_
      refine lv_iconst (v := 1) hx hb dX9_look_81 (by decide) ?_
      refine lv_iadd hx hb dX9_look_82 ?_
      refine pt_X9_1 hC hP hS wf_X9_15 h dX9_look_83 (fun σ9 H locs h hP hS => ?_)
      refine lv_goto (tgt := 129) hx hb dX9_look_86 (by decide) ?_
      exact wSides_look_129 hib hlb hC k24 hk24 σ9 x2 x3 x5 H locs ls h hP hS (lv_sub hl [2, 3, 4, 5, 6, 7] rfl)

set_option maxHeartbeats 4000000 in
set_option maxRecDepth 20000 in
theorem wSides_look_24 {p : Program} {l : Launch} {e : Env} {s : State} {m : MethodId} {args : Array Value} {below : List Frame} {meth : Method} {c : Code} {x : Wx} {al : Nat → Nat → Nat} {lv : Nat → Bool} {res : Sg} {b : Nat} (hib : b < 6) (hlb : lv b = true) (hC : Cx x p s m args meth c cX9_look 8 none RX9) (n : Nat) (σ : Sg) (x2 : Int32) (x3 : Int32) (x5 : Int32) (H : Heap) (locs : List Loc) (ls : Array Slot) (h : fSides_look_24 n σ b x2 x3 x5 = some res) (hP : Pic x al lv σ H) (hS : va_S (Ab x) s.heap H locs) (hl : lv_has ls 8 [(0, .ref (al 6 11)), (1, .ref (al b 0)), (2, .int x2), (3, .int x3), (4, .ref (al b 1)), (5, .int x5)]) : W p l e (rmm 2 0 0) s m args below meth c H locs 0 0 (MQ below (QV x al lv res) args s 0 0 (Ab x)) (F0 m 24 ls []) := by
  induction n generalizing σ x2 x3 x5 H locs ls with
  | zero => exact nomatch h
  | succ n ih => exact wSides_look_24_b hib hlb hC  _ (fun σ x2 x3 x5 H locs ls h hP hS hl => ih σ x2 x3 x5 H locs ls h hP hS hl) σ x2 x3 x5 H locs ls h hP hS hl
set_option maxHeartbeats 4000000 in
set_option maxRecDepth 20000 in
theorem wSides_look_0 {p : Program} {l : Launch} {e : Env} {s : State} {m : MethodId} {args : Array Value} {below : List Frame} {meth : Method} {c : Code} {x : Wx} {al : Nat → Nat → Nat} {lv : Nat → Bool} {res : Sg} {b : Nat} (hib : b < 6) (hlb : lv b = true) (hC : Cx x p s m args meth c cX9_look 8 none RX9) (σ : Sg) (v2 : Int32) (v3 : Int32) (H : Heap) (locs : List Loc) (ls : Array Slot) (h : fSides_look_0 σ b v2 v3 = some res) (hP : Pic x al lv σ H) (hS : va_S (Ab x) s.heap H locs) (hl : lv_has ls 8 [(0, .ref (al 6 11)), (1, .ref (al b 0)), (2, .int v2), (3, .int v3)]) : W p l e (rmm 2 0 0) s m args below meth c H locs 0 0 (MQ below (QV x al lv res) args s 0 0 (Ab x)) (F0 m 0 ls []) := by
  obtain ⟨hx, hb, hml, hown, hts⟩ := hC.1
  unfold fSides_look_0 at h
  refine lv_aload_n hx hb dX9_look_0 rfl (lv_at hl 0 rfl) ?_
  refine lv_iconst (v := 0) hx hb dX9_look_1 (by decide) ?_
  refine pt_X9_0 hC hP hS wf_X9_9 h dX9_look_2 (fun σ1 H locs h hP hS => ?_)
  refine lv_aload_n hx hb dX9_look_5 rfl (lv_at hl 0 rfl) ?_
  refine lv_iconst (v := 0) hx hb dX9_look_6 (by decide) ?_
  refine pt_X9_1 hC hP hS wf_X9_15 h dX9_look_7 (fun σ2 H locs h hP hS => ?_)
  refine lv_aload_n hx hb dX9_look_10 rfl (lv_at hl 0 rfl) ?_
  refine lv_iconst (v := 0) hx hb dX9_look_11 (by decide) ?_
  refine pt_X9_2 hC hP hS wf_X9_18 h dX9_look_12 (fun σ3 H locs h hP hS => ?_)
  refine lv_aload_n hx hb dX9_look_15 rfl (lv_at hl 1 rfl) ?_
  refine gt_X10_5 (a := b) hib hlb hC hP wf_X9_22 dX9_look_16 ?_
  refine lv_astore (lv' := [(4, .ref (al b 1)), (0, .ref (al 6 11)), (1, .ref (al b 0)), (2, .int v2), (3, .int v3)]) hx hb dX9_look_19 hl (by decide) rfl (fun ls hl => ?_)
  refine lv_iconst (v := 0) hx hb dX9_look_21 (by decide) ?_
  refine lv_istore (lv' := [(5, .int 0), (4, .ref (al b 1)), (0, .ref (al 6 11)), (1, .ref (al b 0)), (2, .int v2), (3, .int v3)]) hx hb dX9_look_22 hl (by decide) rfl (fun ls hl => ?_)
  exact wSides_look_24 hib hlb hC  FU σ3 v2 v3 0 H locs ls h hP hS (lv_sub hl [2, 3, 4, 5, 1, 0] rfl)

set_option maxRecDepth 20000 in
theorem tSides_look {l : Launch} (x : Wx) (al : Nat → Nat → Nat) (lv : Nat → Bool) (σ : Sg) (b : Nat) (hib : b < 6) (hlb : lv b = true) (v2 : Int32) (v3 : Int32) (res : Sg) (h : fSides_look σ b v2 v3 = some res) : Met l yX9_look (Cond.code yX9_look cX9_look 8 none :: lwg) (rmm 2 0 0) (va_Pc [.ref (al 6 11), .ref (al b 0), .int v2, .int v3] (Wd x al lv σ)) (QV x al lv res) 0 0 (Ab x) := by
  refine met_W (by decide) (Nat.le_of_ble_eq_true rfl) rfl (fun p e s m args below meth c ls hC hP hS hl => ?_)
  exact wSides_look_0 hib hlb hC σ v2 v3 _ _ ls h hP hS hl
set_option maxHeartbeats 4000000 in
set_option maxRecDepth 20000 in
theorem wMelting_lossOf_112 {p : Program} {l : Launch} {e : Env} {s : State} {m : MethodId} {args : Array Value} {below : List Frame} {meth : Method} {c : Code} {x : Wx} {al : Nat → Nat → Nat} {lv : Nat → Bool} {res : Int32 × Sg} {b : Nat} (hib : b < 6) (hlb : lv b = true) (hC : Cx x p s m args meth c cX6_lossOf 8 (some .int) RX6) (σ : Sg) (x2 : Int32) (x6 : Int32) (H : Heap) (locs : List Loc) (ls : Array Slot) (h : fMelting_lossOf_112 σ b x2 x6 = some res) (hP : Pic x al lv σ H) (hS : va_S (Ab x) s.heap H locs) (hl : lv_has ls 8 [(1, .ref (al b 0)), (2, .int x2), (6, .int x6)]) : W p l e (rmm 3 0 0) s m args below meth c H locs 0 0 (MQ below (QI x al lv res) args s 0 0 (Ab x)) (F0 m 112 ls []) := by
  obtain ⟨hx, hb, hml, hown, hts⟩ := hC.1
  unfold fMelting_lossOf_112 at h
  refine lv_iload hx hb dX6_lossOf_112 (lv_at hl 2 rfl) ?_
  refine lv_aload_n hx hb dX6_lossOf_114 rfl (lv_at hl 0 rfl) ?_
  refine gt_X10_6 (a := b) hib hlb hC hP wf_X6_60 dX6_lossOf_115 ?_
  refine gt_X0_2 (a := b) hib hlb hC hP wf_X6_91 dX6_lossOf_118 ?_
  refine lv_iload_n hx hb dX6_lossOf_121 rfl (lv_at hl 1 rfl) ?_
  refine r_iald hC hP (aS_17 (a := b) hib hlb) h dX6_lossOf_122 (fun h => ?_)
  refine r_min hC hl.1 wm_X6_94 (Nat.le_of_ble_eq_true rfl) (Nat.le_of_ble_eq_true rfl) (Nat.le_of_ble_eq_true rfl) (Nat.le_of_ble_eq_true rfl) dX6_lossOf_123 ?_
  exact r_retI hC hP hS rfl h dX6_lossOf_126

set_option maxHeartbeats 4000000 in
set_option maxRecDepth 20000 in
theorem wMelting_lossOf_44 {p : Program} {l : Launch} {e : Env} {s : State} {m : MethodId} {args : Array Value} {below : List Frame} {meth : Method} {c : Code} {x : Wx} {al : Nat → Nat → Nat} {lv : Nat → Bool} {res : Int32 × Sg} {b : Nat} (hib : b < 6) (hlb : lv b = true) (hC : Cx x p s m args meth c cX6_lossOf 8 (some .int) RX6) (σ : Sg) (x2 : Int32) (x3 : Int32) (x4 : Int32) (x5 : Int32) (t0 : Int32) (H : Heap) (locs : List Loc) (ls : Array Slot) (h : fMelting_lossOf_44 σ b x2 x3 x4 x5 t0 = some res) (hP : Pic x al lv σ H) (hS : va_S (Ab x) s.heap H locs) (hl : lv_has ls 8 [(0, .ref (al 6 2)), (1, .ref (al b 0)), (2, .int x2), (3, .int x3), (4, .int x4), (5, .int x5)]) : W p l e (rmm 3 0 0) s m args below meth c H locs 0 0 (MQ below (QI x al lv res) args s 0 0 (Ab x)) (F0 m 44 ls [.int t0]) := by
  obtain ⟨hx, hb, hml, hown, hts⟩ := hC.1
  unfold fMelting_lossOf_44 at h
  refine lv_istore (lv' := [(6, .int t0), (0, .ref (al 6 2)), (1, .ref (al b 0)), (2, .int x2), (3, .int x3), (4, .int x4), (5, .int x5)]) hx hb dX6_lossOf_44 hl (by decide) rfl (fun ls hl => ?_)
  refine lv_iload_n hx hb dX6_lossOf_46 rfl (lv_at hl 4 rfl) ?_
  refine lv_if_le (tgt := 112) hx hb dX6_lossOf_47 (by decide) (fun hc => ?_) (fun hc => ?_)
  · replace h := (br h).1 hc
    exact wMelting_lossOf_112 hib hlb hC  σ x2 t0 H locs ls h hP hS (lv_sub hl [2, 3, 0] rfl)
  · replace h := (br h).2 hc
    refine lv_aload_n hx hb dX6_lossOf_50 rfl (lv_at hl 2 rfl) ?_
    refine gt_X10_6 (a := b) hib hlb hC hP wf_X6_60 dX6_lossOf_51 ?_
    refine gt_X0_1 (a := b) hib hlb hC hP wf_X6_76 dX6_lossOf_54 ?_
    refine lv_iload_n hx hb dX6_lossOf_57 rfl (lv_at hl 3 rfl) ?_
    refine r_iald hC hP (aS_16 (a := b) hib hlb) h dX6_lossOf_58 (fun h => ?_)
    refine r_cP hS h (fun r hr => r_runN (As := [.int (σ b 16 x2.toNatClampNeg)]) (rest := []) hC kN_X6_77 cw_X11_rateOf hP (tI_rateOf x al lv σ (σ b 16 x2.toNatClampNeg) r hr) rfl hl.1 ⟨Nat.le_of_ble_eq_true rfl, Nat.le_of_ble_eq_true rfl⟩ ⟨Nat.le_of_ble_eq_true rfl, Nat.le_of_ble_eq_true rfl⟩ (Nat.le_of_ble_eq_true rfl) dX6_lossOf_59) (fun y4 H locs h hP hS => ?_)
    refine lv_iload_n hx hb dX6_lossOf_62 rfl (lv_at hl 4 rfl) ?_
    refine lv_imul hx hb dX6_lossOf_63 ?_
    refine r_lt h (fun y5 h => ?_)
    refine lv_istore (lv' := [(7, .int y5), (6, .int t0), (0, .ref (al 6 2)), (1, .ref (al b 0)), (2, .int x2), (3, .int x3), (4, .int x4), (5, .int x5)]) hx hb dX6_lossOf_64 hl (by decide) rfl (fun ls hl => ?_)
    refine lv_aload_n hx hb dX6_lossOf_66 rfl (lv_at hl 2 rfl) ?_
    refine gt_X6_3 hC hP wf_X6_24 dX6_lossOf_67 ?_
    refine lv_aload_n hx hb dX6_lossOf_70 rfl (lv_at hl 3 rfl) ?_
    refine lv_iload hx hb dX6_lossOf_71 (lv_at hl 6 rfl) ?_
    refine lv_iload hx hb dX6_lossOf_73 (lv_at hl 7 rfl) ?_
    refine r_cV hS h (fun r hr => r_runV (As := [.ref (al b 0), .int x4, .int x5]) (rest := []) hC kV_X6_81 cw_X9_look (rc_X9 hC hP) hP (tSides_look x al lv σ b hib hlb x4 x5 r hr) rfl hl.1 ⟨Nat.le_of_ble_eq_true rfl, Nat.le_of_ble_eq_true rfl⟩ ⟨Nat.le_of_ble_eq_true rfl, Nat.le_of_ble_eq_true rfl⟩ (Nat.le_of_ble_eq_true rfl) dX6_lossOf_75) (fun σ6 H locs h hP hS => ?_)
    refine lv_iload hx hb dX6_lossOf_78 (lv_at hl 1 rfl) ?_
    refine lv_aload_n hx hb dX6_lossOf_80 rfl (lv_at hl 2 rfl) ?_
    refine gt_X6_3 hC hP wf_X6_24 dX6_lossOf_81 ?_
    refine gt_X9_0 hC hP wf_X6_85 dX6_lossOf_84 ?_
    refine lv_iload hx hb dX6_lossOf_87 (lv_at hl 0 rfl) ?_
    refine lv_imul hx hb dX6_lossOf_89 ?_
    refine lv_aload_n hx hb dX6_lossOf_90 rfl (lv_at hl 2 rfl) ?_
    refine gt_X6_3 hC hP wf_X6_24 dX6_lossOf_91 ?_
    refine gt_X9_1 hC hP wf_X6_88 dX6_lossOf_94 ?_
    refine lv_iload hx hb dX6_lossOf_97 (lv_at hl 0 rfl) ?_
    refine lv_aload_n hx hb dX6_lossOf_99 rfl (lv_at hl 2 rfl) ?_
    refine gt_X6_0 hC hP wf_X6_9 dX6_lossOf_100 ?_
    refine lv_imul hx hb dX6_lossOf_103 ?_
    refine lv_bipush (v := 100) hx hb dX6_lossOf_104 (by decide) ?_
    refine lv_idiv hx hb dX6_lossOf_106 (by decide) ?_
    refine lv_imul hx hb dX6_lossOf_107 ?_
    refine lv_iadd hx hb dX6_lossOf_108 ?_
    refine lv_iadd hx hb dX6_lossOf_109 ?_
    refine r_lt h (fun y7 h => ?_)
    refine lv_istore (lv' := [(6, .int y7), (7, .int y5), (0, .ref (al 6 2)), (1, .ref (al b 0)), (2, .int x2), (3, .int x3), (4, .int x4), (5, .int x5)]) hx hb dX6_lossOf_110 hl (by decide) rfl (fun ls hl => ?_)
    exact wMelting_lossOf_112 hib hlb hC  σ6 x2 y7 H locs ls h hP hS (lv_sub hl [3, 4, 0] rfl)

set_option maxHeartbeats 4000000 in
set_option maxRecDepth 20000 in
theorem wMelting_lossOf_0 {p : Program} {l : Launch} {e : Env} {s : State} {m : MethodId} {args : Array Value} {below : List Frame} {meth : Method} {c : Code} {x : Wx} {al : Nat → Nat → Nat} {lv : Nat → Bool} {res : Int32 × Sg} {b : Nat} (hib : b < 6) (hlb : lv b = true) (hC : Cx x p s m args meth c cX6_lossOf 8 (some .int) RX6) (σ : Sg) (v2 : Int32) (v3 : Int32) (H : Heap) (locs : List Loc) (ls : Array Slot) (h : fMelting_lossOf_0 σ b v2 v3 = some res) (hP : Pic x al lv σ H) (hS : va_S (Ab x) s.heap H locs) (hl : lv_has ls 8 [(0, .ref (al 6 2)), (1, .ref (al b 0)), (2, .int v2), (3, .int v3)]) : W p l e (rmm 3 0 0) s m args below meth c H locs 0 0 (MQ below (QI x al lv res) args s 0 0 (Ab x)) (F0 m 0 ls []) := by
  obtain ⟨hx, hb, hml, hown, hts⟩ := hC.1
  unfold fMelting_lossOf_0 at h
  refine lv_aload_n hx hb dX6_lossOf_0 rfl (lv_at hl 1 rfl) ?_
  refine gt_X10_6 (a := b) hib hlb hC hP wf_X6_60 dX6_lossOf_1 ?_
  refine gt_X0_3 (a := b) hib hlb hC hP wf_X6_64 dX6_lossOf_4 ?_
  refine lv_iload_n hx hb dX6_lossOf_7 rfl (lv_at hl 2 rfl) ?_
  refine r_iald hC hP (aS_18 (a := b) hib hlb) h dX6_lossOf_8 (fun h => ?_)
  refine r_lt h (fun y1 h => ?_)
  refine lv_istore (lv' := [(4, .int y1), (0, .ref (al 6 2)), (1, .ref (al b 0)), (2, .int v2), (3, .int v3)]) hx hb dX6_lossOf_9 hl (by decide) rfl (fun ls hl => ?_)
  refine lv_aload_n hx hb dX6_lossOf_11 rfl (lv_at hl 2 rfl) ?_
  refine gt_X10_6 (a := b) hib hlb hC hP wf_X6_60 dX6_lossOf_12 ?_
  refine gt_X0_4 (a := b) hib hlb hC hP wf_X6_69 dX6_lossOf_15 ?_
  refine lv_iload_n hx hb dX6_lossOf_18 rfl (lv_at hl 3 rfl) ?_
  refine r_iald hC hP (aS_19 (a := b) hib hlb) h dX6_lossOf_19 (fun h => ?_)
  refine r_lt h (fun y2 h => ?_)
  refine lv_istore (lv' := [(5, .int y2), (4, .int y1), (0, .ref (al 6 2)), (1, .ref (al b 0)), (2, .int v2), (3, .int v3)]) hx hb dX6_lossOf_20 hl (by decide) rfl (fun ls hl => ?_)
  refine lv_aload_n hx hb dX6_lossOf_22 rfl (lv_at hl 3 rfl) ?_
  refine gt_X10_5 (a := b) hib hlb hC hP wf_X6_35 dX6_lossOf_23 ?_
  refine lv_iload hx hb dX6_lossOf_26 (lv_at hl 1 rfl) ?_
  refine lv_iload hx hb dX6_lossOf_28 (lv_at hl 0 rfl) ?_
  refine r_cP hS h (fun r hr => r_runV (As := [.int y1, .int y2]) (rest := []) hC kV_X6_72 cw_X8_standsInWater (rc_X8 (a := b) hib hlb hC hP) hP (tRooms_standsInWater x al lv σ b hib hlb y1 y2 r hr) rfl hl.1 ⟨Nat.le_of_ble_eq_true rfl, Nat.le_of_ble_eq_true rfl⟩ ⟨Nat.le_of_ble_eq_true rfl, Nat.le_of_ble_eq_true rfl⟩ (Nat.le_of_ble_eq_true rfl) dX6_lossOf_30) (fun y3 H locs h hP hS => ?_)
  refine lv_if_eq (tgt := 43) hx hb dX6_lossOf_33 (by decide) (fun hc => ?_) (fun hc => ?_)
  · replace h := (br h).1 hc
    refine lv_iconst (v := 0) hx hb dX6_lossOf_43 (by decide) ?_
    exact wMelting_lossOf_44 hib hlb hC  σ v2 v3 y1 y2 0 H locs ls h hP hS (lv_sub hl [2, 3, 4, 5, 1, 0] rfl)
  · replace h := (br h).2 hc
    refine lv_aload_n hx hb dX6_lossOf_36 rfl (lv_at hl 2 rfl) ?_
    refine gt_X6_1 hC hP wf_X6_15 dX6_lossOf_37 ?_
    refine lv_goto (tgt := 44) hx hb dX6_lossOf_40 (by decide) ?_
    exact wMelting_lossOf_44 hib hlb hC  σ v2 v3 y1 y2 (σ 6 2 1) H locs ls h hP hS (lv_sub hl [2, 3, 4, 5, 1, 0] rfl)

set_option maxRecDepth 20000 in
theorem tMelting_lossOf {l : Launch} (x : Wx) (al : Nat → Nat → Nat) (lv : Nat → Bool) (σ : Sg) (b : Nat) (hib : b < 6) (hlb : lv b = true) (v2 : Int32) (v3 : Int32) (res : Int32 × Sg) (h : fMelting_lossOf σ b v2 v3 = some res) : Met l yX6_lossOf (Cond.code yX6_lossOf cX6_lossOf 8 (some .int) :: lwg) (rmm 3 0 0) (va_Pc [.ref (al 6 2), .ref (al b 0), .int v2, .int v3] (Wd x al lv σ)) (QI x al lv res) 0 0 (Ab x) := by
  refine met_W (by decide) (Nat.le_of_ble_eq_true rfl) rfl (fun p e s m args below meth c ls hC hP hS hl => ?_)
  exact wMelting_lossOf_0 hib hlb hC σ v2 v3 _ _ ls h hP hS hl
set_option maxHeartbeats 4000000 in
set_option maxRecDepth 20000 in
theorem wMelting_weigh_89 {p : Program} {l : Launch} {e : Env} {s : State} {m : MethodId} {args : Array Value} {below : List Frame} {meth : Method} {c : Code} {x : Wx} {al : Nat → Nat → Nat} {lv : Nat → Bool} {res : Sg} {b : Nat} (hib : b < 6) (hlb : lv b = true) (hC : Cx x p s m args meth c cX6_weigh 5 none RX6) (k34 : Sg → Int32 → Option (Sg)) (hk34 : ∀ (σ : Sg) (x3 : Int32) (H : Heap) (locs : List Loc) (ls : Array Slot), k34 σ x3 = some res → Pic x al lv σ H → va_S (Ab x) s.heap H locs → lv_has ls 5 [(0, .ref (al 6 2)), (1, .ref (al b 0)), (3, .int x3)] → W p l e (rmm 4 0 0) s m args below meth c H locs 0 0 (MQ below (QV x al lv res) args s 0 0 (Ab x)) (F0 m 34 ls [])) (σ : Sg) (x3 : Int32) (t0 : Int32) (t1 : Int32) (H : Heap) (locs : List Loc) (ls : Array Slot) (h : fMelting_weigh_89 k34 σ b x3 t0 t1 = some res) (hP : Pic x al lv σ H) (hS : va_S (Ab x) s.heap H locs) (hl : lv_has ls 5 [(0, .ref (al 6 2)), (1, .ref (al b 0)), (3, .int x3)]) : W p l e (rmm 4 0 0) s m args below meth c H locs 0 0 (MQ below (QV x al lv res) args s 0 0 (Ab x)) (F0 m 89 ls [.int t0, .int t1, .ref (al 6 12)]) := by
  obtain ⟨hx, hb, hml, hown, hts⟩ := hC.1
  unfold fMelting_weigh_89 at h
  refine r_iast hC hP hS (aI_12 hP.l6) h dX6_weigh_89 (fun σ7 H locs h hP hS => ?_)
  refine r_iinc (v := 1) hC h dX6_weigh_90 hl (k := 2) rfl rfl (by decide) (fun y8 => [(3, .int y8), (0, .ref (al 6 2)), (1, .ref (al b 0))]) (fun _ => rfl) (fun y8 ls h hl => ?_)
  refine lv_goto (tgt := 34) hx hb dX6_weigh_93 (by decide) ?_
  exact hk34 σ7 y8 H locs ls h hP hS (lv_sub hl [1, 2, 0] rfl)

set_option maxHeartbeats 4000000 in
set_option maxRecDepth 20000 in
theorem wMelting_weigh_34_b {p : Program} {l : Launch} {e : Env} {s : State} {m : MethodId} {args : Array Value} {below : List Frame} {meth : Method} {c : Code} {x : Wx} {al : Nat → Nat → Nat} {lv : Nat → Bool} {res : Sg} {b : Nat} (hib : b < 6) (hlb : lv b = true) (hC : Cx x p s m args meth c cX6_weigh 5 none RX6) (k34 : Sg → Int32 → Option (Sg)) (hk34 : ∀ (σ : Sg) (x3 : Int32) (H : Heap) (locs : List Loc) (ls : Array Slot), k34 σ x3 = some res → Pic x al lv σ H → va_S (Ab x) s.heap H locs → lv_has ls 5 [(0, .ref (al 6 2)), (1, .ref (al b 0)), (3, .int x3)] → W p l e (rmm 4 0 0) s m args below meth c H locs 0 0 (MQ below (QV x al lv res) args s 0 0 (Ab x)) (F0 m 34 ls [])) (σ : Sg) (x3 : Int32) (H : Heap) (locs : List Loc) (ls : Array Slot) (h : fMelting_weigh_34_b k34 σ b x3 = some res) (hP : Pic x al lv σ H) (hS : va_S (Ab x) s.heap H locs) (hl : lv_has ls 5 [(0, .ref (al 6 2)), (1, .ref (al b 0)), (3, .int x3)]) : W p l e (rmm 4 0 0) s m args below meth c H locs 0 0 (MQ below (QV x al lv res) args s 0 0 (Ab x)) (F0 m 34 ls []) := by
  obtain ⟨hx, hb, hml, hown, hts⟩ := hC.1
  unfold fMelting_weigh_34_b at h
  refine lv_iload_n hx hb dX6_weigh_34 rfl (lv_at hl 2 rfl) ?_
  refine lv_aload_n hx hb dX6_weigh_35 rfl (lv_at hl 1 rfl) ?_
  refine gt_X10_6 (a := b) hib hlb hC hP wf_X6_60 dX6_weigh_36 ?_
  refine gt_X0_0 (a := b) hib hlb hC hP wf_X6_110 dX6_weigh_39 ?_
  refine lv_icmp_ge (tgt := 96) hx hb dX6_weigh_42 (by decide) (fun hc => ?_) (fun hc => ?_)
  · replace h := (br h).1 hc
    exact r_retV hC hP hS h dX6_weigh_96
  · replace h := (br h).2 hc
    refine lv_aload_n hx hb dX6_weigh_45 rfl (lv_at hl 1 rfl) ?_
    refine gt_X10_6 (a := b) hib hlb hC hP wf_X6_60 dX6_weigh_46 ?_
    refine lv_iload_n hx hb dX6_weigh_49 rfl (lv_at hl 2 rfl) ?_
    refine r_cP hS h (fun r hr => r_runV (As := [.int x3]) (rest := []) hC kV_X6_111 cw_X0_isInRoom (rc_X0 (a := b) hib hlb hC hP) hP (tBlocks_isInRoom x al lv σ b hib hlb x3 r hr) rfl hl.1 ⟨Nat.le_of_ble_eq_true rfl, Nat.le_of_ble_eq_true rfl⟩ ⟨Nat.le_of_ble_eq_true rfl, Nat.le_of_ble_eq_true rfl⟩ (Nat.le_of_ble_eq_true rfl) dX6_weigh_50) (fun y4 H locs h hP hS => ?_)
    refine lv_istore (lv' := [(4, .int y4), (0, .ref (al 6 2)), (1, .ref (al b 0)), (3, .int x3)]) hx hb dX6_weigh_53 hl (by decide) rfl (fun ls hl => ?_)
    refine lv_aload_n hx hb dX6_weigh_55 rfl (lv_at hl 1 rfl) ?_
    refine gt_X6_4 hC hP wf_X6_28 dX6_weigh_56 ?_
    refine lv_iload_n hx hb dX6_weigh_59 rfl (lv_at hl 3 rfl) ?_
    refine lv_iload hx hb dX6_weigh_60 (lv_at hl 0 rfl) ?_
    refine lv_if_eq (tgt := 88) hx hb dX6_weigh_62 (by decide) (fun hc => ?_) (fun hc => ?_)
    · replace h := (br h).1 hc
      refine lv_iconst (v := 0) hx hb dX6_weigh_88 (by decide) ?_
      exact wMelting_weigh_89 hib hlb hC k34 hk34 σ x3 0 x3 H locs ls h hP hS (lv_sub hl [1, 2, 3] rfl)
    · replace h := (br h).2 hc
      refine lv_aload_n hx hb dX6_weigh_65 rfl (lv_at hl 1 rfl) ?_
      refine lv_aload_n hx hb dX6_weigh_66 rfl (lv_at hl 2 rfl) ?_
      refine lv_iload_n hx hb dX6_weigh_67 rfl (lv_at hl 3 rfl) ?_
      refine lv_aload_n hx hb dX6_weigh_68 rfl (lv_at hl 1 rfl) ?_
      refine gt_X6_5 hC hP wf_X6_32 dX6_weigh_69 ?_
      refine lv_aload_n hx hb dX6_weigh_72 rfl (lv_at hl 2 rfl) ?_
      refine gt_X10_6 (a := b) hib hlb hC hP wf_X6_60 dX6_weigh_73 ?_
      refine gt_X0_3 (a := b) hib hlb hC hP wf_X6_64 dX6_weigh_76 ?_
      refine lv_iload_n hx hb dX6_weigh_79 rfl (lv_at hl 3 rfl) ?_
      refine r_iald hC hP (aS_18 (a := b) hib hlb) h dX6_weigh_80 (fun h => ?_)
      refine r_iald hC hP (aI_13 hP.l6) h dX6_weigh_81 (fun h => ?_)
      refine r_cI hS h (fun r hr => r_runV (As := [.ref (al b 0), .int x3, .int (σ 6 13 (σ b 18 x3.toNatClampNeg).toNatClampNeg)]) (rest := [.int x3, .ref (al 6 12)]) hC kV_X6_114 cw_X6_lossOf (rc_X6 hC hP) hP (tMelting_lossOf x al lv σ b hib hlb x3 (σ 6 13 (σ b 18 x3.toNatClampNeg).toNatClampNeg) r hr) rfl hl.1 ⟨Nat.le_of_ble_eq_true rfl, Nat.le_of_ble_eq_true rfl⟩ ⟨Nat.le_of_ble_eq_true rfl, Nat.le_of_ble_eq_true rfl⟩ (Nat.le_of_ble_eq_true rfl) dX6_weigh_82) (fun y5 σ6 H locs h hP hS => ?_)
      refine lv_goto (tgt := 89) hx hb dX6_weigh_85 (by decide) ?_
      exact wMelting_weigh_89 hib hlb hC k34 hk34 σ6 x3 y5 x3 H locs ls h hP hS (lv_sub hl [1, 2, 3] rfl)

set_option maxHeartbeats 4000000 in
set_option maxRecDepth 20000 in
theorem wMelting_weigh_34 {p : Program} {l : Launch} {e : Env} {s : State} {m : MethodId} {args : Array Value} {below : List Frame} {meth : Method} {c : Code} {x : Wx} {al : Nat → Nat → Nat} {lv : Nat → Bool} {res : Sg} {b : Nat} (hib : b < 6) (hlb : lv b = true) (hC : Cx x p s m args meth c cX6_weigh 5 none RX6) (n : Nat) (σ : Sg) (x3 : Int32) (H : Heap) (locs : List Loc) (ls : Array Slot) (h : fMelting_weigh_34 n σ b x3 = some res) (hP : Pic x al lv σ H) (hS : va_S (Ab x) s.heap H locs) (hl : lv_has ls 5 [(0, .ref (al 6 2)), (1, .ref (al b 0)), (3, .int x3)]) : W p l e (rmm 4 0 0) s m args below meth c H locs 0 0 (MQ below (QV x al lv res) args s 0 0 (Ab x)) (F0 m 34 ls []) := by
  induction n generalizing σ x3 H locs ls with
  | zero => exact nomatch h
  | succ n ih => exact wMelting_weigh_34_b hib hlb hC  _ (fun σ x3 H locs ls h hP hS hl => ih σ x3 H locs ls h hP hS hl) σ x3 H locs ls h hP hS hl
set_option maxHeartbeats 4000000 in
set_option maxRecDepth 20000 in
theorem wMelting_weigh_2_b {p : Program} {l : Launch} {e : Env} {s : State} {m : MethodId} {args : Array Value} {below : List Frame} {meth : Method} {c : Code} {x : Wx} {al : Nat → Nat → Nat} {lv : Nat → Bool} {res : Sg} {b : Nat} (hib : b < 6) (hlb : lv b = true) (hC : Cx x p s m args meth c cX6_weigh 5 none RX6) (k2 : Sg → Int32 → Int32 → Option (Sg)) (hk2 : ∀ (σ : Sg) (x2 : Int32) (x3 : Int32) (H : Heap) (locs : List Loc) (ls : Array Slot), k2 σ x2 x3 = some res → Pic x al lv σ H → va_S (Ab x) s.heap H locs → lv_has ls 5 [(0, .ref (al 6 2)), (1, .ref (al b 0)), (2, .int x2), (3, .int x3)] → W p l e (rmm 4 0 0) s m args below meth c H locs 0 0 (MQ below (QV x al lv res) args s 0 0 (Ab x)) (F0 m 2 ls [])) (σ : Sg) (x2 : Int32) (x3 : Int32) (H : Heap) (locs : List Loc) (ls : Array Slot) (h : fMelting_weigh_2_b k2 σ b x2 x3 = some res) (hP : Pic x al lv σ H) (hS : va_S (Ab x) s.heap H locs) (hl : lv_has ls 5 [(0, .ref (al 6 2)), (1, .ref (al b 0)), (2, .int x2), (3, .int x3)]) : W p l e (rmm 4 0 0) s m args below meth c H locs 0 0 (MQ below (QV x al lv res) args s 0 0 (Ab x)) (F0 m 2 ls []) := by
  obtain ⟨hx, hb, hml, hown, hts⟩ := hC.1
  unfold fMelting_weigh_2_b at h
  refine lv_iload_n hx hb dX6_weigh_2 rfl (lv_at hl 3 rfl) ?_
  refine lv_aload_n hx hb dX6_weigh_3 rfl (lv_at hl 1 rfl) ?_
  refine gt_X10_5 (a := b) hib hlb hC hP wf_X6_35 dX6_weigh_4 ?_
  refine gt_X8_0 (a := b) hib hlb hC hP wf_X6_103 dX6_weigh_7 ?_
  refine lv_icmp_ge (tgt := 32) hx hb dX6_weigh_10 (by decide) (fun hc => ?_) (fun hc => ?_)
  · replace h := (br h).1 hc
    refine lv_iconst (v := 0) hx hb dX6_weigh_32 (by decide) ?_
    refine lv_istore_n (lv' := [(3, .int 0), (0, .ref (al 6 2)), (1, .ref (al b 0)), (2, .int x2)]) hx hb dX6_weigh_33 rfl hl (by decide) rfl (fun ls hl => ?_)
    exact wMelting_weigh_34 hib hlb hC  FU σ 0 H locs ls h hP hS (lv_sub hl [1, 2, 0] rfl)
  · replace h := (br h).2 hc
    refine lv_aload_n hx hb dX6_weigh_13 rfl (lv_at hl 0 rfl) ?_
    refine gt_X6_5 hC hP wf_X6_32 dX6_weigh_14 ?_
    refine lv_iload_n hx hb dX6_weigh_17 rfl (lv_at hl 3 rfl) ?_
    refine lv_aload_n hx hb dX6_weigh_18 rfl (lv_at hl 0 rfl) ?_
    refine lv_aload_n hx hb dX6_weigh_19 rfl (lv_at hl 1 rfl) ?_
    refine lv_iload_n hx hb dX6_weigh_20 rfl (lv_at hl 3 rfl) ?_
    refine lv_iload_n hx hb dX6_weigh_21 rfl (lv_at hl 2 rfl) ?_
    refine r_cP hS h (fun r hr => r_runV (As := [.ref (al b 0), .int x3, .int x2]) (rest := [.int x3, .ref (al 6 13)]) hC kV_X6_106 cw_X6_warmthIn (rc_X6 hC hP) hP (tMelting_warmthIn x al lv σ b hib hlb x3 x2 r hr) rfl hl.1 ⟨Nat.le_of_ble_eq_true rfl, Nat.le_of_ble_eq_true rfl⟩ ⟨Nat.le_of_ble_eq_true rfl, Nat.le_of_ble_eq_true rfl⟩ (Nat.le_of_ble_eq_true rfl) dX6_weigh_22) (fun y1 H locs h hP hS => ?_)
    refine r_iast hC hP hS (aI_13 hP.l6) h dX6_weigh_25 (fun σ2 H locs h hP hS => ?_)
    refine r_iinc (v := 1) hC h dX6_weigh_26 hl (k := 3) rfl rfl (by decide) (fun y3 => [(3, .int y3), (0, .ref (al 6 2)), (1, .ref (al b 0)), (2, .int x2)]) (fun _ => rfl) (fun y3 ls h hl => ?_)
    refine lv_goto (tgt := 2) hx hb dX6_weigh_29 (by decide) ?_
    exact hk2 σ2 x2 y3 H locs ls h hP hS (lv_sub hl [1, 2, 3, 0] rfl)

set_option maxHeartbeats 4000000 in
set_option maxRecDepth 20000 in
theorem wMelting_weigh_2 {p : Program} {l : Launch} {e : Env} {s : State} {m : MethodId} {args : Array Value} {below : List Frame} {meth : Method} {c : Code} {x : Wx} {al : Nat → Nat → Nat} {lv : Nat → Bool} {res : Sg} {b : Nat} (hib : b < 6) (hlb : lv b = true) (hC : Cx x p s m args meth c cX6_weigh 5 none RX6) (n : Nat) (σ : Sg) (x2 : Int32) (x3 : Int32) (H : Heap) (locs : List Loc) (ls : Array Slot) (h : fMelting_weigh_2 n σ b x2 x3 = some res) (hP : Pic x al lv σ H) (hS : va_S (Ab x) s.heap H locs) (hl : lv_has ls 5 [(0, .ref (al 6 2)), (1, .ref (al b 0)), (2, .int x2), (3, .int x3)]) : W p l e (rmm 4 0 0) s m args below meth c H locs 0 0 (MQ below (QV x al lv res) args s 0 0 (Ab x)) (F0 m 2 ls []) := by
  induction n generalizing σ x2 x3 H locs ls with
  | zero => exact nomatch h
  | succ n ih => exact wMelting_weigh_2_b hib hlb hC  _ (fun σ x2 x3 H locs ls h hP hS hl => ih σ x2 x3 H locs ls h hP hS hl) σ x2 x3 H locs ls h hP hS hl
set_option maxHeartbeats 4000000 in
set_option maxRecDepth 20000 in
theorem wMelting_weigh_0 {p : Program} {l : Launch} {e : Env} {s : State} {m : MethodId} {args : Array Value} {below : List Frame} {meth : Method} {c : Code} {x : Wx} {al : Nat → Nat → Nat} {lv : Nat → Bool} {res : Sg} {b : Nat} (hib : b < 6) (hlb : lv b = true) (hC : Cx x p s m args meth c cX6_weigh 5 none RX6) (σ : Sg) (v2 : Int32) (H : Heap) (locs : List Loc) (ls : Array Slot) (h : fMelting_weigh_0 σ b v2 = some res) (hP : Pic x al lv σ H) (hS : va_S (Ab x) s.heap H locs) (hl : lv_has ls 5 [(0, .ref (al 6 2)), (1, .ref (al b 0)), (2, .int v2)]) : W p l e (rmm 4 0 0) s m args below meth c H locs 0 0 (MQ below (QV x al lv res) args s 0 0 (Ab x)) (F0 m 0 ls []) := by
  obtain ⟨hx, hb, hml, hown, hts⟩ := hC.1
  unfold fMelting_weigh_0 at h
  refine lv_iconst (v := 0) hx hb dX6_weigh_0 (by decide) ?_
  refine lv_istore_n (lv' := [(3, .int 0), (0, .ref (al 6 2)), (1, .ref (al b 0)), (2, .int v2)]) hx hb dX6_weigh_1 rfl hl (by decide) rfl (fun ls hl => ?_)
  exact wMelting_weigh_2 hib hlb hC  FU σ v2 0 H locs ls h hP hS (lv_sub hl [1, 2, 3, 0] rfl)

set_option maxRecDepth 20000 in
theorem tMelting_weigh {l : Launch} (x : Wx) (al : Nat → Nat → Nat) (lv : Nat → Bool) (σ : Sg) (b : Nat) (hib : b < 6) (hlb : lv b = true) (v2 : Int32) (res : Sg) (h : fMelting_weigh σ b v2 = some res) : Met l yX6_weigh (Cond.code yX6_weigh cX6_weigh 5 none :: lwg) (rmm 4 0 0) (va_Pc [.ref (al 6 2), .ref (al b 0), .int v2] (Wd x al lv σ)) (QV x al lv res) 0 0 (Ab x) := by
  refine met_W (by decide) (Nat.le_of_ble_eq_true rfl) rfl (fun p e s m args below meth c ls hC hP hS hl => ?_)
  exact wMelting_weigh_0 hib hlb hC σ v2 _ _ ls h hP hS hl
