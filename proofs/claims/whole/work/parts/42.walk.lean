set_option maxHeartbeats 4000000 in
set_option maxRecDepth 20000 in
theorem wM_hasDrain_32 {p : Program} {l : Launch} {e : Env} {s : State} {m : MethodId} {args : Array Value} {below : List Frame} {meth : Method} {c : Code} {x : Wx} {al : Nat → Nat → Nat} {lv : Nat → Bool} {res : Int32} {σ : Sg} (hC : Cx x p s m args meth c cX12_hasDrain 4 (some .boolean) RX12) (k4 : Int32 → Int32 → Int32 → Option (Int32)) (hk4 : ∀ (x1 : Int32) (x2 : Int32) (x3 : Int32) (H : Heap) (locs : List Loc) (ls : Array Slot), k4 x1 x2 x3 = some res → Pic x al lv σ H → va_S (Ab x) s.heap H locs → lv_has ls 4 [(0, .ref (al 7 0)), (1, .int x1), (2, .int x2), (3, .int x3)] → W p l e (rmm 2 0 0) s m args below meth c H locs 0 0 (MQ below (QP x al lv σ res) args s 0 0 (Ab x)) (F0 m 4 ls [])) (x1 : Int32) (x3 : Int32) (t0 : Int32) (H : Heap) (locs : List Loc) (ls : Array Slot) (h : fM_hasDrain_32 k4 σ x1 x3 t0 = some res) (hP : Pic x al lv σ H) (hS : va_S (Ab x) s.heap H locs) (hl : lv_has ls 4 [(0, .ref (al 7 0)), (1, .int x1), (3, .int x3)]) : W p l e (rmm 2 0 0) s m args below meth c H locs 0 0 (MQ below (QP x al lv σ res) args s 0 0 (Ab x)) (F0 m 32 ls [.int t0]) := by
  obtain ⟨hx, hb, hml, hown, hts⟩ := hC.1
  unfold fM_hasDrain_32 at h
  refine lv_istore_n (lv' := [(2, .int t0), (0, .ref (al 7 0)), (1, .int x1), (3, .int x3)]) hx hb dX12_hasDrain_32 rfl hl (by decide) rfl (fun ls hl => ?_)
  refine r_iinc (v := 1) hC h dX12_hasDrain_33 hl (k := 3) rfl rfl (by decide) (fun y4 => [(3, .int y4), (2, .int t0), (0, .ref (al 7 0)), (1, .int x1)]) (fun _ => rfl) (fun y4 ls h hl => ?_)
  refine lv_goto (tgt := 4) hx hb dX12_hasDrain_36 (by decide) ?_
  exact hk4 x1 t0 y4 H locs ls h hP hS (lv_sub hl [2, 3, 1, 0] rfl)

set_option maxHeartbeats 4000000 in
set_option maxRecDepth 20000 in
theorem wM_hasDrain_27 {p : Program} {l : Launch} {e : Env} {s : State} {m : MethodId} {args : Array Value} {below : List Frame} {meth : Method} {c : Code} {x : Wx} {al : Nat → Nat → Nat} {lv : Nat → Bool} {res : Int32} {σ : Sg} (hC : Cx x p s m args meth c cX12_hasDrain 4 (some .boolean) RX12) (k4 : Int32 → Int32 → Int32 → Option (Int32)) (hk4 : ∀ (x1 : Int32) (x2 : Int32) (x3 : Int32) (H : Heap) (locs : List Loc) (ls : Array Slot), k4 x1 x2 x3 = some res → Pic x al lv σ H → va_S (Ab x) s.heap H locs → lv_has ls 4 [(0, .ref (al 7 0)), (1, .int x1), (2, .int x2), (3, .int x3)] → W p l e (rmm 2 0 0) s m args below meth c H locs 0 0 (MQ below (QP x al lv σ res) args s 0 0 (Ab x)) (F0 m 4 ls [])) (x1 : Int32) (x3 : Int32) (H : Heap) (locs : List Loc) (ls : Array Slot) (h : fM_hasDrain_27 k4 σ x1 x3 = some res) (hP : Pic x al lv σ H) (hS : va_S (Ab x) s.heap H locs) (hl : lv_has ls 4 [(0, .ref (al 7 0)), (1, .int x1), (3, .int x3)]) : W p l e (rmm 2 0 0) s m args below meth c H locs 0 0 (MQ below (QP x al lv σ res) args s 0 0 (Ab x)) (F0 m 27 ls []) := by
  obtain ⟨hx, hb, hml, hown, hts⟩ := hC.1
  unfold fM_hasDrain_27 at h
  refine lv_iconst (v := 1) hx hb dX12_hasDrain_27 (by decide) ?_
  refine lv_goto (tgt := 32) hx hb dX12_hasDrain_28 (by decide) ?_
  exact wM_hasDrain_32  hC k4 hk4 x1 x3 1 H locs ls h hP hS (lv_sub hl [0, 1, 2] rfl)

set_option maxHeartbeats 4000000 in
set_option maxRecDepth 20000 in
theorem wM_hasDrain_4_b {p : Program} {l : Launch} {e : Env} {s : State} {m : MethodId} {args : Array Value} {below : List Frame} {meth : Method} {c : Code} {x : Wx} {al : Nat → Nat → Nat} {lv : Nat → Bool} {res : Int32} {σ : Sg} (hC : Cx x p s m args meth c cX12_hasDrain 4 (some .boolean) RX12) (k4 : Int32 → Int32 → Int32 → Option (Int32)) (hk4 : ∀ (x1 : Int32) (x2 : Int32) (x3 : Int32) (H : Heap) (locs : List Loc) (ls : Array Slot), k4 x1 x2 x3 = some res → Pic x al lv σ H → va_S (Ab x) s.heap H locs → lv_has ls 4 [(0, .ref (al 7 0)), (1, .int x1), (2, .int x2), (3, .int x3)] → W p l e (rmm 2 0 0) s m args below meth c H locs 0 0 (MQ below (QP x al lv σ res) args s 0 0 (Ab x)) (F0 m 4 ls [])) (x1 : Int32) (x2 : Int32) (x3 : Int32) (H : Heap) (locs : List Loc) (ls : Array Slot) (h : fM_hasDrain_4_b k4 σ x1 x2 x3 = some res) (hP : Pic x al lv σ H) (hS : va_S (Ab x) s.heap H locs) (hl : lv_has ls 4 [(0, .ref (al 7 0)), (1, .int x1), (2, .int x2), (3, .int x3)]) : W p l e (rmm 2 0 0) s m args below meth c H locs 0 0 (MQ below (QP x al lv σ res) args s 0 0 (Ab x)) (F0 m 4 ls []) := by
  obtain ⟨hx, hb, hml, hown, hts⟩ := hC.1
  unfold fM_hasDrain_4_b at h
  refine lv_iload_n hx hb dX12_hasDrain_4 rfl (lv_at hl 3 rfl) ?_
  refine lv_aload_n hx hb dX12_hasDrain_5 rfl (lv_at hl 0 rfl) ?_
  refine lv_iload_n hx hb dX12_hasDrain_6 rfl (lv_at hl 1 rfl) ?_
  refine r_cP hS h (fun r hr => r_runV (As := [.int x1]) (rest := [.int x3]) hC kV_X12_167 cw_X12_floor (rc_X12 hC hP) hP (tM_floor x al lv σ x1 r hr) rfl hl.1 ⟨Nat.le_of_ble_eq_true rfl, Nat.le_of_ble_eq_true rfl⟩ ⟨Nat.le_of_ble_eq_true rfl, Nat.le_of_ble_eq_true rfl⟩ (Nat.le_of_ble_eq_true rfl) dX12_hasDrain_7) (fun y1 H locs h hP hS => ?_)
  refine lv_icmp_ge (tgt := 39) hx hb dX12_hasDrain_10 (by decide) (fun hc => ?_) (fun hc => ?_)
  · replace h := (br h).1 hc
    refine lv_iload_n hx hb dX12_hasDrain_39 rfl (lv_at hl 2 rfl) ?_
    obtain ⟨hz2, h⟩ := gd_e h
    exact r_retP hC hP hS (isb_n hz2) h dX12_hasDrain_40
  · replace h := (br h).2 hc
    refine lv_iload_n hx hb dX12_hasDrain_13 rfl (lv_at hl 2 rfl) ?_
    refine lv_if_ne (tgt := 27) hx hb dX12_hasDrain_14 (by decide) (fun hc => ?_) (fun hc => ?_)
    · replace h := (br h).2 hc
      exact wM_hasDrain_27  hC k4 hk4 x1 x3 H locs ls h hP hS (lv_sub hl [0, 1, 3] rfl)
    · replace h := (br h).1 hc
      refine lv_aload_n hx hb dX12_hasDrain_17 rfl (lv_at hl 0 rfl) ?_
      refine lv_iload_n hx hb dX12_hasDrain_18 rfl (lv_at hl 1 rfl) ?_
      refine lv_iload_n hx hb dX12_hasDrain_19 rfl (lv_at hl 3 rfl) ?_
      refine r_cP hS h (fun r hr => r_runV (As := [.int x1, .int x3]) (rest := []) hC kV_X12_173 cw_X12_at (rc_X12 hC hP) hP (tM_at x al lv σ x1 x3 r hr) rfl hl.1 ⟨Nat.le_of_ble_eq_true rfl, Nat.le_of_ble_eq_true rfl⟩ ⟨Nat.le_of_ble_eq_true rfl, Nat.le_of_ble_eq_true rfl⟩ (Nat.le_of_ble_eq_true rfl) dX12_hasDrain_20) (fun y3 H locs h hP hS => ?_)
      refine lv_iconst (v := 2) hx hb dX12_hasDrain_23 (by decide) ?_
      refine lv_icmp_ne (tgt := 31) hx hb dX12_hasDrain_24 (by decide) (fun hc => ?_) (fun hc => ?_)
      · replace h := (br h).2 hc
        refine lv_iconst (v := 0) hx hb dX12_hasDrain_31 (by decide) ?_
        exact wM_hasDrain_32  hC k4 hk4 x1 x3 0 H locs ls h hP hS (lv_sub hl [0, 1, 3] rfl)
      · replace h := (br h).1 hc
        exact wM_hasDrain_27  hC k4 hk4 x1 x3 H locs ls h hP hS (lv_sub hl [0, 1, 3] rfl)

set_option maxHeartbeats 4000000 in
set_option maxRecDepth 20000 in
theorem wM_hasDrain_4 {p : Program} {l : Launch} {e : Env} {s : State} {m : MethodId} {args : Array Value} {below : List Frame} {meth : Method} {c : Code} {x : Wx} {al : Nat → Nat → Nat} {lv : Nat → Bool} {res : Int32} {σ : Sg} (hC : Cx x p s m args meth c cX12_hasDrain 4 (some .boolean) RX12) (n : Nat) (x1 : Int32) (x2 : Int32) (x3 : Int32) (H : Heap) (locs : List Loc) (ls : Array Slot) (h : fM_hasDrain_4 n σ x1 x2 x3 = some res) (hP : Pic x al lv σ H) (hS : va_S (Ab x) s.heap H locs) (hl : lv_has ls 4 [(0, .ref (al 7 0)), (1, .int x1), (2, .int x2), (3, .int x3)]) : W p l e (rmm 2 0 0) s m args below meth c H locs 0 0 (MQ below (QP x al lv σ res) args s 0 0 (Ab x)) (F0 m 4 ls []) := by
  induction n generalizing x1 x2 x3 H locs ls with
  | zero => exact nomatch h
  | succ n ih => exact wM_hasDrain_4_b  hC  _ (fun x1 x2 x3 H locs ls h hP hS hl => ih x1 x2 x3 H locs ls h hP hS hl) x1 x2 x3 H locs ls h hP hS hl
set_option maxHeartbeats 4000000 in
set_option maxRecDepth 20000 in
theorem wM_hasDrain_0 {p : Program} {l : Launch} {e : Env} {s : State} {m : MethodId} {args : Array Value} {below : List Frame} {meth : Method} {c : Code} {x : Wx} {al : Nat → Nat → Nat} {lv : Nat → Bool} {res : Int32} {σ : Sg} (hC : Cx x p s m args meth c cX12_hasDrain 4 (some .boolean) RX12) (v1 : Int32) (H : Heap) (locs : List Loc) (ls : Array Slot) (h : fM_hasDrain_0 σ v1 = some res) (hP : Pic x al lv σ H) (hS : va_S (Ab x) s.heap H locs) (hl : lv_has ls 4 [(0, .ref (al 7 0)), (1, .int v1)]) : W p l e (rmm 2 0 0) s m args below meth c H locs 0 0 (MQ below (QP x al lv σ res) args s 0 0 (Ab x)) (F0 m 0 ls []) := by
  obtain ⟨hx, hb, hml, hown, hts⟩ := hC.1
  unfold fM_hasDrain_0 at h
  refine lv_iconst (v := 0) hx hb dX12_hasDrain_0 (by decide) ?_
  refine lv_istore_n (lv' := [(2, .int 0), (0, .ref (al 7 0)), (1, .int v1)]) hx hb dX12_hasDrain_1 rfl hl (by decide) rfl (fun ls hl => ?_)
  refine lv_iconst (v := 0) hx hb dX12_hasDrain_2 (by decide) ?_
  refine lv_istore_n (lv' := [(3, .int 0), (2, .int 0), (0, .ref (al 7 0)), (1, .int v1)]) hx hb dX12_hasDrain_3 rfl hl (by decide) rfl (fun ls hl => ?_)
  exact wM_hasDrain_4  hC  FU v1 0 0 H locs ls h hP hS (lv_sub hl [2, 3, 1, 0] rfl)

set_option maxRecDepth 20000 in
theorem tM_hasDrain {l : Launch} (x : Wx) (al : Nat → Nat → Nat) (lv : Nat → Bool) (σ : Sg) (v1 : Int32) (res : Int32) (h : fM_hasDrain σ v1 = some res) : Met l yX12_hasDrain (Cond.code yX12_hasDrain cX12_hasDrain 4 (some .boolean) :: lwg) (rmm 2 0 0) (va_Pc [.ref (al 7 0), .int v1] (Wd x al lv σ)) (QP x al lv σ res) 0 0 (Ab x) := by
  refine met_W (by decide) (Nat.le_of_ble_eq_true rfl) rfl (fun p e s m args below meth c ls hC hP hS hl => ?_)
  exact wM_hasDrain_0  hC v1 _ _ ls h hP hS hl
set_option maxHeartbeats 4000000 in
set_option maxRecDepth 20000 in
theorem wM_isInWater_0 {p : Program} {l : Launch} {e : Env} {s : State} {m : MethodId} {args : Array Value} {below : List Frame} {meth : Method} {c : Code} {x : Wx} {al : Nat → Nat → Nat} {lv : Nat → Bool} {res : Int32} {σ : Sg} (hC : Cx x p s m args meth c cX12_isInWater 3 (some .boolean) RX12) (v1 : Int32) (v2 : Int32) (H : Heap) (locs : List Loc) (ls : Array Slot) (h : fM_isInWater_0 σ v1 v2 = some res) (hP : Pic x al lv σ H) (hS : va_S (Ab x) s.heap H locs) (hl : lv_has ls 3 [(0, .ref (al 7 0)), (1, .int v1), (2, .int v2)]) : W p l e (rmm 3 0 0) s m args below meth c H locs 0 0 (MQ below (QP x al lv σ res) args s 0 0 (Ab x)) (F0 m 0 ls []) := by
  obtain ⟨hx, hb, hml, hown, hts⟩ := hC.1
  unfold fM_isInWater_0 at h
  refine lv_aload_n hx hb dX12_isInWater_0 rfl (lv_at hl 0 rfl) ?_
  refine gt_X12_10 hC hP wf_X12_40 dX12_isInWater_1 ?_
  refine lv_iload_n hx hb dX12_isInWater_4 rfl (lv_at hl 1 rfl) ?_
  refine r_iald hC hP (aM_10 hP.l7) h dX12_isInWater_5 (fun h => ?_)
  refine lv_iconst (v := 5) hx hb dX12_isInWater_6 (by decide) ?_
  refine lv_icmp_ne (tgt := 31) hx hb dX12_isInWater_7 (by decide) (fun hc => ?_) (fun hc => ?_)
  · replace h := (br h).2 hc
    refine lv_iconst (v := 0) hx hb dX12_isInWater_31 (by decide) ?_
    exact r_retP hC hP hS rfl h dX12_isInWater_32
  · replace h := (br h).1 hc
    refine lv_aload_n hx hb dX12_isInWater_10 rfl (lv_at hl 0 rfl) ?_
    refine lv_iload_n hx hb dX12_isInWater_11 rfl (lv_at hl 1 rfl) ?_
    refine lv_iload_n hx hb dX12_isInWater_12 rfl (lv_at hl 2 rfl) ?_
    refine r_cP hS h (fun r hr => r_runV (As := [.int v1, .int v2]) (rest := []) hC kV_X12_170 cw_X12_layerOf (rc_X12 hC hP) hP (tM_layerOf x al lv σ v1 v2 r hr) rfl hl.1 ⟨Nat.le_of_ble_eq_true rfl, Nat.le_of_ble_eq_true rfl⟩ ⟨Nat.le_of_ble_eq_true rfl, Nat.le_of_ble_eq_true rfl⟩ (Nat.le_of_ble_eq_true rfl) dX12_isInWater_13) (fun y1 H locs h hP hS => ?_)
    refine lv_if_ne (tgt := 31) hx hb dX12_isInWater_16 (by decide) (fun hc => ?_) (fun hc => ?_)
    · replace h := (br h).2 hc
      refine lv_iconst (v := 0) hx hb dX12_isInWater_31 (by decide) ?_
      exact r_retP hC hP hS rfl h dX12_isInWater_32
    · replace h := (br h).1 hc
      refine lv_aload_n hx hb dX12_isInWater_19 rfl (lv_at hl 0 rfl) ?_
      refine lv_iload_n hx hb dX12_isInWater_20 rfl (lv_at hl 1 rfl) ?_
      refine r_cP hS h (fun r hr => r_runV (As := [.int v1]) (rest := []) hC kV_X12_190 cw_X12_hasDrain (rc_X12 hC hP) hP (tM_hasDrain x al lv σ v1 r hr) rfl hl.1 ⟨Nat.le_of_ble_eq_true rfl, Nat.le_of_ble_eq_true rfl⟩ ⟨Nat.le_of_ble_eq_true rfl, Nat.le_of_ble_eq_true rfl⟩ (Nat.le_of_ble_eq_true rfl) dX12_isInWater_21) (fun y2 H locs h hP hS => ?_)
      refine lv_if_ne (tgt := 31) hx hb dX12_isInWater_24 (by decide) (fun hc => ?_) (fun hc => ?_)
      · replace h := (br h).2 hc
        refine lv_iconst (v := 0) hx hb dX12_isInWater_31 (by decide) ?_
        exact r_retP hC hP hS rfl h dX12_isInWater_32
      · replace h := (br h).1 hc
        refine lv_iconst (v := 1) hx hb dX12_isInWater_27 (by decide) ?_
        refine lv_goto (tgt := 32) hx hb dX12_isInWater_28 (by decide) ?_
        exact r_retP hC hP hS rfl h dX12_isInWater_32

set_option maxRecDepth 20000 in
theorem tM_isInWater {l : Launch} (x : Wx) (al : Nat → Nat → Nat) (lv : Nat → Bool) (σ : Sg) (v1 : Int32) (v2 : Int32) (res : Int32) (h : fM_isInWater σ v1 v2 = some res) : Met l yX12_isInWater (Cond.code yX12_isInWater cX12_isInWater 3 (some .boolean) :: lwg) (rmm 3 0 0) (va_Pc [.ref (al 7 0), .int v1, .int v2] (Wd x al lv σ)) (QP x al lv σ res) 0 0 (Ab x) := by
  refine met_W (by decide) (Nat.le_of_ble_eq_true rfl) rfl (fun p e s m args below meth c ls hC hP hS hl => ?_)
  exact wM_isInWater_0  hC v1 v2 _ _ ls h hP hS hl
set_option maxHeartbeats 4000000 in
set_option maxRecDepth 20000 in
theorem wM_loss_101 {p : Program} {l : Launch} {e : Env} {s : State} {m : MethodId} {args : Array Value} {below : List Frame} {meth : Method} {c : Code} {x : Wx} {al : Nat → Nat → Nat} {lv : Nat → Bool} {res : Int32} {σ : Sg} (hC : Cx x p s m args meth c cX12_loss 8 (some .int) RX12) (x1 : Int32) (t0 : Int32) (t1 : Int32) (H : Heap) (locs : List Loc) (ls : Array Slot) (h : fM_loss_101 σ x1 t0 t1 = some res) (hP : Pic x al lv σ H) (hS : va_S (Ab x) s.heap H locs) (hl : lv_has ls 8 [(0, .ref (al 7 0)), (1, .int x1)]) : W p l e (rmm 5 0 0) s m args below meth c H locs 0 0 (MQ below (QP x al lv σ res) args s 0 0 (Ab x)) (F0 m 101 ls [.int t0, .int t1]) := by
  obtain ⟨hx, hb, hml, hown, hts⟩ := hC.1
  unfold fM_loss_101 at h
  refine lv_iadd hx hb dX12_loss_101 ?_
  refine r_lt h (fun y7 h => ?_)
  refine lv_istore (lv' := [(7, .int y7), (0, .ref (al 7 0)), (1, .int x1)]) hx hb dX12_loss_102 hl (by decide) rfl (fun ls hl => ?_)
  refine lv_iload hx hb dX12_loss_104 (lv_at hl 0 rfl) ?_
  refine lv_aload_n hx hb dX12_loss_106 rfl (lv_at hl 1 rfl) ?_
  refine gt_X12_20 hC hP wf_X12_70 dX12_loss_107 ?_
  refine lv_iload_n hx hb dX12_loss_110 rfl (lv_at hl 2 rfl) ?_
  refine r_iald hC hP (aM_20 hP.l7) h dX12_loss_111 (fun h => ?_)
  refine lv_icmp_ge (tgt := 120) hx hb dX12_loss_112 (by decide) (fun hc => ?_) (fun hc => ?_)
  · replace h := (br h).1 hc
    refine lv_aload_n hx hb dX12_loss_120 rfl (lv_at hl 1 rfl) ?_
    refine gt_X12_20 hC hP wf_X12_70 dX12_loss_121 ?_
    refine lv_iload_n hx hb dX12_loss_124 rfl (lv_at hl 2 rfl) ?_
    refine r_iald hC hP (aM_20 hP.l7) h dX12_loss_125 (fun h => ?_)
    exact r_retP hC hP hS rfl h dX12_loss_126
  · replace h := (br h).2 hc
    refine lv_iload hx hb dX12_loss_115 (lv_at hl 0 rfl) ?_
    refine lv_goto (tgt := 126) hx hb dX12_loss_117 (by decide) ?_
    exact r_retP hC hP hS rfl h dX12_loss_126

set_option maxHeartbeats 4000000 in
set_option maxRecDepth 20000 in
theorem wM_loss_50 {p : Program} {l : Launch} {e : Env} {s : State} {m : MethodId} {args : Array Value} {below : List Frame} {meth : Method} {c : Code} {x : Wx} {al : Nat → Nat → Nat} {lv : Nat → Bool} {res : Int32} {σ : Sg} (hC : Cx x p s m args meth c cX12_loss 8 (some .int) RX12) (x1 : Int32) (x3 : Int32) (x4 : Int32) (t0 : Int32) (H : Heap) (locs : List Loc) (ls : Array Slot) (h : fM_loss_50 σ x1 x3 x4 t0 = some res) (hP : Pic x al lv σ H) (hS : va_S (Ab x) s.heap H locs) (hl : lv_has ls 8 [(0, .ref (al 7 0)), (1, .int x1), (3, .int x3), (4, .int x4)]) : W p l e (rmm 5 0 0) s m args below meth c H locs 0 0 (MQ below (QP x al lv σ res) args s 0 0 (Ab x)) (F0 m 50 ls [.int t0]) := by
  obtain ⟨hx, hb, hml, hown, hts⟩ := hC.1
  unfold fM_loss_50 at h
  refine lv_istore (lv' := [(6, .int t0), (0, .ref (al 7 0)), (1, .int x1), (3, .int x3), (4, .int x4)]) hx hb dX12_loss_50 hl (by decide) rfl (fun ls hl => ?_)
  refine lv_aload_n hx hb dX12_loss_52 rfl (lv_at hl 1 rfl) ?_
  refine lv_iload_n hx hb dX12_loss_53 rfl (lv_at hl 3 rfl) ?_
  refine lv_iload hx hb dX12_loss_54 (lv_at hl 4 rfl) ?_
  refine lv_iconst (v := 0) hx hb dX12_loss_56 (by decide) ?_
  refine r_cP hS h (fun r hr => r_runV (As := [.int x3, .int x4, .int 0]) (rest := []) hC kV_X12_196 cw_X12_sides (rc_X12 hC hP) hP (tM_sides x al lv σ x3 x4 0 r hr) rfl hl.1 ⟨Nat.le_of_ble_eq_true rfl, Nat.le_of_ble_eq_true rfl⟩ ⟨Nat.le_of_ble_eq_true rfl, Nat.le_of_ble_eq_true rfl⟩ (Nat.le_of_ble_eq_true rfl) dX12_loss_57) (fun y4 H locs h hP hS => ?_)
  refine lv_iload hx hb dX12_loss_60 (lv_at hl 0 rfl) ?_
  refine lv_imul hx hb dX12_loss_62 ?_
  refine lv_aload_n hx hb dX12_loss_63 rfl (lv_at hl 1 rfl) ?_
  refine lv_iload_n hx hb dX12_loss_64 rfl (lv_at hl 3 rfl) ?_
  refine lv_iload hx hb dX12_loss_65 (lv_at hl 4 rfl) ?_
  refine lv_iconst (v := 1) hx hb dX12_loss_67 (by decide) ?_
  refine r_cP hS h (fun r hr => r_runV (As := [.int x3, .int x4, .int 1]) (rest := [.int (y4 * t0)]) hC kV_X12_196 cw_X12_sides (rc_X12 hC hP) hP (tM_sides x al lv σ x3 x4 1 r hr) rfl hl.1 ⟨Nat.le_of_ble_eq_true rfl, Nat.le_of_ble_eq_true rfl⟩ ⟨Nat.le_of_ble_eq_true rfl, Nat.le_of_ble_eq_true rfl⟩ (Nat.le_of_ble_eq_true rfl) dX12_loss_68) (fun y5 H locs h hP hS => ?_)
  refine lv_iload hx hb dX12_loss_71 (lv_at hl 0 rfl) ?_
  refine lv_aload_n hx hb dX12_loss_73 rfl (lv_at hl 1 rfl) ?_
  refine gt_X12_3 hC hP wf_X12_17 dX12_loss_74 ?_
  refine lv_imul hx hb dX12_loss_77 ?_
  refine lv_bipush (v := 100) hx hb dX12_loss_78 (by decide) ?_
  refine lv_idiv hx hb dX12_loss_80 (by decide) ?_
  refine lv_imul hx hb dX12_loss_81 ?_
  refine lv_iadd hx hb dX12_loss_82 ?_
  refine lv_aload_n hx hb dX12_loss_83 rfl (lv_at hl 1 rfl) ?_
  refine lv_iload_n hx hb dX12_loss_84 rfl (lv_at hl 3 rfl) ?_
  refine lv_iload hx hb dX12_loss_85 (lv_at hl 4 rfl) ?_
  refine r_cP hS h (fun r hr => r_runV (As := [.int x3, .int x4]) (rest := [.int ((y4 * t0) + (y5 * ((t0 * (σ 7 0 3)) / 100)))]) hC kV_X12_199 cw_X12_isInWater (rc_X12 hC hP) hP (tM_isInWater x al lv σ x3 x4 r hr) rfl hl.1 ⟨Nat.le_of_ble_eq_true rfl, Nat.le_of_ble_eq_true rfl⟩ ⟨Nat.le_of_ble_eq_true rfl, Nat.le_of_ble_eq_true rfl⟩ (Nat.le_of_ble_eq_true rfl) dX12_loss_87) (fun y6 H locs h hP hS => ?_)
  refine lv_if_eq (tgt := 100) hx hb dX12_loss_90 (by decide) (fun hc => ?_) (fun hc => ?_)
  · replace h := (br h).1 hc
    refine lv_iconst (v := 0) hx hb dX12_loss_100 (by decide) ?_
    exact wM_loss_101  hC  x1 0 ((y4 * t0) + (y5 * ((t0 * (σ 7 0 3)) / 100))) H locs ls h hP hS (lv_sub hl [1, 2] rfl)
  · replace h := (br h).2 hc
    refine lv_aload_n hx hb dX12_loss_93 rfl (lv_at hl 1 rfl) ?_
    refine gt_X12_4 hC hP wf_X12_21 dX12_loss_94 ?_
    refine lv_goto (tgt := 101) hx hb dX12_loss_97 (by decide) ?_
    exact wM_loss_101  hC  x1 (σ 7 0 4) ((y4 * t0) + (y5 * ((t0 * (σ 7 0 3)) / 100))) H locs ls h hP hS (lv_sub hl [1, 2] rfl)

set_option maxHeartbeats 4000000 in
set_option maxRecDepth 20000 in
theorem wM_loss_43 {p : Program} {l : Launch} {e : Env} {s : State} {m : MethodId} {args : Array Value} {below : List Frame} {meth : Method} {c : Code} {x : Wx} {al : Nat → Nat → Nat} {lv : Nat → Bool} {res : Int32} {σ : Sg} (hC : Cx x p s m args meth c cX12_loss 8 (some .int) RX12) (x1 : Int32) (x3 : Int32) (x4 : Int32) (x5 : Int32) (t0 : Int32) (H : Heap) (locs : List Loc) (ls : Array Slot) (h : fM_loss_43 σ x1 x3 x4 x5 t0 = some res) (hP : Pic x al lv σ H) (hS : va_S (Ab x) s.heap H locs) (hl : lv_has ls 8 [(0, .ref (al 7 0)), (1, .int x1), (3, .int x3), (4, .int x4), (5, .int x5)]) : W p l e (rmm 5 0 0) s m args below meth c H locs 0 0 (MQ below (QP x al lv σ res) args s 0 0 (Ab x)) (F0 m 43 ls [.int t0]) := by
  obtain ⟨hx, hb, hml, hown, hts⟩ := hC.1
  unfold fM_loss_43 at h
  refine lv_iload hx hb dX12_loss_43 (lv_at hl 4 rfl) ?_
  refine lv_imul hx hb dX12_loss_45 ?_
  refine lv_goto (tgt := 50) hx hb dX12_loss_46 (by decide) ?_
  exact wM_loss_50  hC  x1 x3 x4 (t0 * x5) H locs ls h hP hS (lv_sub hl [0, 1, 2, 3] rfl)

set_option maxHeartbeats 4000000 in
set_option maxRecDepth 20000 in
theorem wM_loss_0 {p : Program} {l : Launch} {e : Env} {s : State} {m : MethodId} {args : Array Value} {below : List Frame} {meth : Method} {c : Code} {x : Wx} {al : Nat → Nat → Nat} {lv : Nat → Bool} {res : Int32} {σ : Sg} (hC : Cx x p s m args meth c cX12_loss 8 (some .int) RX12) (v1 : Int32) (v2 : Int32) (H : Heap) (locs : List Loc) (ls : Array Slot) (h : fM_loss_0 σ v1 v2 = some res) (hP : Pic x al lv σ H) (hS : va_S (Ab x) s.heap H locs) (hl : lv_has ls 8 [(0, .ref (al 7 0)), (1, .int v1), (2, .int v2)]) : W p l e (rmm 5 0 0) s m args below meth c H locs 0 0 (MQ below (QP x al lv σ res) args s 0 0 (Ab x)) (F0 m 0 ls []) := by
  obtain ⟨hx, hb, hml, hown, hts⟩ := hC.1
  unfold fM_loss_0 at h
  refine lv_aload_n hx hb dX12_loss_0 rfl (lv_at hl 0 rfl) ?_
  refine gt_X12_21 hC hP wf_X12_73 dX12_loss_1 ?_
  refine lv_iload_n hx hb dX12_loss_4 rfl (lv_at hl 1 rfl) ?_
  refine r_iald hC hP (aM_21 hP.l7) h dX12_loss_5 (fun h => ?_)
  refine r_lt h (fun y1 h => ?_)
  refine lv_istore_n (lv' := [(3, .int y1), (0, .ref (al 7 0)), (1, .int v1), (2, .int v2)]) hx hb dX12_loss_6 rfl hl (by decide) rfl (fun ls hl => ?_)
  refine lv_aload_n hx hb dX12_loss_7 rfl (lv_at hl 1 rfl) ?_
  refine gt_X12_22 hC hP wf_X12_76 dX12_loss_8 ?_
  refine lv_iload_n hx hb dX12_loss_11 rfl (lv_at hl 2 rfl) ?_
  refine r_iald hC hP (aM_22 hP.l7) h dX12_loss_12 (fun h => ?_)
  refine r_lt h (fun y2 h => ?_)
  refine lv_istore (lv' := [(4, .int y2), (3, .int y1), (0, .ref (al 7 0)), (1, .int v1), (2, .int v2)]) hx hb dX12_loss_13 hl (by decide) rfl (fun ls hl => ?_)
  refine lv_aload_n hx hb dX12_loss_15 rfl (lv_at hl 2 rfl) ?_
  refine lv_iload_n hx hb dX12_loss_16 rfl (lv_at hl 1 rfl) ?_
  refine lv_iload_n hx hb dX12_loss_17 rfl (lv_at hl 4 rfl) ?_
  refine r_cP hS h (fun r hr => r_runV (As := [.int y1, .int v2]) (rest := []) hC kV_X12_193 cw_X12_warmth (rc_X12 hC hP) hP (tM_warmth x al lv σ y1 v2 r hr) rfl hl.1 ⟨Nat.le_of_ble_eq_true rfl, Nat.le_of_ble_eq_true rfl⟩ ⟨Nat.le_of_ble_eq_true rfl, Nat.le_of_ble_eq_true rfl⟩ (Nat.le_of_ble_eq_true rfl) dX12_loss_18) (fun y3 H locs h hP hS => ?_)
  refine lv_istore (lv' := [(5, .int y3), (4, .int y2), (3, .int y1), (0, .ref (al 7 0)), (1, .int v1), (2, .int v2)]) hx hb dX12_loss_21 hl (by decide) rfl (fun ls hl => ?_)
  refine lv_iload hx hb dX12_loss_23 (lv_at hl 0 rfl) ?_
  refine lv_if_le (tgt := 49) hx hb dX12_loss_25 (by decide) (fun hc => ?_) (fun hc => ?_)
  · replace h := (br h).1 hc
    refine lv_iconst (v := 0) hx hb dX12_loss_49 (by decide) ?_
    exact wM_loss_50  hC  v1 y1 y2 0 H locs ls h hP hS (lv_sub hl [3, 4, 2, 1] rfl)
  · replace h := (br h).2 hc
    refine lv_aload_n hx hb dX12_loss_28 rfl (lv_at hl 3 rfl) ?_
    refine gt_X12_19 hC hP wf_X12_67 dX12_loss_29 ?_
    refine lv_iload_n hx hb dX12_loss_32 rfl (lv_at hl 4 rfl) ?_
    refine r_iald hC hP (aM_19 hP.l7) h dX12_loss_33 (fun h => ?_)
    refine lv_iconst (v := 2) hx hb dX12_loss_34 (by decide) ?_
    refine lv_icmp_ne (tgt := 42) hx hb dX12_loss_35 (by decide) (fun hc => ?_) (fun hc => ?_)
    · replace h := (br h).2 hc
      refine lv_iconst (v := 3) hx hb dX12_loss_42 (by decide) ?_
      exact wM_loss_43  hC  v1 y1 y2 y3 3 H locs ls h hP hS (lv_sub hl [3, 4, 2, 1, 0] rfl)
    · replace h := (br h).1 hc
      refine lv_iconst (v := 5) hx hb dX12_loss_38 (by decide) ?_
      refine lv_goto (tgt := 43) hx hb dX12_loss_39 (by decide) ?_
      exact wM_loss_43  hC  v1 y1 y2 y3 5 H locs ls h hP hS (lv_sub hl [3, 4, 2, 1, 0] rfl)

set_option maxRecDepth 20000 in
theorem tM_loss {l : Launch} (x : Wx) (al : Nat → Nat → Nat) (lv : Nat → Bool) (σ : Sg) (v1 : Int32) (v2 : Int32) (res : Int32) (h : fM_loss σ v1 v2 = some res) : Met l yX12_loss (Cond.code yX12_loss cX12_loss 8 (some .int) :: lwg) (rmm 5 0 0) (va_Pc [.ref (al 7 0), .int v1, .int v2] (Wd x al lv σ)) (QP x al lv σ res) 0 0 (Ab x) := by
  refine met_W (by decide) (Nat.le_of_ble_eq_true rfl) rfl (fun p e s m args below meth c ls hC hP hS hl => ?_)
  exact wM_loss_0  hC v1 v2 _ _ ls h hP hS hl
set_option maxHeartbeats 4000000 in
set_option maxRecDepth 20000 in
theorem wM_isFree_0 {p : Program} {l : Launch} {e : Env} {s : State} {m : MethodId} {args : Array Value} {below : List Frame} {meth : Method} {c : Code} {x : Wx} {al : Nat → Nat → Nat} {lv : Nat → Bool} {res : Int32} {σ : Sg} (hC : Cx x p s m args meth c cX12_isFree 2 (some .boolean) RX12) (v1 : Int32) (H : Heap) (locs : List Loc) (ls : Array Slot) (h : fM_isFree_0 σ v1 = some res) (hP : Pic x al lv σ H) (hS : va_S (Ab x) s.heap H locs) (hl : lv_has ls 2 [(0, .ref (al 7 0)), (1, .int v1)]) : W p l e (rmm 4 0 0) s m args below meth c H locs 0 0 (MQ below (QP x al lv σ res) args s 0 0 (Ab x)) (F0 m 0 ls []) := by
  obtain ⟨hx, hb, hml, hown, hts⟩ := hC.1
  unfold fM_isFree_0 at h
  refine lv_aload_n hx hb dX12_isFree_0 rfl (lv_at hl 0 rfl) ?_
  refine lv_aload_n hx hb dX12_isFree_1 rfl (lv_at hl 0 rfl) ?_
  refine gt_X12_21 hC hP wf_X12_73 dX12_isFree_2 ?_
  refine lv_iload_n hx hb dX12_isFree_5 rfl (lv_at hl 1 rfl) ?_
  refine r_iald hC hP (aM_21 hP.l7) h dX12_isFree_6 (fun h => ?_)
  refine lv_aload_n hx hb dX12_isFree_7 rfl (lv_at hl 0 rfl) ?_
  refine gt_X12_22 hC hP wf_X12_76 dX12_isFree_8 ?_
  refine lv_iload_n hx hb dX12_isFree_11 rfl (lv_at hl 1 rfl) ?_
  refine r_iald hC hP (aM_22 hP.l7) h dX12_isFree_12 (fun h => ?_)
  refine lv_iconst (v := 5) hx hb dX12_isFree_13 (by decide) ?_
  refine r_cP hS h (fun r hr => r_runV (As := [.int (σ 7 21 v1.toNatClampNeg), .int (σ 7 22 v1.toNatClampNeg), .int 5]) (rest := []) hC kV_X12_176 cw_X12_side (rc_X12 hC hP) hP (tM_side x al lv σ (σ 7 21 v1.toNatClampNeg) (σ 7 22 v1.toNatClampNeg) 5 r hr) rfl hl.1 ⟨Nat.le_of_ble_eq_true rfl, Nat.le_of_ble_eq_true rfl⟩ ⟨Nat.le_of_ble_eq_true rfl, Nat.le_of_ble_eq_true rfl⟩ (Nat.le_of_ble_eq_true rfl) dX12_isFree_14) (fun y1 H locs h hP hS => ?_)
  refine lv_bipush (v := 10) hx hb dX12_isFree_17 (by decide) ?_
  refine lv_icmp_ge (tgt := 26) hx hb dX12_isFree_19 (by decide) (fun hc => ?_) (fun hc => ?_)
  · replace h := (br h).1 hc
    refine lv_iconst (v := 0) hx hb dX12_isFree_26 (by decide) ?_
    exact r_retP hC hP hS rfl h dX12_isFree_27
  · replace h := (br h).2 hc
    refine lv_iconst (v := 1) hx hb dX12_isFree_22 (by decide) ?_
    refine lv_goto (tgt := 27) hx hb dX12_isFree_23 (by decide) ?_
    exact r_retP hC hP hS rfl h dX12_isFree_27

set_option maxRecDepth 20000 in
theorem tM_isFree {l : Launch} (x : Wx) (al : Nat → Nat → Nat) (lv : Nat → Bool) (σ : Sg) (v1 : Int32) (res : Int32) (h : fM_isFree σ v1 = some res) : Met l yX12_isFree (Cond.code yX12_isFree cX12_isFree 2 (some .boolean) :: lwg) (rmm 4 0 0) (va_Pc [.ref (al 7 0), .int v1] (Wd x al lv σ)) (QP x al lv σ res) 0 0 (Ab x) := by
  refine met_W (by decide) (Nat.le_of_ble_eq_true rfl) rfl (fun p e s m args below meth c ls hC hP hS hl => ?_)
  exact wM_isFree_0  hC v1 _ _ ls h hP hS hl
set_option maxHeartbeats 4000000 in
set_option maxRecDepth 20000 in
theorem wM_weight_49 {p : Program} {l : Launch} {e : Env} {s : State} {m : MethodId} {args : Array Value} {below : List Frame} {meth : Method} {c : Code} {x : Wx} {al : Nat → Nat → Nat} {lv : Nat → Bool} {res : Int32} {σ : Sg} (hC : Cx x p s m args meth c cX12_weight 4 (some .int) RX12) (k4 : Int32 → Int32 → Int32 → Option (Int32)) (hk4 : ∀ (x1 : Int32) (x2 : Int32) (x3 : Int32) (H : Heap) (locs : List Loc) (ls : Array Slot), k4 x1 x2 x3 = some res → Pic x al lv σ H → va_S (Ab x) s.heap H locs → lv_has ls 4 [(0, .ref (al 7 0)), (1, .int x1), (2, .int x2), (3, .int x3)] → W p l e (rmm 1 0 0) s m args below meth c H locs 0 0 (MQ below (QP x al lv σ res) args s 0 0 (Ab x)) (F0 m 4 ls [])) (x1 : Int32) (x3 : Int32) (t0 : Int32) (t1 : Int32) (H : Heap) (locs : List Loc) (ls : Array Slot) (h : fM_weight_49 k4 σ x1 x3 t0 t1 = some res) (hP : Pic x al lv σ H) (hS : va_S (Ab x) s.heap H locs) (hl : lv_has ls 4 [(0, .ref (al 7 0)), (1, .int x1), (3, .int x3)]) : W p l e (rmm 1 0 0) s m args below meth c H locs 0 0 (MQ below (QP x al lv σ res) args s 0 0 (Ab x)) (F0 m 49 ls [.int t0, .int t1]) := by
  obtain ⟨hx, hb, hml, hown, hts⟩ := hC.1
  unfold fM_weight_49 at h
  refine lv_iadd hx hb dX12_weight_49 ?_
  refine r_lt h (fun y1 h => ?_)
  refine lv_istore_n (lv' := [(2, .int y1), (0, .ref (al 7 0)), (1, .int x1), (3, .int x3)]) hx hb dX12_weight_50 rfl hl (by decide) rfl (fun ls hl => ?_)
  refine r_iinc (v := 1) hC h dX12_weight_51 hl (k := 3) rfl rfl (by decide) (fun y2 => [(3, .int y2), (2, .int y1), (0, .ref (al 7 0)), (1, .int x1)]) (fun _ => rfl) (fun y2 ls h hl => ?_)
  refine lv_goto (tgt := 4) hx hb dX12_weight_54 (by decide) ?_
  exact hk4 x1 y1 y2 H locs ls h hP hS (lv_sub hl [2, 3, 1, 0] rfl)

set_option maxHeartbeats 4000000 in
set_option maxRecDepth 20000 in
theorem wM_weight_39 {p : Program} {l : Launch} {e : Env} {s : State} {m : MethodId} {args : Array Value} {below : List Frame} {meth : Method} {c : Code} {x : Wx} {al : Nat → Nat → Nat} {lv : Nat → Bool} {res : Int32} {σ : Sg} (hC : Cx x p s m args meth c cX12_weight 4 (some .int) RX12) (k4 : Int32 → Int32 → Int32 → Option (Int32)) (hk4 : ∀ (x1 : Int32) (x2 : Int32) (x3 : Int32) (H : Heap) (locs : List Loc) (ls : Array Slot), k4 x1 x2 x3 = some res → Pic x al lv σ H → va_S (Ab x) s.heap H locs → lv_has ls 4 [(0, .ref (al 7 0)), (1, .int x1), (2, .int x2), (3, .int x3)] → W p l e (rmm 1 0 0) s m args below meth c H locs 0 0 (MQ below (QP x al lv σ res) args s 0 0 (Ab x)) (F0 m 4 ls [])) (x1 : Int32) (x3 : Int32) (t0 : Int32) (H : Heap) (locs : List Loc) (ls : Array Slot) (h : fM_weight_39 k4 σ x1 x3 t0 = some res) (hP : Pic x al lv σ H) (hS : va_S (Ab x) s.heap H locs) (hl : lv_has ls 4 [(0, .ref (al 7 0)), (1, .int x1), (3, .int x3)]) : W p l e (rmm 1 0 0) s m args below meth c H locs 0 0 (MQ below (QP x al lv σ res) args s 0 0 (Ab x)) (F0 m 39 ls [.int t0]) := by
  obtain ⟨hx, hb, hml, hown, hts⟩ := hC.1
  unfold fM_weight_39 at h
  refine lv_aload_n hx hb dX12_weight_39 rfl (lv_at hl 0 rfl) ?_
  refine gt_X12_20 hC hP wf_X12_70 dX12_weight_40 ?_
  refine lv_iload_n hx hb dX12_weight_43 rfl (lv_at hl 2 rfl) ?_
  refine r_iald hC hP (aM_20 hP.l7) h dX12_weight_44 (fun h => ?_)
  refine lv_goto (tgt := 49) hx hb dX12_weight_45 (by decide) ?_
  exact wM_weight_49  hC k4 hk4 x1 x3 (σ 7 20 x3.toNatClampNeg) t0 H locs ls h hP hS (lv_sub hl [0, 1, 2] rfl)

set_option maxHeartbeats 4000000 in
set_option maxRecDepth 20000 in
theorem wM_weight_48 {p : Program} {l : Launch} {e : Env} {s : State} {m : MethodId} {args : Array Value} {below : List Frame} {meth : Method} {c : Code} {x : Wx} {al : Nat → Nat → Nat} {lv : Nat → Bool} {res : Int32} {σ : Sg} (hC : Cx x p s m args meth c cX12_weight 4 (some .int) RX12) (k4 : Int32 → Int32 → Int32 → Option (Int32)) (hk4 : ∀ (x1 : Int32) (x2 : Int32) (x3 : Int32) (H : Heap) (locs : List Loc) (ls : Array Slot), k4 x1 x2 x3 = some res → Pic x al lv σ H → va_S (Ab x) s.heap H locs → lv_has ls 4 [(0, .ref (al 7 0)), (1, .int x1), (2, .int x2), (3, .int x3)] → W p l e (rmm 1 0 0) s m args below meth c H locs 0 0 (MQ below (QP x al lv σ res) args s 0 0 (Ab x)) (F0 m 4 ls [])) (x1 : Int32) (x3 : Int32) (t0 : Int32) (H : Heap) (locs : List Loc) (ls : Array Slot) (h : fM_weight_48 k4 σ x1 x3 t0 = some res) (hP : Pic x al lv σ H) (hS : va_S (Ab x) s.heap H locs) (hl : lv_has ls 4 [(0, .ref (al 7 0)), (1, .int x1), (3, .int x3)]) : W p l e (rmm 1 0 0) s m args below meth c H locs 0 0 (MQ below (QP x al lv σ res) args s 0 0 (Ab x)) (F0 m 48 ls [.int t0]) := by
  obtain ⟨hx, hb, hml, hown, hts⟩ := hC.1
  unfold fM_weight_48 at h
  refine lv_iconst (v := 0) hx hb dX12_weight_48 (by decide) ?_
  exact wM_weight_49  hC k4 hk4 x1 x3 0 t0 H locs ls h hP hS (lv_sub hl [0, 1, 2] rfl)

set_option maxHeartbeats 4000000 in
set_option maxRecDepth 20000 in
theorem wM_weight_4_b {p : Program} {l : Launch} {e : Env} {s : State} {m : MethodId} {args : Array Value} {below : List Frame} {meth : Method} {c : Code} {x : Wx} {al : Nat → Nat → Nat} {lv : Nat → Bool} {res : Int32} {σ : Sg} (hC : Cx x p s m args meth c cX12_weight 4 (some .int) RX12) (k4 : Int32 → Int32 → Int32 → Option (Int32)) (hk4 : ∀ (x1 : Int32) (x2 : Int32) (x3 : Int32) (H : Heap) (locs : List Loc) (ls : Array Slot), k4 x1 x2 x3 = some res → Pic x al lv σ H → va_S (Ab x) s.heap H locs → lv_has ls 4 [(0, .ref (al 7 0)), (1, .int x1), (2, .int x2), (3, .int x3)] → W p l e (rmm 1 0 0) s m args below meth c H locs 0 0 (MQ below (QP x al lv σ res) args s 0 0 (Ab x)) (F0 m 4 ls [])) (x1 : Int32) (x2 : Int32) (x3 : Int32) (H : Heap) (locs : List Loc) (ls : Array Slot) (h : fM_weight_4_b k4 σ x1 x2 x3 = some res) (hP : Pic x al lv σ H) (hS : va_S (Ab x) s.heap H locs) (hl : lv_has ls 4 [(0, .ref (al 7 0)), (1, .int x1), (2, .int x2), (3, .int x3)]) : W p l e (rmm 1 0 0) s m args below meth c H locs 0 0 (MQ below (QP x al lv σ res) args s 0 0 (Ab x)) (F0 m 4 ls []) := by
  obtain ⟨hx, hb, hml, hown, hts⟩ := hC.1
  unfold fM_weight_4_b at h
  refine lv_iload_n hx hb dX12_weight_4 rfl (lv_at hl 3 rfl) ?_
  refine lv_aload_n hx hb dX12_weight_5 rfl (lv_at hl 0 rfl) ?_
  refine gt_X12_8 hC hP wf_X12_34 dX12_weight_6 ?_
  refine lv_iconst (v := 0) hx hb dX12_weight_9 (by decide) ?_
  refine r_iald hC hP (aM_8 hP.l7) h dX12_weight_10 (fun h => ?_)
  refine lv_icmp_ge (tgt := 57) hx hb dX12_weight_11 (by decide) (fun hc => ?_) (fun hc => ?_)
  · replace h := (br h).1 hc
    refine lv_iload_n hx hb dX12_weight_57 rfl (lv_at hl 2 rfl) ?_
    exact r_retP hC hP hS rfl h dX12_weight_58
  · replace h := (br h).2 hc
    refine lv_iload_n hx hb dX12_weight_14 rfl (lv_at hl 2 rfl) ?_
    refine lv_aload_n hx hb dX12_weight_15 rfl (lv_at hl 0 rfl) ?_
    refine gt_X12_21 hC hP wf_X12_73 dX12_weight_16 ?_
    refine lv_iload_n hx hb dX12_weight_19 rfl (lv_at hl 3 rfl) ?_
    refine r_iald hC hP (aM_21 hP.l7) h dX12_weight_20 (fun h => ?_)
    refine lv_if_lt (tgt := 48) hx hb dX12_weight_21 (by decide) (fun hc => ?_) (fun hc => ?_)
    · replace h := (br h).1 hc
      exact wM_weight_48  hC k4 hk4 x1 x3 x2 H locs ls h hP hS (lv_sub hl [0, 1, 3] rfl)
    · replace h := (br h).2 hc
      refine lv_iload_n hx hb dX12_weight_24 rfl (lv_at hl 1 rfl) ?_
      refine lv_iconst (v := (-1)) hx hb dX12_weight_25 (by decide) ?_
      refine lv_icmp_eq (tgt := 39) hx hb dX12_weight_26 (by decide) (fun hc => ?_) (fun hc => ?_)
      · replace h := (br h).1 hc
        exact wM_weight_39  hC k4 hk4 x1 x3 x2 H locs ls h hP hS (lv_sub hl [0, 1, 3] rfl)
      · replace h := (br h).2 hc
        refine lv_aload_n hx hb dX12_weight_29 rfl (lv_at hl 0 rfl) ?_
        refine gt_X12_21 hC hP wf_X12_73 dX12_weight_30 ?_
        refine lv_iload_n hx hb dX12_weight_33 rfl (lv_at hl 3 rfl) ?_
        refine r_iald hC hP (aM_21 hP.l7) h dX12_weight_34 (fun h => ?_)
        refine lv_iload_n hx hb dX12_weight_35 rfl (lv_at hl 1 rfl) ?_
        refine lv_icmp_ne (tgt := 48) hx hb dX12_weight_36 (by decide) (fun hc => ?_) (fun hc => ?_)
        · replace h := (br h).2 hc
          exact wM_weight_48  hC k4 hk4 x1 x3 x2 H locs ls h hP hS (lv_sub hl [0, 1, 3] rfl)
        · replace h := (br h).1 hc
          exact wM_weight_39  hC k4 hk4 x1 x3 x2 H locs ls h hP hS (lv_sub hl [0, 1, 3] rfl)

set_option maxHeartbeats 4000000 in
set_option maxRecDepth 20000 in
theorem wM_weight_4 {p : Program} {l : Launch} {e : Env} {s : State} {m : MethodId} {args : Array Value} {below : List Frame} {meth : Method} {c : Code} {x : Wx} {al : Nat → Nat → Nat} {lv : Nat → Bool} {res : Int32} {σ : Sg} (hC : Cx x p s m args meth c cX12_weight 4 (some .int) RX12) (n : Nat) (x1 : Int32) (x2 : Int32) (x3 : Int32) (H : Heap) (locs : List Loc) (ls : Array Slot) (h : fM_weight_4 n σ x1 x2 x3 = some res) (hP : Pic x al lv σ H) (hS : va_S (Ab x) s.heap H locs) (hl : lv_has ls 4 [(0, .ref (al 7 0)), (1, .int x1), (2, .int x2), (3, .int x3)]) : W p l e (rmm 1 0 0) s m args below meth c H locs 0 0 (MQ below (QP x al lv σ res) args s 0 0 (Ab x)) (F0 m 4 ls []) := by
  induction n generalizing x1 x2 x3 H locs ls with
  | zero => exact nomatch h
  | succ n ih => exact wM_weight_4_b  hC  _ (fun x1 x2 x3 H locs ls h hP hS hl => ih x1 x2 x3 H locs ls h hP hS hl) x1 x2 x3 H locs ls h hP hS hl
set_option maxHeartbeats 4000000 in
set_option maxRecDepth 20000 in
theorem wM_weight_0 {p : Program} {l : Launch} {e : Env} {s : State} {m : MethodId} {args : Array Value} {below : List Frame} {meth : Method} {c : Code} {x : Wx} {al : Nat → Nat → Nat} {lv : Nat → Bool} {res : Int32} {σ : Sg} (hC : Cx x p s m args meth c cX12_weight 4 (some .int) RX12) (v1 : Int32) (H : Heap) (locs : List Loc) (ls : Array Slot) (h : fM_weight_0 σ v1 = some res) (hP : Pic x al lv σ H) (hS : va_S (Ab x) s.heap H locs) (hl : lv_has ls 4 [(0, .ref (al 7 0)), (1, .int v1)]) : W p l e (rmm 1 0 0) s m args below meth c H locs 0 0 (MQ below (QP x al lv σ res) args s 0 0 (Ab x)) (F0 m 0 ls []) := by
  obtain ⟨hx, hb, hml, hown, hts⟩ := hC.1
  unfold fM_weight_0 at h
  refine lv_iconst (v := 0) hx hb dX12_weight_0 (by decide) ?_
  refine lv_istore_n (lv' := [(2, .int 0), (0, .ref (al 7 0)), (1, .int v1)]) hx hb dX12_weight_1 rfl hl (by decide) rfl (fun ls hl => ?_)
  refine lv_iconst (v := 0) hx hb dX12_weight_2 (by decide) ?_
  refine lv_istore_n (lv' := [(3, .int 0), (2, .int 0), (0, .ref (al 7 0)), (1, .int v1)]) hx hb dX12_weight_3 rfl hl (by decide) rfl (fun ls hl => ?_)
  exact wM_weight_4  hC  FU v1 0 0 H locs ls h hP hS (lv_sub hl [2, 3, 1, 0] rfl)

set_option maxRecDepth 20000 in
theorem tM_weight {l : Launch} (x : Wx) (al : Nat → Nat → Nat) (lv : Nat → Bool) (σ : Sg) (v1 : Int32) (res : Int32) (h : fM_weight σ v1 = some res) : Met l yX12_weight (Cond.code yX12_weight cX12_weight 4 (some .int) :: lwg) (rmm 1 0 0) (va_Pc [.ref (al 7 0), .int v1] (Wd x al lv σ)) (QP x al lv σ res) 0 0 (Ab x) := by
  refine met_W (by decide) (Nat.le_of_ble_eq_true rfl) rfl (fun p e s m args below meth c ls hC hP hS hl => ?_)
  exact wM_weight_0  hC v1 _ _ ls h hP hS hl
set_option maxHeartbeats 4000000 in
set_option maxRecDepth 20000 in
theorem wM_rooms_220 {p : Program} {l : Launch} {e : Env} {s : State} {m : MethodId} {args : Array Value} {below : List Frame} {meth : Method} {c : Code} {x : Wx} {al : Nat → Nat → Nat} {lv : Nat → Bool} {res : Int32} {σ : Sg} (hC : Cx x p s m args meth c cX12_rooms 5 (some .int) RX12) (k159 : Int32 → Int32 → Int32 → Int32 → Option (Int32)) (hk159 : ∀ (x1 : Int32) (x2 : Int32) (x3 : Int32) (x4 : Int32) (H : Heap) (locs : List Loc) (ls : Array Slot), k159 x1 x2 x3 x4 = some res → Pic x al lv σ H → va_S (Ab x) s.heap H locs → lv_has ls 5 [(0, .ref (al 7 0)), (1, .int x1), (2, .int x2), (3, .int x3), (4, .int x4)] → W p l e (rmm 5 0 0) s m args below meth c H locs 0 0 (MQ below (QP x al lv σ res) args s 0 0 (Ab x)) (F0 m 159 ls [])) (x1 : Int32) (x2 : Int32) (x3 : Int32) (x4 : Int32) (H : Heap) (locs : List Loc) (ls : Array Slot) (h : fM_rooms_220 k159 σ x1 x2 x3 x4 = some res) (hP : Pic x al lv σ H) (hS : va_S (Ab x) s.heap H locs) (hl : lv_has ls 5 [(0, .ref (al 7 0)), (1, .int x1), (2, .int x2), (3, .int x3), (4, .int x4)]) : W p l e (rmm 5 0 0) s m args below meth c H locs 0 0 (MQ below (QP x al lv σ res) args s 0 0 (Ab x)) (F0 m 220 ls []) := by
  obtain ⟨hx, hb, hml, hown, hts⟩ := hC.1
  unfold fM_rooms_220 at h
  refine r_iinc (v := 1) hC h dX12_rooms_220 hl (k := 4) rfl rfl (by decide) (fun y9 => [(4, .int y9), (0, .ref (al 7 0)), (1, .int x1), (2, .int x2), (3, .int x3)]) (fun _ => rfl) (fun y9 ls h hl => ?_)
  refine lv_goto (tgt := 159) hx hb dX12_rooms_223 (by decide) ?_
  exact hk159 x1 x2 x3 y9 H locs ls h hP hS (lv_sub hl [1, 2, 3, 4, 0] rfl)

set_option maxHeartbeats 4000000 in
set_option maxRecDepth 20000 in
theorem wM_rooms_218 {p : Program} {l : Launch} {e : Env} {s : State} {m : MethodId} {args : Array Value} {below : List Frame} {meth : Method} {c : Code} {x : Wx} {al : Nat → Nat → Nat} {lv : Nat → Bool} {res : Int32} {σ : Sg} (hC : Cx x p s m args meth c cX12_rooms 5 (some .int) RX12) (k159 : Int32 → Int32 → Int32 → Int32 → Option (Int32)) (hk159 : ∀ (x1 : Int32) (x2 : Int32) (x3 : Int32) (x4 : Int32) (H : Heap) (locs : List Loc) (ls : Array Slot), k159 x1 x2 x3 x4 = some res → Pic x al lv σ H → va_S (Ab x) s.heap H locs → lv_has ls 5 [(0, .ref (al 7 0)), (1, .int x1), (2, .int x2), (3, .int x3), (4, .int x4)] → W p l e (rmm 5 0 0) s m args below meth c H locs 0 0 (MQ below (QP x al lv σ res) args s 0 0 (Ab x)) (F0 m 159 ls [])) (x1 : Int32) (x2 : Int32) (x4 : Int32) (t0 : Int32) (t1 : Int32) (H : Heap) (locs : List Loc) (ls : Array Slot) (h : fM_rooms_218 k159 σ x1 x2 x4 t0 t1 = some res) (hP : Pic x al lv σ H) (hS : va_S (Ab x) s.heap H locs) (hl : lv_has ls 5 [(0, .ref (al 7 0)), (1, .int x1), (2, .int x2), (4, .int x4)]) : W p l e (rmm 5 0 0) s m args below meth c H locs 0 0 (MQ below (QP x al lv σ res) args s 0 0 (Ab x)) (F0 m 218 ls [.int t0, .int t1]) := by
  obtain ⟨hx, hb, hml, hown, hts⟩ := hC.1
  unfold fM_rooms_218 at h
  refine lv_iadd hx hb dX12_rooms_218 ?_
  refine r_lt h (fun y8 h => ?_)
  refine lv_istore_n (lv' := [(3, .int y8), (0, .ref (al 7 0)), (1, .int x1), (2, .int x2), (4, .int x4)]) hx hb dX12_rooms_219 rfl hl (by decide) rfl (fun ls hl => ?_)
  exact wM_rooms_220  hC k159 hk159 x1 x2 y8 x4 H locs ls h hP hS (lv_sub hl [1, 2, 3, 0, 4] rfl)

set_option maxHeartbeats 4000000 in
set_option maxRecDepth 20000 in
theorem wM_rooms_159_b {p : Program} {l : Launch} {e : Env} {s : State} {m : MethodId} {args : Array Value} {below : List Frame} {meth : Method} {c : Code} {x : Wx} {al : Nat → Nat → Nat} {lv : Nat → Bool} {res : Int32} {σ : Sg} (hC : Cx x p s m args meth c cX12_rooms 5 (some .int) RX12) (k159 : Int32 → Int32 → Int32 → Int32 → Option (Int32)) (hk159 : ∀ (x1 : Int32) (x2 : Int32) (x3 : Int32) (x4 : Int32) (H : Heap) (locs : List Loc) (ls : Array Slot), k159 x1 x2 x3 x4 = some res → Pic x al lv σ H → va_S (Ab x) s.heap H locs → lv_has ls 5 [(0, .ref (al 7 0)), (1, .int x1), (2, .int x2), (3, .int x3), (4, .int x4)] → W p l e (rmm 5 0 0) s m args below meth c H locs 0 0 (MQ below (QP x al lv σ res) args s 0 0 (Ab x)) (F0 m 159 ls [])) (x1 : Int32) (x2 : Int32) (x3 : Int32) (x4 : Int32) (H : Heap) (locs : List Loc) (ls : Array Slot) (h : fM_rooms_159_b k159 σ x1 x2 x3 x4 = some res) (hP : Pic x al lv σ H) (hS : va_S (Ab x) s.heap H locs) (hl : lv_has ls 5 [(0, .ref (al 7 0)), (1, .int x1), (2, .int x2), (3, .int x3), (4, .int x4)]) : W p l e (rmm 5 0 0) s m args below meth c H locs 0 0 (MQ below (QP x al lv σ res) args s 0 0 (Ab x)) (F0 m 159 ls []) := by
  obtain ⟨hx, hb, hml, hown, hts⟩ := hC.1
  unfold fM_rooms_159_b at h
  refine lv_iload hx hb dX12_rooms_159 (lv_at hl 4 rfl) ?_
  refine lv_aload_n hx hb dX12_rooms_161 rfl (lv_at hl 0 rfl) ?_
  refine gt_X12_8 hC hP wf_X12_34 dX12_rooms_162 ?_
  refine lv_iconst (v := 0) hx hb dX12_rooms_165 (by decide) ?_
  refine r_iald hC hP (aM_8 hP.l7) h dX12_rooms_166 (fun h => ?_)
  refine lv_icmp_ge (tgt := 226) hx hb dX12_rooms_167 (by decide) (fun hc => ?_) (fun hc => ?_)
  · replace h := (br h).1 hc
    refine lv_iload_n hx hb dX12_rooms_226 rfl (lv_at hl 3 rfl) ?_
    exact r_retP hC hP hS rfl h dX12_rooms_227
  · replace h := (br h).2 hc
    refine lv_aload_n hx hb dX12_rooms_170 rfl (lv_at hl 0 rfl) ?_
    refine gt_X12_21 hC hP wf_X12_73 dX12_rooms_171 ?_
    refine lv_iload hx hb dX12_rooms_174 (lv_at hl 4 rfl) ?_
    refine r_iald hC hP (aM_21 hP.l7) h dX12_rooms_176 (fun h => ?_)
    refine lv_iload_n hx hb dX12_rooms_177 rfl (lv_at hl 1 rfl) ?_
    refine lv_icmp_ne (tgt := 220) hx hb dX12_rooms_178 (by decide) (fun hc => ?_) (fun hc => ?_)
    · replace h := (br h).2 hc
      exact wM_rooms_220  hC k159 hk159 x1 x2 x3 x4 H locs ls h hP hS (lv_sub hl [0, 1, 2, 3, 4] rfl)
    · replace h := (br h).1 hc
      refine lv_iload_n hx hb dX12_rooms_181 rfl (lv_at hl 3 rfl) ?_
      refine lv_iload_n hx hb dX12_rooms_182 rfl (lv_at hl 2 rfl) ?_
      refine lv_bipush (v := 10) hx hb dX12_rooms_183 (by decide) ?_
      refine lv_icmp_ne (tgt := 204) hx hb dX12_rooms_185 (by decide) (fun hc => ?_) (fun hc => ?_)
      · replace h := (br h).2 hc
        refine lv_aload_n hx hb dX12_rooms_204 rfl (lv_at hl 0 rfl) ?_
        refine lv_iload hx hb dX12_rooms_205 (lv_at hl 4 rfl) ?_
        refine r_cP hS h (fun r hr => r_runV (As := [.int x4]) (rest := [.int x3]) hC kV_X12_206 cw_X12_isFree (rc_X12 hC hP) hP (tM_isFree x al lv σ x4 r hr) rfl hl.1 ⟨Nat.le_of_ble_eq_true rfl, Nat.le_of_ble_eq_true rfl⟩ ⟨Nat.le_of_ble_eq_true rfl, Nat.le_of_ble_eq_true rfl⟩ (Nat.le_of_ble_eq_true rfl) dX12_rooms_207) (fun y6 H locs h hP hS => ?_)
        refine lv_if_eq (tgt := 217) hx hb dX12_rooms_210 (by decide) (fun hc => ?_) (fun hc => ?_)
        · replace h := (br h).1 hc
          refine lv_iconst (v := 0) hx hb dX12_rooms_217 (by decide) ?_
          exact wM_rooms_218  hC k159 hk159 x1 x2 x4 0 x3 H locs ls h hP hS (lv_sub hl [0, 1, 2, 4] rfl)
        · replace h := (br h).2 hc
          refine lv_iconst (v := 1) hx hb dX12_rooms_213 (by decide) ?_
          refine lv_goto (tgt := 218) hx hb dX12_rooms_214 (by decide) ?_
          exact wM_rooms_218  hC k159 hk159 x1 x2 x4 1 x3 H locs ls h hP hS (lv_sub hl [0, 1, 2, 4] rfl)
      · replace h := (br h).1 hc
        refine lv_aload_n hx hb dX12_rooms_188 rfl (lv_at hl 0 rfl) ?_
        refine lv_iload_n hx hb dX12_rooms_189 rfl (lv_at hl 1 rfl) ?_
        refine lv_aload_n hx hb dX12_rooms_190 rfl (lv_at hl 0 rfl) ?_
        refine gt_X12_22 hC hP wf_X12_76 dX12_rooms_191 ?_
        refine lv_iload hx hb dX12_rooms_194 (lv_at hl 4 rfl) ?_
        refine r_iald hC hP (aM_22 hP.l7) h dX12_rooms_196 (fun h => ?_)
        refine lv_iconst (v := 0) hx hb dX12_rooms_197 (by decide) ?_
        refine r_cP hS h (fun r hr => r_runV (As := [.int x1, .int (σ 7 22 x4.toNatClampNeg), .int 0]) (rest := [.int x3]) hC kV_X12_196 cw_X12_sides (rc_X12 hC hP) hP (tM_sides x al lv σ x1 (σ 7 22 x4.toNatClampNeg) 0 r hr) rfl hl.1 ⟨Nat.le_of_ble_eq_true rfl, Nat.le_of_ble_eq_true rfl⟩ ⟨Nat.le_of_ble_eq_true rfl, Nat.le_of_ble_eq_true rfl⟩ (Nat.le_of_ble_eq_true rfl) dX12_rooms_198) (fun y7 H locs h hP hS => ?_)
        refine lv_goto (tgt := 218) hx hb dX12_rooms_201 (by decide) ?_
        exact wM_rooms_218  hC k159 hk159 x1 x2 x4 y7 x3 H locs ls h hP hS (lv_sub hl [0, 1, 2, 4] rfl)

set_option maxHeartbeats 4000000 in
set_option maxRecDepth 20000 in
theorem wM_rooms_159 {p : Program} {l : Launch} {e : Env} {s : State} {m : MethodId} {args : Array Value} {below : List Frame} {meth : Method} {c : Code} {x : Wx} {al : Nat → Nat → Nat} {lv : Nat → Bool} {res : Int32} {σ : Sg} (hC : Cx x p s m args meth c cX12_rooms 5 (some .int) RX12) (n : Nat) (x1 : Int32) (x2 : Int32) (x3 : Int32) (x4 : Int32) (H : Heap) (locs : List Loc) (ls : Array Slot) (h : fM_rooms_159 n σ x1 x2 x3 x4 = some res) (hP : Pic x al lv σ H) (hS : va_S (Ab x) s.heap H locs) (hl : lv_has ls 5 [(0, .ref (al 7 0)), (1, .int x1), (2, .int x2), (3, .int x3), (4, .int x4)]) : W p l e (rmm 5 0 0) s m args below meth c H locs 0 0 (MQ below (QP x al lv σ res) args s 0 0 (Ab x)) (F0 m 159 ls []) := by
  induction n generalizing x1 x2 x3 x4 H locs ls with
  | zero => exact nomatch h
  | succ n ih => exact wM_rooms_159_b  hC  _ (fun x1 x2 x3 x4 H locs ls h hP hS hl => ih x1 x2 x3 x4 H locs ls h hP hS hl) x1 x2 x3 x4 H locs ls h hP hS hl
set_option maxHeartbeats 4000000 in
set_option maxRecDepth 20000 in
theorem wM_rooms_0 {p : Program} {l : Launch} {e : Env} {s : State} {m : MethodId} {args : Array Value} {below : List Frame} {meth : Method} {c : Code} {x : Wx} {al : Nat → Nat → Nat} {lv : Nat → Bool} {res : Int32} {σ : Sg} (hC : Cx x p s m args meth c cX12_rooms 5 (some .int) RX12) (v1 : Int32) (v2 : Int32) (H : Heap) (locs : List Loc) (ls : Array Slot) (h : fM_rooms_0 σ v1 v2 = some res) (hP : Pic x al lv σ H) (hS : va_S (Ab x) s.heap H locs) (hl : lv_has ls 5 [(0, .ref (al 7 0)), (1, .int v1), (2, .int v2)]) : W p l e (rmm 5 0 0) s m args below meth c H locs 0 0 (MQ below (QP x al lv σ res) args s 0 0 (Ab x)) (F0 m 0 ls []) := by
  obtain ⟨hx, hb, hml, hown, hts⟩ := hC.1
  unfold fM_rooms_0 at h
  refine lv_iload_n hx hb dX12_rooms_0 rfl (lv_at hl 2 rfl) ?_
  refine lv_iconst (v := 0) hx hb dX12_rooms_1 (by decide) ?_
  refine lv_bipush (v := 11) hx hb dX12_rooms_2 (by decide) ?_
  refine r_cP hS h (fun r hr => r_runS (As := [.int v2, .int 0, .int 11]) (rest := []) hC kS_X12_145 cw_X12_in hP (tM_in x al lv σ v2 0 11 r hr) rfl hl.1 ⟨Nat.le_of_ble_eq_true rfl, Nat.le_of_ble_eq_true rfl⟩ ⟨Nat.le_of_ble_eq_true rfl, Nat.le_of_ble_eq_true rfl⟩ (Nat.le_of_ble_eq_true rfl) dX12_rooms_4) (fun y1 H locs h hP hS => ?_)
  refine lv_if_ne (tgt := 12) hx hb dX12_rooms_7 (by decide) (fun hc => ?_) (fun hc => ?_)
  · replace h := (br h).2 hc
    refine lv_aload_n hx hb dX12_rooms_12 rfl (lv_at hl 0 rfl) ?_
    refine lv_iload_n hx hb dX12_rooms_13 rfl (lv_at hl 1 rfl) ?_
    refine r_cP hS h (fun r hr => r_runV (As := [.int v1]) (rest := []) hC kV_X12_180 cw_X12_isRoom (rc_X12 hC hP) hP (tM_isRoom x al lv σ v1 r hr) rfl hl.1 ⟨Nat.le_of_ble_eq_true rfl, Nat.le_of_ble_eq_true rfl⟩ ⟨Nat.le_of_ble_eq_true rfl, Nat.le_of_ble_eq_true rfl⟩ (Nat.le_of_ble_eq_true rfl) dX12_rooms_14) (fun y2 H locs h hP hS => ?_)
    refine lv_if_ne (tgt := 23) hx hb dX12_rooms_17 (by decide) (fun hc => ?_) (fun hc => ?_)
    · replace h := (br h).2 hc
      refine lv_iload_n hx hb dX12_rooms_23 rfl (lv_at hl 2 rfl) ?_
      refine Classical.byCases (p := v2 = 0) (fun hc => ?_) (fun n0 => ?_)
      · skip
        replace h := (br h).1 hc
        rw [hc]
        refine lv_tableIn (off := 56) (tgt := 80) hx hb dX12_rooms_24 (by decide) (by decide) rfl (by decide) ?_
        refine lv_aload_n hx hb dX12_rooms_80 rfl (lv_at hl 0 rfl) ?_
        refine gt_X12_10 hC hP wf_X12_40 dX12_rooms_81 ?_
        refine lv_iload_n hx hb dX12_rooms_84 rfl (lv_at hl 1 rfl) ?_
        refine r_iald hC hP (aM_10 hP.l7) h dX12_rooms_85 (fun h => ?_)
        exact r_retP hC hP hS rfl h dX12_rooms_86
      · skip
        replace h := (br h).2 n0
        refine Classical.byCases (p := v2 = 1) (fun hc => ?_) (fun n1 => ?_)
        · skip
          replace h := (br h).1 hc
          rw [hc]
          refine lv_tableIn (off := 63) (tgt := 87) hx hb dX12_rooms_24 (by decide) (by decide) rfl (by decide) ?_
          refine lv_aload_n hx hb dX12_rooms_87 rfl (lv_at hl 0 rfl) ?_
          refine gt_X12_11 hC hP wf_X12_43 dX12_rooms_88 ?_
          refine lv_iload_n hx hb dX12_rooms_91 rfl (lv_at hl 1 rfl) ?_
          refine r_iald hC hP (aM_11 hP.l7) h dX12_rooms_92 (fun h => ?_)
          exact r_retP hC hP hS rfl h dX12_rooms_93
        · skip
          replace h := (br h).2 n1
          refine Classical.byCases (p := v2 = 2) (fun hc => ?_) (fun n2 => ?_)
          · skip
            replace h := (br h).1 hc
            rw [hc]
            refine lv_tableIn (off := 70) (tgt := 94) hx hb dX12_rooms_24 (by decide) (by decide) rfl (by decide) ?_
            refine lv_aload_n hx hb dX12_rooms_94 rfl (lv_at hl 0 rfl) ?_
            refine gt_X12_12 hC hP wf_X12_46 dX12_rooms_95 ?_
            refine lv_iload_n hx hb dX12_rooms_98 rfl (lv_at hl 1 rfl) ?_
            refine r_iald hC hP (aM_12 hP.l7) h dX12_rooms_99 (fun h => ?_)
            exact r_retP hC hP hS rfl h dX12_rooms_100
          · skip
            replace h := (br h).2 n2
            refine Classical.byCases (p := v2 = 3) (fun hc => ?_) (fun n3 => ?_)
            · skip
              replace h := (br h).1 hc
              rw [hc]
              refine lv_tableIn (off := 77) (tgt := 101) hx hb dX12_rooms_24 (by decide) (by decide) rfl (by decide) ?_
              refine lv_aload_n hx hb dX12_rooms_101 rfl (lv_at hl 0 rfl) ?_
              refine gt_X12_13 hC hP wf_X12_49 dX12_rooms_102 ?_
              refine lv_iload_n hx hb dX12_rooms_105 rfl (lv_at hl 1 rfl) ?_
              refine r_iald hC hP (aM_13 hP.l7) h dX12_rooms_106 (fun h => ?_)
              exact r_retP hC hP hS rfl h dX12_rooms_107
            · skip
              replace h := (br h).2 n3
              refine Classical.byCases (p := v2 = 4) (fun hc => ?_) (fun n4 => ?_)
              · skip
                replace h := (br h).1 hc
                rw [hc]
                refine lv_tableIn (off := 84) (tgt := 108) hx hb dX12_rooms_24 (by decide) (by decide) rfl (by decide) ?_
                refine lv_aload_n hx hb dX12_rooms_108 rfl (lv_at hl 0 rfl) ?_
                refine gt_X12_14 hC hP wf_X12_52 dX12_rooms_109 ?_
                refine lv_iload_n hx hb dX12_rooms_112 rfl (lv_at hl 1 rfl) ?_
                refine r_iald hC hP (aM_14 hP.l7) h dX12_rooms_113 (fun h => ?_)
                exact r_retP hC hP hS rfl h dX12_rooms_114
              · skip
                replace h := (br h).2 n4
                refine Classical.byCases (p := v2 = 5) (fun hc => ?_) (fun n5 => ?_)
                · skip
                  replace h := (br h).1 hc
                  rw [hc]
                  refine lv_tableIn (off := 91) (tgt := 115) hx hb dX12_rooms_24 (by decide) (by decide) rfl (by decide) ?_
                  refine lv_aload_n hx hb dX12_rooms_115 rfl (lv_at hl 0 rfl) ?_
                  refine lv_iload_n hx hb dX12_rooms_116 rfl (lv_at hl 1 rfl) ?_
                  refine lv_aload_n hx hb dX12_rooms_117 rfl (lv_at hl 0 rfl) ?_
                  refine gt_X12_6 hC hP wf_X12_27 dX12_rooms_118 ?_
                  refine lv_iconst (v := 0) hx hb dX12_rooms_121 (by decide) ?_
                  refine r_iald hC hP (aM_6 hP.l7) h dX12_rooms_122 (fun h => ?_)
                  refine r_cP hS h (fun r hr => r_runV (As := [.int v1, .int (σ 7 6 (0 : Int32).toNatClampNeg)]) (rest := []) hC kV_X12_193 cw_X12_warmth (rc_X12 hC hP) hP (tM_warmth x al lv σ v1 (σ 7 6 (0 : Int32).toNatClampNeg) r hr) rfl hl.1 ⟨Nat.le_of_ble_eq_true rfl, Nat.le_of_ble_eq_true rfl⟩ ⟨Nat.le_of_ble_eq_true rfl, Nat.le_of_ble_eq_true rfl⟩ (Nat.le_of_ble_eq_true rfl) dX12_rooms_123) (fun y3 H locs h hP hS => ?_)
                  exact r_retP hC hP hS rfl h dX12_rooms_126
                · skip
                  replace h := (br h).2 n5
                  refine Classical.byCases (p := v2 = 6) (fun hc => ?_) (fun n6 => ?_)
                  · skip
                    replace h := (br h).1 hc
                    rw [hc]
                    refine lv_tableIn (off := 103) (tgt := 127) hx hb dX12_rooms_24 (by decide) (by decide) rfl (by decide) ?_
                    refine lv_aload_n hx hb dX12_rooms_127 rfl (lv_at hl 0 rfl) ?_
                    refine lv_iload_n hx hb dX12_rooms_128 rfl (lv_at hl 1 rfl) ?_
                    refine lv_iconst (v := (-1)) hx hb dX12_rooms_129 (by decide) ?_
                    refine r_cP hS h (fun r hr => r_runV (As := [.int v1, .int ((-1))]) (rest := []) hC kV_X12_184 cw_X12_countOf (rc_X12 hC hP) hP (tM_countOf x al lv σ v1 ((-1)) r hr) rfl hl.1 ⟨Nat.le_of_ble_eq_true rfl, Nat.le_of_ble_eq_true rfl⟩ ⟨Nat.le_of_ble_eq_true rfl, Nat.le_of_ble_eq_true rfl⟩ (Nat.le_of_ble_eq_true rfl) dX12_rooms_130) (fun y4 H locs h hP hS => ?_)
                    exact r_retP hC hP hS rfl h dX12_rooms_133
                  · skip
                    replace h := (br h).2 n6
                    refine Classical.byCases (p := v2 = 7) (fun hc => ?_) (fun n7 => ?_)
                    · skip
                      replace h := (br h).1 hc
                      rw [hc]
                      refine lv_tableIn (off := 110) (tgt := 134) hx hb dX12_rooms_24 (by decide) (by decide) rfl (by decide) ?_
                      refine lv_aload_n hx hb dX12_rooms_134 rfl (lv_at hl 0 rfl) ?_
                      refine lv_iload_n hx hb dX12_rooms_135 rfl (lv_at hl 1 rfl) ?_
                      refine r_cP hS h (fun r hr => r_runV (As := [.int v1]) (rest := []) hC kV_X12_203 cw_X12_weight (rc_X12 hC hP) hP (tM_weight x al lv σ v1 r hr) rfl hl.1 ⟨Nat.le_of_ble_eq_true rfl, Nat.le_of_ble_eq_true rfl⟩ ⟨Nat.le_of_ble_eq_true rfl, Nat.le_of_ble_eq_true rfl⟩ (Nat.le_of_ble_eq_true rfl) dX12_rooms_136) (fun y5 H locs h hP hS => ?_)
                      exact r_retP hC hP hS rfl h dX12_rooms_139
                    · skip
                      replace h := (br h).2 n7
                      refine Classical.byCases (p := v2 = 8) (fun hc => ?_) (fun n8 => ?_)
                      · skip
                        replace h := (br h).1 hc
                        rw [hc]
                        refine lv_tableIn (off := 116) (tgt := 140) hx hb dX12_rooms_24 (by decide) (by decide) rfl (by decide) ?_
                        refine lv_aload_n hx hb dX12_rooms_140 rfl (lv_at hl 0 rfl) ?_
                        refine gt_X12_15 hC hP wf_X12_55 dX12_rooms_141 ?_
                        refine lv_iload_n hx hb dX12_rooms_144 rfl (lv_at hl 1 rfl) ?_
                        refine r_iald hC hP (aM_15 hP.l7) h dX12_rooms_145 (fun h => ?_)
                        exact r_retP hC hP hS rfl h dX12_rooms_146
                      · skip
                        replace h := (br h).2 n8
                        refine Classical.byCases (p := v2 = 9) (fun hc => ?_) (fun n9 => ?_)
                        · skip
                          replace h := (br h).1 hc
                          rw [hc]
                          refine lv_tableIn (off := 123) (tgt := 147) hx hb dX12_rooms_24 (by decide) (by decide) rfl (by decide) ?_
                          refine lv_aload_n hx hb dX12_rooms_147 rfl (lv_at hl 0 rfl) ?_
                          refine gt_X12_16 hC hP wf_X12_58 dX12_rooms_148 ?_
                          refine lv_iload_n hx hb dX12_rooms_151 rfl (lv_at hl 1 rfl) ?_
                          refine r_iald hC hP (aM_16 hP.l7) h dX12_rooms_152 (fun h => ?_)
                          exact r_retP hC hP hS rfl h dX12_rooms_153
                        · skip
                          replace h := (br h).2 n9
                          have m0 := lv_neT (a := 0) n0 rfl
                          have m1 := lv_neT (a := 1) n1 rfl
                          have m2 := lv_neT (a := 2) n2 rfl
                          have m3 := lv_neT (a := 3) n3 rfl
                          have m4 := lv_neT (a := 4) n4 rfl
                          have m5 := lv_neT (a := 5) n5 rfl
                          have m6 := lv_neT (a := 6) n6 rfl
                          have m7 := lv_neT (a := 7) n7 rfl
                          have m8 := lv_neT (a := 8) n8 rfl
                          have m9 := lv_neT (a := 9) n9 rfl
                          refine lv_tableOut (tgt := 154) hx hb dX12_rooms_24 (by omega) (by decide) ?_
                          refine lv_iconst (v := 0) hx hb dX12_rooms_154 (by decide) ?_
                          refine lv_istore_n (lv' := [(3, .int 0), (0, .ref (al 7 0)), (1, .int v1), (2, .int v2)]) hx hb dX12_rooms_155 rfl hl (by decide) rfl (fun ls hl => ?_)
                          refine lv_iconst (v := 0) hx hb dX12_rooms_156 (by decide) ?_
                          refine lv_istore (lv' := [(4, .int 0), (3, .int 0), (0, .ref (al 7 0)), (1, .int v1), (2, .int v2)]) hx hb dX12_rooms_157 hl (by decide) rfl (fun ls hl => ?_)
                          exact wM_rooms_159  hC  FU v1 v2 0 0 H locs ls h hP hS (lv_sub hl [2, 3, 4, 1, 0] rfl)
    · replace h := (br h).1 hc
      refine lv_bipush (v := (-2)) hx hb dX12_rooms_20 (by decide) ?_
      exact r_retP hC hP hS rfl h dX12_rooms_22
  · replace h := (br h).1 hc
    refine lv_iconst (v := (-1)) hx hb dX12_rooms_10 (by decide) ?_
    exact r_retP hC hP hS rfl h dX12_rooms_11

set_option maxRecDepth 20000 in
theorem tM_rooms {l : Launch} (x : Wx) (al : Nat → Nat → Nat) (lv : Nat → Bool) (σ : Sg) (v1 : Int32) (v2 : Int32) (res : Int32) (h : fM_rooms σ v1 v2 = some res) : Met l yX12_rooms (Cond.code yX12_rooms cX12_rooms 5 (some .int) :: lwg) (rmm 5 0 0) (va_Pc [.ref (al 7 0), .int v1, .int v2] (Wd x al lv σ)) (QP x al lv σ res) 0 0 (Ab x) := by
  refine met_W (by decide) (Nat.le_of_ble_eq_true rfl) rfl (fun p e s m args below meth c ls hC hP hS hl => ?_)
  exact wM_rooms_0  hC v1 v2 _ _ ls h hP hS hl
set_option maxHeartbeats 4000000 in
set_option maxRecDepth 20000 in
theorem wM_lineOf_0 {p : Program} {l : Launch} {e : Env} {s : State} {m : MethodId} {args : Array Value} {below : List Frame} {meth : Method} {c : Code} {x : Wx} {al : Nat → Nat → Nat} {lv : Nat → Bool} {res : Int32} {σ : Sg} (hC : Cx x p s m args meth c cX12_lineOf 4 (some .int) RX12) (v1 : Int32) (v2 : Int32) (v3 : Int32) (H : Heap) (locs : List Loc) (ls : Array Slot) (h : fM_lineOf_0 σ v1 v2 v3 = some res) (hP : Pic x al lv σ H) (hS : va_S (Ab x) s.heap H locs) (hl : lv_has ls 4 [(0, .ref (al 7 0)), (1, .int v1), (2, .int v2), (3, .int v3)]) : W p l e (rmm 1 0 0) s m args below meth c H locs 0 0 (MQ below (QP x al lv σ res) args s 0 0 (Ab x)) (F0 m 0 ls []) := by
  obtain ⟨hx, hb, hml, hown, hts⟩ := hC.1
  unfold fM_lineOf_0 at h
  refine lv_bipush (v := 30) hx hb dX12_lineOf_0 (by decide) ?_
  refine lv_iload_n hx hb dX12_lineOf_2 rfl (lv_at hl 1 rfl) ?_
  refine lv_imul hx hb dX12_lineOf_3 ?_
  refine lv_iload_n hx hb dX12_lineOf_4 rfl (lv_at hl 3 rfl) ?_
  refine lv_iadd hx hb dX12_lineOf_5 ?_
  refine lv_aload_n hx hb dX12_lineOf_6 rfl (lv_at hl 0 rfl) ?_
  refine gt_X12_12 hC hP wf_X12_46 dX12_lineOf_7 ?_
  refine lv_iload_n hx hb dX12_lineOf_10 rfl (lv_at hl 1 rfl) ?_
  refine r_iald hC hP (aM_12 hP.l7) h dX12_lineOf_11 (fun h => ?_)
  refine lv_iload_n hx hb dX12_lineOf_12 rfl (lv_at hl 2 rfl) ?_
  refine lv_imul hx hb dX12_lineOf_13 ?_
  refine lv_iadd hx hb dX12_lineOf_14 ?_
  exact r_retP hC hP hS rfl h dX12_lineOf_15

set_option maxRecDepth 20000 in
theorem tM_lineOf {l : Launch} (x : Wx) (al : Nat → Nat → Nat) (lv : Nat → Bool) (σ : Sg) (v1 : Int32) (v2 : Int32) (v3 : Int32) (res : Int32) (h : fM_lineOf σ v1 v2 v3 = some res) : Met l yX12_lineOf (Cond.code yX12_lineOf cX12_lineOf 4 (some .int) :: lwg) (rmm 1 0 0) (va_Pc [.ref (al 7 0), .int v1, .int v2, .int v3] (Wd x al lv σ)) (QP x al lv σ res) 0 0 (Ab x) := by
  refine met_W (by decide) (Nat.le_of_ble_eq_true rfl) rfl (fun p e s m args below meth c ls hC hP hS hl => ?_)
  exact wM_lineOf_0  hC v1 v2 v3 _ _ ls h hP hS hl
set_option maxHeartbeats 4000000 in
set_option maxRecDepth 20000 in
theorem wM_lay_47 {p : Program} {l : Launch} {e : Env} {s : State} {m : MethodId} {args : Array Value} {below : List Frame} {meth : Method} {c : Code} {x : Wx} {al : Nat → Nat → Nat} {lv : Nat → Bool} {res : Int32 × Sg} (hC : Cx x p s m args meth c cX12_lay 5 (some .int) RX12) (σ : Sg) (H : Heap) (locs : List Loc) (ls : Array Slot) (h : fM_lay_47 σ = some res) (hP : Pic x al lv σ H) (hS : va_S (Ab x) s.heap H locs) (hl : lv_has ls 5 [(0, .ref (al 7 0))]) : W p l e (rmm 3 0 0) s m args below meth c H locs 0 0 (MQ below (QI x al lv res) args s 0 0 (Ab x)) (F0 m 47 ls []) := by
  obtain ⟨hx, hb, hml, hown, hts⟩ := hC.1
  unfold fM_lay_47 at h
  refine lv_aload_n hx hb dX12_lay_47 rfl (lv_at hl 0 rfl) ?_
  refine lv_iconst (v := (-1)) hx hb dX12_lay_48 (by decide) ?_
  refine r_cI hS h (fun r hr => r_runV (As := [.int ((-1))]) (rest := []) hC kV_X12_151 cw_X12_ends (rc_X12 hC hP) hP (tM_ends x al lv σ ((-1)) r hr) rfl hl.1 ⟨Nat.le_of_ble_eq_true rfl, Nat.le_of_ble_eq_true rfl⟩ ⟨Nat.le_of_ble_eq_true rfl, Nat.le_of_ble_eq_true rfl⟩ (Nat.le_of_ble_eq_true rfl) dX12_lay_49) (fun y12 σ13 H locs h hP hS => ?_)
  exact r_retI hC hP hS rfl h dX12_lay_52

set_option maxHeartbeats 4000000 in
set_option maxRecDepth 20000 in
theorem wM_lay_93 {p : Program} {l : Launch} {e : Env} {s : State} {m : MethodId} {args : Array Value} {below : List Frame} {meth : Method} {c : Code} {x : Wx} {al : Nat → Nat → Nat} {lv : Nat → Bool} {res : Int32 × Sg} (hC : Cx x p s m args meth c cX12_lay 5 (some .int) RX12) (σ : Sg) (H : Heap) (locs : List Loc) (ls : Array Slot) (h : fM_lay_93 σ = some res) (hP : Pic x al lv σ H) (hS : va_S (Ab x) s.heap H locs) (hl : lv_has ls 5 [(0, .ref (al 7 0))]) : W p l e (rmm 3 0 0) s m args below meth c H locs 0 0 (MQ below (QI x al lv res) args s 0 0 (Ab x)) (F0 m 93 ls []) := by
  obtain ⟨hx, hb, hml, hown, hts⟩ := hC.1
  unfold fM_lay_93 at h
  refine lv_aload_n hx hb dX12_lay_93 rfl (lv_at hl 0 rfl) ?_
  refine lv_bipush (v := (-7)) hx hb dX12_lay_94 (by decide) ?_
  refine r_cI hS h (fun r hr => r_runV (As := [.int ((-7))]) (rest := []) hC kV_X12_151 cw_X12_ends (rc_X12 hC hP) hP (tM_ends x al lv σ ((-7)) r hr) rfl hl.1 ⟨Nat.le_of_ble_eq_true rfl, Nat.le_of_ble_eq_true rfl⟩ ⟨Nat.le_of_ble_eq_true rfl, Nat.le_of_ble_eq_true rfl⟩ (Nat.le_of_ble_eq_true rfl) dX12_lay_96) (fun y10 σ11 H locs h hP hS => ?_)
  exact r_retI hC hP hS rfl h dX12_lay_99

set_option maxHeartbeats 4000000 in
set_option maxRecDepth 20000 in
theorem wM_lay_100 {p : Program} {l : Launch} {e : Env} {s : State} {m : MethodId} {args : Array Value} {below : List Frame} {meth : Method} {c : Code} {x : Wx} {al : Nat → Nat → Nat} {lv : Nat → Bool} {res : Int32 × Sg} (hC : Cx x p s m args meth c cX12_lay 5 (some .int) RX12) (σ : Sg) (x4 : Int32) (H : Heap) (locs : List Loc) (ls : Array Slot) (h : fM_lay_100 σ x4 = some res) (hP : Pic x al lv σ H) (hS : va_S (Ab x) s.heap H locs) (hl : lv_has ls 5 [(0, .ref (al 7 0)), (4, .int x4)]) : W p l e (rmm 3 0 0) s m args below meth c H locs 0 0 (MQ below (QI x al lv res) args s 0 0 (Ab x)) (F0 m 100 ls []) := by
  obtain ⟨hx, hb, hml, hown, hts⟩ := hC.1
  unfold fM_lay_100 at h
  refine lv_aload_n hx hb dX12_lay_100 rfl (lv_at hl 0 rfl) ?_
  refine gt_X12_17 hC hP wf_X12_61 dX12_lay_101 ?_
  refine lv_iload hx hb dX12_lay_104 (lv_at hl 1 rfl) ?_
  refine lv_iconst (v := 1) hx hb dX12_lay_106 (by decide) ?_
  refine r_zast hC hP hS (aM_17 hP.l7) h dX12_lay_107 (fun σ7 H locs h hP hS => ?_)
  refine lv_aload_n hx hb dX12_lay_108 rfl (lv_at hl 0 rfl) ?_
  refine lv_iconst (v := 0) hx hb dX12_lay_109 (by decide) ?_
  refine r_cI hS h (fun r hr => r_runV (As := [.int 0]) (rest := []) hC kV_X12_151 cw_X12_ends (rc_X12 hC hP) hP (tM_ends x al lv σ7 0 r hr) rfl hl.1 ⟨Nat.le_of_ble_eq_true rfl, Nat.le_of_ble_eq_true rfl⟩ ⟨Nat.le_of_ble_eq_true rfl, Nat.le_of_ble_eq_true rfl⟩ (Nat.le_of_ble_eq_true rfl) dX12_lay_110) (fun y8 σ9 H locs h hP hS => ?_)
  exact r_retI hC hP hS rfl h dX12_lay_113

set_option maxHeartbeats 4000000 in
set_option maxRecDepth 20000 in
theorem wM_lay_0 {p : Program} {l : Launch} {e : Env} {s : State} {m : MethodId} {args : Array Value} {below : List Frame} {meth : Method} {c : Code} {x : Wx} {al : Nat → Nat → Nat} {lv : Nat → Bool} {res : Int32 × Sg} (hC : Cx x p s m args meth c cX12_lay 5 (some .int) RX12) (σ : Sg) (v1 : Int32) (v2 : Int32) (v3 : Int32) (H : Heap) (locs : List Loc) (ls : Array Slot) (h : fM_lay_0 σ v1 v2 v3 = some res) (hP : Pic x al lv σ H) (hS : va_S (Ab x) s.heap H locs) (hl : lv_has ls 5 [(0, .ref (al 7 0)), (1, .int v1), (2, .int v2), (3, .int v3)]) : W p l e (rmm 3 0 0) s m args below meth c H locs 0 0 (MQ below (QI x al lv res) args s 0 0 (Ab x)) (F0 m 0 ls []) := by
  obtain ⟨hx, hb, hml, hown, hts⟩ := hC.1
  unfold fM_lay_0 at h
  refine lv_aload_n hx hb dX12_lay_0 rfl (lv_at hl 0 rfl) ?_
  refine lv_iload_n hx hb dX12_lay_1 rfl (lv_at hl 1 rfl) ?_
  refine r_cP hS h (fun r hr => r_runV (As := [.int v1]) (rest := []) hC kV_X12_180 cw_X12_isRoom (rc_X12 hC hP) hP (tM_isRoom x al lv σ v1 r hr) rfl hl.1 ⟨Nat.le_of_ble_eq_true rfl, Nat.le_of_ble_eq_true rfl⟩ ⟨Nat.le_of_ble_eq_true rfl, Nat.le_of_ble_eq_true rfl⟩ (Nat.le_of_ble_eq_true rfl) dX12_lay_2) (fun y1 H locs h hP hS => ?_)
  refine lv_if_ne (tgt := 15) hx hb dX12_lay_5 (by decide) (fun hc => ?_) (fun hc => ?_)
  · replace h := (br h).2 hc
    refine lv_iload_n hx hb dX12_lay_15 rfl (lv_at hl 2 rfl) ?_
    refine lv_iconst (v := 0) hx hb dX12_lay_16 (by decide) ?_
    refine lv_aload_n hx hb dX12_lay_17 rfl (lv_at hl 0 rfl) ?_
    refine gt_X12_13 hC hP wf_X12_49 dX12_lay_18 ?_
    refine lv_iload_n hx hb dX12_lay_21 rfl (lv_at hl 1 rfl) ?_
    refine r_iald hC hP (aM_13 hP.l7) h dX12_lay_22 (fun h => ?_)
    refine lv_iconst (v := 1) hx hb dX12_lay_23 (by decide) ?_
    refine lv_isub hx hb dX12_lay_24 ?_
    refine r_cP hS h (fun r hr => r_runS (As := [.int v2, .int 0, .int ((σ 7 13 v1.toNatClampNeg) - 1)]) (rest := []) hC kS_X12_145 cw_X12_in hP (tM_in x al lv σ v2 0 ((σ 7 13 v1.toNatClampNeg) - 1) r hr) rfl hl.1 ⟨Nat.le_of_ble_eq_true rfl, Nat.le_of_ble_eq_true rfl⟩ ⟨Nat.le_of_ble_eq_true rfl, Nat.le_of_ble_eq_true rfl⟩ (Nat.le_of_ble_eq_true rfl) dX12_lay_25) (fun y2 H locs h hP hS => ?_)
    refine lv_if_eq (tgt := 47) hx hb dX12_lay_28 (by decide) (fun hc => ?_) (fun hc => ?_)
    · replace h := (br h).1 hc
      exact wM_lay_47  hC  σ H locs ls h hP hS (lv_sub hl [0] rfl)
    · replace h := (br h).2 hc
      refine lv_iload_n hx hb dX12_lay_31 rfl (lv_at hl 3 rfl) ?_
      refine lv_iconst (v := 0) hx hb dX12_lay_32 (by decide) ?_
      refine lv_aload_n hx hb dX12_lay_33 rfl (lv_at hl 0 rfl) ?_
      refine gt_X12_12 hC hP wf_X12_46 dX12_lay_34 ?_
      refine lv_iload_n hx hb dX12_lay_37 rfl (lv_at hl 1 rfl) ?_
      refine r_iald hC hP (aM_12 hP.l7) h dX12_lay_38 (fun h => ?_)
      refine lv_iconst (v := 1) hx hb dX12_lay_39 (by decide) ?_
      refine lv_isub hx hb dX12_lay_40 ?_
      refine r_cP hS h (fun r hr => r_runS (As := [.int v3, .int 0, .int ((σ 7 12 v1.toNatClampNeg) - 1)]) (rest := []) hC kS_X12_145 cw_X12_in hP (tM_in x al lv σ v3 0 ((σ 7 12 v1.toNatClampNeg) - 1) r hr) rfl hl.1 ⟨Nat.le_of_ble_eq_true rfl, Nat.le_of_ble_eq_true rfl⟩ ⟨Nat.le_of_ble_eq_true rfl, Nat.le_of_ble_eq_true rfl⟩ (Nat.le_of_ble_eq_true rfl) dX12_lay_41) (fun y3 H locs h hP hS => ?_)
      refine lv_if_ne (tgt := 53) hx hb dX12_lay_44 (by decide) (fun hc => ?_) (fun hc => ?_)
      · replace h := (br h).2 hc
        refine lv_aload_n hx hb dX12_lay_53 rfl (lv_at hl 0 rfl) ?_
        refine lv_iload_n hx hb dX12_lay_54 rfl (lv_at hl 1 rfl) ?_
        refine lv_iload_n hx hb dX12_lay_55 rfl (lv_at hl 2 rfl) ?_
        refine lv_iload_n hx hb dX12_lay_56 rfl (lv_at hl 3 rfl) ?_
        refine r_cP hS h (fun r hr => r_runV (As := [.int v1, .int v2, .int v3]) (rest := []) hC kV_X12_209 cw_X12_lineOf (rc_X12 hC hP) hP (tM_lineOf x al lv σ v1 v2 v3 r hr) rfl hl.1 ⟨Nat.le_of_ble_eq_true rfl, Nat.le_of_ble_eq_true rfl⟩ ⟨Nat.le_of_ble_eq_true rfl, Nat.le_of_ble_eq_true rfl⟩ (Nat.le_of_ble_eq_true rfl) dX12_lay_57) (fun y4 H locs h hP hS => ?_)
        refine lv_istore (lv' := [(4, .int y4), (0, .ref (al 7 0)), (1, .int v1), (2, .int v2), (3, .int v3)]) hx hb dX12_lay_60 hl (by decide) rfl (fun ls hl => ?_)
        refine lv_aload_n hx hb dX12_lay_62 rfl (lv_at hl 1 rfl) ?_
        refine gt_X12_17 hC hP wf_X12_61 dX12_lay_63 ?_
        refine lv_iload hx hb dX12_lay_66 (lv_at hl 0 rfl) ?_
        refine r_zald hC hP (aM_17 hP.l7) h dX12_lay_68 (fun h => ?_)
        refine lv_if_ne (tgt := 93) hx hb dX12_lay_69 (by decide) (fun hc => ?_) (fun hc => ?_)
        · replace h := (br h).2 hc
          exact wM_lay_93  hC  σ H locs ls h hP hS (lv_sub hl [1] rfl)
        · replace h := (br h).1 hc
          refine lv_iload_n hx hb dX12_lay_72 rfl (lv_at hl 3 rfl) ?_
          refine lv_if_le (tgt := 100) hx hb dX12_lay_73 (by decide) (fun hc => ?_) (fun hc => ?_)
          · replace h := (br h).1 hc
            exact wM_lay_100  hC  σ y4 H locs ls h hP hS (lv_sub hl [1, 0] rfl)
          · replace h := (br h).2 hc
            refine lv_aload_n hx hb dX12_lay_76 rfl (lv_at hl 1 rfl) ?_
            refine gt_X12_17 hC hP wf_X12_61 dX12_lay_77 ?_
            refine lv_iload hx hb dX12_lay_80 (lv_at hl 0 rfl) ?_
            refine lv_aload_n hx hb dX12_lay_82 rfl (lv_at hl 1 rfl) ?_
            refine gt_X12_12 hC hP wf_X12_46 dX12_lay_83 ?_
            refine lv_iload_n hx hb dX12_lay_86 rfl (lv_at hl 2 rfl) ?_
            refine r_iald hC hP (aM_12 hP.l7) h dX12_lay_87 (fun h => ?_)
            refine lv_isub hx hb dX12_lay_88 ?_
            refine r_zald hC hP (aM_17 hP.l7) h dX12_lay_89 (fun h => ?_)
            refine lv_if_ne (tgt := 100) hx hb dX12_lay_90 (by decide) (fun hc => ?_) (fun hc => ?_)
            · replace h := (br h).2 hc
              exact wM_lay_100  hC  σ y4 H locs ls h hP hS (lv_sub hl [1, 0] rfl)
            · replace h := (br h).1 hc
              exact wM_lay_93  hC  σ H locs ls h hP hS (lv_sub hl [1] rfl)
      · replace h := (br h).1 hc
        exact wM_lay_47  hC  σ H locs ls h hP hS (lv_sub hl [0] rfl)
  · replace h := (br h).1 hc
    refine lv_aload_n hx hb dX12_lay_8 rfl (lv_at hl 0 rfl) ?_
    refine lv_bipush (v := (-2)) hx hb dX12_lay_9 (by decide) ?_
    refine r_cI hS h (fun r hr => r_runV (As := [.int ((-2))]) (rest := []) hC kV_X12_151 cw_X12_ends (rc_X12 hC hP) hP (tM_ends x al lv σ ((-2)) r hr) rfl hl.1 ⟨Nat.le_of_ble_eq_true rfl, Nat.le_of_ble_eq_true rfl⟩ ⟨Nat.le_of_ble_eq_true rfl, Nat.le_of_ble_eq_true rfl⟩ (Nat.le_of_ble_eq_true rfl) dX12_lay_11) (fun y5 σ6 H locs h hP hS => ?_)
    exact r_retI hC hP hS rfl h dX12_lay_14

set_option maxRecDepth 20000 in
theorem tM_lay {l : Launch} (x : Wx) (al : Nat → Nat → Nat) (lv : Nat → Bool) (σ : Sg) (v1 : Int32) (v2 : Int32) (v3 : Int32) (res : Int32 × Sg) (h : fM_lay σ v1 v2 v3 = some res) : Met l yX12_lay (Cond.code yX12_lay cX12_lay 5 (some .int) :: lwg) (rmm 3 0 0) (va_Pc [.ref (al 7 0), .int v1, .int v2, .int v3] (Wd x al lv σ)) (QI x al lv res) 0 0 (Ab x) := by
  refine met_W (by decide) (Nat.le_of_ble_eq_true rfl) rfl (fun p e s m args below meth c ls hC hP hS hl => ?_)
  exact wM_lay_0  hC σ v1 v2 v3 _ _ ls h hP hS hl
set_option maxHeartbeats 4000000 in
set_option maxRecDepth 20000 in
theorem wM_tear_47 {p : Program} {l : Launch} {e : Env} {s : State} {m : MethodId} {args : Array Value} {below : List Frame} {meth : Method} {c : Code} {x : Wx} {al : Nat → Nat → Nat} {lv : Nat → Bool} {res : Int32 × Sg} (hC : Cx x p s m args meth c cX12_tear 7 (some .int) RX12) (σ : Sg) (H : Heap) (locs : List Loc) (ls : Array Slot) (h : fM_tear_47 σ = some res) (hP : Pic x al lv σ H) (hS : va_S (Ab x) s.heap H locs) (hl : lv_has ls 7 [(0, .ref (al 7 0))]) : W p l e (rmm 3 0 0) s m args below meth c H locs 0 0 (MQ below (QI x al lv res) args s 0 0 (Ab x)) (F0 m 47 ls []) := by
  obtain ⟨hx, hb, hml, hown, hts⟩ := hC.1
  unfold fM_tear_47 at h
  refine lv_aload_n hx hb dX12_tear_47 rfl (lv_at hl 0 rfl) ?_
  refine lv_iconst (v := (-1)) hx hb dX12_tear_48 (by decide) ?_
  refine r_cI hS h (fun r hr => r_runV (As := [.int ((-1))]) (rest := []) hC kV_X12_151 cw_X12_ends (rc_X12 hC hP) hP (tM_ends x al lv σ ((-1)) r hr) rfl hl.1 ⟨Nat.le_of_ble_eq_true rfl, Nat.le_of_ble_eq_true rfl⟩ ⟨Nat.le_of_ble_eq_true rfl, Nat.le_of_ble_eq_true rfl⟩ (Nat.le_of_ble_eq_true rfl) dX12_tear_49) (fun y16 σ17 H locs h hP hS => ?_)
  exact r_retI hC hP hS rfl h dX12_tear_52

set_option maxHeartbeats 4000000 in
set_option maxRecDepth 20000 in
theorem wM_tear_167 {p : Program} {l : Launch} {e : Env} {s : State} {m : MethodId} {args : Array Value} {below : List Frame} {meth : Method} {c : Code} {x : Wx} {al : Nat → Nat → Nat} {lv : Nat → Bool} {res : Int32 × Sg} (hC : Cx x p s m args meth c cX12_tear 7 (some .int) RX12) (k118 : Sg → Int32 → Int32 → Int32 → Int32 → Int32 → Int32 → Option (Int32 × Sg)) (hk118 : ∀ (σ : Sg) (x1 : Int32) (x2 : Int32) (x3 : Int32) (x4 : Int32) (x5 : Int32) (x6 : Int32) (H : Heap) (locs : List Loc) (ls : Array Slot), k118 σ x1 x2 x3 x4 x5 x6 = some res → Pic x al lv σ H → va_S (Ab x) s.heap H locs → lv_has ls 7 [(0, .ref (al 7 0)), (1, .int x1), (2, .int x2), (3, .int x3), (4, .int x4), (5, .int x5), (6, .int x6)] → W p l e (rmm 3 0 0) s m args below meth c H locs 0 0 (MQ below (QI x al lv res) args s 0 0 (Ab x)) (F0 m 118 ls [])) (σ : Sg) (x1 : Int32) (x2 : Int32) (x3 : Int32) (x4 : Int32) (x6 : Int32) (t0 : Int32) (H : Heap) (locs : List Loc) (ls : Array Slot) (h : fM_tear_167 k118 σ x1 x2 x3 x4 x6 t0 = some res) (hP : Pic x al lv σ H) (hS : va_S (Ab x) s.heap H locs) (hl : lv_has ls 7 [(0, .ref (al 7 0)), (1, .int x1), (2, .int x2), (3, .int x3), (4, .int x4), (6, .int x6)]) : W p l e (rmm 3 0 0) s m args below meth c H locs 0 0 (MQ below (QI x al lv res) args s 0 0 (Ab x)) (F0 m 167 ls [.int t0]) := by
  obtain ⟨hx, hb, hml, hown, hts⟩ := hC.1
  unfold fM_tear_167 at h
  refine lv_istore (lv' := [(5, .int t0), (0, .ref (al 7 0)), (1, .int x1), (2, .int x2), (3, .int x3), (4, .int x4), (6, .int x6)]) hx hb dX12_tear_167 hl (by decide) rfl (fun ls hl => ?_)
  refine r_iinc (v := 1) hC h dX12_tear_169 hl (k := 6) rfl rfl (by decide) (fun y15 => [(6, .int y15), (5, .int t0), (0, .ref (al 7 0)), (1, .int x1), (2, .int x2), (3, .int x3), (4, .int x4)]) (fun _ => rfl) (fun y15 ls h hl => ?_)
  refine lv_goto (tgt := 118) hx hb dX12_tear_172 (by decide) ?_
  exact hk118 σ x1 x2 x3 x4 t0 y15 H locs ls h hP hS (lv_sub hl [2, 3, 4, 5, 6, 1, 0] rfl)

set_option maxHeartbeats 4000000 in
set_option maxRecDepth 20000 in
theorem wM_tear_162 {p : Program} {l : Launch} {e : Env} {s : State} {m : MethodId} {args : Array Value} {below : List Frame} {meth : Method} {c : Code} {x : Wx} {al : Nat → Nat → Nat} {lv : Nat → Bool} {res : Int32 × Sg} (hC : Cx x p s m args meth c cX12_tear 7 (some .int) RX12) (k118 : Sg → Int32 → Int32 → Int32 → Int32 → Int32 → Int32 → Option (Int32 × Sg)) (hk118 : ∀ (σ : Sg) (x1 : Int32) (x2 : Int32) (x3 : Int32) (x4 : Int32) (x5 : Int32) (x6 : Int32) (H : Heap) (locs : List Loc) (ls : Array Slot), k118 σ x1 x2 x3 x4 x5 x6 = some res → Pic x al lv σ H → va_S (Ab x) s.heap H locs → lv_has ls 7 [(0, .ref (al 7 0)), (1, .int x1), (2, .int x2), (3, .int x3), (4, .int x4), (5, .int x5), (6, .int x6)] → W p l e (rmm 3 0 0) s m args below meth c H locs 0 0 (MQ below (QI x al lv res) args s 0 0 (Ab x)) (F0 m 118 ls [])) (σ : Sg) (x1 : Int32) (x2 : Int32) (x3 : Int32) (x4 : Int32) (x6 : Int32) (H : Heap) (locs : List Loc) (ls : Array Slot) (h : fM_tear_162 k118 σ x1 x2 x3 x4 x6 = some res) (hP : Pic x al lv σ H) (hS : va_S (Ab x) s.heap H locs) (hl : lv_has ls 7 [(0, .ref (al 7 0)), (1, .int x1), (2, .int x2), (3, .int x3), (4, .int x4), (6, .int x6)]) : W p l e (rmm 3 0 0) s m args below meth c H locs 0 0 (MQ below (QI x al lv res) args s 0 0 (Ab x)) (F0 m 162 ls []) := by
  obtain ⟨hx, hb, hml, hown, hts⟩ := hC.1
  unfold fM_tear_162 at h
  refine lv_iconst (v := 1) hx hb dX12_tear_162 (by decide) ?_
  refine lv_goto (tgt := 167) hx hb dX12_tear_163 (by decide) ?_
  exact wM_tear_167  hC k118 hk118 σ x1 x2 x3 x4 x6 1 H locs ls h hP hS (lv_sub hl [0, 1, 2, 3, 4, 5] rfl)

set_option maxHeartbeats 4000000 in
set_option maxRecDepth 20000 in
theorem wM_tear_118_b {p : Program} {l : Launch} {e : Env} {s : State} {m : MethodId} {args : Array Value} {below : List Frame} {meth : Method} {c : Code} {x : Wx} {al : Nat → Nat → Nat} {lv : Nat → Bool} {res : Int32 × Sg} (hC : Cx x p s m args meth c cX12_tear 7 (some .int) RX12) (k118 : Sg → Int32 → Int32 → Int32 → Int32 → Int32 → Int32 → Option (Int32 × Sg)) (hk118 : ∀ (σ : Sg) (x1 : Int32) (x2 : Int32) (x3 : Int32) (x4 : Int32) (x5 : Int32) (x6 : Int32) (H : Heap) (locs : List Loc) (ls : Array Slot), k118 σ x1 x2 x3 x4 x5 x6 = some res → Pic x al lv σ H → va_S (Ab x) s.heap H locs → lv_has ls 7 [(0, .ref (al 7 0)), (1, .int x1), (2, .int x2), (3, .int x3), (4, .int x4), (5, .int x5), (6, .int x6)] → W p l e (rmm 3 0 0) s m args below meth c H locs 0 0 (MQ below (QI x al lv res) args s 0 0 (Ab x)) (F0 m 118 ls [])) (σ : Sg) (x1 : Int32) (x2 : Int32) (x3 : Int32) (x4 : Int32) (x5 : Int32) (x6 : Int32) (H : Heap) (locs : List Loc) (ls : Array Slot) (h : fM_tear_118_b k118 σ x1 x2 x3 x4 x5 x6 = some res) (hP : Pic x al lv σ H) (hS : va_S (Ab x) s.heap H locs) (hl : lv_has ls 7 [(0, .ref (al 7 0)), (1, .int x1), (2, .int x2), (3, .int x3), (4, .int x4), (5, .int x5), (6, .int x6)]) : W p l e (rmm 3 0 0) s m args below meth c H locs 0 0 (MQ below (QI x al lv res) args s 0 0 (Ab x)) (F0 m 118 ls []) := by
  obtain ⟨hx, hb, hml, hown, hts⟩ := hC.1
  unfold fM_tear_118_b at h
  refine lv_iload hx hb dX12_tear_118 (lv_at hl 6 rfl) ?_
  refine lv_aload_n hx hb dX12_tear_120 rfl (lv_at hl 0 rfl) ?_
  refine gt_X12_11 hC hP wf_X12_43 dX12_tear_121 ?_
  refine lv_iload_n hx hb dX12_tear_124 rfl (lv_at hl 1 rfl) ?_
  refine r_iald hC hP (aM_11 hP.l7) h dX12_tear_125 (fun h => ?_)
  refine lv_icmp_ge (tgt := 175) hx hb dX12_tear_126 (by decide) (fun hc => ?_) (fun hc => ?_)
  · replace h := (br h).1 hc
    refine lv_iload hx hb dX12_tear_175 (lv_at hl 5 rfl) ?_
    refine lv_if_eq (tgt := 187) hx hb dX12_tear_177 (by decide) (fun hc => ?_) (fun hc => ?_)
    · replace h := (br h).1 hc
      refine lv_aload_n hx hb dX12_tear_187 rfl (lv_at hl 0 rfl) ?_
      refine gt_X12_17 hC hP wf_X12_61 dX12_tear_188 ?_
      refine lv_iload hx hb dX12_tear_191 (lv_at hl 4 rfl) ?_
      refine lv_iconst (v := 0) hx hb dX12_tear_193 (by decide) ?_
      refine r_zast hC hP hS (aM_17 hP.l7) h dX12_tear_194 (fun σ9 H locs h hP hS => ?_)
      refine lv_aload_n hx hb dX12_tear_195 rfl (lv_at hl 0 rfl) ?_
      refine lv_iconst (v := 0) hx hb dX12_tear_196 (by decide) ?_
      refine r_cI hS h (fun r hr => r_runV (As := [.int 0]) (rest := []) hC kV_X12_151 cw_X12_ends (rc_X12 hC hP) hP (tM_ends x al lv σ9 0 r hr) rfl hl.1 ⟨Nat.le_of_ble_eq_true rfl, Nat.le_of_ble_eq_true rfl⟩ ⟨Nat.le_of_ble_eq_true rfl, Nat.le_of_ble_eq_true rfl⟩ (Nat.le_of_ble_eq_true rfl) dX12_tear_197) (fun y10 σ11 H locs h hP hS => ?_)
      exact r_retI hC hP hS rfl h dX12_tear_200
    · replace h := (br h).2 hc
      refine lv_aload_n hx hb dX12_tear_180 rfl (lv_at hl 0 rfl) ?_
      refine lv_bipush (v := (-7)) hx hb dX12_tear_181 (by decide) ?_
      refine r_cI hS h (fun r hr => r_runV (As := [.int ((-7))]) (rest := []) hC kV_X12_151 cw_X12_ends (rc_X12 hC hP) hP (tM_ends x al lv σ ((-7)) r hr) rfl hl.1 ⟨Nat.le_of_ble_eq_true rfl, Nat.le_of_ble_eq_true rfl⟩ ⟨Nat.le_of_ble_eq_true rfl, Nat.le_of_ble_eq_true rfl⟩ (Nat.le_of_ble_eq_true rfl) dX12_tear_183) (fun y12 σ13 H locs h hP hS => ?_)
      exact r_retI hC hP hS rfl h dX12_tear_186
  · replace h := (br h).2 hc
    refine lv_iload hx hb dX12_tear_129 (lv_at hl 5 rfl) ?_
    refine lv_if_ne (tgt := 162) hx hb dX12_tear_131 (by decide) (fun hc => ?_) (fun hc => ?_)
    · replace h := (br h).2 hc
      exact wM_tear_162  hC k118 hk118 σ x1 x2 x3 x4 x6 H locs ls h hP hS (lv_sub hl [0, 1, 2, 3, 4, 6] rfl)
    · replace h := (br h).1 hc
      refine lv_aload_n hx hb dX12_tear_134 rfl (lv_at hl 0 rfl) ?_
      refine lv_iload_n hx hb dX12_tear_135 rfl (lv_at hl 1 rfl) ?_
      refine lv_iload hx hb dX12_tear_136 (lv_at hl 6 rfl) ?_
      refine lv_aload_n hx hb dX12_tear_138 rfl (lv_at hl 0 rfl) ?_
      refine gt_X12_11 hC hP wf_X12_43 dX12_tear_139 ?_
      refine lv_iload_n hx hb dX12_tear_142 rfl (lv_at hl 1 rfl) ?_
      refine r_iald hC hP (aM_11 hP.l7) h dX12_tear_143 (fun h => ?_)
      refine lv_iload_n hx hb dX12_tear_144 rfl (lv_at hl 3 rfl) ?_
      refine lv_aload_n hx hb dX12_tear_145 rfl (lv_at hl 0 rfl) ?_
      refine gt_X12_12 hC hP wf_X12_46 dX12_tear_146 ?_
      refine lv_iload_n hx hb dX12_tear_149 rfl (lv_at hl 1 rfl) ?_
      refine r_iald hC hP (aM_12 hP.l7) h dX12_tear_150 (fun h => ?_)
      refine lv_iload_n hx hb dX12_tear_151 rfl (lv_at hl 2 rfl) ?_
      refine lv_imul hx hb dX12_tear_152 ?_
      refine lv_iadd hx hb dX12_tear_153 ?_
      refine lv_imul hx hb dX12_tear_154 ?_
      refine lv_iadd hx hb dX12_tear_155 ?_
      refine r_cP hS h (fun r hr => r_runV (As := [.int x1, .int (x6 + ((σ 7 11 x1.toNatClampNeg) * (x3 + ((σ 7 12 x1.toNatClampNeg) * x2))))]) (rest := []) hC kV_X12_173 cw_X12_at (rc_X12 hC hP) hP (tM_at x al lv σ x1 (x6 + ((σ 7 11 x1.toNatClampNeg) * (x3 + ((σ 7 12 x1.toNatClampNeg) * x2)))) r hr) rfl hl.1 ⟨Nat.le_of_ble_eq_true rfl, Nat.le_of_ble_eq_true rfl⟩ ⟨Nat.le_of_ble_eq_true rfl, Nat.le_of_ble_eq_true rfl⟩ (Nat.le_of_ble_eq_true rfl) dX12_tear_156) (fun y14 H locs h hP hS => ?_)
      refine lv_if_eq (tgt := 166) hx hb dX12_tear_159 (by decide) (fun hc => ?_) (fun hc => ?_)
      · replace h := (br h).1 hc
        refine lv_iconst (v := 0) hx hb dX12_tear_166 (by decide) ?_
        exact wM_tear_167  hC k118 hk118 σ x1 x2 x3 x4 x6 0 H locs ls h hP hS (lv_sub hl [0, 1, 2, 3, 4, 6] rfl)
      · replace h := (br h).2 hc
        exact wM_tear_162  hC k118 hk118 σ x1 x2 x3 x4 x6 H locs ls h hP hS (lv_sub hl [0, 1, 2, 3, 4, 6] rfl)

set_option maxHeartbeats 4000000 in
set_option maxRecDepth 20000 in
theorem wM_tear_118 {p : Program} {l : Launch} {e : Env} {s : State} {m : MethodId} {args : Array Value} {below : List Frame} {meth : Method} {c : Code} {x : Wx} {al : Nat → Nat → Nat} {lv : Nat → Bool} {res : Int32 × Sg} (hC : Cx x p s m args meth c cX12_tear 7 (some .int) RX12) (n : Nat) (σ : Sg) (x1 : Int32) (x2 : Int32) (x3 : Int32) (x4 : Int32) (x5 : Int32) (x6 : Int32) (H : Heap) (locs : List Loc) (ls : Array Slot) (h : fM_tear_118 n σ x1 x2 x3 x4 x5 x6 = some res) (hP : Pic x al lv σ H) (hS : va_S (Ab x) s.heap H locs) (hl : lv_has ls 7 [(0, .ref (al 7 0)), (1, .int x1), (2, .int x2), (3, .int x3), (4, .int x4), (5, .int x5), (6, .int x6)]) : W p l e (rmm 3 0 0) s m args below meth c H locs 0 0 (MQ below (QI x al lv res) args s 0 0 (Ab x)) (F0 m 118 ls []) := by
  induction n generalizing σ x1 x2 x3 x4 x5 x6 H locs ls with
  | zero => exact nomatch h
  | succ n ih => exact wM_tear_118_b  hC  _ (fun σ x1 x2 x3 x4 x5 x6 H locs ls h hP hS hl => ih σ x1 x2 x3 x4 x5 x6 H locs ls h hP hS hl) σ x1 x2 x3 x4 x5 x6 H locs ls h hP hS hl
set_option maxHeartbeats 4000000 in
set_option maxRecDepth 20000 in
theorem wM_tear_113 {p : Program} {l : Launch} {e : Env} {s : State} {m : MethodId} {args : Array Value} {below : List Frame} {meth : Method} {c : Code} {x : Wx} {al : Nat → Nat → Nat} {lv : Nat → Bool} {res : Int32 × Sg} (hC : Cx x p s m args meth c cX12_tear 7 (some .int) RX12) (σ : Sg) (x1 : Int32) (x2 : Int32) (x3 : Int32) (x4 : Int32) (t0 : Int32) (H : Heap) (locs : List Loc) (ls : Array Slot) (h : fM_tear_113 σ x1 x2 x3 x4 t0 = some res) (hP : Pic x al lv σ H) (hS : va_S (Ab x) s.heap H locs) (hl : lv_has ls 7 [(0, .ref (al 7 0)), (1, .int x1), (2, .int x2), (3, .int x3), (4, .int x4)]) : W p l e (rmm 3 0 0) s m args below meth c H locs 0 0 (MQ below (QI x al lv res) args s 0 0 (Ab x)) (F0 m 113 ls [.int t0]) := by
  obtain ⟨hx, hb, hml, hown, hts⟩ := hC.1
  unfold fM_tear_113 at h
  refine lv_istore (lv' := [(5, .int t0), (0, .ref (al 7 0)), (1, .int x1), (2, .int x2), (3, .int x3), (4, .int x4)]) hx hb dX12_tear_113 hl (by decide) rfl (fun ls hl => ?_)
  refine lv_iconst (v := 0) hx hb dX12_tear_115 (by decide) ?_
  refine lv_istore (lv' := [(6, .int 0), (5, .int t0), (0, .ref (al 7 0)), (1, .int x1), (2, .int x2), (3, .int x3), (4, .int x4)]) hx hb dX12_tear_116 hl (by decide) rfl (fun ls hl => ?_)
  exact wM_tear_118  hC  FU σ x1 x2 x3 x4 t0 0 H locs ls h hP hS (lv_sub hl [2, 3, 4, 5, 6, 1, 0] rfl)

set_option maxHeartbeats 4000000 in
set_option maxRecDepth 20000 in
theorem wM_tear_112 {p : Program} {l : Launch} {e : Env} {s : State} {m : MethodId} {args : Array Value} {below : List Frame} {meth : Method} {c : Code} {x : Wx} {al : Nat → Nat → Nat} {lv : Nat → Bool} {res : Int32 × Sg} (hC : Cx x p s m args meth c cX12_tear 7 (some .int) RX12) (σ : Sg) (x1 : Int32) (x2 : Int32) (x3 : Int32) (x4 : Int32) (H : Heap) (locs : List Loc) (ls : Array Slot) (h : fM_tear_112 σ x1 x2 x3 x4 = some res) (hP : Pic x al lv σ H) (hS : va_S (Ab x) s.heap H locs) (hl : lv_has ls 7 [(0, .ref (al 7 0)), (1, .int x1), (2, .int x2), (3, .int x3), (4, .int x4)]) : W p l e (rmm 3 0 0) s m args below meth c H locs 0 0 (MQ below (QI x al lv res) args s 0 0 (Ab x)) (F0 m 112 ls []) := by
  obtain ⟨hx, hb, hml, hown, hts⟩ := hC.1
  unfold fM_tear_112 at h
  refine lv_iconst (v := 0) hx hb dX12_tear_112 (by decide) ?_
  exact wM_tear_113  hC  σ x1 x2 x3 x4 0 H locs ls h hP hS (lv_sub hl [0, 1, 2, 3, 4] rfl)

set_option maxHeartbeats 4000000 in
set_option maxRecDepth 20000 in
theorem wM_tear_0 {p : Program} {l : Launch} {e : Env} {s : State} {m : MethodId} {args : Array Value} {below : List Frame} {meth : Method} {c : Code} {x : Wx} {al : Nat → Nat → Nat} {lv : Nat → Bool} {res : Int32 × Sg} (hC : Cx x p s m args meth c cX12_tear 7 (some .int) RX12) (σ : Sg) (v1 : Int32) (v2 : Int32) (v3 : Int32) (H : Heap) (locs : List Loc) (ls : Array Slot) (h : fM_tear_0 σ v1 v2 v3 = some res) (hP : Pic x al lv σ H) (hS : va_S (Ab x) s.heap H locs) (hl : lv_has ls 7 [(0, .ref (al 7 0)), (1, .int v1), (2, .int v2), (3, .int v3)]) : W p l e (rmm 3 0 0) s m args below meth c H locs 0 0 (MQ below (QI x al lv res) args s 0 0 (Ab x)) (F0 m 0 ls []) := by
  obtain ⟨hx, hb, hml, hown, hts⟩ := hC.1
  unfold fM_tear_0 at h
  refine lv_aload_n hx hb dX12_tear_0 rfl (lv_at hl 0 rfl) ?_
  refine lv_iload_n hx hb dX12_tear_1 rfl (lv_at hl 1 rfl) ?_
  refine r_cP hS h (fun r hr => r_runV (As := [.int v1]) (rest := []) hC kV_X12_180 cw_X12_isRoom (rc_X12 hC hP) hP (tM_isRoom x al lv σ v1 r hr) rfl hl.1 ⟨Nat.le_of_ble_eq_true rfl, Nat.le_of_ble_eq_true rfl⟩ ⟨Nat.le_of_ble_eq_true rfl, Nat.le_of_ble_eq_true rfl⟩ (Nat.le_of_ble_eq_true rfl) dX12_tear_2) (fun y1 H locs h hP hS => ?_)
  refine lv_if_ne (tgt := 15) hx hb dX12_tear_5 (by decide) (fun hc => ?_) (fun hc => ?_)
  · replace h := (br h).2 hc
    refine lv_iload_n hx hb dX12_tear_15 rfl (lv_at hl 2 rfl) ?_
    refine lv_iconst (v := 0) hx hb dX12_tear_16 (by decide) ?_
    refine lv_aload_n hx hb dX12_tear_17 rfl (lv_at hl 0 rfl) ?_
    refine gt_X12_13 hC hP wf_X12_49 dX12_tear_18 ?_
    refine lv_iload_n hx hb dX12_tear_21 rfl (lv_at hl 1 rfl) ?_
    refine r_iald hC hP (aM_13 hP.l7) h dX12_tear_22 (fun h => ?_)
    refine lv_iconst (v := 1) hx hb dX12_tear_23 (by decide) ?_
    refine lv_isub hx hb dX12_tear_24 ?_
    refine r_cP hS h (fun r hr => r_runS (As := [.int v2, .int 0, .int ((σ 7 13 v1.toNatClampNeg) - 1)]) (rest := []) hC kS_X12_145 cw_X12_in hP (tM_in x al lv σ v2 0 ((σ 7 13 v1.toNatClampNeg) - 1) r hr) rfl hl.1 ⟨Nat.le_of_ble_eq_true rfl, Nat.le_of_ble_eq_true rfl⟩ ⟨Nat.le_of_ble_eq_true rfl, Nat.le_of_ble_eq_true rfl⟩ (Nat.le_of_ble_eq_true rfl) dX12_tear_25) (fun y2 H locs h hP hS => ?_)
    refine lv_if_eq (tgt := 47) hx hb dX12_tear_28 (by decide) (fun hc => ?_) (fun hc => ?_)
    · replace h := (br h).1 hc
      exact wM_tear_47  hC  σ H locs ls h hP hS (lv_sub hl [0] rfl)
    · replace h := (br h).2 hc
      refine lv_iload_n hx hb dX12_tear_31 rfl (lv_at hl 3 rfl) ?_
      refine lv_iconst (v := 0) hx hb dX12_tear_32 (by decide) ?_
      refine lv_aload_n hx hb dX12_tear_33 rfl (lv_at hl 0 rfl) ?_
      refine gt_X12_12 hC hP wf_X12_46 dX12_tear_34 ?_
      refine lv_iload_n hx hb dX12_tear_37 rfl (lv_at hl 1 rfl) ?_
      refine r_iald hC hP (aM_12 hP.l7) h dX12_tear_38 (fun h => ?_)
      refine lv_iconst (v := 1) hx hb dX12_tear_39 (by decide) ?_
      refine lv_isub hx hb dX12_tear_40 ?_
      refine r_cP hS h (fun r hr => r_runS (As := [.int v3, .int 0, .int ((σ 7 12 v1.toNatClampNeg) - 1)]) (rest := []) hC kS_X12_145 cw_X12_in hP (tM_in x al lv σ v3 0 ((σ 7 12 v1.toNatClampNeg) - 1) r hr) rfl hl.1 ⟨Nat.le_of_ble_eq_true rfl, Nat.le_of_ble_eq_true rfl⟩ ⟨Nat.le_of_ble_eq_true rfl, Nat.le_of_ble_eq_true rfl⟩ (Nat.le_of_ble_eq_true rfl) dX12_tear_41) (fun y3 H locs h hP hS => ?_)
      refine lv_if_ne (tgt := 53) hx hb dX12_tear_44 (by decide) (fun hc => ?_) (fun hc => ?_)
      · replace h := (br h).2 hc
        refine lv_aload_n hx hb dX12_tear_53 rfl (lv_at hl 0 rfl) ?_
        refine lv_iload_n hx hb dX12_tear_54 rfl (lv_at hl 1 rfl) ?_
        refine lv_iload_n hx hb dX12_tear_55 rfl (lv_at hl 2 rfl) ?_
        refine lv_iload_n hx hb dX12_tear_56 rfl (lv_at hl 3 rfl) ?_
        refine r_cP hS h (fun r hr => r_runV (As := [.int v1, .int v2, .int v3]) (rest := []) hC kV_X12_209 cw_X12_lineOf (rc_X12 hC hP) hP (tM_lineOf x al lv σ v1 v2 v3 r hr) rfl hl.1 ⟨Nat.le_of_ble_eq_true rfl, Nat.le_of_ble_eq_true rfl⟩ ⟨Nat.le_of_ble_eq_true rfl, Nat.le_of_ble_eq_true rfl⟩ (Nat.le_of_ble_eq_true rfl) dX12_tear_57) (fun y4 H locs h hP hS => ?_)
        refine lv_istore (lv' := [(4, .int y4), (0, .ref (al 7 0)), (1, .int v1), (2, .int v2), (3, .int v3)]) hx hb dX12_tear_60 hl (by decide) rfl (fun ls hl => ?_)
        refine lv_aload_n hx hb dX12_tear_62 rfl (lv_at hl 1 rfl) ?_
        refine gt_X12_17 hC hP wf_X12_61 dX12_tear_63 ?_
        refine lv_iload hx hb dX12_tear_66 (lv_at hl 0 rfl) ?_
        refine r_zald hC hP (aM_17 hP.l7) h dX12_tear_68 (fun h => ?_)
        refine lv_if_ne (tgt := 79) hx hb dX12_tear_69 (by decide) (fun hc => ?_) (fun hc => ?_)
        · replace h := (br h).2 hc
          refine lv_iload_n hx hb dX12_tear_79 rfl (lv_at hl 3 rfl) ?_
          refine lv_iconst (v := 1) hx hb dX12_tear_80 (by decide) ?_
          refine lv_iadd hx hb dX12_tear_81 ?_
          refine lv_aload_n hx hb dX12_tear_82 rfl (lv_at hl 1 rfl) ?_
          refine gt_X12_13 hC hP wf_X12_49 dX12_tear_83 ?_
          refine lv_iload_n hx hb dX12_tear_86 rfl (lv_at hl 2 rfl) ?_
          refine r_iald hC hP (aM_13 hP.l7) h dX12_tear_87 (fun h => ?_)
          refine lv_icmp_ge (tgt := 112) hx hb dX12_tear_88 (by decide) (fun hc => ?_) (fun hc => ?_)
          · replace h := (br h).1 hc
            exact wM_tear_112  hC  σ v1 v2 v3 y4 H locs ls h hP hS (lv_sub hl [1, 2, 3, 4, 0] rfl)
          · replace h := (br h).2 hc
            refine lv_aload_n hx hb dX12_tear_91 rfl (lv_at hl 1 rfl) ?_
            refine gt_X12_17 hC hP wf_X12_61 dX12_tear_92 ?_
            refine lv_iload hx hb dX12_tear_95 (lv_at hl 0 rfl) ?_
            refine lv_aload_n hx hb dX12_tear_97 rfl (lv_at hl 1 rfl) ?_
            refine gt_X12_12 hC hP wf_X12_46 dX12_tear_98 ?_
            refine lv_iload_n hx hb dX12_tear_101 rfl (lv_at hl 2 rfl) ?_
            refine r_iald hC hP (aM_12 hP.l7) h dX12_tear_102 (fun h => ?_)
            refine lv_iadd hx hb dX12_tear_103 ?_
            refine r_zald hC hP (aM_17 hP.l7) h dX12_tear_104 (fun h => ?_)
            refine lv_if_eq (tgt := 112) hx hb dX12_tear_105 (by decide) (fun hc => ?_) (fun hc => ?_)
            · replace h := (br h).1 hc
              exact wM_tear_112  hC  σ v1 v2 v3 y4 H locs ls h hP hS (lv_sub hl [1, 2, 3, 4, 0] rfl)
            · replace h := (br h).2 hc
              refine lv_iconst (v := 1) hx hb dX12_tear_108 (by decide) ?_
              refine lv_goto (tgt := 113) hx hb dX12_tear_109 (by decide) ?_
              exact wM_tear_113  hC  σ v1 v2 v3 y4 1 H locs ls h hP hS (lv_sub hl [1, 2, 3, 4, 0] rfl)
        · replace h := (br h).1 hc
          refine lv_aload_n hx hb dX12_tear_72 rfl (lv_at hl 1 rfl) ?_
          refine lv_bipush (v := (-3)) hx hb dX12_tear_73 (by decide) ?_
          refine r_cI hS h (fun r hr => r_runV (As := [.int ((-3))]) (rest := []) hC kV_X12_151 cw_X12_ends (rc_X12 hC hP) hP (tM_ends x al lv σ ((-3)) r hr) rfl hl.1 ⟨Nat.le_of_ble_eq_true rfl, Nat.le_of_ble_eq_true rfl⟩ ⟨Nat.le_of_ble_eq_true rfl, Nat.le_of_ble_eq_true rfl⟩ (Nat.le_of_ble_eq_true rfl) dX12_tear_75) (fun y5 σ6 H locs h hP hS => ?_)
          exact r_retI hC hP hS rfl h dX12_tear_78
      · replace h := (br h).1 hc
        exact wM_tear_47  hC  σ H locs ls h hP hS (lv_sub hl [0] rfl)
  · replace h := (br h).1 hc
    refine lv_aload_n hx hb dX12_tear_8 rfl (lv_at hl 0 rfl) ?_
    refine lv_bipush (v := (-2)) hx hb dX12_tear_9 (by decide) ?_
    refine r_cI hS h (fun r hr => r_runV (As := [.int ((-2))]) (rest := []) hC kV_X12_151 cw_X12_ends (rc_X12 hC hP) hP (tM_ends x al lv σ ((-2)) r hr) rfl hl.1 ⟨Nat.le_of_ble_eq_true rfl, Nat.le_of_ble_eq_true rfl⟩ ⟨Nat.le_of_ble_eq_true rfl, Nat.le_of_ble_eq_true rfl⟩ (Nat.le_of_ble_eq_true rfl) dX12_tear_11) (fun y7 σ8 H locs h hP hS => ?_)
    exact r_retI hC hP hS rfl h dX12_tear_14

set_option maxRecDepth 20000 in
theorem tM_tear {l : Launch} (x : Wx) (al : Nat → Nat → Nat) (lv : Nat → Bool) (σ : Sg) (v1 : Int32) (v2 : Int32) (v3 : Int32) (res : Int32 × Sg) (h : fM_tear σ v1 v2 v3 = some res) : Met l yX12_tear (Cond.code yX12_tear cX12_tear 7 (some .int) :: lwg) (rmm 3 0 0) (va_Pc [.ref (al 7 0), .int v1, .int v2, .int v3] (Wd x al lv σ)) (QI x al lv res) 0 0 (Ab x) := by
  refine met_W (by decide) (Nat.le_of_ble_eq_true rfl) rfl (fun p e s m args below meth c ls hC hP hS hl => ?_)
  exact wM_tear_0  hC σ v1 v2 v3 _ _ ls h hP hS hl
set_option maxHeartbeats 4000000 in
set_option maxRecDepth 20000 in
theorem wM_unfit_76 {p : Program} {l : Launch} {e : Env} {s : State} {m : MethodId} {args : Array Value} {below : List Frame} {meth : Method} {c : Code} {x : Wx} {al : Nat → Nat → Nat} {lv : Nat → Bool} {res : Int32} {σ : Sg} (hC : Cx x p s m args meth c cX12_unfit 4 (some .int) RX12) (H : Heap) (locs : List Loc) (ls : Array Slot) (h : fM_unfit_76 σ = some res) (hP : Pic x al lv σ H) (hS : va_S (Ab x) s.heap H locs) (hl : lv_has ls 4 []) : W p l e (rmm 4 0 0) s m args below meth c H locs 0 0 (MQ below (QP x al lv σ res) args s 0 0 (Ab x)) (F0 m 76 ls []) := by
  obtain ⟨hx, hb, hml, hown, hts⟩ := hC.1
  unfold fM_unfit_76 at h
  refine lv_iconst (v := 0) hx hb dX12_unfit_76 (by decide) ?_
  refine lv_goto (tgt := 82) hx hb dX12_unfit_77 (by decide) ?_
  exact r_retP hC hP hS rfl h dX12_unfit_82

set_option maxHeartbeats 4000000 in
set_option maxRecDepth 20000 in
theorem wM_unfit_0 {p : Program} {l : Launch} {e : Env} {s : State} {m : MethodId} {args : Array Value} {below : List Frame} {meth : Method} {c : Code} {x : Wx} {al : Nat → Nat → Nat} {lv : Nat → Bool} {res : Int32} {σ : Sg} (hC : Cx x p s m args meth c cX12_unfit 4 (some .int) RX12) (v1 : Int32) (v2 : Int32) (H : Heap) (locs : List Loc) (ls : Array Slot) (h : fM_unfit_0 σ v1 v2 = some res) (hP : Pic x al lv σ H) (hS : va_S (Ab x) s.heap H locs) (hl : lv_has ls 4 [(0, .ref (al 7 0)), (1, .int v1), (2, .int v2)]) : W p l e (rmm 4 0 0) s m args below meth c H locs 0 0 (MQ below (QP x al lv σ res) args s 0 0 (Ab x)) (F0 m 0 ls []) := by
  obtain ⟨hx, hb, hml, hown, hts⟩ := hC.1
  unfold fM_unfit_0 at h
  refine lv_aload_n hx hb dX12_unfit_0 rfl (lv_at hl 0 rfl) ?_
  refine lv_iload_n hx hb dX12_unfit_1 rfl (lv_at hl 1 rfl) ?_
  refine r_cP hS h (fun r hr => r_runV (As := [.int v1]) (rest := []) hC kV_X12_180 cw_X12_isRoom (rc_X12 hC hP) hP (tM_isRoom x al lv σ v1 r hr) rfl hl.1 ⟨Nat.le_of_ble_eq_true rfl, Nat.le_of_ble_eq_true rfl⟩ ⟨Nat.le_of_ble_eq_true rfl, Nat.le_of_ble_eq_true rfl⟩ (Nat.le_of_ble_eq_true rfl) dX12_unfit_2) (fun y1 H locs h hP hS => ?_)
  refine lv_if_ne (tgt := 11) hx hb dX12_unfit_5 (by decide) (fun hc => ?_) (fun hc => ?_)
  · replace h := (br h).2 hc
    refine lv_aload_n hx hb dX12_unfit_11 rfl (lv_at hl 0 rfl) ?_
    refine lv_iload_n hx hb dX12_unfit_12 rfl (lv_at hl 1 rfl) ?_
    refine lv_iload_n hx hb dX12_unfit_13 rfl (lv_at hl 2 rfl) ?_
    refine r_cP hS h (fun r hr => r_runV (As := [.int v1, .int v2]) (rest := []) hC kV_X12_212 cw_X12_isPlace (rc_X12 hC hP) hP (tM_isPlace x al lv σ v1 v2 r hr) rfl hl.1 ⟨Nat.le_of_ble_eq_true rfl, Nat.le_of_ble_eq_true rfl⟩ ⟨Nat.le_of_ble_eq_true rfl, Nat.le_of_ble_eq_true rfl⟩ (Nat.le_of_ble_eq_true rfl) dX12_unfit_14) (fun y2 H locs h hP hS => ?_)
    refine lv_if_ne (tgt := 22) hx hb dX12_unfit_17 (by decide) (fun hc => ?_) (fun hc => ?_)
    · replace h := (br h).2 hc
      refine lv_aload_n hx hb dX12_unfit_22 rfl (lv_at hl 0 rfl) ?_
      refine lv_iload_n hx hb dX12_unfit_23 rfl (lv_at hl 1 rfl) ?_
      refine lv_iload_n hx hb dX12_unfit_24 rfl (lv_at hl 2 rfl) ?_
      refine r_cP hS h (fun r hr => r_runV (As := [.int v1, .int v2]) (rest := []) hC kV_X12_215 cw_X12_isLaid (rc_X12 hC hP) hP (tM_isLaid x al lv σ v1 v2 r hr) rfl hl.1 ⟨Nat.le_of_ble_eq_true rfl, Nat.le_of_ble_eq_true rfl⟩ ⟨Nat.le_of_ble_eq_true rfl, Nat.le_of_ble_eq_true rfl⟩ (Nat.le_of_ble_eq_true rfl) dX12_unfit_25) (fun y3 H locs h hP hS => ?_)
      refine lv_if_ne (tgt := 34) hx hb dX12_unfit_28 (by decide) (fun hc => ?_) (fun hc => ?_)
      · replace h := (br h).2 hc
        refine lv_aload_n hx hb dX12_unfit_34 rfl (lv_at hl 0 rfl) ?_
        refine lv_iload_n hx hb dX12_unfit_35 rfl (lv_at hl 1 rfl) ?_
        refine lv_iload_n hx hb dX12_unfit_36 rfl (lv_at hl 2 rfl) ?_
        refine r_cP hS h (fun r hr => r_runV (As := [.int v1, .int v2]) (rest := []) hC kV_X12_173 cw_X12_at (rc_X12 hC hP) hP (tM_at x al lv σ v1 v2 r hr) rfl hl.1 ⟨Nat.le_of_ble_eq_true rfl, Nat.le_of_ble_eq_true rfl⟩ ⟨Nat.le_of_ble_eq_true rfl, Nat.le_of_ble_eq_true rfl⟩ (Nat.le_of_ble_eq_true rfl) dX12_unfit_37) (fun y4 H locs h hP hS => ?_)
        refine lv_if_eq (tgt := 46) hx hb dX12_unfit_40 (by decide) (fun hc => ?_) (fun hc => ?_)
        · replace h := (br h).1 hc
          refine lv_aload_n hx hb dX12_unfit_46 rfl (lv_at hl 0 rfl) ?_
          refine lv_iload_n hx hb dX12_unfit_47 rfl (lv_at hl 1 rfl) ?_
          refine lv_iload_n hx hb dX12_unfit_48 rfl (lv_at hl 2 rfl) ?_
          refine r_cP hS h (fun r hr => r_runV (As := [.int v1, .int v2]) (rest := []) hC kV_X12_170 cw_X12_layerOf (rc_X12 hC hP) hP (tM_layerOf x al lv σ v1 v2 r hr) rfl hl.1 ⟨Nat.le_of_ble_eq_true rfl, Nat.le_of_ble_eq_true rfl⟩ ⟨Nat.le_of_ble_eq_true rfl, Nat.le_of_ble_eq_true rfl⟩ (Nat.le_of_ble_eq_true rfl) dX12_unfit_49) (fun y5 H locs h hP hS => ?_)
          refine lv_if_ne (tgt := 57) hx hb dX12_unfit_52 (by decide) (fun hc => ?_) (fun hc => ?_)
          · replace h := (br h).2 hc
            refine lv_aload_n hx hb dX12_unfit_57 rfl (lv_at hl 0 rfl) ?_
            refine lv_iload_n hx hb dX12_unfit_58 rfl (lv_at hl 1 rfl) ?_
            refine lv_iload_n hx hb dX12_unfit_59 rfl (lv_at hl 2 rfl) ?_
            refine lv_iconst (v := 4) hx hb dX12_unfit_60 (by decide) ?_
            refine r_cP hS h (fun r hr => r_runV (As := [.int v1, .int v2, .int 4]) (rest := []) hC kV_X12_176 cw_X12_side (rc_X12 hC hP) hP (tM_side x al lv σ v1 v2 4 r hr) rfl hl.1 ⟨Nat.le_of_ble_eq_true rfl, Nat.le_of_ble_eq_true rfl⟩ ⟨Nat.le_of_ble_eq_true rfl, Nat.le_of_ble_eq_true rfl⟩ (Nat.le_of_ble_eq_true rfl) dX12_unfit_61) (fun y6 H locs h hP hS => ?_)
            refine lv_istore_n (lv' := [(3, .int y6), (0, .ref (al 7 0)), (1, .int v1), (2, .int v2)]) hx hb dX12_unfit_64 rfl hl (by decide) rfl (fun ls hl => ?_)
            refine lv_iload_n hx hb dX12_unfit_65 rfl (lv_at hl 0 rfl) ?_
            refine lv_bipush (v := 10) hx hb dX12_unfit_66 (by decide) ?_
            refine lv_icmp_ge (tgt := 76) hx hb dX12_unfit_68 (by decide) (fun hc => ?_) (fun hc => ?_)
            · replace h := (br h).1 hc
              exact wM_unfit_76  hC   H locs ls h hP hS (lv_sub hl [] rfl)
            · replace h := (br h).2 hc
              refine lv_iload_n hx hb dX12_unfit_71 rfl (lv_at hl 0 rfl) ?_
              refine lv_iconst (v := 1) hx hb dX12_unfit_72 (by decide) ?_
              refine lv_icmp_ne (tgt := 80) hx hb dX12_unfit_73 (by decide) (fun hc => ?_) (fun hc => ?_)
              · replace h := (br h).2 hc
                refine lv_bipush (v := (-5)) hx hb dX12_unfit_80 (by decide) ?_
                exact r_retP hC hP hS rfl h dX12_unfit_82
              · replace h := (br h).1 hc
                exact wM_unfit_76  hC   H locs ls h hP hS (lv_sub hl [] rfl)
          · replace h := (br h).1 hc
            refine lv_iconst (v := 0) hx hb dX12_unfit_55 (by decide) ?_
            exact r_retP hC hP hS rfl h dX12_unfit_56
        · replace h := (br h).2 hc
          refine lv_bipush (v := (-4)) hx hb dX12_unfit_43 (by decide) ?_
          exact r_retP hC hP hS rfl h dX12_unfit_45
      · replace h := (br h).1 hc
        refine lv_bipush (v := (-3)) hx hb dX12_unfit_31 (by decide) ?_
        exact r_retP hC hP hS rfl h dX12_unfit_33
    · replace h := (br h).1 hc
      refine lv_iconst (v := (-1)) hx hb dX12_unfit_20 (by decide) ?_
      exact r_retP hC hP hS rfl h dX12_unfit_21
  · replace h := (br h).1 hc
    refine lv_bipush (v := (-2)) hx hb dX12_unfit_8 (by decide) ?_
    exact r_retP hC hP hS rfl h dX12_unfit_10

set_option maxRecDepth 20000 in
theorem tM_unfit {l : Launch} (x : Wx) (al : Nat → Nat → Nat) (lv : Nat → Bool) (σ : Sg) (v1 : Int32) (v2 : Int32) (res : Int32) (h : fM_unfit σ v1 v2 = some res) : Met l yX12_unfit (Cond.code yX12_unfit cX12_unfit 4 (some .int) :: lwg) (rmm 4 0 0) (va_Pc [.ref (al 7 0), .int v1, .int v2] (Wd x al lv σ)) (QP x al lv σ res) 0 0 (Ab x) := by
  refine met_W (by decide) (Nat.le_of_ble_eq_true rfl) rfl (fun p e s m args below meth c ls hC hP hS hl => ?_)
  exact wM_unfit_0  hC v1 v2 _ _ ls h hP hS hl
set_option maxHeartbeats 4000000 in
set_option maxRecDepth 20000 in
theorem wM_cuts_0 {p : Program} {l : Launch} {e : Env} {s : State} {m : MethodId} {args : Array Value} {below : List Frame} {meth : Method} {c : Code} {x : Wx} {al : Nat → Nat → Nat} {lv : Nat → Bool} {res : Int32 × Sg} (hC : Cx x p s m args meth c cX12_cuts 6 (some .int) RX12) (σ : Sg) (v1 : Int32) (v2 : Int32) (v3 : Int32) (v4 : Int32) (H : Heap) (locs : List Loc) (ls : Array Slot) (h : fM_cuts_0 σ v1 v2 v3 v4 = some res) (hP : Pic x al lv σ H) (hS : va_S (Ab x) s.heap H locs) (hl : lv_has ls 6 [(0, .ref (al 7 0)), (1, .int v1), (2, .int v2), (3, .int v3), (4, .int v4)]) : W p l e (rmm 1 0 0) s m args below meth c H locs 0 0 (MQ below (QI x al lv res) args s 0 0 (Ab x)) (F0 m 0 ls []) := by
  obtain ⟨hx, hb, hml, hown, hts⟩ := hC.1
  unfold fM_cuts_0 at h
  refine lv_aload_n hx hb dX12_cuts_0 rfl (lv_at hl 0 rfl) ?_
  refine gt_X12_8 hC hP wf_X12_34 dX12_cuts_1 ?_
  refine lv_iconst (v := 0) hx hb dX12_cuts_4 (by decide) ?_
  refine r_iald hC hP (aM_8 hP.l7) h dX12_cuts_5 (fun h => ?_)
  refine r_lt h (fun y1 h => ?_)
  refine lv_istore (lv' := [(5, .int y1), (0, .ref (al 7 0)), (1, .int v1), (2, .int v2), (3, .int v3), (4, .int v4)]) hx hb dX12_cuts_6 hl (by decide) rfl (fun ls hl => ?_)
  refine lv_aload_n hx hb dX12_cuts_8 rfl (lv_at hl 1 rfl) ?_
  refine gt_X12_19 hC hP wf_X12_67 dX12_cuts_9 ?_
  refine lv_iload hx hb dX12_cuts_12 (lv_at hl 0 rfl) ?_
  refine lv_iload_n hx hb dX12_cuts_14 rfl (lv_at hl 4 rfl) ?_
  refine r_iast hC hP hS (aM_19 hP.l7) h dX12_cuts_15 (fun σ2 H locs h hP hS => ?_)
  refine lv_aload_n hx hb dX12_cuts_16 rfl (lv_at hl 1 rfl) ?_
  refine gt_X12_20 hC hP wf_X12_70 dX12_cuts_17 ?_
  refine lv_iload hx hb dX12_cuts_20 (lv_at hl 0 rfl) ?_
  refine lv_iload hx hb dX12_cuts_22 (lv_at hl 5 rfl) ?_
  refine r_iast hC hP hS (aM_20 hP.l7) h dX12_cuts_24 (fun σ3 H locs h hP hS => ?_)
  refine lv_aload_n hx hb dX12_cuts_25 rfl (lv_at hl 1 rfl) ?_
  refine gt_X12_21 hC hP wf_X12_73 dX12_cuts_26 ?_
  refine lv_iload hx hb dX12_cuts_29 (lv_at hl 0 rfl) ?_
  refine lv_iload_n hx hb dX12_cuts_31 rfl (lv_at hl 2 rfl) ?_
  refine r_iast hC hP hS (aM_21 hP.l7) h dX12_cuts_32 (fun σ4 H locs h hP hS => ?_)
  refine lv_aload_n hx hb dX12_cuts_33 rfl (lv_at hl 1 rfl) ?_
  refine gt_X12_22 hC hP wf_X12_76 dX12_cuts_34 ?_
  refine lv_iload hx hb dX12_cuts_37 (lv_at hl 0 rfl) ?_
  refine lv_iload_n hx hb dX12_cuts_39 rfl (lv_at hl 3 rfl) ?_
  refine r_iast hC hP hS (aM_22 hP.l7) h dX12_cuts_40 (fun σ5 H locs h hP hS => ?_)
  refine lv_aload_n hx hb dX12_cuts_41 rfl (lv_at hl 1 rfl) ?_
  refine gt_X12_23 hC hP wf_X12_79 dX12_cuts_42 ?_
  refine lv_iload hx hb dX12_cuts_45 (lv_at hl 0 rfl) ?_
  refine lv_aload_n hx hb dX12_cuts_47 rfl (lv_at hl 1 rfl) ?_
  refine gt_X12_6 hC hP wf_X12_27 dX12_cuts_48 ?_
  refine lv_iconst (v := 0) hx hb dX12_cuts_51 (by decide) ?_
  refine r_iald hC hP (aM_6 hP.l7) h dX12_cuts_52 (fun h => ?_)
  refine r_iast hC hP hS (aM_23 hP.l7) h dX12_cuts_53 (fun σ6 H locs h hP hS => ?_)
  refine lv_aload_n hx hb dX12_cuts_54 rfl (lv_at hl 1 rfl) ?_
  refine gt_X12_24 hC hP wf_X12_82 dX12_cuts_55 ?_
  refine lv_iload hx hb dX12_cuts_58 (lv_at hl 0 rfl) ?_
  refine lv_iconst (v := (-1)) hx hb dX12_cuts_60 (by decide) ?_
  refine r_iast hC hP hS (aM_24 hP.l7) h dX12_cuts_61 (fun σ7 H locs h hP hS => ?_)
  refine lv_aload_n hx hb dX12_cuts_62 rfl (lv_at hl 1 rfl) ?_
  refine gt_X12_18 hC hP wf_X12_64 dX12_cuts_63 ?_
  refine lv_sipush (v := 180) hx hb dX12_cuts_66 (by decide) ?_
  refine lv_iload_n hx hb dX12_cuts_69 rfl (lv_at hl 2 rfl) ?_
  refine lv_imul hx hb dX12_cuts_70 ?_
  refine lv_iload_n hx hb dX12_cuts_71 rfl (lv_at hl 3 rfl) ?_
  refine lv_iadd hx hb dX12_cuts_72 ?_
  refine lv_bipush (v := 10) hx hb dX12_cuts_73 (by decide) ?_
  refine lv_iload hx hb dX12_cuts_75 (lv_at hl 0 rfl) ?_
  refine lv_iadd hx hb dX12_cuts_77 ?_
  refine r_iast hC hP hS (aM_18 hP.l7) h dX12_cuts_78 (fun σ8 H locs h hP hS => ?_)
  refine lv_aload_n hx hb dX12_cuts_79 rfl (lv_at hl 1 rfl) ?_
  refine gt_X12_8 hC hP wf_X12_34 dX12_cuts_80 ?_
  refine lv_iconst (v := 0) hx hb dX12_cuts_83 (by decide) ?_
  refine lv_dup2_11 hx hb dX12_cuts_84 rfl rfl ?_
  refine r_iald hC hP (aM_8 hP.l7) h dX12_cuts_85 (fun h => ?_)
  refine lv_iconst (v := 1) hx hb dX12_cuts_86 (by decide) ?_
  refine lv_iadd hx hb dX12_cuts_87 ?_
  refine r_iast hC hP hS (aM_8 hP.l7) h dX12_cuts_88 (fun σ9 H locs h hP hS => ?_)
  refine lv_aload_n hx hb dX12_cuts_89 rfl (lv_at hl 1 rfl) ?_
  refine gt_X12_9 hC hP wf_X12_37 dX12_cuts_90 ?_
  refine lv_iconst (v := 0) hx hb dX12_cuts_93 (by decide) ?_
  refine lv_dup2_11 hx hb dX12_cuts_94 rfl rfl ?_
  refine r_iald hC hP (aM_9 hP.l7) h dX12_cuts_95 (fun h => ?_)
  refine lv_iload hx hb dX12_cuts_96 (lv_at hl 5 rfl) ?_
  refine lv_iadd hx hb dX12_cuts_98 ?_
  refine r_iast hC hP hS (aM_9 hP.l7) h dX12_cuts_99 (fun σ10 H locs h hP hS => ?_)
  refine lv_iload hx hb dX12_cuts_100 (lv_at hl 0 rfl) ?_
  exact r_retI hC hP hS rfl h dX12_cuts_102

set_option maxRecDepth 20000 in
theorem tM_cuts {l : Launch} (x : Wx) (al : Nat → Nat → Nat) (lv : Nat → Bool) (σ : Sg) (v1 : Int32) (v2 : Int32) (v3 : Int32) (v4 : Int32) (res : Int32 × Sg) (h : fM_cuts σ v1 v2 v3 v4 = some res) : Met l yX12_cuts (Cond.code yX12_cuts cX12_cuts 6 (some .int) :: lwg) (rmm 1 0 0) (va_Pc [.ref (al 7 0), .int v1, .int v2, .int v3, .int v4] (Wd x al lv σ)) (QI x al lv res) 0 0 (Ab x) := by
  refine met_W (by decide) (Nat.le_of_ble_eq_true rfl) rfl (fun p e s m args below meth c ls hC hP hS hl => ?_)
  exact wM_cuts_0  hC σ v1 v2 v3 v4 _ _ ls h hP hS hl
set_option maxHeartbeats 4000000 in
set_option maxRecDepth 20000 in
theorem wM_cut_22 {p : Program} {l : Launch} {e : Env} {s : State} {m : MethodId} {args : Array Value} {below : List Frame} {meth : Method} {c : Code} {x : Wx} {al : Nat → Nat → Nat} {lv : Nat → Bool} {res : Int32 × Sg} (hC : Cx x p s m args meth c cX12_cut 6 (some .int) RX12) (σ : Sg) (H : Heap) (locs : List Loc) (ls : Array Slot) (h : fM_cut_22 σ = some res) (hP : Pic x al lv σ H) (hS : va_S (Ab x) s.heap H locs) (hl : lv_has ls 6 [(0, .ref (al 7 0))]) : W p l e (rmm 5 0 0) s m args below meth c H locs 0 0 (MQ below (QI x al lv res) args s 0 0 (Ab x)) (F0 m 22 ls []) := by
  obtain ⟨hx, hb, hml, hown, hts⟩ := hC.1
  unfold fM_cut_22 at h
  refine lv_aload_n hx hb dX12_cut_22 rfl (lv_at hl 0 rfl) ?_
  refine lv_iconst (v := (-1)) hx hb dX12_cut_23 (by decide) ?_
  refine r_cI hS h (fun r hr => r_runV (As := [.int ((-1))]) (rest := []) hC kV_X12_151 cw_X12_ends (rc_X12 hC hP) hP (tM_ends x al lv σ ((-1)) r hr) rfl hl.1 ⟨Nat.le_of_ble_eq_true rfl, Nat.le_of_ble_eq_true rfl⟩ ⟨Nat.le_of_ble_eq_true rfl, Nat.le_of_ble_eq_true rfl⟩ (Nat.le_of_ble_eq_true rfl) dX12_cut_24) (fun y10 σ11 H locs h hP hS => ?_)
  exact r_retI hC hP hS rfl h dX12_cut_27

set_option maxHeartbeats 4000000 in
set_option maxRecDepth 20000 in
theorem wM_cut_75 {p : Program} {l : Launch} {e : Env} {s : State} {m : MethodId} {args : Array Value} {below : List Frame} {meth : Method} {c : Code} {x : Wx} {al : Nat → Nat → Nat} {lv : Nat → Bool} {res : Int32 × Sg} (hC : Cx x p s m args meth c cX12_cut 6 (some .int) RX12) (σ : Sg) (t0 : Int32) (H : Heap) (locs : List Loc) (ls : Array Slot) (h : fM_cut_75 σ t0 = some res) (hP : Pic x al lv σ H) (hS : va_S (Ab x) s.heap H locs) (hl : lv_has ls 6 []) : W p l e (rmm 5 0 0) s m args below meth c H locs 0 0 (MQ below (QI x al lv res) args s 0 0 (Ab x)) (F0 m 75 ls [.int t0, .ref (al 7 0)]) := by
  obtain ⟨hx, hb, hml, hown, hts⟩ := hC.1
  unfold fM_cut_75 at h
  refine r_cI hS h (fun r hr => r_runV (As := [.int t0]) (rest := []) hC kV_X12_151 cw_X12_ends (rc_X12 hC hP) hP (tM_ends x al lv σ t0 r hr) rfl hl.1 ⟨Nat.le_of_ble_eq_true rfl, Nat.le_of_ble_eq_true rfl⟩ ⟨Nat.le_of_ble_eq_true rfl, Nat.le_of_ble_eq_true rfl⟩ (Nat.le_of_ble_eq_true rfl) dX12_cut_75) (fun y8 σ9 H locs h hP hS => ?_)
  exact r_retI hC hP hS rfl h dX12_cut_78

set_option maxHeartbeats 4000000 in
set_option maxRecDepth 20000 in
theorem wM_cut_0 {p : Program} {l : Launch} {e : Env} {s : State} {m : MethodId} {args : Array Value} {below : List Frame} {meth : Method} {c : Code} {x : Wx} {al : Nat → Nat → Nat} {lv : Nat → Bool} {res : Int32 × Sg} (hC : Cx x p s m args meth c cX12_cut 6 (some .int) RX12) (σ : Sg) (v1 : Int32) (v2 : Int32) (v3 : Int32) (v4 : Int32) (H : Heap) (locs : List Loc) (ls : Array Slot) (h : fM_cut_0 σ v1 v2 v3 v4 = some res) (hP : Pic x al lv σ H) (hS : va_S (Ab x) s.heap H locs) (hl : lv_has ls 6 [(0, .ref (al 7 0)), (1, .int v1), (2, .int v2), (3, .int v3), (4, .int v4)]) : W p l e (rmm 5 0 0) s m args below meth c H locs 0 0 (MQ below (QI x al lv res) args s 0 0 (Ab x)) (F0 m 0 ls []) := by
  obtain ⟨hx, hb, hml, hown, hts⟩ := hC.1
  unfold fM_cut_0 at h
  refine lv_iload_n hx hb dX12_cut_0 rfl (lv_at hl 3 rfl) ?_
  refine lv_iconst (v := 0) hx hb dX12_cut_1 (by decide) ?_
  refine lv_iconst (v := 2) hx hb dX12_cut_2 (by decide) ?_
  refine r_cP hS h (fun r hr => r_runS (As := [.int v3, .int 0, .int 2]) (rest := []) hC kS_X12_145 cw_X12_in hP (tM_in x al lv σ v3 0 2 r hr) rfl hl.1 ⟨Nat.le_of_ble_eq_true rfl, Nat.le_of_ble_eq_true rfl⟩ ⟨Nat.le_of_ble_eq_true rfl, Nat.le_of_ble_eq_true rfl⟩ (Nat.le_of_ble_eq_true rfl) dX12_cut_3) (fun y1 H locs h hP hS => ?_)
  refine lv_if_eq (tgt := 22) hx hb dX12_cut_6 (by decide) (fun hc => ?_) (fun hc => ?_)
  · replace h := (br h).1 hc
    exact wM_cut_22  hC  σ H locs ls h hP hS (lv_sub hl [0] rfl)
  · replace h := (br h).2 hc
    refine lv_iload hx hb dX12_cut_9 (lv_at hl 4 rfl) ?_
    refine lv_sipush (v := 1000) hx hb dX12_cut_11 (by decide) ?_
    refine lv_ldc hx hb hown (hts _ wk_X12_159) dX12_cut_14 ?_
    refine r_cP hS h (fun r hr => r_runS (As := [.int v4, .int 1000, .int 1000000]) (rest := []) hC kS_X12_145 cw_X12_in hP (tM_in x al lv σ v4 1000 1000000 r hr) rfl hl.1 ⟨Nat.le_of_ble_eq_true rfl, Nat.le_of_ble_eq_true rfl⟩ ⟨Nat.le_of_ble_eq_true rfl, Nat.le_of_ble_eq_true rfl⟩ (Nat.le_of_ble_eq_true rfl) dX12_cut_16) (fun y2 H locs h hP hS => ?_)
    refine lv_if_ne (tgt := 28) hx hb dX12_cut_19 (by decide) (fun hc => ?_) (fun hc => ?_)
    · replace h := (br h).2 hc
      refine lv_aload_n hx hb dX12_cut_28 rfl (lv_at hl 0 rfl) ?_
      refine lv_iload_n hx hb dX12_cut_29 rfl (lv_at hl 1 rfl) ?_
      refine lv_iload_n hx hb dX12_cut_30 rfl (lv_at hl 2 rfl) ?_
      refine r_cP hS h (fun r hr => r_runV (As := [.int v1, .int v2]) (rest := []) hC kV_X12_218 cw_X12_unfit (rc_X12 hC hP) hP (tM_unfit x al lv σ v1 v2 r hr) rfl hl.1 ⟨Nat.le_of_ble_eq_true rfl, Nat.le_of_ble_eq_true rfl⟩ ⟨Nat.le_of_ble_eq_true rfl, Nat.le_of_ble_eq_true rfl⟩ (Nat.le_of_ble_eq_true rfl) dX12_cut_31) (fun y3 H locs h hP hS => ?_)
      refine lv_istore (lv' := [(5, .int y3), (0, .ref (al 7 0)), (1, .int v1), (2, .int v2), (3, .int v3), (4, .int v4)]) hx hb dX12_cut_34 hl (by decide) rfl (fun ls hl => ?_)
      refine lv_iload hx hb dX12_cut_36 (lv_at hl 0 rfl) ?_
      refine lv_if_eq (tgt := 48) hx hb dX12_cut_38 (by decide) (fun hc => ?_) (fun hc => ?_)
      · replace h := (br h).1 hc
        refine lv_aload_n hx hb dX12_cut_48 rfl (lv_at hl 1 rfl) ?_
        refine lv_aload_n hx hb dX12_cut_49 rfl (lv_at hl 1 rfl) ?_
        refine gt_X12_8 hC hP wf_X12_34 dX12_cut_50 ?_
        refine lv_iconst (v := 0) hx hb dX12_cut_53 (by decide) ?_
        refine r_iald hC hP (aM_8 hP.l7) h dX12_cut_54 (fun h => ?_)
        refine lv_sipush (v := 300) hx hb dX12_cut_55 (by decide) ?_
        refine lv_icmp_ne (tgt := 66) hx hb dX12_cut_58 (by decide) (fun hc => ?_) (fun hc => ?_)
        · replace h := (br h).2 hc
          refine lv_aload_n hx hb dX12_cut_66 rfl (lv_at hl 1 rfl) ?_
          refine lv_iload_n hx hb dX12_cut_67 rfl (lv_at hl 2 rfl) ?_
          refine lv_iload_n hx hb dX12_cut_68 rfl (lv_at hl 3 rfl) ?_
          refine lv_iload_n hx hb dX12_cut_69 rfl (lv_at hl 4 rfl) ?_
          refine lv_iload hx hb dX12_cut_70 (lv_at hl 5 rfl) ?_
          refine r_cI hS h (fun r hr => r_runV (As := [.int v1, .int v2, .int v3, .int v4]) (rest := [.ref (al 7 0)]) hC kV_X12_221 cw_X12_cuts (rc_X12 hC hP) hP (tM_cuts x al lv σ v1 v2 v3 v4 r hr) rfl hl.1 ⟨Nat.le_of_ble_eq_true rfl, Nat.le_of_ble_eq_true rfl⟩ ⟨Nat.le_of_ble_eq_true rfl, Nat.le_of_ble_eq_true rfl⟩ (Nat.le_of_ble_eq_true rfl) dX12_cut_72) (fun y4 σ5 H locs h hP hS => ?_)
          exact wM_cut_75  hC  σ5 y4 H locs ls h hP hS (lv_sub hl [] rfl)
        · replace h := (br h).1 hc
          refine lv_bipush (v := (-6)) hx hb dX12_cut_61 (by decide) ?_
          refine lv_goto (tgt := 75) hx hb dX12_cut_63 (by decide) ?_
          exact wM_cut_75  hC  σ ((-6)) H locs ls h hP hS (lv_sub hl [] rfl)
      · replace h := (br h).2 hc
        refine lv_aload_n hx hb dX12_cut_41 rfl (lv_at hl 1 rfl) ?_
        refine lv_iload hx hb dX12_cut_42 (lv_at hl 0 rfl) ?_
        refine r_cI hS h (fun r hr => r_runV (As := [.int y3]) (rest := []) hC kV_X12_151 cw_X12_ends (rc_X12 hC hP) hP (tM_ends x al lv σ y3 r hr) rfl hl.1 ⟨Nat.le_of_ble_eq_true rfl, Nat.le_of_ble_eq_true rfl⟩ ⟨Nat.le_of_ble_eq_true rfl, Nat.le_of_ble_eq_true rfl⟩ (Nat.le_of_ble_eq_true rfl) dX12_cut_44) (fun y6 σ7 H locs h hP hS => ?_)
        exact r_retI hC hP hS rfl h dX12_cut_47
    · replace h := (br h).1 hc
      exact wM_cut_22  hC  σ H locs ls h hP hS (lv_sub hl [0] rfl)

set_option maxRecDepth 20000 in
theorem tM_cut {l : Launch} (x : Wx) (al : Nat → Nat → Nat) (lv : Nat → Bool) (σ : Sg) (v1 : Int32) (v2 : Int32) (v3 : Int32) (v4 : Int32) (res : Int32 × Sg) (h : fM_cut σ v1 v2 v3 v4 = some res) : Met l yX12_cut (Cond.code yX12_cut cX12_cut 6 (some .int) :: lwg) (rmm 5 0 0) (va_Pc [.ref (al 7 0), .int v1, .int v2, .int v3, .int v4] (Wd x al lv σ)) (QI x al lv res) 0 0 (Ab x) := by
  refine met_W (by decide) (Nat.le_of_ble_eq_true rfl) rfl (fun p e s m args below meth c ls hC hP hS hl => ?_)
  exact wM_cut_0  hC σ v1 v2 v3 v4 _ _ ls h hP hS hl
