set_option maxHeartbeats 4000000 in
set_option maxRecDepth 20000 in
theorem wM_line_0 {p : Program} {l : Launch} {e : Env} {s : State} {m : MethodId} {args : Array Value} {below : List Frame} {meth : Method} {c : Code} {x : Wx} {al : Nat → Nat → Nat} {lv : Nat → Bool} {res : Int32} {σ : Sg} (hC : Cx x p s m args meth c cX12_line 3 (some .int) RX12) (v1 : Int32) (v2 : Int32) (H : Heap) (locs : List Loc) (ls : Array Slot) (h : fM_line_0 σ v1 v2 = some res) (hP : Pic x al lv σ H) (hS : va_S (Ab x) s.heap H locs) (hl : lv_has ls 3 [(0, .ref (al 7 0)), (1, .int v1), (2, .int v2)]) : W p l e (rmm 2 0 0) s m args below meth c H locs 0 0 (MQ below (QP x al lv σ res) args s 0 0 (Ab x)) (F0 m 0 ls []) := by
  obtain ⟨hx, hb, hml, hown, hts⟩ := hC.1
  unfold fM_line_0 at h
  refine lv_iload_n hx hb dX12_line_0 rfl (lv_at hl 2 rfl) ?_
  refine lv_iconst (v := 0) hx hb dX12_line_1 (by decide) ?_
  refine lv_iconst (v := 5) hx hb dX12_line_2 (by decide) ?_
  refine r_cP hS h (fun r hr => r_runS (As := [.int v2, .int 0, .int 5]) (rest := []) hC kS_X12_145 cw_X12_in hP (tM_in x al lv σ v2 0 5 r hr) rfl hl.1 ⟨Nat.le_of_ble_eq_true rfl, Nat.le_of_ble_eq_true rfl⟩ ⟨Nat.le_of_ble_eq_true rfl, Nat.le_of_ble_eq_true rfl⟩ (Nat.le_of_ble_eq_true rfl) dX12_line_3) (fun y1 H locs h hP hS => ?_)
  refine lv_if_ne (tgt := 11) hx hb dX12_line_6 (by decide) (fun hc => ?_) (fun hc => ?_)
  · replace h := (br h).2 hc
    refine lv_iload_n hx hb dX12_line_11 rfl (lv_at hl 1 rfl) ?_
    refine lv_iconst (v := 0) hx hb dX12_line_12 (by decide) ?_
    refine lv_aload_n hx hb dX12_line_13 rfl (lv_at hl 0 rfl) ?_
    refine gt_X12_27 hC hP wf_X12_228 dX12_line_14 ?_
    refine lv_iconst (v := 1) hx hb dX12_line_17 (by decide) ?_
    refine lv_isub hx hb dX12_line_18 ?_
    refine r_cP hS h (fun r hr => r_runS (As := [.int v1, .int 0, .int ((σ 7 0 27) - 1)]) (rest := []) hC kS_X12_145 cw_X12_in hP (tM_in x al lv σ v1 0 ((σ 7 0 27) - 1) r hr) rfl hl.1 ⟨Nat.le_of_ble_eq_true rfl, Nat.le_of_ble_eq_true rfl⟩ ⟨Nat.le_of_ble_eq_true rfl, Nat.le_of_ble_eq_true rfl⟩ (Nat.le_of_ble_eq_true rfl) dX12_line_19) (fun y2 H locs h hP hS => ?_)
    refine lv_if_eq (tgt := 39) hx hb dX12_line_22 (by decide) (fun hc => ?_) (fun hc => ?_)
    · replace h := (br h).1 hc
      refine lv_bipush (v := (-2)) hx hb dX12_line_39 (by decide) ?_
      exact r_retP hC hP hS rfl h dX12_line_41
    · replace h := (br h).2 hc
      refine lv_aload_n hx hb dX12_line_25 rfl (lv_at hl 0 rfl) ?_
      refine gt_X12_28 hC hP wf_X12_88 dX12_line_26 ?_
      refine lv_bipush (v := 6) hx hb dX12_line_29 (by decide) ?_
      refine lv_iload_n hx hb dX12_line_31 rfl (lv_at hl 1 rfl) ?_
      refine lv_imul hx hb dX12_line_32 ?_
      refine lv_iload_n hx hb dX12_line_33 rfl (lv_at hl 2 rfl) ?_
      refine lv_iadd hx hb dX12_line_34 ?_
      refine r_iald hC hP (aM_28 hP.l7) h dX12_line_35 (fun h => ?_)
      refine lv_goto (tgt := 41) hx hb dX12_line_36 (by decide) ?_
      exact r_retP hC hP hS rfl h dX12_line_41
  · replace h := (br h).1 hc
    refine lv_iconst (v := (-1)) hx hb dX12_line_9 (by decide) ?_
    exact r_retP hC hP hS rfl h dX12_line_10

set_option maxRecDepth 20000 in
theorem tM_line {l : Launch} (x : Wx) (al : Nat → Nat → Nat) (lv : Nat → Bool) (σ : Sg) (v1 : Int32) (v2 : Int32) (res : Int32) (h : fM_line σ v1 v2 = some res) : Met l yX12_line (Cond.code yX12_line cX12_line 3 (some .int) :: lwg) (rmm 2 0 0) (va_Pc [.ref (al 7 0), .int v1, .int v2] (Wd x al lv σ)) (QP x al lv σ res) 0 0 (Ab x) := by
  refine met_W (by decide) (Nat.le_of_ble_eq_true rfl) rfl (fun p e s m args below meth c ls hC hP hS hl => ?_)
  exact wM_line_0  hC v1 v2 _ _ ls h hP hS hl
set_option maxHeartbeats 4000000 in
set_option maxRecDepth 20000 in
theorem wM_alter_13 {p : Program} {l : Launch} {e : Env} {s : State} {m : MethodId} {args : Array Value} {below : List Frame} {meth : Method} {c : Code} {x : Wx} {al : Nat → Nat → Nat} {lv : Nat → Bool} {res : Int32 × Sg} (hC : Cx x p s m args meth c cX12_alter 4 (some .int) RX12) (σ : Sg) (H : Heap) (locs : List Loc) (ls : Array Slot) (h : fM_alter_13 σ = some res) (hP : Pic x al lv σ H) (hS : va_S (Ab x) s.heap H locs) (hl : lv_has ls 4 [(0, .ref (al 7 0))]) : W p l e (rmm 2 0 0) s m args below meth c H locs 0 0 (MQ below (QI x al lv res) args s 0 0 (Ab x)) (F0 m 13 ls []) := by
  obtain ⟨hx, hb, hml, hown, hts⟩ := hC.1
  unfold fM_alter_13 at h
  refine lv_aload_n hx hb dX12_alter_13 rfl (lv_at hl 0 rfl) ?_
  refine lv_iconst (v := (-1)) hx hb dX12_alter_14 (by decide) ?_
  refine r_cI hS h (fun r hr => r_runV (As := [.int ((-1))]) (rest := []) hC kV_X12_151 cw_X12_ends (rc_X12 hC hP) hP (tM_ends x al lv σ ((-1)) r hr) rfl hl.1 ⟨Nat.le_of_ble_eq_true rfl, Nat.le_of_ble_eq_true rfl⟩ ⟨Nat.le_of_ble_eq_true rfl, Nat.le_of_ble_eq_true rfl⟩ (Nat.le_of_ble_eq_true rfl) dX12_alter_15) (fun y8 σ9 H locs h hP hS => ?_)
  exact r_retI hC hP hS rfl h dX12_alter_18

set_option maxHeartbeats 4000000 in
set_option maxRecDepth 20000 in
theorem wM_alter_0 {p : Program} {l : Launch} {e : Env} {s : State} {m : MethodId} {args : Array Value} {below : List Frame} {meth : Method} {c : Code} {x : Wx} {al : Nat → Nat → Nat} {lv : Nat → Bool} {res : Int32 × Sg} (hC : Cx x p s m args meth c cX12_alter 4 (some .int) RX12) (σ : Sg) (v1 : Int32) (v2 : Int32) (v3 : Int32) (H : Heap) (locs : List Loc) (ls : Array Slot) (h : fM_alter_0 σ v1 v2 v3 = some res) (hP : Pic x al lv σ H) (hS : va_S (Ab x) s.heap H locs) (hl : lv_has ls 4 [(0, .ref (al 7 0)), (1, .int v1), (2, .int v2), (3, .int v3)]) : W p l e (rmm 2 0 0) s m args below meth c H locs 0 0 (MQ below (QI x al lv res) args s 0 0 (Ab x)) (F0 m 0 ls []) := by
  obtain ⟨hx, hb, hml, hown, hts⟩ := hC.1
  unfold fM_alter_0 at h
  refine lv_iload_n hx hb dX12_alter_0 rfl (lv_at hl 2 rfl) ?_
  refine lv_iconst (v := 0) hx hb dX12_alter_1 (by decide) ?_
  refine lv_iconst (v := 5) hx hb dX12_alter_2 (by decide) ?_
  refine r_cP hS h (fun r hr => r_runS (As := [.int v2, .int 0, .int 5]) (rest := []) hC kS_X12_145 cw_X12_in hP (tM_in x al lv σ v2 0 5 r hr) rfl hl.1 ⟨Nat.le_of_ble_eq_true rfl, Nat.le_of_ble_eq_true rfl⟩ ⟨Nat.le_of_ble_eq_true rfl, Nat.le_of_ble_eq_true rfl⟩ (Nat.le_of_ble_eq_true rfl) dX12_alter_3) (fun y1 H locs h hP hS => ?_)
  refine lv_if_eq (tgt := 13) hx hb dX12_alter_6 (by decide) (fun hc => ?_) (fun hc => ?_)
  · replace h := (br h).1 hc
    exact wM_alter_13  hC  σ H locs ls h hP hS (lv_sub hl [0] rfl)
  · replace h := (br h).2 hc
    refine lv_iload_n hx hb dX12_alter_9 rfl (lv_at hl 3 rfl) ?_
    refine lv_if_ne (tgt := 19) hx hb dX12_alter_10 (by decide) (fun hc => ?_) (fun hc => ?_)
    · replace h := (br h).2 hc
      refine lv_iload_n hx hb dX12_alter_19 rfl (lv_at hl 1 rfl) ?_
      refine lv_iconst (v := 0) hx hb dX12_alter_20 (by decide) ?_
      refine lv_aload_n hx hb dX12_alter_21 rfl (lv_at hl 0 rfl) ?_
      refine gt_X12_27 hC hP wf_X12_228 dX12_alter_22 ?_
      refine lv_iconst (v := 1) hx hb dX12_alter_25 (by decide) ?_
      refine lv_isub hx hb dX12_alter_26 ?_
      refine r_cP hS h (fun r hr => r_runS (As := [.int v1, .int 0, .int ((σ 7 0 27) - 1)]) (rest := []) hC kS_X12_145 cw_X12_in hP (tM_in x al lv σ v1 0 ((σ 7 0 27) - 1) r hr) rfl hl.1 ⟨Nat.le_of_ble_eq_true rfl, Nat.le_of_ble_eq_true rfl⟩ ⟨Nat.le_of_ble_eq_true rfl, Nat.le_of_ble_eq_true rfl⟩ (Nat.le_of_ble_eq_true rfl) dX12_alter_27) (fun y2 H locs h hP hS => ?_)
      refine lv_if_ne (tgt := 40) hx hb dX12_alter_30 (by decide) (fun hc => ?_) (fun hc => ?_)
      · replace h := (br h).2 hc
        refine lv_aload_n hx hb dX12_alter_40 rfl (lv_at hl 0 rfl) ?_
        refine gt_X12_28 hC hP wf_X12_88 dX12_alter_41 ?_
        refine lv_bipush (v := 6) hx hb dX12_alter_44 (by decide) ?_
        refine lv_iload_n hx hb dX12_alter_46 rfl (lv_at hl 1 rfl) ?_
        refine lv_imul hx hb dX12_alter_47 ?_
        refine lv_iload_n hx hb dX12_alter_48 rfl (lv_at hl 2 rfl) ?_
        refine lv_iadd hx hb dX12_alter_49 ?_
        refine lv_dup2_11 hx hb dX12_alter_50 rfl rfl ?_
        refine r_iald hC hP (aM_28 hP.l7) h dX12_alter_51 (fun h => ?_)
        refine lv_iload_n hx hb dX12_alter_52 rfl (lv_at hl 3 rfl) ?_
        refine lv_ixor hx hb dX12_alter_53 ?_
        refine r_iast hC hP hS (aM_28 hP.l7) h dX12_alter_54 (fun σ3 H locs h hP hS => ?_)
        refine lv_aload_n hx hb dX12_alter_55 rfl (lv_at hl 0 rfl) ?_
        refine lv_iconst (v := 0) hx hb dX12_alter_56 (by decide) ?_
        refine r_cI hS h (fun r hr => r_runV (As := [.int 0]) (rest := []) hC kV_X12_151 cw_X12_ends (rc_X12 hC hP) hP (tM_ends x al lv σ3 0 r hr) rfl hl.1 ⟨Nat.le_of_ble_eq_true rfl, Nat.le_of_ble_eq_true rfl⟩ ⟨Nat.le_of_ble_eq_true rfl, Nat.le_of_ble_eq_true rfl⟩ (Nat.le_of_ble_eq_true rfl) dX12_alter_57) (fun y4 σ5 H locs h hP hS => ?_)
        exact r_retI hC hP hS rfl h dX12_alter_60
      · replace h := (br h).1 hc
        refine lv_aload_n hx hb dX12_alter_33 rfl (lv_at hl 0 rfl) ?_
        refine lv_bipush (v := (-2)) hx hb dX12_alter_34 (by decide) ?_
        refine r_cI hS h (fun r hr => r_runV (As := [.int ((-2))]) (rest := []) hC kV_X12_151 cw_X12_ends (rc_X12 hC hP) hP (tM_ends x al lv σ ((-2)) r hr) rfl hl.1 ⟨Nat.le_of_ble_eq_true rfl, Nat.le_of_ble_eq_true rfl⟩ ⟨Nat.le_of_ble_eq_true rfl, Nat.le_of_ble_eq_true rfl⟩ (Nat.le_of_ble_eq_true rfl) dX12_alter_36) (fun y6 σ7 H locs h hP hS => ?_)
        exact r_retI hC hP hS rfl h dX12_alter_39
    · replace h := (br h).1 hc
      exact wM_alter_13  hC  σ H locs ls h hP hS (lv_sub hl [0] rfl)

set_option maxRecDepth 20000 in
theorem tM_alter {l : Launch} (x : Wx) (al : Nat → Nat → Nat) (lv : Nat → Bool) (σ : Sg) (v1 : Int32) (v2 : Int32) (v3 : Int32) (res : Int32 × Sg) (h : fM_alter σ v1 v2 v3 = some res) : Met l yX12_alter (Cond.code yX12_alter cX12_alter 4 (some .int) :: lwg) (rmm 2 0 0) (va_Pc [.ref (al 7 0), .int v1, .int v2, .int v3] (Wd x al lv σ)) (QI x al lv res) 0 0 (Ab x) := by
  refine met_W (by decide) (Nat.le_of_ble_eq_true rfl) rfl (fun p e s m args below meth c ls hC hP hS hl => ?_)
  exact wM_alter_0  hC σ v1 v2 v3 _ _ ls h hP hS hl
set_option maxHeartbeats 4000000 in
set_option maxRecDepth 20000 in
theorem wM_check_12_b {p : Program} {l : Launch} {e : Env} {s : State} {m : MethodId} {args : Array Value} {below : List Frame} {meth : Method} {c : Code} {x : Wx} {al : Nat → Nat → Nat} {lv : Nat → Bool} {res : Int32} {σ : Sg} (hC : Cx x p s m args meth c cX12_check 2 (some .int) RX12) (k12 : Int32 → Option (Int32)) (hk12 : ∀ (x1 : Int32) (H : Heap) (locs : List Loc) (ls : Array Slot), k12 x1 = some res → Pic x al lv σ H → va_S (Ab x) s.heap H locs → lv_has ls 2 [(0, .ref (al 7 0)), (1, .int x1)] → W p l e (rmm 1 0 0) s m args below meth c H locs 0 0 (MQ below (QP x al lv σ res) args s 0 0 (Ab x)) (F0 m 12 ls [])) (x1 : Int32) (H : Heap) (locs : List Loc) (ls : Array Slot) (h : fM_check_12_b k12 σ x1 = some res) (hP : Pic x al lv σ H) (hS : va_S (Ab x) s.heap H locs) (hl : lv_has ls 2 [(0, .ref (al 7 0)), (1, .int x1)]) : W p l e (rmm 1 0 0) s m args below meth c H locs 0 0 (MQ below (QP x al lv σ res) args s 0 0 (Ab x)) (F0 m 12 ls []) := by
  obtain ⟨hx, hb, hml, hown, hts⟩ := hC.1
  unfold fM_check_12_b at h
  refine lv_iload_n hx hb dX12_check_12 rfl (lv_at hl 1 rfl) ?_
  refine lv_bipush (v := 6) hx hb dX12_check_13 (by decide) ?_
  refine lv_aload_n hx hb dX12_check_15 rfl (lv_at hl 0 rfl) ?_
  refine gt_X12_27 hC hP wf_X12_228 dX12_check_16 ?_
  refine lv_imul hx hb dX12_check_19 ?_
  refine lv_icmp_ge (tgt := 49) hx hb dX12_check_20 (by decide) (fun hc => ?_) (fun hc => ?_)
  · replace h := (br h).1 hc
    refine lv_iconst (v := (-1)) hx hb dX12_check_49 (by decide) ?_
    exact r_retP hC hP hS rfl h dX12_check_50
  · replace h := (br h).2 hc
    refine lv_aload_n hx hb dX12_check_23 rfl (lv_at hl 0 rfl) ?_
    refine gt_X12_28 hC hP wf_X12_88 dX12_check_24 ?_
    refine lv_iload_n hx hb dX12_check_27 rfl (lv_at hl 1 rfl) ?_
    refine r_iald hC hP (aM_28 hP.l7) h dX12_check_28 (fun h => ?_)
    refine lv_aload_n hx hb dX12_check_29 rfl (lv_at hl 0 rfl) ?_
    refine gt_X12_29 hC hP wf_X12_91 dX12_check_30 ?_
    refine lv_iload_n hx hb dX12_check_33 rfl (lv_at hl 1 rfl) ?_
    refine r_iald hC hP (aM_29 hP.l7) h dX12_check_34 (fun h => ?_)
    refine lv_icmp_eq (tgt := 43) hx hb dX12_check_35 (by decide) (fun hc => ?_) (fun hc => ?_)
    · replace h := (br h).1 hc
      refine r_iinc (v := 1) hC h dX12_check_43 hl (k := 1) rfl rfl (by decide) (fun y1 => [(1, .int y1), (0, .ref (al 7 0))]) (fun _ => rfl) (fun y1 ls h hl => ?_)
      refine lv_goto (tgt := 12) hx hb dX12_check_46 (by decide) ?_
      exact hk12 y1 H locs ls h hP hS (lv_sub hl [1, 0] rfl)
    · replace h := (br h).2 hc
      refine lv_iload_n hx hb dX12_check_38 rfl (lv_at hl 1 rfl) ?_
      refine lv_bipush (v := 6) hx hb dX12_check_39 (by decide) ?_
      refine lv_idiv hx hb dX12_check_41 (by decide) ?_
      exact r_retP hC hP hS rfl h dX12_check_42

set_option maxHeartbeats 4000000 in
set_option maxRecDepth 20000 in
theorem wM_check_12 {p : Program} {l : Launch} {e : Env} {s : State} {m : MethodId} {args : Array Value} {below : List Frame} {meth : Method} {c : Code} {x : Wx} {al : Nat → Nat → Nat} {lv : Nat → Bool} {res : Int32} {σ : Sg} (hC : Cx x p s m args meth c cX12_check 2 (some .int) RX12) (n : Nat) (x1 : Int32) (H : Heap) (locs : List Loc) (ls : Array Slot) (h : fM_check_12 n σ x1 = some res) (hP : Pic x al lv σ H) (hS : va_S (Ab x) s.heap H locs) (hl : lv_has ls 2 [(0, .ref (al 7 0)), (1, .int x1)]) : W p l e (rmm 1 0 0) s m args below meth c H locs 0 0 (MQ below (QP x al lv σ res) args s 0 0 (Ab x)) (F0 m 12 ls []) := by
  induction n generalizing x1 H locs ls with
  | zero => exact nomatch h
  | succ n ih => exact wM_check_12_b  hC  _ (fun x1 H locs ls h hP hS hl => ih x1 H locs ls h hP hS hl) x1 H locs ls h hP hS hl
set_option maxHeartbeats 4000000 in
set_option maxRecDepth 20000 in
theorem wM_check_0 {p : Program} {l : Launch} {e : Env} {s : State} {m : MethodId} {args : Array Value} {below : List Frame} {meth : Method} {c : Code} {x : Wx} {al : Nat → Nat → Nat} {lv : Nat → Bool} {res : Int32} {σ : Sg} (hC : Cx x p s m args meth c cX12_check 2 (some .int) RX12) (H : Heap) (locs : List Loc) (ls : Array Slot) (h : fM_check_0 σ = some res) (hP : Pic x al lv σ H) (hS : va_S (Ab x) s.heap H locs) (hl : lv_has ls 2 [(0, .ref (al 7 0))]) : W p l e (rmm 1 0 0) s m args below meth c H locs 0 0 (MQ below (QP x al lv σ res) args s 0 0 (Ab x)) (F0 m 0 ls []) := by
  obtain ⟨hx, hb, hml, hown, hts⟩ := hC.1
  unfold fM_check_0 at h
  refine lv_aload_n hx hb dX12_check_0 rfl (lv_at hl 0 rfl) ?_
  refine gt_X12_26 hC hP wf_X12_245 dX12_check_1 ?_
  refine lv_if_ne (tgt := 10) hx hb dX12_check_4 (by decide) (fun hc => ?_) (fun hc => ?_)
  · replace h := (br h).2 hc
    refine lv_iconst (v := 0) hx hb dX12_check_10 (by decide) ?_
    refine lv_istore_n (lv' := [(1, .int 0), (0, .ref (al 7 0))]) hx hb dX12_check_11 rfl hl (by decide) rfl (fun ls hl => ?_)
    exact wM_check_12  hC  FU 0 H locs ls h hP hS (lv_sub hl [1, 0] rfl)
  · replace h := (br h).1 hc
    refine lv_bipush (v := (-7)) hx hb dX12_check_7 (by decide) ?_
    exact r_retP hC hP hS rfl h dX12_check_9

set_option maxRecDepth 20000 in
theorem tM_check {l : Launch} (x : Wx) (al : Nat → Nat → Nat) (lv : Nat → Bool) (σ : Sg) (res : Int32) (h : fM_check σ = some res) : Met l yX12_check (Cond.code yX12_check cX12_check 2 (some .int) :: lwg) (rmm 1 0 0) (va_Pc [.ref (al 7 0)] (Wd x al lv σ)) (QP x al lv σ res) 0 0 (Ab x) := by
  refine met_W (by decide) (Nat.le_of_ble_eq_true rfl) rfl (fun p e s m args below meth c ls hC hP hS hl => ?_)
  exact wM_check_0  hC  _ _ ls h hP hS hl
set_option maxHeartbeats 4000000 in
set_option maxRecDepth 20000 in
theorem wM_nextOf_172 {p : Program} {l : Launch} {e : Env} {s : State} {m : MethodId} {args : Array Value} {below : List Frame} {meth : Method} {c : Code} {x : Wx} {al : Nat → Nat → Nat} {lv : Nat → Bool} {res : Int32} {σ : Sg} (hC : Cx x p s m args meth c cX12_nextOf 9 (some .int) RX12) (k7 : Int32 → Int32 → Int32 → Int32 → Option (Int32)) (hk7 : ∀ (x1 : Int32) (x2 : Int32) (x3 : Int32) (x4 : Int32) (H : Heap) (locs : List Loc) (ls : Array Slot), k7 x1 x2 x3 x4 = some res → Pic x al lv σ H → va_S (Ab x) s.heap H locs → lv_has ls 9 [(0, .ref (al 7 0)), (1, .int x1), (2, .int x2), (3, .int x3), (4, .int x4)] → W p l e (rmm 6 0 0) s m args below meth c H locs 0 0 (MQ below (QP x al lv σ res) args s 0 0 (Ab x)) (F0 m 7 ls [])) (x1 : Int32) (x2 : Int32) (x3 : Int32) (x4 : Int32) (H : Heap) (locs : List Loc) (ls : Array Slot) (h : fM_nextOf_172 k7 σ x1 x2 x3 x4 = some res) (hP : Pic x al lv σ H) (hS : va_S (Ab x) s.heap H locs) (hl : lv_has ls 9 [(0, .ref (al 7 0)), (1, .int x1), (2, .int x2), (3, .int x3), (4, .int x4)]) : W p l e (rmm 6 0 0) s m args below meth c H locs 0 0 (MQ below (QP x al lv σ res) args s 0 0 (Ab x)) (F0 m 172 ls []) := by
  obtain ⟨hx, hb, hml, hown, hts⟩ := hC.1
  unfold fM_nextOf_172 at h
  refine r_iinc (v := 1) hC h dX12_nextOf_172 hl (k := 4) rfl rfl (by decide) (fun y5 => [(4, .int y5), (0, .ref (al 7 0)), (1, .int x1), (2, .int x2), (3, .int x3)]) (fun _ => rfl) (fun y5 ls h hl => ?_)
  refine lv_goto (tgt := 7) hx hb dX12_nextOf_175 (by decide) ?_
  exact hk7 x1 x2 x3 y5 H locs ls h hP hS (lv_sub hl [1, 2, 3, 4, 0] rfl)

set_option maxHeartbeats 4000000 in
set_option maxRecDepth 20000 in
theorem wM_nextOf_171 {p : Program} {l : Launch} {e : Env} {s : State} {m : MethodId} {args : Array Value} {below : List Frame} {meth : Method} {c : Code} {x : Wx} {al : Nat → Nat → Nat} {lv : Nat → Bool} {res : Int32} {σ : Sg} (hC : Cx x p s m args meth c cX12_nextOf 9 (some .int) RX12) (k7 : Int32 → Int32 → Int32 → Int32 → Option (Int32)) (hk7 : ∀ (x1 : Int32) (x2 : Int32) (x3 : Int32) (x4 : Int32) (H : Heap) (locs : List Loc) (ls : Array Slot), k7 x1 x2 x3 x4 = some res → Pic x al lv σ H → va_S (Ab x) s.heap H locs → lv_has ls 9 [(0, .ref (al 7 0)), (1, .int x1), (2, .int x2), (3, .int x3), (4, .int x4)] → W p l e (rmm 6 0 0) s m args below meth c H locs 0 0 (MQ below (QP x al lv σ res) args s 0 0 (Ab x)) (F0 m 7 ls [])) (x1 : Int32) (x2 : Int32) (x4 : Int32) (t0 : Int32) (H : Heap) (locs : List Loc) (ls : Array Slot) (h : fM_nextOf_171 k7 σ x1 x2 x4 t0 = some res) (hP : Pic x al lv σ H) (hS : va_S (Ab x) s.heap H locs) (hl : lv_has ls 9 [(0, .ref (al 7 0)), (1, .int x1), (2, .int x2), (4, .int x4)]) : W p l e (rmm 6 0 0) s m args below meth c H locs 0 0 (MQ below (QP x al lv σ res) args s 0 0 (Ab x)) (F0 m 171 ls [.int t0]) := by
  obtain ⟨hx, hb, hml, hown, hts⟩ := hC.1
  unfold fM_nextOf_171 at h
  refine lv_istore_n (lv' := [(3, .int t0), (0, .ref (al 7 0)), (1, .int x1), (2, .int x2), (4, .int x4)]) hx hb dX12_nextOf_171 rfl hl (by decide) rfl (fun ls hl => ?_)
  exact wM_nextOf_172  hC k7 hk7 x1 x2 t0 x4 H locs ls h hP hS (lv_sub hl [1, 2, 3, 0, 4] rfl)

set_option maxHeartbeats 4000000 in
set_option maxRecDepth 20000 in
theorem wM_nextOf_159 {p : Program} {l : Launch} {e : Env} {s : State} {m : MethodId} {args : Array Value} {below : List Frame} {meth : Method} {c : Code} {x : Wx} {al : Nat → Nat → Nat} {lv : Nat → Bool} {res : Int32} {σ : Sg} (hC : Cx x p s m args meth c cX12_nextOf 9 (some .int) RX12) (k7 : Int32 → Int32 → Int32 → Int32 → Option (Int32)) (hk7 : ∀ (x1 : Int32) (x2 : Int32) (x3 : Int32) (x4 : Int32) (H : Heap) (locs : List Loc) (ls : Array Slot), k7 x1 x2 x3 x4 = some res → Pic x al lv σ H → va_S (Ab x) s.heap H locs → lv_has ls 9 [(0, .ref (al 7 0)), (1, .int x1), (2, .int x2), (3, .int x3), (4, .int x4)] → W p l e (rmm 6 0 0) s m args below meth c H locs 0 0 (MQ below (QP x al lv σ res) args s 0 0 (Ab x)) (F0 m 7 ls [])) (x1 : Int32) (x3 : Int32) (x4 : Int32) (x5 : Int32) (x6 : Int32) (t0 : Int32) (H : Heap) (locs : List Loc) (ls : Array Slot) (h : fM_nextOf_159 k7 σ x1 x3 x4 x5 x6 t0 = some res) (hP : Pic x al lv σ H) (hS : va_S (Ab x) s.heap H locs) (hl : lv_has ls 9 [(0, .ref (al 7 0)), (1, .int x1), (3, .int x3), (4, .int x4), (5, .int x5), (6, .int x6)]) : W p l e (rmm 6 0 0) s m args below meth c H locs 0 0 (MQ below (QP x al lv σ res) args s 0 0 (Ab x)) (F0 m 159 ls [.int t0]) := by
  obtain ⟨hx, hb, hml, hown, hts⟩ := hC.1
  unfold fM_nextOf_159 at h
  refine lv_istore_n (lv' := [(2, .int t0), (0, .ref (al 7 0)), (1, .int x1), (3, .int x3), (4, .int x4), (5, .int x5), (6, .int x6)]) hx hb dX12_nextOf_159 rfl hl (by decide) rfl (fun ls hl => ?_)
  refine lv_iload hx hb dX12_nextOf_160 (lv_at hl 6 rfl) ?_
  refine lv_if_eq (tgt := 170) hx hb dX12_nextOf_162 (by decide) (fun hc => ?_) (fun hc => ?_)
  · replace h := (br h).1 hc
    refine lv_iload_n hx hb dX12_nextOf_170 rfl (lv_at hl 3 rfl) ?_
    exact wM_nextOf_171  hC k7 hk7 x1 t0 x4 x3 H locs ls h hP hS (lv_sub hl [1, 2, 0, 4] rfl)
  · replace h := (br h).2 hc
    refine lv_iload hx hb dX12_nextOf_165 (lv_at hl 5 rfl) ?_
    refine lv_goto (tgt := 171) hx hb dX12_nextOf_167 (by decide) ?_
    exact wM_nextOf_171  hC k7 hk7 x1 t0 x4 x5 H locs ls h hP hS (lv_sub hl [1, 2, 0, 4] rfl)

set_option maxHeartbeats 4000000 in
set_option maxRecDepth 20000 in
theorem wM_nextOf_148 {p : Program} {l : Launch} {e : Env} {s : State} {m : MethodId} {args : Array Value} {below : List Frame} {meth : Method} {c : Code} {x : Wx} {al : Nat → Nat → Nat} {lv : Nat → Bool} {res : Int32} {σ : Sg} (hC : Cx x p s m args meth c cX12_nextOf 9 (some .int) RX12) (k7 : Int32 → Int32 → Int32 → Int32 → Option (Int32)) (hk7 : ∀ (x1 : Int32) (x2 : Int32) (x3 : Int32) (x4 : Int32) (H : Heap) (locs : List Loc) (ls : Array Slot), k7 x1 x2 x3 x4 = some res → Pic x al lv σ H → va_S (Ab x) s.heap H locs → lv_has ls 9 [(0, .ref (al 7 0)), (1, .int x1), (2, .int x2), (3, .int x3), (4, .int x4)] → W p l e (rmm 6 0 0) s m args below meth c H locs 0 0 (MQ below (QP x al lv σ res) args s 0 0 (Ab x)) (F0 m 7 ls [])) (x1 : Int32) (x2 : Int32) (x3 : Int32) (x4 : Int32) (x5 : Int32) (x6 : Int32) (H : Heap) (locs : List Loc) (ls : Array Slot) (h : fM_nextOf_148 k7 σ x1 x2 x3 x4 x5 x6 = some res) (hP : Pic x al lv σ H) (hS : va_S (Ab x) s.heap H locs) (hl : lv_has ls 9 [(0, .ref (al 7 0)), (1, .int x1), (2, .int x2), (3, .int x3), (4, .int x4), (5, .int x5), (6, .int x6)]) : W p l e (rmm 6 0 0) s m args below meth c H locs 0 0 (MQ below (QP x al lv σ res) args s 0 0 (Ab x)) (F0 m 148 ls []) := by
  obtain ⟨hx, hb, hml, hown, hts⟩ := hC.1
  unfold fM_nextOf_148 at h
  refine lv_iload hx hb dX12_nextOf_148 (lv_at hl 6 rfl) ?_
  refine lv_if_eq (tgt := 158) hx hb dX12_nextOf_150 (by decide) (fun hc => ?_) (fun hc => ?_)
  · replace h := (br h).1 hc
    refine lv_iload_n hx hb dX12_nextOf_158 rfl (lv_at hl 2 rfl) ?_
    exact wM_nextOf_159  hC k7 hk7 x1 x3 x4 x5 x6 x2 H locs ls h hP hS (lv_sub hl [0, 1, 3, 4, 5, 6] rfl)
  · replace h := (br h).2 hc
    refine lv_iload hx hb dX12_nextOf_153 (lv_at hl 4 rfl) ?_
    refine lv_goto (tgt := 159) hx hb dX12_nextOf_155 (by decide) ?_
    exact wM_nextOf_159  hC k7 hk7 x1 x3 x4 x5 x6 x4 H locs ls h hP hS (lv_sub hl [0, 1, 3, 4, 5, 6] rfl)

set_option maxHeartbeats 4000000 in
set_option maxRecDepth 20000 in
theorem wM_nextOf_146 {p : Program} {l : Launch} {e : Env} {s : State} {m : MethodId} {args : Array Value} {below : List Frame} {meth : Method} {c : Code} {x : Wx} {al : Nat → Nat → Nat} {lv : Nat → Bool} {res : Int32} {σ : Sg} (hC : Cx x p s m args meth c cX12_nextOf 9 (some .int) RX12) (k7 : Int32 → Int32 → Int32 → Int32 → Option (Int32)) (hk7 : ∀ (x1 : Int32) (x2 : Int32) (x3 : Int32) (x4 : Int32) (H : Heap) (locs : List Loc) (ls : Array Slot), k7 x1 x2 x3 x4 = some res → Pic x al lv σ H → va_S (Ab x) s.heap H locs → lv_has ls 9 [(0, .ref (al 7 0)), (1, .int x1), (2, .int x2), (3, .int x3), (4, .int x4)] → W p l e (rmm 6 0 0) s m args below meth c H locs 0 0 (MQ below (QP x al lv σ res) args s 0 0 (Ab x)) (F0 m 7 ls [])) (x1 : Int32) (x2 : Int32) (x3 : Int32) (x4 : Int32) (x5 : Int32) (t0 : Int32) (H : Heap) (locs : List Loc) (ls : Array Slot) (h : fM_nextOf_146 k7 σ x1 x2 x3 x4 x5 t0 = some res) (hP : Pic x al lv σ H) (hS : va_S (Ab x) s.heap H locs) (hl : lv_has ls 9 [(0, .ref (al 7 0)), (1, .int x1), (2, .int x2), (3, .int x3), (4, .int x4), (5, .int x5)]) : W p l e (rmm 6 0 0) s m args below meth c H locs 0 0 (MQ below (QP x al lv σ res) args s 0 0 (Ab x)) (F0 m 146 ls [.int t0]) := by
  obtain ⟨hx, hb, hml, hown, hts⟩ := hC.1
  unfold fM_nextOf_146 at h
  refine lv_istore (lv' := [(6, .int t0), (0, .ref (al 7 0)), (1, .int x1), (2, .int x2), (3, .int x3), (4, .int x4), (5, .int x5)]) hx hb dX12_nextOf_146 hl (by decide) rfl (fun ls hl => ?_)
  exact wM_nextOf_148  hC k7 hk7 x1 x2 x3 x4 x5 t0 H locs ls h hP hS (lv_sub hl [1, 2, 3, 4, 5, 6, 0] rfl)

set_option maxHeartbeats 4000000 in
set_option maxRecDepth 20000 in
theorem wM_nextOf_141 {p : Program} {l : Launch} {e : Env} {s : State} {m : MethodId} {args : Array Value} {below : List Frame} {meth : Method} {c : Code} {x : Wx} {al : Nat → Nat → Nat} {lv : Nat → Bool} {res : Int32} {σ : Sg} (hC : Cx x p s m args meth c cX12_nextOf 9 (some .int) RX12) (k7 : Int32 → Int32 → Int32 → Int32 → Option (Int32)) (hk7 : ∀ (x1 : Int32) (x2 : Int32) (x3 : Int32) (x4 : Int32) (H : Heap) (locs : List Loc) (ls : Array Slot), k7 x1 x2 x3 x4 = some res → Pic x al lv σ H → va_S (Ab x) s.heap H locs → lv_has ls 9 [(0, .ref (al 7 0)), (1, .int x1), (2, .int x2), (3, .int x3), (4, .int x4)] → W p l e (rmm 6 0 0) s m args below meth c H locs 0 0 (MQ below (QP x al lv σ res) args s 0 0 (Ab x)) (F0 m 7 ls [])) (x1 : Int32) (x2 : Int32) (x3 : Int32) (x4 : Int32) (x5 : Int32) (H : Heap) (locs : List Loc) (ls : Array Slot) (h : fM_nextOf_141 k7 σ x1 x2 x3 x4 x5 = some res) (hP : Pic x al lv σ H) (hS : va_S (Ab x) s.heap H locs) (hl : lv_has ls 9 [(0, .ref (al 7 0)), (1, .int x1), (2, .int x2), (3, .int x3), (4, .int x4), (5, .int x5)]) : W p l e (rmm 6 0 0) s m args below meth c H locs 0 0 (MQ below (QP x al lv σ res) args s 0 0 (Ab x)) (F0 m 141 ls []) := by
  obtain ⟨hx, hb, hml, hown, hts⟩ := hC.1
  unfold fM_nextOf_141 at h
  refine lv_iconst (v := 1) hx hb dX12_nextOf_141 (by decide) ?_
  refine lv_goto (tgt := 146) hx hb dX12_nextOf_142 (by decide) ?_
  exact wM_nextOf_146  hC k7 hk7 x1 x2 x3 x4 x5 1 H locs ls h hP hS (lv_sub hl [0, 1, 2, 3, 4, 5] rfl)

set_option maxHeartbeats 4000000 in
set_option maxRecDepth 20000 in
theorem wM_nextOf_145 {p : Program} {l : Launch} {e : Env} {s : State} {m : MethodId} {args : Array Value} {below : List Frame} {meth : Method} {c : Code} {x : Wx} {al : Nat → Nat → Nat} {lv : Nat → Bool} {res : Int32} {σ : Sg} (hC : Cx x p s m args meth c cX12_nextOf 9 (some .int) RX12) (k7 : Int32 → Int32 → Int32 → Int32 → Option (Int32)) (hk7 : ∀ (x1 : Int32) (x2 : Int32) (x3 : Int32) (x4 : Int32) (H : Heap) (locs : List Loc) (ls : Array Slot), k7 x1 x2 x3 x4 = some res → Pic x al lv σ H → va_S (Ab x) s.heap H locs → lv_has ls 9 [(0, .ref (al 7 0)), (1, .int x1), (2, .int x2), (3, .int x3), (4, .int x4)] → W p l e (rmm 6 0 0) s m args below meth c H locs 0 0 (MQ below (QP x al lv σ res) args s 0 0 (Ab x)) (F0 m 7 ls [])) (x1 : Int32) (x2 : Int32) (x3 : Int32) (x4 : Int32) (x5 : Int32) (H : Heap) (locs : List Loc) (ls : Array Slot) (h : fM_nextOf_145 k7 σ x1 x2 x3 x4 x5 = some res) (hP : Pic x al lv σ H) (hS : va_S (Ab x) s.heap H locs) (hl : lv_has ls 9 [(0, .ref (al 7 0)), (1, .int x1), (2, .int x2), (3, .int x3), (4, .int x4), (5, .int x5)]) : W p l e (rmm 6 0 0) s m args below meth c H locs 0 0 (MQ below (QP x al lv σ res) args s 0 0 (Ab x)) (F0 m 145 ls []) := by
  obtain ⟨hx, hb, hml, hown, hts⟩ := hC.1
  unfold fM_nextOf_145 at h
  refine lv_iconst (v := 0) hx hb dX12_nextOf_145 (by decide) ?_
  exact wM_nextOf_146  hC k7 hk7 x1 x2 x3 x4 x5 0 H locs ls h hP hS (lv_sub hl [0, 1, 2, 3, 4, 5] rfl)

set_option maxHeartbeats 4000000 in
set_option maxRecDepth 20000 in
theorem wM_nextOf_71 {p : Program} {l : Launch} {e : Env} {s : State} {m : MethodId} {args : Array Value} {below : List Frame} {meth : Method} {c : Code} {x : Wx} {al : Nat → Nat → Nat} {lv : Nat → Bool} {res : Int32} {σ : Sg} (hC : Cx x p s m args meth c cX12_nextOf 9 (some .int) RX12) (k7 : Int32 → Int32 → Int32 → Int32 → Option (Int32)) (hk7 : ∀ (x1 : Int32) (x2 : Int32) (x3 : Int32) (x4 : Int32) (H : Heap) (locs : List Loc) (ls : Array Slot), k7 x1 x2 x3 x4 = some res → Pic x al lv σ H → va_S (Ab x) s.heap H locs → lv_has ls 9 [(0, .ref (al 7 0)), (1, .int x1), (2, .int x2), (3, .int x3), (4, .int x4)] → W p l e (rmm 6 0 0) s m args below meth c H locs 0 0 (MQ below (QP x al lv σ res) args s 0 0 (Ab x)) (F0 m 7 ls [])) (x1 : Int32) (x2 : Int32) (x3 : Int32) (x4 : Int32) (x5 : Int32) (t0 : Int32) (H : Heap) (locs : List Loc) (ls : Array Slot) (h : fM_nextOf_71 k7 σ x1 x2 x3 x4 x5 t0 = some res) (hP : Pic x al lv σ H) (hS : va_S (Ab x) s.heap H locs) (hl : lv_has ls 9 [(0, .ref (al 7 0)), (1, .int x1), (2, .int x2), (3, .int x3), (4, .int x4), (5, .int x5)]) : W p l e (rmm 6 0 0) s m args below meth c H locs 0 0 (MQ below (QP x al lv σ res) args s 0 0 (Ab x)) (F0 m 71 ls [.int t0]) := by
  obtain ⟨hx, hb, hml, hown, hts⟩ := hC.1
  unfold fM_nextOf_71 at h
  refine lv_istore (lv' := [(6, .int t0), (0, .ref (al 7 0)), (1, .int x1), (2, .int x2), (3, .int x3), (4, .int x4), (5, .int x5)]) hx hb dX12_nextOf_71 hl (by decide) rfl (fun ls hl => ?_)
  refine lv_iload hx hb dX12_nextOf_73 (lv_at hl 0 rfl) ?_
  refine lv_if_ne (tgt := 148) hx hb dX12_nextOf_75 (by decide) (fun hc => ?_) (fun hc => ?_)
  · replace h := (br h).2 hc
    exact wM_nextOf_148  hC k7 hk7 x1 x2 x3 x4 x5 t0 H locs ls h hP hS (lv_sub hl [1, 2, 3, 4, 5, 6, 0] rfl)
  · replace h := (br h).1 hc
    refine lv_iload hx hb dX12_nextOf_78 (lv_at hl 6 rfl) ?_
    refine lv_iload_n hx hb dX12_nextOf_80 rfl (lv_at hl 4 rfl) ?_
    refine lv_icmp_ne (tgt := 148) hx hb dX12_nextOf_81 (by decide) (fun hc => ?_) (fun hc => ?_)
    · replace h := (br h).2 hc
      exact wM_nextOf_148  hC k7 hk7 x1 x2 x3 x4 x5 t0 H locs ls h hP hS (lv_sub hl [1, 2, 3, 4, 5, 6, 0] rfl)
    · replace h := (br h).1 hc
      refine lv_aload_n hx hb dX12_nextOf_84 rfl (lv_at hl 1 rfl) ?_
      refine lv_iload_n hx hb dX12_nextOf_85 rfl (lv_at hl 2 rfl) ?_
      refine lv_aload_n hx hb dX12_nextOf_86 rfl (lv_at hl 1 rfl) ?_
      refine gt_X12_22 hC hP wf_X12_76 dX12_nextOf_87 ?_
      refine lv_iload hx hb dX12_nextOf_90 (lv_at hl 5 rfl) ?_
      refine r_iald hC hP (aM_22 hP.l7) h dX12_nextOf_92 (fun h => ?_)
      refine r_cP hS h (fun r hr => r_runV (As := [.int x1, .int (σ 7 22 x4.toNatClampNeg)]) (rest := []) hC kV_X12_170 cw_X12_layerOf (rc_X12 hC hP) hP (tM_layerOf x al lv σ x1 (σ 7 22 x4.toNatClampNeg) r hr) rfl hl.1 ⟨Nat.le_of_ble_eq_true rfl, Nat.le_of_ble_eq_true rfl⟩ ⟨Nat.le_of_ble_eq_true rfl, Nat.le_of_ble_eq_true rfl⟩ (Nat.le_of_ble_eq_true rfl) dX12_nextOf_93) (fun y3 H locs h hP hS => ?_)
      refine lv_istore (lv' := [(7, .int y3), (6, .int t0), (0, .ref (al 7 0)), (1, .int x1), (2, .int x2), (3, .int x3), (4, .int x4), (5, .int x5)]) hx hb dX12_nextOf_96 hl (by decide) rfl (fun ls hl => ?_)
      refine lv_aload_n hx hb dX12_nextOf_98 rfl (lv_at hl 2 rfl) ?_
      refine lv_iload_n hx hb dX12_nextOf_99 rfl (lv_at hl 3 rfl) ?_
      refine lv_aload_n hx hb dX12_nextOf_100 rfl (lv_at hl 2 rfl) ?_
      refine gt_X12_22 hC hP wf_X12_76 dX12_nextOf_101 ?_
      refine lv_iload_n hx hb dX12_nextOf_104 rfl (lv_at hl 4 rfl) ?_
      refine r_iald hC hP (aM_22 hP.l7) h dX12_nextOf_105 (fun h => ?_)
      refine r_cP hS h (fun r hr => r_runV (As := [.int x1, .int (σ 7 22 x2.toNatClampNeg)]) (rest := []) hC kV_X12_170 cw_X12_layerOf (rc_X12 hC hP) hP (tM_layerOf x al lv σ x1 (σ 7 22 x2.toNatClampNeg) r hr) rfl hl.1 ⟨Nat.le_of_ble_eq_true rfl, Nat.le_of_ble_eq_true rfl⟩ ⟨Nat.le_of_ble_eq_true rfl, Nat.le_of_ble_eq_true rfl⟩ (Nat.le_of_ble_eq_true rfl) dX12_nextOf_106) (fun y4 H locs h hP hS => ?_)
      refine lv_istore (lv' := [(8, .int y4), (7, .int y3), (6, .int t0), (0, .ref (al 7 0)), (1, .int x1), (2, .int x2), (3, .int x3), (4, .int x4), (5, .int x5)]) hx hb dX12_nextOf_109 hl (by decide) rfl (fun ls hl => ?_)
      refine lv_iload hx hb dX12_nextOf_111 (lv_at hl 1 rfl) ?_
      refine lv_iload hx hb dX12_nextOf_113 (lv_at hl 0 rfl) ?_
      refine lv_icmp_gt (tgt := 141) hx hb dX12_nextOf_115 (by decide) (fun hc => ?_) (fun hc => ?_)
      · replace h := (br h).1 hc
        exact wM_nextOf_141  hC k7 hk7 x1 x2 x3 x4 x5 H locs ls h hP hS (lv_sub hl [3, 4, 5, 6, 7, 8] rfl)
      · replace h := (br h).2 hc
        refine lv_iload hx hb dX12_nextOf_118 (lv_at hl 1 rfl) ?_
        refine lv_iload hx hb dX12_nextOf_120 (lv_at hl 0 rfl) ?_
        refine lv_icmp_ne (tgt := 145) hx hb dX12_nextOf_122 (by decide) (fun hc => ?_) (fun hc => ?_)
        · replace h := (br h).2 hc
          exact wM_nextOf_145  hC k7 hk7 x1 x2 x3 x4 x5 H locs ls h hP hS (lv_sub hl [3, 4, 5, 6, 7, 8] rfl)
        · replace h := (br h).1 hc
          refine lv_aload_n hx hb dX12_nextOf_125 rfl (lv_at hl 3 rfl) ?_
          refine gt_X12_22 hC hP wf_X12_76 dX12_nextOf_126 ?_
          refine lv_iload hx hb dX12_nextOf_129 (lv_at hl 7 rfl) ?_
          refine r_iald hC hP (aM_22 hP.l7) h dX12_nextOf_131 (fun h => ?_)
          refine lv_aload_n hx hb dX12_nextOf_132 rfl (lv_at hl 3 rfl) ?_
          refine gt_X12_22 hC hP wf_X12_76 dX12_nextOf_133 ?_
          refine lv_iload_n hx hb dX12_nextOf_136 rfl (lv_at hl 5 rfl) ?_
          refine r_iald hC hP (aM_22 hP.l7) h dX12_nextOf_137 (fun h => ?_)
          refine lv_icmp_ge (tgt := 145) hx hb dX12_nextOf_138 (by decide) (fun hc => ?_) (fun hc => ?_)
          · replace h := (br h).1 hc
            exact wM_nextOf_145  hC k7 hk7 x1 x2 x3 x4 x5 H locs ls h hP hS (lv_sub hl [3, 4, 5, 6, 7, 8] rfl)
          · replace h := (br h).2 hc
            exact wM_nextOf_141  hC k7 hk7 x1 x2 x3 x4 x5 H locs ls h hP hS (lv_sub hl [3, 4, 5, 6, 7, 8] rfl)

set_option maxHeartbeats 4000000 in
set_option maxRecDepth 20000 in
theorem wM_nextOf_66 {p : Program} {l : Launch} {e : Env} {s : State} {m : MethodId} {args : Array Value} {below : List Frame} {meth : Method} {c : Code} {x : Wx} {al : Nat → Nat → Nat} {lv : Nat → Bool} {res : Int32} {σ : Sg} (hC : Cx x p s m args meth c cX12_nextOf 9 (some .int) RX12) (k7 : Int32 → Int32 → Int32 → Int32 → Option (Int32)) (hk7 : ∀ (x1 : Int32) (x2 : Int32) (x3 : Int32) (x4 : Int32) (H : Heap) (locs : List Loc) (ls : Array Slot), k7 x1 x2 x3 x4 = some res → Pic x al lv σ H → va_S (Ab x) s.heap H locs → lv_has ls 9 [(0, .ref (al 7 0)), (1, .int x1), (2, .int x2), (3, .int x3), (4, .int x4)] → W p l e (rmm 6 0 0) s m args below meth c H locs 0 0 (MQ below (QP x al lv σ res) args s 0 0 (Ab x)) (F0 m 7 ls [])) (x1 : Int32) (x2 : Int32) (x3 : Int32) (x4 : Int32) (x5 : Int32) (H : Heap) (locs : List Loc) (ls : Array Slot) (h : fM_nextOf_66 k7 σ x1 x2 x3 x4 x5 = some res) (hP : Pic x al lv σ H) (hS : va_S (Ab x) s.heap H locs) (hl : lv_has ls 9 [(0, .ref (al 7 0)), (1, .int x1), (2, .int x2), (3, .int x3), (4, .int x4), (5, .int x5)]) : W p l e (rmm 6 0 0) s m args below meth c H locs 0 0 (MQ below (QP x al lv σ res) args s 0 0 (Ab x)) (F0 m 66 ls []) := by
  obtain ⟨hx, hb, hml, hown, hts⟩ := hC.1
  unfold fM_nextOf_66 at h
  refine lv_iconst (v := 1) hx hb dX12_nextOf_66 (by decide) ?_
  refine lv_goto (tgt := 71) hx hb dX12_nextOf_67 (by decide) ?_
  exact wM_nextOf_71  hC k7 hk7 x1 x2 x3 x4 x5 1 H locs ls h hP hS (lv_sub hl [0, 1, 2, 3, 4, 5] rfl)

set_option maxHeartbeats 4000000 in
set_option maxRecDepth 20000 in
theorem wM_nextOf_7_b {p : Program} {l : Launch} {e : Env} {s : State} {m : MethodId} {args : Array Value} {below : List Frame} {meth : Method} {c : Code} {x : Wx} {al : Nat → Nat → Nat} {lv : Nat → Bool} {res : Int32} {σ : Sg} (hC : Cx x p s m args meth c cX12_nextOf 9 (some .int) RX12) (k7 : Int32 → Int32 → Int32 → Int32 → Option (Int32)) (hk7 : ∀ (x1 : Int32) (x2 : Int32) (x3 : Int32) (x4 : Int32) (H : Heap) (locs : List Loc) (ls : Array Slot), k7 x1 x2 x3 x4 = some res → Pic x al lv σ H → va_S (Ab x) s.heap H locs → lv_has ls 9 [(0, .ref (al 7 0)), (1, .int x1), (2, .int x2), (3, .int x3), (4, .int x4)] → W p l e (rmm 6 0 0) s m args below meth c H locs 0 0 (MQ below (QP x al lv σ res) args s 0 0 (Ab x)) (F0 m 7 ls [])) (x1 : Int32) (x2 : Int32) (x3 : Int32) (x4 : Int32) (H : Heap) (locs : List Loc) (ls : Array Slot) (h : fM_nextOf_7_b k7 σ x1 x2 x3 x4 = some res) (hP : Pic x al lv σ H) (hS : va_S (Ab x) s.heap H locs) (hl : lv_has ls 9 [(0, .ref (al 7 0)), (1, .int x1), (2, .int x2), (3, .int x3), (4, .int x4)]) : W p l e (rmm 6 0 0) s m args below meth c H locs 0 0 (MQ below (QP x al lv σ res) args s 0 0 (Ab x)) (F0 m 7 ls []) := by
  obtain ⟨hx, hb, hml, hown, hts⟩ := hC.1
  unfold fM_nextOf_7_b at h
  refine lv_iload hx hb dX12_nextOf_7 (lv_at hl 4 rfl) ?_
  refine lv_aload_n hx hb dX12_nextOf_9 rfl (lv_at hl 0 rfl) ?_
  refine gt_X12_8 hC hP wf_X12_34 dX12_nextOf_10 ?_
  refine lv_iconst (v := 0) hx hb dX12_nextOf_13 (by decide) ?_
  refine r_iald hC hP (aM_8 hP.l7) h dX12_nextOf_14 (fun h => ?_)
  refine lv_icmp_ge (tgt := 178) hx hb dX12_nextOf_15 (by decide) (fun hc => ?_) (fun hc => ?_)
  · replace h := (br h).1 hc
    refine lv_iload_n hx hb dX12_nextOf_178 rfl (lv_at hl 2 rfl) ?_
    exact r_retP hC hP hS rfl h dX12_nextOf_179
  · replace h := (br h).2 hc
    refine lv_aload_n hx hb dX12_nextOf_18 rfl (lv_at hl 0 rfl) ?_
    refine gt_X12_21 hC hP wf_X12_73 dX12_nextOf_19 ?_
    refine lv_iload hx hb dX12_nextOf_22 (lv_at hl 4 rfl) ?_
    refine r_iald hC hP (aM_21 hP.l7) h dX12_nextOf_24 (fun h => ?_)
    refine lv_iload_n hx hb dX12_nextOf_25 rfl (lv_at hl 1 rfl) ?_
    refine lv_icmp_ne (tgt := 172) hx hb dX12_nextOf_26 (by decide) (fun hc => ?_) (fun hc => ?_)
    · replace h := (br h).2 hc
      exact wM_nextOf_172  hC k7 hk7 x1 x2 x3 x4 H locs ls h hP hS (lv_sub hl [0, 1, 2, 3, 4] rfl)
    · replace h := (br h).1 hc
      refine lv_aload_n hx hb dX12_nextOf_29 rfl (lv_at hl 0 rfl) ?_
      refine lv_iload hx hb dX12_nextOf_30 (lv_at hl 4 rfl) ?_
      refine r_cP hS h (fun r hr => r_runV (As := [.int x4]) (rest := []) hC kV_X12_206 cw_X12_isFree (rc_X12 hC hP) hP (tM_isFree x al lv σ x4 r hr) rfl hl.1 ⟨Nat.le_of_ble_eq_true rfl, Nat.le_of_ble_eq_true rfl⟩ ⟨Nat.le_of_ble_eq_true rfl, Nat.le_of_ble_eq_true rfl⟩ (Nat.le_of_ble_eq_true rfl) dX12_nextOf_32) (fun y1 H locs h hP hS => ?_)
      refine lv_if_ne (tgt := 41) hx hb dX12_nextOf_35 (by decide) (fun hc => ?_) (fun hc => ?_)
      · replace h := (br h).2 hc
        refine lv_aload_n hx hb dX12_nextOf_41 rfl (lv_at hl 0 rfl) ?_
        refine lv_iload hx hb dX12_nextOf_42 (lv_at hl 4 rfl) ?_
        refine lv_aload_n hx hb dX12_nextOf_44 rfl (lv_at hl 0 rfl) ?_
        refine gt_X12_6 hC hP wf_X12_27 dX12_nextOf_45 ?_
        refine lv_iconst (v := 0) hx hb dX12_nextOf_48 (by decide) ?_
        refine r_iald hC hP (aM_6 hP.l7) h dX12_nextOf_49 (fun h => ?_)
        refine r_cP hS h (fun r hr => r_runV (As := [.int x4, .int (σ 7 6 (0 : Int32).toNatClampNeg)]) (rest := []) hC kV_X12_225 cw_X12_loss (rc_X12 hC hP) hP (tM_loss x al lv σ x4 (σ 7 6 (0 : Int32).toNatClampNeg) r hr) rfl hl.1 ⟨Nat.le_of_ble_eq_true rfl, Nat.le_of_ble_eq_true rfl⟩ ⟨Nat.le_of_ble_eq_true rfl, Nat.le_of_ble_eq_true rfl⟩ (Nat.le_of_ble_eq_true rfl) dX12_nextOf_50) (fun y2 H locs h hP hS => ?_)
        refine lv_istore (lv' := [(5, .int y2), (0, .ref (al 7 0)), (1, .int x1), (2, .int x2), (3, .int x3), (4, .int x4)]) hx hb dX12_nextOf_53 hl (by decide) rfl (fun ls hl => ?_)
        refine lv_iload_n hx hb dX12_nextOf_55 rfl (lv_at hl 3 rfl) ?_
        refine lv_iconst (v := (-1)) hx hb dX12_nextOf_56 (by decide) ?_
        refine lv_icmp_eq (tgt := 66) hx hb dX12_nextOf_57 (by decide) (fun hc => ?_) (fun hc => ?_)
        · replace h := (br h).1 hc
          exact wM_nextOf_66  hC k7 hk7 x1 x2 x3 x4 y2 H locs ls h hP hS (lv_sub hl [1, 2, 3, 4, 5, 0] rfl)
        · replace h := (br h).2 hc
          refine lv_iload hx hb dX12_nextOf_60 (lv_at hl 0 rfl) ?_
          refine lv_iload_n hx hb dX12_nextOf_62 rfl (lv_at hl 4 rfl) ?_
          refine lv_icmp_le (tgt := 70) hx hb dX12_nextOf_63 (by decide) (fun hc => ?_) (fun hc => ?_)
          · replace h := (br h).1 hc
            refine lv_iconst (v := 0) hx hb dX12_nextOf_70 (by decide) ?_
            exact wM_nextOf_71  hC k7 hk7 x1 x2 x3 x4 y2 0 H locs ls h hP hS (lv_sub hl [1, 2, 3, 4, 5, 0] rfl)
          · replace h := (br h).2 hc
            exact wM_nextOf_66  hC k7 hk7 x1 x2 x3 x4 y2 H locs ls h hP hS (lv_sub hl [1, 2, 3, 4, 5, 0] rfl)
      · replace h := (br h).1 hc
        refine lv_goto (tgt := 172) hx hb dX12_nextOf_38 (by decide) ?_
        exact wM_nextOf_172  hC k7 hk7 x1 x2 x3 x4 H locs ls h hP hS (lv_sub hl [0, 1, 2, 3, 4] rfl)

set_option maxHeartbeats 4000000 in
set_option maxRecDepth 20000 in
theorem wM_nextOf_7 {p : Program} {l : Launch} {e : Env} {s : State} {m : MethodId} {args : Array Value} {below : List Frame} {meth : Method} {c : Code} {x : Wx} {al : Nat → Nat → Nat} {lv : Nat → Bool} {res : Int32} {σ : Sg} (hC : Cx x p s m args meth c cX12_nextOf 9 (some .int) RX12) (n : Nat) (x1 : Int32) (x2 : Int32) (x3 : Int32) (x4 : Int32) (H : Heap) (locs : List Loc) (ls : Array Slot) (h : fM_nextOf_7 n σ x1 x2 x3 x4 = some res) (hP : Pic x al lv σ H) (hS : va_S (Ab x) s.heap H locs) (hl : lv_has ls 9 [(0, .ref (al 7 0)), (1, .int x1), (2, .int x2), (3, .int x3), (4, .int x4)]) : W p l e (rmm 6 0 0) s m args below meth c H locs 0 0 (MQ below (QP x al lv σ res) args s 0 0 (Ab x)) (F0 m 7 ls []) := by
  induction n generalizing x1 x2 x3 x4 H locs ls with
  | zero => exact nomatch h
  | succ n ih => exact wM_nextOf_7_b  hC  _ (fun x1 x2 x3 x4 H locs ls h hP hS hl => ih x1 x2 x3 x4 H locs ls h hP hS hl) x1 x2 x3 x4 H locs ls h hP hS hl
set_option maxHeartbeats 4000000 in
set_option maxRecDepth 20000 in
theorem wM_nextOf_0 {p : Program} {l : Launch} {e : Env} {s : State} {m : MethodId} {args : Array Value} {below : List Frame} {meth : Method} {c : Code} {x : Wx} {al : Nat → Nat → Nat} {lv : Nat → Bool} {res : Int32} {σ : Sg} (hC : Cx x p s m args meth c cX12_nextOf 9 (some .int) RX12) (v1 : Int32) (H : Heap) (locs : List Loc) (ls : Array Slot) (h : fM_nextOf_0 σ v1 = some res) (hP : Pic x al lv σ H) (hS : va_S (Ab x) s.heap H locs) (hl : lv_has ls 9 [(0, .ref (al 7 0)), (1, .int v1)]) : W p l e (rmm 6 0 0) s m args below meth c H locs 0 0 (MQ below (QP x al lv σ res) args s 0 0 (Ab x)) (F0 m 0 ls []) := by
  obtain ⟨hx, hb, hml, hown, hts⟩ := hC.1
  unfold fM_nextOf_0 at h
  refine lv_iconst (v := (-1)) hx hb dX12_nextOf_0 (by decide) ?_
  refine lv_istore_n (lv' := [(2, .int ((-1))), (0, .ref (al 7 0)), (1, .int v1)]) hx hb dX12_nextOf_1 rfl hl (by decide) rfl (fun ls hl => ?_)
  refine lv_iconst (v := 0) hx hb dX12_nextOf_2 (by decide) ?_
  refine lv_istore_n (lv' := [(3, .int 0), (2, .int ((-1))), (0, .ref (al 7 0)), (1, .int v1)]) hx hb dX12_nextOf_3 rfl hl (by decide) rfl (fun ls hl => ?_)
  refine lv_iconst (v := 0) hx hb dX12_nextOf_4 (by decide) ?_
  refine lv_istore (lv' := [(4, .int 0), (3, .int 0), (2, .int ((-1))), (0, .ref (al 7 0)), (1, .int v1)]) hx hb dX12_nextOf_5 hl (by decide) rfl (fun ls hl => ?_)
  exact wM_nextOf_7  hC  FU v1 ((-1)) 0 0 H locs ls h hP hS (lv_sub hl [3, 4, 2, 1, 0] rfl)

set_option maxRecDepth 20000 in
theorem tM_nextOf {l : Launch} (x : Wx) (al : Nat → Nat → Nat) (lv : Nat → Bool) (σ : Sg) (v1 : Int32) (res : Int32) (h : fM_nextOf σ v1 = some res) : Met l yX12_nextOf (Cond.code yX12_nextOf cX12_nextOf 9 (some .int) :: lwg) (rmm 6 0 0) (va_Pc [.ref (al 7 0), .int v1] (Wd x al lv σ)) (QP x al lv σ res) 0 0 (Ab x) := by
  refine met_W (by decide) (Nat.le_of_ble_eq_true rfl) rfl (fun p e s m args below meth c ls hC hP hS hl => ?_)
  exact wM_nextOf_0  hC v1 _ _ ls h hP hS hl
set_option maxHeartbeats 4000000 in
set_option maxRecDepth 20000 in
theorem wM_next_0 {p : Program} {l : Launch} {e : Env} {s : State} {m : MethodId} {args : Array Value} {below : List Frame} {meth : Method} {c : Code} {x : Wx} {al : Nat → Nat → Nat} {lv : Nat → Bool} {res : Int32} {σ : Sg} (hC : Cx x p s m args meth c cX12_next 2 (some .int) RX12) (v1 : Int32) (H : Heap) (locs : List Loc) (ls : Array Slot) (h : fM_next_0 σ v1 = some res) (hP : Pic x al lv σ H) (hS : va_S (Ab x) s.heap H locs) (hl : lv_has ls 2 [(0, .ref (al 7 0)), (1, .int v1)]) : W p l e (rmm 7 0 0) s m args below meth c H locs 0 0 (MQ below (QP x al lv σ res) args s 0 0 (Ab x)) (F0 m 0 ls []) := by
  obtain ⟨hx, hb, hml, hown, hts⟩ := hC.1
  unfold fM_next_0 at h
  refine lv_aload_n hx hb dX12_next_0 rfl (lv_at hl 0 rfl) ?_
  refine lv_iload_n hx hb dX12_next_1 rfl (lv_at hl 1 rfl) ?_
  refine r_cP hS h (fun r hr => r_runV (As := [.int v1]) (rest := []) hC kV_X12_180 cw_X12_isRoom (rc_X12 hC hP) hP (tM_isRoom x al lv σ v1 r hr) rfl hl.1 ⟨Nat.le_of_ble_eq_true rfl, Nat.le_of_ble_eq_true rfl⟩ ⟨Nat.le_of_ble_eq_true rfl, Nat.le_of_ble_eq_true rfl⟩ (Nat.le_of_ble_eq_true rfl) dX12_next_2) (fun y1 H locs h hP hS => ?_)
  refine lv_if_eq (tgt := 16) hx hb dX12_next_5 (by decide) (fun hc => ?_) (fun hc => ?_)
  · replace h := (br h).1 hc
    refine lv_bipush (v := (-2)) hx hb dX12_next_16 (by decide) ?_
    exact r_retP hC hP hS rfl h dX12_next_18
  · replace h := (br h).2 hc
    refine lv_aload_n hx hb dX12_next_8 rfl (lv_at hl 0 rfl) ?_
    refine lv_iload_n hx hb dX12_next_9 rfl (lv_at hl 1 rfl) ?_
    refine r_cP hS h (fun r hr => r_runV (As := [.int v1]) (rest := []) hC kV_X12_253 cw_X12_nextOf (rc_X12 hC hP) hP (tM_nextOf x al lv σ v1 r hr) rfl hl.1 ⟨Nat.le_of_ble_eq_true rfl, Nat.le_of_ble_eq_true rfl⟩ ⟨Nat.le_of_ble_eq_true rfl, Nat.le_of_ble_eq_true rfl⟩ (Nat.le_of_ble_eq_true rfl) dX12_next_10) (fun y2 H locs h hP hS => ?_)
    refine lv_goto (tgt := 18) hx hb dX12_next_13 (by decide) ?_
    exact r_retP hC hP hS rfl h dX12_next_18

set_option maxRecDepth 20000 in
theorem tM_next {l : Launch} (x : Wx) (al : Nat → Nat → Nat) (lv : Nat → Bool) (σ : Sg) (v1 : Int32) (res : Int32) (h : fM_next σ v1 = some res) : Met l yX12_next (Cond.code yX12_next cX12_next 2 (some .int) :: lwg) (rmm 7 0 0) (va_Pc [.ref (al 7 0), .int v1] (Wd x al lv σ)) (QP x al lv σ res) 0 0 (Ab x) := by
  refine met_W (by decide) (Nat.le_of_ble_eq_true rfl) rfl (fun p e s m args below meth c ls hC hP hS hl => ?_)
  exact wM_next_0  hC v1 _ _ ls h hP hS hl
set_option maxHeartbeats 4000000 in
set_option maxRecDepth 20000 in
theorem wM_take_59_b {p : Program} {l : Launch} {e : Env} {s : State} {m : MethodId} {args : Array Value} {below : List Frame} {meth : Method} {c : Code} {x : Wx} {al : Nat → Nat → Nat} {lv : Nat → Bool} {res : Int32 × Sg} (hC : Cx x p s m args meth c cX12_take 6 (some .int) RX12) (k59 : Sg → Int32 → Int32 → Int32 → Int32 → Option (Int32 × Sg)) (hk59 : ∀ (σ : Sg) (x1 : Int32) (x2 : Int32) (x3 : Int32) (x4 : Int32) (H : Heap) (locs : List Loc) (ls : Array Slot), k59 σ x1 x2 x3 x4 = some res → Pic x al lv σ H → va_S (Ab x) s.heap H locs → lv_has ls 6 [(0, .ref (al 7 0)), (1, .int x1), (2, .int x2), (3, .int x3), (4, .int x4)] → W p l e (rmm 7 0 0) s m args below meth c H locs 0 0 (MQ below (QI x al lv res) args s 0 0 (Ab x)) (F0 m 59 ls [])) (σ : Sg) (x1 : Int32) (x2 : Int32) (x3 : Int32) (x4 : Int32) (H : Heap) (locs : List Loc) (ls : Array Slot) (h : fM_take_59_b k59 σ x1 x2 x3 x4 = some res) (hP : Pic x al lv σ H) (hS : va_S (Ab x) s.heap H locs) (hl : lv_has ls 6 [(0, .ref (al 7 0)), (1, .int x1), (2, .int x2), (3, .int x3), (4, .int x4)]) : W p l e (rmm 7 0 0) s m args below meth c H locs 0 0 (MQ below (QI x al lv res) args s 0 0 (Ab x)) (F0 m 59 ls []) := by
  obtain ⟨hx, hb, hml, hown, hts⟩ := hC.1
  unfold fM_take_59_b at h
  refine lv_iload hx hb dX12_take_59 (lv_at hl 4 rfl) ?_
  refine lv_iload_n hx hb dX12_take_61 rfl (lv_at hl 2 rfl) ?_
  refine lv_icmp_ge (tgt := 115) hx hb dX12_take_62 (by decide) (fun hc => ?_) (fun hc => ?_)
  · replace h := (br h).1 hc
    refine lv_aload_n hx hb dX12_take_115 rfl (lv_at hl 0 rfl) ?_
    refine gt_X12_9 hC hP wf_X12_37 dX12_take_116 ?_
    refine lv_iconst (v := 1) hx hb dX12_take_119 (by decide) ?_
    refine lv_dup2_11 hx hb dX12_take_120 rfl rfl ?_
    refine r_iald hC hP (aM_9 hP.l7) h dX12_take_121 (fun h => ?_)
    refine lv_iload_n hx hb dX12_take_122 rfl (lv_at hl 3 rfl) ?_
    refine lv_iadd hx hb dX12_take_123 ?_
    refine r_iast hC hP hS (aM_9 hP.l7) h dX12_take_124 (fun σ11 H locs h hP hS => ?_)
    refine lv_aload_n hx hb dX12_take_125 rfl (lv_at hl 0 rfl) ?_
    refine lv_iload_n hx hb dX12_take_126 rfl (lv_at hl 3 rfl) ?_
    refine r_cI hS h (fun r hr => r_runV (As := [.int x3]) (rest := []) hC kV_X12_151 cw_X12_ends (rc_X12 hC hP) hP (tM_ends x al lv σ11 x3 r hr) rfl hl.1 ⟨Nat.le_of_ble_eq_true rfl, Nat.le_of_ble_eq_true rfl⟩ ⟨Nat.le_of_ble_eq_true rfl, Nat.le_of_ble_eq_true rfl⟩ (Nat.le_of_ble_eq_true rfl) dX12_take_127) (fun y12 σ13 H locs h hP hS => ?_)
    exact r_retI hC hP hS rfl h dX12_take_130
  · replace h := (br h).2 hc
    refine lv_aload_n hx hb dX12_take_65 rfl (lv_at hl 0 rfl) ?_
    refine lv_iload_n hx hb dX12_take_66 rfl (lv_at hl 1 rfl) ?_
    refine r_cP hS h (fun r hr => r_runV (As := [.int x1]) (rest := []) hC kV_X12_253 cw_X12_nextOf (rc_X12 hC hP) hP (tM_nextOf x al lv σ x1 r hr) rfl hl.1 ⟨Nat.le_of_ble_eq_true rfl, Nat.le_of_ble_eq_true rfl⟩ ⟨Nat.le_of_ble_eq_true rfl, Nat.le_of_ble_eq_true rfl⟩ (Nat.le_of_ble_eq_true rfl) dX12_take_67) (fun y14 H locs h hP hS => ?_)
    refine lv_istore (lv' := [(5, .int y14), (0, .ref (al 7 0)), (1, .int x1), (2, .int x2), (3, .int x3), (4, .int x4)]) hx hb dX12_take_70 hl (by decide) rfl (fun ls hl => ?_)
    refine lv_aload_n hx hb dX12_take_72 rfl (lv_at hl 1 rfl) ?_
    refine gt_X12_35 hC hP wf_X12_106 dX12_take_73 ?_
    refine lv_aload_n hx hb dX12_take_76 rfl (lv_at hl 1 rfl) ?_
    refine gt_X12_36 hC hP wf_X12_256 dX12_take_77 ?_
    refine lv_iload hx hb dX12_take_80 (lv_at hl 0 rfl) ?_
    refine r_iast hC hP hS (aM_35 hP.l7) h dX12_take_82 (fun σ15 H locs h hP hS => ?_)
    refine lv_aload_n hx hb dX12_take_83 rfl (lv_at hl 1 rfl) ?_
    refine lv_dup hx hb dX12_take_84 rfl ?_
    refine gt_X12_36 hC hP wf_X12_256 dX12_take_85 ?_
    refine lv_iconst (v := 1) hx hb dX12_take_88 (by decide) ?_
    refine lv_iadd hx hb dX12_take_89 ?_
    refine pt_X12_36 hC hP hS wf_X12_256 h dX12_take_90 (fun σ16 H locs h hP hS => ?_)
    refine lv_iload_n hx hb dX12_take_93 rfl (lv_at hl 4 rfl) ?_
    refine lv_aload_n hx hb dX12_take_94 rfl (lv_at hl 1 rfl) ?_
    refine gt_X12_20 hC hP wf_X12_70 dX12_take_95 ?_
    refine lv_iload hx hb dX12_take_98 (lv_at hl 0 rfl) ?_
    refine r_iald hC hP (aM_20 hP.l7) h dX12_take_100 (fun h => ?_)
    refine lv_iadd hx hb dX12_take_101 ?_
    refine r_lt h (fun y17 h => ?_)
    refine lv_istore_n (lv' := [(3, .int y17), (5, .int y14), (0, .ref (al 7 0)), (1, .int x1), (2, .int x2), (4, .int x4)]) hx hb dX12_take_102 rfl hl (by decide) rfl (fun ls hl => ?_)
    refine lv_aload_n hx hb dX12_take_103 rfl (lv_at hl 2 rfl) ?_
    refine lv_iload hx hb dX12_take_104 (lv_at hl 1 rfl) ?_
    refine r_cV hS h (fun r hr => r_runV (As := [.int y14]) (rest := []) hC kV_X12_241 cw_X12_out (rc_X12 hC hP) hP (tM_out x al lv σ16 y14 r hr) rfl hl.1 ⟨Nat.le_of_ble_eq_true rfl, Nat.le_of_ble_eq_true rfl⟩ ⟨Nat.le_of_ble_eq_true rfl, Nat.le_of_ble_eq_true rfl⟩ (Nat.le_of_ble_eq_true rfl) dX12_take_106) (fun σ18 H locs h hP hS => ?_)
    refine r_iinc (v := 1) hC h dX12_take_109 hl (k := 5) rfl rfl (by decide) (fun y19 => [(4, .int y19), (3, .int y17), (5, .int y14), (0, .ref (al 7 0)), (1, .int x1), (2, .int x2)]) (fun _ => rfl) (fun y19 ls h hl => ?_)
    refine lv_goto (tgt := 59) hx hb dX12_take_112 (by decide) ?_
    exact hk59 σ18 x1 x2 y17 y19 H locs ls h hP hS (lv_sub hl [3, 4, 5, 1, 0] rfl)

set_option maxHeartbeats 4000000 in
set_option maxRecDepth 20000 in
theorem wM_take_59 {p : Program} {l : Launch} {e : Env} {s : State} {m : MethodId} {args : Array Value} {below : List Frame} {meth : Method} {c : Code} {x : Wx} {al : Nat → Nat → Nat} {lv : Nat → Bool} {res : Int32 × Sg} (hC : Cx x p s m args meth c cX12_take 6 (some .int) RX12) (n : Nat) (σ : Sg) (x1 : Int32) (x2 : Int32) (x3 : Int32) (x4 : Int32) (H : Heap) (locs : List Loc) (ls : Array Slot) (h : fM_take_59 n σ x1 x2 x3 x4 = some res) (hP : Pic x al lv σ H) (hS : va_S (Ab x) s.heap H locs) (hl : lv_has ls 6 [(0, .ref (al 7 0)), (1, .int x1), (2, .int x2), (3, .int x3), (4, .int x4)]) : W p l e (rmm 7 0 0) s m args below meth c H locs 0 0 (MQ below (QI x al lv res) args s 0 0 (Ab x)) (F0 m 59 ls []) := by
  induction n generalizing σ x1 x2 x3 x4 H locs ls with
  | zero => exact nomatch h
  | succ n ih => exact wM_take_59_b  hC  _ (fun σ x1 x2 x3 x4 H locs ls h hP hS hl => ih σ x1 x2 x3 x4 H locs ls h hP hS hl) σ x1 x2 x3 x4 H locs ls h hP hS hl
set_option maxHeartbeats 4000000 in
set_option maxRecDepth 20000 in
theorem wM_take_0 {p : Program} {l : Launch} {e : Env} {s : State} {m : MethodId} {args : Array Value} {below : List Frame} {meth : Method} {c : Code} {x : Wx} {al : Nat → Nat → Nat} {lv : Nat → Bool} {res : Int32 × Sg} (hC : Cx x p s m args meth c cX12_take 6 (some .int) RX12) (σ : Sg) (v1 : Int32) (v2 : Int32) (H : Heap) (locs : List Loc) (ls : Array Slot) (h : fM_take_0 σ v1 v2 = some res) (hP : Pic x al lv σ H) (hS : va_S (Ab x) s.heap H locs) (hl : lv_has ls 6 [(0, .ref (al 7 0)), (1, .int v1), (2, .int v2)]) : W p l e (rmm 7 0 0) s m args below meth c H locs 0 0 (MQ below (QI x al lv res) args s 0 0 (Ab x)) (F0 m 0 ls []) := by
  obtain ⟨hx, hb, hml, hown, hts⟩ := hC.1
  unfold fM_take_0 at h
  refine lv_iload_n hx hb dX12_take_0 rfl (lv_at hl 2 rfl) ?_
  refine lv_iconst (v := 1) hx hb dX12_take_1 (by decide) ?_
  refine lv_sipush (v := 300) hx hb dX12_take_2 (by decide) ?_
  refine r_cP hS h (fun r hr => r_runS (As := [.int v2, .int 1, .int 300]) (rest := []) hC kS_X12_145 cw_X12_in hP (tM_in x al lv σ v2 1 300 r hr) rfl hl.1 ⟨Nat.le_of_ble_eq_true rfl, Nat.le_of_ble_eq_true rfl⟩ ⟨Nat.le_of_ble_eq_true rfl, Nat.le_of_ble_eq_true rfl⟩ (Nat.le_of_ble_eq_true rfl) dX12_take_5) (fun y1 H locs h hP hS => ?_)
  refine lv_if_ne (tgt := 17) hx hb dX12_take_8 (by decide) (fun hc => ?_) (fun hc => ?_)
  · replace h := (br h).2 hc
    refine lv_aload_n hx hb dX12_take_17 rfl (lv_at hl 0 rfl) ?_
    refine lv_iload_n hx hb dX12_take_18 rfl (lv_at hl 1 rfl) ?_
    refine r_cP hS h (fun r hr => r_runV (As := [.int v1]) (rest := []) hC kV_X12_180 cw_X12_isRoom (rc_X12 hC hP) hP (tM_isRoom x al lv σ v1 r hr) rfl hl.1 ⟨Nat.le_of_ble_eq_true rfl, Nat.le_of_ble_eq_true rfl⟩ ⟨Nat.le_of_ble_eq_true rfl, Nat.le_of_ble_eq_true rfl⟩ (Nat.le_of_ble_eq_true rfl) dX12_take_19) (fun y2 H locs h hP hS => ?_)
    refine lv_if_ne (tgt := 32) hx hb dX12_take_22 (by decide) (fun hc => ?_) (fun hc => ?_)
    · replace h := (br h).2 hc
      refine lv_aload_n hx hb dX12_take_32 rfl (lv_at hl 0 rfl) ?_
      refine lv_iload_n hx hb dX12_take_33 rfl (lv_at hl 1 rfl) ?_
      refine lv_iconst (v := (-1)) hx hb dX12_take_34 (by decide) ?_
      refine r_cP hS h (fun r hr => r_runV (As := [.int v1, .int ((-1))]) (rest := []) hC kV_X12_184 cw_X12_countOf (rc_X12 hC hP) hP (tM_countOf x al lv σ v1 ((-1)) r hr) rfl hl.1 ⟨Nat.le_of_ble_eq_true rfl, Nat.le_of_ble_eq_true rfl⟩ ⟨Nat.le_of_ble_eq_true rfl, Nat.le_of_ble_eq_true rfl⟩ (Nat.le_of_ble_eq_true rfl) dX12_take_35) (fun y3 H locs h hP hS => ?_)
      refine lv_iload_n hx hb dX12_take_38 rfl (lv_at hl 2 rfl) ?_
      refine lv_icmp_ge (tgt := 49) hx hb dX12_take_39 (by decide) (fun hc => ?_) (fun hc => ?_)
      · replace h := (br h).1 hc
        refine lv_iconst (v := 0) hx hb dX12_take_49 (by decide) ?_
        refine lv_istore_n (lv' := [(3, .int 0), (0, .ref (al 7 0)), (1, .int v1), (2, .int v2)]) hx hb dX12_take_50 rfl hl (by decide) rfl (fun ls hl => ?_)
        refine lv_aload_n hx hb dX12_take_51 rfl (lv_at hl 1 rfl) ?_
        refine lv_iconst (v := 0) hx hb dX12_take_52 (by decide) ?_
        refine pt_X12_36 hC hP hS wf_X12_256 h dX12_take_53 (fun σ4 H locs h hP hS => ?_)
        refine lv_iconst (v := 0) hx hb dX12_take_56 (by decide) ?_
        refine lv_istore (lv' := [(4, .int 0), (3, .int 0), (0, .ref (al 7 0)), (1, .int v1), (2, .int v2)]) hx hb dX12_take_57 hl (by decide) rfl (fun ls hl => ?_)
        exact wM_take_59  hC  FU σ4 v1 v2 0 0 H locs ls h hP hS (lv_sub hl [2, 3, 4, 1, 0] rfl)
      · replace h := (br h).2 hc
        refine lv_aload_n hx hb dX12_take_42 rfl (lv_at hl 0 rfl) ?_
        refine lv_bipush (v := (-6)) hx hb dX12_take_43 (by decide) ?_
        refine r_cI hS h (fun r hr => r_runV (As := [.int ((-6))]) (rest := []) hC kV_X12_151 cw_X12_ends (rc_X12 hC hP) hP (tM_ends x al lv σ ((-6)) r hr) rfl hl.1 ⟨Nat.le_of_ble_eq_true rfl, Nat.le_of_ble_eq_true rfl⟩ ⟨Nat.le_of_ble_eq_true rfl, Nat.le_of_ble_eq_true rfl⟩ (Nat.le_of_ble_eq_true rfl) dX12_take_45) (fun y5 σ6 H locs h hP hS => ?_)
        exact r_retI hC hP hS rfl h dX12_take_48
    · replace h := (br h).1 hc
      refine lv_aload_n hx hb dX12_take_25 rfl (lv_at hl 0 rfl) ?_
      refine lv_bipush (v := (-2)) hx hb dX12_take_26 (by decide) ?_
      refine r_cI hS h (fun r hr => r_runV (As := [.int ((-2))]) (rest := []) hC kV_X12_151 cw_X12_ends (rc_X12 hC hP) hP (tM_ends x al lv σ ((-2)) r hr) rfl hl.1 ⟨Nat.le_of_ble_eq_true rfl, Nat.le_of_ble_eq_true rfl⟩ ⟨Nat.le_of_ble_eq_true rfl, Nat.le_of_ble_eq_true rfl⟩ (Nat.le_of_ble_eq_true rfl) dX12_take_28) (fun y7 σ8 H locs h hP hS => ?_)
      exact r_retI hC hP hS rfl h dX12_take_31
  · replace h := (br h).1 hc
    refine lv_aload_n hx hb dX12_take_11 rfl (lv_at hl 0 rfl) ?_
    refine lv_iconst (v := (-1)) hx hb dX12_take_12 (by decide) ?_
    refine r_cI hS h (fun r hr => r_runV (As := [.int ((-1))]) (rest := []) hC kV_X12_151 cw_X12_ends (rc_X12 hC hP) hP (tM_ends x al lv σ ((-1)) r hr) rfl hl.1 ⟨Nat.le_of_ble_eq_true rfl, Nat.le_of_ble_eq_true rfl⟩ ⟨Nat.le_of_ble_eq_true rfl, Nat.le_of_ble_eq_true rfl⟩ (Nat.le_of_ble_eq_true rfl) dX12_take_13) (fun y9 σ10 H locs h hP hS => ?_)
    exact r_retI hC hP hS rfl h dX12_take_16

set_option maxRecDepth 20000 in
theorem tM_take {l : Launch} (x : Wx) (al : Nat → Nat → Nat) (lv : Nat → Bool) (σ : Sg) (v1 : Int32) (v2 : Int32) (res : Int32 × Sg) (h : fM_take σ v1 v2 = some res) : Met l yX12_take (Cond.code yX12_take cX12_take 6 (some .int) :: lwg) (rmm 7 0 0) (va_Pc [.ref (al 7 0), .int v1, .int v2] (Wd x al lv σ)) (QI x al lv res) 0 0 (Ab x) := by
  refine met_W (by decide) (Nat.le_of_ble_eq_true rfl) rfl (fun p e s m args below meth c ls hC hP hS hl => ?_)
  exact wM_take_0  hC σ v1 v2 _ _ ls h hP hS hl
set_option maxHeartbeats 4000000 in
set_option maxRecDepth 20000 in
theorem wM_way_20 {p : Program} {l : Launch} {e : Env} {s : State} {m : MethodId} {args : Array Value} {below : List Frame} {meth : Method} {c : Code} {x : Wx} {al : Nat → Nat → Nat} {lv : Nat → Bool} {res : Int32 × Sg} (hC : Cx x p s m args meth c cX12_way 3 (some .int) RX12) (σ : Sg) (H : Heap) (locs : List Loc) (ls : Array Slot) (h : fM_way_20 σ = some res) (hP : Pic x al lv σ H) (hS : va_S (Ab x) s.heap H locs) (hl : lv_has ls 3 [(0, .ref (al 7 0))]) : W p l e (rmm 2 0 0) s m args below meth c H locs 0 0 (MQ below (QI x al lv res) args s 0 0 (Ab x)) (F0 m 20 ls []) := by
  obtain ⟨hx, hb, hml, hown, hts⟩ := hC.1
  unfold fM_way_20 at h
  refine lv_aload_n hx hb dX12_way_20 rfl (lv_at hl 0 rfl) ?_
  refine lv_iconst (v := (-1)) hx hb dX12_way_21 (by decide) ?_
  refine r_cI hS h (fun r hr => r_runV (As := [.int ((-1))]) (rest := []) hC kV_X12_151 cw_X12_ends (rc_X12 hC hP) hP (tM_ends x al lv σ ((-1)) r hr) rfl hl.1 ⟨Nat.le_of_ble_eq_true rfl, Nat.le_of_ble_eq_true rfl⟩ ⟨Nat.le_of_ble_eq_true rfl, Nat.le_of_ble_eq_true rfl⟩ (Nat.le_of_ble_eq_true rfl) dX12_way_22) (fun y1 σ2 H locs h hP hS => ?_)
  exact r_retI hC hP hS rfl h dX12_way_25

set_option maxHeartbeats 4000000 in
set_option maxRecDepth 20000 in
theorem wM_way_10 {p : Program} {l : Launch} {e : Env} {s : State} {m : MethodId} {args : Array Value} {below : List Frame} {meth : Method} {c : Code} {x : Wx} {al : Nat → Nat → Nat} {lv : Nat → Bool} {res : Int32 × Sg} (hC : Cx x p s m args meth c cX12_way 3 (some .int) RX12) (σ : Sg) (x1 : Int32) (x2 : Int32) (H : Heap) (locs : List Loc) (ls : Array Slot) (h : fM_way_10 σ x1 x2 = some res) (hP : Pic x al lv σ H) (hS : va_S (Ab x) s.heap H locs) (hl : lv_has ls 3 [(0, .ref (al 7 0)), (1, .int x1), (2, .int x2)]) : W p l e (rmm 2 0 0) s m args below meth c H locs 0 0 (MQ below (QI x al lv res) args s 0 0 (Ab x)) (F0 m 10 ls []) := by
  obtain ⟨hx, hb, hml, hown, hts⟩ := hC.1
  unfold fM_way_10 at h
  refine lv_iload_n hx hb dX12_way_10 rfl (lv_at hl 2 rfl) ?_
  refine lv_iconst (v := 0) hx hb dX12_way_11 (by decide) ?_
  refine lv_bipush (v := 20) hx hb dX12_way_12 (by decide) ?_
  refine r_cP hS h (fun r hr => r_runS (As := [.int x2, .int 0, .int 20]) (rest := []) hC kS_X12_145 cw_X12_in hP (tM_in x al lv σ x2 0 20 r hr) rfl hl.1 ⟨Nat.le_of_ble_eq_true rfl, Nat.le_of_ble_eq_true rfl⟩ ⟨Nat.le_of_ble_eq_true rfl, Nat.le_of_ble_eq_true rfl⟩ (Nat.le_of_ble_eq_true rfl) dX12_way_14) (fun y3 H locs h hP hS => ?_)
  refine lv_if_ne (tgt := 26) hx hb dX12_way_17 (by decide) (fun hc => ?_) (fun hc => ?_)
  · replace h := (br h).2 hc
    refine lv_aload_n hx hb dX12_way_26 rfl (lv_at hl 0 rfl) ?_
    refine gt_X12_34 hC hP wf_X12_259 dX12_way_27 ?_
    refine lv_bipush (v := 6) hx hb dX12_way_30 (by decide) ?_
    refine lv_icmp_ne (tgt := 42) hx hb dX12_way_32 (by decide) (fun hc => ?_) (fun hc => ?_)
    · replace h := (br h).2 hc
      refine lv_aload_n hx hb dX12_way_42 rfl (lv_at hl 0 rfl) ?_
      refine gt_X12_32 hC hP wf_X12_100 dX12_way_43 ?_
      refine lv_aload_n hx hb dX12_way_46 rfl (lv_at hl 0 rfl) ?_
      refine gt_X12_34 hC hP wf_X12_259 dX12_way_47 ?_
      refine lv_iload_n hx hb dX12_way_50 rfl (lv_at hl 1 rfl) ?_
      refine r_iast hC hP hS (aM_32 hP.l7) h dX12_way_51 (fun σ4 H locs h hP hS => ?_)
      refine lv_aload_n hx hb dX12_way_52 rfl (lv_at hl 0 rfl) ?_
      refine gt_X12_33 hC hP wf_X12_103 dX12_way_53 ?_
      refine lv_aload_n hx hb dX12_way_56 rfl (lv_at hl 0 rfl) ?_
      refine gt_X12_34 hC hP wf_X12_259 dX12_way_57 ?_
      refine lv_iload_n hx hb dX12_way_60 rfl (lv_at hl 2 rfl) ?_
      refine r_iast hC hP hS (aM_33 hP.l7) h dX12_way_61 (fun σ5 H locs h hP hS => ?_)
      refine lv_aload_n hx hb dX12_way_62 rfl (lv_at hl 0 rfl) ?_
      refine lv_dup hx hb dX12_way_63 rfl ?_
      refine gt_X12_34 hC hP wf_X12_259 dX12_way_64 ?_
      refine lv_iconst (v := 1) hx hb dX12_way_67 (by decide) ?_
      refine lv_iadd hx hb dX12_way_68 ?_
      refine pt_X12_34 hC hP hS wf_X12_259 h dX12_way_69 (fun σ6 H locs h hP hS => ?_)
      refine lv_aload_n hx hb dX12_way_72 rfl (lv_at hl 0 rfl) ?_
      refine lv_aload_n hx hb dX12_way_73 rfl (lv_at hl 0 rfl) ?_
      refine gt_X12_34 hC hP wf_X12_259 dX12_way_74 ?_
      refine r_cI hS h (fun r hr => r_runV (As := [.int (σ6 7 0 34)]) (rest := []) hC kV_X12_151 cw_X12_ends (rc_X12 hC hP) hP (tM_ends x al lv σ6 (σ6 7 0 34) r hr) rfl hl.1 ⟨Nat.le_of_ble_eq_true rfl, Nat.le_of_ble_eq_true rfl⟩ ⟨Nat.le_of_ble_eq_true rfl, Nat.le_of_ble_eq_true rfl⟩ (Nat.le_of_ble_eq_true rfl) dX12_way_77) (fun y7 σ8 H locs h hP hS => ?_)
      exact r_retI hC hP hS rfl h dX12_way_80
    · replace h := (br h).1 hc
      refine lv_aload_n hx hb dX12_way_35 rfl (lv_at hl 0 rfl) ?_
      refine lv_bipush (v := (-6)) hx hb dX12_way_36 (by decide) ?_
      refine r_cI hS h (fun r hr => r_runV (As := [.int ((-6))]) (rest := []) hC kV_X12_151 cw_X12_ends (rc_X12 hC hP) hP (tM_ends x al lv σ ((-6)) r hr) rfl hl.1 ⟨Nat.le_of_ble_eq_true rfl, Nat.le_of_ble_eq_true rfl⟩ ⟨Nat.le_of_ble_eq_true rfl, Nat.le_of_ble_eq_true rfl⟩ (Nat.le_of_ble_eq_true rfl) dX12_way_38) (fun y9 σ10 H locs h hP hS => ?_)
      exact r_retI hC hP hS rfl h dX12_way_41
  · replace h := (br h).1 hc
    exact wM_way_20  hC  σ H locs ls h hP hS (lv_sub hl [0] rfl)

set_option maxHeartbeats 4000000 in
set_option maxRecDepth 20000 in
theorem wM_way_0 {p : Program} {l : Launch} {e : Env} {s : State} {m : MethodId} {args : Array Value} {below : List Frame} {meth : Method} {c : Code} {x : Wx} {al : Nat → Nat → Nat} {lv : Nat → Bool} {res : Int32 × Sg} (hC : Cx x p s m args meth c cX12_way 3 (some .int) RX12) (σ : Sg) (v1 : Int32) (v2 : Int32) (H : Heap) (locs : List Loc) (ls : Array Slot) (h : fM_way_0 σ v1 v2 = some res) (hP : Pic x al lv σ H) (hS : va_S (Ab x) s.heap H locs) (hl : lv_has ls 3 [(0, .ref (al 7 0)), (1, .int v1), (2, .int v2)]) : W p l e (rmm 2 0 0) s m args below meth c H locs 0 0 (MQ below (QI x al lv res) args s 0 0 (Ab x)) (F0 m 0 ls []) := by
  obtain ⟨hx, hb, hml, hown, hts⟩ := hC.1
  unfold fM_way_0 at h
  refine lv_iload_n hx hb dX12_way_0 rfl (lv_at hl 1 rfl) ?_
  refine lv_iconst (v := 4) hx hb dX12_way_1 (by decide) ?_
  refine lv_icmp_eq (tgt := 10) hx hb dX12_way_2 (by decide) (fun hc => ?_) (fun hc => ?_)
  · replace h := (br h).1 hc
    exact wM_way_10  hC  σ v1 v2 H locs ls h hP hS (lv_sub hl [0, 1, 2] rfl)
  · replace h := (br h).2 hc
    refine lv_iload_n hx hb dX12_way_5 rfl (lv_at hl 1 rfl) ?_
    refine lv_iconst (v := 3) hx hb dX12_way_6 (by decide) ?_
    refine lv_icmp_ne (tgt := 20) hx hb dX12_way_7 (by decide) (fun hc => ?_) (fun hc => ?_)
    · replace h := (br h).2 hc
      exact wM_way_20  hC  σ H locs ls h hP hS (lv_sub hl [0] rfl)
    · replace h := (br h).1 hc
      exact wM_way_10  hC  σ v1 v2 H locs ls h hP hS (lv_sub hl [0, 1, 2] rfl)

set_option maxRecDepth 20000 in
theorem tM_way {l : Launch} (x : Wx) (al : Nat → Nat → Nat) (lv : Nat → Bool) (σ : Sg) (v1 : Int32) (v2 : Int32) (res : Int32 × Sg) (h : fM_way σ v1 v2 = some res) : Met l yX12_way (Cond.code yX12_way cX12_way 3 (some .int) :: lwg) (rmm 2 0 0) (va_Pc [.ref (al 7 0), .int v1, .int v2] (Wd x al lv σ)) (QI x al lv res) 0 0 (Ab x) := by
  refine met_W (by decide) (Nat.le_of_ble_eq_true rfl) rfl (fun p e s m args below meth c ls hC hP hS hl => ?_)
  exact wM_way_0  hC σ v1 v2 _ _ ls h hP hS hl
set_option maxHeartbeats 4000000 in
set_option maxRecDepth 20000 in
theorem wM_home_0 {p : Program} {l : Launch} {e : Env} {s : State} {m : MethodId} {args : Array Value} {below : List Frame} {meth : Method} {c : Code} {x : Wx} {al : Nat → Nat → Nat} {lv : Nat → Bool} {res : Int32 × Sg} (hC : Cx x p s m args meth c cX12_home 2 (some .int) RX12) (σ : Sg) (H : Heap) (locs : List Loc) (ls : Array Slot) (h : fM_home_0 σ = some res) (hP : Pic x al lv σ H) (hS : va_S (Ab x) s.heap H locs) (hl : lv_has ls 2 [(0, .ref (al 7 0))]) : W p l e (rmm 1 0 0) s m args below meth c H locs 0 0 (MQ below (QI x al lv res) args s 0 0 (Ab x)) (F0 m 0 ls []) := by
  obtain ⟨hx, hb, hml, hown, hts⟩ := hC.1
  unfold fM_home_0 at h
  refine lv_aload_n hx hb dX12_home_0 rfl (lv_at hl 0 rfl) ?_
  refine gt_X12_34 hC hP wf_X12_259 dX12_home_1 ?_
  refine r_lt h (fun y1 h => ?_)
  refine lv_istore_n (lv' := [(1, .int y1), (0, .ref (al 7 0))]) hx hb dX12_home_4 rfl hl (by decide) rfl (fun ls hl => ?_)
  refine lv_aload_n hx hb dX12_home_5 rfl (lv_at hl 1 rfl) ?_
  refine lv_iconst (v := 0) hx hb dX12_home_6 (by decide) ?_
  refine pt_X12_34 hC hP hS wf_X12_259 h dX12_home_7 (fun σ2 H locs h hP hS => ?_)
  refine lv_iload_n hx hb dX12_home_10 rfl (lv_at hl 0 rfl) ?_
  exact r_retI hC hP hS rfl h dX12_home_11

set_option maxRecDepth 20000 in
theorem tM_home {l : Launch} (x : Wx) (al : Nat → Nat → Nat) (lv : Nat → Bool) (σ : Sg) (res : Int32 × Sg) (h : fM_home σ = some res) : Met l yX12_home (Cond.code yX12_home cX12_home 2 (some .int) :: lwg) (rmm 1 0 0) (va_Pc [.ref (al 7 0)] (Wd x al lv σ)) (QI x al lv res) 0 0 (Ab x) := by
  refine met_W (by decide) (Nat.le_of_ble_eq_true rfl) rfl (fun p e s m args below meth c ls hC hP hS hl => ?_)
  exact wM_home_0  hC σ  _ _ ls h hP hS hl
set_option maxHeartbeats 4000000 in
set_option maxRecDepth 20000 in
theorem wM_comeOf_114 {p : Program} {l : Launch} {e : Env} {s : State} {m : MethodId} {args : Array Value} {below : List Frame} {meth : Method} {c : Code} {x : Wx} {al : Nat → Nat → Nat} {lv : Nat → Bool} {res : Int32} {σ : Sg} (hC : Cx x p s m args meth c cX12_comeOf 7 (some .int) RX12) (k29 : Int32 → Int32 → Int32 → Int32 → Int32 → Option (Int32)) (hk29 : ∀ (x1 : Int32) (x2 : Int32) (x3 : Int32) (x4 : Int32) (x5 : Int32) (H : Heap) (locs : List Loc) (ls : Array Slot), k29 x1 x2 x3 x4 x5 = some res → Pic x al lv σ H → va_S (Ab x) s.heap H locs → lv_has ls 7 [(0, .ref (al 7 0)), (1, .int x1), (2, .int x2), (3, .int x3), (4, .int x4), (5, .int x5)] → W p l e (rmm 3 0 0) s m args below meth c H locs 0 0 (MQ below (QP x al lv σ res) args s 0 0 (Ab x)) (F0 m 29 ls [])) (x1 : Int32) (x3 : Int32) (x4 : Int32) (x5 : Int32) (t0 : Int32) (H : Heap) (locs : List Loc) (ls : Array Slot) (h : fM_comeOf_114 k29 σ x1 x3 x4 x5 t0 = some res) (hP : Pic x al lv σ H) (hS : va_S (Ab x) s.heap H locs) (hl : lv_has ls 7 [(0, .ref (al 7 0)), (1, .int x1), (3, .int x3), (4, .int x4), (5, .int x5)]) : W p l e (rmm 3 0 0) s m args below meth c H locs 0 0 (MQ below (QP x al lv σ res) args s 0 0 (Ab x)) (F0 m 114 ls [.int t0]) := by
  obtain ⟨hx, hb, hml, hown, hts⟩ := hC.1
  unfold fM_comeOf_114 at h
  refine lv_istore_n (lv' := [(2, .int t0), (0, .ref (al 7 0)), (1, .int x1), (3, .int x3), (4, .int x4), (5, .int x5)]) hx hb dX12_comeOf_114 rfl hl (by decide) rfl (fun ls hl => ?_)
  refine r_iinc (v := 1) hC h dX12_comeOf_115 hl (k := 3) rfl rfl (by decide) (fun y6 => [(3, .int y6), (2, .int t0), (0, .ref (al 7 0)), (1, .int x1), (4, .int x4), (5, .int x5)]) (fun _ => rfl) (fun y6 ls h hl => ?_)
  refine r_iinc (v := 1) hC h dX12_comeOf_118 hl (k := 5) rfl rfl (by decide) (fun y7 => [(5, .int y7), (3, .int y6), (2, .int t0), (0, .ref (al 7 0)), (1, .int x1), (4, .int x4)]) (fun _ => rfl) (fun y7 ls h hl => ?_)
  refine lv_goto (tgt := 29) hx hb dX12_comeOf_121 (by decide) ?_
  exact hk29 x1 t0 y6 x4 y7 H locs ls h hP hS (lv_sub hl [3, 4, 2, 1, 5, 0] rfl)

set_option maxHeartbeats 4000000 in
set_option maxRecDepth 20000 in
theorem wM_comeOf_99 {p : Program} {l : Launch} {e : Env} {s : State} {m : MethodId} {args : Array Value} {below : List Frame} {meth : Method} {c : Code} {x : Wx} {al : Nat → Nat → Nat} {lv : Nat → Bool} {res : Int32} {σ : Sg} (hC : Cx x p s m args meth c cX12_comeOf 7 (some .int) RX12) (k29 : Int32 → Int32 → Int32 → Int32 → Int32 → Option (Int32)) (hk29 : ∀ (x1 : Int32) (x2 : Int32) (x3 : Int32) (x4 : Int32) (x5 : Int32) (H : Heap) (locs : List Loc) (ls : Array Slot), k29 x1 x2 x3 x4 x5 = some res → Pic x al lv σ H → va_S (Ab x) s.heap H locs → lv_has ls 7 [(0, .ref (al 7 0)), (1, .int x1), (2, .int x2), (3, .int x3), (4, .int x4), (5, .int x5)] → W p l e (rmm 3 0 0) s m args below meth c H locs 0 0 (MQ below (QP x al lv σ res) args s 0 0 (Ab x)) (F0 m 29 ls [])) (x1 : Int32) (x3 : Int32) (x4 : Int32) (x5 : Int32) (t0 : Int32) (t1 : Int32) (H : Heap) (locs : List Loc) (ls : Array Slot) (h : fM_comeOf_99 k29 σ x1 x3 x4 x5 t0 t1 = some res) (hP : Pic x al lv σ H) (hS : va_S (Ab x) s.heap H locs) (hl : lv_has ls 7 [(0, .ref (al 7 0)), (1, .int x1), (3, .int x3), (4, .int x4), (5, .int x5)]) : W p l e (rmm 3 0 0) s m args below meth c H locs 0 0 (MQ below (QP x al lv σ res) args s 0 0 (Ab x)) (F0 m 99 ls [.int t0, .int t1]) := by
  obtain ⟨hx, hb, hml, hown, hts⟩ := hC.1
  unfold fM_comeOf_99 at h
  refine lv_isub hx hb dX12_comeOf_99 ?_
  refine r_lt h (fun y5 h => ?_)
  refine lv_istore_n (lv' := [(2, .int y5), (0, .ref (al 7 0)), (1, .int x1), (3, .int x3), (4, .int x4), (5, .int x5)]) hx hb dX12_comeOf_100 rfl hl (by decide) rfl (fun ls hl => ?_)
  refine lv_iload_n hx hb dX12_comeOf_101 rfl (lv_at hl 0 rfl) ?_
  refine lv_aload_n hx hb dX12_comeOf_102 rfl (lv_at hl 1 rfl) ?_
  refine gt_X12_5 hC hP wf_X12_24 dX12_comeOf_103 ?_
  refine lv_icmp_ge (tgt := 113) hx hb dX12_comeOf_106 (by decide) (fun hc => ?_) (fun hc => ?_)
  · replace h := (br h).1 hc
    refine lv_iload_n hx hb dX12_comeOf_113 rfl (lv_at hl 0 rfl) ?_
    exact wM_comeOf_114  hC k29 hk29 x1 x3 x4 x5 y5 H locs ls h hP hS (lv_sub hl [1, 2, 3, 4, 5] rfl)
  · replace h := (br h).2 hc
    refine lv_iconst (v := 0) hx hb dX12_comeOf_109 (by decide) ?_
    refine lv_goto (tgt := 114) hx hb dX12_comeOf_110 (by decide) ?_
    exact wM_comeOf_114  hC k29 hk29 x1 x3 x4 x5 0 H locs ls h hP hS (lv_sub hl [1, 2, 3, 4, 5] rfl)

set_option maxHeartbeats 4000000 in
set_option maxRecDepth 20000 in
theorem wM_comeOf_94 {p : Program} {l : Launch} {e : Env} {s : State} {m : MethodId} {args : Array Value} {below : List Frame} {meth : Method} {c : Code} {x : Wx} {al : Nat → Nat → Nat} {lv : Nat → Bool} {res : Int32} {σ : Sg} (hC : Cx x p s m args meth c cX12_comeOf 7 (some .int) RX12) (k29 : Int32 → Int32 → Int32 → Int32 → Int32 → Option (Int32)) (hk29 : ∀ (x1 : Int32) (x2 : Int32) (x3 : Int32) (x4 : Int32) (x5 : Int32) (H : Heap) (locs : List Loc) (ls : Array Slot), k29 x1 x2 x3 x4 x5 = some res → Pic x al lv σ H → va_S (Ab x) s.heap H locs → lv_has ls 7 [(0, .ref (al 7 0)), (1, .int x1), (2, .int x2), (3, .int x3), (4, .int x4), (5, .int x5)] → W p l e (rmm 3 0 0) s m args below meth c H locs 0 0 (MQ below (QP x al lv σ res) args s 0 0 (Ab x)) (F0 m 29 ls [])) (x1 : Int32) (x3 : Int32) (x4 : Int32) (x5 : Int32) (t0 : Int32) (t1 : Int32) (t2 : Int32) (H : Heap) (locs : List Loc) (ls : Array Slot) (h : fM_comeOf_94 k29 σ x1 x3 x4 x5 t0 t1 t2 = some res) (hP : Pic x al lv σ H) (hS : va_S (Ab x) s.heap H locs) (hl : lv_has ls 7 [(0, .ref (al 7 0)), (1, .int x1), (3, .int x3), (4, .int x4), (5, .int x5)]) : W p l e (rmm 3 0 0) s m args below meth c H locs 0 0 (MQ below (QP x al lv σ res) args s 0 0 (Ab x)) (F0 m 94 ls [.int t0, .int t1, .int t2]) := by
  obtain ⟨hx, hb, hml, hown, hts⟩ := hC.1
  unfold fM_comeOf_94 at h
  refine lv_imul hx hb dX12_comeOf_94 ?_
  refine lv_goto (tgt := 99) hx hb dX12_comeOf_95 (by decide) ?_
  exact wM_comeOf_99  hC k29 hk29 x1 x3 x4 x5 (t1 * t0) t2 H locs ls h hP hS (lv_sub hl [0, 1, 2, 3, 4] rfl)

set_option maxHeartbeats 4000000 in
set_option maxRecDepth 20000 in
theorem wM_comeOf_63 {p : Program} {l : Launch} {e : Env} {s : State} {m : MethodId} {args : Array Value} {below : List Frame} {meth : Method} {c : Code} {x : Wx} {al : Nat → Nat → Nat} {lv : Nat → Bool} {res : Int32} {σ : Sg} (hC : Cx x p s m args meth c cX12_comeOf 7 (some .int) RX12) (k29 : Int32 → Int32 → Int32 → Int32 → Int32 → Option (Int32)) (hk29 : ∀ (x1 : Int32) (x2 : Int32) (x3 : Int32) (x4 : Int32) (x5 : Int32) (H : Heap) (locs : List Loc) (ls : Array Slot), k29 x1 x2 x3 x4 x5 = some res → Pic x al lv σ H → va_S (Ab x) s.heap H locs → lv_has ls 7 [(0, .ref (al 7 0)), (1, .int x1), (2, .int x2), (3, .int x3), (4, .int x4), (5, .int x5)] → W p l e (rmm 3 0 0) s m args below meth c H locs 0 0 (MQ below (QP x al lv σ res) args s 0 0 (Ab x)) (F0 m 29 ls [])) (x1 : Int32) (x2 : Int32) (x3 : Int32) (x4 : Int32) (x5 : Int32) (t0 : Int32) (t1 : Int32) (H : Heap) (locs : List Loc) (ls : Array Slot) (h : fM_comeOf_63 k29 σ x1 x2 x3 x4 x5 t0 t1 = some res) (hP : Pic x al lv σ H) (hS : va_S (Ab x) s.heap H locs) (hl : lv_has ls 7 [(0, .ref (al 7 0)), (1, .int x1), (2, .int x2), (3, .int x3), (4, .int x4), (5, .int x5)]) : W p l e (rmm 3 0 0) s m args below meth c H locs 0 0 (MQ below (QP x al lv σ res) args s 0 0 (Ab x)) (F0 m 63 ls [.int t0, .int t1, .ref (al 7 0)]) := by
  obtain ⟨hx, hb, hml, hown, hts⟩ := hC.1
  unfold fM_comeOf_63 at h
  refine r_cP hS h (fun r hr => r_runV (As := [.int t1, .int t0]) (rest := []) hC kV_X12_187 cw_X12_warmthOf (rc_X12 hC hP) hP (tM_warmthOf x al lv σ t1 t0 r hr) rfl hl.1 ⟨Nat.le_of_ble_eq_true rfl, Nat.le_of_ble_eq_true rfl⟩ ⟨Nat.le_of_ble_eq_true rfl, Nat.le_of_ble_eq_true rfl⟩ (Nat.le_of_ble_eq_true rfl) dX12_comeOf_63) (fun y4 H locs h hP hS => ?_)
  refine lv_istore (lv' := [(6, .int y4), (0, .ref (al 7 0)), (1, .int x1), (2, .int x2), (3, .int x3), (4, .int x4), (5, .int x5)]) hx hb dX12_comeOf_66 hl (by decide) rfl (fun ls hl => ?_)
  refine lv_iload_n hx hb dX12_comeOf_68 rfl (lv_at hl 3 rfl) ?_
  refine lv_iload hx hb dX12_comeOf_69 (lv_at hl 0 rfl) ?_
  refine lv_if_le (tgt := 98) hx hb dX12_comeOf_71 (by decide) (fun hc => ?_) (fun hc => ?_)
  · replace h := (br h).1 hc
    refine lv_iconst (v := 0) hx hb dX12_comeOf_98 (by decide) ?_
    exact wM_comeOf_99  hC k29 hk29 x1 x3 x4 x5 0 x2 H locs ls h hP hS (lv_sub hl [1, 2, 4, 5, 6] rfl)
  · replace h := (br h).2 hc
    refine lv_bipush (v := 6) hx hb dX12_comeOf_74 (by decide) ?_
    refine lv_iload hx hb dX12_comeOf_76 (lv_at hl 0 rfl) ?_
    refine lv_imul hx hb dX12_comeOf_78 ?_
    refine lv_aload_n hx hb dX12_comeOf_79 rfl (lv_at hl 1 rfl) ?_
    refine gt_X12_19 hC hP wf_X12_67 dX12_comeOf_80 ?_
    refine lv_iload_n hx hb dX12_comeOf_83 rfl (lv_at hl 2 rfl) ?_
    refine r_iald hC hP (aM_19 hP.l7) h dX12_comeOf_84 (fun h => ?_)
    refine lv_iconst (v := 2) hx hb dX12_comeOf_85 (by decide) ?_
    refine lv_icmp_ne (tgt := 93) hx hb dX12_comeOf_86 (by decide) (fun hc => ?_) (fun hc => ?_)
    · replace h := (br h).2 hc
      refine lv_iconst (v := 3) hx hb dX12_comeOf_93 (by decide) ?_
      exact wM_comeOf_94  hC k29 hk29 x1 x3 x4 x5 3 (6 * y4) x2 H locs ls h hP hS (lv_sub hl [1, 2, 4, 5, 6] rfl)
    · replace h := (br h).1 hc
      refine lv_iconst (v := 5) hx hb dX12_comeOf_89 (by decide) ?_
      refine lv_goto (tgt := 94) hx hb dX12_comeOf_90 (by decide) ?_
      exact wM_comeOf_94  hC k29 hk29 x1 x3 x4 x5 5 (6 * y4) x2 H locs ls h hP hS (lv_sub hl [1, 2, 4, 5, 6] rfl)

set_option maxHeartbeats 4000000 in
set_option maxRecDepth 20000 in
theorem wM_comeOf_29_b {p : Program} {l : Launch} {e : Env} {s : State} {m : MethodId} {args : Array Value} {below : List Frame} {meth : Method} {c : Code} {x : Wx} {al : Nat → Nat → Nat} {lv : Nat → Bool} {res : Int32} {σ : Sg} (hC : Cx x p s m args meth c cX12_comeOf 7 (some .int) RX12) (k17 : Int32 → Int32 → Int32 → Int32 → Option (Int32)) (hk17 : ∀ (x1 : Int32) (x2 : Int32) (x3 : Int32) (x4 : Int32) (H : Heap) (locs : List Loc) (ls : Array Slot), k17 x1 x2 x3 x4 = some res → Pic x al lv σ H → va_S (Ab x) s.heap H locs → lv_has ls 7 [(0, .ref (al 7 0)), (1, .int x1), (2, .int x2), (3, .int x3), (4, .int x4)] → W p l e (rmm 3 0 0) s m args below meth c H locs 0 0 (MQ below (QP x al lv σ res) args s 0 0 (Ab x)) (F0 m 17 ls [])) (k29 : Int32 → Int32 → Int32 → Int32 → Int32 → Option (Int32)) (hk29 : ∀ (x1 : Int32) (x2 : Int32) (x3 : Int32) (x4 : Int32) (x5 : Int32) (H : Heap) (locs : List Loc) (ls : Array Slot), k29 x1 x2 x3 x4 x5 = some res → Pic x al lv σ H → va_S (Ab x) s.heap H locs → lv_has ls 7 [(0, .ref (al 7 0)), (1, .int x1), (2, .int x2), (3, .int x3), (4, .int x4), (5, .int x5)] → W p l e (rmm 3 0 0) s m args below meth c H locs 0 0 (MQ below (QP x al lv σ res) args s 0 0 (Ab x)) (F0 m 29 ls [])) (x1 : Int32) (x2 : Int32) (x3 : Int32) (x4 : Int32) (x5 : Int32) (H : Heap) (locs : List Loc) (ls : Array Slot) (h : fM_comeOf_29_b k17 k29 σ x1 x2 x3 x4 x5 = some res) (hP : Pic x al lv σ H) (hS : va_S (Ab x) s.heap H locs) (hl : lv_has ls 7 [(0, .ref (al 7 0)), (1, .int x1), (2, .int x2), (3, .int x3), (4, .int x4), (5, .int x5)]) : W p l e (rmm 3 0 0) s m args below meth c H locs 0 0 (MQ below (QP x al lv σ res) args s 0 0 (Ab x)) (F0 m 29 ls []) := by
  obtain ⟨hx, hb, hml, hown, hts⟩ := hC.1
  unfold fM_comeOf_29_b at h
  refine lv_iload hx hb dX12_comeOf_29 (lv_at hl 5 rfl) ?_
  refine lv_aload_n hx hb dX12_comeOf_31 rfl (lv_at hl 0 rfl) ?_
  refine gt_X12_33 hC hP wf_X12_103 dX12_comeOf_32 ?_
  refine lv_iload hx hb dX12_comeOf_35 (lv_at hl 4 rfl) ?_
  refine r_iald hC hP (aM_33 hP.l7) h dX12_comeOf_37 (fun h => ?_)
  refine lv_icmp_ge (tgt := 124) hx hb dX12_comeOf_38 (by decide) (fun hc => ?_) (fun hc => ?_)
  · replace h := (br h).1 hc
    refine r_iinc (v := 1) hC h dX12_comeOf_124 hl (k := 4) rfl rfl (by decide) (fun y3 => [(4, .int y3), (0, .ref (al 7 0)), (1, .int x1), (2, .int x2), (3, .int x3), (5, .int x5)]) (fun _ => rfl) (fun y3 ls h hl => ?_)
    refine lv_goto (tgt := 17) hx hb dX12_comeOf_127 (by decide) ?_
    exact hk17 x1 x2 x3 y3 H locs ls h hP hS (lv_sub hl [1, 2, 3, 4, 0] rfl)
  · replace h := (br h).2 hc
    refine lv_aload_n hx hb dX12_comeOf_41 rfl (lv_at hl 0 rfl) ?_
    refine lv_aload_n hx hb dX12_comeOf_42 rfl (lv_at hl 0 rfl) ?_
    refine gt_X12_32 hC hP wf_X12_100 dX12_comeOf_43 ?_
    refine lv_iload hx hb dX12_comeOf_46 (lv_at hl 4 rfl) ?_
    refine r_iald hC hP (aM_32 hP.l7) h dX12_comeOf_48 (fun h => ?_)
    refine lv_iload_n hx hb dX12_comeOf_49 rfl (lv_at hl 3 rfl) ?_
    refine lv_sipush (v := 199) hx hb dX12_comeOf_50 (by decide) ?_
    refine lv_icmp_ge (tgt := 60) hx hb dX12_comeOf_53 (by decide) (fun hc => ?_) (fun hc => ?_)
    · replace h := (br h).1 hc
      refine lv_sipush (v := 199) hx hb dX12_comeOf_60 (by decide) ?_
      exact wM_comeOf_63  hC k29 hk29 x1 x2 x3 x4 x5 199 (σ 7 32 x4.toNatClampNeg) H locs ls h hP hS (lv_sub hl [0, 1, 2, 3, 4, 5] rfl)
    · replace h := (br h).2 hc
      refine lv_iload_n hx hb dX12_comeOf_56 rfl (lv_at hl 3 rfl) ?_
      refine lv_goto (tgt := 63) hx hb dX12_comeOf_57 (by decide) ?_
      exact wM_comeOf_63  hC k29 hk29 x1 x2 x3 x4 x5 x3 (σ 7 32 x4.toNatClampNeg) H locs ls h hP hS (lv_sub hl [0, 1, 2, 3, 4, 5] rfl)

set_option maxHeartbeats 4000000 in
set_option maxRecDepth 20000 in
theorem wM_comeOf_29 {p : Program} {l : Launch} {e : Env} {s : State} {m : MethodId} {args : Array Value} {below : List Frame} {meth : Method} {c : Code} {x : Wx} {al : Nat → Nat → Nat} {lv : Nat → Bool} {res : Int32} {σ : Sg} (hC : Cx x p s m args meth c cX12_comeOf 7 (some .int) RX12) (k17 : Int32 → Int32 → Int32 → Int32 → Option (Int32)) (hk17 : ∀ (x1 : Int32) (x2 : Int32) (x3 : Int32) (x4 : Int32) (H : Heap) (locs : List Loc) (ls : Array Slot), k17 x1 x2 x3 x4 = some res → Pic x al lv σ H → va_S (Ab x) s.heap H locs → lv_has ls 7 [(0, .ref (al 7 0)), (1, .int x1), (2, .int x2), (3, .int x3), (4, .int x4)] → W p l e (rmm 3 0 0) s m args below meth c H locs 0 0 (MQ below (QP x al lv σ res) args s 0 0 (Ab x)) (F0 m 17 ls [])) (n : Nat) (x1 : Int32) (x2 : Int32) (x3 : Int32) (x4 : Int32) (x5 : Int32) (H : Heap) (locs : List Loc) (ls : Array Slot) (h : fM_comeOf_29 k17 n σ x1 x2 x3 x4 x5 = some res) (hP : Pic x al lv σ H) (hS : va_S (Ab x) s.heap H locs) (hl : lv_has ls 7 [(0, .ref (al 7 0)), (1, .int x1), (2, .int x2), (3, .int x3), (4, .int x4), (5, .int x5)]) : W p l e (rmm 3 0 0) s m args below meth c H locs 0 0 (MQ below (QP x al lv σ res) args s 0 0 (Ab x)) (F0 m 29 ls []) := by
  induction n generalizing x1 x2 x3 x4 x5 H locs ls with
  | zero => exact nomatch h
  | succ n ih => exact wM_comeOf_29_b  hC k17 hk17 _ (fun x1 x2 x3 x4 x5 H locs ls h hP hS hl => ih x1 x2 x3 x4 x5 H locs ls h hP hS hl) x1 x2 x3 x4 x5 H locs ls h hP hS hl
set_option maxHeartbeats 4000000 in
set_option maxRecDepth 20000 in
theorem wM_comeOf_17_b {p : Program} {l : Launch} {e : Env} {s : State} {m : MethodId} {args : Array Value} {below : List Frame} {meth : Method} {c : Code} {x : Wx} {al : Nat → Nat → Nat} {lv : Nat → Bool} {res : Int32} {σ : Sg} (hC : Cx x p s m args meth c cX12_comeOf 7 (some .int) RX12) (k17 : Int32 → Int32 → Int32 → Int32 → Option (Int32)) (hk17 : ∀ (x1 : Int32) (x2 : Int32) (x3 : Int32) (x4 : Int32) (H : Heap) (locs : List Loc) (ls : Array Slot), k17 x1 x2 x3 x4 = some res → Pic x al lv σ H → va_S (Ab x) s.heap H locs → lv_has ls 7 [(0, .ref (al 7 0)), (1, .int x1), (2, .int x2), (3, .int x3), (4, .int x4)] → W p l e (rmm 3 0 0) s m args below meth c H locs 0 0 (MQ below (QP x al lv σ res) args s 0 0 (Ab x)) (F0 m 17 ls [])) (x1 : Int32) (x2 : Int32) (x3 : Int32) (x4 : Int32) (H : Heap) (locs : List Loc) (ls : Array Slot) (h : fM_comeOf_17_b k17 σ x1 x2 x3 x4 = some res) (hP : Pic x al lv σ H) (hS : va_S (Ab x) s.heap H locs) (hl : lv_has ls 7 [(0, .ref (al 7 0)), (1, .int x1), (2, .int x2), (3, .int x3), (4, .int x4)]) : W p l e (rmm 3 0 0) s m args below meth c H locs 0 0 (MQ below (QP x al lv σ res) args s 0 0 (Ab x)) (F0 m 17 ls []) := by
  obtain ⟨hx, hb, hml, hown, hts⟩ := hC.1
  unfold fM_comeOf_17_b at h
  refine lv_iload hx hb dX12_comeOf_17 (lv_at hl 4 rfl) ?_
  refine lv_aload_n hx hb dX12_comeOf_19 rfl (lv_at hl 0 rfl) ?_
  refine gt_X12_34 hC hP wf_X12_259 dX12_comeOf_20 ?_
  refine lv_icmp_ge (tgt := 130) hx hb dX12_comeOf_23 (by decide) (fun hc => ?_) (fun hc => ?_)
  · replace h := (br h).1 hc
    refine lv_iload_n hx hb dX12_comeOf_130 rfl (lv_at hl 2 rfl) ?_
    exact r_retP hC hP hS rfl h dX12_comeOf_131
  · replace h := (br h).2 hc
    refine lv_iconst (v := 0) hx hb dX12_comeOf_26 (by decide) ?_
    refine lv_istore (lv' := [(5, .int 0), (0, .ref (al 7 0)), (1, .int x1), (2, .int x2), (3, .int x3), (4, .int x4)]) hx hb dX12_comeOf_27 hl (by decide) rfl (fun ls hl => ?_)
    exact wM_comeOf_29  hC k17 hk17 FU x1 x2 x3 x4 0 H locs ls h hP hS (lv_sub hl [1, 2, 3, 4, 5, 0] rfl)

set_option maxHeartbeats 4000000 in
set_option maxRecDepth 20000 in
theorem wM_comeOf_17 {p : Program} {l : Launch} {e : Env} {s : State} {m : MethodId} {args : Array Value} {below : List Frame} {meth : Method} {c : Code} {x : Wx} {al : Nat → Nat → Nat} {lv : Nat → Bool} {res : Int32} {σ : Sg} (hC : Cx x p s m args meth c cX12_comeOf 7 (some .int) RX12) (n : Nat) (x1 : Int32) (x2 : Int32) (x3 : Int32) (x4 : Int32) (H : Heap) (locs : List Loc) (ls : Array Slot) (h : fM_comeOf_17 n σ x1 x2 x3 x4 = some res) (hP : Pic x al lv σ H) (hS : va_S (Ab x) s.heap H locs) (hl : lv_has ls 7 [(0, .ref (al 7 0)), (1, .int x1), (2, .int x2), (3, .int x3), (4, .int x4)]) : W p l e (rmm 3 0 0) s m args below meth c H locs 0 0 (MQ below (QP x al lv σ res) args s 0 0 (Ab x)) (F0 m 17 ls []) := by
  induction n generalizing x1 x2 x3 x4 H locs ls with
  | zero => exact nomatch h
  | succ n ih => exact wM_comeOf_17_b  hC  _ (fun x1 x2 x3 x4 H locs ls h hP hS hl => ih x1 x2 x3 x4 H locs ls h hP hS hl) x1 x2 x3 x4 H locs ls h hP hS hl
set_option maxHeartbeats 4000000 in
set_option maxRecDepth 20000 in
theorem wM_comeOf_0 {p : Program} {l : Launch} {e : Env} {s : State} {m : MethodId} {args : Array Value} {below : List Frame} {meth : Method} {c : Code} {x : Wx} {al : Nat → Nat → Nat} {lv : Nat → Bool} {res : Int32} {σ : Sg} (hC : Cx x p s m args meth c cX12_comeOf 7 (some .int) RX12) (v1 : Int32) (H : Heap) (locs : List Loc) (ls : Array Slot) (h : fM_comeOf_0 σ v1 = some res) (hP : Pic x al lv σ H) (hS : va_S (Ab x) s.heap H locs) (hl : lv_has ls 7 [(0, .ref (al 7 0)), (1, .int v1)]) : W p l e (rmm 3 0 0) s m args below meth c H locs 0 0 (MQ below (QP x al lv σ res) args s 0 0 (Ab x)) (F0 m 0 ls []) := by
  obtain ⟨hx, hb, hml, hown, hts⟩ := hC.1
  unfold fM_comeOf_0 at h
  refine lv_aload_n hx hb dX12_comeOf_0 rfl (lv_at hl 0 rfl) ?_
  refine gt_X12_20 hC hP wf_X12_70 dX12_comeOf_1 ?_
  refine lv_iload_n hx hb dX12_comeOf_4 rfl (lv_at hl 1 rfl) ?_
  refine r_iald hC hP (aM_20 hP.l7) h dX12_comeOf_5 (fun h => ?_)
  refine r_lt h (fun y1 h => ?_)
  refine lv_istore_n (lv' := [(2, .int y1), (0, .ref (al 7 0)), (1, .int v1)]) hx hb dX12_comeOf_6 rfl hl (by decide) rfl (fun ls hl => ?_)
  refine lv_aload_n hx hb dX12_comeOf_7 rfl (lv_at hl 1 rfl) ?_
  refine gt_X12_6 hC hP wf_X12_27 dX12_comeOf_8 ?_
  refine lv_iconst (v := 0) hx hb dX12_comeOf_11 (by decide) ?_
  refine r_iald hC hP (aM_6 hP.l7) h dX12_comeOf_12 (fun h => ?_)
  refine r_lt h (fun y2 h => ?_)
  refine lv_istore_n (lv' := [(3, .int y2), (2, .int y1), (0, .ref (al 7 0)), (1, .int v1)]) hx hb dX12_comeOf_13 rfl hl (by decide) rfl (fun ls hl => ?_)
  refine lv_iconst (v := 0) hx hb dX12_comeOf_14 (by decide) ?_
  refine lv_istore (lv' := [(4, .int 0), (3, .int y2), (2, .int y1), (0, .ref (al 7 0)), (1, .int v1)]) hx hb dX12_comeOf_15 hl (by decide) rfl (fun ls hl => ?_)
  exact wM_comeOf_17  hC  FU v1 y1 y2 0 H locs ls h hP hS (lv_sub hl [3, 4, 2, 1, 0] rfl)

set_option maxRecDepth 20000 in
theorem tM_comeOf {l : Launch} (x : Wx) (al : Nat → Nat → Nat) (lv : Nat → Bool) (σ : Sg) (v1 : Int32) (res : Int32) (h : fM_comeOf σ v1 = some res) : Met l yX12_comeOf (Cond.code yX12_comeOf cX12_comeOf 7 (some .int) :: lwg) (rmm 3 0 0) (va_Pc [.ref (al 7 0), .int v1] (Wd x al lv σ)) (QP x al lv σ res) 0 0 (Ab x) := by
  refine met_W (by decide) (Nat.le_of_ble_eq_true rfl) rfl (fun p e s m args below meth c ls hC hP hS hl => ?_)
  exact wM_comeOf_0  hC v1 _ _ ls h hP hS hl
set_option maxHeartbeats 4000000 in
set_option maxRecDepth 20000 in
theorem wM_remembers_2_b {p : Program} {l : Launch} {e : Env} {s : State} {m : MethodId} {args : Array Value} {below : List Frame} {meth : Method} {c : Code} {x : Wx} {al : Nat → Nat → Nat} {lv : Nat → Bool} {res : Sg} (hC : Cx x p s m args meth c cX12_remembers 2 none RX12) (k2 : Sg → Int32 → Option (Sg)) (hk2 : ∀ (σ : Sg) (x1 : Int32) (H : Heap) (locs : List Loc) (ls : Array Slot), k2 σ x1 = some res → Pic x al lv σ H → va_S (Ab x) s.heap H locs → lv_has ls 2 [(0, .ref (al 7 0)), (1, .int x1)] → W p l e (rmm 1 0 0) s m args below meth c H locs 0 0 (MQ below (QV x al lv res) args s 0 0 (Ab x)) (F0 m 2 ls [])) (σ : Sg) (x1 : Int32) (H : Heap) (locs : List Loc) (ls : Array Slot) (h : fM_remembers_2_b k2 σ x1 = some res) (hP : Pic x al lv σ H) (hS : va_S (Ab x) s.heap H locs) (hl : lv_has ls 2 [(0, .ref (al 7 0)), (1, .int x1)]) : W p l e (rmm 1 0 0) s m args below meth c H locs 0 0 (MQ below (QV x al lv res) args s 0 0 (Ab x)) (F0 m 2 ls []) := by
  obtain ⟨hx, hb, hml, hown, hts⟩ := hC.1
  unfold fM_remembers_2_b at h
  refine lv_iload_n hx hb dX12_remembers_2 rfl (lv_at hl 1 rfl) ?_
  refine lv_aload_n hx hb dX12_remembers_3 rfl (lv_at hl 0 rfl) ?_
  refine gt_X12_8 hC hP wf_X12_34 dX12_remembers_4 ?_
  refine lv_iconst (v := 0) hx hb dX12_remembers_7 (by decide) ?_
  refine r_iald hC hP (aM_8 hP.l7) h dX12_remembers_8 (fun h => ?_)
  refine lv_icmp_ge (tgt := 42) hx hb dX12_remembers_9 (by decide) (fun hc => ?_) (fun hc => ?_)
  · replace h := (br h).1 hc
    exact r_retV hC hP hS h dX12_remembers_42
  · replace h := (br h).2 hc
    refine lv_aload_n hx hb dX12_remembers_12 rfl (lv_at hl 0 rfl) ?_
    refine gt_X12_41 hC hP wf_X12_112 dX12_remembers_13 ?_
    refine lv_iload_n hx hb dX12_remembers_16 rfl (lv_at hl 1 rfl) ?_
    refine lv_aload_n hx hb dX12_remembers_17 rfl (lv_at hl 0 rfl) ?_
    refine gt_X12_21 hC hP wf_X12_73 dX12_remembers_18 ?_
    refine lv_iload_n hx hb dX12_remembers_21 rfl (lv_at hl 1 rfl) ?_
    refine r_iald hC hP (aM_21 hP.l7) h dX12_remembers_22 (fun h => ?_)
    refine r_iast hC hP hS (aM_41 hP.l7) h dX12_remembers_23 (fun σ1 H locs h hP hS => ?_)
    refine lv_aload_n hx hb dX12_remembers_24 rfl (lv_at hl 0 rfl) ?_
    refine gt_X12_42 hC hP wf_X12_115 dX12_remembers_25 ?_
    refine lv_iload_n hx hb dX12_remembers_28 rfl (lv_at hl 1 rfl) ?_
    refine lv_aload_n hx hb dX12_remembers_29 rfl (lv_at hl 0 rfl) ?_
    refine gt_X12_22 hC hP wf_X12_76 dX12_remembers_30 ?_
    refine lv_iload_n hx hb dX12_remembers_33 rfl (lv_at hl 1 rfl) ?_
    refine r_iald hC hP (aM_22 hP.l7) h dX12_remembers_34 (fun h => ?_)
    refine r_iast hC hP hS (aM_42 hP.l7) h dX12_remembers_35 (fun σ2 H locs h hP hS => ?_)
    refine r_iinc (v := 1) hC h dX12_remembers_36 hl (k := 1) rfl rfl (by decide) (fun y3 => [(1, .int y3), (0, .ref (al 7 0))]) (fun _ => rfl) (fun y3 ls h hl => ?_)
    refine lv_goto (tgt := 2) hx hb dX12_remembers_39 (by decide) ?_
    exact hk2 σ2 y3 H locs ls h hP hS (lv_sub hl [1, 0] rfl)

set_option maxHeartbeats 4000000 in
set_option maxRecDepth 20000 in
theorem wM_remembers_2 {p : Program} {l : Launch} {e : Env} {s : State} {m : MethodId} {args : Array Value} {below : List Frame} {meth : Method} {c : Code} {x : Wx} {al : Nat → Nat → Nat} {lv : Nat → Bool} {res : Sg} (hC : Cx x p s m args meth c cX12_remembers 2 none RX12) (n : Nat) (σ : Sg) (x1 : Int32) (H : Heap) (locs : List Loc) (ls : Array Slot) (h : fM_remembers_2 n σ x1 = some res) (hP : Pic x al lv σ H) (hS : va_S (Ab x) s.heap H locs) (hl : lv_has ls 2 [(0, .ref (al 7 0)), (1, .int x1)]) : W p l e (rmm 1 0 0) s m args below meth c H locs 0 0 (MQ below (QV x al lv res) args s 0 0 (Ab x)) (F0 m 2 ls []) := by
  induction n generalizing σ x1 H locs ls with
  | zero => exact nomatch h
  | succ n ih => exact wM_remembers_2_b  hC  _ (fun σ x1 H locs ls h hP hS hl => ih σ x1 H locs ls h hP hS hl) σ x1 H locs ls h hP hS hl
set_option maxHeartbeats 4000000 in
set_option maxRecDepth 20000 in
theorem wM_remembers_0 {p : Program} {l : Launch} {e : Env} {s : State} {m : MethodId} {args : Array Value} {below : List Frame} {meth : Method} {c : Code} {x : Wx} {al : Nat → Nat → Nat} {lv : Nat → Bool} {res : Sg} (hC : Cx x p s m args meth c cX12_remembers 2 none RX12) (σ : Sg) (H : Heap) (locs : List Loc) (ls : Array Slot) (h : fM_remembers_0 σ = some res) (hP : Pic x al lv σ H) (hS : va_S (Ab x) s.heap H locs) (hl : lv_has ls 2 [(0, .ref (al 7 0))]) : W p l e (rmm 1 0 0) s m args below meth c H locs 0 0 (MQ below (QV x al lv res) args s 0 0 (Ab x)) (F0 m 0 ls []) := by
  obtain ⟨hx, hb, hml, hown, hts⟩ := hC.1
  unfold fM_remembers_0 at h
  refine lv_iconst (v := 0) hx hb dX12_remembers_0 (by decide) ?_
  refine lv_istore_n (lv' := [(1, .int 0), (0, .ref (al 7 0))]) hx hb dX12_remembers_1 rfl hl (by decide) rfl (fun ls hl => ?_)
  exact wM_remembers_2  hC  FU σ 0 H locs ls h hP hS (lv_sub hl [1, 0] rfl)

set_option maxRecDepth 20000 in
theorem tM_remembers {l : Launch} (x : Wx) (al : Nat → Nat → Nat) (lv : Nat → Bool) (σ : Sg) (res : Sg) (h : fM_remembers σ = some res) : Met l yX12_remembers (Cond.code yX12_remembers cX12_remembers 2 none :: lwg) (rmm 1 0 0) (va_Pc [.ref (al 7 0)] (Wd x al lv σ)) (QV x al lv res) 0 0 (Ab x) := by
  refine met_W (by decide) (Nat.le_of_ble_eq_true rfl) rfl (fun p e s m args below meth c ls hC hP hS hl => ?_)
  exact wM_remembers_0  hC σ  _ _ ls h hP hS hl
set_option maxHeartbeats 4000000 in
set_option maxRecDepth 20000 in
theorem wM_brings_80 {p : Program} {l : Launch} {e : Env} {s : State} {m : MethodId} {args : Array Value} {below : List Frame} {meth : Method} {c : Code} {x : Wx} {al : Nat → Nat → Nat} {lv : Nat → Bool} {res : Sg} (hC : Cx x p s m args meth c cX12_brings 2 none RX12) (k2 : Sg → Int32 → Option (Sg)) (hk2 : ∀ (σ : Sg) (x1 : Int32) (H : Heap) (locs : List Loc) (ls : Array Slot), k2 σ x1 = some res → Pic x al lv σ H → va_S (Ab x) s.heap H locs → lv_has ls 2 [(0, .ref (al 7 0)), (1, .int x1)] → W p l e (rmm 1 0 0) s m args below meth c H locs 0 0 (MQ below (QV x al lv res) args s 0 0 (Ab x)) (F0 m 2 ls [])) (σ : Sg) (x1 : Int32) (H : Heap) (locs : List Loc) (ls : Array Slot) (h : fM_brings_80 k2 σ x1 = some res) (hP : Pic x al lv σ H) (hS : va_S (Ab x) s.heap H locs) (hl : lv_has ls 2 [(0, .ref (al 7 0)), (1, .int x1)]) : W p l e (rmm 1 0 0) s m args below meth c H locs 0 0 (MQ below (QV x al lv res) args s 0 0 (Ab x)) (F0 m 80 ls []) := by
  obtain ⟨hx, hb, hml, hown, hts⟩ := hC.1
  unfold fM_brings_80 at h
  refine r_iinc (v := 1) hC h dX12_brings_80 hl (k := 1) rfl rfl (by decide) (fun y4 => [(1, .int y4), (0, .ref (al 7 0))]) (fun _ => rfl) (fun y4 ls h hl => ?_)
  refine lv_goto (tgt := 2) hx hb dX12_brings_83 (by decide) ?_
  exact hk2 σ y4 H locs ls h hP hS (lv_sub hl [1, 0] rfl)

set_option maxHeartbeats 4000000 in
set_option maxRecDepth 20000 in
theorem wM_brings_2_b {p : Program} {l : Launch} {e : Env} {s : State} {m : MethodId} {args : Array Value} {below : List Frame} {meth : Method} {c : Code} {x : Wx} {al : Nat → Nat → Nat} {lv : Nat → Bool} {res : Sg} (hC : Cx x p s m args meth c cX12_brings 2 none RX12) (k2 : Sg → Int32 → Option (Sg)) (hk2 : ∀ (σ : Sg) (x1 : Int32) (H : Heap) (locs : List Loc) (ls : Array Slot), k2 σ x1 = some res → Pic x al lv σ H → va_S (Ab x) s.heap H locs → lv_has ls 2 [(0, .ref (al 7 0)), (1, .int x1)] → W p l e (rmm 1 0 0) s m args below meth c H locs 0 0 (MQ below (QV x al lv res) args s 0 0 (Ab x)) (F0 m 2 ls [])) (σ : Sg) (x1 : Int32) (H : Heap) (locs : List Loc) (ls : Array Slot) (h : fM_brings_2_b k2 σ x1 = some res) (hP : Pic x al lv σ H) (hS : va_S (Ab x) s.heap H locs) (hl : lv_has ls 2 [(0, .ref (al 7 0)), (1, .int x1)]) : W p l e (rmm 1 0 0) s m args below meth c H locs 0 0 (MQ below (QV x al lv res) args s 0 0 (Ab x)) (F0 m 2 ls []) := by
  obtain ⟨hx, hb, hml, hown, hts⟩ := hC.1
  unfold fM_brings_2_b at h
  refine lv_iload_n hx hb dX12_brings_2 rfl (lv_at hl 1 rfl) ?_
  refine lv_aload_n hx hb dX12_brings_3 rfl (lv_at hl 0 rfl) ?_
  refine gt_X12_8 hC hP wf_X12_34 dX12_brings_4 ?_
  refine lv_iconst (v := 0) hx hb dX12_brings_7 (by decide) ?_
  refine r_iald hC hP (aM_8 hP.l7) h dX12_brings_8 (fun h => ?_)
  refine lv_icmp_ge (tgt := 86) hx hb dX12_brings_9 (by decide) (fun hc => ?_) (fun hc => ?_)
  · replace h := (br h).1 hc
    exact r_retV hC hP hS h dX12_brings_86
  · replace h := (br h).2 hc
    refine lv_aload_n hx hb dX12_brings_12 rfl (lv_at hl 0 rfl) ?_
    refine gt_X12_41 hC hP wf_X12_112 dX12_brings_13 ?_
    refine lv_iload_n hx hb dX12_brings_16 rfl (lv_at hl 1 rfl) ?_
    refine r_iald hC hP (aM_41 hP.l7) h dX12_brings_17 (fun h => ?_)
    refine lv_aload_n hx hb dX12_brings_18 rfl (lv_at hl 0 rfl) ?_
    refine gt_X12_21 hC hP wf_X12_73 dX12_brings_19 ?_
    refine lv_iload_n hx hb dX12_brings_22 rfl (lv_at hl 1 rfl) ?_
    refine r_iald hC hP (aM_21 hP.l7) h dX12_brings_23 (fun h => ?_)
    refine lv_icmp_ne (tgt := 30) hx hb dX12_brings_24 (by decide) (fun hc => ?_) (fun hc => ?_)
    · replace h := (br h).2 hc
      refine lv_aload_n hx hb dX12_brings_30 rfl (lv_at hl 0 rfl) ?_
      refine gt_X12_21 hC hP wf_X12_73 dX12_brings_31 ?_
      refine lv_iload_n hx hb dX12_brings_34 rfl (lv_at hl 1 rfl) ?_
      refine lv_aload_n hx hb dX12_brings_35 rfl (lv_at hl 0 rfl) ?_
      refine gt_X12_41 hC hP wf_X12_112 dX12_brings_36 ?_
      refine lv_iload_n hx hb dX12_brings_39 rfl (lv_at hl 1 rfl) ?_
      refine r_iald hC hP (aM_41 hP.l7) h dX12_brings_40 (fun h => ?_)
      refine r_iast hC hP hS (aM_21 hP.l7) h dX12_brings_41 (fun σ1 H locs h hP hS => ?_)
      refine lv_aload_n hx hb dX12_brings_42 rfl (lv_at hl 0 rfl) ?_
      refine gt_X12_22 hC hP wf_X12_76 dX12_brings_43 ?_
      refine lv_iload_n hx hb dX12_brings_46 rfl (lv_at hl 1 rfl) ?_
      refine lv_aload_n hx hb dX12_brings_47 rfl (lv_at hl 0 rfl) ?_
      refine gt_X12_42 hC hP wf_X12_115 dX12_brings_48 ?_
      refine lv_iload_n hx hb dX12_brings_51 rfl (lv_at hl 1 rfl) ?_
      refine r_iald hC hP (aM_42 hP.l7) h dX12_brings_52 (fun h => ?_)
      refine r_iast hC hP hS (aM_22 hP.l7) h dX12_brings_53 (fun σ2 H locs h hP hS => ?_)
      refine lv_aload_n hx hb dX12_brings_54 rfl (lv_at hl 0 rfl) ?_
      refine gt_X12_18 hC hP wf_X12_64 dX12_brings_55 ?_
      refine lv_sipush (v := 180) hx hb dX12_brings_58 (by decide) ?_
      refine lv_aload_n hx hb dX12_brings_61 rfl (lv_at hl 0 rfl) ?_
      refine gt_X12_21 hC hP wf_X12_73 dX12_brings_62 ?_
      refine lv_iload_n hx hb dX12_brings_65 rfl (lv_at hl 1 rfl) ?_
      refine r_iald hC hP (aM_21 hP.l7) h dX12_brings_66 (fun h => ?_)
      refine lv_imul hx hb dX12_brings_67 ?_
      refine lv_aload_n hx hb dX12_brings_68 rfl (lv_at hl 0 rfl) ?_
      refine gt_X12_22 hC hP wf_X12_76 dX12_brings_69 ?_
      refine lv_iload_n hx hb dX12_brings_72 rfl (lv_at hl 1 rfl) ?_
      refine r_iald hC hP (aM_22 hP.l7) h dX12_brings_73 (fun h => ?_)
      refine lv_iadd hx hb dX12_brings_74 ?_
      refine lv_bipush (v := 10) hx hb dX12_brings_75 (by decide) ?_
      refine lv_iload_n hx hb dX12_brings_77 rfl (lv_at hl 1 rfl) ?_
      refine lv_iadd hx hb dX12_brings_78 ?_
      refine r_iast hC hP hS (aM_18 hP.l7) h dX12_brings_79 (fun σ3 H locs h hP hS => ?_)
      exact wM_brings_80  hC k2 hk2 σ3 x1 H locs ls h hP hS (lv_sub hl [0, 1] rfl)
    · replace h := (br h).1 hc
      refine lv_goto (tgt := 80) hx hb dX12_brings_27 (by decide) ?_
      exact wM_brings_80  hC k2 hk2 σ x1 H locs ls h hP hS (lv_sub hl [0, 1] rfl)

set_option maxHeartbeats 4000000 in
set_option maxRecDepth 20000 in
theorem wM_brings_2 {p : Program} {l : Launch} {e : Env} {s : State} {m : MethodId} {args : Array Value} {below : List Frame} {meth : Method} {c : Code} {x : Wx} {al : Nat → Nat → Nat} {lv : Nat → Bool} {res : Sg} (hC : Cx x p s m args meth c cX12_brings 2 none RX12) (n : Nat) (σ : Sg) (x1 : Int32) (H : Heap) (locs : List Loc) (ls : Array Slot) (h : fM_brings_2 n σ x1 = some res) (hP : Pic x al lv σ H) (hS : va_S (Ab x) s.heap H locs) (hl : lv_has ls 2 [(0, .ref (al 7 0)), (1, .int x1)]) : W p l e (rmm 1 0 0) s m args below meth c H locs 0 0 (MQ below (QV x al lv res) args s 0 0 (Ab x)) (F0 m 2 ls []) := by
  induction n generalizing σ x1 H locs ls with
  | zero => exact nomatch h
  | succ n ih => exact wM_brings_2_b  hC  _ (fun σ x1 H locs ls h hP hS hl => ih σ x1 H locs ls h hP hS hl) σ x1 H locs ls h hP hS hl
set_option maxHeartbeats 4000000 in
set_option maxRecDepth 20000 in
theorem wM_brings_0 {p : Program} {l : Launch} {e : Env} {s : State} {m : MethodId} {args : Array Value} {below : List Frame} {meth : Method} {c : Code} {x : Wx} {al : Nat → Nat → Nat} {lv : Nat → Bool} {res : Sg} (hC : Cx x p s m args meth c cX12_brings 2 none RX12) (σ : Sg) (H : Heap) (locs : List Loc) (ls : Array Slot) (h : fM_brings_0 σ = some res) (hP : Pic x al lv σ H) (hS : va_S (Ab x) s.heap H locs) (hl : lv_has ls 2 [(0, .ref (al 7 0))]) : W p l e (rmm 1 0 0) s m args below meth c H locs 0 0 (MQ below (QV x al lv res) args s 0 0 (Ab x)) (F0 m 0 ls []) := by
  obtain ⟨hx, hb, hml, hown, hts⟩ := hC.1
  unfold fM_brings_0 at h
  refine lv_iconst (v := 0) hx hb dX12_brings_0 (by decide) ?_
  refine lv_istore_n (lv' := [(1, .int 0), (0, .ref (al 7 0))]) hx hb dX12_brings_1 rfl hl (by decide) rfl (fun ls hl => ?_)
  exact wM_brings_2  hC  FU σ 0 H locs ls h hP hS (lv_sub hl [1, 0] rfl)

set_option maxRecDepth 20000 in
theorem tM_brings {l : Launch} (x : Wx) (al : Nat → Nat → Nat) (lv : Nat → Bool) (σ : Sg) (res : Sg) (h : fM_brings σ = some res) : Met l yX12_brings (Cond.code yX12_brings cX12_brings 2 none :: lwg) (rmm 1 0 0) (va_Pc [.ref (al 7 0)] (Wd x al lv σ)) (QV x al lv res) 0 0 (Ab x) := by
  refine met_W (by decide) (Nat.le_of_ble_eq_true rfl) rfl (fun p e s m args below meth c ls hC hP hS hl => ?_)
  exact wM_brings_0  hC σ  _ _ ls h hP hS hl
set_option maxHeartbeats 4000000 in
set_option maxRecDepth 20000 in
theorem wM_comes_46_b {p : Program} {l : Launch} {e : Env} {s : State} {m : MethodId} {args : Array Value} {below : List Frame} {meth : Method} {c : Code} {x : Wx} {al : Nat → Nat → Nat} {lv : Nat → Bool} {res : Int32 × Sg} (hC : Cx x p s m args meth c cX12_comes 6 (some .int) RX12) (k46 : Sg → Int32 → Int32 → Int32 → Int32 → Option (Int32 × Sg)) (hk46 : ∀ (σ : Sg) (x1 : Int32) (x2 : Int32) (x3 : Int32) (x4 : Int32) (H : Heap) (locs : List Loc) (ls : Array Slot), k46 σ x1 x2 x3 x4 = some res → Pic x al lv σ H → va_S (Ab x) s.heap H locs → lv_has ls 6 [(0, .ref (al 7 0)), (1, .int x1), (2, .int x2), (3, .int x3), (4, .int x4)] → W p l e (rmm 7 0 0) s m args below meth c H locs 0 0 (MQ below (QI x al lv res) args s 0 0 (Ab x)) (F0 m 46 ls [])) (σ : Sg) (x1 : Int32) (x2 : Int32) (x3 : Int32) (x4 : Int32) (H : Heap) (locs : List Loc) (ls : Array Slot) (h : fM_comes_46_b k46 σ x1 x2 x3 x4 = some res) (hP : Pic x al lv σ H) (hS : va_S (Ab x) s.heap H locs) (hl : lv_has ls 6 [(0, .ref (al 7 0)), (1, .int x1), (2, .int x2), (3, .int x3), (4, .int x4)]) : W p l e (rmm 7 0 0) s m args below meth c H locs 0 0 (MQ below (QI x al lv res) args s 0 0 (Ab x)) (F0 m 46 ls []) := by
  obtain ⟨hx, hb, hml, hown, hts⟩ := hC.1
  unfold fM_comes_46_b at h
  refine lv_iload hx hb dX12_comes_46 (lv_at hl 4 rfl) ?_
  refine lv_iload_n hx hb dX12_comes_48 rfl (lv_at hl 2 rfl) ?_
  refine lv_icmp_ge (tgt := 80) hx hb dX12_comes_49 (by decide) (fun hc => ?_) (fun hc => ?_)
  · replace h := (br h).1 hc
    refine lv_aload_n hx hb dX12_comes_80 rfl (lv_at hl 0 rfl) ?_
    refine r_cV hS h (fun r hr => r_runV (As := []) (rest := []) hC kV_X12_268 cw_X12_brings (rc_X12 hC hP) hP (tM_brings x al lv σ  r hr) rfl hl.1 ⟨Nat.le_of_ble_eq_true rfl, Nat.le_of_ble_eq_true rfl⟩ ⟨Nat.le_of_ble_eq_true rfl, Nat.le_of_ble_eq_true rfl⟩ (Nat.le_of_ble_eq_true rfl) dX12_comes_81) (fun σ5 H locs h hP hS => ?_)
    refine lv_iload_n hx hb dX12_comes_84 rfl (lv_at hl 3 rfl) ?_
    exact r_retI hC hP hS rfl h dX12_comes_85
  · replace h := (br h).2 hc
    refine lv_aload_n hx hb dX12_comes_52 rfl (lv_at hl 0 rfl) ?_
    refine lv_iload_n hx hb dX12_comes_53 rfl (lv_at hl 1 rfl) ?_
    refine r_cP hS h (fun r hr => r_runV (As := [.int x1]) (rest := []) hC kV_X12_253 cw_X12_nextOf (rc_X12 hC hP) hP (tM_nextOf x al lv σ x1 r hr) rfl hl.1 ⟨Nat.le_of_ble_eq_true rfl, Nat.le_of_ble_eq_true rfl⟩ ⟨Nat.le_of_ble_eq_true rfl, Nat.le_of_ble_eq_true rfl⟩ (Nat.le_of_ble_eq_true rfl) dX12_comes_54) (fun y6 H locs h hP hS => ?_)
    refine lv_istore (lv' := [(5, .int y6), (0, .ref (al 7 0)), (1, .int x1), (2, .int x2), (3, .int x3), (4, .int x4)]) hx hb dX12_comes_57 hl (by decide) rfl (fun ls hl => ?_)
    refine lv_iload_n hx hb dX12_comes_59 rfl (lv_at hl 4 rfl) ?_
    refine lv_aload_n hx hb dX12_comes_60 rfl (lv_at hl 1 rfl) ?_
    refine lv_iload hx hb dX12_comes_61 (lv_at hl 0 rfl) ?_
    refine r_cP hS h (fun r hr => r_runV (As := [.int y6]) (rest := [.int x3]) hC kV_X12_265 cw_X12_comeOf (rc_X12 hC hP) hP (tM_comeOf x al lv σ y6 r hr) rfl hl.1 ⟨Nat.le_of_ble_eq_true rfl, Nat.le_of_ble_eq_true rfl⟩ ⟨Nat.le_of_ble_eq_true rfl, Nat.le_of_ble_eq_true rfl⟩ (Nat.le_of_ble_eq_true rfl) dX12_comes_63) (fun y7 H locs h hP hS => ?_)
    refine lv_iadd hx hb dX12_comes_66 ?_
    refine r_lt h (fun y8 h => ?_)
    refine lv_istore_n (lv' := [(3, .int y8), (5, .int y6), (0, .ref (al 7 0)), (1, .int x1), (2, .int x2), (4, .int x4)]) hx hb dX12_comes_67 rfl hl (by decide) rfl (fun ls hl => ?_)
    refine lv_aload_n hx hb dX12_comes_68 rfl (lv_at hl 2 rfl) ?_
    refine lv_iload hx hb dX12_comes_69 (lv_at hl 1 rfl) ?_
    refine r_cV hS h (fun r hr => r_runV (As := [.int y6]) (rest := []) hC kV_X12_241 cw_X12_out (rc_X12 hC hP) hP (tM_out x al lv σ y6 r hr) rfl hl.1 ⟨Nat.le_of_ble_eq_true rfl, Nat.le_of_ble_eq_true rfl⟩ ⟨Nat.le_of_ble_eq_true rfl, Nat.le_of_ble_eq_true rfl⟩ (Nat.le_of_ble_eq_true rfl) dX12_comes_71) (fun σ9 H locs h hP hS => ?_)
    refine r_iinc (v := 1) hC h dX12_comes_74 hl (k := 5) rfl rfl (by decide) (fun y10 => [(4, .int y10), (3, .int y8), (5, .int y6), (0, .ref (al 7 0)), (1, .int x1), (2, .int x2)]) (fun _ => rfl) (fun y10 ls h hl => ?_)
    refine lv_goto (tgt := 46) hx hb dX12_comes_77 (by decide) ?_
    exact hk46 σ9 x1 x2 y8 y10 H locs ls h hP hS (lv_sub hl [3, 4, 5, 1, 0] rfl)

set_option maxHeartbeats 4000000 in
set_option maxRecDepth 20000 in
theorem wM_comes_46 {p : Program} {l : Launch} {e : Env} {s : State} {m : MethodId} {args : Array Value} {below : List Frame} {meth : Method} {c : Code} {x : Wx} {al : Nat → Nat → Nat} {lv : Nat → Bool} {res : Int32 × Sg} (hC : Cx x p s m args meth c cX12_comes 6 (some .int) RX12) (n : Nat) (σ : Sg) (x1 : Int32) (x2 : Int32) (x3 : Int32) (x4 : Int32) (H : Heap) (locs : List Loc) (ls : Array Slot) (h : fM_comes_46 n σ x1 x2 x3 x4 = some res) (hP : Pic x al lv σ H) (hS : va_S (Ab x) s.heap H locs) (hl : lv_has ls 6 [(0, .ref (al 7 0)), (1, .int x1), (2, .int x2), (3, .int x3), (4, .int x4)]) : W p l e (rmm 7 0 0) s m args below meth c H locs 0 0 (MQ below (QI x al lv res) args s 0 0 (Ab x)) (F0 m 46 ls []) := by
  induction n generalizing σ x1 x2 x3 x4 H locs ls with
  | zero => exact nomatch h
  | succ n ih => exact wM_comes_46_b  hC  _ (fun σ x1 x2 x3 x4 H locs ls h hP hS hl => ih σ x1 x2 x3 x4 H locs ls h hP hS hl) σ x1 x2 x3 x4 H locs ls h hP hS hl
set_option maxHeartbeats 4000000 in
set_option maxRecDepth 20000 in
theorem wM_comes_0 {p : Program} {l : Launch} {e : Env} {s : State} {m : MethodId} {args : Array Value} {below : List Frame} {meth : Method} {c : Code} {x : Wx} {al : Nat → Nat → Nat} {lv : Nat → Bool} {res : Int32 × Sg} (hC : Cx x p s m args meth c cX12_comes 6 (some .int) RX12) (σ : Sg) (v1 : Int32) (v2 : Int32) (H : Heap) (locs : List Loc) (ls : Array Slot) (h : fM_comes_0 σ v1 v2 = some res) (hP : Pic x al lv σ H) (hS : va_S (Ab x) s.heap H locs) (hl : lv_has ls 6 [(0, .ref (al 7 0)), (1, .int v1), (2, .int v2)]) : W p l e (rmm 7 0 0) s m args below meth c H locs 0 0 (MQ below (QI x al lv res) args s 0 0 (Ab x)) (F0 m 0 ls []) := by
  obtain ⟨hx, hb, hml, hown, hts⟩ := hC.1
  unfold fM_comes_0 at h
  refine lv_iload_n hx hb dX12_comes_0 rfl (lv_at hl 2 rfl) ?_
  refine lv_iconst (v := 0) hx hb dX12_comes_1 (by decide) ?_
  refine lv_sipush (v := 300) hx hb dX12_comes_2 (by decide) ?_
  refine r_cP hS h (fun r hr => r_runS (As := [.int v2, .int 0, .int 300]) (rest := []) hC kS_X12_145 cw_X12_in hP (tM_in x al lv σ v2 0 300 r hr) rfl hl.1 ⟨Nat.le_of_ble_eq_true rfl, Nat.le_of_ble_eq_true rfl⟩ ⟨Nat.le_of_ble_eq_true rfl, Nat.le_of_ble_eq_true rfl⟩ (Nat.le_of_ble_eq_true rfl) dX12_comes_5) (fun y1 H locs h hP hS => ?_)
  refine lv_if_ne (tgt := 13) hx hb dX12_comes_8 (by decide) (fun hc => ?_) (fun hc => ?_)
  · replace h := (br h).2 hc
    refine lv_aload_n hx hb dX12_comes_13 rfl (lv_at hl 0 rfl) ?_
    refine lv_iload_n hx hb dX12_comes_14 rfl (lv_at hl 1 rfl) ?_
    refine r_cP hS h (fun r hr => r_runV (As := [.int v1]) (rest := []) hC kV_X12_180 cw_X12_isRoom (rc_X12 hC hP) hP (tM_isRoom x al lv σ v1 r hr) rfl hl.1 ⟨Nat.le_of_ble_eq_true rfl, Nat.le_of_ble_eq_true rfl⟩ ⟨Nat.le_of_ble_eq_true rfl, Nat.le_of_ble_eq_true rfl⟩ (Nat.le_of_ble_eq_true rfl) dX12_comes_15) (fun y2 H locs h hP hS => ?_)
    refine lv_if_ne (tgt := 24) hx hb dX12_comes_18 (by decide) (fun hc => ?_) (fun hc => ?_)
    · replace h := (br h).2 hc
      refine lv_aload_n hx hb dX12_comes_24 rfl (lv_at hl 0 rfl) ?_
      refine lv_iload_n hx hb dX12_comes_25 rfl (lv_at hl 1 rfl) ?_
      refine lv_iconst (v := (-1)) hx hb dX12_comes_26 (by decide) ?_
      refine r_cP hS h (fun r hr => r_runV (As := [.int v1, .int ((-1))]) (rest := []) hC kV_X12_184 cw_X12_countOf (rc_X12 hC hP) hP (tM_countOf x al lv σ v1 ((-1)) r hr) rfl hl.1 ⟨Nat.le_of_ble_eq_true rfl, Nat.le_of_ble_eq_true rfl⟩ ⟨Nat.le_of_ble_eq_true rfl, Nat.le_of_ble_eq_true rfl⟩ (Nat.le_of_ble_eq_true rfl) dX12_comes_27) (fun y3 H locs h hP hS => ?_)
      refine lv_iload_n hx hb dX12_comes_30 rfl (lv_at hl 2 rfl) ?_
      refine lv_icmp_ge (tgt := 37) hx hb dX12_comes_31 (by decide) (fun hc => ?_) (fun hc => ?_)
      · replace h := (br h).1 hc
        refine lv_aload_n hx hb dX12_comes_37 rfl (lv_at hl 0 rfl) ?_
        refine r_cV hS h (fun r hr => r_runV (As := []) (rest := []) hC kV_X12_262 cw_X12_remembers (rc_X12 hC hP) hP (tM_remembers x al lv σ  r hr) rfl hl.1 ⟨Nat.le_of_ble_eq_true rfl, Nat.le_of_ble_eq_true rfl⟩ ⟨Nat.le_of_ble_eq_true rfl, Nat.le_of_ble_eq_true rfl⟩ (Nat.le_of_ble_eq_true rfl) dX12_comes_38) (fun σ4 H locs h hP hS => ?_)
        refine lv_iconst (v := 0) hx hb dX12_comes_41 (by decide) ?_
        refine lv_istore_n (lv' := [(3, .int 0), (0, .ref (al 7 0)), (1, .int v1), (2, .int v2)]) hx hb dX12_comes_42 rfl hl (by decide) rfl (fun ls hl => ?_)
        refine lv_iconst (v := 0) hx hb dX12_comes_43 (by decide) ?_
        refine lv_istore (lv' := [(4, .int 0), (3, .int 0), (0, .ref (al 7 0)), (1, .int v1), (2, .int v2)]) hx hb dX12_comes_44 hl (by decide) rfl (fun ls hl => ?_)
        exact wM_comes_46  hC  FU σ4 v1 v2 0 0 H locs ls h hP hS (lv_sub hl [2, 3, 4, 1, 0] rfl)
      · replace h := (br h).2 hc
        refine lv_bipush (v := (-6)) hx hb dX12_comes_34 (by decide) ?_
        exact r_retI hC hP hS rfl h dX12_comes_36
    · replace h := (br h).1 hc
      refine lv_bipush (v := (-2)) hx hb dX12_comes_21 (by decide) ?_
      exact r_retI hC hP hS rfl h dX12_comes_23
  · replace h := (br h).1 hc
    refine lv_iconst (v := (-1)) hx hb dX12_comes_11 (by decide) ?_
    exact r_retI hC hP hS rfl h dX12_comes_12

set_option maxRecDepth 20000 in
theorem tM_comes {l : Launch} (x : Wx) (al : Nat → Nat → Nat) (lv : Nat → Bool) (σ : Sg) (v1 : Int32) (v2 : Int32) (res : Int32 × Sg) (h : fM_comes σ v1 v2 = some res) : Met l yX12_comes (Cond.code yX12_comes cX12_comes 6 (some .int) :: lwg) (rmm 7 0 0) (va_Pc [.ref (al 7 0), .int v1, .int v2] (Wd x al lv σ)) (QI x al lv res) 0 0 (Ab x) := by
  refine met_W (by decide) (Nat.le_of_ble_eq_true rfl) rfl (fun p e s m args below meth c ls hC hP hS hl => ?_)
  exact wM_comes_0  hC σ v1 v2 _ _ ls h hP hS hl
