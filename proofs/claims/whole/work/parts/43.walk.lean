set_option maxHeartbeats 4000000 in
set_option maxRecDepth 20000 in
theorem wM_put_69 {p : Program} {l : Launch} {e : Env} {s : State} {m : MethodId} {args : Array Value} {below : List Frame} {meth : Method} {c : Code} {x : Wx} {al : Nat → Nat → Nat} {lv : Nat → Bool} {res : Int32 × Sg} (hC : Cx x p s m args meth c cX12_put 5 (some .int) RX12) (σ : Sg) (H : Heap) (locs : List Loc) (ls : Array Slot) (h : fM_put_69 σ = some res) (hP : Pic x al lv σ H) (hS : va_S (Ab x) s.heap H locs) (hl : lv_has ls 5 [(0, .ref (al 7 0))]) : W p l e (rmm 5 0 0) s m args below meth c H locs 0 0 (MQ below (QI x al lv res) args s 0 0 (Ab x)) (F0 m 69 ls []) := by
  obtain ⟨hx, hb, hml, hown, hts⟩ := hC.1
  unfold fM_put_69 at h
  refine lv_aload_n hx hb dX12_put_69 rfl (lv_at hl 0 rfl) ?_
  refine lv_bipush (v := (-7)) hx hb dX12_put_70 (by decide) ?_
  refine r_cI hS h (fun r hr => r_runV (As := [.int ((-7))]) (rest := []) hC kV_X12_151 cw_X12_ends (rc_X12 hC hP) hP (tM_ends x al lv σ ((-7)) r hr) rfl hl.1 ⟨Nat.le_of_ble_eq_true rfl, Nat.le_of_ble_eq_true rfl⟩ ⟨Nat.le_of_ble_eq_true rfl, Nat.le_of_ble_eq_true rfl⟩ (Nat.le_of_ble_eq_true rfl) dX12_put_72) (fun y7 σ8 H locs h hP hS => ?_)
  exact r_retI hC hP hS rfl h dX12_put_75

set_option maxHeartbeats 4000000 in
set_option maxRecDepth 20000 in
theorem wM_put_96 {p : Program} {l : Launch} {e : Env} {s : State} {m : MethodId} {args : Array Value} {below : List Frame} {meth : Method} {c : Code} {x : Wx} {al : Nat → Nat → Nat} {lv : Nat → Bool} {res : Int32 × Sg} (hC : Cx x p s m args meth c cX12_put 5 (some .int) RX12) (σ : Sg) (t0 : Int32) (t1 : Int32) (H : Heap) (locs : List Loc) (ls : Array Slot) (h : fM_put_96 σ t0 t1 = some res) (hP : Pic x al lv σ H) (hS : va_S (Ab x) s.heap H locs) (hl : lv_has ls 5 [(0, .ref (al 7 0))]) : W p l e (rmm 5 0 0) s m args below meth c H locs 0 0 (MQ below (QI x al lv res) args s 0 0 (Ab x)) (F0 m 96 ls [.int t0, .int t1, .ref (al 7 18)]) := by
  obtain ⟨hx, hb, hml, hown, hts⟩ := hC.1
  unfold fM_put_96 at h
  refine r_iast hC hP hS (aM_18 hP.l7) h dX12_put_96 (fun σ9 H locs h hP hS => ?_)
  refine lv_aload_n hx hb dX12_put_97 rfl (lv_at hl 0 rfl) ?_
  refine lv_iconst (v := 0) hx hb dX12_put_98 (by decide) ?_
  refine r_cI hS h (fun r hr => r_runV (As := [.int 0]) (rest := []) hC kV_X12_151 cw_X12_ends (rc_X12 hC hP) hP (tM_ends x al lv σ9 0 r hr) rfl hl.1 ⟨Nat.le_of_ble_eq_true rfl, Nat.le_of_ble_eq_true rfl⟩ ⟨Nat.le_of_ble_eq_true rfl, Nat.le_of_ble_eq_true rfl⟩ (Nat.le_of_ble_eq_true rfl) dX12_put_99) (fun y10 σ11 H locs h hP hS => ?_)
  exact r_retI hC hP hS rfl h dX12_put_102

set_option maxHeartbeats 4000000 in
set_option maxRecDepth 20000 in
theorem wM_put_76 {p : Program} {l : Launch} {e : Env} {s : State} {m : MethodId} {args : Array Value} {below : List Frame} {meth : Method} {c : Code} {x : Wx} {al : Nat → Nat → Nat} {lv : Nat → Bool} {res : Int32 × Sg} (hC : Cx x p s m args meth c cX12_put 5 (some .int) RX12) (σ : Sg) (x1 : Int32) (x2 : Int32) (x3 : Int32) (H : Heap) (locs : List Loc) (ls : Array Slot) (h : fM_put_76 σ x1 x2 x3 = some res) (hP : Pic x al lv σ H) (hS : va_S (Ab x) s.heap H locs) (hl : lv_has ls 5 [(0, .ref (al 7 0)), (1, .int x1), (2, .int x2), (3, .int x3)]) : W p l e (rmm 5 0 0) s m args below meth c H locs 0 0 (MQ below (QI x al lv res) args s 0 0 (Ab x)) (F0 m 76 ls []) := by
  obtain ⟨hx, hb, hml, hown, hts⟩ := hC.1
  unfold fM_put_76 at h
  refine lv_aload_n hx hb dX12_put_76 rfl (lv_at hl 0 rfl) ?_
  refine gt_X12_18 hC hP wf_X12_64 dX12_put_77 ?_
  refine lv_sipush (v := 180) hx hb dX12_put_80 (by decide) ?_
  refine lv_iload_n hx hb dX12_put_83 rfl (lv_at hl 1 rfl) ?_
  refine lv_imul hx hb dX12_put_84 ?_
  refine lv_iload_n hx hb dX12_put_85 rfl (lv_at hl 2 rfl) ?_
  refine lv_iadd hx hb dX12_put_86 ?_
  refine lv_iload_n hx hb dX12_put_87 rfl (lv_at hl 3 rfl) ?_
  refine lv_if_ne (tgt := 95) hx hb dX12_put_88 (by decide) (fun hc => ?_) (fun hc => ?_)
  · replace h := (br h).2 hc
    refine lv_iconst (v := 2) hx hb dX12_put_95 (by decide) ?_
    exact wM_put_96  hC  σ 2 ((180 * x1) + x2) H locs ls h hP hS (lv_sub hl [0] rfl)
  · replace h := (br h).1 hc
    refine lv_iconst (v := 1) hx hb dX12_put_91 (by decide) ?_
    refine lv_goto (tgt := 96) hx hb dX12_put_92 (by decide) ?_
    exact wM_put_96  hC  σ 1 ((180 * x1) + x2) H locs ls h hP hS (lv_sub hl [0] rfl)

set_option maxHeartbeats 4000000 in
set_option maxRecDepth 20000 in
theorem wM_put_0 {p : Program} {l : Launch} {e : Env} {s : State} {m : MethodId} {args : Array Value} {below : List Frame} {meth : Method} {c : Code} {x : Wx} {al : Nat → Nat → Nat} {lv : Nat → Bool} {res : Int32 × Sg} (hC : Cx x p s m args meth c cX12_put 5 (some .int) RX12) (σ : Sg) (v1 : Int32) (v2 : Int32) (v3 : Int32) (H : Heap) (locs : List Loc) (ls : Array Slot) (h : fM_put_0 σ v1 v2 v3 = some res) (hP : Pic x al lv σ H) (hS : va_S (Ab x) s.heap H locs) (hl : lv_has ls 5 [(0, .ref (al 7 0)), (1, .int v1), (2, .int v2), (3, .int v3)]) : W p l e (rmm 5 0 0) s m args below meth c H locs 0 0 (MQ below (QI x al lv res) args s 0 0 (Ab x)) (F0 m 0 ls []) := by
  obtain ⟨hx, hb, hml, hown, hts⟩ := hC.1
  unfold fM_put_0 at h
  refine lv_iload_n hx hb dX12_put_0 rfl (lv_at hl 3 rfl) ?_
  refine lv_iconst (v := 0) hx hb dX12_put_1 (by decide) ?_
  refine lv_iconst (v := 1) hx hb dX12_put_2 (by decide) ?_
  refine r_cP hS h (fun r hr => r_runS (As := [.int v3, .int 0, .int 1]) (rest := []) hC kS_X12_145 cw_X12_in hP (tM_in x al lv σ v3 0 1 r hr) rfl hl.1 ⟨Nat.le_of_ble_eq_true rfl, Nat.le_of_ble_eq_true rfl⟩ ⟨Nat.le_of_ble_eq_true rfl, Nat.le_of_ble_eq_true rfl⟩ (Nat.le_of_ble_eq_true rfl) dX12_put_3) (fun y1 H locs h hP hS => ?_)
  refine lv_if_ne (tgt := 15) hx hb dX12_put_6 (by decide) (fun hc => ?_) (fun hc => ?_)
  · replace h := (br h).2 hc
    refine lv_aload_n hx hb dX12_put_15 rfl (lv_at hl 0 rfl) ?_
    refine lv_iload_n hx hb dX12_put_16 rfl (lv_at hl 1 rfl) ?_
    refine lv_iload_n hx hb dX12_put_17 rfl (lv_at hl 2 rfl) ?_
    refine r_cP hS h (fun r hr => r_runV (As := [.int v1, .int v2]) (rest := []) hC kV_X12_218 cw_X12_unfit (rc_X12 hC hP) hP (tM_unfit x al lv σ v1 v2 r hr) rfl hl.1 ⟨Nat.le_of_ble_eq_true rfl, Nat.le_of_ble_eq_true rfl⟩ ⟨Nat.le_of_ble_eq_true rfl, Nat.le_of_ble_eq_true rfl⟩ (Nat.le_of_ble_eq_true rfl) dX12_put_18) (fun y2 H locs h hP hS => ?_)
    refine lv_istore (lv' := [(4, .int y2), (0, .ref (al 7 0)), (1, .int v1), (2, .int v2), (3, .int v3)]) hx hb dX12_put_21 hl (by decide) rfl (fun ls hl => ?_)
    refine lv_iload hx hb dX12_put_23 (lv_at hl 0 rfl) ?_
    refine lv_if_eq (tgt := 35) hx hb dX12_put_25 (by decide) (fun hc => ?_) (fun hc => ?_)
    · replace h := (br h).1 hc
      refine lv_iload_n hx hb dX12_put_35 rfl (lv_at hl 4 rfl) ?_
      refine lv_if_ne (tgt := 76) hx hb dX12_put_36 (by decide) (fun hc => ?_) (fun hc => ?_)
      · replace h := (br h).2 hc
        exact wM_put_76  hC  σ v1 v2 v3 H locs ls h hP hS (lv_sub hl [1, 2, 3, 4] rfl)
      · replace h := (br h).1 hc
        refine lv_aload_n hx hb dX12_put_39 rfl (lv_at hl 1 rfl) ?_
        refine gt_X12_10 hC hP wf_X12_40 dX12_put_40 ?_
        refine lv_iload_n hx hb dX12_put_43 rfl (lv_at hl 2 rfl) ?_
        refine r_iald hC hP (aM_10 hP.l7) h dX12_put_44 (fun h => ?_)
        refine lv_iconst (v := 4) hx hb dX12_put_45 (by decide) ?_
        refine lv_icmp_eq (tgt := 69) hx hb dX12_put_46 (by decide) (fun hc => ?_) (fun hc => ?_)
        · replace h := (br h).1 hc
          exact wM_put_69  hC  σ H locs ls h hP hS (lv_sub hl [1] rfl)
        · replace h := (br h).2 hc
          refine lv_aload_n hx hb dX12_put_49 rfl (lv_at hl 1 rfl) ?_
          refine gt_X12_10 hC hP wf_X12_40 dX12_put_50 ?_
          refine lv_iload_n hx hb dX12_put_53 rfl (lv_at hl 2 rfl) ?_
          refine r_iald hC hP (aM_10 hP.l7) h dX12_put_54 (fun h => ?_)
          refine lv_iconst (v := 3) hx hb dX12_put_55 (by decide) ?_
          refine lv_icmp_ne (tgt := 76) hx hb dX12_put_56 (by decide) (fun hc => ?_) (fun hc => ?_)
          · replace h := (br h).2 hc
            exact wM_put_76  hC  σ v1 v2 v3 H locs ls h hP hS (lv_sub hl [1, 2, 3, 4] rfl)
          · replace h := (br h).1 hc
            refine lv_aload_n hx hb dX12_put_59 rfl (lv_at hl 1 rfl) ?_
            refine gt_X12_13 hC hP wf_X12_49 dX12_put_60 ?_
            refine lv_iload_n hx hb dX12_put_63 rfl (lv_at hl 2 rfl) ?_
            refine r_iald hC hP (aM_13 hP.l7) h dX12_put_64 (fun h => ?_)
            refine lv_iconst (v := 1) hx hb dX12_put_65 (by decide) ?_
            refine lv_icmp_ne (tgt := 76) hx hb dX12_put_66 (by decide) (fun hc => ?_) (fun hc => ?_)
            · replace h := (br h).2 hc
              exact wM_put_76  hC  σ v1 v2 v3 H locs ls h hP hS (lv_sub hl [1, 2, 3, 4] rfl)
            · replace h := (br h).1 hc
              exact wM_put_69  hC  σ H locs ls h hP hS (lv_sub hl [1] rfl)
    · replace h := (br h).2 hc
      refine lv_aload_n hx hb dX12_put_28 rfl (lv_at hl 1 rfl) ?_
      refine lv_iload hx hb dX12_put_29 (lv_at hl 0 rfl) ?_
      refine r_cI hS h (fun r hr => r_runV (As := [.int y2]) (rest := []) hC kV_X12_151 cw_X12_ends (rc_X12 hC hP) hP (tM_ends x al lv σ y2 r hr) rfl hl.1 ⟨Nat.le_of_ble_eq_true rfl, Nat.le_of_ble_eq_true rfl⟩ ⟨Nat.le_of_ble_eq_true rfl, Nat.le_of_ble_eq_true rfl⟩ (Nat.le_of_ble_eq_true rfl) dX12_put_31) (fun y3 σ4 H locs h hP hS => ?_)
      exact r_retI hC hP hS rfl h dX12_put_34
  · replace h := (br h).1 hc
    refine lv_aload_n hx hb dX12_put_9 rfl (lv_at hl 0 rfl) ?_
    refine lv_iconst (v := (-1)) hx hb dX12_put_10 (by decide) ?_
    refine r_cI hS h (fun r hr => r_runV (As := [.int ((-1))]) (rest := []) hC kV_X12_151 cw_X12_ends (rc_X12 hC hP) hP (tM_ends x al lv σ ((-1)) r hr) rfl hl.1 ⟨Nat.le_of_ble_eq_true rfl, Nat.le_of_ble_eq_true rfl⟩ ⟨Nat.le_of_ble_eq_true rfl, Nat.le_of_ble_eq_true rfl⟩ (Nat.le_of_ble_eq_true rfl) dX12_put_11) (fun y5 σ6 H locs h hP hS => ?_)
    exact r_retI hC hP hS rfl h dX12_put_14

set_option maxRecDepth 20000 in
theorem tM_put {l : Launch} (x : Wx) (al : Nat → Nat → Nat) (lv : Nat → Bool) (σ : Sg) (v1 : Int32) (v2 : Int32) (v3 : Int32) (res : Int32 × Sg) (h : fM_put σ v1 v2 v3 = some res) : Met l yX12_put (Cond.code yX12_put cX12_put 5 (some .int) :: lwg) (rmm 5 0 0) (va_Pc [.ref (al 7 0), .int v1, .int v2, .int v3] (Wd x al lv σ)) (QI x al lv res) 0 0 (Ab x) := by
  refine met_W (by decide) (Nat.le_of_ble_eq_true rfl) rfl (fun p e s m args below meth c ls hC hP hS hl => ?_)
  exact wM_put_0  hC σ v1 v2 v3 _ _ ls h hP hS hl
set_option maxHeartbeats 4000000 in
set_option maxRecDepth 20000 in
theorem wM_clear_73 {p : Program} {l : Launch} {e : Env} {s : State} {m : MethodId} {args : Array Value} {below : List Frame} {meth : Method} {c : Code} {x : Wx} {al : Nat → Nat → Nat} {lv : Nat → Bool} {res : Int32 × Sg} (hC : Cx x p s m args meth c cX12_clear 4 (some .int) RX12) (σ : Sg) (H : Heap) (locs : List Loc) (ls : Array Slot) (h : fM_clear_73 σ = some res) (hP : Pic x al lv σ H) (hS : va_S (Ab x) s.heap H locs) (hl : lv_has ls 4 [(0, .ref (al 7 0))]) : W p l e (rmm 4 0 0) s m args below meth c H locs 0 0 (MQ below (QI x al lv res) args s 0 0 (Ab x)) (F0 m 73 ls []) := by
  obtain ⟨hx, hb, hml, hown, hts⟩ := hC.1
  unfold fM_clear_73 at h
  refine lv_aload_n hx hb dX12_clear_73 rfl (lv_at hl 0 rfl) ?_
  refine lv_bipush (v := (-7)) hx hb dX12_clear_74 (by decide) ?_
  refine r_cI hS h (fun r hr => r_runV (As := [.int ((-7))]) (rest := []) hC kV_X12_151 cw_X12_ends (rc_X12 hC hP) hP (tM_ends x al lv σ ((-7)) r hr) rfl hl.1 ⟨Nat.le_of_ble_eq_true rfl, Nat.le_of_ble_eq_true rfl⟩ ⟨Nat.le_of_ble_eq_true rfl, Nat.le_of_ble_eq_true rfl⟩ (Nat.le_of_ble_eq_true rfl) dX12_clear_76) (fun y11 σ12 H locs h hP hS => ?_)
  exact r_retI hC hP hS rfl h dX12_clear_79

set_option maxHeartbeats 4000000 in
set_option maxRecDepth 20000 in
theorem wM_clear_63 {p : Program} {l : Launch} {e : Env} {s : State} {m : MethodId} {args : Array Value} {below : List Frame} {meth : Method} {c : Code} {x : Wx} {al : Nat → Nat → Nat} {lv : Nat → Bool} {res : Int32 × Sg} (hC : Cx x p s m args meth c cX12_clear 4 (some .int) RX12) (σ : Sg) (x1 : Int32) (x2 : Int32) (H : Heap) (locs : List Loc) (ls : Array Slot) (h : fM_clear_63 σ x1 x2 = some res) (hP : Pic x al lv σ H) (hS : va_S (Ab x) s.heap H locs) (hl : lv_has ls 4 [(0, .ref (al 7 0)), (1, .int x1), (2, .int x2)]) : W p l e (rmm 4 0 0) s m args below meth c H locs 0 0 (MQ below (QI x al lv res) args s 0 0 (Ab x)) (F0 m 63 ls []) := by
  obtain ⟨hx, hb, hml, hown, hts⟩ := hC.1
  unfold fM_clear_63 at h
  refine lv_aload_n hx hb dX12_clear_63 rfl (lv_at hl 0 rfl) ?_
  refine lv_iload_n hx hb dX12_clear_64 rfl (lv_at hl 1 rfl) ?_
  refine lv_iload_n hx hb dX12_clear_65 rfl (lv_at hl 2 rfl) ?_
  refine lv_iconst (v := 5) hx hb dX12_clear_66 (by decide) ?_
  refine r_cP hS h (fun r hr => r_runV (As := [.int x1, .int x2, .int 5]) (rest := []) hC kV_X12_176 cw_X12_side (rc_X12 hC hP) hP (tM_side x al lv σ x1 x2 5 r hr) rfl hl.1 ⟨Nat.le_of_ble_eq_true rfl, Nat.le_of_ble_eq_true rfl⟩ ⟨Nat.le_of_ble_eq_true rfl, Nat.le_of_ble_eq_true rfl⟩ (Nat.le_of_ble_eq_true rfl) dX12_clear_67) (fun y13 H locs h hP hS => ?_)
  refine lv_if_eq (tgt := 80) hx hb dX12_clear_70 (by decide) (fun hc => ?_) (fun hc => ?_)
  · replace h := (br h).1 hc
    refine lv_aload_n hx hb dX12_clear_80 rfl (lv_at hl 0 rfl) ?_
    refine gt_X12_18 hC hP wf_X12_64 dX12_clear_81 ?_
    refine lv_sipush (v := 180) hx hb dX12_clear_84 (by decide) ?_
    refine lv_iload_n hx hb dX12_clear_87 rfl (lv_at hl 1 rfl) ?_
    refine lv_imul hx hb dX12_clear_88 ?_
    refine lv_iload_n hx hb dX12_clear_89 rfl (lv_at hl 2 rfl) ?_
    refine lv_iadd hx hb dX12_clear_90 ?_
    refine lv_iconst (v := 0) hx hb dX12_clear_91 (by decide) ?_
    refine r_iast hC hP hS (aM_18 hP.l7) h dX12_clear_92 (fun σ14 H locs h hP hS => ?_)
    refine lv_aload_n hx hb dX12_clear_93 rfl (lv_at hl 0 rfl) ?_
    refine lv_iconst (v := 0) hx hb dX12_clear_94 (by decide) ?_
    refine r_cI hS h (fun r hr => r_runV (As := [.int 0]) (rest := []) hC kV_X12_151 cw_X12_ends (rc_X12 hC hP) hP (tM_ends x al lv σ14 0 r hr) rfl hl.1 ⟨Nat.le_of_ble_eq_true rfl, Nat.le_of_ble_eq_true rfl⟩ ⟨Nat.le_of_ble_eq_true rfl, Nat.le_of_ble_eq_true rfl⟩ (Nat.le_of_ble_eq_true rfl) dX12_clear_95) (fun y15 σ16 H locs h hP hS => ?_)
    exact r_retI hC hP hS rfl h dX12_clear_98
  · replace h := (br h).2 hc
    exact wM_clear_73  hC  σ H locs ls h hP hS (lv_sub hl [0] rfl)

set_option maxHeartbeats 4000000 in
set_option maxRecDepth 20000 in
theorem wM_clear_0 {p : Program} {l : Launch} {e : Env} {s : State} {m : MethodId} {args : Array Value} {below : List Frame} {meth : Method} {c : Code} {x : Wx} {al : Nat → Nat → Nat} {lv : Nat → Bool} {res : Int32 × Sg} (hC : Cx x p s m args meth c cX12_clear 4 (some .int) RX12) (σ : Sg) (v1 : Int32) (v2 : Int32) (H : Heap) (locs : List Loc) (ls : Array Slot) (h : fM_clear_0 σ v1 v2 = some res) (hP : Pic x al lv σ H) (hS : va_S (Ab x) s.heap H locs) (hl : lv_has ls 4 [(0, .ref (al 7 0)), (1, .int v1), (2, .int v2)]) : W p l e (rmm 4 0 0) s m args below meth c H locs 0 0 (MQ below (QI x al lv res) args s 0 0 (Ab x)) (F0 m 0 ls []) := by
  obtain ⟨hx, hb, hml, hown, hts⟩ := hC.1
  unfold fM_clear_0 at h
  refine lv_aload_n hx hb dX12_clear_0 rfl (lv_at hl 0 rfl) ?_
  refine lv_iload_n hx hb dX12_clear_1 rfl (lv_at hl 1 rfl) ?_
  refine r_cP hS h (fun r hr => r_runV (As := [.int v1]) (rest := []) hC kV_X12_180 cw_X12_isRoom (rc_X12 hC hP) hP (tM_isRoom x al lv σ v1 r hr) rfl hl.1 ⟨Nat.le_of_ble_eq_true rfl, Nat.le_of_ble_eq_true rfl⟩ ⟨Nat.le_of_ble_eq_true rfl, Nat.le_of_ble_eq_true rfl⟩ (Nat.le_of_ble_eq_true rfl) dX12_clear_2) (fun y1 H locs h hP hS => ?_)
  refine lv_if_ne (tgt := 15) hx hb dX12_clear_5 (by decide) (fun hc => ?_) (fun hc => ?_)
  · replace h := (br h).2 hc
    refine lv_aload_n hx hb dX12_clear_15 rfl (lv_at hl 0 rfl) ?_
    refine lv_iload_n hx hb dX12_clear_16 rfl (lv_at hl 1 rfl) ?_
    refine lv_iload_n hx hb dX12_clear_17 rfl (lv_at hl 2 rfl) ?_
    refine r_cP hS h (fun r hr => r_runV (As := [.int v1, .int v2]) (rest := []) hC kV_X12_212 cw_X12_isPlace (rc_X12 hC hP) hP (tM_isPlace x al lv σ v1 v2 r hr) rfl hl.1 ⟨Nat.le_of_ble_eq_true rfl, Nat.le_of_ble_eq_true rfl⟩ ⟨Nat.le_of_ble_eq_true rfl, Nat.le_of_ble_eq_true rfl⟩ (Nat.le_of_ble_eq_true rfl) dX12_clear_18) (fun y2 H locs h hP hS => ?_)
    refine lv_if_ne (tgt := 30) hx hb dX12_clear_21 (by decide) (fun hc => ?_) (fun hc => ?_)
    · replace h := (br h).2 hc
      refine lv_aload_n hx hb dX12_clear_30 rfl (lv_at hl 0 rfl) ?_
      refine lv_iload_n hx hb dX12_clear_31 rfl (lv_at hl 1 rfl) ?_
      refine lv_iload_n hx hb dX12_clear_32 rfl (lv_at hl 2 rfl) ?_
      refine r_cP hS h (fun r hr => r_runV (As := [.int v1, .int v2]) (rest := []) hC kV_X12_215 cw_X12_isLaid (rc_X12 hC hP) hP (tM_isLaid x al lv σ v1 v2 r hr) rfl hl.1 ⟨Nat.le_of_ble_eq_true rfl, Nat.le_of_ble_eq_true rfl⟩ ⟨Nat.le_of_ble_eq_true rfl, Nat.le_of_ble_eq_true rfl⟩ (Nat.le_of_ble_eq_true rfl) dX12_clear_33) (fun y3 H locs h hP hS => ?_)
      refine lv_if_ne (tgt := 46) hx hb dX12_clear_36 (by decide) (fun hc => ?_) (fun hc => ?_)
      · replace h := (br h).2 hc
        refine lv_aload_n hx hb dX12_clear_46 rfl (lv_at hl 0 rfl) ?_
        refine lv_iload_n hx hb dX12_clear_47 rfl (lv_at hl 1 rfl) ?_
        refine lv_iload_n hx hb dX12_clear_48 rfl (lv_at hl 2 rfl) ?_
        refine r_cP hS h (fun r hr => r_runV (As := [.int v1, .int v2]) (rest := []) hC kV_X12_173 cw_X12_at (rc_X12 hC hP) hP (tM_at x al lv σ v1 v2 r hr) rfl hl.1 ⟨Nat.le_of_ble_eq_true rfl, Nat.le_of_ble_eq_true rfl⟩ ⟨Nat.le_of_ble_eq_true rfl, Nat.le_of_ble_eq_true rfl⟩ (Nat.le_of_ble_eq_true rfl) dX12_clear_49) (fun y4 H locs h hP hS => ?_)
        refine lv_istore_n (lv' := [(3, .int y4), (0, .ref (al 7 0)), (1, .int v1), (2, .int v2)]) hx hb dX12_clear_52 rfl hl (by decide) rfl (fun ls hl => ?_)
        refine lv_iload_n hx hb dX12_clear_53 rfl (lv_at hl 0 rfl) ?_
        refine lv_iconst (v := 1) hx hb dX12_clear_54 (by decide) ?_
        refine lv_icmp_eq (tgt := 63) hx hb dX12_clear_55 (by decide) (fun hc => ?_) (fun hc => ?_)
        · replace h := (br h).1 hc
          exact wM_clear_63  hC  σ v1 v2 H locs ls h hP hS (lv_sub hl [1, 2, 3] rfl)
        · replace h := (br h).2 hc
          refine lv_iload_n hx hb dX12_clear_58 rfl (lv_at hl 0 rfl) ?_
          refine lv_iconst (v := 2) hx hb dX12_clear_59 (by decide) ?_
          refine lv_icmp_ne (tgt := 73) hx hb dX12_clear_60 (by decide) (fun hc => ?_) (fun hc => ?_)
          · replace h := (br h).2 hc
            exact wM_clear_73  hC  σ H locs ls h hP hS (lv_sub hl [1] rfl)
          · replace h := (br h).1 hc
            exact wM_clear_63  hC  σ v1 v2 H locs ls h hP hS (lv_sub hl [1, 2, 3] rfl)
      · replace h := (br h).1 hc
        refine lv_aload_n hx hb dX12_clear_39 rfl (lv_at hl 0 rfl) ?_
        refine lv_bipush (v := (-3)) hx hb dX12_clear_40 (by decide) ?_
        refine r_cI hS h (fun r hr => r_runV (As := [.int ((-3))]) (rest := []) hC kV_X12_151 cw_X12_ends (rc_X12 hC hP) hP (tM_ends x al lv σ ((-3)) r hr) rfl hl.1 ⟨Nat.le_of_ble_eq_true rfl, Nat.le_of_ble_eq_true rfl⟩ ⟨Nat.le_of_ble_eq_true rfl, Nat.le_of_ble_eq_true rfl⟩ (Nat.le_of_ble_eq_true rfl) dX12_clear_42) (fun y5 σ6 H locs h hP hS => ?_)
        exact r_retI hC hP hS rfl h dX12_clear_45
    · replace h := (br h).1 hc
      refine lv_aload_n hx hb dX12_clear_24 rfl (lv_at hl 0 rfl) ?_
      refine lv_iconst (v := (-1)) hx hb dX12_clear_25 (by decide) ?_
      refine r_cI hS h (fun r hr => r_runV (As := [.int ((-1))]) (rest := []) hC kV_X12_151 cw_X12_ends (rc_X12 hC hP) hP (tM_ends x al lv σ ((-1)) r hr) rfl hl.1 ⟨Nat.le_of_ble_eq_true rfl, Nat.le_of_ble_eq_true rfl⟩ ⟨Nat.le_of_ble_eq_true rfl, Nat.le_of_ble_eq_true rfl⟩ (Nat.le_of_ble_eq_true rfl) dX12_clear_26) (fun y7 σ8 H locs h hP hS => ?_)
      exact r_retI hC hP hS rfl h dX12_clear_29
  · replace h := (br h).1 hc
    refine lv_aload_n hx hb dX12_clear_8 rfl (lv_at hl 0 rfl) ?_
    refine lv_bipush (v := (-2)) hx hb dX12_clear_9 (by decide) ?_
    refine r_cI hS h (fun r hr => r_runV (As := [.int ((-2))]) (rest := []) hC kV_X12_151 cw_X12_ends (rc_X12 hC hP) hP (tM_ends x al lv σ ((-2)) r hr) rfl hl.1 ⟨Nat.le_of_ble_eq_true rfl, Nat.le_of_ble_eq_true rfl⟩ ⟨Nat.le_of_ble_eq_true rfl, Nat.le_of_ble_eq_true rfl⟩ (Nat.le_of_ble_eq_true rfl) dX12_clear_11) (fun y9 σ10 H locs h hP hS => ?_)
    exact r_retI hC hP hS rfl h dX12_clear_14

set_option maxRecDepth 20000 in
theorem tM_clear {l : Launch} (x : Wx) (al : Nat → Nat → Nat) (lv : Nat → Bool) (σ : Sg) (v1 : Int32) (v2 : Int32) (res : Int32 × Sg) (h : fM_clear σ v1 v2 = some res) : Met l yX12_clear (Cond.code yX12_clear cX12_clear 4 (some .int) :: lwg) (rmm 4 0 0) (va_Pc [.ref (al 7 0), .int v1, .int v2] (Wd x al lv σ)) (QI x al lv res) 0 0 (Ab x) := by
  refine met_W (by decide) (Nat.le_of_ble_eq_true rfl) rfl (fun p e s m args below meth c ls hC hP hS hl => ?_)
  exact wM_clear_0  hC σ v1 v2 _ _ ls h hP hS hl
set_option maxHeartbeats 4000000 in
set_option maxRecDepth 20000 in
theorem wM_place_0 {p : Program} {l : Launch} {e : Env} {s : State} {m : MethodId} {args : Array Value} {below : List Frame} {meth : Method} {c : Code} {x : Wx} {al : Nat → Nat → Nat} {lv : Nat → Bool} {res : Int32} {σ : Sg} (hC : Cx x p s m args meth c cX12_place 3 (some .int) RX12) (v1 : Int32) (v2 : Int32) (H : Heap) (locs : List Loc) (ls : Array Slot) (h : fM_place_0 σ v1 v2 = some res) (hP : Pic x al lv σ H) (hS : va_S (Ab x) s.heap H locs) (hl : lv_has ls 3 [(0, .ref (al 7 0)), (1, .int v1), (2, .int v2)]) : W p l e (rmm 3 0 0) s m args below meth c H locs 0 0 (MQ below (QP x al lv σ res) args s 0 0 (Ab x)) (F0 m 0 ls []) := by
  obtain ⟨hx, hb, hml, hown, hts⟩ := hC.1
  unfold fM_place_0 at h
  refine lv_aload_n hx hb dX12_place_0 rfl (lv_at hl 0 rfl) ?_
  refine lv_iload_n hx hb dX12_place_1 rfl (lv_at hl 1 rfl) ?_
  refine r_cP hS h (fun r hr => r_runV (As := [.int v1]) (rest := []) hC kV_X12_180 cw_X12_isRoom (rc_X12 hC hP) hP (tM_isRoom x al lv σ v1 r hr) rfl hl.1 ⟨Nat.le_of_ble_eq_true rfl, Nat.le_of_ble_eq_true rfl⟩ ⟨Nat.le_of_ble_eq_true rfl, Nat.le_of_ble_eq_true rfl⟩ (Nat.le_of_ble_eq_true rfl) dX12_place_2) (fun y1 H locs h hP hS => ?_)
  refine lv_if_ne (tgt := 11) hx hb dX12_place_5 (by decide) (fun hc => ?_) (fun hc => ?_)
  · replace h := (br h).2 hc
    refine lv_aload_n hx hb dX12_place_11 rfl (lv_at hl 0 rfl) ?_
    refine lv_iload_n hx hb dX12_place_12 rfl (lv_at hl 1 rfl) ?_
    refine lv_iload_n hx hb dX12_place_13 rfl (lv_at hl 2 rfl) ?_
    refine r_cP hS h (fun r hr => r_runV (As := [.int v1, .int v2]) (rest := []) hC kV_X12_212 cw_X12_isPlace (rc_X12 hC hP) hP (tM_isPlace x al lv σ v1 v2 r hr) rfl hl.1 ⟨Nat.le_of_ble_eq_true rfl, Nat.le_of_ble_eq_true rfl⟩ ⟨Nat.le_of_ble_eq_true rfl, Nat.le_of_ble_eq_true rfl⟩ (Nat.le_of_ble_eq_true rfl) dX12_place_14) (fun y2 H locs h hP hS => ?_)
    refine lv_if_ne (tgt := 22) hx hb dX12_place_17 (by decide) (fun hc => ?_) (fun hc => ?_)
    · replace h := (br h).2 hc
      refine lv_aload_n hx hb dX12_place_22 rfl (lv_at hl 0 rfl) ?_
      refine lv_iload_n hx hb dX12_place_23 rfl (lv_at hl 1 rfl) ?_
      refine lv_iload_n hx hb dX12_place_24 rfl (lv_at hl 2 rfl) ?_
      refine r_cP hS h (fun r hr => r_runV (As := [.int v1, .int v2]) (rest := []) hC kV_X12_215 cw_X12_isLaid (rc_X12 hC hP) hP (tM_isLaid x al lv σ v1 v2 r hr) rfl hl.1 ⟨Nat.le_of_ble_eq_true rfl, Nat.le_of_ble_eq_true rfl⟩ ⟨Nat.le_of_ble_eq_true rfl, Nat.le_of_ble_eq_true rfl⟩ (Nat.le_of_ble_eq_true rfl) dX12_place_25) (fun y3 H locs h hP hS => ?_)
      refine lv_if_eq (tgt := 40) hx hb dX12_place_28 (by decide) (fun hc => ?_) (fun hc => ?_)
      · replace h := (br h).1 hc
        refine lv_bipush (v := (-3)) hx hb dX12_place_40 (by decide) ?_
        exact r_retP hC hP hS rfl h dX12_place_42
      · replace h := (br h).2 hc
        refine lv_aload_n hx hb dX12_place_31 rfl (lv_at hl 0 rfl) ?_
        refine lv_iload_n hx hb dX12_place_32 rfl (lv_at hl 1 rfl) ?_
        refine lv_iload_n hx hb dX12_place_33 rfl (lv_at hl 2 rfl) ?_
        refine r_cP hS h (fun r hr => r_runV (As := [.int v1, .int v2]) (rest := []) hC kV_X12_173 cw_X12_at (rc_X12 hC hP) hP (tM_at x al lv σ v1 v2 r hr) rfl hl.1 ⟨Nat.le_of_ble_eq_true rfl, Nat.le_of_ble_eq_true rfl⟩ ⟨Nat.le_of_ble_eq_true rfl, Nat.le_of_ble_eq_true rfl⟩ (Nat.le_of_ble_eq_true rfl) dX12_place_34) (fun y4 H locs h hP hS => ?_)
        refine lv_goto (tgt := 42) hx hb dX12_place_37 (by decide) ?_
        exact r_retP hC hP hS rfl h dX12_place_42
    · replace h := (br h).1 hc
      refine lv_iconst (v := (-1)) hx hb dX12_place_20 (by decide) ?_
      exact r_retP hC hP hS rfl h dX12_place_21
  · replace h := (br h).1 hc
    refine lv_bipush (v := (-2)) hx hb dX12_place_8 (by decide) ?_
    exact r_retP hC hP hS rfl h dX12_place_10

set_option maxRecDepth 20000 in
theorem tM_place {l : Launch} (x : Wx) (al : Nat → Nat → Nat) (lv : Nat → Bool) (σ : Sg) (v1 : Int32) (v2 : Int32) (res : Int32) (h : fM_place σ v1 v2 = some res) : Met l yX12_place (Cond.code yX12_place cX12_place 3 (some .int) :: lwg) (rmm 3 0 0) (va_Pc [.ref (al 7 0), .int v1, .int v2] (Wd x al lv σ)) (QP x al lv σ res) 0 0 (Ab x) := by
  refine met_W (by decide) (Nat.le_of_ble_eq_true rfl) rfl (fun p e s m args below meth c ls hC hP hS hl => ?_)
  exact wM_place_0  hC v1 v2 _ _ ls h hP hS hl
set_option maxHeartbeats 4000000 in
set_option maxRecDepth 20000 in
theorem wM_block_45 {p : Program} {l : Launch} {e : Env} {s : State} {m : MethodId} {args : Array Value} {below : List Frame} {meth : Method} {c : Code} {x : Wx} {al : Nat → Nat → Nat} {lv : Nat → Bool} {res : Int32} {σ : Sg} (hC : Cx x p s m args meth c cX12_block 4 (some .int) RX12) (x1 : Int32) (x2 : Int32) (t0 : Int32) (H : Heap) (locs : List Loc) (ls : Array Slot) (h : fM_block_45 σ x1 x2 t0 = some res) (hP : Pic x al lv σ H) (hS : va_S (Ab x) s.heap H locs) (hl : lv_has ls 4 [(0, .ref (al 7 0)), (1, .int x1), (2, .int x2)]) : W p l e (rmm 6 0 0) s m args below meth c H locs 0 0 (MQ below (QP x al lv σ res) args s 0 0 (Ab x)) (F0 m 45 ls [.int t0]) := by
  obtain ⟨hx, hb, hml, hown, hts⟩ := hC.1
  unfold fM_block_45 at h
  refine lv_istore_n (lv' := [(3, .int t0), (0, .ref (al 7 0)), (1, .int x1), (2, .int x2)]) hx hb dX12_block_45 rfl hl (by decide) rfl (fun ls hl => ?_)
  refine lv_iload_n hx hb dX12_block_46 rfl (lv_at hl 3 rfl) ?_
  refine Classical.byCases (p := x2 = 0) (fun hc => ?_) (fun n0 => ?_)
  · skip
    replace h := (br h).1 hc
    rw [hc]
    refine lv_tableIn (off := 49) (tgt := 96) hx hb dX12_block_47 (by decide) (by decide) rfl (by decide) ?_
    refine lv_aload_n hx hb dX12_block_96 rfl (lv_at hl 1 rfl) ?_
    refine gt_X12_19 hC hP wf_X12_67 dX12_block_97 ?_
    refine lv_iload_n hx hb dX12_block_100 rfl (lv_at hl 2 rfl) ?_
    refine r_iald hC hP (aM_19 hP.l7) h dX12_block_101 (fun h => ?_)
    exact r_retP hC hP hS rfl h dX12_block_102
  · skip
    replace h := (br h).2 n0
    refine Classical.byCases (p := x2 = 1) (fun hc => ?_) (fun n1 => ?_)
    · skip
      replace h := (br h).1 hc
      rw [hc]
      refine lv_tableIn (off := 56) (tgt := 103) hx hb dX12_block_47 (by decide) (by decide) rfl (by decide) ?_
      refine lv_aload_n hx hb dX12_block_103 rfl (lv_at hl 1 rfl) ?_
      refine gt_X12_20 hC hP wf_X12_70 dX12_block_104 ?_
      refine lv_iload_n hx hb dX12_block_107 rfl (lv_at hl 2 rfl) ?_
      refine r_iald hC hP (aM_20 hP.l7) h dX12_block_108 (fun h => ?_)
      exact r_retP hC hP hS rfl h dX12_block_109
    · skip
      replace h := (br h).2 n1
      refine Classical.byCases (p := x2 = 2) (fun hc => ?_) (fun n2 => ?_)
      · skip
        replace h := (br h).1 hc
        rw [hc]
        refine lv_tableIn (off := 63) (tgt := 110) hx hb dX12_block_47 (by decide) (by decide) rfl (by decide) ?_
        refine lv_aload_n hx hb dX12_block_110 rfl (lv_at hl 1 rfl) ?_
        refine gt_X12_21 hC hP wf_X12_73 dX12_block_111 ?_
        refine lv_iload_n hx hb dX12_block_114 rfl (lv_at hl 2 rfl) ?_
        refine r_iald hC hP (aM_21 hP.l7) h dX12_block_115 (fun h => ?_)
        exact r_retP hC hP hS rfl h dX12_block_116
      · skip
        replace h := (br h).2 n2
        refine Classical.byCases (p := x2 = 3) (fun hc => ?_) (fun n3 => ?_)
        · skip
          replace h := (br h).1 hc
          rw [hc]
          refine lv_tableIn (off := 70) (tgt := 117) hx hb dX12_block_47 (by decide) (by decide) rfl (by decide) ?_
          refine lv_aload_n hx hb dX12_block_117 rfl (lv_at hl 1 rfl) ?_
          refine gt_X12_22 hC hP wf_X12_76 dX12_block_118 ?_
          refine lv_iload_n hx hb dX12_block_121 rfl (lv_at hl 2 rfl) ?_
          refine r_iald hC hP (aM_22 hP.l7) h dX12_block_122 (fun h => ?_)
          exact r_retP hC hP hS rfl h dX12_block_123
        · skip
          replace h := (br h).2 n3
          refine Classical.byCases (p := x2 = 4) (fun hc => ?_) (fun n4 => ?_)
          · skip
            replace h := (br h).1 hc
            rw [hc]
            refine lv_tableIn (off := 77) (tgt := 124) hx hb dX12_block_47 (by decide) (by decide) rfl (by decide) ?_
            refine lv_aload_n hx hb dX12_block_124 rfl (lv_at hl 1 rfl) ?_
            refine gt_X12_23 hC hP wf_X12_79 dX12_block_125 ?_
            refine lv_iload_n hx hb dX12_block_128 rfl (lv_at hl 2 rfl) ?_
            refine r_iald hC hP (aM_23 hP.l7) h dX12_block_129 (fun h => ?_)
            exact r_retP hC hP hS rfl h dX12_block_130
          · skip
            replace h := (br h).2 n4
            refine Classical.byCases (p := x2 = 5) (fun hc => ?_) (fun n5 => ?_)
            · skip
              replace h := (br h).1 hc
              rw [hc]
              refine lv_tableIn (off := 84) (tgt := 131) hx hb dX12_block_47 (by decide) (by decide) rfl (by decide) ?_
              refine lv_aload_n hx hb dX12_block_131 rfl (lv_at hl 1 rfl) ?_
              refine gt_X12_24 hC hP wf_X12_82 dX12_block_132 ?_
              refine lv_iload_n hx hb dX12_block_135 rfl (lv_at hl 2 rfl) ?_
              refine r_iald hC hP (aM_24 hP.l7) h dX12_block_136 (fun h => ?_)
              exact r_retP hC hP hS rfl h dX12_block_137
            · skip
              replace h := (br h).2 n5
              refine Classical.byCases (p := x2 = 6) (fun hc => ?_) (fun n6 => ?_)
              · skip
                replace h := (br h).1 hc
                rw [hc]
                refine lv_tableIn (off := 91) (tgt := 138) hx hb dX12_block_47 (by decide) (by decide) rfl (by decide) ?_
                refine lv_iload_n hx hb dX12_block_138 rfl (lv_at hl 0 rfl) ?_
                refine lv_if_eq (tgt := 162) hx hb dX12_block_139 (by decide) (fun hc => ?_) (fun hc => ?_)
                · replace h := (br h).1 hc
                  refine lv_iconst (v := 0) hx hb dX12_block_162 (by decide) ?_
                  exact r_retP hC hP hS rfl h dX12_block_163
                · replace h := (br h).2 hc
                  refine lv_aload_n hx hb dX12_block_142 rfl (lv_at hl 1 rfl) ?_
                  refine lv_aload_n hx hb dX12_block_143 rfl (lv_at hl 1 rfl) ?_
                  refine gt_X12_21 hC hP wf_X12_73 dX12_block_144 ?_
                  refine lv_iload_n hx hb dX12_block_147 rfl (lv_at hl 2 rfl) ?_
                  refine r_iald hC hP (aM_21 hP.l7) h dX12_block_148 (fun h => ?_)
                  refine lv_aload_n hx hb dX12_block_149 rfl (lv_at hl 1 rfl) ?_
                  refine gt_X12_22 hC hP wf_X12_76 dX12_block_150 ?_
                  refine lv_iload_n hx hb dX12_block_153 rfl (lv_at hl 2 rfl) ?_
                  refine r_iald hC hP (aM_22 hP.l7) h dX12_block_154 (fun h => ?_)
                  refine lv_iconst (v := 0) hx hb dX12_block_155 (by decide) ?_
                  refine r_cP hS h (fun r hr => r_runV (As := [.int (σ 7 21 x1.toNatClampNeg), .int (σ 7 22 x1.toNatClampNeg), .int 0]) (rest := []) hC kV_X12_196 cw_X12_sides (rc_X12 hC hP) hP (tM_sides x al lv σ (σ 7 21 x1.toNatClampNeg) (σ 7 22 x1.toNatClampNeg) 0 r hr) rfl hl.1 ⟨Nat.le_of_ble_eq_true rfl, Nat.le_of_ble_eq_true rfl⟩ ⟨Nat.le_of_ble_eq_true rfl, Nat.le_of_ble_eq_true rfl⟩ (Nat.le_of_ble_eq_true rfl) dX12_block_156) (fun y3 H locs h hP hS => ?_)
                  refine lv_goto (tgt := 163) hx hb dX12_block_159 (by decide) ?_
                  exact r_retP hC hP hS rfl h dX12_block_163
              · skip
                replace h := (br h).2 n6
                refine Classical.byCases (p := x2 = 7) (fun hc => ?_) (fun n7 => ?_)
                · skip
                  replace h := (br h).1 hc
                  rw [hc]
                  refine lv_tableIn (off := 117) (tgt := 164) hx hb dX12_block_47 (by decide) (by decide) rfl (by decide) ?_
                  refine lv_iload_n hx hb dX12_block_164 rfl (lv_at hl 0 rfl) ?_
                  refine lv_if_eq (tgt := 188) hx hb dX12_block_165 (by decide) (fun hc => ?_) (fun hc => ?_)
                  · replace h := (br h).1 hc
                    refine lv_iconst (v := 0) hx hb dX12_block_188 (by decide) ?_
                    exact r_retP hC hP hS rfl h dX12_block_189
                  · replace h := (br h).2 hc
                    refine lv_aload_n hx hb dX12_block_168 rfl (lv_at hl 1 rfl) ?_
                    refine lv_aload_n hx hb dX12_block_169 rfl (lv_at hl 1 rfl) ?_
                    refine gt_X12_21 hC hP wf_X12_73 dX12_block_170 ?_
                    refine lv_iload_n hx hb dX12_block_173 rfl (lv_at hl 2 rfl) ?_
                    refine r_iald hC hP (aM_21 hP.l7) h dX12_block_174 (fun h => ?_)
                    refine lv_aload_n hx hb dX12_block_175 rfl (lv_at hl 1 rfl) ?_
                    refine gt_X12_22 hC hP wf_X12_76 dX12_block_176 ?_
                    refine lv_iload_n hx hb dX12_block_179 rfl (lv_at hl 2 rfl) ?_
                    refine r_iald hC hP (aM_22 hP.l7) h dX12_block_180 (fun h => ?_)
                    refine lv_iconst (v := 1) hx hb dX12_block_181 (by decide) ?_
                    refine r_cP hS h (fun r hr => r_runV (As := [.int (σ 7 21 x1.toNatClampNeg), .int (σ 7 22 x1.toNatClampNeg), .int 1]) (rest := []) hC kV_X12_196 cw_X12_sides (rc_X12 hC hP) hP (tM_sides x al lv σ (σ 7 21 x1.toNatClampNeg) (σ 7 22 x1.toNatClampNeg) 1 r hr) rfl hl.1 ⟨Nat.le_of_ble_eq_true rfl, Nat.le_of_ble_eq_true rfl⟩ ⟨Nat.le_of_ble_eq_true rfl, Nat.le_of_ble_eq_true rfl⟩ (Nat.le_of_ble_eq_true rfl) dX12_block_182) (fun y4 H locs h hP hS => ?_)
                    refine lv_goto (tgt := 189) hx hb dX12_block_185 (by decide) ?_
                    exact r_retP hC hP hS rfl h dX12_block_189
                · skip
                  replace h := (br h).2 n7
                  refine Classical.byCases (p := x2 = 8) (fun hc => ?_) (fun n8 => ?_)
                  · skip
                    replace h := (br h).1 hc
                    rw [hc]
                    refine lv_tableIn (off := 143) (tgt := 190) hx hb dX12_block_47 (by decide) (by decide) rfl (by decide) ?_
                    refine lv_iload_n hx hb dX12_block_190 rfl (lv_at hl 0 rfl) ?_
                    refine lv_if_eq (tgt := 208) hx hb dX12_block_191 (by decide) (fun hc => ?_) (fun hc => ?_)
                    · replace h := (br h).1 hc
                      refine lv_iconst (v := 0) hx hb dX12_block_208 (by decide) ?_
                      exact r_retP hC hP hS rfl h dX12_block_209
                    · replace h := (br h).2 hc
                      refine lv_aload_n hx hb dX12_block_194 rfl (lv_at hl 1 rfl) ?_
                      refine lv_iload_n hx hb dX12_block_195 rfl (lv_at hl 2 rfl) ?_
                      refine lv_aload_n hx hb dX12_block_196 rfl (lv_at hl 1 rfl) ?_
                      refine gt_X12_6 hC hP wf_X12_27 dX12_block_197 ?_
                      refine lv_iconst (v := 0) hx hb dX12_block_200 (by decide) ?_
                      refine r_iald hC hP (aM_6 hP.l7) h dX12_block_201 (fun h => ?_)
                      refine r_cP hS h (fun r hr => r_runV (As := [.int x1, .int (σ 7 6 (0 : Int32).toNatClampNeg)]) (rest := []) hC kV_X12_225 cw_X12_loss (rc_X12 hC hP) hP (tM_loss x al lv σ x1 (σ 7 6 (0 : Int32).toNatClampNeg) r hr) rfl hl.1 ⟨Nat.le_of_ble_eq_true rfl, Nat.le_of_ble_eq_true rfl⟩ ⟨Nat.le_of_ble_eq_true rfl, Nat.le_of_ble_eq_true rfl⟩ (Nat.le_of_ble_eq_true rfl) dX12_block_202) (fun y5 H locs h hP hS => ?_)
                      refine lv_goto (tgt := 209) hx hb dX12_block_205 (by decide) ?_
                      exact r_retP hC hP hS rfl h dX12_block_209
                  · skip
                    replace h := (br h).2 n8
                    have m0 := lv_neT (a := 0) n0 rfl
                    have m1 := lv_neT (a := 1) n1 rfl
                    have m2 := lv_neT (a := 2) n2 rfl
                    have m3 := lv_neT (a := 3) n3 rfl
                    have m4 := lv_neT (a := 4) n4 rfl
                    have m5 := lv_neT (a := 5) n5 rfl
                    have m6 := lv_neT (a := 6) n6 rfl
                    have m7 := lv_neT (a := 7) n7 rfl
                    have m8 := lv_neT (a := 8) n8 rfl
                    refine lv_tableOut (tgt := 210) hx hb dX12_block_47 (by omega) (by decide) ?_
                    refine lv_iload_n hx hb dX12_block_210 rfl (lv_at hl 0 rfl) ?_
                    refine lv_if_eq (tgt := 226) hx hb dX12_block_211 (by decide) (fun hc => ?_) (fun hc => ?_)
                    · replace h := (br h).1 hc
                      refine lv_iconst (v := 0) hx hb dX12_block_226 (by decide) ?_
                      exact r_retP hC hP hS rfl h dX12_block_227
                    · replace h := (br h).2 hc
                      refine lv_aload_n hx hb dX12_block_214 rfl (lv_at hl 1 rfl) ?_
                      refine lv_iload_n hx hb dX12_block_215 rfl (lv_at hl 2 rfl) ?_
                      refine r_cP hS h (fun r hr => r_runV (As := [.int x1]) (rest := []) hC kV_X12_206 cw_X12_isFree (rc_X12 hC hP) hP (tM_isFree x al lv σ x1 r hr) rfl hl.1 ⟨Nat.le_of_ble_eq_true rfl, Nat.le_of_ble_eq_true rfl⟩ ⟨Nat.le_of_ble_eq_true rfl, Nat.le_of_ble_eq_true rfl⟩ (Nat.le_of_ble_eq_true rfl) dX12_block_216) (fun y6 H locs h hP hS => ?_)
                      refine lv_if_eq (tgt := 226) hx hb dX12_block_219 (by decide) (fun hc => ?_) (fun hc => ?_)
                      · replace h := (br h).1 hc
                        refine lv_iconst (v := 0) hx hb dX12_block_226 (by decide) ?_
                        exact r_retP hC hP hS rfl h dX12_block_227
                      · replace h := (br h).2 hc
                        refine lv_iconst (v := 1) hx hb dX12_block_222 (by decide) ?_
                        refine lv_goto (tgt := 227) hx hb dX12_block_223 (by decide) ?_
                        exact r_retP hC hP hS rfl h dX12_block_227

set_option maxHeartbeats 4000000 in
set_option maxRecDepth 20000 in
theorem wM_block_0 {p : Program} {l : Launch} {e : Env} {s : State} {m : MethodId} {args : Array Value} {below : List Frame} {meth : Method} {c : Code} {x : Wx} {al : Nat → Nat → Nat} {lv : Nat → Bool} {res : Int32} {σ : Sg} (hC : Cx x p s m args meth c cX12_block 4 (some .int) RX12) (v1 : Int32) (v2 : Int32) (H : Heap) (locs : List Loc) (ls : Array Slot) (h : fM_block_0 σ v1 v2 = some res) (hP : Pic x al lv σ H) (hS : va_S (Ab x) s.heap H locs) (hl : lv_has ls 4 [(0, .ref (al 7 0)), (1, .int v1), (2, .int v2)]) : W p l e (rmm 6 0 0) s m args below meth c H locs 0 0 (MQ below (QP x al lv σ res) args s 0 0 (Ab x)) (F0 m 0 ls []) := by
  obtain ⟨hx, hb, hml, hown, hts⟩ := hC.1
  unfold fM_block_0 at h
  refine lv_iload_n hx hb dX12_block_0 rfl (lv_at hl 2 rfl) ?_
  refine lv_iconst (v := 0) hx hb dX12_block_1 (by decide) ?_
  refine lv_bipush (v := 9) hx hb dX12_block_2 (by decide) ?_
  refine r_cP hS h (fun r hr => r_runS (As := [.int v2, .int 0, .int 9]) (rest := []) hC kS_X12_145 cw_X12_in hP (tM_in x al lv σ v2 0 9 r hr) rfl hl.1 ⟨Nat.le_of_ble_eq_true rfl, Nat.le_of_ble_eq_true rfl⟩ ⟨Nat.le_of_ble_eq_true rfl, Nat.le_of_ble_eq_true rfl⟩ (Nat.le_of_ble_eq_true rfl) dX12_block_4) (fun y1 H locs h hP hS => ?_)
  refine lv_if_ne (tgt := 12) hx hb dX12_block_7 (by decide) (fun hc => ?_) (fun hc => ?_)
  · replace h := (br h).2 hc
    refine lv_iload_n hx hb dX12_block_12 rfl (lv_at hl 1 rfl) ?_
    refine lv_iconst (v := 0) hx hb dX12_block_13 (by decide) ?_
    refine lv_aload_n hx hb dX12_block_14 rfl (lv_at hl 0 rfl) ?_
    refine gt_X12_8 hC hP wf_X12_34 dX12_block_15 ?_
    refine lv_iconst (v := 0) hx hb dX12_block_18 (by decide) ?_
    refine r_iald hC hP (aM_8 hP.l7) h dX12_block_19 (fun h => ?_)
    refine lv_iconst (v := 1) hx hb dX12_block_20 (by decide) ?_
    refine lv_isub hx hb dX12_block_21 ?_
    refine r_cP hS h (fun r hr => r_runS (As := [.int v1, .int 0, .int ((σ 7 8 (0 : Int32).toNatClampNeg) - 1)]) (rest := []) hC kS_X12_145 cw_X12_in hP (tM_in x al lv σ v1 0 ((σ 7 8 (0 : Int32).toNatClampNeg) - 1) r hr) rfl hl.1 ⟨Nat.le_of_ble_eq_true rfl, Nat.le_of_ble_eq_true rfl⟩ ⟨Nat.le_of_ble_eq_true rfl, Nat.le_of_ble_eq_true rfl⟩ (Nat.le_of_ble_eq_true rfl) dX12_block_22) (fun y2 H locs h hP hS => ?_)
    refine lv_if_ne (tgt := 31) hx hb dX12_block_25 (by decide) (fun hc => ?_) (fun hc => ?_)
    · replace h := (br h).2 hc
      refine lv_aload_n hx hb dX12_block_31 rfl (lv_at hl 0 rfl) ?_
      refine gt_X12_21 hC hP wf_X12_73 dX12_block_32 ?_
      refine lv_iload_n hx hb dX12_block_35 rfl (lv_at hl 1 rfl) ?_
      refine r_iald hC hP (aM_21 hP.l7) h dX12_block_36 (fun h => ?_)
      refine lv_if_lt (tgt := 44) hx hb dX12_block_37 (by decide) (fun hc => ?_) (fun hc => ?_)
      · replace h := (br h).1 hc
        refine lv_iconst (v := 0) hx hb dX12_block_44 (by decide) ?_
        exact wM_block_45  hC  v1 v2 0 H locs ls h hP hS (lv_sub hl [0, 1, 2] rfl)
      · replace h := (br h).2 hc
        refine lv_iconst (v := 1) hx hb dX12_block_40 (by decide) ?_
        refine lv_goto (tgt := 45) hx hb dX12_block_41 (by decide) ?_
        exact wM_block_45  hC  v1 v2 1 H locs ls h hP hS (lv_sub hl [0, 1, 2] rfl)
    · replace h := (br h).1 hc
      refine lv_bipush (v := (-2)) hx hb dX12_block_28 (by decide) ?_
      exact r_retP hC hP hS rfl h dX12_block_30
  · replace h := (br h).1 hc
    refine lv_iconst (v := (-1)) hx hb dX12_block_10 (by decide) ?_
    exact r_retP hC hP hS rfl h dX12_block_11

set_option maxRecDepth 20000 in
theorem tM_block {l : Launch} (x : Wx) (al : Nat → Nat → Nat) (lv : Nat → Bool) (σ : Sg) (v1 : Int32) (v2 : Int32) (res : Int32) (h : fM_block σ v1 v2 = some res) : Met l yX12_block (Cond.code yX12_block cX12_block 4 (some .int) :: lwg) (rmm 6 0 0) (va_Pc [.ref (al 7 0), .int v1, .int v2] (Wd x al lv σ)) (QP x al lv σ res) 0 0 (Ab x) := by
  refine met_W (by decide) (Nat.le_of_ble_eq_true rfl) rfl (fun p e s m args below meth c ls hC hP hS hl => ?_)
  exact wM_block_0  hC v1 v2 _ _ ls h hP hS hl
set_option maxHeartbeats 4000000 in
set_option maxRecDepth 20000 in
theorem wM_isDrained_52 {p : Program} {l : Launch} {e : Env} {s : State} {m : MethodId} {args : Array Value} {below : List Frame} {meth : Method} {c : Code} {x : Wx} {al : Nat → Nat → Nat} {lv : Nat → Bool} {res : Int32} {σ : Sg} (hC : Cx x p s m args meth c cX12_isDrained 5 (some .boolean) RX12) (k27 : Int32 → Int32 → Int32 → Option (Int32)) (hk27 : ∀ (x2 : Int32) (x3 : Int32) (x4 : Int32) (H : Heap) (locs : List Loc) (ls : Array Slot), k27 x2 x3 x4 = some res → Pic x al lv σ H → va_S (Ab x) s.heap H locs → lv_has ls 5 [(0, .ref (al 7 0)), (2, .int x2), (3, .int x3), (4, .int x4)] → W p l e (rmm 3 0 0) s m args below meth c H locs 0 0 (MQ below (QP x al lv σ res) args s 0 0 (Ab x)) (F0 m 27 ls [])) (x2 : Int32) (x4 : Int32) (t0 : Int32) (H : Heap) (locs : List Loc) (ls : Array Slot) (h : fM_isDrained_52 k27 σ x2 x4 t0 = some res) (hP : Pic x al lv σ H) (hS : va_S (Ab x) s.heap H locs) (hl : lv_has ls 5 [(0, .ref (al 7 0)), (2, .int x2), (4, .int x4)]) : W p l e (rmm 3 0 0) s m args below meth c H locs 0 0 (MQ below (QP x al lv σ res) args s 0 0 (Ab x)) (F0 m 52 ls [.int t0]) := by
  obtain ⟨hx, hb, hml, hown, hts⟩ := hC.1
  unfold fM_isDrained_52 at h
  refine lv_istore_n (lv' := [(3, .int t0), (0, .ref (al 7 0)), (2, .int x2), (4, .int x4)]) hx hb dX12_isDrained_52 rfl hl (by decide) rfl (fun ls hl => ?_)
  refine lv_iload hx hb dX12_isDrained_53 (lv_at hl 3 rfl) ?_
  refine lv_aload_n hx hb dX12_isDrained_55 rfl (lv_at hl 1 rfl) ?_
  refine lv_iload_n hx hb dX12_isDrained_56 rfl (lv_at hl 2 rfl) ?_
  refine r_cP hS h (fun r hr => r_runV (As := [.int x2]) (rest := [.int x4]) hC kV_X12_167 cw_X12_floor (rc_X12 hC hP) hP (tM_floor x al lv σ x2 r hr) rfl hl.1 ⟨Nat.le_of_ble_eq_true rfl, Nat.le_of_ble_eq_true rfl⟩ ⟨Nat.le_of_ble_eq_true rfl, Nat.le_of_ble_eq_true rfl⟩ (Nat.le_of_ble_eq_true rfl) dX12_isDrained_57) (fun y7 H locs h hP hS => ?_)
  refine lv_isub hx hb dX12_isDrained_60 ?_
  refine r_lt h (fun y8 h => ?_)
  refine lv_istore (lv' := [(4, .int y8), (3, .int t0), (0, .ref (al 7 0)), (2, .int x2)]) hx hb dX12_isDrained_61 hl (by decide) rfl (fun ls hl => ?_)
  refine lv_goto (tgt := 27) hx hb dX12_isDrained_63 (by decide) ?_
  exact hk27 x2 t0 y8 H locs ls h hP hS (lv_sub hl [2, 3, 1, 0] rfl)

set_option maxHeartbeats 4000000 in
set_option maxRecDepth 20000 in
theorem wM_isDrained_47 {p : Program} {l : Launch} {e : Env} {s : State} {m : MethodId} {args : Array Value} {below : List Frame} {meth : Method} {c : Code} {x : Wx} {al : Nat → Nat → Nat} {lv : Nat → Bool} {res : Int32} {σ : Sg} (hC : Cx x p s m args meth c cX12_isDrained 5 (some .boolean) RX12) (k27 : Int32 → Int32 → Int32 → Option (Int32)) (hk27 : ∀ (x2 : Int32) (x3 : Int32) (x4 : Int32) (H : Heap) (locs : List Loc) (ls : Array Slot), k27 x2 x3 x4 = some res → Pic x al lv σ H → va_S (Ab x) s.heap H locs → lv_has ls 5 [(0, .ref (al 7 0)), (2, .int x2), (3, .int x3), (4, .int x4)] → W p l e (rmm 3 0 0) s m args below meth c H locs 0 0 (MQ below (QP x al lv σ res) args s 0 0 (Ab x)) (F0 m 27 ls [])) (x2 : Int32) (x4 : Int32) (H : Heap) (locs : List Loc) (ls : Array Slot) (h : fM_isDrained_47 k27 σ x2 x4 = some res) (hP : Pic x al lv σ H) (hS : va_S (Ab x) s.heap H locs) (hl : lv_has ls 5 [(0, .ref (al 7 0)), (2, .int x2), (4, .int x4)]) : W p l e (rmm 3 0 0) s m args below meth c H locs 0 0 (MQ below (QP x al lv σ res) args s 0 0 (Ab x)) (F0 m 47 ls []) := by
  obtain ⟨hx, hb, hml, hown, hts⟩ := hC.1
  unfold fM_isDrained_47 at h
  refine lv_iconst (v := 1) hx hb dX12_isDrained_47 (by decide) ?_
  refine lv_goto (tgt := 52) hx hb dX12_isDrained_48 (by decide) ?_
  exact wM_isDrained_52  hC k27 hk27 x2 x4 1 H locs ls h hP hS (lv_sub hl [0, 1, 2] rfl)

set_option maxHeartbeats 4000000 in
set_option maxRecDepth 20000 in
theorem wM_isDrained_27_b {p : Program} {l : Launch} {e : Env} {s : State} {m : MethodId} {args : Array Value} {below : List Frame} {meth : Method} {c : Code} {x : Wx} {al : Nat → Nat → Nat} {lv : Nat → Bool} {res : Int32} {σ : Sg} (hC : Cx x p s m args meth c cX12_isDrained 5 (some .boolean) RX12) (k27 : Int32 → Int32 → Int32 → Option (Int32)) (hk27 : ∀ (x2 : Int32) (x3 : Int32) (x4 : Int32) (H : Heap) (locs : List Loc) (ls : Array Slot), k27 x2 x3 x4 = some res → Pic x al lv σ H → va_S (Ab x) s.heap H locs → lv_has ls 5 [(0, .ref (al 7 0)), (2, .int x2), (3, .int x3), (4, .int x4)] → W p l e (rmm 3 0 0) s m args below meth c H locs 0 0 (MQ below (QP x al lv σ res) args s 0 0 (Ab x)) (F0 m 27 ls [])) (x2 : Int32) (x3 : Int32) (x4 : Int32) (H : Heap) (locs : List Loc) (ls : Array Slot) (h : fM_isDrained_27_b k27 σ x2 x3 x4 = some res) (hP : Pic x al lv σ H) (hS : va_S (Ab x) s.heap H locs) (hl : lv_has ls 5 [(0, .ref (al 7 0)), (2, .int x2), (3, .int x3), (4, .int x4)]) : W p l e (rmm 3 0 0) s m args below meth c H locs 0 0 (MQ below (QP x al lv σ res) args s 0 0 (Ab x)) (F0 m 27 ls []) := by
  obtain ⟨hx, hb, hml, hown, hts⟩ := hC.1
  unfold fM_isDrained_27_b at h
  refine lv_iload hx hb dX12_isDrained_27 (lv_at hl 3 rfl) ?_
  refine lv_if_lt (tgt := 66) hx hb dX12_isDrained_29 (by decide) (fun hc => ?_) (fun hc => ?_)
  · replace h := (br h).1 hc
    refine lv_iload_n hx hb dX12_isDrained_66 rfl (lv_at hl 2 rfl) ?_
    obtain ⟨hz5, h⟩ := gd_e h
    exact r_retP hC hP hS (isb_n hz5) h dX12_isDrained_67
  · replace h := (br h).2 hc
    refine lv_iload_n hx hb dX12_isDrained_32 rfl (lv_at hl 2 rfl) ?_
    refine lv_if_ne (tgt := 47) hx hb dX12_isDrained_33 (by decide) (fun hc => ?_) (fun hc => ?_)
    · replace h := (br h).2 hc
      exact wM_isDrained_47  hC k27 hk27 x2 x4 H locs ls h hP hS (lv_sub hl [0, 1, 3] rfl)
    · replace h := (br h).1 hc
      refine lv_aload_n hx hb dX12_isDrained_36 rfl (lv_at hl 0 rfl) ?_
      refine lv_iload_n hx hb dX12_isDrained_37 rfl (lv_at hl 1 rfl) ?_
      refine lv_iload hx hb dX12_isDrained_38 (lv_at hl 3 rfl) ?_
      refine r_cP hS h (fun r hr => r_runV (As := [.int x2, .int x4]) (rest := []) hC kV_X12_173 cw_X12_at (rc_X12 hC hP) hP (tM_at x al lv σ x2 x4 r hr) rfl hl.1 ⟨Nat.le_of_ble_eq_true rfl, Nat.le_of_ble_eq_true rfl⟩ ⟨Nat.le_of_ble_eq_true rfl, Nat.le_of_ble_eq_true rfl⟩ (Nat.le_of_ble_eq_true rfl) dX12_isDrained_40) (fun y6 H locs h hP hS => ?_)
      refine lv_iconst (v := 2) hx hb dX12_isDrained_43 (by decide) ?_
      refine lv_icmp_ne (tgt := 51) hx hb dX12_isDrained_44 (by decide) (fun hc => ?_) (fun hc => ?_)
      · replace h := (br h).2 hc
        refine lv_iconst (v := 0) hx hb dX12_isDrained_51 (by decide) ?_
        exact wM_isDrained_52  hC k27 hk27 x2 x4 0 H locs ls h hP hS (lv_sub hl [0, 1, 3] rfl)
      · replace h := (br h).1 hc
        exact wM_isDrained_47  hC k27 hk27 x2 x4 H locs ls h hP hS (lv_sub hl [0, 1, 3] rfl)

set_option maxHeartbeats 4000000 in
set_option maxRecDepth 20000 in
theorem wM_isDrained_27 {p : Program} {l : Launch} {e : Env} {s : State} {m : MethodId} {args : Array Value} {below : List Frame} {meth : Method} {c : Code} {x : Wx} {al : Nat → Nat → Nat} {lv : Nat → Bool} {res : Int32} {σ : Sg} (hC : Cx x p s m args meth c cX12_isDrained 5 (some .boolean) RX12) (n : Nat) (x2 : Int32) (x3 : Int32) (x4 : Int32) (H : Heap) (locs : List Loc) (ls : Array Slot) (h : fM_isDrained_27 n σ x2 x3 x4 = some res) (hP : Pic x al lv σ H) (hS : va_S (Ab x) s.heap H locs) (hl : lv_has ls 5 [(0, .ref (al 7 0)), (2, .int x2), (3, .int x3), (4, .int x4)]) : W p l e (rmm 3 0 0) s m args below meth c H locs 0 0 (MQ below (QP x al lv σ res) args s 0 0 (Ab x)) (F0 m 27 ls []) := by
  induction n generalizing x2 x3 x4 H locs ls with
  | zero => exact nomatch h
  | succ n ih => exact wM_isDrained_27_b  hC  _ (fun x2 x3 x4 H locs ls h hP hS hl => ih x2 x3 x4 H locs ls h hP hS hl) x2 x3 x4 H locs ls h hP hS hl
set_option maxHeartbeats 4000000 in
set_option maxRecDepth 20000 in
theorem wM_isDrained_0 {p : Program} {l : Launch} {e : Env} {s : State} {m : MethodId} {args : Array Value} {below : List Frame} {meth : Method} {c : Code} {x : Wx} {al : Nat → Nat → Nat} {lv : Nat → Bool} {res : Int32} {σ : Sg} (hC : Cx x p s m args meth c cX12_isDrained 5 (some .boolean) RX12) (v1 : Int32) (H : Heap) (locs : List Loc) (ls : Array Slot) (h : fM_isDrained_0 σ v1 = some res) (hP : Pic x al lv σ H) (hS : va_S (Ab x) s.heap H locs) (hl : lv_has ls 5 [(0, .ref (al 7 0)), (1, .int v1)]) : W p l e (rmm 3 0 0) s m args below meth c H locs 0 0 (MQ below (QP x al lv σ res) args s 0 0 (Ab x)) (F0 m 0 ls []) := by
  obtain ⟨hx, hb, hml, hown, hts⟩ := hC.1
  unfold fM_isDrained_0 at h
  refine lv_aload_n hx hb dX12_isDrained_0 rfl (lv_at hl 0 rfl) ?_
  refine gt_X12_21 hC hP wf_X12_73 dX12_isDrained_1 ?_
  refine lv_iload_n hx hb dX12_isDrained_4 rfl (lv_at hl 1 rfl) ?_
  refine r_iald hC hP (aM_21 hP.l7) h dX12_isDrained_5 (fun h => ?_)
  refine r_lt h (fun y1 h => ?_)
  refine lv_istore_n (lv' := [(2, .int y1), (0, .ref (al 7 0)), (1, .int v1)]) hx hb dX12_isDrained_6 rfl hl (by decide) rfl (fun ls hl => ?_)
  refine lv_aload_n hx hb dX12_isDrained_7 rfl (lv_at hl 1 rfl) ?_
  refine lv_iload_n hx hb dX12_isDrained_8 rfl (lv_at hl 0 rfl) ?_
  refine r_cP hS h (fun r hr => r_runV (As := [.int y1]) (rest := []) hC kV_X12_190 cw_X12_hasDrain (rc_X12 hC hP) hP (tM_hasDrain x al lv σ y1 r hr) rfl hl.1 ⟨Nat.le_of_ble_eq_true rfl, Nat.le_of_ble_eq_true rfl⟩ ⟨Nat.le_of_ble_eq_true rfl, Nat.le_of_ble_eq_true rfl⟩ (Nat.le_of_ble_eq_true rfl) dX12_isDrained_9) (fun y2 H locs h hP hS => ?_)
  refine lv_istore_n (lv' := [(3, .int y2), (2, .int y1), (0, .ref (al 7 0)), (1, .int v1)]) hx hb dX12_isDrained_12 rfl hl (by decide) rfl (fun ls hl => ?_)
  refine lv_aload_n hx hb dX12_isDrained_13 rfl (lv_at hl 2 rfl) ?_
  refine gt_X12_22 hC hP wf_X12_76 dX12_isDrained_14 ?_
  refine lv_iload_n hx hb dX12_isDrained_17 rfl (lv_at hl 3 rfl) ?_
  refine r_iald hC hP (aM_22 hP.l7) h dX12_isDrained_18 (fun h => ?_)
  refine lv_aload_n hx hb dX12_isDrained_19 rfl (lv_at hl 2 rfl) ?_
  refine lv_iload_n hx hb dX12_isDrained_20 rfl (lv_at hl 1 rfl) ?_
  refine r_cP hS h (fun r hr => r_runV (As := [.int y1]) (rest := [.int (σ 7 22 v1.toNatClampNeg)]) hC kV_X12_167 cw_X12_floor (rc_X12 hC hP) hP (tM_floor x al lv σ y1 r hr) rfl hl.1 ⟨Nat.le_of_ble_eq_true rfl, Nat.le_of_ble_eq_true rfl⟩ ⟨Nat.le_of_ble_eq_true rfl, Nat.le_of_ble_eq_true rfl⟩ (Nat.le_of_ble_eq_true rfl) dX12_isDrained_21) (fun y3 H locs h hP hS => ?_)
  refine lv_isub hx hb dX12_isDrained_24 ?_
  refine r_lt h (fun y4 h => ?_)
  refine lv_istore (lv' := [(4, .int y4), (3, .int y2), (2, .int y1), (0, .ref (al 7 0)), (1, .int v1)]) hx hb dX12_isDrained_25 hl (by decide) rfl (fun ls hl => ?_)
  exact wM_isDrained_27  hC  FU y1 y2 y4 H locs ls h hP hS (lv_sub hl [3, 2, 1, 0] rfl)

set_option maxRecDepth 20000 in
theorem tM_isDrained {l : Launch} (x : Wx) (al : Nat → Nat → Nat) (lv : Nat → Bool) (σ : Sg) (v1 : Int32) (res : Int32) (h : fM_isDrained σ v1 = some res) : Met l yX12_isDrained (Cond.code yX12_isDrained cX12_isDrained 5 (some .boolean) :: lwg) (rmm 3 0 0) (va_Pc [.ref (al 7 0), .int v1] (Wd x al lv σ)) (QP x al lv σ res) 0 0 (Ab x) := by
  refine met_W (by decide) (Nat.le_of_ble_eq_true rfl) rfl (fun p e s m args below meth c ls hC hP hS hl => ?_)
  exact wM_isDrained_0  hC v1 _ _ ls h hP hS hl
set_option maxHeartbeats 4000000 in
set_option maxRecDepth 20000 in
theorem wM_isBySalt_59 {p : Program} {l : Launch} {e : Env} {s : State} {m : MethodId} {args : Array Value} {below : List Frame} {meth : Method} {c : Code} {x : Wx} {al : Nat → Nat → Nat} {lv : Nat → Bool} {res : Int32} {σ : Sg} (hC : Cx x p s m args meth c cX12_isBySalt 5 (some .boolean) RX12) (k4 : Int32 → Int32 → Int32 → Option (Int32)) (hk4 : ∀ (x1 : Int32) (x2 : Int32) (x3 : Int32) (H : Heap) (locs : List Loc) (ls : Array Slot), k4 x1 x2 x3 = some res → Pic x al lv σ H → va_S (Ab x) s.heap H locs → lv_has ls 5 [(0, .ref (al 7 0)), (1, .int x1), (2, .int x2), (3, .int x3)] → W p l e (rmm 4 0 0) s m args below meth c H locs 0 0 (MQ below (QP x al lv σ res) args s 0 0 (Ab x)) (F0 m 4 ls [])) (x1 : Int32) (x3 : Int32) (t0 : Int32) (H : Heap) (locs : List Loc) (ls : Array Slot) (h : fM_isBySalt_59 k4 σ x1 x3 t0 = some res) (hP : Pic x al lv σ H) (hS : va_S (Ab x) s.heap H locs) (hl : lv_has ls 5 [(0, .ref (al 7 0)), (1, .int x1), (3, .int x3)]) : W p l e (rmm 4 0 0) s m args below meth c H locs 0 0 (MQ below (QP x al lv σ res) args s 0 0 (Ab x)) (F0 m 59 ls [.int t0]) := by
  obtain ⟨hx, hb, hml, hown, hts⟩ := hC.1
  unfold fM_isBySalt_59 at h
  refine lv_istore_n (lv' := [(2, .int t0), (0, .ref (al 7 0)), (1, .int x1), (3, .int x3)]) hx hb dX12_isBySalt_59 rfl hl (by decide) rfl (fun ls hl => ?_)
  refine r_iinc (v := 1) hC h dX12_isBySalt_60 hl (k := 3) rfl rfl (by decide) (fun y3 => [(3, .int y3), (2, .int t0), (0, .ref (al 7 0)), (1, .int x1)]) (fun _ => rfl) (fun y3 ls h hl => ?_)
  refine lv_goto (tgt := 4) hx hb dX12_isBySalt_63 (by decide) ?_
  exact hk4 x1 t0 y3 H locs ls h hP hS (lv_sub hl [2, 3, 1, 0] rfl)

set_option maxHeartbeats 4000000 in
set_option maxRecDepth 20000 in
theorem wM_isBySalt_54 {p : Program} {l : Launch} {e : Env} {s : State} {m : MethodId} {args : Array Value} {below : List Frame} {meth : Method} {c : Code} {x : Wx} {al : Nat → Nat → Nat} {lv : Nat → Bool} {res : Int32} {σ : Sg} (hC : Cx x p s m args meth c cX12_isBySalt 5 (some .boolean) RX12) (k4 : Int32 → Int32 → Int32 → Option (Int32)) (hk4 : ∀ (x1 : Int32) (x2 : Int32) (x3 : Int32) (H : Heap) (locs : List Loc) (ls : Array Slot), k4 x1 x2 x3 = some res → Pic x al lv σ H → va_S (Ab x) s.heap H locs → lv_has ls 5 [(0, .ref (al 7 0)), (1, .int x1), (2, .int x2), (3, .int x3)] → W p l e (rmm 4 0 0) s m args below meth c H locs 0 0 (MQ below (QP x al lv σ res) args s 0 0 (Ab x)) (F0 m 4 ls [])) (x1 : Int32) (x3 : Int32) (H : Heap) (locs : List Loc) (ls : Array Slot) (h : fM_isBySalt_54 k4 σ x1 x3 = some res) (hP : Pic x al lv σ H) (hS : va_S (Ab x) s.heap H locs) (hl : lv_has ls 5 [(0, .ref (al 7 0)), (1, .int x1), (3, .int x3)]) : W p l e (rmm 4 0 0) s m args below meth c H locs 0 0 (MQ below (QP x al lv σ res) args s 0 0 (Ab x)) (F0 m 54 ls []) := by
  obtain ⟨hx, hb, hml, hown, hts⟩ := hC.1
  unfold fM_isBySalt_54 at h
  refine lv_iconst (v := 1) hx hb dX12_isBySalt_54 (by decide) ?_
  refine lv_goto (tgt := 59) hx hb dX12_isBySalt_55 (by decide) ?_
  exact wM_isBySalt_59  hC k4 hk4 x1 x3 1 H locs ls h hP hS (lv_sub hl [0, 1, 2] rfl)

set_option maxHeartbeats 4000000 in
set_option maxRecDepth 20000 in
theorem wM_isBySalt_58 {p : Program} {l : Launch} {e : Env} {s : State} {m : MethodId} {args : Array Value} {below : List Frame} {meth : Method} {c : Code} {x : Wx} {al : Nat → Nat → Nat} {lv : Nat → Bool} {res : Int32} {σ : Sg} (hC : Cx x p s m args meth c cX12_isBySalt 5 (some .boolean) RX12) (k4 : Int32 → Int32 → Int32 → Option (Int32)) (hk4 : ∀ (x1 : Int32) (x2 : Int32) (x3 : Int32) (H : Heap) (locs : List Loc) (ls : Array Slot), k4 x1 x2 x3 = some res → Pic x al lv σ H → va_S (Ab x) s.heap H locs → lv_has ls 5 [(0, .ref (al 7 0)), (1, .int x1), (2, .int x2), (3, .int x3)] → W p l e (rmm 4 0 0) s m args below meth c H locs 0 0 (MQ below (QP x al lv σ res) args s 0 0 (Ab x)) (F0 m 4 ls [])) (x1 : Int32) (x3 : Int32) (H : Heap) (locs : List Loc) (ls : Array Slot) (h : fM_isBySalt_58 k4 σ x1 x3 = some res) (hP : Pic x al lv σ H) (hS : va_S (Ab x) s.heap H locs) (hl : lv_has ls 5 [(0, .ref (al 7 0)), (1, .int x1), (3, .int x3)]) : W p l e (rmm 4 0 0) s m args below meth c H locs 0 0 (MQ below (QP x al lv σ res) args s 0 0 (Ab x)) (F0 m 58 ls []) := by
  obtain ⟨hx, hb, hml, hown, hts⟩ := hC.1
  unfold fM_isBySalt_58 at h
  refine lv_iconst (v := 0) hx hb dX12_isBySalt_58 (by decide) ?_
  exact wM_isBySalt_59  hC k4 hk4 x1 x3 0 H locs ls h hP hS (lv_sub hl [0, 1, 2] rfl)

set_option maxHeartbeats 4000000 in
set_option maxRecDepth 20000 in
theorem wM_isBySalt_4_b {p : Program} {l : Launch} {e : Env} {s : State} {m : MethodId} {args : Array Value} {below : List Frame} {meth : Method} {c : Code} {x : Wx} {al : Nat → Nat → Nat} {lv : Nat → Bool} {res : Int32} {σ : Sg} (hC : Cx x p s m args meth c cX12_isBySalt 5 (some .boolean) RX12) (k4 : Int32 → Int32 → Int32 → Option (Int32)) (hk4 : ∀ (x1 : Int32) (x2 : Int32) (x3 : Int32) (H : Heap) (locs : List Loc) (ls : Array Slot), k4 x1 x2 x3 = some res → Pic x al lv σ H → va_S (Ab x) s.heap H locs → lv_has ls 5 [(0, .ref (al 7 0)), (1, .int x1), (2, .int x2), (3, .int x3)] → W p l e (rmm 4 0 0) s m args below meth c H locs 0 0 (MQ below (QP x al lv σ res) args s 0 0 (Ab x)) (F0 m 4 ls [])) (x1 : Int32) (x2 : Int32) (x3 : Int32) (H : Heap) (locs : List Loc) (ls : Array Slot) (h : fM_isBySalt_4_b k4 σ x1 x2 x3 = some res) (hP : Pic x al lv σ H) (hS : va_S (Ab x) s.heap H locs) (hl : lv_has ls 5 [(0, .ref (al 7 0)), (1, .int x1), (2, .int x2), (3, .int x3)]) : W p l e (rmm 4 0 0) s m args below meth c H locs 0 0 (MQ below (QP x al lv σ res) args s 0 0 (Ab x)) (F0 m 4 ls []) := by
  obtain ⟨hx, hb, hml, hown, hts⟩ := hC.1
  unfold fM_isBySalt_4_b at h
  refine lv_iload_n hx hb dX12_isBySalt_4 rfl (lv_at hl 3 rfl) ?_
  refine lv_bipush (v := 6) hx hb dX12_isBySalt_5 (by decide) ?_
  refine lv_icmp_ge (tgt := 66) hx hb dX12_isBySalt_7 (by decide) (fun hc => ?_) (fun hc => ?_)
  · replace h := (br h).1 hc
    refine lv_iload_n hx hb dX12_isBySalt_66 rfl (lv_at hl 2 rfl) ?_
    obtain ⟨hz1, h⟩ := gd_e h
    exact r_retP hC hP hS (isb_n hz1) h dX12_isBySalt_67
  · replace h := (br h).2 hc
    refine lv_aload_n hx hb dX12_isBySalt_10 rfl (lv_at hl 0 rfl) ?_
    refine lv_aload_n hx hb dX12_isBySalt_11 rfl (lv_at hl 0 rfl) ?_
    refine gt_X12_21 hC hP wf_X12_73 dX12_isBySalt_12 ?_
    refine lv_iload_n hx hb dX12_isBySalt_15 rfl (lv_at hl 1 rfl) ?_
    refine r_iald hC hP (aM_21 hP.l7) h dX12_isBySalt_16 (fun h => ?_)
    refine lv_aload_n hx hb dX12_isBySalt_17 rfl (lv_at hl 0 rfl) ?_
    refine gt_X12_22 hC hP wf_X12_76 dX12_isBySalt_18 ?_
    refine lv_iload_n hx hb dX12_isBySalt_21 rfl (lv_at hl 1 rfl) ?_
    refine r_iald hC hP (aM_22 hP.l7) h dX12_isBySalt_22 (fun h => ?_)
    refine lv_iload_n hx hb dX12_isBySalt_23 rfl (lv_at hl 3 rfl) ?_
    refine r_cP hS h (fun r hr => r_runV (As := [.int (σ 7 21 x1.toNatClampNeg), .int (σ 7 22 x1.toNatClampNeg), .int x3]) (rest := []) hC kV_X12_176 cw_X12_side (rc_X12 hC hP) hP (tM_side x al lv σ (σ 7 21 x1.toNatClampNeg) (σ 7 22 x1.toNatClampNeg) x3 r hr) rfl hl.1 ⟨Nat.le_of_ble_eq_true rfl, Nat.le_of_ble_eq_true rfl⟩ ⟨Nat.le_of_ble_eq_true rfl, Nat.le_of_ble_eq_true rfl⟩ (Nat.le_of_ble_eq_true rfl) dX12_isBySalt_24) (fun y2 H locs h hP hS => ?_)
    refine lv_istore (lv' := [(4, .int y2), (0, .ref (al 7 0)), (1, .int x1), (2, .int x2), (3, .int x3)]) hx hb dX12_isBySalt_27 hl (by decide) rfl (fun ls hl => ?_)
    refine lv_iload_n hx hb dX12_isBySalt_29 rfl (lv_at hl 3 rfl) ?_
    refine lv_if_ne (tgt := 54) hx hb dX12_isBySalt_30 (by decide) (fun hc => ?_) (fun hc => ?_)
    · replace h := (br h).2 hc
      exact wM_isBySalt_54  hC k4 hk4 x1 x3 H locs ls h hP hS (lv_sub hl [1, 2, 4] rfl)
    · replace h := (br h).1 hc
      refine lv_iload hx hb dX12_isBySalt_33 (lv_at hl 0 rfl) ?_
      refine lv_bipush (v := 10) hx hb dX12_isBySalt_35 (by decide) ?_
      refine lv_icmp_lt (tgt := 58) hx hb dX12_isBySalt_37 (by decide) (fun hc => ?_) (fun hc => ?_)
      · replace h := (br h).1 hc
        exact wM_isBySalt_58  hC k4 hk4 x1 x3 H locs ls h hP hS (lv_sub hl [1, 2, 4] rfl)
      · replace h := (br h).2 hc
        refine lv_aload_n hx hb dX12_isBySalt_40 rfl (lv_at hl 1 rfl) ?_
        refine gt_X12_19 hC hP wf_X12_67 dX12_isBySalt_41 ?_
        refine lv_iload hx hb dX12_isBySalt_44 (lv_at hl 0 rfl) ?_
        refine lv_bipush (v := 10) hx hb dX12_isBySalt_46 (by decide) ?_
        refine lv_isub hx hb dX12_isBySalt_48 ?_
        refine r_iald hC hP (aM_19 hP.l7) h dX12_isBySalt_49 (fun h => ?_)
        refine lv_iconst (v := 2) hx hb dX12_isBySalt_50 (by decide) ?_
        refine lv_icmp_ne (tgt := 58) hx hb dX12_isBySalt_51 (by decide) (fun hc => ?_) (fun hc => ?_)
        · replace h := (br h).2 hc
          exact wM_isBySalt_58  hC k4 hk4 x1 x3 H locs ls h hP hS (lv_sub hl [1, 2, 4] rfl)
        · replace h := (br h).1 hc
          exact wM_isBySalt_54  hC k4 hk4 x1 x3 H locs ls h hP hS (lv_sub hl [1, 2, 4] rfl)

set_option maxHeartbeats 4000000 in
set_option maxRecDepth 20000 in
theorem wM_isBySalt_4 {p : Program} {l : Launch} {e : Env} {s : State} {m : MethodId} {args : Array Value} {below : List Frame} {meth : Method} {c : Code} {x : Wx} {al : Nat → Nat → Nat} {lv : Nat → Bool} {res : Int32} {σ : Sg} (hC : Cx x p s m args meth c cX12_isBySalt 5 (some .boolean) RX12) (n : Nat) (x1 : Int32) (x2 : Int32) (x3 : Int32) (H : Heap) (locs : List Loc) (ls : Array Slot) (h : fM_isBySalt_4 n σ x1 x2 x3 = some res) (hP : Pic x al lv σ H) (hS : va_S (Ab x) s.heap H locs) (hl : lv_has ls 5 [(0, .ref (al 7 0)), (1, .int x1), (2, .int x2), (3, .int x3)]) : W p l e (rmm 4 0 0) s m args below meth c H locs 0 0 (MQ below (QP x al lv σ res) args s 0 0 (Ab x)) (F0 m 4 ls []) := by
  induction n generalizing x1 x2 x3 H locs ls with
  | zero => exact nomatch h
  | succ n ih => exact wM_isBySalt_4_b  hC  _ (fun x1 x2 x3 H locs ls h hP hS hl => ih x1 x2 x3 H locs ls h hP hS hl) x1 x2 x3 H locs ls h hP hS hl
set_option maxHeartbeats 4000000 in
set_option maxRecDepth 20000 in
theorem wM_isBySalt_0 {p : Program} {l : Launch} {e : Env} {s : State} {m : MethodId} {args : Array Value} {below : List Frame} {meth : Method} {c : Code} {x : Wx} {al : Nat → Nat → Nat} {lv : Nat → Bool} {res : Int32} {σ : Sg} (hC : Cx x p s m args meth c cX12_isBySalt 5 (some .boolean) RX12) (v1 : Int32) (H : Heap) (locs : List Loc) (ls : Array Slot) (h : fM_isBySalt_0 σ v1 = some res) (hP : Pic x al lv σ H) (hS : va_S (Ab x) s.heap H locs) (hl : lv_has ls 5 [(0, .ref (al 7 0)), (1, .int v1)]) : W p l e (rmm 4 0 0) s m args below meth c H locs 0 0 (MQ below (QP x al lv σ res) args s 0 0 (Ab x)) (F0 m 0 ls []) := by
  obtain ⟨hx, hb, hml, hown, hts⟩ := hC.1
  unfold fM_isBySalt_0 at h
  refine lv_iconst (v := 0) hx hb dX12_isBySalt_0 (by decide) ?_
  refine lv_istore_n (lv' := [(2, .int 0), (0, .ref (al 7 0)), (1, .int v1)]) hx hb dX12_isBySalt_1 rfl hl (by decide) rfl (fun ls hl => ?_)
  refine lv_iconst (v := 0) hx hb dX12_isBySalt_2 (by decide) ?_
  refine lv_istore_n (lv' := [(3, .int 0), (2, .int 0), (0, .ref (al 7 0)), (1, .int v1)]) hx hb dX12_isBySalt_3 rfl hl (by decide) rfl (fun ls hl => ?_)
  exact wM_isBySalt_4  hC  FU v1 0 0 H locs ls h hP hS (lv_sub hl [2, 3, 1, 0] rfl)

set_option maxRecDepth 20000 in
theorem tM_isBySalt {l : Launch} (x : Wx) (al : Nat → Nat → Nat) (lv : Nat → Bool) (σ : Sg) (v1 : Int32) (res : Int32) (h : fM_isBySalt σ v1 = some res) : Met l yX12_isBySalt (Cond.code yX12_isBySalt cX12_isBySalt 5 (some .boolean) :: lwg) (rmm 4 0 0) (va_Pc [.ref (al 7 0), .int v1] (Wd x al lv σ)) (QP x al lv σ res) 0 0 (Ab x) := by
  refine met_W (by decide) (Nat.le_of_ble_eq_true rfl) rfl (fun p e s m args below meth c ls hC hP hS hl => ?_)
  exact wM_isBySalt_0  hC v1 _ _ ls h hP hS hl
set_option maxHeartbeats 4000000 in
set_option maxRecDepth 20000 in
theorem wM_out_0 {p : Program} {l : Launch} {e : Env} {s : State} {m : MethodId} {args : Array Value} {below : List Frame} {meth : Method} {c : Code} {x : Wx} {al : Nat → Nat → Nat} {lv : Nat → Bool} {res : Sg} (hC : Cx x p s m args meth c cX12_out 2 none RX12) (σ : Sg) (v1 : Int32) (H : Heap) (locs : List Loc) (ls : Array Slot) (h : fM_out_0 σ v1 = some res) (hP : Pic x al lv σ H) (hS : va_S (Ab x) s.heap H locs) (hl : lv_has ls 2 [(0, .ref (al 7 0)), (1, .int v1)]) : W p l e (rmm 1 0 0) s m args below meth c H locs 0 0 (MQ below (QV x al lv res) args s 0 0 (Ab x)) (F0 m 0 ls []) := by
  obtain ⟨hx, hb, hml, hown, hts⟩ := hC.1
  unfold fM_out_0 at h
  refine lv_aload_n hx hb dX12_out_0 rfl (lv_at hl 0 rfl) ?_
  refine gt_X12_18 hC hP wf_X12_64 dX12_out_1 ?_
  refine lv_sipush (v := 180) hx hb dX12_out_4 (by decide) ?_
  refine lv_aload_n hx hb dX12_out_7 rfl (lv_at hl 0 rfl) ?_
  refine gt_X12_21 hC hP wf_X12_73 dX12_out_8 ?_
  refine lv_iload_n hx hb dX12_out_11 rfl (lv_at hl 1 rfl) ?_
  refine r_iald hC hP (aM_21 hP.l7) h dX12_out_12 (fun h => ?_)
  refine lv_imul hx hb dX12_out_13 ?_
  refine lv_aload_n hx hb dX12_out_14 rfl (lv_at hl 0 rfl) ?_
  refine gt_X12_22 hC hP wf_X12_76 dX12_out_15 ?_
  refine lv_iload_n hx hb dX12_out_18 rfl (lv_at hl 1 rfl) ?_
  refine r_iald hC hP (aM_22 hP.l7) h dX12_out_19 (fun h => ?_)
  refine lv_iadd hx hb dX12_out_20 ?_
  refine lv_iconst (v := 0) hx hb dX12_out_21 (by decide) ?_
  refine r_iast hC hP hS (aM_18 hP.l7) h dX12_out_22 (fun σ1 H locs h hP hS => ?_)
  refine lv_aload_n hx hb dX12_out_23 rfl (lv_at hl 0 rfl) ?_
  refine gt_X12_21 hC hP wf_X12_73 dX12_out_24 ?_
  refine lv_iload_n hx hb dX12_out_27 rfl (lv_at hl 1 rfl) ?_
  refine lv_iconst (v := (-1)) hx hb dX12_out_28 (by decide) ?_
  refine r_iast hC hP hS (aM_21 hP.l7) h dX12_out_29 (fun σ2 H locs h hP hS => ?_)
  refine lv_aload_n hx hb dX12_out_30 rfl (lv_at hl 0 rfl) ?_
  refine gt_X12_22 hC hP wf_X12_76 dX12_out_31 ?_
  refine lv_iload_n hx hb dX12_out_34 rfl (lv_at hl 1 rfl) ?_
  refine lv_iconst (v := (-1)) hx hb dX12_out_35 (by decide) ?_
  refine r_iast hC hP hS (aM_22 hP.l7) h dX12_out_36 (fun σ3 H locs h hP hS => ?_)
  exact r_retV hC hP hS h dX12_out_37

set_option maxRecDepth 20000 in
theorem tM_out {l : Launch} (x : Wx) (al : Nat → Nat → Nat) (lv : Nat → Bool) (σ : Sg) (v1 : Int32) (res : Sg) (h : fM_out σ v1 = some res) : Met l yX12_out (Cond.code yX12_out cX12_out 2 none :: lwg) (rmm 1 0 0) (va_Pc [.ref (al 7 0), .int v1] (Wd x al lv σ)) (QV x al lv res) 0 0 (Ab x) := by
  refine met_W (by decide) (Nat.le_of_ble_eq_true rfl) rfl (fun p e s m args below meth c ls hC hP hS hl => ?_)
  exact wM_out_0  hC σ v1 _ _ ls h hP hS hl
set_option maxHeartbeats 4000000 in
set_option maxRecDepth 20000 in
theorem wM_writesLine_85_b {p : Program} {l : Launch} {e : Env} {s : State} {m : MethodId} {args : Array Value} {below : List Frame} {meth : Method} {c : Code} {x : Wx} {al : Nat → Nat → Nat} {lv : Nat → Bool} {res : Sg} (hC : Cx x p s m args meth c cX12_writesLine 6 none RX12) (k85 : Sg → Int32 → Int32 → Option (Sg)) (hk85 : ∀ (σ : Sg) (x4 : Int32) (x5 : Int32) (H : Heap) (locs : List Loc) (ls : Array Slot), k85 σ x4 x5 = some res → Pic x al lv σ H → va_S (Ab x) s.heap H locs → lv_has ls 6 [(0, .ref (al 7 0)), (4, .int x4), (5, .int x5)] → W p l e (rmm 1 0 0) s m args below meth c H locs 0 0 (MQ below (QV x al lv res) args s 0 0 (Ab x)) (F0 m 85 ls [])) (σ : Sg) (x4 : Int32) (x5 : Int32) (H : Heap) (locs : List Loc) (ls : Array Slot) (h : fM_writesLine_85_b k85 σ x4 x5 = some res) (hP : Pic x al lv σ H) (hS : va_S (Ab x) s.heap H locs) (hl : lv_has ls 6 [(0, .ref (al 7 0)), (4, .int x4), (5, .int x5)]) : W p l e (rmm 1 0 0) s m args below meth c H locs 0 0 (MQ below (QV x al lv res) args s 0 0 (Ab x)) (F0 m 85 ls []) := by
  obtain ⟨hx, hb, hml, hown, hts⟩ := hC.1
  unfold fM_writesLine_85_b at h
  refine lv_iload hx hb dX12_writesLine_85 (lv_at hl 2 rfl) ?_
  refine lv_bipush (v := 6) hx hb dX12_writesLine_87 (by decide) ?_
  refine lv_icmp_ge (tgt := 118) hx hb dX12_writesLine_89 (by decide) (fun hc => ?_) (fun hc => ?_)
  · replace h := (br h).1 hc
    refine lv_aload_n hx hb dX12_writesLine_118 rfl (lv_at hl 0 rfl) ?_
    refine lv_dup hx hb dX12_writesLine_119 rfl ?_
    refine gt_X12_27 hC hP wf_X12_228 dX12_writesLine_120 ?_
    refine lv_iconst (v := 1) hx hb dX12_writesLine_123 (by decide) ?_
    refine lv_iadd hx hb dX12_writesLine_124 ?_
    refine pt_X12_27 hC hP hS wf_X12_228 h dX12_writesLine_125 (fun σ8 H locs h hP hS => ?_)
    exact r_retV hC hP hS h dX12_writesLine_128
  · replace h := (br h).2 hc
    refine lv_aload_n hx hb dX12_writesLine_92 rfl (lv_at hl 0 rfl) ?_
    refine gt_X12_29 hC hP wf_X12_91 dX12_writesLine_93 ?_
    refine lv_iload hx hb dX12_writesLine_96 (lv_at hl 1 rfl) ?_
    refine lv_iload hx hb dX12_writesLine_98 (lv_at hl 2 rfl) ?_
    refine lv_iadd hx hb dX12_writesLine_100 ?_
    refine lv_aload_n hx hb dX12_writesLine_101 rfl (lv_at hl 0 rfl) ?_
    refine gt_X12_28 hC hP wf_X12_88 dX12_writesLine_102 ?_
    refine lv_iload hx hb dX12_writesLine_105 (lv_at hl 1 rfl) ?_
    refine lv_iload hx hb dX12_writesLine_107 (lv_at hl 2 rfl) ?_
    refine lv_iadd hx hb dX12_writesLine_109 ?_
    refine r_iald hC hP (aM_28 hP.l7) h dX12_writesLine_110 (fun h => ?_)
    refine r_iast hC hP hS (aM_29 hP.l7) h dX12_writesLine_111 (fun σ9 H locs h hP hS => ?_)
    refine r_iinc (v := 1) hC h dX12_writesLine_112 hl (k := 2) rfl rfl (by decide) (fun y10 => [(5, .int y10), (0, .ref (al 7 0)), (4, .int x4)]) (fun _ => rfl) (fun y10 ls h hl => ?_)
    refine lv_goto (tgt := 85) hx hb dX12_writesLine_115 (by decide) ?_
    exact hk85 σ9 x4 y10 H locs ls h hP hS (lv_sub hl [1, 2, 0] rfl)

set_option maxHeartbeats 4000000 in
set_option maxRecDepth 20000 in
theorem wM_writesLine_85 {p : Program} {l : Launch} {e : Env} {s : State} {m : MethodId} {args : Array Value} {below : List Frame} {meth : Method} {c : Code} {x : Wx} {al : Nat → Nat → Nat} {lv : Nat → Bool} {res : Sg} (hC : Cx x p s m args meth c cX12_writesLine 6 none RX12) (n : Nat) (σ : Sg) (x4 : Int32) (x5 : Int32) (H : Heap) (locs : List Loc) (ls : Array Slot) (h : fM_writesLine_85 n σ x4 x5 = some res) (hP : Pic x al lv σ H) (hS : va_S (Ab x) s.heap H locs) (hl : lv_has ls 6 [(0, .ref (al 7 0)), (4, .int x4), (5, .int x5)]) : W p l e (rmm 1 0 0) s m args below meth c H locs 0 0 (MQ below (QV x al lv res) args s 0 0 (Ab x)) (F0 m 85 ls []) := by
  induction n generalizing σ x4 x5 H locs ls with
  | zero => exact nomatch h
  | succ n ih => exact wM_writesLine_85_b  hC  _ (fun σ x4 x5 H locs ls h hP hS hl => ih σ x4 x5 H locs ls h hP hS hl) σ x4 x5 H locs ls h hP hS hl
set_option maxHeartbeats 4000000 in
set_option maxRecDepth 20000 in
theorem wM_writesLine_0 {p : Program} {l : Launch} {e : Env} {s : State} {m : MethodId} {args : Array Value} {below : List Frame} {meth : Method} {c : Code} {x : Wx} {al : Nat → Nat → Nat} {lv : Nat → Bool} {res : Sg} (hC : Cx x p s m args meth c cX12_writesLine 6 none RX12) (σ : Sg) (v1 : Int32) (v2 : Int32) (v3 : Int32) (H : Heap) (locs : List Loc) (ls : Array Slot) (h : fM_writesLine_0 σ v1 v2 v3 = some res) (hP : Pic x al lv σ H) (hS : va_S (Ab x) s.heap H locs) (hl : lv_has ls 6 [(0, .ref (al 7 0)), (1, .int v1), (2, .int v2), (3, .int v3)]) : W p l e (rmm 1 0 0) s m args below meth c H locs 0 0 (MQ below (QV x al lv res) args s 0 0 (Ab x)) (F0 m 0 ls []) := by
  obtain ⟨hx, hb, hml, hown, hts⟩ := hC.1
  unfold fM_writesLine_0 at h
  refine lv_bipush (v := 6) hx hb dX12_writesLine_0 (by decide) ?_
  refine lv_aload_n hx hb dX12_writesLine_2 rfl (lv_at hl 0 rfl) ?_
  refine gt_X12_27 hC hP wf_X12_228 dX12_writesLine_3 ?_
  refine lv_imul hx hb dX12_writesLine_6 ?_
  refine r_lt h (fun y1 h => ?_)
  refine lv_istore (lv' := [(4, .int y1), (0, .ref (al 7 0)), (1, .int v1), (2, .int v2), (3, .int v3)]) hx hb dX12_writesLine_7 hl (by decide) rfl (fun ls hl => ?_)
  refine lv_aload_n hx hb dX12_writesLine_9 rfl (lv_at hl 1 rfl) ?_
  refine gt_X12_28 hC hP wf_X12_88 dX12_writesLine_10 ?_
  refine lv_iload hx hb dX12_writesLine_13 (lv_at hl 0 rfl) ?_
  refine lv_iload_n hx hb dX12_writesLine_15 rfl (lv_at hl 2 rfl) ?_
  refine r_iast hC hP hS (aM_28 hP.l7) h dX12_writesLine_16 (fun σ2 H locs h hP hS => ?_)
  refine lv_aload_n hx hb dX12_writesLine_17 rfl (lv_at hl 1 rfl) ?_
  refine gt_X12_28 hC hP wf_X12_88 dX12_writesLine_18 ?_
  refine lv_iload hx hb dX12_writesLine_21 (lv_at hl 0 rfl) ?_
  refine lv_iconst (v := 1) hx hb dX12_writesLine_23 (by decide) ?_
  refine lv_iadd hx hb dX12_writesLine_24 ?_
  refine lv_aload_n hx hb dX12_writesLine_25 rfl (lv_at hl 1 rfl) ?_
  refine gt_X12_21 hC hP wf_X12_73 dX12_writesLine_26 ?_
  refine lv_iload_n hx hb dX12_writesLine_29 rfl (lv_at hl 2 rfl) ?_
  refine r_iald hC hP (aM_21 hP.l7) h dX12_writesLine_30 (fun h => ?_)
  refine r_iast hC hP hS (aM_28 hP.l7) h dX12_writesLine_31 (fun σ3 H locs h hP hS => ?_)
  refine lv_aload_n hx hb dX12_writesLine_32 rfl (lv_at hl 1 rfl) ?_
  refine gt_X12_28 hC hP wf_X12_88 dX12_writesLine_33 ?_
  refine lv_iload hx hb dX12_writesLine_36 (lv_at hl 0 rfl) ?_
  refine lv_iconst (v := 2) hx hb dX12_writesLine_38 (by decide) ?_
  refine lv_iadd hx hb dX12_writesLine_39 ?_
  refine lv_aload_n hx hb dX12_writesLine_40 rfl (lv_at hl 1 rfl) ?_
  refine gt_X12_22 hC hP wf_X12_76 dX12_writesLine_41 ?_
  refine lv_iload_n hx hb dX12_writesLine_44 rfl (lv_at hl 2 rfl) ?_
  refine r_iald hC hP (aM_22 hP.l7) h dX12_writesLine_45 (fun h => ?_)
  refine r_iast hC hP hS (aM_28 hP.l7) h dX12_writesLine_46 (fun σ4 H locs h hP hS => ?_)
  refine lv_aload_n hx hb dX12_writesLine_47 rfl (lv_at hl 1 rfl) ?_
  refine gt_X12_28 hC hP wf_X12_88 dX12_writesLine_48 ?_
  refine lv_iload hx hb dX12_writesLine_51 (lv_at hl 0 rfl) ?_
  refine lv_iconst (v := 3) hx hb dX12_writesLine_53 (by decide) ?_
  refine lv_iadd hx hb dX12_writesLine_54 ?_
  refine lv_aload_n hx hb dX12_writesLine_55 rfl (lv_at hl 1 rfl) ?_
  refine gt_X12_20 hC hP wf_X12_70 dX12_writesLine_56 ?_
  refine lv_iload_n hx hb dX12_writesLine_59 rfl (lv_at hl 2 rfl) ?_
  refine r_iald hC hP (aM_20 hP.l7) h dX12_writesLine_60 (fun h => ?_)
  refine r_iast hC hP hS (aM_28 hP.l7) h dX12_writesLine_61 (fun σ5 H locs h hP hS => ?_)
  refine lv_aload_n hx hb dX12_writesLine_62 rfl (lv_at hl 1 rfl) ?_
  refine gt_X12_28 hC hP wf_X12_88 dX12_writesLine_63 ?_
  refine lv_iload hx hb dX12_writesLine_66 (lv_at hl 0 rfl) ?_
  refine lv_iconst (v := 4) hx hb dX12_writesLine_68 (by decide) ?_
  refine lv_iadd hx hb dX12_writesLine_69 ?_
  refine lv_iload_n hx hb dX12_writesLine_70 rfl (lv_at hl 3 rfl) ?_
  refine r_iast hC hP hS (aM_28 hP.l7) h dX12_writesLine_71 (fun σ6 H locs h hP hS => ?_)
  refine lv_aload_n hx hb dX12_writesLine_72 rfl (lv_at hl 1 rfl) ?_
  refine gt_X12_28 hC hP wf_X12_88 dX12_writesLine_73 ?_
  refine lv_iload hx hb dX12_writesLine_76 (lv_at hl 0 rfl) ?_
  refine lv_iconst (v := 5) hx hb dX12_writesLine_78 (by decide) ?_
  refine lv_iadd hx hb dX12_writesLine_79 ?_
  refine lv_iload_n hx hb dX12_writesLine_80 rfl (lv_at hl 4 rfl) ?_
  refine r_iast hC hP hS (aM_28 hP.l7) h dX12_writesLine_81 (fun σ7 H locs h hP hS => ?_)
  refine lv_iconst (v := 0) hx hb dX12_writesLine_82 (by decide) ?_
  refine lv_istore (lv' := [(5, .int 0), (4, .int y1), (0, .ref (al 7 0)), (1, .int v1), (2, .int v2), (3, .int v3)]) hx hb dX12_writesLine_83 hl (by decide) rfl (fun ls hl => ?_)
  exact wM_writesLine_85  hC  FU σ7 y1 0 H locs ls h hP hS (lv_sub hl [2, 1, 0] rfl)

set_option maxRecDepth 20000 in
theorem tM_writesLine {l : Launch} (x : Wx) (al : Nat → Nat → Nat) (lv : Nat → Bool) (σ : Sg) (v1 : Int32) (v2 : Int32) (v3 : Int32) (res : Sg) (h : fM_writesLine σ v1 v2 v3 = some res) : Met l yX12_writesLine (Cond.code yX12_writesLine cX12_writesLine 6 none :: lwg) (rmm 1 0 0) (va_Pc [.ref (al 7 0), .int v1, .int v2, .int v3] (Wd x al lv σ)) (QV x al lv res) 0 0 (Ab x) := by
  refine met_W (by decide) (Nat.le_of_ble_eq_true rfl) rfl (fun p e s m args below meth c ls hC hP hS hl => ?_)
  exact wM_writesLine_0  hC σ v1 v2 v3 _ _ ls h hP hS hl
set_option maxHeartbeats 4000000 in
set_option maxRecDepth 20000 in
theorem wM_goes_129 {p : Program} {l : Launch} {e : Env} {s : State} {m : MethodId} {args : Array Value} {below : List Frame} {meth : Method} {c : Code} {x : Wx} {al : Nat → Nat → Nat} {lv : Nat → Bool} {res : Int32 × Sg} (hC : Cx x p s m args meth c cX12_goes 7 (some .int) RX12) (k5 : Sg → Int32 → Int32 → Int32 → Int32 → Option (Int32 × Sg)) (hk5 : ∀ (σ : Sg) (x1 : Int32) (x2 : Int32) (x3 : Int32) (x4 : Int32) (H : Heap) (locs : List Loc) (ls : Array Slot), k5 σ x1 x2 x3 x4 = some res → Pic x al lv σ H → va_S (Ab x) s.heap H locs → lv_has ls 7 [(0, .ref (al 7 0)), (1, .int x1), (2, .int x2), (3, .int x3), (4, .int x4)] → W p l e (rmm 6 0 0) s m args below meth c H locs 0 0 (MQ below (QI x al lv res) args s 0 0 (Ab x)) (F0 m 5 ls [])) (σ : Sg) (x1 : Int32) (x2 : Int32) (x3 : Int32) (x4 : Int32) (H : Heap) (locs : List Loc) (ls : Array Slot) (h : fM_goes_129 k5 σ x1 x2 x3 x4 = some res) (hP : Pic x al lv σ H) (hS : va_S (Ab x) s.heap H locs) (hl : lv_has ls 7 [(0, .ref (al 7 0)), (1, .int x1), (2, .int x2), (3, .int x3), (4, .int x4)]) : W p l e (rmm 6 0 0) s m args below meth c H locs 0 0 (MQ below (QI x al lv res) args s 0 0 (Ab x)) (F0 m 129 ls []) := by
  obtain ⟨hx, hb, hml, hown, hts⟩ := hC.1
  unfold fM_goes_129 at h
  refine r_iinc (v := 1) hC h dX12_goes_129 hl (k := 4) rfl rfl (by decide) (fun y9 => [(4, .int y9), (0, .ref (al 7 0)), (1, .int x1), (2, .int x2), (3, .int x3)]) (fun _ => rfl) (fun y9 ls h hl => ?_)
  refine lv_goto (tgt := 5) hx hb dX12_goes_132 (by decide) ?_
  exact hk5 σ x1 x2 x3 y9 H locs ls h hP hS (lv_sub hl [1, 2, 3, 4, 0] rfl)

set_option maxHeartbeats 4000000 in
set_option maxRecDepth 20000 in
theorem wM_goes_116 {p : Program} {l : Launch} {e : Env} {s : State} {m : MethodId} {args : Array Value} {below : List Frame} {meth : Method} {c : Code} {x : Wx} {al : Nat → Nat → Nat} {lv : Nat → Bool} {res : Int32 × Sg} (hC : Cx x p s m args meth c cX12_goes 7 (some .int) RX12) (k5 : Sg → Int32 → Int32 → Int32 → Int32 → Option (Int32 × Sg)) (hk5 : ∀ (σ : Sg) (x1 : Int32) (x2 : Int32) (x3 : Int32) (x4 : Int32) (H : Heap) (locs : List Loc) (ls : Array Slot), k5 σ x1 x2 x3 x4 = some res → Pic x al lv σ H → va_S (Ab x) s.heap H locs → lv_has ls 7 [(0, .ref (al 7 0)), (1, .int x1), (2, .int x2), (3, .int x3), (4, .int x4)] → W p l e (rmm 6 0 0) s m args below meth c H locs 0 0 (MQ below (QI x al lv res) args s 0 0 (Ab x)) (F0 m 5 ls [])) (σ : Sg) (x1 : Int32) (x2 : Int32) (x3 : Int32) (x4 : Int32) (H : Heap) (locs : List Loc) (ls : Array Slot) (h : fM_goes_116 k5 σ x1 x2 x3 x4 = some res) (hP : Pic x al lv σ H) (hS : va_S (Ab x) s.heap H locs) (hl : lv_has ls 7 [(0, .ref (al 7 0)), (1, .int x1), (2, .int x2), (3, .int x3), (4, .int x4)]) : W p l e (rmm 6 0 0) s m args below meth c H locs 0 0 (MQ below (QI x al lv res) args s 0 0 (Ab x)) (F0 m 116 ls []) := by
  obtain ⟨hx, hb, hml, hown, hts⟩ := hC.1
  unfold fM_goes_116 at h
  refine lv_aload_n hx hb dX12_goes_116 rfl (lv_at hl 0 rfl) ?_
  refine gt_X12_24 hC hP wf_X12_82 dX12_goes_117 ?_
  refine lv_iload hx hb dX12_goes_120 (lv_at hl 4 rfl) ?_
  refine lv_aload_n hx hb dX12_goes_122 rfl (lv_at hl 0 rfl) ?_
  refine gt_X12_6 hC hP wf_X12_27 dX12_goes_123 ?_
  refine lv_iconst (v := 0) hx hb dX12_goes_126 (by decide) ?_
  refine r_iald hC hP (aM_6 hP.l7) h dX12_goes_127 (fun h => ?_)
  refine r_iast hC hP hS (aM_24 hP.l7) h dX12_goes_128 (fun σ8 H locs h hP hS => ?_)
  exact wM_goes_129  hC k5 hk5 σ8 x1 x2 x3 x4 H locs ls h hP hS (lv_sub hl [0, 1, 2, 3, 4] rfl)

set_option maxHeartbeats 4000000 in
set_option maxRecDepth 20000 in
theorem wM_goes_342 {p : Program} {l : Launch} {e : Env} {s : State} {m : MethodId} {args : Array Value} {below : List Frame} {meth : Method} {c : Code} {x : Wx} {al : Nat → Nat → Nat} {lv : Nat → Bool} {res : Int32 × Sg} (hC : Cx x p s m args meth c cX12_goes 7 (some .int) RX12) (k138 : Sg → Int32 → Int32 → Int32 → Option (Int32 × Sg)) (hk138 : ∀ (σ : Sg) (x2 : Int32) (x3 : Int32) (x4 : Int32) (H : Heap) (locs : List Loc) (ls : Array Slot), k138 σ x2 x3 x4 = some res → Pic x al lv σ H → va_S (Ab x) s.heap H locs → lv_has ls 7 [(0, .ref (al 7 0)), (2, .int x2), (3, .int x3), (4, .int x4)] → W p l e (rmm 6 0 0) s m args below meth c H locs 0 0 (MQ below (QI x al lv res) args s 0 0 (Ab x)) (F0 m 138 ls [])) (σ : Sg) (x2 : Int32) (x3 : Int32) (x4 : Int32) (H : Heap) (locs : List Loc) (ls : Array Slot) (h : fM_goes_342 k138 σ x2 x3 x4 = some res) (hP : Pic x al lv σ H) (hS : va_S (Ab x) s.heap H locs) (hl : lv_has ls 7 [(0, .ref (al 7 0)), (2, .int x2), (3, .int x3), (4, .int x4)]) : W p l e (rmm 6 0 0) s m args below meth c H locs 0 0 (MQ below (QI x al lv res) args s 0 0 (Ab x)) (F0 m 342 ls []) := by
  obtain ⟨hx, hb, hml, hown, hts⟩ := hC.1
  unfold fM_goes_342 at h
  refine r_iinc (v := 1) hC h dX12_goes_342 hl (k := 3) rfl rfl (by decide) (fun y13 => [(4, .int y13), (0, .ref (al 7 0)), (2, .int x2), (3, .int x3)]) (fun _ => rfl) (fun y13 ls h hl => ?_)
  refine lv_goto (tgt := 138) hx hb dX12_goes_345 (by decide) ?_
  exact hk138 σ x2 x3 y13 H locs ls h hP hS (lv_sub hl [1, 2, 3, 0] rfl)

set_option maxHeartbeats 4000000 in
set_option maxRecDepth 20000 in
theorem wM_goes_300 {p : Program} {l : Launch} {e : Env} {s : State} {m : MethodId} {args : Array Value} {below : List Frame} {meth : Method} {c : Code} {x : Wx} {al : Nat → Nat → Nat} {lv : Nat → Bool} {res : Int32 × Sg} (hC : Cx x p s m args meth c cX12_goes 7 (some .int) RX12) (k138 : Sg → Int32 → Int32 → Int32 → Option (Int32 × Sg)) (hk138 : ∀ (σ : Sg) (x2 : Int32) (x3 : Int32) (x4 : Int32) (H : Heap) (locs : List Loc) (ls : Array Slot), k138 σ x2 x3 x4 = some res → Pic x al lv σ H → va_S (Ab x) s.heap H locs → lv_has ls 7 [(0, .ref (al 7 0)), (2, .int x2), (3, .int x3), (4, .int x4)] → W p l e (rmm 6 0 0) s m args below meth c H locs 0 0 (MQ below (QI x al lv res) args s 0 0 (Ab x)) (F0 m 138 ls [])) (σ : Sg) (x2 : Int32) (x3 : Int32) (x4 : Int32) (x5 : Int32) (x6 : Int32) (H : Heap) (locs : List Loc) (ls : Array Slot) (h : fM_goes_300 k138 σ x2 x3 x4 x5 x6 = some res) (hP : Pic x al lv σ H) (hS : va_S (Ab x) s.heap H locs) (hl : lv_has ls 7 [(0, .ref (al 7 0)), (2, .int x2), (3, .int x3), (4, .int x4), (5, .int x5), (6, .int x6)]) : W p l e (rmm 6 0 0) s m args below meth c H locs 0 0 (MQ below (QI x al lv res) args s 0 0 (Ab x)) (F0 m 300 ls []) := by
  obtain ⟨hx, hb, hml, hown, hts⟩ := hC.1
  unfold fM_goes_300 at h
  refine lv_aload_n hx hb dX12_goes_300 rfl (lv_at hl 0 rfl) ?_
  refine gt_X12_20 hC hP wf_X12_70 dX12_goes_301 ?_
  refine lv_iload hx hb dX12_goes_304 (lv_at hl 3 rfl) ?_
  refine lv_iload hx hb dX12_goes_306 (lv_at hl 4 rfl) ?_
  refine r_iast hC hP hS (aM_20 hP.l7) h dX12_goes_308 (fun σ18 H locs h hP hS => ?_)
  refine lv_iload hx hb dX12_goes_309 (lv_at hl 5 rfl) ?_
  refine lv_if_ne (tgt := 317) hx hb dX12_goes_311 (by decide) (fun hc => ?_) (fun hc => ?_)
  · replace h := (br h).2 hc
    refine lv_aload_n hx hb dX12_goes_317 rfl (lv_at hl 0 rfl) ?_
    refine gt_X12_9 hC hP wf_X12_37 dX12_goes_318 ?_
    refine lv_iconst (v := 3) hx hb dX12_goes_321 (by decide) ?_
    refine lv_dup2_11 hx hb dX12_goes_322 rfl rfl ?_
    refine r_iald hC hP (aM_9 hP.l7) h dX12_goes_323 (fun h => ?_)
    refine lv_iload hx hb dX12_goes_324 (lv_at hl 4 rfl) ?_
    refine lv_iadd hx hb dX12_goes_326 ?_
    refine r_iast hC hP hS (aM_9 hP.l7) h dX12_goes_327 (fun σ19 H locs h hP hS => ?_)
    refine lv_aload_n hx hb dX12_goes_328 rfl (lv_at hl 0 rfl) ?_
    refine gt_X12_20 hC hP wf_X12_70 dX12_goes_329 ?_
    refine lv_iload hx hb dX12_goes_332 (lv_at hl 3 rfl) ?_
    refine lv_iconst (v := 0) hx hb dX12_goes_334 (by decide) ?_
    refine r_iast hC hP hS (aM_20 hP.l7) h dX12_goes_335 (fun σ20 H locs h hP hS => ?_)
    refine lv_aload_n hx hb dX12_goes_336 rfl (lv_at hl 0 rfl) ?_
    refine lv_iload hx hb dX12_goes_337 (lv_at hl 3 rfl) ?_
    refine r_cV hS h (fun r hr => r_runV (As := [.int x4]) (rest := []) hC kV_X12_241 cw_X12_out (rc_X12 hC hP) hP (tM_out x al lv σ20 x4 r hr) rfl hl.1 ⟨Nat.le_of_ble_eq_true rfl, Nat.le_of_ble_eq_true rfl⟩ ⟨Nat.le_of_ble_eq_true rfl, Nat.le_of_ble_eq_true rfl⟩ (Nat.le_of_ble_eq_true rfl) dX12_goes_339) (fun σ21 H locs h hP hS => ?_)
    exact wM_goes_342  hC k138 hk138 σ21 x2 x3 x4 H locs ls h hP hS (lv_sub hl [0, 1, 2, 3] rfl)
  · replace h := (br h).1 hc
    refine lv_goto (tgt := 342) hx hb dX12_goes_314 (by decide) ?_
    exact wM_goes_342  hC k138 hk138 σ18 x2 x3 x4 H locs ls h hP hS (lv_sub hl [0, 1, 2, 3] rfl)

set_option maxHeartbeats 4000000 in
set_option maxRecDepth 20000 in
theorem wM_goes_233 {p : Program} {l : Launch} {e : Env} {s : State} {m : MethodId} {args : Array Value} {below : List Frame} {meth : Method} {c : Code} {x : Wx} {al : Nat → Nat → Nat} {lv : Nat → Bool} {res : Int32 × Sg} (hC : Cx x p s m args meth c cX12_goes 7 (some .int) RX12) (k138 : Sg → Int32 → Int32 → Int32 → Option (Int32 × Sg)) (hk138 : ∀ (σ : Sg) (x2 : Int32) (x3 : Int32) (x4 : Int32) (H : Heap) (locs : List Loc) (ls : Array Slot), k138 σ x2 x3 x4 = some res → Pic x al lv σ H → va_S (Ab x) s.heap H locs → lv_has ls 7 [(0, .ref (al 7 0)), (2, .int x2), (3, .int x3), (4, .int x4)] → W p l e (rmm 6 0 0) s m args below meth c H locs 0 0 (MQ below (QI x al lv res) args s 0 0 (Ab x)) (F0 m 138 ls [])) (σ : Sg) (x2 : Int32) (x3 : Int32) (x4 : Int32) (x5 : Int32) (x6 : Int32) (H : Heap) (locs : List Loc) (ls : Array Slot) (h : fM_goes_233 k138 σ x2 x3 x4 x5 x6 = some res) (hP : Pic x al lv σ H) (hS : va_S (Ab x) s.heap H locs) (hl : lv_has ls 7 [(0, .ref (al 7 0)), (2, .int x2), (3, .int x3), (4, .int x4), (5, .int x5), (6, .int x6)]) : W p l e (rmm 6 0 0) s m args below meth c H locs 0 0 (MQ below (QI x al lv res) args s 0 0 (Ab x)) (F0 m 233 ls []) := by
  obtain ⟨hx, hb, hml, hown, hts⟩ := hC.1
  unfold fM_goes_233 at h
  refine lv_iload_n hx hb dX12_goes_233 rfl (lv_at hl 2 rfl) ?_
  refine lv_aload_n hx hb dX12_goes_234 rfl (lv_at hl 0 rfl) ?_
  refine gt_X12_30 hC hP wf_X12_94 dX12_goes_235 ?_
  refine lv_iload hx hb dX12_goes_238 (lv_at hl 3 rfl) ?_
  refine r_iald hC hP (aM_30 hP.l7) h dX12_goes_240 (fun h => ?_)
  refine lv_iadd hx hb dX12_goes_241 ?_
  refine r_lt h (fun y15 h => ?_)
  refine lv_istore_n (lv' := [(3, .int y15), (0, .ref (al 7 0)), (2, .int x2), (4, .int x4), (5, .int x5), (6, .int x6)]) hx hb dX12_goes_242 rfl hl (by decide) rfl (fun ls hl => ?_)
  refine lv_aload_n hx hb dX12_goes_243 rfl (lv_at hl 1 rfl) ?_
  refine gt_X12_31 hC hP wf_X12_97 dX12_goes_244 ?_
  refine lv_iload hx hb dX12_goes_247 (lv_at hl 3 rfl) ?_
  refine r_zald hC hP (aM_31 hP.l7) h dX12_goes_249 (fun h => ?_)
  refine lv_if_eq (tgt := 278) hx hb dX12_goes_250 (by decide) (fun hc => ?_) (fun hc => ?_)
  · replace h := (br h).1 hc
    refine lv_aload_n hx hb dX12_goes_278 rfl (lv_at hl 1 rfl) ?_
    refine gt_X12_16 hC hP wf_X12_58 dX12_goes_279 ?_
    refine lv_aload_n hx hb dX12_goes_282 rfl (lv_at hl 1 rfl) ?_
    refine gt_X12_21 hC hP wf_X12_73 dX12_goes_283 ?_
    refine lv_iload hx hb dX12_goes_286 (lv_at hl 3 rfl) ?_
    refine r_iald hC hP (aM_21 hP.l7) h dX12_goes_288 (fun h => ?_)
    refine lv_dup2_11 hx hb dX12_goes_289 rfl rfl ?_
    refine r_iald hC hP (aM_16 hP.l7) h dX12_goes_290 (fun h => ?_)
    refine lv_aload_n hx hb dX12_goes_291 rfl (lv_at hl 1 rfl) ?_
    refine gt_X12_30 hC hP wf_X12_94 dX12_goes_292 ?_
    refine lv_iload hx hb dX12_goes_295 (lv_at hl 3 rfl) ?_
    refine r_iald hC hP (aM_30 hP.l7) h dX12_goes_297 (fun h => ?_)
    refine lv_iadd hx hb dX12_goes_298 ?_
    refine r_iast hC hP hS (aM_16 hP.l7) h dX12_goes_299 (fun σ16 H locs h hP hS => ?_)
    exact wM_goes_300  hC k138 hk138 σ16 x2 y15 x4 x5 x6 H locs ls h hP hS (lv_sub hl [1, 2, 0, 3, 4, 5] rfl)
  · replace h := (br h).2 hc
    refine lv_aload_n hx hb dX12_goes_253 rfl (lv_at hl 1 rfl) ?_
    refine gt_X12_15 hC hP wf_X12_55 dX12_goes_254 ?_
    refine lv_aload_n hx hb dX12_goes_257 rfl (lv_at hl 1 rfl) ?_
    refine gt_X12_21 hC hP wf_X12_73 dX12_goes_258 ?_
    refine lv_iload hx hb dX12_goes_261 (lv_at hl 3 rfl) ?_
    refine r_iald hC hP (aM_21 hP.l7) h dX12_goes_263 (fun h => ?_)
    refine lv_dup2_11 hx hb dX12_goes_264 rfl rfl ?_
    refine r_iald hC hP (aM_15 hP.l7) h dX12_goes_265 (fun h => ?_)
    refine lv_aload_n hx hb dX12_goes_266 rfl (lv_at hl 1 rfl) ?_
    refine gt_X12_30 hC hP wf_X12_94 dX12_goes_267 ?_
    refine lv_iload hx hb dX12_goes_270 (lv_at hl 3 rfl) ?_
    refine r_iald hC hP (aM_30 hP.l7) h dX12_goes_272 (fun h => ?_)
    refine lv_iadd hx hb dX12_goes_273 ?_
    refine r_iast hC hP hS (aM_15 hP.l7) h dX12_goes_274 (fun σ17 H locs h hP hS => ?_)
    refine lv_goto (tgt := 300) hx hb dX12_goes_275 (by decide) ?_
    exact wM_goes_300  hC k138 hk138 σ17 x2 y15 x4 x5 x6 H locs ls h hP hS (lv_sub hl [1, 2, 0, 3, 4, 5] rfl)

set_option maxHeartbeats 4000000 in
set_option maxRecDepth 20000 in
theorem wM_goes_230 {p : Program} {l : Launch} {e : Env} {s : State} {m : MethodId} {args : Array Value} {below : List Frame} {meth : Method} {c : Code} {x : Wx} {al : Nat → Nat → Nat} {lv : Nat → Bool} {res : Int32 × Sg} (hC : Cx x p s m args meth c cX12_goes 7 (some .int) RX12) (k138 : Sg → Int32 → Int32 → Int32 → Option (Int32 × Sg)) (hk138 : ∀ (σ : Sg) (x2 : Int32) (x3 : Int32) (x4 : Int32) (H : Heap) (locs : List Loc) (ls : Array Slot), k138 σ x2 x3 x4 = some res → Pic x al lv σ H → va_S (Ab x) s.heap H locs → lv_has ls 7 [(0, .ref (al 7 0)), (2, .int x2), (3, .int x3), (4, .int x4)] → W p l e (rmm 6 0 0) s m args below meth c H locs 0 0 (MQ below (QI x al lv res) args s 0 0 (Ab x)) (F0 m 138 ls [])) (σ : Sg) (x2 : Int32) (x3 : Int32) (x4 : Int32) (x5 : Int32) (x6 : Int32) (t0 : Int32) (t1 : Int32) (t2 : Int32) (H : Heap) (locs : List Loc) (ls : Array Slot) (h : fM_goes_230 k138 σ x2 x3 x4 x5 x6 t0 t1 t2 = some res) (hP : Pic x al lv σ H) (hS : va_S (Ab x) s.heap H locs) (hl : lv_has ls 7 [(0, .ref (al 7 0)), (2, .int x2), (3, .int x3), (4, .int x4), (5, .int x5), (6, .int x6)]) : W p l e (rmm 6 0 0) s m args below meth c H locs 0 0 (MQ below (QI x al lv res) args s 0 0 (Ab x)) (F0 m 230 ls [.int t0, .int t1, .int t2, .ref (al 7 0)]) := by
  obtain ⟨hx, hb, hml, hown, hts⟩ := hC.1
  unfold fM_goes_230 at h
  refine r_cV hS h (fun r hr => r_runV (As := [.int t2, .int t1, .int t0]) (rest := []) hC kV_X12_237 cw_X12_writesLine (rc_X12 hC hP) hP (tM_writesLine x al lv σ t2 t1 t0 r hr) rfl hl.1 ⟨Nat.le_of_ble_eq_true rfl, Nat.le_of_ble_eq_true rfl⟩ ⟨Nat.le_of_ble_eq_true rfl, Nat.le_of_ble_eq_true rfl⟩ (Nat.le_of_ble_eq_true rfl) dX12_goes_230) (fun σ14 H locs h hP hS => ?_)
  exact wM_goes_233  hC k138 hk138 σ14 x2 x3 x4 x5 x6 H locs ls h hP hS (lv_sub hl [0, 1, 2, 3, 4, 5] rfl)

set_option maxHeartbeats 4000000 in
set_option maxRecDepth 20000 in
theorem wM_goes_193 {p : Program} {l : Launch} {e : Env} {s : State} {m : MethodId} {args : Array Value} {below : List Frame} {meth : Method} {c : Code} {x : Wx} {al : Nat → Nat → Nat} {lv : Nat → Bool} {res : Int32 × Sg} (hC : Cx x p s m args meth c cX12_goes 7 (some .int) RX12) (k138 : Sg → Int32 → Int32 → Int32 → Option (Int32 × Sg)) (hk138 : ∀ (σ : Sg) (x2 : Int32) (x3 : Int32) (x4 : Int32) (H : Heap) (locs : List Loc) (ls : Array Slot), k138 σ x2 x3 x4 = some res → Pic x al lv σ H → va_S (Ab x) s.heap H locs → lv_has ls 7 [(0, .ref (al 7 0)), (2, .int x2), (3, .int x3), (4, .int x4)] → W p l e (rmm 6 0 0) s m args below meth c H locs 0 0 (MQ below (QI x al lv res) args s 0 0 (Ab x)) (F0 m 138 ls [])) (σ : Sg) (x2 : Int32) (x3 : Int32) (x4 : Int32) (x5 : Int32) (t0 : Int32) (H : Heap) (locs : List Loc) (ls : Array Slot) (h : fM_goes_193 k138 σ x2 x3 x4 x5 t0 = some res) (hP : Pic x al lv σ H) (hS : va_S (Ab x) s.heap H locs) (hl : lv_has ls 7 [(0, .ref (al 7 0)), (2, .int x2), (3, .int x3), (4, .int x4), (5, .int x5)]) : W p l e (rmm 6 0 0) s m args below meth c H locs 0 0 (MQ below (QI x al lv res) args s 0 0 (Ab x)) (F0 m 193 ls [.int t0]) := by
  obtain ⟨hx, hb, hml, hown, hts⟩ := hC.1
  unfold fM_goes_193 at h
  refine lv_istore (lv' := [(6, .int t0), (0, .ref (al 7 0)), (2, .int x2), (3, .int x3), (4, .int x4), (5, .int x5)]) hx hb dX12_goes_193 hl (by decide) rfl (fun ls hl => ?_)
  refine lv_iload_n hx hb dX12_goes_195 rfl (lv_at hl 2 rfl) ?_
  refine lv_if_eq (tgt := 233) hx hb dX12_goes_196 (by decide) (fun hc => ?_) (fun hc => ?_)
  · replace h := (br h).1 hc
    exact wM_goes_233  hC k138 hk138 σ x2 x3 x4 x5 t0 H locs ls h hP hS (lv_sub hl [1, 2, 3, 4, 5, 0] rfl)
  · replace h := (br h).2 hc
    refine lv_aload_n hx hb dX12_goes_199 rfl (lv_at hl 1 rfl) ?_
    refine gt_X12_30 hC hP wf_X12_94 dX12_goes_200 ?_
    refine lv_iload hx hb dX12_goes_203 (lv_at hl 4 rfl) ?_
    refine r_iald hC hP (aM_30 hP.l7) h dX12_goes_205 (fun h => ?_)
    refine lv_if_le (tgt := 233) hx hb dX12_goes_206 (by decide) (fun hc => ?_) (fun hc => ?_)
    · replace h := (br h).1 hc
      exact wM_goes_233  hC k138 hk138 σ x2 x3 x4 x5 t0 H locs ls h hP hS (lv_sub hl [1, 2, 3, 4, 5, 0] rfl)
    · replace h := (br h).2 hc
      refine lv_aload_n hx hb dX12_goes_209 rfl (lv_at hl 1 rfl) ?_
      refine lv_iload hx hb dX12_goes_210 (lv_at hl 4 rfl) ?_
      refine lv_aload_n hx hb dX12_goes_212 rfl (lv_at hl 1 rfl) ?_
      refine gt_X12_30 hC hP wf_X12_94 dX12_goes_213 ?_
      refine lv_iload hx hb dX12_goes_216 (lv_at hl 4 rfl) ?_
      refine r_iald hC hP (aM_30 hP.l7) h dX12_goes_218 (fun h => ?_)
      refine lv_iload hx hb dX12_goes_219 (lv_at hl 0 rfl) ?_
      refine lv_if_eq (tgt := 228) hx hb dX12_goes_221 (by decide) (fun hc => ?_) (fun hc => ?_)
      · replace h := (br h).1 hc
        refine lv_iload hx hb dX12_goes_228 (lv_at hl 5 rfl) ?_
        exact wM_goes_230  hC k138 hk138 σ x2 x3 x4 x5 t0 x5 (σ 7 30 x4.toNatClampNeg) x4 H locs ls h hP hS (lv_sub hl [1, 2, 3, 4, 5, 0] rfl)
      · replace h := (br h).2 hc
        refine lv_iconst (v := 0) hx hb dX12_goes_224 (by decide) ?_
        refine lv_goto (tgt := 230) hx hb dX12_goes_225 (by decide) ?_
        exact wM_goes_230  hC k138 hk138 σ x2 x3 x4 x5 t0 0 (σ 7 30 x4.toNatClampNeg) x4 H locs ls h hP hS (lv_sub hl [1, 2, 3, 4, 5, 0] rfl)

set_option maxHeartbeats 4000000 in
set_option maxRecDepth 20000 in
theorem wM_goes_138_b {p : Program} {l : Launch} {e : Env} {s : State} {m : MethodId} {args : Array Value} {below : List Frame} {meth : Method} {c : Code} {x : Wx} {al : Nat → Nat → Nat} {lv : Nat → Bool} {res : Int32 × Sg} (hC : Cx x p s m args meth c cX12_goes 7 (some .int) RX12) (k138 : Sg → Int32 → Int32 → Int32 → Option (Int32 × Sg)) (hk138 : ∀ (σ : Sg) (x2 : Int32) (x3 : Int32) (x4 : Int32) (H : Heap) (locs : List Loc) (ls : Array Slot), k138 σ x2 x3 x4 = some res → Pic x al lv σ H → va_S (Ab x) s.heap H locs → lv_has ls 7 [(0, .ref (al 7 0)), (2, .int x2), (3, .int x3), (4, .int x4)] → W p l e (rmm 6 0 0) s m args below meth c H locs 0 0 (MQ below (QI x al lv res) args s 0 0 (Ab x)) (F0 m 138 ls [])) (σ : Sg) (x2 : Int32) (x3 : Int32) (x4 : Int32) (H : Heap) (locs : List Loc) (ls : Array Slot) (h : fM_goes_138_b k138 σ x2 x3 x4 = some res) (hP : Pic x al lv σ H) (hS : va_S (Ab x) s.heap H locs) (hl : lv_has ls 7 [(0, .ref (al 7 0)), (2, .int x2), (3, .int x3), (4, .int x4)]) : W p l e (rmm 6 0 0) s m args below meth c H locs 0 0 (MQ below (QI x al lv res) args s 0 0 (Ab x)) (F0 m 138 ls []) := by
  obtain ⟨hx, hb, hml, hown, hts⟩ := hC.1
  unfold fM_goes_138_b at h
  refine lv_iload hx hb dX12_goes_138 (lv_at hl 3 rfl) ?_
  refine lv_aload_n hx hb dX12_goes_140 rfl (lv_at hl 0 rfl) ?_
  refine gt_X12_8 hC hP wf_X12_34 dX12_goes_141 ?_
  refine lv_iconst (v := 0) hx hb dX12_goes_144 (by decide) ?_
  refine r_iald hC hP (aM_8 hP.l7) h dX12_goes_145 (fun h => ?_)
  refine lv_icmp_ge (tgt := 348) hx hb dX12_goes_146 (by decide) (fun hc => ?_) (fun hc => ?_)
  · replace h := (br h).1 hc
    refine lv_aload_n hx hb dX12_goes_348 rfl (lv_at hl 0 rfl) ?_
    refine gt_X12_9 hC hP wf_X12_37 dX12_goes_349 ?_
    refine lv_iconst (v := 2) hx hb dX12_goes_352 (by decide) ?_
    refine lv_dup2_11 hx hb dX12_goes_353 rfl rfl ?_
    refine r_iald hC hP (aM_9 hP.l7) h dX12_goes_354 (fun h => ?_)
    refine lv_iload_n hx hb dX12_goes_355 rfl (lv_at hl 2 rfl) ?_
    refine lv_iadd hx hb dX12_goes_356 ?_
    refine r_iast hC hP hS (aM_9 hP.l7) h dX12_goes_357 (fun σ10 H locs h hP hS => ?_)
    refine lv_aload_n hx hb dX12_goes_358 rfl (lv_at hl 0 rfl) ?_
    refine gt_X12_6 hC hP wf_X12_27 dX12_goes_359 ?_
    refine lv_iconst (v := 0) hx hb dX12_goes_362 (by decide) ?_
    refine lv_dup2_11 hx hb dX12_goes_363 rfl rfl ?_
    refine r_iald hC hP (aM_6 hP.l7) h dX12_goes_364 (fun h => ?_)
    refine lv_iconst (v := 1) hx hb dX12_goes_365 (by decide) ?_
    refine lv_iadd hx hb dX12_goes_366 ?_
    refine r_iast hC hP hS (aM_6 hP.l7) h dX12_goes_367 (fun σ11 H locs h hP hS => ?_)
    refine lv_iload_n hx hb dX12_goes_368 rfl (lv_at hl 2 rfl) ?_
    exact r_retI hC hP hS rfl h dX12_goes_369
  · replace h := (br h).2 hc
    refine lv_aload_n hx hb dX12_goes_149 rfl (lv_at hl 0 rfl) ?_
    refine gt_X12_21 hC hP wf_X12_73 dX12_goes_150 ?_
    refine lv_iload hx hb dX12_goes_153 (lv_at hl 3 rfl) ?_
    refine r_iald hC hP (aM_21 hP.l7) h dX12_goes_155 (fun h => ?_)
    refine lv_if_ge (tgt := 162) hx hb dX12_goes_156 (by decide) (fun hc => ?_) (fun hc => ?_)
    · replace h := (br h).1 hc
      refine lv_aload_n hx hb dX12_goes_162 rfl (lv_at hl 0 rfl) ?_
      refine gt_X12_20 hC hP wf_X12_70 dX12_goes_163 ?_
      refine lv_iload hx hb dX12_goes_166 (lv_at hl 3 rfl) ?_
      refine r_iald hC hP (aM_20 hP.l7) h dX12_goes_168 (fun h => ?_)
      refine lv_aload_n hx hb dX12_goes_169 rfl (lv_at hl 0 rfl) ?_
      refine gt_X12_30 hC hP wf_X12_94 dX12_goes_170 ?_
      refine lv_iload hx hb dX12_goes_173 (lv_at hl 3 rfl) ?_
      refine r_iald hC hP (aM_30 hP.l7) h dX12_goes_175 (fun h => ?_)
      refine lv_isub hx hb dX12_goes_176 ?_
      refine r_lt h (fun y12 h => ?_)
      refine lv_istore (lv' := [(5, .int y12), (0, .ref (al 7 0)), (2, .int x2), (3, .int x3), (4, .int x4)]) hx hb dX12_goes_177 hl (by decide) rfl (fun ls hl => ?_)
      refine lv_iload hx hb dX12_goes_179 (lv_at hl 0 rfl) ?_
      refine lv_aload_n hx hb dX12_goes_181 rfl (lv_at hl 1 rfl) ?_
      refine gt_X12_5 hC hP wf_X12_24 dX12_goes_182 ?_
      refine lv_icmp_ge (tgt := 192) hx hb dX12_goes_185 (by decide) (fun hc => ?_) (fun hc => ?_)
      · replace h := (br h).1 hc
        refine lv_iconst (v := 0) hx hb dX12_goes_192 (by decide) ?_
        exact wM_goes_193  hC k138 hk138 σ x2 x3 x4 y12 0 H locs ls h hP hS (lv_sub hl [1, 2, 3, 4, 0] rfl)
      · replace h := (br h).2 hc
        refine lv_iconst (v := 1) hx hb dX12_goes_188 (by decide) ?_
        refine lv_goto (tgt := 193) hx hb dX12_goes_189 (by decide) ?_
        exact wM_goes_193  hC k138 hk138 σ x2 x3 x4 y12 1 H locs ls h hP hS (lv_sub hl [1, 2, 3, 4, 0] rfl)
    · replace h := (br h).2 hc
      refine lv_goto (tgt := 342) hx hb dX12_goes_159 (by decide) ?_
      exact wM_goes_342  hC k138 hk138 σ x2 x3 x4 H locs ls h hP hS (lv_sub hl [0, 1, 2, 3] rfl)

set_option maxHeartbeats 4000000 in
set_option maxRecDepth 20000 in
theorem wM_goes_138 {p : Program} {l : Launch} {e : Env} {s : State} {m : MethodId} {args : Array Value} {below : List Frame} {meth : Method} {c : Code} {x : Wx} {al : Nat → Nat → Nat} {lv : Nat → Bool} {res : Int32 × Sg} (hC : Cx x p s m args meth c cX12_goes 7 (some .int) RX12) (n : Nat) (σ : Sg) (x2 : Int32) (x3 : Int32) (x4 : Int32) (H : Heap) (locs : List Loc) (ls : Array Slot) (h : fM_goes_138 n σ x2 x3 x4 = some res) (hP : Pic x al lv σ H) (hS : va_S (Ab x) s.heap H locs) (hl : lv_has ls 7 [(0, .ref (al 7 0)), (2, .int x2), (3, .int x3), (4, .int x4)]) : W p l e (rmm 6 0 0) s m args below meth c H locs 0 0 (MQ below (QI x al lv res) args s 0 0 (Ab x)) (F0 m 138 ls []) := by
  induction n generalizing σ x2 x3 x4 H locs ls with
  | zero => exact nomatch h
  | succ n ih => exact wM_goes_138_b  hC  _ (fun σ x2 x3 x4 H locs ls h hP hS hl => ih σ x2 x3 x4 H locs ls h hP hS hl) σ x2 x3 x4 H locs ls h hP hS hl
set_option maxHeartbeats 4000000 in
set_option maxRecDepth 20000 in
theorem wM_goes_5_b {p : Program} {l : Launch} {e : Env} {s : State} {m : MethodId} {args : Array Value} {below : List Frame} {meth : Method} {c : Code} {x : Wx} {al : Nat → Nat → Nat} {lv : Nat → Bool} {res : Int32 × Sg} (hC : Cx x p s m args meth c cX12_goes 7 (some .int) RX12) (k5 : Sg → Int32 → Int32 → Int32 → Int32 → Option (Int32 × Sg)) (hk5 : ∀ (σ : Sg) (x1 : Int32) (x2 : Int32) (x3 : Int32) (x4 : Int32) (H : Heap) (locs : List Loc) (ls : Array Slot), k5 σ x1 x2 x3 x4 = some res → Pic x al lv σ H → va_S (Ab x) s.heap H locs → lv_has ls 7 [(0, .ref (al 7 0)), (1, .int x1), (2, .int x2), (3, .int x3), (4, .int x4)] → W p l e (rmm 6 0 0) s m args below meth c H locs 0 0 (MQ below (QI x al lv res) args s 0 0 (Ab x)) (F0 m 5 ls [])) (σ : Sg) (x1 : Int32) (x2 : Int32) (x3 : Int32) (x4 : Int32) (H : Heap) (locs : List Loc) (ls : Array Slot) (h : fM_goes_5_b k5 σ x1 x2 x3 x4 = some res) (hP : Pic x al lv σ H) (hS : va_S (Ab x) s.heap H locs) (hl : lv_has ls 7 [(0, .ref (al 7 0)), (1, .int x1), (2, .int x2), (3, .int x3), (4, .int x4)]) : W p l e (rmm 6 0 0) s m args below meth c H locs 0 0 (MQ below (QI x al lv res) args s 0 0 (Ab x)) (F0 m 5 ls []) := by
  obtain ⟨hx, hb, hml, hown, hts⟩ := hC.1
  unfold fM_goes_5_b at h
  refine lv_iload hx hb dX12_goes_5 (lv_at hl 4 rfl) ?_
  refine lv_aload_n hx hb dX12_goes_7 rfl (lv_at hl 0 rfl) ?_
  refine gt_X12_8 hC hP wf_X12_34 dX12_goes_8 ?_
  refine lv_iconst (v := 0) hx hb dX12_goes_11 (by decide) ?_
  refine r_iald hC hP (aM_8 hP.l7) h dX12_goes_12 (fun h => ?_)
  refine lv_icmp_ge (tgt := 135) hx hb dX12_goes_13 (by decide) (fun hc => ?_) (fun hc => ?_)
  · replace h := (br h).1 hc
    refine lv_iconst (v := 0) hx hb dX12_goes_135 (by decide) ?_
    refine lv_istore (lv' := [(4, .int 0), (0, .ref (al 7 0)), (1, .int x1), (2, .int x2), (3, .int x3)]) hx hb dX12_goes_136 hl (by decide) rfl (fun ls hl => ?_)
    exact wM_goes_138  hC  FU σ x2 x3 0 H locs ls h hP hS (lv_sub hl [1, 3, 4, 0] rfl)
  · replace h := (br h).2 hc
    refine lv_aload_n hx hb dX12_goes_16 rfl (lv_at hl 0 rfl) ?_
    refine gt_X12_30 hC hP wf_X12_94 dX12_goes_17 ?_
    refine lv_iload hx hb dX12_goes_20 (lv_at hl 4 rfl) ?_
    refine lv_iconst (v := 0) hx hb dX12_goes_22 (by decide) ?_
    refine r_iast hC hP hS (aM_30 hP.l7) h dX12_goes_23 (fun σ1 H locs h hP hS => ?_)
    refine lv_aload_n hx hb dX12_goes_24 rfl (lv_at hl 0 rfl) ?_
    refine gt_X12_21 hC hP wf_X12_73 dX12_goes_25 ?_
    refine lv_iload hx hb dX12_goes_28 (lv_at hl 4 rfl) ?_
    refine r_iald hC hP (aM_21 hP.l7) h dX12_goes_30 (fun h => ?_)
    refine lv_if_ge (tgt := 37) hx hb dX12_goes_31 (by decide) (fun hc => ?_) (fun hc => ?_)
    · replace h := (br h).1 hc
      refine lv_aload_n hx hb dX12_goes_37 rfl (lv_at hl 0 rfl) ?_
      refine gt_X12_30 hC hP wf_X12_94 dX12_goes_38 ?_
      refine lv_iload hx hb dX12_goes_41 (lv_at hl 4 rfl) ?_
      refine lv_aload_n hx hb dX12_goes_43 rfl (lv_at hl 0 rfl) ?_
      refine lv_iload hx hb dX12_goes_44 (lv_at hl 4 rfl) ?_
      refine lv_iload_n hx hb dX12_goes_46 rfl (lv_at hl 1 rfl) ?_
      refine r_cP hS h (fun r hr => r_runV (As := [.int x4, .int x1]) (rest := [.int x4, .ref (al 7 30)]) hC kV_X12_225 cw_X12_loss (rc_X12 hC hP) hP (tM_loss x al lv σ1 x4 x1 r hr) rfl hl.1 ⟨Nat.le_of_ble_eq_true rfl, Nat.le_of_ble_eq_true rfl⟩ ⟨Nat.le_of_ble_eq_true rfl, Nat.le_of_ble_eq_true rfl⟩ (Nat.le_of_ble_eq_true rfl) dX12_goes_47) (fun y2 H locs h hP hS => ?_)
      refine r_iast hC hP hS (aM_30 hP.l7) h dX12_goes_50 (fun σ3 H locs h hP hS => ?_)
      refine lv_aload_n hx hb dX12_goes_51 rfl (lv_at hl 0 rfl) ?_
      refine gt_X12_31 hC hP wf_X12_97 dX12_goes_52 ?_
      refine lv_iload hx hb dX12_goes_55 (lv_at hl 4 rfl) ?_
      refine lv_aload_n hx hb dX12_goes_57 rfl (lv_at hl 0 rfl) ?_
      refine lv_iload hx hb dX12_goes_58 (lv_at hl 4 rfl) ?_
      refine r_cP hS h (fun r hr => r_runV (As := [.int x4]) (rest := [.int x4, .ref (al 7 31)]) hC kV_X12_231 cw_X12_isDrained (rc_X12 hC hP) hP (tM_isDrained x al lv σ3 x4 r hr) rfl hl.1 ⟨Nat.le_of_ble_eq_true rfl, Nat.le_of_ble_eq_true rfl⟩ ⟨Nat.le_of_ble_eq_true rfl, Nat.le_of_ble_eq_true rfl⟩ (Nat.le_of_ble_eq_true rfl) dX12_goes_60) (fun y4 H locs h hP hS => ?_)
      refine r_zast hC hP hS (aM_31 hP.l7) h dX12_goes_63 (fun σ5 H locs h hP hS => ?_)
      refine lv_aload_n hx hb dX12_goes_64 rfl (lv_at hl 0 rfl) ?_
      refine gt_X12_19 hC hP wf_X12_67 dX12_goes_65 ?_
      refine lv_iload hx hb dX12_goes_68 (lv_at hl 4 rfl) ?_
      refine r_iald hC hP (aM_19 hP.l7) h dX12_goes_70 (fun h => ?_)
      refine lv_iconst (v := 1) hx hb dX12_goes_71 (by decide) ?_
      refine lv_icmp_ne (tgt := 129) hx hb dX12_goes_72 (by decide) (fun hc => ?_) (fun hc => ?_)
      · replace h := (br h).2 hc
        exact wM_goes_129  hC k5 hk5 σ5 x1 x2 x3 x4 H locs ls h hP hS (lv_sub hl [0, 1, 2, 3, 4] rfl)
      · replace h := (br h).1 hc
        refine lv_aload_n hx hb dX12_goes_75 rfl (lv_at hl 0 rfl) ?_
        refine gt_X12_24 hC hP wf_X12_82 dX12_goes_76 ?_
        refine lv_iload hx hb dX12_goes_79 (lv_at hl 4 rfl) ?_
        refine r_iald hC hP (aM_24 hP.l7) h dX12_goes_81 (fun h => ?_)
        refine lv_iconst (v := (-1)) hx hb dX12_goes_82 (by decide) ?_
        refine lv_icmp_ne (tgt := 129) hx hb dX12_goes_83 (by decide) (fun hc => ?_) (fun hc => ?_)
        · replace h := (br h).2 hc
          exact wM_goes_129  hC k5 hk5 σ5 x1 x2 x3 x4 H locs ls h hP hS (lv_sub hl [0, 1, 2, 3, 4] rfl)
        · replace h := (br h).1 hc
          refine lv_aload_n hx hb dX12_goes_86 rfl (lv_at hl 0 rfl) ?_
          refine lv_iload hx hb dX12_goes_87 (lv_at hl 4 rfl) ?_
          refine r_cP hS h (fun r hr => r_runV (As := [.int x4]) (rest := []) hC kV_X12_234 cw_X12_isBySalt (rc_X12 hC hP) hP (tM_isBySalt x al lv σ5 x4 r hr) rfl hl.1 ⟨Nat.le_of_ble_eq_true rfl, Nat.le_of_ble_eq_true rfl⟩ ⟨Nat.le_of_ble_eq_true rfl, Nat.le_of_ble_eq_true rfl⟩ (Nat.le_of_ble_eq_true rfl) dX12_goes_89) (fun y6 H locs h hP hS => ?_)
          refine lv_if_ne (tgt := 116) hx hb dX12_goes_92 (by decide) (fun hc => ?_) (fun hc => ?_)
          · replace h := (br h).2 hc
            exact wM_goes_116  hC k5 hk5 σ5 x1 x2 x3 x4 H locs ls h hP hS (lv_sub hl [0, 1, 2, 3, 4] rfl)
          · replace h := (br h).1 hc
            refine lv_aload_n hx hb dX12_goes_95 rfl (lv_at hl 0 rfl) ?_
            refine lv_aload_n hx hb dX12_goes_96 rfl (lv_at hl 0 rfl) ?_
            refine gt_X12_21 hC hP wf_X12_73 dX12_goes_97 ?_
            refine lv_iload hx hb dX12_goes_100 (lv_at hl 4 rfl) ?_
            refine r_iald hC hP (aM_21 hP.l7) h dX12_goes_102 (fun h => ?_)
            refine lv_aload_n hx hb dX12_goes_103 rfl (lv_at hl 0 rfl) ?_
            refine gt_X12_22 hC hP wf_X12_76 dX12_goes_104 ?_
            refine lv_iload hx hb dX12_goes_107 (lv_at hl 4 rfl) ?_
            refine r_iald hC hP (aM_22 hP.l7) h dX12_goes_109 (fun h => ?_)
            refine r_cP hS h (fun r hr => r_runV (As := [.int (σ5 7 21 x4.toNatClampNeg), .int (σ5 7 22 x4.toNatClampNeg)]) (rest := []) hC kV_X12_199 cw_X12_isInWater (rc_X12 hC hP) hP (tM_isInWater x al lv σ5 (σ5 7 21 x4.toNatClampNeg) (σ5 7 22 x4.toNatClampNeg) r hr) rfl hl.1 ⟨Nat.le_of_ble_eq_true rfl, Nat.le_of_ble_eq_true rfl⟩ ⟨Nat.le_of_ble_eq_true rfl, Nat.le_of_ble_eq_true rfl⟩ (Nat.le_of_ble_eq_true rfl) dX12_goes_110) (fun y7 H locs h hP hS => ?_)
            refine lv_if_eq (tgt := 129) hx hb dX12_goes_113 (by decide) (fun hc => ?_) (fun hc => ?_)
            · replace h := (br h).1 hc
              exact wM_goes_129  hC k5 hk5 σ5 x1 x2 x3 x4 H locs ls h hP hS (lv_sub hl [0, 1, 2, 3, 4] rfl)
            · replace h := (br h).2 hc
              exact wM_goes_116  hC k5 hk5 σ5 x1 x2 x3 x4 H locs ls h hP hS (lv_sub hl [0, 1, 2, 3, 4] rfl)
    · replace h := (br h).2 hc
      refine lv_goto (tgt := 129) hx hb dX12_goes_34 (by decide) ?_
      exact wM_goes_129  hC k5 hk5 σ1 x1 x2 x3 x4 H locs ls h hP hS (lv_sub hl [0, 1, 2, 3, 4] rfl)

set_option maxHeartbeats 4000000 in
set_option maxRecDepth 20000 in
theorem wM_goes_5 {p : Program} {l : Launch} {e : Env} {s : State} {m : MethodId} {args : Array Value} {below : List Frame} {meth : Method} {c : Code} {x : Wx} {al : Nat → Nat → Nat} {lv : Nat → Bool} {res : Int32 × Sg} (hC : Cx x p s m args meth c cX12_goes 7 (some .int) RX12) (n : Nat) (σ : Sg) (x1 : Int32) (x2 : Int32) (x3 : Int32) (x4 : Int32) (H : Heap) (locs : List Loc) (ls : Array Slot) (h : fM_goes_5 n σ x1 x2 x3 x4 = some res) (hP : Pic x al lv σ H) (hS : va_S (Ab x) s.heap H locs) (hl : lv_has ls 7 [(0, .ref (al 7 0)), (1, .int x1), (2, .int x2), (3, .int x3), (4, .int x4)]) : W p l e (rmm 6 0 0) s m args below meth c H locs 0 0 (MQ below (QI x al lv res) args s 0 0 (Ab x)) (F0 m 5 ls []) := by
  induction n generalizing σ x1 x2 x3 x4 H locs ls with
  | zero => exact nomatch h
  | succ n ih => exact wM_goes_5_b  hC  _ (fun σ x1 x2 x3 x4 H locs ls h hP hS hl => ih σ x1 x2 x3 x4 H locs ls h hP hS hl) σ x1 x2 x3 x4 H locs ls h hP hS hl
set_option maxHeartbeats 4000000 in
set_option maxRecDepth 20000 in
theorem wM_goes_0 {p : Program} {l : Launch} {e : Env} {s : State} {m : MethodId} {args : Array Value} {below : List Frame} {meth : Method} {c : Code} {x : Wx} {al : Nat → Nat → Nat} {lv : Nat → Bool} {res : Int32 × Sg} (hC : Cx x p s m args meth c cX12_goes 7 (some .int) RX12) (σ : Sg) (v1 : Int32) (v2 : Int32) (H : Heap) (locs : List Loc) (ls : Array Slot) (h : fM_goes_0 σ v1 v2 = some res) (hP : Pic x al lv σ H) (hS : va_S (Ab x) s.heap H locs) (hl : lv_has ls 7 [(0, .ref (al 7 0)), (1, .int v1), (2, .int v2)]) : W p l e (rmm 6 0 0) s m args below meth c H locs 0 0 (MQ below (QI x al lv res) args s 0 0 (Ab x)) (F0 m 0 ls []) := by
  obtain ⟨hx, hb, hml, hown, hts⟩ := hC.1
  unfold fM_goes_0 at h
  refine lv_iconst (v := 0) hx hb dX12_goes_0 (by decide) ?_
  refine lv_istore_n (lv' := [(3, .int 0), (0, .ref (al 7 0)), (1, .int v1), (2, .int v2)]) hx hb dX12_goes_1 rfl hl (by decide) rfl (fun ls hl => ?_)
  refine lv_iconst (v := 0) hx hb dX12_goes_2 (by decide) ?_
  refine lv_istore (lv' := [(4, .int 0), (3, .int 0), (0, .ref (al 7 0)), (1, .int v1), (2, .int v2)]) hx hb dX12_goes_3 hl (by decide) rfl (fun ls hl => ?_)
  exact wM_goes_5  hC  FU σ v1 v2 0 0 H locs ls h hP hS (lv_sub hl [2, 3, 4, 1, 0] rfl)

set_option maxRecDepth 20000 in
theorem tM_goes {l : Launch} (x : Wx) (al : Nat → Nat → Nat) (lv : Nat → Bool) (σ : Sg) (v1 : Int32) (v2 : Int32) (res : Int32 × Sg) (h : fM_goes σ v1 v2 = some res) : Met l yX12_goes (Cond.code yX12_goes cX12_goes 7 (some .int) :: lwg) (rmm 6 0 0) (va_Pc [.ref (al 7 0), .int v1, .int v2] (Wd x al lv σ)) (QI x al lv res) 0 0 (Ab x) := by
  refine met_W (by decide) (Nat.le_of_ble_eq_true rfl) rfl (fun p e s m args below meth c ls hC hP hS hl => ?_)
  exact wM_goes_0  hC σ v1 v2 _ _ ls h hP hS hl
set_option maxHeartbeats 4000000 in
set_option maxRecDepth 20000 in
theorem wM_day_0 {p : Program} {l : Launch} {e : Env} {s : State} {m : MethodId} {args : Array Value} {below : List Frame} {meth : Method} {c : Code} {x : Wx} {al : Nat → Nat → Nat} {lv : Nat → Bool} {res : Int32 × Sg} (hC : Cx x p s m args meth c cX12_day 1 (some .int) RX12) (σ : Sg) (H : Heap) (locs : List Loc) (ls : Array Slot) (h : fM_day_0 σ = some res) (hP : Pic x al lv σ H) (hS : va_S (Ab x) s.heap H locs) (hl : lv_has ls 1 [(0, .ref (al 7 0))]) : W p l e (rmm 7 0 0) s m args below meth c H locs 0 0 (MQ below (QI x al lv res) args s 0 0 (Ab x)) (F0 m 0 ls []) := by
  obtain ⟨hx, hb, hml, hown, hts⟩ := hC.1
  unfold fM_day_0 at h
  refine lv_aload_n hx hb dX12_day_0 rfl (lv_at hl 0 rfl) ?_
  refine gt_X12_6 hC hP wf_X12_27 dX12_day_1 ?_
  refine lv_iconst (v := 0) hx hb dX12_day_4 (by decide) ?_
  refine r_iald hC hP (aM_6 hP.l7) h dX12_day_5 (fun h => ?_)
  refine lv_sipush (v := 199) hx hb dX12_day_6 (by decide) ?_
  refine lv_icmp_ne (tgt := 19) hx hb dX12_day_9 (by decide) (fun hc => ?_) (fun hc => ?_)
  · replace h := (br h).2 hc
    refine lv_aload_n hx hb dX12_day_19 rfl (lv_at hl 0 rfl) ?_
    refine lv_iconst (v := 0) hx hb dX12_day_20 (by decide) ?_
    refine pt_X12_27 hC hP hS wf_X12_228 h dX12_day_21 (fun σ1 H locs h hP hS => ?_)
    refine lv_aload_n hx hb dX12_day_24 rfl (lv_at hl 0 rfl) ?_
    refine lv_iconst (v := 1) hx hb dX12_day_25 (by decide) ?_
    refine pt_X12_26 hC hP hS wf_X12_245 h dX12_day_26 (fun σ2 H locs h hP hS => ?_)
    refine lv_aload_n hx hb dX12_day_29 rfl (lv_at hl 0 rfl) ?_
    refine lv_aload_n hx hb dX12_day_30 rfl (lv_at hl 0 rfl) ?_
    refine lv_aload_n hx hb dX12_day_31 rfl (lv_at hl 0 rfl) ?_
    refine gt_X12_6 hC hP wf_X12_27 dX12_day_32 ?_
    refine lv_iconst (v := 0) hx hb dX12_day_35 (by decide) ?_
    refine r_iald hC hP (aM_6 hP.l7) h dX12_day_36 (fun h => ?_)
    refine lv_iconst (v := 1) hx hb dX12_day_37 (by decide) ?_
    refine r_cI hS h (fun r hr => r_runV (As := [.int (σ2 7 6 (0 : Int32).toNatClampNeg), .int 1]) (rest := [.ref (al 7 0)]) hC kV_X12_249 cw_X12_goes (rc_X12 hC hP) hP (tM_goes x al lv σ2 (σ2 7 6 (0 : Int32).toNatClampNeg) 1 r hr) rfl hl.1 ⟨Nat.le_of_ble_eq_true rfl, Nat.le_of_ble_eq_true rfl⟩ ⟨Nat.le_of_ble_eq_true rfl, Nat.le_of_ble_eq_true rfl⟩ (Nat.le_of_ble_eq_true rfl) dX12_day_38) (fun y3 σ4 H locs h hP hS => ?_)
    refine r_cI hS h (fun r hr => r_runV (As := [.int y3]) (rest := []) hC kV_X12_151 cw_X12_ends (rc_X12 hC hP) hP (tM_ends x al lv σ4 y3 r hr) rfl hl.1 ⟨Nat.le_of_ble_eq_true rfl, Nat.le_of_ble_eq_true rfl⟩ ⟨Nat.le_of_ble_eq_true rfl, Nat.le_of_ble_eq_true rfl⟩ (Nat.le_of_ble_eq_true rfl) dX12_day_41) (fun y5 σ6 H locs h hP hS => ?_)
    exact r_retI hC hP hS rfl h dX12_day_44
  · replace h := (br h).1 hc
    refine lv_aload_n hx hb dX12_day_12 rfl (lv_at hl 0 rfl) ?_
    refine lv_bipush (v := (-7)) hx hb dX12_day_13 (by decide) ?_
    refine r_cI hS h (fun r hr => r_runV (As := [.int ((-7))]) (rest := []) hC kV_X12_151 cw_X12_ends (rc_X12 hC hP) hP (tM_ends x al lv σ ((-7)) r hr) rfl hl.1 ⟨Nat.le_of_ble_eq_true rfl, Nat.le_of_ble_eq_true rfl⟩ ⟨Nat.le_of_ble_eq_true rfl, Nat.le_of_ble_eq_true rfl⟩ (Nat.le_of_ble_eq_true rfl) dX12_day_15) (fun y7 σ8 H locs h hP hS => ?_)
    exact r_retI hC hP hS rfl h dX12_day_18

set_option maxRecDepth 20000 in
theorem tM_day {l : Launch} (x : Wx) (al : Nat → Nat → Nat) (lv : Nat → Bool) (σ : Sg) (res : Int32 × Sg) (h : fM_day σ = some res) : Met l yX12_day (Cond.code yX12_day cX12_day 1 (some .int) :: lwg) (rmm 7 0 0) (va_Pc [.ref (al 7 0)] (Wd x al lv σ)) (QI x al lv res) 0 0 (Ab x) := by
  refine met_W (by decide) (Nat.le_of_ble_eq_true rfl) rfl (fun p e s m args below meth c ls hC hP hS hl => ?_)
  exact wM_day_0  hC σ  _ _ ls h hP hS hl
