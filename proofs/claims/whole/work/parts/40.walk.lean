set_option maxHeartbeats 4000000 in
set_option maxRecDepth 20000 in
theorem wI_billOfLifted_63 {p : Program} {l : Launch} {e : Env} {s : State} {m : MethodId} {args : Array Value} {below : List Frame} {meth : Method} {c : Code} {x : Wx} {al : Nat → Nat → Nat} {lv : Nat → Bool} {res : Int32} {σ : Sg} (hC : Cx x p s m args meth c cX11_billOfLifted 6 (some .int) RX11) (k4 : Int32 → Int32 → Option (Int32)) (hk4 : ∀ (x1 : Int32) (x2 : Int32) (H : Heap) (locs : List Loc) (ls : Array Slot), k4 x1 x2 = some res → Pic x al lv σ H → va_S (Ab x) s.heap H locs → lv_has ls 6 [(0, .ref (al 6 0)), (1, .int x1), (2, .int x2)] → W p l e (rmm 1 0 0) s m args below meth c H locs 0 0 (MQ below (QP x al lv σ res) args s 0 0 (Ab x)) (F0 m 4 ls [])) (x1 : Int32) (x2 : Int32) (x3 : Int32) (t0 : Int32) (H : Heap) (locs : List Loc) (ls : Array Slot) (h : fI_billOfLifted_63 k4 σ x1 x2 x3 t0 = some res) (hP : Pic x al lv σ H) (hS : va_S (Ab x) s.heap H locs) (hl : lv_has ls 6 [(0, .ref (al 6 0)), (1, .int x1), (2, .int x2), (3, .int x3)]) : W p l e (rmm 1 0 0) s m args below meth c H locs 0 0 (MQ below (QP x al lv σ res) args s 0 0 (Ab x)) (F0 m 63 ls [.int t0]) := by
  obtain ⟨hx, hb, hml, hown, hts⟩ := hC.1
  unfold fI_billOfLifted_63 at h
  refine lv_istore (lv' := [(5, .int t0), (0, .ref (al 6 0)), (1, .int x1), (2, .int x2), (3, .int x3)]) hx hb dX11_billOfLifted_63 hl (by decide) rfl (fun ls hl => ?_)
  refine lv_iload_n hx hb dX11_billOfLifted_65 rfl (lv_at hl 2 rfl) ?_
  refine lv_aload_n hx hb dX11_billOfLifted_66 rfl (lv_at hl 1 rfl) ?_
  refine gt_X11_0 hC hP wf_X11_12 dX11_billOfLifted_67 ?_
  refine gt_X10_6 (a := 0) h06 hP.l0 hC hP wf_X11_147 dX11_billOfLifted_70 ?_
  refine gt_X0_2 (a := 0) h06 hP.l0 hC hP wf_X11_176 dX11_billOfLifted_73 ?_
  refine lv_iload_n hx hb dX11_billOfLifted_76 rfl (lv_at hl 4 rfl) ?_
  refine r_iald hC hP (aS_17 (a := 0) h06 hP.l0) h dX11_billOfLifted_77 (fun h => ?_)
  refine lv_i2l (v := (σ 0 17 x3.toNatClampNeg).toInt64) hx hb dX11_billOfLifted_78 rfl ?_
  refine lv_aload_n hx hb dX11_billOfLifted_79 rfl (lv_at hl 1 rfl) ?_
  refine gt_X11_5 hC hP wf_X11_44 dX11_billOfLifted_80 ?_
  refine lv_iload hx hb dX11_billOfLifted_83 (lv_at hl 0 rfl) ?_
  refine r_iald hC hP (aI_5 hP.l6) h dX11_billOfLifted_85 (fun h => ?_)
  refine lv_i2l (v := (σ 6 5 t0.toNatClampNeg).toInt64) hx hb dX11_billOfLifted_86 rfl ?_
  refine lv_lmul hx hb dX11_billOfLifted_87 ?_
  refine lv_ldc2 hx hb hown (hts _ wk_X11_424) dX11_billOfLifted_88 ?_
  refine lv_ldiv hx hb dX11_billOfLifted_91 (by decide) ?_
  refine lv_l2i (v := ((((σ 0 17 x3.toNatClampNeg).toInt64) * ((σ 6 5 t0.toNatClampNeg).toInt64)) / 1000).toInt32) hx hb dX11_billOfLifted_92 rfl ?_
  refine lv_iadd hx hb dX11_billOfLifted_93 ?_
  refine r_lt h (fun y2 h => ?_)
  refine lv_istore_n (lv' := [(1, .int y2), (5, .int t0), (0, .ref (al 6 0)), (2, .int x2), (3, .int x3)]) hx hb dX11_billOfLifted_94 rfl hl (by decide) rfl (fun ls hl => ?_)
  refine r_iinc (v := 1) hC h dX11_billOfLifted_95 hl (k := 3) rfl rfl (by decide) (fun y3 => [(2, .int y3), (1, .int y2), (5, .int t0), (0, .ref (al 6 0)), (3, .int x3)]) (fun _ => rfl) (fun y3 ls h hl => ?_)
  refine lv_goto (tgt := 4) hx hb dX11_billOfLifted_98 (by decide) ?_
  exact hk4 y2 y3 H locs ls h hP hS (lv_sub hl [3, 1, 0] rfl)

set_option maxHeartbeats 4000000 in
set_option maxRecDepth 20000 in
theorem wI_billOfLifted_40 {p : Program} {l : Launch} {e : Env} {s : State} {m : MethodId} {args : Array Value} {below : List Frame} {meth : Method} {c : Code} {x : Wx} {al : Nat → Nat → Nat} {lv : Nat → Bool} {res : Int32} {σ : Sg} (hC : Cx x p s m args meth c cX11_billOfLifted 6 (some .int) RX11) (k4 : Int32 → Int32 → Option (Int32)) (hk4 : ∀ (x1 : Int32) (x2 : Int32) (H : Heap) (locs : List Loc) (ls : Array Slot), k4 x1 x2 = some res → Pic x al lv σ H → va_S (Ab x) s.heap H locs → lv_has ls 6 [(0, .ref (al 6 0)), (1, .int x1), (2, .int x2)] → W p l e (rmm 1 0 0) s m args below meth c H locs 0 0 (MQ below (QP x al lv σ res) args s 0 0 (Ab x)) (F0 m 4 ls [])) (x1 : Int32) (x2 : Int32) (x3 : Int32) (t0 : Int32) (H : Heap) (locs : List Loc) (ls : Array Slot) (h : fI_billOfLifted_40 k4 σ x1 x2 x3 t0 = some res) (hP : Pic x al lv σ H) (hS : va_S (Ab x) s.heap H locs) (hl : lv_has ls 6 [(0, .ref (al 6 0)), (1, .int x1), (2, .int x2), (3, .int x3)]) : W p l e (rmm 1 0 0) s m args below meth c H locs 0 0 (MQ below (QP x al lv σ res) args s 0 0 (Ab x)) (F0 m 40 ls [.int t0]) := by
  obtain ⟨hx, hb, hml, hown, hts⟩ := hC.1
  unfold fI_billOfLifted_40 at h
  refine lv_istore (lv' := [(4, .int t0), (0, .ref (al 6 0)), (1, .int x1), (2, .int x2), (3, .int x3)]) hx hb dX11_billOfLifted_40 hl (by decide) rfl (fun ls hl => ?_)
  refine lv_iload hx hb dX11_billOfLifted_42 (lv_at hl 0 rfl) ?_
  refine lv_if_eq (tgt := 51) hx hb dX11_billOfLifted_44 (by decide) (fun hc => ?_) (fun hc => ?_)
  · replace h := (br h).1 hc
    refine lv_aload_n hx hb dX11_billOfLifted_51 rfl (lv_at hl 1 rfl) ?_
    refine gt_X11_0 hC hP wf_X11_12 dX11_billOfLifted_52 ?_
    refine gt_X10_6 (a := 0) h06 hP.l0 hC hP wf_X11_147 dX11_billOfLifted_55 ?_
    refine gt_X0_1 (a := 0) h06 hP.l0 hC hP wf_X11_175 dX11_billOfLifted_58 ?_
    refine lv_iload_n hx hb dX11_billOfLifted_61 rfl (lv_at hl 4 rfl) ?_
    refine r_iald hC hP (aS_16 (a := 0) h06 hP.l0) h dX11_billOfLifted_62 (fun h => ?_)
    exact wI_billOfLifted_63  hC k4 hk4 x1 x2 x3 (σ 0 16 x3.toNatClampNeg) H locs ls h hP hS (lv_sub hl [1, 2, 3, 4] rfl)
  · replace h := (br h).2 hc
    refine lv_iconst (v := 0) hx hb dX11_billOfLifted_47 (by decide) ?_
    refine lv_goto (tgt := 63) hx hb dX11_billOfLifted_48 (by decide) ?_
    exact wI_billOfLifted_63  hC k4 hk4 x1 x2 x3 0 H locs ls h hP hS (lv_sub hl [1, 2, 3, 4] rfl)

set_option maxHeartbeats 4000000 in
set_option maxRecDepth 20000 in
theorem wI_billOfLifted_4_b {p : Program} {l : Launch} {e : Env} {s : State} {m : MethodId} {args : Array Value} {below : List Frame} {meth : Method} {c : Code} {x : Wx} {al : Nat → Nat → Nat} {lv : Nat → Bool} {res : Int32} {σ : Sg} (hC : Cx x p s m args meth c cX11_billOfLifted 6 (some .int) RX11) (k4 : Int32 → Int32 → Option (Int32)) (hk4 : ∀ (x1 : Int32) (x2 : Int32) (H : Heap) (locs : List Loc) (ls : Array Slot), k4 x1 x2 = some res → Pic x al lv σ H → va_S (Ab x) s.heap H locs → lv_has ls 6 [(0, .ref (al 6 0)), (1, .int x1), (2, .int x2)] → W p l e (rmm 1 0 0) s m args below meth c H locs 0 0 (MQ below (QP x al lv σ res) args s 0 0 (Ab x)) (F0 m 4 ls [])) (x1 : Int32) (x2 : Int32) (H : Heap) (locs : List Loc) (ls : Array Slot) (h : fI_billOfLifted_4_b k4 σ x1 x2 = some res) (hP : Pic x al lv σ H) (hS : va_S (Ab x) s.heap H locs) (hl : lv_has ls 6 [(0, .ref (al 6 0)), (1, .int x1), (2, .int x2)]) : W p l e (rmm 1 0 0) s m args below meth c H locs 0 0 (MQ below (QP x al lv σ res) args s 0 0 (Ab x)) (F0 m 4 ls []) := by
  obtain ⟨hx, hb, hml, hown, hts⟩ := hC.1
  unfold fI_billOfLifted_4_b at h
  refine lv_iload_n hx hb dX11_billOfLifted_4 rfl (lv_at hl 2 rfl) ?_
  refine lv_aload_n hx hb dX11_billOfLifted_5 rfl (lv_at hl 0 rfl) ?_
  refine gt_X11_9 hC hP wf_X11_281 dX11_billOfLifted_6 ?_
  refine lv_icmp_ge (tgt := 101) hx hb dX11_billOfLifted_9 (by decide) (fun hc => ?_) (fun hc => ?_)
  · replace h := (br h).1 hc
    refine lv_iload_n hx hb dX11_billOfLifted_101 rfl (lv_at hl 1 rfl) ?_
    exact r_retP hC hP hS rfl h dX11_billOfLifted_102
  · replace h := (br h).2 hc
    refine lv_aload_n hx hb dX11_billOfLifted_12 rfl (lv_at hl 0 rfl) ?_
    refine gt_X11_6 hC hP wf_X11_48 dX11_billOfLifted_13 ?_
    refine lv_iload_n hx hb dX11_billOfLifted_16 rfl (lv_at hl 2 rfl) ?_
    refine r_iald hC hP (aI_6 hP.l6) h dX11_billOfLifted_17 (fun h => ?_)
    refine r_lt h (fun y1 h => ?_)
    refine lv_istore_n (lv' := [(3, .int y1), (0, .ref (al 6 0)), (1, .int x1), (2, .int x2)]) hx hb dX11_billOfLifted_18 rfl hl (by decide) rfl (fun ls hl => ?_)
    refine lv_aload_n hx hb dX11_billOfLifted_19 rfl (lv_at hl 1 rfl) ?_
    refine gt_X11_0 hC hP wf_X11_12 dX11_billOfLifted_20 ?_
    refine gt_X10_6 (a := 0) h06 hP.l0 hC hP wf_X11_147 dX11_billOfLifted_23 ?_
    refine gt_X0_6 (a := 0) h06 hP.l0 hC hP wf_X11_188 dX11_billOfLifted_26 ?_
    refine lv_iload_n hx hb dX11_billOfLifted_29 rfl (lv_at hl 0 rfl) ?_
    refine r_iald hC hP (aS_21 (a := 0) h06 hP.l0) h dX11_billOfLifted_30 (fun h => ?_)
    refine lv_iconst (v := (-1)) hx hb dX11_billOfLifted_31 (by decide) ?_
    refine lv_icmp_eq (tgt := 39) hx hb dX11_billOfLifted_32 (by decide) (fun hc => ?_) (fun hc => ?_)
    · replace h := (br h).1 hc
      refine lv_iconst (v := 0) hx hb dX11_billOfLifted_39 (by decide) ?_
      exact wI_billOfLifted_40  hC k4 hk4 x1 x2 y1 0 H locs ls h hP hS (lv_sub hl [1, 2, 3, 0] rfl)
    · replace h := (br h).2 hc
      refine lv_iconst (v := 1) hx hb dX11_billOfLifted_35 (by decide) ?_
      refine lv_goto (tgt := 40) hx hb dX11_billOfLifted_36 (by decide) ?_
      exact wI_billOfLifted_40  hC k4 hk4 x1 x2 y1 1 H locs ls h hP hS (lv_sub hl [1, 2, 3, 0] rfl)

set_option maxHeartbeats 4000000 in
set_option maxRecDepth 20000 in
theorem wI_billOfLifted_4 {p : Program} {l : Launch} {e : Env} {s : State} {m : MethodId} {args : Array Value} {below : List Frame} {meth : Method} {c : Code} {x : Wx} {al : Nat → Nat → Nat} {lv : Nat → Bool} {res : Int32} {σ : Sg} (hC : Cx x p s m args meth c cX11_billOfLifted 6 (some .int) RX11) (n : Nat) (x1 : Int32) (x2 : Int32) (H : Heap) (locs : List Loc) (ls : Array Slot) (h : fI_billOfLifted_4 n σ x1 x2 = some res) (hP : Pic x al lv σ H) (hS : va_S (Ab x) s.heap H locs) (hl : lv_has ls 6 [(0, .ref (al 6 0)), (1, .int x1), (2, .int x2)]) : W p l e (rmm 1 0 0) s m args below meth c H locs 0 0 (MQ below (QP x al lv σ res) args s 0 0 (Ab x)) (F0 m 4 ls []) := by
  induction n generalizing x1 x2 H locs ls with
  | zero => exact nomatch h
  | succ n ih => exact wI_billOfLifted_4_b  hC  _ (fun x1 x2 H locs ls h hP hS hl => ih x1 x2 H locs ls h hP hS hl) x1 x2 H locs ls h hP hS hl
set_option maxHeartbeats 4000000 in
set_option maxRecDepth 20000 in
theorem wI_billOfLifted_0 {p : Program} {l : Launch} {e : Env} {s : State} {m : MethodId} {args : Array Value} {below : List Frame} {meth : Method} {c : Code} {x : Wx} {al : Nat → Nat → Nat} {lv : Nat → Bool} {res : Int32} {σ : Sg} (hC : Cx x p s m args meth c cX11_billOfLifted 6 (some .int) RX11) (H : Heap) (locs : List Loc) (ls : Array Slot) (h : fI_billOfLifted_0 σ = some res) (hP : Pic x al lv σ H) (hS : va_S (Ab x) s.heap H locs) (hl : lv_has ls 6 [(0, .ref (al 6 0))]) : W p l e (rmm 1 0 0) s m args below meth c H locs 0 0 (MQ below (QP x al lv σ res) args s 0 0 (Ab x)) (F0 m 0 ls []) := by
  obtain ⟨hx, hb, hml, hown, hts⟩ := hC.1
  unfold fI_billOfLifted_0 at h
  refine lv_iconst (v := 0) hx hb dX11_billOfLifted_0 (by decide) ?_
  refine lv_istore_n (lv' := [(1, .int 0), (0, .ref (al 6 0))]) hx hb dX11_billOfLifted_1 rfl hl (by decide) rfl (fun ls hl => ?_)
  refine lv_iconst (v := 0) hx hb dX11_billOfLifted_2 (by decide) ?_
  refine lv_istore_n (lv' := [(2, .int 0), (1, .int 0), (0, .ref (al 6 0))]) hx hb dX11_billOfLifted_3 rfl hl (by decide) rfl (fun ls hl => ?_)
  exact wI_billOfLifted_4  hC  FU 0 0 H locs ls h hP hS (lv_sub hl [2, 1, 0] rfl)

set_option maxRecDepth 20000 in
theorem tI_billOfLifted {l : Launch} (x : Wx) (al : Nat → Nat → Nat) (lv : Nat → Bool) (σ : Sg) (res : Int32) (h : fI_billOfLifted σ = some res) : Met l yX11_billOfLifted (Cond.code yX11_billOfLifted cX11_billOfLifted 6 (some .int) :: lwg) (rmm 1 0 0) (va_Pc [.ref (al 6 0)] (Wd x al lv σ)) (QP x al lv σ res) 0 0 (Ab x) := by
  refine met_W (by decide) (Nat.le_of_ble_eq_true rfl) rfl (fun p e s m args below meth c ls hC hP hS hl => ?_)
  exact wI_billOfLifted_0  hC  _ _ ls h hP hS hl
set_option maxHeartbeats 4000000 in
set_option maxRecDepth 20000 in
theorem wI_liftToSend_10_b {p : Program} {l : Launch} {e : Env} {s : State} {m : MethodId} {args : Array Value} {below : List Frame} {meth : Method} {c : Code} {x : Wx} {al : Nat → Nat → Nat} {lv : Nat → Bool} {res : Int32 × Sg} (hC : Cx x p s m args meth c cX11_liftToSend 5 (some .int) RX11) (k10 : Sg → Int32 → Int32 → Int32 → Int32 → Option (Int32 × Sg)) (hk10 : ∀ (σ : Sg) (x1 : Int32) (x2 : Int32) (x3 : Int32) (x4 : Int32) (H : Heap) (locs : List Loc) (ls : Array Slot), k10 σ x1 x2 x3 x4 = some res → Pic x al lv σ H → va_S (Ab x) s.heap H locs → lv_has ls 5 [(0, .ref (al 6 0)), (1, .int x1), (2, .int x2), (3, .int x3), (4, .int x4)] → W p l e (rmm 6 0 0) s m args below meth c H locs 0 0 (MQ below (QI x al lv res) args s 0 0 (Ab x)) (F0 m 10 ls [])) (σ : Sg) (x1 : Int32) (x2 : Int32) (x3 : Int32) (x4 : Int32) (H : Heap) (locs : List Loc) (ls : Array Slot) (h : fI_liftToSend_10_b k10 σ x1 x2 x3 x4 = some res) (hP : Pic x al lv σ H) (hS : va_S (Ab x) s.heap H locs) (hl : lv_has ls 5 [(0, .ref (al 6 0)), (1, .int x1), (2, .int x2), (3, .int x3), (4, .int x4)]) : W p l e (rmm 6 0 0) s m args below meth c H locs 0 0 (MQ below (QI x al lv res) args s 0 0 (Ab x)) (F0 m 10 ls []) := by
  obtain ⟨hx, hb, hml, hown, hts⟩ := hC.1
  unfold fI_liftToSend_10_b at h
  refine lv_iload hx hb dX11_liftToSend_10 (lv_at hl 4 rfl) ?_
  refine lv_sipush (v := 180) hx hb dX11_liftToSend_12 (by decide) ?_
  refine lv_icmp_ge (tgt := 55) hx hb dX11_liftToSend_15 (by decide) (fun hc => ?_) (fun hc => ?_)
  · replace h := (br h).1 hc
    refine lv_iload_n hx hb dX11_liftToSend_55 rfl (lv_at hl 3 rfl) ?_
    exact r_retI hC hP hS rfl h dX11_liftToSend_56
  · replace h := (br h).2 hc
    refine lv_iload_n hx hb dX11_liftToSend_18 rfl (lv_at hl 3 rfl) ?_
    refine lv_iload_n hx hb dX11_liftToSend_19 rfl (lv_at hl 2 rfl) ?_
    refine lv_icmp_ge (tgt := 55) hx hb dX11_liftToSend_20 (by decide) (fun hc => ?_) (fun hc => ?_)
    · replace h := (br h).1 hc
      refine lv_iload_n hx hb dX11_liftToSend_55 rfl (lv_at hl 3 rfl) ?_
      exact r_retI hC hP hS rfl h dX11_liftToSend_56
    · replace h := (br h).2 hc
      refine lv_aload_n hx hb dX11_liftToSend_23 rfl (lv_at hl 0 rfl) ?_
      refine lv_iload_n hx hb dX11_liftToSend_24 rfl (lv_at hl 1 rfl) ?_
      refine r_cI hS h (fun r hr => r_runV (As := [.int x1]) (rest := []) hC kV_X11_417 cw_X11_liftNext (rc_X11 hC hP) hP (tI_liftNext x al lv σ x1 r hr) rfl hl.1 ⟨Nat.le_of_ble_eq_true rfl, Nat.le_of_ble_eq_true rfl⟩ ⟨Nat.le_of_ble_eq_true rfl, Nat.le_of_ble_eq_true rfl⟩ (Nat.le_of_ble_eq_true rfl) dX11_liftToSend_25) (fun y2 σ3 H locs h hP hS => ?_)
      refine lv_if_eq (tgt := 55) hx hb dX11_liftToSend_28 (by decide) (fun hc => ?_) (fun hc => ?_)
      · replace h := (br h).1 hc
        refine lv_iload_n hx hb dX11_liftToSend_55 rfl (lv_at hl 3 rfl) ?_
        exact r_retI hC hP hS rfl h dX11_liftToSend_56
      · replace h := (br h).2 hc
        refine lv_iload_n hx hb dX11_liftToSend_31 rfl (lv_at hl 3 rfl) ?_
        refine lv_aload_n hx hb dX11_liftToSend_32 rfl (lv_at hl 0 rfl) ?_
        refine lv_aload_n hx hb dX11_liftToSend_33 rfl (lv_at hl 0 rfl) ?_
        refine gt_X11_6 hC hP wf_X11_48 dX11_liftToSend_34 ?_
        refine lv_aload_n hx hb dX11_liftToSend_37 rfl (lv_at hl 0 rfl) ?_
        refine gt_X11_9 hC hP wf_X11_281 dX11_liftToSend_38 ?_
        refine lv_iconst (v := 1) hx hb dX11_liftToSend_41 (by decide) ?_
        refine lv_isub hx hb dX11_liftToSend_42 ?_
        refine r_iald hC hP (aI_6 hP.l6) h dX11_liftToSend_43 (fun h => ?_)
        refine r_cP hS h (fun r hr => r_runV (As := [.int (σ3 6 6 ((σ3 6 0 9) - 1).toNatClampNeg)]) (rest := [.int x3]) hC kV_X11_284 cw_X11_atWaysEnd (rc_X11 hC hP) hP (tI_atWaysEnd x al lv σ3 (σ3 6 6 ((σ3 6 0 9) - 1).toNatClampNeg) r hr) rfl hl.1 ⟨Nat.le_of_ble_eq_true rfl, Nat.le_of_ble_eq_true rfl⟩ ⟨Nat.le_of_ble_eq_true rfl, Nat.le_of_ble_eq_true rfl⟩ (Nat.le_of_ble_eq_true rfl) dX11_liftToSend_44) (fun y4 H locs h hP hS => ?_)
        refine lv_iadd hx hb dX11_liftToSend_47 ?_
        refine r_lt h (fun y5 h => ?_)
        refine lv_istore_n (lv' := [(3, .int y5), (0, .ref (al 6 0)), (1, .int x1), (2, .int x2), (4, .int x4)]) hx hb dX11_liftToSend_48 rfl hl (by decide) rfl (fun ls hl => ?_)
        refine r_iinc (v := 1) hC h dX11_liftToSend_49 hl (k := 4) rfl rfl (by decide) (fun y6 => [(4, .int y6), (3, .int y5), (0, .ref (al 6 0)), (1, .int x1), (2, .int x2)]) (fun _ => rfl) (fun y6 ls h hl => ?_)
        refine lv_goto (tgt := 10) hx hb dX11_liftToSend_52 (by decide) ?_
        exact hk10 σ3 x1 x2 y5 y6 H locs ls h hP hS (lv_sub hl [2, 3, 4, 1, 0] rfl)

set_option maxHeartbeats 4000000 in
set_option maxRecDepth 20000 in
theorem wI_liftToSend_10 {p : Program} {l : Launch} {e : Env} {s : State} {m : MethodId} {args : Array Value} {below : List Frame} {meth : Method} {c : Code} {x : Wx} {al : Nat → Nat → Nat} {lv : Nat → Bool} {res : Int32 × Sg} (hC : Cx x p s m args meth c cX11_liftToSend 5 (some .int) RX11) (n : Nat) (σ : Sg) (x1 : Int32) (x2 : Int32) (x3 : Int32) (x4 : Int32) (H : Heap) (locs : List Loc) (ls : Array Slot) (h : fI_liftToSend_10 n σ x1 x2 x3 x4 = some res) (hP : Pic x al lv σ H) (hS : va_S (Ab x) s.heap H locs) (hl : lv_has ls 5 [(0, .ref (al 6 0)), (1, .int x1), (2, .int x2), (3, .int x3), (4, .int x4)]) : W p l e (rmm 6 0 0) s m args below meth c H locs 0 0 (MQ below (QI x al lv res) args s 0 0 (Ab x)) (F0 m 10 ls []) := by
  induction n generalizing σ x1 x2 x3 x4 H locs ls with
  | zero => exact nomatch h
  | succ n ih => exact wI_liftToSend_10_b  hC  _ (fun σ x1 x2 x3 x4 H locs ls h hP hS hl => ih σ x1 x2 x3 x4 H locs ls h hP hS hl) σ x1 x2 x3 x4 H locs ls h hP hS hl
set_option maxHeartbeats 4000000 in
set_option maxRecDepth 20000 in
theorem wI_liftToSend_0 {p : Program} {l : Launch} {e : Env} {s : State} {m : MethodId} {args : Array Value} {below : List Frame} {meth : Method} {c : Code} {x : Wx} {al : Nat → Nat → Nat} {lv : Nat → Bool} {res : Int32 × Sg} (hC : Cx x p s m args meth c cX11_liftToSend 5 (some .int) RX11) (σ : Sg) (v1 : Int32) (v2 : Int32) (H : Heap) (locs : List Loc) (ls : Array Slot) (h : fI_liftToSend_0 σ v1 v2 = some res) (hP : Pic x al lv σ H) (hS : va_S (Ab x) s.heap H locs) (hl : lv_has ls 5 [(0, .ref (al 6 0)), (1, .int v1), (2, .int v2)]) : W p l e (rmm 6 0 0) s m args below meth c H locs 0 0 (MQ below (QI x al lv res) args s 0 0 (Ab x)) (F0 m 0 ls []) := by
  obtain ⟨hx, hb, hml, hown, hts⟩ := hC.1
  unfold fI_liftToSend_0 at h
  refine lv_aload_n hx hb dX11_liftToSend_0 rfl (lv_at hl 0 rfl) ?_
  refine lv_iconst (v := 0) hx hb dX11_liftToSend_1 (by decide) ?_
  refine pt_X11_9 hC hP hS wf_X11_281 h dX11_liftToSend_2 (fun σ1 H locs h hP hS => ?_)
  refine lv_iconst (v := 0) hx hb dX11_liftToSend_5 (by decide) ?_
  refine lv_istore_n (lv' := [(3, .int 0), (0, .ref (al 6 0)), (1, .int v1), (2, .int v2)]) hx hb dX11_liftToSend_6 rfl hl (by decide) rfl (fun ls hl => ?_)
  refine lv_iconst (v := 0) hx hb dX11_liftToSend_7 (by decide) ?_
  refine lv_istore (lv' := [(4, .int 0), (3, .int 0), (0, .ref (al 6 0)), (1, .int v1), (2, .int v2)]) hx hb dX11_liftToSend_8 hl (by decide) rfl (fun ls hl => ?_)
  exact wI_liftToSend_10  hC  FU σ1 v1 v2 0 0 H locs ls h hP hS (lv_sub hl [2, 3, 4, 1, 0] rfl)

set_option maxRecDepth 20000 in
theorem tI_liftToSend {l : Launch} (x : Wx) (al : Nat → Nat → Nat) (lv : Nat → Bool) (σ : Sg) (v1 : Int32) (v2 : Int32) (res : Int32 × Sg) (h : fI_liftToSend σ v1 v2 = some res) : Met l yX11_liftToSend (Cond.code yX11_liftToSend cX11_liftToSend 5 (some .int) :: lwg) (rmm 6 0 0) (va_Pc [.ref (al 6 0), .int v1, .int v2] (Wd x al lv σ)) (QI x al lv res) 0 0 (Ab x) := by
  refine met_W (by decide) (Nat.le_of_ble_eq_true rfl) rfl (fun p e s m args below meth c ls hC hP hS hl => ?_)
  exact wI_liftToSend_0  hC σ v1 v2 _ _ ls h hP hS hl
set_option maxHeartbeats 4000000 in
set_option maxRecDepth 20000 in
theorem wI_send_0 {p : Program} {l : Launch} {e : Env} {s : State} {m : MethodId} {args : Array Value} {below : List Frame} {meth : Method} {c : Code} {x : Wx} {al : Nat → Nat → Nat} {lv : Nat → Bool} {res : Int32 × Sg} (hC : Cx x p s m args meth c cX11_send 4 (some .int) RX11) (σ : Sg) (v1 : Int32) (v2 : Int32) (H : Heap) (locs : List Loc) (ls : Array Slot) (h : fI_send_0 σ v1 v2 = some res) (hP : Pic x al lv σ H) (hS : va_S (Ab x) s.heap H locs) (hl : lv_has ls 4 [(0, .ref (al 6 0)), (1, .int v1), (2, .int v2)]) : W p l e (rmm 7 0 0) s m args below meth c H locs 0 0 (MQ below (QI x al lv res) args s 0 0 (Ab x)) (F0 m 0 ls []) := by
  obtain ⟨hx, hb, hml, hown, hts⟩ := hC.1
  unfold fI_send_0 at h
  refine lv_iload_n hx hb dX11_send_0 rfl (lv_at hl 2 rfl) ?_
  refine lv_iconst (v := 1) hx hb dX11_send_1 (by decide) ?_
  refine lv_ldcw hx hb hown (hts _ wk_X11_290) dX11_send_2 ?_
  refine r_cP hS h (fun r hr => r_runS (As := [.int v2, .int 1, .int 100000000]) (rest := []) hC kS_X11_68 cw_X11_within hP (tI_within x al lv σ v2 1 100000000 r hr) rfl hl.1 ⟨Nat.le_of_ble_eq_true rfl, Nat.le_of_ble_eq_true rfl⟩ ⟨Nat.le_of_ble_eq_true rfl, Nat.le_of_ble_eq_true rfl⟩ (Nat.le_of_ble_eq_true rfl) dX11_send_5) (fun y1 H locs h hP hS => ?_)
  refine lv_if_ne (tgt := 17) hx hb dX11_send_8 (by decide) (fun hc => ?_) (fun hc => ?_)
  · replace h := (br h).2 hc
    refine lv_aload_n hx hb dX11_send_17 rfl (lv_at hl 0 rfl) ?_
    refine gt_X11_0 hC hP wf_X11_12 dX11_send_18 ?_
    refine gt_X10_5 (a := 0) h06 hP.l0 hC hP wf_X11_58 dX11_send_21 ?_
    refine lv_iload_n hx hb dX11_send_24 rfl (lv_at hl 1 rfl) ?_
    refine r_cP hS h (fun r hr => r_runV (As := [.int v1]) (rest := []) hC kV_X11_62 cw_X8_has (rc_X8 (a := 0) h06 hP.l0 hC hP) hP (tRooms_has x al lv σ 0 h06 hP.l0 v1 r hr) rfl hl.1 ⟨Nat.le_of_ble_eq_true rfl, Nat.le_of_ble_eq_true rfl⟩ ⟨Nat.le_of_ble_eq_true rfl, Nat.le_of_ble_eq_true rfl⟩ (Nat.le_of_ble_eq_true rfl) dX11_send_25) (fun y2 H locs h hP hS => ?_)
    refine lv_if_ne (tgt := 38) hx hb dX11_send_28 (by decide) (fun hc => ?_) (fun hc => ?_)
    · replace h := (br h).2 hc
      refine lv_aload_n hx hb dX11_send_38 rfl (lv_at hl 0 rfl) ?_
      refine lv_iload_n hx hb dX11_send_39 rfl (lv_at hl 1 rfl) ?_
      refine lv_iload_n hx hb dX11_send_40 rfl (lv_at hl 2 rfl) ?_
      refine r_cI hS h (fun r hr => r_runV (As := [.int v1, .int v2]) (rest := []) hC kV_X11_291 cw_X11_liftToSend (rc_X11 hC hP) hP (tI_liftToSend x al lv σ v1 v2 r hr) rfl hl.1 ⟨Nat.le_of_ble_eq_true rfl, Nat.le_of_ble_eq_true rfl⟩ ⟨Nat.le_of_ble_eq_true rfl, Nat.le_of_ble_eq_true rfl⟩ (Nat.le_of_ble_eq_true rfl) dX11_send_41) (fun y3 σ4 H locs h hP hS => ?_)
      refine lv_istore_n (lv' := [(3, .int y3), (0, .ref (al 6 0)), (1, .int v1), (2, .int v2)]) hx hb dX11_send_44 rfl hl (by decide) rfl (fun ls hl => ?_)
      refine lv_iload_n hx hb dX11_send_45 rfl (lv_at hl 0 rfl) ?_
      refine lv_iload_n hx hb dX11_send_46 rfl (lv_at hl 3 rfl) ?_
      refine lv_icmp_ge (tgt := 78) hx hb dX11_send_47 (by decide) (fun hc => ?_) (fun hc => ?_)
      · replace h := (br h).1 hc
        refine lv_aload_n hx hb dX11_send_78 rfl (lv_at hl 1 rfl) ?_
        refine lv_iconst (v := 0) hx hb dX11_send_79 (by decide) ?_
        refine pt_X11_11 hC hP hS wf_X11_294 h dX11_send_80 (fun σ5 H locs h hP hS => ?_)
        refine lv_aload_n hx hb dX11_send_83 rfl (lv_at hl 1 rfl) ?_
        refine lv_iload_n hx hb dX11_send_84 rfl (lv_at hl 0 rfl) ?_
        refine pt_X11_12 hC hP hS wf_X11_297 h dX11_send_85 (fun σ6 H locs h hP hS => ?_)
        refine lv_aload_n hx hb dX11_send_88 rfl (lv_at hl 1 rfl) ?_
        refine lv_aload_n hx hb dX11_send_89 rfl (lv_at hl 1 rfl) ?_
        refine r_cP hS h (fun r hr => r_runV (As := []) (rest := [.ref (al 6 0)]) hC kV_X11_303 cw_X11_billOfLifted (rc_X11 hC hP) hP (tI_billOfLifted x al lv σ6  r hr) rfl hl.1 ⟨Nat.le_of_ble_eq_true rfl, Nat.le_of_ble_eq_true rfl⟩ ⟨Nat.le_of_ble_eq_true rfl, Nat.le_of_ble_eq_true rfl⟩ (Nat.le_of_ble_eq_true rfl) dX11_send_90) (fun y7 H locs h hP hS => ?_)
        refine pt_X11_13 hC hP hS wf_X11_300 h dX11_send_93 (fun σ8 H locs h hP hS => ?_)
        refine lv_aload_n hx hb dX11_send_96 rfl (lv_at hl 1 rfl) ?_
        refine r_cI hS h (fun r hr => r_runV (As := []) (rest := []) hC kV_X11_275 cw_X11_sellLifted (rc_X11 hC hP) hP (tI_sellLifted x al lv σ8  r hr) rfl hl.1 ⟨Nat.le_of_ble_eq_true rfl, Nat.le_of_ble_eq_true rfl⟩ ⟨Nat.le_of_ble_eq_true rfl, Nat.le_of_ble_eq_true rfl⟩ (Nat.le_of_ble_eq_true rfl) dX11_send_97) (fun y9 σ10 H locs h hP hS => ?_)
        refine lv_pop hx hb dX11_send_100 rfl ?_
        refine lv_aload_n hx hb dX11_send_101 rfl (lv_at hl 1 rfl) ?_
        refine lv_aload_n hx hb dX11_send_102 rfl (lv_at hl 1 rfl) ?_
        refine gt_X11_10 hC hP wf_X11_266 dX11_send_103 ?_
        refine r_cI hS h (fun r hr => r_runV (As := [.int (σ10 6 0 10)]) (rest := []) hC kV_X11_72 cw_X11_answer (rc_X11 hC hP) hP (tI_answer x al lv σ10 (σ10 6 0 10) r hr) rfl hl.1 ⟨Nat.le_of_ble_eq_true rfl, Nat.le_of_ble_eq_true rfl⟩ ⟨Nat.le_of_ble_eq_true rfl, Nat.le_of_ble_eq_true rfl⟩ (Nat.le_of_ble_eq_true rfl) dX11_send_106) (fun y11 σ12 H locs h hP hS => ?_)
        exact r_retI hC hP hS rfl h dX11_send_109
      · replace h := (br h).2 hc
        refine lv_aload_n hx hb dX11_send_50 rfl (lv_at hl 1 rfl) ?_
        refine r_cV hS h (fun r hr => r_runV (As := []) (rest := []) hC kV_X11_287 cw_X11_putLiftedBack (rc_X11 hC hP) hP (tI_putLiftedBack x al lv σ4  r hr) rfl hl.1 ⟨Nat.le_of_ble_eq_true rfl, Nat.le_of_ble_eq_true rfl⟩ ⟨Nat.le_of_ble_eq_true rfl, Nat.le_of_ble_eq_true rfl⟩ (Nat.le_of_ble_eq_true rfl) dX11_send_51) (fun σ13 H locs h hP hS => ?_)
        refine lv_aload_n hx hb dX11_send_54 rfl (lv_at hl 1 rfl) ?_
        refine lv_iload_n hx hb dX11_send_55 rfl (lv_at hl 3 rfl) ?_
        refine lv_iload_n hx hb dX11_send_56 rfl (lv_at hl 0 rfl) ?_
        refine lv_isub hx hb dX11_send_57 ?_
        refine pt_X11_11 hC hP hS wf_X11_294 h dX11_send_58 (fun σ14 H locs h hP hS => ?_)
        refine lv_aload_n hx hb dX11_send_61 rfl (lv_at hl 1 rfl) ?_
        refine lv_iconst (v := 0) hx hb dX11_send_62 (by decide) ?_
        refine pt_X11_12 hC hP hS wf_X11_297 h dX11_send_63 (fun σ15 H locs h hP hS => ?_)
        refine lv_aload_n hx hb dX11_send_66 rfl (lv_at hl 1 rfl) ?_
        refine lv_iconst (v := 0) hx hb dX11_send_67 (by decide) ?_
        refine pt_X11_13 hC hP hS wf_X11_300 h dX11_send_68 (fun σ16 H locs h hP hS => ?_)
        refine lv_aload_n hx hb dX11_send_71 rfl (lv_at hl 1 rfl) ?_
        refine lv_bipush (v := (-6)) hx hb dX11_send_72 (by decide) ?_
        refine r_cI hS h (fun r hr => r_runV (As := [.int ((-6))]) (rest := []) hC kV_X11_72 cw_X11_answer (rc_X11 hC hP) hP (tI_answer x al lv σ16 ((-6)) r hr) rfl hl.1 ⟨Nat.le_of_ble_eq_true rfl, Nat.le_of_ble_eq_true rfl⟩ ⟨Nat.le_of_ble_eq_true rfl, Nat.le_of_ble_eq_true rfl⟩ (Nat.le_of_ble_eq_true rfl) dX11_send_74) (fun y17 σ18 H locs h hP hS => ?_)
        exact r_retI hC hP hS rfl h dX11_send_77
    · replace h := (br h).1 hc
      refine lv_aload_n hx hb dX11_send_31 rfl (lv_at hl 0 rfl) ?_
      refine lv_bipush (v := (-2)) hx hb dX11_send_32 (by decide) ?_
      refine r_cI hS h (fun r hr => r_runV (As := [.int ((-2))]) (rest := []) hC kV_X11_72 cw_X11_answer (rc_X11 hC hP) hP (tI_answer x al lv σ ((-2)) r hr) rfl hl.1 ⟨Nat.le_of_ble_eq_true rfl, Nat.le_of_ble_eq_true rfl⟩ ⟨Nat.le_of_ble_eq_true rfl, Nat.le_of_ble_eq_true rfl⟩ (Nat.le_of_ble_eq_true rfl) dX11_send_34) (fun y19 σ20 H locs h hP hS => ?_)
      exact r_retI hC hP hS rfl h dX11_send_37
  · replace h := (br h).1 hc
    refine lv_aload_n hx hb dX11_send_11 rfl (lv_at hl 0 rfl) ?_
    refine lv_iconst (v := (-1)) hx hb dX11_send_12 (by decide) ?_
    refine r_cI hS h (fun r hr => r_runV (As := [.int ((-1))]) (rest := []) hC kV_X11_72 cw_X11_answer (rc_X11 hC hP) hP (tI_answer x al lv σ ((-1)) r hr) rfl hl.1 ⟨Nat.le_of_ble_eq_true rfl, Nat.le_of_ble_eq_true rfl⟩ ⟨Nat.le_of_ble_eq_true rfl, Nat.le_of_ble_eq_true rfl⟩ (Nat.le_of_ble_eq_true rfl) dX11_send_13) (fun y21 σ22 H locs h hP hS => ?_)
    exact r_retI hC hP hS rfl h dX11_send_16

set_option maxRecDepth 20000 in
theorem tI_send {l : Launch} (x : Wx) (al : Nat → Nat → Nat) (lv : Nat → Bool) (σ : Sg) (v1 : Int32) (v2 : Int32) (res : Int32 × Sg) (h : fI_send σ v1 v2 = some res) : Met l yX11_send (Cond.code yX11_send cX11_send 4 (some .int) :: lwg) (rmm 7 0 0) (va_Pc [.ref (al 6 0), .int v1, .int v2] (Wd x al lv σ)) (QI x al lv res) 0 0 (Ab x) := by
  refine met_W (by decide) (Nat.le_of_ble_eq_true rfl) rfl (fun p e s m args below meth c ls hC hP hS hl => ?_)
  exact wI_send_0  hC σ v1 v2 _ _ ls h hP hS hl
set_option maxHeartbeats 4000000 in
set_option maxRecDepth 20000 in
theorem wI_sent_0 {p : Program} {l : Launch} {e : Env} {s : State} {m : MethodId} {args : Array Value} {below : List Frame} {meth : Method} {c : Code} {x : Wx} {al : Nat → Nat → Nat} {lv : Nat → Bool} {res : Int32} {σ : Sg} (hC : Cx x p s m args meth c cX11_sent 2 (some .int) RX11) (v1 : Int32) (H : Heap) (locs : List Loc) (ls : Array Slot) (h : fI_sent_0 σ v1 = some res) (hP : Pic x al lv σ H) (hS : va_S (Ab x) s.heap H locs) (hl : lv_has ls 2 [(0, .ref (al 6 0)), (1, .int v1)]) : W p l e (rmm 1 0 0) s m args below meth c H locs 0 0 (MQ below (QP x al lv σ res) args s 0 0 (Ab x)) (F0 m 0 ls []) := by
  obtain ⟨hx, hb, hml, hown, hts⟩ := hC.1
  unfold fI_sent_0 at h
  refine lv_iload_n hx hb dX11_sent_0 rfl (lv_at hl 1 rfl) ?_
  refine Classical.byCases (p := v1 = 0) (fun hc => ?_) (fun n0 => ?_)
  · skip
    replace h := (br h).1 hc
    rw [hc]
    refine lv_tableIn (off := 27) (tgt := 28) hx hb dX11_sent_1 (by decide) (by decide) rfl (by decide) ?_
    refine lv_aload_n hx hb dX11_sent_28 rfl (lv_at hl 0 rfl) ?_
    refine gt_X11_11 hC hP wf_X11_294 dX11_sent_29 ?_
    exact r_retP hC hP hS rfl h dX11_sent_32
  · skip
    replace h := (br h).2 n0
    refine Classical.byCases (p := v1 = 1) (fun hc => ?_) (fun n1 => ?_)
    · skip
      replace h := (br h).1 hc
      rw [hc]
      refine lv_tableIn (off := 32) (tgt := 33) hx hb dX11_sent_1 (by decide) (by decide) rfl (by decide) ?_
      refine lv_aload_n hx hb dX11_sent_33 rfl (lv_at hl 0 rfl) ?_
      refine gt_X11_12 hC hP wf_X11_297 dX11_sent_34 ?_
      exact r_retP hC hP hS rfl h dX11_sent_37
    · skip
      replace h := (br h).2 n1
      refine Classical.byCases (p := v1 = 2) (fun hc => ?_) (fun n2 => ?_)
      · skip
        replace h := (br h).1 hc
        rw [hc]
        refine lv_tableIn (off := 37) (tgt := 38) hx hb dX11_sent_1 (by decide) (by decide) rfl (by decide) ?_
        refine lv_aload_n hx hb dX11_sent_38 rfl (lv_at hl 0 rfl) ?_
        refine gt_X11_13 hC hP wf_X11_300 dX11_sent_39 ?_
        exact r_retP hC hP hS rfl h dX11_sent_42
      · skip
        replace h := (br h).2 n2
        have m0 := lv_neT (a := 0) n0 rfl
        have m1 := lv_neT (a := 1) n1 rfl
        have m2 := lv_neT (a := 2) n2 rfl
        refine lv_tableOut (tgt := 43) hx hb dX11_sent_1 (by omega) (by decide) ?_
        refine lv_iconst (v := (-1)) hx hb dX11_sent_43 (by decide) ?_
        exact r_retP hC hP hS rfl h dX11_sent_44

set_option maxRecDepth 20000 in
theorem tI_sent {l : Launch} (x : Wx) (al : Nat → Nat → Nat) (lv : Nat → Bool) (σ : Sg) (v1 : Int32) (res : Int32) (h : fI_sent σ v1 = some res) : Met l yX11_sent (Cond.code yX11_sent cX11_sent 2 (some .int) :: lwg) (rmm 1 0 0) (va_Pc [.ref (al 6 0), .int v1] (Wd x al lv σ)) (QP x al lv σ res) 0 0 (Ab x) := by
  refine met_W (by decide) (Nat.le_of_ble_eq_true rfl) rfl (fun p e s m args below meth c ls hC hP hS hl => ?_)
  exact wI_sent_0  hC v1 _ _ ls h hP hS hl
set_option maxHeartbeats 4000000 in
set_option maxRecDepth 20000 in
theorem wI_list_0 {p : Program} {l : Launch} {e : Env} {s : State} {m : MethodId} {args : Array Value} {below : List Frame} {meth : Method} {c : Code} {x : Wx} {al : Nat → Nat → Nat} {lv : Nat → Bool} {res : Int32} {σ : Sg} (hC : Cx x p s m args meth c cX11_list 2 (some .int) RX11) (v1 : Int32) (H : Heap) (locs : List Loc) (ls : Array Slot) (h : fI_list_0 σ v1 = some res) (hP : Pic x al lv σ H) (hS : va_S (Ab x) s.heap H locs) (hl : lv_has ls 2 [(0, .ref (al 6 0)), (1, .int v1)]) : W p l e (rmm 2 0 0) s m args below meth c H locs 0 0 (MQ below (QP x al lv σ res) args s 0 0 (Ab x)) (F0 m 0 ls []) := by
  obtain ⟨hx, hb, hml, hown, hts⟩ := hC.1
  unfold fI_list_0 at h
  refine lv_iload_n hx hb dX11_list_0 rfl (lv_at hl 1 rfl) ?_
  refine lv_iconst (v := 0) hx hb dX11_list_1 (by decide) ?_
  refine lv_aload_n hx hb dX11_list_2 rfl (lv_at hl 0 rfl) ?_
  refine gt_X11_10 hC hP wf_X11_266 dX11_list_3 ?_
  refine lv_iconst (v := 1) hx hb dX11_list_6 (by decide) ?_
  refine lv_isub hx hb dX11_list_7 ?_
  refine r_cP hS h (fun r hr => r_runS (As := [.int v1, .int 0, .int ((σ 6 0 10) - 1)]) (rest := []) hC kS_X11_68 cw_X11_within hP (tI_within x al lv σ v1 0 ((σ 6 0 10) - 1) r hr) rfl hl.1 ⟨Nat.le_of_ble_eq_true rfl, Nat.le_of_ble_eq_true rfl⟩ ⟨Nat.le_of_ble_eq_true rfl, Nat.le_of_ble_eq_true rfl⟩ (Nat.le_of_ble_eq_true rfl) dX11_list_8) (fun y1 H locs h hP hS => ?_)
  refine lv_if_eq (tgt := 23) hx hb dX11_list_11 (by decide) (fun hc => ?_) (fun hc => ?_)
  · replace h := (br h).1 hc
    refine lv_iconst (v := (-1)) hx hb dX11_list_23 (by decide) ?_
    exact r_retP hC hP hS rfl h dX11_list_24
  · replace h := (br h).2 hc
    refine lv_aload_n hx hb dX11_list_14 rfl (lv_at hl 0 rfl) ?_
    refine gt_X11_7 hC hP wf_X11_51 dX11_list_15 ?_
    refine lv_iload_n hx hb dX11_list_18 rfl (lv_at hl 1 rfl) ?_
    refine r_iald hC hP (aI_7 hP.l6) h dX11_list_19 (fun h => ?_)
    refine lv_goto (tgt := 24) hx hb dX11_list_20 (by decide) ?_
    exact r_retP hC hP hS rfl h dX11_list_24

set_option maxRecDepth 20000 in
theorem tI_list {l : Launch} (x : Wx) (al : Nat → Nat → Nat) (lv : Nat → Bool) (σ : Sg) (v1 : Int32) (res : Int32) (h : fI_list σ v1 = some res) : Met l yX11_list (Cond.code yX11_list cX11_list 2 (some .int) :: lwg) (rmm 2 0 0) (va_Pc [.ref (al 6 0), .int v1] (Wd x al lv σ)) (QP x al lv σ res) 0 0 (Ab x) := by
  refine met_W (by decide) (Nat.le_of_ble_eq_true rfl) rfl (fun p e s m args below meth c ls hC hP hS hl => ?_)
  exact wI_list_0  hC v1 _ _ ls h hP hS hl
set_option maxHeartbeats 4000000 in
set_option maxRecDepth 20000 in
theorem wI_price_20 {p : Program} {l : Launch} {e : Env} {s : State} {m : MethodId} {args : Array Value} {below : List Frame} {meth : Method} {c : Code} {x : Wx} {al : Nat → Nat → Nat} {lv : Nat → Bool} {res : Int32 × Sg} (hC : Cx x p s m args meth c cX11_price 3 (some .int) RX11) (σ : Sg) (H : Heap) (locs : List Loc) (ls : Array Slot) (h : fI_price_20 σ = some res) (hP : Pic x al lv σ H) (hS : va_S (Ab x) s.heap H locs) (hl : lv_has ls 3 [(0, .ref (al 6 0))]) : W p l e (rmm 2 0 0) s m args below meth c H locs 0 0 (MQ below (QI x al lv res) args s 0 0 (Ab x)) (F0 m 20 ls []) := by
  obtain ⟨hx, hb, hml, hown, hts⟩ := hC.1
  unfold fI_price_20 at h
  refine lv_aload_n hx hb dX11_price_20 rfl (lv_at hl 0 rfl) ?_
  refine lv_iconst (v := (-1)) hx hb dX11_price_21 (by decide) ?_
  refine r_cI hS h (fun r hr => r_runV (As := [.int ((-1))]) (rest := []) hC kV_X11_72 cw_X11_answer (rc_X11 hC hP) hP (tI_answer x al lv σ ((-1)) r hr) rfl hl.1 ⟨Nat.le_of_ble_eq_true rfl, Nat.le_of_ble_eq_true rfl⟩ ⟨Nat.le_of_ble_eq_true rfl, Nat.le_of_ble_eq_true rfl⟩ (Nat.le_of_ble_eq_true rfl) dX11_price_22) (fun y6 σ7 H locs h hP hS => ?_)
  exact r_retI hC hP hS rfl h dX11_price_25

set_option maxHeartbeats 4000000 in
set_option maxRecDepth 20000 in
theorem wI_price_0 {p : Program} {l : Launch} {e : Env} {s : State} {m : MethodId} {args : Array Value} {below : List Frame} {meth : Method} {c : Code} {x : Wx} {al : Nat → Nat → Nat} {lv : Nat → Bool} {res : Int32 × Sg} (hC : Cx x p s m args meth c cX11_price 3 (some .int) RX11) (σ : Sg) (v1 : Int32) (v2 : Int32) (H : Heap) (locs : List Loc) (ls : Array Slot) (h : fI_price_0 σ v1 v2 = some res) (hP : Pic x al lv σ H) (hS : va_S (Ab x) s.heap H locs) (hl : lv_has ls 3 [(0, .ref (al 6 0)), (1, .int v1), (2, .int v2)]) : W p l e (rmm 2 0 0) s m args below meth c H locs 0 0 (MQ below (QI x al lv res) args s 0 0 (Ab x)) (F0 m 0 ls []) := by
  obtain ⟨hx, hb, hml, hown, hts⟩ := hC.1
  unfold fI_price_0 at h
  refine lv_iload_n hx hb dX11_price_0 rfl (lv_at hl 1 rfl) ?_
  refine lv_iconst (v := 0) hx hb dX11_price_1 (by decide) ?_
  refine lv_iconst (v := 2) hx hb dX11_price_2 (by decide) ?_
  refine r_cP hS h (fun r hr => r_runS (As := [.int v1, .int 0, .int 2]) (rest := []) hC kS_X11_68 cw_X11_within hP (tI_within x al lv σ v1 0 2 r hr) rfl hl.1 ⟨Nat.le_of_ble_eq_true rfl, Nat.le_of_ble_eq_true rfl⟩ ⟨Nat.le_of_ble_eq_true rfl, Nat.le_of_ble_eq_true rfl⟩ (Nat.le_of_ble_eq_true rfl) dX11_price_3) (fun y1 H locs h hP hS => ?_)
  refine lv_if_eq (tgt := 20) hx hb dX11_price_6 (by decide) (fun hc => ?_) (fun hc => ?_)
  · replace h := (br h).1 hc
    exact wI_price_20  hC  σ H locs ls h hP hS (lv_sub hl [0] rfl)
  · replace h := (br h).2 hc
    refine lv_iload_n hx hb dX11_price_9 rfl (lv_at hl 2 rfl) ?_
    refine lv_iconst (v := 0) hx hb dX11_price_10 (by decide) ?_
    refine lv_sipush (v := 5000) hx hb dX11_price_11 (by decide) ?_
    refine r_cP hS h (fun r hr => r_runS (As := [.int v2, .int 0, .int 5000]) (rest := []) hC kS_X11_68 cw_X11_within hP (tI_within x al lv σ v2 0 5000 r hr) rfl hl.1 ⟨Nat.le_of_ble_eq_true rfl, Nat.le_of_ble_eq_true rfl⟩ ⟨Nat.le_of_ble_eq_true rfl, Nat.le_of_ble_eq_true rfl⟩ (Nat.le_of_ble_eq_true rfl) dX11_price_14) (fun y2 H locs h hP hS => ?_)
    refine lv_if_ne (tgt := 26) hx hb dX11_price_17 (by decide) (fun hc => ?_) (fun hc => ?_)
    · replace h := (br h).2 hc
      refine lv_aload_n hx hb dX11_price_26 rfl (lv_at hl 0 rfl) ?_
      refine gt_X11_5 hC hP wf_X11_44 dX11_price_27 ?_
      refine lv_iload_n hx hb dX11_price_30 rfl (lv_at hl 1 rfl) ?_
      refine lv_iload_n hx hb dX11_price_31 rfl (lv_at hl 2 rfl) ?_
      refine r_iast hC hP hS (aI_5 hP.l6) h dX11_price_32 (fun σ3 H locs h hP hS => ?_)
      refine lv_aload_n hx hb dX11_price_33 rfl (lv_at hl 0 rfl) ?_
      refine lv_iconst (v := 0) hx hb dX11_price_34 (by decide) ?_
      refine r_cI hS h (fun r hr => r_runV (As := [.int 0]) (rest := []) hC kV_X11_72 cw_X11_answer (rc_X11 hC hP) hP (tI_answer x al lv σ3 0 r hr) rfl hl.1 ⟨Nat.le_of_ble_eq_true rfl, Nat.le_of_ble_eq_true rfl⟩ ⟨Nat.le_of_ble_eq_true rfl, Nat.le_of_ble_eq_true rfl⟩ (Nat.le_of_ble_eq_true rfl) dX11_price_35) (fun y4 σ5 H locs h hP hS => ?_)
      exact r_retI hC hP hS rfl h dX11_price_38
    · replace h := (br h).1 hc
      exact wI_price_20  hC  σ H locs ls h hP hS (lv_sub hl [0] rfl)

set_option maxRecDepth 20000 in
theorem tI_price {l : Launch} (x : Wx) (al : Nat → Nat → Nat) (lv : Nat → Bool) (σ : Sg) (v1 : Int32) (v2 : Int32) (res : Int32 × Sg) (h : fI_price σ v1 v2 = some res) : Met l yX11_price (Cond.code yX11_price cX11_price 3 (some .int) :: lwg) (rmm 2 0 0) (va_Pc [.ref (al 6 0), .int v1, .int v2] (Wd x al lv σ)) (QI x al lv res) 0 0 (Ab x) := by
  refine met_W (by decide) (Nat.le_of_ble_eq_true rfl) rfl (fun p e s m args below meth c ls hC hP hS hl => ?_)
  exact wI_price_0  hC σ v1 v2 _ _ ls h hP hS hl
set_option maxHeartbeats 4000000 in
set_option maxRecDepth 20000 in
theorem wI_foretold_0 {p : Program} {l : Launch} {e : Env} {s : State} {m : MethodId} {args : Array Value} {below : List Frame} {meth : Method} {c : Code} {x : Wx} {al : Nat → Nat → Nat} {lv : Nat → Bool} {res : Int32} {σ : Sg} (hC : Cx x p s m args meth c cX11_foretold 3 (some .int) RX11) (v1 : Int32) (v2 : Int32) (H : Heap) (locs : List Loc) (ls : Array Slot) (h : fI_foretold_0 lv σ v1 v2 = some res) (hP : Pic x al lv σ H) (hS : va_S (Ab x) s.heap H locs) (hl : lv_has ls 3 [(0, .ref (al 6 0)), (1, .int v1), (2, .int v2)]) : W p l e (rmm 3 0 0) s m args below meth c H locs 0 0 (MQ below (QP x al lv σ res) args s 0 0 (Ab x)) (F0 m 0 ls []) := by
  obtain ⟨hx, hb, hml, hown, hts⟩ := hC.1
  unfold fI_foretold_0 at h
  refine lv_aload_n hx hb dX11_foretold_0 rfl (lv_at hl 0 rfl) ?_
  refine gt_X11_16 hC hP wf_X11_309 dX11_foretold_1 ?_
  refine r_ifnn (tgt := 11) hC h dX11_foretold_4 (by decide) (fun hq1 h => ?_) (fun hq1f h => ?_)
  · refine lv_aload_n hx hb dX11_foretold_11 rfl (lv_at hl 0 rfl) ?_
    refine gt_X11_16 hC hP wf_X11_309 dX11_foretold_12 ?_
    refine r_nn hq1 ?_
    refine lv_iload_n hx hb dX11_foretold_15 rfl (lv_at hl 1 rfl) ?_
    refine lv_iload_n hx hb dX11_foretold_16 rfl (lv_at hl 2 rfl) ?_
    refine r_cP hS h (fun r hr => r_runV (As := [.int v1, .int v2]) (rest := []) hC kV_X11_329 cw_X3_gramsBehind (rc_X3 hq1 hC hP) hP (tForecast_gramsBehind x al lv σ hq1 v1 v2 r hr) rfl hl.1 ⟨Nat.le_of_ble_eq_true rfl, Nat.le_of_ble_eq_true rfl⟩ ⟨Nat.le_of_ble_eq_true rfl, Nat.le_of_ble_eq_true rfl⟩ (Nat.le_of_ble_eq_true rfl) dX11_foretold_17) (fun y2 H locs h hP hS => ?_)
    exact r_retP hC hP hS rfl h dX11_foretold_20
  · refine lv_iconst (v := (-1)) hx hb dX11_foretold_7 (by decide) ?_
    refine lv_goto (tgt := 20) hx hb dX11_foretold_8 (by decide) ?_
    exact r_retP hC hP hS rfl h dX11_foretold_20

set_option maxRecDepth 20000 in
theorem tI_foretold {l : Launch} (x : Wx) (al : Nat → Nat → Nat) (lv : Nat → Bool) (σ : Sg) (v1 : Int32) (v2 : Int32) (res : Int32) (h : fI_foretold lv σ v1 v2 = some res) : Met l yX11_foretold (Cond.code yX11_foretold cX11_foretold 3 (some .int) :: lwg) (rmm 3 0 0) (va_Pc [.ref (al 6 0), .int v1, .int v2] (Wd x al lv σ)) (QP x al lv σ res) 0 0 (Ab x) := by
  refine met_W (by decide) (Nat.le_of_ble_eq_true rfl) rfl (fun p e s m args below meth c ls hC hP hS hl => ?_)
  exact wI_foretold_0  hC v1 v2 _ _ ls h hP hS hl
set_option maxHeartbeats 4000000 in
set_option maxRecDepth 20000 in
theorem wI_last_0 {p : Program} {l : Launch} {e : Env} {s : State} {m : MethodId} {args : Array Value} {below : List Frame} {meth : Method} {c : Code} {x : Wx} {al : Nat → Nat → Nat} {lv : Nat → Bool} {res : Int32} {σ : Sg} (hC : Cx x p s m args meth c cX11_last 1 (some .int) RX11) (H : Heap) (locs : List Loc) (ls : Array Slot) (h : fI_last_0 lv σ = some res) (hP : Pic x al lv σ H) (hS : va_S (Ab x) s.heap H locs) (hl : lv_has ls 1 [(0, .ref (al 6 0))]) : W p l e (rmm 1 0 0) s m args below meth c H locs 0 0 (MQ below (QP x al lv σ res) args s 0 0 (Ab x)) (F0 m 0 ls []) := by
  obtain ⟨hx, hb, hml, hown, hts⟩ := hC.1
  unfold fI_last_0 at h
  refine lv_aload_n hx hb dX11_last_0 rfl (lv_at hl 0 rfl) ?_
  refine gt_X11_16 hC hP wf_X11_309 dX11_last_1 ?_
  refine r_ifnn (tgt := 11) hC h dX11_last_4 (by decide) (fun hq1 h => ?_) (fun hq1f h => ?_)
  · refine lv_aload_n hx hb dX11_last_11 rfl (lv_at hl 0 rfl) ?_
    refine gt_X11_16 hC hP wf_X11_309 dX11_last_12 ?_
    refine r_nn hq1 ?_
    refine gt_X3_1 hq1 hC hP wf_X11_332 dX11_last_15 ?_
    exact r_retP hC hP hS rfl h dX11_last_18
  · refine lv_iconst (v := (-1)) hx hb dX11_last_7 (by decide) ?_
    refine lv_goto (tgt := 18) hx hb dX11_last_8 (by decide) ?_
    exact r_retP hC hP hS rfl h dX11_last_18

set_option maxRecDepth 20000 in
theorem tI_last {l : Launch} (x : Wx) (al : Nat → Nat → Nat) (lv : Nat → Bool) (σ : Sg) (res : Int32) (h : fI_last lv σ = some res) : Met l yX11_last (Cond.code yX11_last cX11_last 1 (some .int) :: lwg) (rmm 1 0 0) (va_Pc [.ref (al 6 0)] (Wd x al lv σ)) (QP x al lv σ res) 0 0 (Ab x) := by
  refine met_W (by decide) (Nat.le_of_ble_eq_true rfl) rfl (fun p e s m args below meth c ls hC hP hS hl => ?_)
  exact wI_last_0  hC  _ _ ls h hP hS hl
set_option maxHeartbeats 4000000 in
set_option maxRecDepth 20000 in
theorem wI_heap_0 {p : Program} {l : Launch} {e : Env} {s : State} {m : MethodId} {args : Array Value} {below : List Frame} {meth : Method} {c : Code} {x : Wx} {al : Nat → Nat → Nat} {lv : Nat → Bool} {res : Int32 × Sg} (hC : Cx x p s m args meth c cX11_heap 3 (some .int) RX11) (σ : Sg) (v1 : Int32) (v2 : Int32) (H : Heap) (locs : List Loc) (ls : Array Slot) (h : fI_heap_0 σ v1 v2 = some res) (hP : Pic x al lv σ H) (hS : va_S (Ab x) s.heap H locs) (hl : lv_has ls 3 [(0, .ref (al 6 0)), (1, .int v1), (2, .int v2)]) : W p l e (rmm 3 0 0) s m args below meth c H locs 0 0 (MQ below (QI x al lv res) args s 0 0 (Ab x)) (F0 m 0 ls []) := by
  obtain ⟨hx, hb, hml, hown, hts⟩ := hC.1
  unfold fI_heap_0 at h
  refine lv_iload_n hx hb dX11_heap_0 rfl (lv_at hl 1 rfl) ?_
  refine lv_iload_n hx hb dX11_heap_1 rfl (lv_at hl 2 rfl) ?_
  refine r_cP hS h (fun r hr => r_runS (As := [.int v1, .int v2]) (rest := []) hC kS_X11_140 cw_X11_isWeightOfKind hP (tI_isWeightOfKind x al lv σ v1 v2 r hr) rfl hl.1 ⟨Nat.le_of_ble_eq_true rfl, Nat.le_of_ble_eq_true rfl⟩ ⟨Nat.le_of_ble_eq_true rfl, Nat.le_of_ble_eq_true rfl⟩ (Nat.le_of_ble_eq_true rfl) dX11_heap_2) (fun y1 H locs h hP hS => ?_)
  refine lv_if_ne (tgt := 14) hx hb dX11_heap_5 (by decide) (fun hc => ?_) (fun hc => ?_)
  · replace h := (br h).2 hc
    refine lv_aload_n hx hb dX11_heap_14 rfl (lv_at hl 0 rfl) ?_
    refine gt_X11_4 hC hP wf_X11_40 dX11_heap_15 ?_
    refine gt_X4_0 hC hP wf_X11_265 dX11_heap_18 ?_
    refine lv_bipush (v := 30) hx hb dX11_heap_21 (by decide) ?_
    refine lv_icmp_lt (tgt := 33) hx hb dX11_heap_23 (by decide) (fun hc => ?_) (fun hc => ?_)
    · replace h := (br h).1 hc
      refine lv_aload_n hx hb dX11_heap_33 rfl (lv_at hl 0 rfl) ?_
      refine lv_aload_n hx hb dX11_heap_34 rfl (lv_at hl 0 rfl) ?_
      refine gt_X11_4 hC hP wf_X11_40 dX11_heap_35 ?_
      refine lv_iload_n hx hb dX11_heap_38 rfl (lv_at hl 1 rfl) ?_
      refine lv_iload_n hx hb dX11_heap_39 rfl (lv_at hl 2 rfl) ?_
      refine r_cI hS h (fun r hr => r_runV (As := [.int v1, .int v2]) (rest := [.ref (al 6 0)]) hC kV_X11_335 cw_X4_add (rc_X4 hC hP) hP (tHeap_add x al lv σ v1 v2 r hr) rfl hl.1 ⟨Nat.le_of_ble_eq_true rfl, Nat.le_of_ble_eq_true rfl⟩ ⟨Nat.le_of_ble_eq_true rfl, Nat.le_of_ble_eq_true rfl⟩ (Nat.le_of_ble_eq_true rfl) dX11_heap_40) (fun y2 σ3 H locs h hP hS => ?_)
      refine r_cI hS h (fun r hr => r_runV (As := [.int y2]) (rest := []) hC kV_X11_72 cw_X11_answer (rc_X11 hC hP) hP (tI_answer x al lv σ3 y2 r hr) rfl hl.1 ⟨Nat.le_of_ble_eq_true rfl, Nat.le_of_ble_eq_true rfl⟩ ⟨Nat.le_of_ble_eq_true rfl, Nat.le_of_ble_eq_true rfl⟩ (Nat.le_of_ble_eq_true rfl) dX11_heap_43) (fun y4 σ5 H locs h hP hS => ?_)
      exact r_retI hC hP hS rfl h dX11_heap_46
    · replace h := (br h).2 hc
      refine lv_aload_n hx hb dX11_heap_26 rfl (lv_at hl 0 rfl) ?_
      refine lv_bipush (v := (-6)) hx hb dX11_heap_27 (by decide) ?_
      refine r_cI hS h (fun r hr => r_runV (As := [.int ((-6))]) (rest := []) hC kV_X11_72 cw_X11_answer (rc_X11 hC hP) hP (tI_answer x al lv σ ((-6)) r hr) rfl hl.1 ⟨Nat.le_of_ble_eq_true rfl, Nat.le_of_ble_eq_true rfl⟩ ⟨Nat.le_of_ble_eq_true rfl, Nat.le_of_ble_eq_true rfl⟩ (Nat.le_of_ble_eq_true rfl) dX11_heap_29) (fun y6 σ7 H locs h hP hS => ?_)
      exact r_retI hC hP hS rfl h dX11_heap_32
  · replace h := (br h).1 hc
    refine lv_aload_n hx hb dX11_heap_8 rfl (lv_at hl 0 rfl) ?_
    refine lv_iconst (v := (-1)) hx hb dX11_heap_9 (by decide) ?_
    refine r_cI hS h (fun r hr => r_runV (As := [.int ((-1))]) (rest := []) hC kV_X11_72 cw_X11_answer (rc_X11 hC hP) hP (tI_answer x al lv σ ((-1)) r hr) rfl hl.1 ⟨Nat.le_of_ble_eq_true rfl, Nat.le_of_ble_eq_true rfl⟩ ⟨Nat.le_of_ble_eq_true rfl, Nat.le_of_ble_eq_true rfl⟩ (Nat.le_of_ble_eq_true rfl) dX11_heap_10) (fun y8 σ9 H locs h hP hS => ?_)
    exact r_retI hC hP hS rfl h dX11_heap_13

set_option maxRecDepth 20000 in
theorem tI_heap {l : Launch} (x : Wx) (al : Nat → Nat → Nat) (lv : Nat → Bool) (σ : Sg) (v1 : Int32) (v2 : Int32) (res : Int32 × Sg) (h : fI_heap σ v1 v2 = some res) : Met l yX11_heap (Cond.code yX11_heap cX11_heap 3 (some .int) :: lwg) (rmm 3 0 0) (va_Pc [.ref (al 6 0), .int v1, .int v2] (Wd x al lv σ)) (QI x al lv res) 0 0 (Ab x) := by
  refine met_W (by decide) (Nat.le_of_ble_eq_true rfl) rfl (fun p e s m args below meth c ls hC hP hS hl => ?_)
  exact wI_heap_0  hC σ v1 v2 _ _ ls h hP hS hl
set_option maxHeartbeats 4000000 in
set_option maxRecDepth 20000 in
theorem wI_cutHeapInto_79 {p : Program} {l : Launch} {e : Env} {s : State} {m : MethodId} {args : Array Value} {below : List Frame} {meth : Method} {c : Code} {x : Wx} {al : Nat → Nat → Nat} {lv : Nat → Bool} {res : Sg} (hC : Cx x p s m args meth c cX11_cutHeapInto 5 none RX11) (k18 : Sg → Int32 → Int32 → Int32 → Int32 → Option (Sg)) (hk18 : ∀ (σ : Sg) (x1 : Int32) (x2 : Int32) (x3 : Int32) (x4 : Int32) (H : Heap) (locs : List Loc) (ls : Array Slot), k18 σ x1 x2 x3 x4 = some res → Pic x al lv σ H → va_S (Ab x) s.heap H locs → lv_has ls 5 [(0, .ref (al 6 0)), (1, .int x1), (2, .int x2), (3, .int x3), (4, .int x4)] → W p l e (rmm 6 0 0) s m args below meth c H locs 0 0 (MQ below (QV x al lv res) args s 0 0 (Ab x)) (F0 m 18 ls [])) (σ : Sg) (x1 : Int32) (x2 : Int32) (x3 : Int32) (x4 : Int32) (H : Heap) (locs : List Loc) (ls : Array Slot) (h : fI_cutHeapInto_79 lv k18 σ x1 x2 x3 x4 = some res) (hP : Pic x al lv σ H) (hS : va_S (Ab x) s.heap H locs) (hl : lv_has ls 5 [(0, .ref (al 6 0)), (1, .int x1), (2, .int x2), (3, .int x3), (4, .int x4)]) : W p l e (rmm 6 0 0) s m args below meth c H locs 0 0 (MQ below (QV x al lv res) args s 0 0 (Ab x)) (F0 m 79 ls []) := by
  obtain ⟨hx, hb, hml, hown, hts⟩ := hC.1
  unfold fI_cutHeapInto_79 at h
  refine r_iinc (v := 1) hC h dX11_cutHeapInto_79 hl (k := 4) rfl rfl (by decide) (fun y7 => [(4, .int y7), (0, .ref (al 6 0)), (1, .int x1), (2, .int x2), (3, .int x3)]) (fun _ => rfl) (fun y7 ls h hl => ?_)
  refine lv_goto (tgt := 18) hx hb dX11_cutHeapInto_82 (by decide) ?_
  exact hk18 σ x1 x2 x3 y7 H locs ls h hP hS (lv_sub hl [1, 2, 3, 4, 0] rfl)

set_option maxHeartbeats 4000000 in
set_option maxRecDepth 20000 in
theorem wI_cutHeapInto_85 {p : Program} {l : Launch} {e : Env} {s : State} {m : MethodId} {args : Array Value} {below : List Frame} {meth : Method} {c : Code} {x : Wx} {al : Nat → Nat → Nat} {lv : Nat → Bool} {res : Sg} (hC : Cx x p s m args meth c cX11_cutHeapInto 5 none RX11) (σ : Sg) (H : Heap) (locs : List Loc) (ls : Array Slot) (h : fI_cutHeapInto_85 lv σ = some res) (hP : Pic x al lv σ H) (hS : va_S (Ab x) s.heap H locs) (hl : lv_has ls 5 [(0, .ref (al 6 0))]) : W p l e (rmm 6 0 0) s m args below meth c H locs 0 0 (MQ below (QV x al lv res) args s 0 0 (Ab x)) (F0 m 85 ls []) := by
  obtain ⟨hx, hb, hml, hown, hts⟩ := hC.1
  unfold fI_cutHeapInto_85 at h
  refine lv_aload_n hx hb dX11_cutHeapInto_85 rfl (lv_at hl 0 rfl) ?_
  refine gt_X11_4 hC hP wf_X11_40 dX11_cutHeapInto_86 ?_
  refine lv_iconst (v := 0) hx hb dX11_cutHeapInto_89 (by decide) ?_
  refine pt_X4_0 hC hP hS wf_X11_265 h dX11_cutHeapInto_90 (fun σ8 H locs h hP hS => ?_)
  exact r_retV hC hP hS h dX11_cutHeapInto_93

set_option maxHeartbeats 4000000 in
set_option maxRecDepth 20000 in
theorem wI_cutHeapInto_18_b {p : Program} {l : Launch} {e : Env} {s : State} {m : MethodId} {args : Array Value} {below : List Frame} {meth : Method} {c : Code} {x : Wx} {al : Nat → Nat → Nat} {lv : Nat → Bool} {res : Sg} (hC : Cx x p s m args meth c cX11_cutHeapInto 5 none RX11) (k18 : Sg → Int32 → Int32 → Int32 → Int32 → Option (Sg)) (hk18 : ∀ (σ : Sg) (x1 : Int32) (x2 : Int32) (x3 : Int32) (x4 : Int32) (H : Heap) (locs : List Loc) (ls : Array Slot), k18 σ x1 x2 x3 x4 = some res → Pic x al lv σ H → va_S (Ab x) s.heap H locs → lv_has ls 5 [(0, .ref (al 6 0)), (1, .int x1), (2, .int x2), (3, .int x3), (4, .int x4)] → W p l e (rmm 6 0 0) s m args below meth c H locs 0 0 (MQ below (QV x al lv res) args s 0 0 (Ab x)) (F0 m 18 ls [])) (σ : Sg) (x1 : Int32) (x2 : Int32) (x3 : Int32) (x4 : Int32) (H : Heap) (locs : List Loc) (ls : Array Slot) (h : fI_cutHeapInto_18_b lv k18 σ x1 x2 x3 x4 = some res) (hP : Pic x al lv σ H) (hS : va_S (Ab x) s.heap H locs) (hl : lv_has ls 5 [(0, .ref (al 6 0)), (1, .int x1), (2, .int x2), (3, .int x3), (4, .int x4)]) : W p l e (rmm 6 0 0) s m args below meth c H locs 0 0 (MQ below (QV x al lv res) args s 0 0 (Ab x)) (F0 m 18 ls []) := by
  obtain ⟨hx, hb, hml, hown, hts⟩ := hC.1
  unfold fI_cutHeapInto_18_b at h
  refine lv_iload hx hb dX11_cutHeapInto_18 (lv_at hl 4 rfl) ?_
  refine lv_iload_n hx hb dX11_cutHeapInto_20 rfl (lv_at hl 3 rfl) ?_
  refine lv_icmp_ge (tgt := 85) hx hb dX11_cutHeapInto_21 (by decide) (fun hc => ?_) (fun hc => ?_)
  · replace h := (br h).1 hc
    exact wI_cutHeapInto_85  hC  σ H locs ls h hP hS (lv_sub hl [0] rfl)
  · replace h := (br h).2 hc
    refine lv_iload_n hx hb dX11_cutHeapInto_24 rfl (lv_at hl 2 rfl) ?_
    refine lv_aload_n hx hb dX11_cutHeapInto_25 rfl (lv_at hl 0 rfl) ?_
    refine gt_X11_4 hC hP wf_X11_40 dX11_cutHeapInto_26 ?_
    refine gt_X4_0 hC hP wf_X11_265 dX11_cutHeapInto_29 ?_
    refine lv_icmp_ge (tgt := 85) hx hb dX11_cutHeapInto_32 (by decide) (fun hc => ?_) (fun hc => ?_)
    · replace h := (br h).1 hc
      exact wI_cutHeapInto_85  hC  σ H locs ls h hP hS (lv_sub hl [0] rfl)
    · replace h := (br h).2 hc
      refine lv_aload_n hx hb dX11_cutHeapInto_35 rfl (lv_at hl 0 rfl) ?_
      refine gt_X11_18 hC hP wf_X11_347 dX11_cutHeapInto_36 ?_
      obtain ⟨hq2, h⟩ := gd_e h
      refine r_nn hq2 ?_
      refine lv_iload hx hb dX11_cutHeapInto_39 (lv_at hl 4 rfl) ?_
      refine r_cP hS h (fun r hr => r_runV (As := [.int x4]) (rest := []) hC kV_X11_432 cw_X7_isChosen (rc_X7 hq2 hC hP) hP (tPacker_isChosen x al lv σ hq2 x4 r hr) rfl hl.1 ⟨Nat.le_of_ble_eq_true rfl, Nat.le_of_ble_eq_true rfl⟩ ⟨Nat.le_of_ble_eq_true rfl, Nat.le_of_ble_eq_true rfl⟩ (Nat.le_of_ble_eq_true rfl) dX11_cutHeapInto_41) (fun y3 H locs h hP hS => ?_)
      refine lv_if_eq (tgt := 79) hx hb dX11_cutHeapInto_44 (by decide) (fun hc => ?_) (fun hc => ?_)
      · replace h := (br h).1 hc
        exact wI_cutHeapInto_79  hC k18 hk18 σ x1 x2 x3 x4 H locs ls h hP hS (lv_sub hl [0, 1, 2, 3, 4] rfl)
      · replace h := (br h).2 hc
        refine lv_aload_n hx hb dX11_cutHeapInto_47 rfl (lv_at hl 0 rfl) ?_
        refine gt_X11_0 hC hP wf_X11_12 dX11_cutHeapInto_48 ?_
        refine lv_iload_n hx hb dX11_cutHeapInto_51 rfl (lv_at hl 1 rfl) ?_
        refine lv_iload hx hb dX11_cutHeapInto_52 (lv_at hl 4 rfl) ?_
        refine lv_aload_n hx hb dX11_cutHeapInto_54 rfl (lv_at hl 0 rfl) ?_
        refine gt_X11_4 hC hP wf_X11_40 dX11_cutHeapInto_55 ?_
        refine gt_X4_1 hC hP wf_X11_435 dX11_cutHeapInto_58 ?_
        refine lv_iload_n hx hb dX11_cutHeapInto_61 rfl (lv_at hl 2 rfl) ?_
        refine r_iald hC hP (aI_16 hP.l6) h dX11_cutHeapInto_62 (fun h => ?_)
        refine lv_aload_n hx hb dX11_cutHeapInto_63 rfl (lv_at hl 0 rfl) ?_
        refine gt_X11_4 hC hP wf_X11_40 dX11_cutHeapInto_64 ?_
        refine gt_X4_2 hC hP wf_X11_436 dX11_cutHeapInto_67 ?_
        refine lv_iload_n hx hb dX11_cutHeapInto_70 rfl (lv_at hl 2 rfl) ?_
        refine r_iald hC hP (aI_17 hP.l6) h dX11_cutHeapInto_71 (fun h => ?_)
        refine r_cI hS h (fun r hr => r_runV (As := [.int x1, .int x4, .int (σ 6 16 x2.toNatClampNeg), .int (σ 6 17 x2.toNatClampNeg)]) (rest := []) hC kV_X11_154 cw_X10_cutBlock (rc_X10 (a := 0) h06 hP.l0 hC hP) hP (tStore_cutBlock x al lv σ 0 h06 hP.l0 x1 x4 (σ 6 16 x2.toNatClampNeg) (σ 6 17 x2.toNatClampNeg) r hr) rfl hl.1 ⟨Nat.le_of_ble_eq_true rfl, Nat.le_of_ble_eq_true rfl⟩ ⟨Nat.le_of_ble_eq_true rfl, Nat.le_of_ble_eq_true rfl⟩ (Nat.le_of_ble_eq_true rfl) dX11_cutHeapInto_72) (fun y4 σ5 H locs h hP hS => ?_)
        refine lv_pop hx hb dX11_cutHeapInto_75 rfl ?_
        refine r_iinc (v := 1) hC h dX11_cutHeapInto_76 hl (k := 2) rfl rfl (by decide) (fun y6 => [(2, .int y6), (0, .ref (al 6 0)), (1, .int x1), (3, .int x3), (4, .int x4)]) (fun _ => rfl) (fun y6 ls h hl => ?_)
        exact wI_cutHeapInto_79  hC k18 hk18 σ5 x1 y6 x3 x4 H locs ls h hP hS (lv_sub hl [1, 2, 0, 3, 4] rfl)

set_option maxHeartbeats 4000000 in
set_option maxRecDepth 20000 in
theorem wI_cutHeapInto_18 {p : Program} {l : Launch} {e : Env} {s : State} {m : MethodId} {args : Array Value} {below : List Frame} {meth : Method} {c : Code} {x : Wx} {al : Nat → Nat → Nat} {lv : Nat → Bool} {res : Sg} (hC : Cx x p s m args meth c cX11_cutHeapInto 5 none RX11) (n : Nat) (σ : Sg) (x1 : Int32) (x2 : Int32) (x3 : Int32) (x4 : Int32) (H : Heap) (locs : List Loc) (ls : Array Slot) (h : fI_cutHeapInto_18 lv n σ x1 x2 x3 x4 = some res) (hP : Pic x al lv σ H) (hS : va_S (Ab x) s.heap H locs) (hl : lv_has ls 5 [(0, .ref (al 6 0)), (1, .int x1), (2, .int x2), (3, .int x3), (4, .int x4)]) : W p l e (rmm 6 0 0) s m args below meth c H locs 0 0 (MQ below (QV x al lv res) args s 0 0 (Ab x)) (F0 m 18 ls []) := by
  induction n generalizing σ x1 x2 x3 x4 H locs ls with
  | zero => exact nomatch h
  | succ n ih => exact wI_cutHeapInto_18_b  hC  _ (fun σ x1 x2 x3 x4 H locs ls h hP hS hl => ih σ x1 x2 x3 x4 H locs ls h hP hS hl) σ x1 x2 x3 x4 H locs ls h hP hS hl
set_option maxHeartbeats 4000000 in
set_option maxRecDepth 20000 in
theorem wI_cutHeapInto_0 {p : Program} {l : Launch} {e : Env} {s : State} {m : MethodId} {args : Array Value} {below : List Frame} {meth : Method} {c : Code} {x : Wx} {al : Nat → Nat → Nat} {lv : Nat → Bool} {res : Sg} (hC : Cx x p s m args meth c cX11_cutHeapInto 5 none RX11) (σ : Sg) (v1 : Int32) (H : Heap) (locs : List Loc) (ls : Array Slot) (h : fI_cutHeapInto_0 lv σ v1 = some res) (hP : Pic x al lv σ H) (hS : va_S (Ab x) s.heap H locs) (hl : lv_has ls 5 [(0, .ref (al 6 0)), (1, .int v1)]) : W p l e (rmm 6 0 0) s m args below meth c H locs 0 0 (MQ below (QV x al lv res) args s 0 0 (Ab x)) (F0 m 0 ls []) := by
  obtain ⟨hx, hb, hml, hown, hts⟩ := hC.1
  unfold fI_cutHeapInto_0 at h
  refine lv_iconst (v := 0) hx hb dX11_cutHeapInto_0 (by decide) ?_
  refine lv_istore_n (lv' := [(2, .int 0), (0, .ref (al 6 0)), (1, .int v1)]) hx hb dX11_cutHeapInto_1 rfl hl (by decide) rfl (fun ls hl => ?_)
  refine lv_aload_n hx hb dX11_cutHeapInto_2 rfl (lv_at hl 1 rfl) ?_
  refine gt_X11_0 hC hP wf_X11_12 dX11_cutHeapInto_3 ?_
  refine gt_X10_5 (a := 0) h06 hP.l0 hC hP wf_X11_58 dX11_cutHeapInto_6 ?_
  refine gt_X8_7 (a := 0) h06 hP.l0 hC hP wf_X11_338 dX11_cutHeapInto_9 ?_
  refine lv_iload_n hx hb dX11_cutHeapInto_12 rfl (lv_at hl 2 rfl) ?_
  refine r_iald hC hP (aS_8 (a := 0) h06 hP.l0) h dX11_cutHeapInto_13 (fun h => ?_)
  refine r_lt h (fun y1 h => ?_)
  refine lv_istore_n (lv' := [(3, .int y1), (2, .int 0), (0, .ref (al 6 0)), (1, .int v1)]) hx hb dX11_cutHeapInto_14 rfl hl (by decide) rfl (fun ls hl => ?_)
  refine lv_iconst (v := 0) hx hb dX11_cutHeapInto_15 (by decide) ?_
  refine lv_istore (lv' := [(4, .int 0), (3, .int y1), (2, .int 0), (0, .ref (al 6 0)), (1, .int v1)]) hx hb dX11_cutHeapInto_16 hl (by decide) rfl (fun ls hl => ?_)
  exact wI_cutHeapInto_18  hC  FU σ v1 0 y1 0 H locs ls h hP hS (lv_sub hl [3, 4, 2, 1, 0] rfl)

set_option maxRecDepth 20000 in
theorem tI_cutHeapInto {l : Launch} (x : Wx) (al : Nat → Nat → Nat) (lv : Nat → Bool) (σ : Sg) (v1 : Int32) (res : Sg) (h : fI_cutHeapInto lv σ v1 = some res) : Met l yX11_cutHeapInto (Cond.code yX11_cutHeapInto cX11_cutHeapInto 5 none :: lwg) (rmm 6 0 0) (va_Pc [.ref (al 6 0), .int v1] (Wd x al lv σ)) (QV x al lv res) 0 0 (Ab x) := by
  refine met_W (by decide) (Nat.le_of_ble_eq_true rfl) rfl (fun p e s m args below meth c ls hC hP hS hl => ?_)
  exact wI_cutHeapInto_0  hC σ v1 _ _ ls h hP hS hl
set_option maxHeartbeats 4000000 in
set_option maxRecDepth 20000 in
theorem wI_back_58 {p : Program} {l : Launch} {e : Env} {s : State} {m : MethodId} {args : Array Value} {below : List Frame} {meth : Method} {c : Code} {x : Wx} {al : Nat → Nat → Nat} {lv : Nat → Bool} {res : Int32 × Sg} (hC : Cx x p s m args meth c cX11_back 2 (some .int) RX11) (σ : Sg) (H : Heap) (locs : List Loc) (ls : Array Slot) (h : fI_back_58 lv σ = some res) (hP : Pic x al lv σ H) (hS : va_S (Ab x) s.heap H locs) (hl : lv_has ls 2 [(0, .ref (al 6 0))]) : W p l e (rmm 4 0 0) s m args below meth c H locs 0 0 (MQ below (QI x al lv res) args s 0 0 (Ab x)) (F0 m 58 ls []) := by
  obtain ⟨hx, hb, hml, hown, hts⟩ := hC.1
  unfold fI_back_58 at h
  refine lv_aload_n hx hb dX11_back_58 rfl (lv_at hl 0 rfl) ?_
  refine lv_iconst (v := 0) hx hb dX11_back_59 (by decide) ?_
  refine r_cI hS h (fun r hr => r_runV (As := [.int 0]) (rest := []) hC kV_X11_72 cw_X11_answer (rc_X11 hC hP) hP (tI_answer x al lv σ 0 r hr) rfl hl.1 ⟨Nat.le_of_ble_eq_true rfl, Nat.le_of_ble_eq_true rfl⟩ ⟨Nat.le_of_ble_eq_true rfl, Nat.le_of_ble_eq_true rfl⟩ (Nat.le_of_ble_eq_true rfl) dX11_back_60) (fun y12 σ13 H locs h hP hS => ?_)
  exact r_retI hC hP hS rfl h dX11_back_63

set_option maxHeartbeats 4000000 in
set_option maxRecDepth 20000 in
theorem wI_back_0 {p : Program} {l : Launch} {e : Env} {s : State} {m : MethodId} {args : Array Value} {below : List Frame} {meth : Method} {c : Code} {x : Wx} {al : Nat → Nat → Nat} {lv : Nat → Bool} {res : Int32 × Sg} (hC : Cx x p s m args meth c cX11_back 2 (some .int) RX11) (σ : Sg) (v1 : Int32) (H : Heap) (locs : List Loc) (ls : Array Slot) (h : fI_back_0 lv σ v1 = some res) (hP : Pic x al lv σ H) (hS : va_S (Ab x) s.heap H locs) (hl : lv_has ls 2 [(0, .ref (al 6 0)), (1, .int v1)]) : W p l e (rmm 4 0 0) s m args below meth c H locs 0 0 (MQ below (QI x al lv res) args s 0 0 (Ab x)) (F0 m 0 ls []) := by
  obtain ⟨hx, hb, hml, hown, hts⟩ := hC.1
  unfold fI_back_0 at h
  refine lv_iload_n hx hb dX11_back_0 rfl (lv_at hl 1 rfl) ?_
  refine lv_iconst (v := 0) hx hb dX11_back_1 (by decide) ?_
  refine lv_iconst (v := 3) hx hb dX11_back_2 (by decide) ?_
  refine r_cP hS h (fun r hr => r_runS (As := [.int v1, .int 0, .int 3]) (rest := []) hC kS_X11_68 cw_X11_within hP (tI_within x al lv σ v1 0 3 r hr) rfl hl.1 ⟨Nat.le_of_ble_eq_true rfl, Nat.le_of_ble_eq_true rfl⟩ ⟨Nat.le_of_ble_eq_true rfl, Nat.le_of_ble_eq_true rfl⟩ (Nat.le_of_ble_eq_true rfl) dX11_back_3) (fun y1 H locs h hP hS => ?_)
  refine lv_if_ne (tgt := 15) hx hb dX11_back_6 (by decide) (fun hc => ?_) (fun hc => ?_)
  · replace h := (br h).2 hc
    refine lv_aload_n hx hb dX11_back_15 rfl (lv_at hl 0 rfl) ?_
    refine gt_X11_8 hC hP wf_X11_54 dX11_back_16 ?_
    refine lv_iload_n hx hb dX11_back_19 rfl (lv_at hl 1 rfl) ?_
    refine r_aald hC hP h dX11_back_20 (fun hi2 h => ?_)
    refine r_ifnn (tgt := 31) hC h dX11_back_21 (by decide) (fun hq3 h => ?_) (fun hq3f h => ?_)
    · refine lv_aload_n hx hb dX11_back_31 rfl (lv_at hl 0 rfl) ?_
      refine gt_X11_0 hC hP wf_X11_12 dX11_back_32 ?_
      refine lv_aload_n hx hb dX11_back_35 rfl (lv_at hl 0 rfl) ?_
      refine gt_X11_8 hC hP wf_X11_54 dX11_back_36 ?_
      refine lv_iload_n hx hb dX11_back_39 rfl (lv_at hl 1 rfl) ?_
      refine r_aald hC hP h dX11_back_40 (fun hi4 h => ?_)
      refine r_nn hq3 ?_
      refine r_cV hS h (fun r hr => r_runV (As := [.ref (al (2 + v1.toNatClampNeg) 0)]) (rest := []) hC kV_X11_316 cw_X10_copyFrom (rc_X10 (a := 0) h06 hP.l0 hC hP) hP (tStore_copyFrom x al lv σ 0 h06 hP.l0 (2 + v1.toNatClampNeg) (h26 hi4) hq3 r hr) rfl hl.1 ⟨Nat.le_of_ble_eq_true rfl, Nat.le_of_ble_eq_true rfl⟩ ⟨Nat.le_of_ble_eq_true rfl, Nat.le_of_ble_eq_true rfl⟩ (Nat.le_of_ble_eq_true rfl) dX11_back_41) (fun σ5 H locs h hP hS => ?_)
      refine lv_aload_n hx hb dX11_back_44 rfl (lv_at hl 0 rfl) ?_
      refine gt_X11_17 hC hP wf_X11_213 dX11_back_45 ?_
      refine r_ifn (tgt := 58) hC h dX11_back_48 (by decide) (fun hq6 h => ?_) (fun hq6f h => ?_)
      · refine lv_aload_n hx hb dX11_back_51 rfl (lv_at hl 0 rfl) ?_
        refine gt_X11_17 hC hP wf_X11_213 dX11_back_52 ?_
        refine r_nn hq6 ?_
        refine r_cV hS h (fun r hr => r_runV (As := []) (rest := []) hC kV_X11_362 cw_X1_empty (rc_X1 hq6 hC hP) hP (tBook_empty x al lv σ5 hq6 r hr) rfl hl.1 ⟨Nat.le_of_ble_eq_true rfl, Nat.le_of_ble_eq_true rfl⟩ ⟨Nat.le_of_ble_eq_true rfl, Nat.le_of_ble_eq_true rfl⟩ (Nat.le_of_ble_eq_true rfl) dX11_back_55) (fun σ7 H locs h hP hS => ?_)
        exact wI_back_58  hC  σ7 H locs ls h hP hS (lv_sub hl [0] rfl)
      · exact wI_back_58  hC  σ5 H locs ls h hP hS (lv_sub hl [0] rfl)
    · refine lv_aload_n hx hb dX11_back_24 rfl (lv_at hl 0 rfl) ?_
      refine lv_bipush (v := (-2)) hx hb dX11_back_25 (by decide) ?_
      refine r_cI hS h (fun r hr => r_runV (As := [.int ((-2))]) (rest := []) hC kV_X11_72 cw_X11_answer (rc_X11 hC hP) hP (tI_answer x al lv σ ((-2)) r hr) rfl hl.1 ⟨Nat.le_of_ble_eq_true rfl, Nat.le_of_ble_eq_true rfl⟩ ⟨Nat.le_of_ble_eq_true rfl, Nat.le_of_ble_eq_true rfl⟩ (Nat.le_of_ble_eq_true rfl) dX11_back_27) (fun y8 σ9 H locs h hP hS => ?_)
      exact r_retI hC hP hS rfl h dX11_back_30
  · replace h := (br h).1 hc
    refine lv_aload_n hx hb dX11_back_9 rfl (lv_at hl 0 rfl) ?_
    refine lv_iconst (v := (-1)) hx hb dX11_back_10 (by decide) ?_
    refine r_cI hS h (fun r hr => r_runV (As := [.int ((-1))]) (rest := []) hC kV_X11_72 cw_X11_answer (rc_X11 hC hP) hP (tI_answer x al lv σ ((-1)) r hr) rfl hl.1 ⟨Nat.le_of_ble_eq_true rfl, Nat.le_of_ble_eq_true rfl⟩ ⟨Nat.le_of_ble_eq_true rfl, Nat.le_of_ble_eq_true rfl⟩ (Nat.le_of_ble_eq_true rfl) dX11_back_11) (fun y10 σ11 H locs h hP hS => ?_)
    exact r_retI hC hP hS rfl h dX11_back_14

set_option maxRecDepth 20000 in
theorem tI_back {l : Launch} (x : Wx) (al : Nat → Nat → Nat) (lv : Nat → Bool) (σ : Sg) (v1 : Int32) (res : Int32 × Sg) (h : fI_back lv σ v1 = some res) : Met l yX11_back (Cond.code yX11_back cX11_back 2 (some .int) :: lwg) (rmm 4 0 0) (va_Pc [.ref (al 6 0), .int v1] (Wd x al lv σ)) (QI x al lv res) 0 0 (Ab x) := by
  refine met_W (by decide) (Nat.le_of_ble_eq_true rfl) rfl (fun p e s m args below meth c ls hC hP hS hl => ?_)
  exact wI_back_0  hC σ v1 _ _ ls h hP hS hl
set_option maxHeartbeats 4000000 in
set_option maxRecDepth 20000 in
theorem wI_refusalOfLine_0 {p : Program} {l : Launch} {e : Env} {s : State} {m : MethodId} {args : Array Value} {below : List Frame} {meth : Method} {c : Code} {x : Wx} {al : Nat → Nat → Nat} {lv : Nat → Bool} {res : Int32} {σ : Sg} (hC : Cx x p s m args meth c cX11_refusalOfLine 3 (some .int) RX11) (v1 : Int32) (v2 : Int32) (H : Heap) (locs : List Loc) (ls : Array Slot) (h : fI_refusalOfLine_0 lv σ v1 v2 = some res) (hP : Pic x al lv σ H) (hS : va_S (Ab x) s.heap H locs) (hl : lv_has ls 3 [(0, .ref (al 6 0)), (1, .int v1), (2, .int v2)]) : W p l e (rmm 2 0 0) s m args below meth c H locs 0 0 (MQ below (QP x al lv σ res) args s 0 0 (Ab x)) (F0 m 0 ls []) := by
  obtain ⟨hx, hb, hml, hown, hts⟩ := hC.1
  unfold fI_refusalOfLine_0 at h
  refine lv_iload_n hx hb dX11_refusalOfLine_0 rfl (lv_at hl 2 rfl) ?_
  refine lv_iconst (v := 0) hx hb dX11_refusalOfLine_1 (by decide) ?_
  refine lv_iconst (v := 5) hx hb dX11_refusalOfLine_2 (by decide) ?_
  refine r_cP hS h (fun r hr => r_runS (As := [.int v2, .int 0, .int 5]) (rest := []) hC kS_X11_68 cw_X11_within hP (tI_within x al lv σ v2 0 5 r hr) rfl hl.1 ⟨Nat.le_of_ble_eq_true rfl, Nat.le_of_ble_eq_true rfl⟩ ⟨Nat.le_of_ble_eq_true rfl, Nat.le_of_ble_eq_true rfl⟩ (Nat.le_of_ble_eq_true rfl) dX11_refusalOfLine_3) (fun y1 H locs h hP hS => ?_)
  refine lv_if_ne (tgt := 11) hx hb dX11_refusalOfLine_6 (by decide) (fun hc => ?_) (fun hc => ?_)
  · replace h := (br h).2 hc
    refine lv_aload_n hx hb dX11_refusalOfLine_11 rfl (lv_at hl 0 rfl) ?_
    refine gt_X11_17 hC hP wf_X11_213 dX11_refusalOfLine_12 ?_
    refine r_ifn (tgt := 39) hC h dX11_refusalOfLine_15 (by decide) (fun hq2 h => ?_) (fun hq2f h => ?_)
    · refine lv_iload_n hx hb dX11_refusalOfLine_18 rfl (lv_at hl 1 rfl) ?_
      refine lv_iconst (v := 0) hx hb dX11_refusalOfLine_19 (by decide) ?_
      refine lv_aload_n hx hb dX11_refusalOfLine_20 rfl (lv_at hl 0 rfl) ?_
      refine gt_X11_17 hC hP wf_X11_213 dX11_refusalOfLine_21 ?_
      refine r_nn hq2 ?_
      refine gt_X1_0 hq2 hC hP wf_X11_262 dX11_refusalOfLine_24 ?_
      refine lv_iconst (v := 1) hx hb dX11_refusalOfLine_27 (by decide) ?_
      refine lv_isub hx hb dX11_refusalOfLine_28 ?_
      refine r_cP hS h (fun r hr => r_runS (As := [.int v1, .int 0, .int ((σ 8 0 0) - 1)]) (rest := []) hC kS_X11_68 cw_X11_within hP (tI_within x al lv σ v1 0 ((σ 8 0 0) - 1) r hr) rfl hl.1 ⟨Nat.le_of_ble_eq_true rfl, Nat.le_of_ble_eq_true rfl⟩ ⟨Nat.le_of_ble_eq_true rfl, Nat.le_of_ble_eq_true rfl⟩ (Nat.le_of_ble_eq_true rfl) dX11_refusalOfLine_29) (fun y3 H locs h hP hS => ?_)
      refine lv_if_eq (tgt := 39) hx hb dX11_refusalOfLine_32 (by decide) (fun hc => ?_) (fun hc => ?_)
      · replace h := (br h).1 hc
        refine lv_bipush (v := (-2)) hx hb dX11_refusalOfLine_39 (by decide) ?_
        exact r_retP hC hP hS rfl h dX11_refusalOfLine_41
      · replace h := (br h).2 hc
        refine lv_iconst (v := 0) hx hb dX11_refusalOfLine_35 (by decide) ?_
        refine lv_goto (tgt := 41) hx hb dX11_refusalOfLine_36 (by decide) ?_
        exact r_retP hC hP hS rfl h dX11_refusalOfLine_41
    · refine lv_bipush (v := (-2)) hx hb dX11_refusalOfLine_39 (by decide) ?_
      exact r_retP hC hP hS rfl h dX11_refusalOfLine_41
  · replace h := (br h).1 hc
    refine lv_iconst (v := (-1)) hx hb dX11_refusalOfLine_9 (by decide) ?_
    exact r_retP hC hP hS rfl h dX11_refusalOfLine_10

set_option maxRecDepth 20000 in
theorem tI_refusalOfLine {l : Launch} (x : Wx) (al : Nat → Nat → Nat) (lv : Nat → Bool) (σ : Sg) (v1 : Int32) (v2 : Int32) (res : Int32) (h : fI_refusalOfLine lv σ v1 v2 = some res) : Met l yX11_refusalOfLine (Cond.code yX11_refusalOfLine cX11_refusalOfLine 3 (some .int) :: lwg) (rmm 2 0 0) (va_Pc [.ref (al 6 0), .int v1, .int v2] (Wd x al lv σ)) (QP x al lv σ res) 0 0 (Ab x) := by
  refine met_W (by decide) (Nat.le_of_ble_eq_true rfl) rfl (fun p e s m args below meth c ls hC hP hS hl => ?_)
  exact wI_refusalOfLine_0  hC v1 v2 _ _ ls h hP hS hl
set_option maxHeartbeats 4000000 in
set_option maxRecDepth 20000 in
theorem wI_line_18 {p : Program} {l : Launch} {e : Env} {s : State} {m : MethodId} {args : Array Value} {below : List Frame} {meth : Method} {c : Code} {x : Wx} {al : Nat → Nat → Nat} {lv : Nat → Bool} {res : Int32} {σ : Sg} (hC : Cx x p s m args meth c cX11_line 4 (some .int) RX11) (x3 : Int32) (H : Heap) (locs : List Loc) (ls : Array Slot) (h : fI_line_18 lv σ x3 = some res) (hP : Pic x al lv σ H) (hS : va_S (Ab x) s.heap H locs) (hl : lv_has ls 4 [(3, .int x3)]) : W p l e (rmm 3 0 0) s m args below meth c H locs 0 0 (MQ below (QP x al lv σ res) args s 0 0 (Ab x)) (F0 m 18 ls []) := by
  obtain ⟨hx, hb, hml, hown, hts⟩ := hC.1
  unfold fI_line_18 at h
  refine lv_iload_n hx hb dX11_line_18 rfl (lv_at hl 0 rfl) ?_
  refine lv_goto (tgt := 31) hx hb dX11_line_19 (by decide) ?_
  exact r_retP hC hP hS rfl h dX11_line_31

set_option maxHeartbeats 4000000 in
set_option maxRecDepth 20000 in
theorem wI_line_0 {p : Program} {l : Launch} {e : Env} {s : State} {m : MethodId} {args : Array Value} {below : List Frame} {meth : Method} {c : Code} {x : Wx} {al : Nat → Nat → Nat} {lv : Nat → Bool} {res : Int32} {σ : Sg} (hC : Cx x p s m args meth c cX11_line 4 (some .int) RX11) (v1 : Int32) (v2 : Int32) (H : Heap) (locs : List Loc) (ls : Array Slot) (h : fI_line_0 lv σ v1 v2 = some res) (hP : Pic x al lv σ H) (hS : va_S (Ab x) s.heap H locs) (hl : lv_has ls 4 [(0, .ref (al 6 0)), (1, .int v1), (2, .int v2)]) : W p l e (rmm 3 0 0) s m args below meth c H locs 0 0 (MQ below (QP x al lv σ res) args s 0 0 (Ab x)) (F0 m 0 ls []) := by
  obtain ⟨hx, hb, hml, hown, hts⟩ := hC.1
  unfold fI_line_0 at h
  refine lv_aload_n hx hb dX11_line_0 rfl (lv_at hl 0 rfl) ?_
  refine lv_iload_n hx hb dX11_line_1 rfl (lv_at hl 1 rfl) ?_
  refine lv_iload_n hx hb dX11_line_2 rfl (lv_at hl 2 rfl) ?_
  refine r_cP hS h (fun r hr => r_runV (As := [.int v1, .int v2]) (rest := []) hC kV_X11_365 cw_X11_refusalOfLine (rc_X11 hC hP) hP (tI_refusalOfLine x al lv σ v1 v2 r hr) rfl hl.1 ⟨Nat.le_of_ble_eq_true rfl, Nat.le_of_ble_eq_true rfl⟩ ⟨Nat.le_of_ble_eq_true rfl, Nat.le_of_ble_eq_true rfl⟩ (Nat.le_of_ble_eq_true rfl) dX11_line_3) (fun y1 H locs h hP hS => ?_)
  refine lv_istore_n (lv' := [(3, .int y1), (0, .ref (al 6 0)), (1, .int v1), (2, .int v2)]) hx hb dX11_line_6 rfl hl (by decide) rfl (fun ls hl => ?_)
  refine lv_iload_n hx hb dX11_line_7 rfl (lv_at hl 0 rfl) ?_
  refine lv_if_ne (tgt := 18) hx hb dX11_line_8 (by decide) (fun hc => ?_) (fun hc => ?_)
  · replace h := (br h).2 hc
    exact wI_line_18  hC  y1 H locs ls h hP hS (lv_sub hl [0] rfl)
  · replace h := (br h).1 hc
    refine lv_aload_n hx hb dX11_line_11 rfl (lv_at hl 1 rfl) ?_
    refine gt_X11_17 hC hP wf_X11_213 dX11_line_12 ?_
    refine r_ifnn (tgt := 22) hC h dX11_line_15 (by decide) (fun hq2 h => ?_) (fun hq2f h => ?_)
    · refine lv_aload_n hx hb dX11_line_22 rfl (lv_at hl 1 rfl) ?_
      refine gt_X11_17 hC hP wf_X11_213 dX11_line_23 ?_
      refine r_nn hq2 ?_
      refine lv_iload_n hx hb dX11_line_26 rfl (lv_at hl 2 rfl) ?_
      refine lv_iload_n hx hb dX11_line_27 rfl (lv_at hl 3 rfl) ?_
      refine r_cP hS h (fun r hr => r_runV (As := [.int v1, .int v2]) (rest := []) hC kV_X11_368 cw_X1_number (rc_X1 hq2 hC hP) hP (tBook_number x al lv σ hq2 v1 v2 r hr) rfl hl.1 ⟨Nat.le_of_ble_eq_true rfl, Nat.le_of_ble_eq_true rfl⟩ ⟨Nat.le_of_ble_eq_true rfl, Nat.le_of_ble_eq_true rfl⟩ (Nat.le_of_ble_eq_true rfl) dX11_line_28) (fun y3 H locs h hP hS => ?_)
      exact r_retP hC hP hS rfl h dX11_line_31
    · exact wI_line_18  hC  y1 H locs ls h hP hS (lv_sub hl [0] rfl)

set_option maxRecDepth 20000 in
theorem tI_line {l : Launch} (x : Wx) (al : Nat → Nat → Nat) (lv : Nat → Bool) (σ : Sg) (v1 : Int32) (v2 : Int32) (res : Int32) (h : fI_line lv σ v1 v2 = some res) : Met l yX11_line (Cond.code yX11_line cX11_line 4 (some .int) :: lwg) (rmm 3 0 0) (va_Pc [.ref (al 6 0), .int v1, .int v2] (Wd x al lv σ)) (QP x al lv σ res) 0 0 (Ab x) := by
  refine met_W (by decide) (Nat.le_of_ble_eq_true rfl) rfl (fun p e s m args below meth c ls hC hP hS hl => ?_)
  exact wI_line_0  hC v1 v2 _ _ ls h hP hS hl
set_option maxHeartbeats 4000000 in
set_option maxRecDepth 20000 in
theorem wI_alter_38 {p : Program} {l : Launch} {e : Env} {s : State} {m : MethodId} {args : Array Value} {below : List Frame} {meth : Method} {c : Code} {x : Wx} {al : Nat → Nat → Nat} {lv : Nat → Bool} {res : Int32 × Sg} (hC : Cx x p s m args meth c cX11_alter 5 (some .int) RX11) (σ : Sg) (x4 : Int32) (H : Heap) (locs : List Loc) (ls : Array Slot) (h : fI_alter_38 lv σ x4 = some res) (hP : Pic x al lv σ H) (hS : va_S (Ab x) s.heap H locs) (hl : lv_has ls 5 [(0, .ref (al 6 0)), (4, .int x4)]) : W p l e (rmm 3 0 0) s m args below meth c H locs 0 0 (MQ below (QI x al lv res) args s 0 0 (Ab x)) (F0 m 38 ls []) := by
  obtain ⟨hx, hb, hml, hown, hts⟩ := hC.1
  unfold fI_alter_38 at h
  refine lv_aload_n hx hb dX11_alter_38 rfl (lv_at hl 0 rfl) ?_
  refine lv_iload hx hb dX11_alter_39 (lv_at hl 1 rfl) ?_
  refine r_cI hS h (fun r hr => r_runV (As := [.int x4]) (rest := []) hC kV_X11_72 cw_X11_answer (rc_X11 hC hP) hP (tI_answer x al lv σ x4 r hr) rfl hl.1 ⟨Nat.le_of_ble_eq_true rfl, Nat.le_of_ble_eq_true rfl⟩ ⟨Nat.le_of_ble_eq_true rfl, Nat.le_of_ble_eq_true rfl⟩ (Nat.le_of_ble_eq_true rfl) dX11_alter_41) (fun y4 σ5 H locs h hP hS => ?_)
  exact r_retI hC hP hS rfl h dX11_alter_44

set_option maxHeartbeats 4000000 in
set_option maxRecDepth 20000 in
theorem wI_alter_14 {p : Program} {l : Launch} {e : Env} {s : State} {m : MethodId} {args : Array Value} {below : List Frame} {meth : Method} {c : Code} {x : Wx} {al : Nat → Nat → Nat} {lv : Nat → Bool} {res : Int32 × Sg} (hC : Cx x p s m args meth c cX11_alter 5 (some .int) RX11) (σ : Sg) (x1 : Int32) (x2 : Int32) (x3 : Int32) (t0 : Int32) (H : Heap) (locs : List Loc) (ls : Array Slot) (h : fI_alter_14 lv σ x1 x2 x3 t0 = some res) (hP : Pic x al lv σ H) (hS : va_S (Ab x) s.heap H locs) (hl : lv_has ls 5 [(0, .ref (al 6 0)), (1, .int x1), (2, .int x2), (3, .int x3)]) : W p l e (rmm 3 0 0) s m args below meth c H locs 0 0 (MQ below (QI x al lv res) args s 0 0 (Ab x)) (F0 m 14 ls [.int t0]) := by
  obtain ⟨hx, hb, hml, hown, hts⟩ := hC.1
  unfold fI_alter_14 at h
  refine lv_istore (lv' := [(4, .int t0), (0, .ref (al 6 0)), (1, .int x1), (2, .int x2), (3, .int x3)]) hx hb dX11_alter_14 hl (by decide) rfl (fun ls hl => ?_)
  refine lv_iload hx hb dX11_alter_16 (lv_at hl 0 rfl) ?_
  refine lv_if_ne (tgt := 38) hx hb dX11_alter_18 (by decide) (fun hc => ?_) (fun hc => ?_)
  · replace h := (br h).2 hc
    exact wI_alter_38  hC  σ t0 H locs ls h hP hS (lv_sub hl [1, 0] rfl)
  · replace h := (br h).1 hc
    refine lv_aload_n hx hb dX11_alter_21 rfl (lv_at hl 1 rfl) ?_
    refine gt_X11_17 hC hP wf_X11_213 dX11_alter_22 ?_
    refine r_ifn (tgt := 38) hC h dX11_alter_25 (by decide) (fun hq2 h => ?_) (fun hq2f h => ?_)
    · refine lv_aload_n hx hb dX11_alter_28 rfl (lv_at hl 1 rfl) ?_
      refine gt_X11_17 hC hP wf_X11_213 dX11_alter_29 ?_
      refine r_nn hq2 ?_
      refine lv_iload_n hx hb dX11_alter_32 rfl (lv_at hl 2 rfl) ?_
      refine lv_iload_n hx hb dX11_alter_33 rfl (lv_at hl 3 rfl) ?_
      refine lv_iload_n hx hb dX11_alter_34 rfl (lv_at hl 4 rfl) ?_
      refine r_cV hS h (fun r hr => r_runV (As := [.int x1, .int x2, .int x3]) (rest := []) hC kV_X11_370 cw_X1_change (rc_X1 hq2 hC hP) hP (tBook_change x al lv σ hq2 x1 x2 x3 r hr) rfl hl.1 ⟨Nat.le_of_ble_eq_true rfl, Nat.le_of_ble_eq_true rfl⟩ ⟨Nat.le_of_ble_eq_true rfl, Nat.le_of_ble_eq_true rfl⟩ (Nat.le_of_ble_eq_true rfl) dX11_alter_35) (fun σ3 H locs h hP hS => ?_)
      exact wI_alter_38  hC  σ3 t0 H locs ls h hP hS (lv_sub hl [1, 0] rfl)
    · exact wI_alter_38  hC  σ t0 H locs ls h hP hS (lv_sub hl [1, 0] rfl)

set_option maxHeartbeats 4000000 in
set_option maxRecDepth 20000 in
theorem wI_alter_0 {p : Program} {l : Launch} {e : Env} {s : State} {m : MethodId} {args : Array Value} {below : List Frame} {meth : Method} {c : Code} {x : Wx} {al : Nat → Nat → Nat} {lv : Nat → Bool} {res : Int32 × Sg} (hC : Cx x p s m args meth c cX11_alter 5 (some .int) RX11) (σ : Sg) (v1 : Int32) (v2 : Int32) (v3 : Int32) (H : Heap) (locs : List Loc) (ls : Array Slot) (h : fI_alter_0 lv σ v1 v2 v3 = some res) (hP : Pic x al lv σ H) (hS : va_S (Ab x) s.heap H locs) (hl : lv_has ls 5 [(0, .ref (al 6 0)), (1, .int v1), (2, .int v2), (3, .int v3)]) : W p l e (rmm 3 0 0) s m args below meth c H locs 0 0 (MQ below (QI x al lv res) args s 0 0 (Ab x)) (F0 m 0 ls []) := by
  obtain ⟨hx, hb, hml, hown, hts⟩ := hC.1
  unfold fI_alter_0 at h
  refine lv_iload_n hx hb dX11_alter_0 rfl (lv_at hl 3 rfl) ?_
  refine lv_if_ne (tgt := 8) hx hb dX11_alter_1 (by decide) (fun hc => ?_) (fun hc => ?_)
  · replace h := (br h).2 hc
    refine lv_aload_n hx hb dX11_alter_8 rfl (lv_at hl 0 rfl) ?_
    refine lv_iload_n hx hb dX11_alter_9 rfl (lv_at hl 1 rfl) ?_
    refine lv_iload_n hx hb dX11_alter_10 rfl (lv_at hl 2 rfl) ?_
    refine r_cP hS h (fun r hr => r_runV (As := [.int v1, .int v2]) (rest := []) hC kV_X11_365 cw_X11_refusalOfLine (rc_X11 hC hP) hP (tI_refusalOfLine x al lv σ v1 v2 r hr) rfl hl.1 ⟨Nat.le_of_ble_eq_true rfl, Nat.le_of_ble_eq_true rfl⟩ ⟨Nat.le_of_ble_eq_true rfl, Nat.le_of_ble_eq_true rfl⟩ (Nat.le_of_ble_eq_true rfl) dX11_alter_11) (fun y1 H locs h hP hS => ?_)
    exact wI_alter_14  hC  σ v1 v2 v3 y1 H locs ls h hP hS (lv_sub hl [0, 1, 2, 3] rfl)
  · replace h := (br h).1 hc
    refine lv_iconst (v := (-1)) hx hb dX11_alter_4 (by decide) ?_
    refine lv_goto (tgt := 14) hx hb dX11_alter_5 (by decide) ?_
    exact wI_alter_14  hC  σ v1 v2 v3 ((-1)) H locs ls h hP hS (lv_sub hl [0, 1, 2, 3] rfl)

set_option maxRecDepth 20000 in
theorem tI_alter {l : Launch} (x : Wx) (al : Nat → Nat → Nat) (lv : Nat → Bool) (σ : Sg) (v1 : Int32) (v2 : Int32) (v3 : Int32) (res : Int32 × Sg) (h : fI_alter lv σ v1 v2 v3 = some res) : Met l yX11_alter (Cond.code yX11_alter cX11_alter 5 (some .int) :: lwg) (rmm 3 0 0) (va_Pc [.ref (al 6 0), .int v1, .int v2, .int v3] (Wd x al lv σ)) (QI x al lv res) 0 0 (Ab x) := by
  refine met_W (by decide) (Nat.le_of_ble_eq_true rfl) rfl (fun p e s m args below meth c ls hC hP hS hl => ?_)
  exact wI_alter_0  hC σ v1 v2 v3 _ _ ls h hP hS hl
set_option maxHeartbeats 4000000 in
set_option maxRecDepth 20000 in
theorem wI_check_17 {p : Program} {l : Launch} {e : Env} {s : State} {m : MethodId} {args : Array Value} {below : List Frame} {meth : Method} {c : Code} {x : Wx} {al : Nat → Nat → Nat} {lv : Nat → Bool} {res : Int32} {σ : Sg} (hC : Cx x p s m args meth c cX11_check 1 (some .int) RX11) (H : Heap) (locs : List Loc) (ls : Array Slot) (h : fI_check_17 lv σ = some res) (hP : Pic x al lv σ H) (hS : va_S (Ab x) s.heap H locs) (hl : lv_has ls 1 []) : W p l e (rmm 2 0 0) s m args below meth c H locs 0 0 (MQ below (QP x al lv σ res) args s 0 0 (Ab x)) (F0 m 17 ls []) := by
  obtain ⟨hx, hb, hml, hown, hts⟩ := hC.1
  unfold fI_check_17 at h
  refine lv_bipush (v := (-7)) hx hb dX11_check_17 (by decide) ?_
  refine lv_goto (tgt := 29) hx hb dX11_check_19 (by decide) ?_
  exact r_retP hC hP hS rfl h dX11_check_29

set_option maxHeartbeats 4000000 in
set_option maxRecDepth 20000 in
theorem wI_check_0 {p : Program} {l : Launch} {e : Env} {s : State} {m : MethodId} {args : Array Value} {below : List Frame} {meth : Method} {c : Code} {x : Wx} {al : Nat → Nat → Nat} {lv : Nat → Bool} {res : Int32} {σ : Sg} (hC : Cx x p s m args meth c cX11_check 1 (some .int) RX11) (H : Heap) (locs : List Loc) (ls : Array Slot) (h : fI_check_0 lv σ = some res) (hP : Pic x al lv σ H) (hS : va_S (Ab x) s.heap H locs) (hl : lv_has ls 1 [(0, .ref (al 6 0))]) : W p l e (rmm 2 0 0) s m args below meth c H locs 0 0 (MQ below (QP x al lv σ res) args s 0 0 (Ab x)) (F0 m 0 ls []) := by
  obtain ⟨hx, hb, hml, hown, hts⟩ := hC.1
  unfold fI_check_0 at h
  refine lv_aload_n hx hb dX11_check_0 rfl (lv_at hl 0 rfl) ?_
  refine gt_X11_17 hC hP wf_X11_213 dX11_check_1 ?_
  refine r_ifn (tgt := 17) hC h dX11_check_4 (by decide) (fun hq1 h => ?_) (fun hq1f h => ?_)
  · refine lv_aload_n hx hb dX11_check_7 rfl (lv_at hl 0 rfl) ?_
    refine gt_X11_17 hC hP wf_X11_213 dX11_check_8 ?_
    refine r_nn hq1 ?_
    refine gt_X1_1 hq1 hC hP wf_X11_373 dX11_check_11 ?_
    refine lv_if_ne (tgt := 22) hx hb dX11_check_14 (by decide) (fun hc => ?_) (fun hc => ?_)
    · replace h := (br h).2 hc
      refine lv_aload_n hx hb dX11_check_22 rfl (lv_at hl 0 rfl) ?_
      refine gt_X11_17 hC hP wf_X11_213 dX11_check_23 ?_
      refine r_nn hq1 ?_
      refine r_cP hS h (fun r hr => r_runV (As := []) (rest := []) hC kV_X11_377 cw_X1_firstWrong (rc_X1 hq1 hC hP) hP (tBook_firstWrong x al lv σ hq1 r hr) rfl hl.1 ⟨Nat.le_of_ble_eq_true rfl, Nat.le_of_ble_eq_true rfl⟩ ⟨Nat.le_of_ble_eq_true rfl, Nat.le_of_ble_eq_true rfl⟩ (Nat.le_of_ble_eq_true rfl) dX11_check_26) (fun y2 H locs h hP hS => ?_)
      exact r_retP hC hP hS rfl h dX11_check_29
    · replace h := (br h).1 hc
      exact wI_check_17  hC   H locs ls h hP hS (lv_sub hl [] rfl)
  · exact wI_check_17  hC   H locs ls h hP hS (lv_sub hl [] rfl)

set_option maxRecDepth 20000 in
theorem tI_check {l : Launch} (x : Wx) (al : Nat → Nat → Nat) (lv : Nat → Bool) (σ : Sg) (res : Int32) (h : fI_check lv σ = some res) : Met l yX11_check (Cond.code yX11_check cX11_check 1 (some .int) :: lwg) (rmm 2 0 0) (va_Pc [.ref (al 6 0)] (Wd x al lv σ)) (QP x al lv σ res) 0 0 (Ab x) := by
  refine met_W (by decide) (Nat.le_of_ble_eq_true rfl) rfl (fun p e s m args below meth c ls hC hP hS hl => ?_)
  exact wI_check_0  hC  _ _ ls h hP hS hl
set_option maxHeartbeats 4000000 in
set_option maxRecDepth 20000 in
theorem wI_status_0 {p : Program} {l : Launch} {e : Env} {s : State} {m : MethodId} {args : Array Value} {below : List Frame} {meth : Method} {c : Code} {x : Wx} {al : Nat → Nat → Nat} {lv : Nat → Bool} {res : Int32} {σ : Sg} (hC : Cx x p s m args meth c cX11_status 1 (some .int) RX11) (H : Heap) (locs : List Loc) (ls : Array Slot) (h : fI_status_0 σ = some res) (hP : Pic x al lv σ H) (hS : va_S (Ab x) s.heap H locs) (hl : lv_has ls 1 [(0, .ref (al 6 0))]) : W p l e (rmm 1 0 0) s m args below meth c H locs 0 0 (MQ below (QP x al lv σ res) args s 0 0 (Ab x)) (F0 m 0 ls []) := by
  obtain ⟨hx, hb, hml, hown, hts⟩ := hC.1
  unfold fI_status_0 at h
  refine lv_aload_n hx hb dX11_status_0 rfl (lv_at hl 0 rfl) ?_
  refine gt_X11_14 hC hP wf_X11_380 dX11_status_1 ?_
  exact r_retP hC hP hS rfl h dX11_status_4

set_option maxRecDepth 20000 in
theorem tI_status {l : Launch} (x : Wx) (al : Nat → Nat → Nat) (lv : Nat → Bool) (σ : Sg) (res : Int32) (h : fI_status σ = some res) : Met l yX11_status (Cond.code yX11_status cX11_status 1 (some .int) :: lwg) (rmm 1 0 0) (va_Pc [.ref (al 6 0)] (Wd x al lv σ)) (QP x al lv σ res) 0 0 (Ab x) := by
  refine met_W (by decide) (Nat.le_of_ble_eq_true rfl) rfl (fun p e s m args below meth c ls hC hP hS hl => ?_)
  exact wI_status_0  hC  _ _ ls h hP hS hl
set_option maxHeartbeats 4000000 in
set_option maxRecDepth 20000 in
theorem wM_ends_10 {p : Program} {l : Launch} {e : Env} {s : State} {m : MethodId} {args : Array Value} {below : List Frame} {meth : Method} {c : Code} {x : Wx} {al : Nat → Nat → Nat} {lv : Nat → Bool} {res : Int32 × Sg} (hC : Cx x p s m args meth c cX12_ends 2 (some .int) RX12) (σ : Sg) (x1 : Int32) (t0 : Int32) (H : Heap) (locs : List Loc) (ls : Array Slot) (h : fM_ends_10 σ x1 t0 = some res) (hP : Pic x al lv σ H) (hS : va_S (Ab x) s.heap H locs) (hl : lv_has ls 2 [(1, .int x1)]) : W p l e (rmm 1 0 0) s m args below meth c H locs 0 0 (MQ below (QI x al lv res) args s 0 0 (Ab x)) (F0 m 10 ls [.int t0, .ref (al 7 0)]) := by
  obtain ⟨hx, hb, hml, hown, hts⟩ := hC.1
  unfold fM_ends_10 at h
  refine pt_X12_0 hC hP hS wf_X12_136 h dX12_ends_10 (fun σ1 H locs h hP hS => ?_)
  refine lv_iload_n hx hb dX12_ends_13 rfl (lv_at hl 0 rfl) ?_
  exact r_retI hC hP hS rfl h dX12_ends_14

set_option maxHeartbeats 4000000 in
set_option maxRecDepth 20000 in
theorem wM_ends_0 {p : Program} {l : Launch} {e : Env} {s : State} {m : MethodId} {args : Array Value} {below : List Frame} {meth : Method} {c : Code} {x : Wx} {al : Nat → Nat → Nat} {lv : Nat → Bool} {res : Int32 × Sg} (hC : Cx x p s m args meth c cX12_ends 2 (some .int) RX12) (σ : Sg) (v1 : Int32) (H : Heap) (locs : List Loc) (ls : Array Slot) (h : fM_ends_0 σ v1 = some res) (hP : Pic x al lv σ H) (hS : va_S (Ab x) s.heap H locs) (hl : lv_has ls 2 [(0, .ref (al 7 0)), (1, .int v1)]) : W p l e (rmm 1 0 0) s m args below meth c H locs 0 0 (MQ below (QI x al lv res) args s 0 0 (Ab x)) (F0 m 0 ls []) := by
  obtain ⟨hx, hb, hml, hown, hts⟩ := hC.1
  unfold fM_ends_0 at h
  refine lv_aload_n hx hb dX12_ends_0 rfl (lv_at hl 0 rfl) ?_
  refine lv_iload_n hx hb dX12_ends_1 rfl (lv_at hl 1 rfl) ?_
  refine lv_if_ge (tgt := 9) hx hb dX12_ends_2 (by decide) (fun hc => ?_) (fun hc => ?_)
  · replace h := (br h).1 hc
    refine lv_iconst (v := 0) hx hb dX12_ends_9 (by decide) ?_
    exact wM_ends_10  hC  σ v1 0 H locs ls h hP hS (lv_sub hl [1] rfl)
  · replace h := (br h).2 hc
    refine lv_iload_n hx hb dX12_ends_5 rfl (lv_at hl 1 rfl) ?_
    refine lv_goto (tgt := 10) hx hb dX12_ends_6 (by decide) ?_
    exact wM_ends_10  hC  σ v1 v1 H locs ls h hP hS (lv_sub hl [1] rfl)

set_option maxRecDepth 20000 in
theorem tM_ends {l : Launch} (x : Wx) (al : Nat → Nat → Nat) (lv : Nat → Bool) (σ : Sg) (v1 : Int32) (res : Int32 × Sg) (h : fM_ends σ v1 = some res) : Met l yX12_ends (Cond.code yX12_ends cX12_ends 2 (some .int) :: lwg) (rmm 1 0 0) (va_Pc [.ref (al 7 0), .int v1] (Wd x al lv σ)) (QI x al lv res) 0 0 (Ab x) := by
  refine met_W (by decide) (Nat.le_of_ble_eq_true rfl) rfl (fun p e s m args below meth c ls hC hP hS hl => ?_)
  exact wM_ends_0  hC σ v1 _ _ ls h hP hS hl
set_option maxHeartbeats 4000000 in
set_option maxRecDepth 20000 in
theorem wM_in_0 {p : Program} {l : Launch} {e : Env} {s : State} {m : MethodId} {args : Array Value} {below : List Frame} {meth : Method} {c : Code} {x : Wx} {al : Nat → Nat → Nat} {lv : Nat → Bool} {res : Int32} {σ : Sg} (hC : Cx x p s m args meth c cX12_in 3 (some .boolean) RX12) (v0 : Int32) (v1 : Int32) (v2 : Int32) (H : Heap) (locs : List Loc) (ls : Array Slot) (h : fM_in_0 σ v0 v1 v2 = some res) (hP : Pic x al lv σ H) (hS : va_S (Ab x) s.heap H locs) (hl : lv_has ls 3 [(0, .int v0), (1, .int v1), (2, .int v2)]) : W p l e (rmm 1 0 0) s m args below meth c H locs 0 0 (MQ below (QP x al lv σ res) args s 0 0 (Ab x)) (F0 m 0 ls []) := by
  obtain ⟨hx, hb, hml, hown, hts⟩ := hC.1
  unfold fM_in_0 at h
  refine lv_iload_n hx hb dX12_in_0 rfl (lv_at hl 0 rfl) ?_
  refine lv_iload_n hx hb dX12_in_1 rfl (lv_at hl 1 rfl) ?_
  refine lv_icmp_lt (tgt := 14) hx hb dX12_in_2 (by decide) (fun hc => ?_) (fun hc => ?_)
  · replace h := (br h).1 hc
    refine lv_iconst (v := 0) hx hb dX12_in_14 (by decide) ?_
    exact r_retP hC hP hS rfl h dX12_in_15
  · replace h := (br h).2 hc
    refine lv_iload_n hx hb dX12_in_5 rfl (lv_at hl 0 rfl) ?_
    refine lv_iload_n hx hb dX12_in_6 rfl (lv_at hl 2 rfl) ?_
    refine lv_icmp_gt (tgt := 14) hx hb dX12_in_7 (by decide) (fun hc => ?_) (fun hc => ?_)
    · replace h := (br h).1 hc
      refine lv_iconst (v := 0) hx hb dX12_in_14 (by decide) ?_
      exact r_retP hC hP hS rfl h dX12_in_15
    · replace h := (br h).2 hc
      refine lv_iconst (v := 1) hx hb dX12_in_10 (by decide) ?_
      refine lv_goto (tgt := 15) hx hb dX12_in_11 (by decide) ?_
      exact r_retP hC hP hS rfl h dX12_in_15

set_option maxRecDepth 20000 in
theorem tM_in {l : Launch} (x : Wx) (al : Nat → Nat → Nat) (lv : Nat → Bool) (σ : Sg) (v0 : Int32) (v1 : Int32) (v2 : Int32) (res : Int32) (h : fM_in σ v0 v1 v2 = some res) : Met l yX12_in (Cond.code yX12_in cX12_in 3 (some .boolean) :: lwg) (rmm 1 0 0) (va_Pc [.int v0, .int v1, .int v2] (Wd x al lv σ)) (QP x al lv σ res) 0 0 (Ab x) := by
  refine met_W (by decide) (Nat.le_of_ble_eq_true rfl) rfl (fun p e s m args below meth c ls hC hP hS hl => ?_)
  exact wM_in_0  hC v0 v1 v2 _ _ ls h hP hS hl
set_option maxHeartbeats 4000000 in
set_option maxRecDepth 20000 in
theorem wM_warm_48 {p : Program} {l : Launch} {e : Env} {s : State} {m : MethodId} {args : Array Value} {below : List Frame} {meth : Method} {c : Code} {x : Wx} {al : Nat → Nat → Nat} {lv : Nat → Bool} {res : Int32 × Sg} (hC : Cx x p s m args meth c cX12_warm 5 (some .int) RX12) (σ : Sg) (H : Heap) (locs : List Loc) (ls : Array Slot) (h : fM_warm_48 σ = some res) (hP : Pic x al lv σ H) (hS : va_S (Ab x) s.heap H locs) (hl : lv_has ls 5 [(0, .ref (al 7 0))]) : W p l e (rmm 2 0 0) s m args below meth c H locs 0 0 (MQ below (QI x al lv res) args s 0 0 (Ab x)) (F0 m 48 ls []) := by
  obtain ⟨hx, hb, hml, hown, hts⟩ := hC.1
  unfold fM_warm_48 at h
  refine lv_aload_n hx hb dX12_warm_48 rfl (lv_at hl 0 rfl) ?_
  refine lv_iconst (v := (-1)) hx hb dX12_warm_49 (by decide) ?_
  refine r_cI hS h (fun r hr => r_runV (As := [.int ((-1))]) (rest := []) hC kV_X12_151 cw_X12_ends (rc_X12 hC hP) hP (tM_ends x al lv σ ((-1)) r hr) rfl hl.1 ⟨Nat.le_of_ble_eq_true rfl, Nat.le_of_ble_eq_true rfl⟩ ⟨Nat.le_of_ble_eq_true rfl, Nat.le_of_ble_eq_true rfl⟩ (Nat.le_of_ble_eq_true rfl) dX12_warm_50) (fun y6 σ7 H locs h hP hS => ?_)
  exact r_retI hC hP hS rfl h dX12_warm_53

set_option maxHeartbeats 4000000 in
set_option maxRecDepth 20000 in
theorem wM_warm_77 {p : Program} {l : Launch} {e : Env} {s : State} {m : MethodId} {args : Array Value} {below : List Frame} {meth : Method} {c : Code} {x : Wx} {al : Nat → Nat → Nat} {lv : Nat → Bool} {res : Int32 × Sg} (hC : Cx x p s m args meth c cX12_warm 5 (some .int) RX12) (σ : Sg) (t0 : UInt32) (t1 : Int32) (H : Heap) (locs : List Loc) (ls : Array Slot) (h : fM_warm_77 σ t0 t1 = some res) (hP : Pic x al lv σ H) (hS : va_S (Ab x) s.heap H locs) (hl : lv_has ls 5 [(0, .ref (al 7 0))]) : W p l e (rmm 2 0 0) s m args below meth c H locs 0 0 (MQ below (QI x al lv res) args s 0 0 (Ab x)) (F0 m 77 ls [.float t0, .int t1, .ref (al 7 1)]) := by
  obtain ⟨hx, hb, hml, hown, hts⟩ := hC.1
  unfold fM_warm_77 at h
  refine r_fast hC hP hS (aM_1 hP.l7) h dX12_warm_77 (fun σ3 H locs h hP hS => ?_)
  refine lv_aload_n hx hb dX12_warm_78 rfl (lv_at hl 0 rfl) ?_
  refine lv_iconst (v := 0) hx hb dX12_warm_79 (by decide) ?_
  refine r_cI hS h (fun r hr => r_runV (As := [.int 0]) (rest := []) hC kV_X12_151 cw_X12_ends (rc_X12 hC hP) hP (tM_ends x al lv σ3 0 r hr) rfl hl.1 ⟨Nat.le_of_ble_eq_true rfl, Nat.le_of_ble_eq_true rfl⟩ ⟨Nat.le_of_ble_eq_true rfl, Nat.le_of_ble_eq_true rfl⟩ (Nat.le_of_ble_eq_true rfl) dX12_warm_80) (fun y4 σ5 H locs h hP hS => ?_)
  exact r_retI hC hP hS rfl h dX12_warm_83

set_option maxHeartbeats 4000000 in
set_option maxRecDepth 20000 in
theorem wM_warm_54 {p : Program} {l : Launch} {e : Env} {s : State} {m : MethodId} {args : Array Value} {below : List Frame} {meth : Method} {c : Code} {x : Wx} {al : Nat → Nat → Nat} {lv : Nat → Bool} {res : Int32 × Sg} (hC : Cx x p s m args meth c cX12_warm 5 (some .int) RX12) (σ : Sg) (x1 : Int32) (x3 : UInt32) (x4 : Int32) (H : Heap) (locs : List Loc) (ls : Array Slot) (h : fM_warm_54 σ x1 x3 x4 = some res) (hP : Pic x al lv σ H) (hS : va_S (Ab x) s.heap H locs) (hl : lv_has ls 5 [(0, .ref (al 7 0)), (1, .int x1), (3, .float x3), (4, .int x4)]) : W p l e (rmm 2 0 0) s m args below meth c H locs 0 0 (MQ below (QI x al lv res) args s 0 0 (Ab x)) (F0 m 54 ls []) := by
  obtain ⟨hx, hb, hml, hown, hts⟩ := hC.1
  unfold fM_warm_54 at h
  refine lv_aload_n hx hb dX12_warm_54 rfl (lv_at hl 0 rfl) ?_
  refine gt_X12_2 hC hP wf_X12_13 dX12_warm_55 ?_
  refine lv_iload_n hx hb dX12_warm_58 rfl (lv_at hl 1 rfl) ?_
  refine lv_iload hx hb dX12_warm_59 (lv_at hl 3 rfl) ?_
  refine r_zast hC hP hS (aM_2 hP.l7) h dX12_warm_61 (fun σ2 H locs h hP hS => ?_)
  refine lv_aload_n hx hb dX12_warm_62 rfl (lv_at hl 0 rfl) ?_
  refine gt_X12_1 hC hP wf_X12_7 dX12_warm_63 ?_
  refine lv_iload_n hx hb dX12_warm_66 rfl (lv_at hl 1 rfl) ?_
  refine lv_iload hx hb dX12_warm_67 (lv_at hl 3 rfl) ?_
  refine lv_if_eq (tgt := 76) hx hb dX12_warm_69 (by decide) (fun hc => ?_) (fun hc => ?_)
  · replace h := (br h).1 hc
    refine lv_fconst0 hx hb dX12_warm_76 ?_
    exact wM_warm_77  hC  σ2 FP.fconst0 x1 H locs ls h hP hS (lv_sub hl [0] rfl)
  · replace h := (br h).2 hc
    refine lv_fload_n hx hb dX12_warm_72 rfl (lv_at hl 2 rfl) ?_
    refine lv_goto (tgt := 77) hx hb dX12_warm_73 (by decide) ?_
    exact wM_warm_77  hC  σ2 x3 x1 H locs ls h hP hS (lv_sub hl [0] rfl)

set_option maxHeartbeats 4000000 in
set_option maxRecDepth 20000 in
theorem wM_warm_16 {p : Program} {l : Launch} {e : Env} {s : State} {m : MethodId} {args : Array Value} {below : List Frame} {meth : Method} {c : Code} {x : Wx} {al : Nat → Nat → Nat} {lv : Nat → Bool} {res : Int32 × Sg} (hC : Cx x p s m args meth c cX12_warm 5 (some .int) RX12) (σ : Sg) (x1 : Int32) (x3 : UInt32) (t0 : Int32) (H : Heap) (locs : List Loc) (ls : Array Slot) (h : fM_warm_16 σ x1 x3 t0 = some res) (hP : Pic x al lv σ H) (hS : va_S (Ab x) s.heap H locs) (hl : lv_has ls 5 [(0, .ref (al 7 0)), (1, .int x1), (3, .float x3)]) : W p l e (rmm 2 0 0) s m args below meth c H locs 0 0 (MQ below (QI x al lv res) args s 0 0 (Ab x)) (F0 m 16 ls [.int t0]) := by
  obtain ⟨hx, hb, hml, hown, hts⟩ := hC.1
  unfold fM_warm_16 at h
  refine lv_istore (lv' := [(4, .int t0), (0, .ref (al 7 0)), (1, .int x1), (3, .float x3)]) hx hb dX12_warm_16 hl (by decide) rfl (fun ls hl => ?_)
  refine lv_iload_n hx hb dX12_warm_18 rfl (lv_at hl 2 rfl) ?_
  refine lv_iconst (v := 0) hx hb dX12_warm_19 (by decide) ?_
  refine lv_sipush (v := 199) hx hb dX12_warm_20 (by decide) ?_
  refine r_cP hS h (fun r hr => r_runS (As := [.int x1, .int 0, .int 199]) (rest := []) hC kS_X12_145 cw_X12_in hP (tM_in x al lv σ x1 0 199 r hr) rfl hl.1 ⟨Nat.le_of_ble_eq_true rfl, Nat.le_of_ble_eq_true rfl⟩ ⟨Nat.le_of_ble_eq_true rfl, Nat.le_of_ble_eq_true rfl⟩ (Nat.le_of_ble_eq_true rfl) dX12_warm_23) (fun y1 H locs h hP hS => ?_)
  refine lv_if_eq (tgt := 48) hx hb dX12_warm_26 (by decide) (fun hc => ?_) (fun hc => ?_)
  · replace h := (br h).1 hc
    exact wM_warm_48  hC  σ H locs ls h hP hS (lv_sub hl [1] rfl)
  · replace h := (br h).2 hc
    refine lv_iload hx hb dX12_warm_29 (lv_at hl 0 rfl) ?_
    refine lv_if_eq (tgt := 54) hx hb dX12_warm_31 (by decide) (fun hc => ?_) (fun hc => ?_)
    · replace h := (br h).1 hc
      exact wM_warm_54  hC  σ x1 x3 t0 H locs ls h hP hS (lv_sub hl [1, 2, 3, 0] rfl)
    · replace h := (br h).2 hc
      refine lv_fload_n hx hb dX12_warm_34 rfl (lv_at hl 3 rfl) ?_
      refine lv_ldcf hx hb hown (hts _ wk_X12_149) dX12_warm_35 ?_
      refine lv_fcmp hx hb dX12_warm_37 ?_
      refine lv_if_lt (tgt := 48) hx hb dX12_warm_38 (by decide) (fun hc => ?_) (fun hc => ?_)
      · replace h := (br h).1 hc
        exact wM_warm_48  hC  σ H locs ls h hP hS (lv_sub hl [1] rfl)
      · replace h := (br h).2 hc
        refine lv_fload_n hx hb dX12_warm_41 rfl (lv_at hl 3 rfl) ?_
        refine lv_ldcf hx hb hown (hts _ wk_X12_150) dX12_warm_42 ?_
        refine lv_fcmp hx hb dX12_warm_44 ?_
        refine lv_if_le (tgt := 54) hx hb dX12_warm_45 (by decide) (fun hc => ?_) (fun hc => ?_)
        · replace h := (br h).1 hc
          exact wM_warm_54  hC  σ x1 x3 t0 H locs ls h hP hS (lv_sub hl [1, 2, 3, 0] rfl)
        · replace h := (br h).2 hc
          exact wM_warm_48  hC  σ H locs ls h hP hS (lv_sub hl [1] rfl)

set_option maxHeartbeats 4000000 in
set_option maxRecDepth 20000 in
theorem wM_warm_4 {p : Program} {l : Launch} {e : Env} {s : State} {m : MethodId} {args : Array Value} {below : List Frame} {meth : Method} {c : Code} {x : Wx} {al : Nat → Nat → Nat} {lv : Nat → Bool} {res : Int32 × Sg} (hC : Cx x p s m args meth c cX12_warm 5 (some .int) RX12) (σ : Sg) (x1 : Int32) (t0 : UInt32) (H : Heap) (locs : List Loc) (ls : Array Slot) (h : fM_warm_4 σ x1 t0 = some res) (hP : Pic x al lv σ H) (hS : va_S (Ab x) s.heap H locs) (hl : lv_has ls 5 [(0, .ref (al 7 0)), (1, .int x1)]) : W p l e (rmm 2 0 0) s m args below meth c H locs 0 0 (MQ below (QI x al lv res) args s 0 0 (Ab x)) (F0 m 4 ls [.float t0]) := by
  obtain ⟨hx, hb, hml, hown, hts⟩ := hC.1
  unfold fM_warm_4 at h
  refine lv_fstore_n (lv' := [(3, .float t0), (0, .ref (al 7 0)), (1, .int x1)]) hx hb dX12_warm_4 rfl hl (by decide) rfl (fun ls hl => ?_)
  refine lv_fload_n hx hb dX12_warm_5 rfl (lv_at hl 0 rfl) ?_
  refine lv_fload_n hx hb dX12_warm_6 rfl (lv_at hl 0 rfl) ?_
  refine lv_fcmp hx hb dX12_warm_7 ?_
  refine lv_if_ne (tgt := 15) hx hb dX12_warm_8 (by decide) (fun hc => ?_) (fun hc => ?_)
  · replace h := (br h).2 hc
    refine lv_iconst (v := 0) hx hb dX12_warm_15 (by decide) ?_
    exact wM_warm_16  hC  σ x1 t0 0 H locs ls h hP hS (lv_sub hl [1, 2, 0] rfl)
  · replace h := (br h).1 hc
    refine lv_iconst (v := 1) hx hb dX12_warm_11 (by decide) ?_
    refine lv_goto (tgt := 16) hx hb dX12_warm_12 (by decide) ?_
    exact wM_warm_16  hC  σ x1 t0 1 H locs ls h hP hS (lv_sub hl [1, 2, 0] rfl)

set_option maxHeartbeats 4000000 in
set_option maxRecDepth 20000 in
theorem wM_tenthsOf_21 {p : Program} {l : Launch} {e : Env} {s : State} {m : MethodId} {args : Array Value} {below : List Frame} {meth : Method} {c : Code} {x : Wx} {al : Nat → Nat → Nat} {lv : Nat → Bool} {res : Int32} {σ : Sg} (hC : Cx x p s m args meth c cX12_tenthsOf 3 (some .int) RX12) (x2 : Int32) (H : Heap) (locs : List Loc) (ls : Array Slot) (h : fM_tenthsOf_21 σ x2 = some res) (hP : Pic x al lv σ H) (hS : va_S (Ab x) s.heap H locs) (hl : lv_has ls 3 [(0, .ref (al 7 0)), (2, .int x2)]) : W p l e (rmm 1 0 0) s m args below meth c H locs 0 0 (MQ below (QP x al lv σ res) args s 0 0 (Ab x)) (F0 m 21 ls []) := by
  obtain ⟨hx, hb, hml, hown, hts⟩ := hC.1
  unfold fM_tenthsOf_21 at h
  refine lv_aload_n hx hb dX12_tenthsOf_21 rfl (lv_at hl 0 rfl) ?_
  refine gt_X12_2 hC hP wf_X12_13 dX12_tenthsOf_22 ?_
  refine lv_iload_n hx hb dX12_tenthsOf_25 rfl (lv_at hl 1 rfl) ?_
  refine r_zald hC hP (aM_2 hP.l7) h dX12_tenthsOf_26 (fun h => ?_)
  refine lv_if_eq (tgt := 43) hx hb dX12_tenthsOf_27 (by decide) (fun hc => ?_) (fun hc => ?_)
  · replace h := (br h).1 hc
    refine lv_iconst (v := 0) hx hb dX12_tenthsOf_43 (by decide) ?_
    exact r_retP hC hP hS rfl h dX12_tenthsOf_44
  · replace h := (br h).2 hc
    refine lv_aload_n hx hb dX12_tenthsOf_30 rfl (lv_at hl 0 rfl) ?_
    refine gt_X12_1 hC hP wf_X12_7 dX12_tenthsOf_31 ?_
    refine lv_iload_n hx hb dX12_tenthsOf_34 rfl (lv_at hl 1 rfl) ?_
    refine r_fald hC hP (aM_1 hP.l7) h dX12_tenthsOf_35 (fun h => ?_)
    refine lv_ldcf hx hb hown (hts _ wk_X12_155) dX12_tenthsOf_36 ?_
    obtain ⟨hz2, h⟩ := gd_e h
    refine lv_fmul hx hb dX12_tenthsOf_38 (nn32_n hz2) ?_
    refine lv_f2i hx hb dX12_tenthsOf_39 ?_
    refine lv_goto (tgt := 44) hx hb dX12_tenthsOf_40 (by decide) ?_
    exact r_retP hC hP hS rfl h dX12_tenthsOf_44

set_option maxHeartbeats 4000000 in
set_option maxRecDepth 20000 in
theorem wM_tenthsOf_2_b {p : Program} {l : Launch} {e : Env} {s : State} {m : MethodId} {args : Array Value} {below : List Frame} {meth : Method} {c : Code} {x : Wx} {al : Nat → Nat → Nat} {lv : Nat → Bool} {res : Int32} {σ : Sg} (hC : Cx x p s m args meth c cX12_tenthsOf 3 (some .int) RX12) (k2 : Int32 → Option (Int32)) (hk2 : ∀ (x2 : Int32) (H : Heap) (locs : List Loc) (ls : Array Slot), k2 x2 = some res → Pic x al lv σ H → va_S (Ab x) s.heap H locs → lv_has ls 3 [(0, .ref (al 7 0)), (2, .int x2)] → W p l e (rmm 1 0 0) s m args below meth c H locs 0 0 (MQ below (QP x al lv σ res) args s 0 0 (Ab x)) (F0 m 2 ls [])) (x2 : Int32) (H : Heap) (locs : List Loc) (ls : Array Slot) (h : fM_tenthsOf_2_b k2 σ x2 = some res) (hP : Pic x al lv σ H) (hS : va_S (Ab x) s.heap H locs) (hl : lv_has ls 3 [(0, .ref (al 7 0)), (2, .int x2)]) : W p l e (rmm 1 0 0) s m args below meth c H locs 0 0 (MQ below (QP x al lv σ res) args s 0 0 (Ab x)) (F0 m 2 ls []) := by
  obtain ⟨hx, hb, hml, hown, hts⟩ := hC.1
  unfold fM_tenthsOf_2_b at h
  refine lv_iload_n hx hb dX12_tenthsOf_2 rfl (lv_at hl 1 rfl) ?_
  refine lv_if_le (tgt := 21) hx hb dX12_tenthsOf_3 (by decide) (fun hc => ?_) (fun hc => ?_)
  · replace h := (br h).1 hc
    exact wM_tenthsOf_21  hC  x2 H locs ls h hP hS (lv_sub hl [0, 1] rfl)
  · replace h := (br h).2 hc
    refine lv_aload_n hx hb dX12_tenthsOf_6 rfl (lv_at hl 0 rfl) ?_
    refine gt_X12_2 hC hP wf_X12_13 dX12_tenthsOf_7 ?_
    refine lv_iload_n hx hb dX12_tenthsOf_10 rfl (lv_at hl 1 rfl) ?_
    refine r_zald hC hP (aM_2 hP.l7) h dX12_tenthsOf_11 (fun h => ?_)
    refine lv_if_ne (tgt := 21) hx hb dX12_tenthsOf_12 (by decide) (fun hc => ?_) (fun hc => ?_)
    · replace h := (br h).2 hc
      exact wM_tenthsOf_21  hC  x2 H locs ls h hP hS (lv_sub hl [0, 1] rfl)
    · replace h := (br h).1 hc
      refine r_iinc (v := (-1)) hC h dX12_tenthsOf_15 hl (k := 1) rfl rfl (by decide) (fun y1 => [(2, .int y1), (0, .ref (al 7 0))]) (fun _ => rfl) (fun y1 ls h hl => ?_)
      refine lv_goto (tgt := 2) hx hb dX12_tenthsOf_18 (by decide) ?_
      exact hk2 y1 H locs ls h hP hS (lv_sub hl [1, 0] rfl)

set_option maxHeartbeats 4000000 in
set_option maxRecDepth 20000 in
theorem wM_tenthsOf_2 {p : Program} {l : Launch} {e : Env} {s : State} {m : MethodId} {args : Array Value} {below : List Frame} {meth : Method} {c : Code} {x : Wx} {al : Nat → Nat → Nat} {lv : Nat → Bool} {res : Int32} {σ : Sg} (hC : Cx x p s m args meth c cX12_tenthsOf 3 (some .int) RX12) (n : Nat) (x2 : Int32) (H : Heap) (locs : List Loc) (ls : Array Slot) (h : fM_tenthsOf_2 n σ x2 = some res) (hP : Pic x al lv σ H) (hS : va_S (Ab x) s.heap H locs) (hl : lv_has ls 3 [(0, .ref (al 7 0)), (2, .int x2)]) : W p l e (rmm 1 0 0) s m args below meth c H locs 0 0 (MQ below (QP x al lv σ res) args s 0 0 (Ab x)) (F0 m 2 ls []) := by
  induction n generalizing x2 H locs ls with
  | zero => exact nomatch h
  | succ n ih => exact wM_tenthsOf_2_b  hC  _ (fun x2 H locs ls h hP hS hl => ih x2 H locs ls h hP hS hl) x2 H locs ls h hP hS hl
set_option maxHeartbeats 4000000 in
set_option maxRecDepth 20000 in
theorem wM_tenthsOf_0 {p : Program} {l : Launch} {e : Env} {s : State} {m : MethodId} {args : Array Value} {below : List Frame} {meth : Method} {c : Code} {x : Wx} {al : Nat → Nat → Nat} {lv : Nat → Bool} {res : Int32} {σ : Sg} (hC : Cx x p s m args meth c cX12_tenthsOf 3 (some .int) RX12) (v1 : Int32) (H : Heap) (locs : List Loc) (ls : Array Slot) (h : fM_tenthsOf_0 σ v1 = some res) (hP : Pic x al lv σ H) (hS : va_S (Ab x) s.heap H locs) (hl : lv_has ls 3 [(0, .ref (al 7 0)), (1, .int v1)]) : W p l e (rmm 1 0 0) s m args below meth c H locs 0 0 (MQ below (QP x al lv σ res) args s 0 0 (Ab x)) (F0 m 0 ls []) := by
  obtain ⟨hx, hb, hml, hown, hts⟩ := hC.1
  unfold fM_tenthsOf_0 at h
  refine lv_iload_n hx hb dX12_tenthsOf_0 rfl (lv_at hl 1 rfl) ?_
  refine lv_istore_n (lv' := [(2, .int v1), (0, .ref (al 7 0)), (1, .int v1)]) hx hb dX12_tenthsOf_1 rfl hl (by decide) rfl (fun ls hl => ?_)
  exact wM_tenthsOf_2  hC  FU v1 H locs ls h hP hS (lv_sub hl [1, 0] rfl)

set_option maxRecDepth 20000 in
theorem tM_tenthsOf {l : Launch} (x : Wx) (al : Nat → Nat → Nat) (lv : Nat → Bool) (σ : Sg) (v1 : Int32) (res : Int32) (h : fM_tenthsOf σ v1 = some res) : Met l yX12_tenthsOf (Cond.code yX12_tenthsOf cX12_tenthsOf 3 (some .int) :: lwg) (rmm 1 0 0) (va_Pc [.ref (al 7 0), .int v1] (Wd x al lv σ)) (QP x al lv σ res) 0 0 (Ab x) := by
  refine met_W (by decide) (Nat.le_of_ble_eq_true rfl) rfl (fun p e s m args below meth c ls hC hP hS hl => ?_)
  exact wM_tenthsOf_0  hC v1 _ _ ls h hP hS hl
set_option maxHeartbeats 4000000 in
set_option maxRecDepth 20000 in
theorem wM_tenths_0 {p : Program} {l : Launch} {e : Env} {s : State} {m : MethodId} {args : Array Value} {below : List Frame} {meth : Method} {c : Code} {x : Wx} {al : Nat → Nat → Nat} {lv : Nat → Bool} {res : Int32} {σ : Sg} (hC : Cx x p s m args meth c cX12_tenths 2 (some .int) RX12) (v1 : Int32) (H : Heap) (locs : List Loc) (ls : Array Slot) (h : fM_tenths_0 σ v1 = some res) (hP : Pic x al lv σ H) (hS : va_S (Ab x) s.heap H locs) (hl : lv_has ls 2 [(0, .ref (al 7 0)), (1, .int v1)]) : W p l e (rmm 2 0 0) s m args below meth c H locs 0 0 (MQ below (QP x al lv σ res) args s 0 0 (Ab x)) (F0 m 0 ls []) := by
  obtain ⟨hx, hb, hml, hown, hts⟩ := hC.1
  unfold fM_tenths_0 at h
  refine lv_iload_n hx hb dX12_tenths_0 rfl (lv_at hl 1 rfl) ?_
  refine lv_iconst (v := 0) hx hb dX12_tenths_1 (by decide) ?_
  refine lv_sipush (v := 199) hx hb dX12_tenths_2 (by decide) ?_
  refine r_cP hS h (fun r hr => r_runS (As := [.int v1, .int 0, .int 199]) (rest := []) hC kS_X12_145 cw_X12_in hP (tM_in x al lv σ v1 0 199 r hr) rfl hl.1 ⟨Nat.le_of_ble_eq_true rfl, Nat.le_of_ble_eq_true rfl⟩ ⟨Nat.le_of_ble_eq_true rfl, Nat.le_of_ble_eq_true rfl⟩ (Nat.le_of_ble_eq_true rfl) dX12_tenths_5) (fun y1 H locs h hP hS => ?_)
  refine lv_if_eq (tgt := 19) hx hb dX12_tenths_8 (by decide) (fun hc => ?_) (fun hc => ?_)
  · replace h := (br h).1 hc
    refine lv_sipush (v := (-1000)) hx hb dX12_tenths_19 (by decide) ?_
    exact r_retP hC hP hS rfl h dX12_tenths_22
  · replace h := (br h).2 hc
    refine lv_aload_n hx hb dX12_tenths_11 rfl (lv_at hl 0 rfl) ?_
    refine lv_iload_n hx hb dX12_tenths_12 rfl (lv_at hl 1 rfl) ?_
    refine r_cP hS h (fun r hr => r_runV (As := [.int v1]) (rest := []) hC kV_X12_156 cw_X12_tenthsOf (rc_X12 hC hP) hP (tM_tenthsOf x al lv σ v1 r hr) rfl hl.1 ⟨Nat.le_of_ble_eq_true rfl, Nat.le_of_ble_eq_true rfl⟩ ⟨Nat.le_of_ble_eq_true rfl, Nat.le_of_ble_eq_true rfl⟩ (Nat.le_of_ble_eq_true rfl) dX12_tenths_13) (fun y2 H locs h hP hS => ?_)
    refine lv_goto (tgt := 22) hx hb dX12_tenths_16 (by decide) ?_
    exact r_retP hC hP hS rfl h dX12_tenths_22

set_option maxRecDepth 20000 in
theorem tM_tenths {l : Launch} (x : Wx) (al : Nat → Nat → Nat) (lv : Nat → Bool) (σ : Sg) (v1 : Int32) (res : Int32) (h : fM_tenths σ v1 = some res) : Met l yX12_tenths (Cond.code yX12_tenths cX12_tenths 2 (some .int) :: lwg) (rmm 2 0 0) (va_Pc [.ref (al 7 0), .int v1] (Wd x al lv σ)) (QP x al lv σ res) 0 0 (Ab x) := by
  refine met_W (by decide) (Nat.le_of_ble_eq_true rfl) rfl (fun p e s m args below meth c ls hC hP hS hl => ?_)
  exact wM_tenths_0  hC v1 _ _ ls h hP hS hl
set_option maxHeartbeats 4000000 in
set_option maxRecDepth 20000 in
theorem wM_terms_31 {p : Program} {l : Launch} {e : Env} {s : State} {m : MethodId} {args : Array Value} {below : List Frame} {meth : Method} {c : Code} {x : Wx} {al : Nat → Nat → Nat} {lv : Nat → Bool} {res : Int32 × Sg} (hC : Cx x p s m args meth c cX12_terms 4 (some .int) RX12) (σ : Sg) (H : Heap) (locs : List Loc) (ls : Array Slot) (h : fM_terms_31 σ = some res) (hP : Pic x al lv σ H) (hS : va_S (Ab x) s.heap H locs) (hl : lv_has ls 4 [(0, .ref (al 7 0))]) : W p l e (rmm 2 0 0) s m args below meth c H locs 0 0 (MQ below (QI x al lv res) args s 0 0 (Ab x)) (F0 m 31 ls []) := by
  obtain ⟨hx, hb, hml, hown, hts⟩ := hC.1
  unfold fM_terms_31 at h
  refine lv_aload_n hx hb dX12_terms_31 rfl (lv_at hl 0 rfl) ?_
  refine lv_iconst (v := (-1)) hx hb dX12_terms_32 (by decide) ?_
  refine r_cI hS h (fun r hr => r_runV (As := [.int ((-1))]) (rest := []) hC kV_X12_151 cw_X12_ends (rc_X12 hC hP) hP (tM_ends x al lv σ ((-1)) r hr) rfl hl.1 ⟨Nat.le_of_ble_eq_true rfl, Nat.le_of_ble_eq_true rfl⟩ ⟨Nat.le_of_ble_eq_true rfl, Nat.le_of_ble_eq_true rfl⟩ (Nat.le_of_ble_eq_true rfl) dX12_terms_33) (fun y9 σ10 H locs h hP hS => ?_)
  exact r_retI hC hP hS rfl h dX12_terms_36

set_option maxHeartbeats 4000000 in
set_option maxRecDepth 20000 in
theorem wM_terms_0 {p : Program} {l : Launch} {e : Env} {s : State} {m : MethodId} {args : Array Value} {below : List Frame} {meth : Method} {c : Code} {x : Wx} {al : Nat → Nat → Nat} {lv : Nat → Bool} {res : Int32 × Sg} (hC : Cx x p s m args meth c cX12_terms 4 (some .int) RX12) (σ : Sg) (v1 : Int32) (v2 : Int32) (v3 : Int32) (H : Heap) (locs : List Loc) (ls : Array Slot) (h : fM_terms_0 σ v1 v2 v3 = some res) (hP : Pic x al lv σ H) (hS : va_S (Ab x) s.heap H locs) (hl : lv_has ls 4 [(0, .ref (al 7 0)), (1, .int v1), (2, .int v2), (3, .int v3)]) : W p l e (rmm 2 0 0) s m args below meth c H locs 0 0 (MQ below (QI x al lv res) args s 0 0 (Ab x)) (F0 m 0 ls []) := by
  obtain ⟨hx, hb, hml, hown, hts⟩ := hC.1
  unfold fM_terms_0 at h
  refine lv_iload_n hx hb dX12_terms_0 rfl (lv_at hl 1 rfl) ?_
  refine lv_iconst (v := 0) hx hb dX12_terms_1 (by decide) ?_
  refine lv_bipush (v := 100) hx hb dX12_terms_2 (by decide) ?_
  refine r_cP hS h (fun r hr => r_runS (As := [.int v1, .int 0, .int 100]) (rest := []) hC kS_X12_145 cw_X12_in hP (tM_in x al lv σ v1 0 100 r hr) rfl hl.1 ⟨Nat.le_of_ble_eq_true rfl, Nat.le_of_ble_eq_true rfl⟩ ⟨Nat.le_of_ble_eq_true rfl, Nat.le_of_ble_eq_true rfl⟩ (Nat.le_of_ble_eq_true rfl) dX12_terms_4) (fun y1 H locs h hP hS => ?_)
  refine lv_if_eq (tgt := 31) hx hb dX12_terms_7 (by decide) (fun hc => ?_) (fun hc => ?_)
  · replace h := (br h).1 hc
    exact wM_terms_31  hC  σ H locs ls h hP hS (lv_sub hl [0] rfl)
  · replace h := (br h).2 hc
    refine lv_iload_n hx hb dX12_terms_10 rfl (lv_at hl 2 rfl) ?_
    refine lv_iconst (v := 0) hx hb dX12_terms_11 (by decide) ?_
    refine lv_sipush (v := 10000) hx hb dX12_terms_12 (by decide) ?_
    refine r_cP hS h (fun r hr => r_runS (As := [.int v2, .int 0, .int 10000]) (rest := []) hC kS_X12_145 cw_X12_in hP (tM_in x al lv σ v2 0 10000 r hr) rfl hl.1 ⟨Nat.le_of_ble_eq_true rfl, Nat.le_of_ble_eq_true rfl⟩ ⟨Nat.le_of_ble_eq_true rfl, Nat.le_of_ble_eq_true rfl⟩ (Nat.le_of_ble_eq_true rfl) dX12_terms_15) (fun y2 H locs h hP hS => ?_)
    refine lv_if_eq (tgt := 31) hx hb dX12_terms_18 (by decide) (fun hc => ?_) (fun hc => ?_)
    · replace h := (br h).1 hc
      exact wM_terms_31  hC  σ H locs ls h hP hS (lv_sub hl [0] rfl)
    · replace h := (br h).2 hc
      refine lv_iload_n hx hb dX12_terms_21 rfl (lv_at hl 3 rfl) ?_
      refine lv_iconst (v := 1) hx hb dX12_terms_22 (by decide) ?_
      refine lv_ldc hx hb hown (hts _ wk_X12_159) dX12_terms_23 ?_
      refine r_cP hS h (fun r hr => r_runS (As := [.int v3, .int 1, .int 1000000]) (rest := []) hC kS_X12_145 cw_X12_in hP (tM_in x al lv σ v3 1 1000000 r hr) rfl hl.1 ⟨Nat.le_of_ble_eq_true rfl, Nat.le_of_ble_eq_true rfl⟩ ⟨Nat.le_of_ble_eq_true rfl, Nat.le_of_ble_eq_true rfl⟩ (Nat.le_of_ble_eq_true rfl) dX12_terms_25) (fun y3 H locs h hP hS => ?_)
      refine lv_if_ne (tgt := 37) hx hb dX12_terms_28 (by decide) (fun hc => ?_) (fun hc => ?_)
      · replace h := (br h).2 hc
        refine lv_aload_n hx hb dX12_terms_37 rfl (lv_at hl 0 rfl) ?_
        refine lv_iload_n hx hb dX12_terms_38 rfl (lv_at hl 1 rfl) ?_
        refine pt_X12_3 hC hP hS wf_X12_17 h dX12_terms_39 (fun σ4 H locs h hP hS => ?_)
        refine lv_aload_n hx hb dX12_terms_42 rfl (lv_at hl 0 rfl) ?_
        refine lv_iload_n hx hb dX12_terms_43 rfl (lv_at hl 2 rfl) ?_
        refine pt_X12_4 hC hP hS wf_X12_21 h dX12_terms_44 (fun σ5 H locs h hP hS => ?_)
        refine lv_aload_n hx hb dX12_terms_47 rfl (lv_at hl 0 rfl) ?_
        refine lv_iload_n hx hb dX12_terms_48 rfl (lv_at hl 3 rfl) ?_
        refine pt_X12_5 hC hP hS wf_X12_24 h dX12_terms_49 (fun σ6 H locs h hP hS => ?_)
        refine lv_aload_n hx hb dX12_terms_52 rfl (lv_at hl 0 rfl) ?_
        refine lv_iconst (v := 0) hx hb dX12_terms_53 (by decide) ?_
        refine r_cI hS h (fun r hr => r_runV (As := [.int 0]) (rest := []) hC kV_X12_151 cw_X12_ends (rc_X12 hC hP) hP (tM_ends x al lv σ6 0 r hr) rfl hl.1 ⟨Nat.le_of_ble_eq_true rfl, Nat.le_of_ble_eq_true rfl⟩ ⟨Nat.le_of_ble_eq_true rfl, Nat.le_of_ble_eq_true rfl⟩ (Nat.le_of_ble_eq_true rfl) dX12_terms_54) (fun y7 σ8 H locs h hP hS => ?_)
        exact r_retI hC hP hS rfl h dX12_terms_57
      · replace h := (br h).1 hc
        exact wM_terms_31  hC  σ H locs ls h hP hS (lv_sub hl [0] rfl)

set_option maxRecDepth 20000 in
theorem tM_terms {l : Launch} (x : Wx) (al : Nat → Nat → Nat) (lv : Nat → Bool) (σ : Sg) (v1 : Int32) (v2 : Int32) (v3 : Int32) (res : Int32 × Sg) (h : fM_terms σ v1 v2 v3 = some res) : Met l yX12_terms (Cond.code yX12_terms cX12_terms 4 (some .int) :: lwg) (rmm 2 0 0) (va_Pc [.ref (al 7 0), .int v1, .int v2, .int v3] (Wd x al lv σ)) (QI x al lv res) 0 0 (Ab x) := by
  refine met_W (by decide) (Nat.le_of_ble_eq_true rfl) rfl (fun p e s m args below meth c ls hC hP hS hl => ?_)
  exact wM_terms_0  hC σ v1 v2 v3 _ _ ls h hP hS hl
