set_option maxHeartbeats 4000000 in
set_option maxRecDepth 20000 in
theorem wI_clear_58 {p : Program} {l : Launch} {e : Env} {s : State} {m : MethodId} {args : Array Value} {below : List Frame} {meth : Method} {c : Code} {x : Wx} {al : Nat → Nat → Nat} {lv : Nat → Bool} {res : Int32 × Sg} (hC : Cx x p s m args meth c cX11_clear 5 (some .int) RX11) (σ : Sg) (H : Heap) (locs : List Loc) (ls : Array Slot) (h : fI_clear_58 σ = some res) (hP : Pic x al lv σ H) (hS : va_S (Ab x) s.heap H locs) (hl : lv_has ls 5 [(0, .ref (al 6 0))]) : W p l e (rmm 4 0 0) s m args below meth c H locs 0 0 (MQ below (QI x al lv res) args s 0 0 (Ab x)) (F0 m 58 ls []) := by
  obtain ⟨hx, hb, hml, hown, hts⟩ := hC.1
  unfold fI_clear_58 at h
  refine lv_aload_n hx hb dX11_clear_58 rfl (lv_at hl 0 rfl) ?_
  refine lv_bipush (v := (-7)) hx hb dX11_clear_59 (by decide) ?_
  refine r_cI hS h (fun r hr => r_runV (As := [.int ((-7))]) (rest := []) hC kV_X11_72 cw_X11_answer (rc_X11 hC hP) hP (tI_answer x al lv σ ((-7)) r hr) rfl hl.1 ⟨Nat.le_of_ble_eq_true rfl, Nat.le_of_ble_eq_true rfl⟩ ⟨Nat.le_of_ble_eq_true rfl, Nat.le_of_ble_eq_true rfl⟩ (Nat.le_of_ble_eq_true rfl) dX11_clear_61) (fun y5 σ6 H locs h hP hS => ?_)
  exact r_retI hC hP hS rfl h dX11_clear_64

set_option maxHeartbeats 4000000 in
set_option maxRecDepth 20000 in
theorem wI_clear_43 {p : Program} {l : Launch} {e : Env} {s : State} {m : MethodId} {args : Array Value} {below : List Frame} {meth : Method} {c : Code} {x : Wx} {al : Nat → Nat → Nat} {lv : Nat → Bool} {res : Int32 × Sg} (hC : Cx x p s m args meth c cX11_clear 5 (some .int) RX11) (σ : Sg) (x1 : Int32) (x2 : Int32) (H : Heap) (locs : List Loc) (ls : Array Slot) (h : fI_clear_43 σ x1 x2 = some res) (hP : Pic x al lv σ H) (hS : va_S (Ab x) s.heap H locs) (hl : lv_has ls 5 [(0, .ref (al 6 0)), (1, .int x1), (2, .int x2)]) : W p l e (rmm 4 0 0) s m args below meth c H locs 0 0 (MQ below (QI x al lv res) args s 0 0 (Ab x)) (F0 m 43 ls []) := by
  obtain ⟨hx, hb, hml, hown, hts⟩ := hC.1
  unfold fI_clear_43 at h
  refine lv_aload_n hx hb dX11_clear_43 rfl (lv_at hl 0 rfl) ?_
  refine gt_X11_0 hC hP wf_X11_12 dX11_clear_44 ?_
  refine gt_X10_5 (a := 0) h06 hP.l0 hC hP wf_X11_58 dX11_clear_47 ?_
  refine lv_iload_n hx hb dX11_clear_50 rfl (lv_at hl 1 rfl) ?_
  refine lv_iload_n hx hb dX11_clear_51 rfl (lv_at hl 2 rfl) ?_
  refine r_cP hS h (fun r hr => r_runV (As := [.int x1, .int x2]) (rest := []) hC kV_X11_171 cw_X8_above (rc_X8 (a := 0) h06 hP.l0 hC hP) hP (tRooms_above x al lv σ 0 h06 hP.l0 x1 x2 r hr) rfl hl.1 ⟨Nat.le_of_ble_eq_true rfl, Nat.le_of_ble_eq_true rfl⟩ ⟨Nat.le_of_ble_eq_true rfl, Nat.le_of_ble_eq_true rfl⟩ (Nat.le_of_ble_eq_true rfl) dX11_clear_52) (fun y7 H locs h hP hS => ?_)
  refine lv_if_eq (tgt := 65) hx hb dX11_clear_55 (by decide) (fun hc => ?_) (fun hc => ?_)
  · replace h := (br h).1 hc
    refine lv_aload_n hx hb dX11_clear_65 rfl (lv_at hl 0 rfl) ?_
    refine gt_X11_0 hC hP wf_X11_12 dX11_clear_66 ?_
    refine gt_X10_5 (a := 0) h06 hP.l0 hC hP wf_X11_58 dX11_clear_69 ?_
    refine lv_iload_n hx hb dX11_clear_72 rfl (lv_at hl 1 rfl) ?_
    refine lv_iload_n hx hb dX11_clear_73 rfl (lv_at hl 2 rfl) ?_
    refine lv_iconst (v := 0) hx hb dX11_clear_74 (by decide) ?_
    refine r_cV hS h (fun r hr => r_runV (As := [.int x1, .int x2, .int 0]) (rest := []) hC kV_X11_161 cw_X8_fill (rc_X8 (a := 0) h06 hP.l0 hC hP) hP (tRooms_fill x al lv σ 0 h06 hP.l0 x1 x2 0 r hr) rfl hl.1 ⟨Nat.le_of_ble_eq_true rfl, Nat.le_of_ble_eq_true rfl⟩ ⟨Nat.le_of_ble_eq_true rfl, Nat.le_of_ble_eq_true rfl⟩ (Nat.le_of_ble_eq_true rfl) dX11_clear_75) (fun σ8 H locs h hP hS => ?_)
    refine lv_aload_n hx hb dX11_clear_78 rfl (lv_at hl 0 rfl) ?_
    refine lv_iconst (v := 0) hx hb dX11_clear_79 (by decide) ?_
    refine r_cI hS h (fun r hr => r_runV (As := [.int 0]) (rest := []) hC kV_X11_72 cw_X11_answer (rc_X11 hC hP) hP (tI_answer x al lv σ8 0 r hr) rfl hl.1 ⟨Nat.le_of_ble_eq_true rfl, Nat.le_of_ble_eq_true rfl⟩ ⟨Nat.le_of_ble_eq_true rfl, Nat.le_of_ble_eq_true rfl⟩ (Nat.le_of_ble_eq_true rfl) dX11_clear_80) (fun y9 σ10 H locs h hP hS => ?_)
    exact r_retI hC hP hS rfl h dX11_clear_83
  · replace h := (br h).2 hc
    exact wI_clear_58  hC  σ H locs ls h hP hS (lv_sub hl [0] rfl)

set_option maxHeartbeats 4000000 in
set_option maxRecDepth 20000 in
theorem wI_clear_0 {p : Program} {l : Launch} {e : Env} {s : State} {m : MethodId} {args : Array Value} {below : List Frame} {meth : Method} {c : Code} {x : Wx} {al : Nat → Nat → Nat} {lv : Nat → Bool} {res : Int32 × Sg} (hC : Cx x p s m args meth c cX11_clear 5 (some .int) RX11) (σ : Sg) (v1 : Int32) (v2 : Int32) (H : Heap) (locs : List Loc) (ls : Array Slot) (h : fI_clear_0 σ v1 v2 = some res) (hP : Pic x al lv σ H) (hS : va_S (Ab x) s.heap H locs) (hl : lv_has ls 5 [(0, .ref (al 6 0)), (1, .int v1), (2, .int v2)]) : W p l e (rmm 4 0 0) s m args below meth c H locs 0 0 (MQ below (QI x al lv res) args s 0 0 (Ab x)) (F0 m 0 ls []) := by
  obtain ⟨hx, hb, hml, hown, hts⟩ := hC.1
  unfold fI_clear_0 at h
  refine lv_aload_n hx hb dX11_clear_0 rfl (lv_at hl 0 rfl) ?_
  refine lv_iload_n hx hb dX11_clear_1 rfl (lv_at hl 1 rfl) ?_
  refine lv_iload_n hx hb dX11_clear_2 rfl (lv_at hl 2 rfl) ?_
  refine r_cP hS h (fun r hr => r_runV (As := [.int v1, .int v2]) (rest := []) hC kV_X11_165 cw_X11_refusalOfPlace (rc_X11 hC hP) hP (tI_refusalOfPlace x al lv σ v1 v2 r hr) rfl hl.1 ⟨Nat.le_of_ble_eq_true rfl, Nat.le_of_ble_eq_true rfl⟩ ⟨Nat.le_of_ble_eq_true rfl, Nat.le_of_ble_eq_true rfl⟩ (Nat.le_of_ble_eq_true rfl) dX11_clear_3) (fun y1 H locs h hP hS => ?_)
  refine lv_istore_n (lv' := [(3, .int y1), (0, .ref (al 6 0)), (1, .int v1), (2, .int v2)]) hx hb dX11_clear_6 rfl hl (by decide) rfl (fun ls hl => ?_)
  refine lv_iload_n hx hb dX11_clear_7 rfl (lv_at hl 0 rfl) ?_
  refine lv_if_eq (tgt := 17) hx hb dX11_clear_8 (by decide) (fun hc => ?_) (fun hc => ?_)
  · replace h := (br h).1 hc
    refine lv_aload_n hx hb dX11_clear_17 rfl (lv_at hl 1 rfl) ?_
    refine gt_X11_0 hC hP wf_X11_12 dX11_clear_18 ?_
    refine gt_X10_5 (a := 0) h06 hP.l0 hC hP wf_X11_58 dX11_clear_21 ?_
    refine lv_iload_n hx hb dX11_clear_24 rfl (lv_at hl 2 rfl) ?_
    refine lv_iload_n hx hb dX11_clear_25 rfl (lv_at hl 3 rfl) ?_
    refine r_cP hS h (fun r hr => r_runV (As := [.int v1, .int v2]) (rest := []) hC kV_X11_168 cw_X8_at (rc_X8 (a := 0) h06 hP.l0 hC hP) hP (tRooms_at x al lv σ 0 h06 hP.l0 v1 v2 r hr) rfl hl.1 ⟨Nat.le_of_ble_eq_true rfl, Nat.le_of_ble_eq_true rfl⟩ ⟨Nat.le_of_ble_eq_true rfl, Nat.le_of_ble_eq_true rfl⟩ (Nat.le_of_ble_eq_true rfl) dX11_clear_26) (fun y2 H locs h hP hS => ?_)
    refine lv_istore (lv' := [(4, .int y2), (3, .int y1), (0, .ref (al 6 0)), (1, .int v1), (2, .int v2)]) hx hb dX11_clear_29 hl (by decide) rfl (fun ls hl => ?_)
    refine lv_iload hx hb dX11_clear_31 (lv_at hl 0 rfl) ?_
    refine lv_iconst (v := 1) hx hb dX11_clear_33 (by decide) ?_
    refine lv_icmp_eq (tgt := 43) hx hb dX11_clear_34 (by decide) (fun hc => ?_) (fun hc => ?_)
    · replace h := (br h).1 hc
      exact wI_clear_43  hC  σ v1 v2 H locs ls h hP hS (lv_sub hl [2, 3, 4] rfl)
    · replace h := (br h).2 hc
      refine lv_iload hx hb dX11_clear_37 (lv_at hl 0 rfl) ?_
      refine lv_iconst (v := 2) hx hb dX11_clear_39 (by decide) ?_
      refine lv_icmp_ne (tgt := 58) hx hb dX11_clear_40 (by decide) (fun hc => ?_) (fun hc => ?_)
      · replace h := (br h).2 hc
        exact wI_clear_58  hC  σ H locs ls h hP hS (lv_sub hl [2] rfl)
      · replace h := (br h).1 hc
        exact wI_clear_43  hC  σ v1 v2 H locs ls h hP hS (lv_sub hl [2, 3, 4] rfl)
  · replace h := (br h).2 hc
    refine lv_aload_n hx hb dX11_clear_11 rfl (lv_at hl 1 rfl) ?_
    refine lv_iload_n hx hb dX11_clear_12 rfl (lv_at hl 0 rfl) ?_
    refine r_cI hS h (fun r hr => r_runV (As := [.int y1]) (rest := []) hC kV_X11_72 cw_X11_answer (rc_X11 hC hP) hP (tI_answer x al lv σ y1 r hr) rfl hl.1 ⟨Nat.le_of_ble_eq_true rfl, Nat.le_of_ble_eq_true rfl⟩ ⟨Nat.le_of_ble_eq_true rfl, Nat.le_of_ble_eq_true rfl⟩ (Nat.le_of_ble_eq_true rfl) dX11_clear_13) (fun y3 σ4 H locs h hP hS => ?_)
    exact r_retI hC hP hS rfl h dX11_clear_16

set_option maxRecDepth 20000 in
theorem tI_clear {l : Launch} (x : Wx) (al : Nat → Nat → Nat) (lv : Nat → Bool) (σ : Sg) (v1 : Int32) (v2 : Int32) (res : Int32 × Sg) (h : fI_clear σ v1 v2 = some res) : Met l yX11_clear (Cond.code yX11_clear cX11_clear 5 (some .int) :: lwg) (rmm 4 0 0) (va_Pc [.ref (al 6 0), .int v1, .int v2] (Wd x al lv σ)) (QI x al lv res) 0 0 (Ab x) := by
  refine met_W (by decide) (Nat.le_of_ble_eq_true rfl) rfl (fun p e s m args below meth c ls hC hP hS hl => ?_)
  exact wI_clear_0  hC σ v1 v2 _ _ ls h hP hS hl
set_option maxHeartbeats 4000000 in
set_option maxRecDepth 20000 in
theorem wI_place_0 {p : Program} {l : Launch} {e : Env} {s : State} {m : MethodId} {args : Array Value} {below : List Frame} {meth : Method} {c : Code} {x : Wx} {al : Nat → Nat → Nat} {lv : Nat → Bool} {res : Int32} {σ : Sg} (hC : Cx x p s m args meth c cX11_place 4 (some .int) RX11) (v1 : Int32) (v2 : Int32) (H : Heap) (locs : List Loc) (ls : Array Slot) (h : fI_place_0 σ v1 v2 = some res) (hP : Pic x al lv σ H) (hS : va_S (Ab x) s.heap H locs) (hl : lv_has ls 4 [(0, .ref (al 6 0)), (1, .int v1), (2, .int v2)]) : W p l e (rmm 4 0 0) s m args below meth c H locs 0 0 (MQ below (QP x al lv σ res) args s 0 0 (Ab x)) (F0 m 0 ls []) := by
  obtain ⟨hx, hb, hml, hown, hts⟩ := hC.1
  unfold fI_place_0 at h
  refine lv_aload_n hx hb dX11_place_0 rfl (lv_at hl 0 rfl) ?_
  refine lv_iload_n hx hb dX11_place_1 rfl (lv_at hl 1 rfl) ?_
  refine lv_iload_n hx hb dX11_place_2 rfl (lv_at hl 2 rfl) ?_
  refine r_cP hS h (fun r hr => r_runV (As := [.int v1, .int v2]) (rest := []) hC kV_X11_165 cw_X11_refusalOfPlace (rc_X11 hC hP) hP (tI_refusalOfPlace x al lv σ v1 v2 r hr) rfl hl.1 ⟨Nat.le_of_ble_eq_true rfl, Nat.le_of_ble_eq_true rfl⟩ ⟨Nat.le_of_ble_eq_true rfl, Nat.le_of_ble_eq_true rfl⟩ (Nat.le_of_ble_eq_true rfl) dX11_place_3) (fun y1 H locs h hP hS => ?_)
  refine lv_istore_n (lv' := [(3, .int y1), (0, .ref (al 6 0)), (1, .int v1), (2, .int v2)]) hx hb dX11_place_6 rfl hl (by decide) rfl (fun ls hl => ?_)
  refine lv_iload_n hx hb dX11_place_7 rfl (lv_at hl 0 rfl) ?_
  refine lv_if_eq (tgt := 15) hx hb dX11_place_8 (by decide) (fun hc => ?_) (fun hc => ?_)
  · replace h := (br h).1 hc
    refine lv_aload_n hx hb dX11_place_15 rfl (lv_at hl 1 rfl) ?_
    refine gt_X11_0 hC hP wf_X11_12 dX11_place_16 ?_
    refine gt_X10_5 (a := 0) h06 hP.l0 hC hP wf_X11_58 dX11_place_19 ?_
    refine lv_iload_n hx hb dX11_place_22 rfl (lv_at hl 2 rfl) ?_
    refine lv_iload_n hx hb dX11_place_23 rfl (lv_at hl 3 rfl) ?_
    refine r_cP hS h (fun r hr => r_runV (As := [.int v1, .int v2]) (rest := []) hC kV_X11_168 cw_X8_at (rc_X8 (a := 0) h06 hP.l0 hC hP) hP (tRooms_at x al lv σ 0 h06 hP.l0 v1 v2 r hr) rfl hl.1 ⟨Nat.le_of_ble_eq_true rfl, Nat.le_of_ble_eq_true rfl⟩ ⟨Nat.le_of_ble_eq_true rfl, Nat.le_of_ble_eq_true rfl⟩ (Nat.le_of_ble_eq_true rfl) dX11_place_24) (fun y2 H locs h hP hS => ?_)
    exact r_retP hC hP hS rfl h dX11_place_27
  · replace h := (br h).2 hc
    refine lv_iload_n hx hb dX11_place_11 rfl (lv_at hl 0 rfl) ?_
    refine lv_goto (tgt := 27) hx hb dX11_place_12 (by decide) ?_
    exact r_retP hC hP hS rfl h dX11_place_27

set_option maxRecDepth 20000 in
theorem tI_place {l : Launch} (x : Wx) (al : Nat → Nat → Nat) (lv : Nat → Bool) (σ : Sg) (v1 : Int32) (v2 : Int32) (res : Int32) (h : fI_place σ v1 v2 = some res) : Met l yX11_place (Cond.code yX11_place cX11_place 4 (some .int) :: lwg) (rmm 4 0 0) (va_Pc [.ref (al 6 0), .int v1, .int v2] (Wd x al lv σ)) (QP x al lv σ res) 0 0 (Ab x) := by
  refine met_W (by decide) (Nat.le_of_ble_eq_true rfl) rfl (fun p e s m args below meth c ls hC hP hS hl => ?_)
  exact wI_place_0  hC v1 v2 _ _ ls h hP hS hl
set_option maxHeartbeats 4000000 in
set_option maxRecDepth 20000 in
theorem wI_howBlockLies_0 {p : Program} {l : Launch} {e : Env} {s : State} {m : MethodId} {args : Array Value} {below : List Frame} {meth : Method} {c : Code} {x : Wx} {al : Nat → Nat → Nat} {lv : Nat → Bool} {res : Int32 × Sg} (hC : Cx x p s m args meth c cX11_howBlockLies 5 (some .int) RX11) (σ : Sg) (v1 : Int32) (v2 : Int32) (H : Heap) (locs : List Loc) (ls : Array Slot) (h : fI_howBlockLies_0 σ v1 v2 = some res) (hP : Pic x al lv σ H) (hS : va_S (Ab x) s.heap H locs) (hl : lv_has ls 5 [(0, .ref (al 6 0)), (1, .int v1), (2, .int v2)]) : W p l e (rmm 4 0 0) s m args below meth c H locs 0 0 (MQ below (QI x al lv res) args s 0 0 (Ab x)) (F0 m 0 ls []) := by
  obtain ⟨hx, hb, hml, hown, hts⟩ := hC.1
  unfold fI_howBlockLies_0 at h
  refine lv_aload_n hx hb dX11_howBlockLies_0 rfl (lv_at hl 0 rfl) ?_
  refine gt_X11_0 hC hP wf_X11_12 dX11_howBlockLies_1 ?_
  refine gt_X10_6 (a := 0) h06 hP.l0 hC hP wf_X11_147 dX11_howBlockLies_4 ?_
  refine gt_X0_3 (a := 0) h06 hP.l0 hC hP wf_X11_179 dX11_howBlockLies_7 ?_
  refine lv_iload_n hx hb dX11_howBlockLies_10 rfl (lv_at hl 1 rfl) ?_
  refine r_iald hC hP (aS_18 (a := 0) h06 hP.l0) h dX11_howBlockLies_11 (fun h => ?_)
  refine r_lt h (fun y1 h => ?_)
  refine lv_istore_n (lv' := [(3, .int y1), (0, .ref (al 6 0)), (1, .int v1), (2, .int v2)]) hx hb dX11_howBlockLies_12 rfl hl (by decide) rfl (fun ls hl => ?_)
  refine lv_aload_n hx hb dX11_howBlockLies_13 rfl (lv_at hl 1 rfl) ?_
  refine gt_X11_0 hC hP wf_X11_12 dX11_howBlockLies_14 ?_
  refine gt_X10_6 (a := 0) h06 hP.l0 hC hP wf_X11_147 dX11_howBlockLies_17 ?_
  refine gt_X0_4 (a := 0) h06 hP.l0 hC hP wf_X11_182 dX11_howBlockLies_20 ?_
  refine lv_iload_n hx hb dX11_howBlockLies_23 rfl (lv_at hl 2 rfl) ?_
  refine r_iald hC hP (aS_19 (a := 0) h06 hP.l0) h dX11_howBlockLies_24 (fun h => ?_)
  refine r_lt h (fun y2 h => ?_)
  refine lv_istore (lv' := [(4, .int y2), (3, .int y1), (0, .ref (al 6 0)), (1, .int v1), (2, .int v2)]) hx hb dX11_howBlockLies_25 hl (by decide) rfl (fun ls hl => ?_)
  refine lv_aload_n hx hb dX11_howBlockLies_27 rfl (lv_at hl 2 rfl) ?_
  refine gt_X11_0 hC hP wf_X11_12 dX11_howBlockLies_28 ?_
  refine gt_X10_5 (a := 0) h06 hP.l0 hC hP wf_X11_58 dX11_howBlockLies_31 ?_
  refine lv_iload_n hx hb dX11_howBlockLies_34 rfl (lv_at hl 1 rfl) ?_
  refine r_cP hS h (fun r hr => r_runV (As := [.int y1]) (rest := []) hC kV_X11_62 cw_X8_has (rc_X8 (a := 0) h06 hP.l0 hC hP) hP (tRooms_has x al lv σ 0 h06 hP.l0 y1 r hr) rfl hl.1 ⟨Nat.le_of_ble_eq_true rfl, Nat.le_of_ble_eq_true rfl⟩ ⟨Nat.le_of_ble_eq_true rfl, Nat.le_of_ble_eq_true rfl⟩ (Nat.le_of_ble_eq_true rfl) dX11_howBlockLies_35) (fun y3 H locs h hP hS => ?_)
  refine lv_if_ne (tgt := 43) hx hb dX11_howBlockLies_38 (by decide) (fun hc => ?_) (fun hc => ?_)
  · replace h := (br h).2 hc
    refine lv_aload_n hx hb dX11_howBlockLies_43 rfl (lv_at hl 2 rfl) ?_
    refine gt_X11_2 hC hP wf_X11_26 dX11_howBlockLies_44 ?_
    refine gt_X6_3 hC hP wf_X11_392 dX11_howBlockLies_47 ?_
    refine lv_aload_n hx hb dX11_howBlockLies_50 rfl (lv_at hl 2 rfl) ?_
    refine gt_X11_0 hC hP wf_X11_12 dX11_howBlockLies_51 ?_
    refine lv_iload_n hx hb dX11_howBlockLies_54 rfl (lv_at hl 1 rfl) ?_
    refine lv_iload hx hb dX11_howBlockLies_55 (lv_at hl 0 rfl) ?_
    refine r_cV hS h (fun r hr => r_runV (As := [.ref (al 0 0), .int y1, .int y2]) (rest := []) hC kV_X11_396 cw_X9_look (rc_X9 hC hP) hP (tSides_look x al lv σ 0 h06 hP.l0 y1 y2 r hr) rfl hl.1 ⟨Nat.le_of_ble_eq_true rfl, Nat.le_of_ble_eq_true rfl⟩ ⟨Nat.le_of_ble_eq_true rfl, Nat.le_of_ble_eq_true rfl⟩ (Nat.le_of_ble_eq_true rfl) dX11_howBlockLies_57) (fun σ4 H locs h hP hS => ?_)
    refine lv_iload_n hx hb dX11_howBlockLies_60 rfl (lv_at hl 4 rfl) ?_
    refine Classical.byCases (p := v2 = 6) (fun hc => ?_) (fun n6 => ?_)
    · skip
      replace h := (br h).1 hc
      rw [hc]
      refine lv_tableIn (off := 27) (tgt := 88) hx hb dX11_howBlockLies_61 (by decide) (by decide) rfl (by decide) ?_
      refine lv_aload_n hx hb dX11_howBlockLies_88 rfl (lv_at hl 2 rfl) ?_
      refine gt_X11_2 hC hP wf_X11_26 dX11_howBlockLies_89 ?_
      refine gt_X6_3 hC hP wf_X11_392 dX11_howBlockLies_92 ?_
      refine gt_X9_0 hC hP wf_X11_402 dX11_howBlockLies_95 ?_
      exact r_retI hC hP hS rfl h dX11_howBlockLies_98
    · skip
      replace h := (br h).2 n6
      refine Classical.byCases (p := v2 = 7) (fun hc => ?_) (fun n7 => ?_)
      · skip
        replace h := (br h).1 hc
        rw [hc]
        refine lv_tableIn (off := 38) (tgt := 99) hx hb dX11_howBlockLies_61 (by decide) (by decide) rfl (by decide) ?_
        refine lv_aload_n hx hb dX11_howBlockLies_99 rfl (lv_at hl 2 rfl) ?_
        refine gt_X11_2 hC hP wf_X11_26 dX11_howBlockLies_100 ?_
        refine gt_X6_3 hC hP wf_X11_392 dX11_howBlockLies_103 ?_
        refine gt_X9_1 hC hP wf_X11_405 dX11_howBlockLies_106 ?_
        exact r_retI hC hP hS rfl h dX11_howBlockLies_109
      · skip
        replace h := (br h).2 n7
        refine Classical.byCases (p := v2 = 8) (fun hc => ?_) (fun n8 => ?_)
        · skip
          replace h := (br h).1 hc
          rw [hc]
          refine lv_tableIn (off := 49) (tgt := 110) hx hb dX11_howBlockLies_61 (by decide) (by decide) rfl (by decide) ?_
          refine lv_aload_n hx hb dX11_howBlockLies_110 rfl (lv_at hl 2 rfl) ?_
          refine gt_X11_2 hC hP wf_X11_26 dX11_howBlockLies_111 ?_
          refine lv_aload_n hx hb dX11_howBlockLies_114 rfl (lv_at hl 2 rfl) ?_
          refine gt_X11_0 hC hP wf_X11_12 dX11_howBlockLies_115 ?_
          refine lv_iload_n hx hb dX11_howBlockLies_118 rfl (lv_at hl 3 rfl) ?_
          refine lv_aload_n hx hb dX11_howBlockLies_119 rfl (lv_at hl 2 rfl) ?_
          refine gt_X11_2 hC hP wf_X11_26 dX11_howBlockLies_120 ?_
          refine lv_aload_n hx hb dX11_howBlockLies_123 rfl (lv_at hl 2 rfl) ?_
          refine gt_X11_0 hC hP wf_X11_12 dX11_howBlockLies_124 ?_
          refine lv_iload_n hx hb dX11_howBlockLies_127 rfl (lv_at hl 1 rfl) ?_
          refine lv_aload_n hx hb dX11_howBlockLies_128 rfl (lv_at hl 2 rfl) ?_
          refine r_cP hS h (fun r hr => r_runV (As := []) (rest := [.int y1, .ref (al 0 0), .ref (al 6 2), .int v1, .ref (al 0 0), .ref (al 6 2)]) hC kV_X11_99 cw_X11_tenthsToday (rc_X11 hC hP) hP (tI_tenthsToday x al lv σ4  r hr) rfl hl.1 ⟨Nat.le_of_ble_eq_true rfl, Nat.le_of_ble_eq_true rfl⟩ ⟨Nat.le_of_ble_eq_true rfl, Nat.le_of_ble_eq_true rfl⟩ (Nat.le_of_ble_eq_true rfl) dX11_howBlockLies_129) (fun y5 H locs h hP hS => ?_)
          refine r_cP hS h (fun r hr => r_runV (As := [.ref (al 0 0), .int y1, .int y5]) (rest := [.int v1, .ref (al 0 0), .ref (al 6 2)]) hC kV_X11_103 cw_X6_warmthIn (rc_X6 hC hP) hP (tMelting_warmthIn x al lv σ4 0 h06 hP.l0 y1 y5 r hr) rfl hl.1 ⟨Nat.le_of_ble_eq_true rfl, Nat.le_of_ble_eq_true rfl⟩ ⟨Nat.le_of_ble_eq_true rfl, Nat.le_of_ble_eq_true rfl⟩ (Nat.le_of_ble_eq_true rfl) dX11_howBlockLies_132) (fun y6 H locs h hP hS => ?_)
          refine r_cI hS h (fun r hr => r_runV (As := [.ref (al 0 0), .int v1, .int y6]) (rest := []) hC kV_X11_408 cw_X6_lossOf (rc_X6 hC hP) hP (tMelting_lossOf x al lv σ4 0 h06 hP.l0 v1 y6 r hr) rfl hl.1 ⟨Nat.le_of_ble_eq_true rfl, Nat.le_of_ble_eq_true rfl⟩ ⟨Nat.le_of_ble_eq_true rfl, Nat.le_of_ble_eq_true rfl⟩ (Nat.le_of_ble_eq_true rfl) dX11_howBlockLies_135) (fun y7 σ8 H locs h hP hS => ?_)
          exact r_retI hC hP hS rfl h dX11_howBlockLies_138
        · skip
          replace h := (br h).2 n8
          have m6 := lv_neT (a := 6) n6 rfl
          have m7 := lv_neT (a := 7) n7 rfl
          have m8 := lv_neT (a := 8) n8 rfl
          refine lv_tableOut (tgt := 139) hx hb dX11_howBlockLies_61 (by omega) (by decide) ?_
          refine lv_aload_n hx hb dX11_howBlockLies_139 rfl (lv_at hl 2 rfl) ?_
          refine gt_X11_0 hC hP wf_X11_12 dX11_howBlockLies_140 ?_
          refine gt_X10_5 (a := 0) h06 hP.l0 hC hP wf_X11_58 dX11_howBlockLies_143 ?_
          refine lv_iload_n hx hb dX11_howBlockLies_146 rfl (lv_at hl 1 rfl) ?_
          refine lv_iload hx hb dX11_howBlockLies_147 (lv_at hl 0 rfl) ?_
          refine r_cP hS h (fun r hr => r_runV (As := [.int y1, .int y2]) (rest := []) hC kV_X11_411 cw_X8_isFreeBlock (rc_X8 (a := 0) h06 hP.l0 hC hP) hP (tRooms_isFreeBlock x al lv σ4 0 h06 hP.l0 y1 y2 r hr) rfl hl.1 ⟨Nat.le_of_ble_eq_true rfl, Nat.le_of_ble_eq_true rfl⟩ ⟨Nat.le_of_ble_eq_true rfl, Nat.le_of_ble_eq_true rfl⟩ (Nat.le_of_ble_eq_true rfl) dX11_howBlockLies_149) (fun y9 H locs h hP hS => ?_)
          refine lv_if_eq (tgt := 159) hx hb dX11_howBlockLies_152 (by decide) (fun hc => ?_) (fun hc => ?_)
          · replace h := (br h).1 hc
            refine lv_iconst (v := 0) hx hb dX11_howBlockLies_159 (by decide) ?_
            exact r_retI hC hP hS rfl h dX11_howBlockLies_160
          · replace h := (br h).2 hc
            refine lv_iconst (v := 1) hx hb dX11_howBlockLies_155 (by decide) ?_
            refine lv_goto (tgt := 160) hx hb dX11_howBlockLies_156 (by decide) ?_
            exact r_retI hC hP hS rfl h dX11_howBlockLies_160
  · replace h := (br h).1 hc
    refine lv_iconst (v := 0) hx hb dX11_howBlockLies_41 (by decide) ?_
    exact r_retI hC hP hS rfl h dX11_howBlockLies_42

set_option maxRecDepth 20000 in
theorem tI_howBlockLies {l : Launch} (x : Wx) (al : Nat → Nat → Nat) (lv : Nat → Bool) (σ : Sg) (v1 : Int32) (v2 : Int32) (res : Int32 × Sg) (h : fI_howBlockLies σ v1 v2 = some res) : Met l yX11_howBlockLies (Cond.code yX11_howBlockLies cX11_howBlockLies 5 (some .int) :: lwg) (rmm 4 0 0) (va_Pc [.ref (al 6 0), .int v1, .int v2] (Wd x al lv σ)) (QI x al lv res) 0 0 (Ab x) := by
  refine met_W (by decide) (Nat.le_of_ble_eq_true rfl) rfl (fun p e s m args below meth c ls hC hP hS hl => ?_)
  exact wI_howBlockLies_0  hC σ v1 v2 _ _ ls h hP hS hl
set_option maxHeartbeats 4000000 in
set_option maxRecDepth 20000 in
theorem wI_block_0 {p : Program} {l : Launch} {e : Env} {s : State} {m : MethodId} {args : Array Value} {below : List Frame} {meth : Method} {c : Code} {x : Wx} {al : Nat → Nat → Nat} {lv : Nat → Bool} {res : Int32 × Sg} (hC : Cx x p s m args meth c cX11_block 3 (some .int) RX11) (σ : Sg) (v1 : Int32) (v2 : Int32) (H : Heap) (locs : List Loc) (ls : Array Slot) (h : fI_block_0 σ v1 v2 = some res) (hP : Pic x al lv σ H) (hS : va_S (Ab x) s.heap H locs) (hl : lv_has ls 3 [(0, .ref (al 6 0)), (1, .int v1), (2, .int v2)]) : W p l e (rmm 5 0 0) s m args below meth c H locs 0 0 (MQ below (QI x al lv res) args s 0 0 (Ab x)) (F0 m 0 ls []) := by
  obtain ⟨hx, hb, hml, hown, hts⟩ := hC.1
  unfold fI_block_0 at h
  refine lv_iload_n hx hb dX11_block_0 rfl (lv_at hl 2 rfl) ?_
  refine lv_iconst (v := 0) hx hb dX11_block_1 (by decide) ?_
  refine lv_bipush (v := 9) hx hb dX11_block_2 (by decide) ?_
  refine r_cP hS h (fun r hr => r_runS (As := [.int v2, .int 0, .int 9]) (rest := []) hC kS_X11_68 cw_X11_within hP (tI_within x al lv σ v2 0 9 r hr) rfl hl.1 ⟨Nat.le_of_ble_eq_true rfl, Nat.le_of_ble_eq_true rfl⟩ ⟨Nat.le_of_ble_eq_true rfl, Nat.le_of_ble_eq_true rfl⟩ (Nat.le_of_ble_eq_true rfl) dX11_block_4) (fun y1 H locs h hP hS => ?_)
  refine lv_if_ne (tgt := 12) hx hb dX11_block_7 (by decide) (fun hc => ?_) (fun hc => ?_)
  · replace h := (br h).2 hc
    refine lv_aload_n hx hb dX11_block_12 rfl (lv_at hl 0 rfl) ?_
    refine gt_X11_0 hC hP wf_X11_12 dX11_block_13 ?_
    refine gt_X10_6 (a := 0) h06 hP.l0 hC hP wf_X11_147 dX11_block_16 ?_
    refine lv_iload_n hx hb dX11_block_19 rfl (lv_at hl 1 rfl) ?_
    refine r_cP hS h (fun r hr => r_runV (As := [.int v1]) (rest := []) hC kV_X11_174 cw_X0_has (rc_X0 (a := 0) h06 hP.l0 hC hP) hP (tBlocks_has x al lv σ 0 h06 hP.l0 v1 r hr) rfl hl.1 ⟨Nat.le_of_ble_eq_true rfl, Nat.le_of_ble_eq_true rfl⟩ ⟨Nat.le_of_ble_eq_true rfl, Nat.le_of_ble_eq_true rfl⟩ (Nat.le_of_ble_eq_true rfl) dX11_block_20) (fun y2 H locs h hP hS => ?_)
    refine lv_if_ne (tgt := 29) hx hb dX11_block_23 (by decide) (fun hc => ?_) (fun hc => ?_)
    · replace h := (br h).2 hc
      refine lv_iload_n hx hb dX11_block_29 rfl (lv_at hl 2 rfl) ?_
      refine Classical.byCases (p := v2 = 0) (fun hc => ?_) (fun n0 => ?_)
      · skip
        replace h := (br h).1 hc
        rw [hc]
        refine lv_tableIn (off := 38) (tgt := 68) hx hb dX11_block_30 (by decide) (by decide) rfl (by decide) ?_
        refine lv_aload_n hx hb dX11_block_68 rfl (lv_at hl 0 rfl) ?_
        refine gt_X11_0 hC hP wf_X11_12 dX11_block_69 ?_
        refine gt_X10_6 (a := 0) h06 hP.l0 hC hP wf_X11_147 dX11_block_72 ?_
        refine gt_X0_1 (a := 0) h06 hP.l0 hC hP wf_X11_175 dX11_block_75 ?_
        refine lv_iload_n hx hb dX11_block_78 rfl (lv_at hl 1 rfl) ?_
        refine r_iald hC hP (aS_16 (a := 0) h06 hP.l0) h dX11_block_79 (fun h => ?_)
        exact r_retI hC hP hS rfl h dX11_block_80
      · skip
        replace h := (br h).2 n0
        refine Classical.byCases (p := v2 = 1) (fun hc => ?_) (fun n1 => ?_)
        · skip
          replace h := (br h).1 hc
          rw [hc]
          refine lv_tableIn (off := 51) (tgt := 81) hx hb dX11_block_30 (by decide) (by decide) rfl (by decide) ?_
          refine lv_aload_n hx hb dX11_block_81 rfl (lv_at hl 0 rfl) ?_
          refine gt_X11_0 hC hP wf_X11_12 dX11_block_82 ?_
          refine gt_X10_6 (a := 0) h06 hP.l0 hC hP wf_X11_147 dX11_block_85 ?_
          refine gt_X0_2 (a := 0) h06 hP.l0 hC hP wf_X11_176 dX11_block_88 ?_
          refine lv_iload_n hx hb dX11_block_91 rfl (lv_at hl 1 rfl) ?_
          refine r_iald hC hP (aS_17 (a := 0) h06 hP.l0) h dX11_block_92 (fun h => ?_)
          exact r_retI hC hP hS rfl h dX11_block_93
        · skip
          replace h := (br h).2 n1
          refine Classical.byCases (p := v2 = 2) (fun hc => ?_) (fun n2 => ?_)
          · skip
            replace h := (br h).1 hc
            rw [hc]
            refine lv_tableIn (off := 64) (tgt := 94) hx hb dX11_block_30 (by decide) (by decide) rfl (by decide) ?_
            refine lv_aload_n hx hb dX11_block_94 rfl (lv_at hl 0 rfl) ?_
            refine gt_X11_0 hC hP wf_X11_12 dX11_block_95 ?_
            refine gt_X10_6 (a := 0) h06 hP.l0 hC hP wf_X11_147 dX11_block_98 ?_
            refine gt_X0_3 (a := 0) h06 hP.l0 hC hP wf_X11_179 dX11_block_101 ?_
            refine lv_iload_n hx hb dX11_block_104 rfl (lv_at hl 1 rfl) ?_
            refine r_iald hC hP (aS_18 (a := 0) h06 hP.l0) h dX11_block_105 (fun h => ?_)
            exact r_retI hC hP hS rfl h dX11_block_106
          · skip
            replace h := (br h).2 n2
            refine Classical.byCases (p := v2 = 3) (fun hc => ?_) (fun n3 => ?_)
            · skip
              replace h := (br h).1 hc
              rw [hc]
              refine lv_tableIn (off := 77) (tgt := 107) hx hb dX11_block_30 (by decide) (by decide) rfl (by decide) ?_
              refine lv_aload_n hx hb dX11_block_107 rfl (lv_at hl 0 rfl) ?_
              refine gt_X11_0 hC hP wf_X11_12 dX11_block_108 ?_
              refine gt_X10_6 (a := 0) h06 hP.l0 hC hP wf_X11_147 dX11_block_111 ?_
              refine gt_X0_4 (a := 0) h06 hP.l0 hC hP wf_X11_182 dX11_block_114 ?_
              refine lv_iload_n hx hb dX11_block_117 rfl (lv_at hl 1 rfl) ?_
              refine r_iald hC hP (aS_19 (a := 0) h06 hP.l0) h dX11_block_118 (fun h => ?_)
              exact r_retI hC hP hS rfl h dX11_block_119
            · skip
              replace h := (br h).2 n3
              refine Classical.byCases (p := v2 = 4) (fun hc => ?_) (fun n4 => ?_)
              · skip
                replace h := (br h).1 hc
                rw [hc]
                refine lv_tableIn (off := 90) (tgt := 120) hx hb dX11_block_30 (by decide) (by decide) rfl (by decide) ?_
                refine lv_aload_n hx hb dX11_block_120 rfl (lv_at hl 0 rfl) ?_
                refine gt_X11_0 hC hP wf_X11_12 dX11_block_121 ?_
                refine gt_X10_6 (a := 0) h06 hP.l0 hC hP wf_X11_147 dX11_block_124 ?_
                refine gt_X0_5 (a := 0) h06 hP.l0 hC hP wf_X11_185 dX11_block_127 ?_
                refine lv_iload_n hx hb dX11_block_130 rfl (lv_at hl 1 rfl) ?_
                refine r_iald hC hP (aS_20 (a := 0) h06 hP.l0) h dX11_block_131 (fun h => ?_)
                exact r_retI hC hP hS rfl h dX11_block_132
              · skip
                replace h := (br h).2 n4
                refine Classical.byCases (p := v2 = 5) (fun hc => ?_) (fun n5 => ?_)
                · skip
                  replace h := (br h).1 hc
                  rw [hc]
                  refine lv_tableIn (off := 103) (tgt := 133) hx hb dX11_block_30 (by decide) (by decide) rfl (by decide) ?_
                  refine lv_aload_n hx hb dX11_block_133 rfl (lv_at hl 0 rfl) ?_
                  refine gt_X11_0 hC hP wf_X11_12 dX11_block_134 ?_
                  refine gt_X10_6 (a := 0) h06 hP.l0 hC hP wf_X11_147 dX11_block_137 ?_
                  refine gt_X0_6 (a := 0) h06 hP.l0 hC hP wf_X11_188 dX11_block_140 ?_
                  refine lv_iload_n hx hb dX11_block_143 rfl (lv_at hl 1 rfl) ?_
                  refine r_iald hC hP (aS_21 (a := 0) h06 hP.l0) h dX11_block_144 (fun h => ?_)
                  exact r_retI hC hP hS rfl h dX11_block_145
                · skip
                  replace h := (br h).2 n5
                  have m0 := lv_neT (a := 0) n0 rfl
                  have m1 := lv_neT (a := 1) n1 rfl
                  have m2 := lv_neT (a := 2) n2 rfl
                  have m3 := lv_neT (a := 3) n3 rfl
                  have m4 := lv_neT (a := 4) n4 rfl
                  have m5 := lv_neT (a := 5) n5 rfl
                  refine lv_tableOut (tgt := 146) hx hb dX11_block_30 (by omega) (by decide) ?_
                  refine lv_aload_n hx hb dX11_block_146 rfl (lv_at hl 0 rfl) ?_
                  refine lv_iload_n hx hb dX11_block_147 rfl (lv_at hl 1 rfl) ?_
                  refine lv_iload_n hx hb dX11_block_148 rfl (lv_at hl 2 rfl) ?_
                  refine r_cI hS h (fun r hr => r_runV (As := [.int v1, .int v2]) (rest := []) hC kV_X11_191 cw_X11_howBlockLies (rc_X11 hC hP) hP (tI_howBlockLies x al lv σ v1 v2 r hr) rfl hl.1 ⟨Nat.le_of_ble_eq_true rfl, Nat.le_of_ble_eq_true rfl⟩ ⟨Nat.le_of_ble_eq_true rfl, Nat.le_of_ble_eq_true rfl⟩ (Nat.le_of_ble_eq_true rfl) dX11_block_149) (fun y3 σ4 H locs h hP hS => ?_)
                  exact r_retI hC hP hS rfl h dX11_block_152
    · replace h := (br h).1 hc
      refine lv_bipush (v := (-2)) hx hb dX11_block_26 (by decide) ?_
      exact r_retI hC hP hS rfl h dX11_block_28
  · replace h := (br h).1 hc
    refine lv_iconst (v := (-1)) hx hb dX11_block_10 (by decide) ?_
    exact r_retI hC hP hS rfl h dX11_block_11

set_option maxRecDepth 20000 in
theorem tI_block {l : Launch} (x : Wx) (al : Nat → Nat → Nat) (lv : Nat → Bool) (σ : Sg) (v1 : Int32) (v2 : Int32) (res : Int32 × Sg) (h : fI_block σ v1 v2 = some res) : Met l yX11_block (Cond.code yX11_block cX11_block 3 (some .int) :: lwg) (rmm 5 0 0) (va_Pc [.ref (al 6 0), .int v1, .int v2] (Wd x al lv σ)) (QI x al lv res) 0 0 (Ab x) := by
  refine met_W (by decide) (Nat.le_of_ble_eq_true rfl) rfl (fun p e s m args below meth c ls hC hP hS hl => ?_)
  exact wI_block_0  hC σ v1 v2 _ _ ls h hP hS hl
set_option maxHeartbeats 4000000 in
set_option maxRecDepth 20000 in
theorem wI_warm_35 {p : Program} {l : Launch} {e : Env} {s : State} {m : MethodId} {args : Array Value} {below : List Frame} {meth : Method} {c : Code} {x : Wx} {al : Nat → Nat → Nat} {lv : Nat → Bool} {res : Int32 × Sg} (hC : Cx x p s m args meth c cX11_warm 3 (some .int) RX11) (σ : Sg) (t0 : Int32) (H : Heap) (locs : List Loc) (ls : Array Slot) (h : fI_warm_35 σ t0 = some res) (hP : Pic x al lv σ H) (hS : va_S (Ab x) s.heap H locs) (hl : lv_has ls 3 []) : W p l e (rmm 3 0 0) s m args below meth c H locs 0 0 (MQ below (QI x al lv res) args s 0 0 (Ab x)) (F0 m 35 ls [.int t0, .ref (al 6 0)]) := by
  obtain ⟨hx, hb, hml, hown, hts⟩ := hC.1
  unfold fI_warm_35 at h
  refine r_cI hS h (fun r hr => r_runV (As := [.int t0]) (rest := []) hC kV_X11_72 cw_X11_answer (rc_X11 hC hP) hP (tI_answer x al lv σ t0 r hr) rfl hl.1 ⟨Nat.le_of_ble_eq_true rfl, Nat.le_of_ble_eq_true rfl⟩ ⟨Nat.le_of_ble_eq_true rfl, Nat.le_of_ble_eq_true rfl⟩ (Nat.le_of_ble_eq_true rfl) dX11_warm_35) (fun y6 σ7 H locs h hP hS => ?_)
  exact r_retI hC hP hS rfl h dX11_warm_38

set_option maxHeartbeats 4000000 in
set_option maxRecDepth 20000 in
theorem wI_warm_0 {p : Program} {l : Launch} {e : Env} {s : State} {m : MethodId} {args : Array Value} {below : List Frame} {meth : Method} {c : Code} {x : Wx} {al : Nat → Nat → Nat} {lv : Nat → Bool} {res : Int32 × Sg} (hC : Cx x p s m args meth c cX11_warm 3 (some .int) RX11) (σ : Sg) (v1 : Int32) (v2 : Int32) (H : Heap) (locs : List Loc) (ls : Array Slot) (h : fI_warm_0 σ v1 v2 = some res) (hP : Pic x al lv σ H) (hS : va_S (Ab x) s.heap H locs) (hl : lv_has ls 3 [(0, .ref (al 6 0)), (1, .int v1), (2, .int v2)]) : W p l e (rmm 3 0 0) s m args below meth c H locs 0 0 (MQ below (QI x al lv res) args s 0 0 (Ab x)) (F0 m 0 ls []) := by
  obtain ⟨hx, hb, hml, hown, hts⟩ := hC.1
  unfold fI_warm_0 at h
  refine lv_iload_n hx hb dX11_warm_0 rfl (lv_at hl 1 rfl) ?_
  refine lv_iconst (v := 0) hx hb dX11_warm_1 (by decide) ?_
  refine lv_sipush (v := 199) hx hb dX11_warm_2 (by decide) ?_
  refine r_cP hS h (fun r hr => r_runS (As := [.int v1, .int 0, .int 199]) (rest := []) hC kS_X11_68 cw_X11_within hP (tI_within x al lv σ v1 0 199 r hr) rfl hl.1 ⟨Nat.le_of_ble_eq_true rfl, Nat.le_of_ble_eq_true rfl⟩ ⟨Nat.le_of_ble_eq_true rfl, Nat.le_of_ble_eq_true rfl⟩ (Nat.le_of_ble_eq_true rfl) dX11_warm_5) (fun y1 H locs h hP hS => ?_)
  refine lv_if_ne (tgt := 17) hx hb dX11_warm_8 (by decide) (fun hc => ?_) (fun hc => ?_)
  · replace h := (br h).2 hc
    refine lv_aload_n hx hb dX11_warm_17 rfl (lv_at hl 0 rfl) ?_
    refine lv_aload_n hx hb dX11_warm_18 rfl (lv_at hl 0 rfl) ?_
    refine gt_X11_1 hC hP wf_X11_19 dX11_warm_19 ?_
    refine lv_iload_n hx hb dX11_warm_22 rfl (lv_at hl 1 rfl) ?_
    refine lv_iload_n hx hb dX11_warm_23 rfl (lv_at hl 2 rfl) ?_
    refine r_cI hS h (fun r hr => r_runV (As := [.int v1, .int v2]) (rest := [.ref (al 6 0)]) hC kV_X11_194 cw_X2_tell (rc_X2 hC hP) hP (tCalendar_tell x al lv σ v1 v2 r hr) rfl hl.1 ⟨Nat.le_of_ble_eq_true rfl, Nat.le_of_ble_eq_true rfl⟩ ⟨Nat.le_of_ble_eq_true rfl, Nat.le_of_ble_eq_true rfl⟩ (Nat.le_of_ble_eq_true rfl) dX11_warm_24) (fun y2 σ3 H locs h hP hS => ?_)
    refine lv_if_eq (tgt := 34) hx hb dX11_warm_27 (by decide) (fun hc => ?_) (fun hc => ?_)
    · replace h := (br h).1 hc
      refine lv_iconst (v := (-1)) hx hb dX11_warm_34 (by decide) ?_
      exact wI_warm_35  hC  σ3 ((-1)) H locs ls h hP hS (lv_sub hl [] rfl)
    · replace h := (br h).2 hc
      refine lv_iconst (v := 0) hx hb dX11_warm_30 (by decide) ?_
      refine lv_goto (tgt := 35) hx hb dX11_warm_31 (by decide) ?_
      exact wI_warm_35  hC  σ3 0 H locs ls h hP hS (lv_sub hl [] rfl)
  · replace h := (br h).1 hc
    refine lv_aload_n hx hb dX11_warm_11 rfl (lv_at hl 0 rfl) ?_
    refine lv_iconst (v := (-1)) hx hb dX11_warm_12 (by decide) ?_
    refine r_cI hS h (fun r hr => r_runV (As := [.int ((-1))]) (rest := []) hC kV_X11_72 cw_X11_answer (rc_X11 hC hP) hP (tI_answer x al lv σ ((-1)) r hr) rfl hl.1 ⟨Nat.le_of_ble_eq_true rfl, Nat.le_of_ble_eq_true rfl⟩ ⟨Nat.le_of_ble_eq_true rfl, Nat.le_of_ble_eq_true rfl⟩ (Nat.le_of_ble_eq_true rfl) dX11_warm_13) (fun y4 σ5 H locs h hP hS => ?_)
    exact r_retI hC hP hS rfl h dX11_warm_16

set_option maxRecDepth 20000 in
theorem tI_warm {l : Launch} (x : Wx) (al : Nat → Nat → Nat) (lv : Nat → Bool) (σ : Sg) (v1 : Int32) (v2 : Int32) (res : Int32 × Sg) (h : fI_warm σ v1 v2 = some res) : Met l yX11_warm (Cond.code yX11_warm cX11_warm 3 (some .int) :: lwg) (rmm 3 0 0) (va_Pc [.ref (al 6 0), .int v1, .int v2] (Wd x al lv σ)) (QI x al lv res) 0 0 (Ab x) := by
  refine met_W (by decide) (Nat.le_of_ble_eq_true rfl) rfl (fun p e s m args below meth c ls hC hP hS hl => ?_)
  exact wI_warm_0  hC σ v1 v2 _ _ ls h hP hS hl
set_option maxHeartbeats 4000000 in
set_option maxRecDepth 20000 in
theorem wI_tenths_0 {p : Program} {l : Launch} {e : Env} {s : State} {m : MethodId} {args : Array Value} {below : List Frame} {meth : Method} {c : Code} {x : Wx} {al : Nat → Nat → Nat} {lv : Nat → Bool} {res : Int32} {σ : Sg} (hC : Cx x p s m args meth c cX11_tenths 2 (some .int) RX11) (v1 : Int32) (H : Heap) (locs : List Loc) (ls : Array Slot) (h : fI_tenths_0 σ v1 = some res) (hP : Pic x al lv σ H) (hS : va_S (Ab x) s.heap H locs) (hl : lv_has ls 2 [(0, .ref (al 6 0)), (1, .int v1)]) : W p l e (rmm 3 0 0) s m args below meth c H locs 0 0 (MQ below (QP x al lv σ res) args s 0 0 (Ab x)) (F0 m 0 ls []) := by
  obtain ⟨hx, hb, hml, hown, hts⟩ := hC.1
  unfold fI_tenths_0 at h
  refine lv_iload_n hx hb dX11_tenths_0 rfl (lv_at hl 1 rfl) ?_
  refine lv_iconst (v := 0) hx hb dX11_tenths_1 (by decide) ?_
  refine lv_sipush (v := 199) hx hb dX11_tenths_2 (by decide) ?_
  refine r_cP hS h (fun r hr => r_runS (As := [.int v1, .int 0, .int 199]) (rest := []) hC kS_X11_68 cw_X11_within hP (tI_within x al lv σ v1 0 199 r hr) rfl hl.1 ⟨Nat.le_of_ble_eq_true rfl, Nat.le_of_ble_eq_true rfl⟩ ⟨Nat.le_of_ble_eq_true rfl, Nat.le_of_ble_eq_true rfl⟩ (Nat.le_of_ble_eq_true rfl) dX11_tenths_5) (fun y1 H locs h hP hS => ?_)
  refine lv_if_eq (tgt := 22) hx hb dX11_tenths_8 (by decide) (fun hc => ?_) (fun hc => ?_)
  · replace h := (br h).1 hc
    refine lv_sipush (v := (-1000)) hx hb dX11_tenths_22 (by decide) ?_
    exact r_retP hC hP hS rfl h dX11_tenths_25
  · replace h := (br h).2 hc
    refine lv_aload_n hx hb dX11_tenths_11 rfl (lv_at hl 0 rfl) ?_
    refine gt_X11_1 hC hP wf_X11_19 dX11_tenths_12 ?_
    refine lv_iload_n hx hb dX11_tenths_15 rfl (lv_at hl 1 rfl) ?_
    refine r_cP hS h (fun r hr => r_runV (As := [.int v1]) (rest := []) hC kV_X11_197 cw_X2_tenthsOf (rc_X2 hC hP) hP (tCalendar_tenthsOf x al lv σ v1 r hr) rfl hl.1 ⟨Nat.le_of_ble_eq_true rfl, Nat.le_of_ble_eq_true rfl⟩ ⟨Nat.le_of_ble_eq_true rfl, Nat.le_of_ble_eq_true rfl⟩ (Nat.le_of_ble_eq_true rfl) dX11_tenths_16) (fun y2 H locs h hP hS => ?_)
    refine lv_goto (tgt := 25) hx hb dX11_tenths_19 (by decide) ?_
    exact r_retP hC hP hS rfl h dX11_tenths_25

set_option maxRecDepth 20000 in
theorem tI_tenths {l : Launch} (x : Wx) (al : Nat → Nat → Nat) (lv : Nat → Bool) (σ : Sg) (v1 : Int32) (res : Int32) (h : fI_tenths σ v1 = some res) : Met l yX11_tenths (Cond.code yX11_tenths cX11_tenths 2 (some .int) :: lwg) (rmm 3 0 0) (va_Pc [.ref (al 6 0), .int v1] (Wd x al lv σ)) (QP x al lv σ res) 0 0 (Ab x) := by
  refine met_W (by decide) (Nat.le_of_ble_eq_true rfl) rfl (fun p e s m args below meth c ls hC hP hS hl => ?_)
  exact wI_tenths_0  hC v1 _ _ ls h hP hS hl
set_option maxHeartbeats 4000000 in
set_option maxRecDepth 20000 in
theorem wI_terms_31 {p : Program} {l : Launch} {e : Env} {s : State} {m : MethodId} {args : Array Value} {below : List Frame} {meth : Method} {c : Code} {x : Wx} {al : Nat → Nat → Nat} {lv : Nat → Bool} {res : Int32 × Sg} (hC : Cx x p s m args meth c cX11_terms 4 (some .int) RX11) (σ : Sg) (H : Heap) (locs : List Loc) (ls : Array Slot) (h : fI_terms_31 σ = some res) (hP : Pic x al lv σ H) (hS : va_S (Ab x) s.heap H locs) (hl : lv_has ls 4 [(0, .ref (al 6 0))]) : W p l e (rmm 2 0 0) s m args below meth c H locs 0 0 (MQ below (QI x al lv res) args s 0 0 (Ab x)) (F0 m 31 ls []) := by
  obtain ⟨hx, hb, hml, hown, hts⟩ := hC.1
  unfold fI_terms_31 at h
  refine lv_aload_n hx hb dX11_terms_31 rfl (lv_at hl 0 rfl) ?_
  refine lv_iconst (v := (-1)) hx hb dX11_terms_32 (by decide) ?_
  refine r_cI hS h (fun r hr => r_runV (As := [.int ((-1))]) (rest := []) hC kV_X11_72 cw_X11_answer (rc_X11 hC hP) hP (tI_answer x al lv σ ((-1)) r hr) rfl hl.1 ⟨Nat.le_of_ble_eq_true rfl, Nat.le_of_ble_eq_true rfl⟩ ⟨Nat.le_of_ble_eq_true rfl, Nat.le_of_ble_eq_true rfl⟩ (Nat.le_of_ble_eq_true rfl) dX11_terms_33) (fun y9 σ10 H locs h hP hS => ?_)
  exact r_retI hC hP hS rfl h dX11_terms_36

set_option maxHeartbeats 4000000 in
set_option maxRecDepth 20000 in
theorem wI_terms_0 {p : Program} {l : Launch} {e : Env} {s : State} {m : MethodId} {args : Array Value} {below : List Frame} {meth : Method} {c : Code} {x : Wx} {al : Nat → Nat → Nat} {lv : Nat → Bool} {res : Int32 × Sg} (hC : Cx x p s m args meth c cX11_terms 4 (some .int) RX11) (σ : Sg) (v1 : Int32) (v2 : Int32) (v3 : Int32) (H : Heap) (locs : List Loc) (ls : Array Slot) (h : fI_terms_0 σ v1 v2 v3 = some res) (hP : Pic x al lv σ H) (hS : va_S (Ab x) s.heap H locs) (hl : lv_has ls 4 [(0, .ref (al 6 0)), (1, .int v1), (2, .int v2), (3, .int v3)]) : W p l e (rmm 2 0 0) s m args below meth c H locs 0 0 (MQ below (QI x al lv res) args s 0 0 (Ab x)) (F0 m 0 ls []) := by
  obtain ⟨hx, hb, hml, hown, hts⟩ := hC.1
  unfold fI_terms_0 at h
  refine lv_iload_n hx hb dX11_terms_0 rfl (lv_at hl 1 rfl) ?_
  refine lv_iconst (v := 0) hx hb dX11_terms_1 (by decide) ?_
  refine lv_bipush (v := 100) hx hb dX11_terms_2 (by decide) ?_
  refine r_cP hS h (fun r hr => r_runS (As := [.int v1, .int 0, .int 100]) (rest := []) hC kS_X11_68 cw_X11_within hP (tI_within x al lv σ v1 0 100 r hr) rfl hl.1 ⟨Nat.le_of_ble_eq_true rfl, Nat.le_of_ble_eq_true rfl⟩ ⟨Nat.le_of_ble_eq_true rfl, Nat.le_of_ble_eq_true rfl⟩ (Nat.le_of_ble_eq_true rfl) dX11_terms_4) (fun y1 H locs h hP hS => ?_)
  refine lv_if_eq (tgt := 31) hx hb dX11_terms_7 (by decide) (fun hc => ?_) (fun hc => ?_)
  · replace h := (br h).1 hc
    exact wI_terms_31  hC  σ H locs ls h hP hS (lv_sub hl [0] rfl)
  · replace h := (br h).2 hc
    refine lv_iload_n hx hb dX11_terms_10 rfl (lv_at hl 2 rfl) ?_
    refine lv_iconst (v := 0) hx hb dX11_terms_11 (by decide) ?_
    refine lv_sipush (v := 10000) hx hb dX11_terms_12 (by decide) ?_
    refine r_cP hS h (fun r hr => r_runS (As := [.int v2, .int 0, .int 10000]) (rest := []) hC kS_X11_68 cw_X11_within hP (tI_within x al lv σ v2 0 10000 r hr) rfl hl.1 ⟨Nat.le_of_ble_eq_true rfl, Nat.le_of_ble_eq_true rfl⟩ ⟨Nat.le_of_ble_eq_true rfl, Nat.le_of_ble_eq_true rfl⟩ (Nat.le_of_ble_eq_true rfl) dX11_terms_15) (fun y2 H locs h hP hS => ?_)
    refine lv_if_eq (tgt := 31) hx hb dX11_terms_18 (by decide) (fun hc => ?_) (fun hc => ?_)
    · replace h := (br h).1 hc
      exact wI_terms_31  hC  σ H locs ls h hP hS (lv_sub hl [0] rfl)
    · replace h := (br h).2 hc
      refine lv_iload_n hx hb dX11_terms_21 rfl (lv_at hl 3 rfl) ?_
      refine lv_iconst (v := 1) hx hb dX11_terms_22 (by decide) ?_
      refine lv_ldc hx hb hown (hts _ wk_X11_200) dX11_terms_23 ?_
      refine r_cP hS h (fun r hr => r_runS (As := [.int v3, .int 1, .int 1000000]) (rest := []) hC kS_X11_68 cw_X11_within hP (tI_within x al lv σ v3 1 1000000 r hr) rfl hl.1 ⟨Nat.le_of_ble_eq_true rfl, Nat.le_of_ble_eq_true rfl⟩ ⟨Nat.le_of_ble_eq_true rfl, Nat.le_of_ble_eq_true rfl⟩ (Nat.le_of_ble_eq_true rfl) dX11_terms_25) (fun y3 H locs h hP hS => ?_)
      refine lv_if_ne (tgt := 37) hx hb dX11_terms_28 (by decide) (fun hc => ?_) (fun hc => ?_)
      · replace h := (br h).2 hc
        refine lv_aload_n hx hb dX11_terms_37 rfl (lv_at hl 0 rfl) ?_
        refine gt_X11_2 hC hP wf_X11_26 dX11_terms_38 ?_
        refine lv_iload_n hx hb dX11_terms_41 rfl (lv_at hl 1 rfl) ?_
        refine pt_X6_0 hC hP hS wf_X11_201 h dX11_terms_42 (fun σ4 H locs h hP hS => ?_)
        refine lv_aload_n hx hb dX11_terms_45 rfl (lv_at hl 0 rfl) ?_
        refine gt_X11_2 hC hP wf_X11_26 dX11_terms_46 ?_
        refine lv_iload_n hx hb dX11_terms_49 rfl (lv_at hl 2 rfl) ?_
        refine pt_X6_1 hC hP hS wf_X11_204 h dX11_terms_50 (fun σ5 H locs h hP hS => ?_)
        refine lv_aload_n hx hb dX11_terms_53 rfl (lv_at hl 0 rfl) ?_
        refine gt_X11_2 hC hP wf_X11_26 dX11_terms_54 ?_
        refine lv_iload_n hx hb dX11_terms_57 rfl (lv_at hl 3 rfl) ?_
        refine pt_X6_2 hC hP hS wf_X11_207 h dX11_terms_58 (fun σ6 H locs h hP hS => ?_)
        refine lv_aload_n hx hb dX11_terms_61 rfl (lv_at hl 0 rfl) ?_
        refine lv_iconst (v := 0) hx hb dX11_terms_62 (by decide) ?_
        refine r_cI hS h (fun r hr => r_runV (As := [.int 0]) (rest := []) hC kV_X11_72 cw_X11_answer (rc_X11 hC hP) hP (tI_answer x al lv σ6 0 r hr) rfl hl.1 ⟨Nat.le_of_ble_eq_true rfl, Nat.le_of_ble_eq_true rfl⟩ ⟨Nat.le_of_ble_eq_true rfl, Nat.le_of_ble_eq_true rfl⟩ (Nat.le_of_ble_eq_true rfl) dX11_terms_63) (fun y7 σ8 H locs h hP hS => ?_)
        exact r_retI hC hP hS rfl h dX11_terms_66
      · replace h := (br h).1 hc
        exact wI_terms_31  hC  σ H locs ls h hP hS (lv_sub hl [0] rfl)

set_option maxRecDepth 20000 in
theorem tI_terms {l : Launch} (x : Wx) (al : Nat → Nat → Nat) (lv : Nat → Bool) (σ : Sg) (v1 : Int32) (v2 : Int32) (v3 : Int32) (res : Int32 × Sg) (h : fI_terms σ v1 v2 v3 = some res) : Met l yX11_terms (Cond.code yX11_terms cX11_terms 4 (some .int) :: lwg) (rmm 2 0 0) (va_Pc [.ref (al 6 0), .int v1, .int v2, .int v3] (Wd x al lv σ)) (QI x al lv res) 0 0 (Ab x) := by
  refine met_W (by decide) (Nat.le_of_ble_eq_true rfl) rfl (fun p e s m args below meth c ls hC hP hS hl => ?_)
  exact wI_terms_0  hC σ v1 v2 v3 _ _ ls h hP hS hl
set_option maxHeartbeats 4000000 in
set_option maxRecDepth 20000 in
theorem wI_count_0 {p : Program} {l : Launch} {e : Env} {s : State} {m : MethodId} {args : Array Value} {below : List Frame} {meth : Method} {c : Code} {x : Wx} {al : Nat → Nat → Nat} {lv : Nat → Bool} {res : Int32} {σ : Sg} (hC : Cx x p s m args meth c cX11_count 2 (some .int) RX11) (v1 : Int32) (H : Heap) (locs : List Loc) (ls : Array Slot) (h : fI_count_0 lv σ v1 = some res) (hP : Pic x al lv σ H) (hS : va_S (Ab x) s.heap H locs) (hl : lv_has ls 2 [(0, .ref (al 6 0)), (1, .int v1)]) : W p l e (rmm 3 0 0) s m args below meth c H locs 0 0 (MQ below (QP x al lv σ res) args s 0 0 (Ab x)) (F0 m 0 ls []) := by
  obtain ⟨hx, hb, hml, hown, hts⟩ := hC.1
  unfold fI_count_0 at h
  refine lv_iload_n hx hb dX11_count_0 rfl (lv_at hl 1 rfl) ?_
  refine Classical.byCases (p := v1 = 0) (fun hc => ?_) (fun n0 => ?_)
  · skip
    replace h := (br h).1 hc
    rw [hc]
    refine lv_tableIn (off := 79) (tgt := 80) hx hb dX11_count_1 (by decide) (by decide) rfl (by decide) ?_
    refine lv_aload_n hx hb dX11_count_80 rfl (lv_at hl 0 rfl) ?_
    refine gt_X11_0 hC hP wf_X11_12 dX11_count_81 ?_
    refine gt_X10_0 (a := 0) h06 hP.l0 hC hP wf_X11_210 dX11_count_84 ?_
    exact r_retP hC hP hS rfl h dX11_count_87
  · skip
    replace h := (br h).2 n0
    refine Classical.byCases (p := v1 = 1) (fun hc => ?_) (fun n1 => ?_)
    · skip
      replace h := (br h).1 hc
      rw [hc]
      refine lv_tableIn (off := 87) (tgt := 88) hx hb dX11_count_1 (by decide) (by decide) rfl (by decide) ?_
      refine lv_aload_n hx hb dX11_count_88 rfl (lv_at hl 0 rfl) ?_
      refine gt_X11_0 hC hP wf_X11_12 dX11_count_89 ?_
      refine gt_X10_1 (a := 0) h06 hP.l0 hC hP wf_X11_232 dX11_count_92 ?_
      exact r_retP hC hP hS rfl h dX11_count_95
    · skip
      replace h := (br h).2 n1
      refine Classical.byCases (p := v1 = 2) (fun hc => ?_) (fun n2 => ?_)
      · skip
        replace h := (br h).1 hc
        rw [hc]
        refine lv_tableIn (off := 95) (tgt := 96) hx hb dX11_count_1 (by decide) (by decide) rfl (by decide) ?_
        refine lv_aload_n hx hb dX11_count_96 rfl (lv_at hl 0 rfl) ?_
        refine gt_X11_0 hC hP wf_X11_12 dX11_count_97 ?_
        refine r_cP hS h (fun r hr => r_runV (As := []) (rest := []) hC kV_X11_235 cw_X10_gramsInRooms (rc_X10 (a := 0) h06 hP.l0 hC hP) hP (tStore_gramsInRooms x al lv σ 0 h06 hP.l0 r hr) rfl hl.1 ⟨Nat.le_of_ble_eq_true rfl, Nat.le_of_ble_eq_true rfl⟩ ⟨Nat.le_of_ble_eq_true rfl, Nat.le_of_ble_eq_true rfl⟩ (Nat.le_of_ble_eq_true rfl) dX11_count_100) (fun y1 H locs h hP hS => ?_)
        exact r_retP hC hP hS rfl h dX11_count_103
      · skip
        replace h := (br h).2 n2
        refine Classical.byCases (p := v1 = 3) (fun hc => ?_) (fun n3 => ?_)
        · skip
          replace h := (br h).1 hc
          rw [hc]
          refine lv_tableIn (off := 103) (tgt := 104) hx hb dX11_count_1 (by decide) (by decide) rfl (by decide) ?_
          refine lv_aload_n hx hb dX11_count_104 rfl (lv_at hl 0 rfl) ?_
          refine gt_X11_0 hC hP wf_X11_12 dX11_count_105 ?_
          refine gt_X10_2 (a := 0) h06 hP.l0 hC hP wf_X11_238 dX11_count_108 ?_
          exact r_retP hC hP hS rfl h dX11_count_111
        · skip
          replace h := (br h).2 n3
          refine Classical.byCases (p := v1 = 4) (fun hc => ?_) (fun n4 => ?_)
          · skip
            replace h := (br h).1 hc
            rw [hc]
            refine lv_tableIn (off := 111) (tgt := 112) hx hb dX11_count_1 (by decide) (by decide) rfl (by decide) ?_
            refine lv_aload_n hx hb dX11_count_112 rfl (lv_at hl 0 rfl) ?_
            refine gt_X11_0 hC hP wf_X11_12 dX11_count_113 ?_
            refine gt_X10_3 (a := 0) h06 hP.l0 hC hP wf_X11_241 dX11_count_116 ?_
            exact r_retP hC hP hS rfl h dX11_count_119
          · skip
            replace h := (br h).2 n4
            refine Classical.byCases (p := v1 = 5) (fun hc => ?_) (fun n5 => ?_)
            · skip
              replace h := (br h).1 hc
              rw [hc]
              refine lv_tableIn (off := 119) (tgt := 120) hx hb dX11_count_1 (by decide) (by decide) rfl (by decide) ?_
              refine lv_aload_n hx hb dX11_count_120 rfl (lv_at hl 0 rfl) ?_
              refine gt_X11_0 hC hP wf_X11_12 dX11_count_121 ?_
              refine gt_X10_4 (a := 0) h06 hP.l0 hC hP wf_X11_244 dX11_count_124 ?_
              exact r_retP hC hP hS rfl h dX11_count_127
            · skip
              replace h := (br h).2 n5
              refine Classical.byCases (p := v1 = 6) (fun hc => ?_) (fun n6 => ?_)
              · skip
                replace h := (br h).1 hc
                rw [hc]
                refine lv_tableIn (off := 127) (tgt := 128) hx hb dX11_count_1 (by decide) (by decide) rfl (by decide) ?_
                refine lv_aload_n hx hb dX11_count_128 rfl (lv_at hl 0 rfl) ?_
                refine gt_X11_0 hC hP wf_X11_12 dX11_count_129 ?_
                refine gt_X10_5 (a := 0) h06 hP.l0 hC hP wf_X11_58 dX11_count_132 ?_
                refine r_cP hS h (fun r hr => r_runV (As := []) (rest := []) hC kV_X11_247 cw_X8_ledInAll (rc_X8 (a := 0) h06 hP.l0 hC hP) hP (tRooms_ledInAll x al lv σ 0 h06 hP.l0 r hr) rfl hl.1 ⟨Nat.le_of_ble_eq_true rfl, Nat.le_of_ble_eq_true rfl⟩ ⟨Nat.le_of_ble_eq_true rfl, Nat.le_of_ble_eq_true rfl⟩ (Nat.le_of_ble_eq_true rfl) dX11_count_135) (fun y2 H locs h hP hS => ?_)
                exact r_retP hC hP hS rfl h dX11_count_138
              · skip
                replace h := (br h).2 n6
                refine Classical.byCases (p := v1 = 7) (fun hc => ?_) (fun n7 => ?_)
                · skip
                  replace h := (br h).1 hc
                  rw [hc]
                  refine lv_tableIn (off := 138) (tgt := 139) hx hb dX11_count_1 (by decide) (by decide) rfl (by decide) ?_
                  refine lv_aload_n hx hb dX11_count_139 rfl (lv_at hl 0 rfl) ?_
                  refine gt_X11_0 hC hP wf_X11_12 dX11_count_140 ?_
                  refine gt_X10_5 (a := 0) h06 hP.l0 hC hP wf_X11_58 dX11_count_143 ?_
                  refine r_cP hS h (fun r hr => r_runV (As := []) (rest := []) hC kV_X11_250 cw_X8_standingInAll (rc_X8 (a := 0) h06 hP.l0 hC hP) hP (tRooms_standingInAll x al lv σ 0 h06 hP.l0 r hr) rfl hl.1 ⟨Nat.le_of_ble_eq_true rfl, Nat.le_of_ble_eq_true rfl⟩ ⟨Nat.le_of_ble_eq_true rfl, Nat.le_of_ble_eq_true rfl⟩ (Nat.le_of_ble_eq_true rfl) dX11_count_146) (fun y3 H locs h hP hS => ?_)
                  exact r_retP hC hP hS rfl h dX11_count_149
                · skip
                  replace h := (br h).2 n7
                  refine Classical.byCases (p := v1 = 8) (fun hc => ?_) (fun n8 => ?_)
                  · skip
                    replace h := (br h).1 hc
                    rw [hc]
                    refine lv_tableIn (off := 149) (tgt := 150) hx hb dX11_count_1 (by decide) (by decide) rfl (by decide) ?_
                    refine lv_aload_n hx hb dX11_count_150 rfl (lv_at hl 0 rfl) ?_
                    refine gt_X11_0 hC hP wf_X11_12 dX11_count_151 ?_
                    refine gt_X10_6 (a := 0) h06 hP.l0 hC hP wf_X11_147 dX11_count_154 ?_
                    refine gt_X0_0 (a := 0) h06 hP.l0 hC hP wf_X11_151 dX11_count_157 ?_
                    exact r_retP hC hP hS rfl h dX11_count_160
                  · skip
                    replace h := (br h).2 n8
                    refine Classical.byCases (p := v1 = 9) (fun hc => ?_) (fun n9 => ?_)
                    · skip
                      replace h := (br h).1 hc
                      rw [hc]
                      refine lv_tableIn (off := 160) (tgt := 161) hx hb dX11_count_1 (by decide) (by decide) rfl (by decide) ?_
                      refine lv_aload_n hx hb dX11_count_161 rfl (lv_at hl 0 rfl) ?_
                      refine gt_X11_0 hC hP wf_X11_12 dX11_count_162 ?_
                      refine r_cP hS h (fun r hr => r_runV (As := []) (rest := []) hC kV_X11_253 cw_X10_blocksInRooms (rc_X10 (a := 0) h06 hP.l0 hC hP) hP (tStore_blocksInRooms x al lv σ 0 h06 hP.l0 r hr) rfl hl.1 ⟨Nat.le_of_ble_eq_true rfl, Nat.le_of_ble_eq_true rfl⟩ ⟨Nat.le_of_ble_eq_true rfl, Nat.le_of_ble_eq_true rfl⟩ (Nat.le_of_ble_eq_true rfl) dX11_count_165) (fun y4 H locs h hP hS => ?_)
                      exact r_retP hC hP hS rfl h dX11_count_168
                    · skip
                      replace h := (br h).2 n9
                      refine Classical.byCases (p := v1 = 10) (fun hc => ?_) (fun n10 => ?_)
                      · skip
                        replace h := (br h).1 hc
                        rw [hc]
                        refine lv_tableIn (off := 168) (tgt := 169) hx hb dX11_count_1 (by decide) (by decide) rfl (by decide) ?_
                        refine lv_aload_n hx hb dX11_count_169 rfl (lv_at hl 0 rfl) ?_
                        refine gt_X11_0 hC hP wf_X11_12 dX11_count_170 ?_
                        refine gt_X10_5 (a := 0) h06 hP.l0 hC hP wf_X11_58 dX11_count_173 ?_
                        refine gt_X8_0 (a := 0) h06 hP.l0 hC hP wf_X11_76 dX11_count_176 ?_
                        exact r_retP hC hP hS rfl h dX11_count_179
                      · skip
                        replace h := (br h).2 n10
                        refine Classical.byCases (p := v1 = 11) (fun hc => ?_) (fun n11 => ?_)
                        · skip
                          replace h := (br h).1 hc
                          rw [hc]
                          refine lv_tableIn (off := 179) (tgt := 180) hx hb dX11_count_1 (by decide) (by decide) rfl (by decide) ?_
                          refine lv_aload_n hx hb dX11_count_180 rfl (lv_at hl 0 rfl) ?_
                          refine gt_X11_3 hC hP wf_X11_33 dX11_count_181 ?_
                          refine gt_X5_0 hC hP wf_X11_256 dX11_count_184 ?_
                          exact r_retP hC hP hS rfl h dX11_count_187
                        · skip
                          replace h := (br h).2 n11
                          refine Classical.byCases (p := v1 = 12) (fun hc => ?_) (fun n12 => ?_)
                          · skip
                            replace h := (br h).1 hc
                            rw [hc]
                            refine lv_tableIn (off := 187) (tgt := 188) hx hb dX11_count_1 (by decide) (by decide) rfl (by decide) ?_
                            refine lv_aload_n hx hb dX11_count_188 rfl (lv_at hl 0 rfl) ?_
                            refine gt_X11_3 hC hP wf_X11_33 dX11_count_189 ?_
                            refine r_cP hS h (fun r hr => r_runV (As := []) (rest := []) hC kV_X11_259 cw_X5_daysInAll (rc_X5 hC hP) hP (tJourney_daysInAll x al lv σ  r hr) rfl hl.1 ⟨Nat.le_of_ble_eq_true rfl, Nat.le_of_ble_eq_true rfl⟩ ⟨Nat.le_of_ble_eq_true rfl, Nat.le_of_ble_eq_true rfl⟩ (Nat.le_of_ble_eq_true rfl) dX11_count_192) (fun y5 H locs h hP hS => ?_)
                            exact r_retP hC hP hS rfl h dX11_count_195
                          · skip
                            replace h := (br h).2 n12
                            refine Classical.byCases (p := v1 = 13) (fun hc => ?_) (fun n13 => ?_)
                            · skip
                              replace h := (br h).1 hc
                              rw [hc]
                              refine lv_tableIn (off := 195) (tgt := 196) hx hb dX11_count_1 (by decide) (by decide) rfl (by decide) ?_
                              refine lv_aload_n hx hb dX11_count_196 rfl (lv_at hl 0 rfl) ?_
                              refine gt_X11_17 hC hP wf_X11_213 dX11_count_197 ?_
                              refine r_ifnn (tgt := 207) hC h dX11_count_200 (by decide) (fun hq6 h => ?_) (fun hq6f h => ?_)
                              · refine lv_aload_n hx hb dX11_count_207 rfl (lv_at hl 0 rfl) ?_
                                refine gt_X11_17 hC hP wf_X11_213 dX11_count_208 ?_
                                refine r_nn hq6 ?_
                                refine gt_X1_0 hq6 hC hP wf_X11_262 dX11_count_211 ?_
                                exact r_retP hC hP hS rfl h dX11_count_214
                              · refine lv_iconst (v := 0) hx hb dX11_count_203 (by decide) ?_
                                refine lv_goto (tgt := 214) hx hb dX11_count_204 (by decide) ?_
                                exact r_retP hC hP hS rfl h dX11_count_214
                            · skip
                              replace h := (br h).2 n13
                              refine Classical.byCases (p := v1 = 14) (fun hc => ?_) (fun n14 => ?_)
                              · skip
                                replace h := (br h).1 hc
                                rw [hc]
                                refine lv_tableIn (off := 214) (tgt := 215) hx hb dX11_count_1 (by decide) (by decide) rfl (by decide) ?_
                                refine lv_aload_n hx hb dX11_count_215 rfl (lv_at hl 0 rfl) ?_
                                refine gt_X11_4 hC hP wf_X11_40 dX11_count_216 ?_
                                refine gt_X4_0 hC hP wf_X11_265 dX11_count_219 ?_
                                exact r_retP hC hP hS rfl h dX11_count_222
                              · skip
                                replace h := (br h).2 n14
                                refine Classical.byCases (p := v1 = 15) (fun hc => ?_) (fun n15 => ?_)
                                · skip
                                  replace h := (br h).1 hc
                                  rw [hc]
                                  refine lv_tableIn (off := 222) (tgt := 223) hx hb dX11_count_1 (by decide) (by decide) rfl (by decide) ?_
                                  refine lv_aload_n hx hb dX11_count_223 rfl (lv_at hl 0 rfl) ?_
                                  refine gt_X11_10 hC hP wf_X11_266 dX11_count_224 ?_
                                  exact r_retP hC hP hS rfl h dX11_count_227
                                · skip
                                  replace h := (br h).2 n15
                                  have m0 := lv_neT (a := 0) n0 rfl
                                  have m1 := lv_neT (a := 1) n1 rfl
                                  have m2 := lv_neT (a := 2) n2 rfl
                                  have m3 := lv_neT (a := 3) n3 rfl
                                  have m4 := lv_neT (a := 4) n4 rfl
                                  have m5 := lv_neT (a := 5) n5 rfl
                                  have m6 := lv_neT (a := 6) n6 rfl
                                  have m7 := lv_neT (a := 7) n7 rfl
                                  have m8 := lv_neT (a := 8) n8 rfl
                                  have m9 := lv_neT (a := 9) n9 rfl
                                  have m10 := lv_neT (a := 10) n10 rfl
                                  have m11 := lv_neT (a := 11) n11 rfl
                                  have m12 := lv_neT (a := 12) n12 rfl
                                  have m13 := lv_neT (a := 13) n13 rfl
                                  have m14 := lv_neT (a := 14) n14 rfl
                                  have m15 := lv_neT (a := 15) n15 rfl
                                  refine lv_tableOut (tgt := 228) hx hb dX11_count_1 (by omega) (by decide) ?_
                                  refine lv_iconst (v := (-1)) hx hb dX11_count_228 (by decide) ?_
                                  exact r_retP hC hP hS rfl h dX11_count_229

set_option maxRecDepth 20000 in
theorem tI_count {l : Launch} (x : Wx) (al : Nat → Nat → Nat) (lv : Nat → Bool) (σ : Sg) (v1 : Int32) (res : Int32) (h : fI_count lv σ v1 = some res) : Met l yX11_count (Cond.code yX11_count cX11_count 2 (some .int) :: lwg) (rmm 3 0 0) (va_Pc [.ref (al 6 0), .int v1] (Wd x al lv σ)) (QP x al lv σ res) 0 0 (Ab x) := by
  refine met_W (by decide) (Nat.le_of_ble_eq_true rfl) rfl (fun p e s m args below meth c ls hC hP hS hl => ?_)
  exact wI_count_0  hC v1 _ _ ls h hP hS hl
set_option maxHeartbeats 4000000 in
set_option maxRecDepth 20000 in
theorem wI_next_0 {p : Program} {l : Launch} {e : Env} {s : State} {m : MethodId} {args : Array Value} {below : List Frame} {meth : Method} {c : Code} {x : Wx} {al : Nat → Nat → Nat} {lv : Nat → Bool} {res : Int32 × Sg} (hC : Cx x p s m args meth c cX11_next 2 (some .int) RX11) (σ : Sg) (v1 : Int32) (H : Heap) (locs : List Loc) (ls : Array Slot) (h : fI_next_0 σ v1 = some res) (hP : Pic x al lv σ H) (hS : va_S (Ab x) s.heap H locs) (hl : lv_has ls 2 [(0, .ref (al 6 0)), (1, .int v1)]) : W p l e (rmm 5 0 0) s m args below meth c H locs 0 0 (MQ below (QI x al lv res) args s 0 0 (Ab x)) (F0 m 0 ls []) := by
  obtain ⟨hx, hb, hml, hown, hts⟩ := hC.1
  unfold fI_next_0 at h
  refine lv_aload_n hx hb dX11_next_0 rfl (lv_at hl 0 rfl) ?_
  refine gt_X11_0 hC hP wf_X11_12 dX11_next_1 ?_
  refine gt_X10_5 (a := 0) h06 hP.l0 hC hP wf_X11_58 dX11_next_4 ?_
  refine lv_iload_n hx hb dX11_next_7 rfl (lv_at hl 1 rfl) ?_
  refine r_cP hS h (fun r hr => r_runV (As := [.int v1]) (rest := []) hC kV_X11_62 cw_X8_has (rc_X8 (a := 0) h06 hP.l0 hC hP) hP (tRooms_has x al lv σ 0 h06 hP.l0 v1 r hr) rfl hl.1 ⟨Nat.le_of_ble_eq_true rfl, Nat.le_of_ble_eq_true rfl⟩ ⟨Nat.le_of_ble_eq_true rfl, Nat.le_of_ble_eq_true rfl⟩ (Nat.le_of_ble_eq_true rfl) dX11_next_8) (fun y1 H locs h hP hS => ?_)
  refine lv_if_eq (tgt := 33) hx hb dX11_next_11 (by decide) (fun hc => ?_) (fun hc => ?_)
  · replace h := (br h).1 hc
    refine lv_bipush (v := (-2)) hx hb dX11_next_33 (by decide) ?_
    exact r_retI hC hP hS rfl h dX11_next_35
  · replace h := (br h).2 hc
    refine lv_aload_n hx hb dX11_next_14 rfl (lv_at hl 0 rfl) ?_
    refine gt_X11_2 hC hP wf_X11_26 dX11_next_15 ?_
    refine lv_aload_n hx hb dX11_next_18 rfl (lv_at hl 0 rfl) ?_
    refine gt_X11_0 hC hP wf_X11_12 dX11_next_19 ?_
    refine lv_iload_n hx hb dX11_next_22 rfl (lv_at hl 1 rfl) ?_
    refine lv_aload_n hx hb dX11_next_23 rfl (lv_at hl 0 rfl) ?_
    refine r_cP hS h (fun r hr => r_runV (As := []) (rest := [.int v1, .ref (al 0 0), .ref (al 6 2)]) hC kV_X11_99 cw_X11_tenthsToday (rc_X11 hC hP) hP (tI_tenthsToday x al lv σ  r hr) rfl hl.1 ⟨Nat.le_of_ble_eq_true rfl, Nat.le_of_ble_eq_true rfl⟩ ⟨Nat.le_of_ble_eq_true rfl, Nat.le_of_ble_eq_true rfl⟩ (Nat.le_of_ble_eq_true rfl) dX11_next_24) (fun y2 H locs h hP hS => ?_)
    refine r_cI hS h (fun r hr => r_runV (As := [.ref (al 0 0), .int v1, .int y2]) (rest := []) hC kV_X11_269 cw_X6_nearest (rc_X6 hC hP) hP (tMelting_nearest x al lv σ 0 h06 hP.l0 v1 y2 r hr) rfl hl.1 ⟨Nat.le_of_ble_eq_true rfl, Nat.le_of_ble_eq_true rfl⟩ ⟨Nat.le_of_ble_eq_true rfl, Nat.le_of_ble_eq_true rfl⟩ (Nat.le_of_ble_eq_true rfl) dX11_next_27) (fun y3 σ4 H locs h hP hS => ?_)
    refine lv_goto (tgt := 35) hx hb dX11_next_30 (by decide) ?_
    exact r_retI hC hP hS rfl h dX11_next_35

set_option maxRecDepth 20000 in
theorem tI_next {l : Launch} (x : Wx) (al : Nat → Nat → Nat) (lv : Nat → Bool) (σ : Sg) (v1 : Int32) (res : Int32 × Sg) (h : fI_next σ v1 = some res) : Met l yX11_next (Cond.code yX11_next cX11_next 2 (some .int) :: lwg) (rmm 5 0 0) (va_Pc [.ref (al 6 0), .int v1] (Wd x al lv σ)) (QI x al lv res) 0 0 (Ab x) := by
  refine met_W (by decide) (Nat.le_of_ble_eq_true rfl) rfl (fun p e s m args below meth c ls hC hP hS hl => ?_)
  exact wI_next_0  hC σ v1 _ _ ls h hP hS hl
set_option maxHeartbeats 4000000 in
set_option maxRecDepth 20000 in
theorem wI_liftNext_0 {p : Program} {l : Launch} {e : Env} {s : State} {m : MethodId} {args : Array Value} {below : List Frame} {meth : Method} {c : Code} {x : Wx} {al : Nat → Nat → Nat} {lv : Nat → Bool} {res : Int32 × Sg} (hC : Cx x p s m args meth c cX11_liftNext 3 (some .boolean) RX11) (σ : Sg) (v1 : Int32) (H : Heap) (locs : List Loc) (ls : Array Slot) (h : fI_liftNext_0 σ v1 = some res) (hP : Pic x al lv σ H) (hS : va_S (Ab x) s.heap H locs) (hl : lv_has ls 3 [(0, .ref (al 6 0)), (1, .int v1)]) : W p l e (rmm 5 0 0) s m args below meth c H locs 0 0 (MQ below (QI x al lv res) args s 0 0 (Ab x)) (F0 m 0 ls []) := by
  obtain ⟨hx, hb, hml, hown, hts⟩ := hC.1
  unfold fI_liftNext_0 at h
  refine lv_aload_n hx hb dX11_liftNext_0 rfl (lv_at hl 0 rfl) ?_
  refine gt_X11_2 hC hP wf_X11_26 dX11_liftNext_1 ?_
  refine lv_aload_n hx hb dX11_liftNext_4 rfl (lv_at hl 0 rfl) ?_
  refine gt_X11_0 hC hP wf_X11_12 dX11_liftNext_5 ?_
  refine lv_iload_n hx hb dX11_liftNext_8 rfl (lv_at hl 1 rfl) ?_
  refine lv_aload_n hx hb dX11_liftNext_9 rfl (lv_at hl 0 rfl) ?_
  refine r_cP hS h (fun r hr => r_runV (As := []) (rest := [.int v1, .ref (al 0 0), .ref (al 6 2)]) hC kV_X11_99 cw_X11_tenthsToday (rc_X11 hC hP) hP (tI_tenthsToday x al lv σ  r hr) rfl hl.1 ⟨Nat.le_of_ble_eq_true rfl, Nat.le_of_ble_eq_true rfl⟩ ⟨Nat.le_of_ble_eq_true rfl, Nat.le_of_ble_eq_true rfl⟩ (Nat.le_of_ble_eq_true rfl) dX11_liftNext_10) (fun y1 H locs h hP hS => ?_)
  refine r_cI hS h (fun r hr => r_runV (As := [.ref (al 0 0), .int v1, .int y1]) (rest := []) hC kV_X11_269 cw_X6_nearest (rc_X6 hC hP) hP (tMelting_nearest x al lv σ 0 h06 hP.l0 v1 y1 r hr) rfl hl.1 ⟨Nat.le_of_ble_eq_true rfl, Nat.le_of_ble_eq_true rfl⟩ ⟨Nat.le_of_ble_eq_true rfl, Nat.le_of_ble_eq_true rfl⟩ (Nat.le_of_ble_eq_true rfl) dX11_liftNext_13) (fun y2 σ3 H locs h hP hS => ?_)
  refine lv_istore_n (lv' := [(2, .int y2), (0, .ref (al 6 0)), (1, .int v1)]) hx hb dX11_liftNext_16 rfl hl (by decide) rfl (fun ls hl => ?_)
  refine lv_iload_n hx hb dX11_liftNext_17 rfl (lv_at hl 0 rfl) ?_
  refine lv_iconst (v := (-1)) hx hb dX11_liftNext_18 (by decide) ?_
  refine lv_icmp_eq (tgt := 32) hx hb dX11_liftNext_19 (by decide) (fun hc => ?_) (fun hc => ?_)
  · replace h := (br h).1 hc
    refine lv_iconst (v := 0) hx hb dX11_liftNext_32 (by decide) ?_
    exact r_retI hC hP hS rfl h dX11_liftNext_33
  · replace h := (br h).2 hc
    refine lv_aload_n hx hb dX11_liftNext_22 rfl (lv_at hl 1 rfl) ?_
    refine gt_X11_9 hC hP wf_X11_281 dX11_liftNext_23 ?_
    refine lv_sipush (v := 180) hx hb dX11_liftNext_26 (by decide) ?_
    refine lv_icmp_lt (tgt := 34) hx hb dX11_liftNext_29 (by decide) (fun hc => ?_) (fun hc => ?_)
    · replace h := (br h).1 hc
      refine lv_aload_n hx hb dX11_liftNext_34 rfl (lv_at hl 1 rfl) ?_
      refine gt_X11_0 hC hP wf_X11_12 dX11_liftNext_35 ?_
      refine lv_iload_n hx hb dX11_liftNext_38 rfl (lv_at hl 0 rfl) ?_
      refine r_cV hS h (fun r hr => r_runV (As := [.int y2]) (rest := []) hC kV_X11_414 cw_X10_liftUp (rc_X10 (a := 0) h06 hP.l0 hC hP) hP (tStore_liftUp x al lv σ3 0 h06 hP.l0 y2 r hr) rfl hl.1 ⟨Nat.le_of_ble_eq_true rfl, Nat.le_of_ble_eq_true rfl⟩ ⟨Nat.le_of_ble_eq_true rfl, Nat.le_of_ble_eq_true rfl⟩ (Nat.le_of_ble_eq_true rfl) dX11_liftNext_39) (fun σ4 H locs h hP hS => ?_)
      refine lv_aload_n hx hb dX11_liftNext_42 rfl (lv_at hl 1 rfl) ?_
      refine gt_X11_6 hC hP wf_X11_48 dX11_liftNext_43 ?_
      refine lv_aload_n hx hb dX11_liftNext_46 rfl (lv_at hl 1 rfl) ?_
      refine gt_X11_9 hC hP wf_X11_281 dX11_liftNext_47 ?_
      refine lv_iload_n hx hb dX11_liftNext_50 rfl (lv_at hl 0 rfl) ?_
      refine r_iast hC hP hS (aI_6 hP.l6) h dX11_liftNext_51 (fun σ5 H locs h hP hS => ?_)
      refine lv_aload_n hx hb dX11_liftNext_52 rfl (lv_at hl 1 rfl) ?_
      refine lv_dup hx hb dX11_liftNext_53 rfl ?_
      refine gt_X11_9 hC hP wf_X11_281 dX11_liftNext_54 ?_
      refine lv_iconst (v := 1) hx hb dX11_liftNext_57 (by decide) ?_
      refine lv_iadd hx hb dX11_liftNext_58 ?_
      refine pt_X11_9 hC hP hS wf_X11_281 h dX11_liftNext_59 (fun σ6 H locs h hP hS => ?_)
      refine lv_iconst (v := 1) hx hb dX11_liftNext_62 (by decide) ?_
      exact r_retI hC hP hS rfl h dX11_liftNext_63
    · replace h := (br h).2 hc
      refine lv_iconst (v := 0) hx hb dX11_liftNext_32 (by decide) ?_
      exact r_retI hC hP hS rfl h dX11_liftNext_33

set_option maxRecDepth 20000 in
theorem tI_liftNext {l : Launch} (x : Wx) (al : Nat → Nat → Nat) (lv : Nat → Bool) (σ : Sg) (v1 : Int32) (res : Int32 × Sg) (h : fI_liftNext σ v1 = some res) : Met l yX11_liftNext (Cond.code yX11_liftNext cX11_liftNext 3 (some .boolean) :: lwg) (rmm 5 0 0) (va_Pc [.ref (al 6 0), .int v1] (Wd x al lv σ)) (QI x al lv res) 0 0 (Ab x) := by
  refine met_W (by decide) (Nat.le_of_ble_eq_true rfl) rfl (fun p e s m args below meth c ls hC hP hS hl => ?_)
  exact wI_liftNext_0  hC σ v1 _ _ ls h hP hS hl
set_option maxHeartbeats 4000000 in
set_option maxRecDepth 20000 in
theorem wI_lift_21_b {p : Program} {l : Launch} {e : Env} {s : State} {m : MethodId} {args : Array Value} {below : List Frame} {meth : Method} {c : Code} {x : Wx} {al : Nat → Nat → Nat} {lv : Nat → Bool} {res : Int32 × Sg} (hC : Cx x p s m args meth c cX11_lift 4 (some .boolean) RX11) (k21 : Sg → Int32 → Int32 → Int32 → Option (Int32 × Sg)) (hk21 : ∀ (σ : Sg) (x1 : Int32) (x2 : Int32) (x3 : Int32) (H : Heap) (locs : List Loc) (ls : Array Slot), k21 σ x1 x2 x3 = some res → Pic x al lv σ H → va_S (Ab x) s.heap H locs → lv_has ls 4 [(0, .ref (al 6 0)), (1, .int x1), (2, .int x2), (3, .int x3)] → W p l e (rmm 6 0 0) s m args below meth c H locs 0 0 (MQ below (QI x al lv res) args s 0 0 (Ab x)) (F0 m 21 ls [])) (σ : Sg) (x1 : Int32) (x2 : Int32) (x3 : Int32) (H : Heap) (locs : List Loc) (ls : Array Slot) (h : fI_lift_21_b k21 σ x1 x2 x3 = some res) (hP : Pic x al lv σ H) (hS : va_S (Ab x) s.heap H locs) (hl : lv_has ls 4 [(0, .ref (al 6 0)), (1, .int x1), (2, .int x2), (3, .int x3)]) : W p l e (rmm 6 0 0) s m args below meth c H locs 0 0 (MQ below (QI x al lv res) args s 0 0 (Ab x)) (F0 m 21 ls []) := by
  obtain ⟨hx, hb, hml, hown, hts⟩ := hC.1
  unfold fI_lift_21_b at h
  refine lv_iload_n hx hb dX11_lift_21 rfl (lv_at hl 3 rfl) ?_
  refine lv_iload_n hx hb dX11_lift_22 rfl (lv_at hl 2 rfl) ?_
  refine lv_icmp_ge (tgt := 38) hx hb dX11_lift_23 (by decide) (fun hc => ?_) (fun hc => ?_)
  · replace h := (br h).1 hc
    refine lv_iconst (v := 1) hx hb dX11_lift_38 (by decide) ?_
    exact r_retI hC hP hS rfl h dX11_lift_39
  · replace h := (br h).2 hc
    refine lv_aload_n hx hb dX11_lift_26 rfl (lv_at hl 0 rfl) ?_
    refine lv_iload_n hx hb dX11_lift_27 rfl (lv_at hl 1 rfl) ?_
    refine r_cI hS h (fun r hr => r_runV (As := [.int x1]) (rest := []) hC kV_X11_417 cw_X11_liftNext (rc_X11 hC hP) hP (tI_liftNext x al lv σ x1 r hr) rfl hl.1 ⟨Nat.le_of_ble_eq_true rfl, Nat.le_of_ble_eq_true rfl⟩ ⟨Nat.le_of_ble_eq_true rfl, Nat.le_of_ble_eq_true rfl⟩ (Nat.le_of_ble_eq_true rfl) dX11_lift_28) (fun y3 σ4 H locs h hP hS => ?_)
    refine lv_pop hx hb dX11_lift_31 rfl ?_
    refine r_iinc (v := 1) hC h dX11_lift_32 hl (k := 3) rfl rfl (by decide) (fun y5 => [(3, .int y5), (0, .ref (al 6 0)), (1, .int x1), (2, .int x2)]) (fun _ => rfl) (fun y5 ls h hl => ?_)
    refine lv_goto (tgt := 21) hx hb dX11_lift_35 (by decide) ?_
    exact hk21 σ4 x1 x2 y5 H locs ls h hP hS (lv_sub hl [1, 2, 3, 0] rfl)

set_option maxHeartbeats 4000000 in
set_option maxRecDepth 20000 in
theorem wI_lift_21 {p : Program} {l : Launch} {e : Env} {s : State} {m : MethodId} {args : Array Value} {below : List Frame} {meth : Method} {c : Code} {x : Wx} {al : Nat → Nat → Nat} {lv : Nat → Bool} {res : Int32 × Sg} (hC : Cx x p s m args meth c cX11_lift 4 (some .boolean) RX11) (n : Nat) (σ : Sg) (x1 : Int32) (x2 : Int32) (x3 : Int32) (H : Heap) (locs : List Loc) (ls : Array Slot) (h : fI_lift_21 n σ x1 x2 x3 = some res) (hP : Pic x al lv σ H) (hS : va_S (Ab x) s.heap H locs) (hl : lv_has ls 4 [(0, .ref (al 6 0)), (1, .int x1), (2, .int x2), (3, .int x3)]) : W p l e (rmm 6 0 0) s m args below meth c H locs 0 0 (MQ below (QI x al lv res) args s 0 0 (Ab x)) (F0 m 21 ls []) := by
  induction n generalizing σ x1 x2 x3 H locs ls with
  | zero => exact nomatch h
  | succ n ih => exact wI_lift_21_b  hC  _ (fun σ x1 x2 x3 H locs ls h hP hS hl => ih σ x1 x2 x3 H locs ls h hP hS hl) σ x1 x2 x3 H locs ls h hP hS hl
set_option maxHeartbeats 4000000 in
set_option maxRecDepth 20000 in
theorem wI_lift_0 {p : Program} {l : Launch} {e : Env} {s : State} {m : MethodId} {args : Array Value} {below : List Frame} {meth : Method} {c : Code} {x : Wx} {al : Nat → Nat → Nat} {lv : Nat → Bool} {res : Int32 × Sg} (hC : Cx x p s m args meth c cX11_lift 4 (some .boolean) RX11) (σ : Sg) (v1 : Int32) (v2 : Int32) (H : Heap) (locs : List Loc) (ls : Array Slot) (h : fI_lift_0 σ v1 v2 = some res) (hP : Pic x al lv σ H) (hS : va_S (Ab x) s.heap H locs) (hl : lv_has ls 4 [(0, .ref (al 6 0)), (1, .int v1), (2, .int v2)]) : W p l e (rmm 6 0 0) s m args below meth c H locs 0 0 (MQ below (QI x al lv res) args s 0 0 (Ab x)) (F0 m 0 ls []) := by
  obtain ⟨hx, hb, hml, hown, hts⟩ := hC.1
  unfold fI_lift_0 at h
  refine lv_aload_n hx hb dX11_lift_0 rfl (lv_at hl 0 rfl) ?_
  refine lv_iconst (v := 0) hx hb dX11_lift_1 (by decide) ?_
  refine pt_X11_9 hC hP hS wf_X11_281 h dX11_lift_2 (fun σ1 H locs h hP hS => ?_)
  refine lv_aload_n hx hb dX11_lift_5 rfl (lv_at hl 0 rfl) ?_
  refine gt_X11_0 hC hP wf_X11_12 dX11_lift_6 ?_
  refine lv_iload_n hx hb dX11_lift_9 rfl (lv_at hl 1 rfl) ?_
  refine r_cP hS h (fun r hr => r_runV (As := [.int v1]) (rest := []) hC kV_X11_107 cw_X10_blocksIn (rc_X10 (a := 0) h06 hP.l0 hC hP) hP (tStore_blocksIn x al lv σ1 0 h06 hP.l0 v1 r hr) rfl hl.1 ⟨Nat.le_of_ble_eq_true rfl, Nat.le_of_ble_eq_true rfl⟩ ⟨Nat.le_of_ble_eq_true rfl, Nat.le_of_ble_eq_true rfl⟩ (Nat.le_of_ble_eq_true rfl) dX11_lift_10) (fun y2 H locs h hP hS => ?_)
  refine lv_iload_n hx hb dX11_lift_13 rfl (lv_at hl 2 rfl) ?_
  refine lv_icmp_ge (tgt := 19) hx hb dX11_lift_14 (by decide) (fun hc => ?_) (fun hc => ?_)
  · replace h := (br h).1 hc
    refine lv_iconst (v := 0) hx hb dX11_lift_19 (by decide) ?_
    refine lv_istore_n (lv' := [(3, .int 0), (0, .ref (al 6 0)), (1, .int v1), (2, .int v2)]) hx hb dX11_lift_20 rfl hl (by decide) rfl (fun ls hl => ?_)
    exact wI_lift_21  hC  FU σ1 v1 v2 0 H locs ls h hP hS (lv_sub hl [1, 2, 3, 0] rfl)
  · replace h := (br h).2 hc
    refine lv_iconst (v := 0) hx hb dX11_lift_17 (by decide) ?_
    exact r_retI hC hP hS rfl h dX11_lift_18

set_option maxRecDepth 20000 in
theorem tI_lift {l : Launch} (x : Wx) (al : Nat → Nat → Nat) (lv : Nat → Bool) (σ : Sg) (v1 : Int32) (v2 : Int32) (res : Int32 × Sg) (h : fI_lift σ v1 v2 = some res) : Met l yX11_lift (Cond.code yX11_lift cX11_lift 4 (some .boolean) :: lwg) (rmm 6 0 0) (va_Pc [.ref (al 6 0), .int v1, .int v2] (Wd x al lv σ)) (QI x al lv res) 0 0 (Ab x) := by
  refine met_W (by decide) (Nat.le_of_ble_eq_true rfl) rfl (fun p e s m args below meth c ls hC hP hS hl => ?_)
  exact wI_lift_0  hC σ v1 v2 _ _ ls h hP hS hl
set_option maxHeartbeats 4000000 in
set_option maxRecDepth 20000 in
theorem wI_sellLifted_4_b {p : Program} {l : Launch} {e : Env} {s : State} {m : MethodId} {args : Array Value} {below : List Frame} {meth : Method} {c : Code} {x : Wx} {al : Nat → Nat → Nat} {lv : Nat → Bool} {res : Int32 × Sg} (hC : Cx x p s m args meth c cX11_sellLifted 4 (some .int) RX11) (k4 : Sg → Int32 → Int32 → Option (Int32 × Sg)) (hk4 : ∀ (σ : Sg) (x1 : Int32) (x2 : Int32) (H : Heap) (locs : List Loc) (ls : Array Slot), k4 σ x1 x2 = some res → Pic x al lv σ H → va_S (Ab x) s.heap H locs → lv_has ls 4 [(0, .ref (al 6 0)), (1, .int x1), (2, .int x2)] → W p l e (rmm 2 0 0) s m args below meth c H locs 0 0 (MQ below (QI x al lv res) args s 0 0 (Ab x)) (F0 m 4 ls [])) (σ : Sg) (x1 : Int32) (x2 : Int32) (H : Heap) (locs : List Loc) (ls : Array Slot) (h : fI_sellLifted_4_b k4 σ x1 x2 = some res) (hP : Pic x al lv σ H) (hS : va_S (Ab x) s.heap H locs) (hl : lv_has ls 4 [(0, .ref (al 6 0)), (1, .int x1), (2, .int x2)]) : W p l e (rmm 2 0 0) s m args below meth c H locs 0 0 (MQ below (QI x al lv res) args s 0 0 (Ab x)) (F0 m 4 ls []) := by
  obtain ⟨hx, hb, hml, hown, hts⟩ := hC.1
  unfold fI_sellLifted_4_b at h
  refine lv_iload_n hx hb dX11_sellLifted_4 rfl (lv_at hl 2 rfl) ?_
  refine lv_aload_n hx hb dX11_sellLifted_5 rfl (lv_at hl 0 rfl) ?_
  refine gt_X11_9 hC hP wf_X11_281 dX11_sellLifted_6 ?_
  refine lv_icmp_ge (tgt := 58) hx hb dX11_sellLifted_9 (by decide) (fun hc => ?_) (fun hc => ?_)
  · replace h := (br h).1 hc
    refine lv_aload_n hx hb dX11_sellLifted_58 rfl (lv_at hl 0 rfl) ?_
    refine lv_aload_n hx hb dX11_sellLifted_59 rfl (lv_at hl 0 rfl) ?_
    refine gt_X11_9 hC hP wf_X11_281 dX11_sellLifted_60 ?_
    refine pt_X11_10 hC hP hS wf_X11_266 h dX11_sellLifted_63 (fun σ1 H locs h hP hS => ?_)
    refine lv_aload_n hx hb dX11_sellLifted_66 rfl (lv_at hl 0 rfl) ?_
    refine gt_X11_0 hC hP wf_X11_12 dX11_sellLifted_67 ?_
    refine lv_dup hx hb dX11_sellLifted_70 rfl ?_
    refine gt_X10_2 (a := 0) h06 hP.l0 hC hP wf_X11_238 dX11_sellLifted_71 ?_
    refine lv_iload_n hx hb dX11_sellLifted_74 rfl (lv_at hl 1 rfl) ?_
    refine lv_iadd hx hb dX11_sellLifted_75 ?_
    refine pt_X10_2 (a := 0) h06 hP.l0 hC hP hS wf_X11_238 h dX11_sellLifted_76 (fun σ2 H locs h hP hS => ?_)
    refine lv_iload_n hx hb dX11_sellLifted_79 rfl (lv_at hl 1 rfl) ?_
    exact r_retI hC hP hS rfl h dX11_sellLifted_80
  · replace h := (br h).2 hc
    refine lv_aload_n hx hb dX11_sellLifted_12 rfl (lv_at hl 0 rfl) ?_
    refine gt_X11_6 hC hP wf_X11_48 dX11_sellLifted_13 ?_
    refine lv_iload_n hx hb dX11_sellLifted_16 rfl (lv_at hl 2 rfl) ?_
    refine r_iald hC hP (aI_6 hP.l6) h dX11_sellLifted_17 (fun h => ?_)
    refine r_lt h (fun y3 h => ?_)
    refine lv_istore_n (lv' := [(3, .int y3), (0, .ref (al 6 0)), (1, .int x1), (2, .int x2)]) hx hb dX11_sellLifted_18 rfl hl (by decide) rfl (fun ls hl => ?_)
    refine lv_iload_n hx hb dX11_sellLifted_19 rfl (lv_at hl 2 rfl) ?_
    refine lv_aload_n hx hb dX11_sellLifted_20 rfl (lv_at hl 1 rfl) ?_
    refine gt_X11_0 hC hP wf_X11_12 dX11_sellLifted_21 ?_
    refine gt_X10_6 (a := 0) h06 hP.l0 hC hP wf_X11_147 dX11_sellLifted_24 ?_
    refine gt_X0_2 (a := 0) h06 hP.l0 hC hP wf_X11_176 dX11_sellLifted_27 ?_
    refine lv_iload_n hx hb dX11_sellLifted_30 rfl (lv_at hl 0 rfl) ?_
    refine r_iald hC hP (aS_17 (a := 0) h06 hP.l0) h dX11_sellLifted_31 (fun h => ?_)
    refine lv_iadd hx hb dX11_sellLifted_32 ?_
    refine r_lt h (fun y4 h => ?_)
    refine lv_istore_n (lv' := [(1, .int y4), (3, .int y3), (0, .ref (al 6 0)), (2, .int x2)]) hx hb dX11_sellLifted_33 rfl hl (by decide) rfl (fun ls hl => ?_)
    refine lv_aload_n hx hb dX11_sellLifted_34 rfl (lv_at hl 2 rfl) ?_
    refine gt_X11_0 hC hP wf_X11_12 dX11_sellLifted_35 ?_
    refine gt_X10_6 (a := 0) h06 hP.l0 hC hP wf_X11_147 dX11_sellLifted_38 ?_
    refine lv_iload_n hx hb dX11_sellLifted_41 rfl (lv_at hl 1 rfl) ?_
    refine r_cV hS h (fun r hr => r_runV (As := [.int y3]) (rest := []) hC kV_X11_429 cw_X0_leave (rc_X0 (a := 0) h06 hP.l0 hC hP) hP (tBlocks_leave x al lv σ 0 h06 hP.l0 y3 r hr) rfl hl.1 ⟨Nat.le_of_ble_eq_true rfl, Nat.le_of_ble_eq_true rfl⟩ ⟨Nat.le_of_ble_eq_true rfl, Nat.le_of_ble_eq_true rfl⟩ (Nat.le_of_ble_eq_true rfl) dX11_sellLifted_42) (fun σ5 H locs h hP hS => ?_)
    refine lv_aload_n hx hb dX11_sellLifted_45 rfl (lv_at hl 2 rfl) ?_
    refine gt_X11_7 hC hP wf_X11_51 dX11_sellLifted_46 ?_
    refine lv_iload_n hx hb dX11_sellLifted_49 rfl (lv_at hl 3 rfl) ?_
    refine lv_iload_n hx hb dX11_sellLifted_50 rfl (lv_at hl 1 rfl) ?_
    refine r_iast hC hP hS (aI_7 hP.l6) h dX11_sellLifted_51 (fun σ6 H locs h hP hS => ?_)
    refine r_iinc (v := 1) hC h dX11_sellLifted_52 hl (k := 3) rfl rfl (by decide) (fun y7 => [(2, .int y7), (1, .int y4), (3, .int y3), (0, .ref (al 6 0))]) (fun _ => rfl) (fun y7 ls h hl => ?_)
    refine lv_goto (tgt := 4) hx hb dX11_sellLifted_55 (by decide) ?_
    exact hk4 σ6 y4 y7 H locs ls h hP hS (lv_sub hl [3, 1, 0] rfl)

set_option maxHeartbeats 4000000 in
set_option maxRecDepth 20000 in
theorem wI_sellLifted_4 {p : Program} {l : Launch} {e : Env} {s : State} {m : MethodId} {args : Array Value} {below : List Frame} {meth : Method} {c : Code} {x : Wx} {al : Nat → Nat → Nat} {lv : Nat → Bool} {res : Int32 × Sg} (hC : Cx x p s m args meth c cX11_sellLifted 4 (some .int) RX11) (n : Nat) (σ : Sg) (x1 : Int32) (x2 : Int32) (H : Heap) (locs : List Loc) (ls : Array Slot) (h : fI_sellLifted_4 n σ x1 x2 = some res) (hP : Pic x al lv σ H) (hS : va_S (Ab x) s.heap H locs) (hl : lv_has ls 4 [(0, .ref (al 6 0)), (1, .int x1), (2, .int x2)]) : W p l e (rmm 2 0 0) s m args below meth c H locs 0 0 (MQ below (QI x al lv res) args s 0 0 (Ab x)) (F0 m 4 ls []) := by
  induction n generalizing σ x1 x2 H locs ls with
  | zero => exact nomatch h
  | succ n ih => exact wI_sellLifted_4_b  hC  _ (fun σ x1 x2 H locs ls h hP hS hl => ih σ x1 x2 H locs ls h hP hS hl) σ x1 x2 H locs ls h hP hS hl
set_option maxHeartbeats 4000000 in
set_option maxRecDepth 20000 in
theorem wI_sellLifted_0 {p : Program} {l : Launch} {e : Env} {s : State} {m : MethodId} {args : Array Value} {below : List Frame} {meth : Method} {c : Code} {x : Wx} {al : Nat → Nat → Nat} {lv : Nat → Bool} {res : Int32 × Sg} (hC : Cx x p s m args meth c cX11_sellLifted 4 (some .int) RX11) (σ : Sg) (H : Heap) (locs : List Loc) (ls : Array Slot) (h : fI_sellLifted_0 σ = some res) (hP : Pic x al lv σ H) (hS : va_S (Ab x) s.heap H locs) (hl : lv_has ls 4 [(0, .ref (al 6 0))]) : W p l e (rmm 2 0 0) s m args below meth c H locs 0 0 (MQ below (QI x al lv res) args s 0 0 (Ab x)) (F0 m 0 ls []) := by
  obtain ⟨hx, hb, hml, hown, hts⟩ := hC.1
  unfold fI_sellLifted_0 at h
  refine lv_iconst (v := 0) hx hb dX11_sellLifted_0 (by decide) ?_
  refine lv_istore_n (lv' := [(1, .int 0), (0, .ref (al 6 0))]) hx hb dX11_sellLifted_1 rfl hl (by decide) rfl (fun ls hl => ?_)
  refine lv_iconst (v := 0) hx hb dX11_sellLifted_2 (by decide) ?_
  refine lv_istore_n (lv' := [(2, .int 0), (1, .int 0), (0, .ref (al 6 0))]) hx hb dX11_sellLifted_3 rfl hl (by decide) rfl (fun ls hl => ?_)
  exact wI_sellLifted_4  hC  FU σ 0 0 H locs ls h hP hS (lv_sub hl [2, 1, 0] rfl)

set_option maxRecDepth 20000 in
theorem tI_sellLifted {l : Launch} (x : Wx) (al : Nat → Nat → Nat) (lv : Nat → Bool) (σ : Sg) (res : Int32 × Sg) (h : fI_sellLifted σ = some res) : Met l yX11_sellLifted (Cond.code yX11_sellLifted cX11_sellLifted 4 (some .int) :: lwg) (rmm 2 0 0) (va_Pc [.ref (al 6 0)] (Wd x al lv σ)) (QI x al lv res) 0 0 (Ab x) := by
  refine met_W (by decide) (Nat.le_of_ble_eq_true rfl) rfl (fun p e s m args below meth c ls hC hP hS hl => ?_)
  exact wI_sellLifted_0  hC σ  _ _ ls h hP hS hl
set_option maxHeartbeats 4000000 in
set_option maxRecDepth 20000 in
theorem wI_take_0 {p : Program} {l : Launch} {e : Env} {s : State} {m : MethodId} {args : Array Value} {below : List Frame} {meth : Method} {c : Code} {x : Wx} {al : Nat → Nat → Nat} {lv : Nat → Bool} {res : Int32 × Sg} (hC : Cx x p s m args meth c cX11_take 3 (some .int) RX11) (σ : Sg) (v1 : Int32) (v2 : Int32) (H : Heap) (locs : List Loc) (ls : Array Slot) (h : fI_take_0 σ v1 v2 = some res) (hP : Pic x al lv σ H) (hS : va_S (Ab x) s.heap H locs) (hl : lv_has ls 3 [(0, .ref (al 6 0)), (1, .int v1), (2, .int v2)]) : W p l e (rmm 7 0 0) s m args below meth c H locs 0 0 (MQ below (QI x al lv res) args s 0 0 (Ab x)) (F0 m 0 ls []) := by
  obtain ⟨hx, hb, hml, hown, hts⟩ := hC.1
  unfold fI_take_0 at h
  refine lv_iload_n hx hb dX11_take_0 rfl (lv_at hl 2 rfl) ?_
  refine lv_iconst (v := 1) hx hb dX11_take_1 (by decide) ?_
  refine lv_sipush (v := 300) hx hb dX11_take_2 (by decide) ?_
  refine r_cP hS h (fun r hr => r_runS (As := [.int v2, .int 1, .int 300]) (rest := []) hC kS_X11_68 cw_X11_within hP (tI_within x al lv σ v2 1 300 r hr) rfl hl.1 ⟨Nat.le_of_ble_eq_true rfl, Nat.le_of_ble_eq_true rfl⟩ ⟨Nat.le_of_ble_eq_true rfl, Nat.le_of_ble_eq_true rfl⟩ (Nat.le_of_ble_eq_true rfl) dX11_take_5) (fun y1 H locs h hP hS => ?_)
  refine lv_if_ne (tgt := 17) hx hb dX11_take_8 (by decide) (fun hc => ?_) (fun hc => ?_)
  · replace h := (br h).2 hc
    refine lv_aload_n hx hb dX11_take_17 rfl (lv_at hl 0 rfl) ?_
    refine gt_X11_0 hC hP wf_X11_12 dX11_take_18 ?_
    refine gt_X10_5 (a := 0) h06 hP.l0 hC hP wf_X11_58 dX11_take_21 ?_
    refine lv_iload_n hx hb dX11_take_24 rfl (lv_at hl 1 rfl) ?_
    refine r_cP hS h (fun r hr => r_runV (As := [.int v1]) (rest := []) hC kV_X11_62 cw_X8_has (rc_X8 (a := 0) h06 hP.l0 hC hP) hP (tRooms_has x al lv σ 0 h06 hP.l0 v1 r hr) rfl hl.1 ⟨Nat.le_of_ble_eq_true rfl, Nat.le_of_ble_eq_true rfl⟩ ⟨Nat.le_of_ble_eq_true rfl, Nat.le_of_ble_eq_true rfl⟩ (Nat.le_of_ble_eq_true rfl) dX11_take_25) (fun y2 H locs h hP hS => ?_)
    refine lv_if_ne (tgt := 38) hx hb dX11_take_28 (by decide) (fun hc => ?_) (fun hc => ?_)
    · replace h := (br h).2 hc
      refine lv_aload_n hx hb dX11_take_38 rfl (lv_at hl 0 rfl) ?_
      refine lv_iload_n hx hb dX11_take_39 rfl (lv_at hl 1 rfl) ?_
      refine lv_iload_n hx hb dX11_take_40 rfl (lv_at hl 2 rfl) ?_
      refine r_cI hS h (fun r hr => r_runV (As := [.int v1, .int v2]) (rest := []) hC kV_X11_272 cw_X11_lift (rc_X11 hC hP) hP (tI_lift x al lv σ v1 v2 r hr) rfl hl.1 ⟨Nat.le_of_ble_eq_true rfl, Nat.le_of_ble_eq_true rfl⟩ ⟨Nat.le_of_ble_eq_true rfl, Nat.le_of_ble_eq_true rfl⟩ (Nat.le_of_ble_eq_true rfl) dX11_take_41) (fun y3 σ4 H locs h hP hS => ?_)
      refine lv_if_ne (tgt := 54) hx hb dX11_take_44 (by decide) (fun hc => ?_) (fun hc => ?_)
      · replace h := (br h).2 hc
        refine lv_aload_n hx hb dX11_take_54 rfl (lv_at hl 0 rfl) ?_
        refine lv_aload_n hx hb dX11_take_55 rfl (lv_at hl 0 rfl) ?_
        refine r_cI hS h (fun r hr => r_runV (As := []) (rest := [.ref (al 6 0)]) hC kV_X11_275 cw_X11_sellLifted (rc_X11 hC hP) hP (tI_sellLifted x al lv σ4  r hr) rfl hl.1 ⟨Nat.le_of_ble_eq_true rfl, Nat.le_of_ble_eq_true rfl⟩ ⟨Nat.le_of_ble_eq_true rfl, Nat.le_of_ble_eq_true rfl⟩ (Nat.le_of_ble_eq_true rfl) dX11_take_56) (fun y5 σ6 H locs h hP hS => ?_)
        refine r_cI hS h (fun r hr => r_runV (As := [.int y5]) (rest := []) hC kV_X11_72 cw_X11_answer (rc_X11 hC hP) hP (tI_answer x al lv σ6 y5 r hr) rfl hl.1 ⟨Nat.le_of_ble_eq_true rfl, Nat.le_of_ble_eq_true rfl⟩ ⟨Nat.le_of_ble_eq_true rfl, Nat.le_of_ble_eq_true rfl⟩ (Nat.le_of_ble_eq_true rfl) dX11_take_59) (fun y7 σ8 H locs h hP hS => ?_)
        exact r_retI hC hP hS rfl h dX11_take_62
      · replace h := (br h).1 hc
        refine lv_aload_n hx hb dX11_take_47 rfl (lv_at hl 0 rfl) ?_
        refine lv_bipush (v := (-6)) hx hb dX11_take_48 (by decide) ?_
        refine r_cI hS h (fun r hr => r_runV (As := [.int ((-6))]) (rest := []) hC kV_X11_72 cw_X11_answer (rc_X11 hC hP) hP (tI_answer x al lv σ4 ((-6)) r hr) rfl hl.1 ⟨Nat.le_of_ble_eq_true rfl, Nat.le_of_ble_eq_true rfl⟩ ⟨Nat.le_of_ble_eq_true rfl, Nat.le_of_ble_eq_true rfl⟩ (Nat.le_of_ble_eq_true rfl) dX11_take_50) (fun y9 σ10 H locs h hP hS => ?_)
        exact r_retI hC hP hS rfl h dX11_take_53
    · replace h := (br h).1 hc
      refine lv_aload_n hx hb dX11_take_31 rfl (lv_at hl 0 rfl) ?_
      refine lv_bipush (v := (-2)) hx hb dX11_take_32 (by decide) ?_
      refine r_cI hS h (fun r hr => r_runV (As := [.int ((-2))]) (rest := []) hC kV_X11_72 cw_X11_answer (rc_X11 hC hP) hP (tI_answer x al lv σ ((-2)) r hr) rfl hl.1 ⟨Nat.le_of_ble_eq_true rfl, Nat.le_of_ble_eq_true rfl⟩ ⟨Nat.le_of_ble_eq_true rfl, Nat.le_of_ble_eq_true rfl⟩ (Nat.le_of_ble_eq_true rfl) dX11_take_34) (fun y11 σ12 H locs h hP hS => ?_)
      exact r_retI hC hP hS rfl h dX11_take_37
  · replace h := (br h).1 hc
    refine lv_aload_n hx hb dX11_take_11 rfl (lv_at hl 0 rfl) ?_
    refine lv_iconst (v := (-1)) hx hb dX11_take_12 (by decide) ?_
    refine r_cI hS h (fun r hr => r_runV (As := [.int ((-1))]) (rest := []) hC kV_X11_72 cw_X11_answer (rc_X11 hC hP) hP (tI_answer x al lv σ ((-1)) r hr) rfl hl.1 ⟨Nat.le_of_ble_eq_true rfl, Nat.le_of_ble_eq_true rfl⟩ ⟨Nat.le_of_ble_eq_true rfl, Nat.le_of_ble_eq_true rfl⟩ (Nat.le_of_ble_eq_true rfl) dX11_take_13) (fun y13 σ14 H locs h hP hS => ?_)
    exact r_retI hC hP hS rfl h dX11_take_16

set_option maxRecDepth 20000 in
theorem tI_take {l : Launch} (x : Wx) (al : Nat → Nat → Nat) (lv : Nat → Bool) (σ : Sg) (v1 : Int32) (v2 : Int32) (res : Int32 × Sg) (h : fI_take σ v1 v2 = some res) : Met l yX11_take (Cond.code yX11_take cX11_take 3 (some .int) :: lwg) (rmm 7 0 0) (va_Pc [.ref (al 6 0), .int v1, .int v2] (Wd x al lv σ)) (QI x al lv res) 0 0 (Ab x) := by
  refine met_W (by decide) (Nat.le_of_ble_eq_true rfl) rfl (fun p e s m args below meth c ls hC hP hS hl => ?_)
  exact wI_take_0  hC σ v1 v2 _ _ ls h hP hS hl
set_option maxHeartbeats 4000000 in
set_option maxRecDepth 20000 in
theorem wI_way_20 {p : Program} {l : Launch} {e : Env} {s : State} {m : MethodId} {args : Array Value} {below : List Frame} {meth : Method} {c : Code} {x : Wx} {al : Nat → Nat → Nat} {lv : Nat → Bool} {res : Int32 × Sg} (hC : Cx x p s m args meth c cX11_way 3 (some .int) RX11) (σ : Sg) (H : Heap) (locs : List Loc) (ls : Array Slot) (h : fI_way_20 σ = some res) (hP : Pic x al lv σ H) (hS : va_S (Ab x) s.heap H locs) (hl : lv_has ls 3 [(0, .ref (al 6 0))]) : W p l e (rmm 2 0 0) s m args below meth c H locs 0 0 (MQ below (QI x al lv res) args s 0 0 (Ab x)) (F0 m 20 ls []) := by
  obtain ⟨hx, hb, hml, hown, hts⟩ := hC.1
  unfold fI_way_20 at h
  refine lv_aload_n hx hb dX11_way_20 rfl (lv_at hl 0 rfl) ?_
  refine lv_iconst (v := (-1)) hx hb dX11_way_21 (by decide) ?_
  refine r_cI hS h (fun r hr => r_runV (As := [.int ((-1))]) (rest := []) hC kV_X11_72 cw_X11_answer (rc_X11 hC hP) hP (tI_answer x al lv σ ((-1)) r hr) rfl hl.1 ⟨Nat.le_of_ble_eq_true rfl, Nat.le_of_ble_eq_true rfl⟩ ⟨Nat.le_of_ble_eq_true rfl, Nat.le_of_ble_eq_true rfl⟩ (Nat.le_of_ble_eq_true rfl) dX11_way_22) (fun y1 σ2 H locs h hP hS => ?_)
  exact r_retI hC hP hS rfl h dX11_way_25

set_option maxHeartbeats 4000000 in
set_option maxRecDepth 20000 in
theorem wI_way_10 {p : Program} {l : Launch} {e : Env} {s : State} {m : MethodId} {args : Array Value} {below : List Frame} {meth : Method} {c : Code} {x : Wx} {al : Nat → Nat → Nat} {lv : Nat → Bool} {res : Int32 × Sg} (hC : Cx x p s m args meth c cX11_way 3 (some .int) RX11) (σ : Sg) (x1 : Int32) (x2 : Int32) (H : Heap) (locs : List Loc) (ls : Array Slot) (h : fI_way_10 σ x1 x2 = some res) (hP : Pic x al lv σ H) (hS : va_S (Ab x) s.heap H locs) (hl : lv_has ls 3 [(0, .ref (al 6 0)), (1, .int x1), (2, .int x2)]) : W p l e (rmm 2 0 0) s m args below meth c H locs 0 0 (MQ below (QI x al lv res) args s 0 0 (Ab x)) (F0 m 10 ls []) := by
  obtain ⟨hx, hb, hml, hown, hts⟩ := hC.1
  unfold fI_way_10 at h
  refine lv_iload_n hx hb dX11_way_10 rfl (lv_at hl 2 rfl) ?_
  refine lv_iconst (v := 0) hx hb dX11_way_11 (by decide) ?_
  refine lv_bipush (v := 20) hx hb dX11_way_12 (by decide) ?_
  refine r_cP hS h (fun r hr => r_runS (As := [.int x2, .int 0, .int 20]) (rest := []) hC kS_X11_68 cw_X11_within hP (tI_within x al lv σ x2 0 20 r hr) rfl hl.1 ⟨Nat.le_of_ble_eq_true rfl, Nat.le_of_ble_eq_true rfl⟩ ⟨Nat.le_of_ble_eq_true rfl, Nat.le_of_ble_eq_true rfl⟩ (Nat.le_of_ble_eq_true rfl) dX11_way_14) (fun y3 H locs h hP hS => ?_)
  refine lv_if_ne (tgt := 26) hx hb dX11_way_17 (by decide) (fun hc => ?_) (fun hc => ?_)
  · replace h := (br h).2 hc
    refine lv_aload_n hx hb dX11_way_26 rfl (lv_at hl 0 rfl) ?_
    refine gt_X11_3 hC hP wf_X11_33 dX11_way_27 ?_
    refine gt_X5_0 hC hP wf_X11_256 dX11_way_30 ?_
    refine lv_bipush (v := 6) hx hb dX11_way_33 (by decide) ?_
    refine lv_icmp_lt (tgt := 45) hx hb dX11_way_35 (by decide) (fun hc => ?_) (fun hc => ?_)
    · replace h := (br h).1 hc
      refine lv_aload_n hx hb dX11_way_45 rfl (lv_at hl 0 rfl) ?_
      refine lv_aload_n hx hb dX11_way_46 rfl (lv_at hl 0 rfl) ?_
      refine gt_X11_3 hC hP wf_X11_33 dX11_way_47 ?_
      refine lv_iload_n hx hb dX11_way_50 rfl (lv_at hl 1 rfl) ?_
      refine lv_iload_n hx hb dX11_way_51 rfl (lv_at hl 2 rfl) ?_
      refine r_cI hS h (fun r hr => r_runV (As := [.int x1, .int x2]) (rest := [.ref (al 6 0)]) hC kV_X11_278 cw_X5_stretch (rc_X5 hC hP) hP (tJourney_stretch x al lv σ x1 x2 r hr) rfl hl.1 ⟨Nat.le_of_ble_eq_true rfl, Nat.le_of_ble_eq_true rfl⟩ ⟨Nat.le_of_ble_eq_true rfl, Nat.le_of_ble_eq_true rfl⟩ (Nat.le_of_ble_eq_true rfl) dX11_way_52) (fun y4 σ5 H locs h hP hS => ?_)
      refine r_cI hS h (fun r hr => r_runV (As := [.int y4]) (rest := []) hC kV_X11_72 cw_X11_answer (rc_X11 hC hP) hP (tI_answer x al lv σ5 y4 r hr) rfl hl.1 ⟨Nat.le_of_ble_eq_true rfl, Nat.le_of_ble_eq_true rfl⟩ ⟨Nat.le_of_ble_eq_true rfl, Nat.le_of_ble_eq_true rfl⟩ (Nat.le_of_ble_eq_true rfl) dX11_way_55) (fun y6 σ7 H locs h hP hS => ?_)
      exact r_retI hC hP hS rfl h dX11_way_58
    · replace h := (br h).2 hc
      refine lv_aload_n hx hb dX11_way_38 rfl (lv_at hl 0 rfl) ?_
      refine lv_bipush (v := (-6)) hx hb dX11_way_39 (by decide) ?_
      refine r_cI hS h (fun r hr => r_runV (As := [.int ((-6))]) (rest := []) hC kV_X11_72 cw_X11_answer (rc_X11 hC hP) hP (tI_answer x al lv σ ((-6)) r hr) rfl hl.1 ⟨Nat.le_of_ble_eq_true rfl, Nat.le_of_ble_eq_true rfl⟩ ⟨Nat.le_of_ble_eq_true rfl, Nat.le_of_ble_eq_true rfl⟩ (Nat.le_of_ble_eq_true rfl) dX11_way_41) (fun y8 σ9 H locs h hP hS => ?_)
      exact r_retI hC hP hS rfl h dX11_way_44
  · replace h := (br h).1 hc
    exact wI_way_20  hC  σ H locs ls h hP hS (lv_sub hl [0] rfl)

set_option maxHeartbeats 4000000 in
set_option maxRecDepth 20000 in
theorem wI_way_0 {p : Program} {l : Launch} {e : Env} {s : State} {m : MethodId} {args : Array Value} {below : List Frame} {meth : Method} {c : Code} {x : Wx} {al : Nat → Nat → Nat} {lv : Nat → Bool} {res : Int32 × Sg} (hC : Cx x p s m args meth c cX11_way 3 (some .int) RX11) (σ : Sg) (v1 : Int32) (v2 : Int32) (H : Heap) (locs : List Loc) (ls : Array Slot) (h : fI_way_0 σ v1 v2 = some res) (hP : Pic x al lv σ H) (hS : va_S (Ab x) s.heap H locs) (hl : lv_has ls 3 [(0, .ref (al 6 0)), (1, .int v1), (2, .int v2)]) : W p l e (rmm 2 0 0) s m args below meth c H locs 0 0 (MQ below (QI x al lv res) args s 0 0 (Ab x)) (F0 m 0 ls []) := by
  obtain ⟨hx, hb, hml, hown, hts⟩ := hC.1
  unfold fI_way_0 at h
  refine lv_iload_n hx hb dX11_way_0 rfl (lv_at hl 1 rfl) ?_
  refine lv_iconst (v := 4) hx hb dX11_way_1 (by decide) ?_
  refine lv_icmp_eq (tgt := 10) hx hb dX11_way_2 (by decide) (fun hc => ?_) (fun hc => ?_)
  · replace h := (br h).1 hc
    exact wI_way_10  hC  σ v1 v2 H locs ls h hP hS (lv_sub hl [0, 1, 2] rfl)
  · replace h := (br h).2 hc
    refine lv_iload_n hx hb dX11_way_5 rfl (lv_at hl 1 rfl) ?_
    refine lv_iconst (v := 3) hx hb dX11_way_6 (by decide) ?_
    refine lv_icmp_ne (tgt := 20) hx hb dX11_way_7 (by decide) (fun hc => ?_) (fun hc => ?_)
    · replace h := (br h).2 hc
      exact wI_way_20  hC  σ H locs ls h hP hS (lv_sub hl [0] rfl)
    · replace h := (br h).1 hc
      exact wI_way_10  hC  σ v1 v2 H locs ls h hP hS (lv_sub hl [0, 1, 2] rfl)

set_option maxRecDepth 20000 in
theorem tI_way {l : Launch} (x : Wx) (al : Nat → Nat → Nat) (lv : Nat → Bool) (σ : Sg) (v1 : Int32) (v2 : Int32) (res : Int32 × Sg) (h : fI_way σ v1 v2 = some res) : Met l yX11_way (Cond.code yX11_way cX11_way 3 (some .int) :: lwg) (rmm 2 0 0) (va_Pc [.ref (al 6 0), .int v1, .int v2] (Wd x al lv σ)) (QI x al lv res) 0 0 (Ab x) := by
  refine met_W (by decide) (Nat.le_of_ble_eq_true rfl) rfl (fun p e s m args below meth c ls hC hP hS hl => ?_)
  exact wI_way_0  hC σ v1 v2 _ _ ls h hP hS hl
set_option maxHeartbeats 4000000 in
set_option maxRecDepth 20000 in
theorem wI_home_0 {p : Program} {l : Launch} {e : Env} {s : State} {m : MethodId} {args : Array Value} {below : List Frame} {meth : Method} {c : Code} {x : Wx} {al : Nat → Nat → Nat} {lv : Nat → Bool} {res : Int32 × Sg} (hC : Cx x p s m args meth c cX11_home 2 (some .int) RX11) (σ : Sg) (H : Heap) (locs : List Loc) (ls : Array Slot) (h : fI_home_0 σ = some res) (hP : Pic x al lv σ H) (hS : va_S (Ab x) s.heap H locs) (hl : lv_has ls 2 [(0, .ref (al 6 0))]) : W p l e (rmm 1 0 0) s m args below meth c H locs 0 0 (MQ below (QI x al lv res) args s 0 0 (Ab x)) (F0 m 0 ls []) := by
  obtain ⟨hx, hb, hml, hown, hts⟩ := hC.1
  unfold fI_home_0 at h
  refine lv_aload_n hx hb dX11_home_0 rfl (lv_at hl 0 rfl) ?_
  refine gt_X11_3 hC hP wf_X11_33 dX11_home_1 ?_
  refine gt_X5_0 hC hP wf_X11_256 dX11_home_4 ?_
  refine r_lt h (fun y1 h => ?_)
  refine lv_istore_n (lv' := [(1, .int y1), (0, .ref (al 6 0))]) hx hb dX11_home_7 rfl hl (by decide) rfl (fun ls hl => ?_)
  refine lv_aload_n hx hb dX11_home_8 rfl (lv_at hl 1 rfl) ?_
  refine gt_X11_3 hC hP wf_X11_33 dX11_home_9 ?_
  refine lv_iconst (v := 0) hx hb dX11_home_12 (by decide) ?_
  refine pt_X5_0 hC hP hS wf_X11_256 h dX11_home_13 (fun σ2 H locs h hP hS => ?_)
  refine lv_iload_n hx hb dX11_home_16 rfl (lv_at hl 0 rfl) ?_
  exact r_retI hC hP hS rfl h dX11_home_17

set_option maxRecDepth 20000 in
theorem tI_home {l : Launch} (x : Wx) (al : Nat → Nat → Nat) (lv : Nat → Bool) (σ : Sg) (res : Int32 × Sg) (h : fI_home σ = some res) : Met l yX11_home (Cond.code yX11_home cX11_home 2 (some .int) :: lwg) (rmm 1 0 0) (va_Pc [.ref (al 6 0)] (Wd x al lv σ)) (QI x al lv res) 0 0 (Ab x) := by
  refine met_W (by decide) (Nat.le_of_ble_eq_true rfl) rfl (fun p e s m args below meth c ls hC hP hS hl => ?_)
  exact wI_home_0  hC σ  _ _ ls h hP hS hl
set_option maxHeartbeats 4000000 in
set_option maxRecDepth 20000 in
theorem wI_atWaysEnd_0 {p : Program} {l : Launch} {e : Env} {s : State} {m : MethodId} {args : Array Value} {below : List Frame} {meth : Method} {c : Code} {x : Wx} {al : Nat → Nat → Nat} {lv : Nat → Bool} {res : Int32} {σ : Sg} (hC : Cx x p s m args meth c cX11_atWaysEnd 2 (some .int) RX11) (v1 : Int32) (H : Heap) (locs : List Loc) (ls : Array Slot) (h : fI_atWaysEnd_0 σ v1 = some res) (hP : Pic x al lv σ H) (hS : va_S (Ab x) s.heap H locs) (hl : lv_has ls 2 [(0, .ref (al 6 0)), (1, .int v1)]) : W p l e (rmm 4 0 0) s m args below meth c H locs 0 0 (MQ below (QP x al lv σ res) args s 0 0 (Ab x)) (F0 m 0 ls []) := by
  obtain ⟨hx, hb, hml, hown, hts⟩ := hC.1
  unfold fI_atWaysEnd_0 at h
  refine lv_aload_n hx hb dX11_atWaysEnd_0 rfl (lv_at hl 0 rfl) ?_
  refine gt_X11_3 hC hP wf_X11_33 dX11_atWaysEnd_1 ?_
  refine lv_aload_n hx hb dX11_atWaysEnd_4 rfl (lv_at hl 0 rfl) ?_
  refine gt_X11_0 hC hP wf_X11_12 dX11_atWaysEnd_5 ?_
  refine gt_X10_6 (a := 0) h06 hP.l0 hC hP wf_X11_147 dX11_atWaysEnd_8 ?_
  refine gt_X0_1 (a := 0) h06 hP.l0 hC hP wf_X11_175 dX11_atWaysEnd_11 ?_
  refine lv_iload_n hx hb dX11_atWaysEnd_14 rfl (lv_at hl 1 rfl) ?_
  refine r_iald hC hP (aS_16 (a := 0) h06 hP.l0) h dX11_atWaysEnd_15 (fun h => ?_)
  refine lv_aload_n hx hb dX11_atWaysEnd_16 rfl (lv_at hl 0 rfl) ?_
  refine gt_X11_0 hC hP wf_X11_12 dX11_atWaysEnd_17 ?_
  refine gt_X10_6 (a := 0) h06 hP.l0 hC hP wf_X11_147 dX11_atWaysEnd_20 ?_
  refine gt_X0_2 (a := 0) h06 hP.l0 hC hP wf_X11_176 dX11_atWaysEnd_23 ?_
  refine lv_iload_n hx hb dX11_atWaysEnd_26 rfl (lv_at hl 1 rfl) ?_
  refine r_iald hC hP (aS_17 (a := 0) h06 hP.l0) h dX11_atWaysEnd_27 (fun h => ?_)
  refine lv_aload_n hx hb dX11_atWaysEnd_28 rfl (lv_at hl 0 rfl) ?_
  refine gt_X11_0 hC hP wf_X11_12 dX11_atWaysEnd_29 ?_
  refine gt_X10_0 (a := 0) h06 hP.l0 hC hP wf_X11_210 dX11_atWaysEnd_32 ?_
  refine lv_aload_n hx hb dX11_atWaysEnd_35 rfl (lv_at hl 0 rfl) ?_
  refine gt_X11_1 hC hP wf_X11_19 dX11_atWaysEnd_36 ?_
  refine lv_aload_n hx hb dX11_atWaysEnd_39 rfl (lv_at hl 0 rfl) ?_
  refine gt_X11_2 hC hP wf_X11_26 dX11_atWaysEnd_40 ?_
  refine gt_X6_2 hC hP wf_X11_207 dX11_atWaysEnd_43 ?_
  refine r_cP hS h (fun r hr => r_runV (As := [.int (σ 0 16 v1.toNatClampNeg), .int (σ 0 17 v1.toNatClampNeg), .int (σ 0 0 0), .ref (al 6 1), .int (σ 6 2 2)]) (rest := []) hC kV_X11_420 cw_X5_leaves (rc_X5 hC hP) hP (tJourney_leaves x al lv σ (σ 0 16 v1.toNatClampNeg) (σ 0 17 v1.toNatClampNeg) (σ 0 0 0) (σ 6 2 2) r hr) rfl hl.1 ⟨Nat.le_of_ble_eq_true rfl, Nat.le_of_ble_eq_true rfl⟩ ⟨Nat.le_of_ble_eq_true rfl, Nat.le_of_ble_eq_true rfl⟩ (Nat.le_of_ble_eq_true rfl) dX11_atWaysEnd_46) (fun y1 H locs h hP hS => ?_)
  exact r_retP hC hP hS rfl h dX11_atWaysEnd_49

set_option maxRecDepth 20000 in
theorem tI_atWaysEnd {l : Launch} (x : Wx) (al : Nat → Nat → Nat) (lv : Nat → Bool) (σ : Sg) (v1 : Int32) (res : Int32) (h : fI_atWaysEnd σ v1 = some res) : Met l yX11_atWaysEnd (Cond.code yX11_atWaysEnd cX11_atWaysEnd 2 (some .int) :: lwg) (rmm 4 0 0) (va_Pc [.ref (al 6 0), .int v1] (Wd x al lv σ)) (QP x al lv σ res) 0 0 (Ab x) := by
  refine met_W (by decide) (Nat.le_of_ble_eq_true rfl) rfl (fun p e s m args below meth c ls hC hP hS hl => ?_)
  exact wI_atWaysEnd_0  hC v1 _ _ ls h hP hS hl
set_option maxHeartbeats 4000000 in
set_option maxRecDepth 20000 in
theorem wI_putLiftedBack_2_b {p : Program} {l : Launch} {e : Env} {s : State} {m : MethodId} {args : Array Value} {below : List Frame} {meth : Method} {c : Code} {x : Wx} {al : Nat → Nat → Nat} {lv : Nat → Bool} {res : Sg} (hC : Cx x p s m args meth c cX11_putLiftedBack 2 none RX11) (k2 : Sg → Int32 → Option (Sg)) (hk2 : ∀ (σ : Sg) (x1 : Int32) (H : Heap) (locs : List Loc) (ls : Array Slot), k2 σ x1 = some res → Pic x al lv σ H → va_S (Ab x) s.heap H locs → lv_has ls 2 [(0, .ref (al 6 0)), (1, .int x1)] → W p l e (rmm 5 0 0) s m args below meth c H locs 0 0 (MQ below (QV x al lv res) args s 0 0 (Ab x)) (F0 m 2 ls [])) (σ : Sg) (x1 : Int32) (H : Heap) (locs : List Loc) (ls : Array Slot) (h : fI_putLiftedBack_2_b k2 σ x1 = some res) (hP : Pic x al lv σ H) (hS : va_S (Ab x) s.heap H locs) (hl : lv_has ls 2 [(0, .ref (al 6 0)), (1, .int x1)]) : W p l e (rmm 5 0 0) s m args below meth c H locs 0 0 (MQ below (QV x al lv res) args s 0 0 (Ab x)) (F0 m 2 ls []) := by
  obtain ⟨hx, hb, hml, hown, hts⟩ := hC.1
  unfold fI_putLiftedBack_2_b at h
  refine lv_iload_n hx hb dX11_putLiftedBack_2 rfl (lv_at hl 1 rfl) ?_
  refine lv_aload_n hx hb dX11_putLiftedBack_3 rfl (lv_at hl 0 rfl) ?_
  refine gt_X11_9 hC hP wf_X11_281 dX11_putLiftedBack_4 ?_
  refine lv_icmp_ge (tgt := 29) hx hb dX11_putLiftedBack_7 (by decide) (fun hc => ?_) (fun hc => ?_)
  · replace h := (br h).1 hc
    exact r_retV hC hP hS h dX11_putLiftedBack_29
  · replace h := (br h).2 hc
    refine lv_aload_n hx hb dX11_putLiftedBack_10 rfl (lv_at hl 0 rfl) ?_
    refine gt_X11_0 hC hP wf_X11_12 dX11_putLiftedBack_11 ?_
    refine lv_aload_n hx hb dX11_putLiftedBack_14 rfl (lv_at hl 0 rfl) ?_
    refine gt_X11_6 hC hP wf_X11_48 dX11_putLiftedBack_15 ?_
    refine lv_iload_n hx hb dX11_putLiftedBack_18 rfl (lv_at hl 1 rfl) ?_
    refine r_iald hC hP (aI_6 hP.l6) h dX11_putLiftedBack_19 (fun h => ?_)
    refine r_cV hS h (fun r hr => r_runV (As := [.int (σ 6 6 x1.toNatClampNeg)]) (rest := []) hC kV_X11_426 cw_X10_layDown (rc_X10 (a := 0) h06 hP.l0 hC hP) hP (tStore_layDown x al lv σ 0 h06 hP.l0 (σ 6 6 x1.toNatClampNeg) r hr) rfl hl.1 ⟨Nat.le_of_ble_eq_true rfl, Nat.le_of_ble_eq_true rfl⟩ ⟨Nat.le_of_ble_eq_true rfl, Nat.le_of_ble_eq_true rfl⟩ (Nat.le_of_ble_eq_true rfl) dX11_putLiftedBack_20) (fun σ1 H locs h hP hS => ?_)
    refine r_iinc (v := 1) hC h dX11_putLiftedBack_23 hl (k := 1) rfl rfl (by decide) (fun y2 => [(1, .int y2), (0, .ref (al 6 0))]) (fun _ => rfl) (fun y2 ls h hl => ?_)
    refine lv_goto (tgt := 2) hx hb dX11_putLiftedBack_26 (by decide) ?_
    exact hk2 σ1 y2 H locs ls h hP hS (lv_sub hl [1, 0] rfl)

set_option maxHeartbeats 4000000 in
set_option maxRecDepth 20000 in
theorem wI_putLiftedBack_2 {p : Program} {l : Launch} {e : Env} {s : State} {m : MethodId} {args : Array Value} {below : List Frame} {meth : Method} {c : Code} {x : Wx} {al : Nat → Nat → Nat} {lv : Nat → Bool} {res : Sg} (hC : Cx x p s m args meth c cX11_putLiftedBack 2 none RX11) (n : Nat) (σ : Sg) (x1 : Int32) (H : Heap) (locs : List Loc) (ls : Array Slot) (h : fI_putLiftedBack_2 n σ x1 = some res) (hP : Pic x al lv σ H) (hS : va_S (Ab x) s.heap H locs) (hl : lv_has ls 2 [(0, .ref (al 6 0)), (1, .int x1)]) : W p l e (rmm 5 0 0) s m args below meth c H locs 0 0 (MQ below (QV x al lv res) args s 0 0 (Ab x)) (F0 m 2 ls []) := by
  induction n generalizing σ x1 H locs ls with
  | zero => exact nomatch h
  | succ n ih => exact wI_putLiftedBack_2_b  hC  _ (fun σ x1 H locs ls h hP hS hl => ih σ x1 H locs ls h hP hS hl) σ x1 H locs ls h hP hS hl
set_option maxHeartbeats 4000000 in
set_option maxRecDepth 20000 in
theorem wI_putLiftedBack_0 {p : Program} {l : Launch} {e : Env} {s : State} {m : MethodId} {args : Array Value} {below : List Frame} {meth : Method} {c : Code} {x : Wx} {al : Nat → Nat → Nat} {lv : Nat → Bool} {res : Sg} (hC : Cx x p s m args meth c cX11_putLiftedBack 2 none RX11) (σ : Sg) (H : Heap) (locs : List Loc) (ls : Array Slot) (h : fI_putLiftedBack_0 σ = some res) (hP : Pic x al lv σ H) (hS : va_S (Ab x) s.heap H locs) (hl : lv_has ls 2 [(0, .ref (al 6 0))]) : W p l e (rmm 5 0 0) s m args below meth c H locs 0 0 (MQ below (QV x al lv res) args s 0 0 (Ab x)) (F0 m 0 ls []) := by
  obtain ⟨hx, hb, hml, hown, hts⟩ := hC.1
  unfold fI_putLiftedBack_0 at h
  refine lv_iconst (v := 0) hx hb dX11_putLiftedBack_0 (by decide) ?_
  refine lv_istore_n (lv' := [(1, .int 0), (0, .ref (al 6 0))]) hx hb dX11_putLiftedBack_1 rfl hl (by decide) rfl (fun ls hl => ?_)
  exact wI_putLiftedBack_2  hC  FU σ 0 H locs ls h hP hS (lv_sub hl [1, 0] rfl)

set_option maxRecDepth 20000 in
theorem tI_putLiftedBack {l : Launch} (x : Wx) (al : Nat → Nat → Nat) (lv : Nat → Bool) (σ : Sg) (res : Sg) (h : fI_putLiftedBack σ = some res) : Met l yX11_putLiftedBack (Cond.code yX11_putLiftedBack cX11_putLiftedBack 2 none :: lwg) (rmm 5 0 0) (va_Pc [.ref (al 6 0)] (Wd x al lv σ)) (QV x al lv res) 0 0 (Ab x) := by
  refine met_W (by decide) (Nat.le_of_ble_eq_true rfl) rfl (fun p e s m args below meth c ls hC hP hS hl => ?_)
  exact wI_putLiftedBack_0  hC σ  _ _ ls h hP hS hl
set_option maxHeartbeats 4000000 in
set_option maxRecDepth 20000 in
theorem wI_comes_47_b {p : Program} {l : Launch} {e : Env} {s : State} {m : MethodId} {args : Array Value} {below : List Frame} {meth : Method} {c : Code} {x : Wx} {al : Nat → Nat → Nat} {lv : Nat → Bool} {res : Int32 × Sg} (hC : Cx x p s m args meth c cX11_comes 5 (some .int) RX11) (k47 : Sg → Int32 → Int32 → Option (Int32 × Sg)) (hk47 : ∀ (σ : Sg) (x3 : Int32) (x4 : Int32) (H : Heap) (locs : List Loc) (ls : Array Slot), k47 σ x3 x4 = some res → Pic x al lv σ H → va_S (Ab x) s.heap H locs → lv_has ls 5 [(0, .ref (al 6 0)), (3, .int x3), (4, .int x4)] → W p l e (rmm 7 0 0) s m args below meth c H locs 0 0 (MQ below (QI x al lv res) args s 0 0 (Ab x)) (F0 m 47 ls [])) (σ : Sg) (x3 : Int32) (x4 : Int32) (H : Heap) (locs : List Loc) (ls : Array Slot) (h : fI_comes_47_b k47 σ x3 x4 = some res) (hP : Pic x al lv σ H) (hS : va_S (Ab x) s.heap H locs) (hl : lv_has ls 5 [(0, .ref (al 6 0)), (3, .int x3), (4, .int x4)]) : W p l e (rmm 7 0 0) s m args below meth c H locs 0 0 (MQ below (QI x al lv res) args s 0 0 (Ab x)) (F0 m 47 ls []) := by
  obtain ⟨hx, hb, hml, hown, hts⟩ := hC.1
  unfold fI_comes_47_b at h
  refine lv_iload hx hb dX11_comes_47 (lv_at hl 2 rfl) ?_
  refine lv_aload_n hx hb dX11_comes_49 rfl (lv_at hl 0 rfl) ?_
  refine gt_X11_9 hC hP wf_X11_281 dX11_comes_50 ?_
  refine lv_icmp_ge (tgt := 76) hx hb dX11_comes_53 (by decide) (fun hc => ?_) (fun hc => ?_)
  · replace h := (br h).1 hc
    refine lv_aload_n hx hb dX11_comes_76 rfl (lv_at hl 0 rfl) ?_
    refine r_cV hS h (fun r hr => r_runV (As := []) (rest := []) hC kV_X11_287 cw_X11_putLiftedBack (rc_X11 hC hP) hP (tI_putLiftedBack x al lv σ  r hr) rfl hl.1 ⟨Nat.le_of_ble_eq_true rfl, Nat.le_of_ble_eq_true rfl⟩ ⟨Nat.le_of_ble_eq_true rfl, Nat.le_of_ble_eq_true rfl⟩ (Nat.le_of_ble_eq_true rfl) dX11_comes_77) (fun σ5 H locs h hP hS => ?_)
    refine lv_iload_n hx hb dX11_comes_80 rfl (lv_at hl 1 rfl) ?_
    exact r_retI hC hP hS rfl h dX11_comes_81
  · replace h := (br h).2 hc
    refine lv_iload_n hx hb dX11_comes_56 rfl (lv_at hl 1 rfl) ?_
    refine lv_aload_n hx hb dX11_comes_57 rfl (lv_at hl 0 rfl) ?_
    refine lv_aload_n hx hb dX11_comes_58 rfl (lv_at hl 0 rfl) ?_
    refine gt_X11_6 hC hP wf_X11_48 dX11_comes_59 ?_
    refine lv_iload hx hb dX11_comes_62 (lv_at hl 2 rfl) ?_
    refine r_iald hC hP (aI_6 hP.l6) h dX11_comes_64 (fun h => ?_)
    refine r_cP hS h (fun r hr => r_runV (As := [.int (σ 6 6 x4.toNatClampNeg)]) (rest := [.int x3]) hC kV_X11_284 cw_X11_atWaysEnd (rc_X11 hC hP) hP (tI_atWaysEnd x al lv σ (σ 6 6 x4.toNatClampNeg) r hr) rfl hl.1 ⟨Nat.le_of_ble_eq_true rfl, Nat.le_of_ble_eq_true rfl⟩ ⟨Nat.le_of_ble_eq_true rfl, Nat.le_of_ble_eq_true rfl⟩ (Nat.le_of_ble_eq_true rfl) dX11_comes_65) (fun y6 H locs h hP hS => ?_)
    refine lv_iadd hx hb dX11_comes_68 ?_
    refine r_lt h (fun y7 h => ?_)
    refine lv_istore_n (lv' := [(3, .int y7), (0, .ref (al 6 0)), (4, .int x4)]) hx hb dX11_comes_69 rfl hl (by decide) rfl (fun ls hl => ?_)
    refine r_iinc (v := 1) hC h dX11_comes_70 hl (k := 2) rfl rfl (by decide) (fun y8 => [(4, .int y8), (3, .int y7), (0, .ref (al 6 0))]) (fun _ => rfl) (fun y8 ls h hl => ?_)
    refine lv_goto (tgt := 47) hx hb dX11_comes_73 (by decide) ?_
    exact hk47 σ y7 y8 H locs ls h hP hS (lv_sub hl [2, 1, 0] rfl)

set_option maxHeartbeats 4000000 in
set_option maxRecDepth 20000 in
theorem wI_comes_47 {p : Program} {l : Launch} {e : Env} {s : State} {m : MethodId} {args : Array Value} {below : List Frame} {meth : Method} {c : Code} {x : Wx} {al : Nat → Nat → Nat} {lv : Nat → Bool} {res : Int32 × Sg} (hC : Cx x p s m args meth c cX11_comes 5 (some .int) RX11) (n : Nat) (σ : Sg) (x3 : Int32) (x4 : Int32) (H : Heap) (locs : List Loc) (ls : Array Slot) (h : fI_comes_47 n σ x3 x4 = some res) (hP : Pic x al lv σ H) (hS : va_S (Ab x) s.heap H locs) (hl : lv_has ls 5 [(0, .ref (al 6 0)), (3, .int x3), (4, .int x4)]) : W p l e (rmm 7 0 0) s m args below meth c H locs 0 0 (MQ below (QI x al lv res) args s 0 0 (Ab x)) (F0 m 47 ls []) := by
  induction n generalizing σ x3 x4 H locs ls with
  | zero => exact nomatch h
  | succ n ih => exact wI_comes_47_b  hC  _ (fun σ x3 x4 H locs ls h hP hS hl => ih σ x3 x4 H locs ls h hP hS hl) σ x3 x4 H locs ls h hP hS hl
set_option maxHeartbeats 4000000 in
set_option maxRecDepth 20000 in
theorem wI_comes_0 {p : Program} {l : Launch} {e : Env} {s : State} {m : MethodId} {args : Array Value} {below : List Frame} {meth : Method} {c : Code} {x : Wx} {al : Nat → Nat → Nat} {lv : Nat → Bool} {res : Int32 × Sg} (hC : Cx x p s m args meth c cX11_comes 5 (some .int) RX11) (σ : Sg) (v1 : Int32) (v2 : Int32) (H : Heap) (locs : List Loc) (ls : Array Slot) (h : fI_comes_0 σ v1 v2 = some res) (hP : Pic x al lv σ H) (hS : va_S (Ab x) s.heap H locs) (hl : lv_has ls 5 [(0, .ref (al 6 0)), (1, .int v1), (2, .int v2)]) : W p l e (rmm 7 0 0) s m args below meth c H locs 0 0 (MQ below (QI x al lv res) args s 0 0 (Ab x)) (F0 m 0 ls []) := by
  obtain ⟨hx, hb, hml, hown, hts⟩ := hC.1
  unfold fI_comes_0 at h
  refine lv_iload_n hx hb dX11_comes_0 rfl (lv_at hl 2 rfl) ?_
  refine lv_iconst (v := 0) hx hb dX11_comes_1 (by decide) ?_
  refine lv_sipush (v := 300) hx hb dX11_comes_2 (by decide) ?_
  refine r_cP hS h (fun r hr => r_runS (As := [.int v2, .int 0, .int 300]) (rest := []) hC kS_X11_68 cw_X11_within hP (tI_within x al lv σ v2 0 300 r hr) rfl hl.1 ⟨Nat.le_of_ble_eq_true rfl, Nat.le_of_ble_eq_true rfl⟩ ⟨Nat.le_of_ble_eq_true rfl, Nat.le_of_ble_eq_true rfl⟩ (Nat.le_of_ble_eq_true rfl) dX11_comes_5) (fun y1 H locs h hP hS => ?_)
  refine lv_if_ne (tgt := 13) hx hb dX11_comes_8 (by decide) (fun hc => ?_) (fun hc => ?_)
  · replace h := (br h).2 hc
    refine lv_aload_n hx hb dX11_comes_13 rfl (lv_at hl 0 rfl) ?_
    refine gt_X11_0 hC hP wf_X11_12 dX11_comes_14 ?_
    refine gt_X10_5 (a := 0) h06 hP.l0 hC hP wf_X11_58 dX11_comes_17 ?_
    refine lv_iload_n hx hb dX11_comes_20 rfl (lv_at hl 1 rfl) ?_
    refine r_cP hS h (fun r hr => r_runV (As := [.int v1]) (rest := []) hC kV_X11_62 cw_X8_has (rc_X8 (a := 0) h06 hP.l0 hC hP) hP (tRooms_has x al lv σ 0 h06 hP.l0 v1 r hr) rfl hl.1 ⟨Nat.le_of_ble_eq_true rfl, Nat.le_of_ble_eq_true rfl⟩ ⟨Nat.le_of_ble_eq_true rfl, Nat.le_of_ble_eq_true rfl⟩ (Nat.le_of_ble_eq_true rfl) dX11_comes_21) (fun y2 H locs h hP hS => ?_)
    refine lv_if_ne (tgt := 30) hx hb dX11_comes_24 (by decide) (fun hc => ?_) (fun hc => ?_)
    · replace h := (br h).2 hc
      refine lv_aload_n hx hb dX11_comes_30 rfl (lv_at hl 0 rfl) ?_
      refine lv_iload_n hx hb dX11_comes_31 rfl (lv_at hl 1 rfl) ?_
      refine lv_iload_n hx hb dX11_comes_32 rfl (lv_at hl 2 rfl) ?_
      refine r_cI hS h (fun r hr => r_runV (As := [.int v1, .int v2]) (rest := []) hC kV_X11_272 cw_X11_lift (rc_X11 hC hP) hP (tI_lift x al lv σ v1 v2 r hr) rfl hl.1 ⟨Nat.le_of_ble_eq_true rfl, Nat.le_of_ble_eq_true rfl⟩ ⟨Nat.le_of_ble_eq_true rfl, Nat.le_of_ble_eq_true rfl⟩ (Nat.le_of_ble_eq_true rfl) dX11_comes_33) (fun y3 σ4 H locs h hP hS => ?_)
      refine lv_if_ne (tgt := 42) hx hb dX11_comes_36 (by decide) (fun hc => ?_) (fun hc => ?_)
      · replace h := (br h).2 hc
        refine lv_iconst (v := 0) hx hb dX11_comes_42 (by decide) ?_
        refine lv_istore_n (lv' := [(3, .int 0), (0, .ref (al 6 0)), (1, .int v1), (2, .int v2)]) hx hb dX11_comes_43 rfl hl (by decide) rfl (fun ls hl => ?_)
        refine lv_iconst (v := 0) hx hb dX11_comes_44 (by decide) ?_
        refine lv_istore (lv' := [(4, .int 0), (3, .int 0), (0, .ref (al 6 0)), (1, .int v1), (2, .int v2)]) hx hb dX11_comes_45 hl (by decide) rfl (fun ls hl => ?_)
        exact wI_comes_47  hC  FU σ4 0 0 H locs ls h hP hS (lv_sub hl [2, 1, 0] rfl)
      · replace h := (br h).1 hc
        refine lv_bipush (v := (-6)) hx hb dX11_comes_39 (by decide) ?_
        exact r_retI hC hP hS rfl h dX11_comes_41
    · replace h := (br h).1 hc
      refine lv_bipush (v := (-2)) hx hb dX11_comes_27 (by decide) ?_
      exact r_retI hC hP hS rfl h dX11_comes_29
  · replace h := (br h).1 hc
    refine lv_iconst (v := (-1)) hx hb dX11_comes_11 (by decide) ?_
    exact r_retI hC hP hS rfl h dX11_comes_12

set_option maxRecDepth 20000 in
theorem tI_comes {l : Launch} (x : Wx) (al : Nat → Nat → Nat) (lv : Nat → Bool) (σ : Sg) (v1 : Int32) (v2 : Int32) (res : Int32 × Sg) (h : fI_comes σ v1 v2 = some res) : Met l yX11_comes (Cond.code yX11_comes cX11_comes 5 (some .int) :: lwg) (rmm 7 0 0) (va_Pc [.ref (al 6 0), .int v1, .int v2] (Wd x al lv σ)) (QI x al lv res) 0 0 (Ab x) := by
  refine met_W (by decide) (Nat.le_of_ble_eq_true rfl) rfl (fun p e s m args below meth c ls hC hP hS hl => ?_)
  exact wI_comes_0  hC σ v1 v2 _ _ ls h hP hS hl
