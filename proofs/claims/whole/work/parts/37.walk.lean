set_option maxHeartbeats 4000000 in
set_option maxRecDepth 20000 in
theorem wPacker_chooseOneByOne_65 {p : Program} {l : Launch} {e : Env} {s : State} {m : MethodId} {args : Array Value} {below : List Frame} {meth : Method} {c : Code} {x : Wx} {al : Nat → Nat → Nat} {lv : Nat → Bool} {res : Sg} (hl10 : lv 10 = true) (hC : Cx x p s m args meth c cX7_chooseOneByOne 6 none RX7) (k15 : Sg → Int32 → Int32 → Int32 → Int32 → Int32 → Option (Sg)) (hk15 : ∀ (σ : Sg) (x1 : Int32) (x2 : Int32) (x3 : Int32) (x4 : Int32) (x5 : Int32) (H : Heap) (locs : List Loc) (ls : Array Slot), k15 σ x1 x2 x3 x4 x5 = some res → Pic x al lv σ H → va_S (Ab x) s.heap H locs → lv_has ls 6 [(0, .ref (al 10 0)), (1, .int x1), (2, .int x2), (3, .int x3), (4, .int x4), (5, .int x5)] → W p l e (rmm 3 0 0) s m args below meth c H locs 0 0 (MQ below (QV x al lv res) args s 0 0 (Ab x)) (F0 m 15 ls [])) (σ : Sg) (x1 : Int32) (x2 : Int32) (x3 : Int32) (x4 : Int32) (x5 : Int32) (H : Heap) (locs : List Loc) (ls : Array Slot) (h : fPacker_chooseOneByOne_65 k15 σ x1 x2 x3 x4 x5 = some res) (hP : Pic x al lv σ H) (hS : va_S (Ab x) s.heap H locs) (hl : lv_has ls 6 [(0, .ref (al 10 0)), (1, .int x1), (2, .int x2), (3, .int x3), (4, .int x4), (5, .int x5)]) : W p l e (rmm 3 0 0) s m args below meth c H locs 0 0 (MQ below (QV x al lv res) args s 0 0 (Ab x)) (F0 m 65 ls []) := by
  obtain ⟨hx, hb, hml, hown, hts⟩ := hC.1
  unfold fPacker_chooseOneByOne_65 at h
  refine r_iinc (v := 1) hC h dX7_chooseOneByOne_65 hl (k := 5) rfl rfl (by decide) (fun y5 => [(5, .int y5), (0, .ref (al 10 0)), (1, .int x1), (2, .int x2), (3, .int x3), (4, .int x4)]) (fun _ => rfl) (fun y5 ls h hl => ?_)
  refine lv_goto (tgt := 15) hx hb dX7_chooseOneByOne_68 (by decide) ?_
  exact hk15 σ x1 x2 x3 x4 y5 H locs ls h hP hS (lv_sub hl [1, 2, 3, 4, 5, 0] rfl)

set_option maxHeartbeats 4000000 in
set_option maxRecDepth 20000 in
theorem wPacker_chooseOneByOne_83 {p : Program} {l : Launch} {e : Env} {s : State} {m : MethodId} {args : Array Value} {below : List Frame} {meth : Method} {c : Code} {x : Wx} {al : Nat → Nat → Nat} {lv : Nat → Bool} {res : Sg} (hl10 : lv 10 = true) (hC : Cx x p s m args meth c cX7_chooseOneByOne 6 none RX7) (k2 : Sg → Int32 → Int32 → Option (Sg)) (hk2 : ∀ (σ : Sg) (x1 : Int32) (x2 : Int32) (H : Heap) (locs : List Loc) (ls : Array Slot), k2 σ x1 x2 = some res → Pic x al lv σ H → va_S (Ab x) s.heap H locs → lv_has ls 6 [(0, .ref (al 10 0)), (1, .int x1), (2, .int x2)] → W p l e (rmm 3 0 0) s m args below meth c H locs 0 0 (MQ below (QV x al lv res) args s 0 0 (Ab x)) (F0 m 2 ls [])) (σ : Sg) (x1 : Int32) (x2 : Int32) (H : Heap) (locs : List Loc) (ls : Array Slot) (h : fPacker_chooseOneByOne_83 k2 σ x1 x2 = some res) (hP : Pic x al lv σ H) (hS : va_S (Ab x) s.heap H locs) (hl : lv_has ls 6 [(0, .ref (al 10 0)), (1, .int x1), (2, .int x2)]) : W p l e (rmm 3 0 0) s m args below meth c H locs 0 0 (MQ below (QV x al lv res) args s 0 0 (Ab x)) (F0 m 83 ls []) := by
  obtain ⟨hx, hb, hml, hown, hts⟩ := hC.1
  unfold fPacker_chooseOneByOne_83 at h
  refine r_iinc (v := 1) hC h dX7_chooseOneByOne_83 hl (k := 2) rfl rfl (by decide) (fun y6 => [(2, .int y6), (0, .ref (al 10 0)), (1, .int x1)]) (fun _ => rfl) (fun y6 ls h hl => ?_)
  refine lv_goto (tgt := 2) hx hb dX7_chooseOneByOne_86 (by decide) ?_
  exact hk2 σ x1 y6 H locs ls h hP hS (lv_sub hl [1, 2, 0] rfl)

set_option maxHeartbeats 4000000 in
set_option maxRecDepth 20000 in
theorem wPacker_chooseOneByOne_15_b {p : Program} {l : Launch} {e : Env} {s : State} {m : MethodId} {args : Array Value} {below : List Frame} {meth : Method} {c : Code} {x : Wx} {al : Nat → Nat → Nat} {lv : Nat → Bool} {res : Sg} (hl10 : lv 10 = true) (hC : Cx x p s m args meth c cX7_chooseOneByOne 6 none RX7) (k2 : Sg → Int32 → Int32 → Option (Sg)) (hk2 : ∀ (σ : Sg) (x1 : Int32) (x2 : Int32) (H : Heap) (locs : List Loc) (ls : Array Slot), k2 σ x1 x2 = some res → Pic x al lv σ H → va_S (Ab x) s.heap H locs → lv_has ls 6 [(0, .ref (al 10 0)), (1, .int x1), (2, .int x2)] → W p l e (rmm 3 0 0) s m args below meth c H locs 0 0 (MQ below (QV x al lv res) args s 0 0 (Ab x)) (F0 m 2 ls [])) (k15 : Sg → Int32 → Int32 → Int32 → Int32 → Int32 → Option (Sg)) (hk15 : ∀ (σ : Sg) (x1 : Int32) (x2 : Int32) (x3 : Int32) (x4 : Int32) (x5 : Int32) (H : Heap) (locs : List Loc) (ls : Array Slot), k15 σ x1 x2 x3 x4 x5 = some res → Pic x al lv σ H → va_S (Ab x) s.heap H locs → lv_has ls 6 [(0, .ref (al 10 0)), (1, .int x1), (2, .int x2), (3, .int x3), (4, .int x4), (5, .int x5)] → W p l e (rmm 3 0 0) s m args below meth c H locs 0 0 (MQ below (QV x al lv res) args s 0 0 (Ab x)) (F0 m 15 ls [])) (σ : Sg) (x1 : Int32) (x2 : Int32) (x3 : Int32) (x4 : Int32) (x5 : Int32) (H : Heap) (locs : List Loc) (ls : Array Slot) (h : fPacker_chooseOneByOne_15_b k2 k15 σ x1 x2 x3 x4 x5 = some res) (hP : Pic x al lv σ H) (hS : va_S (Ab x) s.heap H locs) (hl : lv_has ls 6 [(0, .ref (al 10 0)), (1, .int x1), (2, .int x2), (3, .int x3), (4, .int x4), (5, .int x5)]) : W p l e (rmm 3 0 0) s m args below meth c H locs 0 0 (MQ below (QV x al lv res) args s 0 0 (Ab x)) (F0 m 15 ls []) := by
  obtain ⟨hx, hb, hml, hown, hts⟩ := hC.1
  unfold fPacker_chooseOneByOne_15_b at h
  refine lv_iload hx hb dX7_chooseOneByOne_15 (lv_at hl 5 rfl) ?_
  refine lv_aload_n hx hb dX7_chooseOneByOne_17 rfl (lv_at hl 0 rfl) ?_
  refine gt_X7_3 hl10 hC hP wf_X7_50 dX7_chooseOneByOne_18 ?_
  refine lv_icmp_ge (tgt := 71) hx hb dX7_chooseOneByOne_21 (by decide) (fun hc => ?_) (fun hc => ?_)
  · replace h := (br h).1 hc
    refine lv_iload_n hx hb dX7_chooseOneByOne_71 rfl (lv_at hl 3 rfl) ?_
    refine lv_iconst (v := (-1)) hx hb dX7_chooseOneByOne_72 (by decide) ?_
    refine lv_icmp_eq (tgt := 83) hx hb dX7_chooseOneByOne_73 (by decide) (fun hc => ?_) (fun hc => ?_)
    · replace h := (br h).1 hc
      exact wPacker_chooseOneByOne_83 hl10 hC k2 hk2 σ x1 x2 H locs ls h hP hS (lv_sub hl [0, 1, 2] rfl)
    · replace h := (br h).2 hc
      refine lv_aload_n hx hb dX7_chooseOneByOne_76 rfl (lv_at hl 0 rfl) ?_
      refine gt_X7_5 hl10 hC hP wf_X7_9 dX7_chooseOneByOne_77 ?_
      refine lv_iload_n hx hb dX7_chooseOneByOne_80 rfl (lv_at hl 3 rfl) ?_
      refine lv_iconst (v := 1) hx hb dX7_chooseOneByOne_81 (by decide) ?_
      refine r_zast hC hP hS (aP_1 hl10) h dX7_chooseOneByOne_82 (fun σ1 H locs h hP hS => ?_)
      exact wPacker_chooseOneByOne_83 hl10 hC k2 hk2 σ1 x1 x2 H locs ls h hP hS (lv_sub hl [0, 1, 2] rfl)
  · replace h := (br h).2 hc
    refine lv_aload_n hx hb dX7_chooseOneByOne_24 rfl (lv_at hl 0 rfl) ?_
    refine gt_X7_5 hl10 hC hP wf_X7_9 dX7_chooseOneByOne_25 ?_
    refine lv_iload hx hb dX7_chooseOneByOne_28 (lv_at hl 5 rfl) ?_
    refine r_zald hC hP (aP_1 hl10) h dX7_chooseOneByOne_30 (fun h => ?_)
    refine lv_if_ne (tgt := 65) hx hb dX7_chooseOneByOne_31 (by decide) (fun hc => ?_) (fun hc => ?_)
    · replace h := (br h).2 hc
      exact wPacker_chooseOneByOne_65 hl10 hC k15 hk15 σ x1 x2 x3 x4 x5 H locs ls h hP hS (lv_sub hl [0, 1, 2, 3, 4, 5] rfl)
    · replace h := (br h).1 hc
      refine lv_aload_n hx hb dX7_chooseOneByOne_34 rfl (lv_at hl 0 rfl) ?_
      refine lv_iload hx hb dX7_chooseOneByOne_35 (lv_at hl 5 rfl) ?_
      refine r_cP hS h (fun r hr => r_runV (As := [.int x5]) (rest := []) hC kV_X7_66 cw_X7_bears (rc_X7 hl10 hC hP) hP (tPacker_bears x al lv σ hl10 x5 r hr) rfl hl.1 ⟨Nat.le_of_ble_eq_true rfl, Nat.le_of_ble_eq_true rfl⟩ ⟨Nat.le_of_ble_eq_true rfl, Nat.le_of_ble_eq_true rfl⟩ (Nat.le_of_ble_eq_true rfl) dX7_chooseOneByOne_37) (fun y2 H locs h hP hS => ?_)
      refine lv_if_eq (tgt := 65) hx hb dX7_chooseOneByOne_40 (by decide) (fun hc => ?_) (fun hc => ?_)
      · replace h := (br h).1 hc
        exact wPacker_chooseOneByOne_65 hl10 hC k15 hk15 σ x1 x2 x3 x4 x5 H locs ls h hP hS (lv_sub hl [0, 1, 2, 3, 4, 5] rfl)
      · replace h := (br h).2 hc
        refine lv_aload_n hx hb dX7_chooseOneByOne_43 rfl (lv_at hl 0 rfl) ?_
        refine lv_iload hx hb dX7_chooseOneByOne_44 (lv_at hl 5 rfl) ?_
        refine r_cP hS h (fun r hr => r_runV (As := [.int x5]) (rest := []) hC kV_X7_70 cw_X7_sidesShut (rc_X7 hl10 hC hP) hP (tPacker_sidesShut x al lv σ hl10 x5 r hr) rfl hl.1 ⟨Nat.le_of_ble_eq_true rfl, Nat.le_of_ble_eq_true rfl⟩ ⟨Nat.le_of_ble_eq_true rfl, Nat.le_of_ble_eq_true rfl⟩ (Nat.le_of_ble_eq_true rfl) dX7_chooseOneByOne_46) (fun y3 H locs h hP hS => ?_)
        refine lv_iload hx hb dX7_chooseOneByOne_49 (lv_at hl 4 rfl) ?_
        refine lv_icmp_le (tgt := 65) hx hb dX7_chooseOneByOne_51 (by decide) (fun hc => ?_) (fun hc => ?_)
        · replace h := (br h).1 hc
          exact wPacker_chooseOneByOne_65 hl10 hC k15 hk15 σ x1 x2 x3 x4 x5 H locs ls h hP hS (lv_sub hl [0, 1, 2, 3, 4, 5] rfl)
        · replace h := (br h).2 hc
          refine lv_iload hx hb dX7_chooseOneByOne_54 (lv_at hl 5 rfl) ?_
          refine lv_istore_n (lv' := [(3, .int x5), (0, .ref (al 10 0)), (1, .int x1), (2, .int x2), (4, .int x4), (5, .int x5)]) hx hb dX7_chooseOneByOne_56 rfl hl (by decide) rfl (fun ls hl => ?_)
          refine lv_aload_n hx hb dX7_chooseOneByOne_57 rfl (lv_at hl 1 rfl) ?_
          refine lv_iload hx hb dX7_chooseOneByOne_58 (lv_at hl 5 rfl) ?_
          refine r_cP hS h (fun r hr => r_runV (As := [.int x5]) (rest := []) hC kV_X7_70 cw_X7_sidesShut (rc_X7 hl10 hC hP) hP (tPacker_sidesShut x al lv σ hl10 x5 r hr) rfl hl.1 ⟨Nat.le_of_ble_eq_true rfl, Nat.le_of_ble_eq_true rfl⟩ ⟨Nat.le_of_ble_eq_true rfl, Nat.le_of_ble_eq_true rfl⟩ (Nat.le_of_ble_eq_true rfl) dX7_chooseOneByOne_60) (fun y4 H locs h hP hS => ?_)
          refine lv_istore (lv' := [(4, .int y4), (3, .int x5), (0, .ref (al 10 0)), (1, .int x1), (2, .int x2), (5, .int x5)]) hx hb dX7_chooseOneByOne_63 hl (by decide) rfl (fun ls hl => ?_)
          exact wPacker_chooseOneByOne_65 hl10 hC k15 hk15 σ x1 x2 x5 y4 x5 H locs ls h hP hS (lv_sub hl [2, 3, 4, 1, 0, 5] rfl)

set_option maxHeartbeats 4000000 in
set_option maxRecDepth 20000 in
theorem wPacker_chooseOneByOne_15 {p : Program} {l : Launch} {e : Env} {s : State} {m : MethodId} {args : Array Value} {below : List Frame} {meth : Method} {c : Code} {x : Wx} {al : Nat → Nat → Nat} {lv : Nat → Bool} {res : Sg} (hl10 : lv 10 = true) (hC : Cx x p s m args meth c cX7_chooseOneByOne 6 none RX7) (k2 : Sg → Int32 → Int32 → Option (Sg)) (hk2 : ∀ (σ : Sg) (x1 : Int32) (x2 : Int32) (H : Heap) (locs : List Loc) (ls : Array Slot), k2 σ x1 x2 = some res → Pic x al lv σ H → va_S (Ab x) s.heap H locs → lv_has ls 6 [(0, .ref (al 10 0)), (1, .int x1), (2, .int x2)] → W p l e (rmm 3 0 0) s m args below meth c H locs 0 0 (MQ below (QV x al lv res) args s 0 0 (Ab x)) (F0 m 2 ls [])) (n : Nat) (σ : Sg) (x1 : Int32) (x2 : Int32) (x3 : Int32) (x4 : Int32) (x5 : Int32) (H : Heap) (locs : List Loc) (ls : Array Slot) (h : fPacker_chooseOneByOne_15 k2 n σ x1 x2 x3 x4 x5 = some res) (hP : Pic x al lv σ H) (hS : va_S (Ab x) s.heap H locs) (hl : lv_has ls 6 [(0, .ref (al 10 0)), (1, .int x1), (2, .int x2), (3, .int x3), (4, .int x4), (5, .int x5)]) : W p l e (rmm 3 0 0) s m args below meth c H locs 0 0 (MQ below (QV x al lv res) args s 0 0 (Ab x)) (F0 m 15 ls []) := by
  induction n generalizing σ x1 x2 x3 x4 x5 H locs ls with
  | zero => exact nomatch h
  | succ n ih => exact wPacker_chooseOneByOne_15_b hl10 hC k2 hk2 _ (fun σ x1 x2 x3 x4 x5 H locs ls h hP hS hl => ih σ x1 x2 x3 x4 x5 H locs ls h hP hS hl) σ x1 x2 x3 x4 x5 H locs ls h hP hS hl
set_option maxHeartbeats 4000000 in
set_option maxRecDepth 20000 in
theorem wPacker_chooseOneByOne_2_b {p : Program} {l : Launch} {e : Env} {s : State} {m : MethodId} {args : Array Value} {below : List Frame} {meth : Method} {c : Code} {x : Wx} {al : Nat → Nat → Nat} {lv : Nat → Bool} {res : Sg} (hl10 : lv 10 = true) (hC : Cx x p s m args meth c cX7_chooseOneByOne 6 none RX7) (k2 : Sg → Int32 → Int32 → Option (Sg)) (hk2 : ∀ (σ : Sg) (x1 : Int32) (x2 : Int32) (H : Heap) (locs : List Loc) (ls : Array Slot), k2 σ x1 x2 = some res → Pic x al lv σ H → va_S (Ab x) s.heap H locs → lv_has ls 6 [(0, .ref (al 10 0)), (1, .int x1), (2, .int x2)] → W p l e (rmm 3 0 0) s m args below meth c H locs 0 0 (MQ below (QV x al lv res) args s 0 0 (Ab x)) (F0 m 2 ls [])) (σ : Sg) (x1 : Int32) (x2 : Int32) (H : Heap) (locs : List Loc) (ls : Array Slot) (h : fPacker_chooseOneByOne_2_b k2 σ x1 x2 = some res) (hP : Pic x al lv σ H) (hS : va_S (Ab x) s.heap H locs) (hl : lv_has ls 6 [(0, .ref (al 10 0)), (1, .int x1), (2, .int x2)]) : W p l e (rmm 3 0 0) s m args below meth c H locs 0 0 (MQ below (QV x al lv res) args s 0 0 (Ab x)) (F0 m 2 ls []) := by
  obtain ⟨hx, hb, hml, hown, hts⟩ := hC.1
  unfold fPacker_chooseOneByOne_2_b at h
  refine lv_iload_n hx hb dX7_chooseOneByOne_2 rfl (lv_at hl 2 rfl) ?_
  refine lv_iload_n hx hb dX7_chooseOneByOne_3 rfl (lv_at hl 1 rfl) ?_
  refine lv_icmp_ge (tgt := 89) hx hb dX7_chooseOneByOne_4 (by decide) (fun hc => ?_) (fun hc => ?_)
  · replace h := (br h).1 hc
    exact r_retV hC hP hS h dX7_chooseOneByOne_89
  · replace h := (br h).2 hc
    refine lv_iconst (v := (-1)) hx hb dX7_chooseOneByOne_7 (by decide) ?_
    refine lv_istore_n (lv' := [(3, .int ((-1))), (0, .ref (al 10 0)), (1, .int x1), (2, .int x2)]) hx hb dX7_chooseOneByOne_8 rfl hl (by decide) rfl (fun ls hl => ?_)
    refine lv_iconst (v := (-1)) hx hb dX7_chooseOneByOne_9 (by decide) ?_
    refine lv_istore (lv' := [(4, .int ((-1))), (3, .int ((-1))), (0, .ref (al 10 0)), (1, .int x1), (2, .int x2)]) hx hb dX7_chooseOneByOne_10 hl (by decide) rfl (fun ls hl => ?_)
    refine lv_iconst (v := 0) hx hb dX7_chooseOneByOne_12 (by decide) ?_
    refine lv_istore (lv' := [(5, .int 0), (4, .int ((-1))), (3, .int ((-1))), (0, .ref (al 10 0)), (1, .int x1), (2, .int x2)]) hx hb dX7_chooseOneByOne_13 hl (by decide) rfl (fun ls hl => ?_)
    exact wPacker_chooseOneByOne_15 hl10 hC k2 hk2 FU σ x1 x2 ((-1)) ((-1)) 0 H locs ls h hP hS (lv_sub hl [3, 4, 5, 2, 1, 0] rfl)

set_option maxHeartbeats 4000000 in
set_option maxRecDepth 20000 in
theorem wPacker_chooseOneByOne_2 {p : Program} {l : Launch} {e : Env} {s : State} {m : MethodId} {args : Array Value} {below : List Frame} {meth : Method} {c : Code} {x : Wx} {al : Nat → Nat → Nat} {lv : Nat → Bool} {res : Sg} (hl10 : lv 10 = true) (hC : Cx x p s m args meth c cX7_chooseOneByOne 6 none RX7) (n : Nat) (σ : Sg) (x1 : Int32) (x2 : Int32) (H : Heap) (locs : List Loc) (ls : Array Slot) (h : fPacker_chooseOneByOne_2 n σ x1 x2 = some res) (hP : Pic x al lv σ H) (hS : va_S (Ab x) s.heap H locs) (hl : lv_has ls 6 [(0, .ref (al 10 0)), (1, .int x1), (2, .int x2)]) : W p l e (rmm 3 0 0) s m args below meth c H locs 0 0 (MQ below (QV x al lv res) args s 0 0 (Ab x)) (F0 m 2 ls []) := by
  induction n generalizing σ x1 x2 H locs ls with
  | zero => exact nomatch h
  | succ n ih => exact wPacker_chooseOneByOne_2_b hl10 hC  _ (fun σ x1 x2 H locs ls h hP hS hl => ih σ x1 x2 H locs ls h hP hS hl) σ x1 x2 H locs ls h hP hS hl
set_option maxHeartbeats 4000000 in
set_option maxRecDepth 20000 in
theorem wPacker_chooseOneByOne_0 {p : Program} {l : Launch} {e : Env} {s : State} {m : MethodId} {args : Array Value} {below : List Frame} {meth : Method} {c : Code} {x : Wx} {al : Nat → Nat → Nat} {lv : Nat → Bool} {res : Sg} (hl10 : lv 10 = true) (hC : Cx x p s m args meth c cX7_chooseOneByOne 6 none RX7) (σ : Sg) (v1 : Int32) (H : Heap) (locs : List Loc) (ls : Array Slot) (h : fPacker_chooseOneByOne_0 σ v1 = some res) (hP : Pic x al lv σ H) (hS : va_S (Ab x) s.heap H locs) (hl : lv_has ls 6 [(0, .ref (al 10 0)), (1, .int v1)]) : W p l e (rmm 3 0 0) s m args below meth c H locs 0 0 (MQ below (QV x al lv res) args s 0 0 (Ab x)) (F0 m 0 ls []) := by
  obtain ⟨hx, hb, hml, hown, hts⟩ := hC.1
  unfold fPacker_chooseOneByOne_0 at h
  refine lv_iconst (v := 0) hx hb dX7_chooseOneByOne_0 (by decide) ?_
  refine lv_istore_n (lv' := [(2, .int 0), (0, .ref (al 10 0)), (1, .int v1)]) hx hb dX7_chooseOneByOne_1 rfl hl (by decide) rfl (fun ls hl => ?_)
  exact wPacker_chooseOneByOne_2 hl10 hC  FU σ v1 0 H locs ls h hP hS (lv_sub hl [1, 2, 0] rfl)

set_option maxRecDepth 20000 in
theorem tPacker_chooseOneByOne {l : Launch} (x : Wx) (al : Nat → Nat → Nat) (lv : Nat → Bool) (σ : Sg) (hl10 : lv 10 = true) (v1 : Int32) (res : Sg) (h : fPacker_chooseOneByOne σ v1 = some res) : Met l yX7_chooseOneByOne (Cond.code yX7_chooseOneByOne cX7_chooseOneByOne 6 none :: lwg) (rmm 3 0 0) (va_Pc [.ref (al 10 0), .int v1] (Wd x al lv σ)) (QV x al lv res) 0 0 (Ab x) := by
  refine met_W (by decide) (Nat.le_of_ble_eq_true rfl) rfl (fun p e s m args below meth c ls hC hP hS hl => ?_)
  exact wPacker_chooseOneByOne_0 hl10 hC σ v1 _ _ ls h hP hS hl
set_option maxHeartbeats 4000000 in
set_option maxRecDepth 20000 in
theorem wPacker_keepChosen_2_b {p : Program} {l : Launch} {e : Env} {s : State} {m : MethodId} {args : Array Value} {below : List Frame} {meth : Method} {c : Code} {x : Wx} {al : Nat → Nat → Nat} {lv : Nat → Bool} {res : Sg} (hl10 : lv 10 = true) (hC : Cx x p s m args meth c cX7_keepChosen 2 none RX7) (k2 : Sg → Int32 → Option (Sg)) (hk2 : ∀ (σ : Sg) (x1 : Int32) (H : Heap) (locs : List Loc) (ls : Array Slot), k2 σ x1 = some res → Pic x al lv σ H → va_S (Ab x) s.heap H locs → lv_has ls 2 [(0, .ref (al 10 0)), (1, .int x1)] → W p l e (rmm 1 0 0) s m args below meth c H locs 0 0 (MQ below (QV x al lv res) args s 0 0 (Ab x)) (F0 m 2 ls [])) (σ : Sg) (x1 : Int32) (H : Heap) (locs : List Loc) (ls : Array Slot) (h : fPacker_keepChosen_2_b k2 σ x1 = some res) (hP : Pic x al lv σ H) (hS : va_S (Ab x) s.heap H locs) (hl : lv_has ls 2 [(0, .ref (al 10 0)), (1, .int x1)]) : W p l e (rmm 1 0 0) s m args below meth c H locs 0 0 (MQ below (QV x al lv res) args s 0 0 (Ab x)) (F0 m 2 ls []) := by
  obtain ⟨hx, hb, hml, hown, hts⟩ := hC.1
  unfold fPacker_keepChosen_2_b at h
  refine lv_iload_n hx hb dX7_keepChosen_2 rfl (lv_at hl 1 rfl) ?_
  refine lv_aload_n hx hb dX7_keepChosen_3 rfl (lv_at hl 0 rfl) ?_
  refine gt_X7_3 hl10 hC hP wf_X7_50 dX7_keepChosen_4 ?_
  refine lv_icmp_ge (tgt := 28) hx hb dX7_keepChosen_7 (by decide) (fun hc => ?_) (fun hc => ?_)
  · replace h := (br h).1 hc
    exact r_retV hC hP hS h dX7_keepChosen_28
  · replace h := (br h).2 hc
    refine lv_aload_n hx hb dX7_keepChosen_10 rfl (lv_at hl 0 rfl) ?_
    refine gt_X7_6 hl10 hC hP wf_X7_15 dX7_keepChosen_11 ?_
    refine lv_iload_n hx hb dX7_keepChosen_14 rfl (lv_at hl 1 rfl) ?_
    refine lv_aload_n hx hb dX7_keepChosen_15 rfl (lv_at hl 0 rfl) ?_
    refine gt_X7_5 hl10 hC hP wf_X7_9 dX7_keepChosen_16 ?_
    refine lv_iload_n hx hb dX7_keepChosen_19 rfl (lv_at hl 1 rfl) ?_
    refine r_zald hC hP (aP_1 hl10) h dX7_keepChosen_20 (fun h => ?_)
    refine r_zast hC hP hS (aP_2 hl10) h dX7_keepChosen_21 (fun σ1 H locs h hP hS => ?_)
    refine r_iinc (v := 1) hC h dX7_keepChosen_22 hl (k := 1) rfl rfl (by decide) (fun y2 => [(1, .int y2), (0, .ref (al 10 0))]) (fun _ => rfl) (fun y2 ls h hl => ?_)
    refine lv_goto (tgt := 2) hx hb dX7_keepChosen_25 (by decide) ?_
    exact hk2 σ1 y2 H locs ls h hP hS (lv_sub hl [1, 0] rfl)

set_option maxHeartbeats 4000000 in
set_option maxRecDepth 20000 in
theorem wPacker_keepChosen_2 {p : Program} {l : Launch} {e : Env} {s : State} {m : MethodId} {args : Array Value} {below : List Frame} {meth : Method} {c : Code} {x : Wx} {al : Nat → Nat → Nat} {lv : Nat → Bool} {res : Sg} (hl10 : lv 10 = true) (hC : Cx x p s m args meth c cX7_keepChosen 2 none RX7) (n : Nat) (σ : Sg) (x1 : Int32) (H : Heap) (locs : List Loc) (ls : Array Slot) (h : fPacker_keepChosen_2 n σ x1 = some res) (hP : Pic x al lv σ H) (hS : va_S (Ab x) s.heap H locs) (hl : lv_has ls 2 [(0, .ref (al 10 0)), (1, .int x1)]) : W p l e (rmm 1 0 0) s m args below meth c H locs 0 0 (MQ below (QV x al lv res) args s 0 0 (Ab x)) (F0 m 2 ls []) := by
  induction n generalizing σ x1 H locs ls with
  | zero => exact nomatch h
  | succ n ih => exact wPacker_keepChosen_2_b hl10 hC  _ (fun σ x1 H locs ls h hP hS hl => ih σ x1 H locs ls h hP hS hl) σ x1 H locs ls h hP hS hl
set_option maxHeartbeats 4000000 in
set_option maxRecDepth 20000 in
theorem wPacker_keepChosen_0 {p : Program} {l : Launch} {e : Env} {s : State} {m : MethodId} {args : Array Value} {below : List Frame} {meth : Method} {c : Code} {x : Wx} {al : Nat → Nat → Nat} {lv : Nat → Bool} {res : Sg} (hl10 : lv 10 = true) (hC : Cx x p s m args meth c cX7_keepChosen 2 none RX7) (σ : Sg) (H : Heap) (locs : List Loc) (ls : Array Slot) (h : fPacker_keepChosen_0 σ = some res) (hP : Pic x al lv σ H) (hS : va_S (Ab x) s.heap H locs) (hl : lv_has ls 2 [(0, .ref (al 10 0))]) : W p l e (rmm 1 0 0) s m args below meth c H locs 0 0 (MQ below (QV x al lv res) args s 0 0 (Ab x)) (F0 m 0 ls []) := by
  obtain ⟨hx, hb, hml, hown, hts⟩ := hC.1
  unfold fPacker_keepChosen_0 at h
  refine lv_iconst (v := 0) hx hb dX7_keepChosen_0 (by decide) ?_
  refine lv_istore_n (lv' := [(1, .int 0), (0, .ref (al 10 0))]) hx hb dX7_keepChosen_1 rfl hl (by decide) rfl (fun ls hl => ?_)
  exact wPacker_keepChosen_2 hl10 hC  FU σ 0 H locs ls h hP hS (lv_sub hl [1, 0] rfl)

set_option maxRecDepth 20000 in
theorem tPacker_keepChosen {l : Launch} (x : Wx) (al : Nat → Nat → Nat) (lv : Nat → Bool) (σ : Sg) (hl10 : lv 10 = true) (res : Sg) (h : fPacker_keepChosen σ = some res) : Met l yX7_keepChosen (Cond.code yX7_keepChosen cX7_keepChosen 2 none :: lwg) (rmm 1 0 0) (va_Pc [.ref (al 10 0)] (Wd x al lv σ)) (QV x al lv res) 0 0 (Ab x) := by
  refine met_W (by decide) (Nat.le_of_ble_eq_true rfl) rfl (fun p e s m args below meth c ls hC hP hS hl => ?_)
  exact wPacker_keepChosen_0 hl10 hC σ  _ _ ls h hP hS hl
set_option maxHeartbeats 4000000 in
set_option maxRecDepth 20000 in
theorem wPacker_tryFrom_91 {p : Program} {l : Launch} {e : Env} {s : State} {m : MethodId} {args : Array Value} {below : List Frame} {meth : Method} {c : Code} {x : Wx} {al : Nat → Nat → Nat} {lv : Nat → Bool} {res : Sg} {nn : Nat} (hl10 : lv 10 = true) (slf : Sg → Int32 → Int32 → Int32 → Option (Sg)) (hslf : ∀ (σ : Sg) (v1 v2 v3 : Int32) (r : Sg), slf σ v1 v2 v3 = some r → Met l yX7_tryFrom (Cond.code yX7_tryFrom cX7_tryFrom 5 none :: lwg) (rmm (nn + 40) 0 0) (va_Pc [.ref (al 10 0), .int v1, .int v2, .int v3] (Wd x al lv σ)) (QV x al lv r) 0 0 (Ab x)) (hC : Cx x p s m args meth c cX7_tryFrom 5 none RX7) (k36 : Sg → Int32 → Int32 → Int32 → Option (Sg)) (hk36 : ∀ (σ : Sg) (x2 : Int32) (x3 : Int32) (x4 : Int32) (H : Heap) (locs : List Loc) (ls : Array Slot), k36 σ x2 x3 x4 = some res → Pic x al lv σ H → va_S (Ab x) s.heap H locs → lv_has ls 5 [(0, .ref (al 10 0)), (2, .int x2), (3, .int x3), (4, .int x4)] → W p l e (rmm (nn + 41) 0 0) s m args below meth c H locs 0 0 (MQ below (QV x al lv res) args s 0 0 (Ab x)) (F0 m 36 ls [])) (σ : Sg) (x2 : Int32) (x3 : Int32) (x4 : Int32) (H : Heap) (locs : List Loc) (ls : Array Slot) (h : fPacker_tryFrom_91 slf k36 σ x2 x3 x4 = some res) (hP : Pic x al lv σ H) (hS : va_S (Ab x) s.heap H locs) (hl : lv_has ls 5 [(0, .ref (al 10 0)), (2, .int x2), (3, .int x3), (4, .int x4)]) : W p l e (rmm (nn + 41) 0 0) s m args below meth c H locs 0 0 (MQ below (QV x al lv res) args s 0 0 (Ab x)) (F0 m 91 ls []) := by
  obtain ⟨hx, hb, hml, hown, hts⟩ := hC.1
  unfold fPacker_tryFrom_91 at h
  refine r_iinc (v := 1) hC h dX7_tryFrom_91 hl (k := 3) rfl rfl (by decide) (fun y8 => [(4, .int y8), (0, .ref (al 10 0)), (2, .int x2), (3, .int x3)]) (fun _ => rfl) (fun y8 ls h hl => ?_)
  refine lv_goto (tgt := 36) hx hb dX7_tryFrom_94 (by decide) ?_
  exact hk36 σ x2 x3 y8 H locs ls h hP hS (lv_sub hl [1, 2, 3, 0] rfl)

set_option maxHeartbeats 4000000 in
set_option maxRecDepth 20000 in
theorem wPacker_tryFrom_36_b {p : Program} {l : Launch} {e : Env} {s : State} {m : MethodId} {args : Array Value} {below : List Frame} {meth : Method} {c : Code} {x : Wx} {al : Nat → Nat → Nat} {lv : Nat → Bool} {res : Sg} {nn : Nat} (hl10 : lv 10 = true) (slf : Sg → Int32 → Int32 → Int32 → Option (Sg)) (hslf : ∀ (σ : Sg) (v1 v2 v3 : Int32) (r : Sg), slf σ v1 v2 v3 = some r → Met l yX7_tryFrom (Cond.code yX7_tryFrom cX7_tryFrom 5 none :: lwg) (rmm (nn + 40) 0 0) (va_Pc [.ref (al 10 0), .int v1, .int v2, .int v3] (Wd x al lv σ)) (QV x al lv r) 0 0 (Ab x)) (hC : Cx x p s m args meth c cX7_tryFrom 5 none RX7) (k36 : Sg → Int32 → Int32 → Int32 → Option (Sg)) (hk36 : ∀ (σ : Sg) (x2 : Int32) (x3 : Int32) (x4 : Int32) (H : Heap) (locs : List Loc) (ls : Array Slot), k36 σ x2 x3 x4 = some res → Pic x al lv σ H → va_S (Ab x) s.heap H locs → lv_has ls 5 [(0, .ref (al 10 0)), (2, .int x2), (3, .int x3), (4, .int x4)] → W p l e (rmm (nn + 41) 0 0) s m args below meth c H locs 0 0 (MQ below (QV x al lv res) args s 0 0 (Ab x)) (F0 m 36 ls [])) (σ : Sg) (x2 : Int32) (x3 : Int32) (x4 : Int32) (H : Heap) (locs : List Loc) (ls : Array Slot) (h : fPacker_tryFrom_36_b slf k36 σ x2 x3 x4 = some res) (hP : Pic x al lv σ H) (hS : va_S (Ab x) s.heap H locs) (hl : lv_has ls 5 [(0, .ref (al 10 0)), (2, .int x2), (3, .int x3), (4, .int x4)]) : W p l e (rmm (nn + 41) 0 0) s m args below meth c H locs 0 0 (MQ below (QV x al lv res) args s 0 0 (Ab x)) (F0 m 36 ls []) := by
  obtain ⟨hx, hb, hml, hown, hts⟩ := hC.1
  unfold fPacker_tryFrom_36_b at h
  refine lv_iload hx hb dX7_tryFrom_36 (lv_at hl 3 rfl) ?_
  refine lv_aload_n hx hb dX7_tryFrom_38 rfl (lv_at hl 0 rfl) ?_
  refine gt_X7_3 hl10 hC hP wf_X7_50 dX7_tryFrom_39 ?_
  refine lv_iload_n hx hb dX7_tryFrom_42 rfl (lv_at hl 1 rfl) ?_
  refine lv_isub hx hb dX7_tryFrom_43 ?_
  refine lv_icmp_gt (tgt := 97) hx hb dX7_tryFrom_44 (by decide) (fun hc => ?_) (fun hc => ?_)
  · replace h := (br h).1 hc
    exact r_retV hC hP hS h dX7_tryFrom_97
  · replace h := (br h).2 hc
    refine lv_aload_n hx hb dX7_tryFrom_47 rfl (lv_at hl 0 rfl) ?_
    refine lv_iload hx hb dX7_tryFrom_48 (lv_at hl 3 rfl) ?_
    refine r_cP hS h (fun r hr => r_runV (As := [.int x4]) (rest := []) hC kV_X7_66 cw_X7_bears (rc_X7 hl10 hC hP) hP (tPacker_bears x al lv σ hl10 x4 r hr) rfl hl.1 ⟨by show _ ≤ _ ; simp only [rmm]; omega, by show _ ≤ _ ; simp only [rmm]; omega⟩ ⟨Nat.le_of_ble_eq_true rfl, Nat.le_of_ble_eq_true rfl⟩ (Nat.le_of_ble_eq_true rfl) dX7_tryFrom_50) (fun y3 H locs h hP hS => ?_)
    refine lv_if_eq (tgt := 91) hx hb dX7_tryFrom_53 (by decide) (fun hc => ?_) (fun hc => ?_)
    · replace h := (br h).1 hc
      exact wPacker_tryFrom_91 hl10 slf hslf hC k36 hk36 σ x2 x3 x4 H locs ls h hP hS (lv_sub hl [0, 1, 2, 3] rfl)
    · replace h := (br h).2 hc
      refine lv_aload_n hx hb dX7_tryFrom_56 rfl (lv_at hl 0 rfl) ?_
      refine gt_X7_5 hl10 hC hP wf_X7_9 dX7_tryFrom_57 ?_
      refine lv_iload hx hb dX7_tryFrom_60 (lv_at hl 3 rfl) ?_
      refine lv_iconst (v := 1) hx hb dX7_tryFrom_62 (by decide) ?_
      refine r_zast hC hP hS (aP_1 hl10) h dX7_tryFrom_63 (fun σ4 H locs h hP hS => ?_)
      refine lv_aload_n hx hb dX7_tryFrom_64 rfl (lv_at hl 0 rfl) ?_
      refine lv_iload hx hb dX7_tryFrom_65 (lv_at hl 3 rfl) ?_
      refine lv_iconst (v := 1) hx hb dX7_tryFrom_67 (by decide) ?_
      refine lv_iadd hx hb dX7_tryFrom_68 ?_
      refine lv_iload_n hx hb dX7_tryFrom_69 rfl (lv_at hl 1 rfl) ?_
      refine lv_iconst (v := 1) hx hb dX7_tryFrom_70 (by decide) ?_
      refine lv_isub hx hb dX7_tryFrom_71 ?_
      refine lv_iload_n hx hb dX7_tryFrom_72 rfl (lv_at hl 2 rfl) ?_
      refine lv_aload_n hx hb dX7_tryFrom_73 rfl (lv_at hl 0 rfl) ?_
      refine lv_iload hx hb dX7_tryFrom_74 (lv_at hl 3 rfl) ?_
      refine r_cP hS h (fun r hr => r_runV (As := [.int x4]) (rest := [.int x3, .int (x2 - 1), .int (x4 + 1), .ref (al 10 0)]) hC kV_X7_70 cw_X7_sidesShut (rc_X7 hl10 hC hP) hP (tPacker_sidesShut x al lv σ4 hl10 x4 r hr) rfl hl.1 ⟨by show _ ≤ _ ; simp only [rmm]; omega, by show _ ≤ _ ; simp only [rmm]; omega⟩ ⟨Nat.le_of_ble_eq_true rfl, Nat.le_of_ble_eq_true rfl⟩ (Nat.le_of_ble_eq_true rfl) dX7_tryFrom_76) (fun y5 H locs h hP hS => ?_)
      refine lv_iadd hx hb dX7_tryFrom_79 ?_
      refine r_cV hS h (fun r hr => r_runV (As := [.int (x4 + 1), .int (x2 - 1), .int (x3 + y5)]) (rest := []) hC kV_X7_55 cw_X7_tryFrom (rc_X7 hl10 hC hP) hP (hslf σ4 (x4 + 1) (x2 - 1) (x3 + y5) r hr) rfl hl.1 ⟨by show _ ≤ _ ; simp only [rmm]; omega, by show _ ≤ _ ; simp only [rmm]; omega⟩ ⟨Nat.le_of_ble_eq_true rfl, Nat.le_of_ble_eq_true rfl⟩ (Nat.le_of_ble_eq_true rfl) dX7_tryFrom_80) (fun σ6 H locs h hP hS => ?_)
      refine lv_aload_n hx hb dX7_tryFrom_83 rfl (lv_at hl 0 rfl) ?_
      refine gt_X7_5 hl10 hC hP wf_X7_9 dX7_tryFrom_84 ?_
      refine lv_iload hx hb dX7_tryFrom_87 (lv_at hl 3 rfl) ?_
      refine lv_iconst (v := 0) hx hb dX7_tryFrom_89 (by decide) ?_
      refine r_zast hC hP hS (aP_1 hl10) h dX7_tryFrom_90 (fun σ7 H locs h hP hS => ?_)
      exact wPacker_tryFrom_91 hl10 slf hslf hC k36 hk36 σ7 x2 x3 x4 H locs ls h hP hS (lv_sub hl [0, 1, 2, 3] rfl)

set_option maxHeartbeats 4000000 in
set_option maxRecDepth 20000 in
theorem wPacker_tryFrom_36 {p : Program} {l : Launch} {e : Env} {s : State} {m : MethodId} {args : Array Value} {below : List Frame} {meth : Method} {c : Code} {x : Wx} {al : Nat → Nat → Nat} {lv : Nat → Bool} {res : Sg} {nn : Nat} (hl10 : lv 10 = true) (slf : Sg → Int32 → Int32 → Int32 → Option (Sg)) (hslf : ∀ (σ : Sg) (v1 v2 v3 : Int32) (r : Sg), slf σ v1 v2 v3 = some r → Met l yX7_tryFrom (Cond.code yX7_tryFrom cX7_tryFrom 5 none :: lwg) (rmm (nn + 40) 0 0) (va_Pc [.ref (al 10 0), .int v1, .int v2, .int v3] (Wd x al lv σ)) (QV x al lv r) 0 0 (Ab x)) (hC : Cx x p s m args meth c cX7_tryFrom 5 none RX7) (n : Nat) (σ : Sg) (x2 : Int32) (x3 : Int32) (x4 : Int32) (H : Heap) (locs : List Loc) (ls : Array Slot) (h : fPacker_tryFrom_36 slf n σ x2 x3 x4 = some res) (hP : Pic x al lv σ H) (hS : va_S (Ab x) s.heap H locs) (hl : lv_has ls 5 [(0, .ref (al 10 0)), (2, .int x2), (3, .int x3), (4, .int x4)]) : W p l e (rmm (nn + 41) 0 0) s m args below meth c H locs 0 0 (MQ below (QV x al lv res) args s 0 0 (Ab x)) (F0 m 36 ls []) := by
  induction n generalizing σ x2 x3 x4 H locs ls with
  | zero => exact nomatch h
  | succ n ih => exact wPacker_tryFrom_36_b hl10 slf hslf hC  _ (fun σ x2 x3 x4 H locs ls h hP hS hl => ih σ x2 x3 x4 H locs ls h hP hS hl) σ x2 x3 x4 H locs ls h hP hS hl
set_option maxHeartbeats 4000000 in
set_option maxRecDepth 20000 in
theorem wPacker_tryFrom_0 {p : Program} {l : Launch} {e : Env} {s : State} {m : MethodId} {args : Array Value} {below : List Frame} {meth : Method} {c : Code} {x : Wx} {al : Nat → Nat → Nat} {lv : Nat → Bool} {res : Sg} {nn : Nat} (hl10 : lv 10 = true) (slf : Sg → Int32 → Int32 → Int32 → Option (Sg)) (hslf : ∀ (σ : Sg) (v1 v2 v3 : Int32) (r : Sg), slf σ v1 v2 v3 = some r → Met l yX7_tryFrom (Cond.code yX7_tryFrom cX7_tryFrom 5 none :: lwg) (rmm (nn + 40) 0 0) (va_Pc [.ref (al 10 0), .int v1, .int v2, .int v3] (Wd x al lv σ)) (QV x al lv r) 0 0 (Ab x)) (hC : Cx x p s m args meth c cX7_tryFrom 5 none RX7) (σ : Sg) (v1 : Int32) (v2 : Int32) (v3 : Int32) (H : Heap) (locs : List Loc) (ls : Array Slot) (h : fPacker_tryFrom_0 slf σ v1 v2 v3 = some res) (hP : Pic x al lv σ H) (hS : va_S (Ab x) s.heap H locs) (hl : lv_has ls 5 [(0, .ref (al 10 0)), (1, .int v1), (2, .int v2), (3, .int v3)]) : W p l e (rmm (nn + 41) 0 0) s m args below meth c H locs 0 0 (MQ below (QV x al lv res) args s 0 0 (Ab x)) (F0 m 0 ls []) := by
  obtain ⟨hx, hb, hml, hown, hts⟩ := hC.1
  unfold fPacker_tryFrom_0 at h
  refine lv_iload_n hx hb dX7_tryFrom_0 rfl (lv_at hl 2 rfl) ?_
  refine lv_bipush (v := 8) hx hb dX7_tryFrom_1 (by decide) ?_
  refine lv_icmp_gt (tgt := 18) hx hb dX7_tryFrom_3 (by decide) (fun hc => ?_) (fun hc => ?_)
  · replace h := (br h).1 hc
    exact r_retV hC hP hS h dX7_tryFrom_18
  · replace h := (br h).2 hc
    refine lv_iload_n hx hb dX7_tryFrom_6 rfl (lv_at hl 3 rfl) ?_
    refine lv_iconst (v := 3) hx hb dX7_tryFrom_7 (by decide) ?_
    refine lv_iload_n hx hb dX7_tryFrom_8 rfl (lv_at hl 2 rfl) ?_
    refine lv_imul hx hb dX7_tryFrom_9 ?_
    refine lv_iadd hx hb dX7_tryFrom_10 ?_
    refine lv_aload_n hx hb dX7_tryFrom_11 rfl (lv_at hl 0 rfl) ?_
    refine gt_X7_4 hl10 hC hP wf_X7_52 dX7_tryFrom_12 ?_
    refine lv_icmp_gt (tgt := 19) hx hb dX7_tryFrom_15 (by decide) (fun hc => ?_) (fun hc => ?_)
    · replace h := (br h).1 hc
      refine lv_iload_n hx hb dX7_tryFrom_19 rfl (lv_at hl 2 rfl) ?_
      refine lv_if_gt (tgt := 33) hx hb dX7_tryFrom_20 (by decide) (fun hc => ?_) (fun hc => ?_)
      · replace h := (br h).1 hc
        refine lv_iload_n hx hb dX7_tryFrom_33 rfl (lv_at hl 1 rfl) ?_
        refine lv_istore (lv' := [(4, .int v1), (0, .ref (al 10 0)), (1, .int v1), (2, .int v2), (3, .int v3)]) hx hb dX7_tryFrom_34 hl (by decide) rfl (fun ls hl => ?_)
        exact wPacker_tryFrom_36 hl10 slf hslf hC  FU σ v2 v3 v1 H locs ls h hP hS (lv_sub hl [1, 3, 4, 0] rfl)
      · replace h := (br h).2 hc
        refine lv_aload_n hx hb dX7_tryFrom_23 rfl (lv_at hl 0 rfl) ?_
        refine lv_iload_n hx hb dX7_tryFrom_24 rfl (lv_at hl 3 rfl) ?_
        refine pt_X7_4 hl10 hC hP hS wf_X7_52 h dX7_tryFrom_25 (fun σ1 H locs h hP hS => ?_)
        refine lv_aload_n hx hb dX7_tryFrom_28 rfl (lv_at hl 0 rfl) ?_
        refine r_cV hS h (fun r hr => r_runV (As := []) (rest := []) hC kV_X7_63 cw_X7_keepChosen (rc_X7 hl10 hC hP) hP (tPacker_keepChosen x al lv σ1 hl10 r hr) rfl hl.1 ⟨by show _ ≤ _ ; simp only [rmm]; omega, by show _ ≤ _ ; simp only [rmm]; omega⟩ ⟨Nat.le_of_ble_eq_true rfl, Nat.le_of_ble_eq_true rfl⟩ (Nat.le_of_ble_eq_true rfl) dX7_tryFrom_29) (fun σ2 H locs h hP hS => ?_)
        exact r_retV hC hP hS h dX7_tryFrom_32
    · replace h := (br h).2 hc
      exact r_retV hC hP hS h dX7_tryFrom_18

set_option maxRecDepth 20000 in
theorem tPacker_tryFrom {l : Launch} (x : Wx) (al : Nat → Nat → Nat) (lv : Nat → Bool) (n : Nat) (σ : Sg) (hl10 : lv 10 = true) (v1 : Int32) (v2 : Int32) (v3 : Int32) (res : Sg) (h : fPacker_tryFrom n σ v1 v2 v3 = some res) : Met l yX7_tryFrom (Cond.code yX7_tryFrom cX7_tryFrom 5 none :: lwg) (rmm (n + 40) 0 0) (va_Pc [.ref (al 10 0), .int v1, .int v2, .int v3] (Wd x al lv σ)) (QV x al lv res) 0 0 (Ab x) := by
  induction n generalizing σ v1 v2 v3 res with
  | zero => exact nomatch h
  | succ n ih =>
    refine met_W (by decide) (Nat.le_of_ble_eq_true rfl) rfl (fun p e s m args below meth c ls hC hP hS hl => ?_)
    exact wPacker_tryFrom_0 (nn := n) hl10 _ (fun σ v1 v2 v3 r h => ih σ v1 v2 v3 r h) hC σ v1 v2 v3 _ _ ls h hP hS hl
set_option maxHeartbeats 4000000 in
set_option maxRecDepth 20000 in
theorem wPacker_choose_117 {p : Program} {l : Launch} {e : Env} {s : State} {m : MethodId} {args : Array Value} {below : List Frame} {meth : Method} {c : Code} {x : Wx} {al : Nat → Nat → Nat} {lv : Nat → Bool} {res : Sg} {b : Nat} (hib : b < 6) (hlb : lv b = true) (hl10 : lv 10 = true) (hC : Cx x p s m args meth c cX7_choose 5 none RX7) (σ : Sg) (x3 : Int32) (H : Heap) (locs : List Loc) (ls : Array Slot) (h : fPacker_choose_117 σ b x3 = some res) (hP : Pic x al lv σ H) (hS : va_S (Ab x) s.heap H locs) (hl : lv_has ls 5 [(0, .ref (al 10 0)), (3, .int x3)]) : W p l e (rmm 61 0 0) s m args below meth c H locs 0 0 (MQ below (QV x al lv res) args s 0 0 (Ab x)) (F0 m 117 ls []) := by
  obtain ⟨hx, hb, hml, hown, hts⟩ := hC.1
  unfold fPacker_choose_117 at h
  refine lv_aload_n hx hb dX7_choose_117 rfl (lv_at hl 0 rfl) ?_
  refine lv_iload_n hx hb dX7_choose_118 rfl (lv_at hl 1 rfl) ?_
  refine r_cV hS h (fun r hr => r_runV (As := [.int x3]) (rest := []) hC kV_X7_59 cw_X7_chooseOneByOne (rc_X7 hl10 hC hP) hP (tPacker_chooseOneByOne x al lv σ hl10 x3 r hr) rfl hl.1 ⟨Nat.le_of_ble_eq_true rfl, Nat.le_of_ble_eq_true rfl⟩ ⟨Nat.le_of_ble_eq_true rfl, Nat.le_of_ble_eq_true rfl⟩ (Nat.le_of_ble_eq_true rfl) dX7_choose_119) (fun σ9 H locs h hP hS => ?_)
  refine lv_aload_n hx hb dX7_choose_122 rfl (lv_at hl 0 rfl) ?_
  refine r_cV hS h (fun r hr => r_runV (As := []) (rest := []) hC kV_X7_63 cw_X7_keepChosen (rc_X7 hl10 hC hP) hP (tPacker_keepChosen x al lv σ9 hl10 r hr) rfl hl.1 ⟨Nat.le_of_ble_eq_true rfl, Nat.le_of_ble_eq_true rfl⟩ ⟨Nat.le_of_ble_eq_true rfl, Nat.le_of_ble_eq_true rfl⟩ (Nat.le_of_ble_eq_true rfl) dX7_choose_123) (fun σ10 H locs h hP hS => ?_)
  exact r_retV hC hP hS h dX7_choose_126

set_option maxHeartbeats 4000000 in
set_option maxRecDepth 20000 in
theorem wPacker_choose_49_b {p : Program} {l : Launch} {e : Env} {s : State} {m : MethodId} {args : Array Value} {below : List Frame} {meth : Method} {c : Code} {x : Wx} {al : Nat → Nat → Nat} {lv : Nat → Bool} {res : Sg} {b : Nat} (hib : b < 6) (hlb : lv b = true) (hl10 : lv 10 = true) (hC : Cx x p s m args meth c cX7_choose 5 none RX7) (k49 : Sg → Int32 → Int32 → Option (Sg)) (hk49 : ∀ (σ : Sg) (x3 : Int32) (x4 : Int32) (H : Heap) (locs : List Loc) (ls : Array Slot), k49 σ x3 x4 = some res → Pic x al lv σ H → va_S (Ab x) s.heap H locs → lv_has ls 5 [(0, .ref (al 10 0)), (3, .int x3), (4, .int x4)] → W p l e (rmm 61 0 0) s m args below meth c H locs 0 0 (MQ below (QV x al lv res) args s 0 0 (Ab x)) (F0 m 49 ls [])) (σ : Sg) (x3 : Int32) (x4 : Int32) (H : Heap) (locs : List Loc) (ls : Array Slot) (h : fPacker_choose_49_b k49 σ b x3 x4 = some res) (hP : Pic x al lv σ H) (hS : va_S (Ab x) s.heap H locs) (hl : lv_has ls 5 [(0, .ref (al 10 0)), (3, .int x3), (4, .int x4)]) : W p l e (rmm 61 0 0) s m args below meth c H locs 0 0 (MQ below (QV x al lv res) args s 0 0 (Ab x)) (F0 m 49 ls []) := by
  obtain ⟨hx, hb, hml, hown, hts⟩ := hC.1
  unfold fPacker_choose_49_b at h
  refine lv_iload hx hb dX7_choose_49 (lv_at hl 2 rfl) ?_
  refine lv_aload_n hx hb dX7_choose_51 rfl (lv_at hl 0 rfl) ?_
  refine gt_X7_3 hl10 hC hP wf_X7_50 dX7_choose_52 ?_
  refine lv_icmp_ge (tgt := 72) hx hb dX7_choose_55 (by decide) (fun hc => ?_) (fun hc => ?_)
  · replace h := (br h).1 hc
    refine lv_iload_n hx hb dX7_choose_72 rfl (lv_at hl 1 rfl) ?_
    refine lv_bipush (v := 8) hx hb dX7_choose_73 (by decide) ?_
    refine lv_icmp_gt (tgt := 117) hx hb dX7_choose_75 (by decide) (fun hc => ?_) (fun hc => ?_)
    · replace h := (br h).1 hc
      exact wPacker_choose_117 hib hlb hl10 hC  σ x3 H locs ls h hP hS (lv_sub hl [0, 1] rfl)
    · replace h := (br h).2 hc
      refine lv_aload_n hx hb dX7_choose_78 rfl (lv_at hl 0 rfl) ?_
      refine gt_X7_0 hl10 hC hP wf_X7_28 dX7_choose_79 ?_
      refine lv_iconst (v := 3) hx hb dX7_choose_82 (by decide) ?_
      refine lv_icmp_gt (tgt := 117) hx hb dX7_choose_83 (by decide) (fun hc => ?_) (fun hc => ?_)
      · replace h := (br h).1 hc
        exact wPacker_choose_117 hib hlb hl10 hC  σ x3 H locs ls h hP hS (lv_sub hl [0, 1] rfl)
      · replace h := (br h).2 hc
        refine lv_aload_n hx hb dX7_choose_86 rfl (lv_at hl 0 rfl) ?_
        refine gt_X7_1 hl10 hC hP wf_X7_34 dX7_choose_87 ?_
        refine lv_iconst (v := 3) hx hb dX7_choose_90 (by decide) ?_
        refine lv_icmp_gt (tgt := 117) hx hb dX7_choose_91 (by decide) (fun hc => ?_) (fun hc => ?_)
        · replace h := (br h).1 hc
          exact wPacker_choose_117 hib hlb hl10 hC  σ x3 H locs ls h hP hS (lv_sub hl [0, 1] rfl)
        · replace h := (br h).2 hc
          refine lv_aload_n hx hb dX7_choose_94 rfl (lv_at hl 0 rfl) ?_
          refine gt_X7_2 hl10 hC hP wf_X7_39 dX7_choose_95 ?_
          refine lv_iconst (v := 2) hx hb dX7_choose_98 (by decide) ?_
          refine lv_icmp_gt (tgt := 117) hx hb dX7_choose_99 (by decide) (fun hc => ?_) (fun hc => ?_)
          · replace h := (br h).1 hc
            exact wPacker_choose_117 hib hlb hl10 hC  σ x3 H locs ls h hP hS (lv_sub hl [0, 1] rfl)
          · replace h := (br h).2 hc
            refine lv_aload_n hx hb dX7_choose_102 rfl (lv_at hl 0 rfl) ?_
            refine lv_iconst (v := (-1)) hx hb dX7_choose_103 (by decide) ?_
            refine pt_X7_4 hl10 hC hP hS wf_X7_52 h dX7_choose_104 (fun σ5 H locs h hP hS => ?_)
            refine lv_aload_n hx hb dX7_choose_107 rfl (lv_at hl 0 rfl) ?_
            refine lv_iconst (v := 0) hx hb dX7_choose_108 (by decide) ?_
            refine lv_iload_n hx hb dX7_choose_109 rfl (lv_at hl 1 rfl) ?_
            refine lv_iconst (v := 0) hx hb dX7_choose_110 (by decide) ?_
            refine r_cV hS h (fun r hr => r_runV (As := [.int 0, .int x3, .int 0]) (rest := []) hC kV_X7_55 cw_X7_tryFrom (rc_X7 hl10 hC hP) hP (tPacker_tryFrom x al lv 20 σ5 hl10 0 x3 0 r hr) rfl hl.1 ⟨Nat.le_of_ble_eq_true rfl, Nat.le_of_ble_eq_true rfl⟩ ⟨Nat.le_of_ble_eq_true rfl, Nat.le_of_ble_eq_true rfl⟩ (Nat.le_of_ble_eq_true rfl) dX7_choose_111) (fun σ6 H locs h hP hS => ?_)
            refine lv_goto (tgt := 126) hx hb dX7_choose_114 (by decide) ?_
            exact r_retV hC hP hS h dX7_choose_126
  · replace h := (br h).2 hc
    refine lv_aload_n hx hb dX7_choose_58 rfl (lv_at hl 0 rfl) ?_
    refine gt_X7_5 hl10 hC hP wf_X7_9 dX7_choose_59 ?_
    refine lv_iload hx hb dX7_choose_62 (lv_at hl 2 rfl) ?_
    refine lv_iconst (v := 0) hx hb dX7_choose_64 (by decide) ?_
    refine r_zast hC hP hS (aP_1 hl10) h dX7_choose_65 (fun σ7 H locs h hP hS => ?_)
    refine r_iinc (v := 1) hC h dX7_choose_66 hl (k := 2) rfl rfl (by decide) (fun y8 => [(4, .int y8), (0, .ref (al 10 0)), (3, .int x3)]) (fun _ => rfl) (fun y8 ls h hl => ?_)
    refine lv_goto (tgt := 49) hx hb dX7_choose_69 (by decide) ?_
    exact hk49 σ7 x3 y8 H locs ls h hP hS (lv_sub hl [1, 2, 0] rfl)

set_option maxHeartbeats 4000000 in
set_option maxRecDepth 20000 in
theorem wPacker_choose_49 {p : Program} {l : Launch} {e : Env} {s : State} {m : MethodId} {args : Array Value} {below : List Frame} {meth : Method} {c : Code} {x : Wx} {al : Nat → Nat → Nat} {lv : Nat → Bool} {res : Sg} {b : Nat} (hib : b < 6) (hlb : lv b = true) (hl10 : lv 10 = true) (hC : Cx x p s m args meth c cX7_choose 5 none RX7) (n : Nat) (σ : Sg) (x3 : Int32) (x4 : Int32) (H : Heap) (locs : List Loc) (ls : Array Slot) (h : fPacker_choose_49 n σ b x3 x4 = some res) (hP : Pic x al lv σ H) (hS : va_S (Ab x) s.heap H locs) (hl : lv_has ls 5 [(0, .ref (al 10 0)), (3, .int x3), (4, .int x4)]) : W p l e (rmm 61 0 0) s m args below meth c H locs 0 0 (MQ below (QV x al lv res) args s 0 0 (Ab x)) (F0 m 49 ls []) := by
  induction n generalizing σ x3 x4 H locs ls with
  | zero => exact nomatch h
  | succ n ih => exact wPacker_choose_49_b hib hlb hl10 hC  _ (fun σ x3 x4 H locs ls h hP hS hl => ih σ x3 x4 H locs ls h hP hS hl) σ x3 x4 H locs ls h hP hS hl
set_option maxHeartbeats 4000000 in
set_option maxRecDepth 20000 in
theorem wPacker_choose_0 {p : Program} {l : Launch} {e : Env} {s : State} {m : MethodId} {args : Array Value} {below : List Frame} {meth : Method} {c : Code} {x : Wx} {al : Nat → Nat → Nat} {lv : Nat → Bool} {res : Sg} {b : Nat} (hib : b < 6) (hlb : lv b = true) (hl10 : lv 10 = true) (hC : Cx x p s m args meth c cX7_choose 5 none RX7) (σ : Sg) (v2 : Int32) (v3 : Int32) (H : Heap) (locs : List Loc) (ls : Array Slot) (h : fPacker_choose_0 σ b v2 v3 = some res) (hP : Pic x al lv σ H) (hS : va_S (Ab x) s.heap H locs) (hl : lv_has ls 5 [(0, .ref (al 10 0)), (1, .ref (al b 1)), (2, .int v2), (3, .int v3)]) : W p l e (rmm 61 0 0) s m args below meth c H locs 0 0 (MQ below (QV x al lv res) args s 0 0 (Ab x)) (F0 m 0 ls []) := by
  obtain ⟨hx, hb, hml, hown, hts⟩ := hC.1
  unfold fPacker_choose_0 at h
  refine lv_aload_n hx hb dX7_choose_0 rfl (lv_at hl 0 rfl) ?_
  refine lv_aload_n hx hb dX7_choose_1 rfl (lv_at hl 1 rfl) ?_
  refine gt_X8_2 (a := b) hib hlb hC hP wf_X7_22 dX7_choose_2 ?_
  refine lv_iload_n hx hb dX7_choose_5 rfl (lv_at hl 2 rfl) ?_
  refine r_iald hC hP (aS_3 (a := b) hib hlb) h dX7_choose_6 (fun h => ?_)
  refine pt_X7_0 hl10 hC hP hS wf_X7_28 h dX7_choose_7 (fun σ1 H locs h hP hS => ?_)
  refine lv_aload_n hx hb dX7_choose_10 rfl (lv_at hl 0 rfl) ?_
  refine lv_aload_n hx hb dX7_choose_11 rfl (lv_at hl 1 rfl) ?_
  refine gt_X8_3 (a := b) hib hlb hC hP wf_X7_31 dX7_choose_12 ?_
  refine lv_iload_n hx hb dX7_choose_15 rfl (lv_at hl 2 rfl) ?_
  refine r_iald hC hP (aS_4 (a := b) hib hlb) h dX7_choose_16 (fun h => ?_)
  refine pt_X7_1 hl10 hC hP hS wf_X7_34 h dX7_choose_17 (fun σ2 H locs h hP hS => ?_)
  refine lv_aload_n hx hb dX7_choose_20 rfl (lv_at hl 0 rfl) ?_
  refine lv_aload_n hx hb dX7_choose_21 rfl (lv_at hl 1 rfl) ?_
  refine gt_X8_4 (a := b) hib hlb hC hP wf_X7_36 dX7_choose_22 ?_
  refine lv_iload_n hx hb dX7_choose_25 rfl (lv_at hl 2 rfl) ?_
  refine r_iald hC hP (aS_5 (a := b) hib hlb) h dX7_choose_26 (fun h => ?_)
  refine pt_X7_2 hl10 hC hP hS wf_X7_39 h dX7_choose_27 (fun σ3 H locs h hP hS => ?_)
  refine lv_aload_n hx hb dX7_choose_30 rfl (lv_at hl 0 rfl) ?_
  refine lv_aload_n hx hb dX7_choose_31 rfl (lv_at hl 1 rfl) ?_
  refine gt_X8_7 (a := b) hib hlb hC hP wf_X7_41 dX7_choose_32 ?_
  refine lv_iload_n hx hb dX7_choose_35 rfl (lv_at hl 2 rfl) ?_
  refine r_iald hC hP (aS_8 (a := b) hib hlb) h dX7_choose_36 (fun h => ?_)
  refine lv_sipush (v := 180) hx hb dX7_choose_37 (by decide) ?_
  refine r_min hC hl.1 wm_X7_44 (Nat.le_of_ble_eq_true rfl) (Nat.le_of_ble_eq_true rfl) (Nat.le_of_ble_eq_true rfl) (Nat.le_of_ble_eq_true rfl) dX7_choose_40 ?_
  refine pt_X7_3 hl10 hC hP hS wf_X7_50 h dX7_choose_43 (fun σ4 H locs h hP hS => ?_)
  refine lv_iconst (v := 0) hx hb dX7_choose_46 (by decide) ?_
  refine lv_istore (lv' := [(4, .int 0), (0, .ref (al 10 0)), (1, .ref (al b 1)), (2, .int v2), (3, .int v3)]) hx hb dX7_choose_47 hl (by decide) rfl (fun ls hl => ?_)
  exact wPacker_choose_49 hib hlb hl10 hC  FU σ4 v3 0 H locs ls h hP hS (lv_sub hl [1, 4, 0] rfl)

set_option maxRecDepth 20000 in
theorem tPacker_choose {l : Launch} (x : Wx) (al : Nat → Nat → Nat) (lv : Nat → Bool) (σ : Sg) (b : Nat) (hib : b < 6) (hlb : lv b = true) (hl10 : lv 10 = true) (v2 : Int32) (v3 : Int32) (res : Sg) (h : fPacker_choose σ b v2 v3 = some res) : Met l yX7_choose (Cond.code yX7_choose cX7_choose 5 none :: lwg) (rmm 61 0 0) (va_Pc [.ref (al 10 0), .ref (al b 1), .int v2, .int v3] (Wd x al lv σ)) (QV x al lv res) 0 0 (Ab x) := by
  refine met_W (by decide) (Nat.le_of_ble_eq_true rfl) rfl (fun p e s m args below meth c ls hC hP hS hl => ?_)
  exact wPacker_choose_0 hib hlb hl10 hC σ v2 v3 _ _ ls h hP hS hl
set_option maxHeartbeats 4000000 in
set_option maxRecDepth 20000 in
theorem wRooms_copy_0 {p : Program} {l : Launch} {e : Env} {s : State} {m : MethodId} {args : Array Value} {below : List Frame} {meth : Method} {c : Code} {x : Wx} {al : Nat → Nat → Nat} {lv : Nat → Bool} {res : Sg} {a : Nat} (hia : a < 6) (hla : lv a = true) {as0 ak0 an0 : Nat} (hA0 : AI x al lv as0 ak0 an0) {as1 ak1 an1 : Nat} (hA1 : AI x al lv as1 ak1 an1) (hC : Cx x p s m args meth c cX8_copy 3 none RX8) (σ : Sg) (H : Heap) (locs : List Loc) (ls : Array Slot) (h : fRooms_copy_0 σ a as0 ak0 an0 as1 ak1 an1 = some res) (hP : Pic x al lv σ H) (hS : va_S (Ab x) s.heap H locs) (hl : lv_has ls 3 [(0, .ref (al a 1)), (1, .ref (al as0 ak0)), (2, .ref (al as1 ak1))]) : W p l e (rmm 1 0 0) s m args below meth c H locs 0 0 (MQ below (QV x al lv res) args s 0 0 (Ab x)) (F0 m 0 ls []) := by
  obtain ⟨hx, hb, hml, hown, hts⟩ := hC.1
  unfold fRooms_copy_0 at h
  refine lv_aload_n hx hb dX8_copy_0 rfl (lv_at hl 1 rfl) ?_
  refine lv_iconst (v := 0) hx hb dX8_copy_1 (by decide) ?_
  refine lv_aload_n hx hb dX8_copy_2 rfl (lv_at hl 2 rfl) ?_
  refine lv_iconst (v := 0) hx hb dX8_copy_3 (by decide) ?_
  refine lv_aload_n hx hb dX8_copy_4 rfl (lv_at hl 0 rfl) ?_
  refine gt_X8_0 (a := a) hia hla hC hP wf_X8_51 dX8_copy_5 ?_
  refine r_acopy hC hP hS hl.1 wm_X8_59 hA0 hA1 h (Nat.le_of_ble_eq_true rfl) (Nat.le_of_ble_eq_true rfl) dX8_copy_8 (fun σ1 H locs h hP hS => ?_)
  exact r_retV hC hP hS h dX8_copy_11

set_option maxRecDepth 20000 in
theorem tRooms_copy {l : Launch} (x : Wx) (al : Nat → Nat → Nat) (lv : Nat → Bool) (σ : Sg) (a : Nat) (hia : a < 6) (hla : lv a = true) (as0 ak0 an0 : Nat) (hA0 : AI x al lv as0 ak0 an0) (as1 ak1 an1 : Nat) (hA1 : AI x al lv as1 ak1 an1) (res : Sg) (h : fRooms_copy σ a as0 ak0 an0 as1 ak1 an1 = some res) : Met l yX8_copy (Cond.code yX8_copy cX8_copy 3 none :: lwg) (rmm 1 0 0) (va_Pc [.ref (al a 1), .ref (al as0 ak0), .ref (al as1 ak1)] (Wd x al lv σ)) (QV x al lv res) 0 0 (Ab x) := by
  refine met_W (by decide) (Nat.le_of_ble_eq_true rfl) rfl (fun p e s m args below meth c ls hC hP hS hl => ?_)
  exact wRooms_copy_0 hia hla hA0 hA1 hC σ  _ _ ls h hP hS hl
set_option maxHeartbeats 4000000 in
set_option maxRecDepth 20000 in
theorem wRooms_copyFrom_0 {p : Program} {l : Launch} {e : Env} {s : State} {m : MethodId} {args : Array Value} {below : List Frame} {meth : Method} {c : Code} {x : Wx} {al : Nat → Nat → Nat} {lv : Nat → Bool} {res : Sg} {a : Nat} (hia : a < 6) (hla : lv a = true) {b : Nat} (hib : b < 6) (hlb : lv b = true) (hC : Cx x p s m args meth c cX8_copyFrom 2 none RX8) (σ : Sg) (H : Heap) (locs : List Loc) (ls : Array Slot) (h : fRooms_copyFrom_0 σ a b = some res) (hP : Pic x al lv σ H) (hS : va_S (Ab x) s.heap H locs) (hl : lv_has ls 2 [(0, .ref (al a 1)), (1, .ref (al b 1))]) : W p l e (rmm 2 0 0) s m args below meth c H locs 0 0 (MQ below (QV x al lv res) args s 0 0 (Ab x)) (F0 m 0 ls []) := by
  obtain ⟨hx, hb, hml, hown, hts⟩ := hC.1
  unfold fRooms_copyFrom_0 at h
  refine lv_aload_n hx hb dX8_copyFrom_0 rfl (lv_at hl 0 rfl) ?_
  refine lv_aload_n hx hb dX8_copyFrom_1 rfl (lv_at hl 1 rfl) ?_
  refine gt_X8_0 (a := b) hib hlb hC hP wf_X8_51 dX8_copyFrom_2 ?_
  refine pt_X8_0 (a := a) hia hla hC hP hS wf_X8_51 h dX8_copyFrom_5 (fun σ1 H locs h hP hS => ?_)
  refine lv_aload_n hx hb dX8_copyFrom_8 rfl (lv_at hl 0 rfl) ?_
  refine lv_aload_n hx hb dX8_copyFrom_9 rfl (lv_at hl 1 rfl) ?_
  refine gt_X8_1 (a := b) hib hlb hC hP wf_X8_9 dX8_copyFrom_10 ?_
  refine lv_aload_n hx hb dX8_copyFrom_13 rfl (lv_at hl 0 rfl) ?_
  refine gt_X8_1 (a := a) hia hla hC hP wf_X8_9 dX8_copyFrom_14 ?_
  refine r_cV hS h (fun r hr => r_runV (As := [.ref (al b 2), .ref (al a 2)]) (rest := []) hC kV_X8_55 cw_X8_copy (rc_X8 (a := a) hia hla hC hP) hP (tRooms_copy x al lv σ1 a hia hla b 2 8 (aS_2 (a := b) hib hlb) a 2 8 (aS_2 (a := a) hia hla) r hr) rfl hl.1 ⟨Nat.le_of_ble_eq_true rfl, Nat.le_of_ble_eq_true rfl⟩ ⟨Nat.le_of_ble_eq_true rfl, Nat.le_of_ble_eq_true rfl⟩ (Nat.le_of_ble_eq_true rfl) dX8_copyFrom_17) (fun σ2 H locs h hP hS => ?_)
  refine lv_aload_n hx hb dX8_copyFrom_20 rfl (lv_at hl 0 rfl) ?_
  refine lv_aload_n hx hb dX8_copyFrom_21 rfl (lv_at hl 1 rfl) ?_
  refine gt_X8_2 (a := b) hib hlb hC hP wf_X8_15 dX8_copyFrom_22 ?_
  refine lv_aload_n hx hb dX8_copyFrom_25 rfl (lv_at hl 0 rfl) ?_
  refine gt_X8_2 (a := a) hia hla hC hP wf_X8_15 dX8_copyFrom_26 ?_
  refine r_cV hS h (fun r hr => r_runV (As := [.ref (al b 3), .ref (al a 3)]) (rest := []) hC kV_X8_55 cw_X8_copy (rc_X8 (a := a) hia hla hC hP) hP (tRooms_copy x al lv σ2 a hia hla b 3 8 (aS_3 (a := b) hib hlb) a 3 8 (aS_3 (a := a) hia hla) r hr) rfl hl.1 ⟨Nat.le_of_ble_eq_true rfl, Nat.le_of_ble_eq_true rfl⟩ ⟨Nat.le_of_ble_eq_true rfl, Nat.le_of_ble_eq_true rfl⟩ (Nat.le_of_ble_eq_true rfl) dX8_copyFrom_29) (fun σ3 H locs h hP hS => ?_)
  refine lv_aload_n hx hb dX8_copyFrom_32 rfl (lv_at hl 0 rfl) ?_
  refine lv_aload_n hx hb dX8_copyFrom_33 rfl (lv_at hl 1 rfl) ?_
  refine gt_X8_3 (a := b) hib hlb hC hP wf_X8_18 dX8_copyFrom_34 ?_
  refine lv_aload_n hx hb dX8_copyFrom_37 rfl (lv_at hl 0 rfl) ?_
  refine gt_X8_3 (a := a) hia hla hC hP wf_X8_18 dX8_copyFrom_38 ?_
  refine r_cV hS h (fun r hr => r_runV (As := [.ref (al b 4), .ref (al a 4)]) (rest := []) hC kV_X8_55 cw_X8_copy (rc_X8 (a := a) hia hla hC hP) hP (tRooms_copy x al lv σ3 a hia hla b 4 8 (aS_4 (a := b) hib hlb) a 4 8 (aS_4 (a := a) hia hla) r hr) rfl hl.1 ⟨Nat.le_of_ble_eq_true rfl, Nat.le_of_ble_eq_true rfl⟩ ⟨Nat.le_of_ble_eq_true rfl, Nat.le_of_ble_eq_true rfl⟩ (Nat.le_of_ble_eq_true rfl) dX8_copyFrom_41) (fun σ4 H locs h hP hS => ?_)
  refine lv_aload_n hx hb dX8_copyFrom_44 rfl (lv_at hl 0 rfl) ?_
  refine lv_aload_n hx hb dX8_copyFrom_45 rfl (lv_at hl 1 rfl) ?_
  refine gt_X8_4 (a := b) hib hlb hC hP wf_X8_21 dX8_copyFrom_46 ?_
  refine lv_aload_n hx hb dX8_copyFrom_49 rfl (lv_at hl 0 rfl) ?_
  refine gt_X8_4 (a := a) hia hla hC hP wf_X8_21 dX8_copyFrom_50 ?_
  refine r_cV hS h (fun r hr => r_runV (As := [.ref (al b 5), .ref (al a 5)]) (rest := []) hC kV_X8_55 cw_X8_copy (rc_X8 (a := a) hia hla hC hP) hP (tRooms_copy x al lv σ4 a hia hla b 5 8 (aS_5 (a := b) hib hlb) a 5 8 (aS_5 (a := a) hia hla) r hr) rfl hl.1 ⟨Nat.le_of_ble_eq_true rfl, Nat.le_of_ble_eq_true rfl⟩ ⟨Nat.le_of_ble_eq_true rfl, Nat.le_of_ble_eq_true rfl⟩ (Nat.le_of_ble_eq_true rfl) dX8_copyFrom_53) (fun σ5 H locs h hP hS => ?_)
  refine lv_aload_n hx hb dX8_copyFrom_56 rfl (lv_at hl 0 rfl) ?_
  refine lv_aload_n hx hb dX8_copyFrom_57 rfl (lv_at hl 1 rfl) ?_
  refine gt_X8_5 (a := b) hib hlb hC hP wf_X8_24 dX8_copyFrom_58 ?_
  refine lv_aload_n hx hb dX8_copyFrom_61 rfl (lv_at hl 0 rfl) ?_
  refine gt_X8_5 (a := a) hia hla hC hP wf_X8_24 dX8_copyFrom_62 ?_
  refine r_cV hS h (fun r hr => r_runV (As := [.ref (al b 6), .ref (al a 6)]) (rest := []) hC kV_X8_55 cw_X8_copy (rc_X8 (a := a) hia hla hC hP) hP (tRooms_copy x al lv σ5 a hia hla b 6 8 (aS_6 (a := b) hib hlb) a 6 8 (aS_6 (a := a) hia hla) r hr) rfl hl.1 ⟨Nat.le_of_ble_eq_true rfl, Nat.le_of_ble_eq_true rfl⟩ ⟨Nat.le_of_ble_eq_true rfl, Nat.le_of_ble_eq_true rfl⟩ (Nat.le_of_ble_eq_true rfl) dX8_copyFrom_65) (fun σ6 H locs h hP hS => ?_)
  refine lv_aload_n hx hb dX8_copyFrom_68 rfl (lv_at hl 0 rfl) ?_
  refine lv_aload_n hx hb dX8_copyFrom_69 rfl (lv_at hl 1 rfl) ?_
  refine gt_X8_6 (a := b) hib hlb hC hP wf_X8_27 dX8_copyFrom_70 ?_
  refine lv_aload_n hx hb dX8_copyFrom_73 rfl (lv_at hl 0 rfl) ?_
  refine gt_X8_6 (a := a) hia hla hC hP wf_X8_27 dX8_copyFrom_74 ?_
  refine r_cV hS h (fun r hr => r_runV (As := [.ref (al b 7), .ref (al a 7)]) (rest := []) hC kV_X8_55 cw_X8_copy (rc_X8 (a := a) hia hla hC hP) hP (tRooms_copy x al lv σ6 a hia hla b 7 8 (aS_7 (a := b) hib hlb) a 7 8 (aS_7 (a := a) hia hla) r hr) rfl hl.1 ⟨Nat.le_of_ble_eq_true rfl, Nat.le_of_ble_eq_true rfl⟩ ⟨Nat.le_of_ble_eq_true rfl, Nat.le_of_ble_eq_true rfl⟩ (Nat.le_of_ble_eq_true rfl) dX8_copyFrom_77) (fun σ7 H locs h hP hS => ?_)
  refine lv_aload_n hx hb dX8_copyFrom_80 rfl (lv_at hl 0 rfl) ?_
  refine lv_aload_n hx hb dX8_copyFrom_81 rfl (lv_at hl 1 rfl) ?_
  refine gt_X8_7 (a := b) hib hlb hC hP wf_X8_30 dX8_copyFrom_82 ?_
  refine lv_aload_n hx hb dX8_copyFrom_85 rfl (lv_at hl 0 rfl) ?_
  refine gt_X8_7 (a := a) hia hla hC hP wf_X8_30 dX8_copyFrom_86 ?_
  refine r_cV hS h (fun r hr => r_runV (As := [.ref (al b 8), .ref (al a 8)]) (rest := []) hC kV_X8_55 cw_X8_copy (rc_X8 (a := a) hia hla hC hP) hP (tRooms_copy x al lv σ7 a hia hla b 8 8 (aS_8 (a := b) hib hlb) a 8 8 (aS_8 (a := a) hia hla) r hr) rfl hl.1 ⟨Nat.le_of_ble_eq_true rfl, Nat.le_of_ble_eq_true rfl⟩ ⟨Nat.le_of_ble_eq_true rfl, Nat.le_of_ble_eq_true rfl⟩ (Nat.le_of_ble_eq_true rfl) dX8_copyFrom_89) (fun σ8 H locs h hP hS => ?_)
  refine lv_aload_n hx hb dX8_copyFrom_92 rfl (lv_at hl 0 rfl) ?_
  refine lv_aload_n hx hb dX8_copyFrom_93 rfl (lv_at hl 1 rfl) ?_
  refine gt_X8_8 (a := b) hib hlb hC hP wf_X8_33 dX8_copyFrom_94 ?_
  refine lv_aload_n hx hb dX8_copyFrom_97 rfl (lv_at hl 0 rfl) ?_
  refine gt_X8_8 (a := a) hia hla hC hP wf_X8_33 dX8_copyFrom_98 ?_
  refine r_cV hS h (fun r hr => r_runV (As := [.ref (al b 9), .ref (al a 9)]) (rest := []) hC kV_X8_55 cw_X8_copy (rc_X8 (a := a) hia hla hC hP) hP (tRooms_copy x al lv σ8 a hia hla b 9 8 (aS_9 (a := b) hib hlb) a 9 8 (aS_9 (a := a) hia hla) r hr) rfl hl.1 ⟨Nat.le_of_ble_eq_true rfl, Nat.le_of_ble_eq_true rfl⟩ ⟨Nat.le_of_ble_eq_true rfl, Nat.le_of_ble_eq_true rfl⟩ (Nat.le_of_ble_eq_true rfl) dX8_copyFrom_101) (fun σ9 H locs h hP hS => ?_)
  refine lv_aload_n hx hb dX8_copyFrom_104 rfl (lv_at hl 0 rfl) ?_
  refine lv_aload_n hx hb dX8_copyFrom_105 rfl (lv_at hl 1 rfl) ?_
  refine gt_X8_9 (a := b) hib hlb hC hP wf_X8_36 dX8_copyFrom_106 ?_
  refine lv_aload_n hx hb dX8_copyFrom_109 rfl (lv_at hl 0 rfl) ?_
  refine gt_X8_9 (a := a) hia hla hC hP wf_X8_36 dX8_copyFrom_110 ?_
  refine r_cV hS h (fun r hr => r_runV (As := [.ref (al b 10), .ref (al a 10)]) (rest := []) hC kV_X8_55 cw_X8_copy (rc_X8 (a := a) hia hla hC hP) hP (tRooms_copy x al lv σ9 a hia hla b 10 8 (aS_10 (a := b) hib hlb) a 10 8 (aS_10 (a := a) hia hla) r hr) rfl hl.1 ⟨Nat.le_of_ble_eq_true rfl, Nat.le_of_ble_eq_true rfl⟩ ⟨Nat.le_of_ble_eq_true rfl, Nat.le_of_ble_eq_true rfl⟩ (Nat.le_of_ble_eq_true rfl) dX8_copyFrom_113) (fun σ10 H locs h hP hS => ?_)
  refine lv_aload_n hx hb dX8_copyFrom_116 rfl (lv_at hl 0 rfl) ?_
  refine lv_aload_n hx hb dX8_copyFrom_117 rfl (lv_at hl 1 rfl) ?_
  refine gt_X8_10 (a := b) hib hlb hC hP wf_X8_39 dX8_copyFrom_118 ?_
  refine lv_aload_n hx hb dX8_copyFrom_121 rfl (lv_at hl 0 rfl) ?_
  refine gt_X8_10 (a := a) hia hla hC hP wf_X8_39 dX8_copyFrom_122 ?_
  refine r_cV hS h (fun r hr => r_runV (As := [.ref (al b 11), .ref (al a 11)]) (rest := []) hC kV_X8_55 cw_X8_copy (rc_X8 (a := a) hia hla hC hP) hP (tRooms_copy x al lv σ10 a hia hla b 11 8 (aS_11 (a := b) hib hlb) a 11 8 (aS_11 (a := a) hia hla) r hr) rfl hl.1 ⟨Nat.le_of_ble_eq_true rfl, Nat.le_of_ble_eq_true rfl⟩ ⟨Nat.le_of_ble_eq_true rfl, Nat.le_of_ble_eq_true rfl⟩ (Nat.le_of_ble_eq_true rfl) dX8_copyFrom_125) (fun σ11 H locs h hP hS => ?_)
  refine lv_aload_n hx hb dX8_copyFrom_128 rfl (lv_at hl 0 rfl) ?_
  refine lv_aload_n hx hb dX8_copyFrom_129 rfl (lv_at hl 1 rfl) ?_
  refine gt_X8_11 (a := b) hib hlb hC hP wf_X8_42 dX8_copyFrom_130 ?_
  refine lv_aload_n hx hb dX8_copyFrom_133 rfl (lv_at hl 0 rfl) ?_
  refine gt_X8_11 (a := a) hia hla hC hP wf_X8_42 dX8_copyFrom_134 ?_
  refine r_cV hS h (fun r hr => r_runV (As := [.ref (al b 12), .ref (al a 12)]) (rest := []) hC kV_X8_55 cw_X8_copy (rc_X8 (a := a) hia hla hC hP) hP (tRooms_copy x al lv σ11 a hia hla b 12 8 (aS_12 (a := b) hib hlb) a 12 8 (aS_12 (a := a) hia hla) r hr) rfl hl.1 ⟨Nat.le_of_ble_eq_true rfl, Nat.le_of_ble_eq_true rfl⟩ ⟨Nat.le_of_ble_eq_true rfl, Nat.le_of_ble_eq_true rfl⟩ (Nat.le_of_ble_eq_true rfl) dX8_copyFrom_137) (fun σ12 H locs h hP hS => ?_)
  refine lv_aload_n hx hb dX8_copyFrom_140 rfl (lv_at hl 0 rfl) ?_
  refine lv_aload_n hx hb dX8_copyFrom_141 rfl (lv_at hl 1 rfl) ?_
  refine gt_X8_12 (a := b) hib hlb hC hP wf_X8_45 dX8_copyFrom_142 ?_
  refine lv_aload_n hx hb dX8_copyFrom_145 rfl (lv_at hl 0 rfl) ?_
  refine gt_X8_12 (a := a) hia hla hC hP wf_X8_45 dX8_copyFrom_146 ?_
  refine r_cV hS h (fun r hr => r_runV (As := [.ref (al b 13), .ref (al a 13)]) (rest := []) hC kV_X8_55 cw_X8_copy (rc_X8 (a := a) hia hla hC hP) hP (tRooms_copy x al lv σ12 a hia hla b 13 8 (aS_13 (a := b) hib hlb) a 13 8 (aS_13 (a := a) hia hla) r hr) rfl hl.1 ⟨Nat.le_of_ble_eq_true rfl, Nat.le_of_ble_eq_true rfl⟩ ⟨Nat.le_of_ble_eq_true rfl, Nat.le_of_ble_eq_true rfl⟩ (Nat.le_of_ble_eq_true rfl) dX8_copyFrom_149) (fun σ13 H locs h hP hS => ?_)
  refine lv_aload_n hx hb dX8_copyFrom_152 rfl (lv_at hl 1 rfl) ?_
  refine gt_X8_13 (a := b) hib hlb hC hP wf_X8_48 dX8_copyFrom_153 ?_
  refine lv_iconst (v := 0) hx hb dX8_copyFrom_156 (by decide) ?_
  refine lv_aload_n hx hb dX8_copyFrom_157 rfl (lv_at hl 0 rfl) ?_
  refine gt_X8_13 (a := a) hia hla hC hP wf_X8_48 dX8_copyFrom_158 ?_
  refine lv_iconst (v := 0) hx hb dX8_copyFrom_161 (by decide) ?_
  refine lv_aload_n hx hb dX8_copyFrom_162 rfl (lv_at hl 0 rfl) ?_
  refine gt_X8_0 (a := a) hia hla hC hP wf_X8_51 dX8_copyFrom_163 ?_
  refine lv_sipush (v := 180) hx hb dX8_copyFrom_166 (by decide) ?_
  refine lv_imul hx hb dX8_copyFrom_169 ?_
  refine r_acopy hC hP hS hl.1 wm_X8_59 (aS_14 (a := b) hib hlb) (aS_14 (a := a) hia hla) h (Nat.le_of_ble_eq_true rfl) (Nat.le_of_ble_eq_true rfl) dX8_copyFrom_170 (fun σ14 H locs h hP hS => ?_)
  exact r_retV hC hP hS h dX8_copyFrom_173

set_option maxRecDepth 20000 in
theorem tRooms_copyFrom {l : Launch} (x : Wx) (al : Nat → Nat → Nat) (lv : Nat → Bool) (σ : Sg) (a : Nat) (hia : a < 6) (hla : lv a = true) (b : Nat) (hib : b < 6) (hlb : lv b = true) (res : Sg) (h : fRooms_copyFrom σ a b = some res) : Met l yX8_copyFrom (Cond.code yX8_copyFrom cX8_copyFrom 2 none :: lwg) (rmm 2 0 0) (va_Pc [.ref (al a 1), .ref (al b 1)] (Wd x al lv σ)) (QV x al lv res) 0 0 (Ab x) := by
  refine met_W (by decide) (Nat.le_of_ble_eq_true rfl) rfl (fun p e s m args below meth c ls hC hP hS hl => ?_)
  exact wRooms_copyFrom_0 hia hla hib hlb hC σ  _ _ ls h hP hS hl
set_option maxHeartbeats 4000000 in
set_option maxRecDepth 20000 in
theorem wRooms_open_128_b {p : Program} {l : Launch} {e : Env} {s : State} {m : MethodId} {args : Array Value} {below : List Frame} {meth : Method} {c : Code} {x : Wx} {al : Nat → Nat → Nat} {lv : Nat → Bool} {res : Int32 × Sg} {a : Nat} (hia : a < 6) (hla : lv a = true) (hC : Cx x p s m args meth c cX8_open 8 (some .int) RX8) (k128 : Sg → Int32 → Int32 → Option (Int32 × Sg)) (hk128 : ∀ (σ : Sg) (x6 : Int32) (x7 : Int32) (H : Heap) (locs : List Loc) (ls : Array Slot), k128 σ x6 x7 = some res → Pic x al lv σ H → va_S (Ab x) s.heap H locs → lv_has ls 8 [(0, .ref (al a 1)), (6, .int x6), (7, .int x7)] → W p l e (rmm 1 0 0) s m args below meth c H locs 0 0 (MQ below (QI x al lv res) args s 0 0 (Ab x)) (F0 m 128 ls [])) (σ : Sg) (x6 : Int32) (x7 : Int32) (H : Heap) (locs : List Loc) (ls : Array Slot) (h : fRooms_open_128_b k128 σ a x6 x7 = some res) (hP : Pic x al lv σ H) (hS : va_S (Ab x) s.heap H locs) (hl : lv_has ls 8 [(0, .ref (al a 1)), (6, .int x6), (7, .int x7)]) : W p l e (rmm 1 0 0) s m args below meth c H locs 0 0 (MQ below (QI x al lv res) args s 0 0 (Ab x)) (F0 m 128 ls []) := by
  obtain ⟨hx, hb, hml, hown, hts⟩ := hC.1
  unfold fRooms_open_128_b at h
  refine lv_iload hx hb dX8_open_128 (lv_at hl 2 rfl) ?_
  refine lv_sipush (v := 180) hx hb dX8_open_130 (by decide) ?_
  refine lv_icmp_ge (tgt := 157) hx hb dX8_open_133 (by decide) (fun hc => ?_) (fun hc => ?_)
  · replace h := (br h).1 hc
    refine lv_iload hx hb dX8_open_157 (lv_at hl 1 rfl) ?_
    exact r_retI hC hP hS rfl h dX8_open_159
  · replace h := (br h).2 hc
    refine lv_aload_n hx hb dX8_open_136 rfl (lv_at hl 0 rfl) ?_
    refine gt_X8_13 (a := a) hia hla hC hP wf_X8_48 dX8_open_137 ?_
    refine lv_iload hx hb dX8_open_140 (lv_at hl 1 rfl) ?_
    refine lv_sipush (v := 180) hx hb dX8_open_142 (by decide) ?_
    refine lv_imul hx hb dX8_open_145 ?_
    refine lv_iload hx hb dX8_open_146 (lv_at hl 2 rfl) ?_
    refine lv_iadd hx hb dX8_open_148 ?_
    refine lv_iconst (v := 0) hx hb dX8_open_149 (by decide) ?_
    refine r_iast hC hP hS (aS_14 (a := a) hia hla) h dX8_open_150 (fun σ15 H locs h hP hS => ?_)
    refine r_iinc (v := 1) hC h dX8_open_151 hl (k := 2) rfl rfl (by decide) (fun y16 => [(7, .int y16), (0, .ref (al a 1)), (6, .int x6)]) (fun _ => rfl) (fun y16 ls h hl => ?_)
    refine lv_goto (tgt := 128) hx hb dX8_open_154 (by decide) ?_
    exact hk128 σ15 x6 y16 H locs ls h hP hS (lv_sub hl [1, 2, 0] rfl)

set_option maxHeartbeats 4000000 in
set_option maxRecDepth 20000 in
theorem wRooms_open_128 {p : Program} {l : Launch} {e : Env} {s : State} {m : MethodId} {args : Array Value} {below : List Frame} {meth : Method} {c : Code} {x : Wx} {al : Nat → Nat → Nat} {lv : Nat → Bool} {res : Int32 × Sg} {a : Nat} (hia : a < 6) (hla : lv a = true) (hC : Cx x p s m args meth c cX8_open 8 (some .int) RX8) (n : Nat) (σ : Sg) (x6 : Int32) (x7 : Int32) (H : Heap) (locs : List Loc) (ls : Array Slot) (h : fRooms_open_128 n σ a x6 x7 = some res) (hP : Pic x al lv σ H) (hS : va_S (Ab x) s.heap H locs) (hl : lv_has ls 8 [(0, .ref (al a 1)), (6, .int x6), (7, .int x7)]) : W p l e (rmm 1 0 0) s m args below meth c H locs 0 0 (MQ below (QI x al lv res) args s 0 0 (Ab x)) (F0 m 128 ls []) := by
  induction n generalizing σ x6 x7 H locs ls with
  | zero => exact nomatch h
  | succ n ih => exact wRooms_open_128_b hia hla hC  _ (fun σ x6 x7 H locs ls h hP hS hl => ih σ x6 x7 H locs ls h hP hS hl) σ x6 x7 H locs ls h hP hS hl
set_option maxHeartbeats 4000000 in
set_option maxRecDepth 20000 in
theorem wRooms_open_0 {p : Program} {l : Launch} {e : Env} {s : State} {m : MethodId} {args : Array Value} {below : List Frame} {meth : Method} {c : Code} {x : Wx} {al : Nat → Nat → Nat} {lv : Nat → Bool} {res : Int32 × Sg} {a : Nat} (hia : a < 6) (hla : lv a = true) (hC : Cx x p s m args meth c cX8_open 8 (some .int) RX8) (σ : Sg) (v1 : Int32) (v2 : Int32) (v3 : Int32) (v4 : Int32) (v5 : Int32) (H : Heap) (locs : List Loc) (ls : Array Slot) (h : fRooms_open_0 σ a v1 v2 v3 v4 v5 = some res) (hP : Pic x al lv σ H) (hS : va_S (Ab x) s.heap H locs) (hl : lv_has ls 8 [(0, .ref (al a 1)), (1, .int v1), (2, .int v2), (3, .int v3), (4, .int v4), (5, .int v5)]) : W p l e (rmm 1 0 0) s m args below meth c H locs 0 0 (MQ below (QI x al lv res) args s 0 0 (Ab x)) (F0 m 0 ls []) := by
  obtain ⟨hx, hb, hml, hown, hts⟩ := hC.1
  unfold fRooms_open_0 at h
  refine lv_aload_n hx hb dX8_open_0 rfl (lv_at hl 0 rfl) ?_
  refine gt_X8_0 (a := a) hia hla hC hP wf_X8_51 dX8_open_1 ?_
  refine r_lt h (fun y1 h => ?_)
  refine lv_istore (lv' := [(6, .int y1), (0, .ref (al a 1)), (1, .int v1), (2, .int v2), (3, .int v3), (4, .int v4), (5, .int v5)]) hx hb dX8_open_4 hl (by decide) rfl (fun ls hl => ?_)
  refine lv_aload_n hx hb dX8_open_6 rfl (lv_at hl 1 rfl) ?_
  refine gt_X8_1 (a := a) hia hla hC hP wf_X8_9 dX8_open_7 ?_
  refine lv_iload hx hb dX8_open_10 (lv_at hl 0 rfl) ?_
  refine lv_iload_n hx hb dX8_open_12 rfl (lv_at hl 2 rfl) ?_
  refine r_iast hC hP hS (aS_2 (a := a) hia hla) h dX8_open_13 (fun σ2 H locs h hP hS => ?_)
  refine lv_aload_n hx hb dX8_open_14 rfl (lv_at hl 1 rfl) ?_
  refine gt_X8_2 (a := a) hia hla hC hP wf_X8_15 dX8_open_15 ?_
  refine lv_iload hx hb dX8_open_18 (lv_at hl 0 rfl) ?_
  refine lv_iload_n hx hb dX8_open_20 rfl (lv_at hl 3 rfl) ?_
  refine r_iast hC hP hS (aS_3 (a := a) hia hla) h dX8_open_21 (fun σ3 H locs h hP hS => ?_)
  refine lv_aload_n hx hb dX8_open_22 rfl (lv_at hl 1 rfl) ?_
  refine gt_X8_3 (a := a) hia hla hC hP wf_X8_18 dX8_open_23 ?_
  refine lv_iload hx hb dX8_open_26 (lv_at hl 0 rfl) ?_
  refine lv_iload_n hx hb dX8_open_28 rfl (lv_at hl 4 rfl) ?_
  refine r_iast hC hP hS (aS_4 (a := a) hia hla) h dX8_open_29 (fun σ4 H locs h hP hS => ?_)
  refine lv_aload_n hx hb dX8_open_30 rfl (lv_at hl 1 rfl) ?_
  refine gt_X8_4 (a := a) hia hla hC hP wf_X8_21 dX8_open_31 ?_
  refine lv_iload hx hb dX8_open_34 (lv_at hl 0 rfl) ?_
  refine lv_iload hx hb dX8_open_36 (lv_at hl 5 rfl) ?_
  refine r_iast hC hP hS (aS_5 (a := a) hia hla) h dX8_open_38 (fun σ5 H locs h hP hS => ?_)
  refine lv_aload_n hx hb dX8_open_39 rfl (lv_at hl 1 rfl) ?_
  refine gt_X8_5 (a := a) hia hla hC hP wf_X8_24 dX8_open_40 ?_
  refine lv_iload hx hb dX8_open_43 (lv_at hl 0 rfl) ?_
  refine lv_iload hx hb dX8_open_45 (lv_at hl 6 rfl) ?_
  refine r_iast hC hP hS (aS_6 (a := a) hia hla) h dX8_open_47 (fun σ6 H locs h hP hS => ?_)
  refine lv_aload_n hx hb dX8_open_48 rfl (lv_at hl 1 rfl) ?_
  refine gt_X8_6 (a := a) hia hla hC hP wf_X8_27 dX8_open_49 ?_
  refine lv_iload hx hb dX8_open_52 (lv_at hl 0 rfl) ?_
  refine lv_iload_n hx hb dX8_open_54 rfl (lv_at hl 3 rfl) ?_
  refine lv_iload_n hx hb dX8_open_55 rfl (lv_at hl 4 rfl) ?_
  refine lv_imul hx hb dX8_open_56 ?_
  refine r_iast hC hP hS (aS_7 (a := a) hia hla) h dX8_open_57 (fun σ7 H locs h hP hS => ?_)
  refine lv_aload_n hx hb dX8_open_58 rfl (lv_at hl 1 rfl) ?_
  refine gt_X8_7 (a := a) hia hla hC hP wf_X8_30 dX8_open_59 ?_
  refine lv_iload hx hb dX8_open_62 (lv_at hl 0 rfl) ?_
  refine lv_aload_n hx hb dX8_open_64 rfl (lv_at hl 1 rfl) ?_
  refine gt_X8_6 (a := a) hia hla hC hP wf_X8_27 dX8_open_65 ?_
  refine lv_iload hx hb dX8_open_68 (lv_at hl 0 rfl) ?_
  refine r_iald hC hP (aS_7 (a := a) hia hla) h dX8_open_70 (fun h => ?_)
  refine lv_iload hx hb dX8_open_71 (lv_at hl 5 rfl) ?_
  refine lv_imul hx hb dX8_open_73 ?_
  refine r_iast hC hP hS (aS_8 (a := a) hia hla) h dX8_open_74 (fun σ8 H locs h hP hS => ?_)
  refine lv_aload_n hx hb dX8_open_75 rfl (lv_at hl 1 rfl) ?_
  refine gt_X8_8 (a := a) hia hla hC hP wf_X8_33 dX8_open_76 ?_
  refine lv_iload hx hb dX8_open_79 (lv_at hl 0 rfl) ?_
  refine lv_iconst (v := 0) hx hb dX8_open_81 (by decide) ?_
  refine r_iast hC hP hS (aS_9 (a := a) hia hla) h dX8_open_82 (fun σ9 H locs h hP hS => ?_)
  refine lv_aload_n hx hb dX8_open_83 rfl (lv_at hl 1 rfl) ?_
  refine gt_X8_9 (a := a) hia hla hC hP wf_X8_36 dX8_open_84 ?_
  refine lv_iload hx hb dX8_open_87 (lv_at hl 0 rfl) ?_
  refine lv_iconst (v := 0) hx hb dX8_open_89 (by decide) ?_
  refine r_iast hC hP hS (aS_10 (a := a) hia hla) h dX8_open_90 (fun σ10 H locs h hP hS => ?_)
  refine lv_aload_n hx hb dX8_open_91 rfl (lv_at hl 1 rfl) ?_
  refine gt_X8_10 (a := a) hia hla hC hP wf_X8_39 dX8_open_92 ?_
  refine lv_iload hx hb dX8_open_95 (lv_at hl 0 rfl) ?_
  refine lv_iconst (v := 0) hx hb dX8_open_97 (by decide) ?_
  refine r_iast hC hP hS (aS_11 (a := a) hia hla) h dX8_open_98 (fun σ11 H locs h hP hS => ?_)
  refine lv_aload_n hx hb dX8_open_99 rfl (lv_at hl 1 rfl) ?_
  refine gt_X8_11 (a := a) hia hla hC hP wf_X8_42 dX8_open_100 ?_
  refine lv_iload hx hb dX8_open_103 (lv_at hl 0 rfl) ?_
  refine lv_iconst (v := 0) hx hb dX8_open_105 (by decide) ?_
  refine r_iast hC hP hS (aS_12 (a := a) hia hla) h dX8_open_106 (fun σ12 H locs h hP hS => ?_)
  refine lv_aload_n hx hb dX8_open_107 rfl (lv_at hl 1 rfl) ?_
  refine gt_X8_12 (a := a) hia hla hC hP wf_X8_45 dX8_open_108 ?_
  refine lv_iload hx hb dX8_open_111 (lv_at hl 0 rfl) ?_
  refine lv_iconst (v := 0) hx hb dX8_open_113 (by decide) ?_
  refine r_iast hC hP hS (aS_13 (a := a) hia hla) h dX8_open_114 (fun σ13 H locs h hP hS => ?_)
  refine lv_aload_n hx hb dX8_open_115 rfl (lv_at hl 1 rfl) ?_
  refine lv_dup hx hb dX8_open_116 rfl ?_
  refine gt_X8_0 (a := a) hia hla hC hP wf_X8_51 dX8_open_117 ?_
  refine lv_iconst (v := 1) hx hb dX8_open_120 (by decide) ?_
  refine lv_iadd hx hb dX8_open_121 ?_
  refine pt_X8_0 (a := a) hia hla hC hP hS wf_X8_51 h dX8_open_122 (fun σ14 H locs h hP hS => ?_)
  refine lv_iconst (v := 0) hx hb dX8_open_125 (by decide) ?_
  refine lv_istore (lv' := [(7, .int 0), (6, .int y1), (0, .ref (al a 1)), (1, .int v1), (2, .int v2), (3, .int v3), (4, .int v4), (5, .int v5)]) hx hb dX8_open_126 hl (by decide) rfl (fun ls hl => ?_)
  exact wRooms_open_128 hia hla hC  FU σ14 y1 0 H locs ls h hP hS (lv_sub hl [2, 1, 0] rfl)

set_option maxRecDepth 20000 in
theorem tRooms_open {l : Launch} (x : Wx) (al : Nat → Nat → Nat) (lv : Nat → Bool) (σ : Sg) (a : Nat) (hia : a < 6) (hla : lv a = true) (v1 : Int32) (v2 : Int32) (v3 : Int32) (v4 : Int32) (v5 : Int32) (res : Int32 × Sg) (h : fRooms_open σ a v1 v2 v3 v4 v5 = some res) : Met l yX8_open (Cond.code yX8_open cX8_open 8 (some .int) :: lwg) (rmm 1 0 0) (va_Pc [.ref (al a 1), .int v1, .int v2, .int v3, .int v4, .int v5] (Wd x al lv σ)) (QI x al lv res) 0 0 (Ab x) := by
  refine met_W (by decide) (Nat.le_of_ble_eq_true rfl) rfl (fun p e s m args below meth c ls hC hP hS hl => ?_)
  exact wRooms_open_0 hia hla hC σ v1 v2 v3 v4 v5 _ _ ls h hP hS hl
set_option maxHeartbeats 4000000 in
set_option maxRecDepth 20000 in
theorem wRooms_rowOf_0 {p : Program} {l : Launch} {e : Env} {s : State} {m : MethodId} {args : Array Value} {below : List Frame} {meth : Method} {c : Code} {x : Wx} {al : Nat → Nat → Nat} {lv : Nat → Bool} {res : Int32} {σ : Sg} {a : Nat} (hia : a < 6) (hla : lv a = true) (hC : Cx x p s m args meth c cX8_rowOf 3 (some .int) RX8) (v1 : Int32) (v2 : Int32) (H : Heap) (locs : List Loc) (ls : Array Slot) (h : fRooms_rowOf_0 σ a v1 v2 = some res) (hP : Pic x al lv σ H) (hS : va_S (Ab x) s.heap H locs) (hl : lv_has ls 3 [(0, .ref (al a 1)), (1, .int v1), (2, .int v2)]) : W p l e (rmm 1 0 0) s m args below meth c H locs 0 0 (MQ below (QP x al lv σ res) args s 0 0 (Ab x)) (F0 m 0 ls []) := by
  obtain ⟨hx, hb, hml, hown, hts⟩ := hC.1
  unfold fRooms_rowOf_0 at h
  refine lv_aload_n hx hb dX8_rowOf_0 rfl (lv_at hl 0 rfl) ?_
  refine gt_X8_2 (a := a) hia hla hC hP wf_X8_15 dX8_rowOf_1 ?_
  refine lv_iload_n hx hb dX8_rowOf_4 rfl (lv_at hl 1 rfl) ?_
  refine r_iald hC hP (aS_3 (a := a) hia hla) h dX8_rowOf_5 (fun h => ?_)
  refine lv_iconst (v := 1) hx hb dX8_rowOf_6 (by decide) ?_
  refine lv_icmp_ge (tgt := 14) hx hb dX8_rowOf_7 (by decide) (fun hc => ?_) (fun hc => ?_)
  · replace h := (br h).1 hc
    refine lv_iload_n hx hb dX8_rowOf_14 rfl (lv_at hl 2 rfl) ?_
    refine lv_aload_n hx hb dX8_rowOf_15 rfl (lv_at hl 0 rfl) ?_
    refine gt_X8_2 (a := a) hia hla hC hP wf_X8_15 dX8_rowOf_16 ?_
    refine lv_iload_n hx hb dX8_rowOf_19 rfl (lv_at hl 1 rfl) ?_
    refine r_iald hC hP (aS_3 (a := a) hia hla) h dX8_rowOf_20 (fun h => ?_)
    obtain ⟨hz1, h⟩ := gd_e h
    refine lv_idiv hx hb dX8_rowOf_21 (nzi_n hz1) ?_
    exact r_retP hC hP hS rfl h dX8_rowOf_22
  · replace h := (br h).2 hc
    refine lv_iconst (v := 0) hx hb dX8_rowOf_10 (by decide) ?_
    refine lv_goto (tgt := 22) hx hb dX8_rowOf_11 (by decide) ?_
    exact r_retP hC hP hS rfl h dX8_rowOf_22

set_option maxRecDepth 20000 in
theorem tRooms_rowOf {l : Launch} (x : Wx) (al : Nat → Nat → Nat) (lv : Nat → Bool) (σ : Sg) (a : Nat) (hia : a < 6) (hla : lv a = true) (v1 : Int32) (v2 : Int32) (res : Int32) (h : fRooms_rowOf σ a v1 v2 = some res) : Met l yX8_rowOf (Cond.code yX8_rowOf cX8_rowOf 3 (some .int) :: lwg) (rmm 1 0 0) (va_Pc [.ref (al a 1), .int v1, .int v2] (Wd x al lv σ)) (QP x al lv σ res) 0 0 (Ab x) := by
  refine met_W (by decide) (Nat.le_of_ble_eq_true rfl) rfl (fun p e s m args below meth c ls hC hP hS hl => ?_)
  exact wRooms_rowOf_0 hia hla hC v1 v2 _ _ ls h hP hS hl
set_option maxHeartbeats 4000000 in
set_option maxRecDepth 20000 in
theorem wRooms_isLaid_0 {p : Program} {l : Launch} {e : Env} {s : State} {m : MethodId} {args : Array Value} {below : List Frame} {meth : Method} {c : Code} {x : Wx} {al : Nat → Nat → Nat} {lv : Nat → Bool} {res : Int32} {σ : Sg} {a : Nat} (hia : a < 6) (hla : lv a = true) (hC : Cx x p s m args meth c cX8_isLaid 3 (some .boolean) RX8) (v1 : Int32) (v2 : Int32) (H : Heap) (locs : List Loc) (ls : Array Slot) (h : fRooms_isLaid_0 σ a v1 v2 = some res) (hP : Pic x al lv σ H) (hS : va_S (Ab x) s.heap H locs) (hl : lv_has ls 3 [(0, .ref (al a 1)), (1, .int v1), (2, .int v2)]) : W p l e (rmm 1 0 0) s m args below meth c H locs 0 0 (MQ below (QP x al lv σ res) args s 0 0 (Ab x)) (F0 m 0 ls []) := by
  obtain ⟨hx, hb, hml, hown, hts⟩ := hC.1
  unfold fRooms_isLaid_0 at h
  refine lv_iload_n hx hb dX8_isLaid_0 rfl (lv_at hl 2 rfl) ?_
  refine lv_aload_n hx hb dX8_isLaid_1 rfl (lv_at hl 0 rfl) ?_
  refine gt_X8_3 (a := a) hia hla hC hP wf_X8_18 dX8_isLaid_2 ?_
  refine lv_iload_n hx hb dX8_isLaid_5 rfl (lv_at hl 1 rfl) ?_
  refine r_iald hC hP (aS_4 (a := a) hia hla) h dX8_isLaid_6 (fun h => ?_)
  refine lv_aload_n hx hb dX8_isLaid_7 rfl (lv_at hl 0 rfl) ?_
  refine gt_X8_4 (a := a) hia hla hC hP wf_X8_21 dX8_isLaid_8 ?_
  refine lv_iload_n hx hb dX8_isLaid_11 rfl (lv_at hl 1 rfl) ?_
  refine r_iald hC hP (aS_5 (a := a) hia hla) h dX8_isLaid_12 (fun h => ?_)
  refine lv_imul hx hb dX8_isLaid_13 ?_
  refine lv_icmp_ge (tgt := 34) hx hb dX8_isLaid_14 (by decide) (fun hc => ?_) (fun hc => ?_)
  · replace h := (br h).1 hc
    refine lv_iconst (v := 0) hx hb dX8_isLaid_34 (by decide) ?_
    exact r_retP hC hP hS rfl h dX8_isLaid_35
  · replace h := (br h).2 hc
    refine lv_aload_n hx hb dX8_isLaid_17 rfl (lv_at hl 0 rfl) ?_
    refine gt_X8_12 (a := a) hia hla hC hP wf_X8_45 dX8_isLaid_18 ?_
    refine lv_iload_n hx hb dX8_isLaid_21 rfl (lv_at hl 1 rfl) ?_
    refine r_iald hC hP (aS_13 (a := a) hia hla) h dX8_isLaid_22 (fun h => ?_)
    refine lv_iload_n hx hb dX8_isLaid_23 rfl (lv_at hl 2 rfl) ?_
    refine lv_iushr (v := ((σ a 13 v1.toNatClampNeg).toUInt32 >>> (v2.toUInt32 &&& Int32.toUInt32 31)).toInt32) hx hb dX8_isLaid_24 rfl ?_
    refine lv_iconst (v := 1) hx hb dX8_isLaid_25 (by decide) ?_
    refine lv_iand hx hb dX8_isLaid_26 ?_
    refine lv_if_eq (tgt := 34) hx hb dX8_isLaid_27 (by decide) (fun hc => ?_) (fun hc => ?_)
    · replace h := (br h).1 hc
      refine lv_iconst (v := 0) hx hb dX8_isLaid_34 (by decide) ?_
      exact r_retP hC hP hS rfl h dX8_isLaid_35
    · replace h := (br h).2 hc
      refine lv_iconst (v := 1) hx hb dX8_isLaid_30 (by decide) ?_
      refine lv_goto (tgt := 35) hx hb dX8_isLaid_31 (by decide) ?_
      exact r_retP hC hP hS rfl h dX8_isLaid_35

set_option maxRecDepth 20000 in
theorem tRooms_isLaid {l : Launch} (x : Wx) (al : Nat → Nat → Nat) (lv : Nat → Bool) (σ : Sg) (a : Nat) (hia : a < 6) (hla : lv a = true) (v1 : Int32) (v2 : Int32) (res : Int32) (h : fRooms_isLaid σ a v1 v2 = some res) : Met l yX8_isLaid (Cond.code yX8_isLaid cX8_isLaid 3 (some .boolean) :: lwg) (rmm 1 0 0) (va_Pc [.ref (al a 1), .int v1, .int v2] (Wd x al lv σ)) (QP x al lv σ res) 0 0 (Ab x) := by
  refine met_W (by decide) (Nat.le_of_ble_eq_true rfl) rfl (fun p e s m args below meth c ls hC hP hS hl => ?_)
  exact wRooms_isLaid_0 hia hla hC v1 v2 _ _ ls h hP hS hl
set_option maxHeartbeats 4000000 in
set_option maxRecDepth 20000 in
theorem wRooms_isAllLaid_0 {p : Program} {l : Launch} {e : Env} {s : State} {m : MethodId} {args : Array Value} {below : List Frame} {meth : Method} {c : Code} {x : Wx} {al : Nat → Nat → Nat} {lv : Nat → Bool} {res : Int32} {σ : Sg} {a : Nat} (hia : a < 6) (hla : lv a = true) (hC : Cx x p s m args meth c cX8_isAllLaid 2 (some .boolean) RX8) (v1 : Int32) (H : Heap) (locs : List Loc) (ls : Array Slot) (h : fRooms_isAllLaid_0 σ a v1 = some res) (hP : Pic x al lv σ H) (hS : va_S (Ab x) s.heap H locs) (hl : lv_has ls 2 [(0, .ref (al a 1)), (1, .int v1)]) : W p l e (rmm 1 0 0) s m args below meth c H locs 0 0 (MQ below (QP x al lv σ res) args s 0 0 (Ab x)) (F0 m 0 ls []) := by
  obtain ⟨hx, hb, hml, hown, hts⟩ := hC.1
  unfold fRooms_isAllLaid_0 at h
  refine lv_aload_n hx hb dX8_isAllLaid_0 rfl (lv_at hl 0 rfl) ?_
  refine gt_X8_12 (a := a) hia hla hC hP wf_X8_45 dX8_isAllLaid_1 ?_
  refine lv_iload_n hx hb dX8_isAllLaid_4 rfl (lv_at hl 1 rfl) ?_
  refine r_iald hC hP (aS_13 (a := a) hia hla) h dX8_isAllLaid_5 (fun h => ?_)
  refine lv_iconst (v := 1) hx hb dX8_isAllLaid_6 (by decide) ?_
  refine lv_aload_n hx hb dX8_isAllLaid_7 rfl (lv_at hl 0 rfl) ?_
  refine gt_X8_3 (a := a) hia hla hC hP wf_X8_18 dX8_isAllLaid_8 ?_
  refine lv_iload_n hx hb dX8_isAllLaid_11 rfl (lv_at hl 1 rfl) ?_
  refine r_iald hC hP (aS_4 (a := a) hia hla) h dX8_isAllLaid_12 (fun h => ?_)
  refine lv_aload_n hx hb dX8_isAllLaid_13 rfl (lv_at hl 0 rfl) ?_
  refine gt_X8_4 (a := a) hia hla hC hP wf_X8_21 dX8_isAllLaid_14 ?_
  refine lv_iload_n hx hb dX8_isAllLaid_17 rfl (lv_at hl 1 rfl) ?_
  refine r_iald hC hP (aS_5 (a := a) hia hla) h dX8_isAllLaid_18 (fun h => ?_)
  refine lv_imul hx hb dX8_isAllLaid_19 ?_
  refine lv_ishl hx hb dX8_isAllLaid_20 ?_
  refine lv_iconst (v := 1) hx hb dX8_isAllLaid_21 (by decide) ?_
  refine lv_isub hx hb dX8_isAllLaid_22 ?_
  refine lv_icmp_ne (tgt := 30) hx hb dX8_isAllLaid_23 (by decide) (fun hc => ?_) (fun hc => ?_)
  · replace h := (br h).2 hc
    refine lv_iconst (v := 0) hx hb dX8_isAllLaid_30 (by decide) ?_
    exact r_retP hC hP hS rfl h dX8_isAllLaid_31
  · replace h := (br h).1 hc
    refine lv_iconst (v := 1) hx hb dX8_isAllLaid_26 (by decide) ?_
    refine lv_goto (tgt := 31) hx hb dX8_isAllLaid_27 (by decide) ?_
    exact r_retP hC hP hS rfl h dX8_isAllLaid_31

set_option maxRecDepth 20000 in
theorem tRooms_isAllLaid {l : Launch} (x : Wx) (al : Nat → Nat → Nat) (lv : Nat → Bool) (σ : Sg) (a : Nat) (hia : a < 6) (hla : lv a = true) (v1 : Int32) (res : Int32) (h : fRooms_isAllLaid σ a v1 = some res) : Met l yX8_isAllLaid (Cond.code yX8_isAllLaid cX8_isAllLaid 2 (some .boolean) :: lwg) (rmm 1 0 0) (va_Pc [.ref (al a 1), .int v1] (Wd x al lv σ)) (QP x al lv σ res) 0 0 (Ab x) := by
  refine met_W (by decide) (Nat.le_of_ble_eq_true rfl) rfl (fun p e s m args below meth c ls hC hP hS hl => ?_)
  exact wRooms_isAllLaid_0 hia hla hC v1 _ _ ls h hP hS hl
set_option maxHeartbeats 4000000 in
set_option maxRecDepth 20000 in
theorem wRooms_bears_34 {p : Program} {l : Launch} {e : Env} {s : State} {m : MethodId} {args : Array Value} {below : List Frame} {meth : Method} {c : Code} {x : Wx} {al : Nat → Nat → Nat} {lv : Nat → Bool} {res : Int32} {σ : Sg} {a : Nat} (hia : a < 6) (hla : lv a = true) (hC : Cx x p s m args meth c cX8_bears 4 (some .boolean) RX8) (H : Heap) (locs : List Loc) (ls : Array Slot) (h : fRooms_bears_34 σ a = some res) (hP : Pic x al lv σ H) (hS : va_S (Ab x) s.heap H locs) (hl : lv_has ls 4 []) : W p l e (rmm 2 0 0) s m args below meth c H locs 0 0 (MQ below (QP x al lv σ res) args s 0 0 (Ab x)) (F0 m 34 ls []) := by
  obtain ⟨hx, hb, hml, hown, hts⟩ := hC.1
  unfold fRooms_bears_34 at h
  refine lv_iconst (v := 1) hx hb dX8_bears_34 (by decide) ?_
  refine lv_goto (tgt := 39) hx hb dX8_bears_35 (by decide) ?_
  exact r_retP hC hP hS rfl h dX8_bears_39

set_option maxHeartbeats 4000000 in
set_option maxRecDepth 20000 in
theorem wRooms_bears_0 {p : Program} {l : Launch} {e : Env} {s : State} {m : MethodId} {args : Array Value} {below : List Frame} {meth : Method} {c : Code} {x : Wx} {al : Nat → Nat → Nat} {lv : Nat → Bool} {res : Int32} {σ : Sg} {a : Nat} (hia : a < 6) (hla : lv a = true) (hC : Cx x p s m args meth c cX8_bears 4 (some .boolean) RX8) (v1 : Int32) (v2 : Int32) (H : Heap) (locs : List Loc) (ls : Array Slot) (h : fRooms_bears_0 σ a v1 v2 = some res) (hP : Pic x al lv σ H) (hS : va_S (Ab x) s.heap H locs) (hl : lv_has ls 4 [(0, .ref (al a 1)), (1, .int v1), (2, .int v2)]) : W p l e (rmm 2 0 0) s m args below meth c H locs 0 0 (MQ below (QP x al lv σ res) args s 0 0 (Ab x)) (F0 m 0 ls []) := by
  obtain ⟨hx, hb, hml, hown, hts⟩ := hC.1
  unfold fRooms_bears_0 at h
  refine lv_aload_n hx hb dX8_bears_0 rfl (lv_at hl 0 rfl) ?_
  refine lv_iload_n hx hb dX8_bears_1 rfl (lv_at hl 1 rfl) ?_
  refine lv_iload_n hx hb dX8_bears_2 rfl (lv_at hl 2 rfl) ?_
  refine lv_aload_n hx hb dX8_bears_3 rfl (lv_at hl 0 rfl) ?_
  refine gt_X8_6 (a := a) hia hla hC hP wf_X8_27 dX8_bears_4 ?_
  refine lv_iload_n hx hb dX8_bears_7 rfl (lv_at hl 1 rfl) ?_
  refine r_iald hC hP (aS_7 (a := a) hia hla) h dX8_bears_8 (fun h => ?_)
  refine lv_isub hx hb dX8_bears_9 ?_
  refine r_cP hS h (fun r hr => r_runV (As := [.int v1, .int (v2 - (σ a 7 v1.toNatClampNeg))]) (rest := []) hC kV_X8_76 cw_X8_at (rc_X8 (a := a) hia hla hC hP) hP (tRooms_at x al lv σ a hia hla v1 (v2 - (σ a 7 v1.toNatClampNeg)) r hr) rfl hl.1 ⟨Nat.le_of_ble_eq_true rfl, Nat.le_of_ble_eq_true rfl⟩ ⟨Nat.le_of_ble_eq_true rfl, Nat.le_of_ble_eq_true rfl⟩ (Nat.le_of_ble_eq_true rfl) dX8_bears_10) (fun y1 H locs h hP hS => ?_)
  refine lv_istore_n (lv' := [(3, .int y1), (0, .ref (al a 1)), (1, .int v1), (2, .int v2)]) hx hb dX8_bears_13 rfl hl (by decide) rfl (fun ls hl => ?_)
  refine lv_aload_n hx hb dX8_bears_14 rfl (lv_at hl 1 rfl) ?_
  refine lv_iload_n hx hb dX8_bears_15 rfl (lv_at hl 2 rfl) ?_
  refine lv_iload_n hx hb dX8_bears_16 rfl (lv_at hl 3 rfl) ?_
  refine r_cP hS h (fun r hr => r_runV (As := [.int v1, .int v2]) (rest := []) hC kV_X8_73 cw_X8_isOnFloor (rc_X8 (a := a) hia hla hC hP) hP (tRooms_isOnFloor x al lv σ a hia hla v1 v2 r hr) rfl hl.1 ⟨Nat.le_of_ble_eq_true rfl, Nat.le_of_ble_eq_true rfl⟩ ⟨Nat.le_of_ble_eq_true rfl, Nat.le_of_ble_eq_true rfl⟩ (Nat.le_of_ble_eq_true rfl) dX8_bears_17) (fun y2 H locs h hP hS => ?_)
  refine lv_if_ne (tgt := 34) hx hb dX8_bears_20 (by decide) (fun hc => ?_) (fun hc => ?_)
  · replace h := (br h).2 hc
    exact wRooms_bears_34 hia hla hC   H locs ls h hP hS (lv_sub hl [] rfl)
  · replace h := (br h).1 hc
    refine lv_iload_n hx hb dX8_bears_23 rfl (lv_at hl 0 rfl) ?_
    refine lv_iconst (v := 1) hx hb dX8_bears_24 (by decide) ?_
    refine lv_icmp_eq (tgt := 34) hx hb dX8_bears_25 (by decide) (fun hc => ?_) (fun hc => ?_)
    · replace h := (br h).1 hc
      exact wRooms_bears_34 hia hla hC   H locs ls h hP hS (lv_sub hl [] rfl)
    · replace h := (br h).2 hc
      refine lv_iload_n hx hb dX8_bears_28 rfl (lv_at hl 0 rfl) ?_
      refine lv_bipush (v := 10) hx hb dX8_bears_29 (by decide) ?_
      refine lv_icmp_lt (tgt := 38) hx hb dX8_bears_31 (by decide) (fun hc => ?_) (fun hc => ?_)
      · replace h := (br h).1 hc
        refine lv_iconst (v := 0) hx hb dX8_bears_38 (by decide) ?_
        exact r_retP hC hP hS rfl h dX8_bears_39
      · replace h := (br h).2 hc
        exact wRooms_bears_34 hia hla hC   H locs ls h hP hS (lv_sub hl [] rfl)

set_option maxRecDepth 20000 in
theorem tRooms_bears {l : Launch} (x : Wx) (al : Nat → Nat → Nat) (lv : Nat → Bool) (σ : Sg) (a : Nat) (hia : a < 6) (hla : lv a = true) (v1 : Int32) (v2 : Int32) (res : Int32) (h : fRooms_bears σ a v1 v2 = some res) : Met l yX8_bears (Cond.code yX8_bears cX8_bears 4 (some .boolean) :: lwg) (rmm 2 0 0) (va_Pc [.ref (al a 1), .int v1, .int v2] (Wd x al lv σ)) (QP x al lv σ res) 0 0 (Ab x) := by
  refine met_W (by decide) (Nat.le_of_ble_eq_true rfl) rfl (fun p e s m args below meth c ls hC hP hS hl => ?_)
  exact wRooms_bears_0 hia hla hC v1 v2 _ _ ls h hP hS hl
set_option maxHeartbeats 4000000 in
set_option maxRecDepth 20000 in
theorem wRooms_isRowBare_12_b {p : Program} {l : Launch} {e : Env} {s : State} {m : MethodId} {args : Array Value} {below : List Frame} {meth : Method} {c : Code} {x : Wx} {al : Nat → Nat → Nat} {lv : Nat → Bool} {res : Int32} {σ : Sg} {a : Nat} (hia : a < 6) (hla : lv a = true) (hC : Cx x p s m args meth c cX8_isRowBare 5 (some .boolean) RX8) (k12 : Int32 → Int32 → Int32 → Option (Int32)) (hk12 : ∀ (x1 : Int32) (x3 : Int32) (x4 : Int32) (H : Heap) (locs : List Loc) (ls : Array Slot), k12 x1 x3 x4 = some res → Pic x al lv σ H → va_S (Ab x) s.heap H locs → lv_has ls 5 [(0, .ref (al a 1)), (1, .int x1), (3, .int x3), (4, .int x4)] → W p l e (rmm 2 0 0) s m args below meth c H locs 0 0 (MQ below (QP x al lv σ res) args s 0 0 (Ab x)) (F0 m 12 ls [])) (x1 : Int32) (x3 : Int32) (x4 : Int32) (H : Heap) (locs : List Loc) (ls : Array Slot) (h : fRooms_isRowBare_12_b k12 σ a x1 x3 x4 = some res) (hP : Pic x al lv σ H) (hS : va_S (Ab x) s.heap H locs) (hl : lv_has ls 5 [(0, .ref (al a 1)), (1, .int x1), (3, .int x3), (4, .int x4)]) : W p l e (rmm 2 0 0) s m args below meth c H locs 0 0 (MQ below (QP x al lv σ res) args s 0 0 (Ab x)) (F0 m 12 ls []) := by
  obtain ⟨hx, hb, hml, hown, hts⟩ := hC.1
  unfold fRooms_isRowBare_12_b at h
  refine lv_iload hx hb dX8_isRowBare_12 (lv_at hl 3 rfl) ?_
  refine lv_aload_n hx hb dX8_isRowBare_14 rfl (lv_at hl 0 rfl) ?_
  refine gt_X8_2 (a := a) hia hla hC hP wf_X8_15 dX8_isRowBare_15 ?_
  refine lv_iload_n hx hb dX8_isRowBare_18 rfl (lv_at hl 1 rfl) ?_
  refine r_iald hC hP (aS_3 (a := a) hia hla) h dX8_isRowBare_19 (fun h => ?_)
  refine lv_icmp_ge (tgt := 43) hx hb dX8_isRowBare_20 (by decide) (fun hc => ?_) (fun hc => ?_)
  · replace h := (br h).1 hc
    refine lv_iconst (v := 1) hx hb dX8_isRowBare_43 (by decide) ?_
    exact r_retP hC hP hS rfl h dX8_isRowBare_44
  · replace h := (br h).2 hc
    refine lv_aload_n hx hb dX8_isRowBare_23 rfl (lv_at hl 0 rfl) ?_
    refine lv_iload_n hx hb dX8_isRowBare_24 rfl (lv_at hl 1 rfl) ?_
    refine lv_iload_n hx hb dX8_isRowBare_25 rfl (lv_at hl 2 rfl) ?_
    refine lv_iload hx hb dX8_isRowBare_26 (lv_at hl 3 rfl) ?_
    refine lv_iadd hx hb dX8_isRowBare_28 ?_
    refine r_cP hS h (fun r hr => r_runV (As := [.int x1, .int (x3 + x4)]) (rest := []) hC kV_X8_76 cw_X8_at (rc_X8 (a := a) hia hla hC hP) hP (tRooms_at x al lv σ a hia hla x1 (x3 + x4) r hr) rfl hl.1 ⟨Nat.le_of_ble_eq_true rfl, Nat.le_of_ble_eq_true rfl⟩ ⟨Nat.le_of_ble_eq_true rfl, Nat.le_of_ble_eq_true rfl⟩ (Nat.le_of_ble_eq_true rfl) dX8_isRowBare_29) (fun y2 H locs h hP hS => ?_)
    refine lv_if_eq (tgt := 37) hx hb dX8_isRowBare_32 (by decide) (fun hc => ?_) (fun hc => ?_)
    · replace h := (br h).1 hc
      refine r_iinc (v := 1) hC h dX8_isRowBare_37 hl (k := 3) rfl rfl (by decide) (fun y3 => [(4, .int y3), (0, .ref (al a 1)), (1, .int x1), (3, .int x3)]) (fun _ => rfl) (fun y3 ls h hl => ?_)
      refine lv_goto (tgt := 12) hx hb dX8_isRowBare_40 (by decide) ?_
      exact hk12 x1 x3 y3 H locs ls h hP hS (lv_sub hl [1, 2, 3, 0] rfl)
    · replace h := (br h).2 hc
      refine lv_iconst (v := 0) hx hb dX8_isRowBare_35 (by decide) ?_
      exact r_retP hC hP hS rfl h dX8_isRowBare_36

set_option maxHeartbeats 4000000 in
set_option maxRecDepth 20000 in
theorem wRooms_isRowBare_12 {p : Program} {l : Launch} {e : Env} {s : State} {m : MethodId} {args : Array Value} {below : List Frame} {meth : Method} {c : Code} {x : Wx} {al : Nat → Nat → Nat} {lv : Nat → Bool} {res : Int32} {σ : Sg} {a : Nat} (hia : a < 6) (hla : lv a = true) (hC : Cx x p s m args meth c cX8_isRowBare 5 (some .boolean) RX8) (n : Nat) (x1 : Int32) (x3 : Int32) (x4 : Int32) (H : Heap) (locs : List Loc) (ls : Array Slot) (h : fRooms_isRowBare_12 n σ a x1 x3 x4 = some res) (hP : Pic x al lv σ H) (hS : va_S (Ab x) s.heap H locs) (hl : lv_has ls 5 [(0, .ref (al a 1)), (1, .int x1), (3, .int x3), (4, .int x4)]) : W p l e (rmm 2 0 0) s m args below meth c H locs 0 0 (MQ below (QP x al lv σ res) args s 0 0 (Ab x)) (F0 m 12 ls []) := by
  induction n generalizing x1 x3 x4 H locs ls with
  | zero => exact nomatch h
  | succ n ih => exact wRooms_isRowBare_12_b hia hla hC  _ (fun x1 x3 x4 H locs ls h hP hS hl => ih x1 x3 x4 H locs ls h hP hS hl) x1 x3 x4 H locs ls h hP hS hl
set_option maxHeartbeats 4000000 in
set_option maxRecDepth 20000 in
theorem wRooms_isRowBare_0 {p : Program} {l : Launch} {e : Env} {s : State} {m : MethodId} {args : Array Value} {below : List Frame} {meth : Method} {c : Code} {x : Wx} {al : Nat → Nat → Nat} {lv : Nat → Bool} {res : Int32} {σ : Sg} {a : Nat} (hia : a < 6) (hla : lv a = true) (hC : Cx x p s m args meth c cX8_isRowBare 5 (some .boolean) RX8) (v1 : Int32) (v2 : Int32) (H : Heap) (locs : List Loc) (ls : Array Slot) (h : fRooms_isRowBare_0 σ a v1 v2 = some res) (hP : Pic x al lv σ H) (hS : va_S (Ab x) s.heap H locs) (hl : lv_has ls 5 [(0, .ref (al a 1)), (1, .int v1), (2, .int v2)]) : W p l e (rmm 2 0 0) s m args below meth c H locs 0 0 (MQ below (QP x al lv σ res) args s 0 0 (Ab x)) (F0 m 0 ls []) := by
  obtain ⟨hx, hb, hml, hown, hts⟩ := hC.1
  unfold fRooms_isRowBare_0 at h
  refine lv_iload_n hx hb dX8_isRowBare_0 rfl (lv_at hl 2 rfl) ?_
  refine lv_aload_n hx hb dX8_isRowBare_1 rfl (lv_at hl 0 rfl) ?_
  refine gt_X8_2 (a := a) hia hla hC hP wf_X8_15 dX8_isRowBare_2 ?_
  refine lv_iload_n hx hb dX8_isRowBare_5 rfl (lv_at hl 1 rfl) ?_
  refine r_iald hC hP (aS_3 (a := a) hia hla) h dX8_isRowBare_6 (fun h => ?_)
  refine lv_imul hx hb dX8_isRowBare_7 ?_
  refine r_lt h (fun y1 h => ?_)
  refine lv_istore_n (lv' := [(3, .int y1), (0, .ref (al a 1)), (1, .int v1), (2, .int v2)]) hx hb dX8_isRowBare_8 rfl hl (by decide) rfl (fun ls hl => ?_)
  refine lv_iconst (v := 0) hx hb dX8_isRowBare_9 (by decide) ?_
  refine lv_istore (lv' := [(4, .int 0), (3, .int y1), (0, .ref (al a 1)), (1, .int v1), (2, .int v2)]) hx hb dX8_isRowBare_10 hl (by decide) rfl (fun ls hl => ?_)
  exact wRooms_isRowBare_12 hia hla hC  FU v1 y1 0 H locs ls h hP hS (lv_sub hl [2, 3, 1, 0] rfl)

set_option maxRecDepth 20000 in
theorem tRooms_isRowBare {l : Launch} (x : Wx) (al : Nat → Nat → Nat) (lv : Nat → Bool) (σ : Sg) (a : Nat) (hia : a < 6) (hla : lv a = true) (v1 : Int32) (v2 : Int32) (res : Int32) (h : fRooms_isRowBare σ a v1 v2 = some res) : Met l yX8_isRowBare (Cond.code yX8_isRowBare cX8_isRowBare 5 (some .boolean) :: lwg) (rmm 2 0 0) (va_Pc [.ref (al a 1), .int v1, .int v2] (Wd x al lv σ)) (QP x al lv σ res) 0 0 (Ab x) := by
  refine met_W (by decide) (Nat.le_of_ble_eq_true rfl) rfl (fun p e s m args below meth c ls hC hP hS hl => ?_)
  exact wRooms_isRowBare_0 hia hla hC v1 v2 _ _ ls h hP hS hl
set_option maxHeartbeats 4000000 in
set_option maxRecDepth 20000 in
theorem wRooms_isBare_16_b {p : Program} {l : Launch} {e : Env} {s : State} {m : MethodId} {args : Array Value} {below : List Frame} {meth : Method} {c : Code} {x : Wx} {al : Nat → Nat → Nat} {lv : Nat → Bool} {res : Int32} {σ : Sg} {a : Nat} (hia : a < 6) (hla : lv a = true) (hC : Cx x p s m args meth c cX8_isBare 4 (some .boolean) RX8) (k16 : Int32 → Int32 → Int32 → Option (Int32)) (hk16 : ∀ (x1 : Int32) (x2 : Int32) (x3 : Int32) (H : Heap) (locs : List Loc) (ls : Array Slot), k16 x1 x2 x3 = some res → Pic x al lv σ H → va_S (Ab x) s.heap H locs → lv_has ls 4 [(0, .ref (al a 1)), (1, .int x1), (2, .int x2), (3, .int x3)] → W p l e (rmm 3 0 0) s m args below meth c H locs 0 0 (MQ below (QP x al lv σ res) args s 0 0 (Ab x)) (F0 m 16 ls [])) (x1 : Int32) (x2 : Int32) (x3 : Int32) (H : Heap) (locs : List Loc) (ls : Array Slot) (h : fRooms_isBare_16_b k16 σ a x1 x2 x3 = some res) (hP : Pic x al lv σ H) (hS : va_S (Ab x) s.heap H locs) (hl : lv_has ls 4 [(0, .ref (al a 1)), (1, .int x1), (2, .int x2), (3, .int x3)]) : W p l e (rmm 3 0 0) s m args below meth c H locs 0 0 (MQ below (QP x al lv σ res) args s 0 0 (Ab x)) (F0 m 16 ls []) := by
  obtain ⟨hx, hb, hml, hown, hts⟩ := hC.1
  unfold fRooms_isBare_16_b at h
  refine lv_iload_n hx hb dX8_isBare_16 rfl (lv_at hl 3 rfl) ?_
  refine lv_iload_n hx hb dX8_isBare_17 rfl (lv_at hl 2 rfl) ?_
  refine lv_icmp_ge (tgt := 38) hx hb dX8_isBare_18 (by decide) (fun hc => ?_) (fun hc => ?_)
  · replace h := (br h).1 hc
    refine lv_iconst (v := 1) hx hb dX8_isBare_38 (by decide) ?_
    exact r_retP hC hP hS rfl h dX8_isBare_39
  · replace h := (br h).2 hc
    refine lv_aload_n hx hb dX8_isBare_21 rfl (lv_at hl 0 rfl) ?_
    refine lv_iload_n hx hb dX8_isBare_22 rfl (lv_at hl 1 rfl) ?_
    refine lv_iload_n hx hb dX8_isBare_23 rfl (lv_at hl 3 rfl) ?_
    refine r_cP hS h (fun r hr => r_runV (As := [.int x1, .int x3]) (rest := []) hC kV_X8_80 cw_X8_isRowBare (rc_X8 (a := a) hia hla hC hP) hP (tRooms_isRowBare x al lv σ a hia hla x1 x3 r hr) rfl hl.1 ⟨Nat.le_of_ble_eq_true rfl, Nat.le_of_ble_eq_true rfl⟩ ⟨Nat.le_of_ble_eq_true rfl, Nat.le_of_ble_eq_true rfl⟩ (Nat.le_of_ble_eq_true rfl) dX8_isBare_24) (fun y2 H locs h hP hS => ?_)
    refine lv_if_ne (tgt := 32) hx hb dX8_isBare_27 (by decide) (fun hc => ?_) (fun hc => ?_)
    · replace h := (br h).2 hc
      refine r_iinc (v := 1) hC h dX8_isBare_32 hl (k := 3) rfl rfl (by decide) (fun y3 => [(3, .int y3), (0, .ref (al a 1)), (1, .int x1), (2, .int x2)]) (fun _ => rfl) (fun y3 ls h hl => ?_)
      refine lv_goto (tgt := 16) hx hb dX8_isBare_35 (by decide) ?_
      exact hk16 x1 x2 y3 H locs ls h hP hS (lv_sub hl [1, 2, 3, 0] rfl)
    · replace h := (br h).1 hc
      refine lv_iconst (v := 0) hx hb dX8_isBare_30 (by decide) ?_
      exact r_retP hC hP hS rfl h dX8_isBare_31

set_option maxHeartbeats 4000000 in
set_option maxRecDepth 20000 in
theorem wRooms_isBare_16 {p : Program} {l : Launch} {e : Env} {s : State} {m : MethodId} {args : Array Value} {below : List Frame} {meth : Method} {c : Code} {x : Wx} {al : Nat → Nat → Nat} {lv : Nat → Bool} {res : Int32} {σ : Sg} {a : Nat} (hia : a < 6) (hla : lv a = true) (hC : Cx x p s m args meth c cX8_isBare 4 (some .boolean) RX8) (n : Nat) (x1 : Int32) (x2 : Int32) (x3 : Int32) (H : Heap) (locs : List Loc) (ls : Array Slot) (h : fRooms_isBare_16 n σ a x1 x2 x3 = some res) (hP : Pic x al lv σ H) (hS : va_S (Ab x) s.heap H locs) (hl : lv_has ls 4 [(0, .ref (al a 1)), (1, .int x1), (2, .int x2), (3, .int x3)]) : W p l e (rmm 3 0 0) s m args below meth c H locs 0 0 (MQ below (QP x al lv σ res) args s 0 0 (Ab x)) (F0 m 16 ls []) := by
  induction n generalizing x1 x2 x3 H locs ls with
  | zero => exact nomatch h
  | succ n ih => exact wRooms_isBare_16_b hia hla hC  _ (fun x1 x2 x3 H locs ls h hP hS hl => ih x1 x2 x3 H locs ls h hP hS hl) x1 x2 x3 H locs ls h hP hS hl
set_option maxHeartbeats 4000000 in
set_option maxRecDepth 20000 in
theorem wRooms_isBare_0 {p : Program} {l : Launch} {e : Env} {s : State} {m : MethodId} {args : Array Value} {below : List Frame} {meth : Method} {c : Code} {x : Wx} {al : Nat → Nat → Nat} {lv : Nat → Bool} {res : Int32} {σ : Sg} {a : Nat} (hia : a < 6) (hla : lv a = true) (hC : Cx x p s m args meth c cX8_isBare 4 (some .boolean) RX8) (v1 : Int32) (H : Heap) (locs : List Loc) (ls : Array Slot) (h : fRooms_isBare_0 σ a v1 = some res) (hP : Pic x al lv σ H) (hS : va_S (Ab x) s.heap H locs) (hl : lv_has ls 4 [(0, .ref (al a 1)), (1, .int v1)]) : W p l e (rmm 3 0 0) s m args below meth c H locs 0 0 (MQ below (QP x al lv σ res) args s 0 0 (Ab x)) (F0 m 0 ls []) := by
  obtain ⟨hx, hb, hml, hown, hts⟩ := hC.1
  unfold fRooms_isBare_0 at h
  refine lv_aload_n hx hb dX8_isBare_0 rfl (lv_at hl 0 rfl) ?_
  refine gt_X8_3 (a := a) hia hla hC hP wf_X8_18 dX8_isBare_1 ?_
  refine lv_iload_n hx hb dX8_isBare_4 rfl (lv_at hl 1 rfl) ?_
  refine r_iald hC hP (aS_4 (a := a) hia hla) h dX8_isBare_5 (fun h => ?_)
  refine lv_aload_n hx hb dX8_isBare_6 rfl (lv_at hl 0 rfl) ?_
  refine gt_X8_4 (a := a) hia hla hC hP wf_X8_21 dX8_isBare_7 ?_
  refine lv_iload_n hx hb dX8_isBare_10 rfl (lv_at hl 1 rfl) ?_
  refine r_iald hC hP (aS_5 (a := a) hia hla) h dX8_isBare_11 (fun h => ?_)
  refine lv_imul hx hb dX8_isBare_12 ?_
  refine r_lt h (fun y1 h => ?_)
  refine lv_istore_n (lv' := [(2, .int y1), (0, .ref (al a 1)), (1, .int v1)]) hx hb dX8_isBare_13 rfl hl (by decide) rfl (fun ls hl => ?_)
  refine lv_iconst (v := 0) hx hb dX8_isBare_14 (by decide) ?_
  refine lv_istore_n (lv' := [(3, .int 0), (2, .int y1), (0, .ref (al a 1)), (1, .int v1)]) hx hb dX8_isBare_15 rfl hl (by decide) rfl (fun ls hl => ?_)
  exact wRooms_isBare_16 hia hla hC  FU v1 y1 0 H locs ls h hP hS (lv_sub hl [2, 3, 1, 0] rfl)

set_option maxRecDepth 20000 in
theorem tRooms_isBare {l : Launch} (x : Wx) (al : Nat → Nat → Nat) (lv : Nat → Bool) (σ : Sg) (a : Nat) (hia : a < 6) (hla : lv a = true) (v1 : Int32) (res : Int32) (h : fRooms_isBare σ a v1 = some res) : Met l yX8_isBare (Cond.code yX8_isBare cX8_isBare 4 (some .boolean) :: lwg) (rmm 3 0 0) (va_Pc [.ref (al a 1), .int v1] (Wd x al lv σ)) (QP x al lv σ res) 0 0 (Ab x) := by
  refine met_W (by decide) (Nat.le_of_ble_eq_true rfl) rfl (fun p e s m args below meth c ls hC hP hS hl => ?_)
  exact wRooms_isBare_0 hia hla hC v1 _ _ ls h hP hS hl
set_option maxHeartbeats 4000000 in
set_option maxRecDepth 20000 in
theorem wRooms_mayHoldStraw_30 {p : Program} {l : Launch} {e : Env} {s : State} {m : MethodId} {args : Array Value} {below : List Frame} {meth : Method} {c : Code} {x : Wx} {al : Nat → Nat → Nat} {lv : Nat → Bool} {res : Int32} {σ : Sg} {a : Nat} (hia : a < 6) (hla : lv a = true) (hC : Cx x p s m args meth c cX8_mayHoldStraw 2 (some .boolean) RX8) (H : Heap) (locs : List Loc) (ls : Array Slot) (h : fRooms_mayHoldStraw_30 σ a = some res) (hP : Pic x al lv σ H) (hS : va_S (Ab x) s.heap H locs) (hl : lv_has ls 2 []) : W p l e (rmm 1 0 0) s m args below meth c H locs 0 0 (MQ below (QP x al lv σ res) args s 0 0 (Ab x)) (F0 m 30 ls []) := by
  obtain ⟨hx, hb, hml, hown, hts⟩ := hC.1
  unfold fRooms_mayHoldStraw_30 at h
  refine lv_iconst (v := 1) hx hb dX8_mayHoldStraw_30 (by decide) ?_
  refine lv_goto (tgt := 35) hx hb dX8_mayHoldStraw_31 (by decide) ?_
  exact r_retP hC hP hS rfl h dX8_mayHoldStraw_35

set_option maxHeartbeats 4000000 in
set_option maxRecDepth 20000 in
theorem wRooms_mayHoldStraw_0 {p : Program} {l : Launch} {e : Env} {s : State} {m : MethodId} {args : Array Value} {below : List Frame} {meth : Method} {c : Code} {x : Wx} {al : Nat → Nat → Nat} {lv : Nat → Bool} {res : Int32} {σ : Sg} {a : Nat} (hia : a < 6) (hla : lv a = true) (hC : Cx x p s m args meth c cX8_mayHoldStraw 2 (some .boolean) RX8) (v1 : Int32) (H : Heap) (locs : List Loc) (ls : Array Slot) (h : fRooms_mayHoldStraw_0 σ a v1 = some res) (hP : Pic x al lv σ H) (hS : va_S (Ab x) s.heap H locs) (hl : lv_has ls 2 [(0, .ref (al a 1)), (1, .int v1)]) : W p l e (rmm 1 0 0) s m args below meth c H locs 0 0 (MQ below (QP x al lv σ res) args s 0 0 (Ab x)) (F0 m 0 ls []) := by
  obtain ⟨hx, hb, hml, hown, hts⟩ := hC.1
  unfold fRooms_mayHoldStraw_0 at h
  refine lv_aload_n hx hb dX8_mayHoldStraw_0 rfl (lv_at hl 0 rfl) ?_
  refine gt_X8_1 (a := a) hia hla hC hP wf_X8_9 dX8_mayHoldStraw_1 ?_
  refine lv_iload_n hx hb dX8_mayHoldStraw_4 rfl (lv_at hl 1 rfl) ?_
  refine r_iald hC hP (aS_2 (a := a) hia hla) h dX8_mayHoldStraw_5 (fun h => ?_)
  refine lv_iconst (v := 4) hx hb dX8_mayHoldStraw_6 (by decide) ?_
  refine lv_icmp_eq (tgt := 34) hx hb dX8_mayHoldStraw_7 (by decide) (fun hc => ?_) (fun hc => ?_)
  · replace h := (br h).1 hc
    refine lv_iconst (v := 0) hx hb dX8_mayHoldStraw_34 (by decide) ?_
    exact r_retP hC hP hS rfl h dX8_mayHoldStraw_35
  · replace h := (br h).2 hc
    refine lv_aload_n hx hb dX8_mayHoldStraw_10 rfl (lv_at hl 0 rfl) ?_
    refine gt_X8_1 (a := a) hia hla hC hP wf_X8_9 dX8_mayHoldStraw_11 ?_
    refine lv_iload_n hx hb dX8_mayHoldStraw_14 rfl (lv_at hl 1 rfl) ?_
    refine r_iald hC hP (aS_2 (a := a) hia hla) h dX8_mayHoldStraw_15 (fun h => ?_)
    refine lv_iconst (v := 3) hx hb dX8_mayHoldStraw_16 (by decide) ?_
    refine lv_icmp_ne (tgt := 30) hx hb dX8_mayHoldStraw_17 (by decide) (fun hc => ?_) (fun hc => ?_)
    · replace h := (br h).2 hc
      exact wRooms_mayHoldStraw_30 hia hla hC   H locs ls h hP hS (lv_sub hl [] rfl)
    · replace h := (br h).1 hc
      refine lv_aload_n hx hb dX8_mayHoldStraw_20 rfl (lv_at hl 0 rfl) ?_
      refine gt_X8_4 (a := a) hia hla hC hP wf_X8_21 dX8_mayHoldStraw_21 ?_
      refine lv_iload_n hx hb dX8_mayHoldStraw_24 rfl (lv_at hl 1 rfl) ?_
      refine r_iald hC hP (aS_5 (a := a) hia hla) h dX8_mayHoldStraw_25 (fun h => ?_)
      refine lv_iconst (v := 1) hx hb dX8_mayHoldStraw_26 (by decide) ?_
      refine lv_icmp_le (tgt := 34) hx hb dX8_mayHoldStraw_27 (by decide) (fun hc => ?_) (fun hc => ?_)
      · replace h := (br h).1 hc
        refine lv_iconst (v := 0) hx hb dX8_mayHoldStraw_34 (by decide) ?_
        exact r_retP hC hP hS rfl h dX8_mayHoldStraw_35
      · replace h := (br h).2 hc
        exact wRooms_mayHoldStraw_30 hia hla hC   H locs ls h hP hS (lv_sub hl [] rfl)

set_option maxRecDepth 20000 in
theorem tRooms_mayHoldStraw {l : Launch} (x : Wx) (al : Nat → Nat → Nat) (lv : Nat → Bool) (σ : Sg) (a : Nat) (hia : a < 6) (hla : lv a = true) (v1 : Int32) (res : Int32) (h : fRooms_mayHoldStraw σ a v1 = some res) : Met l yX8_mayHoldStraw (Cond.code yX8_mayHoldStraw cX8_mayHoldStraw 2 (some .boolean) :: lwg) (rmm 1 0 0) (va_Pc [.ref (al a 1), .int v1] (Wd x al lv σ)) (QP x al lv σ res) 0 0 (Ab x) := by
  refine met_W (by decide) (Nat.le_of_ble_eq_true rfl) rfl (fun p e s m args below meth c ls hC hP hS hl => ?_)
  exact wRooms_mayHoldStraw_0 hia hla hC v1 _ _ ls h hP hS hl
set_option maxHeartbeats 4000000 in
set_option maxRecDepth 20000 in
theorem wRooms_freeOnesIn_26 {p : Program} {l : Launch} {e : Env} {s : State} {m : MethodId} {args : Array Value} {below : List Frame} {meth : Method} {c : Code} {x : Wx} {al : Nat → Nat → Nat} {lv : Nat → Bool} {res : Int32} {σ : Sg} {a : Nat} (hia : a < 6) (hla : lv a = true) (hC : Cx x p s m args meth c cX8_freeOnesIn 4 (some .int) RX8) (k4 : Int32 → Int32 → Int32 → Option (Int32)) (hk4 : ∀ (x1 : Int32) (x2 : Int32) (x3 : Int32) (H : Heap) (locs : List Loc) (ls : Array Slot), k4 x1 x2 x3 = some res → Pic x al lv σ H → va_S (Ab x) s.heap H locs → lv_has ls 4 [(0, .ref (al a 1)), (1, .int x1), (2, .int x2), (3, .int x3)] → W p l e (rmm 4 0 0) s m args below meth c H locs 0 0 (MQ below (QP x al lv σ res) args s 0 0 (Ab x)) (F0 m 4 ls [])) (x1 : Int32) (x2 : Int32) (x3 : Int32) (H : Heap) (locs : List Loc) (ls : Array Slot) (h : fRooms_freeOnesIn_26 k4 σ a x1 x2 x3 = some res) (hP : Pic x al lv σ H) (hS : va_S (Ab x) s.heap H locs) (hl : lv_has ls 4 [(0, .ref (al a 1)), (1, .int x1), (2, .int x2), (3, .int x3)]) : W p l e (rmm 4 0 0) s m args below meth c H locs 0 0 (MQ below (QP x al lv σ res) args s 0 0 (Ab x)) (F0 m 26 ls []) := by
  obtain ⟨hx, hb, hml, hown, hts⟩ := hC.1
  unfold fRooms_freeOnesIn_26 at h
  refine r_iinc (v := 1) hC h dX8_freeOnesIn_26 hl (k := 3) rfl rfl (by decide) (fun y3 => [(3, .int y3), (0, .ref (al a 1)), (1, .int x1), (2, .int x2)]) (fun _ => rfl) (fun y3 ls h hl => ?_)
  refine lv_goto (tgt := 4) hx hb dX8_freeOnesIn_29 (by decide) ?_
  exact hk4 x1 x2 y3 H locs ls h hP hS (lv_sub hl [1, 2, 3, 0] rfl)

set_option maxHeartbeats 4000000 in
set_option maxRecDepth 20000 in
theorem wRooms_freeOnesIn_4_b {p : Program} {l : Launch} {e : Env} {s : State} {m : MethodId} {args : Array Value} {below : List Frame} {meth : Method} {c : Code} {x : Wx} {al : Nat → Nat → Nat} {lv : Nat → Bool} {res : Int32} {σ : Sg} {a : Nat} (hia : a < 6) (hla : lv a = true) (hC : Cx x p s m args meth c cX8_freeOnesIn 4 (some .int) RX8) (k4 : Int32 → Int32 → Int32 → Option (Int32)) (hk4 : ∀ (x1 : Int32) (x2 : Int32) (x3 : Int32) (H : Heap) (locs : List Loc) (ls : Array Slot), k4 x1 x2 x3 = some res → Pic x al lv σ H → va_S (Ab x) s.heap H locs → lv_has ls 4 [(0, .ref (al a 1)), (1, .int x1), (2, .int x2), (3, .int x3)] → W p l e (rmm 4 0 0) s m args below meth c H locs 0 0 (MQ below (QP x al lv σ res) args s 0 0 (Ab x)) (F0 m 4 ls [])) (x1 : Int32) (x2 : Int32) (x3 : Int32) (H : Heap) (locs : List Loc) (ls : Array Slot) (h : fRooms_freeOnesIn_4_b k4 σ a x1 x2 x3 = some res) (hP : Pic x al lv σ H) (hS : va_S (Ab x) s.heap H locs) (hl : lv_has ls 4 [(0, .ref (al a 1)), (1, .int x1), (2, .int x2), (3, .int x3)]) : W p l e (rmm 4 0 0) s m args below meth c H locs 0 0 (MQ below (QP x al lv σ res) args s 0 0 (Ab x)) (F0 m 4 ls []) := by
  obtain ⟨hx, hb, hml, hown, hts⟩ := hC.1
  unfold fRooms_freeOnesIn_4_b at h
  refine lv_iload_n hx hb dX8_freeOnesIn_4 rfl (lv_at hl 3 rfl) ?_
  refine lv_aload_n hx hb dX8_freeOnesIn_5 rfl (lv_at hl 0 rfl) ?_
  refine gt_X8_7 (a := a) hia hla hC hP wf_X8_30 dX8_freeOnesIn_6 ?_
  refine lv_iload_n hx hb dX8_freeOnesIn_9 rfl (lv_at hl 1 rfl) ?_
  refine r_iald hC hP (aS_8 (a := a) hia hla) h dX8_freeOnesIn_10 (fun h => ?_)
  refine lv_icmp_ge (tgt := 32) hx hb dX8_freeOnesIn_11 (by decide) (fun hc => ?_) (fun hc => ?_)
  · replace h := (br h).1 hc
    refine lv_iload_n hx hb dX8_freeOnesIn_32 rfl (lv_at hl 2 rfl) ?_
    exact r_retP hC hP hS rfl h dX8_freeOnesIn_33
  · replace h := (br h).2 hc
    refine lv_aload_n hx hb dX8_freeOnesIn_14 rfl (lv_at hl 0 rfl) ?_
    refine lv_iload_n hx hb dX8_freeOnesIn_15 rfl (lv_at hl 1 rfl) ?_
    refine lv_iload_n hx hb dX8_freeOnesIn_16 rfl (lv_at hl 3 rfl) ?_
    refine r_cP hS h (fun r hr => r_runV (As := [.int x1, .int x3]) (rest := []) hC kV_X8_86 cw_X8_isFreeBlock (rc_X8 (a := a) hia hla hC hP) hP (tRooms_isFreeBlock x al lv σ a hia hla x1 x3 r hr) rfl hl.1 ⟨Nat.le_of_ble_eq_true rfl, Nat.le_of_ble_eq_true rfl⟩ ⟨Nat.le_of_ble_eq_true rfl, Nat.le_of_ble_eq_true rfl⟩ (Nat.le_of_ble_eq_true rfl) dX8_freeOnesIn_17) (fun y1 H locs h hP hS => ?_)
    refine lv_if_eq (tgt := 26) hx hb dX8_freeOnesIn_20 (by decide) (fun hc => ?_) (fun hc => ?_)
    · replace h := (br h).1 hc
      exact wRooms_freeOnesIn_26 hia hla hC k4 hk4 x1 x2 x3 H locs ls h hP hS (lv_sub hl [0, 1, 2, 3] rfl)
    · replace h := (br h).2 hc
      refine r_iinc (v := 1) hC h dX8_freeOnesIn_23 hl (k := 2) rfl rfl (by decide) (fun y2 => [(2, .int y2), (0, .ref (al a 1)), (1, .int x1), (3, .int x3)]) (fun _ => rfl) (fun y2 ls h hl => ?_)
      exact wRooms_freeOnesIn_26 hia hla hC k4 hk4 x1 y2 x3 H locs ls h hP hS (lv_sub hl [1, 2, 0, 3] rfl)

set_option maxHeartbeats 4000000 in
set_option maxRecDepth 20000 in
theorem wRooms_freeOnesIn_4 {p : Program} {l : Launch} {e : Env} {s : State} {m : MethodId} {args : Array Value} {below : List Frame} {meth : Method} {c : Code} {x : Wx} {al : Nat → Nat → Nat} {lv : Nat → Bool} {res : Int32} {σ : Sg} {a : Nat} (hia : a < 6) (hla : lv a = true) (hC : Cx x p s m args meth c cX8_freeOnesIn 4 (some .int) RX8) (n : Nat) (x1 : Int32) (x2 : Int32) (x3 : Int32) (H : Heap) (locs : List Loc) (ls : Array Slot) (h : fRooms_freeOnesIn_4 n σ a x1 x2 x3 = some res) (hP : Pic x al lv σ H) (hS : va_S (Ab x) s.heap H locs) (hl : lv_has ls 4 [(0, .ref (al a 1)), (1, .int x1), (2, .int x2), (3, .int x3)]) : W p l e (rmm 4 0 0) s m args below meth c H locs 0 0 (MQ below (QP x al lv σ res) args s 0 0 (Ab x)) (F0 m 4 ls []) := by
  induction n generalizing x1 x2 x3 H locs ls with
  | zero => exact nomatch h
  | succ n ih => exact wRooms_freeOnesIn_4_b hia hla hC  _ (fun x1 x2 x3 H locs ls h hP hS hl => ih x1 x2 x3 H locs ls h hP hS hl) x1 x2 x3 H locs ls h hP hS hl
set_option maxHeartbeats 4000000 in
set_option maxRecDepth 20000 in
theorem wRooms_freeOnesIn_0 {p : Program} {l : Launch} {e : Env} {s : State} {m : MethodId} {args : Array Value} {below : List Frame} {meth : Method} {c : Code} {x : Wx} {al : Nat → Nat → Nat} {lv : Nat → Bool} {res : Int32} {σ : Sg} {a : Nat} (hia : a < 6) (hla : lv a = true) (hC : Cx x p s m args meth c cX8_freeOnesIn 4 (some .int) RX8) (v1 : Int32) (H : Heap) (locs : List Loc) (ls : Array Slot) (h : fRooms_freeOnesIn_0 σ a v1 = some res) (hP : Pic x al lv σ H) (hS : va_S (Ab x) s.heap H locs) (hl : lv_has ls 4 [(0, .ref (al a 1)), (1, .int v1)]) : W p l e (rmm 4 0 0) s m args below meth c H locs 0 0 (MQ below (QP x al lv σ res) args s 0 0 (Ab x)) (F0 m 0 ls []) := by
  obtain ⟨hx, hb, hml, hown, hts⟩ := hC.1
  unfold fRooms_freeOnesIn_0 at h
  refine lv_iconst (v := 0) hx hb dX8_freeOnesIn_0 (by decide) ?_
  refine lv_istore_n (lv' := [(2, .int 0), (0, .ref (al a 1)), (1, .int v1)]) hx hb dX8_freeOnesIn_1 rfl hl (by decide) rfl (fun ls hl => ?_)
  refine lv_iconst (v := 0) hx hb dX8_freeOnesIn_2 (by decide) ?_
  refine lv_istore_n (lv' := [(3, .int 0), (2, .int 0), (0, .ref (al a 1)), (1, .int v1)]) hx hb dX8_freeOnesIn_3 rfl hl (by decide) rfl (fun ls hl => ?_)
  exact wRooms_freeOnesIn_4 hia hla hC  FU v1 0 0 H locs ls h hP hS (lv_sub hl [2, 3, 1, 0] rfl)

set_option maxRecDepth 20000 in
theorem tRooms_freeOnesIn {l : Launch} (x : Wx) (al : Nat → Nat → Nat) (lv : Nat → Bool) (σ : Sg) (a : Nat) (hia : a < 6) (hla : lv a = true) (v1 : Int32) (res : Int32) (h : fRooms_freeOnesIn σ a v1 = some res) : Met l yX8_freeOnesIn (Cond.code yX8_freeOnesIn cX8_freeOnesIn 4 (some .int) :: lwg) (rmm 4 0 0) (va_Pc [.ref (al a 1), .int v1] (Wd x al lv σ)) (QP x al lv σ res) 0 0 (Ab x) := by
  refine met_W (by decide) (Nat.le_of_ble_eq_true rfl) rfl (fun p e s m args below meth c ls hC hP hS hl => ?_)
  exact wRooms_freeOnesIn_0 hia hla hC v1 _ _ ls h hP hS hl
set_option maxHeartbeats 4000000 in
set_option maxRecDepth 20000 in
theorem wRooms_ledInAll_4_b {p : Program} {l : Launch} {e : Env} {s : State} {m : MethodId} {args : Array Value} {below : List Frame} {meth : Method} {c : Code} {x : Wx} {al : Nat → Nat → Nat} {lv : Nat → Bool} {res : Int32} {σ : Sg} {a : Nat} (hia : a < 6) (hla : lv a = true) (hC : Cx x p s m args meth c cX8_ledInAll 3 (some .int) RX8) (k4 : Int32 → Int32 → Option (Int32)) (hk4 : ∀ (x1 : Int32) (x2 : Int32) (H : Heap) (locs : List Loc) (ls : Array Slot), k4 x1 x2 = some res → Pic x al lv σ H → va_S (Ab x) s.heap H locs → lv_has ls 3 [(0, .ref (al a 1)), (1, .int x1), (2, .int x2)] → W p l e (rmm 1 0 0) s m args below meth c H locs 0 0 (MQ below (QP x al lv σ res) args s 0 0 (Ab x)) (F0 m 4 ls [])) (x1 : Int32) (x2 : Int32) (H : Heap) (locs : List Loc) (ls : Array Slot) (h : fRooms_ledInAll_4_b k4 σ a x1 x2 = some res) (hP : Pic x al lv σ H) (hS : va_S (Ab x) s.heap H locs) (hl : lv_has ls 3 [(0, .ref (al a 1)), (1, .int x1), (2, .int x2)]) : W p l e (rmm 1 0 0) s m args below meth c H locs 0 0 (MQ below (QP x al lv σ res) args s 0 0 (Ab x)) (F0 m 4 ls []) := by
  obtain ⟨hx, hb, hml, hown, hts⟩ := hC.1
  unfold fRooms_ledInAll_4_b at h
  refine lv_iload_n hx hb dX8_ledInAll_4 rfl (lv_at hl 2 rfl) ?_
  refine lv_aload_n hx hb dX8_ledInAll_5 rfl (lv_at hl 0 rfl) ?_
  refine gt_X8_0 (a := a) hia hla hC hP wf_X8_51 dX8_ledInAll_6 ?_
  refine lv_icmp_ge (tgt := 27) hx hb dX8_ledInAll_9 (by decide) (fun hc => ?_) (fun hc => ?_)
  · replace h := (br h).1 hc
    refine lv_iload_n hx hb dX8_ledInAll_27 rfl (lv_at hl 1 rfl) ?_
    exact r_retP hC hP hS rfl h dX8_ledInAll_28
  · replace h := (br h).2 hc
    refine lv_iload_n hx hb dX8_ledInAll_12 rfl (lv_at hl 1 rfl) ?_
    refine lv_aload_n hx hb dX8_ledInAll_13 rfl (lv_at hl 0 rfl) ?_
    refine gt_X8_8 (a := a) hia hla hC hP wf_X8_33 dX8_ledInAll_14 ?_
    refine lv_iload_n hx hb dX8_ledInAll_17 rfl (lv_at hl 2 rfl) ?_
    refine r_iald hC hP (aS_9 (a := a) hia hla) h dX8_ledInAll_18 (fun h => ?_)
    refine lv_iadd hx hb dX8_ledInAll_19 ?_
    refine r_lt h (fun y1 h => ?_)
    refine lv_istore_n (lv' := [(1, .int y1), (0, .ref (al a 1)), (2, .int x2)]) hx hb dX8_ledInAll_20 rfl hl (by decide) rfl (fun ls hl => ?_)
    refine r_iinc (v := 1) hC h dX8_ledInAll_21 hl (k := 2) rfl rfl (by decide) (fun y2 => [(2, .int y2), (1, .int y1), (0, .ref (al a 1))]) (fun _ => rfl) (fun y2 ls h hl => ?_)
    refine lv_goto (tgt := 4) hx hb dX8_ledInAll_24 (by decide) ?_
    exact hk4 y1 y2 H locs ls h hP hS (lv_sub hl [2, 1, 0] rfl)

set_option maxHeartbeats 4000000 in
set_option maxRecDepth 20000 in
theorem wRooms_ledInAll_4 {p : Program} {l : Launch} {e : Env} {s : State} {m : MethodId} {args : Array Value} {below : List Frame} {meth : Method} {c : Code} {x : Wx} {al : Nat → Nat → Nat} {lv : Nat → Bool} {res : Int32} {σ : Sg} {a : Nat} (hia : a < 6) (hla : lv a = true) (hC : Cx x p s m args meth c cX8_ledInAll 3 (some .int) RX8) (n : Nat) (x1 : Int32) (x2 : Int32) (H : Heap) (locs : List Loc) (ls : Array Slot) (h : fRooms_ledInAll_4 n σ a x1 x2 = some res) (hP : Pic x al lv σ H) (hS : va_S (Ab x) s.heap H locs) (hl : lv_has ls 3 [(0, .ref (al a 1)), (1, .int x1), (2, .int x2)]) : W p l e (rmm 1 0 0) s m args below meth c H locs 0 0 (MQ below (QP x al lv σ res) args s 0 0 (Ab x)) (F0 m 4 ls []) := by
  induction n generalizing x1 x2 H locs ls with
  | zero => exact nomatch h
  | succ n ih => exact wRooms_ledInAll_4_b hia hla hC  _ (fun x1 x2 H locs ls h hP hS hl => ih x1 x2 H locs ls h hP hS hl) x1 x2 H locs ls h hP hS hl
set_option maxHeartbeats 4000000 in
set_option maxRecDepth 20000 in
theorem wRooms_ledInAll_0 {p : Program} {l : Launch} {e : Env} {s : State} {m : MethodId} {args : Array Value} {below : List Frame} {meth : Method} {c : Code} {x : Wx} {al : Nat → Nat → Nat} {lv : Nat → Bool} {res : Int32} {σ : Sg} {a : Nat} (hia : a < 6) (hla : lv a = true) (hC : Cx x p s m args meth c cX8_ledInAll 3 (some .int) RX8) (H : Heap) (locs : List Loc) (ls : Array Slot) (h : fRooms_ledInAll_0 σ a = some res) (hP : Pic x al lv σ H) (hS : va_S (Ab x) s.heap H locs) (hl : lv_has ls 3 [(0, .ref (al a 1))]) : W p l e (rmm 1 0 0) s m args below meth c H locs 0 0 (MQ below (QP x al lv σ res) args s 0 0 (Ab x)) (F0 m 0 ls []) := by
  obtain ⟨hx, hb, hml, hown, hts⟩ := hC.1
  unfold fRooms_ledInAll_0 at h
  refine lv_iconst (v := 0) hx hb dX8_ledInAll_0 (by decide) ?_
  refine lv_istore_n (lv' := [(1, .int 0), (0, .ref (al a 1))]) hx hb dX8_ledInAll_1 rfl hl (by decide) rfl (fun ls hl => ?_)
  refine lv_iconst (v := 0) hx hb dX8_ledInAll_2 (by decide) ?_
  refine lv_istore_n (lv' := [(2, .int 0), (1, .int 0), (0, .ref (al a 1))]) hx hb dX8_ledInAll_3 rfl hl (by decide) rfl (fun ls hl => ?_)
  exact wRooms_ledInAll_4 hia hla hC  FU 0 0 H locs ls h hP hS (lv_sub hl [2, 1, 0] rfl)

set_option maxRecDepth 20000 in
theorem tRooms_ledInAll {l : Launch} (x : Wx) (al : Nat → Nat → Nat) (lv : Nat → Bool) (σ : Sg) (a : Nat) (hia : a < 6) (hla : lv a = true) (res : Int32) (h : fRooms_ledInAll σ a = some res) : Met l yX8_ledInAll (Cond.code yX8_ledInAll cX8_ledInAll 3 (some .int) :: lwg) (rmm 1 0 0) (va_Pc [.ref (al a 1)] (Wd x al lv σ)) (QP x al lv σ res) 0 0 (Ab x) := by
  refine met_W (by decide) (Nat.le_of_ble_eq_true rfl) rfl (fun p e s m args below meth c ls hC hP hS hl => ?_)
  exact wRooms_ledInAll_0 hia hla hC  _ _ ls h hP hS hl
