set_option maxHeartbeats 4000000 in
set_option maxRecDepth 20000 in
theorem wM_shut_143 {p : Program} {l : Launch} {e : Env} {s : State} {m : MethodId} {args : Array Value} {below : List Frame} {meth : Method} {c : Code} {x : Wx} {al : Nat → Nat → Nat} {lv : Nat → Bool} {res : Int32} {σ : Sg} (hC : Cx x p s m args meth c cX12_shut 6 (some .int) RX12) (x1 : Int32) (x2 : Int32) (x4 : Int32) (x5 : Int32) (H : Heap) (locs : List Loc) (ls : Array Slot) (h : fM_shut_143 σ x1 x2 x4 x5 = some res) (hP : Pic x al lv σ H) (hS : va_S (Ab x) s.heap H locs) (hl : lv_has ls 6 [(0, .ref (al 7 0)), (1, .int x1), (2, .int x2), (4, .int x4), (5, .int x5)]) : W p l e (rmm 2 0 0) s m args below meth c H locs 0 0 (MQ below (QP x al lv σ res) args s 0 0 (Ab x)) (F0 m 143 ls []) := by
  obtain ⟨hx, hb, hml, hown, hts⟩ := hC.1
  unfold fM_shut_143 at h
  refine lv_iload_n hx hb dX12_shut_143 rfl (lv_at hl 2 rfl) ?_
  refine lv_iload hx hb dX12_shut_144 (lv_at hl 3 rfl) ?_
  refine lv_iadd hx hb dX12_shut_146 ?_
  refine lv_aload_n hx hb dX12_shut_147 rfl (lv_at hl 0 rfl) ?_
  refine lv_iload_n hx hb dX12_shut_148 rfl (lv_at hl 1 rfl) ?_
  refine r_cP hS h (fun r hr => r_runV (As := [.int x1]) (rest := [.int (x2 + x4)]) hC kV_X12_160 cw_X12_places (rc_X12 hC hP) hP (tM_places x al lv σ x1 r hr) rfl hl.1 ⟨Nat.le_of_ble_eq_true rfl, Nat.le_of_ble_eq_true rfl⟩ ⟨Nat.le_of_ble_eq_true rfl, Nat.le_of_ble_eq_true rfl⟩ (Nat.le_of_ble_eq_true rfl) dX12_shut_149) (fun y14 H locs h hP hS => ?_)
  refine lv_icmp_ge (tgt := 170) hx hb dX12_shut_152 (by decide) (fun hc => ?_) (fun hc => ?_)
  · replace h := (br h).1 hc
    refine lv_iload hx hb dX12_shut_170 (lv_at hl 4 rfl) ?_
    exact r_retP hC hP hS rfl h dX12_shut_172
  · replace h := (br h).2 hc
    refine lv_aload_n hx hb dX12_shut_155 rfl (lv_at hl 0 rfl) ?_
    refine gt_X12_52 hC hP wf_X12_133 dX12_shut_156 ?_
    refine lv_iload_n hx hb dX12_shut_159 rfl (lv_at hl 2 rfl) ?_
    refine lv_iload hx hb dX12_shut_160 (lv_at hl 3 rfl) ?_
    refine lv_iadd hx hb dX12_shut_162 ?_
    refine r_zald hC hP (aM_52 hP.l7) h dX12_shut_163 (fun h => ?_)
    refine lv_if_eq (tgt := 170) hx hb dX12_shut_164 (by decide) (fun hc => ?_) (fun hc => ?_)
    · replace h := (br h).1 hc
      refine lv_iload hx hb dX12_shut_170 (lv_at hl 4 rfl) ?_
      exact r_retP hC hP hS rfl h dX12_shut_172
    · replace h := (br h).2 hc
      refine r_iinc (v := 1) hC h dX12_shut_167 hl (k := 4) rfl rfl (by decide) (fun y15 => [(5, .int y15), (0, .ref (al 7 0)), (1, .int x1), (2, .int x2), (4, .int x4)]) (fun _ => rfl) (fun y15 ls h hl => ?_)
      refine lv_iload hx hb dX12_shut_170 (lv_at hl 0 rfl) ?_
      exact r_retP hC hP hS rfl h dX12_shut_172

set_option maxHeartbeats 4000000 in
set_option maxRecDepth 20000 in
theorem wM_shut_122 {p : Program} {l : Launch} {e : Env} {s : State} {m : MethodId} {args : Array Value} {below : List Frame} {meth : Method} {c : Code} {x : Wx} {al : Nat → Nat → Nat} {lv : Nat → Bool} {res : Int32} {σ : Sg} (hC : Cx x p s m args meth c cX12_shut 6 (some .int) RX12) (x1 : Int32) (x2 : Int32) (x4 : Int32) (x5 : Int32) (H : Heap) (locs : List Loc) (ls : Array Slot) (h : fM_shut_122 σ x1 x2 x4 x5 = some res) (hP : Pic x al lv σ H) (hS : va_S (Ab x) s.heap H locs) (hl : lv_has ls 6 [(0, .ref (al 7 0)), (1, .int x1), (2, .int x2), (4, .int x4), (5, .int x5)]) : W p l e (rmm 2 0 0) s m args below meth c H locs 0 0 (MQ below (QP x al lv σ res) args s 0 0 (Ab x)) (F0 m 122 ls []) := by
  obtain ⟨hx, hb, hml, hown, hts⟩ := hC.1
  unfold fM_shut_122 at h
  refine lv_iload_n hx hb dX12_shut_122 rfl (lv_at hl 2 rfl) ?_
  refine lv_iload hx hb dX12_shut_123 (lv_at hl 3 rfl) ?_
  refine lv_icmp_lt (tgt := 143) hx hb dX12_shut_125 (by decide) (fun hc => ?_) (fun hc => ?_)
  · replace h := (br h).1 hc
    exact wM_shut_143  hC  x1 x2 x4 x5 H locs ls h hP hS (lv_sub hl [0, 1, 2, 3, 4] rfl)
  · replace h := (br h).2 hc
    refine lv_aload_n hx hb dX12_shut_128 rfl (lv_at hl 0 rfl) ?_
    refine gt_X12_52 hC hP wf_X12_133 dX12_shut_129 ?_
    refine lv_iload_n hx hb dX12_shut_132 rfl (lv_at hl 2 rfl) ?_
    refine lv_iload hx hb dX12_shut_133 (lv_at hl 3 rfl) ?_
    refine lv_isub hx hb dX12_shut_135 ?_
    refine r_zald hC hP (aM_52 hP.l7) h dX12_shut_136 (fun h => ?_)
    refine lv_if_eq (tgt := 143) hx hb dX12_shut_137 (by decide) (fun hc => ?_) (fun hc => ?_)
    · replace h := (br h).1 hc
      exact wM_shut_143  hC  x1 x2 x4 x5 H locs ls h hP hS (lv_sub hl [0, 1, 2, 3, 4] rfl)
    · replace h := (br h).2 hc
      refine r_iinc (v := 1) hC h dX12_shut_140 hl (k := 4) rfl rfl (by decide) (fun y13 => [(5, .int y13), (0, .ref (al 7 0)), (1, .int x1), (2, .int x2), (4, .int x4)]) (fun _ => rfl) (fun y13 ls h hl => ?_)
      exact wM_shut_143  hC  x1 x2 x4 y13 H locs ls h hP hS (lv_sub hl [1, 2, 3, 4, 0] rfl)

set_option maxHeartbeats 4000000 in
set_option maxRecDepth 20000 in
theorem wM_shut_87 {p : Program} {l : Launch} {e : Env} {s : State} {m : MethodId} {args : Array Value} {below : List Frame} {meth : Method} {c : Code} {x : Wx} {al : Nat → Nat → Nat} {lv : Nat → Bool} {res : Int32} {σ : Sg} (hC : Cx x p s m args meth c cX12_shut 6 (some .int) RX12) (x1 : Int32) (x2 : Int32) (x3 : Int32) (x4 : Int32) (x5 : Int32) (H : Heap) (locs : List Loc) (ls : Array Slot) (h : fM_shut_87 σ x1 x2 x3 x4 x5 = some res) (hP : Pic x al lv σ H) (hS : va_S (Ab x) s.heap H locs) (hl : lv_has ls 6 [(0, .ref (al 7 0)), (1, .int x1), (2, .int x2), (3, .int x3), (4, .int x4), (5, .int x5)]) : W p l e (rmm 2 0 0) s m args below meth c H locs 0 0 (MQ below (QP x al lv σ res) args s 0 0 (Ab x)) (F0 m 87 ls []) := by
  obtain ⟨hx, hb, hml, hown, hts⟩ := hC.1
  unfold fM_shut_87 at h
  refine lv_iload_n hx hb dX12_shut_87 rfl (lv_at hl 2 rfl) ?_
  refine lv_iload_n hx hb dX12_shut_88 rfl (lv_at hl 3 rfl) ?_
  obtain ⟨hz10, h⟩ := gd_e h
  refine lv_idiv hx hb dX12_shut_89 (nzi_n hz10) ?_
  refine lv_aload_n hx hb dX12_shut_90 rfl (lv_at hl 0 rfl) ?_
  refine gt_X12_12 hC hP wf_X12_46 dX12_shut_91 ?_
  refine lv_iload_n hx hb dX12_shut_94 rfl (lv_at hl 1 rfl) ?_
  refine r_iald hC hP (aM_12 hP.l7) h dX12_shut_95 (fun h => ?_)
  obtain ⟨hz11, h⟩ := gd_e h
  refine lv_irem hx hb dX12_shut_96 (nzi_n hz11) ?_
  refine lv_aload_n hx hb dX12_shut_97 rfl (lv_at hl 0 rfl) ?_
  refine gt_X12_12 hC hP wf_X12_46 dX12_shut_98 ?_
  refine lv_iload_n hx hb dX12_shut_101 rfl (lv_at hl 1 rfl) ?_
  refine r_iald hC hP (aM_12 hP.l7) h dX12_shut_102 (fun h => ?_)
  refine lv_iconst (v := 1) hx hb dX12_shut_103 (by decide) ?_
  refine lv_isub hx hb dX12_shut_104 ?_
  refine lv_icmp_ge (tgt := 122) hx hb dX12_shut_105 (by decide) (fun hc => ?_) (fun hc => ?_)
  · replace h := (br h).1 hc
    exact wM_shut_122  hC  x1 x2 x4 x5 H locs ls h hP hS (lv_sub hl [0, 1, 2, 4, 5] rfl)
  · replace h := (br h).2 hc
    refine lv_aload_n hx hb dX12_shut_108 rfl (lv_at hl 0 rfl) ?_
    refine gt_X12_52 hC hP wf_X12_133 dX12_shut_109 ?_
    refine lv_iload_n hx hb dX12_shut_112 rfl (lv_at hl 2 rfl) ?_
    refine lv_iload_n hx hb dX12_shut_113 rfl (lv_at hl 3 rfl) ?_
    refine lv_iadd hx hb dX12_shut_114 ?_
    refine r_zald hC hP (aM_52 hP.l7) h dX12_shut_115 (fun h => ?_)
    refine lv_if_eq (tgt := 122) hx hb dX12_shut_116 (by decide) (fun hc => ?_) (fun hc => ?_)
    · replace h := (br h).1 hc
      exact wM_shut_122  hC  x1 x2 x4 x5 H locs ls h hP hS (lv_sub hl [0, 1, 2, 4, 5] rfl)
    · replace h := (br h).2 hc
      refine r_iinc (v := 1) hC h dX12_shut_119 hl (k := 5) rfl rfl (by decide) (fun y12 => [(5, .int y12), (0, .ref (al 7 0)), (1, .int x1), (2, .int x2), (3, .int x3), (4, .int x4)]) (fun _ => rfl) (fun y12 ls h hl => ?_)
      exact wM_shut_122  hC  x1 x2 x4 y12 H locs ls h hP hS (lv_sub hl [1, 2, 3, 5, 0] rfl)

set_option maxHeartbeats 4000000 in
set_option maxRecDepth 20000 in
theorem wM_shut_60 {p : Program} {l : Launch} {e : Env} {s : State} {m : MethodId} {args : Array Value} {below : List Frame} {meth : Method} {c : Code} {x : Wx} {al : Nat → Nat → Nat} {lv : Nat → Bool} {res : Int32} {σ : Sg} (hC : Cx x p s m args meth c cX12_shut 6 (some .int) RX12) (x1 : Int32) (x2 : Int32) (x3 : Int32) (x4 : Int32) (x5 : Int32) (H : Heap) (locs : List Loc) (ls : Array Slot) (h : fM_shut_60 σ x1 x2 x3 x4 x5 = some res) (hP : Pic x al lv σ H) (hS : va_S (Ab x) s.heap H locs) (hl : lv_has ls 6 [(0, .ref (al 7 0)), (1, .int x1), (2, .int x2), (3, .int x3), (4, .int x4), (5, .int x5)]) : W p l e (rmm 2 0 0) s m args below meth c H locs 0 0 (MQ below (QP x al lv σ res) args s 0 0 (Ab x)) (F0 m 60 ls []) := by
  obtain ⟨hx, hb, hml, hown, hts⟩ := hC.1
  unfold fM_shut_60 at h
  refine lv_iload_n hx hb dX12_shut_60 rfl (lv_at hl 2 rfl) ?_
  refine lv_iload_n hx hb dX12_shut_61 rfl (lv_at hl 3 rfl) ?_
  obtain ⟨hz7, h⟩ := gd_e h
  refine lv_idiv hx hb dX12_shut_62 (nzi_n hz7) ?_
  refine lv_aload_n hx hb dX12_shut_63 rfl (lv_at hl 0 rfl) ?_
  refine gt_X12_12 hC hP wf_X12_46 dX12_shut_64 ?_
  refine lv_iload_n hx hb dX12_shut_67 rfl (lv_at hl 1 rfl) ?_
  refine r_iald hC hP (aM_12 hP.l7) h dX12_shut_68 (fun h => ?_)
  obtain ⟨hz8, h⟩ := gd_e h
  refine lv_irem hx hb dX12_shut_69 (nzi_n hz8) ?_
  refine lv_if_le (tgt := 87) hx hb dX12_shut_70 (by decide) (fun hc => ?_) (fun hc => ?_)
  · replace h := (br h).1 hc
    exact wM_shut_87  hC  x1 x2 x3 x4 x5 H locs ls h hP hS (lv_sub hl [0, 1, 2, 3, 4, 5] rfl)
  · replace h := (br h).2 hc
    refine lv_aload_n hx hb dX12_shut_73 rfl (lv_at hl 0 rfl) ?_
    refine gt_X12_52 hC hP wf_X12_133 dX12_shut_74 ?_
    refine lv_iload_n hx hb dX12_shut_77 rfl (lv_at hl 2 rfl) ?_
    refine lv_iload_n hx hb dX12_shut_78 rfl (lv_at hl 3 rfl) ?_
    refine lv_isub hx hb dX12_shut_79 ?_
    refine r_zald hC hP (aM_52 hP.l7) h dX12_shut_80 (fun h => ?_)
    refine lv_if_eq (tgt := 87) hx hb dX12_shut_81 (by decide) (fun hc => ?_) (fun hc => ?_)
    · replace h := (br h).1 hc
      exact wM_shut_87  hC  x1 x2 x3 x4 x5 H locs ls h hP hS (lv_sub hl [0, 1, 2, 3, 4, 5] rfl)
    · replace h := (br h).2 hc
      refine r_iinc (v := 1) hC h dX12_shut_84 hl (k := 5) rfl rfl (by decide) (fun y9 => [(5, .int y9), (0, .ref (al 7 0)), (1, .int x1), (2, .int x2), (3, .int x3), (4, .int x4)]) (fun _ => rfl) (fun y9 ls h hl => ?_)
      exact wM_shut_87  hC  x1 x2 x3 x4 y9 H locs ls h hP hS (lv_sub hl [1, 2, 3, 4, 5, 0] rfl)

set_option maxHeartbeats 4000000 in
set_option maxRecDepth 20000 in
theorem wM_shut_37 {p : Program} {l : Launch} {e : Env} {s : State} {m : MethodId} {args : Array Value} {below : List Frame} {meth : Method} {c : Code} {x : Wx} {al : Nat → Nat → Nat} {lv : Nat → Bool} {res : Int32} {σ : Sg} (hC : Cx x p s m args meth c cX12_shut 6 (some .int) RX12) (x1 : Int32) (x2 : Int32) (x3 : Int32) (x4 : Int32) (x5 : Int32) (H : Heap) (locs : List Loc) (ls : Array Slot) (h : fM_shut_37 σ x1 x2 x3 x4 x5 = some res) (hP : Pic x al lv σ H) (hS : va_S (Ab x) s.heap H locs) (hl : lv_has ls 6 [(0, .ref (al 7 0)), (1, .int x1), (2, .int x2), (3, .int x3), (4, .int x4), (5, .int x5)]) : W p l e (rmm 2 0 0) s m args below meth c H locs 0 0 (MQ below (QP x al lv σ res) args s 0 0 (Ab x)) (F0 m 37 ls []) := by
  obtain ⟨hx, hb, hml, hown, hts⟩ := hC.1
  unfold fM_shut_37 at h
  refine lv_iload_n hx hb dX12_shut_37 rfl (lv_at hl 2 rfl) ?_
  refine lv_iload_n hx hb dX12_shut_38 rfl (lv_at hl 3 rfl) ?_
  obtain ⟨hz5, h⟩ := gd_e h
  refine lv_irem hx hb dX12_shut_39 (nzi_n hz5) ?_
  refine lv_iload_n hx hb dX12_shut_40 rfl (lv_at hl 3 rfl) ?_
  refine lv_iconst (v := 1) hx hb dX12_shut_41 (by decide) ?_
  refine lv_isub hx hb dX12_shut_42 ?_
  refine lv_icmp_ge (tgt := 60) hx hb dX12_shut_43 (by decide) (fun hc => ?_) (fun hc => ?_)
  · replace h := (br h).1 hc
    exact wM_shut_60  hC  x1 x2 x3 x4 x5 H locs ls h hP hS (lv_sub hl [0, 1, 2, 3, 4, 5] rfl)
  · replace h := (br h).2 hc
    refine lv_aload_n hx hb dX12_shut_46 rfl (lv_at hl 0 rfl) ?_
    refine gt_X12_52 hC hP wf_X12_133 dX12_shut_47 ?_
    refine lv_iload_n hx hb dX12_shut_50 rfl (lv_at hl 2 rfl) ?_
    refine lv_iconst (v := 1) hx hb dX12_shut_51 (by decide) ?_
    refine lv_iadd hx hb dX12_shut_52 ?_
    refine r_zald hC hP (aM_52 hP.l7) h dX12_shut_53 (fun h => ?_)
    refine lv_if_eq (tgt := 60) hx hb dX12_shut_54 (by decide) (fun hc => ?_) (fun hc => ?_)
    · replace h := (br h).1 hc
      exact wM_shut_60  hC  x1 x2 x3 x4 x5 H locs ls h hP hS (lv_sub hl [0, 1, 2, 3, 4, 5] rfl)
    · replace h := (br h).2 hc
      refine r_iinc (v := 1) hC h dX12_shut_57 hl (k := 5) rfl rfl (by decide) (fun y6 => [(5, .int y6), (0, .ref (al 7 0)), (1, .int x1), (2, .int x2), (3, .int x3), (4, .int x4)]) (fun _ => rfl) (fun y6 ls h hl => ?_)
      exact wM_shut_60  hC  x1 x2 x3 x4 y6 H locs ls h hP hS (lv_sub hl [1, 2, 3, 4, 5, 0] rfl)

set_option maxHeartbeats 4000000 in
set_option maxRecDepth 20000 in
theorem wM_shut_0 {p : Program} {l : Launch} {e : Env} {s : State} {m : MethodId} {args : Array Value} {below : List Frame} {meth : Method} {c : Code} {x : Wx} {al : Nat → Nat → Nat} {lv : Nat → Bool} {res : Int32} {σ : Sg} (hC : Cx x p s m args meth c cX12_shut 6 (some .int) RX12) (v1 : Int32) (v2 : Int32) (H : Heap) (locs : List Loc) (ls : Array Slot) (h : fM_shut_0 σ v1 v2 = some res) (hP : Pic x al lv σ H) (hS : va_S (Ab x) s.heap H locs) (hl : lv_has ls 6 [(0, .ref (al 7 0)), (1, .int v1), (2, .int v2)]) : W p l e (rmm 2 0 0) s m args below meth c H locs 0 0 (MQ below (QP x al lv σ res) args s 0 0 (Ab x)) (F0 m 0 ls []) := by
  obtain ⟨hx, hb, hml, hown, hts⟩ := hC.1
  unfold fM_shut_0 at h
  refine lv_aload_n hx hb dX12_shut_0 rfl (lv_at hl 0 rfl) ?_
  refine gt_X12_11 hC hP wf_X12_43 dX12_shut_1 ?_
  refine lv_iload_n hx hb dX12_shut_4 rfl (lv_at hl 1 rfl) ?_
  refine r_iald hC hP (aM_11 hP.l7) h dX12_shut_5 (fun h => ?_)
  refine r_lt h (fun y1 h => ?_)
  refine lv_istore_n (lv' := [(3, .int y1), (0, .ref (al 7 0)), (1, .int v1), (2, .int v2)]) hx hb dX12_shut_6 rfl hl (by decide) rfl (fun ls hl => ?_)
  refine lv_aload_n hx hb dX12_shut_7 rfl (lv_at hl 1 rfl) ?_
  refine lv_iload_n hx hb dX12_shut_8 rfl (lv_at hl 2 rfl) ?_
  refine r_cP hS h (fun r hr => r_runV (As := [.int v1]) (rest := []) hC kV_X12_167 cw_X12_floor (rc_X12 hC hP) hP (tM_floor x al lv σ v1 r hr) rfl hl.1 ⟨Nat.le_of_ble_eq_true rfl, Nat.le_of_ble_eq_true rfl⟩ ⟨Nat.le_of_ble_eq_true rfl, Nat.le_of_ble_eq_true rfl⟩ (Nat.le_of_ble_eq_true rfl) dX12_shut_9) (fun y2 H locs h hP hS => ?_)
  refine lv_istore (lv' := [(4, .int y2), (3, .int y1), (0, .ref (al 7 0)), (1, .int v1), (2, .int v2)]) hx hb dX12_shut_12 hl (by decide) rfl (fun ls hl => ?_)
  refine lv_iconst (v := 0) hx hb dX12_shut_14 (by decide) ?_
  refine lv_istore (lv' := [(5, .int 0), (4, .int y2), (3, .int y1), (0, .ref (al 7 0)), (1, .int v1), (2, .int v2)]) hx hb dX12_shut_15 hl (by decide) rfl (fun ls hl => ?_)
  refine lv_iload_n hx hb dX12_shut_17 rfl (lv_at hl 5 rfl) ?_
  refine lv_iload_n hx hb dX12_shut_18 rfl (lv_at hl 2 rfl) ?_
  obtain ⟨hz3, h⟩ := gd_e h
  refine lv_irem hx hb dX12_shut_19 (nzi_n hz3) ?_
  refine lv_if_le (tgt := 37) hx hb dX12_shut_20 (by decide) (fun hc => ?_) (fun hc => ?_)
  · replace h := (br h).1 hc
    exact wM_shut_37  hC  v1 v2 y1 y2 0 H locs ls h hP hS (lv_sub hl [3, 4, 5, 2, 1, 0] rfl)
  · replace h := (br h).2 hc
    refine lv_aload_n hx hb dX12_shut_23 rfl (lv_at hl 3 rfl) ?_
    refine gt_X12_52 hC hP wf_X12_133 dX12_shut_24 ?_
    refine lv_iload_n hx hb dX12_shut_27 rfl (lv_at hl 5 rfl) ?_
    refine lv_iconst (v := 1) hx hb dX12_shut_28 (by decide) ?_
    refine lv_isub hx hb dX12_shut_29 ?_
    refine r_zald hC hP (aM_52 hP.l7) h dX12_shut_30 (fun h => ?_)
    refine lv_if_eq (tgt := 37) hx hb dX12_shut_31 (by decide) (fun hc => ?_) (fun hc => ?_)
    · replace h := (br h).1 hc
      exact wM_shut_37  hC  v1 v2 y1 y2 0 H locs ls h hP hS (lv_sub hl [3, 4, 5, 2, 1, 0] rfl)
    · replace h := (br h).2 hc
      refine r_iinc (v := 1) hC h dX12_shut_34 hl (k := 0) rfl rfl (by decide) (fun y4 => [(5, .int y4), (4, .int y2), (3, .int y1), (0, .ref (al 7 0)), (1, .int v1), (2, .int v2)]) (fun _ => rfl) (fun y4 ls h hl => ?_)
      exact wM_shut_37  hC  v1 v2 y1 y2 y4 H locs ls h hP hS (lv_sub hl [3, 4, 5, 2, 1, 0] rfl)

set_option maxRecDepth 20000 in
theorem tM_shut {l : Launch} (x : Wx) (al : Nat → Nat → Nat) (lv : Nat → Bool) (σ : Sg) (v1 : Int32) (v2 : Int32) (res : Int32) (h : fM_shut σ v1 v2 = some res) : Met l yX12_shut (Cond.code yX12_shut cX12_shut 6 (some .int) :: lwg) (rmm 2 0 0) (va_Pc [.ref (al 7 0), .int v1, .int v2] (Wd x al lv σ)) (QP x al lv σ res) 0 0 (Ab x) := by
  refine met_W (by decide) (Nat.le_of_ble_eq_true rfl) rfl (fun p e s m args below meth c ls hC hP hS hl => ?_)
  exact wM_shut_0  hC v1 v2 _ _ ls h hP hS hl
set_option maxHeartbeats 4000000 in
set_option maxRecDepth 20000 in
theorem wM_tries_116 {p : Program} {l : Launch} {e : Env} {s : State} {m : MethodId} {args : Array Value} {below : List Frame} {meth : Method} {c : Code} {x : Wx} {al : Nat → Nat → Nat} {lv : Nat → Bool} {res : Sg} (hC : Cx x p s m args meth c cX12_tries 10 none RX12) (k88 : Sg → Int32 → Int32 → Int32 → Int32 → Int32 → Int32 → Int32 → Option (Sg)) (hk88 : ∀ (σ : Sg) (x1 : Int32) (x2 : Int32) (x3 : Int32) (x4 : Int32) (x5 : Int32) (x6 : Int32) (x8 : Int32) (H : Heap) (locs : List Loc) (ls : Array Slot), k88 σ x1 x2 x3 x4 x5 x6 x8 = some res → Pic x al lv σ H → va_S (Ab x) s.heap H locs → lv_has ls 10 [(0, .ref (al 7 0)), (1, .int x1), (2, .int x2), (3, .int x3), (4, .int x4), (5, .int x5), (6, .int x6), (8, .int x8)] → W p l e (rmm 3 0 0) s m args below meth c H locs 0 0 (MQ below (QV x al lv res) args s 0 0 (Ab x)) (F0 m 88 ls [])) (σ : Sg) (x1 : Int32) (x2 : Int32) (x3 : Int32) (x4 : Int32) (x5 : Int32) (x6 : Int32) (x8 : Int32) (t0 : Int32) (t1 : Int32) (H : Heap) (locs : List Loc) (ls : Array Slot) (h : fM_tries_116 k88 σ x1 x2 x3 x4 x5 x6 x8 t0 t1 = some res) (hP : Pic x al lv σ H) (hS : va_S (Ab x) s.heap H locs) (hl : lv_has ls 10 [(0, .ref (al 7 0)), (1, .int x1), (2, .int x2), (3, .int x3), (4, .int x4), (5, .int x5), (6, .int x6), (8, .int x8)]) : W p l e (rmm 3 0 0) s m args below meth c H locs 0 0 (MQ below (QV x al lv res) args s 0 0 (Ab x)) (F0 m 116 ls [.int t0, .int t1, .ref (al 7 52)]) := by
  obtain ⟨hx, hb, hml, hown, hts⟩ := hC.1
  unfold fM_tries_116 at h
  refine r_zast hC hP hS (aM_52 hP.l7) h dX12_tries_116 (fun σ5 H locs h hP hS => ?_)
  refine r_iinc (v := 1) hC h dX12_tries_117 hl (k := 7) rfl rfl (by decide) (fun y6 => [(8, .int y6), (0, .ref (al 7 0)), (1, .int x1), (2, .int x2), (3, .int x3), (4, .int x4), (5, .int x5), (6, .int x6)]) (fun _ => rfl) (fun y6 ls h hl => ?_)
  refine lv_goto (tgt := 88) hx hb dX12_tries_120 (by decide) ?_
  exact hk88 σ5 x1 x2 x3 x4 x5 x6 y6 H locs ls h hP hS (lv_sub hl [1, 2, 3, 4, 5, 6, 7, 0] rfl)

set_option maxHeartbeats 4000000 in
set_option maxRecDepth 20000 in
theorem wM_tries_161 {p : Program} {l : Launch} {e : Env} {s : State} {m : MethodId} {args : Array Value} {below : List Frame} {meth : Method} {c : Code} {x : Wx} {al : Nat → Nat → Nat} {lv : Nat → Bool} {res : Sg} (hC : Cx x p s m args meth c cX12_tries 10 none RX12) (k129 : Sg → Int32 → Int32 → Int32 → Int32 → Int32 → Int32 → Int32 → Int32 → Option (Sg)) (hk129 : ∀ (σ : Sg) (x1 : Int32) (x2 : Int32) (x3 : Int32) (x4 : Int32) (x5 : Int32) (x6 : Int32) (x8 : Int32) (x9 : Int32) (H : Heap) (locs : List Loc) (ls : Array Slot), k129 σ x1 x2 x3 x4 x5 x6 x8 x9 = some res → Pic x al lv σ H → va_S (Ab x) s.heap H locs → lv_has ls 10 [(0, .ref (al 7 0)), (1, .int x1), (2, .int x2), (3, .int x3), (4, .int x4), (5, .int x5), (6, .int x6), (8, .int x8), (9, .int x9)] → W p l e (rmm 3 0 0) s m args below meth c H locs 0 0 (MQ below (QV x al lv res) args s 0 0 (Ab x)) (F0 m 129 ls [])) (σ : Sg) (x1 : Int32) (x2 : Int32) (x3 : Int32) (x4 : Int32) (x5 : Int32) (x6 : Int32) (x9 : Int32) (t0 : Int32) (t1 : Int32) (H : Heap) (locs : List Loc) (ls : Array Slot) (h : fM_tries_161 k129 σ x1 x2 x3 x4 x5 x6 x9 t0 t1 = some res) (hP : Pic x al lv σ H) (hS : va_S (Ab x) s.heap H locs) (hl : lv_has ls 10 [(0, .ref (al 7 0)), (1, .int x1), (2, .int x2), (3, .int x3), (4, .int x4), (5, .int x5), (6, .int x6), (9, .int x9)]) : W p l e (rmm 3 0 0) s m args below meth c H locs 0 0 (MQ below (QV x al lv res) args s 0 0 (Ab x)) (F0 m 161 ls [.int t0, .int t1]) := by
  obtain ⟨hx, hb, hml, hown, hts⟩ := hC.1
  unfold fM_tries_161 at h
  refine lv_iadd hx hb dX12_tries_161 ?_
  refine r_lt h (fun y9 h => ?_)
  refine lv_istore (lv' := [(8, .int y9), (0, .ref (al 7 0)), (1, .int x1), (2, .int x2), (3, .int x3), (4, .int x4), (5, .int x5), (6, .int x6), (9, .int x9)]) hx hb dX12_tries_162 hl (by decide) rfl (fun ls hl => ?_)
  refine r_iinc (v := 1) hC h dX12_tries_164 hl (k := 8) rfl rfl (by decide) (fun y10 => [(9, .int y10), (8, .int y9), (0, .ref (al 7 0)), (1, .int x1), (2, .int x2), (3, .int x3), (4, .int x4), (5, .int x5), (6, .int x6)]) (fun _ => rfl) (fun y10 ls h hl => ?_)
  refine lv_goto (tgt := 129) hx hb dX12_tries_167 (by decide) ?_
  exact hk129 σ x1 x2 x3 x4 x5 x6 y9 y10 H locs ls h hP hS (lv_sub hl [2, 3, 4, 5, 6, 7, 8, 1, 0] rfl)

set_option maxHeartbeats 4000000 in
set_option maxRecDepth 20000 in
theorem wM_tries_211 {p : Program} {l : Launch} {e : Env} {s : State} {m : MethodId} {args : Array Value} {below : List Frame} {meth : Method} {c : Code} {x : Wx} {al : Nat → Nat → Nat} {lv : Nat → Bool} {res : Sg} (hC : Cx x p s m args meth c cX12_tries 10 none RX12) (k23 : Sg → Int32 → Int32 → Int32 → Int32 → Int32 → Int32 → Option (Sg)) (hk23 : ∀ (σ : Sg) (x1 : Int32) (x2 : Int32) (x3 : Int32) (x4 : Int32) (x5 : Int32) (x6 : Int32) (H : Heap) (locs : List Loc) (ls : Array Slot), k23 σ x1 x2 x3 x4 x5 x6 = some res → Pic x al lv σ H → va_S (Ab x) s.heap H locs → lv_has ls 10 [(0, .ref (al 7 0)), (1, .int x1), (2, .int x2), (3, .int x3), (4, .int x4), (5, .int x5), (6, .int x6)] → W p l e (rmm 3 0 0) s m args below meth c H locs 0 0 (MQ below (QV x al lv res) args s 0 0 (Ab x)) (F0 m 23 ls [])) (σ : Sg) (x1 : Int32) (x2 : Int32) (x3 : Int32) (x4 : Int32) (x5 : Int32) (x6 : Int32) (H : Heap) (locs : List Loc) (ls : Array Slot) (h : fM_tries_211 k23 σ x1 x2 x3 x4 x5 x6 = some res) (hP : Pic x al lv σ H) (hS : va_S (Ab x) s.heap H locs) (hl : lv_has ls 10 [(0, .ref (al 7 0)), (1, .int x1), (2, .int x2), (3, .int x3), (4, .int x4), (5, .int x5), (6, .int x6)]) : W p l e (rmm 3 0 0) s m args below meth c H locs 0 0 (MQ below (QV x al lv res) args s 0 0 (Ab x)) (F0 m 211 ls []) := by
  obtain ⟨hx, hb, hml, hown, hts⟩ := hC.1
  unfold fM_tries_211 at h
  refine r_iinc (v := 1) hC h dX12_tries_211 hl (k := 6) rfl rfl (by decide) (fun y11 => [(6, .int y11), (0, .ref (al 7 0)), (1, .int x1), (2, .int x2), (3, .int x3), (4, .int x4), (5, .int x5)]) (fun _ => rfl) (fun y11 ls h hl => ?_)
  refine lv_goto (tgt := 23) hx hb dX12_tries_214 (by decide) ?_
  exact hk23 σ x1 x2 x3 x4 x5 y11 H locs ls h hP hS (lv_sub hl [1, 2, 3, 4, 5, 6, 0] rfl)

set_option maxHeartbeats 4000000 in
set_option maxRecDepth 20000 in
theorem wM_tries_203 {p : Program} {l : Launch} {e : Env} {s : State} {m : MethodId} {args : Array Value} {below : List Frame} {meth : Method} {c : Code} {x : Wx} {al : Nat → Nat → Nat} {lv : Nat → Bool} {res : Sg} (hC : Cx x p s m args meth c cX12_tries 10 none RX12) (k23 : Sg → Int32 → Int32 → Int32 → Int32 → Int32 → Int32 → Option (Sg)) (hk23 : ∀ (σ : Sg) (x1 : Int32) (x2 : Int32) (x3 : Int32) (x4 : Int32) (x5 : Int32) (x6 : Int32) (H : Heap) (locs : List Loc) (ls : Array Slot), k23 σ x1 x2 x3 x4 x5 x6 = some res → Pic x al lv σ H → va_S (Ab x) s.heap H locs → lv_has ls 10 [(0, .ref (al 7 0)), (1, .int x1), (2, .int x2), (3, .int x3), (4, .int x4), (5, .int x5), (6, .int x6)] → W p l e (rmm 3 0 0) s m args below meth c H locs 0 0 (MQ below (QV x al lv res) args s 0 0 (Ab x)) (F0 m 23 ls [])) (σ : Sg) (x1 : Int32) (x2 : Int32) (x3 : Int32) (x6 : Int32) (x8 : Int32) (H : Heap) (locs : List Loc) (ls : Array Slot) (h : fM_tries_203 k23 σ x1 x2 x3 x6 x8 = some res) (hP : Pic x al lv σ H) (hS : va_S (Ab x) s.heap H locs) (hl : lv_has ls 10 [(0, .ref (al 7 0)), (1, .int x1), (2, .int x2), (3, .int x3), (6, .int x6), (8, .int x8)]) : W p l e (rmm 3 0 0) s m args below meth c H locs 0 0 (MQ below (QV x al lv res) args s 0 0 (Ab x)) (F0 m 203 ls []) := by
  obtain ⟨hx, hb, hml, hown, hts⟩ := hC.1
  unfold fM_tries_203 at h
  refine lv_iload hx hb dX12_tries_203 (lv_at hl 5 rfl) ?_
  refine lv_istore (lv' := [(5, .int x8), (0, .ref (al 7 0)), (1, .int x1), (2, .int x2), (3, .int x3), (6, .int x6), (8, .int x8)]) hx hb dX12_tries_205 hl (by decide) rfl (fun ls hl => ?_)
  refine lv_iload hx hb dX12_tries_207 (lv_at hl 5 rfl) ?_
  refine lv_istore (lv' := [(4, .int x6), (5, .int x8), (0, .ref (al 7 0)), (1, .int x1), (2, .int x2), (3, .int x3), (6, .int x6), (8, .int x8)]) hx hb dX12_tries_209 hl (by decide) rfl (fun ls hl => ?_)
  exact wM_tries_211  hC k23 hk23 σ x1 x2 x3 x6 x8 x6 H locs ls h hP hS (lv_sub hl [2, 3, 4, 5, 0, 1, 6] rfl)

set_option maxHeartbeats 4000000 in
set_option maxRecDepth 20000 in
theorem wM_tries_129_b {p : Program} {l : Launch} {e : Env} {s : State} {m : MethodId} {args : Array Value} {below : List Frame} {meth : Method} {c : Code} {x : Wx} {al : Nat → Nat → Nat} {lv : Nat → Bool} {res : Sg} (hC : Cx x p s m args meth c cX12_tries 10 none RX12) (k23 : Sg → Int32 → Int32 → Int32 → Int32 → Int32 → Int32 → Option (Sg)) (hk23 : ∀ (σ : Sg) (x1 : Int32) (x2 : Int32) (x3 : Int32) (x4 : Int32) (x5 : Int32) (x6 : Int32) (H : Heap) (locs : List Loc) (ls : Array Slot), k23 σ x1 x2 x3 x4 x5 x6 = some res → Pic x al lv σ H → va_S (Ab x) s.heap H locs → lv_has ls 10 [(0, .ref (al 7 0)), (1, .int x1), (2, .int x2), (3, .int x3), (4, .int x4), (5, .int x5), (6, .int x6)] → W p l e (rmm 3 0 0) s m args below meth c H locs 0 0 (MQ below (QV x al lv res) args s 0 0 (Ab x)) (F0 m 23 ls [])) (k129 : Sg → Int32 → Int32 → Int32 → Int32 → Int32 → Int32 → Int32 → Int32 → Option (Sg)) (hk129 : ∀ (σ : Sg) (x1 : Int32) (x2 : Int32) (x3 : Int32) (x4 : Int32) (x5 : Int32) (x6 : Int32) (x8 : Int32) (x9 : Int32) (H : Heap) (locs : List Loc) (ls : Array Slot), k129 σ x1 x2 x3 x4 x5 x6 x8 x9 = some res → Pic x al lv σ H → va_S (Ab x) s.heap H locs → lv_has ls 10 [(0, .ref (al 7 0)), (1, .int x1), (2, .int x2), (3, .int x3), (4, .int x4), (5, .int x5), (6, .int x6), (8, .int x8), (9, .int x9)] → W p l e (rmm 3 0 0) s m args below meth c H locs 0 0 (MQ below (QV x al lv res) args s 0 0 (Ab x)) (F0 m 129 ls [])) (σ : Sg) (x1 : Int32) (x2 : Int32) (x3 : Int32) (x4 : Int32) (x5 : Int32) (x6 : Int32) (x8 : Int32) (x9 : Int32) (H : Heap) (locs : List Loc) (ls : Array Slot) (h : fM_tries_129_b k23 k129 σ x1 x2 x3 x4 x5 x6 x8 x9 = some res) (hP : Pic x al lv σ H) (hS : va_S (Ab x) s.heap H locs) (hl : lv_has ls 10 [(0, .ref (al 7 0)), (1, .int x1), (2, .int x2), (3, .int x3), (4, .int x4), (5, .int x5), (6, .int x6), (8, .int x8), (9, .int x9)]) : W p l e (rmm 3 0 0) s m args below meth c H locs 0 0 (MQ below (QV x al lv res) args s 0 0 (Ab x)) (F0 m 129 ls []) := by
  obtain ⟨hx, hb, hml, hown, hts⟩ := hC.1
  unfold fM_tries_129_b at h
  refine lv_iload hx hb dX12_tries_129 (lv_at hl 8 rfl) ?_
  refine lv_iload_n hx hb dX12_tries_131 rfl (lv_at hl 2 rfl) ?_
  refine lv_icmp_ge (tgt := 170) hx hb dX12_tries_132 (by decide) (fun hc => ?_) (fun hc => ?_)
  · replace h := (br h).1 hc
    refine lv_iload hx hb dX12_tries_170 (lv_at hl 6 rfl) ?_
    refine lv_iload hx hb dX12_tries_172 (lv_at hl 4 rfl) ?_
    refine lv_ixor hx hb dX12_tries_174 ?_
    refine r_lt h (fun y7 h => ?_)
    refine lv_istore (lv' := [(9, .int y7), (0, .ref (al 7 0)), (1, .int x1), (2, .int x2), (3, .int x3), (4, .int x4), (5, .int x5), (6, .int x6), (8, .int x8)]) hx hb dX12_tries_175 hl (by decide) rfl (fun ls hl => ?_)
    refine lv_iload hx hb dX12_tries_177 (lv_at hl 8 rfl) ?_
    refine lv_iload hx hb dX12_tries_179 (lv_at hl 6 rfl) ?_
    refine lv_icmp_lt (tgt := 203) hx hb dX12_tries_181 (by decide) (fun hc => ?_) (fun hc => ?_)
    · replace h := (br h).1 hc
      exact wM_tries_203  hC k23 hk23 σ x1 x2 x3 x6 x8 H locs ls h hP hS (lv_sub hl [1, 2, 3, 4, 7, 8] rfl)
    · replace h := (br h).2 hc
      refine lv_iload hx hb dX12_tries_184 (lv_at hl 8 rfl) ?_
      refine lv_iload hx hb dX12_tries_186 (lv_at hl 6 rfl) ?_
      refine lv_icmp_ne (tgt := 211) hx hb dX12_tries_188 (by decide) (fun hc => ?_) (fun hc => ?_)
      · replace h := (br h).2 hc
        exact wM_tries_211  hC k23 hk23 σ x1 x2 x3 x4 x5 x6 H locs ls h hP hS (lv_sub hl [1, 2, 3, 4, 5, 6, 7] rfl)
      · replace h := (br h).1 hc
        refine lv_iload hx hb dX12_tries_191 (lv_at hl 0 rfl) ?_
        refine lv_iload hx hb dX12_tries_193 (lv_at hl 0 rfl) ?_
        refine lv_ineg hx hb dX12_tries_195 ?_
        refine lv_iand hx hb dX12_tries_196 ?_
        refine lv_iload hx hb dX12_tries_197 (lv_at hl 7 rfl) ?_
        refine lv_iand hx hb dX12_tries_199 ?_
        refine lv_if_eq (tgt := 211) hx hb dX12_tries_200 (by decide) (fun hc => ?_) (fun hc => ?_)
        · replace h := (br h).1 hc
          exact wM_tries_211  hC k23 hk23 σ x1 x2 x3 x4 x5 x6 H locs ls h hP hS (lv_sub hl [1, 2, 3, 4, 5, 6, 7] rfl)
        · replace h := (br h).2 hc
          exact wM_tries_203  hC k23 hk23 σ x1 x2 x3 x6 x8 H locs ls h hP hS (lv_sub hl [1, 2, 3, 4, 7, 8] rfl)
  · replace h := (br h).2 hc
    refine lv_iload hx hb dX12_tries_135 (lv_at hl 7 rfl) ?_
    refine lv_aload_n hx hb dX12_tries_137 rfl (lv_at hl 0 rfl) ?_
    refine gt_X12_52 hC hP wf_X12_133 dX12_tries_138 ?_
    refine lv_iload hx hb dX12_tries_141 (lv_at hl 8 rfl) ?_
    refine r_zald hC hP (aM_52 hP.l7) h dX12_tries_143 (fun h => ?_)
    refine lv_if_eq (tgt := 160) hx hb dX12_tries_144 (by decide) (fun hc => ?_) (fun hc => ?_)
    · replace h := (br h).1 hc
      refine lv_iconst (v := 0) hx hb dX12_tries_160 (by decide) ?_
      exact wM_tries_161  hC k129 hk129 σ x1 x2 x3 x4 x5 x6 x9 0 x8 H locs ls h hP hS (lv_sub hl [0, 1, 2, 3, 4, 5, 6, 8] rfl)
    · replace h := (br h).2 hc
      refine lv_bipush (v := 6) hx hb dX12_tries_147 (by decide) ?_
      refine lv_aload_n hx hb dX12_tries_149 rfl (lv_at hl 0 rfl) ?_
      refine lv_iload_n hx hb dX12_tries_150 rfl (lv_at hl 1 rfl) ?_
      refine lv_iload hx hb dX12_tries_151 (lv_at hl 8 rfl) ?_
      refine r_cP hS h (fun r hr => r_runV (As := [.int x1, .int x9]) (rest := [.int 6, .int x8]) hC kV_X12_306 cw_X12_shut (rc_X12 hC hP) hP (tM_shut x al lv σ x1 x9 r hr) rfl hl.1 ⟨Nat.le_of_ble_eq_true rfl, Nat.le_of_ble_eq_true rfl⟩ ⟨Nat.le_of_ble_eq_true rfl, Nat.le_of_ble_eq_true rfl⟩ (Nat.le_of_ble_eq_true rfl) dX12_tries_153) (fun y8 H locs h hP hS => ?_)
      refine lv_isub hx hb dX12_tries_156 ?_
      refine lv_goto (tgt := 161) hx hb dX12_tries_157 (by decide) ?_
      exact wM_tries_161  hC k129 hk129 σ x1 x2 x3 x4 x5 x6 x9 (6 - y8) x8 H locs ls h hP hS (lv_sub hl [0, 1, 2, 3, 4, 5, 6, 8] rfl)

set_option maxHeartbeats 4000000 in
set_option maxRecDepth 20000 in
theorem wM_tries_129 {p : Program} {l : Launch} {e : Env} {s : State} {m : MethodId} {args : Array Value} {below : List Frame} {meth : Method} {c : Code} {x : Wx} {al : Nat → Nat → Nat} {lv : Nat → Bool} {res : Sg} (hC : Cx x p s m args meth c cX12_tries 10 none RX12) (k23 : Sg → Int32 → Int32 → Int32 → Int32 → Int32 → Int32 → Option (Sg)) (hk23 : ∀ (σ : Sg) (x1 : Int32) (x2 : Int32) (x3 : Int32) (x4 : Int32) (x5 : Int32) (x6 : Int32) (H : Heap) (locs : List Loc) (ls : Array Slot), k23 σ x1 x2 x3 x4 x5 x6 = some res → Pic x al lv σ H → va_S (Ab x) s.heap H locs → lv_has ls 10 [(0, .ref (al 7 0)), (1, .int x1), (2, .int x2), (3, .int x3), (4, .int x4), (5, .int x5), (6, .int x6)] → W p l e (rmm 3 0 0) s m args below meth c H locs 0 0 (MQ below (QV x al lv res) args s 0 0 (Ab x)) (F0 m 23 ls [])) (n : Nat) (σ : Sg) (x1 : Int32) (x2 : Int32) (x3 : Int32) (x4 : Int32) (x5 : Int32) (x6 : Int32) (x8 : Int32) (x9 : Int32) (H : Heap) (locs : List Loc) (ls : Array Slot) (h : fM_tries_129 k23 n σ x1 x2 x3 x4 x5 x6 x8 x9 = some res) (hP : Pic x al lv σ H) (hS : va_S (Ab x) s.heap H locs) (hl : lv_has ls 10 [(0, .ref (al 7 0)), (1, .int x1), (2, .int x2), (3, .int x3), (4, .int x4), (5, .int x5), (6, .int x6), (8, .int x8), (9, .int x9)]) : W p l e (rmm 3 0 0) s m args below meth c H locs 0 0 (MQ below (QV x al lv res) args s 0 0 (Ab x)) (F0 m 129 ls []) := by
  induction n generalizing σ x1 x2 x3 x4 x5 x6 x8 x9 H locs ls with
  | zero => exact nomatch h
  | succ n ih => exact wM_tries_129_b  hC k23 hk23 _ (fun σ x1 x2 x3 x4 x5 x6 x8 x9 H locs ls h hP hS hl => ih σ x1 x2 x3 x4 x5 x6 x8 x9 H locs ls h hP hS hl) σ x1 x2 x3 x4 x5 x6 x8 x9 H locs ls h hP hS hl
set_option maxHeartbeats 4000000 in
set_option maxRecDepth 20000 in
theorem wM_tries_88_b {p : Program} {l : Launch} {e : Env} {s : State} {m : MethodId} {args : Array Value} {below : List Frame} {meth : Method} {c : Code} {x : Wx} {al : Nat → Nat → Nat} {lv : Nat → Bool} {res : Sg} (hC : Cx x p s m args meth c cX12_tries 10 none RX12) (k23 : Sg → Int32 → Int32 → Int32 → Int32 → Int32 → Int32 → Option (Sg)) (hk23 : ∀ (σ : Sg) (x1 : Int32) (x2 : Int32) (x3 : Int32) (x4 : Int32) (x5 : Int32) (x6 : Int32) (H : Heap) (locs : List Loc) (ls : Array Slot), k23 σ x1 x2 x3 x4 x5 x6 = some res → Pic x al lv σ H → va_S (Ab x) s.heap H locs → lv_has ls 10 [(0, .ref (al 7 0)), (1, .int x1), (2, .int x2), (3, .int x3), (4, .int x4), (5, .int x5), (6, .int x6)] → W p l e (rmm 3 0 0) s m args below meth c H locs 0 0 (MQ below (QV x al lv res) args s 0 0 (Ab x)) (F0 m 23 ls [])) (k88 : Sg → Int32 → Int32 → Int32 → Int32 → Int32 → Int32 → Int32 → Option (Sg)) (hk88 : ∀ (σ : Sg) (x1 : Int32) (x2 : Int32) (x3 : Int32) (x4 : Int32) (x5 : Int32) (x6 : Int32) (x8 : Int32) (H : Heap) (locs : List Loc) (ls : Array Slot), k88 σ x1 x2 x3 x4 x5 x6 x8 = some res → Pic x al lv σ H → va_S (Ab x) s.heap H locs → lv_has ls 10 [(0, .ref (al 7 0)), (1, .int x1), (2, .int x2), (3, .int x3), (4, .int x4), (5, .int x5), (6, .int x6), (8, .int x8)] → W p l e (rmm 3 0 0) s m args below meth c H locs 0 0 (MQ below (QV x al lv res) args s 0 0 (Ab x)) (F0 m 88 ls [])) (σ : Sg) (x1 : Int32) (x2 : Int32) (x3 : Int32) (x4 : Int32) (x5 : Int32) (x6 : Int32) (x8 : Int32) (H : Heap) (locs : List Loc) (ls : Array Slot) (h : fM_tries_88_b k23 k88 σ x1 x2 x3 x4 x5 x6 x8 = some res) (hP : Pic x al lv σ H) (hS : va_S (Ab x) s.heap H locs) (hl : lv_has ls 10 [(0, .ref (al 7 0)), (1, .int x1), (2, .int x2), (3, .int x3), (4, .int x4), (5, .int x5), (6, .int x6), (8, .int x8)]) : W p l e (rmm 3 0 0) s m args below meth c H locs 0 0 (MQ below (QV x al lv res) args s 0 0 (Ab x)) (F0 m 88 ls []) := by
  obtain ⟨hx, hb, hml, hown, hts⟩ := hC.1
  unfold fM_tries_88_b at h
  refine lv_iload hx hb dX12_tries_88 (lv_at hl 7 rfl) ?_
  refine lv_iload_n hx hb dX12_tries_90 rfl (lv_at hl 2 rfl) ?_
  refine lv_icmp_ge (tgt := 123) hx hb dX12_tries_91 (by decide) (fun hc => ?_) (fun hc => ?_)
  · replace h := (br h).1 hc
    refine lv_iconst (v := 0) hx hb dX12_tries_123 (by decide) ?_
    refine lv_istore (lv' := [(8, .int 0), (0, .ref (al 7 0)), (1, .int x1), (2, .int x2), (3, .int x3), (4, .int x4), (5, .int x5), (6, .int x6)]) hx hb dX12_tries_124 hl (by decide) rfl (fun ls hl => ?_)
    refine lv_iconst (v := 0) hx hb dX12_tries_126 (by decide) ?_
    refine lv_istore (lv' := [(9, .int 0), (8, .int 0), (0, .ref (al 7 0)), (1, .int x1), (2, .int x2), (3, .int x3), (4, .int x4), (5, .int x5), (6, .int x6)]) hx hb dX12_tries_127 hl (by decide) rfl (fun ls hl => ?_)
    exact wM_tries_129  hC k23 hk23 FU σ x1 x2 x3 x4 x5 x6 0 0 H locs ls h hP hS (lv_sub hl [2, 3, 4, 5, 6, 7, 8, 1, 0] rfl)
  · replace h := (br h).2 hc
    refine lv_aload_n hx hb dX12_tries_94 rfl (lv_at hl 0 rfl) ?_
    refine gt_X12_52 hC hP wf_X12_133 dX12_tries_95 ?_
    refine lv_iload hx hb dX12_tries_98 (lv_at hl 7 rfl) ?_
    refine lv_iload hx hb dX12_tries_100 (lv_at hl 6 rfl) ?_
    refine lv_iload hx hb dX12_tries_102 (lv_at hl 7 rfl) ?_
    refine lv_ishr hx hb dX12_tries_104 ?_
    refine lv_iconst (v := 1) hx hb dX12_tries_105 (by decide) ?_
    refine lv_iand hx hb dX12_tries_106 ?_
    refine lv_iconst (v := 1) hx hb dX12_tries_107 (by decide) ?_
    refine lv_icmp_ne (tgt := 115) hx hb dX12_tries_108 (by decide) (fun hc => ?_) (fun hc => ?_)
    · replace h := (br h).2 hc
      refine lv_iconst (v := 0) hx hb dX12_tries_115 (by decide) ?_
      exact wM_tries_116  hC k88 hk88 σ x1 x2 x3 x4 x5 x6 x8 0 x8 H locs ls h hP hS (lv_sub hl [0, 1, 2, 3, 4, 5, 6, 7] rfl)
    · replace h := (br h).1 hc
      refine lv_iconst (v := 1) hx hb dX12_tries_111 (by decide) ?_
      refine lv_goto (tgt := 116) hx hb dX12_tries_112 (by decide) ?_
      exact wM_tries_116  hC k88 hk88 σ x1 x2 x3 x4 x5 x6 x8 1 x8 H locs ls h hP hS (lv_sub hl [0, 1, 2, 3, 4, 5, 6, 7] rfl)

set_option maxHeartbeats 4000000 in
set_option maxRecDepth 20000 in
theorem wM_tries_88 {p : Program} {l : Launch} {e : Env} {s : State} {m : MethodId} {args : Array Value} {below : List Frame} {meth : Method} {c : Code} {x : Wx} {al : Nat → Nat → Nat} {lv : Nat → Bool} {res : Sg} (hC : Cx x p s m args meth c cX12_tries 10 none RX12) (k23 : Sg → Int32 → Int32 → Int32 → Int32 → Int32 → Int32 → Option (Sg)) (hk23 : ∀ (σ : Sg) (x1 : Int32) (x2 : Int32) (x3 : Int32) (x4 : Int32) (x5 : Int32) (x6 : Int32) (H : Heap) (locs : List Loc) (ls : Array Slot), k23 σ x1 x2 x3 x4 x5 x6 = some res → Pic x al lv σ H → va_S (Ab x) s.heap H locs → lv_has ls 10 [(0, .ref (al 7 0)), (1, .int x1), (2, .int x2), (3, .int x3), (4, .int x4), (5, .int x5), (6, .int x6)] → W p l e (rmm 3 0 0) s m args below meth c H locs 0 0 (MQ below (QV x al lv res) args s 0 0 (Ab x)) (F0 m 23 ls [])) (n : Nat) (σ : Sg) (x1 : Int32) (x2 : Int32) (x3 : Int32) (x4 : Int32) (x5 : Int32) (x6 : Int32) (x8 : Int32) (H : Heap) (locs : List Loc) (ls : Array Slot) (h : fM_tries_88 k23 n σ x1 x2 x3 x4 x5 x6 x8 = some res) (hP : Pic x al lv σ H) (hS : va_S (Ab x) s.heap H locs) (hl : lv_has ls 10 [(0, .ref (al 7 0)), (1, .int x1), (2, .int x2), (3, .int x3), (4, .int x4), (5, .int x5), (6, .int x6), (8, .int x8)]) : W p l e (rmm 3 0 0) s m args below meth c H locs 0 0 (MQ below (QV x al lv res) args s 0 0 (Ab x)) (F0 m 88 ls []) := by
  induction n generalizing σ x1 x2 x3 x4 x5 x6 x8 H locs ls with
  | zero => exact nomatch h
  | succ n ih => exact wM_tries_88_b  hC k23 hk23 _ (fun σ x1 x2 x3 x4 x5 x6 x8 H locs ls h hP hS hl => ih σ x1 x2 x3 x4 x5 x6 x8 H locs ls h hP hS hl) σ x1 x2 x3 x4 x5 x6 x8 H locs ls h hP hS hl
set_option maxHeartbeats 4000000 in
set_option maxRecDepth 20000 in
theorem wM_tries_37_b {p : Program} {l : Launch} {e : Env} {s : State} {m : MethodId} {args : Array Value} {below : List Frame} {meth : Method} {c : Code} {x : Wx} {al : Nat → Nat → Nat} {lv : Nat → Bool} {res : Sg} (hC : Cx x p s m args meth c cX12_tries 10 none RX12) (k23 : Sg → Int32 → Int32 → Int32 → Int32 → Int32 → Int32 → Option (Sg)) (hk23 : ∀ (σ : Sg) (x1 : Int32) (x2 : Int32) (x3 : Int32) (x4 : Int32) (x5 : Int32) (x6 : Int32) (H : Heap) (locs : List Loc) (ls : Array Slot), k23 σ x1 x2 x3 x4 x5 x6 = some res → Pic x al lv σ H → va_S (Ab x) s.heap H locs → lv_has ls 10 [(0, .ref (al 7 0)), (1, .int x1), (2, .int x2), (3, .int x3), (4, .int x4), (5, .int x5), (6, .int x6)] → W p l e (rmm 3 0 0) s m args below meth c H locs 0 0 (MQ below (QV x al lv res) args s 0 0 (Ab x)) (F0 m 23 ls [])) (k37 : Sg → Int32 → Int32 → Int32 → Int32 → Int32 → Int32 → Int32 → Int32 → Option (Sg)) (hk37 : ∀ (σ : Sg) (x1 : Int32) (x2 : Int32) (x3 : Int32) (x4 : Int32) (x5 : Int32) (x6 : Int32) (x7 : Int32) (x8 : Int32) (H : Heap) (locs : List Loc) (ls : Array Slot), k37 σ x1 x2 x3 x4 x5 x6 x7 x8 = some res → Pic x al lv σ H → va_S (Ab x) s.heap H locs → lv_has ls 10 [(0, .ref (al 7 0)), (1, .int x1), (2, .int x2), (3, .int x3), (4, .int x4), (5, .int x5), (6, .int x6), (7, .int x7), (8, .int x8)] → W p l e (rmm 3 0 0) s m args below meth c H locs 0 0 (MQ below (QV x al lv res) args s 0 0 (Ab x)) (F0 m 37 ls [])) (σ : Sg) (x1 : Int32) (x2 : Int32) (x3 : Int32) (x4 : Int32) (x5 : Int32) (x6 : Int32) (x7 : Int32) (x8 : Int32) (H : Heap) (locs : List Loc) (ls : Array Slot) (h : fM_tries_37_b k23 k37 σ x1 x2 x3 x4 x5 x6 x7 x8 = some res) (hP : Pic x al lv σ H) (hS : va_S (Ab x) s.heap H locs) (hl : lv_has ls 10 [(0, .ref (al 7 0)), (1, .int x1), (2, .int x2), (3, .int x3), (4, .int x4), (5, .int x5), (6, .int x6), (7, .int x7), (8, .int x8)]) : W p l e (rmm 3 0 0) s m args below meth c H locs 0 0 (MQ below (QV x al lv res) args s 0 0 (Ab x)) (F0 m 37 ls []) := by
  obtain ⟨hx, hb, hml, hown, hts⟩ := hC.1
  unfold fM_tries_37_b at h
  refine lv_iload hx hb dX12_tries_37 (lv_at hl 8 rfl) ?_
  refine lv_iload_n hx hb dX12_tries_39 rfl (lv_at hl 2 rfl) ?_
  refine lv_icmp_ge (tgt := 61) hx hb dX12_tries_40 (by decide) (fun hc => ?_) (fun hc => ?_)
  · replace h := (br h).1 hc
    refine lv_iload hx hb dX12_tries_61 (lv_at hl 7 rfl) ?_
    refine lv_aload_n hx hb dX12_tries_63 rfl (lv_at hl 0 rfl) ?_
    refine gt_X12_51 hC hP wf_X12_303 dX12_tries_64 ?_
    refine lv_icmp_ne (tgt := 211) hx hb dX12_tries_67 (by decide) (fun hc => ?_) (fun hc => ?_)
    · replace h := (br h).2 hc
      exact wM_tries_211  hC k23 hk23 σ x1 x2 x3 x4 x5 x6 H locs ls h hP hS (lv_sub hl [0, 1, 2, 3, 4, 5, 6] rfl)
    · replace h := (br h).1 hc
      refine lv_iload hx hb dX12_tries_70 (lv_at hl 6 rfl) ?_
      refine lv_iload_n hx hb dX12_tries_72 rfl (lv_at hl 3 rfl) ?_
      refine lv_ishr hx hb dX12_tries_73 ?_
      refine lv_iload hx hb dX12_tries_74 (lv_at hl 6 rfl) ?_
      refine lv_iconst (v := (-1)) hx hb dX12_tries_76 (by decide) ?_
      refine lv_ixor hx hb dX12_tries_77 ?_
      refine lv_iand hx hb dX12_tries_78 ?_
      refine lv_if_eq (tgt := 85) hx hb dX12_tries_79 (by decide) (fun hc => ?_) (fun hc => ?_)
      · replace h := (br h).1 hc
        refine lv_iconst (v := 0) hx hb dX12_tries_85 (by decide) ?_
        refine lv_istore (lv' := [(8, .int 0), (0, .ref (al 7 0)), (1, .int x1), (2, .int x2), (3, .int x3), (4, .int x4), (5, .int x5), (6, .int x6), (7, .int x7)]) hx hb dX12_tries_86 hl (by decide) rfl (fun ls hl => ?_)
        exact wM_tries_88  hC k23 hk23 FU σ x1 x2 x3 x4 x5 x6 0 H locs ls h hP hS (lv_sub hl [1, 2, 3, 4, 5, 6, 7, 0] rfl)
      · replace h := (br h).2 hc
        refine lv_goto (tgt := 211) hx hb dX12_tries_82 (by decide) ?_
        exact wM_tries_211  hC k23 hk23 σ x1 x2 x3 x4 x5 x6 H locs ls h hP hS (lv_sub hl [0, 1, 2, 3, 4, 5, 6] rfl)
  · replace h := (br h).2 hc
    refine lv_iload hx hb dX12_tries_43 (lv_at hl 7 rfl) ?_
    refine lv_iload hx hb dX12_tries_45 (lv_at hl 6 rfl) ?_
    refine lv_iload hx hb dX12_tries_47 (lv_at hl 8 rfl) ?_
    refine lv_ishr hx hb dX12_tries_49 ?_
    refine lv_iconst (v := 1) hx hb dX12_tries_50 (by decide) ?_
    refine lv_iand hx hb dX12_tries_51 ?_
    refine lv_iadd hx hb dX12_tries_52 ?_
    refine r_lt h (fun y3 h => ?_)
    refine lv_istore (lv' := [(7, .int y3), (0, .ref (al 7 0)), (1, .int x1), (2, .int x2), (3, .int x3), (4, .int x4), (5, .int x5), (6, .int x6), (8, .int x8)]) hx hb dX12_tries_53 hl (by decide) rfl (fun ls hl => ?_)
    refine r_iinc (v := 1) hC h dX12_tries_55 hl (k := 8) rfl rfl (by decide) (fun y4 => [(8, .int y4), (7, .int y3), (0, .ref (al 7 0)), (1, .int x1), (2, .int x2), (3, .int x3), (4, .int x4), (5, .int x5), (6, .int x6)]) (fun _ => rfl) (fun y4 ls h hl => ?_)
    refine lv_goto (tgt := 37) hx hb dX12_tries_58 (by decide) ?_
    exact hk37 σ x1 x2 x3 x4 x5 x6 y3 y4 H locs ls h hP hS (lv_sub hl [2, 3, 4, 5, 6, 7, 8, 1, 0] rfl)

set_option maxHeartbeats 4000000 in
set_option maxRecDepth 20000 in
theorem wM_tries_37 {p : Program} {l : Launch} {e : Env} {s : State} {m : MethodId} {args : Array Value} {below : List Frame} {meth : Method} {c : Code} {x : Wx} {al : Nat → Nat → Nat} {lv : Nat → Bool} {res : Sg} (hC : Cx x p s m args meth c cX12_tries 10 none RX12) (k23 : Sg → Int32 → Int32 → Int32 → Int32 → Int32 → Int32 → Option (Sg)) (hk23 : ∀ (σ : Sg) (x1 : Int32) (x2 : Int32) (x3 : Int32) (x4 : Int32) (x5 : Int32) (x6 : Int32) (H : Heap) (locs : List Loc) (ls : Array Slot), k23 σ x1 x2 x3 x4 x5 x6 = some res → Pic x al lv σ H → va_S (Ab x) s.heap H locs → lv_has ls 10 [(0, .ref (al 7 0)), (1, .int x1), (2, .int x2), (3, .int x3), (4, .int x4), (5, .int x5), (6, .int x6)] → W p l e (rmm 3 0 0) s m args below meth c H locs 0 0 (MQ below (QV x al lv res) args s 0 0 (Ab x)) (F0 m 23 ls [])) (n : Nat) (σ : Sg) (x1 : Int32) (x2 : Int32) (x3 : Int32) (x4 : Int32) (x5 : Int32) (x6 : Int32) (x7 : Int32) (x8 : Int32) (H : Heap) (locs : List Loc) (ls : Array Slot) (h : fM_tries_37 k23 n σ x1 x2 x3 x4 x5 x6 x7 x8 = some res) (hP : Pic x al lv σ H) (hS : va_S (Ab x) s.heap H locs) (hl : lv_has ls 10 [(0, .ref (al 7 0)), (1, .int x1), (2, .int x2), (3, .int x3), (4, .int x4), (5, .int x5), (6, .int x6), (7, .int x7), (8, .int x8)]) : W p l e (rmm 3 0 0) s m args below meth c H locs 0 0 (MQ below (QV x al lv res) args s 0 0 (Ab x)) (F0 m 37 ls []) := by
  induction n generalizing σ x1 x2 x3 x4 x5 x6 x7 x8 H locs ls with
  | zero => exact nomatch h
  | succ n ih => exact wM_tries_37_b  hC k23 hk23 _ (fun σ x1 x2 x3 x4 x5 x6 x7 x8 H locs ls h hP hS hl => ih σ x1 x2 x3 x4 x5 x6 x7 x8 H locs ls h hP hS hl) σ x1 x2 x3 x4 x5 x6 x7 x8 H locs ls h hP hS hl
set_option maxHeartbeats 4000000 in
set_option maxRecDepth 20000 in
theorem wM_tries_248 {p : Program} {l : Launch} {e : Env} {s : State} {m : MethodId} {args : Array Value} {below : List Frame} {meth : Method} {c : Code} {x : Wx} {al : Nat → Nat → Nat} {lv : Nat → Bool} {res : Sg} (hC : Cx x p s m args meth c cX12_tries 10 none RX12) (k220 : Sg → Int32 → Int32 → Int32 → Option (Sg)) (hk220 : ∀ (σ : Sg) (x2 : Int32) (x4 : Int32) (x6 : Int32) (H : Heap) (locs : List Loc) (ls : Array Slot), k220 σ x2 x4 x6 = some res → Pic x al lv σ H → va_S (Ab x) s.heap H locs → lv_has ls 10 [(0, .ref (al 7 0)), (2, .int x2), (4, .int x4), (6, .int x6)] → W p l e (rmm 3 0 0) s m args below meth c H locs 0 0 (MQ below (QV x al lv res) args s 0 0 (Ab x)) (F0 m 220 ls [])) (σ : Sg) (x2 : Int32) (x4 : Int32) (x6 : Int32) (t0 : Int32) (t1 : Int32) (H : Heap) (locs : List Loc) (ls : Array Slot) (h : fM_tries_248 k220 σ x2 x4 x6 t0 t1 = some res) (hP : Pic x al lv σ H) (hS : va_S (Ab x) s.heap H locs) (hl : lv_has ls 10 [(0, .ref (al 7 0)), (2, .int x2), (4, .int x4), (6, .int x6)]) : W p l e (rmm 3 0 0) s m args below meth c H locs 0 0 (MQ below (QV x al lv res) args s 0 0 (Ab x)) (F0 m 248 ls [.int t0, .int t1, .ref (al 7 52)]) := by
  obtain ⟨hx, hb, hml, hown, hts⟩ := hC.1
  unfold fM_tries_248 at h
  refine r_zast hC hP hS (aM_52 hP.l7) h dX12_tries_248 (fun σ12 H locs h hP hS => ?_)
  refine r_iinc (v := 1) hC h dX12_tries_249 hl (k := 3) rfl rfl (by decide) (fun y13 => [(6, .int y13), (0, .ref (al 7 0)), (2, .int x2), (4, .int x4)]) (fun _ => rfl) (fun y13 ls h hl => ?_)
  refine lv_goto (tgt := 220) hx hb dX12_tries_252 (by decide) ?_
  exact hk220 σ12 x2 x4 y13 H locs ls h hP hS (lv_sub hl [1, 2, 3, 0] rfl)

set_option maxHeartbeats 4000000 in
set_option maxRecDepth 20000 in
theorem wM_tries_220_b {p : Program} {l : Launch} {e : Env} {s : State} {m : MethodId} {args : Array Value} {below : List Frame} {meth : Method} {c : Code} {x : Wx} {al : Nat → Nat → Nat} {lv : Nat → Bool} {res : Sg} (hC : Cx x p s m args meth c cX12_tries 10 none RX12) (k220 : Sg → Int32 → Int32 → Int32 → Option (Sg)) (hk220 : ∀ (σ : Sg) (x2 : Int32) (x4 : Int32) (x6 : Int32) (H : Heap) (locs : List Loc) (ls : Array Slot), k220 σ x2 x4 x6 = some res → Pic x al lv σ H → va_S (Ab x) s.heap H locs → lv_has ls 10 [(0, .ref (al 7 0)), (2, .int x2), (4, .int x4), (6, .int x6)] → W p l e (rmm 3 0 0) s m args below meth c H locs 0 0 (MQ below (QV x al lv res) args s 0 0 (Ab x)) (F0 m 220 ls [])) (σ : Sg) (x2 : Int32) (x4 : Int32) (x6 : Int32) (H : Heap) (locs : List Loc) (ls : Array Slot) (h : fM_tries_220_b k220 σ x2 x4 x6 = some res) (hP : Pic x al lv σ H) (hS : va_S (Ab x) s.heap H locs) (hl : lv_has ls 10 [(0, .ref (al 7 0)), (2, .int x2), (4, .int x4), (6, .int x6)]) : W p l e (rmm 3 0 0) s m args below meth c H locs 0 0 (MQ below (QV x al lv res) args s 0 0 (Ab x)) (F0 m 220 ls []) := by
  obtain ⟨hx, hb, hml, hown, hts⟩ := hC.1
  unfold fM_tries_220_b at h
  refine lv_iload hx hb dX12_tries_220 (lv_at hl 3 rfl) ?_
  refine lv_iload_n hx hb dX12_tries_222 rfl (lv_at hl 1 rfl) ?_
  refine lv_icmp_ge (tgt := 255) hx hb dX12_tries_223 (by decide) (fun hc => ?_) (fun hc => ?_)
  · replace h := (br h).1 hc
    exact r_retV hC hP hS h dX12_tries_255
  · replace h := (br h).2 hc
    refine lv_aload_n hx hb dX12_tries_226 rfl (lv_at hl 0 rfl) ?_
    refine gt_X12_52 hC hP wf_X12_133 dX12_tries_227 ?_
    refine lv_iload hx hb dX12_tries_230 (lv_at hl 3 rfl) ?_
    refine lv_iload hx hb dX12_tries_232 (lv_at hl 2 rfl) ?_
    refine lv_iload hx hb dX12_tries_234 (lv_at hl 3 rfl) ?_
    refine lv_ishr hx hb dX12_tries_236 ?_
    refine lv_iconst (v := 1) hx hb dX12_tries_237 (by decide) ?_
    refine lv_iand hx hb dX12_tries_238 ?_
    refine lv_iconst (v := 1) hx hb dX12_tries_239 (by decide) ?_
    refine lv_icmp_ne (tgt := 247) hx hb dX12_tries_240 (by decide) (fun hc => ?_) (fun hc => ?_)
    · replace h := (br h).2 hc
      refine lv_iconst (v := 0) hx hb dX12_tries_247 (by decide) ?_
      exact wM_tries_248  hC k220 hk220 σ x2 x4 x6 0 x6 H locs ls h hP hS (lv_sub hl [0, 1, 2, 3] rfl)
    · replace h := (br h).1 hc
      refine lv_iconst (v := 1) hx hb dX12_tries_243 (by decide) ?_
      refine lv_goto (tgt := 248) hx hb dX12_tries_244 (by decide) ?_
      exact wM_tries_248  hC k220 hk220 σ x2 x4 x6 1 x6 H locs ls h hP hS (lv_sub hl [0, 1, 2, 3] rfl)

set_option maxHeartbeats 4000000 in
set_option maxRecDepth 20000 in
theorem wM_tries_220 {p : Program} {l : Launch} {e : Env} {s : State} {m : MethodId} {args : Array Value} {below : List Frame} {meth : Method} {c : Code} {x : Wx} {al : Nat → Nat → Nat} {lv : Nat → Bool} {res : Sg} (hC : Cx x p s m args meth c cX12_tries 10 none RX12) (n : Nat) (σ : Sg) (x2 : Int32) (x4 : Int32) (x6 : Int32) (H : Heap) (locs : List Loc) (ls : Array Slot) (h : fM_tries_220 n σ x2 x4 x6 = some res) (hP : Pic x al lv σ H) (hS : va_S (Ab x) s.heap H locs) (hl : lv_has ls 10 [(0, .ref (al 7 0)), (2, .int x2), (4, .int x4), (6, .int x6)]) : W p l e (rmm 3 0 0) s m args below meth c H locs 0 0 (MQ below (QV x al lv res) args s 0 0 (Ab x)) (F0 m 220 ls []) := by
  induction n generalizing σ x2 x4 x6 H locs ls with
  | zero => exact nomatch h
  | succ n ih => exact wM_tries_220_b  hC  _ (fun σ x2 x4 x6 H locs ls h hP hS hl => ih σ x2 x4 x6 H locs ls h hP hS hl) σ x2 x4 x6 H locs ls h hP hS hl
set_option maxHeartbeats 4000000 in
set_option maxRecDepth 20000 in
theorem wM_tries_23_b {p : Program} {l : Launch} {e : Env} {s : State} {m : MethodId} {args : Array Value} {below : List Frame} {meth : Method} {c : Code} {x : Wx} {al : Nat → Nat → Nat} {lv : Nat → Bool} {res : Sg} (hC : Cx x p s m args meth c cX12_tries 10 none RX12) (k23 : Sg → Int32 → Int32 → Int32 → Int32 → Int32 → Int32 → Option (Sg)) (hk23 : ∀ (σ : Sg) (x1 : Int32) (x2 : Int32) (x3 : Int32) (x4 : Int32) (x5 : Int32) (x6 : Int32) (H : Heap) (locs : List Loc) (ls : Array Slot), k23 σ x1 x2 x3 x4 x5 x6 = some res → Pic x al lv σ H → va_S (Ab x) s.heap H locs → lv_has ls 10 [(0, .ref (al 7 0)), (1, .int x1), (2, .int x2), (3, .int x3), (4, .int x4), (5, .int x5), (6, .int x6)] → W p l e (rmm 3 0 0) s m args below meth c H locs 0 0 (MQ below (QV x al lv res) args s 0 0 (Ab x)) (F0 m 23 ls [])) (σ : Sg) (x1 : Int32) (x2 : Int32) (x3 : Int32) (x4 : Int32) (x5 : Int32) (x6 : Int32) (H : Heap) (locs : List Loc) (ls : Array Slot) (h : fM_tries_23_b k23 σ x1 x2 x3 x4 x5 x6 = some res) (hP : Pic x al lv σ H) (hS : va_S (Ab x) s.heap H locs) (hl : lv_has ls 10 [(0, .ref (al 7 0)), (1, .int x1), (2, .int x2), (3, .int x3), (4, .int x4), (5, .int x5), (6, .int x6)]) : W p l e (rmm 3 0 0) s m args below meth c H locs 0 0 (MQ below (QV x al lv res) args s 0 0 (Ab x)) (F0 m 23 ls []) := by
  obtain ⟨hx, hb, hml, hown, hts⟩ := hC.1
  unfold fM_tries_23_b at h
  refine lv_iload hx hb dX12_tries_23 (lv_at hl 6 rfl) ?_
  refine lv_iconst (v := 1) hx hb dX12_tries_25 (by decide) ?_
  refine lv_iload_n hx hb dX12_tries_26 rfl (lv_at hl 2 rfl) ?_
  refine lv_ishl hx hb dX12_tries_27 ?_
  refine lv_icmp_ge (tgt := 217) hx hb dX12_tries_28 (by decide) (fun hc => ?_) (fun hc => ?_)
  · replace h := (br h).1 hc
    refine lv_iconst (v := 0) hx hb dX12_tries_217 (by decide) ?_
    refine lv_istore (lv' := [(6, .int 0), (0, .ref (al 7 0)), (1, .int x1), (2, .int x2), (3, .int x3), (4, .int x4), (5, .int x5)]) hx hb dX12_tries_218 hl (by decide) rfl (fun ls hl => ?_)
    exact wM_tries_220  hC  FU σ x2 x4 0 H locs ls h hP hS (lv_sub hl [1, 3, 5, 0] rfl)
  · replace h := (br h).2 hc
    refine lv_iconst (v := 0) hx hb dX12_tries_31 (by decide) ?_
    refine lv_istore (lv' := [(7, .int 0), (0, .ref (al 7 0)), (1, .int x1), (2, .int x2), (3, .int x3), (4, .int x4), (5, .int x5), (6, .int x6)]) hx hb dX12_tries_32 hl (by decide) rfl (fun ls hl => ?_)
    refine lv_iconst (v := 0) hx hb dX12_tries_34 (by decide) ?_
    refine lv_istore (lv' := [(8, .int 0), (7, .int 0), (0, .ref (al 7 0)), (1, .int x1), (2, .int x2), (3, .int x3), (4, .int x4), (5, .int x5), (6, .int x6)]) hx hb dX12_tries_35 hl (by decide) rfl (fun ls hl => ?_)
    exact wM_tries_37  hC k23 hk23 FU σ x1 x2 x3 x4 x5 x6 0 0 H locs ls h hP hS (lv_sub hl [2, 3, 4, 5, 6, 7, 8, 1, 0] rfl)

set_option maxHeartbeats 4000000 in
set_option maxRecDepth 20000 in
theorem wM_tries_23 {p : Program} {l : Launch} {e : Env} {s : State} {m : MethodId} {args : Array Value} {below : List Frame} {meth : Method} {c : Code} {x : Wx} {al : Nat → Nat → Nat} {lv : Nat → Bool} {res : Sg} (hC : Cx x p s m args meth c cX12_tries 10 none RX12) (n : Nat) (σ : Sg) (x1 : Int32) (x2 : Int32) (x3 : Int32) (x4 : Int32) (x5 : Int32) (x6 : Int32) (H : Heap) (locs : List Loc) (ls : Array Slot) (h : fM_tries_23 n σ x1 x2 x3 x4 x5 x6 = some res) (hP : Pic x al lv σ H) (hS : va_S (Ab x) s.heap H locs) (hl : lv_has ls 10 [(0, .ref (al 7 0)), (1, .int x1), (2, .int x2), (3, .int x3), (4, .int x4), (5, .int x5), (6, .int x6)]) : W p l e (rmm 3 0 0) s m args below meth c H locs 0 0 (MQ below (QV x al lv res) args s 0 0 (Ab x)) (F0 m 23 ls []) := by
  induction n generalizing σ x1 x2 x3 x4 x5 x6 H locs ls with
  | zero => exact nomatch h
  | succ n ih => exact wM_tries_23_b  hC  _ (fun σ x1 x2 x3 x4 x5 x6 H locs ls h hP hS hl => ih σ x1 x2 x3 x4 x5 x6 H locs ls h hP hS hl) σ x1 x2 x3 x4 x5 x6 H locs ls h hP hS hl
set_option maxHeartbeats 4000000 in
set_option maxRecDepth 20000 in
theorem wM_tries_0 {p : Program} {l : Launch} {e : Env} {s : State} {m : MethodId} {args : Array Value} {below : List Frame} {meth : Method} {c : Code} {x : Wx} {al : Nat → Nat → Nat} {lv : Nat → Bool} {res : Sg} (hC : Cx x p s m args meth c cX12_tries 10 none RX12) (σ : Sg) (v1 : Int32) (H : Heap) (locs : List Loc) (ls : Array Slot) (h : fM_tries_0 σ v1 = some res) (hP : Pic x al lv σ H) (hS : va_S (Ab x) s.heap H locs) (hl : lv_has ls 10 [(0, .ref (al 7 0)), (1, .int v1)]) : W p l e (rmm 3 0 0) s m args below meth c H locs 0 0 (MQ below (QV x al lv res) args s 0 0 (Ab x)) (F0 m 0 ls []) := by
  obtain ⟨hx, hb, hml, hown, hts⟩ := hC.1
  unfold fM_tries_0 at h
  refine lv_aload_n hx hb dX12_tries_0 rfl (lv_at hl 0 rfl) ?_
  refine lv_iload_n hx hb dX12_tries_1 rfl (lv_at hl 1 rfl) ?_
  refine r_cP hS h (fun r hr => r_runV (As := [.int v1]) (rest := []) hC kV_X12_160 cw_X12_places (rc_X12 hC hP) hP (tM_places x al lv σ v1 r hr) rfl hl.1 ⟨Nat.le_of_ble_eq_true rfl, Nat.le_of_ble_eq_true rfl⟩ ⟨Nat.le_of_ble_eq_true rfl, Nat.le_of_ble_eq_true rfl⟩ (Nat.le_of_ble_eq_true rfl) dX12_tries_2) (fun y1 H locs h hP hS => ?_)
  refine lv_istore_n (lv' := [(2, .int y1), (0, .ref (al 7 0)), (1, .int v1)]) hx hb dX12_tries_5 rfl hl (by decide) rfl (fun ls hl => ?_)
  refine lv_aload_n hx hb dX12_tries_6 rfl (lv_at hl 1 rfl) ?_
  refine lv_iload_n hx hb dX12_tries_7 rfl (lv_at hl 2 rfl) ?_
  refine r_cP hS h (fun r hr => r_runV (As := [.int v1]) (rest := []) hC kV_X12_167 cw_X12_floor (rc_X12 hC hP) hP (tM_floor x al lv σ v1 r hr) rfl hl.1 ⟨Nat.le_of_ble_eq_true rfl, Nat.le_of_ble_eq_true rfl⟩ ⟨Nat.le_of_ble_eq_true rfl, Nat.le_of_ble_eq_true rfl⟩ (Nat.le_of_ble_eq_true rfl) dX12_tries_8) (fun y2 H locs h hP hS => ?_)
  refine lv_istore_n (lv' := [(3, .int y2), (2, .int y1), (0, .ref (al 7 0)), (1, .int v1)]) hx hb dX12_tries_11 rfl hl (by decide) rfl (fun ls hl => ?_)
  refine lv_iconst (v := 0) hx hb dX12_tries_12 (by decide) ?_
  refine lv_istore (lv' := [(4, .int 0), (3, .int y2), (2, .int y1), (0, .ref (al 7 0)), (1, .int v1)]) hx hb dX12_tries_13 hl (by decide) rfl (fun ls hl => ?_)
  refine lv_sipush (v := 1000) hx hb dX12_tries_15 (by decide) ?_
  refine lv_istore (lv' := [(5, .int 1000), (4, .int 0), (3, .int y2), (2, .int y1), (0, .ref (al 7 0)), (1, .int v1)]) hx hb dX12_tries_18 hl (by decide) rfl (fun ls hl => ?_)
  refine lv_iconst (v := 0) hx hb dX12_tries_20 (by decide) ?_
  refine lv_istore (lv' := [(6, .int 0), (5, .int 1000), (4, .int 0), (3, .int y2), (2, .int y1), (0, .ref (al 7 0)), (1, .int v1)]) hx hb dX12_tries_21 hl (by decide) rfl (fun ls hl => ?_)
  exact wM_tries_23  hC  FU σ v1 y1 y2 0 1000 0 H locs ls h hP hS (lv_sub hl [5, 6, 4, 3, 2, 1, 0] rfl)

set_option maxRecDepth 20000 in
theorem tM_tries {l : Launch} (x : Wx) (al : Nat → Nat → Nat) (lv : Nat → Bool) (σ : Sg) (v1 : Int32) (res : Sg) (h : fM_tries σ v1 = some res) : Met l yX12_tries (Cond.code yX12_tries cX12_tries 10 none :: lwg) (rmm 3 0 0) (va_Pc [.ref (al 7 0), .int v1] (Wd x al lv σ)) (QV x al lv res) 0 0 (Ab x) := by
  refine met_W (by decide) (Nat.le_of_ble_eq_true rfl) rfl (fun p e s m args below meth c ls hC hP hS hl => ?_)
  exact wM_tries_0  hC σ v1 _ _ ls h hP hS hl
set_option maxHeartbeats 4000000 in
set_option maxRecDepth 20000 in
theorem wM_fills_118 {p : Program} {l : Launch} {e : Env} {s : State} {m : MethodId} {args : Array Value} {below : List Frame} {meth : Method} {c : Code} {x : Wx} {al : Nat → Nat → Nat} {lv : Nat → Bool} {res : Sg} (hC : Cx x p s m args meth c cX12_fills 8 none RX12) (k56 : Sg → Int32 → Int32 → Int32 → Int32 → Int32 → Int32 → Int32 → Option (Sg)) (hk56 : ∀ (σ : Sg) (x1 : Int32) (x2 : Int32) (x3 : Int32) (x4 : Int32) (x5 : Int32) (x6 : Int32) (x7 : Int32) (H : Heap) (locs : List Loc) (ls : Array Slot), k56 σ x1 x2 x3 x4 x5 x6 x7 = some res → Pic x al lv σ H → va_S (Ab x) s.heap H locs → lv_has ls 8 [(0, .ref (al 7 0)), (1, .int x1), (2, .int x2), (3, .int x3), (4, .int x4), (5, .int x5), (6, .int x6), (7, .int x7)] → W p l e (rmm 3 0 0) s m args below meth c H locs 0 0 (MQ below (QV x al lv res) args s 0 0 (Ab x)) (F0 m 56 ls [])) (σ : Sg) (x1 : Int32) (x2 : Int32) (x3 : Int32) (x4 : Int32) (x5 : Int32) (x6 : Int32) (x7 : Int32) (H : Heap) (locs : List Loc) (ls : Array Slot) (h : fM_fills_118 k56 σ x1 x2 x3 x4 x5 x6 x7 = some res) (hP : Pic x al lv σ H) (hS : va_S (Ab x) s.heap H locs) (hl : lv_has ls 8 [(0, .ref (al 7 0)), (1, .int x1), (2, .int x2), (3, .int x3), (4, .int x4), (5, .int x5), (6, .int x6), (7, .int x7)]) : W p l e (rmm 3 0 0) s m args below meth c H locs 0 0 (MQ below (QV x al lv res) args s 0 0 (Ab x)) (F0 m 118 ls []) := by
  obtain ⟨hx, hb, hml, hown, hts⟩ := hC.1
  unfold fM_fills_118 at h
  refine r_iinc (v := 1) hC h dX12_fills_118 hl (k := 7) rfl rfl (by decide) (fun y9 => [(7, .int y9), (0, .ref (al 7 0)), (1, .int x1), (2, .int x2), (3, .int x3), (4, .int x4), (5, .int x5), (6, .int x6)]) (fun _ => rfl) (fun y9 ls h hl => ?_)
  refine lv_goto (tgt := 56) hx hb dX12_fills_121 (by decide) ?_
  exact hk56 σ x1 x2 x3 x4 x5 x6 y9 H locs ls h hP hS (lv_sub hl [1, 2, 3, 4, 5, 6, 7, 0] rfl)

set_option maxHeartbeats 4000000 in
set_option maxRecDepth 20000 in
theorem wM_fills_90 {p : Program} {l : Launch} {e : Env} {s : State} {m : MethodId} {args : Array Value} {below : List Frame} {meth : Method} {c : Code} {x : Wx} {al : Nat → Nat → Nat} {lv : Nat → Bool} {res : Sg} (hC : Cx x p s m args meth c cX12_fills 8 none RX12) (k56 : Sg → Int32 → Int32 → Int32 → Int32 → Int32 → Int32 → Int32 → Option (Sg)) (hk56 : ∀ (σ : Sg) (x1 : Int32) (x2 : Int32) (x3 : Int32) (x4 : Int32) (x5 : Int32) (x6 : Int32) (x7 : Int32) (H : Heap) (locs : List Loc) (ls : Array Slot), k56 σ x1 x2 x3 x4 x5 x6 x7 = some res → Pic x al lv σ H → va_S (Ab x) s.heap H locs → lv_has ls 8 [(0, .ref (al 7 0)), (1, .int x1), (2, .int x2), (3, .int x3), (4, .int x4), (5, .int x5), (6, .int x6), (7, .int x7)] → W p l e (rmm 3 0 0) s m args below meth c H locs 0 0 (MQ below (QV x al lv res) args s 0 0 (Ab x)) (F0 m 56 ls [])) (σ : Sg) (x1 : Int32) (x2 : Int32) (x3 : Int32) (x4 : Int32) (x5 : Int32) (x6 : Int32) (x7 : Int32) (H : Heap) (locs : List Loc) (ls : Array Slot) (h : fM_fills_90 k56 σ x1 x2 x3 x4 x5 x6 x7 = some res) (hP : Pic x al lv σ H) (hS : va_S (Ab x) s.heap H locs) (hl : lv_has ls 8 [(0, .ref (al 7 0)), (1, .int x1), (2, .int x2), (3, .int x3), (4, .int x4), (5, .int x5), (6, .int x6), (7, .int x7)]) : W p l e (rmm 3 0 0) s m args below meth c H locs 0 0 (MQ below (QV x al lv res) args s 0 0 (Ab x)) (F0 m 90 ls []) := by
  obtain ⟨hx, hb, hml, hown, hts⟩ := hC.1
  unfold fM_fills_90 at h
  refine lv_aload_n hx hb dX12_fills_90 rfl (lv_at hl 0 rfl) ?_
  refine lv_iload_n hx hb dX12_fills_91 rfl (lv_at hl 1 rfl) ?_
  refine lv_iload hx hb dX12_fills_92 (lv_at hl 7 rfl) ?_
  refine r_cP hS h (fun r hr => r_runV (As := [.int x1, .int x7]) (rest := []) hC kV_X12_306 cw_X12_shut (rc_X12 hC hP) hP (tM_shut x al lv σ x1 x7 r hr) rfl hl.1 ⟨Nat.le_of_ble_eq_true rfl, Nat.le_of_ble_eq_true rfl⟩ ⟨Nat.le_of_ble_eq_true rfl, Nat.le_of_ble_eq_true rfl⟩ (Nat.le_of_ble_eq_true rfl) dX12_fills_94) (fun y7 H locs h hP hS => ?_)
  refine lv_iload hx hb dX12_fills_97 (lv_at hl 6 rfl) ?_
  refine lv_icmp_gt (tgt := 105) hx hb dX12_fills_99 (by decide) (fun hc => ?_) (fun hc => ?_)
  · replace h := (br h).1 hc
    refine lv_iload hx hb dX12_fills_105 (lv_at hl 7 rfl) ?_
    refine lv_istore (lv' := [(5, .int x7), (0, .ref (al 7 0)), (1, .int x1), (2, .int x2), (3, .int x3), (4, .int x4), (6, .int x6), (7, .int x7)]) hx hb dX12_fills_107 hl (by decide) rfl (fun ls hl => ?_)
    refine lv_aload_n hx hb dX12_fills_109 rfl (lv_at hl 1 rfl) ?_
    refine lv_iload_n hx hb dX12_fills_110 rfl (lv_at hl 2 rfl) ?_
    refine lv_iload hx hb dX12_fills_111 (lv_at hl 7 rfl) ?_
    refine r_cP hS h (fun r hr => r_runV (As := [.int x1, .int x7]) (rest := []) hC kV_X12_306 cw_X12_shut (rc_X12 hC hP) hP (tM_shut x al lv σ x1 x7 r hr) rfl hl.1 ⟨Nat.le_of_ble_eq_true rfl, Nat.le_of_ble_eq_true rfl⟩ ⟨Nat.le_of_ble_eq_true rfl, Nat.le_of_ble_eq_true rfl⟩ (Nat.le_of_ble_eq_true rfl) dX12_fills_113) (fun y8 H locs h hP hS => ?_)
    refine lv_istore (lv' := [(6, .int y8), (5, .int x7), (0, .ref (al 7 0)), (1, .int x1), (2, .int x2), (3, .int x3), (4, .int x4), (7, .int x7)]) hx hb dX12_fills_116 hl (by decide) rfl (fun ls hl => ?_)
    exact wM_fills_118  hC k56 hk56 σ x1 x2 x3 x4 x7 y8 x7 H locs ls h hP hS (lv_sub hl [2, 3, 4, 5, 6, 1, 0, 7] rfl)
  · replace h := (br h).2 hc
    refine lv_goto (tgt := 118) hx hb dX12_fills_102 (by decide) ?_
    exact wM_fills_118  hC k56 hk56 σ x1 x2 x3 x4 x5 x6 x7 H locs ls h hP hS (lv_sub hl [0, 1, 2, 3, 4, 5, 6, 7] rfl)

set_option maxHeartbeats 4000000 in
set_option maxRecDepth 20000 in
theorem wM_fills_56_b {p : Program} {l : Launch} {e : Env} {s : State} {m : MethodId} {args : Array Value} {below : List Frame} {meth : Method} {c : Code} {x : Wx} {al : Nat → Nat → Nat} {lv : Nat → Bool} {res : Sg} (hC : Cx x p s m args meth c cX12_fills 8 none RX12) (k38 : Sg → Int32 → Int32 → Int32 → Int32 → Option (Sg)) (hk38 : ∀ (σ : Sg) (x1 : Int32) (x2 : Int32) (x3 : Int32) (x4 : Int32) (H : Heap) (locs : List Loc) (ls : Array Slot), k38 σ x1 x2 x3 x4 = some res → Pic x al lv σ H → va_S (Ab x) s.heap H locs → lv_has ls 8 [(0, .ref (al 7 0)), (1, .int x1), (2, .int x2), (3, .int x3), (4, .int x4)] → W p l e (rmm 3 0 0) s m args below meth c H locs 0 0 (MQ below (QV x al lv res) args s 0 0 (Ab x)) (F0 m 38 ls [])) (k56 : Sg → Int32 → Int32 → Int32 → Int32 → Int32 → Int32 → Int32 → Option (Sg)) (hk56 : ∀ (σ : Sg) (x1 : Int32) (x2 : Int32) (x3 : Int32) (x4 : Int32) (x5 : Int32) (x6 : Int32) (x7 : Int32) (H : Heap) (locs : List Loc) (ls : Array Slot), k56 σ x1 x2 x3 x4 x5 x6 x7 = some res → Pic x al lv σ H → va_S (Ab x) s.heap H locs → lv_has ls 8 [(0, .ref (al 7 0)), (1, .int x1), (2, .int x2), (3, .int x3), (4, .int x4), (5, .int x5), (6, .int x6), (7, .int x7)] → W p l e (rmm 3 0 0) s m args below meth c H locs 0 0 (MQ below (QV x al lv res) args s 0 0 (Ab x)) (F0 m 56 ls [])) (σ : Sg) (x1 : Int32) (x2 : Int32) (x3 : Int32) (x4 : Int32) (x5 : Int32) (x6 : Int32) (x7 : Int32) (H : Heap) (locs : List Loc) (ls : Array Slot) (h : fM_fills_56_b k38 k56 σ x1 x2 x3 x4 x5 x6 x7 = some res) (hP : Pic x al lv σ H) (hS : va_S (Ab x) s.heap H locs) (hl : lv_has ls 8 [(0, .ref (al 7 0)), (1, .int x1), (2, .int x2), (3, .int x3), (4, .int x4), (5, .int x5), (6, .int x6), (7, .int x7)]) : W p l e (rmm 3 0 0) s m args below meth c H locs 0 0 (MQ below (QV x al lv res) args s 0 0 (Ab x)) (F0 m 56 ls []) := by
  obtain ⟨hx, hb, hml, hown, hts⟩ := hC.1
  unfold fM_fills_56_b at h
  refine lv_iload hx hb dX12_fills_56 (lv_at hl 7 rfl) ?_
  refine lv_iload_n hx hb dX12_fills_58 rfl (lv_at hl 2 rfl) ?_
  refine lv_icmp_ge (tgt := 124) hx hb dX12_fills_59 (by decide) (fun hc => ?_) (fun hc => ?_)
  · replace h := (br h).1 hc
    refine lv_aload_n hx hb dX12_fills_124 rfl (lv_at hl 0 rfl) ?_
    refine gt_X12_52 hC hP wf_X12_133 dX12_fills_125 ?_
    refine lv_iload hx hb dX12_fills_128 (lv_at hl 5 rfl) ?_
    refine lv_iconst (v := 1) hx hb dX12_fills_130 (by decide) ?_
    refine r_zast hC hP hS (aM_52 hP.l7) h dX12_fills_131 (fun σ5 H locs h hP hS => ?_)
    refine r_iinc (v := 1) hC h dX12_fills_132 hl (k := 4) rfl rfl (by decide) (fun y6 => [(4, .int y6), (0, .ref (al 7 0)), (1, .int x1), (2, .int x2), (3, .int x3), (5, .int x5), (6, .int x6), (7, .int x7)]) (fun _ => rfl) (fun y6 ls h hl => ?_)
    refine lv_goto (tgt := 38) hx hb dX12_fills_135 (by decide) ?_
    exact hk38 σ5 x1 x2 x3 y6 H locs ls h hP hS (lv_sub hl [1, 2, 3, 4, 0] rfl)
  · replace h := (br h).2 hc
    refine lv_aload_n hx hb dX12_fills_62 rfl (lv_at hl 0 rfl) ?_
    refine gt_X12_52 hC hP wf_X12_133 dX12_fills_63 ?_
    refine lv_iload hx hb dX12_fills_66 (lv_at hl 7 rfl) ?_
    refine r_zald hC hP (aM_52 hP.l7) h dX12_fills_68 (fun h => ?_)
    refine lv_if_ne (tgt := 118) hx hb dX12_fills_69 (by decide) (fun hc => ?_) (fun hc => ?_)
    · replace h := (br h).2 hc
      exact wM_fills_118  hC k56 hk56 σ x1 x2 x3 x4 x5 x6 x7 H locs ls h hP hS (lv_sub hl [0, 1, 2, 3, 4, 5, 6, 7] rfl)
    · replace h := (br h).1 hc
      refine lv_iload hx hb dX12_fills_72 (lv_at hl 7 rfl) ?_
      refine lv_iload_n hx hb dX12_fills_74 rfl (lv_at hl 3 rfl) ?_
      refine lv_icmp_lt (tgt := 90) hx hb dX12_fills_75 (by decide) (fun hc => ?_) (fun hc => ?_)
      · replace h := (br h).1 hc
        exact wM_fills_90  hC k56 hk56 σ x1 x2 x3 x4 x5 x6 x7 H locs ls h hP hS (lv_sub hl [0, 1, 2, 3, 4, 5, 6, 7] rfl)
      · replace h := (br h).2 hc
        refine lv_aload_n hx hb dX12_fills_78 rfl (lv_at hl 0 rfl) ?_
        refine gt_X12_52 hC hP wf_X12_133 dX12_fills_79 ?_
        refine lv_iload hx hb dX12_fills_82 (lv_at hl 7 rfl) ?_
        refine lv_iload_n hx hb dX12_fills_84 rfl (lv_at hl 3 rfl) ?_
        refine lv_isub hx hb dX12_fills_85 ?_
        refine r_zald hC hP (aM_52 hP.l7) h dX12_fills_86 (fun h => ?_)
        refine lv_if_eq (tgt := 118) hx hb dX12_fills_87 (by decide) (fun hc => ?_) (fun hc => ?_)
        · replace h := (br h).1 hc
          exact wM_fills_118  hC k56 hk56 σ x1 x2 x3 x4 x5 x6 x7 H locs ls h hP hS (lv_sub hl [0, 1, 2, 3, 4, 5, 6, 7] rfl)
        · replace h := (br h).2 hc
          exact wM_fills_90  hC k56 hk56 σ x1 x2 x3 x4 x5 x6 x7 H locs ls h hP hS (lv_sub hl [0, 1, 2, 3, 4, 5, 6, 7] rfl)

set_option maxHeartbeats 4000000 in
set_option maxRecDepth 20000 in
theorem wM_fills_56 {p : Program} {l : Launch} {e : Env} {s : State} {m : MethodId} {args : Array Value} {below : List Frame} {meth : Method} {c : Code} {x : Wx} {al : Nat → Nat → Nat} {lv : Nat → Bool} {res : Sg} (hC : Cx x p s m args meth c cX12_fills 8 none RX12) (k38 : Sg → Int32 → Int32 → Int32 → Int32 → Option (Sg)) (hk38 : ∀ (σ : Sg) (x1 : Int32) (x2 : Int32) (x3 : Int32) (x4 : Int32) (H : Heap) (locs : List Loc) (ls : Array Slot), k38 σ x1 x2 x3 x4 = some res → Pic x al lv σ H → va_S (Ab x) s.heap H locs → lv_has ls 8 [(0, .ref (al 7 0)), (1, .int x1), (2, .int x2), (3, .int x3), (4, .int x4)] → W p l e (rmm 3 0 0) s m args below meth c H locs 0 0 (MQ below (QV x al lv res) args s 0 0 (Ab x)) (F0 m 38 ls [])) (n : Nat) (σ : Sg) (x1 : Int32) (x2 : Int32) (x3 : Int32) (x4 : Int32) (x5 : Int32) (x6 : Int32) (x7 : Int32) (H : Heap) (locs : List Loc) (ls : Array Slot) (h : fM_fills_56 k38 n σ x1 x2 x3 x4 x5 x6 x7 = some res) (hP : Pic x al lv σ H) (hS : va_S (Ab x) s.heap H locs) (hl : lv_has ls 8 [(0, .ref (al 7 0)), (1, .int x1), (2, .int x2), (3, .int x3), (4, .int x4), (5, .int x5), (6, .int x6), (7, .int x7)]) : W p l e (rmm 3 0 0) s m args below meth c H locs 0 0 (MQ below (QV x al lv res) args s 0 0 (Ab x)) (F0 m 56 ls []) := by
  induction n generalizing σ x1 x2 x3 x4 x5 x6 x7 H locs ls with
  | zero => exact nomatch h
  | succ n ih => exact wM_fills_56_b  hC k38 hk38 _ (fun σ x1 x2 x3 x4 x5 x6 x7 H locs ls h hP hS hl => ih σ x1 x2 x3 x4 x5 x6 x7 H locs ls h hP hS hl) σ x1 x2 x3 x4 x5 x6 x7 H locs ls h hP hS hl
set_option maxHeartbeats 4000000 in
set_option maxRecDepth 20000 in
theorem wM_fills_38_b {p : Program} {l : Launch} {e : Env} {s : State} {m : MethodId} {args : Array Value} {below : List Frame} {meth : Method} {c : Code} {x : Wx} {al : Nat → Nat → Nat} {lv : Nat → Bool} {res : Sg} (hC : Cx x p s m args meth c cX12_fills 8 none RX12) (k38 : Sg → Int32 → Int32 → Int32 → Int32 → Option (Sg)) (hk38 : ∀ (σ : Sg) (x1 : Int32) (x2 : Int32) (x3 : Int32) (x4 : Int32) (H : Heap) (locs : List Loc) (ls : Array Slot), k38 σ x1 x2 x3 x4 = some res → Pic x al lv σ H → va_S (Ab x) s.heap H locs → lv_has ls 8 [(0, .ref (al 7 0)), (1, .int x1), (2, .int x2), (3, .int x3), (4, .int x4)] → W p l e (rmm 3 0 0) s m args below meth c H locs 0 0 (MQ below (QV x al lv res) args s 0 0 (Ab x)) (F0 m 38 ls [])) (σ : Sg) (x1 : Int32) (x2 : Int32) (x3 : Int32) (x4 : Int32) (H : Heap) (locs : List Loc) (ls : Array Slot) (h : fM_fills_38_b k38 σ x1 x2 x3 x4 = some res) (hP : Pic x al lv σ H) (hS : va_S (Ab x) s.heap H locs) (hl : lv_has ls 8 [(0, .ref (al 7 0)), (1, .int x1), (2, .int x2), (3, .int x3), (4, .int x4)]) : W p l e (rmm 3 0 0) s m args below meth c H locs 0 0 (MQ below (QV x al lv res) args s 0 0 (Ab x)) (F0 m 38 ls []) := by
  obtain ⟨hx, hb, hml, hown, hts⟩ := hC.1
  unfold fM_fills_38_b at h
  refine lv_iload hx hb dX12_fills_38 (lv_at hl 4 rfl) ?_
  refine lv_aload_n hx hb dX12_fills_40 rfl (lv_at hl 0 rfl) ?_
  refine gt_X12_51 hC hP wf_X12_303 dX12_fills_41 ?_
  refine lv_icmp_ge (tgt := 138) hx hb dX12_fills_44 (by decide) (fun hc => ?_) (fun hc => ?_)
  · replace h := (br h).1 hc
    exact r_retV hC hP hS h dX12_fills_138
  · replace h := (br h).2 hc
    refine lv_iconst (v := (-1)) hx hb dX12_fills_47 (by decide) ?_
    refine lv_istore (lv' := [(5, .int ((-1))), (0, .ref (al 7 0)), (1, .int x1), (2, .int x2), (3, .int x3), (4, .int x4)]) hx hb dX12_fills_48 hl (by decide) rfl (fun ls hl => ?_)
    refine lv_iconst (v := (-1)) hx hb dX12_fills_50 (by decide) ?_
    refine lv_istore (lv' := [(6, .int ((-1))), (5, .int ((-1))), (0, .ref (al 7 0)), (1, .int x1), (2, .int x2), (3, .int x3), (4, .int x4)]) hx hb dX12_fills_51 hl (by decide) rfl (fun ls hl => ?_)
    refine lv_iconst (v := 0) hx hb dX12_fills_53 (by decide) ?_
    refine lv_istore (lv' := [(7, .int 0), (6, .int ((-1))), (5, .int ((-1))), (0, .ref (al 7 0)), (1, .int x1), (2, .int x2), (3, .int x3), (4, .int x4)]) hx hb dX12_fills_54 hl (by decide) rfl (fun ls hl => ?_)
    exact wM_fills_56  hC k38 hk38 FU σ x1 x2 x3 x4 ((-1)) ((-1)) 0 H locs ls h hP hS (lv_sub hl [3, 4, 5, 6, 7, 2, 1, 0] rfl)

set_option maxHeartbeats 4000000 in
set_option maxRecDepth 20000 in
theorem wM_fills_38 {p : Program} {l : Launch} {e : Env} {s : State} {m : MethodId} {args : Array Value} {below : List Frame} {meth : Method} {c : Code} {x : Wx} {al : Nat → Nat → Nat} {lv : Nat → Bool} {res : Sg} (hC : Cx x p s m args meth c cX12_fills 8 none RX12) (n : Nat) (σ : Sg) (x1 : Int32) (x2 : Int32) (x3 : Int32) (x4 : Int32) (H : Heap) (locs : List Loc) (ls : Array Slot) (h : fM_fills_38 n σ x1 x2 x3 x4 = some res) (hP : Pic x al lv σ H) (hS : va_S (Ab x) s.heap H locs) (hl : lv_has ls 8 [(0, .ref (al 7 0)), (1, .int x1), (2, .int x2), (3, .int x3), (4, .int x4)]) : W p l e (rmm 3 0 0) s m args below meth c H locs 0 0 (MQ below (QV x al lv res) args s 0 0 (Ab x)) (F0 m 38 ls []) := by
  induction n generalizing σ x1 x2 x3 x4 H locs ls with
  | zero => exact nomatch h
  | succ n ih => exact wM_fills_38_b  hC  _ (fun σ x1 x2 x3 x4 H locs ls h hP hS hl => ih σ x1 x2 x3 x4 H locs ls h hP hS hl) σ x1 x2 x3 x4 H locs ls h hP hS hl
set_option maxHeartbeats 4000000 in
set_option maxRecDepth 20000 in
theorem wM_fills_15_b {p : Program} {l : Launch} {e : Env} {s : State} {m : MethodId} {args : Array Value} {below : List Frame} {meth : Method} {c : Code} {x : Wx} {al : Nat → Nat → Nat} {lv : Nat → Bool} {res : Sg} (hC : Cx x p s m args meth c cX12_fills 8 none RX12) (k15 : Sg → Int32 → Int32 → Int32 → Int32 → Option (Sg)) (hk15 : ∀ (σ : Sg) (x1 : Int32) (x2 : Int32) (x3 : Int32) (x4 : Int32) (H : Heap) (locs : List Loc) (ls : Array Slot), k15 σ x1 x2 x3 x4 = some res → Pic x al lv σ H → va_S (Ab x) s.heap H locs → lv_has ls 8 [(0, .ref (al 7 0)), (1, .int x1), (2, .int x2), (3, .int x3), (4, .int x4)] → W p l e (rmm 3 0 0) s m args below meth c H locs 0 0 (MQ below (QV x al lv res) args s 0 0 (Ab x)) (F0 m 15 ls [])) (σ : Sg) (x1 : Int32) (x2 : Int32) (x3 : Int32) (x4 : Int32) (H : Heap) (locs : List Loc) (ls : Array Slot) (h : fM_fills_15_b k15 σ x1 x2 x3 x4 = some res) (hP : Pic x al lv σ H) (hS : va_S (Ab x) s.heap H locs) (hl : lv_has ls 8 [(0, .ref (al 7 0)), (1, .int x1), (2, .int x2), (3, .int x3), (4, .int x4)]) : W p l e (rmm 3 0 0) s m args below meth c H locs 0 0 (MQ below (QV x al lv res) args s 0 0 (Ab x)) (F0 m 15 ls []) := by
  obtain ⟨hx, hb, hml, hown, hts⟩ := hC.1
  unfold fM_fills_15_b at h
  refine lv_iload hx hb dX12_fills_15 (lv_at hl 4 rfl) ?_
  refine lv_iload_n hx hb dX12_fills_17 rfl (lv_at hl 2 rfl) ?_
  refine lv_icmp_ge (tgt := 35) hx hb dX12_fills_18 (by decide) (fun hc => ?_) (fun hc => ?_)
  · replace h := (br h).1 hc
    refine lv_iconst (v := 0) hx hb dX12_fills_35 (by decide) ?_
    refine lv_istore (lv' := [(4, .int 0), (0, .ref (al 7 0)), (1, .int x1), (2, .int x2), (3, .int x3)]) hx hb dX12_fills_36 hl (by decide) rfl (fun ls hl => ?_)
    exact wM_fills_38  hC  FU σ x1 x2 x3 0 H locs ls h hP hS (lv_sub hl [1, 2, 3, 4, 0] rfl)
  · replace h := (br h).2 hc
    refine lv_aload_n hx hb dX12_fills_21 rfl (lv_at hl 0 rfl) ?_
    refine gt_X12_52 hC hP wf_X12_133 dX12_fills_22 ?_
    refine lv_iload hx hb dX12_fills_25 (lv_at hl 4 rfl) ?_
    refine lv_iconst (v := 0) hx hb dX12_fills_27 (by decide) ?_
    refine r_zast hC hP hS (aM_52 hP.l7) h dX12_fills_28 (fun σ3 H locs h hP hS => ?_)
    refine r_iinc (v := 1) hC h dX12_fills_29 hl (k := 4) rfl rfl (by decide) (fun y4 => [(4, .int y4), (0, .ref (al 7 0)), (1, .int x1), (2, .int x2), (3, .int x3)]) (fun _ => rfl) (fun y4 ls h hl => ?_)
    refine lv_goto (tgt := 15) hx hb dX12_fills_32 (by decide) ?_
    exact hk15 σ3 x1 x2 x3 y4 H locs ls h hP hS (lv_sub hl [1, 2, 3, 4, 0] rfl)

set_option maxHeartbeats 4000000 in
set_option maxRecDepth 20000 in
theorem wM_fills_15 {p : Program} {l : Launch} {e : Env} {s : State} {m : MethodId} {args : Array Value} {below : List Frame} {meth : Method} {c : Code} {x : Wx} {al : Nat → Nat → Nat} {lv : Nat → Bool} {res : Sg} (hC : Cx x p s m args meth c cX12_fills 8 none RX12) (n : Nat) (σ : Sg) (x1 : Int32) (x2 : Int32) (x3 : Int32) (x4 : Int32) (H : Heap) (locs : List Loc) (ls : Array Slot) (h : fM_fills_15 n σ x1 x2 x3 x4 = some res) (hP : Pic x al lv σ H) (hS : va_S (Ab x) s.heap H locs) (hl : lv_has ls 8 [(0, .ref (al 7 0)), (1, .int x1), (2, .int x2), (3, .int x3), (4, .int x4)]) : W p l e (rmm 3 0 0) s m args below meth c H locs 0 0 (MQ below (QV x al lv res) args s 0 0 (Ab x)) (F0 m 15 ls []) := by
  induction n generalizing σ x1 x2 x3 x4 H locs ls with
  | zero => exact nomatch h
  | succ n ih => exact wM_fills_15_b  hC  _ (fun σ x1 x2 x3 x4 H locs ls h hP hS hl => ih σ x1 x2 x3 x4 H locs ls h hP hS hl) σ x1 x2 x3 x4 H locs ls h hP hS hl
set_option maxHeartbeats 4000000 in
set_option maxRecDepth 20000 in
theorem wM_fills_0 {p : Program} {l : Launch} {e : Env} {s : State} {m : MethodId} {args : Array Value} {below : List Frame} {meth : Method} {c : Code} {x : Wx} {al : Nat → Nat → Nat} {lv : Nat → Bool} {res : Sg} (hC : Cx x p s m args meth c cX12_fills 8 none RX12) (σ : Sg) (v1 : Int32) (H : Heap) (locs : List Loc) (ls : Array Slot) (h : fM_fills_0 σ v1 = some res) (hP : Pic x al lv σ H) (hS : va_S (Ab x) s.heap H locs) (hl : lv_has ls 8 [(0, .ref (al 7 0)), (1, .int v1)]) : W p l e (rmm 3 0 0) s m args below meth c H locs 0 0 (MQ below (QV x al lv res) args s 0 0 (Ab x)) (F0 m 0 ls []) := by
  obtain ⟨hx, hb, hml, hown, hts⟩ := hC.1
  unfold fM_fills_0 at h
  refine lv_aload_n hx hb dX12_fills_0 rfl (lv_at hl 0 rfl) ?_
  refine lv_iload_n hx hb dX12_fills_1 rfl (lv_at hl 1 rfl) ?_
  refine r_cP hS h (fun r hr => r_runV (As := [.int v1]) (rest := []) hC kV_X12_160 cw_X12_places (rc_X12 hC hP) hP (tM_places x al lv σ v1 r hr) rfl hl.1 ⟨Nat.le_of_ble_eq_true rfl, Nat.le_of_ble_eq_true rfl⟩ ⟨Nat.le_of_ble_eq_true rfl, Nat.le_of_ble_eq_true rfl⟩ (Nat.le_of_ble_eq_true rfl) dX12_fills_2) (fun y1 H locs h hP hS => ?_)
  refine lv_istore_n (lv' := [(2, .int y1), (0, .ref (al 7 0)), (1, .int v1)]) hx hb dX12_fills_5 rfl hl (by decide) rfl (fun ls hl => ?_)
  refine lv_aload_n hx hb dX12_fills_6 rfl (lv_at hl 1 rfl) ?_
  refine lv_iload_n hx hb dX12_fills_7 rfl (lv_at hl 2 rfl) ?_
  refine r_cP hS h (fun r hr => r_runV (As := [.int v1]) (rest := []) hC kV_X12_167 cw_X12_floor (rc_X12 hC hP) hP (tM_floor x al lv σ v1 r hr) rfl hl.1 ⟨Nat.le_of_ble_eq_true rfl, Nat.le_of_ble_eq_true rfl⟩ ⟨Nat.le_of_ble_eq_true rfl, Nat.le_of_ble_eq_true rfl⟩ (Nat.le_of_ble_eq_true rfl) dX12_fills_8) (fun y2 H locs h hP hS => ?_)
  refine lv_istore_n (lv' := [(3, .int y2), (2, .int y1), (0, .ref (al 7 0)), (1, .int v1)]) hx hb dX12_fills_11 rfl hl (by decide) rfl (fun ls hl => ?_)
  refine lv_iconst (v := 0) hx hb dX12_fills_12 (by decide) ?_
  refine lv_istore (lv' := [(4, .int 0), (3, .int y2), (2, .int y1), (0, .ref (al 7 0)), (1, .int v1)]) hx hb dX12_fills_13 hl (by decide) rfl (fun ls hl => ?_)
  exact wM_fills_15  hC  FU σ v1 y1 y2 0 H locs ls h hP hS (lv_sub hl [3, 4, 2, 1, 0] rfl)

set_option maxRecDepth 20000 in
theorem tM_fills {l : Launch} (x : Wx) (al : Nat → Nat → Nat) (lv : Nat → Bool) (σ : Sg) (v1 : Int32) (res : Sg) (h : fM_fills σ v1 = some res) : Met l yX12_fills (Cond.code yX12_fills cX12_fills 8 none :: lwg) (rmm 3 0 0) (va_Pc [.ref (al 7 0), .int v1] (Wd x al lv σ)) (QV x al lv res) 0 0 (Ab x) := by
  refine met_W (by decide) (Nat.le_of_ble_eq_true rfl) rfl (fun p e s m args below meth c ls hC hP hS hl => ?_)
  exact wM_fills_0  hC σ v1 _ _ ls h hP hS hl
set_option maxHeartbeats 4000000 in
set_option maxRecDepth 20000 in
theorem wM_pack_44 {p : Program} {l : Launch} {e : Env} {s : State} {m : MethodId} {args : Array Value} {below : List Frame} {meth : Method} {c : Code} {x : Wx} {al : Nat → Nat → Nat} {lv : Nat → Bool} {res : Int32 × Sg} (hC : Cx x p s m args meth c cX12_pack 4 (some .int) RX12) (σ : Sg) (H : Heap) (locs : List Loc) (ls : Array Slot) (h : fM_pack_44 σ = some res) (hP : Pic x al lv σ H) (hS : va_S (Ab x) s.heap H locs) (hl : lv_has ls 4 [(0, .ref (al 7 0))]) : W p l e (rmm 6 0 0) s m args below meth c H locs 0 0 (MQ below (QI x al lv res) args s 0 0 (Ab x)) (F0 m 44 ls []) := by
  obtain ⟨hx, hb, hml, hown, hts⟩ := hC.1
  unfold fM_pack_44 at h
  refine lv_aload_n hx hb dX12_pack_44 rfl (lv_at hl 0 rfl) ?_
  refine lv_bipush (v := (-6)) hx hb dX12_pack_45 (by decide) ?_
  refine r_cI hS h (fun r hr => r_runV (As := [.int ((-6))]) (rest := []) hC kV_X12_151 cw_X12_ends (rc_X12 hC hP) hP (tM_ends x al lv σ ((-6)) r hr) rfl hl.1 ⟨Nat.le_of_ble_eq_true rfl, Nat.le_of_ble_eq_true rfl⟩ ⟨Nat.le_of_ble_eq_true rfl, Nat.le_of_ble_eq_true rfl⟩ (Nat.le_of_ble_eq_true rfl) dX12_pack_47) (fun y19 σ20 H locs h hP hS => ?_)
  exact r_retI hC hP hS rfl h dX12_pack_50

set_option maxHeartbeats 4000000 in
set_option maxRecDepth 20000 in
theorem wM_pack_165 {p : Program} {l : Launch} {e : Env} {s : State} {m : MethodId} {args : Array Value} {below : List Frame} {meth : Method} {c : Code} {x : Wx} {al : Nat → Nat → Nat} {lv : Nat → Bool} {res : Int32 × Sg} (hC : Cx x p s m args meth c cX12_pack 4 (some .int) RX12) (k122 : Sg → Int32 → Int32 → Int32 → Option (Int32 × Sg)) (hk122 : ∀ (σ : Sg) (x1 : Int32) (x2 : Int32) (x3 : Int32) (H : Heap) (locs : List Loc) (ls : Array Slot), k122 σ x1 x2 x3 = some res → Pic x al lv σ H → va_S (Ab x) s.heap H locs → lv_has ls 4 [(0, .ref (al 7 0)), (1, .int x1), (2, .int x2), (3, .int x3)] → W p l e (rmm 6 0 0) s m args below meth c H locs 0 0 (MQ below (QI x al lv res) args s 0 0 (Ab x)) (F0 m 122 ls [])) (σ : Sg) (x1 : Int32) (x2 : Int32) (x3 : Int32) (H : Heap) (locs : List Loc) (ls : Array Slot) (h : fM_pack_165 k122 σ x1 x2 x3 = some res) (hP : Pic x al lv σ H) (hS : va_S (Ab x) s.heap H locs) (hl : lv_has ls 4 [(0, .ref (al 7 0)), (1, .int x1), (2, .int x2), (3, .int x3)]) : W p l e (rmm 6 0 0) s m args below meth c H locs 0 0 (MQ below (QI x al lv res) args s 0 0 (Ab x)) (F0 m 165 ls []) := by
  obtain ⟨hx, hb, hml, hown, hts⟩ := hC.1
  unfold fM_pack_165 at h
  refine r_iinc (v := 1) hC h dX12_pack_165 hl (k := 3) rfl rfl (by decide) (fun y17 => [(3, .int y17), (0, .ref (al 7 0)), (1, .int x1), (2, .int x2)]) (fun _ => rfl) (fun y17 ls h hl => ?_)
  refine lv_goto (tgt := 122) hx hb dX12_pack_168 (by decide) ?_
  exact hk122 σ x1 x2 y17 H locs ls h hP hS (lv_sub hl [1, 2, 3, 0] rfl)

set_option maxHeartbeats 4000000 in
set_option maxRecDepth 20000 in
theorem wM_pack_122_b {p : Program} {l : Launch} {e : Env} {s : State} {m : MethodId} {args : Array Value} {below : List Frame} {meth : Method} {c : Code} {x : Wx} {al : Nat → Nat → Nat} {lv : Nat → Bool} {res : Int32 × Sg} (hC : Cx x p s m args meth c cX12_pack 4 (some .int) RX12) (k122 : Sg → Int32 → Int32 → Int32 → Option (Int32 × Sg)) (hk122 : ∀ (σ : Sg) (x1 : Int32) (x2 : Int32) (x3 : Int32) (H : Heap) (locs : List Loc) (ls : Array Slot), k122 σ x1 x2 x3 = some res → Pic x al lv σ H → va_S (Ab x) s.heap H locs → lv_has ls 4 [(0, .ref (al 7 0)), (1, .int x1), (2, .int x2), (3, .int x3)] → W p l e (rmm 6 0 0) s m args below meth c H locs 0 0 (MQ below (QI x al lv res) args s 0 0 (Ab x)) (F0 m 122 ls [])) (σ : Sg) (x1 : Int32) (x2 : Int32) (x3 : Int32) (H : Heap) (locs : List Loc) (ls : Array Slot) (h : fM_pack_122_b k122 σ x1 x2 x3 = some res) (hP : Pic x al lv σ H) (hS : va_S (Ab x) s.heap H locs) (hl : lv_has ls 4 [(0, .ref (al 7 0)), (1, .int x1), (2, .int x2), (3, .int x3)]) : W p l e (rmm 6 0 0) s m args below meth c H locs 0 0 (MQ below (QI x al lv res) args s 0 0 (Ab x)) (F0 m 122 ls []) := by
  obtain ⟨hx, hb, hml, hown, hts⟩ := hC.1
  unfold fM_pack_122_b at h
  refine lv_iload_n hx hb dX12_pack_122 rfl (lv_at hl 3 rfl) ?_
  refine lv_aload_n hx hb dX12_pack_123 rfl (lv_at hl 0 rfl) ?_
  refine lv_iload_n hx hb dX12_pack_124 rfl (lv_at hl 1 rfl) ?_
  refine r_cP hS h (fun r hr => r_runV (As := [.int x1]) (rest := [.int x3]) hC kV_X12_160 cw_X12_places (rc_X12 hC hP) hP (tM_places x al lv σ x1 r hr) rfl hl.1 ⟨Nat.le_of_ble_eq_true rfl, Nat.le_of_ble_eq_true rfl⟩ ⟨Nat.le_of_ble_eq_true rfl, Nat.le_of_ble_eq_true rfl⟩ (Nat.le_of_ble_eq_true rfl) dX12_pack_125) (fun y9 H locs h hP hS => ?_)
  refine lv_icmp_ge (tgt := 171) hx hb dX12_pack_128 (by decide) (fun hc => ?_) (fun hc => ?_)
  · replace h := (br h).1 hc
    refine lv_aload_n hx hb dX12_pack_171 rfl (lv_at hl 0 rfl) ?_
    refine lv_iconst (v := 0) hx hb dX12_pack_172 (by decide) ?_
    refine pt_X12_51 hC hP hS wf_X12_303 h dX12_pack_173 (fun σ10 H locs h hP hS => ?_)
    refine lv_aload_n hx hb dX12_pack_176 rfl (lv_at hl 0 rfl) ?_
    refine lv_aload_n hx hb dX12_pack_177 rfl (lv_at hl 0 rfl) ?_
    refine lv_iload_n hx hb dX12_pack_178 rfl (lv_at hl 1 rfl) ?_
    refine lv_bipush (v := 10) hx hb dX12_pack_179 (by decide) ?_
    refine r_cP hS h (fun r hr => r_runV (As := [.int x1, .int 10]) (rest := [.ref (al 7 0)]) hC kV_X12_318 cw_X12_rooms (rc_X12 hC hP) hP (tM_rooms x al lv σ10 x1 10 r hr) rfl hl.1 ⟨Nat.le_of_ble_eq_true rfl, Nat.le_of_ble_eq_true rfl⟩ ⟨Nat.le_of_ble_eq_true rfl, Nat.le_of_ble_eq_true rfl⟩ (Nat.le_of_ble_eq_true rfl) dX12_pack_181) (fun y11 H locs h hP hS => ?_)
    refine r_cI hS h (fun r hr => r_runV (As := [.int y11]) (rest := []) hC kV_X12_151 cw_X12_ends (rc_X12 hC hP) hP (tM_ends x al lv σ10 y11 r hr) rfl hl.1 ⟨Nat.le_of_ble_eq_true rfl, Nat.le_of_ble_eq_true rfl⟩ ⟨Nat.le_of_ble_eq_true rfl, Nat.le_of_ble_eq_true rfl⟩ (Nat.le_of_ble_eq_true rfl) dX12_pack_184) (fun y12 σ13 H locs h hP hS => ?_)
    exact r_retI hC hP hS rfl h dX12_pack_187
  · replace h := (br h).2 hc
    refine lv_aload_n hx hb dX12_pack_131 rfl (lv_at hl 0 rfl) ?_
    refine gt_X12_52 hC hP wf_X12_133 dX12_pack_132 ?_
    refine lv_iload_n hx hb dX12_pack_135 rfl (lv_at hl 3 rfl) ?_
    refine r_zald hC hP (aM_52 hP.l7) h dX12_pack_136 (fun h => ?_)
    refine lv_if_ne (tgt := 143) hx hb dX12_pack_137 (by decide) (fun hc => ?_) (fun hc => ?_)
    · replace h := (br h).2 hc
      refine lv_aload_n hx hb dX12_pack_143 rfl (lv_at hl 0 rfl) ?_
      refine lv_iload_n hx hb dX12_pack_144 rfl (lv_at hl 1 rfl) ?_
      refine lv_iload_n hx hb dX12_pack_145 rfl (lv_at hl 3 rfl) ?_
      refine lv_aload_n hx hb dX12_pack_146 rfl (lv_at hl 0 rfl) ?_
      refine gt_X12_49 hC hP wf_X12_127 dX12_pack_147 ?_
      refine lv_iload_n hx hb dX12_pack_150 rfl (lv_at hl 2 rfl) ?_
      refine r_iald hC hP (aM_49 hP.l7) h dX12_pack_151 (fun h => ?_)
      refine lv_aload_n hx hb dX12_pack_152 rfl (lv_at hl 0 rfl) ?_
      refine gt_X12_50 hC hP wf_X12_130 dX12_pack_153 ?_
      refine lv_iload_n hx hb dX12_pack_156 rfl (lv_at hl 2 rfl) ?_
      refine r_iald hC hP (aM_50 hP.l7) h dX12_pack_157 (fun h => ?_)
      refine r_cI hS h (fun r hr => r_runV (As := [.int x1, .int x3, .int (σ 7 49 x2.toNatClampNeg), .int (σ 7 50 x2.toNatClampNeg)]) (rest := []) hC kV_X12_221 cw_X12_cuts (rc_X12 hC hP) hP (tM_cuts x al lv σ x1 x3 (σ 7 49 x2.toNatClampNeg) (σ 7 50 x2.toNatClampNeg) r hr) rfl hl.1 ⟨Nat.le_of_ble_eq_true rfl, Nat.le_of_ble_eq_true rfl⟩ ⟨Nat.le_of_ble_eq_true rfl, Nat.le_of_ble_eq_true rfl⟩ (Nat.le_of_ble_eq_true rfl) dX12_pack_158) (fun y14 σ15 H locs h hP hS => ?_)
      refine lv_pop hx hb dX12_pack_161 rfl ?_
      refine r_iinc (v := 1) hC h dX12_pack_162 hl (k := 2) rfl rfl (by decide) (fun y16 => [(2, .int y16), (0, .ref (al 7 0)), (1, .int x1), (3, .int x3)]) (fun _ => rfl) (fun y16 ls h hl => ?_)
      exact wM_pack_165  hC k122 hk122 σ15 x1 y16 x3 H locs ls h hP hS (lv_sub hl [1, 2, 0, 3] rfl)
    · replace h := (br h).1 hc
      refine lv_goto (tgt := 165) hx hb dX12_pack_140 (by decide) ?_
      exact wM_pack_165  hC k122 hk122 σ x1 x2 x3 H locs ls h hP hS (lv_sub hl [0, 1, 2, 3] rfl)

set_option maxHeartbeats 4000000 in
set_option maxRecDepth 20000 in
theorem wM_pack_122 {p : Program} {l : Launch} {e : Env} {s : State} {m : MethodId} {args : Array Value} {below : List Frame} {meth : Method} {c : Code} {x : Wx} {al : Nat → Nat → Nat} {lv : Nat → Bool} {res : Int32 × Sg} (hC : Cx x p s m args meth c cX12_pack 4 (some .int) RX12) (n : Nat) (σ : Sg) (x1 : Int32) (x2 : Int32) (x3 : Int32) (H : Heap) (locs : List Loc) (ls : Array Slot) (h : fM_pack_122 n σ x1 x2 x3 = some res) (hP : Pic x al lv σ H) (hS : va_S (Ab x) s.heap H locs) (hl : lv_has ls 4 [(0, .ref (al 7 0)), (1, .int x1), (2, .int x2), (3, .int x3)]) : W p l e (rmm 6 0 0) s m args below meth c H locs 0 0 (MQ below (QI x al lv res) args s 0 0 (Ab x)) (F0 m 122 ls []) := by
  induction n generalizing σ x1 x2 x3 H locs ls with
  | zero => exact nomatch h
  | succ n ih => exact wM_pack_122_b  hC  _ (fun σ x1 x2 x3 H locs ls h hP hS hl => ih σ x1 x2 x3 H locs ls h hP hS hl) σ x1 x2 x3 H locs ls h hP hS hl
set_option maxHeartbeats 4000000 in
set_option maxRecDepth 20000 in
theorem wM_pack_118 {p : Program} {l : Launch} {e : Env} {s : State} {m : MethodId} {args : Array Value} {below : List Frame} {meth : Method} {c : Code} {x : Wx} {al : Nat → Nat → Nat} {lv : Nat → Bool} {res : Int32 × Sg} (hC : Cx x p s m args meth c cX12_pack 4 (some .int) RX12) (σ : Sg) (x1 : Int32) (H : Heap) (locs : List Loc) (ls : Array Slot) (h : fM_pack_118 σ x1 = some res) (hP : Pic x al lv σ H) (hS : va_S (Ab x) s.heap H locs) (hl : lv_has ls 4 [(0, .ref (al 7 0)), (1, .int x1)]) : W p l e (rmm 6 0 0) s m args below meth c H locs 0 0 (MQ below (QI x al lv res) args s 0 0 (Ab x)) (F0 m 118 ls []) := by
  obtain ⟨hx, hb, hml, hown, hts⟩ := hC.1
  unfold fM_pack_118 at h
  refine lv_iconst (v := 0) hx hb dX12_pack_118 (by decide) ?_
  refine lv_istore_n (lv' := [(2, .int 0), (0, .ref (al 7 0)), (1, .int x1)]) hx hb dX12_pack_119 rfl hl (by decide) rfl (fun ls hl => ?_)
  refine lv_iconst (v := 0) hx hb dX12_pack_120 (by decide) ?_
  refine lv_istore_n (lv' := [(3, .int 0), (2, .int 0), (0, .ref (al 7 0)), (1, .int x1)]) hx hb dX12_pack_121 rfl hl (by decide) rfl (fun ls hl => ?_)
  exact wM_pack_122  hC  FU σ x1 0 0 H locs ls h hP hS (lv_sub hl [2, 3, 1, 0] rfl)

set_option maxHeartbeats 4000000 in
set_option maxRecDepth 20000 in
theorem wM_pack_113 {p : Program} {l : Launch} {e : Env} {s : State} {m : MethodId} {args : Array Value} {below : List Frame} {meth : Method} {c : Code} {x : Wx} {al : Nat → Nat → Nat} {lv : Nat → Bool} {res : Int32 × Sg} (hC : Cx x p s m args meth c cX12_pack 4 (some .int) RX12) (σ : Sg) (x1 : Int32) (H : Heap) (locs : List Loc) (ls : Array Slot) (h : fM_pack_113 σ x1 = some res) (hP : Pic x al lv σ H) (hS : va_S (Ab x) s.heap H locs) (hl : lv_has ls 4 [(0, .ref (al 7 0)), (1, .int x1)]) : W p l e (rmm 6 0 0) s m args below meth c H locs 0 0 (MQ below (QI x al lv res) args s 0 0 (Ab x)) (F0 m 113 ls []) := by
  obtain ⟨hx, hb, hml, hown, hts⟩ := hC.1
  unfold fM_pack_113 at h
  refine lv_aload_n hx hb dX12_pack_113 rfl (lv_at hl 0 rfl) ?_
  refine lv_iload_n hx hb dX12_pack_114 rfl (lv_at hl 1 rfl) ?_
  refine r_cV hS h (fun r hr => r_runV (As := [.int x1]) (rest := []) hC kV_X12_315 cw_X12_fills (rc_X12 hC hP) hP (tM_fills x al lv σ x1 r hr) rfl hl.1 ⟨Nat.le_of_ble_eq_true rfl, Nat.le_of_ble_eq_true rfl⟩ ⟨Nat.le_of_ble_eq_true rfl, Nat.le_of_ble_eq_true rfl⟩ (Nat.le_of_ble_eq_true rfl) dX12_pack_115) (fun σ18 H locs h hP hS => ?_)
  exact wM_pack_118  hC  σ18 x1 H locs ls h hP hS (lv_sub hl [0, 1] rfl)

set_option maxHeartbeats 4000000 in
set_option maxRecDepth 20000 in
theorem wM_pack_0 {p : Program} {l : Launch} {e : Env} {s : State} {m : MethodId} {args : Array Value} {below : List Frame} {meth : Method} {c : Code} {x : Wx} {al : Nat → Nat → Nat} {lv : Nat → Bool} {res : Int32 × Sg} (hC : Cx x p s m args meth c cX12_pack 4 (some .int) RX12) (σ : Sg) (v1 : Int32) (H : Heap) (locs : List Loc) (ls : Array Slot) (h : fM_pack_0 σ v1 = some res) (hP : Pic x al lv σ H) (hS : va_S (Ab x) s.heap H locs) (hl : lv_has ls 4 [(0, .ref (al 7 0)), (1, .int v1)]) : W p l e (rmm 6 0 0) s m args below meth c H locs 0 0 (MQ below (QI x al lv res) args s 0 0 (Ab x)) (F0 m 0 ls []) := by
  obtain ⟨hx, hb, hml, hown, hts⟩ := hC.1
  unfold fM_pack_0 at h
  refine lv_aload_n hx hb dX12_pack_0 rfl (lv_at hl 0 rfl) ?_
  refine lv_iload_n hx hb dX12_pack_1 rfl (lv_at hl 1 rfl) ?_
  refine r_cP hS h (fun r hr => r_runV (As := [.int v1]) (rest := []) hC kV_X12_180 cw_X12_isRoom (rc_X12 hC hP) hP (tM_isRoom x al lv σ v1 r hr) rfl hl.1 ⟨Nat.le_of_ble_eq_true rfl, Nat.le_of_ble_eq_true rfl⟩ ⟨Nat.le_of_ble_eq_true rfl, Nat.le_of_ble_eq_true rfl⟩ (Nat.le_of_ble_eq_true rfl) dX12_pack_2) (fun y1 H locs h hP hS => ?_)
  refine lv_if_ne (tgt := 15) hx hb dX12_pack_5 (by decide) (fun hc => ?_) (fun hc => ?_)
  · replace h := (br h).2 hc
    refine lv_aload_n hx hb dX12_pack_15 rfl (lv_at hl 0 rfl) ?_
    refine gt_X12_51 hC hP wf_X12_303 dX12_pack_16 ?_
    refine lv_aload_n hx hb dX12_pack_19 rfl (lv_at hl 0 rfl) ?_
    refine lv_iload_n hx hb dX12_pack_20 rfl (lv_at hl 1 rfl) ?_
    refine r_cP hS h (fun r hr => r_runV (As := [.int v1]) (rest := [.int (σ 7 0 51)]) hC kV_X12_160 cw_X12_places (rc_X12 hC hP) hP (tM_places x al lv σ v1 r hr) rfl hl.1 ⟨Nat.le_of_ble_eq_true rfl, Nat.le_of_ble_eq_true rfl⟩ ⟨Nat.le_of_ble_eq_true rfl, Nat.le_of_ble_eq_true rfl⟩ (Nat.le_of_ble_eq_true rfl) dX12_pack_21) (fun y2 H locs h hP hS => ?_)
    refine lv_icmp_gt (tgt := 44) hx hb dX12_pack_24 (by decide) (fun hc => ?_) (fun hc => ?_)
    · replace h := (br h).1 hc
      exact wM_pack_44  hC  σ H locs ls h hP hS (lv_sub hl [0] rfl)
    · replace h := (br h).2 hc
      refine lv_aload_n hx hb dX12_pack_27 rfl (lv_at hl 0 rfl) ?_
      refine gt_X12_8 hC hP wf_X12_34 dX12_pack_28 ?_
      refine lv_iconst (v := 0) hx hb dX12_pack_31 (by decide) ?_
      refine r_iald hC hP (aM_8 hP.l7) h dX12_pack_32 (fun h => ?_)
      refine lv_aload_n hx hb dX12_pack_33 rfl (lv_at hl 0 rfl) ?_
      refine gt_X12_51 hC hP wf_X12_303 dX12_pack_34 ?_
      refine lv_iadd hx hb dX12_pack_37 ?_
      refine lv_sipush (v := 300) hx hb dX12_pack_38 (by decide) ?_
      refine lv_icmp_le (tgt := 51) hx hb dX12_pack_41 (by decide) (fun hc => ?_) (fun hc => ?_)
      · replace h := (br h).1 hc
        refine lv_aload_n hx hb dX12_pack_51 rfl (lv_at hl 0 rfl) ?_
        refine lv_iload_n hx hb dX12_pack_52 rfl (lv_at hl 1 rfl) ?_
        refine r_cP hS h (fun r hr => r_runV (As := [.int v1]) (rest := []) hC kV_X12_309 cw_X12_isReady (rc_X12 hC hP) hP (tM_isReady x al lv σ v1 r hr) rfl hl.1 ⟨Nat.le_of_ble_eq_true rfl, Nat.le_of_ble_eq_true rfl⟩ ⟨Nat.le_of_ble_eq_true rfl, Nat.le_of_ble_eq_true rfl⟩ (Nat.le_of_ble_eq_true rfl) dX12_pack_53) (fun y3 H locs h hP hS => ?_)
        refine lv_if_ne (tgt := 66) hx hb dX12_pack_56 (by decide) (fun hc => ?_) (fun hc => ?_)
        · replace h := (br h).2 hc
          refine lv_aload_n hx hb dX12_pack_66 rfl (lv_at hl 0 rfl) ?_
          refine gt_X12_51 hC hP wf_X12_303 dX12_pack_67 ?_
          refine lv_bipush (v := 8) hx hb dX12_pack_70 (by decide) ?_
          refine lv_icmp_gt (tgt := 113) hx hb dX12_pack_72 (by decide) (fun hc => ?_) (fun hc => ?_)
          · replace h := (br h).1 hc
            exact wM_pack_113  hC  σ v1 H locs ls h hP hS (lv_sub hl [0, 1] rfl)
          · replace h := (br h).2 hc
            refine lv_aload_n hx hb dX12_pack_75 rfl (lv_at hl 0 rfl) ?_
            refine gt_X12_11 hC hP wf_X12_43 dX12_pack_76 ?_
            refine lv_iload_n hx hb dX12_pack_79 rfl (lv_at hl 1 rfl) ?_
            refine r_iald hC hP (aM_11 hP.l7) h dX12_pack_80 (fun h => ?_)
            refine lv_iconst (v := 3) hx hb dX12_pack_81 (by decide) ?_
            refine lv_icmp_gt (tgt := 113) hx hb dX12_pack_82 (by decide) (fun hc => ?_) (fun hc => ?_)
            · replace h := (br h).1 hc
              exact wM_pack_113  hC  σ v1 H locs ls h hP hS (lv_sub hl [0, 1] rfl)
            · replace h := (br h).2 hc
              refine lv_aload_n hx hb dX12_pack_85 rfl (lv_at hl 0 rfl) ?_
              refine gt_X12_12 hC hP wf_X12_46 dX12_pack_86 ?_
              refine lv_iload_n hx hb dX12_pack_89 rfl (lv_at hl 1 rfl) ?_
              refine r_iald hC hP (aM_12 hP.l7) h dX12_pack_90 (fun h => ?_)
              refine lv_iconst (v := 3) hx hb dX12_pack_91 (by decide) ?_
              refine lv_icmp_gt (tgt := 113) hx hb dX12_pack_92 (by decide) (fun hc => ?_) (fun hc => ?_)
              · replace h := (br h).1 hc
                exact wM_pack_113  hC  σ v1 H locs ls h hP hS (lv_sub hl [0, 1] rfl)
              · replace h := (br h).2 hc
                refine lv_aload_n hx hb dX12_pack_95 rfl (lv_at hl 0 rfl) ?_
                refine gt_X12_13 hC hP wf_X12_49 dX12_pack_96 ?_
                refine lv_iload_n hx hb dX12_pack_99 rfl (lv_at hl 1 rfl) ?_
                refine r_iald hC hP (aM_13 hP.l7) h dX12_pack_100 (fun h => ?_)
                refine lv_iconst (v := 2) hx hb dX12_pack_101 (by decide) ?_
                refine lv_icmp_gt (tgt := 113) hx hb dX12_pack_102 (by decide) (fun hc => ?_) (fun hc => ?_)
                · replace h := (br h).1 hc
                  exact wM_pack_113  hC  σ v1 H locs ls h hP hS (lv_sub hl [0, 1] rfl)
                · replace h := (br h).2 hc
                  refine lv_aload_n hx hb dX12_pack_105 rfl (lv_at hl 0 rfl) ?_
                  refine lv_iload_n hx hb dX12_pack_106 rfl (lv_at hl 1 rfl) ?_
                  refine r_cV hS h (fun r hr => r_runV (As := [.int v1]) (rest := []) hC kV_X12_312 cw_X12_tries (rc_X12 hC hP) hP (tM_tries x al lv σ v1 r hr) rfl hl.1 ⟨Nat.le_of_ble_eq_true rfl, Nat.le_of_ble_eq_true rfl⟩ ⟨Nat.le_of_ble_eq_true rfl, Nat.le_of_ble_eq_true rfl⟩ (Nat.le_of_ble_eq_true rfl) dX12_pack_107) (fun σ4 H locs h hP hS => ?_)
                  refine lv_goto (tgt := 118) hx hb dX12_pack_110 (by decide) ?_
                  exact wM_pack_118  hC  σ4 v1 H locs ls h hP hS (lv_sub hl [0, 1] rfl)
        · replace h := (br h).1 hc
          refine lv_aload_n hx hb dX12_pack_59 rfl (lv_at hl 0 rfl) ?_
          refine lv_bipush (v := (-7)) hx hb dX12_pack_60 (by decide) ?_
          refine r_cI hS h (fun r hr => r_runV (As := [.int ((-7))]) (rest := []) hC kV_X12_151 cw_X12_ends (rc_X12 hC hP) hP (tM_ends x al lv σ ((-7)) r hr) rfl hl.1 ⟨Nat.le_of_ble_eq_true rfl, Nat.le_of_ble_eq_true rfl⟩ ⟨Nat.le_of_ble_eq_true rfl, Nat.le_of_ble_eq_true rfl⟩ (Nat.le_of_ble_eq_true rfl) dX12_pack_62) (fun y5 σ6 H locs h hP hS => ?_)
          exact r_retI hC hP hS rfl h dX12_pack_65
      · replace h := (br h).2 hc
        exact wM_pack_44  hC  σ H locs ls h hP hS (lv_sub hl [0] rfl)
  · replace h := (br h).1 hc
    refine lv_aload_n hx hb dX12_pack_8 rfl (lv_at hl 0 rfl) ?_
    refine lv_bipush (v := (-2)) hx hb dX12_pack_9 (by decide) ?_
    refine r_cI hS h (fun r hr => r_runV (As := [.int ((-2))]) (rest := []) hC kV_X12_151 cw_X12_ends (rc_X12 hC hP) hP (tM_ends x al lv σ ((-2)) r hr) rfl hl.1 ⟨Nat.le_of_ble_eq_true rfl, Nat.le_of_ble_eq_true rfl⟩ ⟨Nat.le_of_ble_eq_true rfl, Nat.le_of_ble_eq_true rfl⟩ (Nat.le_of_ble_eq_true rfl) dX12_pack_11) (fun y7 σ8 H locs h hP hS => ?_)
    exact r_retI hC hP hS rfl h dX12_pack_14

set_option maxRecDepth 20000 in
theorem tM_pack {l : Launch} (x : Wx) (al : Nat → Nat → Nat) (lv : Nat → Bool) (σ : Sg) (v1 : Int32) (res : Int32 × Sg) (h : fM_pack σ v1 = some res) : Met l yX12_pack (Cond.code yX12_pack cX12_pack 4 (some .int) :: lwg) (rmm 6 0 0) (va_Pc [.ref (al 7 0), .int v1] (Wd x al lv σ)) (QI x al lv res) 0 0 (Ab x) := by
  refine met_W (by decide) (Nat.le_of_ble_eq_true rfl) rfl (fun p e s m args below meth c ls hC hP hS hl => ?_)
  exact wM_pack_0  hC σ v1 _ _ ls h hP hS hl
set_option maxHeartbeats 4000000 in
set_option maxRecDepth 20000 in
theorem wM_days_4_b {p : Program} {l : Launch} {e : Env} {s : State} {m : MethodId} {args : Array Value} {below : List Frame} {meth : Method} {c : Code} {x : Wx} {al : Nat → Nat → Nat} {lv : Nat → Bool} {res : Int32} {σ : Sg} (hC : Cx x p s m args meth c cX12_days 3 (some .int) RX12) (k4 : Int32 → Int32 → Option (Int32)) (hk4 : ∀ (x1 : Int32) (x2 : Int32) (H : Heap) (locs : List Loc) (ls : Array Slot), k4 x1 x2 = some res → Pic x al lv σ H → va_S (Ab x) s.heap H locs → lv_has ls 3 [(0, .ref (al 7 0)), (1, .int x1), (2, .int x2)] → W p l e (rmm 1 0 0) s m args below meth c H locs 0 0 (MQ below (QP x al lv σ res) args s 0 0 (Ab x)) (F0 m 4 ls [])) (x1 : Int32) (x2 : Int32) (H : Heap) (locs : List Loc) (ls : Array Slot) (h : fM_days_4_b k4 σ x1 x2 = some res) (hP : Pic x al lv σ H) (hS : va_S (Ab x) s.heap H locs) (hl : lv_has ls 3 [(0, .ref (al 7 0)), (1, .int x1), (2, .int x2)]) : W p l e (rmm 1 0 0) s m args below meth c H locs 0 0 (MQ below (QP x al lv σ res) args s 0 0 (Ab x)) (F0 m 4 ls []) := by
  obtain ⟨hx, hb, hml, hown, hts⟩ := hC.1
  unfold fM_days_4_b at h
  refine lv_iload_n hx hb dX12_days_4 rfl (lv_at hl 2 rfl) ?_
  refine lv_aload_n hx hb dX12_days_5 rfl (lv_at hl 0 rfl) ?_
  refine gt_X12_34 hC hP wf_X12_259 dX12_days_6 ?_
  refine lv_icmp_ge (tgt := 27) hx hb dX12_days_9 (by decide) (fun hc => ?_) (fun hc => ?_)
  · replace h := (br h).1 hc
    refine lv_iload_n hx hb dX12_days_27 rfl (lv_at hl 1 rfl) ?_
    exact r_retP hC hP hS rfl h dX12_days_28
  · replace h := (br h).2 hc
    refine lv_iload_n hx hb dX12_days_12 rfl (lv_at hl 1 rfl) ?_
    refine lv_aload_n hx hb dX12_days_13 rfl (lv_at hl 0 rfl) ?_
    refine gt_X12_33 hC hP wf_X12_103 dX12_days_14 ?_
    refine lv_iload_n hx hb dX12_days_17 rfl (lv_at hl 2 rfl) ?_
    refine r_iald hC hP (aM_33 hP.l7) h dX12_days_18 (fun h => ?_)
    refine lv_iadd hx hb dX12_days_19 ?_
    refine r_lt h (fun y1 h => ?_)
    refine lv_istore_n (lv' := [(1, .int y1), (0, .ref (al 7 0)), (2, .int x2)]) hx hb dX12_days_20 rfl hl (by decide) rfl (fun ls hl => ?_)
    refine r_iinc (v := 1) hC h dX12_days_21 hl (k := 2) rfl rfl (by decide) (fun y2 => [(2, .int y2), (1, .int y1), (0, .ref (al 7 0))]) (fun _ => rfl) (fun y2 ls h hl => ?_)
    refine lv_goto (tgt := 4) hx hb dX12_days_24 (by decide) ?_
    exact hk4 y1 y2 H locs ls h hP hS (lv_sub hl [2, 1, 0] rfl)

set_option maxHeartbeats 4000000 in
set_option maxRecDepth 20000 in
theorem wM_days_4 {p : Program} {l : Launch} {e : Env} {s : State} {m : MethodId} {args : Array Value} {below : List Frame} {meth : Method} {c : Code} {x : Wx} {al : Nat → Nat → Nat} {lv : Nat → Bool} {res : Int32} {σ : Sg} (hC : Cx x p s m args meth c cX12_days 3 (some .int) RX12) (n : Nat) (x1 : Int32) (x2 : Int32) (H : Heap) (locs : List Loc) (ls : Array Slot) (h : fM_days_4 n σ x1 x2 = some res) (hP : Pic x al lv σ H) (hS : va_S (Ab x) s.heap H locs) (hl : lv_has ls 3 [(0, .ref (al 7 0)), (1, .int x1), (2, .int x2)]) : W p l e (rmm 1 0 0) s m args below meth c H locs 0 0 (MQ below (QP x al lv σ res) args s 0 0 (Ab x)) (F0 m 4 ls []) := by
  induction n generalizing x1 x2 H locs ls with
  | zero => exact nomatch h
  | succ n ih => exact wM_days_4_b  hC  _ (fun x1 x2 H locs ls h hP hS hl => ih x1 x2 H locs ls h hP hS hl) x1 x2 H locs ls h hP hS hl
set_option maxHeartbeats 4000000 in
set_option maxRecDepth 20000 in
theorem wM_days_0 {p : Program} {l : Launch} {e : Env} {s : State} {m : MethodId} {args : Array Value} {below : List Frame} {meth : Method} {c : Code} {x : Wx} {al : Nat → Nat → Nat} {lv : Nat → Bool} {res : Int32} {σ : Sg} (hC : Cx x p s m args meth c cX12_days 3 (some .int) RX12) (H : Heap) (locs : List Loc) (ls : Array Slot) (h : fM_days_0 σ = some res) (hP : Pic x al lv σ H) (hS : va_S (Ab x) s.heap H locs) (hl : lv_has ls 3 [(0, .ref (al 7 0))]) : W p l e (rmm 1 0 0) s m args below meth c H locs 0 0 (MQ below (QP x al lv σ res) args s 0 0 (Ab x)) (F0 m 0 ls []) := by
  obtain ⟨hx, hb, hml, hown, hts⟩ := hC.1
  unfold fM_days_0 at h
  refine lv_iconst (v := 0) hx hb dX12_days_0 (by decide) ?_
  refine lv_istore_n (lv' := [(1, .int 0), (0, .ref (al 7 0))]) hx hb dX12_days_1 rfl hl (by decide) rfl (fun ls hl => ?_)
  refine lv_iconst (v := 0) hx hb dX12_days_2 (by decide) ?_
  refine lv_istore_n (lv' := [(2, .int 0), (1, .int 0), (0, .ref (al 7 0))]) hx hb dX12_days_3 rfl hl (by decide) rfl (fun ls hl => ?_)
  exact wM_days_4  hC  FU 0 0 H locs ls h hP hS (lv_sub hl [2, 1, 0] rfl)

set_option maxRecDepth 20000 in
theorem tM_days {l : Launch} (x : Wx) (al : Nat → Nat → Nat) (lv : Nat → Bool) (σ : Sg) (res : Int32) (h : fM_days σ = some res) : Met l yX12_days (Cond.code yX12_days cX12_days 3 (some .int) :: lwg) (rmm 1 0 0) (va_Pc [.ref (al 7 0)] (Wd x al lv σ)) (QP x al lv σ res) 0 0 (Ab x) := by
  refine met_W (by decide) (Nat.le_of_ble_eq_true rfl) rfl (fun p e s m args below meth c ls hC hP hS hl => ?_)
  exact wM_days_0  hC  _ _ ls h hP hS hl
set_option maxHeartbeats 4000000 in
set_option maxRecDepth 20000 in
theorem wM_all_4_b {p : Program} {l : Launch} {e : Env} {s : State} {m : MethodId} {args : Array Value} {below : List Frame} {meth : Method} {c : Code} {x : Wx} {al : Nat → Nat → Nat} {lv : Nat → Bool} {res : Int32} {σ : Sg} {as0 ak0 an0 : Nat} (hA0 : AI x al lv as0 ak0 an0) (hC : Cx x p s m args meth c cX12_all 4 (some .int) RX12) (k4 : Int32 → Int32 → Option (Int32)) (hk4 : ∀ (x2 : Int32) (x3 : Int32) (H : Heap) (locs : List Loc) (ls : Array Slot), k4 x2 x3 = some res → Pic x al lv σ H → va_S (Ab x) s.heap H locs → lv_has ls 4 [(0, .ref (al 7 0)), (1, .ref (al as0 ak0)), (2, .int x2), (3, .int x3)] → W p l e (rmm 1 0 0) s m args below meth c H locs 0 0 (MQ below (QP x al lv σ res) args s 0 0 (Ab x)) (F0 m 4 ls [])) (x2 : Int32) (x3 : Int32) (H : Heap) (locs : List Loc) (ls : Array Slot) (h : fM_all_4_b k4 σ as0 ak0 an0 x2 x3 = some res) (hP : Pic x al lv σ H) (hS : va_S (Ab x) s.heap H locs) (hl : lv_has ls 4 [(0, .ref (al 7 0)), (1, .ref (al as0 ak0)), (2, .int x2), (3, .int x3)]) : W p l e (rmm 1 0 0) s m args below meth c H locs 0 0 (MQ below (QP x al lv σ res) args s 0 0 (Ab x)) (F0 m 4 ls []) := by
  obtain ⟨hx, hb, hml, hown, hts⟩ := hC.1
  unfold fM_all_4_b at h
  refine lv_iload_n hx hb dX12_all_4 rfl (lv_at hl 3 rfl) ?_
  refine lv_aload_n hx hb dX12_all_5 rfl (lv_at hl 0 rfl) ?_
  refine gt_X12_7 hC hP wf_X12_31 dX12_all_6 ?_
  refine lv_iconst (v := 0) hx hb dX12_all_9 (by decide) ?_
  refine r_iald hC hP (aM_7 hP.l7) h dX12_all_10 (fun h => ?_)
  refine lv_icmp_ge (tgt := 26) hx hb dX12_all_11 (by decide) (fun hc => ?_) (fun hc => ?_)
  · replace h := (br h).1 hc
    refine lv_iload_n hx hb dX12_all_26 rfl (lv_at hl 2 rfl) ?_
    exact r_retP hC hP hS rfl h dX12_all_27
  · replace h := (br h).2 hc
    refine lv_iload_n hx hb dX12_all_14 rfl (lv_at hl 2 rfl) ?_
    refine lv_aload_n hx hb dX12_all_15 rfl (lv_at hl 1 rfl) ?_
    refine lv_iload_n hx hb dX12_all_16 rfl (lv_at hl 3 rfl) ?_
    refine r_iald hC hP hA0 h dX12_all_17 (fun h => ?_)
    refine lv_iadd hx hb dX12_all_18 ?_
    refine r_lt h (fun y1 h => ?_)
    refine lv_istore_n (lv' := [(2, .int y1), (0, .ref (al 7 0)), (1, .ref (al as0 ak0)), (3, .int x3)]) hx hb dX12_all_19 rfl hl (by decide) rfl (fun ls hl => ?_)
    refine r_iinc (v := 1) hC h dX12_all_20 hl (k := 3) rfl rfl (by decide) (fun y2 => [(3, .int y2), (2, .int y1), (0, .ref (al 7 0)), (1, .ref (al as0 ak0))]) (fun _ => rfl) (fun y2 ls h hl => ?_)
    refine lv_goto (tgt := 4) hx hb dX12_all_23 (by decide) ?_
    exact hk4 y1 y2 H locs ls h hP hS (lv_sub hl [2, 3, 1, 0] rfl)

set_option maxHeartbeats 4000000 in
set_option maxRecDepth 20000 in
theorem wM_all_4 {p : Program} {l : Launch} {e : Env} {s : State} {m : MethodId} {args : Array Value} {below : List Frame} {meth : Method} {c : Code} {x : Wx} {al : Nat → Nat → Nat} {lv : Nat → Bool} {res : Int32} {σ : Sg} {as0 ak0 an0 : Nat} (hA0 : AI x al lv as0 ak0 an0) (hC : Cx x p s m args meth c cX12_all 4 (some .int) RX12) (n : Nat) (x2 : Int32) (x3 : Int32) (H : Heap) (locs : List Loc) (ls : Array Slot) (h : fM_all_4 n σ as0 ak0 an0 x2 x3 = some res) (hP : Pic x al lv σ H) (hS : va_S (Ab x) s.heap H locs) (hl : lv_has ls 4 [(0, .ref (al 7 0)), (1, .ref (al as0 ak0)), (2, .int x2), (3, .int x3)]) : W p l e (rmm 1 0 0) s m args below meth c H locs 0 0 (MQ below (QP x al lv σ res) args s 0 0 (Ab x)) (F0 m 4 ls []) := by
  induction n generalizing x2 x3 H locs ls with
  | zero => exact nomatch h
  | succ n ih => exact wM_all_4_b hA0 hC  _ (fun x2 x3 H locs ls h hP hS hl => ih x2 x3 H locs ls h hP hS hl) x2 x3 H locs ls h hP hS hl
set_option maxHeartbeats 4000000 in
set_option maxRecDepth 20000 in
theorem wM_all_0 {p : Program} {l : Launch} {e : Env} {s : State} {m : MethodId} {args : Array Value} {below : List Frame} {meth : Method} {c : Code} {x : Wx} {al : Nat → Nat → Nat} {lv : Nat → Bool} {res : Int32} {σ : Sg} {as0 ak0 an0 : Nat} (hA0 : AI x al lv as0 ak0 an0) (hC : Cx x p s m args meth c cX12_all 4 (some .int) RX12) (H : Heap) (locs : List Loc) (ls : Array Slot) (h : fM_all_0 σ as0 ak0 an0 = some res) (hP : Pic x al lv σ H) (hS : va_S (Ab x) s.heap H locs) (hl : lv_has ls 4 [(0, .ref (al 7 0)), (1, .ref (al as0 ak0))]) : W p l e (rmm 1 0 0) s m args below meth c H locs 0 0 (MQ below (QP x al lv σ res) args s 0 0 (Ab x)) (F0 m 0 ls []) := by
  obtain ⟨hx, hb, hml, hown, hts⟩ := hC.1
  unfold fM_all_0 at h
  refine lv_iconst (v := 0) hx hb dX12_all_0 (by decide) ?_
  refine lv_istore_n (lv' := [(2, .int 0), (0, .ref (al 7 0)), (1, .ref (al as0 ak0))]) hx hb dX12_all_1 rfl hl (by decide) rfl (fun ls hl => ?_)
  refine lv_iconst (v := 0) hx hb dX12_all_2 (by decide) ?_
  refine lv_istore_n (lv' := [(3, .int 0), (2, .int 0), (0, .ref (al 7 0)), (1, .ref (al as0 ak0))]) hx hb dX12_all_3 rfl hl (by decide) rfl (fun ls hl => ?_)
  exact wM_all_4 hA0 hC  FU 0 0 H locs ls h hP hS (lv_sub hl [2, 3, 1, 0] rfl)

set_option maxRecDepth 20000 in
theorem tM_all {l : Launch} (x : Wx) (al : Nat → Nat → Nat) (lv : Nat → Bool) (σ : Sg) (as0 ak0 an0 : Nat) (hA0 : AI x al lv as0 ak0 an0) (res : Int32) (h : fM_all σ as0 ak0 an0 = some res) : Met l yX12_all (Cond.code yX12_all cX12_all 4 (some .int) :: lwg) (rmm 1 0 0) (va_Pc [.ref (al 7 0), .ref (al as0 ak0)] (Wd x al lv σ)) (QP x al lv σ res) 0 0 (Ab x) := by
  refine met_W (by decide) (Nat.le_of_ble_eq_true rfl) rfl (fun p e s m args below meth c ls hC hP hS hl => ?_)
  exact wM_all_0 hA0 hC  _ _ ls h hP hS hl
