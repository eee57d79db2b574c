set_option maxHeartbeats 4000000 in
set_option maxRecDepth 20000 in
theorem wM_send_119 {p : Program} {l : Launch} {e : Env} {s : State} {m : MethodId} {args : Array Value} {below : List Frame} {meth : Method} {c : Code} {x : Wx} {al : Nat → Nat → Nat} {lv : Nat → Bool} {res : Int32 × Sg} (hC : Cx x p s m args meth c cX12_send 10 (some .int) RX12) (k54 : Sg → Int32 → Int32 → Int32 → Int32 → Int64 → Int32 → Int32 → Option (Int32 × Sg)) (hk54 : ∀ (σ : Sg) (x1 : Int32) (x2 : Int32) (x3 : Int32) (x4 : Int32) (x5 : Int64) (x7 : Int32) (x8 : Int32) (H : Heap) (locs : List Loc) (ls : Array Slot), k54 σ x1 x2 x3 x4 x5 x7 x8 = some res → Pic x al lv σ H → va_S (Ab x) s.heap H locs → lv_has ls 10 [(0, .ref (al 7 0)), (1, .int x1), (2, .int x2), (3, .int x3), (4, .int x4), (5, .long x5), (7, .int x7), (8, .int x8)] → W p l e (rmm 7 0 0) s m args below meth c H locs 0 0 (MQ below (QI x al lv res) args s 0 0 (Ab x)) (F0 m 54 ls [])) (σ : Sg) (x1 : Int32) (x2 : Int32) (x3 : Int32) (x4 : Int32) (x5 : Int64) (x7 : Int32) (x8 : Int32) (t0 : Int32) (H : Heap) (locs : List Loc) (ls : Array Slot) (h : fM_send_119 k54 σ x1 x2 x3 x4 x5 x7 x8 t0 = some res) (hP : Pic x al lv σ H) (hS : va_S (Ab x) s.heap H locs) (hl : lv_has ls 10 [(0, .ref (al 7 0)), (1, .int x1), (2, .int x2), (3, .int x3), (4, .int x4), (5, .long x5), (7, .int x7), (8, .int x8)]) : W p l e (rmm 7 0 0) s m args below meth c H locs 0 0 (MQ below (QI x al lv res) args s 0 0 (Ab x)) (F0 m 119 ls [.int t0]) := by
  obtain ⟨hx, hb, hml, hown, hts⟩ := hC.1
  unfold fM_send_119 at h
  refine lv_istore (lv' := [(9, .int t0), (0, .ref (al 7 0)), (1, .int x1), (2, .int x2), (3, .int x3), (4, .int x4), (5, .long x5), (7, .int x7), (8, .int x8)]) hx hb dX12_send_119 hl (by decide) rfl (fun ls hl => ?_)
  refine lv_lload hx hb dX12_send_121 (lv_at hl 6 rfl) ?_
  refine lv_aload_n hx hb dX12_send_123 rfl (lv_at hl 1 rfl) ?_
  refine gt_X12_20 hC hP wf_X12_70 dX12_send_124 ?_
  refine lv_iload hx hb dX12_send_127 (lv_at hl 8 rfl) ?_
  refine r_iald hC hP (aM_20 hP.l7) h dX12_send_129 (fun h => ?_)
  refine lv_i2l (v := (σ 7 20 x8.toNatClampNeg).toInt64) hx hb dX12_send_130 rfl ?_
  refine lv_aload_n hx hb dX12_send_131 rfl (lv_at hl 1 rfl) ?_
  refine gt_X12_40 hC hP wf_X12_109 dX12_send_132 ?_
  refine lv_iload hx hb dX12_send_135 (lv_at hl 0 rfl) ?_
  refine r_iald hC hP (aM_40 hP.l7) h dX12_send_137 (fun h => ?_)
  refine lv_i2l (v := (σ 7 40 t0.toNatClampNeg).toInt64) hx hb dX12_send_138 rfl ?_
  refine lv_lmul hx hb dX12_send_139 ?_
  refine lv_ldc2 hx hb hown (hts _ wk_X12_272) dX12_send_140 ?_
  refine lv_ldiv hx hb dX12_send_143 (by decide) ?_
  refine lv_ladd hx hb dX12_send_144 ?_
  refine r_ltl h (fun y12 h => ?_)
  refine lv_lstore (lv' := [(5, .long y12), (9, .int t0), (0, .ref (al 7 0)), (1, .int x1), (2, .int x2), (3, .int x3), (4, .int x4), (7, .int x7), (8, .int x8)]) hx hb dX12_send_145 hl (by decide) rfl (fun ls hl => ?_)
  refine lv_aload_n hx hb dX12_send_147 rfl (lv_at hl 2 rfl) ?_
  refine gt_X12_43 hC hP wf_X12_118 dX12_send_148 ?_
  refine lv_iload hx hb dX12_send_151 (lv_at hl 6 rfl) ?_
  refine lv_iload hx hb dX12_send_153 (lv_at hl 8 rfl) ?_
  refine r_iast hC hP hS (aM_43 hP.l7) h dX12_send_155 (fun σ13 H locs h hP hS => ?_)
  refine r_iinc (v := 1) hC h dX12_send_156 hl (k := 6) rfl rfl (by decide) (fun y14 => [(4, .int y14), (5, .long y12), (9, .int t0), (0, .ref (al 7 0)), (1, .int x1), (2, .int x2), (3, .int x3), (7, .int x7), (8, .int x8)]) (fun _ => rfl) (fun y14 ls h hl => ?_)
  refine lv_aload_n hx hb dX12_send_159 rfl (lv_at hl 3 rfl) ?_
  refine lv_iload hx hb dX12_send_160 (lv_at hl 8 rfl) ?_
  refine r_cV hS h (fun r hr => r_runV (As := [.int x8]) (rest := []) hC kV_X12_241 cw_X12_out (rc_X12 hC hP) hP (tM_out x al lv σ13 x8 r hr) rfl hl.1 ⟨Nat.le_of_ble_eq_true rfl, Nat.le_of_ble_eq_true rfl⟩ ⟨Nat.le_of_ble_eq_true rfl, Nat.le_of_ble_eq_true rfl⟩ (Nat.le_of_ble_eq_true rfl) dX12_send_162) (fun σ15 H locs h hP hS => ?_)
  refine lv_aload_n hx hb dX12_send_165 rfl (lv_at hl 3 rfl) ?_
  refine lv_iload_n hx hb dX12_send_166 rfl (lv_at hl 4 rfl) ?_
  refine r_cP hS h (fun r hr => r_runV (As := [.int x1]) (rest := []) hC kV_X12_253 cw_X12_nextOf (rc_X12 hC hP) hP (tM_nextOf x al lv σ15 x1 r hr) rfl hl.1 ⟨Nat.le_of_ble_eq_true rfl, Nat.le_of_ble_eq_true rfl⟩ ⟨Nat.le_of_ble_eq_true rfl, Nat.le_of_ble_eq_true rfl⟩ (Nat.le_of_ble_eq_true rfl) dX12_send_167) (fun y16 H locs h hP hS => ?_)
  refine lv_istore (lv' := [(8, .int y16), (4, .int y14), (5, .long y12), (9, .int t0), (0, .ref (al 7 0)), (1, .int x1), (2, .int x2), (3, .int x3), (7, .int x7)]) hx hb dX12_send_170 hl (by decide) rfl (fun ls hl => ?_)
  refine lv_goto (tgt := 54) hx hb dX12_send_172 (by decide) ?_
  exact hk54 σ15 x1 x2 x3 y14 y12 x7 y16 H locs ls h hP hS (lv_sub hl [4, 5, 6, 7, 1, 2, 8, 0] rfl)

set_option maxHeartbeats 4000000 in
set_option maxRecDepth 20000 in
theorem wM_send_112 {p : Program} {l : Launch} {e : Env} {s : State} {m : MethodId} {args : Array Value} {below : List Frame} {meth : Method} {c : Code} {x : Wx} {al : Nat → Nat → Nat} {lv : Nat → Bool} {res : Int32 × Sg} (hC : Cx x p s m args meth c cX12_send 10 (some .int) RX12) (k54 : Sg → Int32 → Int32 → Int32 → Int32 → Int64 → Int32 → Int32 → Option (Int32 × Sg)) (hk54 : ∀ (σ : Sg) (x1 : Int32) (x2 : Int32) (x3 : Int32) (x4 : Int32) (x5 : Int64) (x7 : Int32) (x8 : Int32) (H : Heap) (locs : List Loc) (ls : Array Slot), k54 σ x1 x2 x3 x4 x5 x7 x8 = some res → Pic x al lv σ H → va_S (Ab x) s.heap H locs → lv_has ls 10 [(0, .ref (al 7 0)), (1, .int x1), (2, .int x2), (3, .int x3), (4, .int x4), (5, .long x5), (7, .int x7), (8, .int x8)] → W p l e (rmm 7 0 0) s m args below meth c H locs 0 0 (MQ below (QI x al lv res) args s 0 0 (Ab x)) (F0 m 54 ls [])) (σ : Sg) (x1 : Int32) (x2 : Int32) (x3 : Int32) (x4 : Int32) (x5 : Int64) (x7 : Int32) (x8 : Int32) (H : Heap) (locs : List Loc) (ls : Array Slot) (h : fM_send_112 k54 σ x1 x2 x3 x4 x5 x7 x8 = some res) (hP : Pic x al lv σ H) (hS : va_S (Ab x) s.heap H locs) (hl : lv_has ls 10 [(0, .ref (al 7 0)), (1, .int x1), (2, .int x2), (3, .int x3), (4, .int x4), (5, .long x5), (7, .int x7), (8, .int x8)]) : W p l e (rmm 7 0 0) s m args below meth c H locs 0 0 (MQ below (QI x al lv res) args s 0 0 (Ab x)) (F0 m 112 ls []) := by
  obtain ⟨hx, hb, hml, hown, hts⟩ := hC.1
  unfold fM_send_112 at h
  refine lv_aload_n hx hb dX12_send_112 rfl (lv_at hl 0 rfl) ?_
  refine gt_X12_19 hC hP wf_X12_67 dX12_send_113 ?_
  refine lv_iload hx hb dX12_send_116 (lv_at hl 7 rfl) ?_
  refine r_iald hC hP (aM_19 hP.l7) h dX12_send_118 (fun h => ?_)
  exact wM_send_119  hC k54 hk54 σ x1 x2 x3 x4 x5 x7 x8 (σ 7 19 x8.toNatClampNeg) H locs ls h hP hS (lv_sub hl [0, 1, 2, 3, 4, 5, 6, 7] rfl)

set_option maxHeartbeats 4000000 in
set_option maxRecDepth 20000 in
theorem wM_send_246_b {p : Program} {l : Launch} {e : Env} {s : State} {m : MethodId} {args : Array Value} {below : List Frame} {meth : Method} {c : Code} {x : Wx} {al : Nat → Nat → Nat} {lv : Nat → Bool} {res : Int32 × Sg} (hC : Cx x p s m args meth c cX12_send 10 (some .int) RX12) (k246 : Sg → Int32 → Int32 → Int32 → Option (Int32 × Sg)) (hk246 : ∀ (σ : Sg) (x4 : Int32) (x7 : Int32) (x8 : Int32) (H : Heap) (locs : List Loc) (ls : Array Slot), k246 σ x4 x7 x8 = some res → Pic x al lv σ H → va_S (Ab x) s.heap H locs → lv_has ls 10 [(0, .ref (al 7 0)), (4, .int x4), (7, .int x7), (8, .int x8)] → W p l e (rmm 7 0 0) s m args below meth c H locs 0 0 (MQ below (QI x al lv res) args s 0 0 (Ab x)) (F0 m 246 ls [])) (σ : Sg) (x4 : Int32) (x7 : Int32) (x8 : Int32) (H : Heap) (locs : List Loc) (ls : Array Slot) (h : fM_send_246_b k246 σ x4 x7 x8 = some res) (hP : Pic x al lv σ H) (hS : va_S (Ab x) s.heap H locs) (hl : lv_has ls 10 [(0, .ref (al 7 0)), (4, .int x4), (7, .int x7), (8, .int x8)]) : W p l e (rmm 7 0 0) s m args below meth c H locs 0 0 (MQ below (QI x al lv res) args s 0 0 (Ab x)) (F0 m 246 ls []) := by
  obtain ⟨hx, hb, hml, hown, hts⟩ := hC.1
  unfold fM_send_246_b at h
  refine lv_iload hx hb dX12_send_246 (lv_at hl 3 rfl) ?_
  refine lv_iload hx hb dX12_send_248 (lv_at hl 1 rfl) ?_
  refine lv_icmp_ge (tgt := 273) hx hb dX12_send_250 (by decide) (fun hc => ?_) (fun hc => ?_)
  · replace h := (br h).1 hc
    refine lv_aload_n hx hb dX12_send_273 rfl (lv_at hl 0 rfl) ?_
    refine lv_iload hx hb dX12_send_274 (lv_at hl 1 rfl) ?_
    refine pt_X12_36 hC hP hS wf_X12_256 h dX12_send_276 (fun σ23 H locs h hP hS => ?_)
    refine lv_aload_n hx hb dX12_send_279 rfl (lv_at hl 0 rfl) ?_
    refine gt_X12_9 hC hP wf_X12_37 dX12_send_280 ?_
    refine lv_iconst (v := 1) hx hb dX12_send_283 (by decide) ?_
    refine lv_dup2_11 hx hb dX12_send_284 rfl rfl ?_
    refine r_iald hC hP (aM_9 hP.l7) h dX12_send_285 (fun h => ?_)
    refine lv_iload hx hb dX12_send_286 (lv_at hl 2 rfl) ?_
    refine lv_iadd hx hb dX12_send_288 ?_
    refine r_iast hC hP hS (aM_9 hP.l7) h dX12_send_289 (fun σ24 H locs h hP hS => ?_)
    refine lv_aload_n hx hb dX12_send_290 rfl (lv_at hl 0 rfl) ?_
    refine lv_iload hx hb dX12_send_291 (lv_at hl 1 rfl) ?_
    refine r_cI hS h (fun r hr => r_runV (As := [.int x4]) (rest := []) hC kV_X12_151 cw_X12_ends (rc_X12 hC hP) hP (tM_ends x al lv σ24 x4 r hr) rfl hl.1 ⟨Nat.le_of_ble_eq_true rfl, Nat.le_of_ble_eq_true rfl⟩ ⟨Nat.le_of_ble_eq_true rfl, Nat.le_of_ble_eq_true rfl⟩ (Nat.le_of_ble_eq_true rfl) dX12_send_293) (fun y25 σ26 H locs h hP hS => ?_)
    exact r_retI hC hP hS rfl h dX12_send_296
  · replace h := (br h).2 hc
    refine lv_aload_n hx hb dX12_send_253 rfl (lv_at hl 0 rfl) ?_
    refine gt_X12_35 hC hP wf_X12_106 dX12_send_254 ?_
    refine lv_iload hx hb dX12_send_257 (lv_at hl 3 rfl) ?_
    refine lv_aload_n hx hb dX12_send_259 rfl (lv_at hl 0 rfl) ?_
    refine gt_X12_43 hC hP wf_X12_118 dX12_send_260 ?_
    refine lv_iload hx hb dX12_send_263 (lv_at hl 3 rfl) ?_
    refine r_iald hC hP (aM_43 hP.l7) h dX12_send_265 (fun h => ?_)
    refine r_iast hC hP hS (aM_35 hP.l7) h dX12_send_266 (fun σ27 H locs h hP hS => ?_)
    refine r_iinc (v := 1) hC h dX12_send_267 hl (k := 3) rfl rfl (by decide) (fun y28 => [(8, .int y28), (0, .ref (al 7 0)), (4, .int x4), (7, .int x7)]) (fun _ => rfl) (fun y28 ls h hl => ?_)
    refine lv_goto (tgt := 246) hx hb dX12_send_270 (by decide) ?_
    exact hk246 σ27 x4 x7 y28 H locs ls h hP hS (lv_sub hl [1, 2, 3, 0] rfl)

set_option maxHeartbeats 4000000 in
set_option maxRecDepth 20000 in
theorem wM_send_246 {p : Program} {l : Launch} {e : Env} {s : State} {m : MethodId} {args : Array Value} {below : List Frame} {meth : Method} {c : Code} {x : Wx} {al : Nat → Nat → Nat} {lv : Nat → Bool} {res : Int32 × Sg} (hC : Cx x p s m args meth c cX12_send 10 (some .int) RX12) (n : Nat) (σ : Sg) (x4 : Int32) (x7 : Int32) (x8 : Int32) (H : Heap) (locs : List Loc) (ls : Array Slot) (h : fM_send_246 n σ x4 x7 x8 = some res) (hP : Pic x al lv σ H) (hS : va_S (Ab x) s.heap H locs) (hl : lv_has ls 10 [(0, .ref (al 7 0)), (4, .int x4), (7, .int x7), (8, .int x8)]) : W p l e (rmm 7 0 0) s m args below meth c H locs 0 0 (MQ below (QI x al lv res) args s 0 0 (Ab x)) (F0 m 246 ls []) := by
  induction n generalizing σ x4 x7 x8 H locs ls with
  | zero => exact nomatch h
  | succ n ih => exact wM_send_246_b  hC  _ (fun σ x4 x7 x8 H locs ls h hP hS hl => ih σ x4 x7 x8 H locs ls h hP hS hl) σ x4 x7 x8 H locs ls h hP hS hl
set_option maxHeartbeats 4000000 in
set_option maxRecDepth 20000 in
theorem wM_send_222 {p : Program} {l : Launch} {e : Env} {s : State} {m : MethodId} {args : Array Value} {below : List Frame} {meth : Method} {c : Code} {x : Wx} {al : Nat → Nat → Nat} {lv : Nat → Bool} {res : Int32 × Sg} (hC : Cx x p s m args meth c cX12_send 10 (some .int) RX12) (σ : Sg) (x4 : Int32) (x7 : Int32) (t0 : Int32) (H : Heap) (locs : List Loc) (ls : Array Slot) (h : fM_send_222 σ x4 x7 t0 = some res) (hP : Pic x al lv σ H) (hS : va_S (Ab x) s.heap H locs) (hl : lv_has ls 10 [(0, .ref (al 7 0)), (4, .int x4), (7, .int x7)]) : W p l e (rmm 7 0 0) s m args below meth c H locs 0 0 (MQ below (QI x al lv res) args s 0 0 (Ab x)) (F0 m 222 ls [.int t0, .ref (al 7 0)]) := by
  obtain ⟨hx, hb, hml, hown, hts⟩ := hC.1
  unfold fM_send_222 at h
  refine pt_X12_39 hC hP hS wf_X12_280 h dX12_send_222 (fun σ19 H locs h hP hS => ?_)
  refine lv_aload_n hx hb dX12_send_225 rfl (lv_at hl 0 rfl) ?_
  refine gt_X12_37 hC hP wf_X12_274 dX12_send_226 ?_
  refine lv_if_le (tgt := 243) hx hb dX12_send_229 (by decide) (fun hc => ?_) (fun hc => ?_)
  · replace h := (br h).1 hc
    refine lv_iconst (v := 0) hx hb dX12_send_243 (by decide) ?_
    refine lv_istore (lv' := [(8, .int 0), (0, .ref (al 7 0)), (4, .int x4), (7, .int x7)]) hx hb dX12_send_244 hl (by decide) rfl (fun ls hl => ?_)
    exact wM_send_246  hC  FU σ19 x4 x7 0 H locs ls h hP hS (lv_sub hl [1, 2, 3, 0] rfl)
  · replace h := (br h).2 hc
    refine lv_aload_n hx hb dX12_send_232 rfl (lv_at hl 0 rfl) ?_
    refine r_cV hS h (fun r hr => r_runV (As := []) (rest := []) hC kV_X12_268 cw_X12_brings (rc_X12 hC hP) hP (tM_brings x al lv σ19  r hr) rfl hl.1 ⟨Nat.le_of_ble_eq_true rfl, Nat.le_of_ble_eq_true rfl⟩ ⟨Nat.le_of_ble_eq_true rfl, Nat.le_of_ble_eq_true rfl⟩ (Nat.le_of_ble_eq_true rfl) dX12_send_233) (fun σ20 H locs h hP hS => ?_)
    refine lv_aload_n hx hb dX12_send_236 rfl (lv_at hl 0 rfl) ?_
    refine lv_bipush (v := (-6)) hx hb dX12_send_237 (by decide) ?_
    refine r_cI hS h (fun r hr => r_runV (As := [.int ((-6))]) (rest := []) hC kV_X12_151 cw_X12_ends (rc_X12 hC hP) hP (tM_ends x al lv σ20 ((-6)) r hr) rfl hl.1 ⟨Nat.le_of_ble_eq_true rfl, Nat.le_of_ble_eq_true rfl⟩ ⟨Nat.le_of_ble_eq_true rfl, Nat.le_of_ble_eq_true rfl⟩ (Nat.le_of_ble_eq_true rfl) dX12_send_239) (fun y21 σ22 H locs h hP hS => ?_)
    exact r_retI hC hP hS rfl h dX12_send_242

set_option maxHeartbeats 4000000 in
set_option maxRecDepth 20000 in
theorem wM_send_204 {p : Program} {l : Launch} {e : Env} {s : State} {m : MethodId} {args : Array Value} {below : List Frame} {meth : Method} {c : Code} {x : Wx} {al : Nat → Nat → Nat} {lv : Nat → Bool} {res : Int32 × Sg} (hC : Cx x p s m args meth c cX12_send 10 (some .int) RX12) (σ : Sg) (x4 : Int32) (x5 : Int64) (x7 : Int32) (t0 : Int32) (H : Heap) (locs : List Loc) (ls : Array Slot) (h : fM_send_204 σ x4 x5 x7 t0 = some res) (hP : Pic x al lv σ H) (hS : va_S (Ab x) s.heap H locs) (hl : lv_has ls 10 [(0, .ref (al 7 0)), (4, .int x4), (5, .long x5), (7, .int x7)]) : W p l e (rmm 7 0 0) s m args below meth c H locs 0 0 (MQ below (QI x al lv res) args s 0 0 (Ab x)) (F0 m 204 ls [.int t0, .ref (al 7 0)]) := by
  obtain ⟨hx, hb, hml, hown, hts⟩ := hC.1
  unfold fM_send_204 at h
  refine pt_X12_38 hC hP hS wf_X12_277 h dX12_send_204 (fun σ18 H locs h hP hS => ?_)
  refine lv_aload_n hx hb dX12_send_207 rfl (lv_at hl 0 rfl) ?_
  refine lv_aload_n hx hb dX12_send_208 rfl (lv_at hl 0 rfl) ?_
  refine gt_X12_37 hC hP wf_X12_274 dX12_send_209 ?_
  refine lv_if_le (tgt := 219) hx hb dX12_send_212 (by decide) (fun hc => ?_) (fun hc => ?_)
  · replace h := (br h).1 hc
    refine lv_lload hx hb dX12_send_219 (lv_at hl 2 rfl) ?_
    refine lv_l2i (v := x5.toInt32) hx hb dX12_send_221 rfl ?_
    exact wM_send_222  hC  σ18 x4 x7 x5.toInt32 H locs ls h hP hS (lv_sub hl [0, 1, 3] rfl)
  · replace h := (br h).2 hc
    refine lv_iconst (v := 0) hx hb dX12_send_215 (by decide) ?_
    refine lv_goto (tgt := 222) hx hb dX12_send_216 (by decide) ?_
    exact wM_send_222  hC  σ18 x4 x7 0 H locs ls h hP hS (lv_sub hl [0, 1, 3] rfl)

set_option maxHeartbeats 4000000 in
set_option maxRecDepth 20000 in
theorem wM_send_188 {p : Program} {l : Launch} {e : Env} {s : State} {m : MethodId} {args : Array Value} {below : List Frame} {meth : Method} {c : Code} {x : Wx} {al : Nat → Nat → Nat} {lv : Nat → Bool} {res : Int32 × Sg} (hC : Cx x p s m args meth c cX12_send 10 (some .int) RX12) (σ : Sg) (x3 : Int32) (x4 : Int32) (x5 : Int64) (x7 : Int32) (t0 : Int32) (H : Heap) (locs : List Loc) (ls : Array Slot) (h : fM_send_188 σ x3 x4 x5 x7 t0 = some res) (hP : Pic x al lv σ H) (hS : va_S (Ab x) s.heap H locs) (hl : lv_has ls 10 [(0, .ref (al 7 0)), (3, .int x3), (4, .int x4), (5, .long x5), (7, .int x7)]) : W p l e (rmm 7 0 0) s m args below meth c H locs 0 0 (MQ below (QI x al lv res) args s 0 0 (Ab x)) (F0 m 188 ls [.int t0, .ref (al 7 0)]) := by
  obtain ⟨hx, hb, hml, hown, hts⟩ := hC.1
  unfold fM_send_188 at h
  refine pt_X12_37 hC hP hS wf_X12_274 h dX12_send_188 (fun σ17 H locs h hP hS => ?_)
  refine lv_aload_n hx hb dX12_send_191 rfl (lv_at hl 0 rfl) ?_
  refine lv_aload_n hx hb dX12_send_192 rfl (lv_at hl 0 rfl) ?_
  refine gt_X12_37 hC hP wf_X12_274 dX12_send_193 ?_
  refine lv_if_le (tgt := 203) hx hb dX12_send_196 (by decide) (fun hc => ?_) (fun hc => ?_)
  · replace h := (br h).1 hc
    refine lv_iload_n hx hb dX12_send_203 rfl (lv_at hl 1 rfl) ?_
    exact wM_send_204  hC  σ17 x4 x5 x7 x3 H locs ls h hP hS (lv_sub hl [0, 2, 3, 4] rfl)
  · replace h := (br h).2 hc
    refine lv_iconst (v := 0) hx hb dX12_send_199 (by decide) ?_
    refine lv_goto (tgt := 204) hx hb dX12_send_200 (by decide) ?_
    exact wM_send_204  hC  σ17 x4 x5 x7 0 H locs ls h hP hS (lv_sub hl [0, 2, 3, 4] rfl)

set_option maxHeartbeats 4000000 in
set_option maxRecDepth 20000 in
theorem wM_send_175 {p : Program} {l : Launch} {e : Env} {s : State} {m : MethodId} {args : Array Value} {below : List Frame} {meth : Method} {c : Code} {x : Wx} {al : Nat → Nat → Nat} {lv : Nat → Bool} {res : Int32 × Sg} (hC : Cx x p s m args meth c cX12_send 10 (some .int) RX12) (σ : Sg) (x2 : Int32) (x3 : Int32) (x4 : Int32) (x5 : Int64) (x7 : Int32) (H : Heap) (locs : List Loc) (ls : Array Slot) (h : fM_send_175 σ x2 x3 x4 x5 x7 = some res) (hP : Pic x al lv σ H) (hS : va_S (Ab x) s.heap H locs) (hl : lv_has ls 10 [(0, .ref (al 7 0)), (2, .int x2), (3, .int x3), (4, .int x4), (5, .long x5), (7, .int x7)]) : W p l e (rmm 7 0 0) s m args below meth c H locs 0 0 (MQ below (QI x al lv res) args s 0 0 (Ab x)) (F0 m 175 ls []) := by
  obtain ⟨hx, hb, hml, hown, hts⟩ := hC.1
  unfold fM_send_175 at h
  refine lv_aload_n hx hb dX12_send_175 rfl (lv_at hl 0 rfl) ?_
  refine lv_iload_n hx hb dX12_send_176 rfl (lv_at hl 2 rfl) ?_
  refine lv_iload_n hx hb dX12_send_177 rfl (lv_at hl 1 rfl) ?_
  refine lv_icmp_ge (tgt := 187) hx hb dX12_send_178 (by decide) (fun hc => ?_) (fun hc => ?_)
  · replace h := (br h).1 hc
    refine lv_iconst (v := 0) hx hb dX12_send_187 (by decide) ?_
    exact wM_send_188  hC  σ x3 x4 x5 x7 0 H locs ls h hP hS (lv_sub hl [0, 2, 3, 4, 5] rfl)
  · replace h := (br h).2 hc
    refine lv_iload_n hx hb dX12_send_181 rfl (lv_at hl 1 rfl) ?_
    refine lv_iload_n hx hb dX12_send_182 rfl (lv_at hl 2 rfl) ?_
    refine lv_isub hx hb dX12_send_183 ?_
    refine lv_goto (tgt := 188) hx hb dX12_send_184 (by decide) ?_
    exact wM_send_188  hC  σ x3 x4 x5 x7 (x2 - x3) H locs ls h hP hS (lv_sub hl [0, 2, 3, 4, 5] rfl)

set_option maxHeartbeats 4000000 in
set_option maxRecDepth 20000 in
theorem wM_send_54_b {p : Program} {l : Launch} {e : Env} {s : State} {m : MethodId} {args : Array Value} {below : List Frame} {meth : Method} {c : Code} {x : Wx} {al : Nat → Nat → Nat} {lv : Nat → Bool} {res : Int32 × Sg} (hC : Cx x p s m args meth c cX12_send 10 (some .int) RX12) (k54 : Sg → Int32 → Int32 → Int32 → Int32 → Int64 → Int32 → Int32 → Option (Int32 × Sg)) (hk54 : ∀ (σ : Sg) (x1 : Int32) (x2 : Int32) (x3 : Int32) (x4 : Int32) (x5 : Int64) (x7 : Int32) (x8 : Int32) (H : Heap) (locs : List Loc) (ls : Array Slot), k54 σ x1 x2 x3 x4 x5 x7 x8 = some res → Pic x al lv σ H → va_S (Ab x) s.heap H locs → lv_has ls 10 [(0, .ref (al 7 0)), (1, .int x1), (2, .int x2), (3, .int x3), (4, .int x4), (5, .long x5), (7, .int x7), (8, .int x8)] → W p l e (rmm 7 0 0) s m args below meth c H locs 0 0 (MQ below (QI x al lv res) args s 0 0 (Ab x)) (F0 m 54 ls [])) (σ : Sg) (x1 : Int32) (x2 : Int32) (x3 : Int32) (x4 : Int32) (x5 : Int64) (x7 : Int32) (x8 : Int32) (H : Heap) (locs : List Loc) (ls : Array Slot) (h : fM_send_54_b k54 σ x1 x2 x3 x4 x5 x7 x8 = some res) (hP : Pic x al lv σ H) (hS : va_S (Ab x) s.heap H locs) (hl : lv_has ls 10 [(0, .ref (al 7 0)), (1, .int x1), (2, .int x2), (3, .int x3), (4, .int x4), (5, .long x5), (7, .int x7), (8, .int x8)]) : W p l e (rmm 7 0 0) s m args below meth c H locs 0 0 (MQ below (QI x al lv res) args s 0 0 (Ab x)) (F0 m 54 ls []) := by
  obtain ⟨hx, hb, hml, hown, hts⟩ := hC.1
  unfold fM_send_54_b at h
  refine lv_iload hx hb dX12_send_54 (lv_at hl 7 rfl) ?_
  refine lv_iconst (v := (-1)) hx hb dX12_send_56 (by decide) ?_
  refine lv_icmp_eq (tgt := 175) hx hb dX12_send_57 (by decide) (fun hc => ?_) (fun hc => ?_)
  · replace h := (br h).1 hc
    exact wM_send_175  hC  σ x2 x3 x4 x5 x7 H locs ls h hP hS (lv_sub hl [0, 2, 3, 4, 5, 6] rfl)
  · replace h := (br h).2 hc
    refine lv_iload_n hx hb dX12_send_60 rfl (lv_at hl 3 rfl) ?_
    refine lv_iload_n hx hb dX12_send_61 rfl (lv_at hl 2 rfl) ?_
    refine lv_icmp_ge (tgt := 175) hx hb dX12_send_62 (by decide) (fun hc => ?_) (fun hc => ?_)
    · replace h := (br h).1 hc
      exact wM_send_175  hC  σ x2 x3 x4 x5 x7 H locs ls h hP hS (lv_sub hl [0, 2, 3, 4, 5, 6] rfl)
    · replace h := (br h).2 hc
      refine lv_iload_n hx hb dX12_send_65 rfl (lv_at hl 3 rfl) ?_
      refine lv_aload_n hx hb dX12_send_66 rfl (lv_at hl 0 rfl) ?_
      refine lv_iload hx hb dX12_send_67 (lv_at hl 7 rfl) ?_
      refine r_cP hS h (fun r hr => r_runV (As := [.int x8]) (rest := [.int x3]) hC kV_X12_265 cw_X12_comeOf (rc_X12 hC hP) hP (tM_comeOf x al lv σ x8 r hr) rfl hl.1 ⟨Nat.le_of_ble_eq_true rfl, Nat.le_of_ble_eq_true rfl⟩ ⟨Nat.le_of_ble_eq_true rfl, Nat.le_of_ble_eq_true rfl⟩ (Nat.le_of_ble_eq_true rfl) dX12_send_69) (fun y9 H locs h hP hS => ?_)
      refine lv_iadd hx hb dX12_send_72 ?_
      refine r_lt h (fun y10 h => ?_)
      refine lv_istore_n (lv' := [(3, .int y10), (0, .ref (al 7 0)), (1, .int x1), (2, .int x2), (4, .int x4), (5, .long x5), (7, .int x7), (8, .int x8)]) hx hb dX12_send_73 rfl hl (by decide) rfl (fun ls hl => ?_)
      refine lv_iload hx hb dX12_send_74 (lv_at hl 6 rfl) ?_
      refine lv_aload_n hx hb dX12_send_76 rfl (lv_at hl 1 rfl) ?_
      refine gt_X12_20 hC hP wf_X12_70 dX12_send_77 ?_
      refine lv_iload hx hb dX12_send_80 (lv_at hl 7 rfl) ?_
      refine r_iald hC hP (aM_20 hP.l7) h dX12_send_82 (fun h => ?_)
      refine lv_iadd hx hb dX12_send_83 ?_
      refine r_lt h (fun y11 h => ?_)
      refine lv_istore (lv' := [(7, .int y11), (3, .int y10), (0, .ref (al 7 0)), (1, .int x1), (2, .int x2), (4, .int x4), (5, .long x5), (8, .int x8)]) hx hb dX12_send_84 hl (by decide) rfl (fun ls hl => ?_)
      refine lv_aload_n hx hb dX12_send_86 rfl (lv_at hl 2 rfl) ?_
      refine gt_X12_19 hC hP wf_X12_67 dX12_send_87 ?_
      refine lv_iload hx hb dX12_send_90 (lv_at hl 7 rfl) ?_
      refine r_iald hC hP (aM_19 hP.l7) h dX12_send_92 (fun h => ?_)
      refine lv_iconst (v := 1) hx hb dX12_send_93 (by decide) ?_
      refine lv_icmp_ne (tgt := 112) hx hb dX12_send_94 (by decide) (fun hc => ?_) (fun hc => ?_)
      · replace h := (br h).2 hc
        exact wM_send_112  hC k54 hk54 σ x1 x2 y10 x4 x5 y11 x8 H locs ls h hP hS (lv_sub hl [2, 3, 4, 1, 5, 6, 0, 7] rfl)
      · replace h := (br h).1 hc
        refine lv_aload_n hx hb dX12_send_97 rfl (lv_at hl 2 rfl) ?_
        refine gt_X12_24 hC hP wf_X12_82 dX12_send_98 ?_
        refine lv_iload hx hb dX12_send_101 (lv_at hl 7 rfl) ?_
        refine r_iald hC hP (aM_24 hP.l7) h dX12_send_103 (fun h => ?_)
        refine lv_iconst (v := (-1)) hx hb dX12_send_104 (by decide) ?_
        refine lv_icmp_eq (tgt := 112) hx hb dX12_send_105 (by decide) (fun hc => ?_) (fun hc => ?_)
        · replace h := (br h).1 hc
          exact wM_send_112  hC k54 hk54 σ x1 x2 y10 x4 x5 y11 x8 H locs ls h hP hS (lv_sub hl [2, 3, 4, 1, 5, 6, 0, 7] rfl)
        · replace h := (br h).2 hc
          refine lv_iconst (v := 0) hx hb dX12_send_108 (by decide) ?_
          refine lv_goto (tgt := 119) hx hb dX12_send_109 (by decide) ?_
          exact wM_send_119  hC k54 hk54 σ x1 x2 y10 x4 x5 y11 x8 0 H locs ls h hP hS (lv_sub hl [2, 3, 4, 1, 5, 6, 0, 7] rfl)

set_option maxHeartbeats 4000000 in
set_option maxRecDepth 20000 in
theorem wM_send_54 {p : Program} {l : Launch} {e : Env} {s : State} {m : MethodId} {args : Array Value} {below : List Frame} {meth : Method} {c : Code} {x : Wx} {al : Nat → Nat → Nat} {lv : Nat → Bool} {res : Int32 × Sg} (hC : Cx x p s m args meth c cX12_send 10 (some .int) RX12) (n : Nat) (σ : Sg) (x1 : Int32) (x2 : Int32) (x3 : Int32) (x4 : Int32) (x5 : Int64) (x7 : Int32) (x8 : Int32) (H : Heap) (locs : List Loc) (ls : Array Slot) (h : fM_send_54 n σ x1 x2 x3 x4 x5 x7 x8 = some res) (hP : Pic x al lv σ H) (hS : va_S (Ab x) s.heap H locs) (hl : lv_has ls 10 [(0, .ref (al 7 0)), (1, .int x1), (2, .int x2), (3, .int x3), (4, .int x4), (5, .long x5), (7, .int x7), (8, .int x8)]) : W p l e (rmm 7 0 0) s m args below meth c H locs 0 0 (MQ below (QI x al lv res) args s 0 0 (Ab x)) (F0 m 54 ls []) := by
  induction n generalizing σ x1 x2 x3 x4 x5 x7 x8 H locs ls with
  | zero => exact nomatch h
  | succ n ih => exact wM_send_54_b  hC  _ (fun σ x1 x2 x3 x4 x5 x7 x8 H locs ls h hP hS hl => ih σ x1 x2 x3 x4 x5 x7 x8 H locs ls h hP hS hl) σ x1 x2 x3 x4 x5 x7 x8 H locs ls h hP hS hl
set_option maxHeartbeats 4000000 in
set_option maxRecDepth 20000 in
theorem wM_send_0 {p : Program} {l : Launch} {e : Env} {s : State} {m : MethodId} {args : Array Value} {below : List Frame} {meth : Method} {c : Code} {x : Wx} {al : Nat → Nat → Nat} {lv : Nat → Bool} {res : Int32 × Sg} (hC : Cx x p s m args meth c cX12_send 10 (some .int) RX12) (σ : Sg) (v1 : Int32) (v2 : Int32) (H : Heap) (locs : List Loc) (ls : Array Slot) (h : fM_send_0 σ v1 v2 = some res) (hP : Pic x al lv σ H) (hS : va_S (Ab x) s.heap H locs) (hl : lv_has ls 10 [(0, .ref (al 7 0)), (1, .int v1), (2, .int v2)]) : W p l e (rmm 7 0 0) s m args below meth c H locs 0 0 (MQ below (QI x al lv res) args s 0 0 (Ab x)) (F0 m 0 ls []) := by
  obtain ⟨hx, hb, hml, hown, hts⟩ := hC.1
  unfold fM_send_0 at h
  refine lv_iload_n hx hb dX12_send_0 rfl (lv_at hl 2 rfl) ?_
  refine lv_iconst (v := 1) hx hb dX12_send_1 (by decide) ?_
  refine lv_ldcw hx hb hown (hts _ wk_X12_271) dX12_send_2 ?_
  refine r_cP hS h (fun r hr => r_runS (As := [.int v2, .int 1, .int 100000000]) (rest := []) hC kS_X12_145 cw_X12_in hP (tM_in x al lv σ v2 1 100000000 r hr) rfl hl.1 ⟨Nat.le_of_ble_eq_true rfl, Nat.le_of_ble_eq_true rfl⟩ ⟨Nat.le_of_ble_eq_true rfl, Nat.le_of_ble_eq_true rfl⟩ (Nat.le_of_ble_eq_true rfl) dX12_send_5) (fun y1 H locs h hP hS => ?_)
  refine lv_if_ne (tgt := 17) hx hb dX12_send_8 (by decide) (fun hc => ?_) (fun hc => ?_)
  · replace h := (br h).2 hc
    refine lv_aload_n hx hb dX12_send_17 rfl (lv_at hl 0 rfl) ?_
    refine lv_iload_n hx hb dX12_send_18 rfl (lv_at hl 1 rfl) ?_
    refine r_cP hS h (fun r hr => r_runV (As := [.int v1]) (rest := []) hC kV_X12_180 cw_X12_isRoom (rc_X12 hC hP) hP (tM_isRoom x al lv σ v1 r hr) rfl hl.1 ⟨Nat.le_of_ble_eq_true rfl, Nat.le_of_ble_eq_true rfl⟩ ⟨Nat.le_of_ble_eq_true rfl, Nat.le_of_ble_eq_true rfl⟩ (Nat.le_of_ble_eq_true rfl) dX12_send_19) (fun y2 H locs h hP hS => ?_)
    refine lv_if_ne (tgt := 32) hx hb dX12_send_22 (by decide) (fun hc => ?_) (fun hc => ?_)
    · replace h := (br h).2 hc
      refine lv_aload_n hx hb dX12_send_32 rfl (lv_at hl 0 rfl) ?_
      refine r_cV hS h (fun r hr => r_runV (As := []) (rest := []) hC kV_X12_262 cw_X12_remembers (rc_X12 hC hP) hP (tM_remembers x al lv σ  r hr) rfl hl.1 ⟨Nat.le_of_ble_eq_true rfl, Nat.le_of_ble_eq_true rfl⟩ ⟨Nat.le_of_ble_eq_true rfl, Nat.le_of_ble_eq_true rfl⟩ (Nat.le_of_ble_eq_true rfl) dX12_send_33) (fun σ3 H locs h hP hS => ?_)
      refine lv_iconst (v := 0) hx hb dX12_send_36 (by decide) ?_
      refine lv_istore_n (lv' := [(3, .int 0), (0, .ref (al 7 0)), (1, .int v1), (2, .int v2)]) hx hb dX12_send_37 rfl hl (by decide) rfl (fun ls hl => ?_)
      refine lv_iconst (v := 0) hx hb dX12_send_38 (by decide) ?_
      refine lv_istore (lv' := [(4, .int 0), (3, .int 0), (0, .ref (al 7 0)), (1, .int v1), (2, .int v2)]) hx hb dX12_send_39 hl (by decide) rfl (fun ls hl => ?_)
      refine lv_lconst (v := 0) hx hb dX12_send_41 (by decide) ?_
      refine lv_lstore (lv' := [(5, .long 0), (4, .int 0), (3, .int 0), (0, .ref (al 7 0)), (1, .int v1), (2, .int v2)]) hx hb dX12_send_42 hl (by decide) rfl (fun ls hl => ?_)
      refine lv_iconst (v := 0) hx hb dX12_send_44 (by decide) ?_
      refine lv_istore (lv' := [(7, .int 0), (5, .long 0), (4, .int 0), (3, .int 0), (0, .ref (al 7 0)), (1, .int v1), (2, .int v2)]) hx hb dX12_send_45 hl (by decide) rfl (fun ls hl => ?_)
      refine lv_aload_n hx hb dX12_send_47 rfl (lv_at hl 4 rfl) ?_
      refine lv_iload_n hx hb dX12_send_48 rfl (lv_at hl 5 rfl) ?_
      refine r_cP hS h (fun r hr => r_runV (As := [.int v1]) (rest := []) hC kV_X12_253 cw_X12_nextOf (rc_X12 hC hP) hP (tM_nextOf x al lv σ3 v1 r hr) rfl hl.1 ⟨Nat.le_of_ble_eq_true rfl, Nat.le_of_ble_eq_true rfl⟩ ⟨Nat.le_of_ble_eq_true rfl, Nat.le_of_ble_eq_true rfl⟩ (Nat.le_of_ble_eq_true rfl) dX12_send_49) (fun y4 H locs h hP hS => ?_)
      refine lv_istore (lv' := [(8, .int y4), (7, .int 0), (5, .long 0), (4, .int 0), (3, .int 0), (0, .ref (al 7 0)), (1, .int v1), (2, .int v2)]) hx hb dX12_send_52 hl (by decide) rfl (fun ls hl => ?_)
      exact wM_send_54  hC  FU σ3 v1 v2 0 0 0 0 y4 H locs ls h hP hS (lv_sub hl [5, 6, 7, 4, 3, 2, 1, 0] rfl)
    · replace h := (br h).1 hc
      refine lv_aload_n hx hb dX12_send_25 rfl (lv_at hl 0 rfl) ?_
      refine lv_bipush (v := (-2)) hx hb dX12_send_26 (by decide) ?_
      refine r_cI hS h (fun r hr => r_runV (As := [.int ((-2))]) (rest := []) hC kV_X12_151 cw_X12_ends (rc_X12 hC hP) hP (tM_ends x al lv σ ((-2)) r hr) rfl hl.1 ⟨Nat.le_of_ble_eq_true rfl, Nat.le_of_ble_eq_true rfl⟩ ⟨Nat.le_of_ble_eq_true rfl, Nat.le_of_ble_eq_true rfl⟩ (Nat.le_of_ble_eq_true rfl) dX12_send_28) (fun y5 σ6 H locs h hP hS => ?_)
      exact r_retI hC hP hS rfl h dX12_send_31
  · replace h := (br h).1 hc
    refine lv_aload_n hx hb dX12_send_11 rfl (lv_at hl 0 rfl) ?_
    refine lv_iconst (v := (-1)) hx hb dX12_send_12 (by decide) ?_
    refine r_cI hS h (fun r hr => r_runV (As := [.int ((-1))]) (rest := []) hC kV_X12_151 cw_X12_ends (rc_X12 hC hP) hP (tM_ends x al lv σ ((-1)) r hr) rfl hl.1 ⟨Nat.le_of_ble_eq_true rfl, Nat.le_of_ble_eq_true rfl⟩ ⟨Nat.le_of_ble_eq_true rfl, Nat.le_of_ble_eq_true rfl⟩ (Nat.le_of_ble_eq_true rfl) dX12_send_13) (fun y7 σ8 H locs h hP hS => ?_)
    exact r_retI hC hP hS rfl h dX12_send_16

set_option maxRecDepth 20000 in
theorem tM_send {l : Launch} (x : Wx) (al : Nat → Nat → Nat) (lv : Nat → Bool) (σ : Sg) (v1 : Int32) (v2 : Int32) (res : Int32 × Sg) (h : fM_send σ v1 v2 = some res) : Met l yX12_send (Cond.code yX12_send cX12_send 10 (some .int) :: lwg) (rmm 7 0 0) (va_Pc [.ref (al 7 0), .int v1, .int v2] (Wd x al lv σ)) (QI x al lv res) 0 0 (Ab x) := by
  refine met_W (by decide) (Nat.le_of_ble_eq_true rfl) rfl (fun p e s m args below meth c ls hC hP hS hl => ?_)
  exact wM_send_0  hC σ v1 v2 _ _ ls h hP hS hl
set_option maxHeartbeats 4000000 in
set_option maxRecDepth 20000 in
theorem wM_sent_0 {p : Program} {l : Launch} {e : Env} {s : State} {m : MethodId} {args : Array Value} {below : List Frame} {meth : Method} {c : Code} {x : Wx} {al : Nat → Nat → Nat} {lv : Nat → Bool} {res : Int32} {σ : Sg} (hC : Cx x p s m args meth c cX12_sent 2 (some .int) RX12) (v1 : Int32) (H : Heap) (locs : List Loc) (ls : Array Slot) (h : fM_sent_0 σ v1 = some res) (hP : Pic x al lv σ H) (hS : va_S (Ab x) s.heap H locs) (hl : lv_has ls 2 [(0, .ref (al 7 0)), (1, .int v1)]) : W p l e (rmm 1 0 0) s m args below meth c H locs 0 0 (MQ below (QP x al lv σ res) args s 0 0 (Ab x)) (F0 m 0 ls []) := by
  obtain ⟨hx, hb, hml, hown, hts⟩ := hC.1
  unfold fM_sent_0 at h
  refine lv_iload_n hx hb dX12_sent_0 rfl (lv_at hl 1 rfl) ?_
  refine lv_if_ne (tgt := 11) hx hb dX12_sent_1 (by decide) (fun hc => ?_) (fun hc => ?_)
  · replace h := (br h).2 hc
    refine lv_iload_n hx hb dX12_sent_11 rfl (lv_at hl 1 rfl) ?_
    refine lv_iconst (v := 1) hx hb dX12_sent_12 (by decide) ?_
    refine lv_icmp_ne (tgt := 23) hx hb dX12_sent_13 (by decide) (fun hc => ?_) (fun hc => ?_)
    · replace h := (br h).2 hc
      refine lv_iload_n hx hb dX12_sent_23 rfl (lv_at hl 1 rfl) ?_
      refine lv_iconst (v := 2) hx hb dX12_sent_24 (by decide) ?_
      refine lv_icmp_ne (tgt := 35) hx hb dX12_sent_25 (by decide) (fun hc => ?_) (fun hc => ?_)
      · replace h := (br h).2 hc
        refine lv_iconst (v := (-1)) hx hb dX12_sent_35 (by decide) ?_
        exact r_retP hC hP hS rfl h dX12_sent_36
      · replace h := (br h).1 hc
        refine lv_aload_n hx hb dX12_sent_28 rfl (lv_at hl 0 rfl) ?_
        refine gt_X12_39 hC hP wf_X12_280 dX12_sent_29 ?_
        refine lv_goto (tgt := 36) hx hb dX12_sent_32 (by decide) ?_
        exact r_retP hC hP hS rfl h dX12_sent_36
    · replace h := (br h).1 hc
      refine lv_aload_n hx hb dX12_sent_16 rfl (lv_at hl 0 rfl) ?_
      refine gt_X12_38 hC hP wf_X12_277 dX12_sent_17 ?_
      refine lv_goto (tgt := 36) hx hb dX12_sent_20 (by decide) ?_
      exact r_retP hC hP hS rfl h dX12_sent_36
  · replace h := (br h).1 hc
    refine lv_aload_n hx hb dX12_sent_4 rfl (lv_at hl 0 rfl) ?_
    refine gt_X12_37 hC hP wf_X12_274 dX12_sent_5 ?_
    refine lv_goto (tgt := 36) hx hb dX12_sent_8 (by decide) ?_
    exact r_retP hC hP hS rfl h dX12_sent_36

set_option maxRecDepth 20000 in
theorem tM_sent {l : Launch} (x : Wx) (al : Nat → Nat → Nat) (lv : Nat → Bool) (σ : Sg) (v1 : Int32) (res : Int32) (h : fM_sent σ v1 = some res) : Met l yX12_sent (Cond.code yX12_sent cX12_sent 2 (some .int) :: lwg) (rmm 1 0 0) (va_Pc [.ref (al 7 0), .int v1] (Wd x al lv σ)) (QP x al lv σ res) 0 0 (Ab x) := by
  refine met_W (by decide) (Nat.le_of_ble_eq_true rfl) rfl (fun p e s m args below meth c ls hC hP hS hl => ?_)
  exact wM_sent_0  hC v1 _ _ ls h hP hS hl
set_option maxHeartbeats 4000000 in
set_option maxRecDepth 20000 in
theorem wM_list_0 {p : Program} {l : Launch} {e : Env} {s : State} {m : MethodId} {args : Array Value} {below : List Frame} {meth : Method} {c : Code} {x : Wx} {al : Nat → Nat → Nat} {lv : Nat → Bool} {res : Int32} {σ : Sg} (hC : Cx x p s m args meth c cX12_list 2 (some .int) RX12) (v1 : Int32) (H : Heap) (locs : List Loc) (ls : Array Slot) (h : fM_list_0 σ v1 = some res) (hP : Pic x al lv σ H) (hS : va_S (Ab x) s.heap H locs) (hl : lv_has ls 2 [(0, .ref (al 7 0)), (1, .int v1)]) : W p l e (rmm 2 0 0) s m args below meth c H locs 0 0 (MQ below (QP x al lv σ res) args s 0 0 (Ab x)) (F0 m 0 ls []) := by
  obtain ⟨hx, hb, hml, hown, hts⟩ := hC.1
  unfold fM_list_0 at h
  refine lv_iload_n hx hb dX12_list_0 rfl (lv_at hl 1 rfl) ?_
  refine lv_iconst (v := 0) hx hb dX12_list_1 (by decide) ?_
  refine lv_aload_n hx hb dX12_list_2 rfl (lv_at hl 0 rfl) ?_
  refine gt_X12_36 hC hP wf_X12_256 dX12_list_3 ?_
  refine lv_iconst (v := 1) hx hb dX12_list_6 (by decide) ?_
  refine lv_isub hx hb dX12_list_7 ?_
  refine r_cP hS h (fun r hr => r_runS (As := [.int v1, .int 0, .int ((σ 7 0 36) - 1)]) (rest := []) hC kS_X12_145 cw_X12_in hP (tM_in x al lv σ v1 0 ((σ 7 0 36) - 1) r hr) rfl hl.1 ⟨Nat.le_of_ble_eq_true rfl, Nat.le_of_ble_eq_true rfl⟩ ⟨Nat.le_of_ble_eq_true rfl, Nat.le_of_ble_eq_true rfl⟩ (Nat.le_of_ble_eq_true rfl) dX12_list_8) (fun y1 H locs h hP hS => ?_)
  refine lv_if_eq (tgt := 23) hx hb dX12_list_11 (by decide) (fun hc => ?_) (fun hc => ?_)
  · replace h := (br h).1 hc
    refine lv_iconst (v := (-1)) hx hb dX12_list_23 (by decide) ?_
    exact r_retP hC hP hS rfl h dX12_list_24
  · replace h := (br h).2 hc
    refine lv_aload_n hx hb dX12_list_14 rfl (lv_at hl 0 rfl) ?_
    refine gt_X12_35 hC hP wf_X12_106 dX12_list_15 ?_
    refine lv_iload_n hx hb dX12_list_18 rfl (lv_at hl 1 rfl) ?_
    refine r_iald hC hP (aM_35 hP.l7) h dX12_list_19 (fun h => ?_)
    refine lv_goto (tgt := 24) hx hb dX12_list_20 (by decide) ?_
    exact r_retP hC hP hS rfl h dX12_list_24

set_option maxRecDepth 20000 in
theorem tM_list {l : Launch} (x : Wx) (al : Nat → Nat → Nat) (lv : Nat → Bool) (σ : Sg) (v1 : Int32) (res : Int32) (h : fM_list σ v1 = some res) : Met l yX12_list (Cond.code yX12_list cX12_list 2 (some .int) :: lwg) (rmm 2 0 0) (va_Pc [.ref (al 7 0), .int v1] (Wd x al lv σ)) (QP x al lv σ res) 0 0 (Ab x) := by
  refine met_W (by decide) (Nat.le_of_ble_eq_true rfl) rfl (fun p e s m args below meth c ls hC hP hS hl => ?_)
  exact wM_list_0  hC v1 _ _ ls h hP hS hl
set_option maxHeartbeats 4000000 in
set_option maxRecDepth 20000 in
theorem wM_price_20 {p : Program} {l : Launch} {e : Env} {s : State} {m : MethodId} {args : Array Value} {below : List Frame} {meth : Method} {c : Code} {x : Wx} {al : Nat → Nat → Nat} {lv : Nat → Bool} {res : Int32 × Sg} (hC : Cx x p s m args meth c cX12_price 3 (some .int) RX12) (σ : Sg) (H : Heap) (locs : List Loc) (ls : Array Slot) (h : fM_price_20 σ = some res) (hP : Pic x al lv σ H) (hS : va_S (Ab x) s.heap H locs) (hl : lv_has ls 3 [(0, .ref (al 7 0))]) : W p l e (rmm 2 0 0) s m args below meth c H locs 0 0 (MQ below (QI x al lv res) args s 0 0 (Ab x)) (F0 m 20 ls []) := by
  obtain ⟨hx, hb, hml, hown, hts⟩ := hC.1
  unfold fM_price_20 at h
  refine lv_aload_n hx hb dX12_price_20 rfl (lv_at hl 0 rfl) ?_
  refine lv_iconst (v := (-1)) hx hb dX12_price_21 (by decide) ?_
  refine r_cI hS h (fun r hr => r_runV (As := [.int ((-1))]) (rest := []) hC kV_X12_151 cw_X12_ends (rc_X12 hC hP) hP (tM_ends x al lv σ ((-1)) r hr) rfl hl.1 ⟨Nat.le_of_ble_eq_true rfl, Nat.le_of_ble_eq_true rfl⟩ ⟨Nat.le_of_ble_eq_true rfl, Nat.le_of_ble_eq_true rfl⟩ (Nat.le_of_ble_eq_true rfl) dX12_price_22) (fun y6 σ7 H locs h hP hS => ?_)
  exact r_retI hC hP hS rfl h dX12_price_25

set_option maxHeartbeats 4000000 in
set_option maxRecDepth 20000 in
theorem wM_price_0 {p : Program} {l : Launch} {e : Env} {s : State} {m : MethodId} {args : Array Value} {below : List Frame} {meth : Method} {c : Code} {x : Wx} {al : Nat → Nat → Nat} {lv : Nat → Bool} {res : Int32 × Sg} (hC : Cx x p s m args meth c cX12_price 3 (some .int) RX12) (σ : Sg) (v1 : Int32) (v2 : Int32) (H : Heap) (locs : List Loc) (ls : Array Slot) (h : fM_price_0 σ v1 v2 = some res) (hP : Pic x al lv σ H) (hS : va_S (Ab x) s.heap H locs) (hl : lv_has ls 3 [(0, .ref (al 7 0)), (1, .int v1), (2, .int v2)]) : W p l e (rmm 2 0 0) s m args below meth c H locs 0 0 (MQ below (QI x al lv res) args s 0 0 (Ab x)) (F0 m 0 ls []) := by
  obtain ⟨hx, hb, hml, hown, hts⟩ := hC.1
  unfold fM_price_0 at h
  refine lv_iload_n hx hb dX12_price_0 rfl (lv_at hl 1 rfl) ?_
  refine lv_iconst (v := 0) hx hb dX12_price_1 (by decide) ?_
  refine lv_iconst (v := 2) hx hb dX12_price_2 (by decide) ?_
  refine r_cP hS h (fun r hr => r_runS (As := [.int v1, .int 0, .int 2]) (rest := []) hC kS_X12_145 cw_X12_in hP (tM_in x al lv σ v1 0 2 r hr) rfl hl.1 ⟨Nat.le_of_ble_eq_true rfl, Nat.le_of_ble_eq_true rfl⟩ ⟨Nat.le_of_ble_eq_true rfl, Nat.le_of_ble_eq_true rfl⟩ (Nat.le_of_ble_eq_true rfl) dX12_price_3) (fun y1 H locs h hP hS => ?_)
  refine lv_if_eq (tgt := 20) hx hb dX12_price_6 (by decide) (fun hc => ?_) (fun hc => ?_)
  · replace h := (br h).1 hc
    exact wM_price_20  hC  σ H locs ls h hP hS (lv_sub hl [0] rfl)
  · replace h := (br h).2 hc
    refine lv_iload_n hx hb dX12_price_9 rfl (lv_at hl 2 rfl) ?_
    refine lv_iconst (v := 0) hx hb dX12_price_10 (by decide) ?_
    refine lv_sipush (v := 5000) hx hb dX12_price_11 (by decide) ?_
    refine r_cP hS h (fun r hr => r_runS (As := [.int v2, .int 0, .int 5000]) (rest := []) hC kS_X12_145 cw_X12_in hP (tM_in x al lv σ v2 0 5000 r hr) rfl hl.1 ⟨Nat.le_of_ble_eq_true rfl, Nat.le_of_ble_eq_true rfl⟩ ⟨Nat.le_of_ble_eq_true rfl, Nat.le_of_ble_eq_true rfl⟩ (Nat.le_of_ble_eq_true rfl) dX12_price_14) (fun y2 H locs h hP hS => ?_)
    refine lv_if_ne (tgt := 26) hx hb dX12_price_17 (by decide) (fun hc => ?_) (fun hc => ?_)
    · replace h := (br h).2 hc
      refine lv_aload_n hx hb dX12_price_26 rfl (lv_at hl 0 rfl) ?_
      refine gt_X12_40 hC hP wf_X12_109 dX12_price_27 ?_
      refine lv_iload_n hx hb dX12_price_30 rfl (lv_at hl 1 rfl) ?_
      refine lv_iload_n hx hb dX12_price_31 rfl (lv_at hl 2 rfl) ?_
      refine r_iast hC hP hS (aM_40 hP.l7) h dX12_price_32 (fun σ3 H locs h hP hS => ?_)
      refine lv_aload_n hx hb dX12_price_33 rfl (lv_at hl 0 rfl) ?_
      refine lv_iconst (v := 0) hx hb dX12_price_34 (by decide) ?_
      refine r_cI hS h (fun r hr => r_runV (As := [.int 0]) (rest := []) hC kV_X12_151 cw_X12_ends (rc_X12 hC hP) hP (tM_ends x al lv σ3 0 r hr) rfl hl.1 ⟨Nat.le_of_ble_eq_true rfl, Nat.le_of_ble_eq_true rfl⟩ ⟨Nat.le_of_ble_eq_true rfl, Nat.le_of_ble_eq_true rfl⟩ (Nat.le_of_ble_eq_true rfl) dX12_price_35) (fun y4 σ5 H locs h hP hS => ?_)
      exact r_retI hC hP hS rfl h dX12_price_38
    · replace h := (br h).1 hc
      exact wM_price_20  hC  σ H locs ls h hP hS (lv_sub hl [0] rfl)

set_option maxRecDepth 20000 in
theorem tM_price {l : Launch} (x : Wx) (al : Nat → Nat → Nat) (lv : Nat → Bool) (σ : Sg) (v1 : Int32) (v2 : Int32) (res : Int32 × Sg) (h : fM_price σ v1 v2 = some res) : Met l yX12_price (Cond.code yX12_price cX12_price 3 (some .int) :: lwg) (rmm 2 0 0) (va_Pc [.ref (al 7 0), .int v1, .int v2] (Wd x al lv σ)) (QI x al lv res) 0 0 (Ab x) := by
  refine met_W (by decide) (Nat.le_of_ble_eq_true rfl) rfl (fun p e s m args below meth c ls hC hP hS hl => ?_)
  exact wM_price_0  hC σ v1 v2 _ _ ls h hP hS hl
set_option maxHeartbeats 4000000 in
set_option maxRecDepth 20000 in
theorem wM_foresees_2_b {p : Program} {l : Launch} {e : Env} {s : State} {m : MethodId} {args : Array Value} {below : List Frame} {meth : Method} {c : Code} {x : Wx} {al : Nat → Nat → Nat} {lv : Nat → Bool} {res : Sg} (hC : Cx x p s m args meth c cX12_foresees 3 none RX12) (k2 : Sg → Int32 → Int32 → Option (Sg)) (hk2 : ∀ (σ : Sg) (x1 : Int32) (x2 : Int32) (H : Heap) (locs : List Loc) (ls : Array Slot), k2 σ x1 x2 = some res → Pic x al lv σ H → va_S (Ab x) s.heap H locs → lv_has ls 3 [(0, .ref (al 7 0)), (1, .int x1), (2, .int x2)] → W p l e (rmm 2 0 0) s m args below meth c H locs 0 0 (MQ below (QV x al lv res) args s 0 0 (Ab x)) (F0 m 2 ls [])) (σ : Sg) (x1 : Int32) (x2 : Int32) (H : Heap) (locs : List Loc) (ls : Array Slot) (h : fM_foresees_2_b k2 σ x1 x2 = some res) (hP : Pic x al lv σ H) (hS : va_S (Ab x) s.heap H locs) (hl : lv_has ls 3 [(0, .ref (al 7 0)), (1, .int x1), (2, .int x2)]) : W p l e (rmm 2 0 0) s m args below meth c H locs 0 0 (MQ below (QV x al lv res) args s 0 0 (Ab x)) (F0 m 2 ls []) := by
  obtain ⟨hx, hb, hml, hown, hts⟩ := hC.1
  unfold fM_foresees_2_b at h
  refine lv_iload_n hx hb dX12_foresees_2 rfl (lv_at hl 2 rfl) ?_
  refine lv_aload_n hx hb dX12_foresees_3 rfl (lv_at hl 0 rfl) ?_
  refine gt_X12_7 hC hP wf_X12_31 dX12_foresees_4 ?_
  refine lv_iconst (v := 0) hx hb dX12_foresees_7 (by decide) ?_
  refine r_iald hC hP (aM_7 hP.l7) h dX12_foresees_8 (fun h => ?_)
  refine lv_icmp_ge (tgt := 34) hx hb dX12_foresees_9 (by decide) (fun hc => ?_) (fun hc => ?_)
  · replace h := (br h).1 hc
    exact r_retV hC hP hS h dX12_foresees_34
  · replace h := (br h).2 hc
    refine lv_aload_n hx hb dX12_foresees_12 rfl (lv_at hl 0 rfl) ?_
    refine gt_X12_48 hC hP wf_X12_124 dX12_foresees_13 ?_
    refine lv_bipush (v := 8) hx hb dX12_foresees_16 (by decide) ?_
    refine lv_iload_n hx hb dX12_foresees_18 rfl (lv_at hl 1 rfl) ?_
    refine lv_imul hx hb dX12_foresees_19 ?_
    refine lv_iload_n hx hb dX12_foresees_20 rfl (lv_at hl 2 rfl) ?_
    refine lv_iadd hx hb dX12_foresees_21 ?_
    refine lv_aload_n hx hb dX12_foresees_22 rfl (lv_at hl 0 rfl) ?_
    refine lv_iload_n hx hb dX12_foresees_23 rfl (lv_at hl 2 rfl) ?_
    refine r_cP hS h (fun r hr => r_runV (As := [.int x2]) (rest := [.int ((8 * x1) + x2), .ref (al 7 48)]) hC kV_X12_203 cw_X12_weight (rc_X12 hC hP) hP (tM_weight x al lv σ x2 r hr) rfl hl.1 ⟨Nat.le_of_ble_eq_true rfl, Nat.le_of_ble_eq_true rfl⟩ ⟨Nat.le_of_ble_eq_true rfl, Nat.le_of_ble_eq_true rfl⟩ (Nat.le_of_ble_eq_true rfl) dX12_foresees_24) (fun y1 H locs h hP hS => ?_)
    refine r_iast hC hP hS (aM_48 hP.l7) h dX12_foresees_27 (fun σ2 H locs h hP hS => ?_)
    refine r_iinc (v := 1) hC h dX12_foresees_28 hl (k := 2) rfl rfl (by decide) (fun y3 => [(2, .int y3), (0, .ref (al 7 0)), (1, .int x1)]) (fun _ => rfl) (fun y3 ls h hl => ?_)
    refine lv_goto (tgt := 2) hx hb dX12_foresees_31 (by decide) ?_
    exact hk2 σ2 x1 y3 H locs ls h hP hS (lv_sub hl [1, 2, 0] rfl)

set_option maxHeartbeats 4000000 in
set_option maxRecDepth 20000 in
theorem wM_foresees_2 {p : Program} {l : Launch} {e : Env} {s : State} {m : MethodId} {args : Array Value} {below : List Frame} {meth : Method} {c : Code} {x : Wx} {al : Nat → Nat → Nat} {lv : Nat → Bool} {res : Sg} (hC : Cx x p s m args meth c cX12_foresees 3 none RX12) (n : Nat) (σ : Sg) (x1 : Int32) (x2 : Int32) (H : Heap) (locs : List Loc) (ls : Array Slot) (h : fM_foresees_2 n σ x1 x2 = some res) (hP : Pic x al lv σ H) (hS : va_S (Ab x) s.heap H locs) (hl : lv_has ls 3 [(0, .ref (al 7 0)), (1, .int x1), (2, .int x2)]) : W p l e (rmm 2 0 0) s m args below meth c H locs 0 0 (MQ below (QV x al lv res) args s 0 0 (Ab x)) (F0 m 2 ls []) := by
  induction n generalizing σ x1 x2 H locs ls with
  | zero => exact nomatch h
  | succ n ih => exact wM_foresees_2_b  hC  _ (fun σ x1 x2 H locs ls h hP hS hl => ih σ x1 x2 H locs ls h hP hS hl) σ x1 x2 H locs ls h hP hS hl
set_option maxHeartbeats 4000000 in
set_option maxRecDepth 20000 in
theorem wM_foresees_0 {p : Program} {l : Launch} {e : Env} {s : State} {m : MethodId} {args : Array Value} {below : List Frame} {meth : Method} {c : Code} {x : Wx} {al : Nat → Nat → Nat} {lv : Nat → Bool} {res : Sg} (hC : Cx x p s m args meth c cX12_foresees 3 none RX12) (σ : Sg) (v1 : Int32) (H : Heap) (locs : List Loc) (ls : Array Slot) (h : fM_foresees_0 σ v1 = some res) (hP : Pic x al lv σ H) (hS : va_S (Ab x) s.heap H locs) (hl : lv_has ls 3 [(0, .ref (al 7 0)), (1, .int v1)]) : W p l e (rmm 2 0 0) s m args below meth c H locs 0 0 (MQ below (QV x al lv res) args s 0 0 (Ab x)) (F0 m 0 ls []) := by
  obtain ⟨hx, hb, hml, hown, hts⟩ := hC.1
  unfold fM_foresees_0 at h
  refine lv_iconst (v := 0) hx hb dX12_foresees_0 (by decide) ?_
  refine lv_istore_n (lv' := [(2, .int 0), (0, .ref (al 7 0)), (1, .int v1)]) hx hb dX12_foresees_1 rfl hl (by decide) rfl (fun ls hl => ?_)
  exact wM_foresees_2  hC  FU σ v1 0 H locs ls h hP hS (lv_sub hl [1, 2, 0] rfl)

set_option maxRecDepth 20000 in
theorem tM_foresees {l : Launch} (x : Wx) (al : Nat → Nat → Nat) (lv : Nat → Bool) (σ : Sg) (v1 : Int32) (res : Sg) (h : fM_foresees σ v1 = some res) : Met l yX12_foresees (Cond.code yX12_foresees cX12_foresees 3 none :: lwg) (rmm 2 0 0) (va_Pc [.ref (al 7 0), .int v1] (Wd x al lv σ)) (QV x al lv res) 0 0 (Ab x) := by
  refine met_W (by decide) (Nat.le_of_ble_eq_true rfl) rfl (fun p e s m args below meth c ls hC hP hS hl => ?_)
  exact wM_foresees_0  hC σ v1 _ _ ls h hP hS hl
set_option maxHeartbeats 4000000 in
set_option maxRecDepth 20000 in
theorem wM_allBlocks_29 {p : Program} {l : Launch} {e : Env} {s : State} {m : MethodId} {args : Array Value} {below : List Frame} {meth : Method} {c : Code} {x : Wx} {al : Nat → Nat → Nat} {lv : Nat → Bool} {res : Int32} {σ : Sg} (hC : Cx x p s m args meth c cX12_allBlocks 3 (some .int) RX12) (k4 : Int32 → Int32 → Option (Int32)) (hk4 : ∀ (x1 : Int32) (x2 : Int32) (H : Heap) (locs : List Loc) (ls : Array Slot), k4 x1 x2 = some res → Pic x al lv σ H → va_S (Ab x) s.heap H locs → lv_has ls 3 [(0, .ref (al 7 0)), (1, .int x1), (2, .int x2)] → W p l e (rmm 1 0 0) s m args below meth c H locs 0 0 (MQ below (QP x al lv σ res) args s 0 0 (Ab x)) (F0 m 4 ls [])) (x2 : Int32) (t0 : Int32) (t1 : Int32) (H : Heap) (locs : List Loc) (ls : Array Slot) (h : fM_allBlocks_29 k4 σ x2 t0 t1 = some res) (hP : Pic x al lv σ H) (hS : va_S (Ab x) s.heap H locs) (hl : lv_has ls 3 [(0, .ref (al 7 0)), (2, .int x2)]) : W p l e (rmm 1 0 0) s m args below meth c H locs 0 0 (MQ below (QP x al lv σ res) args s 0 0 (Ab x)) (F0 m 29 ls [.int t0, .int t1]) := by
  obtain ⟨hx, hb, hml, hown, hts⟩ := hC.1
  unfold fM_allBlocks_29 at h
  refine lv_iadd hx hb dX12_allBlocks_29 ?_
  refine r_lt h (fun y1 h => ?_)
  refine lv_istore_n (lv' := [(1, .int y1), (0, .ref (al 7 0)), (2, .int x2)]) hx hb dX12_allBlocks_30 rfl hl (by decide) rfl (fun ls hl => ?_)
  refine r_iinc (v := 1) hC h dX12_allBlocks_31 hl (k := 2) rfl rfl (by decide) (fun y2 => [(2, .int y2), (1, .int y1), (0, .ref (al 7 0))]) (fun _ => rfl) (fun y2 ls h hl => ?_)
  refine lv_goto (tgt := 4) hx hb dX12_allBlocks_34 (by decide) ?_
  exact hk4 y1 y2 H locs ls h hP hS (lv_sub hl [2, 1, 0] rfl)

set_option maxHeartbeats 4000000 in
set_option maxRecDepth 20000 in
theorem wM_allBlocks_4_b {p : Program} {l : Launch} {e : Env} {s : State} {m : MethodId} {args : Array Value} {below : List Frame} {meth : Method} {c : Code} {x : Wx} {al : Nat → Nat → Nat} {lv : Nat → Bool} {res : Int32} {σ : Sg} (hC : Cx x p s m args meth c cX12_allBlocks 3 (some .int) RX12) (k4 : Int32 → Int32 → Option (Int32)) (hk4 : ∀ (x1 : Int32) (x2 : Int32) (H : Heap) (locs : List Loc) (ls : Array Slot), k4 x1 x2 = some res → Pic x al lv σ H → va_S (Ab x) s.heap H locs → lv_has ls 3 [(0, .ref (al 7 0)), (1, .int x1), (2, .int x2)] → W p l e (rmm 1 0 0) s m args below meth c H locs 0 0 (MQ below (QP x al lv σ res) args s 0 0 (Ab x)) (F0 m 4 ls [])) (x1 : Int32) (x2 : Int32) (H : Heap) (locs : List Loc) (ls : Array Slot) (h : fM_allBlocks_4_b k4 σ x1 x2 = some res) (hP : Pic x al lv σ H) (hS : va_S (Ab x) s.heap H locs) (hl : lv_has ls 3 [(0, .ref (al 7 0)), (1, .int x1), (2, .int x2)]) : W p l e (rmm 1 0 0) s m args below meth c H locs 0 0 (MQ below (QP x al lv σ res) args s 0 0 (Ab x)) (F0 m 4 ls []) := by
  obtain ⟨hx, hb, hml, hown, hts⟩ := hC.1
  unfold fM_allBlocks_4_b at h
  refine lv_iload_n hx hb dX12_allBlocks_4 rfl (lv_at hl 2 rfl) ?_
  refine lv_aload_n hx hb dX12_allBlocks_5 rfl (lv_at hl 0 rfl) ?_
  refine gt_X12_8 hC hP wf_X12_34 dX12_allBlocks_6 ?_
  refine lv_iconst (v := 0) hx hb dX12_allBlocks_9 (by decide) ?_
  refine r_iald hC hP (aM_8 hP.l7) h dX12_allBlocks_10 (fun h => ?_)
  refine lv_icmp_ge (tgt := 37) hx hb dX12_allBlocks_11 (by decide) (fun hc => ?_) (fun hc => ?_)
  · replace h := (br h).1 hc
    refine lv_iload_n hx hb dX12_allBlocks_37 rfl (lv_at hl 1 rfl) ?_
    exact r_retP hC hP hS rfl h dX12_allBlocks_38
  · replace h := (br h).2 hc
    refine lv_iload_n hx hb dX12_allBlocks_14 rfl (lv_at hl 1 rfl) ?_
    refine lv_aload_n hx hb dX12_allBlocks_15 rfl (lv_at hl 0 rfl) ?_
    refine gt_X12_21 hC hP wf_X12_73 dX12_allBlocks_16 ?_
    refine lv_iload_n hx hb dX12_allBlocks_19 rfl (lv_at hl 2 rfl) ?_
    refine r_iald hC hP (aM_21 hP.l7) h dX12_allBlocks_20 (fun h => ?_)
    refine lv_if_lt (tgt := 28) hx hb dX12_allBlocks_21 (by decide) (fun hc => ?_) (fun hc => ?_)
    · replace h := (br h).1 hc
      refine lv_iconst (v := 0) hx hb dX12_allBlocks_28 (by decide) ?_
      exact wM_allBlocks_29  hC k4 hk4 x2 0 x1 H locs ls h hP hS (lv_sub hl [0, 2] rfl)
    · replace h := (br h).2 hc
      refine lv_iconst (v := 1) hx hb dX12_allBlocks_24 (by decide) ?_
      refine lv_goto (tgt := 29) hx hb dX12_allBlocks_25 (by decide) ?_
      exact wM_allBlocks_29  hC k4 hk4 x2 1 x1 H locs ls h hP hS (lv_sub hl [0, 2] rfl)

set_option maxHeartbeats 4000000 in
set_option maxRecDepth 20000 in
theorem wM_allBlocks_4 {p : Program} {l : Launch} {e : Env} {s : State} {m : MethodId} {args : Array Value} {below : List Frame} {meth : Method} {c : Code} {x : Wx} {al : Nat → Nat → Nat} {lv : Nat → Bool} {res : Int32} {σ : Sg} (hC : Cx x p s m args meth c cX12_allBlocks 3 (some .int) RX12) (n : Nat) (x1 : Int32) (x2 : Int32) (H : Heap) (locs : List Loc) (ls : Array Slot) (h : fM_allBlocks_4 n σ x1 x2 = some res) (hP : Pic x al lv σ H) (hS : va_S (Ab x) s.heap H locs) (hl : lv_has ls 3 [(0, .ref (al 7 0)), (1, .int x1), (2, .int x2)]) : W p l e (rmm 1 0 0) s m args below meth c H locs 0 0 (MQ below (QP x al lv σ res) args s 0 0 (Ab x)) (F0 m 4 ls []) := by
  induction n generalizing x1 x2 H locs ls with
  | zero => exact nomatch h
  | succ n ih => exact wM_allBlocks_4_b  hC  _ (fun x1 x2 H locs ls h hP hS hl => ih x1 x2 H locs ls h hP hS hl) x1 x2 H locs ls h hP hS hl
set_option maxHeartbeats 4000000 in
set_option maxRecDepth 20000 in
theorem wM_allBlocks_0 {p : Program} {l : Launch} {e : Env} {s : State} {m : MethodId} {args : Array Value} {below : List Frame} {meth : Method} {c : Code} {x : Wx} {al : Nat → Nat → Nat} {lv : Nat → Bool} {res : Int32} {σ : Sg} (hC : Cx x p s m args meth c cX12_allBlocks 3 (some .int) RX12) (H : Heap) (locs : List Loc) (ls : Array Slot) (h : fM_allBlocks_0 σ = some res) (hP : Pic x al lv σ H) (hS : va_S (Ab x) s.heap H locs) (hl : lv_has ls 3 [(0, .ref (al 7 0))]) : W p l e (rmm 1 0 0) s m args below meth c H locs 0 0 (MQ below (QP x al lv σ res) args s 0 0 (Ab x)) (F0 m 0 ls []) := by
  obtain ⟨hx, hb, hml, hown, hts⟩ := hC.1
  unfold fM_allBlocks_0 at h
  refine lv_iconst (v := 0) hx hb dX12_allBlocks_0 (by decide) ?_
  refine lv_istore_n (lv' := [(1, .int 0), (0, .ref (al 7 0))]) hx hb dX12_allBlocks_1 rfl hl (by decide) rfl (fun ls hl => ?_)
  refine lv_iconst (v := 0) hx hb dX12_allBlocks_2 (by decide) ?_
  refine lv_istore_n (lv' := [(2, .int 0), (1, .int 0), (0, .ref (al 7 0))]) hx hb dX12_allBlocks_3 rfl hl (by decide) rfl (fun ls hl => ?_)
  exact wM_allBlocks_4  hC  FU 0 0 H locs ls h hP hS (lv_sub hl [2, 1, 0] rfl)

set_option maxRecDepth 20000 in
theorem tM_allBlocks {l : Launch} (x : Wx) (al : Nat → Nat → Nat) (lv : Nat → Bool) (σ : Sg) (res : Int32) (h : fM_allBlocks σ = some res) : Met l yX12_allBlocks (Cond.code yX12_allBlocks cX12_allBlocks 3 (some .int) :: lwg) (rmm 1 0 0) (va_Pc [.ref (al 7 0)] (Wd x al lv σ)) (QP x al lv σ res) 0 0 (Ab x) := by
  refine met_W (by decide) (Nat.le_of_ble_eq_true rfl) rfl (fun p e s m args below meth c ls hC hP hS hl => ?_)
  exact wM_allBlocks_0  hC  _ _ ls h hP hS hl
set_option maxHeartbeats 4000000 in
set_option maxRecDepth 20000 in
theorem wM_foretell_22 {p : Program} {l : Launch} {e : Env} {s : State} {m : MethodId} {args : Array Value} {below : List Frame} {meth : Method} {c : Code} {x : Wx} {al : Nat → Nat → Nat} {lv : Nat → Bool} {res : Int32 × Sg} (hC : Cx x p s m args meth c cX12_foretell 6 (some .int) RX12) (σ : Sg) (H : Heap) (locs : List Loc) (ls : Array Slot) (h : fM_foretell_22 σ = some res) (hP : Pic x al lv σ H) (hS : va_S (Ab x) s.heap H locs) (hl : lv_has ls 6 [(0, .ref (al 7 0))]) : W p l e (rmm 7 0 0) s m args below meth c H locs 0 0 (MQ below (QI x al lv res) args s 0 0 (Ab x)) (F0 m 22 ls []) := by
  obtain ⟨hx, hb, hml, hown, hts⟩ := hC.1
  unfold fM_foretell_22 at h
  refine lv_aload_n hx hb dX12_foretell_22 rfl (lv_at hl 0 rfl) ?_
  refine lv_iconst (v := (-1)) hx hb dX12_foretell_23 (by decide) ?_
  refine r_cI hS h (fun r hr => r_runV (As := [.int ((-1))]) (rest := []) hC kV_X12_151 cw_X12_ends (rc_X12 hC hP) hP (tM_ends x al lv σ ((-1)) r hr) rfl hl.1 ⟨Nat.le_of_ble_eq_true rfl, Nat.le_of_ble_eq_true rfl⟩ ⟨Nat.le_of_ble_eq_true rfl, Nat.le_of_ble_eq_true rfl⟩ (Nat.le_of_ble_eq_true rfl) dX12_foretell_24) (fun y20 σ21 H locs h hP hS => ?_)
  exact r_retI hC hP hS rfl h dX12_foretell_27

set_option maxHeartbeats 4000000 in
set_option maxRecDepth 20000 in
theorem wM_foretell_177 {p : Program} {l : Launch} {e : Env} {s : State} {m : MethodId} {args : Array Value} {below : List Frame} {meth : Method} {c : Code} {x : Wx} {al : Nat → Nat → Nat} {lv : Nat → Bool} {res : Int32 × Sg} (hC : Cx x p s m args meth c cX12_foretell 6 (some .int) RX12) (k115 : Sg → Int32 → Int32 → Int32 → Option (Int32 × Sg)) (hk115 : ∀ (σ : Sg) (x2 : Int32) (x3 : Int32) (x4 : Int32) (H : Heap) (locs : List Loc) (ls : Array Slot), k115 σ x2 x3 x4 = some res → Pic x al lv σ H → va_S (Ab x) s.heap H locs → lv_has ls 6 [(0, .ref (al 7 0)), (2, .int x2), (3, .int x3), (4, .int x4)] → W p l e (rmm 7 0 0) s m args below meth c H locs 0 0 (MQ below (QI x al lv res) args s 0 0 (Ab x)) (F0 m 115 ls [])) (σ : Sg) (x2 : Int32) (x3 : Int32) (x4 : Int32) (H : Heap) (locs : List Loc) (ls : Array Slot) (h : fM_foretell_177 k115 σ x2 x3 x4 = some res) (hP : Pic x al lv σ H) (hS : va_S (Ab x) s.heap H locs) (hl : lv_has ls 6 [(0, .ref (al 7 0)), (2, .int x2), (3, .int x3), (4, .int x4)]) : W p l e (rmm 7 0 0) s m args below meth c H locs 0 0 (MQ below (QI x al lv res) args s 0 0 (Ab x)) (F0 m 177 ls []) := by
  obtain ⟨hx, hb, hml, hown, hts⟩ := hC.1
  unfold fM_foretell_177 at h
  refine r_iinc (v := 1) hC h dX12_foretell_177 hl (k := 3) rfl rfl (by decide) (fun y19 => [(4, .int y19), (0, .ref (al 7 0)), (2, .int x2), (3, .int x3)]) (fun _ => rfl) (fun y19 ls h hl => ?_)
  refine lv_goto (tgt := 115) hx hb dX12_foretell_180 (by decide) ?_
  exact hk115 σ x2 x3 y19 H locs ls h hP hS (lv_sub hl [1, 2, 3, 0] rfl)

set_option maxHeartbeats 4000000 in
set_option maxRecDepth 20000 in
theorem wM_foretell_144 {p : Program} {l : Launch} {e : Env} {s : State} {m : MethodId} {args : Array Value} {below : List Frame} {meth : Method} {c : Code} {x : Wx} {al : Nat → Nat → Nat} {lv : Nat → Bool} {res : Int32 × Sg} (hC : Cx x p s m args meth c cX12_foretell 6 (some .int) RX12) (k115 : Sg → Int32 → Int32 → Int32 → Option (Int32 × Sg)) (hk115 : ∀ (σ : Sg) (x2 : Int32) (x3 : Int32) (x4 : Int32) (H : Heap) (locs : List Loc) (ls : Array Slot), k115 σ x2 x3 x4 = some res → Pic x al lv σ H → va_S (Ab x) s.heap H locs → lv_has ls 6 [(0, .ref (al 7 0)), (2, .int x2), (3, .int x3), (4, .int x4)] → W p l e (rmm 7 0 0) s m args below meth c H locs 0 0 (MQ below (QI x al lv res) args s 0 0 (Ab x)) (F0 m 115 ls [])) (σ : Sg) (x2 : Int32) (x3 : Int32) (x4 : Int32) (x5 : Int32) (t0 : Int32) (H : Heap) (locs : List Loc) (ls : Array Slot) (h : fM_foretell_144 k115 σ x2 x3 x4 x5 t0 = some res) (hP : Pic x al lv σ H) (hS : va_S (Ab x) s.heap H locs) (hl : lv_has ls 6 [(0, .ref (al 7 0)), (2, .int x2), (3, .int x3), (4, .int x4), (5, .int x5)]) : W p l e (rmm 7 0 0) s m args below meth c H locs 0 0 (MQ below (QI x al lv res) args s 0 0 (Ab x)) (F0 m 144 ls [.int t0, .ref (al 7 0)]) := by
  obtain ⟨hx, hb, hml, hown, hts⟩ := hC.1
  unfold fM_foretell_144 at h
  refine lv_iconst (v := 0) hx hb dX12_foretell_144 (by decide) ?_
  refine r_cI hS h (fun r hr => r_runV (As := [.int t0, .int 0]) (rest := []) hC kV_X12_249 cw_X12_goes (rc_X12 hC hP) hP (tM_goes x al lv σ t0 0 r hr) rfl hl.1 ⟨Nat.le_of_ble_eq_true rfl, Nat.le_of_ble_eq_true rfl⟩ ⟨Nat.le_of_ble_eq_true rfl, Nat.le_of_ble_eq_true rfl⟩ (Nat.le_of_ble_eq_true rfl) dX12_foretell_145) (fun y14 σ15 H locs h hP hS => ?_)
  refine lv_pop hx hb dX12_foretell_148 rfl ?_
  refine lv_aload_n hx hb dX12_foretell_149 rfl (lv_at hl 0 rfl) ?_
  refine lv_iload hx hb dX12_foretell_150 (lv_at hl 3 rfl) ?_
  refine r_cV hS h (fun r hr => r_runV (As := [.int x4]) (rest := []) hC kV_X12_300 cw_X12_foresees (rc_X12 hC hP) hP (tM_foresees x al lv σ15 x4 r hr) rfl hl.1 ⟨Nat.le_of_ble_eq_true rfl, Nat.le_of_ble_eq_true rfl⟩ ⟨Nat.le_of_ble_eq_true rfl, Nat.le_of_ble_eq_true rfl⟩ (Nat.le_of_ble_eq_true rfl) dX12_foretell_152) (fun σ16 H locs h hP hS => ?_)
  refine lv_aload_n hx hb dX12_foretell_155 rfl (lv_at hl 0 rfl) ?_
  refine gt_X12_46 hC hP wf_X12_121 dX12_foretell_156 ?_
  refine lv_bipush (v := (-2)) hx hb dX12_foretell_159 (by decide) ?_
  refine lv_icmp_ne (tgt := 177) hx hb dX12_foretell_161 (by decide) (fun hc => ?_) (fun hc => ?_)
  · replace h := (br h).2 hc
    exact wM_foretell_177  hC k115 hk115 σ16 x2 x3 x4 H locs ls h hP hS (lv_sub hl [0, 1, 2, 3] rfl)
  · replace h := (br h).1 hc
    refine lv_aload_n hx hb dX12_foretell_164 rfl (lv_at hl 0 rfl) ?_
    refine r_cP hS h (fun r hr => r_runV (As := []) (rest := []) hC kV_X12_296 cw_X12_allBlocks (rc_X12 hC hP) hP (tM_allBlocks x al lv σ16  r hr) rfl hl.1 ⟨Nat.le_of_ble_eq_true rfl, Nat.le_of_ble_eq_true rfl⟩ ⟨Nat.le_of_ble_eq_true rfl, Nat.le_of_ble_eq_true rfl⟩ (Nat.le_of_ble_eq_true rfl) dX12_foretell_165) (fun y17 H locs h hP hS => ?_)
    refine lv_if_ne (tgt := 177) hx hb dX12_foretell_168 (by decide) (fun hc => ?_) (fun hc => ?_)
    · replace h := (br h).2 hc
      exact wM_foretell_177  hC k115 hk115 σ16 x2 x3 x4 H locs ls h hP hS (lv_sub hl [0, 1, 2, 3] rfl)
    · replace h := (br h).1 hc
      refine lv_aload_n hx hb dX12_foretell_171 rfl (lv_at hl 0 rfl) ?_
      refine lv_iload hx hb dX12_foretell_172 (lv_at hl 4 rfl) ?_
      refine pt_X12_46 hC hP hS wf_X12_121 h dX12_foretell_174 (fun σ18 H locs h hP hS => ?_)
      exact wM_foretell_177  hC k115 hk115 σ18 x2 x3 x4 H locs ls h hP hS (lv_sub hl [0, 1, 2, 3] rfl)

set_option maxHeartbeats 4000000 in
set_option maxRecDepth 20000 in
theorem wM_foretell_115_b {p : Program} {l : Launch} {e : Env} {s : State} {m : MethodId} {args : Array Value} {below : List Frame} {meth : Method} {c : Code} {x : Wx} {al : Nat → Nat → Nat} {lv : Nat → Bool} {res : Int32 × Sg} (hC : Cx x p s m args meth c cX12_foretell 6 (some .int) RX12) (k115 : Sg → Int32 → Int32 → Int32 → Option (Int32 × Sg)) (hk115 : ∀ (σ : Sg) (x2 : Int32) (x3 : Int32) (x4 : Int32) (H : Heap) (locs : List Loc) (ls : Array Slot), k115 σ x2 x3 x4 = some res → Pic x al lv σ H → va_S (Ab x) s.heap H locs → lv_has ls 6 [(0, .ref (al 7 0)), (2, .int x2), (3, .int x3), (4, .int x4)] → W p l e (rmm 7 0 0) s m args below meth c H locs 0 0 (MQ below (QI x al lv res) args s 0 0 (Ab x)) (F0 m 115 ls [])) (σ : Sg) (x2 : Int32) (x3 : Int32) (x4 : Int32) (H : Heap) (locs : List Loc) (ls : Array Slot) (h : fM_foretell_115_b k115 σ x2 x3 x4 = some res) (hP : Pic x al lv σ H) (hS : va_S (Ab x) s.heap H locs) (hl : lv_has ls 6 [(0, .ref (al 7 0)), (2, .int x2), (3, .int x3), (4, .int x4)]) : W p l e (rmm 7 0 0) s m args below meth c H locs 0 0 (MQ below (QI x al lv res) args s 0 0 (Ab x)) (F0 m 115 ls []) := by
  obtain ⟨hx, hb, hml, hown, hts⟩ := hC.1
  unfold fM_foretell_115_b at h
  refine lv_iload hx hb dX12_foretell_115 (lv_at hl 3 rfl) ?_
  refine lv_iload_n hx hb dX12_foretell_117 rfl (lv_at hl 2 rfl) ?_
  refine lv_icmp_gt (tgt := 183) hx hb dX12_foretell_118 (by decide) (fun hc => ?_) (fun hc => ?_)
  · replace h := (br h).1 hc
    refine lv_aload_n hx hb dX12_foretell_183 rfl (lv_at hl 0 rfl) ?_
    refine lv_iconst (v := 5) hx hb dX12_foretell_184 (by decide) ?_
    refine lv_iconst (v := 0) hx hb dX12_foretell_185 (by decide) ?_
    refine r_cV hS h (fun r hr => r_runV (As := [.int 5, .int 0]) (rest := []) hC kV_X12_283 cw_X12_copy (rc_X12 hC hP) hP (tM_copy x al lv σ 5 0 r hr) rfl hl.1 ⟨Nat.le_of_ble_eq_true rfl, Nat.le_of_ble_eq_true rfl⟩ ⟨Nat.le_of_ble_eq_true rfl, Nat.le_of_ble_eq_true rfl⟩ (Nat.le_of_ble_eq_true rfl) dX12_foretell_186) (fun σ10 H locs h hP hS => ?_)
    refine lv_aload_n hx hb dX12_foretell_189 rfl (lv_at hl 0 rfl) ?_
    refine lv_iload_n hx hb dX12_foretell_190 rfl (lv_at hl 2 rfl) ?_
    refine r_cI hS h (fun r hr => r_runV (As := [.int x3]) (rest := []) hC kV_X12_151 cw_X12_ends (rc_X12 hC hP) hP (tM_ends x al lv σ10 x3 r hr) rfl hl.1 ⟨Nat.le_of_ble_eq_true rfl, Nat.le_of_ble_eq_true rfl⟩ ⟨Nat.le_of_ble_eq_true rfl, Nat.le_of_ble_eq_true rfl⟩ (Nat.le_of_ble_eq_true rfl) dX12_foretell_191) (fun y11 σ12 H locs h hP hS => ?_)
    exact r_retI hC hP hS rfl h dX12_foretell_194
  · replace h := (br h).2 hc
    refine lv_aload_n hx hb dX12_foretell_121 rfl (lv_at hl 0 rfl) ?_
    refine gt_X12_6 hC hP wf_X12_27 dX12_foretell_122 ?_
    refine lv_iconst (v := 0) hx hb dX12_foretell_125 (by decide) ?_
    refine r_iald hC hP (aM_6 hP.l7) h dX12_foretell_126 (fun h => ?_)
    refine r_lt h (fun y13 h => ?_)
    refine lv_istore (lv' := [(5, .int y13), (0, .ref (al 7 0)), (2, .int x2), (3, .int x3), (4, .int x4)]) hx hb dX12_foretell_127 hl (by decide) rfl (fun ls hl => ?_)
    refine lv_aload_n hx hb dX12_foretell_129 rfl (lv_at hl 1 rfl) ?_
    refine lv_iload hx hb dX12_foretell_130 (lv_at hl 0 rfl) ?_
    refine lv_iload_n hx hb dX12_foretell_132 rfl (lv_at hl 2 rfl) ?_
    refine lv_icmp_le (tgt := 143) hx hb dX12_foretell_133 (by decide) (fun hc => ?_) (fun hc => ?_)
    · replace h := (br h).1 hc
      refine lv_iconst (v := 0) hx hb dX12_foretell_143 (by decide) ?_
      exact wM_foretell_144  hC k115 hk115 σ x2 x3 x4 y13 0 H locs ls h hP hS (lv_sub hl [1, 2, 3, 4, 0] rfl)
    · replace h := (br h).2 hc
      refine lv_iload hx hb dX12_foretell_136 (lv_at hl 0 rfl) ?_
      refine lv_iload_n hx hb dX12_foretell_138 rfl (lv_at hl 2 rfl) ?_
      refine lv_isub hx hb dX12_foretell_139 ?_
      refine lv_goto (tgt := 144) hx hb dX12_foretell_140 (by decide) ?_
      exact wM_foretell_144  hC k115 hk115 σ x2 x3 x4 y13 (y13 - x2) H locs ls h hP hS (lv_sub hl [1, 2, 3, 4, 0] rfl)

set_option maxHeartbeats 4000000 in
set_option maxRecDepth 20000 in
theorem wM_foretell_115 {p : Program} {l : Launch} {e : Env} {s : State} {m : MethodId} {args : Array Value} {below : List Frame} {meth : Method} {c : Code} {x : Wx} {al : Nat → Nat → Nat} {lv : Nat → Bool} {res : Int32 × Sg} (hC : Cx x p s m args meth c cX12_foretell 6 (some .int) RX12) (n : Nat) (σ : Sg) (x2 : Int32) (x3 : Int32) (x4 : Int32) (H : Heap) (locs : List Loc) (ls : Array Slot) (h : fM_foretell_115 n σ x2 x3 x4 = some res) (hP : Pic x al lv σ H) (hS : va_S (Ab x) s.heap H locs) (hl : lv_has ls 6 [(0, .ref (al 7 0)), (2, .int x2), (3, .int x3), (4, .int x4)]) : W p l e (rmm 7 0 0) s m args below meth c H locs 0 0 (MQ below (QI x al lv res) args s 0 0 (Ab x)) (F0 m 115 ls []) := by
  induction n generalizing σ x2 x3 x4 H locs ls with
  | zero => exact nomatch h
  | succ n ih => exact wM_foretell_115_b  hC  _ (fun σ x2 x3 x4 H locs ls h hP hS hl => ih σ x2 x3 x4 H locs ls h hP hS hl) σ x2 x3 x4 H locs ls h hP hS hl
set_option maxHeartbeats 4000000 in
set_option maxRecDepth 20000 in
theorem wM_foretell_104 {p : Program} {l : Launch} {e : Env} {s : State} {m : MethodId} {args : Array Value} {below : List Frame} {meth : Method} {c : Code} {x : Wx} {al : Nat → Nat → Nat} {lv : Nat → Bool} {res : Int32 × Sg} (hC : Cx x p s m args meth c cX12_foretell 6 (some .int) RX12) (σ : Sg) (x2 : Int32) (x3 : Int32) (t0 : Int32) (H : Heap) (locs : List Loc) (ls : Array Slot) (h : fM_foretell_104 σ x2 x3 t0 = some res) (hP : Pic x al lv σ H) (hS : va_S (Ab x) s.heap H locs) (hl : lv_has ls 6 [(0, .ref (al 7 0)), (2, .int x2), (3, .int x3)]) : W p l e (rmm 7 0 0) s m args below meth c H locs 0 0 (MQ below (QI x al lv res) args s 0 0 (Ab x)) (F0 m 104 ls [.int t0, .ref (al 7 0)]) := by
  obtain ⟨hx, hb, hml, hown, hts⟩ := hC.1
  unfold fM_foretell_104 at h
  refine pt_X12_46 hC hP hS wf_X12_121 h dX12_foretell_104 (fun σ8 H locs h hP hS => ?_)
  refine lv_aload_n hx hb dX12_foretell_107 rfl (lv_at hl 0 rfl) ?_
  refine lv_iconst (v := 0) hx hb dX12_foretell_108 (by decide) ?_
  refine r_cV hS h (fun r hr => r_runV (As := [.int 0]) (rest := []) hC kV_X12_300 cw_X12_foresees (rc_X12 hC hP) hP (tM_foresees x al lv σ8 0 r hr) rfl hl.1 ⟨Nat.le_of_ble_eq_true rfl, Nat.le_of_ble_eq_true rfl⟩ ⟨Nat.le_of_ble_eq_true rfl, Nat.le_of_ble_eq_true rfl⟩ (Nat.le_of_ble_eq_true rfl) dX12_foretell_109) (fun σ9 H locs h hP hS => ?_)
  refine lv_iconst (v := 1) hx hb dX12_foretell_112 (by decide) ?_
  refine lv_istore (lv' := [(4, .int 1), (0, .ref (al 7 0)), (2, .int x2), (3, .int x3)]) hx hb dX12_foretell_113 hl (by decide) rfl (fun ls hl => ?_)
  exact wM_foretell_115  hC  FU σ9 x2 x3 1 H locs ls h hP hS (lv_sub hl [1, 2, 3, 0] rfl)

set_option maxHeartbeats 4000000 in
set_option maxRecDepth 20000 in
theorem wM_foretell_56 {p : Program} {l : Launch} {e : Env} {s : State} {m : MethodId} {args : Array Value} {below : List Frame} {meth : Method} {c : Code} {x : Wx} {al : Nat → Nat → Nat} {lv : Nat → Bool} {res : Int32 × Sg} (hC : Cx x p s m args meth c cX12_foretell 6 (some .int) RX12) (σ : Sg) (x2 : Int32) (t0 : Int32) (H : Heap) (locs : List Loc) (ls : Array Slot) (h : fM_foretell_56 σ x2 t0 = some res) (hP : Pic x al lv σ H) (hS : va_S (Ab x) s.heap H locs) (hl : lv_has ls 6 [(0, .ref (al 7 0)), (2, .int x2)]) : W p l e (rmm 7 0 0) s m args below meth c H locs 0 0 (MQ below (QI x al lv res) args s 0 0 (Ab x)) (F0 m 56 ls [.int t0]) := by
  obtain ⟨hx, hb, hml, hown, hts⟩ := hC.1
  unfold fM_foretell_56 at h
  refine lv_istore_n (lv' := [(3, .int t0), (0, .ref (al 7 0)), (2, .int x2)]) hx hb dX12_foretell_56 rfl hl (by decide) rfl (fun ls hl => ?_)
  refine lv_aload_n hx hb dX12_foretell_57 rfl (lv_at hl 1 rfl) ?_
  refine lv_iconst (v := 0) hx hb dX12_foretell_58 (by decide) ?_
  refine lv_iconst (v := 5) hx hb dX12_foretell_59 (by decide) ?_
  refine r_cV hS h (fun r hr => r_runV (As := [.int 0, .int 5]) (rest := []) hC kV_X12_283 cw_X12_copy (rc_X12 hC hP) hP (tM_copy x al lv σ 0 5 r hr) rfl hl.1 ⟨Nat.le_of_ble_eq_true rfl, Nat.le_of_ble_eq_true rfl⟩ ⟨Nat.le_of_ble_eq_true rfl, Nat.le_of_ble_eq_true rfl⟩ (Nat.le_of_ble_eq_true rfl) dX12_foretell_60) (fun σ3 H locs h hP hS => ?_)
  refine lv_aload_n hx hb dX12_foretell_63 rfl (lv_at hl 1 rfl) ?_
  refine lv_iconst (v := 1) hx hb dX12_foretell_64 (by decide) ?_
  refine pt_X12_47 hC hP hS wf_X12_287 h dX12_foretell_65 (fun σ4 H locs h hP hS => ?_)
  refine lv_aload_n hx hb dX12_foretell_68 rfl (lv_at hl 1 rfl) ?_
  refine lv_iload_n hx hb dX12_foretell_69 rfl (lv_at hl 0 rfl) ?_
  refine pt_X12_44 hC hP hS wf_X12_290 h dX12_foretell_70 (fun σ5 H locs h hP hS => ?_)
  refine lv_aload_n hx hb dX12_foretell_73 rfl (lv_at hl 1 rfl) ?_
  refine lv_aload_n hx hb dX12_foretell_74 rfl (lv_at hl 1 rfl) ?_
  refine gt_X12_7 hC hP wf_X12_31 dX12_foretell_75 ?_
  refine lv_iconst (v := 0) hx hb dX12_foretell_78 (by decide) ?_
  refine r_iald hC hP (aM_7 hP.l7) h dX12_foretell_79 (fun h => ?_)
  refine pt_X12_45 hC hP hS wf_X12_293 h dX12_foretell_80 (fun σ6 H locs h hP hS => ?_)
  refine lv_aload_n hx hb dX12_foretell_83 rfl (lv_at hl 1 rfl) ?_
  refine lv_aload_n hx hb dX12_foretell_84 rfl (lv_at hl 1 rfl) ?_
  refine r_cP hS h (fun r hr => r_runV (As := []) (rest := [.ref (al 7 0)]) hC kV_X12_296 cw_X12_allBlocks (rc_X12 hC hP) hP (tM_allBlocks x al lv σ6  r hr) rfl hl.1 ⟨Nat.le_of_ble_eq_true rfl, Nat.le_of_ble_eq_true rfl⟩ ⟨Nat.le_of_ble_eq_true rfl, Nat.le_of_ble_eq_true rfl⟩ (Nat.le_of_ble_eq_true rfl) dX12_foretell_85) (fun y7 H locs h hP hS => ?_)
  refine lv_if_ne (tgt := 102) hx hb dX12_foretell_88 (by decide) (fun hc => ?_) (fun hc => ?_)
  · replace h := (br h).2 hc
    refine lv_bipush (v := (-2)) hx hb dX12_foretell_102 (by decide) ?_
    exact wM_foretell_104  hC  σ6 x2 t0 ((-2)) H locs ls h hP hS (lv_sub hl [1, 2, 0] rfl)
  · replace h := (br h).1 hc
    refine lv_aload_n hx hb dX12_foretell_91 rfl (lv_at hl 1 rfl) ?_
    refine gt_X12_6 hC hP wf_X12_27 dX12_foretell_92 ?_
    refine lv_iconst (v := 0) hx hb dX12_foretell_95 (by decide) ?_
    refine r_iald hC hP (aM_6 hP.l7) h dX12_foretell_96 (fun h => ?_)
    refine lv_iconst (v := 1) hx hb dX12_foretell_97 (by decide) ?_
    refine lv_isub hx hb dX12_foretell_98 ?_
    refine lv_goto (tgt := 104) hx hb dX12_foretell_99 (by decide) ?_
    exact wM_foretell_104  hC  σ6 x2 t0 ((σ6 7 6 (0 : Int32).toNatClampNeg) - 1) H locs ls h hP hS (lv_sub hl [1, 2, 0] rfl)

set_option maxHeartbeats 4000000 in
set_option maxRecDepth 20000 in
theorem wM_foretell_0 {p : Program} {l : Launch} {e : Env} {s : State} {m : MethodId} {args : Array Value} {below : List Frame} {meth : Method} {c : Code} {x : Wx} {al : Nat → Nat → Nat} {lv : Nat → Bool} {res : Int32 × Sg} (hC : Cx x p s m args meth c cX12_foretell 6 (some .int) RX12) (σ : Sg) (v1 : Int32) (v2 : Int32) (H : Heap) (locs : List Loc) (ls : Array Slot) (h : fM_foretell_0 σ v1 v2 = some res) (hP : Pic x al lv σ H) (hS : va_S (Ab x) s.heap H locs) (hl : lv_has ls 6 [(0, .ref (al 7 0)), (1, .int v1), (2, .int v2)]) : W p l e (rmm 7 0 0) s m args below meth c H locs 0 0 (MQ below (QI x al lv res) args s 0 0 (Ab x)) (F0 m 0 ls []) := by
  obtain ⟨hx, hb, hml, hown, hts⟩ := hC.1
  unfold fM_foretell_0 at h
  refine lv_iload_n hx hb dX12_foretell_0 rfl (lv_at hl 1 rfl) ?_
  refine lv_iconst (v := 1) hx hb dX12_foretell_1 (by decide) ?_
  refine lv_sipush (v := 200) hx hb dX12_foretell_2 (by decide) ?_
  refine r_cP hS h (fun r hr => r_runS (As := [.int v1, .int 1, .int 200]) (rest := []) hC kS_X12_145 cw_X12_in hP (tM_in x al lv σ v1 1 200 r hr) rfl hl.1 ⟨Nat.le_of_ble_eq_true rfl, Nat.le_of_ble_eq_true rfl⟩ ⟨Nat.le_of_ble_eq_true rfl, Nat.le_of_ble_eq_true rfl⟩ (Nat.le_of_ble_eq_true rfl) dX12_foretell_5) (fun y1 H locs h hP hS => ?_)
  refine lv_if_eq (tgt := 22) hx hb dX12_foretell_8 (by decide) (fun hc => ?_) (fun hc => ?_)
  · replace h := (br h).1 hc
    exact wM_foretell_22  hC  σ H locs ls h hP hS (lv_sub hl [0] rfl)
  · replace h := (br h).2 hc
    refine lv_iload_n hx hb dX12_foretell_11 rfl (lv_at hl 2 rfl) ?_
    refine lv_iconst (v := 0) hx hb dX12_foretell_12 (by decide) ?_
    refine lv_sipush (v := 199) hx hb dX12_foretell_13 (by decide) ?_
    refine r_cP hS h (fun r hr => r_runS (As := [.int v2, .int 0, .int 199]) (rest := []) hC kS_X12_145 cw_X12_in hP (tM_in x al lv σ v2 0 199 r hr) rfl hl.1 ⟨Nat.le_of_ble_eq_true rfl, Nat.le_of_ble_eq_true rfl⟩ ⟨Nat.le_of_ble_eq_true rfl, Nat.le_of_ble_eq_true rfl⟩ (Nat.le_of_ble_eq_true rfl) dX12_foretell_16) (fun y2 H locs h hP hS => ?_)
    refine lv_if_ne (tgt := 28) hx hb dX12_foretell_19 (by decide) (fun hc => ?_) (fun hc => ?_)
    · replace h := (br h).2 hc
      refine lv_sipush (v := 199) hx hb dX12_foretell_28 (by decide) ?_
      refine lv_aload_n hx hb dX12_foretell_31 rfl (lv_at hl 0 rfl) ?_
      refine gt_X12_6 hC hP wf_X12_27 dX12_foretell_32 ?_
      refine lv_iconst (v := 0) hx hb dX12_foretell_35 (by decide) ?_
      refine r_iald hC hP (aM_6 hP.l7) h dX12_foretell_36 (fun h => ?_)
      refine lv_isub hx hb dX12_foretell_37 ?_
      refine lv_iload_n hx hb dX12_foretell_38 rfl (lv_at hl 1 rfl) ?_
      refine lv_icmp_ge (tgt := 55) hx hb dX12_foretell_39 (by decide) (fun hc => ?_) (fun hc => ?_)
      · replace h := (br h).1 hc
        refine lv_iload_n hx hb dX12_foretell_55 rfl (lv_at hl 1 rfl) ?_
        exact wM_foretell_56  hC  σ v2 v1 H locs ls h hP hS (lv_sub hl [0, 2] rfl)
      · replace h := (br h).2 hc
        refine lv_sipush (v := 199) hx hb dX12_foretell_42 (by decide) ?_
        refine lv_aload_n hx hb dX12_foretell_45 rfl (lv_at hl 0 rfl) ?_
        refine gt_X12_6 hC hP wf_X12_27 dX12_foretell_46 ?_
        refine lv_iconst (v := 0) hx hb dX12_foretell_49 (by decide) ?_
        refine r_iald hC hP (aM_6 hP.l7) h dX12_foretell_50 (fun h => ?_)
        refine lv_isub hx hb dX12_foretell_51 ?_
        refine lv_goto (tgt := 56) hx hb dX12_foretell_52 (by decide) ?_
        exact wM_foretell_56  hC  σ v2 (199 - (σ 7 6 (0 : Int32).toNatClampNeg)) H locs ls h hP hS (lv_sub hl [0, 2] rfl)
    · replace h := (br h).1 hc
      exact wM_foretell_22  hC  σ H locs ls h hP hS (lv_sub hl [0] rfl)

set_option maxRecDepth 20000 in
theorem tM_foretell {l : Launch} (x : Wx) (al : Nat → Nat → Nat) (lv : Nat → Bool) (σ : Sg) (v1 : Int32) (v2 : Int32) (res : Int32 × Sg) (h : fM_foretell σ v1 v2 = some res) : Met l yX12_foretell (Cond.code yX12_foretell cX12_foretell 6 (some .int) :: lwg) (rmm 7 0 0) (va_Pc [.ref (al 7 0), .int v1, .int v2] (Wd x al lv σ)) (QI x al lv res) 0 0 (Ab x) := by
  refine met_W (by decide) (Nat.le_of_ble_eq_true rfl) rfl (fun p e s m args below meth c ls hC hP hS hl => ?_)
  exact wM_foretell_0  hC σ v1 v2 _ _ ls h hP hS hl
set_option maxHeartbeats 4000000 in
set_option maxRecDepth 20000 in
theorem wM_foretold_56_b {p : Program} {l : Launch} {e : Env} {s : State} {m : MethodId} {args : Array Value} {below : List Frame} {meth : Method} {c : Code} {x : Wx} {al : Nat → Nat → Nat} {lv : Nat → Bool} {res : Int32} {σ : Sg} (hC : Cx x p s m args meth c cX12_foretold 5 (some .int) RX12) (k56 : Int32 → Int32 → Int32 → Option (Int32)) (hk56 : ∀ (x2 : Int32) (x3 : Int32) (x4 : Int32) (H : Heap) (locs : List Loc) (ls : Array Slot), k56 x2 x3 x4 = some res → Pic x al lv σ H → va_S (Ab x) s.heap H locs → lv_has ls 5 [(0, .ref (al 7 0)), (2, .int x2), (3, .int x3), (4, .int x4)] → W p l e (rmm 2 0 0) s m args below meth c H locs 0 0 (MQ below (QP x al lv σ res) args s 0 0 (Ab x)) (F0 m 56 ls [])) (x2 : Int32) (x3 : Int32) (x4 : Int32) (H : Heap) (locs : List Loc) (ls : Array Slot) (h : fM_foretold_56_b k56 σ x2 x3 x4 = some res) (hP : Pic x al lv σ H) (hS : va_S (Ab x) s.heap H locs) (hl : lv_has ls 5 [(0, .ref (al 7 0)), (2, .int x2), (3, .int x3), (4, .int x4)]) : W p l e (rmm 2 0 0) s m args below meth c H locs 0 0 (MQ below (QP x al lv σ res) args s 0 0 (Ab x)) (F0 m 56 ls []) := by
  obtain ⟨hx, hb, hml, hown, hts⟩ := hC.1
  unfold fM_foretold_56_b at h
  refine lv_iload hx hb dX12_foretold_56 (lv_at hl 3 rfl) ?_
  refine lv_aload_n hx hb dX12_foretold_58 rfl (lv_at hl 0 rfl) ?_
  refine gt_X12_45 hC hP wf_X12_293 dX12_foretold_59 ?_
  refine lv_icmp_ge (tgt := 86) hx hb dX12_foretold_62 (by decide) (fun hc => ?_) (fun hc => ?_)
  · replace h := (br h).1 hc
    refine lv_iload_n hx hb dX12_foretold_86 rfl (lv_at hl 2 rfl) ?_
    exact r_retP hC hP hS rfl h dX12_foretold_87
  · replace h := (br h).2 hc
    refine lv_iload_n hx hb dX12_foretold_65 rfl (lv_at hl 2 rfl) ?_
    refine lv_aload_n hx hb dX12_foretold_66 rfl (lv_at hl 0 rfl) ?_
    refine gt_X12_48 hC hP wf_X12_124 dX12_foretold_67 ?_
    refine lv_bipush (v := 8) hx hb dX12_foretold_70 (by decide) ?_
    refine lv_iload_n hx hb dX12_foretold_72 rfl (lv_at hl 1 rfl) ?_
    refine lv_imul hx hb dX12_foretold_73 ?_
    refine lv_iload hx hb dX12_foretold_74 (lv_at hl 3 rfl) ?_
    refine lv_iadd hx hb dX12_foretold_76 ?_
    refine r_iald hC hP (aM_48 hP.l7) h dX12_foretold_77 (fun h => ?_)
    refine lv_iadd hx hb dX12_foretold_78 ?_
    refine r_lt h (fun y3 h => ?_)
    refine lv_istore_n (lv' := [(3, .int y3), (0, .ref (al 7 0)), (2, .int x2), (4, .int x4)]) hx hb dX12_foretold_79 rfl hl (by decide) rfl (fun ls hl => ?_)
    refine r_iinc (v := 1) hC h dX12_foretold_80 hl (k := 3) rfl rfl (by decide) (fun y4 => [(4, .int y4), (3, .int y3), (0, .ref (al 7 0)), (2, .int x2)]) (fun _ => rfl) (fun y4 ls h hl => ?_)
    refine lv_goto (tgt := 56) hx hb dX12_foretold_83 (by decide) ?_
    exact hk56 x2 y3 y4 H locs ls h hP hS (lv_sub hl [2, 3, 1, 0] rfl)

set_option maxHeartbeats 4000000 in
set_option maxRecDepth 20000 in
theorem wM_foretold_56 {p : Program} {l : Launch} {e : Env} {s : State} {m : MethodId} {args : Array Value} {below : List Frame} {meth : Method} {c : Code} {x : Wx} {al : Nat → Nat → Nat} {lv : Nat → Bool} {res : Int32} {σ : Sg} (hC : Cx x p s m args meth c cX12_foretold 5 (some .int) RX12) (n : Nat) (x2 : Int32) (x3 : Int32) (x4 : Int32) (H : Heap) (locs : List Loc) (ls : Array Slot) (h : fM_foretold_56 n σ x2 x3 x4 = some res) (hP : Pic x al lv σ H) (hS : va_S (Ab x) s.heap H locs) (hl : lv_has ls 5 [(0, .ref (al 7 0)), (2, .int x2), (3, .int x3), (4, .int x4)]) : W p l e (rmm 2 0 0) s m args below meth c H locs 0 0 (MQ below (QP x al lv σ res) args s 0 0 (Ab x)) (F0 m 56 ls []) := by
  induction n generalizing x2 x3 x4 H locs ls with
  | zero => exact nomatch h
  | succ n ih => exact wM_foretold_56_b  hC  _ (fun x2 x3 x4 H locs ls h hP hS hl => ih x2 x3 x4 H locs ls h hP hS hl) x2 x3 x4 H locs ls h hP hS hl
set_option maxHeartbeats 4000000 in
set_option maxRecDepth 20000 in
theorem wM_foretold_0 {p : Program} {l : Launch} {e : Env} {s : State} {m : MethodId} {args : Array Value} {below : List Frame} {meth : Method} {c : Code} {x : Wx} {al : Nat → Nat → Nat} {lv : Nat → Bool} {res : Int32} {σ : Sg} (hC : Cx x p s m args meth c cX12_foretold 5 (some .int) RX12) (v1 : Int32) (v2 : Int32) (H : Heap) (locs : List Loc) (ls : Array Slot) (h : fM_foretold_0 σ v1 v2 = some res) (hP : Pic x al lv σ H) (hS : va_S (Ab x) s.heap H locs) (hl : lv_has ls 5 [(0, .ref (al 7 0)), (1, .int v1), (2, .int v2)]) : W p l e (rmm 2 0 0) s m args below meth c H locs 0 0 (MQ below (QP x al lv σ res) args s 0 0 (Ab x)) (F0 m 0 ls []) := by
  obtain ⟨hx, hb, hml, hown, hts⟩ := hC.1
  unfold fM_foretold_0 at h
  refine lv_aload_n hx hb dX12_foretold_0 rfl (lv_at hl 0 rfl) ?_
  refine gt_X12_47 hC hP wf_X12_287 dX12_foretold_1 ?_
  refine lv_if_eq (tgt := 33) hx hb dX12_foretold_4 (by decide) (fun hc => ?_) (fun hc => ?_)
  · replace h := (br h).1 hc
    refine lv_iconst (v := (-1)) hx hb dX12_foretold_33 (by decide) ?_
    exact r_retP hC hP hS rfl h dX12_foretold_34
  · replace h := (br h).2 hc
    refine lv_iload_n hx hb dX12_foretold_7 rfl (lv_at hl 2 rfl) ?_
    refine lv_iconst (v := 0) hx hb dX12_foretold_8 (by decide) ?_
    refine lv_aload_n hx hb dX12_foretold_9 rfl (lv_at hl 0 rfl) ?_
    refine gt_X12_44 hC hP wf_X12_290 dX12_foretold_10 ?_
    refine r_cP hS h (fun r hr => r_runS (As := [.int v2, .int 0, .int (σ 7 0 44)]) (rest := []) hC kS_X12_145 cw_X12_in hP (tM_in x al lv σ v2 0 (σ 7 0 44) r hr) rfl hl.1 ⟨Nat.le_of_ble_eq_true rfl, Nat.le_of_ble_eq_true rfl⟩ ⟨Nat.le_of_ble_eq_true rfl, Nat.le_of_ble_eq_true rfl⟩ (Nat.le_of_ble_eq_true rfl) dX12_foretold_13) (fun y1 H locs h hP hS => ?_)
    refine lv_if_eq (tgt := 33) hx hb dX12_foretold_16 (by decide) (fun hc => ?_) (fun hc => ?_)
    · replace h := (br h).1 hc
      refine lv_iconst (v := (-1)) hx hb dX12_foretold_33 (by decide) ?_
      exact r_retP hC hP hS rfl h dX12_foretold_34
    · replace h := (br h).2 hc
      refine lv_iload_n hx hb dX12_foretold_19 rfl (lv_at hl 1 rfl) ?_
      refine lv_iconst (v := (-1)) hx hb dX12_foretold_20 (by decide) ?_
      refine lv_aload_n hx hb dX12_foretold_21 rfl (lv_at hl 0 rfl) ?_
      refine gt_X12_45 hC hP wf_X12_293 dX12_foretold_22 ?_
      refine lv_iconst (v := 1) hx hb dX12_foretold_25 (by decide) ?_
      refine lv_isub hx hb dX12_foretold_26 ?_
      refine r_cP hS h (fun r hr => r_runS (As := [.int v1, .int ((-1)), .int ((σ 7 0 45) - 1)]) (rest := []) hC kS_X12_145 cw_X12_in hP (tM_in x al lv σ v1 ((-1)) ((σ 7 0 45) - 1) r hr) rfl hl.1 ⟨Nat.le_of_ble_eq_true rfl, Nat.le_of_ble_eq_true rfl⟩ ⟨Nat.le_of_ble_eq_true rfl, Nat.le_of_ble_eq_true rfl⟩ (Nat.le_of_ble_eq_true rfl) dX12_foretold_27) (fun y2 H locs h hP hS => ?_)
      refine lv_if_ne (tgt := 35) hx hb dX12_foretold_30 (by decide) (fun hc => ?_) (fun hc => ?_)
      · replace h := (br h).2 hc
        refine lv_iload_n hx hb dX12_foretold_35 rfl (lv_at hl 1 rfl) ?_
        refine lv_if_lt (tgt := 51) hx hb dX12_foretold_36 (by decide) (fun hc => ?_) (fun hc => ?_)
        · replace h := (br h).1 hc
          refine lv_iconst (v := 0) hx hb dX12_foretold_51 (by decide) ?_
          refine lv_istore_n (lv' := [(3, .int 0), (0, .ref (al 7 0)), (1, .int v1), (2, .int v2)]) hx hb dX12_foretold_52 rfl hl (by decide) rfl (fun ls hl => ?_)
          refine lv_iconst (v := 0) hx hb dX12_foretold_53 (by decide) ?_
          refine lv_istore (lv' := [(4, .int 0), (3, .int 0), (0, .ref (al 7 0)), (1, .int v1), (2, .int v2)]) hx hb dX12_foretold_54 hl (by decide) rfl (fun ls hl => ?_)
          exact wM_foretold_56  hC  FU v2 0 0 H locs ls h hP hS (lv_sub hl [2, 4, 1, 0] rfl)
        · replace h := (br h).2 hc
          refine lv_aload_n hx hb dX12_foretold_39 rfl (lv_at hl 0 rfl) ?_
          refine gt_X12_48 hC hP wf_X12_124 dX12_foretold_40 ?_
          refine lv_bipush (v := 8) hx hb dX12_foretold_43 (by decide) ?_
          refine lv_iload_n hx hb dX12_foretold_45 rfl (lv_at hl 2 rfl) ?_
          refine lv_imul hx hb dX12_foretold_46 ?_
          refine lv_iload_n hx hb dX12_foretold_47 rfl (lv_at hl 1 rfl) ?_
          refine lv_iadd hx hb dX12_foretold_48 ?_
          refine r_iald hC hP (aM_48 hP.l7) h dX12_foretold_49 (fun h => ?_)
          exact r_retP hC hP hS rfl h dX12_foretold_50
      · replace h := (br h).1 hc
        refine lv_iconst (v := (-1)) hx hb dX12_foretold_33 (by decide) ?_
        exact r_retP hC hP hS rfl h dX12_foretold_34

set_option maxRecDepth 20000 in
theorem tM_foretold {l : Launch} (x : Wx) (al : Nat → Nat → Nat) (lv : Nat → Bool) (σ : Sg) (v1 : Int32) (v2 : Int32) (res : Int32) (h : fM_foretold σ v1 v2 = some res) : Met l yX12_foretold (Cond.code yX12_foretold cX12_foretold 5 (some .int) :: lwg) (rmm 2 0 0) (va_Pc [.ref (al 7 0), .int v1, .int v2] (Wd x al lv σ)) (QP x al lv σ res) 0 0 (Ab x) := by
  refine met_W (by decide) (Nat.le_of_ble_eq_true rfl) rfl (fun p e s m args below meth c ls hC hP hS hl => ?_)
  exact wM_foretold_0  hC v1 v2 _ _ ls h hP hS hl
set_option maxHeartbeats 4000000 in
set_option maxRecDepth 20000 in
theorem wM_last_0 {p : Program} {l : Launch} {e : Env} {s : State} {m : MethodId} {args : Array Value} {below : List Frame} {meth : Method} {c : Code} {x : Wx} {al : Nat → Nat → Nat} {lv : Nat → Bool} {res : Int32} {σ : Sg} (hC : Cx x p s m args meth c cX12_last 1 (some .int) RX12) (H : Heap) (locs : List Loc) (ls : Array Slot) (h : fM_last_0 σ = some res) (hP : Pic x al lv σ H) (hS : va_S (Ab x) s.heap H locs) (hl : lv_has ls 1 [(0, .ref (al 7 0))]) : W p l e (rmm 1 0 0) s m args below meth c H locs 0 0 (MQ below (QP x al lv σ res) args s 0 0 (Ab x)) (F0 m 0 ls []) := by
  obtain ⟨hx, hb, hml, hown, hts⟩ := hC.1
  unfold fM_last_0 at h
  refine lv_aload_n hx hb dX12_last_0 rfl (lv_at hl 0 rfl) ?_
  refine gt_X12_47 hC hP wf_X12_287 dX12_last_1 ?_
  refine lv_if_eq (tgt := 14) hx hb dX12_last_4 (by decide) (fun hc => ?_) (fun hc => ?_)
  · replace h := (br h).1 hc
    refine lv_iconst (v := (-1)) hx hb dX12_last_14 (by decide) ?_
    exact r_retP hC hP hS rfl h dX12_last_15
  · replace h := (br h).2 hc
    refine lv_aload_n hx hb dX12_last_7 rfl (lv_at hl 0 rfl) ?_
    refine gt_X12_46 hC hP wf_X12_121 dX12_last_8 ?_
    refine lv_goto (tgt := 15) hx hb dX12_last_11 (by decide) ?_
    exact r_retP hC hP hS rfl h dX12_last_15

set_option maxRecDepth 20000 in
theorem tM_last {l : Launch} (x : Wx) (al : Nat → Nat → Nat) (lv : Nat → Bool) (σ : Sg) (res : Int32) (h : fM_last σ = some res) : Met l yX12_last (Cond.code yX12_last cX12_last 1 (some .int) :: lwg) (rmm 1 0 0) (va_Pc [.ref (al 7 0)] (Wd x al lv σ)) (QP x al lv σ res) 0 0 (Ab x) := by
  refine met_W (by decide) (Nat.le_of_ble_eq_true rfl) rfl (fun p e s m args below meth c ls hC hP hS hl => ?_)
  exact wM_last_0  hC  _ _ ls h hP hS hl
set_option maxHeartbeats 4000000 in
set_option maxRecDepth 20000 in
theorem wM_image_0 {p : Program} {l : Launch} {e : Env} {s : State} {m : MethodId} {args : Array Value} {below : List Frame} {meth : Method} {c : Code} {x : Wx} {al : Nat → Nat → Nat} {lv : Nat → Bool} {res : Int32 × Sg} (hC : Cx x p s m args meth c cX12_image 2 (some .int) RX12) (σ : Sg) (v1 : Int32) (H : Heap) (locs : List Loc) (ls : Array Slot) (h : fM_image_0 σ v1 = some res) (hP : Pic x al lv σ H) (hS : va_S (Ab x) s.heap H locs) (hl : lv_has ls 2 [(0, .ref (al 7 0)), (1, .int v1)]) : W p l e (rmm 2 0 0) s m args below meth c H locs 0 0 (MQ below (QI x al lv res) args s 0 0 (Ab x)) (F0 m 0 ls []) := by
  obtain ⟨hx, hb, hml, hown, hts⟩ := hC.1
  unfold fM_image_0 at h
  refine lv_iload_n hx hb dX12_image_0 rfl (lv_at hl 1 rfl) ?_
  refine lv_iconst (v := 0) hx hb dX12_image_1 (by decide) ?_
  refine lv_iconst (v := 3) hx hb dX12_image_2 (by decide) ?_
  refine r_cP hS h (fun r hr => r_runS (As := [.int v1, .int 0, .int 3]) (rest := []) hC kS_X12_145 cw_X12_in hP (tM_in x al lv σ v1 0 3 r hr) rfl hl.1 ⟨Nat.le_of_ble_eq_true rfl, Nat.le_of_ble_eq_true rfl⟩ ⟨Nat.le_of_ble_eq_true rfl, Nat.le_of_ble_eq_true rfl⟩ (Nat.le_of_ble_eq_true rfl) dX12_image_3) (fun y1 H locs h hP hS => ?_)
  refine lv_if_ne (tgt := 15) hx hb dX12_image_6 (by decide) (fun hc => ?_) (fun hc => ?_)
  · replace h := (br h).2 hc
    refine lv_aload_n hx hb dX12_image_15 rfl (lv_at hl 0 rfl) ?_
    refine lv_iconst (v := 0) hx hb dX12_image_16 (by decide) ?_
    refine lv_iconst (v := 1) hx hb dX12_image_17 (by decide) ?_
    refine lv_iload_n hx hb dX12_image_18 rfl (lv_at hl 1 rfl) ?_
    refine lv_iadd hx hb dX12_image_19 ?_
    refine r_cV hS h (fun r hr => r_runV (As := [.int 0, .int (1 + v1)]) (rest := []) hC kV_X12_283 cw_X12_copy (rc_X12 hC hP) hP (tM_copy x al lv σ 0 (1 + v1) r hr) rfl hl.1 ⟨Nat.le_of_ble_eq_true rfl, Nat.le_of_ble_eq_true rfl⟩ ⟨Nat.le_of_ble_eq_true rfl, Nat.le_of_ble_eq_true rfl⟩ (Nat.le_of_ble_eq_true rfl) dX12_image_20) (fun σ2 H locs h hP hS => ?_)
    refine lv_aload_n hx hb dX12_image_23 rfl (lv_at hl 0 rfl) ?_
    refine gt_X12_25 hC hP wf_X12_85 dX12_image_24 ?_
    refine lv_iload_n hx hb dX12_image_27 rfl (lv_at hl 1 rfl) ?_
    refine lv_iconst (v := 1) hx hb dX12_image_28 (by decide) ?_
    refine r_zast hC hP hS (aM_25 hP.l7) h dX12_image_29 (fun σ3 H locs h hP hS => ?_)
    refine lv_aload_n hx hb dX12_image_30 rfl (lv_at hl 0 rfl) ?_
    refine lv_iconst (v := 0) hx hb dX12_image_31 (by decide) ?_
    refine r_cI hS h (fun r hr => r_runV (As := [.int 0]) (rest := []) hC kV_X12_151 cw_X12_ends (rc_X12 hC hP) hP (tM_ends x al lv σ3 0 r hr) rfl hl.1 ⟨Nat.le_of_ble_eq_true rfl, Nat.le_of_ble_eq_true rfl⟩ ⟨Nat.le_of_ble_eq_true rfl, Nat.le_of_ble_eq_true rfl⟩ (Nat.le_of_ble_eq_true rfl) dX12_image_32) (fun y4 σ5 H locs h hP hS => ?_)
    exact r_retI hC hP hS rfl h dX12_image_35
  · replace h := (br h).1 hc
    refine lv_aload_n hx hb dX12_image_9 rfl (lv_at hl 0 rfl) ?_
    refine lv_iconst (v := (-1)) hx hb dX12_image_10 (by decide) ?_
    refine r_cI hS h (fun r hr => r_runV (As := [.int ((-1))]) (rest := []) hC kV_X12_151 cw_X12_ends (rc_X12 hC hP) hP (tM_ends x al lv σ ((-1)) r hr) rfl hl.1 ⟨Nat.le_of_ble_eq_true rfl, Nat.le_of_ble_eq_true rfl⟩ ⟨Nat.le_of_ble_eq_true rfl, Nat.le_of_ble_eq_true rfl⟩ (Nat.le_of_ble_eq_true rfl) dX12_image_11) (fun y6 σ7 H locs h hP hS => ?_)
    exact r_retI hC hP hS rfl h dX12_image_14

set_option maxRecDepth 20000 in
theorem tM_image {l : Launch} (x : Wx) (al : Nat → Nat → Nat) (lv : Nat → Bool) (σ : Sg) (v1 : Int32) (res : Int32 × Sg) (h : fM_image σ v1 = some res) : Met l yX12_image (Cond.code yX12_image cX12_image 2 (some .int) :: lwg) (rmm 2 0 0) (va_Pc [.ref (al 7 0), .int v1] (Wd x al lv σ)) (QI x al lv res) 0 0 (Ab x) := by
  refine met_W (by decide) (Nat.le_of_ble_eq_true rfl) rfl (fun p e s m args below meth c ls hC hP hS hl => ?_)
  exact wM_image_0  hC σ v1 _ _ ls h hP hS hl
set_option maxHeartbeats 4000000 in
set_option maxRecDepth 20000 in
theorem wM_back_0 {p : Program} {l : Launch} {e : Env} {s : State} {m : MethodId} {args : Array Value} {below : List Frame} {meth : Method} {c : Code} {x : Wx} {al : Nat → Nat → Nat} {lv : Nat → Bool} {res : Int32 × Sg} (hC : Cx x p s m args meth c cX12_back 2 (some .int) RX12) (σ : Sg) (v1 : Int32) (H : Heap) (locs : List Loc) (ls : Array Slot) (h : fM_back_0 σ v1 = some res) (hP : Pic x al lv σ H) (hS : va_S (Ab x) s.heap H locs) (hl : lv_has ls 2 [(0, .ref (al 7 0)), (1, .int v1)]) : W p l e (rmm 2 0 0) s m args below meth c H locs 0 0 (MQ below (QI x al lv res) args s 0 0 (Ab x)) (F0 m 0 ls []) := by
  obtain ⟨hx, hb, hml, hown, hts⟩ := hC.1
  unfold fM_back_0 at h
  refine lv_iload_n hx hb dX12_back_0 rfl (lv_at hl 1 rfl) ?_
  refine lv_iconst (v := 0) hx hb dX12_back_1 (by decide) ?_
  refine lv_iconst (v := 3) hx hb dX12_back_2 (by decide) ?_
  refine r_cP hS h (fun r hr => r_runS (As := [.int v1, .int 0, .int 3]) (rest := []) hC kS_X12_145 cw_X12_in hP (tM_in x al lv σ v1 0 3 r hr) rfl hl.1 ⟨Nat.le_of_ble_eq_true rfl, Nat.le_of_ble_eq_true rfl⟩ ⟨Nat.le_of_ble_eq_true rfl, Nat.le_of_ble_eq_true rfl⟩ (Nat.le_of_ble_eq_true rfl) dX12_back_3) (fun y1 H locs h hP hS => ?_)
  refine lv_if_ne (tgt := 15) hx hb dX12_back_6 (by decide) (fun hc => ?_) (fun hc => ?_)
  · replace h := (br h).2 hc
    refine lv_aload_n hx hb dX12_back_15 rfl (lv_at hl 0 rfl) ?_
    refine gt_X12_25 hC hP wf_X12_85 dX12_back_16 ?_
    refine lv_iload_n hx hb dX12_back_19 rfl (lv_at hl 1 rfl) ?_
    refine r_zald hC hP (aM_25 hP.l7) h dX12_back_20 (fun h => ?_)
    refine lv_if_ne (tgt := 31) hx hb dX12_back_21 (by decide) (fun hc => ?_) (fun hc => ?_)
    · replace h := (br h).2 hc
      refine lv_aload_n hx hb dX12_back_31 rfl (lv_at hl 0 rfl) ?_
      refine lv_iconst (v := 1) hx hb dX12_back_32 (by decide) ?_
      refine lv_iload_n hx hb dX12_back_33 rfl (lv_at hl 1 rfl) ?_
      refine lv_iadd hx hb dX12_back_34 ?_
      refine lv_iconst (v := 0) hx hb dX12_back_35 (by decide) ?_
      refine r_cV hS h (fun r hr => r_runV (As := [.int (1 + v1), .int 0]) (rest := []) hC kV_X12_283 cw_X12_copy (rc_X12 hC hP) hP (tM_copy x al lv σ (1 + v1) 0 r hr) rfl hl.1 ⟨Nat.le_of_ble_eq_true rfl, Nat.le_of_ble_eq_true rfl⟩ ⟨Nat.le_of_ble_eq_true rfl, Nat.le_of_ble_eq_true rfl⟩ (Nat.le_of_ble_eq_true rfl) dX12_back_36) (fun σ2 H locs h hP hS => ?_)
      refine lv_aload_n hx hb dX12_back_39 rfl (lv_at hl 0 rfl) ?_
      refine lv_iconst (v := 0) hx hb dX12_back_40 (by decide) ?_
      refine pt_X12_26 hC hP hS wf_X12_245 h dX12_back_41 (fun σ3 H locs h hP hS => ?_)
      refine lv_aload_n hx hb dX12_back_44 rfl (lv_at hl 0 rfl) ?_
      refine lv_iconst (v := 0) hx hb dX12_back_45 (by decide) ?_
      refine pt_X12_27 hC hP hS wf_X12_228 h dX12_back_46 (fun σ4 H locs h hP hS => ?_)
      refine lv_aload_n hx hb dX12_back_49 rfl (lv_at hl 0 rfl) ?_
      refine lv_iconst (v := 0) hx hb dX12_back_50 (by decide) ?_
      refine r_cI hS h (fun r hr => r_runV (As := [.int 0]) (rest := []) hC kV_X12_151 cw_X12_ends (rc_X12 hC hP) hP (tM_ends x al lv σ4 0 r hr) rfl hl.1 ⟨Nat.le_of_ble_eq_true rfl, Nat.le_of_ble_eq_true rfl⟩ ⟨Nat.le_of_ble_eq_true rfl, Nat.le_of_ble_eq_true rfl⟩ (Nat.le_of_ble_eq_true rfl) dX12_back_51) (fun y5 σ6 H locs h hP hS => ?_)
      exact r_retI hC hP hS rfl h dX12_back_54
    · replace h := (br h).1 hc
      refine lv_aload_n hx hb dX12_back_24 rfl (lv_at hl 0 rfl) ?_
      refine lv_bipush (v := (-2)) hx hb dX12_back_25 (by decide) ?_
      refine r_cI hS h (fun r hr => r_runV (As := [.int ((-2))]) (rest := []) hC kV_X12_151 cw_X12_ends (rc_X12 hC hP) hP (tM_ends x al lv σ ((-2)) r hr) rfl hl.1 ⟨Nat.le_of_ble_eq_true rfl, Nat.le_of_ble_eq_true rfl⟩ ⟨Nat.le_of_ble_eq_true rfl, Nat.le_of_ble_eq_true rfl⟩ (Nat.le_of_ble_eq_true rfl) dX12_back_27) (fun y7 σ8 H locs h hP hS => ?_)
      exact r_retI hC hP hS rfl h dX12_back_30
  · replace h := (br h).1 hc
    refine lv_aload_n hx hb dX12_back_9 rfl (lv_at hl 0 rfl) ?_
    refine lv_iconst (v := (-1)) hx hb dX12_back_10 (by decide) ?_
    refine r_cI hS h (fun r hr => r_runV (As := [.int ((-1))]) (rest := []) hC kV_X12_151 cw_X12_ends (rc_X12 hC hP) hP (tM_ends x al lv σ ((-1)) r hr) rfl hl.1 ⟨Nat.le_of_ble_eq_true rfl, Nat.le_of_ble_eq_true rfl⟩ ⟨Nat.le_of_ble_eq_true rfl, Nat.le_of_ble_eq_true rfl⟩ (Nat.le_of_ble_eq_true rfl) dX12_back_11) (fun y9 σ10 H locs h hP hS => ?_)
    exact r_retI hC hP hS rfl h dX12_back_14

set_option maxRecDepth 20000 in
theorem tM_back {l : Launch} (x : Wx) (al : Nat → Nat → Nat) (lv : Nat → Bool) (σ : Sg) (v1 : Int32) (res : Int32 × Sg) (h : fM_back σ v1 = some res) : Met l yX12_back (Cond.code yX12_back cX12_back 2 (some .int) :: lwg) (rmm 2 0 0) (va_Pc [.ref (al 7 0), .int v1] (Wd x al lv σ)) (QI x al lv res) 0 0 (Ab x) := by
  refine met_W (by decide) (Nat.le_of_ble_eq_true rfl) rfl (fun p e s m args below meth c ls hC hP hS hl => ?_)
  exact wM_back_0  hC σ v1 _ _ ls h hP hS hl
set_option maxHeartbeats 4000000 in
set_option maxRecDepth 20000 in
theorem wM_heap_21 {p : Program} {l : Launch} {e : Env} {s : State} {m : MethodId} {args : Array Value} {below : List Frame} {meth : Method} {c : Code} {x : Wx} {al : Nat → Nat → Nat} {lv : Nat → Bool} {res : Int32 × Sg} (hC : Cx x p s m args meth c cX12_heap 3 (some .int) RX12) (σ : Sg) (H : Heap) (locs : List Loc) (ls : Array Slot) (h : fM_heap_21 σ = some res) (hP : Pic x al lv σ H) (hS : va_S (Ab x) s.heap H locs) (hl : lv_has ls 3 [(0, .ref (al 7 0))]) : W p l e (rmm 2 0 0) s m args below meth c H locs 0 0 (MQ below (QI x al lv res) args s 0 0 (Ab x)) (F0 m 21 ls []) := by
  obtain ⟨hx, hb, hml, hown, hts⟩ := hC.1
  unfold fM_heap_21 at h
  refine lv_aload_n hx hb dX12_heap_21 rfl (lv_at hl 0 rfl) ?_
  refine lv_iconst (v := (-1)) hx hb dX12_heap_22 (by decide) ?_
  refine r_cI hS h (fun r hr => r_runV (As := [.int ((-1))]) (rest := []) hC kV_X12_151 cw_X12_ends (rc_X12 hC hP) hP (tM_ends x al lv σ ((-1)) r hr) rfl hl.1 ⟨Nat.le_of_ble_eq_true rfl, Nat.le_of_ble_eq_true rfl⟩ ⟨Nat.le_of_ble_eq_true rfl, Nat.le_of_ble_eq_true rfl⟩ (Nat.le_of_ble_eq_true rfl) dX12_heap_23) (fun y10 σ11 H locs h hP hS => ?_)
  exact r_retI hC hP hS rfl h dX12_heap_26

set_option maxHeartbeats 4000000 in
set_option maxRecDepth 20000 in
theorem wM_heap_0 {p : Program} {l : Launch} {e : Env} {s : State} {m : MethodId} {args : Array Value} {below : List Frame} {meth : Method} {c : Code} {x : Wx} {al : Nat → Nat → Nat} {lv : Nat → Bool} {res : Int32 × Sg} (hC : Cx x p s m args meth c cX12_heap 3 (some .int) RX12) (σ : Sg) (v1 : Int32) (v2 : Int32) (H : Heap) (locs : List Loc) (ls : Array Slot) (h : fM_heap_0 σ v1 v2 = some res) (hP : Pic x al lv σ H) (hS : va_S (Ab x) s.heap H locs) (hl : lv_has ls 3 [(0, .ref (al 7 0)), (1, .int v1), (2, .int v2)]) : W p l e (rmm 2 0 0) s m args below meth c H locs 0 0 (MQ below (QI x al lv res) args s 0 0 (Ab x)) (F0 m 0 ls []) := by
  obtain ⟨hx, hb, hml, hown, hts⟩ := hC.1
  unfold fM_heap_0 at h
  refine lv_iload_n hx hb dX12_heap_0 rfl (lv_at hl 1 rfl) ?_
  refine lv_iconst (v := 0) hx hb dX12_heap_1 (by decide) ?_
  refine lv_iconst (v := 2) hx hb dX12_heap_2 (by decide) ?_
  refine r_cP hS h (fun r hr => r_runS (As := [.int v1, .int 0, .int 2]) (rest := []) hC kS_X12_145 cw_X12_in hP (tM_in x al lv σ v1 0 2 r hr) rfl hl.1 ⟨Nat.le_of_ble_eq_true rfl, Nat.le_of_ble_eq_true rfl⟩ ⟨Nat.le_of_ble_eq_true rfl, Nat.le_of_ble_eq_true rfl⟩ (Nat.le_of_ble_eq_true rfl) dX12_heap_3) (fun y1 H locs h hP hS => ?_)
  refine lv_if_eq (tgt := 21) hx hb dX12_heap_6 (by decide) (fun hc => ?_) (fun hc => ?_)
  · replace h := (br h).1 hc
    exact wM_heap_21  hC  σ H locs ls h hP hS (lv_sub hl [0] rfl)
  · replace h := (br h).2 hc
    refine lv_iload_n hx hb dX12_heap_9 rfl (lv_at hl 2 rfl) ?_
    refine lv_sipush (v := 1000) hx hb dX12_heap_10 (by decide) ?_
    refine lv_ldc hx hb hown (hts _ wk_X12_159) dX12_heap_13 ?_
    refine r_cP hS h (fun r hr => r_runS (As := [.int v2, .int 1000, .int 1000000]) (rest := []) hC kS_X12_145 cw_X12_in hP (tM_in x al lv σ v2 1000 1000000 r hr) rfl hl.1 ⟨Nat.le_of_ble_eq_true rfl, Nat.le_of_ble_eq_true rfl⟩ ⟨Nat.le_of_ble_eq_true rfl, Nat.le_of_ble_eq_true rfl⟩ (Nat.le_of_ble_eq_true rfl) dX12_heap_15) (fun y2 H locs h hP hS => ?_)
    refine lv_if_ne (tgt := 27) hx hb dX12_heap_18 (by decide) (fun hc => ?_) (fun hc => ?_)
    · replace h := (br h).2 hc
      refine lv_aload_n hx hb dX12_heap_27 rfl (lv_at hl 0 rfl) ?_
      refine gt_X12_51 hC hP wf_X12_303 dX12_heap_28 ?_
      refine lv_bipush (v := 30) hx hb dX12_heap_31 (by decide) ?_
      refine lv_icmp_ne (tgt := 43) hx hb dX12_heap_33 (by decide) (fun hc => ?_) (fun hc => ?_)
      · replace h := (br h).2 hc
        refine lv_aload_n hx hb dX12_heap_43 rfl (lv_at hl 0 rfl) ?_
        refine gt_X12_49 hC hP wf_X12_127 dX12_heap_44 ?_
        refine lv_aload_n hx hb dX12_heap_47 rfl (lv_at hl 0 rfl) ?_
        refine gt_X12_51 hC hP wf_X12_303 dX12_heap_48 ?_
        refine lv_iload_n hx hb dX12_heap_51 rfl (lv_at hl 1 rfl) ?_
        refine r_iast hC hP hS (aM_49 hP.l7) h dX12_heap_52 (fun σ3 H locs h hP hS => ?_)
        refine lv_aload_n hx hb dX12_heap_53 rfl (lv_at hl 0 rfl) ?_
        refine gt_X12_50 hC hP wf_X12_130 dX12_heap_54 ?_
        refine lv_aload_n hx hb dX12_heap_57 rfl (lv_at hl 0 rfl) ?_
        refine gt_X12_51 hC hP wf_X12_303 dX12_heap_58 ?_
        refine lv_iload_n hx hb dX12_heap_61 rfl (lv_at hl 2 rfl) ?_
        refine r_iast hC hP hS (aM_50 hP.l7) h dX12_heap_62 (fun σ4 H locs h hP hS => ?_)
        refine lv_aload_n hx hb dX12_heap_63 rfl (lv_at hl 0 rfl) ?_
        refine lv_dup hx hb dX12_heap_64 rfl ?_
        refine gt_X12_51 hC hP wf_X12_303 dX12_heap_65 ?_
        refine lv_iconst (v := 1) hx hb dX12_heap_68 (by decide) ?_
        refine lv_iadd hx hb dX12_heap_69 ?_
        refine pt_X12_51 hC hP hS wf_X12_303 h dX12_heap_70 (fun σ5 H locs h hP hS => ?_)
        refine lv_aload_n hx hb dX12_heap_73 rfl (lv_at hl 0 rfl) ?_
        refine lv_aload_n hx hb dX12_heap_74 rfl (lv_at hl 0 rfl) ?_
        refine gt_X12_51 hC hP wf_X12_303 dX12_heap_75 ?_
        refine r_cI hS h (fun r hr => r_runV (As := [.int (σ5 7 0 51)]) (rest := []) hC kV_X12_151 cw_X12_ends (rc_X12 hC hP) hP (tM_ends x al lv σ5 (σ5 7 0 51) r hr) rfl hl.1 ⟨Nat.le_of_ble_eq_true rfl, Nat.le_of_ble_eq_true rfl⟩ ⟨Nat.le_of_ble_eq_true rfl, Nat.le_of_ble_eq_true rfl⟩ (Nat.le_of_ble_eq_true rfl) dX12_heap_78) (fun y6 σ7 H locs h hP hS => ?_)
        exact r_retI hC hP hS rfl h dX12_heap_81
      · replace h := (br h).1 hc
        refine lv_aload_n hx hb dX12_heap_36 rfl (lv_at hl 0 rfl) ?_
        refine lv_bipush (v := (-6)) hx hb dX12_heap_37 (by decide) ?_
        refine r_cI hS h (fun r hr => r_runV (As := [.int ((-6))]) (rest := []) hC kV_X12_151 cw_X12_ends (rc_X12 hC hP) hP (tM_ends x al lv σ ((-6)) r hr) rfl hl.1 ⟨Nat.le_of_ble_eq_true rfl, Nat.le_of_ble_eq_true rfl⟩ ⟨Nat.le_of_ble_eq_true rfl, Nat.le_of_ble_eq_true rfl⟩ (Nat.le_of_ble_eq_true rfl) dX12_heap_39) (fun y8 σ9 H locs h hP hS => ?_)
        exact r_retI hC hP hS rfl h dX12_heap_42
    · replace h := (br h).1 hc
      exact wM_heap_21  hC  σ H locs ls h hP hS (lv_sub hl [0] rfl)

set_option maxRecDepth 20000 in
theorem tM_heap {l : Launch} (x : Wx) (al : Nat → Nat → Nat) (lv : Nat → Bool) (σ : Sg) (v1 : Int32) (v2 : Int32) (res : Int32 × Sg) (h : fM_heap σ v1 v2 = some res) : Met l yX12_heap (Cond.code yX12_heap cX12_heap 3 (some .int) :: lwg) (rmm 2 0 0) (va_Pc [.ref (al 7 0), .int v1, .int v2] (Wd x al lv σ)) (QI x al lv res) 0 0 (Ab x) := by
  refine met_W (by decide) (Nat.le_of_ble_eq_true rfl) rfl (fun p e s m args below meth c ls hC hP hS hl => ?_)
  exact wM_heap_0  hC σ v1 v2 _ _ ls h hP hS hl
set_option maxHeartbeats 4000000 in
set_option maxRecDepth 20000 in
theorem wM_isReady_51 {p : Program} {l : Launch} {e : Env} {s : State} {m : MethodId} {args : Array Value} {below : List Frame} {meth : Method} {c : Code} {x : Wx} {al : Nat → Nat → Nat} {lv : Nat → Bool} {res : Int32} {σ : Sg} (hC : Cx x p s m args meth c cX12_isReady 4 (some .boolean) RX12) (k15 : Int32 → Int32 → Int32 → Option (Int32)) (hk15 : ∀ (x1 : Int32) (x2 : Int32) (x3 : Int32) (H : Heap) (locs : List Loc) (ls : Array Slot), k15 x1 x2 x3 = some res → Pic x al lv σ H → va_S (Ab x) s.heap H locs → lv_has ls 4 [(0, .ref (al 7 0)), (1, .int x1), (2, .int x2), (3, .int x3)] → W p l e (rmm 3 0 0) s m args below meth c H locs 0 0 (MQ below (QP x al lv σ res) args s 0 0 (Ab x)) (F0 m 15 ls [])) (x1 : Int32) (x3 : Int32) (t0 : Int32) (H : Heap) (locs : List Loc) (ls : Array Slot) (h : fM_isReady_51 k15 σ x1 x3 t0 = some res) (hP : Pic x al lv σ H) (hS : va_S (Ab x) s.heap H locs) (hl : lv_has ls 4 [(0, .ref (al 7 0)), (1, .int x1), (3, .int x3)]) : W p l e (rmm 3 0 0) s m args below meth c H locs 0 0 (MQ below (QP x al lv σ res) args s 0 0 (Ab x)) (F0 m 51 ls [.int t0]) := by
  obtain ⟨hx, hb, hml, hown, hts⟩ := hC.1
  unfold fM_isReady_51 at h
  refine lv_istore_n (lv' := [(2, .int t0), (0, .ref (al 7 0)), (1, .int x1), (3, .int x3)]) hx hb dX12_isReady_51 rfl hl (by decide) rfl (fun ls hl => ?_)
  refine r_iinc (v := 1) hC h dX12_isReady_52 hl (k := 3) rfl rfl (by decide) (fun y5 => [(3, .int y5), (2, .int t0), (0, .ref (al 7 0)), (1, .int x1)]) (fun _ => rfl) (fun y5 ls h hl => ?_)
  refine lv_goto (tgt := 15) hx hb dX12_isReady_55 (by decide) ?_
  exact hk15 x1 t0 y5 H locs ls h hP hS (lv_sub hl [2, 3, 1, 0] rfl)

set_option maxHeartbeats 4000000 in
set_option maxRecDepth 20000 in
theorem wM_isReady_50 {p : Program} {l : Launch} {e : Env} {s : State} {m : MethodId} {args : Array Value} {below : List Frame} {meth : Method} {c : Code} {x : Wx} {al : Nat → Nat → Nat} {lv : Nat → Bool} {res : Int32} {σ : Sg} (hC : Cx x p s m args meth c cX12_isReady 4 (some .boolean) RX12) (k15 : Int32 → Int32 → Int32 → Option (Int32)) (hk15 : ∀ (x1 : Int32) (x2 : Int32) (x3 : Int32) (H : Heap) (locs : List Loc) (ls : Array Slot), k15 x1 x2 x3 = some res → Pic x al lv σ H → va_S (Ab x) s.heap H locs → lv_has ls 4 [(0, .ref (al 7 0)), (1, .int x1), (2, .int x2), (3, .int x3)] → W p l e (rmm 3 0 0) s m args below meth c H locs 0 0 (MQ below (QP x al lv σ res) args s 0 0 (Ab x)) (F0 m 15 ls [])) (x1 : Int32) (x3 : Int32) (H : Heap) (locs : List Loc) (ls : Array Slot) (h : fM_isReady_50 k15 σ x1 x3 = some res) (hP : Pic x al lv σ H) (hS : va_S (Ab x) s.heap H locs) (hl : lv_has ls 4 [(0, .ref (al 7 0)), (1, .int x1), (3, .int x3)]) : W p l e (rmm 3 0 0) s m args below meth c H locs 0 0 (MQ below (QP x al lv σ res) args s 0 0 (Ab x)) (F0 m 50 ls []) := by
  obtain ⟨hx, hb, hml, hown, hts⟩ := hC.1
  unfold fM_isReady_50 at h
  refine lv_iconst (v := 0) hx hb dX12_isReady_50 (by decide) ?_
  exact wM_isReady_51  hC k15 hk15 x1 x3 0 H locs ls h hP hS (lv_sub hl [0, 1, 2] rfl)

set_option maxHeartbeats 4000000 in
set_option maxRecDepth 20000 in
theorem wM_isReady_15_b {p : Program} {l : Launch} {e : Env} {s : State} {m : MethodId} {args : Array Value} {below : List Frame} {meth : Method} {c : Code} {x : Wx} {al : Nat → Nat → Nat} {lv : Nat → Bool} {res : Int32} {σ : Sg} (hC : Cx x p s m args meth c cX12_isReady 4 (some .boolean) RX12) (k15 : Int32 → Int32 → Int32 → Option (Int32)) (hk15 : ∀ (x1 : Int32) (x2 : Int32) (x3 : Int32) (H : Heap) (locs : List Loc) (ls : Array Slot), k15 x1 x2 x3 = some res → Pic x al lv σ H → va_S (Ab x) s.heap H locs → lv_has ls 4 [(0, .ref (al 7 0)), (1, .int x1), (2, .int x2), (3, .int x3)] → W p l e (rmm 3 0 0) s m args below meth c H locs 0 0 (MQ below (QP x al lv σ res) args s 0 0 (Ab x)) (F0 m 15 ls [])) (x1 : Int32) (x2 : Int32) (x3 : Int32) (H : Heap) (locs : List Loc) (ls : Array Slot) (h : fM_isReady_15_b k15 σ x1 x2 x3 = some res) (hP : Pic x al lv σ H) (hS : va_S (Ab x) s.heap H locs) (hl : lv_has ls 4 [(0, .ref (al 7 0)), (1, .int x1), (2, .int x2), (3, .int x3)]) : W p l e (rmm 3 0 0) s m args below meth c H locs 0 0 (MQ below (QP x al lv σ res) args s 0 0 (Ab x)) (F0 m 15 ls []) := by
  obtain ⟨hx, hb, hml, hown, hts⟩ := hC.1
  unfold fM_isReady_15_b at h
  refine lv_iload_n hx hb dX12_isReady_15 rfl (lv_at hl 3 rfl) ?_
  refine lv_aload_n hx hb dX12_isReady_16 rfl (lv_at hl 0 rfl) ?_
  refine lv_iload_n hx hb dX12_isReady_17 rfl (lv_at hl 1 rfl) ?_
  refine r_cP hS h (fun r hr => r_runV (As := [.int x1]) (rest := [.int x3]) hC kV_X12_160 cw_X12_places (rc_X12 hC hP) hP (tM_places x al lv σ x1 r hr) rfl hl.1 ⟨Nat.le_of_ble_eq_true rfl, Nat.le_of_ble_eq_true rfl⟩ ⟨Nat.le_of_ble_eq_true rfl, Nat.le_of_ble_eq_true rfl⟩ (Nat.le_of_ble_eq_true rfl) dX12_isReady_18) (fun y1 H locs h hP hS => ?_)
  refine lv_icmp_ge (tgt := 58) hx hb dX12_isReady_21 (by decide) (fun hc => ?_) (fun hc => ?_)
  · replace h := (br h).1 hc
    refine lv_iload_n hx hb dX12_isReady_58 rfl (lv_at hl 2 rfl) ?_
    obtain ⟨hz2, h⟩ := gd_e h
    exact r_retP hC hP hS (isb_n hz2) h dX12_isReady_59
  · replace h := (br h).2 hc
    refine lv_iload_n hx hb dX12_isReady_24 rfl (lv_at hl 2 rfl) ?_
    refine lv_if_eq (tgt := 50) hx hb dX12_isReady_25 (by decide) (fun hc => ?_) (fun hc => ?_)
    · replace h := (br h).1 hc
      exact wM_isReady_50  hC k15 hk15 x1 x3 H locs ls h hP hS (lv_sub hl [0, 1, 3] rfl)
    · replace h := (br h).2 hc
      refine lv_aload_n hx hb dX12_isReady_28 rfl (lv_at hl 0 rfl) ?_
      refine lv_iload_n hx hb dX12_isReady_29 rfl (lv_at hl 1 rfl) ?_
      refine lv_iload_n hx hb dX12_isReady_30 rfl (lv_at hl 3 rfl) ?_
      refine r_cP hS h (fun r hr => r_runV (As := [.int x1, .int x3]) (rest := []) hC kV_X12_215 cw_X12_isLaid (rc_X12 hC hP) hP (tM_isLaid x al lv σ x1 x3 r hr) rfl hl.1 ⟨Nat.le_of_ble_eq_true rfl, Nat.le_of_ble_eq_true rfl⟩ ⟨Nat.le_of_ble_eq_true rfl, Nat.le_of_ble_eq_true rfl⟩ (Nat.le_of_ble_eq_true rfl) dX12_isReady_31) (fun y3 H locs h hP hS => ?_)
      refine lv_if_eq (tgt := 50) hx hb dX12_isReady_34 (by decide) (fun hc => ?_) (fun hc => ?_)
      · replace h := (br h).1 hc
        exact wM_isReady_50  hC k15 hk15 x1 x3 H locs ls h hP hS (lv_sub hl [0, 1, 3] rfl)
      · replace h := (br h).2 hc
        refine lv_aload_n hx hb dX12_isReady_37 rfl (lv_at hl 0 rfl) ?_
        refine lv_iload_n hx hb dX12_isReady_38 rfl (lv_at hl 1 rfl) ?_
        refine lv_iload_n hx hb dX12_isReady_39 rfl (lv_at hl 3 rfl) ?_
        refine r_cP hS h (fun r hr => r_runV (As := [.int x1, .int x3]) (rest := []) hC kV_X12_173 cw_X12_at (rc_X12 hC hP) hP (tM_at x al lv σ x1 x3 r hr) rfl hl.1 ⟨Nat.le_of_ble_eq_true rfl, Nat.le_of_ble_eq_true rfl⟩ ⟨Nat.le_of_ble_eq_true rfl, Nat.le_of_ble_eq_true rfl⟩ (Nat.le_of_ble_eq_true rfl) dX12_isReady_40) (fun y4 H locs h hP hS => ?_)
        refine lv_if_ne (tgt := 50) hx hb dX12_isReady_43 (by decide) (fun hc => ?_) (fun hc => ?_)
        · replace h := (br h).2 hc
          exact wM_isReady_50  hC k15 hk15 x1 x3 H locs ls h hP hS (lv_sub hl [0, 1, 3] rfl)
        · replace h := (br h).1 hc
          refine lv_iconst (v := 1) hx hb dX12_isReady_46 (by decide) ?_
          refine lv_goto (tgt := 51) hx hb dX12_isReady_47 (by decide) ?_
          exact wM_isReady_51  hC k15 hk15 x1 x3 1 H locs ls h hP hS (lv_sub hl [0, 1, 3] rfl)

set_option maxHeartbeats 4000000 in
set_option maxRecDepth 20000 in
theorem wM_isReady_15 {p : Program} {l : Launch} {e : Env} {s : State} {m : MethodId} {args : Array Value} {below : List Frame} {meth : Method} {c : Code} {x : Wx} {al : Nat → Nat → Nat} {lv : Nat → Bool} {res : Int32} {σ : Sg} (hC : Cx x p s m args meth c cX12_isReady 4 (some .boolean) RX12) (n : Nat) (x1 : Int32) (x2 : Int32) (x3 : Int32) (H : Heap) (locs : List Loc) (ls : Array Slot) (h : fM_isReady_15 n σ x1 x2 x3 = some res) (hP : Pic x al lv σ H) (hS : va_S (Ab x) s.heap H locs) (hl : lv_has ls 4 [(0, .ref (al 7 0)), (1, .int x1), (2, .int x2), (3, .int x3)]) : W p l e (rmm 3 0 0) s m args below meth c H locs 0 0 (MQ below (QP x al lv σ res) args s 0 0 (Ab x)) (F0 m 15 ls []) := by
  induction n generalizing x1 x2 x3 H locs ls with
  | zero => exact nomatch h
  | succ n ih => exact wM_isReady_15_b  hC  _ (fun x1 x2 x3 H locs ls h hP hS hl => ih x1 x2 x3 H locs ls h hP hS hl) x1 x2 x3 H locs ls h hP hS hl
set_option maxHeartbeats 4000000 in
set_option maxRecDepth 20000 in
theorem wM_isReady_12 {p : Program} {l : Launch} {e : Env} {s : State} {m : MethodId} {args : Array Value} {below : List Frame} {meth : Method} {c : Code} {x : Wx} {al : Nat → Nat → Nat} {lv : Nat → Bool} {res : Int32} {σ : Sg} (hC : Cx x p s m args meth c cX12_isReady 4 (some .boolean) RX12) (x1 : Int32) (t0 : Int32) (H : Heap) (locs : List Loc) (ls : Array Slot) (h : fM_isReady_12 σ x1 t0 = some res) (hP : Pic x al lv σ H) (hS : va_S (Ab x) s.heap H locs) (hl : lv_has ls 4 [(0, .ref (al 7 0)), (1, .int x1)]) : W p l e (rmm 3 0 0) s m args below meth c H locs 0 0 (MQ below (QP x al lv σ res) args s 0 0 (Ab x)) (F0 m 12 ls [.int t0]) := by
  obtain ⟨hx, hb, hml, hown, hts⟩ := hC.1
  unfold fM_isReady_12 at h
  refine lv_istore_n (lv' := [(2, .int t0), (0, .ref (al 7 0)), (1, .int x1)]) hx hb dX12_isReady_12 rfl hl (by decide) rfl (fun ls hl => ?_)
  refine lv_iconst (v := 0) hx hb dX12_isReady_13 (by decide) ?_
  refine lv_istore_n (lv' := [(3, .int 0), (2, .int t0), (0, .ref (al 7 0)), (1, .int x1)]) hx hb dX12_isReady_14 rfl hl (by decide) rfl (fun ls hl => ?_)
  exact wM_isReady_15  hC  FU x1 t0 0 H locs ls h hP hS (lv_sub hl [2, 3, 1, 0] rfl)

set_option maxHeartbeats 4000000 in
set_option maxRecDepth 20000 in
theorem wM_isReady_0 {p : Program} {l : Launch} {e : Env} {s : State} {m : MethodId} {args : Array Value} {below : List Frame} {meth : Method} {c : Code} {x : Wx} {al : Nat → Nat → Nat} {lv : Nat → Bool} {res : Int32} {σ : Sg} (hC : Cx x p s m args meth c cX12_isReady 4 (some .boolean) RX12) (v1 : Int32) (H : Heap) (locs : List Loc) (ls : Array Slot) (h : fM_isReady_0 σ v1 = some res) (hP : Pic x al lv σ H) (hS : va_S (Ab x) s.heap H locs) (hl : lv_has ls 4 [(0, .ref (al 7 0)), (1, .int v1)]) : W p l e (rmm 3 0 0) s m args below meth c H locs 0 0 (MQ below (QP x al lv σ res) args s 0 0 (Ab x)) (F0 m 0 ls []) := by
  obtain ⟨hx, hb, hml, hown, hts⟩ := hC.1
  unfold fM_isReady_0 at h
  refine lv_aload_n hx hb dX12_isReady_0 rfl (lv_at hl 0 rfl) ?_
  refine gt_X12_51 hC hP wf_X12_303 dX12_isReady_1 ?_
  refine lv_if_le (tgt := 11) hx hb dX12_isReady_4 (by decide) (fun hc => ?_) (fun hc => ?_)
  · replace h := (br h).1 hc
    refine lv_iconst (v := 0) hx hb dX12_isReady_11 (by decide) ?_
    exact wM_isReady_12  hC  v1 0 H locs ls h hP hS (lv_sub hl [0, 1] rfl)
  · replace h := (br h).2 hc
    refine lv_iconst (v := 1) hx hb dX12_isReady_7 (by decide) ?_
    refine lv_goto (tgt := 12) hx hb dX12_isReady_8 (by decide) ?_
    exact wM_isReady_12  hC  v1 1 H locs ls h hP hS (lv_sub hl [0, 1] rfl)

set_option maxRecDepth 20000 in
theorem tM_isReady {l : Launch} (x : Wx) (al : Nat → Nat → Nat) (lv : Nat → Bool) (σ : Sg) (v1 : Int32) (res : Int32) (h : fM_isReady σ v1 = some res) : Met l yX12_isReady (Cond.code yX12_isReady cX12_isReady 4 (some .boolean) :: lwg) (rmm 3 0 0) (va_Pc [.ref (al 7 0), .int v1] (Wd x al lv σ)) (QP x al lv σ res) 0 0 (Ab x) := by
  refine met_W (by decide) (Nat.le_of_ble_eq_true rfl) rfl (fun p e s m args below meth c ls hC hP hS hl => ?_)
  exact wM_isReady_0  hC v1 _ _ ls h hP hS hl
