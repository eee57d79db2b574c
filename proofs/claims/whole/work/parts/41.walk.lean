set_option maxHeartbeats 4000000 in
set_option maxRecDepth 20000 in
theorem wM_copy_280_b {p : Program} {l : Launch} {e : Env} {s : State} {m : MethodId} {args : Array Value} {below : List Frame} {meth : Method} {c : Code} {x : Wx} {al : Nat → Nat → Nat} {lv : Nat → Bool} {res : Sg} (hC : Cx x p s m args meth c cX12_copy 6 none RX12) (k280 : Sg → Int32 → Int32 → Int32 → Option (Sg)) (hk280 : ∀ (σ : Sg) (x1 : Int32) (x2 : Int32) (x3 : Int32) (H : Heap) (locs : List Loc) (ls : Array Slot), k280 σ x1 x2 x3 = some res → Pic x al lv σ H → va_S (Ab x) s.heap H locs → lv_has ls 6 [(0, .ref (al 7 0)), (1, .int x1), (2, .int x2), (3, .int x3)] → W p l e (rmm 1 0 0) s m args below meth c H locs 0 0 (MQ below (QV x al lv res) args s 0 0 (Ab x)) (F0 m 280 ls [])) (σ : Sg) (x1 : Int32) (x2 : Int32) (x3 : Int32) (H : Heap) (locs : List Loc) (ls : Array Slot) (h : fM_copy_280_b k280 σ x1 x2 x3 = some res) (hP : Pic x al lv σ H) (hS : va_S (Ab x) s.heap H locs) (hl : lv_has ls 6 [(0, .ref (al 7 0)), (1, .int x1), (2, .int x2), (3, .int x3)]) : W p l e (rmm 1 0 0) s m args below meth c H locs 0 0 (MQ below (QV x al lv res) args s 0 0 (Ab x)) (F0 m 280 ls []) := by
  obtain ⟨hx, hb, hml, hown, hts⟩ := hC.1
  unfold fM_copy_280_b at h
  refine lv_iload_n hx hb dX12_copy_280 rfl (lv_at hl 3 rfl) ?_
  refine lv_sipush (v := 300) hx hb dX12_copy_281 (by decide) ?_
  refine lv_icmp_ge (tgt := 395) hx hb dX12_copy_284 (by decide) (fun hc => ?_) (fun hc => ?_)
  · replace h := (br h).1 hc
    exact r_retV hC hP hS h dX12_copy_395
  · replace h := (br h).2 hc
    refine lv_sipush (v := 300) hx hb dX12_copy_287 (by decide) ?_
    refine lv_iload_n hx hb dX12_copy_290 rfl (lv_at hl 1 rfl) ?_
    refine lv_imul hx hb dX12_copy_291 ?_
    refine lv_iload_n hx hb dX12_copy_292 rfl (lv_at hl 3 rfl) ?_
    refine lv_iadd hx hb dX12_copy_293 ?_
    refine r_lt h (fun y20 h => ?_)
    refine lv_istore (lv' := [(4, .int y20), (0, .ref (al 7 0)), (1, .int x1), (2, .int x2), (3, .int x3)]) hx hb dX12_copy_294 hl (by decide) rfl (fun ls hl => ?_)
    refine lv_sipush (v := 300) hx hb dX12_copy_296 (by decide) ?_
    refine lv_iload_n hx hb dX12_copy_299 rfl (lv_at hl 3 rfl) ?_
    refine lv_imul hx hb dX12_copy_300 ?_
    refine lv_iload_n hx hb dX12_copy_301 rfl (lv_at hl 4 rfl) ?_
    refine lv_iadd hx hb dX12_copy_302 ?_
    refine r_lt h (fun y21 h => ?_)
    refine lv_istore (lv' := [(5, .int y21), (4, .int y20), (0, .ref (al 7 0)), (1, .int x1), (2, .int x2), (3, .int x3)]) hx hb dX12_copy_303 hl (by decide) rfl (fun ls hl => ?_)
    refine lv_aload_n hx hb dX12_copy_305 rfl (lv_at hl 2 rfl) ?_
    refine gt_X12_19 hC hP wf_X12_67 dX12_copy_306 ?_
    refine lv_iload hx hb dX12_copy_309 (lv_at hl 0 rfl) ?_
    refine lv_aload_n hx hb dX12_copy_311 rfl (lv_at hl 2 rfl) ?_
    refine gt_X12_19 hC hP wf_X12_67 dX12_copy_312 ?_
    refine lv_iload hx hb dX12_copy_315 (lv_at hl 1 rfl) ?_
    refine r_iald hC hP (aM_19 hP.l7) h dX12_copy_317 (fun h => ?_)
    refine r_iast hC hP hS (aM_19 hP.l7) h dX12_copy_318 (fun σ22 H locs h hP hS => ?_)
    refine lv_aload_n hx hb dX12_copy_319 rfl (lv_at hl 2 rfl) ?_
    refine gt_X12_20 hC hP wf_X12_70 dX12_copy_320 ?_
    refine lv_iload hx hb dX12_copy_323 (lv_at hl 0 rfl) ?_
    refine lv_aload_n hx hb dX12_copy_325 rfl (lv_at hl 2 rfl) ?_
    refine gt_X12_20 hC hP wf_X12_70 dX12_copy_326 ?_
    refine lv_iload hx hb dX12_copy_329 (lv_at hl 1 rfl) ?_
    refine r_iald hC hP (aM_20 hP.l7) h dX12_copy_331 (fun h => ?_)
    refine r_iast hC hP hS (aM_20 hP.l7) h dX12_copy_332 (fun σ23 H locs h hP hS => ?_)
    refine lv_aload_n hx hb dX12_copy_333 rfl (lv_at hl 2 rfl) ?_
    refine gt_X12_21 hC hP wf_X12_73 dX12_copy_334 ?_
    refine lv_iload hx hb dX12_copy_337 (lv_at hl 0 rfl) ?_
    refine lv_aload_n hx hb dX12_copy_339 rfl (lv_at hl 2 rfl) ?_
    refine gt_X12_21 hC hP wf_X12_73 dX12_copy_340 ?_
    refine lv_iload hx hb dX12_copy_343 (lv_at hl 1 rfl) ?_
    refine r_iald hC hP (aM_21 hP.l7) h dX12_copy_345 (fun h => ?_)
    refine r_iast hC hP hS (aM_21 hP.l7) h dX12_copy_346 (fun σ24 H locs h hP hS => ?_)
    refine lv_aload_n hx hb dX12_copy_347 rfl (lv_at hl 2 rfl) ?_
    refine gt_X12_22 hC hP wf_X12_76 dX12_copy_348 ?_
    refine lv_iload hx hb dX12_copy_351 (lv_at hl 0 rfl) ?_
    refine lv_aload_n hx hb dX12_copy_353 rfl (lv_at hl 2 rfl) ?_
    refine gt_X12_22 hC hP wf_X12_76 dX12_copy_354 ?_
    refine lv_iload hx hb dX12_copy_357 (lv_at hl 1 rfl) ?_
    refine r_iald hC hP (aM_22 hP.l7) h dX12_copy_359 (fun h => ?_)
    refine r_iast hC hP hS (aM_22 hP.l7) h dX12_copy_360 (fun σ25 H locs h hP hS => ?_)
    refine lv_aload_n hx hb dX12_copy_361 rfl (lv_at hl 2 rfl) ?_
    refine gt_X12_23 hC hP wf_X12_79 dX12_copy_362 ?_
    refine lv_iload hx hb dX12_copy_365 (lv_at hl 0 rfl) ?_
    refine lv_aload_n hx hb dX12_copy_367 rfl (lv_at hl 2 rfl) ?_
    refine gt_X12_23 hC hP wf_X12_79 dX12_copy_368 ?_
    refine lv_iload hx hb dX12_copy_371 (lv_at hl 1 rfl) ?_
    refine r_iald hC hP (aM_23 hP.l7) h dX12_copy_373 (fun h => ?_)
    refine r_iast hC hP hS (aM_23 hP.l7) h dX12_copy_374 (fun σ26 H locs h hP hS => ?_)
    refine lv_aload_n hx hb dX12_copy_375 rfl (lv_at hl 2 rfl) ?_
    refine gt_X12_24 hC hP wf_X12_82 dX12_copy_376 ?_
    refine lv_iload hx hb dX12_copy_379 (lv_at hl 0 rfl) ?_
    refine lv_aload_n hx hb dX12_copy_381 rfl (lv_at hl 2 rfl) ?_
    refine gt_X12_24 hC hP wf_X12_82 dX12_copy_382 ?_
    refine lv_iload hx hb dX12_copy_385 (lv_at hl 1 rfl) ?_
    refine r_iald hC hP (aM_24 hP.l7) h dX12_copy_387 (fun h => ?_)
    refine r_iast hC hP hS (aM_24 hP.l7) h dX12_copy_388 (fun σ27 H locs h hP hS => ?_)
    refine r_iinc (v := 1) hC h dX12_copy_389 hl (k := 5) rfl rfl (by decide) (fun y28 => [(3, .int y28), (5, .int y21), (4, .int y20), (0, .ref (al 7 0)), (1, .int x1), (2, .int x2)]) (fun _ => rfl) (fun y28 ls h hl => ?_)
    refine lv_goto (tgt := 280) hx hb dX12_copy_392 (by decide) ?_
    exact hk280 σ27 x1 x2 y28 H locs ls h hP hS (lv_sub hl [3, 4, 5, 0] rfl)

set_option maxHeartbeats 4000000 in
set_option maxRecDepth 20000 in
theorem wM_copy_280 {p : Program} {l : Launch} {e : Env} {s : State} {m : MethodId} {args : Array Value} {below : List Frame} {meth : Method} {c : Code} {x : Wx} {al : Nat → Nat → Nat} {lv : Nat → Bool} {res : Sg} (hC : Cx x p s m args meth c cX12_copy 6 none RX12) (n : Nat) (σ : Sg) (x1 : Int32) (x2 : Int32) (x3 : Int32) (H : Heap) (locs : List Loc) (ls : Array Slot) (h : fM_copy_280 n σ x1 x2 x3 = some res) (hP : Pic x al lv σ H) (hS : va_S (Ab x) s.heap H locs) (hl : lv_has ls 6 [(0, .ref (al 7 0)), (1, .int x1), (2, .int x2), (3, .int x3)]) : W p l e (rmm 1 0 0) s m args below meth c H locs 0 0 (MQ below (QV x al lv res) args s 0 0 (Ab x)) (F0 m 280 ls []) := by
  induction n generalizing σ x1 x2 x3 H locs ls with
  | zero => exact nomatch h
  | succ n ih => exact wM_copy_280_b  hC  _ (fun σ x1 x2 x3 H locs ls h hP hS hl => ih σ x1 x2 x3 H locs ls h hP hS hl) σ x1 x2 x3 H locs ls h hP hS hl
set_option maxHeartbeats 4000000 in
set_option maxRecDepth 20000 in
theorem wM_copy_241_b {p : Program} {l : Launch} {e : Env} {s : State} {m : MethodId} {args : Array Value} {below : List Frame} {meth : Method} {c : Code} {x : Wx} {al : Nat → Nat → Nat} {lv : Nat → Bool} {res : Sg} (hC : Cx x p s m args meth c cX12_copy 6 none RX12) (k241 : Sg → Int32 → Int32 → Int32 → Option (Sg)) (hk241 : ∀ (σ : Sg) (x1 : Int32) (x2 : Int32) (x3 : Int32) (H : Heap) (locs : List Loc) (ls : Array Slot), k241 σ x1 x2 x3 = some res → Pic x al lv σ H → va_S (Ab x) s.heap H locs → lv_has ls 6 [(0, .ref (al 7 0)), (1, .int x1), (2, .int x2), (3, .int x3)] → W p l e (rmm 1 0 0) s m args below meth c H locs 0 0 (MQ below (QV x al lv res) args s 0 0 (Ab x)) (F0 m 241 ls [])) (σ : Sg) (x1 : Int32) (x2 : Int32) (x3 : Int32) (H : Heap) (locs : List Loc) (ls : Array Slot) (h : fM_copy_241_b k241 σ x1 x2 x3 = some res) (hP : Pic x al lv σ H) (hS : va_S (Ab x) s.heap H locs) (hl : lv_has ls 6 [(0, .ref (al 7 0)), (1, .int x1), (2, .int x2), (3, .int x3)]) : W p l e (rmm 1 0 0) s m args below meth c H locs 0 0 (MQ below (QV x al lv res) args s 0 0 (Ab x)) (F0 m 241 ls []) := by
  obtain ⟨hx, hb, hml, hown, hts⟩ := hC.1
  unfold fM_copy_241_b at h
  refine lv_iload_n hx hb dX12_copy_241 rfl (lv_at hl 3 rfl) ?_
  refine lv_sipush (v := 1440) hx hb dX12_copy_242 (by decide) ?_
  refine lv_icmp_ge (tgt := 278) hx hb dX12_copy_245 (by decide) (fun hc => ?_) (fun hc => ?_)
  · replace h := (br h).1 hc
    refine lv_iconst (v := 0) hx hb dX12_copy_278 (by decide) ?_
    refine lv_istore_n (lv' := [(3, .int 0), (0, .ref (al 7 0)), (1, .int x1), (2, .int x2)]) hx hb dX12_copy_279 rfl hl (by decide) rfl (fun ls hl => ?_)
    exact wM_copy_280  hC  FU σ x1 x2 0 H locs ls h hP hS (lv_sub hl [1, 2, 3, 0] rfl)
  · replace h := (br h).2 hc
    refine lv_aload_n hx hb dX12_copy_248 rfl (lv_at hl 0 rfl) ?_
    refine gt_X12_18 hC hP wf_X12_64 dX12_copy_249 ?_
    refine lv_sipush (v := 1440) hx hb dX12_copy_252 (by decide) ?_
    refine lv_iload_n hx hb dX12_copy_255 rfl (lv_at hl 2 rfl) ?_
    refine lv_imul hx hb dX12_copy_256 ?_
    refine lv_iload_n hx hb dX12_copy_257 rfl (lv_at hl 3 rfl) ?_
    refine lv_iadd hx hb dX12_copy_258 ?_
    refine lv_aload_n hx hb dX12_copy_259 rfl (lv_at hl 0 rfl) ?_
    refine gt_X12_18 hC hP wf_X12_64 dX12_copy_260 ?_
    refine lv_sipush (v := 1440) hx hb dX12_copy_263 (by decide) ?_
    refine lv_iload_n hx hb dX12_copy_266 rfl (lv_at hl 1 rfl) ?_
    refine lv_imul hx hb dX12_copy_267 ?_
    refine lv_iload_n hx hb dX12_copy_268 rfl (lv_at hl 3 rfl) ?_
    refine lv_iadd hx hb dX12_copy_269 ?_
    refine r_iald hC hP (aM_18 hP.l7) h dX12_copy_270 (fun h => ?_)
    refine r_iast hC hP hS (aM_18 hP.l7) h dX12_copy_271 (fun σ18 H locs h hP hS => ?_)
    refine r_iinc (v := 1) hC h dX12_copy_272 hl (k := 3) rfl rfl (by decide) (fun y19 => [(3, .int y19), (0, .ref (al 7 0)), (1, .int x1), (2, .int x2)]) (fun _ => rfl) (fun y19 ls h hl => ?_)
    refine lv_goto (tgt := 241) hx hb dX12_copy_275 (by decide) ?_
    exact hk241 σ18 x1 x2 y19 H locs ls h hP hS (lv_sub hl [1, 2, 3, 0] rfl)

set_option maxHeartbeats 4000000 in
set_option maxRecDepth 20000 in
theorem wM_copy_241 {p : Program} {l : Launch} {e : Env} {s : State} {m : MethodId} {args : Array Value} {below : List Frame} {meth : Method} {c : Code} {x : Wx} {al : Nat → Nat → Nat} {lv : Nat → Bool} {res : Sg} (hC : Cx x p s m args meth c cX12_copy 6 none RX12) (n : Nat) (σ : Sg) (x1 : Int32) (x2 : Int32) (x3 : Int32) (H : Heap) (locs : List Loc) (ls : Array Slot) (h : fM_copy_241 n σ x1 x2 x3 = some res) (hP : Pic x al lv σ H) (hS : va_S (Ab x) s.heap H locs) (hl : lv_has ls 6 [(0, .ref (al 7 0)), (1, .int x1), (2, .int x2), (3, .int x3)]) : W p l e (rmm 1 0 0) s m args below meth c H locs 0 0 (MQ below (QV x al lv res) args s 0 0 (Ab x)) (F0 m 241 ls []) := by
  induction n generalizing σ x1 x2 x3 H locs ls with
  | zero => exact nomatch h
  | succ n ih => exact wM_copy_241_b  hC  _ (fun σ x1 x2 x3 H locs ls h hP hS hl => ih σ x1 x2 x3 H locs ls h hP hS hl) σ x1 x2 x3 H locs ls h hP hS hl
set_option maxHeartbeats 4000000 in
set_option maxRecDepth 20000 in
theorem wM_copy_202_b {p : Program} {l : Launch} {e : Env} {s : State} {m : MethodId} {args : Array Value} {below : List Frame} {meth : Method} {c : Code} {x : Wx} {al : Nat → Nat → Nat} {lv : Nat → Bool} {res : Sg} (hC : Cx x p s m args meth c cX12_copy 6 none RX12) (k202 : Sg → Int32 → Int32 → Int32 → Option (Sg)) (hk202 : ∀ (σ : Sg) (x1 : Int32) (x2 : Int32) (x3 : Int32) (H : Heap) (locs : List Loc) (ls : Array Slot), k202 σ x1 x2 x3 = some res → Pic x al lv σ H → va_S (Ab x) s.heap H locs → lv_has ls 6 [(0, .ref (al 7 0)), (1, .int x1), (2, .int x2), (3, .int x3)] → W p l e (rmm 1 0 0) s m args below meth c H locs 0 0 (MQ below (QV x al lv res) args s 0 0 (Ab x)) (F0 m 202 ls [])) (σ : Sg) (x1 : Int32) (x2 : Int32) (x3 : Int32) (H : Heap) (locs : List Loc) (ls : Array Slot) (h : fM_copy_202_b k202 σ x1 x2 x3 = some res) (hP : Pic x al lv σ H) (hS : va_S (Ab x) s.heap H locs) (hl : lv_has ls 6 [(0, .ref (al 7 0)), (1, .int x1), (2, .int x2), (3, .int x3)]) : W p l e (rmm 1 0 0) s m args below meth c H locs 0 0 (MQ below (QV x al lv res) args s 0 0 (Ab x)) (F0 m 202 ls []) := by
  obtain ⟨hx, hb, hml, hown, hts⟩ := hC.1
  unfold fM_copy_202_b at h
  refine lv_iload_n hx hb dX12_copy_202 rfl (lv_at hl 3 rfl) ?_
  refine lv_sipush (v := 240) hx hb dX12_copy_203 (by decide) ?_
  refine lv_icmp_ge (tgt := 239) hx hb dX12_copy_206 (by decide) (fun hc => ?_) (fun hc => ?_)
  · replace h := (br h).1 hc
    refine lv_iconst (v := 0) hx hb dX12_copy_239 (by decide) ?_
    refine lv_istore_n (lv' := [(3, .int 0), (0, .ref (al 7 0)), (1, .int x1), (2, .int x2)]) hx hb dX12_copy_240 rfl hl (by decide) rfl (fun ls hl => ?_)
    exact wM_copy_241  hC  FU σ x1 x2 0 H locs ls h hP hS (lv_sub hl [1, 2, 3, 0] rfl)
  · replace h := (br h).2 hc
    refine lv_aload_n hx hb dX12_copy_209 rfl (lv_at hl 0 rfl) ?_
    refine gt_X12_17 hC hP wf_X12_61 dX12_copy_210 ?_
    refine lv_sipush (v := 240) hx hb dX12_copy_213 (by decide) ?_
    refine lv_iload_n hx hb dX12_copy_216 rfl (lv_at hl 2 rfl) ?_
    refine lv_imul hx hb dX12_copy_217 ?_
    refine lv_iload_n hx hb dX12_copy_218 rfl (lv_at hl 3 rfl) ?_
    refine lv_iadd hx hb dX12_copy_219 ?_
    refine lv_aload_n hx hb dX12_copy_220 rfl (lv_at hl 0 rfl) ?_
    refine gt_X12_17 hC hP wf_X12_61 dX12_copy_221 ?_
    refine lv_sipush (v := 240) hx hb dX12_copy_224 (by decide) ?_
    refine lv_iload_n hx hb dX12_copy_227 rfl (lv_at hl 1 rfl) ?_
    refine lv_imul hx hb dX12_copy_228 ?_
    refine lv_iload_n hx hb dX12_copy_229 rfl (lv_at hl 3 rfl) ?_
    refine lv_iadd hx hb dX12_copy_230 ?_
    refine r_zald hC hP (aM_17 hP.l7) h dX12_copy_231 (fun h => ?_)
    refine r_zast hC hP hS (aM_17 hP.l7) h dX12_copy_232 (fun σ16 H locs h hP hS => ?_)
    refine r_iinc (v := 1) hC h dX12_copy_233 hl (k := 3) rfl rfl (by decide) (fun y17 => [(3, .int y17), (0, .ref (al 7 0)), (1, .int x1), (2, .int x2)]) (fun _ => rfl) (fun y17 ls h hl => ?_)
    refine lv_goto (tgt := 202) hx hb dX12_copy_236 (by decide) ?_
    exact hk202 σ16 x1 x2 y17 H locs ls h hP hS (lv_sub hl [1, 2, 3, 0] rfl)

set_option maxHeartbeats 4000000 in
set_option maxRecDepth 20000 in
theorem wM_copy_202 {p : Program} {l : Launch} {e : Env} {s : State} {m : MethodId} {args : Array Value} {below : List Frame} {meth : Method} {c : Code} {x : Wx} {al : Nat → Nat → Nat} {lv : Nat → Bool} {res : Sg} (hC : Cx x p s m args meth c cX12_copy 6 none RX12) (n : Nat) (σ : Sg) (x1 : Int32) (x2 : Int32) (x3 : Int32) (H : Heap) (locs : List Loc) (ls : Array Slot) (h : fM_copy_202 n σ x1 x2 x3 = some res) (hP : Pic x al lv σ H) (hS : va_S (Ab x) s.heap H locs) (hl : lv_has ls 6 [(0, .ref (al 7 0)), (1, .int x1), (2, .int x2), (3, .int x3)]) : W p l e (rmm 1 0 0) s m args below meth c H locs 0 0 (MQ below (QV x al lv res) args s 0 0 (Ab x)) (F0 m 202 ls []) := by
  induction n generalizing σ x1 x2 x3 H locs ls with
  | zero => exact nomatch h
  | succ n ih => exact wM_copy_202_b  hC  _ (fun σ x1 x2 x3 H locs ls h hP hS hl => ih σ x1 x2 x3 H locs ls h hP hS hl) σ x1 x2 x3 H locs ls h hP hS hl
set_option maxHeartbeats 4000000 in
set_option maxRecDepth 20000 in
theorem wM_copy_74_b {p : Program} {l : Launch} {e : Env} {s : State} {m : MethodId} {args : Array Value} {below : List Frame} {meth : Method} {c : Code} {x : Wx} {al : Nat → Nat → Nat} {lv : Nat → Bool} {res : Sg} (hC : Cx x p s m args meth c cX12_copy 6 none RX12) (k74 : Sg → Int32 → Int32 → Int32 → Option (Sg)) (hk74 : ∀ (σ : Sg) (x1 : Int32) (x2 : Int32) (x3 : Int32) (H : Heap) (locs : List Loc) (ls : Array Slot), k74 σ x1 x2 x3 = some res → Pic x al lv σ H → va_S (Ab x) s.heap H locs → lv_has ls 6 [(0, .ref (al 7 0)), (1, .int x1), (2, .int x2), (3, .int x3)] → W p l e (rmm 1 0 0) s m args below meth c H locs 0 0 (MQ below (QV x al lv res) args s 0 0 (Ab x)) (F0 m 74 ls [])) (σ : Sg) (x1 : Int32) (x2 : Int32) (x3 : Int32) (H : Heap) (locs : List Loc) (ls : Array Slot) (h : fM_copy_74_b k74 σ x1 x2 x3 = some res) (hP : Pic x al lv σ H) (hS : va_S (Ab x) s.heap H locs) (hl : lv_has ls 6 [(0, .ref (al 7 0)), (1, .int x1), (2, .int x2), (3, .int x3)]) : W p l e (rmm 1 0 0) s m args below meth c H locs 0 0 (MQ below (QV x al lv res) args s 0 0 (Ab x)) (F0 m 74 ls []) := by
  obtain ⟨hx, hb, hml, hown, hts⟩ := hC.1
  unfold fM_copy_74_b at h
  refine lv_iload_n hx hb dX12_copy_74 rfl (lv_at hl 3 rfl) ?_
  refine lv_bipush (v := 8) hx hb dX12_copy_75 (by decide) ?_
  refine lv_icmp_ge (tgt := 200) hx hb dX12_copy_77 (by decide) (fun hc => ?_) (fun hc => ?_)
  · replace h := (br h).1 hc
    refine lv_iconst (v := 0) hx hb dX12_copy_200 (by decide) ?_
    refine lv_istore_n (lv' := [(3, .int 0), (0, .ref (al 7 0)), (1, .int x1), (2, .int x2)]) hx hb dX12_copy_201 rfl hl (by decide) rfl (fun ls hl => ?_)
    exact wM_copy_202  hC  FU σ x1 x2 0 H locs ls h hP hS (lv_sub hl [1, 2, 3, 0] rfl)
  · replace h := (br h).2 hc
    refine lv_bipush (v := 8) hx hb dX12_copy_80 (by decide) ?_
    refine lv_iload_n hx hb dX12_copy_82 rfl (lv_at hl 1 rfl) ?_
    refine lv_imul hx hb dX12_copy_83 ?_
    refine lv_iload_n hx hb dX12_copy_84 rfl (lv_at hl 3 rfl) ?_
    refine lv_iadd hx hb dX12_copy_85 ?_
    refine r_lt h (fun y6 h => ?_)
    refine lv_istore (lv' := [(4, .int y6), (0, .ref (al 7 0)), (1, .int x1), (2, .int x2), (3, .int x3)]) hx hb dX12_copy_86 hl (by decide) rfl (fun ls hl => ?_)
    refine lv_bipush (v := 8) hx hb dX12_copy_88 (by decide) ?_
    refine lv_iload_n hx hb dX12_copy_90 rfl (lv_at hl 3 rfl) ?_
    refine lv_imul hx hb dX12_copy_91 ?_
    refine lv_iload_n hx hb dX12_copy_92 rfl (lv_at hl 4 rfl) ?_
    refine lv_iadd hx hb dX12_copy_93 ?_
    refine r_lt h (fun y7 h => ?_)
    refine lv_istore (lv' := [(5, .int y7), (4, .int y6), (0, .ref (al 7 0)), (1, .int x1), (2, .int x2), (3, .int x3)]) hx hb dX12_copy_94 hl (by decide) rfl (fun ls hl => ?_)
    refine lv_aload_n hx hb dX12_copy_96 rfl (lv_at hl 2 rfl) ?_
    refine gt_X12_10 hC hP wf_X12_40 dX12_copy_97 ?_
    refine lv_iload hx hb dX12_copy_100 (lv_at hl 0 rfl) ?_
    refine lv_aload_n hx hb dX12_copy_102 rfl (lv_at hl 2 rfl) ?_
    refine gt_X12_10 hC hP wf_X12_40 dX12_copy_103 ?_
    refine lv_iload hx hb dX12_copy_106 (lv_at hl 1 rfl) ?_
    refine r_iald hC hP (aM_10 hP.l7) h dX12_copy_108 (fun h => ?_)
    refine r_iast hC hP hS (aM_10 hP.l7) h dX12_copy_109 (fun σ8 H locs h hP hS => ?_)
    refine lv_aload_n hx hb dX12_copy_110 rfl (lv_at hl 2 rfl) ?_
    refine gt_X12_11 hC hP wf_X12_43 dX12_copy_111 ?_
    refine lv_iload hx hb dX12_copy_114 (lv_at hl 0 rfl) ?_
    refine lv_aload_n hx hb dX12_copy_116 rfl (lv_at hl 2 rfl) ?_
    refine gt_X12_11 hC hP wf_X12_43 dX12_copy_117 ?_
    refine lv_iload hx hb dX12_copy_120 (lv_at hl 1 rfl) ?_
    refine r_iald hC hP (aM_11 hP.l7) h dX12_copy_122 (fun h => ?_)
    refine r_iast hC hP hS (aM_11 hP.l7) h dX12_copy_123 (fun σ9 H locs h hP hS => ?_)
    refine lv_aload_n hx hb dX12_copy_124 rfl (lv_at hl 2 rfl) ?_
    refine gt_X12_12 hC hP wf_X12_46 dX12_copy_125 ?_
    refine lv_iload hx hb dX12_copy_128 (lv_at hl 0 rfl) ?_
    refine lv_aload_n hx hb dX12_copy_130 rfl (lv_at hl 2 rfl) ?_
    refine gt_X12_12 hC hP wf_X12_46 dX12_copy_131 ?_
    refine lv_iload hx hb dX12_copy_134 (lv_at hl 1 rfl) ?_
    refine r_iald hC hP (aM_12 hP.l7) h dX12_copy_136 (fun h => ?_)
    refine r_iast hC hP hS (aM_12 hP.l7) h dX12_copy_137 (fun σ10 H locs h hP hS => ?_)
    refine lv_aload_n hx hb dX12_copy_138 rfl (lv_at hl 2 rfl) ?_
    refine gt_X12_13 hC hP wf_X12_49 dX12_copy_139 ?_
    refine lv_iload hx hb dX12_copy_142 (lv_at hl 0 rfl) ?_
    refine lv_aload_n hx hb dX12_copy_144 rfl (lv_at hl 2 rfl) ?_
    refine gt_X12_13 hC hP wf_X12_49 dX12_copy_145 ?_
    refine lv_iload hx hb dX12_copy_148 (lv_at hl 1 rfl) ?_
    refine r_iald hC hP (aM_13 hP.l7) h dX12_copy_150 (fun h => ?_)
    refine r_iast hC hP hS (aM_13 hP.l7) h dX12_copy_151 (fun σ11 H locs h hP hS => ?_)
    refine lv_aload_n hx hb dX12_copy_152 rfl (lv_at hl 2 rfl) ?_
    refine gt_X12_14 hC hP wf_X12_52 dX12_copy_153 ?_
    refine lv_iload hx hb dX12_copy_156 (lv_at hl 0 rfl) ?_
    refine lv_aload_n hx hb dX12_copy_158 rfl (lv_at hl 2 rfl) ?_
    refine gt_X12_14 hC hP wf_X12_52 dX12_copy_159 ?_
    refine lv_iload hx hb dX12_copy_162 (lv_at hl 1 rfl) ?_
    refine r_iald hC hP (aM_14 hP.l7) h dX12_copy_164 (fun h => ?_)
    refine r_iast hC hP hS (aM_14 hP.l7) h dX12_copy_165 (fun σ12 H locs h hP hS => ?_)
    refine lv_aload_n hx hb dX12_copy_166 rfl (lv_at hl 2 rfl) ?_
    refine gt_X12_15 hC hP wf_X12_55 dX12_copy_167 ?_
    refine lv_iload hx hb dX12_copy_170 (lv_at hl 0 rfl) ?_
    refine lv_aload_n hx hb dX12_copy_172 rfl (lv_at hl 2 rfl) ?_
    refine gt_X12_15 hC hP wf_X12_55 dX12_copy_173 ?_
    refine lv_iload hx hb dX12_copy_176 (lv_at hl 1 rfl) ?_
    refine r_iald hC hP (aM_15 hP.l7) h dX12_copy_178 (fun h => ?_)
    refine r_iast hC hP hS (aM_15 hP.l7) h dX12_copy_179 (fun σ13 H locs h hP hS => ?_)
    refine lv_aload_n hx hb dX12_copy_180 rfl (lv_at hl 2 rfl) ?_
    refine gt_X12_16 hC hP wf_X12_58 dX12_copy_181 ?_
    refine lv_iload hx hb dX12_copy_184 (lv_at hl 0 rfl) ?_
    refine lv_aload_n hx hb dX12_copy_186 rfl (lv_at hl 2 rfl) ?_
    refine gt_X12_16 hC hP wf_X12_58 dX12_copy_187 ?_
    refine lv_iload hx hb dX12_copy_190 (lv_at hl 1 rfl) ?_
    refine r_iald hC hP (aM_16 hP.l7) h dX12_copy_192 (fun h => ?_)
    refine r_iast hC hP hS (aM_16 hP.l7) h dX12_copy_193 (fun σ14 H locs h hP hS => ?_)
    refine r_iinc (v := 1) hC h dX12_copy_194 hl (k := 5) rfl rfl (by decide) (fun y15 => [(3, .int y15), (5, .int y7), (4, .int y6), (0, .ref (al 7 0)), (1, .int x1), (2, .int x2)]) (fun _ => rfl) (fun y15 ls h hl => ?_)
    refine lv_goto (tgt := 74) hx hb dX12_copy_197 (by decide) ?_
    exact hk74 σ14 x1 x2 y15 H locs ls h hP hS (lv_sub hl [3, 4, 5, 0] rfl)

set_option maxHeartbeats 4000000 in
set_option maxRecDepth 20000 in
theorem wM_copy_74 {p : Program} {l : Launch} {e : Env} {s : State} {m : MethodId} {args : Array Value} {below : List Frame} {meth : Method} {c : Code} {x : Wx} {al : Nat → Nat → Nat} {lv : Nat → Bool} {res : Sg} (hC : Cx x p s m args meth c cX12_copy 6 none RX12) (n : Nat) (σ : Sg) (x1 : Int32) (x2 : Int32) (x3 : Int32) (H : Heap) (locs : List Loc) (ls : Array Slot) (h : fM_copy_74 n σ x1 x2 x3 = some res) (hP : Pic x al lv σ H) (hS : va_S (Ab x) s.heap H locs) (hl : lv_has ls 6 [(0, .ref (al 7 0)), (1, .int x1), (2, .int x2), (3, .int x3)]) : W p l e (rmm 1 0 0) s m args below meth c H locs 0 0 (MQ below (QV x al lv res) args s 0 0 (Ab x)) (F0 m 74 ls []) := by
  induction n generalizing σ x1 x2 x3 H locs ls with
  | zero => exact nomatch h
  | succ n ih => exact wM_copy_74_b  hC  _ (fun σ x1 x2 x3 H locs ls h hP hS hl => ih σ x1 x2 x3 H locs ls h hP hS hl) σ x1 x2 x3 H locs ls h hP hS hl
set_option maxHeartbeats 4000000 in
set_option maxRecDepth 20000 in
theorem wM_copy_38_b {p : Program} {l : Launch} {e : Env} {s : State} {m : MethodId} {args : Array Value} {below : List Frame} {meth : Method} {c : Code} {x : Wx} {al : Nat → Nat → Nat} {lv : Nat → Bool} {res : Sg} (hC : Cx x p s m args meth c cX12_copy 6 none RX12) (k38 : Sg → Int32 → Int32 → Int32 → Option (Sg)) (hk38 : ∀ (σ : Sg) (x1 : Int32) (x2 : Int32) (x3 : Int32) (H : Heap) (locs : List Loc) (ls : Array Slot), k38 σ x1 x2 x3 = some res → Pic x al lv σ H → va_S (Ab x) s.heap H locs → lv_has ls 6 [(0, .ref (al 7 0)), (1, .int x1), (2, .int x2), (3, .int x3)] → W p l e (rmm 1 0 0) s m args below meth c H locs 0 0 (MQ below (QV x al lv res) args s 0 0 (Ab x)) (F0 m 38 ls [])) (σ : Sg) (x1 : Int32) (x2 : Int32) (x3 : Int32) (H : Heap) (locs : List Loc) (ls : Array Slot) (h : fM_copy_38_b k38 σ x1 x2 x3 = some res) (hP : Pic x al lv σ H) (hS : va_S (Ab x) s.heap H locs) (hl : lv_has ls 6 [(0, .ref (al 7 0)), (1, .int x1), (2, .int x2), (3, .int x3)]) : W p l e (rmm 1 0 0) s m args below meth c H locs 0 0 (MQ below (QV x al lv res) args s 0 0 (Ab x)) (F0 m 38 ls []) := by
  obtain ⟨hx, hb, hml, hown, hts⟩ := hC.1
  unfold fM_copy_38_b at h
  refine lv_iload_n hx hb dX12_copy_38 rfl (lv_at hl 3 rfl) ?_
  refine lv_bipush (v := 6) hx hb dX12_copy_39 (by decide) ?_
  refine lv_icmp_ge (tgt := 72) hx hb dX12_copy_41 (by decide) (fun hc => ?_) (fun hc => ?_)
  · replace h := (br h).1 hc
    refine lv_iconst (v := 0) hx hb dX12_copy_72 (by decide) ?_
    refine lv_istore_n (lv' := [(3, .int 0), (0, .ref (al 7 0)), (1, .int x1), (2, .int x2)]) hx hb dX12_copy_73 rfl hl (by decide) rfl (fun ls hl => ?_)
    exact wM_copy_74  hC  FU σ x1 x2 0 H locs ls h hP hS (lv_sub hl [1, 2, 3, 0] rfl)
  · replace h := (br h).2 hc
    refine lv_aload_n hx hb dX12_copy_44 rfl (lv_at hl 0 rfl) ?_
    refine gt_X12_9 hC hP wf_X12_37 dX12_copy_45 ?_
    refine lv_bipush (v := 6) hx hb dX12_copy_48 (by decide) ?_
    refine lv_iload_n hx hb dX12_copy_50 rfl (lv_at hl 2 rfl) ?_
    refine lv_imul hx hb dX12_copy_51 ?_
    refine lv_iload_n hx hb dX12_copy_52 rfl (lv_at hl 3 rfl) ?_
    refine lv_iadd hx hb dX12_copy_53 ?_
    refine lv_aload_n hx hb dX12_copy_54 rfl (lv_at hl 0 rfl) ?_
    refine gt_X12_9 hC hP wf_X12_37 dX12_copy_55 ?_
    refine lv_bipush (v := 6) hx hb dX12_copy_58 (by decide) ?_
    refine lv_iload_n hx hb dX12_copy_60 rfl (lv_at hl 1 rfl) ?_
    refine lv_imul hx hb dX12_copy_61 ?_
    refine lv_iload_n hx hb dX12_copy_62 rfl (lv_at hl 3 rfl) ?_
    refine lv_iadd hx hb dX12_copy_63 ?_
    refine r_iald hC hP (aM_9 hP.l7) h dX12_copy_64 (fun h => ?_)
    refine r_iast hC hP hS (aM_9 hP.l7) h dX12_copy_65 (fun σ4 H locs h hP hS => ?_)
    refine r_iinc (v := 1) hC h dX12_copy_66 hl (k := 3) rfl rfl (by decide) (fun y5 => [(3, .int y5), (0, .ref (al 7 0)), (1, .int x1), (2, .int x2)]) (fun _ => rfl) (fun y5 ls h hl => ?_)
    refine lv_goto (tgt := 38) hx hb dX12_copy_69 (by decide) ?_
    exact hk38 σ4 x1 x2 y5 H locs ls h hP hS (lv_sub hl [1, 2, 3, 0] rfl)

set_option maxHeartbeats 4000000 in
set_option maxRecDepth 20000 in
theorem wM_copy_38 {p : Program} {l : Launch} {e : Env} {s : State} {m : MethodId} {args : Array Value} {below : List Frame} {meth : Method} {c : Code} {x : Wx} {al : Nat → Nat → Nat} {lv : Nat → Bool} {res : Sg} (hC : Cx x p s m args meth c cX12_copy 6 none RX12) (n : Nat) (σ : Sg) (x1 : Int32) (x2 : Int32) (x3 : Int32) (H : Heap) (locs : List Loc) (ls : Array Slot) (h : fM_copy_38 n σ x1 x2 x3 = some res) (hP : Pic x al lv σ H) (hS : va_S (Ab x) s.heap H locs) (hl : lv_has ls 6 [(0, .ref (al 7 0)), (1, .int x1), (2, .int x2), (3, .int x3)]) : W p l e (rmm 1 0 0) s m args below meth c H locs 0 0 (MQ below (QV x al lv res) args s 0 0 (Ab x)) (F0 m 38 ls []) := by
  induction n generalizing σ x1 x2 x3 H locs ls with
  | zero => exact nomatch h
  | succ n ih => exact wM_copy_38_b  hC  _ (fun σ x1 x2 x3 H locs ls h hP hS hl => ih σ x1 x2 x3 H locs ls h hP hS hl) σ x1 x2 x3 H locs ls h hP hS hl
set_option maxHeartbeats 4000000 in
set_option maxRecDepth 20000 in
theorem wM_copy_0 {p : Program} {l : Launch} {e : Env} {s : State} {m : MethodId} {args : Array Value} {below : List Frame} {meth : Method} {c : Code} {x : Wx} {al : Nat → Nat → Nat} {lv : Nat → Bool} {res : Sg} (hC : Cx x p s m args meth c cX12_copy 6 none RX12) (σ : Sg) (v1 : Int32) (v2 : Int32) (H : Heap) (locs : List Loc) (ls : Array Slot) (h : fM_copy_0 σ v1 v2 = some res) (hP : Pic x al lv σ H) (hS : va_S (Ab x) s.heap H locs) (hl : lv_has ls 6 [(0, .ref (al 7 0)), (1, .int v1), (2, .int v2)]) : W p l e (rmm 1 0 0) s m args below meth c H locs 0 0 (MQ below (QV x al lv res) args s 0 0 (Ab x)) (F0 m 0 ls []) := by
  obtain ⟨hx, hb, hml, hown, hts⟩ := hC.1
  unfold fM_copy_0 at h
  refine lv_aload_n hx hb dX12_copy_0 rfl (lv_at hl 0 rfl) ?_
  refine gt_X12_6 hC hP wf_X12_27 dX12_copy_1 ?_
  refine lv_iload_n hx hb dX12_copy_4 rfl (lv_at hl 2 rfl) ?_
  refine lv_aload_n hx hb dX12_copy_5 rfl (lv_at hl 0 rfl) ?_
  refine gt_X12_6 hC hP wf_X12_27 dX12_copy_6 ?_
  refine lv_iload_n hx hb dX12_copy_9 rfl (lv_at hl 1 rfl) ?_
  refine r_iald hC hP (aM_6 hP.l7) h dX12_copy_10 (fun h => ?_)
  refine r_iast hC hP hS (aM_6 hP.l7) h dX12_copy_11 (fun σ1 H locs h hP hS => ?_)
  refine lv_aload_n hx hb dX12_copy_12 rfl (lv_at hl 0 rfl) ?_
  refine gt_X12_7 hC hP wf_X12_31 dX12_copy_13 ?_
  refine lv_iload_n hx hb dX12_copy_16 rfl (lv_at hl 2 rfl) ?_
  refine lv_aload_n hx hb dX12_copy_17 rfl (lv_at hl 0 rfl) ?_
  refine gt_X12_7 hC hP wf_X12_31 dX12_copy_18 ?_
  refine lv_iload_n hx hb dX12_copy_21 rfl (lv_at hl 1 rfl) ?_
  refine r_iald hC hP (aM_7 hP.l7) h dX12_copy_22 (fun h => ?_)
  refine r_iast hC hP hS (aM_7 hP.l7) h dX12_copy_23 (fun σ2 H locs h hP hS => ?_)
  refine lv_aload_n hx hb dX12_copy_24 rfl (lv_at hl 0 rfl) ?_
  refine gt_X12_8 hC hP wf_X12_34 dX12_copy_25 ?_
  refine lv_iload_n hx hb dX12_copy_28 rfl (lv_at hl 2 rfl) ?_
  refine lv_aload_n hx hb dX12_copy_29 rfl (lv_at hl 0 rfl) ?_
  refine gt_X12_8 hC hP wf_X12_34 dX12_copy_30 ?_
  refine lv_iload_n hx hb dX12_copy_33 rfl (lv_at hl 1 rfl) ?_
  refine r_iald hC hP (aM_8 hP.l7) h dX12_copy_34 (fun h => ?_)
  refine r_iast hC hP hS (aM_8 hP.l7) h dX12_copy_35 (fun σ3 H locs h hP hS => ?_)
  refine lv_iconst (v := 0) hx hb dX12_copy_36 (by decide) ?_
  refine lv_istore_n (lv' := [(3, .int 0), (0, .ref (al 7 0)), (1, .int v1), (2, .int v2)]) hx hb dX12_copy_37 rfl hl (by decide) rfl (fun ls hl => ?_)
  exact wM_copy_38  hC  FU σ3 v1 v2 0 H locs ls h hP hS (lv_sub hl [1, 2, 3, 0] rfl)

set_option maxRecDepth 20000 in
theorem tM_copy {l : Launch} (x : Wx) (al : Nat → Nat → Nat) (lv : Nat → Bool) (σ : Sg) (v1 : Int32) (v2 : Int32) (res : Sg) (h : fM_copy σ v1 v2 = some res) : Met l yX12_copy (Cond.code yX12_copy cX12_copy 6 none :: lwg) (rmm 1 0 0) (va_Pc [.ref (al 7 0), .int v1, .int v2] (Wd x al lv σ)) (QV x al lv res) 0 0 (Ab x) := by
  refine met_W (by decide) (Nat.le_of_ble_eq_true rfl) rfl (fun p e s m args below meth c ls hC hP hS hl => ?_)
  exact wM_copy_0  hC σ v1 v2 _ _ ls h hP hS hl
set_option maxHeartbeats 4000000 in
set_option maxRecDepth 20000 in
theorem wM_places_0 {p : Program} {l : Launch} {e : Env} {s : State} {m : MethodId} {args : Array Value} {below : List Frame} {meth : Method} {c : Code} {x : Wx} {al : Nat → Nat → Nat} {lv : Nat → Bool} {res : Int32} {σ : Sg} (hC : Cx x p s m args meth c cX12_places 2 (some .int) RX12) (v1 : Int32) (H : Heap) (locs : List Loc) (ls : Array Slot) (h : fM_places_0 σ v1 = some res) (hP : Pic x al lv σ H) (hS : va_S (Ab x) s.heap H locs) (hl : lv_has ls 2 [(0, .ref (al 7 0)), (1, .int v1)]) : W p l e (rmm 1 0 0) s m args below meth c H locs 0 0 (MQ below (QP x al lv σ res) args s 0 0 (Ab x)) (F0 m 0 ls []) := by
  obtain ⟨hx, hb, hml, hown, hts⟩ := hC.1
  unfold fM_places_0 at h
  refine lv_aload_n hx hb dX12_places_0 rfl (lv_at hl 0 rfl) ?_
  refine gt_X12_11 hC hP wf_X12_43 dX12_places_1 ?_
  refine lv_iload_n hx hb dX12_places_4 rfl (lv_at hl 1 rfl) ?_
  refine r_iald hC hP (aM_11 hP.l7) h dX12_places_5 (fun h => ?_)
  refine lv_aload_n hx hb dX12_places_6 rfl (lv_at hl 0 rfl) ?_
  refine gt_X12_12 hC hP wf_X12_46 dX12_places_7 ?_
  refine lv_iload_n hx hb dX12_places_10 rfl (lv_at hl 1 rfl) ?_
  refine r_iald hC hP (aM_12 hP.l7) h dX12_places_11 (fun h => ?_)
  refine lv_imul hx hb dX12_places_12 ?_
  refine lv_aload_n hx hb dX12_places_13 rfl (lv_at hl 0 rfl) ?_
  refine gt_X12_13 hC hP wf_X12_49 dX12_places_14 ?_
  refine lv_iload_n hx hb dX12_places_17 rfl (lv_at hl 1 rfl) ?_
  refine r_iald hC hP (aM_13 hP.l7) h dX12_places_18 (fun h => ?_)
  refine lv_imul hx hb dX12_places_19 ?_
  exact r_retP hC hP hS rfl h dX12_places_20

set_option maxRecDepth 20000 in
theorem tM_places {l : Launch} (x : Wx) (al : Nat → Nat → Nat) (lv : Nat → Bool) (σ : Sg) (v1 : Int32) (res : Int32) (h : fM_places σ v1 = some res) : Met l yX12_places (Cond.code yX12_places cX12_places 2 (some .int) :: lwg) (rmm 1 0 0) (va_Pc [.ref (al 7 0), .int v1] (Wd x al lv σ)) (QP x al lv σ res) 0 0 (Ab x) := by
  refine met_W (by decide) (Nat.le_of_ble_eq_true rfl) rfl (fun p e s m args below meth c ls hC hP hS hl => ?_)
  exact wM_places_0  hC v1 _ _ ls h hP hS hl
set_option maxHeartbeats 4000000 in
set_option maxRecDepth 20000 in
theorem wM_isRoom_0 {p : Program} {l : Launch} {e : Env} {s : State} {m : MethodId} {args : Array Value} {below : List Frame} {meth : Method} {c : Code} {x : Wx} {al : Nat → Nat → Nat} {lv : Nat → Bool} {res : Int32} {σ : Sg} (hC : Cx x p s m args meth c cX12_isRoom 2 (some .boolean) RX12) (v1 : Int32) (H : Heap) (locs : List Loc) (ls : Array Slot) (h : fM_isRoom_0 σ v1 = some res) (hP : Pic x al lv σ H) (hS : va_S (Ab x) s.heap H locs) (hl : lv_has ls 2 [(0, .ref (al 7 0)), (1, .int v1)]) : W p l e (rmm 2 0 0) s m args below meth c H locs 0 0 (MQ below (QP x al lv σ res) args s 0 0 (Ab x)) (F0 m 0 ls []) := by
  obtain ⟨hx, hb, hml, hown, hts⟩ := hC.1
  unfold fM_isRoom_0 at h
  refine lv_iload_n hx hb dX12_isRoom_0 rfl (lv_at hl 1 rfl) ?_
  refine lv_iconst (v := 0) hx hb dX12_isRoom_1 (by decide) ?_
  refine lv_aload_n hx hb dX12_isRoom_2 rfl (lv_at hl 0 rfl) ?_
  refine gt_X12_7 hC hP wf_X12_31 dX12_isRoom_3 ?_
  refine lv_iconst (v := 0) hx hb dX12_isRoom_6 (by decide) ?_
  refine r_iald hC hP (aM_7 hP.l7) h dX12_isRoom_7 (fun h => ?_)
  refine lv_iconst (v := 1) hx hb dX12_isRoom_8 (by decide) ?_
  refine lv_isub hx hb dX12_isRoom_9 ?_
  refine r_cP hS h (fun r hr => r_runS (As := [.int v1, .int 0, .int ((σ 7 7 (0 : Int32).toNatClampNeg) - 1)]) (rest := []) hC kS_X12_145 cw_X12_in hP (tM_in x al lv σ v1 0 ((σ 7 7 (0 : Int32).toNatClampNeg) - 1) r hr) rfl hl.1 ⟨Nat.le_of_ble_eq_true rfl, Nat.le_of_ble_eq_true rfl⟩ ⟨Nat.le_of_ble_eq_true rfl, Nat.le_of_ble_eq_true rfl⟩ (Nat.le_of_ble_eq_true rfl) dX12_isRoom_10) (fun y1 H locs h hP hS => ?_)
  obtain ⟨hz2, h⟩ := gd_e h
  exact r_retP hC hP hS (isb_n hz2) h dX12_isRoom_13

set_option maxRecDepth 20000 in
theorem tM_isRoom {l : Launch} (x : Wx) (al : Nat → Nat → Nat) (lv : Nat → Bool) (σ : Sg) (v1 : Int32) (res : Int32) (h : fM_isRoom σ v1 = some res) : Met l yX12_isRoom (Cond.code yX12_isRoom cX12_isRoom 2 (some .boolean) :: lwg) (rmm 2 0 0) (va_Pc [.ref (al 7 0), .int v1] (Wd x al lv σ)) (QP x al lv σ res) 0 0 (Ab x) := by
  refine met_W (by decide) (Nat.le_of_ble_eq_true rfl) rfl (fun p e s m args below meth c ls hC hP hS hl => ?_)
  exact wM_isRoom_0  hC v1 _ _ ls h hP hS hl
set_option maxHeartbeats 4000000 in
set_option maxRecDepth 20000 in
theorem wM_isPlace_0 {p : Program} {l : Launch} {e : Env} {s : State} {m : MethodId} {args : Array Value} {below : List Frame} {meth : Method} {c : Code} {x : Wx} {al : Nat → Nat → Nat} {lv : Nat → Bool} {res : Int32} {σ : Sg} (hC : Cx x p s m args meth c cX12_isPlace 3 (some .boolean) RX12) (v1 : Int32) (v2 : Int32) (H : Heap) (locs : List Loc) (ls : Array Slot) (h : fM_isPlace_0 σ v1 v2 = some res) (hP : Pic x al lv σ H) (hS : va_S (Ab x) s.heap H locs) (hl : lv_has ls 3 [(0, .ref (al 7 0)), (1, .int v1), (2, .int v2)]) : W p l e (rmm 2 0 0) s m args below meth c H locs 0 0 (MQ below (QP x al lv σ res) args s 0 0 (Ab x)) (F0 m 0 ls []) := by
  obtain ⟨hx, hb, hml, hown, hts⟩ := hC.1
  unfold fM_isPlace_0 at h
  refine lv_iload_n hx hb dX12_isPlace_0 rfl (lv_at hl 2 rfl) ?_
  refine lv_iconst (v := 0) hx hb dX12_isPlace_1 (by decide) ?_
  refine lv_aload_n hx hb dX12_isPlace_2 rfl (lv_at hl 0 rfl) ?_
  refine lv_iload_n hx hb dX12_isPlace_3 rfl (lv_at hl 1 rfl) ?_
  refine r_cP hS h (fun r hr => r_runV (As := [.int v1]) (rest := [.int 0, .int v2]) hC kV_X12_160 cw_X12_places (rc_X12 hC hP) hP (tM_places x al lv σ v1 r hr) rfl hl.1 ⟨Nat.le_of_ble_eq_true rfl, Nat.le_of_ble_eq_true rfl⟩ ⟨Nat.le_of_ble_eq_true rfl, Nat.le_of_ble_eq_true rfl⟩ (Nat.le_of_ble_eq_true rfl) dX12_isPlace_4) (fun y1 H locs h hP hS => ?_)
  refine lv_iconst (v := 1) hx hb dX12_isPlace_7 (by decide) ?_
  refine lv_isub hx hb dX12_isPlace_8 ?_
  refine r_cP hS h (fun r hr => r_runS (As := [.int v2, .int 0, .int (y1 - 1)]) (rest := []) hC kS_X12_145 cw_X12_in hP (tM_in x al lv σ v2 0 (y1 - 1) r hr) rfl hl.1 ⟨Nat.le_of_ble_eq_true rfl, Nat.le_of_ble_eq_true rfl⟩ ⟨Nat.le_of_ble_eq_true rfl, Nat.le_of_ble_eq_true rfl⟩ (Nat.le_of_ble_eq_true rfl) dX12_isPlace_9) (fun y2 H locs h hP hS => ?_)
  obtain ⟨hz3, h⟩ := gd_e h
  exact r_retP hC hP hS (isb_n hz3) h dX12_isPlace_12

set_option maxRecDepth 20000 in
theorem tM_isPlace {l : Launch} (x : Wx) (al : Nat → Nat → Nat) (lv : Nat → Bool) (σ : Sg) (v1 : Int32) (v2 : Int32) (res : Int32) (h : fM_isPlace σ v1 v2 = some res) : Met l yX12_isPlace (Cond.code yX12_isPlace cX12_isPlace 3 (some .boolean) :: lwg) (rmm 2 0 0) (va_Pc [.ref (al 7 0), .int v1, .int v2] (Wd x al lv σ)) (QP x al lv σ res) 0 0 (Ab x) := by
  refine met_W (by decide) (Nat.le_of_ble_eq_true rfl) rfl (fun p e s m args below meth c ls hC hP hS hl => ?_)
  exact wM_isPlace_0  hC v1 v2 _ _ ls h hP hS hl
set_option maxHeartbeats 4000000 in
set_option maxRecDepth 20000 in
theorem wM_rowOf_0 {p : Program} {l : Launch} {e : Env} {s : State} {m : MethodId} {args : Array Value} {below : List Frame} {meth : Method} {c : Code} {x : Wx} {al : Nat → Nat → Nat} {lv : Nat → Bool} {res : Int32} {σ : Sg} (hC : Cx x p s m args meth c cX12_rowOf 3 (some .int) RX12) (v1 : Int32) (v2 : Int32) (H : Heap) (locs : List Loc) (ls : Array Slot) (h : fM_rowOf_0 σ v1 v2 = some res) (hP : Pic x al lv σ H) (hS : va_S (Ab x) s.heap H locs) (hl : lv_has ls 3 [(0, .ref (al 7 0)), (1, .int v1), (2, .int v2)]) : W p l e (rmm 1 0 0) s m args below meth c H locs 0 0 (MQ below (QP x al lv σ res) args s 0 0 (Ab x)) (F0 m 0 ls []) := by
  obtain ⟨hx, hb, hml, hown, hts⟩ := hC.1
  unfold fM_rowOf_0 at h
  refine lv_bipush (v := 30) hx hb dX12_rowOf_0 (by decide) ?_
  refine lv_iload_n hx hb dX12_rowOf_2 rfl (lv_at hl 1 rfl) ?_
  refine lv_imul hx hb dX12_rowOf_3 ?_
  refine lv_iload_n hx hb dX12_rowOf_4 rfl (lv_at hl 2 rfl) ?_
  refine lv_aload_n hx hb dX12_rowOf_5 rfl (lv_at hl 0 rfl) ?_
  refine gt_X12_11 hC hP wf_X12_43 dX12_rowOf_6 ?_
  refine lv_iload_n hx hb dX12_rowOf_9 rfl (lv_at hl 1 rfl) ?_
  refine r_iald hC hP (aM_11 hP.l7) h dX12_rowOf_10 (fun h => ?_)
  obtain ⟨hz1, h⟩ := gd_e h
  refine lv_idiv hx hb dX12_rowOf_11 (nzi_n hz1) ?_
  refine lv_iadd hx hb dX12_rowOf_12 ?_
  exact r_retP hC hP hS rfl h dX12_rowOf_13

set_option maxRecDepth 20000 in
theorem tM_rowOf {l : Launch} (x : Wx) (al : Nat → Nat → Nat) (lv : Nat → Bool) (σ : Sg) (v1 : Int32) (v2 : Int32) (res : Int32) (h : fM_rowOf σ v1 v2 = some res) : Met l yX12_rowOf (Cond.code yX12_rowOf cX12_rowOf 3 (some .int) :: lwg) (rmm 1 0 0) (va_Pc [.ref (al 7 0), .int v1, .int v2] (Wd x al lv σ)) (QP x al lv σ res) 0 0 (Ab x) := by
  refine met_W (by decide) (Nat.le_of_ble_eq_true rfl) rfl (fun p e s m args below meth c ls hC hP hS hl => ?_)
  exact wM_rowOf_0  hC v1 v2 _ _ ls h hP hS hl
set_option maxHeartbeats 4000000 in
set_option maxRecDepth 20000 in
theorem wM_isLaid_0 {p : Program} {l : Launch} {e : Env} {s : State} {m : MethodId} {args : Array Value} {below : List Frame} {meth : Method} {c : Code} {x : Wx} {al : Nat → Nat → Nat} {lv : Nat → Bool} {res : Int32} {σ : Sg} (hC : Cx x p s m args meth c cX12_isLaid 3 (some .boolean) RX12) (v1 : Int32) (v2 : Int32) (H : Heap) (locs : List Loc) (ls : Array Slot) (h : fM_isLaid_0 σ v1 v2 = some res) (hP : Pic x al lv σ H) (hS : va_S (Ab x) s.heap H locs) (hl : lv_has ls 3 [(0, .ref (al 7 0)), (1, .int v1), (2, .int v2)]) : W p l e (rmm 2 0 0) s m args below meth c H locs 0 0 (MQ below (QP x al lv σ res) args s 0 0 (Ab x)) (F0 m 0 ls []) := by
  obtain ⟨hx, hb, hml, hown, hts⟩ := hC.1
  unfold fM_isLaid_0 at h
  refine lv_aload_n hx hb dX12_isLaid_0 rfl (lv_at hl 0 rfl) ?_
  refine gt_X12_17 hC hP wf_X12_61 dX12_isLaid_1 ?_
  refine lv_aload_n hx hb dX12_isLaid_4 rfl (lv_at hl 0 rfl) ?_
  refine lv_iload_n hx hb dX12_isLaid_5 rfl (lv_at hl 1 rfl) ?_
  refine lv_iload_n hx hb dX12_isLaid_6 rfl (lv_at hl 2 rfl) ?_
  refine r_cP hS h (fun r hr => r_runV (As := [.int v1, .int v2]) (rest := [.ref (al 7 17)]) hC kV_X12_163 cw_X12_rowOf (rc_X12 hC hP) hP (tM_rowOf x al lv σ v1 v2 r hr) rfl hl.1 ⟨Nat.le_of_ble_eq_true rfl, Nat.le_of_ble_eq_true rfl⟩ ⟨Nat.le_of_ble_eq_true rfl, Nat.le_of_ble_eq_true rfl⟩ (Nat.le_of_ble_eq_true rfl) dX12_isLaid_7) (fun y1 H locs h hP hS => ?_)
  refine r_zald hC hP (aM_17 hP.l7) h dX12_isLaid_10 (fun h => ?_)
  obtain ⟨hz2, h⟩ := gd_e h
  exact r_retP hC hP hS (isb_n hz2) h dX12_isLaid_11

set_option maxRecDepth 20000 in
theorem tM_isLaid {l : Launch} (x : Wx) (al : Nat → Nat → Nat) (lv : Nat → Bool) (σ : Sg) (v1 : Int32) (v2 : Int32) (res : Int32) (h : fM_isLaid σ v1 v2 = some res) : Met l yX12_isLaid (Cond.code yX12_isLaid cX12_isLaid 3 (some .boolean) :: lwg) (rmm 2 0 0) (va_Pc [.ref (al 7 0), .int v1, .int v2] (Wd x al lv σ)) (QP x al lv σ res) 0 0 (Ab x) := by
  refine met_W (by decide) (Nat.le_of_ble_eq_true rfl) rfl (fun p e s m args below meth c ls hC hP hS hl => ?_)
  exact wM_isLaid_0  hC v1 v2 _ _ ls h hP hS hl
set_option maxHeartbeats 4000000 in
set_option maxRecDepth 20000 in
theorem wM_floor_0 {p : Program} {l : Launch} {e : Env} {s : State} {m : MethodId} {args : Array Value} {below : List Frame} {meth : Method} {c : Code} {x : Wx} {al : Nat → Nat → Nat} {lv : Nat → Bool} {res : Int32} {σ : Sg} (hC : Cx x p s m args meth c cX12_floor 2 (some .int) RX12) (v1 : Int32) (H : Heap) (locs : List Loc) (ls : Array Slot) (h : fM_floor_0 σ v1 = some res) (hP : Pic x al lv σ H) (hS : va_S (Ab x) s.heap H locs) (hl : lv_has ls 2 [(0, .ref (al 7 0)), (1, .int v1)]) : W p l e (rmm 1 0 0) s m args below meth c H locs 0 0 (MQ below (QP x al lv σ res) args s 0 0 (Ab x)) (F0 m 0 ls []) := by
  obtain ⟨hx, hb, hml, hown, hts⟩ := hC.1
  unfold fM_floor_0 at h
  refine lv_aload_n hx hb dX12_floor_0 rfl (lv_at hl 0 rfl) ?_
  refine gt_X12_11 hC hP wf_X12_43 dX12_floor_1 ?_
  refine lv_iload_n hx hb dX12_floor_4 rfl (lv_at hl 1 rfl) ?_
  refine r_iald hC hP (aM_11 hP.l7) h dX12_floor_5 (fun h => ?_)
  refine lv_aload_n hx hb dX12_floor_6 rfl (lv_at hl 0 rfl) ?_
  refine gt_X12_12 hC hP wf_X12_46 dX12_floor_7 ?_
  refine lv_iload_n hx hb dX12_floor_10 rfl (lv_at hl 1 rfl) ?_
  refine r_iald hC hP (aM_12 hP.l7) h dX12_floor_11 (fun h => ?_)
  refine lv_imul hx hb dX12_floor_12 ?_
  exact r_retP hC hP hS rfl h dX12_floor_13

set_option maxRecDepth 20000 in
theorem tM_floor {l : Launch} (x : Wx) (al : Nat → Nat → Nat) (lv : Nat → Bool) (σ : Sg) (v1 : Int32) (res : Int32) (h : fM_floor σ v1 = some res) : Met l yX12_floor (Cond.code yX12_floor cX12_floor 2 (some .int) :: lwg) (rmm 1 0 0) (va_Pc [.ref (al 7 0), .int v1] (Wd x al lv σ)) (QP x al lv σ res) 0 0 (Ab x) := by
  refine met_W (by decide) (Nat.le_of_ble_eq_true rfl) rfl (fun p e s m args below meth c ls hC hP hS hl => ?_)
  exact wM_floor_0  hC v1 _ _ ls h hP hS hl
set_option maxHeartbeats 4000000 in
set_option maxRecDepth 20000 in
theorem wM_layerOf_0 {p : Program} {l : Launch} {e : Env} {s : State} {m : MethodId} {args : Array Value} {below : List Frame} {meth : Method} {c : Code} {x : Wx} {al : Nat → Nat → Nat} {lv : Nat → Bool} {res : Int32} {σ : Sg} (hC : Cx x p s m args meth c cX12_layerOf 3 (some .int) RX12) (v1 : Int32) (v2 : Int32) (H : Heap) (locs : List Loc) (ls : Array Slot) (h : fM_layerOf_0 σ v1 v2 = some res) (hP : Pic x al lv σ H) (hS : va_S (Ab x) s.heap H locs) (hl : lv_has ls 3 [(0, .ref (al 7 0)), (1, .int v1), (2, .int v2)]) : W p l e (rmm 2 0 0) s m args below meth c H locs 0 0 (MQ below (QP x al lv σ res) args s 0 0 (Ab x)) (F0 m 0 ls []) := by
  obtain ⟨hx, hb, hml, hown, hts⟩ := hC.1
  unfold fM_layerOf_0 at h
  refine lv_iload_n hx hb dX12_layerOf_0 rfl (lv_at hl 2 rfl) ?_
  refine lv_aload_n hx hb dX12_layerOf_1 rfl (lv_at hl 0 rfl) ?_
  refine lv_iload_n hx hb dX12_layerOf_2 rfl (lv_at hl 1 rfl) ?_
  refine r_cP hS h (fun r hr => r_runV (As := [.int v1]) (rest := [.int v2]) hC kV_X12_167 cw_X12_floor (rc_X12 hC hP) hP (tM_floor x al lv σ v1 r hr) rfl hl.1 ⟨Nat.le_of_ble_eq_true rfl, Nat.le_of_ble_eq_true rfl⟩ ⟨Nat.le_of_ble_eq_true rfl, Nat.le_of_ble_eq_true rfl⟩ (Nat.le_of_ble_eq_true rfl) dX12_layerOf_3) (fun y1 H locs h hP hS => ?_)
  obtain ⟨hz2, h⟩ := gd_e h
  refine lv_idiv hx hb dX12_layerOf_6 (nzi_n hz2) ?_
  exact r_retP hC hP hS rfl h dX12_layerOf_7

set_option maxRecDepth 20000 in
theorem tM_layerOf {l : Launch} (x : Wx) (al : Nat → Nat → Nat) (lv : Nat → Bool) (σ : Sg) (v1 : Int32) (v2 : Int32) (res : Int32) (h : fM_layerOf σ v1 v2 = some res) : Met l yX12_layerOf (Cond.code yX12_layerOf cX12_layerOf 3 (some .int) :: lwg) (rmm 2 0 0) (va_Pc [.ref (al 7 0), .int v1, .int v2] (Wd x al lv σ)) (QP x al lv σ res) 0 0 (Ab x) := by
  refine met_W (by decide) (Nat.le_of_ble_eq_true rfl) rfl (fun p e s m args below meth c ls hC hP hS hl => ?_)
  exact wM_layerOf_0  hC v1 v2 _ _ ls h hP hS hl
set_option maxHeartbeats 4000000 in
set_option maxRecDepth 20000 in
theorem wM_at_0 {p : Program} {l : Launch} {e : Env} {s : State} {m : MethodId} {args : Array Value} {below : List Frame} {meth : Method} {c : Code} {x : Wx} {al : Nat → Nat → Nat} {lv : Nat → Bool} {res : Int32} {σ : Sg} (hC : Cx x p s m args meth c cX12_at 3 (some .int) RX12) (v1 : Int32) (v2 : Int32) (H : Heap) (locs : List Loc) (ls : Array Slot) (h : fM_at_0 σ v1 v2 = some res) (hP : Pic x al lv σ H) (hS : va_S (Ab x) s.heap H locs) (hl : lv_has ls 3 [(0, .ref (al 7 0)), (1, .int v1), (2, .int v2)]) : W p l e (rmm 1 0 0) s m args below meth c H locs 0 0 (MQ below (QP x al lv σ res) args s 0 0 (Ab x)) (F0 m 0 ls []) := by
  obtain ⟨hx, hb, hml, hown, hts⟩ := hC.1
  unfold fM_at_0 at h
  refine lv_aload_n hx hb dX12_at_0 rfl (lv_at hl 0 rfl) ?_
  refine gt_X12_18 hC hP wf_X12_64 dX12_at_1 ?_
  refine lv_sipush (v := 180) hx hb dX12_at_4 (by decide) ?_
  refine lv_iload_n hx hb dX12_at_7 rfl (lv_at hl 1 rfl) ?_
  refine lv_imul hx hb dX12_at_8 ?_
  refine lv_iload_n hx hb dX12_at_9 rfl (lv_at hl 2 rfl) ?_
  refine lv_iadd hx hb dX12_at_10 ?_
  refine r_iald hC hP (aM_18 hP.l7) h dX12_at_11 (fun h => ?_)
  exact r_retP hC hP hS rfl h dX12_at_12

set_option maxRecDepth 20000 in
theorem tM_at {l : Launch} (x : Wx) (al : Nat → Nat → Nat) (lv : Nat → Bool) (σ : Sg) (v1 : Int32) (v2 : Int32) (res : Int32) (h : fM_at σ v1 v2 = some res) : Met l yX12_at (Cond.code yX12_at cX12_at 3 (some .int) :: lwg) (rmm 1 0 0) (va_Pc [.ref (al 7 0), .int v1, .int v2] (Wd x al lv σ)) (QP x al lv σ res) 0 0 (Ab x) := by
  refine met_W (by decide) (Nat.le_of_ble_eq_true rfl) rfl (fun p e s m args below meth c ls hC hP hS hl => ?_)
  exact wM_at_0  hC v1 v2 _ _ ls h hP hS hl
set_option maxHeartbeats 4000000 in
set_option maxRecDepth 20000 in
theorem wM_side_95 {p : Program} {l : Launch} {e : Env} {s : State} {m : MethodId} {args : Array Value} {below : List Frame} {meth : Method} {c : Code} {x : Wx} {al : Nat → Nat → Nat} {lv : Nat → Bool} {res : Int32} {σ : Sg} (hC : Cx x p s m args meth c cX12_side 11 (some .int) RX12) (x1 : Int32) (x2 : Int32) (x4 : Int32) (x5 : Int32) (x6 : Int32) (x7 : Int32) (x8 : Int32) (x9 : Int32) (t0 : Int32) (H : Heap) (locs : List Loc) (ls : Array Slot) (h : fM_side_95 σ x1 x2 x4 x5 x6 x7 x8 x9 t0 = some res) (hP : Pic x al lv σ H) (hS : va_S (Ab x) s.heap H locs) (hl : lv_has ls 11 [(0, .ref (al 7 0)), (1, .int x1), (2, .int x2), (4, .int x4), (5, .int x5), (6, .int x6), (7, .int x7), (8, .int x8), (9, .int x9)]) : W p l e (rmm 3 0 0) s m args below meth c H locs 0 0 (MQ below (QP x al lv σ res) args s 0 0 (Ab x)) (F0 m 95 ls [.int t0]) := by
  obtain ⟨hx, hb, hml, hown, hts⟩ := hC.1
  unfold fM_side_95 at h
  refine lv_istore (lv' := [(10, .int t0), (0, .ref (al 7 0)), (1, .int x1), (2, .int x2), (4, .int x4), (5, .int x5), (6, .int x6), (7, .int x7), (8, .int x8), (9, .int x9)]) hx hb dX12_side_95 hl (by decide) rfl (fun ls hl => ?_)
  refine lv_iload hx hb dX12_side_97 (lv_at hl 5 rfl) ?_
  refine lv_iload hx hb dX12_side_99 (lv_at hl 8 rfl) ?_
  refine lv_iadd hx hb dX12_side_101 ?_
  refine lv_iconst (v := 0) hx hb dX12_side_102 (by decide) ?_
  refine lv_iload hx hb dX12_side_103 (lv_at hl 4 rfl) ?_
  refine lv_iconst (v := 1) hx hb dX12_side_105 (by decide) ?_
  refine lv_isub hx hb dX12_side_106 ?_
  refine r_cP hS h (fun r hr => r_runS (As := [.int (x5 + x8), .int 0, .int (x4 - 1)]) (rest := []) hC kS_X12_145 cw_X12_in hP (tM_in x al lv σ (x5 + x8) 0 (x4 - 1) r hr) rfl hl.1 ⟨Nat.le_of_ble_eq_true rfl, Nat.le_of_ble_eq_true rfl⟩ ⟨Nat.le_of_ble_eq_true rfl, Nat.le_of_ble_eq_true rfl⟩ (Nat.le_of_ble_eq_true rfl) dX12_side_107) (fun y8 H locs h hP hS => ?_)
  refine lv_if_eq (tgt := 153) hx hb dX12_side_110 (by decide) (fun hc => ?_) (fun hc => ?_)
  · replace h := (br h).1 hc
    refine lv_iconst (v := 0) hx hb dX12_side_153 (by decide) ?_
    exact r_retP hC hP hS rfl h dX12_side_154
  · replace h := (br h).2 hc
    refine lv_iload hx hb dX12_side_113 (lv_at hl 6 rfl) ?_
    refine lv_iload hx hb dX12_side_115 (lv_at hl 9 rfl) ?_
    refine lv_iadd hx hb dX12_side_117 ?_
    refine lv_iconst (v := 0) hx hb dX12_side_118 (by decide) ?_
    refine lv_aload_n hx hb dX12_side_119 rfl (lv_at hl 1 rfl) ?_
    refine gt_X12_12 hC hP wf_X12_46 dX12_side_120 ?_
    refine lv_iload_n hx hb dX12_side_123 rfl (lv_at hl 2 rfl) ?_
    refine r_iald hC hP (aM_12 hP.l7) h dX12_side_124 (fun h => ?_)
    refine lv_iconst (v := 1) hx hb dX12_side_125 (by decide) ?_
    refine lv_isub hx hb dX12_side_126 ?_
    refine r_cP hS h (fun r hr => r_runS (As := [.int (x6 + x9), .int 0, .int ((σ 7 12 x1.toNatClampNeg) - 1)]) (rest := []) hC kS_X12_145 cw_X12_in hP (tM_in x al lv σ (x6 + x9) 0 ((σ 7 12 x1.toNatClampNeg) - 1) r hr) rfl hl.1 ⟨Nat.le_of_ble_eq_true rfl, Nat.le_of_ble_eq_true rfl⟩ ⟨Nat.le_of_ble_eq_true rfl, Nat.le_of_ble_eq_true rfl⟩ (Nat.le_of_ble_eq_true rfl) dX12_side_127) (fun y9 H locs h hP hS => ?_)
    refine lv_if_eq (tgt := 153) hx hb dX12_side_130 (by decide) (fun hc => ?_) (fun hc => ?_)
    · replace h := (br h).1 hc
      refine lv_iconst (v := 0) hx hb dX12_side_153 (by decide) ?_
      exact r_retP hC hP hS rfl h dX12_side_154
    · replace h := (br h).2 hc
      refine lv_iload hx hb dX12_side_133 (lv_at hl 7 rfl) ?_
      refine lv_iload hx hb dX12_side_135 (lv_at hl 0 rfl) ?_
      refine lv_iadd hx hb dX12_side_137 ?_
      refine lv_iconst (v := 0) hx hb dX12_side_138 (by decide) ?_
      refine lv_aload_n hx hb dX12_side_139 rfl (lv_at hl 1 rfl) ?_
      refine gt_X12_13 hC hP wf_X12_49 dX12_side_140 ?_
      refine lv_iload_n hx hb dX12_side_143 rfl (lv_at hl 2 rfl) ?_
      refine r_iald hC hP (aM_13 hP.l7) h dX12_side_144 (fun h => ?_)
      refine lv_iconst (v := 1) hx hb dX12_side_145 (by decide) ?_
      refine lv_isub hx hb dX12_side_146 ?_
      refine r_cP hS h (fun r hr => r_runS (As := [.int (x7 + t0), .int 0, .int ((σ 7 13 x1.toNatClampNeg) - 1)]) (rest := []) hC kS_X12_145 cw_X12_in hP (tM_in x al lv σ (x7 + t0) 0 ((σ 7 13 x1.toNatClampNeg) - 1) r hr) rfl hl.1 ⟨Nat.le_of_ble_eq_true rfl, Nat.le_of_ble_eq_true rfl⟩ ⟨Nat.le_of_ble_eq_true rfl, Nat.le_of_ble_eq_true rfl⟩ (Nat.le_of_ble_eq_true rfl) dX12_side_147) (fun y10 H locs h hP hS => ?_)
      refine lv_if_ne (tgt := 155) hx hb dX12_side_150 (by decide) (fun hc => ?_) (fun hc => ?_)
      · replace h := (br h).2 hc
        refine lv_aload_n hx hb dX12_side_155 rfl (lv_at hl 1 rfl) ?_
        refine lv_iload_n hx hb dX12_side_156 rfl (lv_at hl 2 rfl) ?_
        refine lv_iload_n hx hb dX12_side_157 rfl (lv_at hl 3 rfl) ?_
        refine lv_iload hx hb dX12_side_158 (lv_at hl 8 rfl) ?_
        refine lv_iadd hx hb dX12_side_160 ?_
        refine lv_iload hx hb dX12_side_161 (lv_at hl 4 rfl) ?_
        refine lv_iload hx hb dX12_side_163 (lv_at hl 9 rfl) ?_
        refine lv_aload_n hx hb dX12_side_165 rfl (lv_at hl 1 rfl) ?_
        refine gt_X12_12 hC hP wf_X12_46 dX12_side_166 ?_
        refine lv_iload_n hx hb dX12_side_169 rfl (lv_at hl 2 rfl) ?_
        refine r_iald hC hP (aM_12 hP.l7) h dX12_side_170 (fun h => ?_)
        refine lv_iload hx hb dX12_side_171 (lv_at hl 0 rfl) ?_
        refine lv_imul hx hb dX12_side_173 ?_
        refine lv_iadd hx hb dX12_side_174 ?_
        refine lv_imul hx hb dX12_side_175 ?_
        refine lv_iadd hx hb dX12_side_176 ?_
        refine r_cP hS h (fun r hr => r_runV (As := [.int x1, .int ((x2 + x8) + (x4 * (x9 + ((σ 7 12 x1.toNatClampNeg) * t0))))]) (rest := []) hC kV_X12_173 cw_X12_at (rc_X12 hC hP) hP (tM_at x al lv σ x1 ((x2 + x8) + (x4 * (x9 + ((σ 7 12 x1.toNatClampNeg) * t0)))) r hr) rfl hl.1 ⟨Nat.le_of_ble_eq_true rfl, Nat.le_of_ble_eq_true rfl⟩ ⟨Nat.le_of_ble_eq_true rfl, Nat.le_of_ble_eq_true rfl⟩ (Nat.le_of_ble_eq_true rfl) dX12_side_177) (fun y11 H locs h hP hS => ?_)
        exact r_retP hC hP hS rfl h dX12_side_180
      · replace h := (br h).1 hc
        refine lv_iconst (v := 0) hx hb dX12_side_153 (by decide) ?_
        exact r_retP hC hP hS rfl h dX12_side_154

set_option maxHeartbeats 4000000 in
set_option maxRecDepth 20000 in
theorem wM_side_74 {p : Program} {l : Launch} {e : Env} {s : State} {m : MethodId} {args : Array Value} {below : List Frame} {meth : Method} {c : Code} {x : Wx} {al : Nat → Nat → Nat} {lv : Nat → Bool} {res : Int32} {σ : Sg} (hC : Cx x p s m args meth c cX12_side 11 (some .int) RX12) (x1 : Int32) (x2 : Int32) (x3 : Int32) (x4 : Int32) (x5 : Int32) (x6 : Int32) (x7 : Int32) (x8 : Int32) (t0 : Int32) (H : Heap) (locs : List Loc) (ls : Array Slot) (h : fM_side_74 σ x1 x2 x3 x4 x5 x6 x7 x8 t0 = some res) (hP : Pic x al lv σ H) (hS : va_S (Ab x) s.heap H locs) (hl : lv_has ls 11 [(0, .ref (al 7 0)), (1, .int x1), (2, .int x2), (3, .int x3), (4, .int x4), (5, .int x5), (6, .int x6), (7, .int x7), (8, .int x8)]) : W p l e (rmm 3 0 0) s m args below meth c H locs 0 0 (MQ below (QP x al lv σ res) args s 0 0 (Ab x)) (F0 m 74 ls [.int t0]) := by
  obtain ⟨hx, hb, hml, hown, hts⟩ := hC.1
  unfold fM_side_74 at h
  refine lv_istore (lv' := [(9, .int t0), (0, .ref (al 7 0)), (1, .int x1), (2, .int x2), (3, .int x3), (4, .int x4), (5, .int x5), (6, .int x6), (7, .int x7), (8, .int x8)]) hx hb dX12_side_74 hl (by decide) rfl (fun ls hl => ?_)
  refine lv_iload_n hx hb dX12_side_76 rfl (lv_at hl 4 rfl) ?_
  refine lv_iconst (v := 4) hx hb dX12_side_77 (by decide) ?_
  refine lv_icmp_ne (tgt := 85) hx hb dX12_side_78 (by decide) (fun hc => ?_) (fun hc => ?_)
  · replace h := (br h).2 hc
    refine lv_iload_n hx hb dX12_side_85 rfl (lv_at hl 4 rfl) ?_
    refine lv_iconst (v := 5) hx hb dX12_side_86 (by decide) ?_
    refine lv_icmp_ne (tgt := 94) hx hb dX12_side_87 (by decide) (fun hc => ?_) (fun hc => ?_)
    · replace h := (br h).2 hc
      refine lv_iconst (v := 0) hx hb dX12_side_94 (by decide) ?_
      exact wM_side_95  hC  x1 x2 x4 x5 x6 x7 x8 t0 0 H locs ls h hP hS (lv_sub hl [1, 2, 3, 5, 6, 7, 8, 9, 0] rfl)
    · replace h := (br h).1 hc
      refine lv_iconst (v := 1) hx hb dX12_side_90 (by decide) ?_
      refine lv_goto (tgt := 95) hx hb dX12_side_91 (by decide) ?_
      exact wM_side_95  hC  x1 x2 x4 x5 x6 x7 x8 t0 1 H locs ls h hP hS (lv_sub hl [1, 2, 3, 5, 6, 7, 8, 9, 0] rfl)
  · replace h := (br h).1 hc
    refine lv_iconst (v := (-1)) hx hb dX12_side_81 (by decide) ?_
    refine lv_goto (tgt := 95) hx hb dX12_side_82 (by decide) ?_
    exact wM_side_95  hC  x1 x2 x4 x5 x6 x7 x8 t0 ((-1)) H locs ls h hP hS (lv_sub hl [1, 2, 3, 5, 6, 7, 8, 9, 0] rfl)

set_option maxHeartbeats 4000000 in
set_option maxRecDepth 20000 in
theorem wM_side_53 {p : Program} {l : Launch} {e : Env} {s : State} {m : MethodId} {args : Array Value} {below : List Frame} {meth : Method} {c : Code} {x : Wx} {al : Nat → Nat → Nat} {lv : Nat → Bool} {res : Int32} {σ : Sg} (hC : Cx x p s m args meth c cX12_side 11 (some .int) RX12) (x1 : Int32) (x2 : Int32) (x3 : Int32) (x4 : Int32) (x5 : Int32) (x6 : Int32) (x7 : Int32) (t0 : Int32) (H : Heap) (locs : List Loc) (ls : Array Slot) (h : fM_side_53 σ x1 x2 x3 x4 x5 x6 x7 t0 = some res) (hP : Pic x al lv σ H) (hS : va_S (Ab x) s.heap H locs) (hl : lv_has ls 11 [(0, .ref (al 7 0)), (1, .int x1), (2, .int x2), (3, .int x3), (4, .int x4), (5, .int x5), (6, .int x6), (7, .int x7)]) : W p l e (rmm 3 0 0) s m args below meth c H locs 0 0 (MQ below (QP x al lv σ res) args s 0 0 (Ab x)) (F0 m 53 ls [.int t0]) := by
  obtain ⟨hx, hb, hml, hown, hts⟩ := hC.1
  unfold fM_side_53 at h
  refine lv_istore (lv' := [(8, .int t0), (0, .ref (al 7 0)), (1, .int x1), (2, .int x2), (3, .int x3), (4, .int x4), (5, .int x5), (6, .int x6), (7, .int x7)]) hx hb dX12_side_53 hl (by decide) rfl (fun ls hl => ?_)
  refine lv_iload_n hx hb dX12_side_55 rfl (lv_at hl 4 rfl) ?_
  refine lv_iconst (v := 2) hx hb dX12_side_56 (by decide) ?_
  refine lv_icmp_ne (tgt := 64) hx hb dX12_side_57 (by decide) (fun hc => ?_) (fun hc => ?_)
  · replace h := (br h).2 hc
    refine lv_iload_n hx hb dX12_side_64 rfl (lv_at hl 4 rfl) ?_
    refine lv_iconst (v := 3) hx hb dX12_side_65 (by decide) ?_
    refine lv_icmp_ne (tgt := 73) hx hb dX12_side_66 (by decide) (fun hc => ?_) (fun hc => ?_)
    · replace h := (br h).2 hc
      refine lv_iconst (v := 0) hx hb dX12_side_73 (by decide) ?_
      exact wM_side_74  hC  x1 x2 x3 x4 x5 x6 x7 t0 0 H locs ls h hP hS (lv_sub hl [1, 2, 3, 4, 5, 6, 7, 8, 0] rfl)
    · replace h := (br h).1 hc
      refine lv_iconst (v := 1) hx hb dX12_side_69 (by decide) ?_
      refine lv_goto (tgt := 74) hx hb dX12_side_70 (by decide) ?_
      exact wM_side_74  hC  x1 x2 x3 x4 x5 x6 x7 t0 1 H locs ls h hP hS (lv_sub hl [1, 2, 3, 4, 5, 6, 7, 8, 0] rfl)
  · replace h := (br h).1 hc
    refine lv_iconst (v := (-1)) hx hb dX12_side_60 (by decide) ?_
    refine lv_goto (tgt := 74) hx hb dX12_side_61 (by decide) ?_
    exact wM_side_74  hC  x1 x2 x3 x4 x5 x6 x7 t0 ((-1)) H locs ls h hP hS (lv_sub hl [1, 2, 3, 4, 5, 6, 7, 8, 0] rfl)

set_option maxHeartbeats 4000000 in
set_option maxRecDepth 20000 in
theorem wM_side_0 {p : Program} {l : Launch} {e : Env} {s : State} {m : MethodId} {args : Array Value} {below : List Frame} {meth : Method} {c : Code} {x : Wx} {al : Nat → Nat → Nat} {lv : Nat → Bool} {res : Int32} {σ : Sg} (hC : Cx x p s m args meth c cX12_side 11 (some .int) RX12) (v1 : Int32) (v2 : Int32) (v3 : Int32) (H : Heap) (locs : List Loc) (ls : Array Slot) (h : fM_side_0 σ v1 v2 v3 = some res) (hP : Pic x al lv σ H) (hS : va_S (Ab x) s.heap H locs) (hl : lv_has ls 11 [(0, .ref (al 7 0)), (1, .int v1), (2, .int v2), (3, .int v3)]) : W p l e (rmm 3 0 0) s m args below meth c H locs 0 0 (MQ below (QP x al lv σ res) args s 0 0 (Ab x)) (F0 m 0 ls []) := by
  obtain ⟨hx, hb, hml, hown, hts⟩ := hC.1
  unfold fM_side_0 at h
  refine lv_aload_n hx hb dX12_side_0 rfl (lv_at hl 0 rfl) ?_
  refine gt_X12_11 hC hP wf_X12_43 dX12_side_1 ?_
  refine lv_iload_n hx hb dX12_side_4 rfl (lv_at hl 1 rfl) ?_
  refine r_iald hC hP (aM_11 hP.l7) h dX12_side_5 (fun h => ?_)
  refine r_lt h (fun y1 h => ?_)
  refine lv_istore (lv' := [(4, .int y1), (0, .ref (al 7 0)), (1, .int v1), (2, .int v2), (3, .int v3)]) hx hb dX12_side_6 hl (by decide) rfl (fun ls hl => ?_)
  refine lv_iload_n hx hb dX12_side_8 rfl (lv_at hl 3 rfl) ?_
  refine lv_iload hx hb dX12_side_9 (lv_at hl 0 rfl) ?_
  obtain ⟨hz2, h⟩ := gd_e h
  refine lv_irem hx hb dX12_side_11 (nzi_n hz2) ?_
  refine r_lt h (fun y3 h => ?_)
  refine lv_istore (lv' := [(5, .int y3), (4, .int y1), (0, .ref (al 7 0)), (1, .int v1), (2, .int v2), (3, .int v3)]) hx hb dX12_side_12 hl (by decide) rfl (fun ls hl => ?_)
  refine lv_iload_n hx hb dX12_side_14 rfl (lv_at hl 4 rfl) ?_
  refine lv_iload hx hb dX12_side_15 (lv_at hl 1 rfl) ?_
  obtain ⟨hz4, h⟩ := gd_e h
  refine lv_idiv hx hb dX12_side_17 (nzi_n hz4) ?_
  refine lv_aload_n hx hb dX12_side_18 rfl (lv_at hl 2 rfl) ?_
  refine gt_X12_12 hC hP wf_X12_46 dX12_side_19 ?_
  refine lv_iload_n hx hb dX12_side_22 rfl (lv_at hl 3 rfl) ?_
  refine r_iald hC hP (aM_12 hP.l7) h dX12_side_23 (fun h => ?_)
  obtain ⟨hz5, h⟩ := gd_e h
  refine lv_irem hx hb dX12_side_24 (nzi_n hz5) ?_
  refine r_lt h (fun y6 h => ?_)
  refine lv_istore (lv' := [(6, .int y6), (5, .int y3), (4, .int y1), (0, .ref (al 7 0)), (1, .int v1), (2, .int v2), (3, .int v3)]) hx hb dX12_side_25 hl (by decide) rfl (fun ls hl => ?_)
  refine lv_aload_n hx hb dX12_side_27 rfl (lv_at hl 3 rfl) ?_
  refine lv_iload_n hx hb dX12_side_28 rfl (lv_at hl 4 rfl) ?_
  refine lv_iload_n hx hb dX12_side_29 rfl (lv_at hl 5 rfl) ?_
  refine r_cP hS h (fun r hr => r_runV (As := [.int v1, .int v2]) (rest := []) hC kV_X12_170 cw_X12_layerOf (rc_X12 hC hP) hP (tM_layerOf x al lv σ v1 v2 r hr) rfl hl.1 ⟨Nat.le_of_ble_eq_true rfl, Nat.le_of_ble_eq_true rfl⟩ ⟨Nat.le_of_ble_eq_true rfl, Nat.le_of_ble_eq_true rfl⟩ (Nat.le_of_ble_eq_true rfl) dX12_side_30) (fun y7 H locs h hP hS => ?_)
  refine lv_istore (lv' := [(7, .int y7), (6, .int y6), (5, .int y3), (4, .int y1), (0, .ref (al 7 0)), (1, .int v1), (2, .int v2), (3, .int v3)]) hx hb dX12_side_33 hl (by decide) rfl (fun ls hl => ?_)
  refine lv_iload_n hx hb dX12_side_35 rfl (lv_at hl 7 rfl) ?_
  refine lv_if_ne (tgt := 43) hx hb dX12_side_36 (by decide) (fun hc => ?_) (fun hc => ?_)
  · replace h := (br h).2 hc
    refine lv_iload_n hx hb dX12_side_43 rfl (lv_at hl 7 rfl) ?_
    refine lv_iconst (v := 1) hx hb dX12_side_44 (by decide) ?_
    refine lv_icmp_ne (tgt := 52) hx hb dX12_side_45 (by decide) (fun hc => ?_) (fun hc => ?_)
    · replace h := (br h).2 hc
      refine lv_iconst (v := 0) hx hb dX12_side_52 (by decide) ?_
      exact wM_side_53  hC  v1 v2 v3 y1 y3 y6 y7 0 H locs ls h hP hS (lv_sub hl [4, 5, 6, 7, 3, 2, 1, 0] rfl)
    · replace h := (br h).1 hc
      refine lv_iconst (v := 1) hx hb dX12_side_48 (by decide) ?_
      refine lv_goto (tgt := 53) hx hb dX12_side_49 (by decide) ?_
      exact wM_side_53  hC  v1 v2 v3 y1 y3 y6 y7 1 H locs ls h hP hS (lv_sub hl [4, 5, 6, 7, 3, 2, 1, 0] rfl)
  · replace h := (br h).1 hc
    refine lv_iconst (v := (-1)) hx hb dX12_side_39 (by decide) ?_
    refine lv_goto (tgt := 53) hx hb dX12_side_40 (by decide) ?_
    exact wM_side_53  hC  v1 v2 v3 y1 y3 y6 y7 ((-1)) H locs ls h hP hS (lv_sub hl [4, 5, 6, 7, 3, 2, 1, 0] rfl)

set_option maxRecDepth 20000 in
theorem tM_side {l : Launch} (x : Wx) (al : Nat → Nat → Nat) (lv : Nat → Bool) (σ : Sg) (v1 : Int32) (v2 : Int32) (v3 : Int32) (res : Int32) (h : fM_side σ v1 v2 v3 = some res) : Met l yX12_side (Cond.code yX12_side cX12_side 11 (some .int) :: lwg) (rmm 3 0 0) (va_Pc [.ref (al 7 0), .int v1, .int v2, .int v3] (Wd x al lv σ)) (QP x al lv σ res) 0 0 (Ab x) := by
  refine met_W (by decide) (Nat.le_of_ble_eq_true rfl) rfl (fun p e s m args below meth c ls hC hP hS hl => ?_)
  exact wM_side_0  hC v1 v2 v3 _ _ ls h hP hS hl
set_option maxHeartbeats 4000000 in
set_option maxRecDepth 20000 in
theorem wM_sides_60 {p : Program} {l : Launch} {e : Env} {s : State} {m : MethodId} {args : Array Value} {below : List Frame} {meth : Method} {c : Code} {x : Wx} {al : Nat → Nat → Nat} {lv : Nat → Bool} {res : Int32} {σ : Sg} (hC : Cx x p s m args meth c cX12_sides 8 (some .int) RX12) (k6 : Int32 → Int32 → Int32 → Int32 → Int32 → Option (Int32)) (hk6 : ∀ (x1 : Int32) (x2 : Int32) (x3 : Int32) (x4 : Int32) (x5 : Int32) (H : Heap) (locs : List Loc) (ls : Array Slot), k6 x1 x2 x3 x4 x5 = some res → Pic x al lv σ H → va_S (Ab x) s.heap H locs → lv_has ls 8 [(0, .ref (al 7 0)), (1, .int x1), (2, .int x2), (3, .int x3), (4, .int x4), (5, .int x5)] → W p l e (rmm 4 0 0) s m args below meth c H locs 0 0 (MQ below (QP x al lv σ res) args s 0 0 (Ab x)) (F0 m 6 ls [])) (x1 : Int32) (x2 : Int32) (x3 : Int32) (x5 : Int32) (t0 : Int32) (t1 : Int32) (H : Heap) (locs : List Loc) (ls : Array Slot) (h : fM_sides_60 k6 σ x1 x2 x3 x5 t0 t1 = some res) (hP : Pic x al lv σ H) (hS : va_S (Ab x) s.heap H locs) (hl : lv_has ls 8 [(0, .ref (al 7 0)), (1, .int x1), (2, .int x2), (3, .int x3), (5, .int x5)]) : W p l e (rmm 4 0 0) s m args below meth c H locs 0 0 (MQ below (QP x al lv σ res) args s 0 0 (Ab x)) (F0 m 60 ls [.int t0, .int t1]) := by
  obtain ⟨hx, hb, hml, hown, hts⟩ := hC.1
  unfold fM_sides_60 at h
  refine lv_iadd hx hb dX12_sides_60 ?_
  refine r_lt h (fun y2 h => ?_)
  refine lv_istore (lv' := [(4, .int y2), (0, .ref (al 7 0)), (1, .int x1), (2, .int x2), (3, .int x3), (5, .int x5)]) hx hb dX12_sides_61 hl (by decide) rfl (fun ls hl => ?_)
  refine r_iinc (v := 1) hC h dX12_sides_63 hl (k := 5) rfl rfl (by decide) (fun y3 => [(5, .int y3), (4, .int y2), (0, .ref (al 7 0)), (1, .int x1), (2, .int x2), (3, .int x3)]) (fun _ => rfl) (fun y3 ls h hl => ?_)
  refine lv_goto (tgt := 6) hx hb dX12_sides_66 (by decide) ?_
  exact hk6 x1 x2 x3 y2 y3 H locs ls h hP hS (lv_sub hl [2, 3, 4, 5, 1, 0] rfl)

set_option maxHeartbeats 4000000 in
set_option maxRecDepth 20000 in
theorem wM_sides_45 {p : Program} {l : Launch} {e : Env} {s : State} {m : MethodId} {args : Array Value} {below : List Frame} {meth : Method} {c : Code} {x : Wx} {al : Nat → Nat → Nat} {lv : Nat → Bool} {res : Int32} {σ : Sg} (hC : Cx x p s m args meth c cX12_sides 8 (some .int) RX12) (k6 : Int32 → Int32 → Int32 → Int32 → Int32 → Option (Int32)) (hk6 : ∀ (x1 : Int32) (x2 : Int32) (x3 : Int32) (x4 : Int32) (x5 : Int32) (H : Heap) (locs : List Loc) (ls : Array Slot), k6 x1 x2 x3 x4 x5 = some res → Pic x al lv σ H → va_S (Ab x) s.heap H locs → lv_has ls 8 [(0, .ref (al 7 0)), (1, .int x1), (2, .int x2), (3, .int x3), (4, .int x4), (5, .int x5)] → W p l e (rmm 4 0 0) s m args below meth c H locs 0 0 (MQ below (QP x al lv σ res) args s 0 0 (Ab x)) (F0 m 6 ls [])) (x1 : Int32) (x2 : Int32) (x3 : Int32) (x4 : Int32) (x5 : Int32) (t0 : Int32) (H : Heap) (locs : List Loc) (ls : Array Slot) (h : fM_sides_45 k6 σ x1 x2 x3 x4 x5 t0 = some res) (hP : Pic x al lv σ H) (hS : va_S (Ab x) s.heap H locs) (hl : lv_has ls 8 [(0, .ref (al 7 0)), (1, .int x1), (2, .int x2), (3, .int x3), (4, .int x4), (5, .int x5)]) : W p l e (rmm 4 0 0) s m args below meth c H locs 0 0 (MQ below (QP x al lv σ res) args s 0 0 (Ab x)) (F0 m 45 ls [.int t0]) := by
  obtain ⟨hx, hb, hml, hown, hts⟩ := hC.1
  unfold fM_sides_45 at h
  refine lv_istore (lv' := [(7, .int t0), (0, .ref (al 7 0)), (1, .int x1), (2, .int x2), (3, .int x3), (4, .int x4), (5, .int x5)]) hx hb dX12_sides_45 hl (by decide) rfl (fun ls hl => ?_)
  refine lv_iload hx hb dX12_sides_47 (lv_at hl 5 rfl) ?_
  refine lv_iload hx hb dX12_sides_49 (lv_at hl 0 rfl) ?_
  refine lv_iload_n hx hb dX12_sides_51 rfl (lv_at hl 4 rfl) ?_
  refine lv_icmp_ne (tgt := 59) hx hb dX12_sides_52 (by decide) (fun hc => ?_) (fun hc => ?_)
  · replace h := (br h).2 hc
    refine lv_iconst (v := 0) hx hb dX12_sides_59 (by decide) ?_
    exact wM_sides_60  hC k6 hk6 x1 x2 x3 x5 0 x4 H locs ls h hP hS (lv_sub hl [1, 2, 3, 4, 6] rfl)
  · replace h := (br h).1 hc
    refine lv_iconst (v := 1) hx hb dX12_sides_55 (by decide) ?_
    refine lv_goto (tgt := 60) hx hb dX12_sides_56 (by decide) ?_
    exact wM_sides_60  hC k6 hk6 x1 x2 x3 x5 1 x4 H locs ls h hP hS (lv_sub hl [1, 2, 3, 4, 6] rfl)

set_option maxHeartbeats 4000000 in
set_option maxRecDepth 20000 in
theorem wM_sides_6_b {p : Program} {l : Launch} {e : Env} {s : State} {m : MethodId} {args : Array Value} {below : List Frame} {meth : Method} {c : Code} {x : Wx} {al : Nat → Nat → Nat} {lv : Nat → Bool} {res : Int32} {σ : Sg} (hC : Cx x p s m args meth c cX12_sides 8 (some .int) RX12) (k6 : Int32 → Int32 → Int32 → Int32 → Int32 → Option (Int32)) (hk6 : ∀ (x1 : Int32) (x2 : Int32) (x3 : Int32) (x4 : Int32) (x5 : Int32) (H : Heap) (locs : List Loc) (ls : Array Slot), k6 x1 x2 x3 x4 x5 = some res → Pic x al lv σ H → va_S (Ab x) s.heap H locs → lv_has ls 8 [(0, .ref (al 7 0)), (1, .int x1), (2, .int x2), (3, .int x3), (4, .int x4), (5, .int x5)] → W p l e (rmm 4 0 0) s m args below meth c H locs 0 0 (MQ below (QP x al lv σ res) args s 0 0 (Ab x)) (F0 m 6 ls [])) (x1 : Int32) (x2 : Int32) (x3 : Int32) (x4 : Int32) (x5 : Int32) (H : Heap) (locs : List Loc) (ls : Array Slot) (h : fM_sides_6_b k6 σ x1 x2 x3 x4 x5 = some res) (hP : Pic x al lv σ H) (hS : va_S (Ab x) s.heap H locs) (hl : lv_has ls 8 [(0, .ref (al 7 0)), (1, .int x1), (2, .int x2), (3, .int x3), (4, .int x4), (5, .int x5)]) : W p l e (rmm 4 0 0) s m args below meth c H locs 0 0 (MQ below (QP x al lv σ res) args s 0 0 (Ab x)) (F0 m 6 ls []) := by
  obtain ⟨hx, hb, hml, hown, hts⟩ := hC.1
  unfold fM_sides_6_b at h
  refine lv_iload hx hb dX12_sides_6 (lv_at hl 5 rfl) ?_
  refine lv_bipush (v := 6) hx hb dX12_sides_8 (by decide) ?_
  refine lv_icmp_ge (tgt := 69) hx hb dX12_sides_10 (by decide) (fun hc => ?_) (fun hc => ?_)
  · replace h := (br h).1 hc
    refine lv_iload hx hb dX12_sides_69 (lv_at hl 4 rfl) ?_
    exact r_retP hC hP hS rfl h dX12_sides_71
  · replace h := (br h).2 hc
    refine lv_aload_n hx hb dX12_sides_13 rfl (lv_at hl 0 rfl) ?_
    refine lv_iload_n hx hb dX12_sides_14 rfl (lv_at hl 1 rfl) ?_
    refine lv_iload_n hx hb dX12_sides_15 rfl (lv_at hl 2 rfl) ?_
    refine lv_iload hx hb dX12_sides_16 (lv_at hl 5 rfl) ?_
    refine r_cP hS h (fun r hr => r_runV (As := [.int x1, .int x2, .int x5]) (rest := []) hC kV_X12_176 cw_X12_side (rc_X12 hC hP) hP (tM_side x al lv σ x1 x2 x5 r hr) rfl hl.1 ⟨Nat.le_of_ble_eq_true rfl, Nat.le_of_ble_eq_true rfl⟩ ⟨Nat.le_of_ble_eq_true rfl, Nat.le_of_ble_eq_true rfl⟩ (Nat.le_of_ble_eq_true rfl) dX12_sides_18) (fun y1 H locs h hP hS => ?_)
    refine lv_istore (lv' := [(6, .int y1), (0, .ref (al 7 0)), (1, .int x1), (2, .int x2), (3, .int x3), (4, .int x4), (5, .int x5)]) hx hb dX12_sides_21 hl (by decide) rfl (fun ls hl => ?_)
    refine lv_iload hx hb dX12_sides_23 (lv_at hl 0 rfl) ?_
    refine lv_bipush (v := 10) hx hb dX12_sides_25 (by decide) ?_
    refine lv_icmp_lt (tgt := 34) hx hb dX12_sides_27 (by decide) (fun hc => ?_) (fun hc => ?_)
    · replace h := (br h).1 hc
      refine lv_iload hx hb dX12_sides_34 (lv_at hl 0 rfl) ?_
      refine lv_iconst (v := 1) hx hb dX12_sides_36 (by decide) ?_
      refine lv_icmp_ne (tgt := 44) hx hb dX12_sides_37 (by decide) (fun hc => ?_) (fun hc => ?_)
      · replace h := (br h).2 hc
        refine lv_iconst (v := 0) hx hb dX12_sides_44 (by decide) ?_
        exact wM_sides_45  hC k6 hk6 x1 x2 x3 x4 x5 0 H locs ls h hP hS (lv_sub hl [1, 2, 3, 4, 5, 6] rfl)
      · replace h := (br h).1 hc
        refine lv_iconst (v := 1) hx hb dX12_sides_40 (by decide) ?_
        refine lv_goto (tgt := 45) hx hb dX12_sides_41 (by decide) ?_
        exact wM_sides_45  hC k6 hk6 x1 x2 x3 x4 x5 1 H locs ls h hP hS (lv_sub hl [1, 2, 3, 4, 5, 6] rfl)
    · replace h := (br h).2 hc
      refine lv_iconst (v := 2) hx hb dX12_sides_30 (by decide) ?_
      refine lv_goto (tgt := 45) hx hb dX12_sides_31 (by decide) ?_
      exact wM_sides_45  hC k6 hk6 x1 x2 x3 x4 x5 2 H locs ls h hP hS (lv_sub hl [1, 2, 3, 4, 5, 6] rfl)

set_option maxHeartbeats 4000000 in
set_option maxRecDepth 20000 in
theorem wM_sides_6 {p : Program} {l : Launch} {e : Env} {s : State} {m : MethodId} {args : Array Value} {below : List Frame} {meth : Method} {c : Code} {x : Wx} {al : Nat → Nat → Nat} {lv : Nat → Bool} {res : Int32} {σ : Sg} (hC : Cx x p s m args meth c cX12_sides 8 (some .int) RX12) (n : Nat) (x1 : Int32) (x2 : Int32) (x3 : Int32) (x4 : Int32) (x5 : Int32) (H : Heap) (locs : List Loc) (ls : Array Slot) (h : fM_sides_6 n σ x1 x2 x3 x4 x5 = some res) (hP : Pic x al lv σ H) (hS : va_S (Ab x) s.heap H locs) (hl : lv_has ls 8 [(0, .ref (al 7 0)), (1, .int x1), (2, .int x2), (3, .int x3), (4, .int x4), (5, .int x5)]) : W p l e (rmm 4 0 0) s m args below meth c H locs 0 0 (MQ below (QP x al lv σ res) args s 0 0 (Ab x)) (F0 m 6 ls []) := by
  induction n generalizing x1 x2 x3 x4 x5 H locs ls with
  | zero => exact nomatch h
  | succ n ih => exact wM_sides_6_b  hC  _ (fun x1 x2 x3 x4 x5 H locs ls h hP hS hl => ih x1 x2 x3 x4 x5 H locs ls h hP hS hl) x1 x2 x3 x4 x5 H locs ls h hP hS hl
set_option maxHeartbeats 4000000 in
set_option maxRecDepth 20000 in
theorem wM_sides_0 {p : Program} {l : Launch} {e : Env} {s : State} {m : MethodId} {args : Array Value} {below : List Frame} {meth : Method} {c : Code} {x : Wx} {al : Nat → Nat → Nat} {lv : Nat → Bool} {res : Int32} {σ : Sg} (hC : Cx x p s m args meth c cX12_sides 8 (some .int) RX12) (v1 : Int32) (v2 : Int32) (v3 : Int32) (H : Heap) (locs : List Loc) (ls : Array Slot) (h : fM_sides_0 σ v1 v2 v3 = some res) (hP : Pic x al lv σ H) (hS : va_S (Ab x) s.heap H locs) (hl : lv_has ls 8 [(0, .ref (al 7 0)), (1, .int v1), (2, .int v2), (3, .int v3)]) : W p l e (rmm 4 0 0) s m args below meth c H locs 0 0 (MQ below (QP x al lv σ res) args s 0 0 (Ab x)) (F0 m 0 ls []) := by
  obtain ⟨hx, hb, hml, hown, hts⟩ := hC.1
  unfold fM_sides_0 at h
  refine lv_iconst (v := 0) hx hb dX12_sides_0 (by decide) ?_
  refine lv_istore (lv' := [(4, .int 0), (0, .ref (al 7 0)), (1, .int v1), (2, .int v2), (3, .int v3)]) hx hb dX12_sides_1 hl (by decide) rfl (fun ls hl => ?_)
  refine lv_iconst (v := 0) hx hb dX12_sides_3 (by decide) ?_
  refine lv_istore (lv' := [(5, .int 0), (4, .int 0), (0, .ref (al 7 0)), (1, .int v1), (2, .int v2), (3, .int v3)]) hx hb dX12_sides_4 hl (by decide) rfl (fun ls hl => ?_)
  exact wM_sides_6  hC  FU v1 v2 v3 0 0 H locs ls h hP hS (lv_sub hl [2, 3, 4, 5, 1, 0] rfl)

set_option maxRecDepth 20000 in
theorem tM_sides {l : Launch} (x : Wx) (al : Nat → Nat → Nat) (lv : Nat → Bool) (σ : Sg) (v1 : Int32) (v2 : Int32) (v3 : Int32) (res : Int32) (h : fM_sides σ v1 v2 v3 = some res) : Met l yX12_sides (Cond.code yX12_sides cX12_sides 8 (some .int) :: lwg) (rmm 4 0 0) (va_Pc [.ref (al 7 0), .int v1, .int v2, .int v3] (Wd x al lv σ)) (QP x al lv σ res) 0 0 (Ab x) := by
  refine met_W (by decide) (Nat.le_of_ble_eq_true rfl) rfl (fun p e s m args below meth c ls hC hP hS hl => ?_)
  exact wM_sides_0  hC v1 v2 v3 _ _ ls h hP hS hl
set_option maxHeartbeats 4000000 in
set_option maxRecDepth 20000 in
theorem wM_room_62 {p : Program} {l : Launch} {e : Env} {s : State} {m : MethodId} {args : Array Value} {below : List Frame} {meth : Method} {c : Code} {x : Wx} {al : Nat → Nat → Nat} {lv : Nat → Bool} {res : Int32 × Sg} (hC : Cx x p s m args meth c cX12_room 8 (some .int) RX12) (σ : Sg) (H : Heap) (locs : List Loc) (ls : Array Slot) (h : fM_room_62 σ = some res) (hP : Pic x al lv σ H) (hS : va_S (Ab x) s.heap H locs) (hl : lv_has ls 8 [(0, .ref (al 7 0))]) : W p l e (rmm 3 0 0) s m args below meth c H locs 0 0 (MQ below (QI x al lv res) args s 0 0 (Ab x)) (F0 m 62 ls []) := by
  obtain ⟨hx, hb, hml, hown, hts⟩ := hC.1
  unfold fM_room_62 at h
  refine lv_aload_n hx hb dX12_room_62 rfl (lv_at hl 0 rfl) ?_
  refine lv_iconst (v := (-1)) hx hb dX12_room_63 (by decide) ?_
  refine r_cI hS h (fun r hr => r_runV (As := [.int ((-1))]) (rest := []) hC kV_X12_151 cw_X12_ends (rc_X12 hC hP) hP (tM_ends x al lv σ ((-1)) r hr) rfl hl.1 ⟨Nat.le_of_ble_eq_true rfl, Nat.le_of_ble_eq_true rfl⟩ ⟨Nat.le_of_ble_eq_true rfl, Nat.le_of_ble_eq_true rfl⟩ (Nat.le_of_ble_eq_true rfl) dX12_room_64) (fun y23 σ24 H locs h hP hS => ?_)
  exact r_retI hC hP hS rfl h dX12_room_67

set_option maxHeartbeats 4000000 in
set_option maxRecDepth 20000 in
theorem wM_room_185_b {p : Program} {l : Launch} {e : Env} {s : State} {m : MethodId} {args : Array Value} {below : List Frame} {meth : Method} {c : Code} {x : Wx} {al : Nat → Nat → Nat} {lv : Nat → Bool} {res : Int32 × Sg} (hC : Cx x p s m args meth c cX12_room 8 (some .int) RX12) (k185 : Sg → Int32 → Int32 → Option (Int32 × Sg)) (hk185 : ∀ (σ : Sg) (x6 : Int32) (x7 : Int32) (H : Heap) (locs : List Loc) (ls : Array Slot), k185 σ x6 x7 = some res → Pic x al lv σ H → va_S (Ab x) s.heap H locs → lv_has ls 8 [(0, .ref (al 7 0)), (6, .int x6), (7, .int x7)] → W p l e (rmm 3 0 0) s m args below meth c H locs 0 0 (MQ below (QI x al lv res) args s 0 0 (Ab x)) (F0 m 185 ls [])) (σ : Sg) (x6 : Int32) (x7 : Int32) (H : Heap) (locs : List Loc) (ls : Array Slot) (h : fM_room_185_b k185 σ x6 x7 = some res) (hP : Pic x al lv σ H) (hS : va_S (Ab x) s.heap H locs) (hl : lv_has ls 8 [(0, .ref (al 7 0)), (6, .int x6), (7, .int x7)]) : W p l e (rmm 3 0 0) s m args below meth c H locs 0 0 (MQ below (QI x al lv res) args s 0 0 (Ab x)) (F0 m 185 ls []) := by
  obtain ⟨hx, hb, hml, hown, hts⟩ := hC.1
  unfold fM_room_185_b at h
  refine lv_iload hx hb dX12_room_185 (lv_at hl 2 rfl) ?_
  refine lv_sipush (v := 180) hx hb dX12_room_187 (by decide) ?_
  refine lv_icmp_ge (tgt := 214) hx hb dX12_room_190 (by decide) (fun hc => ?_) (fun hc => ?_)
  · replace h := (br h).1 hc
    refine lv_aload_n hx hb dX12_room_214 rfl (lv_at hl 0 rfl) ?_
    refine gt_X12_7 hC hP wf_X12_31 dX12_room_215 ?_
    refine lv_iconst (v := 0) hx hb dX12_room_218 (by decide) ?_
    refine lv_dup2_11 hx hb dX12_room_219 rfl rfl ?_
    refine r_iald hC hP (aM_7 hP.l7) h dX12_room_220 (fun h => ?_)
    refine lv_iconst (v := 1) hx hb dX12_room_221 (by decide) ?_
    refine lv_iadd hx hb dX12_room_222 ?_
    refine r_iast hC hP hS (aM_7 hP.l7) h dX12_room_223 (fun σ18 H locs h hP hS => ?_)
    refine lv_aload_n hx hb dX12_room_224 rfl (lv_at hl 0 rfl) ?_
    refine lv_iload hx hb dX12_room_225 (lv_at hl 1 rfl) ?_
    refine r_cI hS h (fun r hr => r_runV (As := [.int x6]) (rest := []) hC kV_X12_151 cw_X12_ends (rc_X12 hC hP) hP (tM_ends x al lv σ18 x6 r hr) rfl hl.1 ⟨Nat.le_of_ble_eq_true rfl, Nat.le_of_ble_eq_true rfl⟩ ⟨Nat.le_of_ble_eq_true rfl, Nat.le_of_ble_eq_true rfl⟩ (Nat.le_of_ble_eq_true rfl) dX12_room_227) (fun y19 σ20 H locs h hP hS => ?_)
    exact r_retI hC hP hS rfl h dX12_room_230
  · replace h := (br h).2 hc
    refine lv_aload_n hx hb dX12_room_193 rfl (lv_at hl 0 rfl) ?_
    refine gt_X12_18 hC hP wf_X12_64 dX12_room_194 ?_
    refine lv_sipush (v := 180) hx hb dX12_room_197 (by decide) ?_
    refine lv_iload hx hb dX12_room_200 (lv_at hl 1 rfl) ?_
    refine lv_imul hx hb dX12_room_202 ?_
    refine lv_iload hx hb dX12_room_203 (lv_at hl 2 rfl) ?_
    refine lv_iadd hx hb dX12_room_205 ?_
    refine lv_iconst (v := 0) hx hb dX12_room_206 (by decide) ?_
    refine r_iast hC hP hS (aM_18 hP.l7) h dX12_room_207 (fun σ21 H locs h hP hS => ?_)
    refine r_iinc (v := 1) hC h dX12_room_208 hl (k := 2) rfl rfl (by decide) (fun y22 => [(7, .int y22), (0, .ref (al 7 0)), (6, .int x6)]) (fun _ => rfl) (fun y22 ls h hl => ?_)
    refine lv_goto (tgt := 185) hx hb dX12_room_211 (by decide) ?_
    exact hk185 σ21 x6 y22 H locs ls h hP hS (lv_sub hl [1, 2, 0] rfl)

set_option maxHeartbeats 4000000 in
set_option maxRecDepth 20000 in
theorem wM_room_185 {p : Program} {l : Launch} {e : Env} {s : State} {m : MethodId} {args : Array Value} {below : List Frame} {meth : Method} {c : Code} {x : Wx} {al : Nat → Nat → Nat} {lv : Nat → Bool} {res : Int32 × Sg} (hC : Cx x p s m args meth c cX12_room 8 (some .int) RX12) (n : Nat) (σ : Sg) (x6 : Int32) (x7 : Int32) (H : Heap) (locs : List Loc) (ls : Array Slot) (h : fM_room_185 n σ x6 x7 = some res) (hP : Pic x al lv σ H) (hS : va_S (Ab x) s.heap H locs) (hl : lv_has ls 8 [(0, .ref (al 7 0)), (6, .int x6), (7, .int x7)]) : W p l e (rmm 3 0 0) s m args below meth c H locs 0 0 (MQ below (QI x al lv res) args s 0 0 (Ab x)) (F0 m 185 ls []) := by
  induction n generalizing σ x6 x7 H locs ls with
  | zero => exact nomatch h
  | succ n ih => exact wM_room_185_b  hC  _ (fun σ x6 x7 H locs ls h hP hS hl => ih σ x6 x7 H locs ls h hP hS hl) σ x6 x7 H locs ls h hP hS hl
set_option maxHeartbeats 4000000 in
set_option maxRecDepth 20000 in
theorem wM_room_155_b {p : Program} {l : Launch} {e : Env} {s : State} {m : MethodId} {args : Array Value} {below : List Frame} {meth : Method} {c : Code} {x : Wx} {al : Nat → Nat → Nat} {lv : Nat → Bool} {res : Int32 × Sg} (hC : Cx x p s m args meth c cX12_room 8 (some .int) RX12) (k155 : Sg → Int32 → Int32 → Option (Int32 × Sg)) (hk155 : ∀ (σ : Sg) (x6 : Int32) (x7 : Int32) (H : Heap) (locs : List Loc) (ls : Array Slot), k155 σ x6 x7 = some res → Pic x al lv σ H → va_S (Ab x) s.heap H locs → lv_has ls 8 [(0, .ref (al 7 0)), (6, .int x6), (7, .int x7)] → W p l e (rmm 3 0 0) s m args below meth c H locs 0 0 (MQ below (QI x al lv res) args s 0 0 (Ab x)) (F0 m 155 ls [])) (σ : Sg) (x6 : Int32) (x7 : Int32) (H : Heap) (locs : List Loc) (ls : Array Slot) (h : fM_room_155_b k155 σ x6 x7 = some res) (hP : Pic x al lv σ H) (hS : va_S (Ab x) s.heap H locs) (hl : lv_has ls 8 [(0, .ref (al 7 0)), (6, .int x6), (7, .int x7)]) : W p l e (rmm 3 0 0) s m args below meth c H locs 0 0 (MQ below (QI x al lv res) args s 0 0 (Ab x)) (F0 m 155 ls []) := by
  obtain ⟨hx, hb, hml, hown, hts⟩ := hC.1
  unfold fM_room_155_b at h
  refine lv_iload hx hb dX12_room_155 (lv_at hl 2 rfl) ?_
  refine lv_bipush (v := 30) hx hb dX12_room_157 (by decide) ?_
  refine lv_icmp_ge (tgt := 182) hx hb dX12_room_159 (by decide) (fun hc => ?_) (fun hc => ?_)
  · replace h := (br h).1 hc
    refine lv_iconst (v := 0) hx hb dX12_room_182 (by decide) ?_
    refine lv_istore (lv' := [(7, .int 0), (0, .ref (al 7 0)), (6, .int x6)]) hx hb dX12_room_183 hl (by decide) rfl (fun ls hl => ?_)
    exact wM_room_185  hC  FU σ x6 0 H locs ls h hP hS (lv_sub hl [1, 2, 0] rfl)
  · replace h := (br h).2 hc
    refine lv_aload_n hx hb dX12_room_162 rfl (lv_at hl 0 rfl) ?_
    refine gt_X12_17 hC hP wf_X12_61 dX12_room_163 ?_
    refine lv_bipush (v := 30) hx hb dX12_room_166 (by decide) ?_
    refine lv_iload hx hb dX12_room_168 (lv_at hl 1 rfl) ?_
    refine lv_imul hx hb dX12_room_170 ?_
    refine lv_iload hx hb dX12_room_171 (lv_at hl 2 rfl) ?_
    refine lv_iadd hx hb dX12_room_173 ?_
    refine lv_iconst (v := 0) hx hb dX12_room_174 (by decide) ?_
    refine r_zast hC hP hS (aM_17 hP.l7) h dX12_room_175 (fun σ16 H locs h hP hS => ?_)
    refine r_iinc (v := 1) hC h dX12_room_176 hl (k := 2) rfl rfl (by decide) (fun y17 => [(7, .int y17), (0, .ref (al 7 0)), (6, .int x6)]) (fun _ => rfl) (fun y17 ls h hl => ?_)
    refine lv_goto (tgt := 155) hx hb dX12_room_179 (by decide) ?_
    exact hk155 σ16 x6 y17 H locs ls h hP hS (lv_sub hl [1, 2, 0] rfl)

set_option maxHeartbeats 4000000 in
set_option maxRecDepth 20000 in
theorem wM_room_155 {p : Program} {l : Launch} {e : Env} {s : State} {m : MethodId} {args : Array Value} {below : List Frame} {meth : Method} {c : Code} {x : Wx} {al : Nat → Nat → Nat} {lv : Nat → Bool} {res : Int32 × Sg} (hC : Cx x p s m args meth c cX12_room 8 (some .int) RX12) (n : Nat) (σ : Sg) (x6 : Int32) (x7 : Int32) (H : Heap) (locs : List Loc) (ls : Array Slot) (h : fM_room_155 n σ x6 x7 = some res) (hP : Pic x al lv σ H) (hS : va_S (Ab x) s.heap H locs) (hl : lv_has ls 8 [(0, .ref (al 7 0)), (6, .int x6), (7, .int x7)]) : W p l e (rmm 3 0 0) s m args below meth c H locs 0 0 (MQ below (QI x al lv res) args s 0 0 (Ab x)) (F0 m 155 ls []) := by
  induction n generalizing σ x6 x7 H locs ls with
  | zero => exact nomatch h
  | succ n ih => exact wM_room_155_b  hC  _ (fun σ x6 x7 H locs ls h hP hS hl => ih σ x6 x7 H locs ls h hP hS hl) σ x6 x7 H locs ls h hP hS hl
set_option maxHeartbeats 4000000 in
set_option maxRecDepth 20000 in
theorem wM_room_68 {p : Program} {l : Launch} {e : Env} {s : State} {m : MethodId} {args : Array Value} {below : List Frame} {meth : Method} {c : Code} {x : Wx} {al : Nat → Nat → Nat} {lv : Nat → Bool} {res : Int32 × Sg} (hC : Cx x p s m args meth c cX12_room 8 (some .int) RX12) (σ : Sg) (x1 : Int32) (x2 : Int32) (x3 : Int32) (x4 : Int32) (x5 : Int32) (H : Heap) (locs : List Loc) (ls : Array Slot) (h : fM_room_68 σ x1 x2 x3 x4 x5 = some res) (hP : Pic x al lv σ H) (hS : va_S (Ab x) s.heap H locs) (hl : lv_has ls 8 [(0, .ref (al 7 0)), (1, .int x1), (2, .int x2), (3, .int x3), (4, .int x4), (5, .int x5)]) : W p l e (rmm 3 0 0) s m args below meth c H locs 0 0 (MQ below (QI x al lv res) args s 0 0 (Ab x)) (F0 m 68 ls []) := by
  obtain ⟨hx, hb, hml, hown, hts⟩ := hC.1
  unfold fM_room_68 at h
  refine lv_aload_n hx hb dX12_room_68 rfl (lv_at hl 0 rfl) ?_
  refine gt_X12_7 hC hP wf_X12_31 dX12_room_69 ?_
  refine lv_iconst (v := 0) hx hb dX12_room_72 (by decide) ?_
  refine r_iald hC hP (aM_7 hP.l7) h dX12_room_73 (fun h => ?_)
  refine lv_bipush (v := 8) hx hb dX12_room_74 (by decide) ?_
  refine lv_icmp_ne (tgt := 86) hx hb dX12_room_76 (by decide) (fun hc => ?_) (fun hc => ?_)
  · replace h := (br h).2 hc
    refine lv_aload_n hx hb dX12_room_86 rfl (lv_at hl 0 rfl) ?_
    refine gt_X12_7 hC hP wf_X12_31 dX12_room_87 ?_
    refine lv_iconst (v := 0) hx hb dX12_room_90 (by decide) ?_
    refine r_iald hC hP (aM_7 hP.l7) h dX12_room_91 (fun h => ?_)
    refine r_lt h (fun y6 h => ?_)
    refine lv_istore (lv' := [(6, .int y6), (0, .ref (al 7 0)), (1, .int x1), (2, .int x2), (3, .int x3), (4, .int x4), (5, .int x5)]) hx hb dX12_room_92 hl (by decide) rfl (fun ls hl => ?_)
    refine lv_aload_n hx hb dX12_room_94 rfl (lv_at hl 1 rfl) ?_
    refine gt_X12_10 hC hP wf_X12_40 dX12_room_95 ?_
    refine lv_iload hx hb dX12_room_98 (lv_at hl 0 rfl) ?_
    refine lv_iload_n hx hb dX12_room_100 rfl (lv_at hl 2 rfl) ?_
    refine r_iast hC hP hS (aM_10 hP.l7) h dX12_room_101 (fun σ7 H locs h hP hS => ?_)
    refine lv_aload_n hx hb dX12_room_102 rfl (lv_at hl 1 rfl) ?_
    refine gt_X12_11 hC hP wf_X12_43 dX12_room_103 ?_
    refine lv_iload hx hb dX12_room_106 (lv_at hl 0 rfl) ?_
    refine lv_iload_n hx hb dX12_room_108 rfl (lv_at hl 3 rfl) ?_
    refine r_iast hC hP hS (aM_11 hP.l7) h dX12_room_109 (fun σ8 H locs h hP hS => ?_)
    refine lv_aload_n hx hb dX12_room_110 rfl (lv_at hl 1 rfl) ?_
    refine gt_X12_12 hC hP wf_X12_46 dX12_room_111 ?_
    refine lv_iload hx hb dX12_room_114 (lv_at hl 0 rfl) ?_
    refine lv_iload_n hx hb dX12_room_116 rfl (lv_at hl 4 rfl) ?_
    refine r_iast hC hP hS (aM_12 hP.l7) h dX12_room_117 (fun σ9 H locs h hP hS => ?_)
    refine lv_aload_n hx hb dX12_room_118 rfl (lv_at hl 1 rfl) ?_
    refine gt_X12_13 hC hP wf_X12_49 dX12_room_119 ?_
    refine lv_iload hx hb dX12_room_122 (lv_at hl 0 rfl) ?_
    refine lv_iload hx hb dX12_room_124 (lv_at hl 5 rfl) ?_
    refine r_iast hC hP hS (aM_13 hP.l7) h dX12_room_126 (fun σ10 H locs h hP hS => ?_)
    refine lv_aload_n hx hb dX12_room_127 rfl (lv_at hl 1 rfl) ?_
    refine gt_X12_14 hC hP wf_X12_52 dX12_room_128 ?_
    refine lv_iload hx hb dX12_room_131 (lv_at hl 0 rfl) ?_
    refine lv_iload hx hb dX12_room_133 (lv_at hl 6 rfl) ?_
    refine r_iast hC hP hS (aM_14 hP.l7) h dX12_room_135 (fun σ11 H locs h hP hS => ?_)
    refine lv_aload_n hx hb dX12_room_136 rfl (lv_at hl 1 rfl) ?_
    refine gt_X12_15 hC hP wf_X12_55 dX12_room_137 ?_
    refine lv_iload hx hb dX12_room_140 (lv_at hl 0 rfl) ?_
    refine lv_iconst (v := 0) hx hb dX12_room_142 (by decide) ?_
    refine r_iast hC hP hS (aM_15 hP.l7) h dX12_room_143 (fun σ12 H locs h hP hS => ?_)
    refine lv_aload_n hx hb dX12_room_144 rfl (lv_at hl 1 rfl) ?_
    refine gt_X12_16 hC hP wf_X12_58 dX12_room_145 ?_
    refine lv_iload hx hb dX12_room_148 (lv_at hl 0 rfl) ?_
    refine lv_iconst (v := 0) hx hb dX12_room_150 (by decide) ?_
    refine r_iast hC hP hS (aM_16 hP.l7) h dX12_room_151 (fun σ13 H locs h hP hS => ?_)
    refine lv_iconst (v := 0) hx hb dX12_room_152 (by decide) ?_
    refine lv_istore (lv' := [(7, .int 0), (6, .int y6), (0, .ref (al 7 0)), (1, .int x1), (2, .int x2), (3, .int x3), (4, .int x4), (5, .int x5)]) hx hb dX12_room_153 hl (by decide) rfl (fun ls hl => ?_)
    exact wM_room_155  hC  FU σ13 y6 0 H locs ls h hP hS (lv_sub hl [2, 1, 0] rfl)
  · replace h := (br h).1 hc
    refine lv_aload_n hx hb dX12_room_79 rfl (lv_at hl 0 rfl) ?_
    refine lv_bipush (v := (-6)) hx hb dX12_room_80 (by decide) ?_
    refine r_cI hS h (fun r hr => r_runV (As := [.int ((-6))]) (rest := []) hC kV_X12_151 cw_X12_ends (rc_X12 hC hP) hP (tM_ends x al lv σ ((-6)) r hr) rfl hl.1 ⟨Nat.le_of_ble_eq_true rfl, Nat.le_of_ble_eq_true rfl⟩ ⟨Nat.le_of_ble_eq_true rfl, Nat.le_of_ble_eq_true rfl⟩ (Nat.le_of_ble_eq_true rfl) dX12_room_82) (fun y14 σ15 H locs h hP hS => ?_)
    exact r_retI hC hP hS rfl h dX12_room_85

set_option maxHeartbeats 4000000 in
set_option maxRecDepth 20000 in
theorem wM_room_0 {p : Program} {l : Launch} {e : Env} {s : State} {m : MethodId} {args : Array Value} {below : List Frame} {meth : Method} {c : Code} {x : Wx} {al : Nat → Nat → Nat} {lv : Nat → Bool} {res : Int32 × Sg} (hC : Cx x p s m args meth c cX12_room 8 (some .int) RX12) (σ : Sg) (v1 : Int32) (v2 : Int32) (v3 : Int32) (v4 : Int32) (v5 : Int32) (H : Heap) (locs : List Loc) (ls : Array Slot) (h : fM_room_0 σ v1 v2 v3 v4 v5 = some res) (hP : Pic x al lv σ H) (hS : va_S (Ab x) s.heap H locs) (hl : lv_has ls 8 [(0, .ref (al 7 0)), (1, .int v1), (2, .int v2), (3, .int v3), (4, .int v4), (5, .int v5)]) : W p l e (rmm 3 0 0) s m args below meth c H locs 0 0 (MQ below (QI x al lv res) args s 0 0 (Ab x)) (F0 m 0 ls []) := by
  obtain ⟨hx, hb, hml, hown, hts⟩ := hC.1
  unfold fM_room_0 at h
  refine lv_iload_n hx hb dX12_room_0 rfl (lv_at hl 1 rfl) ?_
  refine lv_iconst (v := 0) hx hb dX12_room_1 (by decide) ?_
  refine lv_iconst (v := 5) hx hb dX12_room_2 (by decide) ?_
  refine r_cP hS h (fun r hr => r_runS (As := [.int v1, .int 0, .int 5]) (rest := []) hC kS_X12_145 cw_X12_in hP (tM_in x al lv σ v1 0 5 r hr) rfl hl.1 ⟨Nat.le_of_ble_eq_true rfl, Nat.le_of_ble_eq_true rfl⟩ ⟨Nat.le_of_ble_eq_true rfl, Nat.le_of_ble_eq_true rfl⟩ (Nat.le_of_ble_eq_true rfl) dX12_room_3) (fun y1 H locs h hP hS => ?_)
  refine lv_if_eq (tgt := 62) hx hb dX12_room_6 (by decide) (fun hc => ?_) (fun hc => ?_)
  · replace h := (br h).1 hc
    exact wM_room_62  hC  σ H locs ls h hP hS (lv_sub hl [0] rfl)
  · replace h := (br h).2 hc
    refine lv_iload_n hx hb dX12_room_9 rfl (lv_at hl 2 rfl) ?_
    refine lv_iconst (v := 1) hx hb dX12_room_10 (by decide) ?_
    refine lv_bipush (v := 6) hx hb dX12_room_11 (by decide) ?_
    refine r_cP hS h (fun r hr => r_runS (As := [.int v2, .int 1, .int 6]) (rest := []) hC kS_X12_145 cw_X12_in hP (tM_in x al lv σ v2 1 6 r hr) rfl hl.1 ⟨Nat.le_of_ble_eq_true rfl, Nat.le_of_ble_eq_true rfl⟩ ⟨Nat.le_of_ble_eq_true rfl, Nat.le_of_ble_eq_true rfl⟩ (Nat.le_of_ble_eq_true rfl) dX12_room_13) (fun y2 H locs h hP hS => ?_)
    refine lv_if_eq (tgt := 62) hx hb dX12_room_16 (by decide) (fun hc => ?_) (fun hc => ?_)
    · replace h := (br h).1 hc
      exact wM_room_62  hC  σ H locs ls h hP hS (lv_sub hl [0] rfl)
    · replace h := (br h).2 hc
      refine lv_iload_n hx hb dX12_room_19 rfl (lv_at hl 3 rfl) ?_
      refine lv_iconst (v := 1) hx hb dX12_room_20 (by decide) ?_
      refine lv_bipush (v := 6) hx hb dX12_room_21 (by decide) ?_
      refine r_cP hS h (fun r hr => r_runS (As := [.int v3, .int 1, .int 6]) (rest := []) hC kS_X12_145 cw_X12_in hP (tM_in x al lv σ v3 1 6 r hr) rfl hl.1 ⟨Nat.le_of_ble_eq_true rfl, Nat.le_of_ble_eq_true rfl⟩ ⟨Nat.le_of_ble_eq_true rfl, Nat.le_of_ble_eq_true rfl⟩ (Nat.le_of_ble_eq_true rfl) dX12_room_23) (fun y3 H locs h hP hS => ?_)
      refine lv_if_eq (tgt := 62) hx hb dX12_room_26 (by decide) (fun hc => ?_) (fun hc => ?_)
      · replace h := (br h).1 hc
        exact wM_room_62  hC  σ H locs ls h hP hS (lv_sub hl [0] rfl)
      · replace h := (br h).2 hc
        refine lv_iload hx hb dX12_room_29 (lv_at hl 4 rfl) ?_
        refine lv_iconst (v := 1) hx hb dX12_room_31 (by decide) ?_
        refine lv_iconst (v := 5) hx hb dX12_room_32 (by decide) ?_
        refine r_cP hS h (fun r hr => r_runS (As := [.int v4, .int 1, .int 5]) (rest := []) hC kS_X12_145 cw_X12_in hP (tM_in x al lv σ v4 1 5 r hr) rfl hl.1 ⟨Nat.le_of_ble_eq_true rfl, Nat.le_of_ble_eq_true rfl⟩ ⟨Nat.le_of_ble_eq_true rfl, Nat.le_of_ble_eq_true rfl⟩ (Nat.le_of_ble_eq_true rfl) dX12_room_33) (fun y4 H locs h hP hS => ?_)
        refine lv_if_eq (tgt := 62) hx hb dX12_room_36 (by decide) (fun hc => ?_) (fun hc => ?_)
        · replace h := (br h).1 hc
          exact wM_room_62  hC  σ H locs ls h hP hS (lv_sub hl [0] rfl)
        · replace h := (br h).2 hc
          refine lv_iload_n hx hb dX12_room_39 rfl (lv_at hl 1 rfl) ?_
          refine lv_iconst (v := 2) hx hb dX12_room_40 (by decide) ?_
          refine lv_icmp_ne (tgt := 56) hx hb dX12_room_41 (by decide) (fun hc => ?_) (fun hc => ?_)
          · replace h := (br h).2 hc
            refine lv_iload hx hb dX12_room_56 (lv_at hl 5 rfl) ?_
            refine lv_iconst (v := (-1)) hx hb dX12_room_58 (by decide) ?_
            refine lv_icmp_eq (tgt := 68) hx hb dX12_room_59 (by decide) (fun hc => ?_) (fun hc => ?_)
            · replace h := (br h).1 hc
              exact wM_room_68  hC  σ v1 v2 v3 v4 v5 H locs ls h hP hS (lv_sub hl [0, 1, 2, 3, 4, 5] rfl)
            · replace h := (br h).2 hc
              exact wM_room_62  hC  σ H locs ls h hP hS (lv_sub hl [0] rfl)
          · replace h := (br h).1 hc
            refine lv_aload_n hx hb dX12_room_44 rfl (lv_at hl 0 rfl) ?_
            refine lv_iload hx hb dX12_room_45 (lv_at hl 5 rfl) ?_
            refine r_cP hS h (fun r hr => r_runV (As := [.int v5]) (rest := []) hC kV_X12_180 cw_X12_isRoom (rc_X12 hC hP) hP (tM_isRoom x al lv σ v5 r hr) rfl hl.1 ⟨Nat.le_of_ble_eq_true rfl, Nat.le_of_ble_eq_true rfl⟩ ⟨Nat.le_of_ble_eq_true rfl, Nat.le_of_ble_eq_true rfl⟩ (Nat.le_of_ble_eq_true rfl) dX12_room_47) (fun y5 H locs h hP hS => ?_)
            refine lv_if_ne (tgt := 68) hx hb dX12_room_50 (by decide) (fun hc => ?_) (fun hc => ?_)
            · replace h := (br h).2 hc
              exact wM_room_68  hC  σ v1 v2 v3 v4 v5 H locs ls h hP hS (lv_sub hl [0, 1, 2, 3, 4, 5] rfl)
            · replace h := (br h).1 hc
              refine lv_goto (tgt := 62) hx hb dX12_room_53 (by decide) ?_
              exact wM_room_62  hC  σ H locs ls h hP hS (lv_sub hl [0] rfl)

set_option maxRecDepth 20000 in
theorem tM_room {l : Launch} (x : Wx) (al : Nat → Nat → Nat) (lv : Nat → Bool) (σ : Sg) (v1 : Int32) (v2 : Int32) (v3 : Int32) (v4 : Int32) (v5 : Int32) (res : Int32 × Sg) (h : fM_room σ v1 v2 v3 v4 v5 = some res) : Met l yX12_room (Cond.code yX12_room cX12_room 8 (some .int) :: lwg) (rmm 3 0 0) (va_Pc [.ref (al 7 0), .int v1, .int v2, .int v3, .int v4, .int v5] (Wd x al lv σ)) (QI x al lv res) 0 0 (Ab x) := by
  refine met_W (by decide) (Nat.le_of_ble_eq_true rfl) rfl (fun p e s m args below meth c ls hC hP hS hl => ?_)
  exact wM_room_0  hC σ v1 v2 v3 v4 v5 _ _ ls h hP hS hl
set_option maxHeartbeats 4000000 in
set_option maxRecDepth 20000 in
theorem wM_countOf_49 {p : Program} {l : Launch} {e : Env} {s : State} {m : MethodId} {args : Array Value} {below : List Frame} {meth : Method} {c : Code} {x : Wx} {al : Nat → Nat → Nat} {lv : Nat → Bool} {res : Int32} {σ : Sg} (hC : Cx x p s m args meth c cX12_countOf 5 (some .int) RX12) (k5 : Int32 → Int32 → Int32 → Int32 → Option (Int32)) (hk5 : ∀ (x1 : Int32) (x2 : Int32) (x3 : Int32) (x4 : Int32) (H : Heap) (locs : List Loc) (ls : Array Slot), k5 x1 x2 x3 x4 = some res → Pic x al lv σ H → va_S (Ab x) s.heap H locs → lv_has ls 5 [(0, .ref (al 7 0)), (1, .int x1), (2, .int x2), (3, .int x3), (4, .int x4)] → W p l e (rmm 1 0 0) s m args below meth c H locs 0 0 (MQ below (QP x al lv σ res) args s 0 0 (Ab x)) (F0 m 5 ls [])) (x1 : Int32) (x2 : Int32) (x4 : Int32) (t0 : Int32) (t1 : Int32) (H : Heap) (locs : List Loc) (ls : Array Slot) (h : fM_countOf_49 k5 σ x1 x2 x4 t0 t1 = some res) (hP : Pic x al lv σ H) (hS : va_S (Ab x) s.heap H locs) (hl : lv_has ls 5 [(0, .ref (al 7 0)), (1, .int x1), (2, .int x2), (4, .int x4)]) : W p l e (rmm 1 0 0) s m args below meth c H locs 0 0 (MQ below (QP x al lv σ res) args s 0 0 (Ab x)) (F0 m 49 ls [.int t0, .int t1]) := by
  obtain ⟨hx, hb, hml, hown, hts⟩ := hC.1
  unfold fM_countOf_49 at h
  refine lv_iadd hx hb dX12_countOf_49 ?_
  refine r_lt h (fun y1 h => ?_)
  refine lv_istore_n (lv' := [(3, .int y1), (0, .ref (al 7 0)), (1, .int x1), (2, .int x2), (4, .int x4)]) hx hb dX12_countOf_50 rfl hl (by decide) rfl (fun ls hl => ?_)
  refine r_iinc (v := 1) hC h dX12_countOf_51 hl (k := 4) rfl rfl (by decide) (fun y2 => [(4, .int y2), (3, .int y1), (0, .ref (al 7 0)), (1, .int x1), (2, .int x2)]) (fun _ => rfl) (fun y2 ls h hl => ?_)
  refine lv_goto (tgt := 5) hx hb dX12_countOf_54 (by decide) ?_
  exact hk5 x1 x2 y1 y2 H locs ls h hP hS (lv_sub hl [2, 3, 4, 1, 0] rfl)

set_option maxHeartbeats 4000000 in
set_option maxRecDepth 20000 in
theorem wM_countOf_44 {p : Program} {l : Launch} {e : Env} {s : State} {m : MethodId} {args : Array Value} {below : List Frame} {meth : Method} {c : Code} {x : Wx} {al : Nat → Nat → Nat} {lv : Nat → Bool} {res : Int32} {σ : Sg} (hC : Cx x p s m args meth c cX12_countOf 5 (some .int) RX12) (k5 : Int32 → Int32 → Int32 → Int32 → Option (Int32)) (hk5 : ∀ (x1 : Int32) (x2 : Int32) (x3 : Int32) (x4 : Int32) (H : Heap) (locs : List Loc) (ls : Array Slot), k5 x1 x2 x3 x4 = some res → Pic x al lv σ H → va_S (Ab x) s.heap H locs → lv_has ls 5 [(0, .ref (al 7 0)), (1, .int x1), (2, .int x2), (3, .int x3), (4, .int x4)] → W p l e (rmm 1 0 0) s m args below meth c H locs 0 0 (MQ below (QP x al lv σ res) args s 0 0 (Ab x)) (F0 m 5 ls [])) (x1 : Int32) (x2 : Int32) (x4 : Int32) (t0 : Int32) (H : Heap) (locs : List Loc) (ls : Array Slot) (h : fM_countOf_44 k5 σ x1 x2 x4 t0 = some res) (hP : Pic x al lv σ H) (hS : va_S (Ab x) s.heap H locs) (hl : lv_has ls 5 [(0, .ref (al 7 0)), (1, .int x1), (2, .int x2), (4, .int x4)]) : W p l e (rmm 1 0 0) s m args below meth c H locs 0 0 (MQ below (QP x al lv σ res) args s 0 0 (Ab x)) (F0 m 44 ls [.int t0]) := by
  obtain ⟨hx, hb, hml, hown, hts⟩ := hC.1
  unfold fM_countOf_44 at h
  refine lv_iconst (v := 1) hx hb dX12_countOf_44 (by decide) ?_
  refine lv_goto (tgt := 49) hx hb dX12_countOf_45 (by decide) ?_
  exact wM_countOf_49  hC k5 hk5 x1 x2 x4 1 t0 H locs ls h hP hS (lv_sub hl [0, 1, 2, 3] rfl)

set_option maxHeartbeats 4000000 in
set_option maxRecDepth 20000 in
theorem wM_countOf_48 {p : Program} {l : Launch} {e : Env} {s : State} {m : MethodId} {args : Array Value} {below : List Frame} {meth : Method} {c : Code} {x : Wx} {al : Nat → Nat → Nat} {lv : Nat → Bool} {res : Int32} {σ : Sg} (hC : Cx x p s m args meth c cX12_countOf 5 (some .int) RX12) (k5 : Int32 → Int32 → Int32 → Int32 → Option (Int32)) (hk5 : ∀ (x1 : Int32) (x2 : Int32) (x3 : Int32) (x4 : Int32) (H : Heap) (locs : List Loc) (ls : Array Slot), k5 x1 x2 x3 x4 = some res → Pic x al lv σ H → va_S (Ab x) s.heap H locs → lv_has ls 5 [(0, .ref (al 7 0)), (1, .int x1), (2, .int x2), (3, .int x3), (4, .int x4)] → W p l e (rmm 1 0 0) s m args below meth c H locs 0 0 (MQ below (QP x al lv σ res) args s 0 0 (Ab x)) (F0 m 5 ls [])) (x1 : Int32) (x2 : Int32) (x4 : Int32) (t0 : Int32) (H : Heap) (locs : List Loc) (ls : Array Slot) (h : fM_countOf_48 k5 σ x1 x2 x4 t0 = some res) (hP : Pic x al lv σ H) (hS : va_S (Ab x) s.heap H locs) (hl : lv_has ls 5 [(0, .ref (al 7 0)), (1, .int x1), (2, .int x2), (4, .int x4)]) : W p l e (rmm 1 0 0) s m args below meth c H locs 0 0 (MQ below (QP x al lv σ res) args s 0 0 (Ab x)) (F0 m 48 ls [.int t0]) := by
  obtain ⟨hx, hb, hml, hown, hts⟩ := hC.1
  unfold fM_countOf_48 at h
  refine lv_iconst (v := 0) hx hb dX12_countOf_48 (by decide) ?_
  exact wM_countOf_49  hC k5 hk5 x1 x2 x4 0 t0 H locs ls h hP hS (lv_sub hl [0, 1, 2, 3] rfl)

set_option maxHeartbeats 4000000 in
set_option maxRecDepth 20000 in
theorem wM_countOf_5_b {p : Program} {l : Launch} {e : Env} {s : State} {m : MethodId} {args : Array Value} {below : List Frame} {meth : Method} {c : Code} {x : Wx} {al : Nat → Nat → Nat} {lv : Nat → Bool} {res : Int32} {σ : Sg} (hC : Cx x p s m args meth c cX12_countOf 5 (some .int) RX12) (k5 : Int32 → Int32 → Int32 → Int32 → Option (Int32)) (hk5 : ∀ (x1 : Int32) (x2 : Int32) (x3 : Int32) (x4 : Int32) (H : Heap) (locs : List Loc) (ls : Array Slot), k5 x1 x2 x3 x4 = some res → Pic x al lv σ H → va_S (Ab x) s.heap H locs → lv_has ls 5 [(0, .ref (al 7 0)), (1, .int x1), (2, .int x2), (3, .int x3), (4, .int x4)] → W p l e (rmm 1 0 0) s m args below meth c H locs 0 0 (MQ below (QP x al lv σ res) args s 0 0 (Ab x)) (F0 m 5 ls [])) (x1 : Int32) (x2 : Int32) (x3 : Int32) (x4 : Int32) (H : Heap) (locs : List Loc) (ls : Array Slot) (h : fM_countOf_5_b k5 σ x1 x2 x3 x4 = some res) (hP : Pic x al lv σ H) (hS : va_S (Ab x) s.heap H locs) (hl : lv_has ls 5 [(0, .ref (al 7 0)), (1, .int x1), (2, .int x2), (3, .int x3), (4, .int x4)]) : W p l e (rmm 1 0 0) s m args below meth c H locs 0 0 (MQ below (QP x al lv σ res) args s 0 0 (Ab x)) (F0 m 5 ls []) := by
  obtain ⟨hx, hb, hml, hown, hts⟩ := hC.1
  unfold fM_countOf_5_b at h
  refine lv_iload hx hb dX12_countOf_5 (lv_at hl 4 rfl) ?_
  refine lv_aload_n hx hb dX12_countOf_7 rfl (lv_at hl 0 rfl) ?_
  refine gt_X12_8 hC hP wf_X12_34 dX12_countOf_8 ?_
  refine lv_iconst (v := 0) hx hb dX12_countOf_11 (by decide) ?_
  refine r_iald hC hP (aM_8 hP.l7) h dX12_countOf_12 (fun h => ?_)
  refine lv_icmp_ge (tgt := 57) hx hb dX12_countOf_13 (by decide) (fun hc => ?_) (fun hc => ?_)
  · replace h := (br h).1 hc
    refine lv_iload_n hx hb dX12_countOf_57 rfl (lv_at hl 3 rfl) ?_
    exact r_retP hC hP hS rfl h dX12_countOf_58
  · replace h := (br h).2 hc
    refine lv_iload_n hx hb dX12_countOf_16 rfl (lv_at hl 3 rfl) ?_
    refine lv_aload_n hx hb dX12_countOf_17 rfl (lv_at hl 0 rfl) ?_
    refine gt_X12_21 hC hP wf_X12_73 dX12_countOf_18 ?_
    refine lv_iload hx hb dX12_countOf_21 (lv_at hl 4 rfl) ?_
    refine r_iald hC hP (aM_21 hP.l7) h dX12_countOf_23 (fun h => ?_)
    refine lv_iload_n hx hb dX12_countOf_24 rfl (lv_at hl 1 rfl) ?_
    refine lv_icmp_ne (tgt := 48) hx hb dX12_countOf_25 (by decide) (fun hc => ?_) (fun hc => ?_)
    · replace h := (br h).2 hc
      exact wM_countOf_48  hC k5 hk5 x1 x2 x4 x3 H locs ls h hP hS (lv_sub hl [0, 1, 2, 4] rfl)
    · replace h := (br h).1 hc
      refine lv_iload_n hx hb dX12_countOf_28 rfl (lv_at hl 2 rfl) ?_
      refine lv_iconst (v := (-1)) hx hb dX12_countOf_29 (by decide) ?_
      refine lv_icmp_eq (tgt := 44) hx hb dX12_countOf_30 (by decide) (fun hc => ?_) (fun hc => ?_)
      · replace h := (br h).1 hc
        exact wM_countOf_44  hC k5 hk5 x1 x2 x4 x3 H locs ls h hP hS (lv_sub hl [0, 1, 2, 4] rfl)
      · replace h := (br h).2 hc
        refine lv_aload_n hx hb dX12_countOf_33 rfl (lv_at hl 0 rfl) ?_
        refine gt_X12_19 hC hP wf_X12_67 dX12_countOf_34 ?_
        refine lv_iload hx hb dX12_countOf_37 (lv_at hl 4 rfl) ?_
        refine r_iald hC hP (aM_19 hP.l7) h dX12_countOf_39 (fun h => ?_)
        refine lv_iload_n hx hb dX12_countOf_40 rfl (lv_at hl 2 rfl) ?_
        refine lv_icmp_ne (tgt := 48) hx hb dX12_countOf_41 (by decide) (fun hc => ?_) (fun hc => ?_)
        · replace h := (br h).2 hc
          exact wM_countOf_48  hC k5 hk5 x1 x2 x4 x3 H locs ls h hP hS (lv_sub hl [0, 1, 2, 4] rfl)
        · replace h := (br h).1 hc
          exact wM_countOf_44  hC k5 hk5 x1 x2 x4 x3 H locs ls h hP hS (lv_sub hl [0, 1, 2, 4] rfl)

set_option maxHeartbeats 4000000 in
set_option maxRecDepth 20000 in
theorem wM_countOf_5 {p : Program} {l : Launch} {e : Env} {s : State} {m : MethodId} {args : Array Value} {below : List Frame} {meth : Method} {c : Code} {x : Wx} {al : Nat → Nat → Nat} {lv : Nat → Bool} {res : Int32} {σ : Sg} (hC : Cx x p s m args meth c cX12_countOf 5 (some .int) RX12) (n : Nat) (x1 : Int32) (x2 : Int32) (x3 : Int32) (x4 : Int32) (H : Heap) (locs : List Loc) (ls : Array Slot) (h : fM_countOf_5 n σ x1 x2 x3 x4 = some res) (hP : Pic x al lv σ H) (hS : va_S (Ab x) s.heap H locs) (hl : lv_has ls 5 [(0, .ref (al 7 0)), (1, .int x1), (2, .int x2), (3, .int x3), (4, .int x4)]) : W p l e (rmm 1 0 0) s m args below meth c H locs 0 0 (MQ below (QP x al lv σ res) args s 0 0 (Ab x)) (F0 m 5 ls []) := by
  induction n generalizing x1 x2 x3 x4 H locs ls with
  | zero => exact nomatch h
  | succ n ih => exact wM_countOf_5_b  hC  _ (fun x1 x2 x3 x4 H locs ls h hP hS hl => ih x1 x2 x3 x4 H locs ls h hP hS hl) x1 x2 x3 x4 H locs ls h hP hS hl
set_option maxHeartbeats 4000000 in
set_option maxRecDepth 20000 in
theorem wM_countOf_0 {p : Program} {l : Launch} {e : Env} {s : State} {m : MethodId} {args : Array Value} {below : List Frame} {meth : Method} {c : Code} {x : Wx} {al : Nat → Nat → Nat} {lv : Nat → Bool} {res : Int32} {σ : Sg} (hC : Cx x p s m args meth c cX12_countOf 5 (some .int) RX12) (v1 : Int32) (v2 : Int32) (H : Heap) (locs : List Loc) (ls : Array Slot) (h : fM_countOf_0 σ v1 v2 = some res) (hP : Pic x al lv σ H) (hS : va_S (Ab x) s.heap H locs) (hl : lv_has ls 5 [(0, .ref (al 7 0)), (1, .int v1), (2, .int v2)]) : W p l e (rmm 1 0 0) s m args below meth c H locs 0 0 (MQ below (QP x al lv σ res) args s 0 0 (Ab x)) (F0 m 0 ls []) := by
  obtain ⟨hx, hb, hml, hown, hts⟩ := hC.1
  unfold fM_countOf_0 at h
  refine lv_iconst (v := 0) hx hb dX12_countOf_0 (by decide) ?_
  refine lv_istore_n (lv' := [(3, .int 0), (0, .ref (al 7 0)), (1, .int v1), (2, .int v2)]) hx hb dX12_countOf_1 rfl hl (by decide) rfl (fun ls hl => ?_)
  refine lv_iconst (v := 0) hx hb dX12_countOf_2 (by decide) ?_
  refine lv_istore (lv' := [(4, .int 0), (3, .int 0), (0, .ref (al 7 0)), (1, .int v1), (2, .int v2)]) hx hb dX12_countOf_3 hl (by decide) rfl (fun ls hl => ?_)
  exact wM_countOf_5  hC  FU v1 v2 0 0 H locs ls h hP hS (lv_sub hl [2, 3, 4, 1, 0] rfl)

set_option maxRecDepth 20000 in
theorem tM_countOf {l : Launch} (x : Wx) (al : Nat → Nat → Nat) (lv : Nat → Bool) (σ : Sg) (v1 : Int32) (v2 : Int32) (res : Int32) (h : fM_countOf σ v1 v2 = some res) : Met l yX12_countOf (Cond.code yX12_countOf cX12_countOf 5 (some .int) :: lwg) (rmm 1 0 0) (va_Pc [.ref (al 7 0), .int v1, .int v2] (Wd x al lv σ)) (QP x al lv σ res) 0 0 (Ab x) := by
  refine met_W (by decide) (Nat.le_of_ble_eq_true rfl) rfl (fun p e s m args below meth c ls hC hP hS hl => ?_)
  exact wM_countOf_0  hC v1 v2 _ _ ls h hP hS hl
set_option maxHeartbeats 4000000 in
set_option maxRecDepth 20000 in
theorem wM_warmthOf_16 {p : Program} {l : Launch} {e : Env} {s : State} {m : MethodId} {args : Array Value} {below : List Frame} {meth : Method} {c : Code} {x : Wx} {al : Nat → Nat → Nat} {lv : Nat → Bool} {res : Int32} {σ : Sg} (hC : Cx x p s m args meth c cX12_warmthOf 4 (some .int) RX12) (x3 : Int32) (H : Heap) (locs : List Loc) (ls : Array Slot) (h : fM_warmthOf_16 σ x3 = some res) (hP : Pic x al lv σ H) (hS : va_S (Ab x) s.heap H locs) (hl : lv_has ls 4 [(3, .int x3)]) : W p l e (rmm 2 0 0) s m args below meth c H locs 0 0 (MQ below (QP x al lv σ res) args s 0 0 (Ab x)) (F0 m 16 ls []) := by
  obtain ⟨hx, hb, hml, hown, hts⟩ := hC.1
  unfold fM_warmthOf_16 at h
  refine lv_iload_n hx hb dX12_warmthOf_16 rfl (lv_at hl 0 rfl) ?_
  refine lv_bipush (v := 80) hx hb dX12_warmthOf_17 (by decide) ?_
  refine lv_iadd hx hb dX12_warmthOf_19 ?_
  refine lv_iconst (v := 2) hx hb dX12_warmthOf_20 (by decide) ?_
  refine lv_idiv hx hb dX12_warmthOf_21 (by decide) ?_
  refine lv_goto (tgt := 50) hx hb dX12_warmthOf_22 (by decide) ?_
  exact r_retP hC hP hS rfl h dX12_warmthOf_50

set_option maxHeartbeats 4000000 in
set_option maxRecDepth 20000 in
theorem wM_warmthOf_0 {p : Program} {l : Launch} {e : Env} {s : State} {m : MethodId} {args : Array Value} {below : List Frame} {meth : Method} {c : Code} {x : Wx} {al : Nat → Nat → Nat} {lv : Nat → Bool} {res : Int32} {σ : Sg} (hC : Cx x p s m args meth c cX12_warmthOf 4 (some .int) RX12) (v1 : Int32) (v2 : Int32) (H : Heap) (locs : List Loc) (ls : Array Slot) (h : fM_warmthOf_0 σ v1 v2 = some res) (hP : Pic x al lv σ H) (hS : va_S (Ab x) s.heap H locs) (hl : lv_has ls 4 [(0, .ref (al 7 0)), (1, .int v1), (2, .int v2)]) : W p l e (rmm 2 0 0) s m args below meth c H locs 0 0 (MQ below (QP x al lv σ res) args s 0 0 (Ab x)) (F0 m 0 ls []) := by
  obtain ⟨hx, hb, hml, hown, hts⟩ := hC.1
  unfold fM_warmthOf_0 at h
  refine lv_aload_n hx hb dX12_warmthOf_0 rfl (lv_at hl 0 rfl) ?_
  refine lv_iload_n hx hb dX12_warmthOf_1 rfl (lv_at hl 2 rfl) ?_
  refine r_cP hS h (fun r hr => r_runV (As := [.int v2]) (rest := []) hC kV_X12_156 cw_X12_tenthsOf (rc_X12 hC hP) hP (tM_tenthsOf x al lv σ v2 r hr) rfl hl.1 ⟨Nat.le_of_ble_eq_true rfl, Nat.le_of_ble_eq_true rfl⟩ ⟨Nat.le_of_ble_eq_true rfl, Nat.le_of_ble_eq_true rfl⟩ (Nat.le_of_ble_eq_true rfl) dX12_warmthOf_2) (fun y1 H locs h hP hS => ?_)
  refine lv_istore_n (lv' := [(3, .int y1), (0, .ref (al 7 0)), (1, .int v1), (2, .int v2)]) hx hb dX12_warmthOf_5 rfl hl (by decide) rfl (fun ls hl => ?_)
  refine lv_iload_n hx hb dX12_warmthOf_6 rfl (lv_at hl 2 rfl) ?_
  refine lv_iconst (v := 1) hx hb dX12_warmthOf_7 (by decide) ?_
  refine lv_icmp_eq (tgt := 16) hx hb dX12_warmthOf_8 (by decide) (fun hc => ?_) (fun hc => ?_)
  · replace h := (br h).1 hc
    exact wM_warmthOf_16  hC  y1 H locs ls h hP hS (lv_sub hl [0] rfl)
  · replace h := (br h).2 hc
    refine lv_iload_n hx hb dX12_warmthOf_11 rfl (lv_at hl 2 rfl) ?_
    refine lv_iconst (v := 5) hx hb dX12_warmthOf_12 (by decide) ?_
    refine lv_icmp_ne (tgt := 25) hx hb dX12_warmthOf_13 (by decide) (fun hc => ?_) (fun hc => ?_)
    · replace h := (br h).2 hc
      refine lv_iload_n hx hb dX12_warmthOf_25 rfl (lv_at hl 2 rfl) ?_
      refine lv_iconst (v := 3) hx hb dX12_warmthOf_26 (by decide) ?_
      refine lv_icmp_ne (tgt := 37) hx hb dX12_warmthOf_27 (by decide) (fun hc => ?_) (fun hc => ?_)
      · replace h := (br h).2 hc
        refine lv_iload_n hx hb dX12_warmthOf_37 rfl (lv_at hl 2 rfl) ?_
        refine lv_iconst (v := 4) hx hb dX12_warmthOf_38 (by decide) ?_
        refine lv_icmp_ne (tgt := 49) hx hb dX12_warmthOf_39 (by decide) (fun hc => ?_) (fun hc => ?_)
        · replace h := (br h).2 hc
          refine lv_iload_n hx hb dX12_warmthOf_49 rfl (lv_at hl 0 rfl) ?_
          exact r_retP hC hP hS rfl h dX12_warmthOf_50
        · replace h := (br h).1 hc
          refine lv_iload_n hx hb dX12_warmthOf_42 rfl (lv_at hl 0 rfl) ?_
          refine lv_bipush (v := 30) hx hb dX12_warmthOf_43 (by decide) ?_
          refine lv_iadd hx hb dX12_warmthOf_45 ?_
          refine lv_goto (tgt := 50) hx hb dX12_warmthOf_46 (by decide) ?_
          exact r_retP hC hP hS rfl h dX12_warmthOf_50
      · replace h := (br h).1 hc
        refine lv_iload_n hx hb dX12_warmthOf_30 rfl (lv_at hl 0 rfl) ?_
        refine lv_bipush (v := 10) hx hb dX12_warmthOf_31 (by decide) ?_
        refine lv_iadd hx hb dX12_warmthOf_33 ?_
        refine lv_goto (tgt := 50) hx hb dX12_warmthOf_34 (by decide) ?_
        exact r_retP hC hP hS rfl h dX12_warmthOf_50
    · replace h := (br h).1 hc
      exact wM_warmthOf_16  hC  y1 H locs ls h hP hS (lv_sub hl [0] rfl)

set_option maxRecDepth 20000 in
theorem tM_warmthOf {l : Launch} (x : Wx) (al : Nat → Nat → Nat) (lv : Nat → Bool) (σ : Sg) (v1 : Int32) (v2 : Int32) (res : Int32) (h : fM_warmthOf σ v1 v2 = some res) : Met l yX12_warmthOf (Cond.code yX12_warmthOf cX12_warmthOf 4 (some .int) :: lwg) (rmm 2 0 0) (va_Pc [.ref (al 7 0), .int v1, .int v2] (Wd x al lv σ)) (QP x al lv σ res) 0 0 (Ab x) := by
  refine met_W (by decide) (Nat.le_of_ble_eq_true rfl) rfl (fun p e s m args below meth c ls hC hP hS hl => ?_)
  exact wM_warmthOf_0  hC v1 v2 _ _ ls h hP hS hl
set_option maxHeartbeats 4000000 in
set_option maxRecDepth 20000 in
theorem wM_warmth_5_b {p : Program} {l : Launch} {e : Env} {s : State} {m : MethodId} {args : Array Value} {below : List Frame} {meth : Method} {c : Code} {x : Wx} {al : Nat → Nat → Nat} {lv : Nat → Bool} {res : Int32} {σ : Sg} (hC : Cx x p s m args meth c cX12_warmth 5 (some .int) RX12) (k5 : Int32 → Int32 → Int32 → Option (Int32)) (hk5 : ∀ (x2 : Int32) (x3 : Int32) (x4 : Int32) (H : Heap) (locs : List Loc) (ls : Array Slot), k5 x2 x3 x4 = some res → Pic x al lv σ H → va_S (Ab x) s.heap H locs → lv_has ls 5 [(0, .ref (al 7 0)), (2, .int x2), (3, .int x3), (4, .int x4)] → W p l e (rmm 3 0 0) s m args below meth c H locs 0 0 (MQ below (QP x al lv σ res) args s 0 0 (Ab x)) (F0 m 5 ls [])) (x2 : Int32) (x3 : Int32) (x4 : Int32) (H : Heap) (locs : List Loc) (ls : Array Slot) (h : fM_warmth_5_b k5 σ x2 x3 x4 = some res) (hP : Pic x al lv σ H) (hS : va_S (Ab x) s.heap H locs) (hl : lv_has ls 5 [(0, .ref (al 7 0)), (2, .int x2), (3, .int x3), (4, .int x4)]) : W p l e (rmm 3 0 0) s m args below meth c H locs 0 0 (MQ below (QP x al lv σ res) args s 0 0 (Ab x)) (F0 m 5 ls []) := by
  obtain ⟨hx, hb, hml, hown, hts⟩ := hC.1
  unfold fM_warmth_5_b at h
  refine lv_aload_n hx hb dX12_warmth_5 rfl (lv_at hl 0 rfl) ?_
  refine gt_X12_10 hC hP wf_X12_40 dX12_warmth_6 ?_
  refine lv_iload_n hx hb dX12_warmth_9 rfl (lv_at hl 2 rfl) ?_
  refine r_iald hC hP (aM_10 hP.l7) h dX12_warmth_10 (fun h => ?_)
  refine lv_iconst (v := 2) hx hb dX12_warmth_11 (by decide) ?_
  refine lv_icmp_ne (tgt := 38) hx hb dX12_warmth_12 (by decide) (fun hc => ?_) (fun hc => ?_)
  · replace h := (br h).2 hc
    refine lv_iload hx hb dX12_warmth_38 (lv_at hl 3 rfl) ?_
    refine lv_iconst (v := 2) hx hb dX12_warmth_40 (by decide) ?_
    refine lv_aload_n hx hb dX12_warmth_41 rfl (lv_at hl 0 rfl) ?_
    refine lv_iload_n hx hb dX12_warmth_42 rfl (lv_at hl 2 rfl) ?_
    refine lv_iconst (v := 2) hx hb dX12_warmth_43 (by decide) ?_
    refine r_cP hS h (fun r hr => r_runV (As := [.int x3, .int 2]) (rest := [.int 2, .int x4]) hC kV_X12_184 cw_X12_countOf (rc_X12 hC hP) hP (tM_countOf x al lv σ x3 2 r hr) rfl hl.1 ⟨Nat.le_of_ble_eq_true rfl, Nat.le_of_ble_eq_true rfl⟩ ⟨Nat.le_of_ble_eq_true rfl, Nat.le_of_ble_eq_true rfl⟩ (Nat.le_of_ble_eq_true rfl) dX12_warmth_44) (fun y1 H locs h hP hS => ?_)
    refine lv_imul hx hb dX12_warmth_47 ?_
    refine lv_iadd hx hb dX12_warmth_48 ?_
    refine r_lt h (fun y2 h => ?_)
    refine lv_istore (lv' := [(4, .int y2), (0, .ref (al 7 0)), (2, .int x2), (3, .int x3)]) hx hb dX12_warmth_49 hl (by decide) rfl (fun ls hl => ?_)
    refine lv_aload_n hx hb dX12_warmth_51 rfl (lv_at hl 1 rfl) ?_
    refine lv_aload_n hx hb dX12_warmth_52 rfl (lv_at hl 1 rfl) ?_
    refine gt_X12_10 hC hP wf_X12_40 dX12_warmth_53 ?_
    refine lv_iload_n hx hb dX12_warmth_56 rfl (lv_at hl 3 rfl) ?_
    refine r_iald hC hP (aM_10 hP.l7) h dX12_warmth_57 (fun h => ?_)
    refine lv_iload_n hx hb dX12_warmth_58 rfl (lv_at hl 2 rfl) ?_
    refine r_cP hS h (fun r hr => r_runV (As := [.int (σ 7 10 x3.toNatClampNeg), .int x2]) (rest := []) hC kV_X12_187 cw_X12_warmthOf (rc_X12 hC hP) hP (tM_warmthOf x al lv σ (σ 7 10 x3.toNatClampNeg) x2 r hr) rfl hl.1 ⟨Nat.le_of_ble_eq_true rfl, Nat.le_of_ble_eq_true rfl⟩ ⟨Nat.le_of_ble_eq_true rfl, Nat.le_of_ble_eq_true rfl⟩ (Nat.le_of_ble_eq_true rfl) dX12_warmth_59) (fun y3 H locs h hP hS => ?_)
    refine lv_iload hx hb dX12_warmth_62 (lv_at hl 0 rfl) ?_
    refine lv_isub hx hb dX12_warmth_64 ?_
    exact r_retP hC hP hS rfl h dX12_warmth_65
  · replace h := (br h).1 hc
    refine lv_iload hx hb dX12_warmth_15 (lv_at hl 3 rfl) ?_
    refine lv_iconst (v := 2) hx hb dX12_warmth_17 (by decide) ?_
    refine lv_aload_n hx hb dX12_warmth_18 rfl (lv_at hl 0 rfl) ?_
    refine lv_iload_n hx hb dX12_warmth_19 rfl (lv_at hl 2 rfl) ?_
    refine lv_iconst (v := 2) hx hb dX12_warmth_20 (by decide) ?_
    refine r_cP hS h (fun r hr => r_runV (As := [.int x3, .int 2]) (rest := [.int 2, .int x4]) hC kV_X12_184 cw_X12_countOf (rc_X12 hC hP) hP (tM_countOf x al lv σ x3 2 r hr) rfl hl.1 ⟨Nat.le_of_ble_eq_true rfl, Nat.le_of_ble_eq_true rfl⟩ ⟨Nat.le_of_ble_eq_true rfl, Nat.le_of_ble_eq_true rfl⟩ (Nat.le_of_ble_eq_true rfl) dX12_warmth_21) (fun y4 H locs h hP hS => ?_)
    refine lv_imul hx hb dX12_warmth_24 ?_
    refine lv_iadd hx hb dX12_warmth_25 ?_
    refine r_lt h (fun y5 h => ?_)
    refine lv_istore (lv' := [(4, .int y5), (0, .ref (al 7 0)), (2, .int x2), (3, .int x3)]) hx hb dX12_warmth_26 hl (by decide) rfl (fun ls hl => ?_)
    refine lv_aload_n hx hb dX12_warmth_28 rfl (lv_at hl 1 rfl) ?_
    refine gt_X12_14 hC hP wf_X12_52 dX12_warmth_29 ?_
    refine lv_iload_n hx hb dX12_warmth_32 rfl (lv_at hl 3 rfl) ?_
    refine r_iald hC hP (aM_14 hP.l7) h dX12_warmth_33 (fun h => ?_)
    refine r_lt h (fun y6 h => ?_)
    refine lv_istore_n (lv' := [(3, .int y6), (4, .int y5), (0, .ref (al 7 0)), (2, .int x2)]) hx hb dX12_warmth_34 rfl hl (by decide) rfl (fun ls hl => ?_)
    refine lv_goto (tgt := 5) hx hb dX12_warmth_35 (by decide) ?_
    exact hk5 x2 y6 y5 H locs ls h hP hS (lv_sub hl [2, 3, 0, 1] rfl)

set_option maxHeartbeats 4000000 in
set_option maxRecDepth 20000 in
theorem wM_warmth_5 {p : Program} {l : Launch} {e : Env} {s : State} {m : MethodId} {args : Array Value} {below : List Frame} {meth : Method} {c : Code} {x : Wx} {al : Nat → Nat → Nat} {lv : Nat → Bool} {res : Int32} {σ : Sg} (hC : Cx x p s m args meth c cX12_warmth 5 (some .int) RX12) (n : Nat) (x2 : Int32) (x3 : Int32) (x4 : Int32) (H : Heap) (locs : List Loc) (ls : Array Slot) (h : fM_warmth_5 n σ x2 x3 x4 = some res) (hP : Pic x al lv σ H) (hS : va_S (Ab x) s.heap H locs) (hl : lv_has ls 5 [(0, .ref (al 7 0)), (2, .int x2), (3, .int x3), (4, .int x4)]) : W p l e (rmm 3 0 0) s m args below meth c H locs 0 0 (MQ below (QP x al lv σ res) args s 0 0 (Ab x)) (F0 m 5 ls []) := by
  induction n generalizing x2 x3 x4 H locs ls with
  | zero => exact nomatch h
  | succ n ih => exact wM_warmth_5_b  hC  _ (fun x2 x3 x4 H locs ls h hP hS hl => ih x2 x3 x4 H locs ls h hP hS hl) x2 x3 x4 H locs ls h hP hS hl
set_option maxHeartbeats 4000000 in
set_option maxRecDepth 20000 in
theorem wM_warmth_0 {p : Program} {l : Launch} {e : Env} {s : State} {m : MethodId} {args : Array Value} {below : List Frame} {meth : Method} {c : Code} {x : Wx} {al : Nat → Nat → Nat} {lv : Nat → Bool} {res : Int32} {σ : Sg} (hC : Cx x p s m args meth c cX12_warmth 5 (some .int) RX12) (v1 : Int32) (v2 : Int32) (H : Heap) (locs : List Loc) (ls : Array Slot) (h : fM_warmth_0 σ v1 v2 = some res) (hP : Pic x al lv σ H) (hS : va_S (Ab x) s.heap H locs) (hl : lv_has ls 5 [(0, .ref (al 7 0)), (1, .int v1), (2, .int v2)]) : W p l e (rmm 3 0 0) s m args below meth c H locs 0 0 (MQ below (QP x al lv σ res) args s 0 0 (Ab x)) (F0 m 0 ls []) := by
  obtain ⟨hx, hb, hml, hown, hts⟩ := hC.1
  unfold fM_warmth_0 at h
  refine lv_iload_n hx hb dX12_warmth_0 rfl (lv_at hl 1 rfl) ?_
  refine lv_istore_n (lv' := [(3, .int v1), (0, .ref (al 7 0)), (1, .int v1), (2, .int v2)]) hx hb dX12_warmth_1 rfl hl (by decide) rfl (fun ls hl => ?_)
  refine lv_iconst (v := 0) hx hb dX12_warmth_2 (by decide) ?_
  refine lv_istore (lv' := [(4, .int 0), (3, .int v1), (0, .ref (al 7 0)), (1, .int v1), (2, .int v2)]) hx hb dX12_warmth_3 hl (by decide) rfl (fun ls hl => ?_)
  exact wM_warmth_5  hC  FU v2 v1 0 H locs ls h hP hS (lv_sub hl [2, 4, 1, 0] rfl)

set_option maxRecDepth 20000 in
theorem tM_warmth {l : Launch} (x : Wx) (al : Nat → Nat → Nat) (lv : Nat → Bool) (σ : Sg) (v1 : Int32) (v2 : Int32) (res : Int32) (h : fM_warmth σ v1 v2 = some res) : Met l yX12_warmth (Cond.code yX12_warmth cX12_warmth 5 (some .int) :: lwg) (rmm 3 0 0) (va_Pc [.ref (al 7 0), .int v1, .int v2] (Wd x al lv σ)) (QP x al lv σ res) 0 0 (Ab x) := by
  refine met_W (by decide) (Nat.le_of_ble_eq_true rfl) rfl (fun p e s m args below meth c ls hC hP hS hl => ?_)
  exact wM_warmth_0  hC v1 v2 _ _ ls h hP hS hl
