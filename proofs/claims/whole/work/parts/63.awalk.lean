set_option maxHeartbeats 4000000 in
set_option maxRecDepth 20000 in
theorem wI_day_38 {p : Program} {l : Launch} {e : Env} {s : State} {m : MethodId} {args : Array Value} {below : List Frame} {meth : Method} {c : Code} {x : Wx} {al : Nat → Nat → Nat} {lv : Nat → Bool} {res : Int32 × Sg × (Nat → Bool)} {al0 : Nat → Nat → Nat} (h60 : al 6 0 = al0 6 0) (h70 : al 7 0 = al0 7 0) (hC : Cx x p s m args meth c cX11_day 1 (some .int) RX11) (σ : Sg) (H : Heap) (locs : List Loc) (ls : Array Slot) (h : fI_day_38 lv σ = some res) (hP : Pic x al lv σ H) (hS : va_S (Ab x) s.heap H locs) (hl : lv_has ls 1 [(0, .ref (al 6 0))]) : W p l e (rmm 7 3 3604) s m args below meth c H locs 3 3604 (MQ below (QA x al0 res) args s 3 3604 (Ab x)) (F0 m 38 ls []) := by
  obtain ⟨hx, hb, hml, hown, hts⟩ := hC.1
  unfold fI_day_38 at h
  refine lv_aload_n hx hb dX11_day_38 rfl (lv_at hl 0 rfl) ?_
  refine gt_X11_2 hC hP wf_X11_26 dX11_day_39 ?_
  refine lv_aload_n hx hb dX11_day_42 rfl (lv_at hl 0 rfl) ?_
  refine gt_X11_0 hC hP wf_X11_12 dX11_day_43 ?_
  refine lv_aload_n hx hb dX11_day_46 rfl (lv_at hl 0 rfl) ?_
  refine r_cP hS h (fun r hr => r_runV (As := []) (rest := [.ref (al 0 0), .ref (al 6 2)]) hC kV_X11_99 cw_X11_tenthsToday (rc_X11 hC hP) hP (tI_tenthsToday x al lv σ  r hr) rfl hl.1 ⟨Nat.le_of_ble_eq_true rfl, Nat.le_of_ble_eq_true rfl⟩ ⟨Nat.le_of_ble_eq_true rfl, Nat.le_of_ble_eq_true rfl⟩ (Nat.le_of_ble_eq_true rfl) dX11_day_47) (fun y5 H locs h hP hS => ?_)
  refine r_cV hS h (fun r hr => r_runV (As := [.ref (al 0 0), .int y5]) (rest := []) hC kV_X11_220 cw_X6_weigh (rc_X6 hC hP) hP (tMelting_weigh x al lv σ 0 h06 hP.l0 y5 r hr) rfl hl.1 ⟨Nat.le_of_ble_eq_true rfl, Nat.le_of_ble_eq_true rfl⟩ ⟨Nat.le_of_ble_eq_true rfl, Nat.le_of_ble_eq_true rfl⟩ (Nat.le_of_ble_eq_true rfl) dX11_day_50) (fun σ6 H locs h hP hS => ?_)
  refine lv_aload_n hx hb dX11_day_53 rfl (lv_at hl 0 rfl) ?_
  refine gt_X11_17 hC hP wf_X11_213 dX11_day_54 ?_
  obtain ⟨hq7, h⟩ := gd_e h
  refine r_nn hq7 ?_
  refine lv_aload_n hx hb dX11_day_57 rfl (lv_at hl 0 rfl) ?_
  refine gt_X11_0 hC hP wf_X11_12 dX11_day_58 ?_
  refine lv_aload_n hx hb dX11_day_61 rfl (lv_at hl 0 rfl) ?_
  refine gt_X11_2 hC hP wf_X11_26 dX11_day_62 ?_
  refine r_cV hS h (fun r hr => r_runV (As := [.ref (al 0 0), .ref (al 6 2)]) (rest := []) hC kV_X11_224 cw_X1_write (rc_X1 hq7 hC hP) hP (tBook_write x al lv σ6 0 h06 hP.l0 hq7 r hr) rfl hl.1 ⟨Nat.le_of_ble_eq_true rfl, Nat.le_of_ble_eq_true rfl⟩ ⟨Nat.le_of_ble_eq_true rfl, Nat.le_of_ble_eq_true rfl⟩ (Nat.le_of_ble_eq_true rfl) dX11_day_65) (fun σ8 H locs h hP hS => ?_)
  refine lv_aload_n hx hb dX11_day_68 rfl (lv_at hl 0 rfl) ?_
  refine lv_aload_n hx hb dX11_day_69 rfl (lv_at hl 0 rfl) ?_
  refine gt_X11_2 hC hP wf_X11_26 dX11_day_70 ?_
  refine lv_aload_n hx hb dX11_day_73 rfl (lv_at hl 0 rfl) ?_
  refine gt_X11_0 hC hP wf_X11_12 dX11_day_74 ?_
  refine r_cI hS h (fun r hr => r_runV (As := [.ref (al 0 0)]) (rest := [.ref (al 6 0)]) hC kV_X11_228 cw_X6_passDay (rc_X6 hC hP) hP (tMelting_passDay x al lv σ8 0 h06 hP.l0 r hr) rfl hl.1 ⟨Nat.le_of_ble_eq_true rfl, Nat.le_of_ble_eq_true rfl⟩ ⟨Nat.le_of_ble_eq_true rfl, Nat.le_of_ble_eq_true rfl⟩ (Nat.le_of_ble_eq_true rfl) dX11_day_77) (fun y9 σ10 H locs h hP hS => ?_)
  refine r_cI hS h (fun r hr => r_runV (As := [.int y9]) (rest := []) hC kV_X11_72 cw_X11_answer (rc_X11 hC hP) hP (tI_answer x al lv σ10 y9 r hr) rfl hl.1 ⟨Nat.le_of_ble_eq_true rfl, Nat.le_of_ble_eq_true rfl⟩ ⟨Nat.le_of_ble_eq_true rfl, Nat.le_of_ble_eq_true rfl⟩ (Nat.le_of_ble_eq_true rfl) dX11_day_80) (fun y11 σ12 H locs h hP hS => ?_)
  exact r_retA hC h60 h70 hP hS rfl h dX11_day_83

set_option maxHeartbeats 4000000 in
set_option maxRecDepth 20000 in
theorem wI_day_0 {p : Program} {l : Launch} {e : Env} {s : State} {m : MethodId} {args : Array Value} {below : List Frame} {meth : Method} {c : Code} {x : Wx} {al : Nat → Nat → Nat} {lv : Nat → Bool} {res : Int32 × Sg × (Nat → Bool)} {al0 : Nat → Nat → Nat} (h60 : al 6 0 = al0 6 0) (h70 : al 7 0 = al0 7 0) (hC : Cx x p s m args meth c cX11_day 1 (some .int) RX11) (σ : Sg) (H : Heap) (locs : List Loc) (ls : Array Slot) (h : fI_day_0 lv σ = some res) (hP : Pic x al lv σ H) (hS : va_S (Ab x) s.heap H locs) (hl : lv_has ls 1 [(0, .ref (al 6 0))]) : W p l e (rmm 7 3 3604) s m args below meth c H locs 0 0 (MQ below (QA x al0 res) args s 3 3604 (Ab x)) (F0 m 0 ls []) := by
  obtain ⟨hx, hb, hml, hown, hts⟩ := hC.1
  unfold fI_day_0 at h
  refine lv_aload_n hx hb dX11_day_0 rfl (lv_at hl 0 rfl) ?_
  refine gt_X11_0 hC hP wf_X11_12 dX11_day_1 ?_
  refine gt_X10_0 (a := 0) h06 hP.l0 hC hP wf_X11_210 dX11_day_4 ?_
  refine lv_sipush (v := 199) hx hb dX11_day_7 (by decide) ?_
  refine lv_icmp_lt (tgt := 20) hx hb dX11_day_10 (by decide) (fun hc => ?_) (fun hc => ?_)
  · replace h := (br h).1 hc
    refine lv_aload_n hx hb dX11_day_20 rfl (lv_at hl 0 rfl) ?_
    refine gt_X11_17 hC hP wf_X11_213 dX11_day_21 ?_
    refine r_ifnn (tgt := 38) hC h dX11_day_24 (by decide) (fun hq1 h => ?_) (fun hq1f h => ?_)
    · refine W.widen (k := 3) (n := 3604) (Nat.le_of_ble_eq_true rfl) (Nat.le_of_ble_eq_true rfl) ?_
      exact wI_day_38 h60 h70 hC  σ H locs ls h hP hS (lv_sub hl [0] rfl)
    · refine lv_aload_n hx hb dX11_day_27 rfl (lv_at hl 0 rfl) ?_
      refine mk_B hC hP hS hl.1 hq1f wn_X11_217 (by decide +kernel) wf_X11_213 ⟨Nat.le_of_ble_eq_true rfl, Nat.le_of_ble_eq_true rfl⟩ ⟨Nat.le_of_ble_eq_true rfl, Nat.le_of_ble_eq_true rfl⟩ (Nat.le_of_ble_eq_true rfl) dX11_day_28 dX11_day_31 dX11_day_32 dX11_day_35 h (fun σ2 lv al H locs h e60 e70 hq8 hmo hP hS => ?_)
      rw [← e60] at hl
      replace h60 := e60.trans h60
      replace h70 := e70.trans h70
      refine W.widen (k := 3) (n := 3604) (Nat.le_of_ble_eq_true rfl) (Nat.le_of_ble_eq_true rfl) ?_
      exact wI_day_38 h60 h70 hC  σ2 H locs ls h hP hS (lv_sub hl [0] rfl)
  · replace h := (br h).2 hc
    refine lv_aload_n hx hb dX11_day_13 rfl (lv_at hl 0 rfl) ?_
    refine lv_bipush (v := (-7)) hx hb dX11_day_14 (by decide) ?_
    refine r_cI hS h (fun r hr => r_runV (As := [.int ((-7))]) (rest := []) hC kV_X11_72 cw_X11_answer (rc_X11 hC hP) hP (tI_answer x al lv σ ((-7)) r hr) rfl hl.1 ⟨Nat.le_of_ble_eq_true rfl, Nat.le_of_ble_eq_true rfl⟩ ⟨Nat.le_of_ble_eq_true rfl, Nat.le_of_ble_eq_true rfl⟩ (Nat.le_of_ble_eq_true rfl) dX11_day_16) (fun y3 σ4 H locs h hP hS => ?_)
    refine W.widen (k := 3) (n := 3604) (Nat.le_of_ble_eq_true rfl) (Nat.le_of_ble_eq_true rfl) ?_
    exact r_retA hC h60 h70 hP hS rfl h dX11_day_19

set_option maxRecDepth 20000 in
theorem tI_day {l : Launch} (x : Wx) (al : Nat → Nat → Nat) (lv : Nat → Bool) (σ : Sg) (res : Int32 × Sg × (Nat → Bool)) (h : fI_day lv σ = some res) : Met l yX11_day (Cond.code yX11_day cX11_day 1 (some .int) :: lwg) (rmm 7 3 3604) (va_Pc [.ref (al 6 0)] (Wd x al lv σ)) (QA x al res) 3 3604 (Ab x) := by
  refine met_W (by decide) (Nat.le_of_ble_eq_true rfl) rfl (fun p e s m args below meth c ls hC hP hS hl => ?_)
  exact wI_day_0 rfl rfl hC σ  _ _ ls h hP hS hl
set_option maxHeartbeats 4000000 in
set_option maxRecDepth 20000 in
theorem wI_foretell_22 {p : Program} {l : Launch} {e : Env} {s : State} {m : MethodId} {args : Array Value} {below : List Frame} {meth : Method} {c : Code} {x : Wx} {al : Nat → Nat → Nat} {lv : Nat → Bool} {res : Int32 × Sg × (Nat → Bool)} {al0 : Nat → Nat → Nat} (h60 : al 6 0 = al0 6 0) (h70 : al 7 0 = al0 7 0) (hC : Cx x p s m args meth c cX11_foretell 5 (some .int) RX11) (σ : Sg) (H : Heap) (locs : List Loc) (ls : Array Slot) (h : fI_foretell_22 lv σ = some res) (hP : Pic x al lv σ H) (hS : va_S (Ab x) s.heap H locs) (hl : lv_has ls 5 [(0, .ref (al 6 0))]) : W p l e (rmm 7 24 5168) s m args below meth c H locs 0 0 (MQ below (QA x al0 res) args s 24 5168 (Ab x)) (F0 m 22 ls []) := by
  obtain ⟨hx, hb, hml, hown, hts⟩ := hC.1
  unfold fI_foretell_22 at h
  refine lv_aload_n hx hb dX11_foretell_22 rfl (lv_at hl 0 rfl) ?_
  refine lv_iconst (v := (-1)) hx hb dX11_foretell_23 (by decide) ?_
  refine r_cI hS h (fun r hr => r_runV (As := [.int ((-1))]) (rest := []) hC kV_X11_72 cw_X11_answer (rc_X11 hC hP) hP (tI_answer x al lv σ ((-1)) r hr) rfl hl.1 ⟨Nat.le_of_ble_eq_true rfl, Nat.le_of_ble_eq_true rfl⟩ ⟨Nat.le_of_ble_eq_true rfl, Nat.le_of_ble_eq_true rfl⟩ (Nat.le_of_ble_eq_true rfl) dX11_foretell_24) (fun y24 σ25 H locs h hP hS => ?_)
  refine W.widen (k := 24) (n := 5168) (Nat.le_of_ble_eq_true rfl) (Nat.le_of_ble_eq_true rfl) ?_
  exact r_retA hC h60 h70 hP hS rfl h dX11_foretell_27

set_option maxHeartbeats 4000000 in
set_option maxRecDepth 20000 in
theorem wI_foretell_140 {p : Program} {l : Launch} {e : Env} {s : State} {m : MethodId} {args : Array Value} {below : List Frame} {meth : Method} {c : Code} {x : Wx} {al : Nat → Nat → Nat} {lv : Nat → Bool} {res : Int32 × Sg × (Nat → Bool)} {al0 : Nat → Nat → Nat} (h60 : al 6 0 = al0 6 0) (h70 : al 7 0 = al0 7 0) (hC : Cx x p s m args meth c cX11_foretell 5 (some .int) RX11) (k88 : Sg → Int32 → Int32 → Int32 → Option (Int32 × Sg × (Nat → Bool))) (hk88 : ∀ (σ : Sg) (x1 : Int32) (x2 : Int32) (x3 : Int32) (H : Heap) (locs : List Loc) (ls : Array Slot), k88 σ x1 x2 x3 = some res → Pic x al lv σ H → va_S (Ab x) s.heap H locs → lv_has ls 5 [(0, .ref (al 6 0)), (1, .int x1), (2, .int x2), (3, .int x3)] → W p l e (rmm 7 24 5168) s m args below meth c H locs 24 5168 (MQ below (QA x al0 res) args s 24 5168 (Ab x)) (F0 m 88 ls [])) (σ : Sg) (x1 : Int32) (x2 : Int32) (x3 : Int32) (t0 : Int32) (H : Heap) (locs : List Loc) (ls : Array Slot) (hr2 : lv 1 = true) (h : fI_foretell_140 lv k88 σ x1 x2 x3 t0 = some res) (hP : Pic x al lv σ H) (hS : va_S (Ab x) s.heap H locs) (hl : lv_has ls 5 [(0, .ref (al 6 0)), (1, .int x1), (2, .int x2), (3, .int x3)]) : W p l e (rmm 7 24 5168) s m args below meth c H locs 24 5168 (MQ below (QA x al0 res) args s 24 5168 (Ab x)) (F0 m 140 ls [.int t0, .ref (al 6 1), .ref (al 1 0), .ref (al 6 2)]) := by
  obtain ⟨hx, hb, hml, hown, hts⟩ := hC.1
  unfold fI_foretell_140 at h
  refine r_cP hS h (fun r hr => r_runV (As := [.int t0]) (rest := [.ref (al 1 0), .ref (al 6 2)]) hC kV_X11_197 cw_X2_tenthsOf (rc_X2 hC hP) hP (tCalendar_tenthsOf x al lv σ t0 r hr) rfl hl.1 ⟨Nat.le_of_ble_eq_true rfl, Nat.le_of_ble_eq_true rfl⟩ ⟨Nat.le_of_ble_eq_true rfl, Nat.le_of_ble_eq_true rfl⟩ (Nat.le_of_ble_eq_true rfl) dX11_foretell_140) (fun y13 H locs h hP hS => ?_)
  refine r_cV hS h (fun r hr => r_runV (As := [.ref (al 1 0), .int y13]) (rest := []) hC kV_X11_220 cw_X6_weigh (rc_X6 hC hP) hP (tMelting_weigh x al lv σ 1 h16 hr2 y13 r hr) rfl hl.1 ⟨Nat.le_of_ble_eq_true rfl, Nat.le_of_ble_eq_true rfl⟩ ⟨Nat.le_of_ble_eq_true rfl, Nat.le_of_ble_eq_true rfl⟩ (Nat.le_of_ble_eq_true rfl) dX11_foretell_143) (fun σ14 H locs h hP hS => ?_)
  refine lv_aload_n hx hb dX11_foretell_146 rfl (lv_at hl 0 rfl) ?_
  refine gt_X11_2 hC hP wf_X11_26 dX11_foretell_147 ?_
  refine lv_aload_n hx hb dX11_foretell_150 rfl (lv_at hl 0 rfl) ?_
  refine gt_X11_15 hC hP wf_X11_306 dX11_foretell_151 ?_
  obtain ⟨hq15, h⟩ := gd_e h
  refine r_nn hq15 ?_
  refine r_cI hS h (fun r hr => r_runV (As := [.ref (al 1 0)]) (rest := []) hC kV_X11_228 cw_X6_passDay (rc_X6 hC hP) hP (tMelting_passDay x al lv σ14 1 h16 hq15 r hr) rfl hl.1 ⟨Nat.le_of_ble_eq_true rfl, Nat.le_of_ble_eq_true rfl⟩ ⟨Nat.le_of_ble_eq_true rfl, Nat.le_of_ble_eq_true rfl⟩ (Nat.le_of_ble_eq_true rfl) dX11_foretell_154) (fun y16 σ17 H locs h hP hS => ?_)
  refine lv_pop hx hb dX11_foretell_157 rfl ?_
  refine lv_aload_n hx hb dX11_foretell_158 rfl (lv_at hl 0 rfl) ?_
  refine gt_X11_16 hC hP wf_X11_309 dX11_foretell_159 ?_
  obtain ⟨hq18, h⟩ := gd_e h
  refine r_nn hq18 ?_
  refine lv_aload_n hx hb dX11_foretell_162 rfl (lv_at hl 0 rfl) ?_
  refine gt_X11_15 hC hP wf_X11_306 dX11_foretell_163 ?_
  refine r_nn hq15 ?_
  refine r_cV hS h (fun r hr => r_runV (As := [.ref (al 1 0)]) (rest := []) hC kV_X11_323 cw_X3_note (rc_X3 hq18 hC hP) hP (tForecast_note x al lv σ17 1 h16 hq15 hq18 r hr) rfl hl.1 ⟨Nat.le_of_ble_eq_true rfl, Nat.le_of_ble_eq_true rfl⟩ ⟨Nat.le_of_ble_eq_true rfl, Nat.le_of_ble_eq_true rfl⟩ (Nat.le_of_ble_eq_true rfl) dX11_foretell_166) (fun σ19 H locs h hP hS => ?_)
  refine r_iinc (v := 1) hC h dX11_foretell_169 hl (k := 3) rfl rfl (by decide) (fun y20 => [(3, .int y20), (0, .ref (al 6 0)), (1, .int x1), (2, .int x2)]) (fun _ => rfl) (fun y20 ls h hl => ?_)
  refine lv_goto (tgt := 88) hx hb dX11_foretell_172 (by decide) ?_
  exact hk88 σ19 x1 x2 y20 H locs ls h hP hS (lv_sub hl [1, 2, 3, 0] rfl)

set_option maxHeartbeats 4000000 in
set_option maxRecDepth 20000 in
theorem wI_foretell_175 {p : Program} {l : Launch} {e : Env} {s : State} {m : MethodId} {args : Array Value} {below : List Frame} {meth : Method} {c : Code} {x : Wx} {al : Nat → Nat → Nat} {lv : Nat → Bool} {res : Int32 × Sg × (Nat → Bool)} {al0 : Nat → Nat → Nat} (h60 : al 6 0 = al0 6 0) (h70 : al 7 0 = al0 7 0) (hC : Cx x p s m args meth c cX11_foretell 5 (some .int) RX11) (σ : Sg) (H : Heap) (locs : List Loc) (ls : Array Slot) (h : fI_foretell_175 lv σ = some res) (hP : Pic x al lv σ H) (hS : va_S (Ab x) s.heap H locs) (hl : lv_has ls 5 [(0, .ref (al 6 0))]) : W p l e (rmm 7 24 5168) s m args below meth c H locs 24 5168 (MQ below (QA x al0 res) args s 24 5168 (Ab x)) (F0 m 175 ls []) := by
  obtain ⟨hx, hb, hml, hown, hts⟩ := hC.1
  unfold fI_foretell_175 at h
  refine lv_aload_n hx hb dX11_foretell_175 rfl (lv_at hl 0 rfl) ?_
  refine lv_aload_n hx hb dX11_foretell_176 rfl (lv_at hl 0 rfl) ?_
  refine gt_X11_16 hC hP wf_X11_309 dX11_foretell_177 ?_
  obtain ⟨hq21, h⟩ := gd_e h
  refine r_nn hq21 ?_
  refine gt_X3_0 hq21 hC hP wf_X11_326 dX11_foretell_180 ?_
  refine r_cI hS h (fun r hr => r_runV (As := [.int (σ 9 0 0)]) (rest := []) hC kV_X11_72 cw_X11_answer (rc_X11 hC hP) hP (tI_answer x al lv σ (σ 9 0 0) r hr) rfl hl.1 ⟨Nat.le_of_ble_eq_true rfl, Nat.le_of_ble_eq_true rfl⟩ ⟨Nat.le_of_ble_eq_true rfl, Nat.le_of_ble_eq_true rfl⟩ (Nat.le_of_ble_eq_true rfl) dX11_foretell_183) (fun y22 σ23 H locs h hP hS => ?_)
  exact r_retA hC h60 h70 hP hS rfl h dX11_foretell_186

set_option maxHeartbeats 4000000 in
set_option maxRecDepth 20000 in
theorem wI_foretell_88_b {p : Program} {l : Launch} {e : Env} {s : State} {m : MethodId} {args : Array Value} {below : List Frame} {meth : Method} {c : Code} {x : Wx} {al : Nat → Nat → Nat} {lv : Nat → Bool} {res : Int32 × Sg × (Nat → Bool)} {al0 : Nat → Nat → Nat} (h60 : al 6 0 = al0 6 0) (h70 : al 7 0 = al0 7 0) (hC : Cx x p s m args meth c cX11_foretell 5 (some .int) RX11) (k88 : Sg → Int32 → Int32 → Int32 → Option (Int32 × Sg × (Nat → Bool))) (hk88 : ∀ (σ : Sg) (x1 : Int32) (x2 : Int32) (x3 : Int32) (H : Heap) (locs : List Loc) (ls : Array Slot), k88 σ x1 x2 x3 = some res → Pic x al lv σ H → va_S (Ab x) s.heap H locs → lv_has ls 5 [(0, .ref (al 6 0)), (1, .int x1), (2, .int x2), (3, .int x3)] → W p l e (rmm 7 24 5168) s m args below meth c H locs 24 5168 (MQ below (QA x al0 res) args s 24 5168 (Ab x)) (F0 m 88 ls [])) (σ : Sg) (x1 : Int32) (x2 : Int32) (x3 : Int32) (H : Heap) (locs : List Loc) (ls : Array Slot) (h : fI_foretell_88_b lv k88 σ x1 x2 x3 = some res) (hP : Pic x al lv σ H) (hS : va_S (Ab x) s.heap H locs) (hl : lv_has ls 5 [(0, .ref (al 6 0)), (1, .int x1), (2, .int x2), (3, .int x3)]) : W p l e (rmm 7 24 5168) s m args below meth c H locs 24 5168 (MQ below (QA x al0 res) args s 24 5168 (Ab x)) (F0 m 88 ls []) := by
  obtain ⟨hx, hb, hml, hown, hts⟩ := hC.1
  unfold fI_foretell_88_b at h
  refine lv_iload_n hx hb dX11_foretell_88 rfl (lv_at hl 3 rfl) ?_
  refine lv_iload_n hx hb dX11_foretell_89 rfl (lv_at hl 1 rfl) ?_
  refine lv_icmp_ge (tgt := 175) hx hb dX11_foretell_90 (by decide) (fun hc => ?_) (fun hc => ?_)
  · replace h := (br h).1 hc
    exact wI_foretell_175 h60 h70 hC  σ H locs ls h hP hS (lv_sub hl [0] rfl)
  · replace h := (br h).2 hc
    refine lv_aload_n hx hb dX11_foretell_93 rfl (lv_at hl 0 rfl) ?_
    refine gt_X11_15 hC hP wf_X11_306 dX11_foretell_94 ?_
    obtain ⟨hq11, h⟩ := gd_e h
    refine r_nn hq11 ?_
    refine gt_X10_0 (a := 1) h16 hq11 hC hP wf_X11_210 dX11_foretell_97 ?_
    refine lv_sipush (v := 199) hx hb dX11_foretell_100 (by decide) ?_
    refine lv_icmp_ge (tgt := 175) hx hb dX11_foretell_103 (by decide) (fun hc => ?_) (fun hc => ?_)
    · replace h := (br h).1 hc
      exact wI_foretell_175 h60 h70 hC  σ H locs ls h hP hS (lv_sub hl [0] rfl)
    · replace h := (br h).2 hc
      refine lv_aload_n hx hb dX11_foretell_106 rfl (lv_at hl 0 rfl) ?_
      refine gt_X11_15 hC hP wf_X11_306 dX11_foretell_107 ?_
      refine r_nn hq11 ?_
      refine gt_X10_0 (a := 1) h16 hq11 hC hP wf_X11_210 dX11_foretell_110 ?_
      refine lv_iload_n hx hb dX11_foretell_113 rfl (lv_at hl 2 rfl) ?_
      refine lv_isub hx hb dX11_foretell_114 ?_
      refine r_lt h (fun y12 h => ?_)
      refine lv_istore (lv' := [(4, .int y12), (0, .ref (al 6 0)), (1, .int x1), (2, .int x2), (3, .int x3)]) hx hb dX11_foretell_115 hl (by decide) rfl (fun ls hl => ?_)
      refine lv_aload_n hx hb dX11_foretell_117 rfl (lv_at hl 1 rfl) ?_
      refine gt_X11_2 hC hP wf_X11_26 dX11_foretell_118 ?_
      refine lv_aload_n hx hb dX11_foretell_121 rfl (lv_at hl 1 rfl) ?_
      refine gt_X11_15 hC hP wf_X11_306 dX11_foretell_122 ?_
      refine r_nn hq11 ?_
      refine lv_aload_n hx hb dX11_foretell_125 rfl (lv_at hl 1 rfl) ?_
      refine gt_X11_1 hC hP wf_X11_19 dX11_foretell_126 ?_
      refine lv_iload hx hb dX11_foretell_129 (lv_at hl 0 rfl) ?_
      refine lv_if_ge (tgt := 138) hx hb dX11_foretell_131 (by decide) (fun hc => ?_) (fun hc => ?_)
      · replace h := (br h).1 hc
        refine lv_iload hx hb dX11_foretell_138 (lv_at hl 0 rfl) ?_
        exact wI_foretell_140 h60 h70 hC k88 hk88 σ x1 x2 x3 y12 H locs ls hq11 h hP hS (lv_sub hl [1, 2, 3, 4] rfl)
      · replace h := (br h).2 hc
        refine lv_iconst (v := 0) hx hb dX11_foretell_134 (by decide) ?_
        refine lv_goto (tgt := 140) hx hb dX11_foretell_135 (by decide) ?_
        exact wI_foretell_140 h60 h70 hC k88 hk88 σ x1 x2 x3 0 H locs ls hq11 h hP hS (lv_sub hl [1, 2, 3, 4] rfl)

set_option maxHeartbeats 4000000 in
set_option maxRecDepth 20000 in
theorem wI_foretell_88 {p : Program} {l : Launch} {e : Env} {s : State} {m : MethodId} {args : Array Value} {below : List Frame} {meth : Method} {c : Code} {x : Wx} {al : Nat → Nat → Nat} {lv : Nat → Bool} {res : Int32 × Sg × (Nat → Bool)} {al0 : Nat → Nat → Nat} (h60 : al 6 0 = al0 6 0) (h70 : al 7 0 = al0 7 0) (hC : Cx x p s m args meth c cX11_foretell 5 (some .int) RX11) (n : Nat) (σ : Sg) (x1 : Int32) (x2 : Int32) (x3 : Int32) (H : Heap) (locs : List Loc) (ls : Array Slot) (h : fI_foretell_88 lv n σ x1 x2 x3 = some res) (hP : Pic x al lv σ H) (hS : va_S (Ab x) s.heap H locs) (hl : lv_has ls 5 [(0, .ref (al 6 0)), (1, .int x1), (2, .int x2), (3, .int x3)]) : W p l e (rmm 7 24 5168) s m args below meth c H locs 24 5168 (MQ below (QA x al0 res) args s 24 5168 (Ab x)) (F0 m 88 ls []) := by
  induction n generalizing σ x1 x2 x3 H locs ls with
  | zero => exact nomatch h
  | succ n ih => exact wI_foretell_88_b h60 h70 hC  _ (fun σ x1 x2 x3 H locs ls h hP hS hl => ih σ x1 x2 x3 H locs ls h hP hS hl) σ x1 x2 x3 H locs ls h hP hS hl
set_option maxHeartbeats 4000000 in
set_option maxRecDepth 20000 in
theorem wI_foretell_64 {p : Program} {l : Launch} {e : Env} {s : State} {m : MethodId} {args : Array Value} {below : List Frame} {meth : Method} {c : Code} {x : Wx} {al : Nat → Nat → Nat} {lv : Nat → Bool} {res : Int32 × Sg × (Nat → Bool)} {al0 : Nat → Nat → Nat} (h60 : al 6 0 = al0 6 0) (h70 : al 7 0 = al0 7 0) (hC : Cx x p s m args meth c cX11_foretell 5 (some .int) RX11) (σ : Sg) (x1 : Int32) (x2 : Int32) (H : Heap) (locs : List Loc) (ls : Array Slot) (h : fI_foretell_64 lv σ x1 x2 = some res) (hP : Pic x al lv σ H) (hS : va_S (Ab x) s.heap H locs) (hl : lv_has ls 5 [(0, .ref (al 6 0)), (1, .int x1), (2, .int x2)]) : W p l e (rmm 7 24 5168) s m args below meth c H locs 24 5168 (MQ below (QA x al0 res) args s 24 5168 (Ab x)) (F0 m 64 ls []) := by
  obtain ⟨hx, hb, hml, hown, hts⟩ := hC.1
  unfold fI_foretell_64 at h
  refine lv_aload_n hx hb dX11_foretell_64 rfl (lv_at hl 0 rfl) ?_
  refine gt_X11_15 hC hP wf_X11_306 dX11_foretell_65 ?_
  obtain ⟨hq7, h⟩ := gd_e h
  refine r_nn hq7 ?_
  refine lv_aload_n hx hb dX11_foretell_68 rfl (lv_at hl 0 rfl) ?_
  refine gt_X11_0 hC hP wf_X11_12 dX11_foretell_69 ?_
  refine r_cV hS h (fun r hr => r_runV (As := [.ref (al 0 0)]) (rest := []) hC kV_X11_316 cw_X10_copyFrom (rc_X10 (a := 1) h16 hq7 hC hP) hP (tStore_copyFrom x al lv σ 1 h16 hq7 0 h06 hP.l0 r hr) rfl hl.1 ⟨Nat.le_of_ble_eq_true rfl, Nat.le_of_ble_eq_true rfl⟩ ⟨Nat.le_of_ble_eq_true rfl, Nat.le_of_ble_eq_true rfl⟩ (Nat.le_of_ble_eq_true rfl) dX11_foretell_72) (fun σ8 H locs h hP hS => ?_)
  refine lv_aload_n hx hb dX11_foretell_75 rfl (lv_at hl 0 rfl) ?_
  refine gt_X11_16 hC hP wf_X11_309 dX11_foretell_76 ?_
  obtain ⟨hq9, h⟩ := gd_e h
  refine r_nn hq9 ?_
  refine lv_aload_n hx hb dX11_foretell_79 rfl (lv_at hl 0 rfl) ?_
  refine gt_X11_15 hC hP wf_X11_306 dX11_foretell_80 ?_
  refine r_nn hq7 ?_
  refine r_cV hS h (fun r hr => r_runV (As := [.ref (al 1 0)]) (rest := []) hC kV_X11_320 cw_X3_begin (rc_X3 hq9 hC hP) hP (tForecast_begin x al lv σ8 1 h16 hq7 hq9 r hr) rfl hl.1 ⟨Nat.le_of_ble_eq_true rfl, Nat.le_of_ble_eq_true rfl⟩ ⟨Nat.le_of_ble_eq_true rfl, Nat.le_of_ble_eq_true rfl⟩ (Nat.le_of_ble_eq_true rfl) dX11_foretell_83) (fun σ10 H locs h hP hS => ?_)
  refine lv_iconst (v := 0) hx hb dX11_foretell_86 (by decide) ?_
  refine lv_istore_n (lv' := [(3, .int 0), (0, .ref (al 6 0)), (1, .int x1), (2, .int x2)]) hx hb dX11_foretell_87 rfl hl (by decide) rfl (fun ls hl => ?_)
  exact wI_foretell_88 h60 h70 hC  FU σ10 x1 x2 0 H locs ls h hP hS (lv_sub hl [1, 2, 3, 0] rfl)

set_option maxHeartbeats 4000000 in
set_option maxRecDepth 20000 in
theorem wI_foretell_46 {p : Program} {l : Launch} {e : Env} {s : State} {m : MethodId} {args : Array Value} {below : List Frame} {meth : Method} {c : Code} {x : Wx} {al : Nat → Nat → Nat} {lv : Nat → Bool} {res : Int32 × Sg × (Nat → Bool)} {al0 : Nat → Nat → Nat} (h60 : al 6 0 = al0 6 0) (h70 : al 7 0 = al0 7 0) (hC : Cx x p s m args meth c cX11_foretell 5 (some .int) RX11) (σ : Sg) (x1 : Int32) (x2 : Int32) (H : Heap) (locs : List Loc) (ls : Array Slot) (h : fI_foretell_46 lv σ x1 x2 = some res) (hP : Pic x al lv σ H) (hS : va_S (Ab x) s.heap H locs) (hl : lv_has ls 5 [(0, .ref (al 6 0)), (1, .int x1), (2, .int x2)]) : W p l e (rmm 7 24 5168) s m args below meth c H locs 22 3364 (MQ below (QA x al0 res) args s 24 5168 (Ab x)) (F0 m 46 ls []) := by
  obtain ⟨hx, hb, hml, hown, hts⟩ := hC.1
  unfold fI_foretell_46 at h
  refine lv_aload_n hx hb dX11_foretell_46 rfl (lv_at hl 0 rfl) ?_
  refine gt_X11_16 hC hP wf_X11_309 dX11_foretell_47 ?_
  refine r_ifnn (tgt := 64) hC h dX11_foretell_50 (by decide) (fun hq5 h => ?_) (fun hq5f h => ?_)
  · refine W.widen (k := 24) (n := 5168) (Nat.le_of_ble_eq_true rfl) (Nat.le_of_ble_eq_true rfl) ?_
    exact wI_foretell_64 h60 h70 hC  σ x1 x2 H locs ls h hP hS (lv_sub hl [0, 1, 2] rfl)
  · refine lv_aload_n hx hb dX11_foretell_53 rfl (lv_at hl 0 rfl) ?_
    refine mk_F hC hP hS hl.1 hq5f wn_X11_313 (by decide +kernel) wf_X11_309 ⟨Nat.le_of_ble_eq_true rfl, Nat.le_of_ble_eq_true rfl⟩ ⟨Nat.le_of_ble_eq_true rfl, Nat.le_of_ble_eq_true rfl⟩ (Nat.le_of_ble_eq_true rfl) dX11_foretell_54 dX11_foretell_57 dX11_foretell_58 dX11_foretell_61 h (fun σ6 lv al H locs h e60 e70 hq9 hmo hP hS => ?_)
    rw [← e60] at hl
    replace h60 := e60.trans h60
    replace h70 := e70.trans h70
    refine W.widen (k := 24) (n := 5168) (Nat.le_of_ble_eq_true rfl) (Nat.le_of_ble_eq_true rfl) ?_
    exact wI_foretell_64 h60 h70 hC  σ6 x1 x2 H locs ls h hP hS (lv_sub hl [0, 1, 2] rfl)

set_option maxHeartbeats 4000000 in
set_option maxRecDepth 20000 in
theorem wI_foretell_0 {p : Program} {l : Launch} {e : Env} {s : State} {m : MethodId} {args : Array Value} {below : List Frame} {meth : Method} {c : Code} {x : Wx} {al : Nat → Nat → Nat} {lv : Nat → Bool} {res : Int32 × Sg × (Nat → Bool)} {al0 : Nat → Nat → Nat} (h60 : al 6 0 = al0 6 0) (h70 : al 7 0 = al0 7 0) (hC : Cx x p s m args meth c cX11_foretell 5 (some .int) RX11) (σ : Sg) (v1 : Int32) (v2 : Int32) (H : Heap) (locs : List Loc) (ls : Array Slot) (h : fI_foretell_0 lv σ v1 v2 = some res) (hP : Pic x al lv σ H) (hS : va_S (Ab x) s.heap H locs) (hl : lv_has ls 5 [(0, .ref (al 6 0)), (1, .int v1), (2, .int v2)]) : W p l e (rmm 7 24 5168) s m args below meth c H locs 0 0 (MQ below (QA x al0 res) args s 24 5168 (Ab x)) (F0 m 0 ls []) := by
  obtain ⟨hx, hb, hml, hown, hts⟩ := hC.1
  unfold fI_foretell_0 at h
  refine lv_iload_n hx hb dX11_foretell_0 rfl (lv_at hl 1 rfl) ?_
  refine lv_iconst (v := 1) hx hb dX11_foretell_1 (by decide) ?_
  refine lv_sipush (v := 200) hx hb dX11_foretell_2 (by decide) ?_
  refine r_cP hS h (fun r hr => r_runS (As := [.int v1, .int 1, .int 200]) (rest := []) hC kS_X11_68 cw_X11_within hP (tI_within x al lv σ v1 1 200 r hr) rfl hl.1 ⟨Nat.le_of_ble_eq_true rfl, Nat.le_of_ble_eq_true rfl⟩ ⟨Nat.le_of_ble_eq_true rfl, Nat.le_of_ble_eq_true rfl⟩ (Nat.le_of_ble_eq_true rfl) dX11_foretell_5) (fun y1 H locs h hP hS => ?_)
  refine lv_if_eq (tgt := 22) hx hb dX11_foretell_8 (by decide) (fun hc => ?_) (fun hc => ?_)
  · replace h := (br h).1 hc
    exact wI_foretell_22 h60 h70 hC  σ H locs ls h hP hS (lv_sub hl [0] rfl)
  · replace h := (br h).2 hc
    refine lv_iload_n hx hb dX11_foretell_11 rfl (lv_at hl 2 rfl) ?_
    refine lv_iconst (v := 0) hx hb dX11_foretell_12 (by decide) ?_
    refine lv_sipush (v := 199) hx hb dX11_foretell_13 (by decide) ?_
    refine r_cP hS h (fun r hr => r_runS (As := [.int v2, .int 0, .int 199]) (rest := []) hC kS_X11_68 cw_X11_within hP (tI_within x al lv σ v2 0 199 r hr) rfl hl.1 ⟨Nat.le_of_ble_eq_true rfl, Nat.le_of_ble_eq_true rfl⟩ ⟨Nat.le_of_ble_eq_true rfl, Nat.le_of_ble_eq_true rfl⟩ (Nat.le_of_ble_eq_true rfl) dX11_foretell_16) (fun y2 H locs h hP hS => ?_)
    refine lv_if_ne (tgt := 28) hx hb dX11_foretell_19 (by decide) (fun hc => ?_) (fun hc => ?_)
    · replace h := (br h).2 hc
      refine lv_aload_n hx hb dX11_foretell_28 rfl (lv_at hl 0 rfl) ?_
      refine gt_X11_15 hC hP wf_X11_306 dX11_foretell_29 ?_
      refine r_ifnn (tgt := 46) hC h dX11_foretell_32 (by decide) (fun hq3 h => ?_) (fun hq3f h => ?_)
      · refine W.widen (k := 22) (n := 3364) (Nat.le_of_ble_eq_true rfl) (Nat.le_of_ble_eq_true rfl) ?_
        exact wI_foretell_46 h60 h70 hC  σ v1 v2 H locs ls h hP hS (lv_sub hl [0, 1, 2] rfl)
      · refine lv_aload_n hx hb dX11_foretell_35 rfl (lv_at hl 0 rfl) ?_
        refine mk_S hC hP hS hl.1 hq3f wn_X11_9 (by decide +kernel) wf_X11_306 ⟨Nat.le_of_ble_eq_true rfl, Nat.le_of_ble_eq_true rfl⟩ ⟨Nat.le_of_ble_eq_true rfl, Nat.le_of_ble_eq_true rfl⟩ (Nat.le_of_ble_eq_true rfl) dX11_foretell_36 dX11_foretell_39 dX11_foretell_40 dX11_foretell_43 h (fun σ4 lv al H locs h e60 e70 hq1 hmo hP hS => ?_)
        rw [← e60] at hl
        replace h60 := e60.trans h60
        replace h70 := e70.trans h70
        refine W.widen (k := 22) (n := 3364) (Nat.le_of_ble_eq_true rfl) (Nat.le_of_ble_eq_true rfl) ?_
        exact wI_foretell_46 h60 h70 hC  σ4 v1 v2 H locs ls h hP hS (lv_sub hl [0, 1, 2] rfl)
    · replace h := (br h).1 hc
      exact wI_foretell_22 h60 h70 hC  σ H locs ls h hP hS (lv_sub hl [0] rfl)

set_option maxRecDepth 20000 in
theorem tI_foretell {l : Launch} (x : Wx) (al : Nat → Nat → Nat) (lv : Nat → Bool) (σ : Sg) (v1 : Int32) (v2 : Int32) (res : Int32 × Sg × (Nat → Bool)) (h : fI_foretell lv σ v1 v2 = some res) : Met l yX11_foretell (Cond.code yX11_foretell cX11_foretell 5 (some .int) :: lwg) (rmm 7 24 5168) (va_Pc [.ref (al 6 0), .int v1, .int v2] (Wd x al lv σ)) (QA x al res) 24 5168 (Ab x) := by
  refine met_W (by decide) (Nat.le_of_ble_eq_true rfl) rfl (fun p e s m args below meth c ls hC hP hS hl => ?_)
  exact wI_foretell_0 rfl rfl hC σ v1 v2 _ _ ls h hP hS hl
set_option maxHeartbeats 4000000 in
set_option maxRecDepth 20000 in
theorem wI_pack_67 {p : Program} {l : Launch} {e : Env} {s : State} {m : MethodId} {args : Array Value} {below : List Frame} {meth : Method} {c : Code} {x : Wx} {al : Nat → Nat → Nat} {lv : Nat → Bool} {res : Int32 × Sg × (Nat → Bool)} {al0 : Nat → Nat → Nat} (h60 : al 6 0 = al0 6 0) (h70 : al 7 0 = al0 7 0) (hC : Cx x p s m args meth c cX11_pack 2 (some .int) RX11) (σ : Sg) (H : Heap) (locs : List Loc) (ls : Array Slot) (h : fI_pack_67 lv σ = some res) (hP : Pic x al lv σ H) (hS : va_S (Ab x) s.heap H locs) (hl : lv_has ls 2 [(0, .ref (al 6 0))]) : W p l e (rmm 62 3 367) s m args below meth c H locs 0 0 (MQ below (QA x al0 res) args s 3 367 (Ab x)) (F0 m 67 ls []) := by
  obtain ⟨hx, hb, hml, hown, hts⟩ := hC.1
  unfold fI_pack_67 at h
  refine lv_aload_n hx hb dX11_pack_67 rfl (lv_at hl 0 rfl) ?_
  refine lv_bipush (v := (-6)) hx hb dX11_pack_68 (by decide) ?_
  refine r_cI hS h (fun r hr => r_runV (As := [.int ((-6))]) (rest := []) hC kV_X11_72 cw_X11_answer (rc_X11 hC hP) hP (tI_answer x al lv σ ((-6)) r hr) rfl hl.1 ⟨Nat.le_of_ble_eq_true rfl, Nat.le_of_ble_eq_true rfl⟩ ⟨Nat.le_of_ble_eq_true rfl, Nat.le_of_ble_eq_true rfl⟩ (Nat.le_of_ble_eq_true rfl) dX11_pack_70) (fun y17 σ18 H locs h hP hS => ?_)
  refine W.widen (k := 3) (n := 367) (Nat.le_of_ble_eq_true rfl) (Nat.le_of_ble_eq_true rfl) ?_
  exact r_retA hC h60 h70 hP hS rfl h dX11_pack_73

set_option maxHeartbeats 4000000 in
set_option maxRecDepth 20000 in
theorem wI_pack_112 {p : Program} {l : Launch} {e : Env} {s : State} {m : MethodId} {args : Array Value} {below : List Frame} {meth : Method} {c : Code} {x : Wx} {al : Nat → Nat → Nat} {lv : Nat → Bool} {res : Int32 × Sg × (Nat → Bool)} {al0 : Nat → Nat → Nat} (h60 : al 6 0 = al0 6 0) (h70 : al 7 0 = al0 7 0) (hC : Cx x p s m args meth c cX11_pack 2 (some .int) RX11) (σ : Sg) (H : Heap) (locs : List Loc) (ls : Array Slot) (h : fI_pack_112 lv σ = some res) (hP : Pic x al lv σ H) (hS : va_S (Ab x) s.heap H locs) (hl : lv_has ls 2 [(0, .ref (al 6 0))]) : W p l e (rmm 62 3 367) s m args below meth c H locs 0 0 (MQ below (QA x al0 res) args s 3 367 (Ab x)) (F0 m 112 ls []) := by
  obtain ⟨hx, hb, hml, hown, hts⟩ := hC.1
  unfold fI_pack_112 at h
  refine lv_aload_n hx hb dX11_pack_112 rfl (lv_at hl 0 rfl) ?_
  refine lv_bipush (v := (-7)) hx hb dX11_pack_113 (by decide) ?_
  refine r_cI hS h (fun r hr => r_runV (As := [.int ((-7))]) (rest := []) hC kV_X11_72 cw_X11_answer (rc_X11 hC hP) hP (tI_answer x al lv σ ((-7)) r hr) rfl hl.1 ⟨Nat.le_of_ble_eq_true rfl, Nat.le_of_ble_eq_true rfl⟩ ⟨Nat.le_of_ble_eq_true rfl, Nat.le_of_ble_eq_true rfl⟩ (Nat.le_of_ble_eq_true rfl) dX11_pack_115) (fun y15 σ16 H locs h hP hS => ?_)
  refine W.widen (k := 3) (n := 367) (Nat.le_of_ble_eq_true rfl) (Nat.le_of_ble_eq_true rfl) ?_
  exact r_retA hC h60 h70 hP hS rfl h dX11_pack_118

set_option maxHeartbeats 4000000 in
set_option maxRecDepth 20000 in
theorem wI_pack_137 {p : Program} {l : Launch} {e : Env} {s : State} {m : MethodId} {args : Array Value} {below : List Frame} {meth : Method} {c : Code} {x : Wx} {al : Nat → Nat → Nat} {lv : Nat → Bool} {res : Int32 × Sg × (Nat → Bool)} {al0 : Nat → Nat → Nat} (h60 : al 6 0 = al0 6 0) (h70 : al 7 0 = al0 7 0) (hC : Cx x p s m args meth c cX11_pack 2 (some .int) RX11) (σ : Sg) (x1 : Int32) (H : Heap) (locs : List Loc) (ls : Array Slot) (h : fI_pack_137 lv σ x1 = some res) (hP : Pic x al lv σ H) (hS : va_S (Ab x) s.heap H locs) (hl : lv_has ls 2 [(0, .ref (al 6 0)), (1, .int x1)]) : W p l e (rmm 62 3 367) s m args below meth c H locs 3 367 (MQ below (QA x al0 res) args s 3 367 (Ab x)) (F0 m 137 ls []) := by
  obtain ⟨hx, hb, hml, hown, hts⟩ := hC.1
  unfold fI_pack_137 at h
  refine lv_aload_n hx hb dX11_pack_137 rfl (lv_at hl 0 rfl) ?_
  refine gt_X11_18 hC hP wf_X11_347 dX11_pack_138 ?_
  obtain ⟨hq8, h⟩ := gd_e h
  refine r_nn hq8 ?_
  refine lv_aload_n hx hb dX11_pack_141 rfl (lv_at hl 0 rfl) ?_
  refine gt_X11_0 hC hP wf_X11_12 dX11_pack_142 ?_
  refine gt_X10_5 (a := 0) h06 hP.l0 hC hP wf_X11_58 dX11_pack_145 ?_
  refine lv_iload_n hx hb dX11_pack_148 rfl (lv_at hl 1 rfl) ?_
  refine lv_aload_n hx hb dX11_pack_149 rfl (lv_at hl 0 rfl) ?_
  refine gt_X11_4 hC hP wf_X11_40 dX11_pack_150 ?_
  refine gt_X4_0 hC hP wf_X11_265 dX11_pack_153 ?_
  refine r_cV hS h (fun r hr => r_runV (As := [.ref (al 0 1), .int x1, .int (σ 6 4 0)]) (rest := []) hC kV_X11_354 cw_X7_choose (rc_X7 hq8 hC hP) hP (tPacker_choose x al lv σ 0 h06 hP.l0 hq8 x1 (σ 6 4 0) r hr) rfl hl.1 ⟨Nat.le_of_ble_eq_true rfl, Nat.le_of_ble_eq_true rfl⟩ ⟨Nat.le_of_ble_eq_true rfl, Nat.le_of_ble_eq_true rfl⟩ (Nat.le_of_ble_eq_true rfl) dX11_pack_156) (fun σ9 H locs h hP hS => ?_)
  refine lv_aload_n hx hb dX11_pack_159 rfl (lv_at hl 0 rfl) ?_
  refine lv_iload_n hx hb dX11_pack_160 rfl (lv_at hl 1 rfl) ?_
  refine r_cV hS h (fun r hr => r_runV (As := [.int x1]) (rest := []) hC kV_X11_358 cw_X11_cutHeapInto (rc_X11 hC hP) hP (tI_cutHeapInto x al lv σ9 x1 r hr) rfl hl.1 ⟨Nat.le_of_ble_eq_true rfl, Nat.le_of_ble_eq_true rfl⟩ ⟨Nat.le_of_ble_eq_true rfl, Nat.le_of_ble_eq_true rfl⟩ (Nat.le_of_ble_eq_true rfl) dX11_pack_161) (fun σ10 H locs h hP hS => ?_)
  refine lv_aload_n hx hb dX11_pack_164 rfl (lv_at hl 0 rfl) ?_
  refine lv_aload_n hx hb dX11_pack_165 rfl (lv_at hl 0 rfl) ?_
  refine gt_X11_2 hC hP wf_X11_26 dX11_pack_166 ?_
  refine lv_aload_n hx hb dX11_pack_169 rfl (lv_at hl 0 rfl) ?_
  refine gt_X11_0 hC hP wf_X11_12 dX11_pack_170 ?_
  refine lv_iload_n hx hb dX11_pack_173 rfl (lv_at hl 1 rfl) ?_
  refine r_cI hS h (fun r hr => r_runV (As := [.ref (al 0 0), .int x1]) (rest := [.ref (al 6 0)]) hC kV_X11_119 cw_X6_airSidesIn (rc_X6 hC hP) hP (tMelting_airSidesIn x al lv σ10 0 h06 hP.l0 x1 r hr) rfl hl.1 ⟨Nat.le_of_ble_eq_true rfl, Nat.le_of_ble_eq_true rfl⟩ ⟨Nat.le_of_ble_eq_true rfl, Nat.le_of_ble_eq_true rfl⟩ (Nat.le_of_ble_eq_true rfl) dX11_pack_174) (fun y11 σ12 H locs h hP hS => ?_)
  refine r_cI hS h (fun r hr => r_runV (As := [.int y11]) (rest := []) hC kV_X11_72 cw_X11_answer (rc_X11 hC hP) hP (tI_answer x al lv σ12 y11 r hr) rfl hl.1 ⟨Nat.le_of_ble_eq_true rfl, Nat.le_of_ble_eq_true rfl⟩ ⟨Nat.le_of_ble_eq_true rfl, Nat.le_of_ble_eq_true rfl⟩ (Nat.le_of_ble_eq_true rfl) dX11_pack_177) (fun y13 σ14 H locs h hP hS => ?_)
  exact r_retA hC h60 h70 hP hS rfl h dX11_pack_180

set_option maxHeartbeats 4000000 in
set_option maxRecDepth 20000 in
theorem wI_pack_0 {p : Program} {l : Launch} {e : Env} {s : State} {m : MethodId} {args : Array Value} {below : List Frame} {meth : Method} {c : Code} {x : Wx} {al : Nat → Nat → Nat} {lv : Nat → Bool} {res : Int32 × Sg × (Nat → Bool)} {al0 : Nat → Nat → Nat} (h60 : al 6 0 = al0 6 0) (h70 : al 7 0 = al0 7 0) (hC : Cx x p s m args meth c cX11_pack 2 (some .int) RX11) (σ : Sg) (v1 : Int32) (H : Heap) (locs : List Loc) (ls : Array Slot) (h : fI_pack_0 lv σ v1 = some res) (hP : Pic x al lv σ H) (hS : va_S (Ab x) s.heap H locs) (hl : lv_has ls 2 [(0, .ref (al 6 0)), (1, .int v1)]) : W p l e (rmm 62 3 367) s m args below meth c H locs 0 0 (MQ below (QA x al0 res) args s 3 367 (Ab x)) (F0 m 0 ls []) := by
  obtain ⟨hx, hb, hml, hown, hts⟩ := hC.1
  unfold fI_pack_0 at h
  refine lv_aload_n hx hb dX11_pack_0 rfl (lv_at hl 0 rfl) ?_
  refine gt_X11_0 hC hP wf_X11_12 dX11_pack_1 ?_
  refine gt_X10_5 (a := 0) h06 hP.l0 hC hP wf_X11_58 dX11_pack_4 ?_
  refine lv_iload_n hx hb dX11_pack_7 rfl (lv_at hl 1 rfl) ?_
  refine r_cP hS h (fun r hr => r_runV (As := [.int v1]) (rest := []) hC kV_X11_62 cw_X8_has (rc_X8 (a := 0) h06 hP.l0 hC hP) hP (tRooms_has x al lv σ 0 h06 hP.l0 v1 r hr) rfl hl.1 ⟨Nat.le_of_ble_eq_true rfl, Nat.le_of_ble_eq_true rfl⟩ ⟨Nat.le_of_ble_eq_true rfl, Nat.le_of_ble_eq_true rfl⟩ (Nat.le_of_ble_eq_true rfl) dX11_pack_8) (fun y1 H locs h hP hS => ?_)
  refine lv_if_ne (tgt := 21) hx hb dX11_pack_11 (by decide) (fun hc => ?_) (fun hc => ?_)
  · replace h := (br h).2 hc
    refine lv_aload_n hx hb dX11_pack_21 rfl (lv_at hl 0 rfl) ?_
    refine gt_X11_4 hC hP wf_X11_40 dX11_pack_22 ?_
    refine gt_X4_0 hC hP wf_X11_265 dX11_pack_25 ?_
    refine lv_aload_n hx hb dX11_pack_28 rfl (lv_at hl 0 rfl) ?_
    refine gt_X11_0 hC hP wf_X11_12 dX11_pack_29 ?_
    refine gt_X10_5 (a := 0) h06 hP.l0 hC hP wf_X11_58 dX11_pack_32 ?_
    refine gt_X8_7 (a := 0) h06 hP.l0 hC hP wf_X11_338 dX11_pack_35 ?_
    refine lv_iload_n hx hb dX11_pack_38 rfl (lv_at hl 1 rfl) ?_
    refine r_iald hC hP (aS_8 (a := 0) h06 hP.l0) h dX11_pack_39 (fun h => ?_)
    refine lv_icmp_gt (tgt := 67) hx hb dX11_pack_40 (by decide) (fun hc => ?_) (fun hc => ?_)
    · replace h := (br h).1 hc
      exact wI_pack_67 h60 h70 hC  σ H locs ls h hP hS (lv_sub hl [0] rfl)
    · replace h := (br h).2 hc
      refine lv_aload_n hx hb dX11_pack_43 rfl (lv_at hl 0 rfl) ?_
      refine gt_X11_4 hC hP wf_X11_40 dX11_pack_44 ?_
      refine gt_X4_0 hC hP wf_X11_265 dX11_pack_47 ?_
      refine lv_sipush (v := 300) hx hb dX11_pack_50 (by decide) ?_
      refine lv_aload_n hx hb dX11_pack_53 rfl (lv_at hl 0 rfl) ?_
      refine gt_X11_0 hC hP wf_X11_12 dX11_pack_54 ?_
      refine gt_X10_6 (a := 0) h06 hP.l0 hC hP wf_X11_147 dX11_pack_57 ?_
      refine gt_X0_0 (a := 0) h06 hP.l0 hC hP wf_X11_151 dX11_pack_60 ?_
      refine lv_isub hx hb dX11_pack_63 ?_
      refine lv_icmp_le (tgt := 74) hx hb dX11_pack_64 (by decide) (fun hc => ?_) (fun hc => ?_)
      · replace h := (br h).1 hc
        refine lv_aload_n hx hb dX11_pack_74 rfl (lv_at hl 0 rfl) ?_
        refine gt_X11_4 hC hP wf_X11_40 dX11_pack_75 ?_
        refine gt_X4_0 hC hP wf_X11_265 dX11_pack_78 ?_
        refine lv_if_eq (tgt := 112) hx hb dX11_pack_81 (by decide) (fun hc => ?_) (fun hc => ?_)
        · replace h := (br h).1 hc
          exact wI_pack_112 h60 h70 hC  σ H locs ls h hP hS (lv_sub hl [0] rfl)
        · replace h := (br h).2 hc
          refine lv_aload_n hx hb dX11_pack_84 rfl (lv_at hl 0 rfl) ?_
          refine gt_X11_0 hC hP wf_X11_12 dX11_pack_85 ?_
          refine gt_X10_5 (a := 0) h06 hP.l0 hC hP wf_X11_58 dX11_pack_88 ?_
          refine lv_iload_n hx hb dX11_pack_91 rfl (lv_at hl 1 rfl) ?_
          refine r_cP hS h (fun r hr => r_runV (As := [.int v1]) (rest := []) hC kV_X11_341 cw_X8_isAllLaid (rc_X8 (a := 0) h06 hP.l0 hC hP) hP (tRooms_isAllLaid x al lv σ 0 h06 hP.l0 v1 r hr) rfl hl.1 ⟨Nat.le_of_ble_eq_true rfl, Nat.le_of_ble_eq_true rfl⟩ ⟨Nat.le_of_ble_eq_true rfl, Nat.le_of_ble_eq_true rfl⟩ (Nat.le_of_ble_eq_true rfl) dX11_pack_92) (fun y2 H locs h hP hS => ?_)
          refine lv_if_eq (tgt := 112) hx hb dX11_pack_95 (by decide) (fun hc => ?_) (fun hc => ?_)
          · replace h := (br h).1 hc
            exact wI_pack_112 h60 h70 hC  σ H locs ls h hP hS (lv_sub hl [0] rfl)
          · replace h := (br h).2 hc
            refine lv_aload_n hx hb dX11_pack_98 rfl (lv_at hl 0 rfl) ?_
            refine gt_X11_0 hC hP wf_X11_12 dX11_pack_99 ?_
            refine gt_X10_5 (a := 0) h06 hP.l0 hC hP wf_X11_58 dX11_pack_102 ?_
            refine lv_iload_n hx hb dX11_pack_105 rfl (lv_at hl 1 rfl) ?_
            refine r_cP hS h (fun r hr => r_runV (As := [.int v1]) (rest := []) hC kV_X11_344 cw_X8_isBare (rc_X8 (a := 0) h06 hP.l0 hC hP) hP (tRooms_isBare x al lv σ 0 h06 hP.l0 v1 r hr) rfl hl.1 ⟨Nat.le_of_ble_eq_true rfl, Nat.le_of_ble_eq_true rfl⟩ ⟨Nat.le_of_ble_eq_true rfl, Nat.le_of_ble_eq_true rfl⟩ (Nat.le_of_ble_eq_true rfl) dX11_pack_106) (fun y3 H locs h hP hS => ?_)
            refine lv_if_ne (tgt := 119) hx hb dX11_pack_109 (by decide) (fun hc => ?_) (fun hc => ?_)
            · replace h := (br h).2 hc
              refine lv_aload_n hx hb dX11_pack_119 rfl (lv_at hl 0 rfl) ?_
              refine gt_X11_18 hC hP wf_X11_347 dX11_pack_120 ?_
              refine r_ifnn (tgt := 137) hC h dX11_pack_123 (by decide) (fun hq4 h => ?_) (fun hq4f h => ?_)
              · refine W.widen (k := 3) (n := 367) (Nat.le_of_ble_eq_true rfl) (Nat.le_of_ble_eq_true rfl) ?_
                exact wI_pack_137 h60 h70 hC  σ v1 H locs ls h hP hS (lv_sub hl [0, 1] rfl)
              · refine lv_aload_n hx hb dX11_pack_126 rfl (lv_at hl 0 rfl) ?_
                refine mk_P hC hP hS hl.1 hq4f wn_X11_351 (by decide +kernel) wf_X11_347 ⟨Nat.le_of_ble_eq_true rfl, Nat.le_of_ble_eq_true rfl⟩ ⟨Nat.le_of_ble_eq_true rfl, Nat.le_of_ble_eq_true rfl⟩ (Nat.le_of_ble_eq_true rfl) dX11_pack_127 dX11_pack_130 dX11_pack_131 dX11_pack_134 h (fun σ5 lv al H locs h e60 e70 hq10 hmo hP hS => ?_)
                rw [← e60] at hl
                replace h60 := e60.trans h60
                replace h70 := e70.trans h70
                refine W.widen (k := 3) (n := 367) (Nat.le_of_ble_eq_true rfl) (Nat.le_of_ble_eq_true rfl) ?_
                exact wI_pack_137 h60 h70 hC  σ5 v1 H locs ls h hP hS (lv_sub hl [0, 1] rfl)
            · replace h := (br h).1 hc
              exact wI_pack_112 h60 h70 hC  σ H locs ls h hP hS (lv_sub hl [0] rfl)
      · replace h := (br h).2 hc
        exact wI_pack_67 h60 h70 hC  σ H locs ls h hP hS (lv_sub hl [0] rfl)
  · replace h := (br h).1 hc
    refine lv_aload_n hx hb dX11_pack_14 rfl (lv_at hl 0 rfl) ?_
    refine lv_bipush (v := (-2)) hx hb dX11_pack_15 (by decide) ?_
    refine r_cI hS h (fun r hr => r_runV (As := [.int ((-2))]) (rest := []) hC kV_X11_72 cw_X11_answer (rc_X11 hC hP) hP (tI_answer x al lv σ ((-2)) r hr) rfl hl.1 ⟨Nat.le_of_ble_eq_true rfl, Nat.le_of_ble_eq_true rfl⟩ ⟨Nat.le_of_ble_eq_true rfl, Nat.le_of_ble_eq_true rfl⟩ (Nat.le_of_ble_eq_true rfl) dX11_pack_17) (fun y6 σ7 H locs h hP hS => ?_)
    refine W.widen (k := 3) (n := 367) (Nat.le_of_ble_eq_true rfl) (Nat.le_of_ble_eq_true rfl) ?_
    exact r_retA hC h60 h70 hP hS rfl h dX11_pack_20

set_option maxRecDepth 20000 in
theorem tI_pack {l : Launch} (x : Wx) (al : Nat → Nat → Nat) (lv : Nat → Bool) (σ : Sg) (v1 : Int32) (res : Int32 × Sg × (Nat → Bool)) (h : fI_pack lv σ v1 = some res) : Met l yX11_pack (Cond.code yX11_pack cX11_pack 2 (some .int) :: lwg) (rmm 62 3 367) (va_Pc [.ref (al 6 0), .int v1] (Wd x al lv σ)) (QA x al res) 3 367 (Ab x) := by
  refine met_W (by decide) (Nat.le_of_ble_eq_true rfl) rfl (fun p e s m args below meth c ls hC hP hS hl => ?_)
  exact wI_pack_0 rfl rfl hC σ v1 _ _ ls h hP hS hl
set_option maxHeartbeats 4000000 in
set_option maxRecDepth 20000 in
theorem wI_image_37 {p : Program} {l : Launch} {e : Env} {s : State} {m : MethodId} {args : Array Value} {below : List Frame} {meth : Method} {c : Code} {x : Wx} {al : Nat → Nat → Nat} {lv : Nat → Bool} {res : Int32 × Sg × (Nat → Bool)} {al0 : Nat → Nat → Nat} (h60 : al 6 0 = al0 6 0) (h70 : al 7 0 = al0 7 0) (hC : Cx x p s m args meth c cX11_image 2 (some .int) RX11) (σ : Sg) (x1 : Int32) (H : Heap) (locs : List Loc) (ls : Array Slot) (h : fI_image_37 lv σ x1 = some res) (hP : Pic x al lv σ H) (hS : va_S (Ab x) s.heap H locs) (hl : lv_has ls 2 [(0, .ref (al 6 0)), (1, .int x1)]) : W p l e (rmm 4 22 3364) s m args below meth c H locs 22 3364 (MQ below (QA x al0 res) args s 22 3364 (Ab x)) (F0 m 37 ls []) := by
  obtain ⟨hx, hb, hml, hown, hts⟩ := hC.1
  unfold fI_image_37 at h
  refine lv_aload_n hx hb dX11_image_37 rfl (lv_at hl 0 rfl) ?_
  refine gt_X11_8 hC hP wf_X11_54 dX11_image_38 ?_
  refine lv_iload_n hx hb dX11_image_41 rfl (lv_at hl 1 rfl) ?_
  refine r_aald hC hP h dX11_image_42 (fun hi8 h => ?_)
  obtain ⟨hq9, h⟩ := gd_e h
  refine r_nn hq9 ?_
  refine lv_aload_n hx hb dX11_image_43 rfl (lv_at hl 0 rfl) ?_
  refine gt_X11_0 hC hP wf_X11_12 dX11_image_44 ?_
  refine r_cV hS h (fun r hr => r_runV (As := [.ref (al 0 0)]) (rest := []) hC kV_X11_316 cw_X10_copyFrom (rc_X10 (a := 2 + x1.toNatClampNeg) (h26 hi8) hq9 hC hP) hP (tStore_copyFrom x al lv σ (2 + x1.toNatClampNeg) (h26 hi8) hq9 0 h06 hP.l0 r hr) rfl hl.1 ⟨Nat.le_of_ble_eq_true rfl, Nat.le_of_ble_eq_true rfl⟩ ⟨Nat.le_of_ble_eq_true rfl, Nat.le_of_ble_eq_true rfl⟩ (Nat.le_of_ble_eq_true rfl) dX11_image_47) (fun σ10 H locs h hP hS => ?_)
  refine lv_aload_n hx hb dX11_image_50 rfl (lv_at hl 0 rfl) ?_
  refine lv_iconst (v := 0) hx hb dX11_image_51 (by decide) ?_
  refine r_cI hS h (fun r hr => r_runV (As := [.int 0]) (rest := []) hC kV_X11_72 cw_X11_answer (rc_X11 hC hP) hP (tI_answer x al lv σ10 0 r hr) rfl hl.1 ⟨Nat.le_of_ble_eq_true rfl, Nat.le_of_ble_eq_true rfl⟩ ⟨Nat.le_of_ble_eq_true rfl, Nat.le_of_ble_eq_true rfl⟩ (Nat.le_of_ble_eq_true rfl) dX11_image_52) (fun y11 σ12 H locs h hP hS => ?_)
  exact r_retA hC h60 h70 hP hS rfl h dX11_image_55

set_option maxHeartbeats 4000000 in
set_option maxRecDepth 20000 in
theorem wI_image_0 {p : Program} {l : Launch} {e : Env} {s : State} {m : MethodId} {args : Array Value} {below : List Frame} {meth : Method} {c : Code} {x : Wx} {al : Nat → Nat → Nat} {lv : Nat → Bool} {res : Int32 × Sg × (Nat → Bool)} {al0 : Nat → Nat → Nat} (h60 : al 6 0 = al0 6 0) (h70 : al 7 0 = al0 7 0) (hC : Cx x p s m args meth c cX11_image 2 (some .int) RX11) (σ : Sg) (v1 : Int32) (H : Heap) (locs : List Loc) (ls : Array Slot) (h : fI_image_0 lv σ v1 = some res) (hP : Pic x al lv σ H) (hS : va_S (Ab x) s.heap H locs) (hl : lv_has ls 2 [(0, .ref (al 6 0)), (1, .int v1)]) : W p l e (rmm 4 22 3364) s m args below meth c H locs 0 0 (MQ below (QA x al0 res) args s 22 3364 (Ab x)) (F0 m 0 ls []) := by
  obtain ⟨hx, hb, hml, hown, hts⟩ := hC.1
  unfold fI_image_0 at h
  refine lv_iload_n hx hb dX11_image_0 rfl (lv_at hl 1 rfl) ?_
  refine lv_iconst (v := 0) hx hb dX11_image_1 (by decide) ?_
  refine lv_iconst (v := 3) hx hb dX11_image_2 (by decide) ?_
  refine r_cP hS h (fun r hr => r_runS (As := [.int v1, .int 0, .int 3]) (rest := []) hC kS_X11_68 cw_X11_within hP (tI_within x al lv σ v1 0 3 r hr) rfl hl.1 ⟨Nat.le_of_ble_eq_true rfl, Nat.le_of_ble_eq_true rfl⟩ ⟨Nat.le_of_ble_eq_true rfl, Nat.le_of_ble_eq_true rfl⟩ (Nat.le_of_ble_eq_true rfl) dX11_image_3) (fun y1 H locs h hP hS => ?_)
  refine lv_if_ne (tgt := 15) hx hb dX11_image_6 (by decide) (fun hc => ?_) (fun hc => ?_)
  · replace h := (br h).2 hc
    refine lv_aload_n hx hb dX11_image_15 rfl (lv_at hl 0 rfl) ?_
    refine gt_X11_8 hC hP wf_X11_54 dX11_image_16 ?_
    refine lv_iload_n hx hb dX11_image_19 rfl (lv_at hl 1 rfl) ?_
    refine r_aald hC hP h dX11_image_20 (fun hi2 h => ?_)
    refine r_ifnn (tgt := 37) hC h dX11_image_21 (by decide) (fun hq3 h => ?_) (fun hq3f h => ?_)
    · refine W.widen (k := 22) (n := 3364) (Nat.le_of_ble_eq_true rfl) (Nat.le_of_ble_eq_true rfl) ?_
      exact wI_image_37 h60 h70 hC  σ v1 H locs ls h hP hS (lv_sub hl [0, 1] rfl)
    · refine lv_aload_n hx hb dX11_image_24 rfl (lv_at hl 0 rfl) ?_
      refine gt_X11_8 hC hP wf_X11_54 dX11_image_25 ?_
      refine lv_iload_n hx hb dX11_image_28 rfl (lv_at hl 1 rfl) ?_
      obtain ⟨hg5, h⟩ := gd_e h
      refine mk_I hC hP hS hl.1 hg5 hq3f wn_X11_9 (by decide +kernel) ⟨Nat.le_of_ble_eq_true rfl, Nat.le_of_ble_eq_true rfl⟩ ⟨Nat.le_of_ble_eq_true rfl, Nat.le_of_ble_eq_true rfl⟩ (Nat.le_of_ble_eq_true rfl) dX11_image_29 dX11_image_32 dX11_image_33 dX11_image_36 h (fun σ4 lv al H locs h e60 e70 hqi hmo hP hS => ?_)
      rw [← e60] at hl
      replace h60 := e60.trans h60
      replace h70 := e70.trans h70
      refine W.widen (k := 22) (n := 3364) (Nat.le_of_ble_eq_true rfl) (Nat.le_of_ble_eq_true rfl) ?_
      exact wI_image_37 h60 h70 hC  σ4 v1 H locs ls h hP hS (lv_sub hl [0, 1] rfl)
  · replace h := (br h).1 hc
    refine lv_aload_n hx hb dX11_image_9 rfl (lv_at hl 0 rfl) ?_
    refine lv_iconst (v := (-1)) hx hb dX11_image_10 (by decide) ?_
    refine r_cI hS h (fun r hr => r_runV (As := [.int ((-1))]) (rest := []) hC kV_X11_72 cw_X11_answer (rc_X11 hC hP) hP (tI_answer x al lv σ ((-1)) r hr) rfl hl.1 ⟨Nat.le_of_ble_eq_true rfl, Nat.le_of_ble_eq_true rfl⟩ ⟨Nat.le_of_ble_eq_true rfl, Nat.le_of_ble_eq_true rfl⟩ (Nat.le_of_ble_eq_true rfl) dX11_image_11) (fun y6 σ7 H locs h hP hS => ?_)
    refine W.widen (k := 22) (n := 3364) (Nat.le_of_ble_eq_true rfl) (Nat.le_of_ble_eq_true rfl) ?_
    exact r_retA hC h60 h70 hP hS rfl h dX11_image_14

set_option maxRecDepth 20000 in
theorem tI_image {l : Launch} (x : Wx) (al : Nat → Nat → Nat) (lv : Nat → Bool) (σ : Sg) (v1 : Int32) (res : Int32 × Sg × (Nat → Bool)) (h : fI_image lv σ v1 = some res) : Met l yX11_image (Cond.code yX11_image cX11_image 2 (some .int) :: lwg) (rmm 4 22 3364) (va_Pc [.ref (al 6 0), .int v1] (Wd x al lv σ)) (QA x al res) 22 3364 (Ab x) := by
  refine met_W (by decide) (Nat.le_of_ble_eq_true rfl) rfl (fun p e s m args below meth c ls hC hP hS hl => ?_)
  exact wI_image_0 rfl rfl hC σ v1 _ _ ls h hP hS hl
