set_option maxHeartbeats 4000000 in
set_option maxRecDepth 20000 in
theorem wM_count_0 {p : Program} {l : Launch} {e : Env} {s : State} {m : MethodId} {args : Array Value} {below : List Frame} {meth : Method} {c : Code} {x : Wx} {al : Nat → Nat → Nat} {lv : Nat → Bool} {res : Int32} {σ : Sg} (hC : Cx x p s m args meth c cX12_count 2 (some .int) RX12) (v1 : Int32) (H : Heap) (locs : List Loc) (ls : Array Slot) (h : fM_count_0 σ v1 = some res) (hP : Pic x al lv σ H) (hS : va_S (Ab x) s.heap H locs) (hl : lv_has ls 2 [(0, .ref (al 7 0)), (1, .int v1)]) : W p l e (rmm 2 0 0) s m args below meth c H locs 0 0 (MQ below (QP x al lv σ res) args s 0 0 (Ab x)) (F0 m 0 ls []) := by
  obtain ⟨hx, hb, hml, hown, hts⟩ := hC.1
  unfold fM_count_0 at h
  refine lv_iload_n hx hb dX12_count_0 rfl (lv_at hl 1 rfl) ?_
  refine Classical.byCases (p := v1 = 0) (fun hc => ?_) (fun n0 => ?_)
  · skip
    replace h := (br h).1 hc
    rw [hc]
    refine lv_tableIn (off := 79) (tgt := 80) hx hb dX12_count_1 (by decide) (by decide) rfl (by decide) ?_
    refine lv_aload_n hx hb dX12_count_80 rfl (lv_at hl 0 rfl) ?_
    refine gt_X12_6 hC hP wf_X12_27 dX12_count_81 ?_
    refine lv_iconst (v := 0) hx hb dX12_count_84 (by decide) ?_
    refine r_iald hC hP (aM_6 hP.l7) h dX12_count_85 (fun h => ?_)
    exact r_retP hC hP hS rfl h dX12_count_86
  · skip
    replace h := (br h).2 n0
    refine Classical.byCases (p := v1 = 1) (fun hc => ?_) (fun n1 => ?_)
    · skip
      replace h := (br h).1 hc
      rw [hc]
      refine lv_tableIn (off := 86) (tgt := 87) hx hb dX12_count_1 (by decide) (by decide) rfl (by decide) ?_
      refine lv_aload_n hx hb dX12_count_87 rfl (lv_at hl 0 rfl) ?_
      refine gt_X12_9 hC hP wf_X12_37 dX12_count_88 ?_
      refine lv_iconst (v := 0) hx hb dX12_count_91 (by decide) ?_
      refine r_iald hC hP (aM_9 hP.l7) h dX12_count_92 (fun h => ?_)
      exact r_retP hC hP hS rfl h dX12_count_93
    · skip
      replace h := (br h).2 n1
      refine Classical.byCases (p := v1 = 2) (fun hc => ?_) (fun n2 => ?_)
      · skip
        replace h := (br h).1 hc
        rw [hc]
        refine lv_tableIn (off := 93) (tgt := 94) hx hb dX12_count_1 (by decide) (by decide) rfl (by decide) ?_
        refine lv_aload_n hx hb dX12_count_94 rfl (lv_at hl 0 rfl) ?_
        refine lv_iconst (v := (-1)) hx hb dX12_count_95 (by decide) ?_
        refine r_cP hS h (fun r hr => r_runV (As := [.int ((-1))]) (rest := []) hC kV_X12_203 cw_X12_weight (rc_X12 hC hP) hP (tM_weight x al lv σ ((-1)) r hr) rfl hl.1 ⟨Nat.le_of_ble_eq_true rfl, Nat.le_of_ble_eq_true rfl⟩ ⟨Nat.le_of_ble_eq_true rfl, Nat.le_of_ble_eq_true rfl⟩ (Nat.le_of_ble_eq_true rfl) dX12_count_96) (fun y1 H locs h hP hS => ?_)
        exact r_retP hC hP hS rfl h dX12_count_99
      · skip
        replace h := (br h).2 n2
        refine Classical.byCases (p := v1 = 3) (fun hc => ?_) (fun n3 => ?_)
        · skip
          replace h := (br h).1 hc
          rw [hc]
          refine lv_tableIn (off := 99) (tgt := 100) hx hb dX12_count_1 (by decide) (by decide) rfl (by decide) ?_
          refine lv_aload_n hx hb dX12_count_100 rfl (lv_at hl 0 rfl) ?_
          refine gt_X12_9 hC hP wf_X12_37 dX12_count_101 ?_
          refine lv_iconst (v := 1) hx hb dX12_count_104 (by decide) ?_
          refine r_iald hC hP (aM_9 hP.l7) h dX12_count_105 (fun h => ?_)
          exact r_retP hC hP hS rfl h dX12_count_106
        · skip
          replace h := (br h).2 n3
          refine Classical.byCases (p := v1 = 4) (fun hc => ?_) (fun n4 => ?_)
          · skip
            replace h := (br h).1 hc
            rw [hc]
            refine lv_tableIn (off := 106) (tgt := 107) hx hb dX12_count_1 (by decide) (by decide) rfl (by decide) ?_
            refine lv_aload_n hx hb dX12_count_107 rfl (lv_at hl 0 rfl) ?_
            refine gt_X12_9 hC hP wf_X12_37 dX12_count_108 ?_
            refine lv_iconst (v := 2) hx hb dX12_count_111 (by decide) ?_
            refine r_iald hC hP (aM_9 hP.l7) h dX12_count_112 (fun h => ?_)
            exact r_retP hC hP hS rfl h dX12_count_113
          · skip
            replace h := (br h).2 n4
            refine Classical.byCases (p := v1 = 5) (fun hc => ?_) (fun n5 => ?_)
            · skip
              replace h := (br h).1 hc
              rw [hc]
              refine lv_tableIn (off := 113) (tgt := 114) hx hb dX12_count_1 (by decide) (by decide) rfl (by decide) ?_
              refine lv_aload_n hx hb dX12_count_114 rfl (lv_at hl 0 rfl) ?_
              refine gt_X12_9 hC hP wf_X12_37 dX12_count_115 ?_
              refine lv_iconst (v := 3) hx hb dX12_count_118 (by decide) ?_
              refine r_iald hC hP (aM_9 hP.l7) h dX12_count_119 (fun h => ?_)
              exact r_retP hC hP hS rfl h dX12_count_120
            · skip
              replace h := (br h).2 n5
              refine Classical.byCases (p := v1 = 6) (fun hc => ?_) (fun n6 => ?_)
              · skip
                replace h := (br h).1 hc
                rw [hc]
                refine lv_tableIn (off := 120) (tgt := 121) hx hb dX12_count_1 (by decide) (by decide) rfl (by decide) ?_
                refine lv_aload_n hx hb dX12_count_121 rfl (lv_at hl 0 rfl) ?_
                refine lv_aload_n hx hb dX12_count_122 rfl (lv_at hl 0 rfl) ?_
                refine gt_X12_15 hC hP wf_X12_55 dX12_count_123 ?_
                refine r_cP hS h (fun r hr => r_runV (As := [.ref (al 7 15)]) (rest := []) hC kV_X12_321 cw_X12_all (rc_X12 hC hP) hP (tM_all x al lv σ 7 15 48 (aM_15 hP.l7) r hr) rfl hl.1 ⟨Nat.le_of_ble_eq_true rfl, Nat.le_of_ble_eq_true rfl⟩ ⟨Nat.le_of_ble_eq_true rfl, Nat.le_of_ble_eq_true rfl⟩ (Nat.le_of_ble_eq_true rfl) dX12_count_126) (fun y2 H locs h hP hS => ?_)
                exact r_retP hC hP hS rfl h dX12_count_129
              · skip
                replace h := (br h).2 n6
                refine Classical.byCases (p := v1 = 7) (fun hc => ?_) (fun n7 => ?_)
                · skip
                  replace h := (br h).1 hc
                  rw [hc]
                  refine lv_tableIn (off := 129) (tgt := 130) hx hb dX12_count_1 (by decide) (by decide) rfl (by decide) ?_
                  refine lv_aload_n hx hb dX12_count_130 rfl (lv_at hl 0 rfl) ?_
                  refine lv_aload_n hx hb dX12_count_131 rfl (lv_at hl 0 rfl) ?_
                  refine gt_X12_16 hC hP wf_X12_58 dX12_count_132 ?_
                  refine r_cP hS h (fun r hr => r_runV (As := [.ref (al 7 16)]) (rest := []) hC kV_X12_321 cw_X12_all (rc_X12 hC hP) hP (tM_all x al lv σ 7 16 48 (aM_16 hP.l7) r hr) rfl hl.1 ⟨Nat.le_of_ble_eq_true rfl, Nat.le_of_ble_eq_true rfl⟩ ⟨Nat.le_of_ble_eq_true rfl, Nat.le_of_ble_eq_true rfl⟩ (Nat.le_of_ble_eq_true rfl) dX12_count_135) (fun y3 H locs h hP hS => ?_)
                  exact r_retP hC hP hS rfl h dX12_count_138
                · skip
                  replace h := (br h).2 n7
                  refine Classical.byCases (p := v1 = 8) (fun hc => ?_) (fun n8 => ?_)
                  · skip
                    replace h := (br h).1 hc
                    rw [hc]
                    refine lv_tableIn (off := 138) (tgt := 139) hx hb dX12_count_1 (by decide) (by decide) rfl (by decide) ?_
                    refine lv_aload_n hx hb dX12_count_139 rfl (lv_at hl 0 rfl) ?_
                    refine gt_X12_8 hC hP wf_X12_34 dX12_count_140 ?_
                    refine lv_iconst (v := 0) hx hb dX12_count_143 (by decide) ?_
                    refine r_iald hC hP (aM_8 hP.l7) h dX12_count_144 (fun h => ?_)
                    exact r_retP hC hP hS rfl h dX12_count_145
                  · skip
                    replace h := (br h).2 n8
                    refine Classical.byCases (p := v1 = 9) (fun hc => ?_) (fun n9 => ?_)
                    · skip
                      replace h := (br h).1 hc
                      rw [hc]
                      refine lv_tableIn (off := 145) (tgt := 146) hx hb dX12_count_1 (by decide) (by decide) rfl (by decide) ?_
                      refine lv_aload_n hx hb dX12_count_146 rfl (lv_at hl 0 rfl) ?_
                      refine r_cP hS h (fun r hr => r_runV (As := []) (rest := []) hC kV_X12_296 cw_X12_allBlocks (rc_X12 hC hP) hP (tM_allBlocks x al lv σ  r hr) rfl hl.1 ⟨Nat.le_of_ble_eq_true rfl, Nat.le_of_ble_eq_true rfl⟩ ⟨Nat.le_of_ble_eq_true rfl, Nat.le_of_ble_eq_true rfl⟩ (Nat.le_of_ble_eq_true rfl) dX12_count_147) (fun y4 H locs h hP hS => ?_)
                      exact r_retP hC hP hS rfl h dX12_count_150
                    · skip
                      replace h := (br h).2 n9
                      refine Classical.byCases (p := v1 = 10) (fun hc => ?_) (fun n10 => ?_)
                      · skip
                        replace h := (br h).1 hc
                        rw [hc]
                        refine lv_tableIn (off := 150) (tgt := 151) hx hb dX12_count_1 (by decide) (by decide) rfl (by decide) ?_
                        refine lv_aload_n hx hb dX12_count_151 rfl (lv_at hl 0 rfl) ?_
                        refine gt_X12_7 hC hP wf_X12_31 dX12_count_152 ?_
                        refine lv_iconst (v := 0) hx hb dX12_count_155 (by decide) ?_
                        refine r_iald hC hP (aM_7 hP.l7) h dX12_count_156 (fun h => ?_)
                        exact r_retP hC hP hS rfl h dX12_count_157
                      · skip
                        replace h := (br h).2 n10
                        refine Classical.byCases (p := v1 = 11) (fun hc => ?_) (fun n11 => ?_)
                        · skip
                          replace h := (br h).1 hc
                          rw [hc]
                          refine lv_tableIn (off := 157) (tgt := 158) hx hb dX12_count_1 (by decide) (by decide) rfl (by decide) ?_
                          refine lv_aload_n hx hb dX12_count_158 rfl (lv_at hl 0 rfl) ?_
                          refine gt_X12_34 hC hP wf_X12_259 dX12_count_159 ?_
                          exact r_retP hC hP hS rfl h dX12_count_162
                        · skip
                          replace h := (br h).2 n11
                          refine Classical.byCases (p := v1 = 12) (fun hc => ?_) (fun n12 => ?_)
                          · skip
                            replace h := (br h).1 hc
                            rw [hc]
                            refine lv_tableIn (off := 162) (tgt := 163) hx hb dX12_count_1 (by decide) (by decide) rfl (by decide) ?_
                            refine lv_aload_n hx hb dX12_count_163 rfl (lv_at hl 0 rfl) ?_
                            refine r_cP hS h (fun r hr => r_runV (As := []) (rest := []) hC kV_X12_325 cw_X12_days (rc_X12 hC hP) hP (tM_days x al lv σ  r hr) rfl hl.1 ⟨Nat.le_of_ble_eq_true rfl, Nat.le_of_ble_eq_true rfl⟩ ⟨Nat.le_of_ble_eq_true rfl, Nat.le_of_ble_eq_true rfl⟩ (Nat.le_of_ble_eq_true rfl) dX12_count_164) (fun y5 H locs h hP hS => ?_)
                            exact r_retP hC hP hS rfl h dX12_count_167
                          · skip
                            replace h := (br h).2 n12
                            refine Classical.byCases (p := v1 = 13) (fun hc => ?_) (fun n13 => ?_)
                            · skip
                              replace h := (br h).1 hc
                              rw [hc]
                              refine lv_tableIn (off := 167) (tgt := 168) hx hb dX12_count_1 (by decide) (by decide) rfl (by decide) ?_
                              refine lv_aload_n hx hb dX12_count_168 rfl (lv_at hl 0 rfl) ?_
                              refine gt_X12_27 hC hP wf_X12_228 dX12_count_169 ?_
                              exact r_retP hC hP hS rfl h dX12_count_172
                            · skip
                              replace h := (br h).2 n13
                              refine Classical.byCases (p := v1 = 14) (fun hc => ?_) (fun n14 => ?_)
                              · skip
                                replace h := (br h).1 hc
                                rw [hc]
                                refine lv_tableIn (off := 172) (tgt := 173) hx hb dX12_count_1 (by decide) (by decide) rfl (by decide) ?_
                                refine lv_aload_n hx hb dX12_count_173 rfl (lv_at hl 0 rfl) ?_
                                refine gt_X12_51 hC hP wf_X12_303 dX12_count_174 ?_
                                exact r_retP hC hP hS rfl h dX12_count_177
                              · skip
                                replace h := (br h).2 n14
                                refine Classical.byCases (p := v1 = 15) (fun hc => ?_) (fun n15 => ?_)
                                · skip
                                  replace h := (br h).1 hc
                                  rw [hc]
                                  refine lv_tableIn (off := 177) (tgt := 178) hx hb dX12_count_1 (by decide) (by decide) rfl (by decide) ?_
                                  refine lv_aload_n hx hb dX12_count_178 rfl (lv_at hl 0 rfl) ?_
                                  refine gt_X12_36 hC hP wf_X12_256 dX12_count_179 ?_
                                  exact r_retP hC hP hS rfl h dX12_count_182
                                · skip
                                  replace h := (br h).2 n15
                                  have m0 := lv_neT (a := 0) n0 rfl
                                  have m1 := lv_neT (a := 1) n1 rfl
                                  have m2 := lv_neT (a := 2) n2 rfl
                                  have m3 := lv_neT (a := 3) n3 rfl
                                  have m4 := lv_neT (a := 4) n4 rfl
                                  have m5 := lv_neT (a := 5) n5 rfl
                                  have m6 := lv_neT (a := 6) n6 rfl
                                  have m7 := lv_neT (a := 7) n7 rfl
                                  have m8 := lv_neT (a := 8) n8 rfl
                                  have m9 := lv_neT (a := 9) n9 rfl
                                  have m10 := lv_neT (a := 10) n10 rfl
                                  have m11 := lv_neT (a := 11) n11 rfl
                                  have m12 := lv_neT (a := 12) n12 rfl
                                  have m13 := lv_neT (a := 13) n13 rfl
                                  have m14 := lv_neT (a := 14) n14 rfl
                                  have m15 := lv_neT (a := 15) n15 rfl
                                  refine lv_tableOut (tgt := 183) hx hb dX12_count_1 (by omega) (by decide) ?_
                                  refine lv_iconst (v := (-1)) hx hb dX12_count_183 (by decide) ?_
                                  exact r_retP hC hP hS rfl h dX12_count_184

set_option maxRecDepth 20000 in
theorem tM_count {l : Launch} (x : Wx) (al : Nat → Nat → Nat) (lv : Nat → Bool) (σ : Sg) (v1 : Int32) (res : Int32) (h : fM_count σ v1 = some res) : Met l yX12_count (Cond.code yX12_count cX12_count 2 (some .int) :: lwg) (rmm 2 0 0) (va_Pc [.ref (al 7 0), .int v1] (Wd x al lv σ)) (QP x al lv σ res) 0 0 (Ab x) := by
  refine met_W (by decide) (Nat.le_of_ble_eq_true rfl) rfl (fun p e s m args below meth c ls hC hP hS hl => ?_)
  exact wM_count_0  hC v1 _ _ ls h hP hS hl
set_option maxHeartbeats 4000000 in
set_option maxRecDepth 20000 in
theorem wM_status_0 {p : Program} {l : Launch} {e : Env} {s : State} {m : MethodId} {args : Array Value} {below : List Frame} {meth : Method} {c : Code} {x : Wx} {al : Nat → Nat → Nat} {lv : Nat → Bool} {res : Int32} {σ : Sg} (hC : Cx x p s m args meth c cX12_status 1 (some .int) RX12) (H : Heap) (locs : List Loc) (ls : Array Slot) (h : fM_status_0 σ = some res) (hP : Pic x al lv σ H) (hS : va_S (Ab x) s.heap H locs) (hl : lv_has ls 1 [(0, .ref (al 7 0))]) : W p l e (rmm 1 0 0) s m args below meth c H locs 0 0 (MQ below (QP x al lv σ res) args s 0 0 (Ab x)) (F0 m 0 ls []) := by
  obtain ⟨hx, hb, hml, hown, hts⟩ := hC.1
  unfold fM_status_0 at h
  refine lv_aload_n hx hb dX12_status_0 rfl (lv_at hl 0 rfl) ?_
  refine gt_X12_0 hC hP wf_X12_136 dX12_status_1 ?_
  exact r_retP hC hP hS rfl h dX12_status_4

set_option maxRecDepth 20000 in
theorem tM_status {l : Launch} (x : Wx) (al : Nat → Nat → Nat) (lv : Nat → Bool) (σ : Sg) (res : Int32) (h : fM_status σ = some res) : Met l yX12_status (Cond.code yX12_status cX12_status 1 (some .int) :: lwg) (rmm 1 0 0) (va_Pc [.ref (al 7 0)] (Wd x al lv σ)) (QP x al lv σ res) 0 0 (Ab x) := by
  refine met_W (by decide) (Nat.le_of_ble_eq_true rfl) rfl (fun p e s m args below meth c ls hC hP hS hl => ?_)
  exact wM_status_0  hC  _ _ ls h hP hS hl
