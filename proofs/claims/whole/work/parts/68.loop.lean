set_option maxHeartbeats 4000000 in
set_option maxRecDepth 100000 in
theorem law_loop {p : Program} {l : Launch} {e : Env} {s : State} {m : MethodId} {below : List Frame} {meth : Method} {c : Code} {x : Wx} {b L : Nat} {xs : Nat → Int32} {Inv : (Nat → Bool) → Sg → Prop} (hAll : AllOps Inv) (hC : Cx x p s m #[Value.ref b] meth c cL_law 4 (some .boolean) "IceTradeLaw") (hbs : x.2.2.2.2.2 = s.heap.size) (hX : va_X b L xs s s.heap) (hbl : b < s.heap.size) (hL : L ≤ 3072) : ∀ (n i : Nat) (x3 : Int32) (lv : Nat → Bool) (σ : Sg) (al : Nat → Nat → Nat) (H : Heap) (locs : List Loc) (cells slots : Nat) (d0 : Drawn) (ls : Array Slot), L + 7 ≤ i + n → i ≤ L → x3 = nI i → Inv lv σ → cells ≤ 200 + 24 * i → slots ≤ 60000 + 900 * i → s.drawn.sameBut d0 lw_cs → Pic x al lv σ H → va_S (Ab x) s.heap H locs → lv_has ls 4 [(0, .ref b), (1, .ref (al 6 0)), (2, .ref (al 7 0)), (3, .int x3)] → W p l e room_1 (s.setDrawn d0) m #[Value.ref b] below meth c H locs cells slots (lw_Z below #[Value.ref b] s) (F0 m 18 ls []) := by
  obtain ⟨hx, hb, hml, hown, hts⟩ := hC.1
  have hbA : ¬ Ab x b := by show ¬ x.2.2.2.2.2 ≤ b; omega
  intro n
  induction n with
  | zero => intro i x3 lv σ al H locs cells slots d0 ls h1 h2; omega
  | succ n ih =>
    intro i x3 lv σ al H locs cells slots d0 ls h1 h2 hx3 hI hcl hsl hd0 hP hS hl
    refine lv_iload_n hx hb dL_law_18 rfl (lv_at hl 3 rfl) ?_
    refine lv_aload_n hx hb dL_law_19 rfl (lv_at hl 0 rfl) ?_
    refine va_slen (s := s.setDrawn d0) hx hb hX hbl hbA hS dL_law_20 ?_
    refine lv_bipush (v := 6) hx hb dL_law_21 (by decide) ?_
    refine lv_isub hx hb dL_law_23 ?_
    refine lv_icmp_gt (tgt := 1232) hx hb dL_law_24 (by decide) (fun hc => ?_) (fun hc => ?_)
    · refine lv_iconst (v := 1) hx hb dL_law_1232 (by decide) ?_
      refine va_forget (fun q hq => by have z := hS.2.2 q hq; show s.heap.size ≤ q.base; rw [← hbs]; exact z) ?_
      refine W.widen (k := 101448) (n := 8797906) (by omega) (by omega) ?_
      exact lw_ret hd0 hx hb hC.2.1 hC.2.2.1 dL_law_1233
    · have hi6 := law_go hL (by omega) hx3 hc
      have tail : ∀ (lv2 : Nat → Bool) (σ2 : Sg) (al2 : Nat → Nat → Nat) (H2 : Heap) (locs2 : List Loc) (d2 : Drawn) (c2 s2 : Nat), c2 ≤ cells + 24 → s2 ≤ slots + 5400 → Inv lv2 σ2 → s.drawn.sameBut d2 lw_cs → al2 6 0 = al 6 0 → al2 7 0 = al 7 0 → Pic x al2 lv2 σ2 H2 → va_S (Ab x) s.heap H2 locs2 → W p l e room_1 (s.setDrawn d2) m #[Value.ref b] below meth c H2 locs2 c2 s2 (lw_Z below #[Value.ref b] s) (F0 m 1226 ls []) := by
        intro lv2 σ2 al2 H2 locs2 d2 c2 s2 hc2 hs2 hI2 hd2 e6 e7 hP2 hS2
        rw [← e6, ← e7] at hl
        refine lv_iinc (v := x3 + 6) (lv' := [(3, .int (x3 + 6)), (0, .ref b), (1, .ref (al2 6 0)), (2, .ref (al2 7 0))]) hx hb dL_law_1226 hl (k := 3) rfl rfl (by decide) rfl (fun ls hl => ?_)
        refine lv_goto (tgt := 18) hx hb dL_law_1229 (by decide) ?_
        exact ih (i + 6) (x3 + 6) lv2 σ2 al2 H2 locs2 c2 s2 d2 ls (by omega) (by omega) (by rw [hx3]; exact nI_add i 6) hI2 (by omega) (by omega) hd2 hP2 hS2 (lv_sub hl [1, 2, 3, 0] rfl)
      refine lv_aload_n hx hb dL_law_27 rfl (lv_at hl 0 rfl) ?_
      refine lv_iload_n hx hb dL_law_28 rfl (lv_at hl 3 rfl) ?_
      refine va_sld (s := s.setDrawn d0) hx hb hX hbl hbA hS (by rw [hx3]; exact vp_in_nI (by omega) (by omega)) dL_law_29 ?_
      refine lv_bipush (v := 63) hx hb dL_law_30 (by decide) ?_
      refine lv_iand hx hb dL_law_32 ?_
      refine lv_topi (fun w ew => ?_)
      obtain ⟨o0, o1, o2, o3, o4, o5, o6, o7, o8, o9, o10, o11, o12, o13, o14, o15, o16, o17, o18, o19, o20, o21, o22, o23, o24, o25, o26, o27, o28, o29, o30, o31, o32, o33⟩ := hAll
      refine Classical.byCases (p := w = 0) (fun hc => ?_) (fun n0 => ?_)
      · rw [hc]
        refine lv_tableIn (off := 151) (tgt := 184) hx hb dL_law_33 (by decide) (by decide) rfl (by decide) ?_
        exact law_room o0 hC hX hbl hbA hL hx3 hi6 hI hd0 (by omega) (by omega) hP hS hl (fun lv2 σ2 al2 H2 locs2 d2 a1 a2 a3 a4 a5 a6 => tail lv2 σ2 al2 H2 locs2 d2 _ _ (by omega) (by omega) a1 a2 a3 a4 a5 a6)
      refine Classical.byCases (p := w = 1) (fun hc => ?_) (fun n1 => ?_)
      · rw [hc]
        refine lv_tableIn (off := 214) (tgt := 247) hx hb dL_law_33 (by decide) (by decide) rfl (by decide) ?_
        exact law_rooms o1 hC hX hbl hbA hL hx3 hi6 hI hd0 (by omega) (by omega) hP hS hl (fun lv2 σ2 al2 H2 locs2 d2 a1 a2 a3 a4 a5 a6 => tail lv2 σ2 al2 H2 locs2 d2 _ _ (by omega) (by omega) a1 a2 a3 a4 a5 a6)
      refine Classical.byCases (p := w = 2) (fun hc => ?_) (fun n2 => ?_)
      · rw [hc]
        refine lv_tableIn (off := 247) (tgt := 280) hx hb dL_law_33 (by decide) (by decide) rfl (by decide) ?_
        exact law_lay o2 hC hX hbl hbA hL hx3 hi6 hI hd0 (by omega) (by omega) hP hS hl (fun lv2 σ2 al2 H2 locs2 d2 a1 a2 a3 a4 a5 a6 => tail lv2 σ2 al2 H2 locs2 d2 _ _ (by omega) (by omega) a1 a2 a3 a4 a5 a6)
      refine Classical.byCases (p := w = 3) (fun hc => ?_) (fun n3 => ?_)
      · rw [hc]
        refine lv_tableIn (off := 290) (tgt := 323) hx hb dL_law_33 (by decide) (by decide) rfl (by decide) ?_
        exact law_tear o3 hC hX hbl hbA hL hx3 hi6 hI hd0 (by omega) (by omega) hP hS hl (fun lv2 σ2 al2 H2 locs2 d2 a1 a2 a3 a4 a5 a6 => tail lv2 σ2 al2 H2 locs2 d2 _ _ (by omega) (by omega) a1 a2 a3 a4 a5 a6)
      refine Classical.byCases (p := w = 4) (fun hc => ?_) (fun n4 => ?_)
      · rw [hc]
        refine lv_tableIn (off := 333) (tgt := 366) hx hb dL_law_33 (by decide) (by decide) rfl (by decide) ?_
        exact law_cut o4 hC hX hbl hbA hL hx3 hi6 hI hd0 (by omega) (by omega) hP hS hl (fun lv2 σ2 al2 H2 locs2 d2 a1 a2 a3 a4 a5 a6 => tail lv2 σ2 al2 H2 locs2 d2 _ _ (by omega) (by omega) a1 a2 a3 a4 a5 a6)
      refine Classical.byCases (p := w = 5) (fun hc => ?_) (fun n5 => ?_)
      · rw [hc]
        refine lv_tableIn (off := 386) (tgt := 419) hx hb dL_law_33 (by decide) (by decide) rfl (by decide) ?_
        exact law_put o5 hC hX hbl hbA hL hx3 hi6 hI hd0 (by omega) (by omega) hP hS hl (fun lv2 σ2 al2 H2 locs2 d2 a1 a2 a3 a4 a5 a6 => tail lv2 σ2 al2 H2 locs2 d2 _ _ (by omega) (by omega) a1 a2 a3 a4 a5 a6)
      refine Classical.byCases (p := w = 6) (fun hc => ?_) (fun n6 => ?_)
      · rw [hc]
        refine lv_tableIn (off := 429) (tgt := 462) hx hb dL_law_33 (by decide) (by decide) rfl (by decide) ?_
        exact law_clear o6 hC hX hbl hbA hL hx3 hi6 hI hd0 (by omega) (by omega) hP hS hl (fun lv2 σ2 al2 H2 locs2 d2 a1 a2 a3 a4 a5 a6 => tail lv2 σ2 al2 H2 locs2 d2 _ _ (by omega) (by omega) a1 a2 a3 a4 a5 a6)
      refine Classical.byCases (p := w = 7) (fun hc => ?_) (fun n7 => ?_)
      · rw [hc]
        refine lv_tableIn (off := 462) (tgt := 495) hx hb dL_law_33 (by decide) (by decide) rfl (by decide) ?_
        exact law_place o7 hC hX hbl hbA hL hx3 hi6 hI hd0 (by omega) (by omega) hP hS hl (fun lv2 σ2 al2 H2 locs2 d2 a1 a2 a3 a4 a5 a6 => tail lv2 σ2 al2 H2 locs2 d2 _ _ (by omega) (by omega) a1 a2 a3 a4 a5 a6)
      refine Classical.byCases (p := w = 8) (fun hc => ?_) (fun n8 => ?_)
      · rw [hc]
        refine lv_tableIn (off := 495) (tgt := 528) hx hb dL_law_33 (by decide) (by decide) rfl (by decide) ?_
        exact law_block o8 hC hX hbl hbA hL hx3 hi6 hI hd0 (by omega) (by omega) hP hS hl (fun lv2 σ2 al2 H2 locs2 d2 a1 a2 a3 a4 a5 a6 => tail lv2 σ2 al2 H2 locs2 d2 _ _ (by omega) (by omega) a1 a2 a3 a4 a5 a6)
      refine Classical.byCases (p := w = 9) (fun hc => ?_) (fun n9 => ?_)
      · rw [hc]
        refine lv_tableIn (off := 528) (tgt := 561) hx hb dL_law_33 (by decide) (by decide) rfl (by decide) ?_
        exact law_warm o9 hC hX hbl hbA hL hx3 hi6 hI hd0 (by omega) (by omega) hP hS hl (fun lv2 σ2 al2 H2 locs2 d2 a1 a2 a3 a4 a5 a6 => tail lv2 σ2 al2 H2 locs2 d2 _ _ (by omega) (by omega) a1 a2 a3 a4 a5 a6)
      refine Classical.byCases (p := w = 10) (fun hc => ?_) (fun n10 => ?_)
      · rw [hc]
        refine lv_tableIn (off := 561) (tgt := 594) hx hb dL_law_33 (by decide) (by decide) rfl (by decide) ?_
        exact law_tenths o10 hC hX hbl hbA hL hx3 hi6 hI hd0 (by omega) (by omega) hP hS hl (fun lv2 σ2 al2 H2 locs2 d2 a1 a2 a3 a4 a5 a6 => tail lv2 σ2 al2 H2 locs2 d2 _ _ (by omega) (by omega) a1 a2 a3 a4 a5 a6)
      refine Classical.byCases (p := w = 11) (fun hc => ?_) (fun n11 => ?_)
      · rw [hc]
        refine lv_tableIn (off := 584) (tgt := 617) hx hb dL_law_33 (by decide) (by decide) rfl (by decide) ?_
        exact law_terms o11 hC hX hbl hbA hL hx3 hi6 hI hd0 (by omega) (by omega) hP hS hl (fun lv2 σ2 al2 H2 locs2 d2 a1 a2 a3 a4 a5 a6 => tail lv2 σ2 al2 H2 locs2 d2 _ _ (by omega) (by omega) a1 a2 a3 a4 a5 a6)
      refine Classical.byCases (p := w = 12) (fun hc => ?_) (fun n12 => ?_)
      · rw [hc]
        refine lv_tableIn (off := 627) (tgt := 660) hx hb dL_law_33 (by decide) (by decide) rfl (by decide) ?_
        exact law_day o12 hC hX hbl hbA hL hx3 hi6 hI hd0 (by omega) (by omega) hP hS hl (fun lv2 σ2 al2 H2 locs2 d2 a1 a2 a3 a4 a5 a6 => tail lv2 σ2 al2 H2 locs2 d2 _ _ (by omega) (by omega) a1 a2 a3 a4 a5 a6)
      refine Classical.byCases (p := w = 13) (fun hc => ?_) (fun n13 => ?_)
      · rw [hc]
        refine lv_tableIn (off := 640) (tgt := 673) hx hb dL_law_33 (by decide) (by decide) rfl (by decide) ?_
        exact law_count o13 hC hX hbl hbA hL hx3 hi6 hI hd0 (by omega) (by omega) hP hS hl (fun lv2 σ2 al2 H2 locs2 d2 a1 a2 a3 a4 a5 a6 => tail lv2 σ2 al2 H2 locs2 d2 _ _ (by omega) (by omega) a1 a2 a3 a4 a5 a6)
      refine Classical.byCases (p := w = 14) (fun hc => ?_) (fun n14 => ?_)
      · rw [hc]
        refine lv_tableIn (off := 663) (tgt := 696) hx hb dL_law_33 (by decide) (by decide) rfl (by decide) ?_
        exact law_next o14 hC hX hbl hbA hL hx3 hi6 hI hd0 (by omega) (by omega) hP hS hl (fun lv2 σ2 al2 H2 locs2 d2 a1 a2 a3 a4 a5 a6 => tail lv2 σ2 al2 H2 locs2 d2 _ _ (by omega) (by omega) a1 a2 a3 a4 a5 a6)
      refine Classical.byCases (p := w = 15) (fun hc => ?_) (fun n15 => ?_)
      · rw [hc]
        refine lv_tableIn (off := 686) (tgt := 719) hx hb dL_law_33 (by decide) (by decide) rfl (by decide) ?_
        exact law_take o15 hC hX hbl hbA hL hx3 hi6 hI hd0 (by omega) (by omega) hP hS hl (fun lv2 σ2 al2 H2 locs2 d2 a1 a2 a3 a4 a5 a6 => tail lv2 σ2 al2 H2 locs2 d2 _ _ (by omega) (by omega) a1 a2 a3 a4 a5 a6)
      refine Classical.byCases (p := w = 16) (fun hc => ?_) (fun n16 => ?_)
      · rw [hc]
        refine lv_tableIn (off := 719) (tgt := 752) hx hb dL_law_33 (by decide) (by decide) rfl (by decide) ?_
        exact law_way o16 hC hX hbl hbA hL hx3 hi6 hI hd0 (by omega) (by omega) hP hS hl (fun lv2 σ2 al2 H2 locs2 d2 a1 a2 a3 a4 a5 a6 => tail lv2 σ2 al2 H2 locs2 d2 _ _ (by omega) (by omega) a1 a2 a3 a4 a5 a6)
      refine Classical.byCases (p := w = 17) (fun hc => ?_) (fun n17 => ?_)
      · rw [hc]
        refine lv_tableIn (off := 752) (tgt := 785) hx hb dL_law_33 (by decide) (by decide) rfl (by decide) ?_
        exact law_home o17 hC hX hbl hbA hL hx3 hi6 hI hd0 (by omega) (by omega) hP hS hl (fun lv2 σ2 al2 H2 locs2 d2 a1 a2 a3 a4 a5 a6 => tail lv2 σ2 al2 H2 locs2 d2 _ _ (by omega) (by omega) a1 a2 a3 a4 a5 a6)
      refine Classical.byCases (p := w = 18) (fun hc => ?_) (fun n18 => ?_)
      · rw [hc]
        refine lv_tableIn (off := 765) (tgt := 798) hx hb dL_law_33 (by decide) (by decide) rfl (by decide) ?_
        exact law_comes o18 hC hX hbl hbA hL hx3 hi6 hI hd0 (by omega) (by omega) hP hS hl (fun lv2 σ2 al2 H2 locs2 d2 a1 a2 a3 a4 a5 a6 => tail lv2 σ2 al2 H2 locs2 d2 _ _ (by omega) (by omega) a1 a2 a3 a4 a5 a6)
      refine Classical.byCases (p := w = 19) (fun hc => ?_) (fun n19 => ?_)
      · rw [hc]
        refine lv_tableIn (off := 798) (tgt := 831) hx hb dL_law_33 (by decide) (by decide) rfl (by decide) ?_
        exact law_send o19 hC hX hbl hbA hL hx3 hi6 hI hd0 (by omega) (by omega) hP hS hl (fun lv2 σ2 al2 H2 locs2 d2 a1 a2 a3 a4 a5 a6 => tail lv2 σ2 al2 H2 locs2 d2 _ _ (by omega) (by omega) a1 a2 a3 a4 a5 a6)
      refine Classical.byCases (p := w = 20) (fun hc => ?_) (fun n20 => ?_)
      · rw [hc]
        refine lv_tableIn (off := 831) (tgt := 864) hx hb dL_law_33 (by decide) (by decide) rfl (by decide) ?_
        exact law_sent o20 hC hX hbl hbA hL hx3 hi6 hI hd0 (by omega) (by omega) hP hS hl (fun lv2 σ2 al2 H2 locs2 d2 a1 a2 a3 a4 a5 a6 => tail lv2 σ2 al2 H2 locs2 d2 _ _ (by omega) (by omega) a1 a2 a3 a4 a5 a6)
      refine Classical.byCases (p := w = 21) (fun hc => ?_) (fun n21 => ?_)
      · rw [hc]
        refine lv_tableIn (off := 854) (tgt := 887) hx hb dL_law_33 (by decide) (by decide) rfl (by decide) ?_
        exact law_list o21 hC hX hbl hbA hL hx3 hi6 hI hd0 (by omega) (by omega) hP hS hl (fun lv2 σ2 al2 H2 locs2 d2 a1 a2 a3 a4 a5 a6 => tail lv2 σ2 al2 H2 locs2 d2 _ _ (by omega) (by omega) a1 a2 a3 a4 a5 a6)
      refine Classical.byCases (p := w = 22) (fun hc => ?_) (fun n22 => ?_)
      · rw [hc]
        refine lv_tableIn (off := 877) (tgt := 910) hx hb dL_law_33 (by decide) (by decide) rfl (by decide) ?_
        exact law_price o22 hC hX hbl hbA hL hx3 hi6 hI hd0 (by omega) (by omega) hP hS hl (fun lv2 σ2 al2 H2 locs2 d2 a1 a2 a3 a4 a5 a6 => tail lv2 σ2 al2 H2 locs2 d2 _ _ (by omega) (by omega) a1 a2 a3 a4 a5 a6)
      refine Classical.byCases (p := w = 23) (fun hc => ?_) (fun n23 => ?_)
      · rw [hc]
        refine lv_tableIn (off := 910) (tgt := 943) hx hb dL_law_33 (by decide) (by decide) rfl (by decide) ?_
        exact law_foretell o23 hC hX hbl hbA hL hx3 hi6 hI hd0 (by omega) (by omega) hP hS hl (fun lv2 σ2 al2 H2 locs2 d2 a1 a2 a3 a4 a5 a6 => tail lv2 σ2 al2 H2 locs2 d2 _ _ (by omega) (by omega) a1 a2 a3 a4 a5 a6)
      refine Classical.byCases (p := w = 24) (fun hc => ?_) (fun n24 => ?_)
      · rw [hc]
        refine lv_tableIn (off := 943) (tgt := 976) hx hb dL_law_33 (by decide) (by decide) rfl (by decide) ?_
        exact law_foretold o24 hC hX hbl hbA hL hx3 hi6 hI hd0 (by omega) (by omega) hP hS hl (fun lv2 σ2 al2 H2 locs2 d2 a1 a2 a3 a4 a5 a6 => tail lv2 σ2 al2 H2 locs2 d2 _ _ (by omega) (by omega) a1 a2 a3 a4 a5 a6)
      refine Classical.byCases (p := w = 25) (fun hc => ?_) (fun n25 => ?_)
      · rw [hc]
        refine lv_tableIn (off := 976) (tgt := 1009) hx hb dL_law_33 (by decide) (by decide) rfl (by decide) ?_
        exact law_last o25 hC hX hbl hbA hL hx3 hi6 hI hd0 (by omega) (by omega) hP hS hl (fun lv2 σ2 al2 H2 locs2 d2 a1 a2 a3 a4 a5 a6 => tail lv2 σ2 al2 H2 locs2 d2 _ _ (by omega) (by omega) a1 a2 a3 a4 a5 a6)
      refine Classical.byCases (p := w = 26) (fun hc => ?_) (fun n26 => ?_)
      · rw [hc]
        refine lv_tableIn (off := 989) (tgt := 1022) hx hb dL_law_33 (by decide) (by decide) rfl (by decide) ?_
        exact law_heap o26 hC hX hbl hbA hL hx3 hi6 hI hd0 (by omega) (by omega) hP hS hl (fun lv2 σ2 al2 H2 locs2 d2 a1 a2 a3 a4 a5 a6 => tail lv2 σ2 al2 H2 locs2 d2 _ _ (by omega) (by omega) a1 a2 a3 a4 a5 a6)
      refine Classical.byCases (p := w = 27) (fun hc => ?_) (fun n27 => ?_)
      · rw [hc]
        refine lv_tableIn (off := 1022) (tgt := 1055) hx hb dL_law_33 (by decide) (by decide) rfl (by decide) ?_
        exact law_pack o27 hC hX hbl hbA hL hx3 hi6 hI hd0 (by omega) (by omega) hP hS hl (fun lv2 σ2 al2 H2 locs2 d2 a1 a2 a3 a4 a5 a6 => tail lv2 σ2 al2 H2 locs2 d2 _ _ (by omega) (by omega) a1 a2 a3 a4 a5 a6)
      refine Classical.byCases (p := w = 28) (fun hc => ?_) (fun n28 => ?_)
      · rw [hc]
        refine lv_tableIn (off := 1045) (tgt := 1078) hx hb dL_law_33 (by decide) (by decide) rfl (by decide) ?_
        exact law_image o28 hC hX hbl hbA hL hx3 hi6 hI hd0 (by omega) (by omega) hP hS hl (fun lv2 σ2 al2 H2 locs2 d2 a1 a2 a3 a4 a5 a6 => tail lv2 σ2 al2 H2 locs2 d2 _ _ (by omega) (by omega) a1 a2 a3 a4 a5 a6)
      refine Classical.byCases (p := w = 29) (fun hc => ?_) (fun n29 => ?_)
      · rw [hc]
        refine lv_tableIn (off := 1068) (tgt := 1101) hx hb dL_law_33 (by decide) (by decide) rfl (by decide) ?_
        exact law_back o29 hC hX hbl hbA hL hx3 hi6 hI hd0 (by omega) (by omega) hP hS hl (fun lv2 σ2 al2 H2 locs2 d2 a1 a2 a3 a4 a5 a6 => tail lv2 σ2 al2 H2 locs2 d2 _ _ (by omega) (by omega) a1 a2 a3 a4 a5 a6)
      refine Classical.byCases (p := w = 30) (fun hc => ?_) (fun n30 => ?_)
      · rw [hc]
        refine lv_tableIn (off := 1091) (tgt := 1124) hx hb dL_law_33 (by decide) (by decide) rfl (by decide) ?_
        exact law_line o30 hC hX hbl hbA hL hx3 hi6 hI hd0 (by omega) (by omega) hP hS hl (fun lv2 σ2 al2 H2 locs2 d2 a1 a2 a3 a4 a5 a6 => tail lv2 σ2 al2 H2 locs2 d2 _ _ (by omega) (by omega) a1 a2 a3 a4 a5 a6)
      refine Classical.byCases (p := w = 31) (fun hc => ?_) (fun n31 => ?_)
      · rw [hc]
        refine lv_tableIn (off := 1124) (tgt := 1157) hx hb dL_law_33 (by decide) (by decide) rfl (by decide) ?_
        exact law_alter o31 hC hX hbl hbA hL hx3 hi6 hI hd0 (by omega) (by omega) hP hS hl (fun lv2 σ2 al2 H2 locs2 d2 a1 a2 a3 a4 a5 a6 => tail lv2 σ2 al2 H2 locs2 d2 _ _ (by omega) (by omega) a1 a2 a3 a4 a5 a6)
      refine Classical.byCases (p := w = 32) (fun hc => ?_) (fun n32 => ?_)
      · rw [hc]
        refine lv_tableIn (off := 1167) (tgt := 1200) hx hb dL_law_33 (by decide) (by decide) rfl (by decide) ?_
        exact law_check o32 hC hX hbl hbA hL hx3 hi6 hI hd0 (by omega) (by omega) hP hS hl (fun lv2 σ2 al2 H2 locs2 d2 a1 a2 a3 a4 a5 a6 => tail lv2 σ2 al2 H2 locs2 d2 _ _ (by omega) (by omega) a1 a2 a3 a4 a5 a6)
      refine Classical.byCases (p := w = 33) (fun hc => ?_) (fun n33 => ?_)
      · rw [hc]
        refine lv_tableIn (off := 1180) (tgt := 1213) hx hb dL_law_33 (by decide) (by decide) rfl (by decide) ?_
        exact law_status o33 hC hX hbl hbA hL hx3 hi6 hI hd0 (by omega) (by omega) hP hS hl (fun lv2 σ2 al2 H2 locs2 d2 a1 a2 a3 a4 a5 a6 => tail lv2 σ2 al2 H2 locs2 d2 _ _ (by omega) (by omega) a1 a2 a3 a4 a5 a6)
      have m0 := lv_neT (a := 0) n0 rfl
      have m1 := lv_neT (a := 1) n1 rfl
      have m2 := lv_neT (a := 2) n2 rfl
      have m3 := lv_neT (a := 3) n3 rfl
      have m4 := lv_neT (a := 4) n4 rfl
      have m5 := lv_neT (a := 5) n5 rfl
      have m6 := lv_neT (a := 6) n6 rfl
      have m7 := lv_neT (a := 7) n7 rfl
      have m8 := lv_neT (a := 8) n8 rfl
      have m9 := lv_neT (a := 9) n9 rfl
      have m10 := lv_neT (a := 10) n10 rfl
      have m11 := lv_neT (a := 11) n11 rfl
      have m12 := lv_neT (a := 12) n12 rfl
      have m13 := lv_neT (a := 13) n13 rfl
      have m14 := lv_neT (a := 14) n14 rfl
      have m15 := lv_neT (a := 15) n15 rfl
      have m16 := lv_neT (a := 16) n16 rfl
      have m17 := lv_neT (a := 17) n17 rfl
      have m18 := lv_neT (a := 18) n18 rfl
      have m19 := lv_neT (a := 19) n19 rfl
      have m20 := lv_neT (a := 20) n20 rfl
      have m21 := lv_neT (a := 21) n21 rfl
      have m22 := lv_neT (a := 22) n22 rfl
      have m23 := lv_neT (a := 23) n23 rfl
      have m24 := lv_neT (a := 24) n24 rfl
      have m25 := lv_neT (a := 25) n25 rfl
      have m26 := lv_neT (a := 26) n26 rfl
      have m27 := lv_neT (a := 27) n27 rfl
      have m28 := lv_neT (a := 28) n28 rfl
      have m29 := lv_neT (a := 29) n29 rfl
      have m30 := lv_neT (a := 30) n30 rfl
      have m31 := lv_neT (a := 31) n31 rfl
      have m32 := lv_neT (a := 32) n32 rfl
      have m33 := lv_neT (a := 33) n33 rfl
      refine lv_tableOut (tgt := 1226) hx hb dL_law_33 (by omega) (by decide) ?_
      exact tail lv σ al H locs d0 _ _ (by omega) (by omega) hI hd0 rfl rfl hP hS
