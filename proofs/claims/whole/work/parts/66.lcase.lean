set_option maxRecDepth 20000 in
theorem law_room {p : Program} {l : Launch} {e : Env} {s : State} {m : MethodId} {below : List Frame} {meth : Method} {c : Code} {H : Heap} {locs : List Loc} {cells slots : Nat} {Q : State → Prop} {ls : Array Slot} {x : Wx} {al : Nat → Nat → Nat} {lv : Nat → Bool} {σ : Sg} {b L : Nat} {xs : Nat → Int32} {d0 : Drawn} {Inv : (Nat → Bool) → Sg → Prop} {i : Nat} {x3 : Int32} (hop : Op_room Inv) (hC : Cx x p s m #[Value.ref b] meth c cL_law 4 (some .boolean) "IceTradeLaw") (hX : va_X b L xs s s.heap) (hbl : b < s.heap.size) (hbA : ¬ Ab x b) (hL : L ≤ 3072) (hx3 : x3 = nI i) (hi6 : i + 6 ≤ L) (hI : Inv lv σ) (hd0 : s.drawn.sameBut d0 lw_cs) (hcc : cells + 24 ≤ 101448) (hss : slots + 5400 ≤ 8797906) (hP : Pic x al lv σ H) (hS : va_S (Ab x) s.heap H locs) (hl : lv_has ls 4 [(0, .ref b), (1, .ref (al 6 0)), (2, .ref (al 7 0)), (3, .int x3)]) (kk : ∀ (lv2 : Nat → Bool) (σ2 : Sg) (al2 : Nat → Nat → Nat) (H2 : Heap) (locs2 : List Loc) (d2 : Drawn), Inv lv2 σ2 → s.drawn.sameBut d2 lw_cs → al2 6 0 = al 6 0 → al2 7 0 = al 7 0 → Pic x al2 lv2 σ2 H2 → va_S (Ab x) s.heap H2 locs2 → W p l e room_1 (s.setDrawn d2) m #[Value.ref b] below meth c H2 locs2 (cells + 0) (slots + 0) Q (F0 m 1226 ls [])) : W p l e room_1 (s.setDrawn d0) m #[Value.ref b] below meth c H locs cells slots Q (F0 m 184 ls []) := by
  obtain ⟨hx, hb, hml, hown, hts⟩ := hC.1
  obtain ⟨r, σ1, h1, σ2, h2, hI2⟩ := hop lv σ hI (xs (x3 + 1).toNatClampNeg) (xs (x3 + 2).toNatClampNeg) (xs (x3 + 3).toNatClampNeg) (xs (x3 + 4).toNatClampNeg) (xs (x3 + 5).toNatClampNeg)
  refine lv_aload_n hx hb dL_law_184 rfl (lv_at hl 1 rfl) ?_
  refine lv_aload_n hx hb dL_law_185 rfl (lv_at hl 0 rfl) ?_
  refine lv_iload_n hx hb dL_law_186 rfl (lv_at hl 3 rfl) ?_
  refine lv_iconst (v := 1) hx hb dL_law_187 (by decide) ?_
  refine lv_iadd hx hb dL_law_188 ?_
  refine va_sld (s := s.setDrawn d0) hx hb hX hbl hbA hS (law_in (v := 1) (j := 1) hL hx3 hi6 (by decide) (by decide)) dL_law_189 ?_
  refine lv_aload_n hx hb dL_law_190 rfl (lv_at hl 0 rfl) ?_
  refine lv_iload_n hx hb dL_law_191 rfl (lv_at hl 3 rfl) ?_
  refine lv_iconst (v := 2) hx hb dL_law_192 (by decide) ?_
  refine lv_iadd hx hb dL_law_193 ?_
  refine va_sld (s := s.setDrawn d0) hx hb hX hbl hbA hS (law_in (v := 2) (j := 2) hL hx3 hi6 (by decide) (by decide)) dL_law_194 ?_
  refine lv_aload_n hx hb dL_law_195 rfl (lv_at hl 0 rfl) ?_
  refine lv_iload_n hx hb dL_law_196 rfl (lv_at hl 3 rfl) ?_
  refine lv_iconst (v := 3) hx hb dL_law_197 (by decide) ?_
  refine lv_iadd hx hb dL_law_198 ?_
  refine va_sld (s := s.setDrawn d0) hx hb hX hbl hbA hS (law_in (v := 3) (j := 3) hL hx3 hi6 (by decide) (by decide)) dL_law_199 ?_
  refine lv_aload_n hx hb dL_law_200 rfl (lv_at hl 0 rfl) ?_
  refine lv_iload_n hx hb dL_law_201 rfl (lv_at hl 3 rfl) ?_
  refine lv_iconst (v := 4) hx hb dL_law_202 (by decide) ?_
  refine lv_iadd hx hb dL_law_203 ?_
  refine va_sld (s := s.setDrawn d0) hx hb hX hbl hbA hS (law_in (v := 4) (j := 4) hL hx3 hi6 (by decide) (by decide)) dL_law_204 ?_
  refine lv_aload_n hx hb dL_law_205 rfl (lv_at hl 0 rfl) ?_
  refine lv_iload_n hx hb dL_law_206 rfl (lv_at hl 3 rfl) ?_
  refine lv_iconst (v := 5) hx hb dL_law_207 (by decide) ?_
  refine lv_iadd hx hb dL_law_208 ?_
  refine va_sld (s := s.setDrawn d0) hx hb hX hbl hbA hS (law_in (v := 5) (j := 5) hL hx3 hi6 (by decide) (by decide)) dL_law_209 ?_
  refine l_cI hS (r_runV (As := [.int (xs (x3 + 1).toNatClampNeg), .int (xs (x3 + 2).toNatClampNeg), .int (xs (x3 + 3).toNatClampNeg), .int (xs (x3 + 4).toNatClampNeg), .int (xs (x3 + 5).toNatClampNeg)]) (rest := []) (hC.drew d0) kV_L_13 cw_X11_room (rc_X11 (hC.drew d0) hP) hP (tI_room x al lv σ (xs (x3 + 1).toNatClampNeg) (xs (x3 + 2).toNatClampNeg) (xs (x3 + 3).toNatClampNeg) (xs (x3 + 4).toNatClampNeg) (xs (x3 + 5).toNatClampNeg) _ h1) rfl hl.1 ⟨Nat.le_of_ble_eq_true rfl, Nat.le_of_ble_eq_true rfl⟩ ⟨by show cells + 0 ≤ 101448; omega, by show slots + 0 ≤ 8797906; omega⟩ (Nat.le_of_ble_eq_true rfl) dL_law_210) (fun H locs hP hS => ?_)
  refine lv_aload_n hx hb dL_law_213 rfl (lv_at hl 2 rfl) ?_
  refine lv_aload_n hx hb dL_law_214 rfl (lv_at hl 0 rfl) ?_
  refine lv_iload_n hx hb dL_law_215 rfl (lv_at hl 3 rfl) ?_
  refine lv_iconst (v := 1) hx hb dL_law_216 (by decide) ?_
  refine lv_iadd hx hb dL_law_217 ?_
  refine va_sld (s := s.setDrawn d0) hx hb hX hbl hbA hS (law_in (v := 1) (j := 1) hL hx3 hi6 (by decide) (by decide)) dL_law_218 ?_
  refine lv_aload_n hx hb dL_law_219 rfl (lv_at hl 0 rfl) ?_
  refine lv_iload_n hx hb dL_law_220 rfl (lv_at hl 3 rfl) ?_
  refine lv_iconst (v := 2) hx hb dL_law_221 (by decide) ?_
  refine lv_iadd hx hb dL_law_222 ?_
  refine va_sld (s := s.setDrawn d0) hx hb hX hbl hbA hS (law_in (v := 2) (j := 2) hL hx3 hi6 (by decide) (by decide)) dL_law_223 ?_
  refine lv_aload_n hx hb dL_law_224 rfl (lv_at hl 0 rfl) ?_
  refine lv_iload_n hx hb dL_law_225 rfl (lv_at hl 3 rfl) ?_
  refine lv_iconst (v := 3) hx hb dL_law_226 (by decide) ?_
  refine lv_iadd hx hb dL_law_227 ?_
  refine va_sld (s := s.setDrawn d0) hx hb hX hbl hbA hS (law_in (v := 3) (j := 3) hL hx3 hi6 (by decide) (by decide)) dL_law_228 ?_
  refine lv_aload_n hx hb dL_law_229 rfl (lv_at hl 0 rfl) ?_
  refine lv_iload_n hx hb dL_law_230 rfl (lv_at hl 3 rfl) ?_
  refine lv_iconst (v := 4) hx hb dL_law_231 (by decide) ?_
  refine lv_iadd hx hb dL_law_232 ?_
  refine va_sld (s := s.setDrawn d0) hx hb hX hbl hbA hS (law_in (v := 4) (j := 4) hL hx3 hi6 (by decide) (by decide)) dL_law_233 ?_
  refine lv_aload_n hx hb dL_law_234 rfl (lv_at hl 0 rfl) ?_
  refine lv_iload_n hx hb dL_law_235 rfl (lv_at hl 3 rfl) ?_
  refine lv_iconst (v := 5) hx hb dL_law_236 (by decide) ?_
  refine lv_iadd hx hb dL_law_237 ?_
  refine va_sld (s := s.setDrawn d0) hx hb hX hbl hbA hS (law_in (v := 5) (j := 5) hL hx3 hi6 (by decide) (by decide)) dL_law_238 ?_
  refine l_cI hS (r_runV (As := [.int (xs (x3 + 1).toNatClampNeg), .int (xs (x3 + 2).toNatClampNeg), .int (xs (x3 + 3).toNatClampNeg), .int (xs (x3 + 4).toNatClampNeg), .int (xs (x3 + 5).toNatClampNeg)]) (rest := [.int r]) (hC.drew d0) kV_L_17 cw_X12_room (rc_X12 (hC.drew d0) hP) hP (tM_room x al lv σ1 (xs (x3 + 1).toNatClampNeg) (xs (x3 + 2).toNatClampNeg) (xs (x3 + 3).toNatClampNeg) (xs (x3 + 4).toNatClampNeg) (xs (x3 + 5).toNatClampNeg) _ h2) rfl hl.1 ⟨Nat.le_of_ble_eq_true rfl, Nat.le_of_ble_eq_true rfl⟩ ⟨by show cells + 0 ≤ 101448; omega, by show slots + 0 ≤ 8797906; omega⟩ (Nat.le_of_ble_eq_true rfl) dL_law_239) (fun H locs hP hS => ?_)
  refine lv_icmp_eq (tgt := 1226) hx hb dL_law_242 (by decide) (fun _ => ?_) (fun hc => absurd rfl hc)
  exact kk lv σ2 al H locs d0 hI2 hd0 rfl rfl hP hS
set_option maxRecDepth 20000 in
theorem law_rooms {p : Program} {l : Launch} {e : Env} {s : State} {m : MethodId} {below : List Frame} {meth : Method} {c : Code} {H : Heap} {locs : List Loc} {cells slots : Nat} {Q : State → Prop} {ls : Array Slot} {x : Wx} {al : Nat → Nat → Nat} {lv : Nat → Bool} {σ : Sg} {b L : Nat} {xs : Nat → Int32} {d0 : Drawn} {Inv : (Nat → Bool) → Sg → Prop} {i : Nat} {x3 : Int32} (hop : Op_rooms Inv) (hC : Cx x p s m #[Value.ref b] meth c cL_law 4 (some .boolean) "IceTradeLaw") (hX : va_X b L xs s s.heap) (hbl : b < s.heap.size) (hbA : ¬ Ab x b) (hL : L ≤ 3072) (hx3 : x3 = nI i) (hi6 : i + 6 ≤ L) (hI : Inv lv σ) (hd0 : s.drawn.sameBut d0 lw_cs) (hcc : cells + 24 ≤ 101448) (hss : slots + 5400 ≤ 8797906) (hP : Pic x al lv σ H) (hS : va_S (Ab x) s.heap H locs) (hl : lv_has ls 4 [(0, .ref b), (1, .ref (al 6 0)), (2, .ref (al 7 0)), (3, .int x3)]) (kk : ∀ (lv2 : Nat → Bool) (σ2 : Sg) (al2 : Nat → Nat → Nat) (H2 : Heap) (locs2 : List Loc) (d2 : Drawn), Inv lv2 σ2 → s.drawn.sameBut d2 lw_cs → al2 6 0 = al 6 0 → al2 7 0 = al 7 0 → Pic x al2 lv2 σ2 H2 → va_S (Ab x) s.heap H2 locs2 → W p l e room_1 (s.setDrawn d2) m #[Value.ref b] below meth c H2 locs2 (cells + 0) (slots + 0) Q (F0 m 1226 ls [])) : W p l e room_1 (s.setDrawn d0) m #[Value.ref b] below meth c H locs cells slots Q (F0 m 247 ls []) := by
  obtain ⟨hx, hb, hml, hown, hts⟩ := hC.1
  obtain ⟨r, σ1, h1, h2, hI2⟩ := hop lv σ hI (xs (x3 + 1).toNatClampNeg) (xs (x3 + 2).toNatClampNeg)
  refine lv_aload_n hx hb dL_law_247 rfl (lv_at hl 1 rfl) ?_
  refine lv_aload_n hx hb dL_law_248 rfl (lv_at hl 0 rfl) ?_
  refine lv_iload_n hx hb dL_law_249 rfl (lv_at hl 3 rfl) ?_
  refine lv_iconst (v := 1) hx hb dL_law_250 (by decide) ?_
  refine lv_iadd hx hb dL_law_251 ?_
  refine va_sld (s := s.setDrawn d0) hx hb hX hbl hbA hS (law_in (v := 1) (j := 1) hL hx3 hi6 (by decide) (by decide)) dL_law_252 ?_
  refine lv_aload_n hx hb dL_law_253 rfl (lv_at hl 0 rfl) ?_
  refine lv_iload_n hx hb dL_law_254 rfl (lv_at hl 3 rfl) ?_
  refine lv_iconst (v := 2) hx hb dL_law_255 (by decide) ?_
  refine lv_iadd hx hb dL_law_256 ?_
  refine va_sld (s := s.setDrawn d0) hx hb hX hbl hbA hS (law_in (v := 2) (j := 2) hL hx3 hi6 (by decide) (by decide)) dL_law_257 ?_
  refine l_cI hS (r_runV (As := [.int (xs (x3 + 1).toNatClampNeg), .int (xs (x3 + 2).toNatClampNeg)]) (rest := []) (hC.drew d0) kV_L_18 cw_X11_rooms (rc_X11 (hC.drew d0) hP) hP (tI_rooms x al lv σ (xs (x3 + 1).toNatClampNeg) (xs (x3 + 2).toNatClampNeg) _ h1) rfl hl.1 ⟨Nat.le_of_ble_eq_true rfl, Nat.le_of_ble_eq_true rfl⟩ ⟨by show cells + 0 ≤ 101448; omega, by show slots + 0 ≤ 8797906; omega⟩ (Nat.le_of_ble_eq_true rfl) dL_law_258) (fun H locs hP hS => ?_)
  refine lv_aload_n hx hb dL_law_261 rfl (lv_at hl 2 rfl) ?_
  refine lv_aload_n hx hb dL_law_262 rfl (lv_at hl 0 rfl) ?_
  refine lv_iload_n hx hb dL_law_263 rfl (lv_at hl 3 rfl) ?_
  refine lv_iconst (v := 1) hx hb dL_law_264 (by decide) ?_
  refine lv_iadd hx hb dL_law_265 ?_
  refine va_sld (s := s.setDrawn d0) hx hb hX hbl hbA hS (law_in (v := 1) (j := 1) hL hx3 hi6 (by decide) (by decide)) dL_law_266 ?_
  refine lv_aload_n hx hb dL_law_267 rfl (lv_at hl 0 rfl) ?_
  refine lv_iload_n hx hb dL_law_268 rfl (lv_at hl 3 rfl) ?_
  refine lv_iconst (v := 2) hx hb dL_law_269 (by decide) ?_
  refine lv_iadd hx hb dL_law_270 ?_
  refine va_sld (s := s.setDrawn d0) hx hb hX hbl hbA hS (law_in (v := 2) (j := 2) hL hx3 hi6 (by decide) (by decide)) dL_law_271 ?_
  refine l_cP hS (r_runV (As := [.int (xs (x3 + 1).toNatClampNeg), .int (xs (x3 + 2).toNatClampNeg)]) (rest := [.int r]) (hC.drew d0) kV_L_22 cw_X12_rooms (rc_X12 (hC.drew d0) hP) hP (tM_rooms x al lv σ1 (xs (x3 + 1).toNatClampNeg) (xs (x3 + 2).toNatClampNeg) _ h2) rfl hl.1 ⟨Nat.le_of_ble_eq_true rfl, Nat.le_of_ble_eq_true rfl⟩ ⟨by show cells + 0 ≤ 101448; omega, by show slots + 0 ≤ 8797906; omega⟩ (Nat.le_of_ble_eq_true rfl) dL_law_272) (fun H locs hP hS => ?_)
  refine lv_icmp_eq (tgt := 1226) hx hb dL_law_275 (by decide) (fun _ => ?_) (fun hc => absurd rfl hc)
  exact kk lv σ1 al H locs d0 hI2 hd0 rfl rfl hP hS
set_option maxRecDepth 20000 in
theorem law_lay {p : Program} {l : Launch} {e : Env} {s : State} {m : MethodId} {below : List Frame} {meth : Method} {c : Code} {H : Heap} {locs : List Loc} {cells slots : Nat} {Q : State → Prop} {ls : Array Slot} {x : Wx} {al : Nat → Nat → Nat} {lv : Nat → Bool} {σ : Sg} {b L : Nat} {xs : Nat → Int32} {d0 : Drawn} {Inv : (Nat → Bool) → Sg → Prop} {i : Nat} {x3 : Int32} (hop : Op_lay Inv) (hC : Cx x p s m #[Value.ref b] meth c cL_law 4 (some .boolean) "IceTradeLaw") (hX : va_X b L xs s s.heap) (hbl : b < s.heap.size) (hbA : ¬ Ab x b) (hL : L ≤ 3072) (hx3 : x3 = nI i) (hi6 : i + 6 ≤ L) (hI : Inv lv σ) (hd0 : s.drawn.sameBut d0 lw_cs) (hcc : cells + 24 ≤ 101448) (hss : slots + 5400 ≤ 8797906) (hP : Pic x al lv σ H) (hS : va_S (Ab x) s.heap H locs) (hl : lv_has ls 4 [(0, .ref b), (1, .ref (al 6 0)), (2, .ref (al 7 0)), (3, .int x3)]) (kk : ∀ (lv2 : Nat → Bool) (σ2 : Sg) (al2 : Nat → Nat → Nat) (H2 : Heap) (locs2 : List Loc) (d2 : Drawn), Inv lv2 σ2 → s.drawn.sameBut d2 lw_cs → al2 6 0 = al 6 0 → al2 7 0 = al 7 0 → Pic x al2 lv2 σ2 H2 → va_S (Ab x) s.heap H2 locs2 → W p l e room_1 (s.setDrawn d2) m #[Value.ref b] below meth c H2 locs2 (cells + 0) (slots + 0) Q (F0 m 1226 ls [])) : W p l e room_1 (s.setDrawn d0) m #[Value.ref b] below meth c H locs cells slots Q (F0 m 280 ls []) := by
  obtain ⟨hx, hb, hml, hown, hts⟩ := hC.1
  obtain ⟨r, σ1, h1, σ2, h2, hI2⟩ := hop lv σ hI (xs (x3 + 1).toNatClampNeg) (xs (x3 + 2).toNatClampNeg) (xs (x3 + 3).toNatClampNeg)
  refine lv_aload_n hx hb dL_law_280 rfl (lv_at hl 1 rfl) ?_
  refine lv_aload_n hx hb dL_law_281 rfl (lv_at hl 0 rfl) ?_
  refine lv_iload_n hx hb dL_law_282 rfl (lv_at hl 3 rfl) ?_
  refine lv_iconst (v := 1) hx hb dL_law_283 (by decide) ?_
  refine lv_iadd hx hb dL_law_284 ?_
  refine va_sld (s := s.setDrawn d0) hx hb hX hbl hbA hS (law_in (v := 1) (j := 1) hL hx3 hi6 (by decide) (by decide)) dL_law_285 ?_
  refine lv_aload_n hx hb dL_law_286 rfl (lv_at hl 0 rfl) ?_
  refine lv_iload_n hx hb dL_law_287 rfl (lv_at hl 3 rfl) ?_
  refine lv_iconst (v := 2) hx hb dL_law_288 (by decide) ?_
  refine lv_iadd hx hb dL_law_289 ?_
  refine va_sld (s := s.setDrawn d0) hx hb hX hbl hbA hS (law_in (v := 2) (j := 2) hL hx3 hi6 (by decide) (by decide)) dL_law_290 ?_
  refine lv_aload_n hx hb dL_law_291 rfl (lv_at hl 0 rfl) ?_
  refine lv_iload_n hx hb dL_law_292 rfl (lv_at hl 3 rfl) ?_
  refine lv_iconst (v := 3) hx hb dL_law_293 (by decide) ?_
  refine lv_iadd hx hb dL_law_294 ?_
  refine va_sld (s := s.setDrawn d0) hx hb hX hbl hbA hS (law_in (v := 3) (j := 3) hL hx3 hi6 (by decide) (by decide)) dL_law_295 ?_
  refine l_cI hS (r_runV (As := [.int (xs (x3 + 1).toNatClampNeg), .int (xs (x3 + 2).toNatClampNeg), .int (xs (x3 + 3).toNatClampNeg)]) (rest := []) (hC.drew d0) kV_L_23 cw_X11_lay (rc_X11 (hC.drew d0) hP) hP (tI_lay x al lv σ (xs (x3 + 1).toNatClampNeg) (xs (x3 + 2).toNatClampNeg) (xs (x3 + 3).toNatClampNeg) _ h1) rfl hl.1 ⟨Nat.le_of_ble_eq_true rfl, Nat.le_of_ble_eq_true rfl⟩ ⟨by show cells + 0 ≤ 101448; omega, by show slots + 0 ≤ 8797906; omega⟩ (Nat.le_of_ble_eq_true rfl) dL_law_296) (fun H locs hP hS => ?_)
  refine lv_aload_n hx hb dL_law_299 rfl (lv_at hl 2 rfl) ?_
  refine lv_aload_n hx hb dL_law_300 rfl (lv_at hl 0 rfl) ?_
  refine lv_iload_n hx hb dL_law_301 rfl (lv_at hl 3 rfl) ?_
  refine lv_iconst (v := 1) hx hb dL_law_302 (by decide) ?_
  refine lv_iadd hx hb dL_law_303 ?_
  refine va_sld (s := s.setDrawn d0) hx hb hX hbl hbA hS (law_in (v := 1) (j := 1) hL hx3 hi6 (by decide) (by decide)) dL_law_304 ?_
  refine lv_aload_n hx hb dL_law_305 rfl (lv_at hl 0 rfl) ?_
  refine lv_iload_n hx hb dL_law_306 rfl (lv_at hl 3 rfl) ?_
  refine lv_iconst (v := 2) hx hb dL_law_307 (by decide) ?_
  refine lv_iadd hx hb dL_law_308 ?_
  refine va_sld (s := s.setDrawn d0) hx hb hX hbl hbA hS (law_in (v := 2) (j := 2) hL hx3 hi6 (by decide) (by decide)) dL_law_309 ?_
  refine lv_aload_n hx hb dL_law_310 rfl (lv_at hl 0 rfl) ?_
  refine lv_iload_n hx hb dL_law_311 rfl (lv_at hl 3 rfl) ?_
  refine lv_iconst (v := 3) hx hb dL_law_312 (by decide) ?_
  refine lv_iadd hx hb dL_law_313 ?_
  refine va_sld (s := s.setDrawn d0) hx hb hX hbl hbA hS (law_in (v := 3) (j := 3) hL hx3 hi6 (by decide) (by decide)) dL_law_314 ?_
  refine l_cI hS (r_runV (As := [.int (xs (x3 + 1).toNatClampNeg), .int (xs (x3 + 2).toNatClampNeg), .int (xs (x3 + 3).toNatClampNeg)]) (rest := [.int r]) (hC.drew d0) kV_L_27 cw_X12_lay (rc_X12 (hC.drew d0) hP) hP (tM_lay x al lv σ1 (xs (x3 + 1).toNatClampNeg) (xs (x3 + 2).toNatClampNeg) (xs (x3 + 3).toNatClampNeg) _ h2) rfl hl.1 ⟨Nat.le_of_ble_eq_true rfl, Nat.le_of_ble_eq_true rfl⟩ ⟨by show cells + 0 ≤ 101448; omega, by show slots + 0 ≤ 8797906; omega⟩ (Nat.le_of_ble_eq_true rfl) dL_law_315) (fun H locs hP hS => ?_)
  refine lv_icmp_eq (tgt := 1226) hx hb dL_law_318 (by decide) (fun _ => ?_) (fun hc => absurd rfl hc)
  exact kk lv σ2 al H locs d0 hI2 hd0 rfl rfl hP hS
set_option maxRecDepth 20000 in
theorem law_tear {p : Program} {l : Launch} {e : Env} {s : State} {m : MethodId} {below : List Frame} {meth : Method} {c : Code} {H : Heap} {locs : List Loc} {cells slots : Nat} {Q : State → Prop} {ls : Array Slot} {x : Wx} {al : Nat → Nat → Nat} {lv : Nat → Bool} {σ : Sg} {b L : Nat} {xs : Nat → Int32} {d0 : Drawn} {Inv : (Nat → Bool) → Sg → Prop} {i : Nat} {x3 : Int32} (hop : Op_tear Inv) (hC : Cx x p s m #[Value.ref b] meth c cL_law 4 (some .boolean) "IceTradeLaw") (hX : va_X b L xs s s.heap) (hbl : b < s.heap.size) (hbA : ¬ Ab x b) (hL : L ≤ 3072) (hx3 : x3 = nI i) (hi6 : i + 6 ≤ L) (hI : Inv lv σ) (hd0 : s.drawn.sameBut d0 lw_cs) (hcc : cells + 24 ≤ 101448) (hss : slots + 5400 ≤ 8797906) (hP : Pic x al lv σ H) (hS : va_S (Ab x) s.heap H locs) (hl : lv_has ls 4 [(0, .ref b), (1, .ref (al 6 0)), (2, .ref (al 7 0)), (3, .int x3)]) (kk : ∀ (lv2 : Nat → Bool) (σ2 : Sg) (al2 : Nat → Nat → Nat) (H2 : Heap) (locs2 : List Loc) (d2 : Drawn), Inv lv2 σ2 → s.drawn.sameBut d2 lw_cs → al2 6 0 = al 6 0 → al2 7 0 = al 7 0 → Pic x al2 lv2 σ2 H2 → va_S (Ab x) s.heap H2 locs2 → W p l e room_1 (s.setDrawn d2) m #[Value.ref b] below meth c H2 locs2 (cells + 0) (slots + 0) Q (F0 m 1226 ls [])) : W p l e room_1 (s.setDrawn d0) m #[Value.ref b] below meth c H locs cells slots Q (F0 m 323 ls []) := by
  obtain ⟨hx, hb, hml, hown, hts⟩ := hC.1
  obtain ⟨r, σ1, h1, σ2, h2, hI2⟩ := hop lv σ hI (xs (x3 + 1).toNatClampNeg) (xs (x3 + 2).toNatClampNeg) (xs (x3 + 3).toNatClampNeg)
  refine lv_aload_n hx hb dL_law_323 rfl (lv_at hl 1 rfl) ?_
  refine lv_aload_n hx hb dL_law_324 rfl (lv_at hl 0 rfl) ?_
  refine lv_iload_n hx hb dL_law_325 rfl (lv_at hl 3 rfl) ?_
  refine lv_iconst (v := 1) hx hb dL_law_326 (by decide) ?_
  refine lv_iadd hx hb dL_law_327 ?_
  refine va_sld (s := s.setDrawn d0) hx hb hX hbl hbA hS (law_in (v := 1) (j := 1) hL hx3 hi6 (by decide) (by decide)) dL_law_328 ?_
  refine lv_aload_n hx hb dL_law_329 rfl (lv_at hl 0 rfl) ?_
  refine lv_iload_n hx hb dL_law_330 rfl (lv_at hl 3 rfl) ?_
  refine lv_iconst (v := 2) hx hb dL_law_331 (by decide) ?_
  refine lv_iadd hx hb dL_law_332 ?_
  refine va_sld (s := s.setDrawn d0) hx hb hX hbl hbA hS (law_in (v := 2) (j := 2) hL hx3 hi6 (by decide) (by decide)) dL_law_333 ?_
  refine lv_aload_n hx hb dL_law_334 rfl (lv_at hl 0 rfl) ?_
  refine lv_iload_n hx hb dL_law_335 rfl (lv_at hl 3 rfl) ?_
  refine lv_iconst (v := 3) hx hb dL_law_336 (by decide) ?_
  refine lv_iadd hx hb dL_law_337 ?_
  refine va_sld (s := s.setDrawn d0) hx hb hX hbl hbA hS (law_in (v := 3) (j := 3) hL hx3 hi6 (by decide) (by decide)) dL_law_338 ?_
  refine l_cI hS (r_runV (As := [.int (xs (x3 + 1).toNatClampNeg), .int (xs (x3 + 2).toNatClampNeg), .int (xs (x3 + 3).toNatClampNeg)]) (rest := []) (hC.drew d0) kV_L_28 cw_X11_tear (rc_X11 (hC.drew d0) hP) hP (tI_tear x al lv σ (xs (x3 + 1).toNatClampNeg) (xs (x3 + 2).toNatClampNeg) (xs (x3 + 3).toNatClampNeg) _ h1) rfl hl.1 ⟨Nat.le_of_ble_eq_true rfl, Nat.le_of_ble_eq_true rfl⟩ ⟨by show cells + 0 ≤ 101448; omega, by show slots + 0 ≤ 8797906; omega⟩ (Nat.le_of_ble_eq_true rfl) dL_law_339) (fun H locs hP hS => ?_)
  refine lv_aload_n hx hb dL_law_342 rfl (lv_at hl 2 rfl) ?_
  refine lv_aload_n hx hb dL_law_343 rfl (lv_at hl 0 rfl) ?_
  refine lv_iload_n hx hb dL_law_344 rfl (lv_at hl 3 rfl) ?_
  refine lv_iconst (v := 1) hx hb dL_law_345 (by decide) ?_
  refine lv_iadd hx hb dL_law_346 ?_
  refine va_sld (s := s.setDrawn d0) hx hb hX hbl hbA hS (law_in (v := 1) (j := 1) hL hx3 hi6 (by decide) (by decide)) dL_law_347 ?_
  refine lv_aload_n hx hb dL_law_348 rfl (lv_at hl 0 rfl) ?_
  refine lv_iload_n hx hb dL_law_349 rfl (lv_at hl 3 rfl) ?_
  refine lv_iconst (v := 2) hx hb dL_law_350 (by decide) ?_
  refine lv_iadd hx hb dL_law_351 ?_
  refine va_sld (s := s.setDrawn d0) hx hb hX hbl hbA hS (law_in (v := 2) (j := 2) hL hx3 hi6 (by decide) (by decide)) dL_law_352 ?_
  refine lv_aload_n hx hb dL_law_353 rfl (lv_at hl 0 rfl) ?_
  refine lv_iload_n hx hb dL_law_354 rfl (lv_at hl 3 rfl) ?_
  refine lv_iconst (v := 3) hx hb dL_law_355 (by decide) ?_
  refine lv_iadd hx hb dL_law_356 ?_
  refine va_sld (s := s.setDrawn d0) hx hb hX hbl hbA hS (law_in (v := 3) (j := 3) hL hx3 hi6 (by decide) (by decide)) dL_law_357 ?_
  refine l_cI hS (r_runV (As := [.int (xs (x3 + 1).toNatClampNeg), .int (xs (x3 + 2).toNatClampNeg), .int (xs (x3 + 3).toNatClampNeg)]) (rest := [.int r]) (hC.drew d0) kV_L_31 cw_X12_tear (rc_X12 (hC.drew d0) hP) hP (tM_tear x al lv σ1 (xs (x3 + 1).toNatClampNeg) (xs (x3 + 2).toNatClampNeg) (xs (x3 + 3).toNatClampNeg) _ h2) rfl hl.1 ⟨Nat.le_of_ble_eq_true rfl, Nat.le_of_ble_eq_true rfl⟩ ⟨by show cells + 0 ≤ 101448; omega, by show slots + 0 ≤ 8797906; omega⟩ (Nat.le_of_ble_eq_true rfl) dL_law_358) (fun H locs hP hS => ?_)
  refine lv_icmp_eq (tgt := 1226) hx hb dL_law_361 (by decide) (fun _ => ?_) (fun hc => absurd rfl hc)
  exact kk lv σ2 al H locs d0 hI2 hd0 rfl rfl hP hS
set_option maxRecDepth 20000 in
theorem law_cut {p : Program} {l : Launch} {e : Env} {s : State} {m : MethodId} {below : List Frame} {meth : Method} {c : Code} {H : Heap} {locs : List Loc} {cells slots : Nat} {Q : State → Prop} {ls : Array Slot} {x : Wx} {al : Nat → Nat → Nat} {lv : Nat → Bool} {σ : Sg} {b L : Nat} {xs : Nat → Int32} {d0 : Drawn} {Inv : (Nat → Bool) → Sg → Prop} {i : Nat} {x3 : Int32} (hop : Op_cut Inv) (hC : Cx x p s m #[Value.ref b] meth c cL_law 4 (some .boolean) "IceTradeLaw") (hX : va_X b L xs s s.heap) (hbl : b < s.heap.size) (hbA : ¬ Ab x b) (hL : L ≤ 3072) (hx3 : x3 = nI i) (hi6 : i + 6 ≤ L) (hI : Inv lv σ) (hd0 : s.drawn.sameBut d0 lw_cs) (hcc : cells + 24 ≤ 101448) (hss : slots + 5400 ≤ 8797906) (hP : Pic x al lv σ H) (hS : va_S (Ab x) s.heap H locs) (hl : lv_has ls 4 [(0, .ref b), (1, .ref (al 6 0)), (2, .ref (al 7 0)), (3, .int x3)]) (kk : ∀ (lv2 : Nat → Bool) (σ2 : Sg) (al2 : Nat → Nat → Nat) (H2 : Heap) (locs2 : List Loc) (d2 : Drawn), Inv lv2 σ2 → s.drawn.sameBut d2 lw_cs → al2 6 0 = al 6 0 → al2 7 0 = al 7 0 → Pic x al2 lv2 σ2 H2 → va_S (Ab x) s.heap H2 locs2 → W p l e room_1 (s.setDrawn d2) m #[Value.ref b] below meth c H2 locs2 (cells + 0) (slots + 0) Q (F0 m 1226 ls [])) : W p l e room_1 (s.setDrawn d0) m #[Value.ref b] below meth c H locs cells slots Q (F0 m 366 ls []) := by
  obtain ⟨hx, hb, hml, hown, hts⟩ := hC.1
  obtain ⟨r, σ1, h1, σ2, h2, hI2⟩ := hop lv σ hI (xs (x3 + 1).toNatClampNeg) (xs (x3 + 2).toNatClampNeg) (xs (x3 + 3).toNatClampNeg) (xs (x3 + 4).toNatClampNeg)
  refine lv_aload_n hx hb dL_law_366 rfl (lv_at hl 1 rfl) ?_
  refine lv_aload_n hx hb dL_law_367 rfl (lv_at hl 0 rfl) ?_
  refine lv_iload_n hx hb dL_law_368 rfl (lv_at hl 3 rfl) ?_
  refine lv_iconst (v := 1) hx hb dL_law_369 (by decide) ?_
  refine lv_iadd hx hb dL_law_370 ?_
  refine va_sld (s := s.setDrawn d0) hx hb hX hbl hbA hS (law_in (v := 1) (j := 1) hL hx3 hi6 (by decide) (by decide)) dL_law_371 ?_
  refine lv_aload_n hx hb dL_law_372 rfl (lv_at hl 0 rfl) ?_
  refine lv_iload_n hx hb dL_law_373 rfl (lv_at hl 3 rfl) ?_
  refine lv_iconst (v := 2) hx hb dL_law_374 (by decide) ?_
  refine lv_iadd hx hb dL_law_375 ?_
  refine va_sld (s := s.setDrawn d0) hx hb hX hbl hbA hS (law_in (v := 2) (j := 2) hL hx3 hi6 (by decide) (by decide)) dL_law_376 ?_
  refine lv_aload_n hx hb dL_law_377 rfl (lv_at hl 0 rfl) ?_
  refine lv_iload_n hx hb dL_law_378 rfl (lv_at hl 3 rfl) ?_
  refine lv_iconst (v := 3) hx hb dL_law_379 (by decide) ?_
  refine lv_iadd hx hb dL_law_380 ?_
  refine va_sld (s := s.setDrawn d0) hx hb hX hbl hbA hS (law_in (v := 3) (j := 3) hL hx3 hi6 (by decide) (by decide)) dL_law_381 ?_
  refine lv_aload_n hx hb dL_law_382 rfl (lv_at hl 0 rfl) ?_
  refine lv_iload_n hx hb dL_law_383 rfl (lv_at hl 3 rfl) ?_
  refine lv_iconst (v := 4) hx hb dL_law_384 (by decide) ?_
  refine lv_iadd hx hb dL_law_385 ?_
  refine va_sld (s := s.setDrawn d0) hx hb hX hbl hbA hS (law_in (v := 4) (j := 4) hL hx3 hi6 (by decide) (by decide)) dL_law_386 ?_
  refine l_cI hS (r_runV (As := [.int (xs (x3 + 1).toNatClampNeg), .int (xs (x3 + 2).toNatClampNeg), .int (xs (x3 + 3).toNatClampNeg), .int (xs (x3 + 4).toNatClampNeg)]) (rest := []) (hC.drew d0) kV_L_32 cw_X11_cut (rc_X11 (hC.drew d0) hP) hP (tI_cut x al lv σ (xs (x3 + 1).toNatClampNeg) (xs (x3 + 2).toNatClampNeg) (xs (x3 + 3).toNatClampNeg) (xs (x3 + 4).toNatClampNeg) _ h1) rfl hl.1 ⟨Nat.le_of_ble_eq_true rfl, Nat.le_of_ble_eq_true rfl⟩ ⟨by show cells + 0 ≤ 101448; omega, by show slots + 0 ≤ 8797906; omega⟩ (Nat.le_of_ble_eq_true rfl) dL_law_387) (fun H locs hP hS => ?_)
  refine lv_aload_n hx hb dL_law_390 rfl (lv_at hl 2 rfl) ?_
  refine lv_aload_n hx hb dL_law_391 rfl (lv_at hl 0 rfl) ?_
  refine lv_iload_n hx hb dL_law_392 rfl (lv_at hl 3 rfl) ?_
  refine lv_iconst (v := 1) hx hb dL_law_393 (by decide) ?_
  refine lv_iadd hx hb dL_law_394 ?_
  refine va_sld (s := s.setDrawn d0) hx hb hX hbl hbA hS (law_in (v := 1) (j := 1) hL hx3 hi6 (by decide) (by decide)) dL_law_395 ?_
  refine lv_aload_n hx hb dL_law_396 rfl (lv_at hl 0 rfl) ?_
  refine lv_iload_n hx hb dL_law_397 rfl (lv_at hl 3 rfl) ?_
  refine lv_iconst (v := 2) hx hb dL_law_398 (by decide) ?_
  refine lv_iadd hx hb dL_law_399 ?_
  refine va_sld (s := s.setDrawn d0) hx hb hX hbl hbA hS (law_in (v := 2) (j := 2) hL hx3 hi6 (by decide) (by decide)) dL_law_400 ?_
  refine lv_aload_n hx hb dL_law_401 rfl (lv_at hl 0 rfl) ?_
  refine lv_iload_n hx hb dL_law_402 rfl (lv_at hl 3 rfl) ?_
  refine lv_iconst (v := 3) hx hb dL_law_403 (by decide) ?_
  refine lv_iadd hx hb dL_law_404 ?_
  refine va_sld (s := s.setDrawn d0) hx hb hX hbl hbA hS (law_in (v := 3) (j := 3) hL hx3 hi6 (by decide) (by decide)) dL_law_405 ?_
  refine lv_aload_n hx hb dL_law_406 rfl (lv_at hl 0 rfl) ?_
  refine lv_iload_n hx hb dL_law_407 rfl (lv_at hl 3 rfl) ?_
  refine lv_iconst (v := 4) hx hb dL_law_408 (by decide) ?_
  refine lv_iadd hx hb dL_law_409 ?_
  refine va_sld (s := s.setDrawn d0) hx hb hX hbl hbA hS (law_in (v := 4) (j := 4) hL hx3 hi6 (by decide) (by decide)) dL_law_410 ?_
  refine l_cI hS (r_runV (As := [.int (xs (x3 + 1).toNatClampNeg), .int (xs (x3 + 2).toNatClampNeg), .int (xs (x3 + 3).toNatClampNeg), .int (xs (x3 + 4).toNatClampNeg)]) (rest := [.int r]) (hC.drew d0) kV_L_36 cw_X12_cut (rc_X12 (hC.drew d0) hP) hP (tM_cut x al lv σ1 (xs (x3 + 1).toNatClampNeg) (xs (x3 + 2).toNatClampNeg) (xs (x3 + 3).toNatClampNeg) (xs (x3 + 4).toNatClampNeg) _ h2) rfl hl.1 ⟨Nat.le_of_ble_eq_true rfl, Nat.le_of_ble_eq_true rfl⟩ ⟨by show cells + 0 ≤ 101448; omega, by show slots + 0 ≤ 8797906; omega⟩ (Nat.le_of_ble_eq_true rfl) dL_law_411) (fun H locs hP hS => ?_)
  refine lv_icmp_eq (tgt := 1226) hx hb dL_law_414 (by decide) (fun _ => ?_) (fun hc => absurd rfl hc)
  exact kk lv σ2 al H locs d0 hI2 hd0 rfl rfl hP hS
set_option maxRecDepth 20000 in
theorem law_put {p : Program} {l : Launch} {e : Env} {s : State} {m : MethodId} {below : List Frame} {meth : Method} {c : Code} {H : Heap} {locs : List Loc} {cells slots : Nat} {Q : State → Prop} {ls : Array Slot} {x : Wx} {al : Nat → Nat → Nat} {lv : Nat → Bool} {σ : Sg} {b L : Nat} {xs : Nat → Int32} {d0 : Drawn} {Inv : (Nat → Bool) → Sg → Prop} {i : Nat} {x3 : Int32} (hop : Op_put Inv) (hC : Cx x p s m #[Value.ref b] meth c cL_law 4 (some .boolean) "IceTradeLaw") (hX : va_X b L xs s s.heap) (hbl : b < s.heap.size) (hbA : ¬ Ab x b) (hL : L ≤ 3072) (hx3 : x3 = nI i) (hi6 : i + 6 ≤ L) (hI : Inv lv σ) (hd0 : s.drawn.sameBut d0 lw_cs) (hcc : cells + 24 ≤ 101448) (hss : slots + 5400 ≤ 8797906) (hP : Pic x al lv σ H) (hS : va_S (Ab x) s.heap H locs) (hl : lv_has ls 4 [(0, .ref b), (1, .ref (al 6 0)), (2, .ref (al 7 0)), (3, .int x3)]) (kk : ∀ (lv2 : Nat → Bool) (σ2 : Sg) (al2 : Nat → Nat → Nat) (H2 : Heap) (locs2 : List Loc) (d2 : Drawn), Inv lv2 σ2 → s.drawn.sameBut d2 lw_cs → al2 6 0 = al 6 0 → al2 7 0 = al 7 0 → Pic x al2 lv2 σ2 H2 → va_S (Ab x) s.heap H2 locs2 → W p l e room_1 (s.setDrawn d2) m #[Value.ref b] below meth c H2 locs2 (cells + 0) (slots + 0) Q (F0 m 1226 ls [])) : W p l e room_1 (s.setDrawn d0) m #[Value.ref b] below meth c H locs cells slots Q (F0 m 419 ls []) := by
  obtain ⟨hx, hb, hml, hown, hts⟩ := hC.1
  obtain ⟨r, σ1, h1, σ2, h2, hI2⟩ := hop lv σ hI (xs (x3 + 1).toNatClampNeg) (xs (x3 + 2).toNatClampNeg) (xs (x3 + 3).toNatClampNeg)
  refine lv_aload_n hx hb dL_law_419 rfl (lv_at hl 1 rfl) ?_
  refine lv_aload_n hx hb dL_law_420 rfl (lv_at hl 0 rfl) ?_
  refine lv_iload_n hx hb dL_law_421 rfl (lv_at hl 3 rfl) ?_
  refine lv_iconst (v := 1) hx hb dL_law_422 (by decide) ?_
  refine lv_iadd hx hb dL_law_423 ?_
  refine va_sld (s := s.setDrawn d0) hx hb hX hbl hbA hS (law_in (v := 1) (j := 1) hL hx3 hi6 (by decide) (by decide)) dL_law_424 ?_
  refine lv_aload_n hx hb dL_law_425 rfl (lv_at hl 0 rfl) ?_
  refine lv_iload_n hx hb dL_law_426 rfl (lv_at hl 3 rfl) ?_
  refine lv_iconst (v := 2) hx hb dL_law_427 (by decide) ?_
  refine lv_iadd hx hb dL_law_428 ?_
  refine va_sld (s := s.setDrawn d0) hx hb hX hbl hbA hS (law_in (v := 2) (j := 2) hL hx3 hi6 (by decide) (by decide)) dL_law_429 ?_
  refine lv_aload_n hx hb dL_law_430 rfl (lv_at hl 0 rfl) ?_
  refine lv_iload_n hx hb dL_law_431 rfl (lv_at hl 3 rfl) ?_
  refine lv_iconst (v := 3) hx hb dL_law_432 (by decide) ?_
  refine lv_iadd hx hb dL_law_433 ?_
  refine va_sld (s := s.setDrawn d0) hx hb hX hbl hbA hS (law_in (v := 3) (j := 3) hL hx3 hi6 (by decide) (by decide)) dL_law_434 ?_
  refine l_cI hS (r_runV (As := [.int (xs (x3 + 1).toNatClampNeg), .int (xs (x3 + 2).toNatClampNeg), .int (xs (x3 + 3).toNatClampNeg)]) (rest := []) (hC.drew d0) kV_L_37 cw_X11_put (rc_X11 (hC.drew d0) hP) hP (tI_put x al lv σ (xs (x3 + 1).toNatClampNeg) (xs (x3 + 2).toNatClampNeg) (xs (x3 + 3).toNatClampNeg) _ h1) rfl hl.1 ⟨Nat.le_of_ble_eq_true rfl, Nat.le_of_ble_eq_true rfl⟩ ⟨by show cells + 0 ≤ 101448; omega, by show slots + 0 ≤ 8797906; omega⟩ (Nat.le_of_ble_eq_true rfl) dL_law_435) (fun H locs hP hS => ?_)
  refine lv_aload_n hx hb dL_law_438 rfl (lv_at hl 2 rfl) ?_
  refine lv_aload_n hx hb dL_law_439 rfl (lv_at hl 0 rfl) ?_
  refine lv_iload_n hx hb dL_law_440 rfl (lv_at hl 3 rfl) ?_
  refine lv_iconst (v := 1) hx hb dL_law_441 (by decide) ?_
  refine lv_iadd hx hb dL_law_442 ?_
  refine va_sld (s := s.setDrawn d0) hx hb hX hbl hbA hS (law_in (v := 1) (j := 1) hL hx3 hi6 (by decide) (by decide)) dL_law_443 ?_
  refine lv_aload_n hx hb dL_law_444 rfl (lv_at hl 0 rfl) ?_
  refine lv_iload_n hx hb dL_law_445 rfl (lv_at hl 3 rfl) ?_
  refine lv_iconst (v := 2) hx hb dL_law_446 (by decide) ?_
  refine lv_iadd hx hb dL_law_447 ?_
  refine va_sld (s := s.setDrawn d0) hx hb hX hbl hbA hS (law_in (v := 2) (j := 2) hL hx3 hi6 (by decide) (by decide)) dL_law_448 ?_
  refine lv_aload_n hx hb dL_law_449 rfl (lv_at hl 0 rfl) ?_
  refine lv_iload_n hx hb dL_law_450 rfl (lv_at hl 3 rfl) ?_
  refine lv_iconst (v := 3) hx hb dL_law_451 (by decide) ?_
  refine lv_iadd hx hb dL_law_452 ?_
  refine va_sld (s := s.setDrawn d0) hx hb hX hbl hbA hS (law_in (v := 3) (j := 3) hL hx3 hi6 (by decide) (by decide)) dL_law_453 ?_
  refine l_cI hS (r_runV (As := [.int (xs (x3 + 1).toNatClampNeg), .int (xs (x3 + 2).toNatClampNeg), .int (xs (x3 + 3).toNatClampNeg)]) (rest := [.int r]) (hC.drew d0) kV_L_40 cw_X12_put (rc_X12 (hC.drew d0) hP) hP (tM_put x al lv σ1 (xs (x3 + 1).toNatClampNeg) (xs (x3 + 2).toNatClampNeg) (xs (x3 + 3).toNatClampNeg) _ h2) rfl hl.1 ⟨Nat.le_of_ble_eq_true rfl, Nat.le_of_ble_eq_true rfl⟩ ⟨by show cells + 0 ≤ 101448; omega, by show slots + 0 ≤ 8797906; omega⟩ (Nat.le_of_ble_eq_true rfl) dL_law_454) (fun H locs hP hS => ?_)
  refine lv_icmp_eq (tgt := 1226) hx hb dL_law_457 (by decide) (fun _ => ?_) (fun hc => absurd rfl hc)
  exact kk lv σ2 al H locs d0 hI2 hd0 rfl rfl hP hS
set_option maxRecDepth 20000 in
theorem law_clear {p : Program} {l : Launch} {e : Env} {s : State} {m : MethodId} {below : List Frame} {meth : Method} {c : Code} {H : Heap} {locs : List Loc} {cells slots : Nat} {Q : State → Prop} {ls : Array Slot} {x : Wx} {al : Nat → Nat → Nat} {lv : Nat → Bool} {σ : Sg} {b L : Nat} {xs : Nat → Int32} {d0 : Drawn} {Inv : (Nat → Bool) → Sg → Prop} {i : Nat} {x3 : Int32} (hop : Op_clear Inv) (hC : Cx x p s m #[Value.ref b] meth c cL_law 4 (some .boolean) "IceTradeLaw") (hX : va_X b L xs s s.heap) (hbl : b < s.heap.size) (hbA : ¬ Ab x b) (hL : L ≤ 3072) (hx3 : x3 = nI i) (hi6 : i + 6 ≤ L) (hI : Inv lv σ) (hd0 : s.drawn.sameBut d0 lw_cs) (hcc : cells + 24 ≤ 101448) (hss : slots + 5400 ≤ 8797906) (hP : Pic x al lv σ H) (hS : va_S (Ab x) s.heap H locs) (hl : lv_has ls 4 [(0, .ref b), (1, .ref (al 6 0)), (2, .ref (al 7 0)), (3, .int x3)]) (kk : ∀ (lv2 : Nat → Bool) (σ2 : Sg) (al2 : Nat → Nat → Nat) (H2 : Heap) (locs2 : List Loc) (d2 : Drawn), Inv lv2 σ2 → s.drawn.sameBut d2 lw_cs → al2 6 0 = al 6 0 → al2 7 0 = al 7 0 → Pic x al2 lv2 σ2 H2 → va_S (Ab x) s.heap H2 locs2 → W p l e room_1 (s.setDrawn d2) m #[Value.ref b] below meth c H2 locs2 (cells + 0) (slots + 0) Q (F0 m 1226 ls [])) : W p l e room_1 (s.setDrawn d0) m #[Value.ref b] below meth c H locs cells slots Q (F0 m 462 ls []) := by
  obtain ⟨hx, hb, hml, hown, hts⟩ := hC.1
  obtain ⟨r, σ1, h1, σ2, h2, hI2⟩ := hop lv σ hI (xs (x3 + 1).toNatClampNeg) (xs (x3 + 2).toNatClampNeg)
  refine lv_aload_n hx hb dL_law_462 rfl (lv_at hl 1 rfl) ?_
  refine lv_aload_n hx hb dL_law_463 rfl (lv_at hl 0 rfl) ?_
  refine lv_iload_n hx hb dL_law_464 rfl (lv_at hl 3 rfl) ?_
  refine lv_iconst (v := 1) hx hb dL_law_465 (by decide) ?_
  refine lv_iadd hx hb dL_law_466 ?_
  refine va_sld (s := s.setDrawn d0) hx hb hX hbl hbA hS (law_in (v := 1) (j := 1) hL hx3 hi6 (by decide) (by decide)) dL_law_467 ?_
  refine lv_aload_n hx hb dL_law_468 rfl (lv_at hl 0 rfl) ?_
  refine lv_iload_n hx hb dL_law_469 rfl (lv_at hl 3 rfl) ?_
  refine lv_iconst (v := 2) hx hb dL_law_470 (by decide) ?_
  refine lv_iadd hx hb dL_law_471 ?_
  refine va_sld (s := s.setDrawn d0) hx hb hX hbl hbA hS (law_in (v := 2) (j := 2) hL hx3 hi6 (by decide) (by decide)) dL_law_472 ?_
  refine l_cI hS (r_runV (As := [.int (xs (x3 + 1).toNatClampNeg), .int (xs (x3 + 2).toNatClampNeg)]) (rest := []) (hC.drew d0) kV_L_41 cw_X11_clear (rc_X11 (hC.drew d0) hP) hP (tI_clear x al lv σ (xs (x3 + 1).toNatClampNeg) (xs (x3 + 2).toNatClampNeg) _ h1) rfl hl.1 ⟨Nat.le_of_ble_eq_true rfl, Nat.le_of_ble_eq_true rfl⟩ ⟨by show cells + 0 ≤ 101448; omega, by show slots + 0 ≤ 8797906; omega⟩ (Nat.le_of_ble_eq_true rfl) dL_law_473) (fun H locs hP hS => ?_)
  refine lv_aload_n hx hb dL_law_476 rfl (lv_at hl 2 rfl) ?_
  refine lv_aload_n hx hb dL_law_477 rfl (lv_at hl 0 rfl) ?_
  refine lv_iload_n hx hb dL_law_478 rfl (lv_at hl 3 rfl) ?_
  refine lv_iconst (v := 1) hx hb dL_law_479 (by decide) ?_
  refine lv_iadd hx hb dL_law_480 ?_
  refine va_sld (s := s.setDrawn d0) hx hb hX hbl hbA hS (law_in (v := 1) (j := 1) hL hx3 hi6 (by decide) (by decide)) dL_law_481 ?_
  refine lv_aload_n hx hb dL_law_482 rfl (lv_at hl 0 rfl) ?_
  refine lv_iload_n hx hb dL_law_483 rfl (lv_at hl 3 rfl) ?_
  refine lv_iconst (v := 2) hx hb dL_law_484 (by decide) ?_
  refine lv_iadd hx hb dL_law_485 ?_
  refine va_sld (s := s.setDrawn d0) hx hb hX hbl hbA hS (law_in (v := 2) (j := 2) hL hx3 hi6 (by decide) (by decide)) dL_law_486 ?_
  refine l_cI hS (r_runV (As := [.int (xs (x3 + 1).toNatClampNeg), .int (xs (x3 + 2).toNatClampNeg)]) (rest := [.int r]) (hC.drew d0) kV_L_44 cw_X12_clear (rc_X12 (hC.drew d0) hP) hP (tM_clear x al lv σ1 (xs (x3 + 1).toNatClampNeg) (xs (x3 + 2).toNatClampNeg) _ h2) rfl hl.1 ⟨Nat.le_of_ble_eq_true rfl, Nat.le_of_ble_eq_true rfl⟩ ⟨by show cells + 0 ≤ 101448; omega, by show slots + 0 ≤ 8797906; omega⟩ (Nat.le_of_ble_eq_true rfl) dL_law_487) (fun H locs hP hS => ?_)
  refine lv_icmp_eq (tgt := 1226) hx hb dL_law_490 (by decide) (fun _ => ?_) (fun hc => absurd rfl hc)
  exact kk lv σ2 al H locs d0 hI2 hd0 rfl rfl hP hS
set_option maxRecDepth 20000 in
theorem law_place {p : Program} {l : Launch} {e : Env} {s : State} {m : MethodId} {below : List Frame} {meth : Method} {c : Code} {H : Heap} {locs : List Loc} {cells slots : Nat} {Q : State → Prop} {ls : Array Slot} {x : Wx} {al : Nat → Nat → Nat} {lv : Nat → Bool} {σ : Sg} {b L : Nat} {xs : Nat → Int32} {d0 : Drawn} {Inv : (Nat → Bool) → Sg → Prop} {i : Nat} {x3 : Int32} (hop : Op_place Inv) (hC : Cx x p s m #[Value.ref b] meth c cL_law 4 (some .boolean) "IceTradeLaw") (hX : va_X b L xs s s.heap) (hbl : b < s.heap.size) (hbA : ¬ Ab x b) (hL : L ≤ 3072) (hx3 : x3 = nI i) (hi6 : i + 6 ≤ L) (hI : Inv lv σ) (hd0 : s.drawn.sameBut d0 lw_cs) (hcc : cells + 24 ≤ 101448) (hss : slots + 5400 ≤ 8797906) (hP : Pic x al lv σ H) (hS : va_S (Ab x) s.heap H locs) (hl : lv_has ls 4 [(0, .ref b), (1, .ref (al 6 0)), (2, .ref (al 7 0)), (3, .int x3)]) (kk : ∀ (lv2 : Nat → Bool) (σ2 : Sg) (al2 : Nat → Nat → Nat) (H2 : Heap) (locs2 : List Loc) (d2 : Drawn), Inv lv2 σ2 → s.drawn.sameBut d2 lw_cs → al2 6 0 = al 6 0 → al2 7 0 = al 7 0 → Pic x al2 lv2 σ2 H2 → va_S (Ab x) s.heap H2 locs2 → W p l e room_1 (s.setDrawn d2) m #[Value.ref b] below meth c H2 locs2 (cells + 0) (slots + 0) Q (F0 m 1226 ls [])) : W p l e room_1 (s.setDrawn d0) m #[Value.ref b] below meth c H locs cells slots Q (F0 m 495 ls []) := by
  obtain ⟨hx, hb, hml, hown, hts⟩ := hC.1
  obtain ⟨r, h1, h2, hI2⟩ := hop lv σ hI (xs (x3 + 1).toNatClampNeg) (xs (x3 + 2).toNatClampNeg)
  refine lv_aload_n hx hb dL_law_495 rfl (lv_at hl 1 rfl) ?_
  refine lv_aload_n hx hb dL_law_496 rfl (lv_at hl 0 rfl) ?_
  refine lv_iload_n hx hb dL_law_497 rfl (lv_at hl 3 rfl) ?_
  refine lv_iconst (v := 1) hx hb dL_law_498 (by decide) ?_
  refine lv_iadd hx hb dL_law_499 ?_
  refine va_sld (s := s.setDrawn d0) hx hb hX hbl hbA hS (law_in (v := 1) (j := 1) hL hx3 hi6 (by decide) (by decide)) dL_law_500 ?_
  refine lv_aload_n hx hb dL_law_501 rfl (lv_at hl 0 rfl) ?_
  refine lv_iload_n hx hb dL_law_502 rfl (lv_at hl 3 rfl) ?_
  refine lv_iconst (v := 2) hx hb dL_law_503 (by decide) ?_
  refine lv_iadd hx hb dL_law_504 ?_
  refine va_sld (s := s.setDrawn d0) hx hb hX hbl hbA hS (law_in (v := 2) (j := 2) hL hx3 hi6 (by decide) (by decide)) dL_law_505 ?_
  refine l_cP hS (r_runV (As := [.int (xs (x3 + 1).toNatClampNeg), .int (xs (x3 + 2).toNatClampNeg)]) (rest := []) (hC.drew d0) kV_L_45 cw_X11_place (rc_X11 (hC.drew d0) hP) hP (tI_place x al lv σ (xs (x3 + 1).toNatClampNeg) (xs (x3 + 2).toNatClampNeg) _ h1) rfl hl.1 ⟨Nat.le_of_ble_eq_true rfl, Nat.le_of_ble_eq_true rfl⟩ ⟨by show cells + 0 ≤ 101448; omega, by show slots + 0 ≤ 8797906; omega⟩ (Nat.le_of_ble_eq_true rfl) dL_law_506) (fun H locs hP hS => ?_)
  refine lv_aload_n hx hb dL_law_509 rfl (lv_at hl 2 rfl) ?_
  refine lv_aload_n hx hb dL_law_510 rfl (lv_at hl 0 rfl) ?_
  refine lv_iload_n hx hb dL_law_511 rfl (lv_at hl 3 rfl) ?_
  refine lv_iconst (v := 1) hx hb dL_law_512 (by decide) ?_
  refine lv_iadd hx hb dL_law_513 ?_
  refine va_sld (s := s.setDrawn d0) hx hb hX hbl hbA hS (law_in (v := 1) (j := 1) hL hx3 hi6 (by decide) (by decide)) dL_law_514 ?_
  refine lv_aload_n hx hb dL_law_515 rfl (lv_at hl 0 rfl) ?_
  refine lv_iload_n hx hb dL_law_516 rfl (lv_at hl 3 rfl) ?_
  refine lv_iconst (v := 2) hx hb dL_law_517 (by decide) ?_
  refine lv_iadd hx hb dL_law_518 ?_
  refine va_sld (s := s.setDrawn d0) hx hb hX hbl hbA hS (law_in (v := 2) (j := 2) hL hx3 hi6 (by decide) (by decide)) dL_law_519 ?_
  refine l_cP hS (r_runV (As := [.int (xs (x3 + 1).toNatClampNeg), .int (xs (x3 + 2).toNatClampNeg)]) (rest := [.int r]) (hC.drew d0) kV_L_48 cw_X12_place (rc_X12 (hC.drew d0) hP) hP (tM_place x al lv σ (xs (x3 + 1).toNatClampNeg) (xs (x3 + 2).toNatClampNeg) _ h2) rfl hl.1 ⟨Nat.le_of_ble_eq_true rfl, Nat.le_of_ble_eq_true rfl⟩ ⟨by show cells + 0 ≤ 101448; omega, by show slots + 0 ≤ 8797906; omega⟩ (Nat.le_of_ble_eq_true rfl) dL_law_520) (fun H locs hP hS => ?_)
  refine lv_icmp_eq (tgt := 1226) hx hb dL_law_523 (by decide) (fun _ => ?_) (fun hc => absurd rfl hc)
  exact kk lv σ al H locs d0 hI2 hd0 rfl rfl hP hS
set_option maxRecDepth 20000 in
theorem law_block {p : Program} {l : Launch} {e : Env} {s : State} {m : MethodId} {below : List Frame} {meth : Method} {c : Code} {H : Heap} {locs : List Loc} {cells slots : Nat} {Q : State → Prop} {ls : Array Slot} {x : Wx} {al : Nat → Nat → Nat} {lv : Nat → Bool} {σ : Sg} {b L : Nat} {xs : Nat → Int32} {d0 : Drawn} {Inv : (Nat → Bool) → Sg → Prop} {i : Nat} {x3 : Int32} (hop : Op_block Inv) (hC : Cx x p s m #[Value.ref b] meth c cL_law 4 (some .boolean) "IceTradeLaw") (hX : va_X b L xs s s.heap) (hbl : b < s.heap.size) (hbA : ¬ Ab x b) (hL : L ≤ 3072) (hx3 : x3 = nI i) (hi6 : i + 6 ≤ L) (hI : Inv lv σ) (hd0 : s.drawn.sameBut d0 lw_cs) (hcc : cells + 24 ≤ 101448) (hss : slots + 5400 ≤ 8797906) (hP : Pic x al lv σ H) (hS : va_S (Ab x) s.heap H locs) (hl : lv_has ls 4 [(0, .ref b), (1, .ref (al 6 0)), (2, .ref (al 7 0)), (3, .int x3)]) (kk : ∀ (lv2 : Nat → Bool) (σ2 : Sg) (al2 : Nat → Nat → Nat) (H2 : Heap) (locs2 : List Loc) (d2 : Drawn), Inv lv2 σ2 → s.drawn.sameBut d2 lw_cs → al2 6 0 = al 6 0 → al2 7 0 = al 7 0 → Pic x al2 lv2 σ2 H2 → va_S (Ab x) s.heap H2 locs2 → W p l e room_1 (s.setDrawn d2) m #[Value.ref b] below meth c H2 locs2 (cells + 0) (slots + 0) Q (F0 m 1226 ls [])) : W p l e room_1 (s.setDrawn d0) m #[Value.ref b] below meth c H locs cells slots Q (F0 m 528 ls []) := by
  obtain ⟨hx, hb, hml, hown, hts⟩ := hC.1
  obtain ⟨r, σ1, h1, h2, hI2⟩ := hop lv σ hI (xs (x3 + 1).toNatClampNeg) (xs (x3 + 2).toNatClampNeg)
  refine lv_aload_n hx hb dL_law_528 rfl (lv_at hl 1 rfl) ?_
  refine lv_aload_n hx hb dL_law_529 rfl (lv_at hl 0 rfl) ?_
  refine lv_iload_n hx hb dL_law_530 rfl (lv_at hl 3 rfl) ?_
  refine lv_iconst (v := 1) hx hb dL_law_531 (by decide) ?_
  refine lv_iadd hx hb dL_law_532 ?_
  refine va_sld (s := s.setDrawn d0) hx hb hX hbl hbA hS (law_in (v := 1) (j := 1) hL hx3 hi6 (by decide) (by decide)) dL_law_533 ?_
  refine lv_aload_n hx hb dL_law_534 rfl (lv_at hl 0 rfl) ?_
  refine lv_iload_n hx hb dL_law_535 rfl (lv_at hl 3 rfl) ?_
  refine lv_iconst (v := 2) hx hb dL_law_536 (by decide) ?_
  refine lv_iadd hx hb dL_law_537 ?_
  refine va_sld (s := s.setDrawn d0) hx hb hX hbl hbA hS (law_in (v := 2) (j := 2) hL hx3 hi6 (by decide) (by decide)) dL_law_538 ?_
  refine l_cI hS (r_runV (As := [.int (xs (x3 + 1).toNatClampNeg), .int (xs (x3 + 2).toNatClampNeg)]) (rest := []) (hC.drew d0) kV_L_49 cw_X11_block (rc_X11 (hC.drew d0) hP) hP (tI_block x al lv σ (xs (x3 + 1).toNatClampNeg) (xs (x3 + 2).toNatClampNeg) _ h1) rfl hl.1 ⟨Nat.le_of_ble_eq_true rfl, Nat.le_of_ble_eq_true rfl⟩ ⟨by show cells + 0 ≤ 101448; omega, by show slots + 0 ≤ 8797906; omega⟩ (Nat.le_of_ble_eq_true rfl) dL_law_539) (fun H locs hP hS => ?_)
  refine lv_aload_n hx hb dL_law_542 rfl (lv_at hl 2 rfl) ?_
  refine lv_aload_n hx hb dL_law_543 rfl (lv_at hl 0 rfl) ?_
  refine lv_iload_n hx hb dL_law_544 rfl (lv_at hl 3 rfl) ?_
  refine lv_iconst (v := 1) hx hb dL_law_545 (by decide) ?_
  refine lv_iadd hx hb dL_law_546 ?_
  refine va_sld (s := s.setDrawn d0) hx hb hX hbl hbA hS (law_in (v := 1) (j := 1) hL hx3 hi6 (by decide) (by decide)) dL_law_547 ?_
  refine lv_aload_n hx hb dL_law_548 rfl (lv_at hl 0 rfl) ?_
  refine lv_iload_n hx hb dL_law_549 rfl (lv_at hl 3 rfl) ?_
  refine lv_iconst (v := 2) hx hb dL_law_550 (by decide) ?_
  refine lv_iadd hx hb dL_law_551 ?_
  refine va_sld (s := s.setDrawn d0) hx hb hX hbl hbA hS (law_in (v := 2) (j := 2) hL hx3 hi6 (by decide) (by decide)) dL_law_552 ?_
  refine l_cP hS (r_runV (As := [.int (xs (x3 + 1).toNatClampNeg), .int (xs (x3 + 2).toNatClampNeg)]) (rest := [.int r]) (hC.drew d0) kV_L_52 cw_X12_block (rc_X12 (hC.drew d0) hP) hP (tM_block x al lv σ1 (xs (x3 + 1).toNatClampNeg) (xs (x3 + 2).toNatClampNeg) _ h2) rfl hl.1 ⟨Nat.le_of_ble_eq_true rfl, Nat.le_of_ble_eq_true rfl⟩ ⟨by show cells + 0 ≤ 101448; omega, by show slots + 0 ≤ 8797906; omega⟩ (Nat.le_of_ble_eq_true rfl) dL_law_553) (fun H locs hP hS => ?_)
  refine lv_icmp_eq (tgt := 1226) hx hb dL_law_556 (by decide) (fun _ => ?_) (fun hc => absurd rfl hc)
  exact kk lv σ1 al H locs d0 hI2 hd0 rfl rfl hP hS
set_option maxRecDepth 20000 in
theorem law_warm {p : Program} {l : Launch} {e : Env} {s : State} {m : MethodId} {below : List Frame} {meth : Method} {c : Code} {H : Heap} {locs : List Loc} {cells slots : Nat} {Q : State → Prop} {ls : Array Slot} {x : Wx} {al : Nat → Nat → Nat} {lv : Nat → Bool} {σ : Sg} {b L : Nat} {xs : Nat → Int32} {d0 : Drawn} {Inv : (Nat → Bool) → Sg → Prop} {i : Nat} {x3 : Int32} (hop : Op_warm Inv) (hC : Cx x p s m #[Value.ref b] meth c cL_law 4 (some .boolean) "IceTradeLaw") (hX : va_X b L xs s s.heap) (hbl : b < s.heap.size) (hbA : ¬ Ab x b) (hL : L ≤ 3072) (hx3 : x3 = nI i) (hi6 : i + 6 ≤ L) (hI : Inv lv σ) (hd0 : s.drawn.sameBut d0 lw_cs) (hcc : cells + 24 ≤ 101448) (hss : slots + 5400 ≤ 8797906) (hP : Pic x al lv σ H) (hS : va_S (Ab x) s.heap H locs) (hl : lv_has ls 4 [(0, .ref b), (1, .ref (al 6 0)), (2, .ref (al 7 0)), (3, .int x3)]) (kk : ∀ (lv2 : Nat → Bool) (σ2 : Sg) (al2 : Nat → Nat → Nat) (H2 : Heap) (locs2 : List Loc) (d2 : Drawn), Inv lv2 σ2 → s.drawn.sameBut d2 lw_cs → al2 6 0 = al 6 0 → al2 7 0 = al 7 0 → Pic x al2 lv2 σ2 H2 → va_S (Ab x) s.heap H2 locs2 → W p l e room_1 (s.setDrawn d2) m #[Value.ref b] below meth c H2 locs2 (cells + 0) (slots + 0) Q (F0 m 1226 ls [])) : W p l e room_1 (s.setDrawn d0) m #[Value.ref b] below meth c H locs cells slots Q (F0 m 561 ls []) := by
  obtain ⟨hx, hb, hml, hown, hts⟩ := hC.1
  obtain ⟨r, σ1, h1, σ2, h2, hI2⟩ := hop lv σ hI (xs (x3 + 1).toNatClampNeg) (xs (x3 + 2).toNatClampNeg)
  refine lv_aload_n hx hb dL_law_561 rfl (lv_at hl 1 rfl) ?_
  refine lv_aload_n hx hb dL_law_562 rfl (lv_at hl 0 rfl) ?_
  refine lv_iload_n hx hb dL_law_563 rfl (lv_at hl 3 rfl) ?_
  refine lv_iconst (v := 1) hx hb dL_law_564 (by decide) ?_
  refine lv_iadd hx hb dL_law_565 ?_
  refine va_sld (s := s.setDrawn d0) hx hb hX hbl hbA hS (law_in (v := 1) (j := 1) hL hx3 hi6 (by decide) (by decide)) dL_law_566 ?_
  refine lv_aload_n hx hb dL_law_567 rfl (lv_at hl 0 rfl) ?_
  refine lv_iload_n hx hb dL_law_568 rfl (lv_at hl 3 rfl) ?_
  refine lv_iconst (v := 2) hx hb dL_law_569 (by decide) ?_
  refine lv_iadd hx hb dL_law_570 ?_
  refine va_sld (s := s.setDrawn d0) hx hb hX hbl hbA hS (law_in (v := 2) (j := 2) hL hx3 hi6 (by decide) (by decide)) dL_law_571 ?_
  refine l_cI hS (r_runV (As := [.int (xs (x3 + 1).toNatClampNeg), .int (xs (x3 + 2).toNatClampNeg)]) (rest := []) (hC.drew d0) kV_L_53 cw_X11_warm (rc_X11 (hC.drew d0) hP) hP (tI_warm x al lv σ (xs (x3 + 1).toNatClampNeg) (xs (x3 + 2).toNatClampNeg) _ h1) rfl hl.1 ⟨Nat.le_of_ble_eq_true rfl, Nat.le_of_ble_eq_true rfl⟩ ⟨by show cells + 0 ≤ 101448; omega, by show slots + 0 ≤ 8797906; omega⟩ (Nat.le_of_ble_eq_true rfl) dL_law_572) (fun H locs hP hS => ?_)
  refine lv_aload_n hx hb dL_law_575 rfl (lv_at hl 2 rfl) ?_
  refine lv_aload_n hx hb dL_law_576 rfl (lv_at hl 0 rfl) ?_
  refine lv_iload_n hx hb dL_law_577 rfl (lv_at hl 3 rfl) ?_
  refine lv_iconst (v := 1) hx hb dL_law_578 (by decide) ?_
  refine lv_iadd hx hb dL_law_579 ?_
  refine va_sld (s := s.setDrawn d0) hx hb hX hbl hbA hS (law_in (v := 1) (j := 1) hL hx3 hi6 (by decide) (by decide)) dL_law_580 ?_
  refine lv_aload_n hx hb dL_law_581 rfl (lv_at hl 0 rfl) ?_
  refine lv_iload_n hx hb dL_law_582 rfl (lv_at hl 3 rfl) ?_
  refine lv_iconst (v := 2) hx hb dL_law_583 (by decide) ?_
  refine lv_iadd hx hb dL_law_584 ?_
  refine va_sld (s := s.setDrawn d0) hx hb hX hbl hbA hS (law_in (v := 2) (j := 2) hL hx3 hi6 (by decide) (by decide)) dL_law_585 ?_
  refine l_cID hd0 hS (r_runVD (As := [.int (xs (x3 + 1).toNatClampNeg), .int (xs (x3 + 2).toNatClampNeg)]) (rest := [.int r]) (hC.drew d0) kV_L_56 cw_X12_warm (rc_X12 (hC.drew d0) hP) hP (tM_warm x al lv σ1 (xs (x3 + 1).toNatClampNeg) (xs (x3 + 2).toNatClampNeg) _ h2) rfl hl.1 ⟨Nat.le_of_ble_eq_true rfl, Nat.le_of_ble_eq_true rfl⟩ ⟨by show cells + 0 ≤ 101448; omega, by show slots + 0 ≤ 8797906; omega⟩ (Nat.le_of_ble_eq_true rfl) dL_law_586) (fun H locs d0 hd0 hP hS => ?_)
  refine lv_icmp_eq (tgt := 1226) hx hb dL_law_589 (by decide) (fun _ => ?_) (fun hc => absurd rfl hc)
  exact kk lv σ2 al H locs d0 hI2 hd0 rfl rfl hP hS
set_option maxRecDepth 20000 in
theorem law_tenths {p : Program} {l : Launch} {e : Env} {s : State} {m : MethodId} {below : List Frame} {meth : Method} {c : Code} {H : Heap} {locs : List Loc} {cells slots : Nat} {Q : State → Prop} {ls : Array Slot} {x : Wx} {al : Nat → Nat → Nat} {lv : Nat → Bool} {σ : Sg} {b L : Nat} {xs : Nat → Int32} {d0 : Drawn} {Inv : (Nat → Bool) → Sg → Prop} {i : Nat} {x3 : Int32} (hop : Op_tenths Inv) (hC : Cx x p s m #[Value.ref b] meth c cL_law 4 (some .boolean) "IceTradeLaw") (hX : va_X b L xs s s.heap) (hbl : b < s.heap.size) (hbA : ¬ Ab x b) (hL : L ≤ 3072) (hx3 : x3 = nI i) (hi6 : i + 6 ≤ L) (hI : Inv lv σ) (hd0 : s.drawn.sameBut d0 lw_cs) (hcc : cells + 24 ≤ 101448) (hss : slots + 5400 ≤ 8797906) (hP : Pic x al lv σ H) (hS : va_S (Ab x) s.heap H locs) (hl : lv_has ls 4 [(0, .ref b), (1, .ref (al 6 0)), (2, .ref (al 7 0)), (3, .int x3)]) (kk : ∀ (lv2 : Nat → Bool) (σ2 : Sg) (al2 : Nat → Nat → Nat) (H2 : Heap) (locs2 : List Loc) (d2 : Drawn), Inv lv2 σ2 → s.drawn.sameBut d2 lw_cs → al2 6 0 = al 6 0 → al2 7 0 = al 7 0 → Pic x al2 lv2 σ2 H2 → va_S (Ab x) s.heap H2 locs2 → W p l e room_1 (s.setDrawn d2) m #[Value.ref b] below meth c H2 locs2 (cells + 0) (slots + 0) Q (F0 m 1226 ls [])) : W p l e room_1 (s.setDrawn d0) m #[Value.ref b] below meth c H locs cells slots Q (F0 m 594 ls []) := by
  obtain ⟨hx, hb, hml, hown, hts⟩ := hC.1
  obtain ⟨r, h1, h2, hI2⟩ := hop lv σ hI (xs (x3 + 1).toNatClampNeg)
  refine lv_aload_n hx hb dL_law_594 rfl (lv_at hl 1 rfl) ?_
  refine lv_aload_n hx hb dL_law_595 rfl (lv_at hl 0 rfl) ?_
  refine lv_iload_n hx hb dL_law_596 rfl (lv_at hl 3 rfl) ?_
  refine lv_iconst (v := 1) hx hb dL_law_597 (by decide) ?_
  refine lv_iadd hx hb dL_law_598 ?_
  refine va_sld (s := s.setDrawn d0) hx hb hX hbl hbA hS (law_in (v := 1) (j := 1) hL hx3 hi6 (by decide) (by decide)) dL_law_599 ?_
  refine l_cP hS (r_runV (As := [.int (xs (x3 + 1).toNatClampNeg)]) (rest := []) (hC.drew d0) kV_L_57 cw_X11_tenths (rc_X11 (hC.drew d0) hP) hP (tI_tenths x al lv σ (xs (x3 + 1).toNatClampNeg) _ h1) rfl hl.1 ⟨Nat.le_of_ble_eq_true rfl, Nat.le_of_ble_eq_true rfl⟩ ⟨by show cells + 0 ≤ 101448; omega, by show slots + 0 ≤ 8797906; omega⟩ (Nat.le_of_ble_eq_true rfl) dL_law_600) (fun H locs hP hS => ?_)
  refine lv_aload_n hx hb dL_law_603 rfl (lv_at hl 2 rfl) ?_
  refine lv_aload_n hx hb dL_law_604 rfl (lv_at hl 0 rfl) ?_
  refine lv_iload_n hx hb dL_law_605 rfl (lv_at hl 3 rfl) ?_
  refine lv_iconst (v := 1) hx hb dL_law_606 (by decide) ?_
  refine lv_iadd hx hb dL_law_607 ?_
  refine va_sld (s := s.setDrawn d0) hx hb hX hbl hbA hS (law_in (v := 1) (j := 1) hL hx3 hi6 (by decide) (by decide)) dL_law_608 ?_
  refine l_cP hS (r_runV (As := [.int (xs (x3 + 1).toNatClampNeg)]) (rest := [.int r]) (hC.drew d0) kV_L_61 cw_X12_tenths (rc_X12 (hC.drew d0) hP) hP (tM_tenths x al lv σ (xs (x3 + 1).toNatClampNeg) _ h2) rfl hl.1 ⟨Nat.le_of_ble_eq_true rfl, Nat.le_of_ble_eq_true rfl⟩ ⟨by show cells + 0 ≤ 101448; omega, by show slots + 0 ≤ 8797906; omega⟩ (Nat.le_of_ble_eq_true rfl) dL_law_609) (fun H locs hP hS => ?_)
  refine lv_icmp_eq (tgt := 1226) hx hb dL_law_612 (by decide) (fun _ => ?_) (fun hc => absurd rfl hc)
  exact kk lv σ al H locs d0 hI2 hd0 rfl rfl hP hS
set_option maxRecDepth 20000 in
theorem law_terms {p : Program} {l : Launch} {e : Env} {s : State} {m : MethodId} {below : List Frame} {meth : Method} {c : Code} {H : Heap} {locs : List Loc} {cells slots : Nat} {Q : State → Prop} {ls : Array Slot} {x : Wx} {al : Nat → Nat → Nat} {lv : Nat → Bool} {σ : Sg} {b L : Nat} {xs : Nat → Int32} {d0 : Drawn} {Inv : (Nat → Bool) → Sg → Prop} {i : Nat} {x3 : Int32} (hop : Op_terms Inv) (hC : Cx x p s m #[Value.ref b] meth c cL_law 4 (some .boolean) "IceTradeLaw") (hX : va_X b L xs s s.heap) (hbl : b < s.heap.size) (hbA : ¬ Ab x b) (hL : L ≤ 3072) (hx3 : x3 = nI i) (hi6 : i + 6 ≤ L) (hI : Inv lv σ) (hd0 : s.drawn.sameBut d0 lw_cs) (hcc : cells + 24 ≤ 101448) (hss : slots + 5400 ≤ 8797906) (hP : Pic x al lv σ H) (hS : va_S (Ab x) s.heap H locs) (hl : lv_has ls 4 [(0, .ref b), (1, .ref (al 6 0)), (2, .ref (al 7 0)), (3, .int x3)]) (kk : ∀ (lv2 : Nat → Bool) (σ2 : Sg) (al2 : Nat → Nat → Nat) (H2 : Heap) (locs2 : List Loc) (d2 : Drawn), Inv lv2 σ2 → s.drawn.sameBut d2 lw_cs → al2 6 0 = al 6 0 → al2 7 0 = al 7 0 → Pic x al2 lv2 σ2 H2 → va_S (Ab x) s.heap H2 locs2 → W p l e room_1 (s.setDrawn d2) m #[Value.ref b] below meth c H2 locs2 (cells + 0) (slots + 0) Q (F0 m 1226 ls [])) : W p l e room_1 (s.setDrawn d0) m #[Value.ref b] below meth c H locs cells slots Q (F0 m 617 ls []) := by
  obtain ⟨hx, hb, hml, hown, hts⟩ := hC.1
  obtain ⟨r, σ1, h1, σ2, h2, hI2⟩ := hop lv σ hI (xs (x3 + 1).toNatClampNeg) (xs (x3 + 2).toNatClampNeg) (xs (x3 + 3).toNatClampNeg)
  refine lv_aload_n hx hb dL_law_617 rfl (lv_at hl 1 rfl) ?_
  refine lv_aload_n hx hb dL_law_618 rfl (lv_at hl 0 rfl) ?_
  refine lv_iload_n hx hb dL_law_619 rfl (lv_at hl 3 rfl) ?_
  refine lv_iconst (v := 1) hx hb dL_law_620 (by decide) ?_
  refine lv_iadd hx hb dL_law_621 ?_
  refine va_sld (s := s.setDrawn d0) hx hb hX hbl hbA hS (law_in (v := 1) (j := 1) hL hx3 hi6 (by decide) (by decide)) dL_law_622 ?_
  refine lv_aload_n hx hb dL_law_623 rfl (lv_at hl 0 rfl) ?_
  refine lv_iload_n hx hb dL_law_624 rfl (lv_at hl 3 rfl) ?_
  refine lv_iconst (v := 2) hx hb dL_law_625 (by decide) ?_
  refine lv_iadd hx hb dL_law_626 ?_
  refine va_sld (s := s.setDrawn d0) hx hb hX hbl hbA hS (law_in (v := 2) (j := 2) hL hx3 hi6 (by decide) (by decide)) dL_law_627 ?_
  refine lv_aload_n hx hb dL_law_628 rfl (lv_at hl 0 rfl) ?_
  refine lv_iload_n hx hb dL_law_629 rfl (lv_at hl 3 rfl) ?_
  refine lv_iconst (v := 3) hx hb dL_law_630 (by decide) ?_
  refine lv_iadd hx hb dL_law_631 ?_
  refine va_sld (s := s.setDrawn d0) hx hb hX hbl hbA hS (law_in (v := 3) (j := 3) hL hx3 hi6 (by decide) (by decide)) dL_law_632 ?_
  refine l_cI hS (r_runV (As := [.int (xs (x3 + 1).toNatClampNeg), .int (xs (x3 + 2).toNatClampNeg), .int (xs (x3 + 3).toNatClampNeg)]) (rest := []) (hC.drew d0) kV_L_62 cw_X11_terms (rc_X11 (hC.drew d0) hP) hP (tI_terms x al lv σ (xs (x3 + 1).toNatClampNeg) (xs (x3 + 2).toNatClampNeg) (xs (x3 + 3).toNatClampNeg) _ h1) rfl hl.1 ⟨Nat.le_of_ble_eq_true rfl, Nat.le_of_ble_eq_true rfl⟩ ⟨by show cells + 0 ≤ 101448; omega, by show slots + 0 ≤ 8797906; omega⟩ (Nat.le_of_ble_eq_true rfl) dL_law_633) (fun H locs hP hS => ?_)
  refine lv_aload_n hx hb dL_law_636 rfl (lv_at hl 2 rfl) ?_
  refine lv_aload_n hx hb dL_law_637 rfl (lv_at hl 0 rfl) ?_
  refine lv_iload_n hx hb dL_law_638 rfl (lv_at hl 3 rfl) ?_
  refine lv_iconst (v := 1) hx hb dL_law_639 (by decide) ?_
  refine lv_iadd hx hb dL_law_640 ?_
  refine va_sld (s := s.setDrawn d0) hx hb hX hbl hbA hS (law_in (v := 1) (j := 1) hL hx3 hi6 (by decide) (by decide)) dL_law_641 ?_
  refine lv_aload_n hx hb dL_law_642 rfl (lv_at hl 0 rfl) ?_
  refine lv_iload_n hx hb dL_law_643 rfl (lv_at hl 3 rfl) ?_
  refine lv_iconst (v := 2) hx hb dL_law_644 (by decide) ?_
  refine lv_iadd hx hb dL_law_645 ?_
  refine va_sld (s := s.setDrawn d0) hx hb hX hbl hbA hS (law_in (v := 2) (j := 2) hL hx3 hi6 (by decide) (by decide)) dL_law_646 ?_
  refine lv_aload_n hx hb dL_law_647 rfl (lv_at hl 0 rfl) ?_
  refine lv_iload_n hx hb dL_law_648 rfl (lv_at hl 3 rfl) ?_
  refine lv_iconst (v := 3) hx hb dL_law_649 (by decide) ?_
  refine lv_iadd hx hb dL_law_650 ?_
  refine va_sld (s := s.setDrawn d0) hx hb hX hbl hbA hS (law_in (v := 3) (j := 3) hL hx3 hi6 (by decide) (by decide)) dL_law_651 ?_
  refine l_cI hS (r_runV (As := [.int (xs (x3 + 1).toNatClampNeg), .int (xs (x3 + 2).toNatClampNeg), .int (xs (x3 + 3).toNatClampNeg)]) (rest := [.int r]) (hC.drew d0) kV_L_65 cw_X12_terms (rc_X12 (hC.drew d0) hP) hP (tM_terms x al lv σ1 (xs (x3 + 1).toNatClampNeg) (xs (x3 + 2).toNatClampNeg) (xs (x3 + 3).toNatClampNeg) _ h2) rfl hl.1 ⟨Nat.le_of_ble_eq_true rfl, Nat.le_of_ble_eq_true rfl⟩ ⟨by show cells + 0 ≤ 101448; omega, by show slots + 0 ≤ 8797906; omega⟩ (Nat.le_of_ble_eq_true rfl) dL_law_652) (fun H locs hP hS => ?_)
  refine lv_icmp_eq (tgt := 1226) hx hb dL_law_655 (by decide) (fun _ => ?_) (fun hc => absurd rfl hc)
  exact kk lv σ2 al H locs d0 hI2 hd0 rfl rfl hP hS
set_option maxRecDepth 20000 in
theorem law_day {p : Program} {l : Launch} {e : Env} {s : State} {m : MethodId} {below : List Frame} {meth : Method} {c : Code} {H : Heap} {locs : List Loc} {cells slots : Nat} {Q : State → Prop} {ls : Array Slot} {x : Wx} {al : Nat → Nat → Nat} {lv : Nat → Bool} {σ : Sg} {b L : Nat} {xs : Nat → Int32} {d0 : Drawn} {Inv : (Nat → Bool) → Sg → Prop} {i : Nat} {x3 : Int32} (hop : Op_day Inv) (hC : Cx x p s m #[Value.ref b] meth c cL_law 4 (some .boolean) "IceTradeLaw") (hX : va_X b L xs s s.heap) (hbl : b < s.heap.size) (hbA : ¬ Ab x b) (hL : L ≤ 3072) (hx3 : x3 = nI i) (hi6 : i + 6 ≤ L) (hI : Inv lv σ) (hd0 : s.drawn.sameBut d0 lw_cs) (hcc : cells + 24 ≤ 101448) (hss : slots + 5400 ≤ 8797906) (hP : Pic x al lv σ H) (hS : va_S (Ab x) s.heap H locs) (hl : lv_has ls 4 [(0, .ref b), (1, .ref (al 6 0)), (2, .ref (al 7 0)), (3, .int x3)]) (kk : ∀ (lv2 : Nat → Bool) (σ2 : Sg) (al2 : Nat → Nat → Nat) (H2 : Heap) (locs2 : List Loc) (d2 : Drawn), Inv lv2 σ2 → s.drawn.sameBut d2 lw_cs → al2 6 0 = al 6 0 → al2 7 0 = al 7 0 → Pic x al2 lv2 σ2 H2 → va_S (Ab x) s.heap H2 locs2 → W p l e room_1 (s.setDrawn d2) m #[Value.ref b] below meth c H2 locs2 (cells + 3) (slots + 3604) Q (F0 m 1226 ls [])) : W p l e room_1 (s.setDrawn d0) m #[Value.ref b] below meth c H locs cells slots Q (F0 m 660 ls []) := by
  obtain ⟨hx, hb, hml, hown, hts⟩ := hC.1
  obtain ⟨r, σ1, lv1, h1, σ2, h2, hI2⟩ := hop lv σ hI 
  refine lv_aload_n hx hb dL_law_660 rfl (lv_at hl 1 rfl) ?_
  refine l_cA hS (r_runV (As := []) (rest := []) (hC.drew d0) kV_L_66 cw_X11_day (rc_X11 (hC.drew d0) hP) hP (tI_day x al lv σ  _ h1) rfl hl.1 ⟨Nat.le_of_ble_eq_true rfl, Nat.le_of_ble_eq_true rfl⟩ ⟨by show cells + 3 ≤ 101448; omega, by show slots + 3604 ≤ 8797906; omega⟩ (Nat.le_of_ble_eq_true rfl) dL_law_661) (fun al1 H locs e60 e70 hP hS => ?_)
  rw [← e60, ← e70] at hl
  refine lv_aload_n hx hb dL_law_664 rfl (lv_at hl 2 rfl) ?_
  refine l_cI hS (r_runV (As := []) (rest := [.int r]) (hC.drew d0) kV_L_70 cw_X12_day (rc_X12 (hC.drew d0) hP) hP (tM_day x al1 lv1 σ1  _ h2) rfl hl.1 ⟨Nat.le_of_ble_eq_true rfl, Nat.le_of_ble_eq_true rfl⟩ ⟨by show cells + 3 ≤ 101448; omega, by show slots + 3604 ≤ 8797906; omega⟩ (Nat.le_of_ble_eq_true rfl) dL_law_665) (fun H locs hP hS => ?_)
  refine lv_icmp_eq (tgt := 1226) hx hb dL_law_668 (by decide) (fun _ => ?_) (fun hc => absurd rfl hc)
  exact kk lv1 σ2 al1 H locs d0 hI2 hd0 e60 e70 hP hS
set_option maxRecDepth 20000 in
theorem law_count {p : Program} {l : Launch} {e : Env} {s : State} {m : MethodId} {below : List Frame} {meth : Method} {c : Code} {H : Heap} {locs : List Loc} {cells slots : Nat} {Q : State → Prop} {ls : Array Slot} {x : Wx} {al : Nat → Nat → Nat} {lv : Nat → Bool} {σ : Sg} {b L : Nat} {xs : Nat → Int32} {d0 : Drawn} {Inv : (Nat → Bool) → Sg → Prop} {i : Nat} {x3 : Int32} (hop : Op_count Inv) (hC : Cx x p s m #[Value.ref b] meth c cL_law 4 (some .boolean) "IceTradeLaw") (hX : va_X b L xs s s.heap) (hbl : b < s.heap.size) (hbA : ¬ Ab x b) (hL : L ≤ 3072) (hx3 : x3 = nI i) (hi6 : i + 6 ≤ L) (hI : Inv lv σ) (hd0 : s.drawn.sameBut d0 lw_cs) (hcc : cells + 24 ≤ 101448) (hss : slots + 5400 ≤ 8797906) (hP : Pic x al lv σ H) (hS : va_S (Ab x) s.heap H locs) (hl : lv_has ls 4 [(0, .ref b), (1, .ref (al 6 0)), (2, .ref (al 7 0)), (3, .int x3)]) (kk : ∀ (lv2 : Nat → Bool) (σ2 : Sg) (al2 : Nat → Nat → Nat) (H2 : Heap) (locs2 : List Loc) (d2 : Drawn), Inv lv2 σ2 → s.drawn.sameBut d2 lw_cs → al2 6 0 = al 6 0 → al2 7 0 = al 7 0 → Pic x al2 lv2 σ2 H2 → va_S (Ab x) s.heap H2 locs2 → W p l e room_1 (s.setDrawn d2) m #[Value.ref b] below meth c H2 locs2 (cells + 0) (slots + 0) Q (F0 m 1226 ls [])) : W p l e room_1 (s.setDrawn d0) m #[Value.ref b] below meth c H locs cells slots Q (F0 m 673 ls []) := by
  obtain ⟨hx, hb, hml, hown, hts⟩ := hC.1
  obtain ⟨r, h1, h2, hI2⟩ := hop lv σ hI (xs (x3 + 1).toNatClampNeg)
  refine lv_aload_n hx hb dL_law_673 rfl (lv_at hl 1 rfl) ?_
  refine lv_aload_n hx hb dL_law_674 rfl (lv_at hl 0 rfl) ?_
  refine lv_iload_n hx hb dL_law_675 rfl (lv_at hl 3 rfl) ?_
  refine lv_iconst (v := 1) hx hb dL_law_676 (by decide) ?_
  refine lv_iadd hx hb dL_law_677 ?_
  refine va_sld (s := s.setDrawn d0) hx hb hX hbl hbA hS (law_in (v := 1) (j := 1) hL hx3 hi6 (by decide) (by decide)) dL_law_678 ?_
  refine l_cP hS (r_runV (As := [.int (xs (x3 + 1).toNatClampNeg)]) (rest := []) (hC.drew d0) kV_L_71 cw_X11_count (rc_X11 (hC.drew d0) hP) hP (tI_count x al lv σ (xs (x3 + 1).toNatClampNeg) _ h1) rfl hl.1 ⟨Nat.le_of_ble_eq_true rfl, Nat.le_of_ble_eq_true rfl⟩ ⟨by show cells + 0 ≤ 101448; omega, by show slots + 0 ≤ 8797906; omega⟩ (Nat.le_of_ble_eq_true rfl) dL_law_679) (fun H locs hP hS => ?_)
  refine lv_aload_n hx hb dL_law_682 rfl (lv_at hl 2 rfl) ?_
  refine lv_aload_n hx hb dL_law_683 rfl (lv_at hl 0 rfl) ?_
  refine lv_iload_n hx hb dL_law_684 rfl (lv_at hl 3 rfl) ?_
  refine lv_iconst (v := 1) hx hb dL_law_685 (by decide) ?_
  refine lv_iadd hx hb dL_law_686 ?_
  refine va_sld (s := s.setDrawn d0) hx hb hX hbl hbA hS (law_in (v := 1) (j := 1) hL hx3 hi6 (by decide) (by decide)) dL_law_687 ?_
  refine l_cP hS (r_runV (As := [.int (xs (x3 + 1).toNatClampNeg)]) (rest := [.int r]) (hC.drew d0) kV_L_74 cw_X12_count (rc_X12 (hC.drew d0) hP) hP (tM_count x al lv σ (xs (x3 + 1).toNatClampNeg) _ h2) rfl hl.1 ⟨Nat.le_of_ble_eq_true rfl, Nat.le_of_ble_eq_true rfl⟩ ⟨by show cells + 0 ≤ 101448; omega, by show slots + 0 ≤ 8797906; omega⟩ (Nat.le_of_ble_eq_true rfl) dL_law_688) (fun H locs hP hS => ?_)
  refine lv_icmp_eq (tgt := 1226) hx hb dL_law_691 (by decide) (fun _ => ?_) (fun hc => absurd rfl hc)
  exact kk lv σ al H locs d0 hI2 hd0 rfl rfl hP hS
set_option maxRecDepth 20000 in
theorem law_next {p : Program} {l : Launch} {e : Env} {s : State} {m : MethodId} {below : List Frame} {meth : Method} {c : Code} {H : Heap} {locs : List Loc} {cells slots : Nat} {Q : State → Prop} {ls : Array Slot} {x : Wx} {al : Nat → Nat → Nat} {lv : Nat → Bool} {σ : Sg} {b L : Nat} {xs : Nat → Int32} {d0 : Drawn} {Inv : (Nat → Bool) → Sg → Prop} {i : Nat} {x3 : Int32} (hop : Op_next Inv) (hC : Cx x p s m #[Value.ref b] meth c cL_law 4 (some .boolean) "IceTradeLaw") (hX : va_X b L xs s s.heap) (hbl : b < s.heap.size) (hbA : ¬ Ab x b) (hL : L ≤ 3072) (hx3 : x3 = nI i) (hi6 : i + 6 ≤ L) (hI : Inv lv σ) (hd0 : s.drawn.sameBut d0 lw_cs) (hcc : cells + 24 ≤ 101448) (hss : slots + 5400 ≤ 8797906) (hP : Pic x al lv σ H) (hS : va_S (Ab x) s.heap H locs) (hl : lv_has ls 4 [(0, .ref b), (1, .ref (al 6 0)), (2, .ref (al 7 0)), (3, .int x3)]) (kk : ∀ (lv2 : Nat → Bool) (σ2 : Sg) (al2 : Nat → Nat → Nat) (H2 : Heap) (locs2 : List Loc) (d2 : Drawn), Inv lv2 σ2 → s.drawn.sameBut d2 lw_cs → al2 6 0 = al 6 0 → al2 7 0 = al 7 0 → Pic x al2 lv2 σ2 H2 → va_S (Ab x) s.heap H2 locs2 → W p l e room_1 (s.setDrawn d2) m #[Value.ref b] below meth c H2 locs2 (cells + 0) (slots + 0) Q (F0 m 1226 ls [])) : W p l e room_1 (s.setDrawn d0) m #[Value.ref b] below meth c H locs cells slots Q (F0 m 696 ls []) := by
  obtain ⟨hx, hb, hml, hown, hts⟩ := hC.1
  obtain ⟨r, σ1, h1, h2, hI2⟩ := hop lv σ hI (xs (x3 + 1).toNatClampNeg)
  refine lv_aload_n hx hb dL_law_696 rfl (lv_at hl 1 rfl) ?_
  refine lv_aload_n hx hb dL_law_697 rfl (lv_at hl 0 rfl) ?_
  refine lv_iload_n hx hb dL_law_698 rfl (lv_at hl 3 rfl) ?_
  refine lv_iconst (v := 1) hx hb dL_law_699 (by decide) ?_
  refine lv_iadd hx hb dL_law_700 ?_
  refine va_sld (s := s.setDrawn d0) hx hb hX hbl hbA hS (law_in (v := 1) (j := 1) hL hx3 hi6 (by decide) (by decide)) dL_law_701 ?_
  refine l_cI hS (r_runV (As := [.int (xs (x3 + 1).toNatClampNeg)]) (rest := []) (hC.drew d0) kV_L_75 cw_X11_next (rc_X11 (hC.drew d0) hP) hP (tI_next x al lv σ (xs (x3 + 1).toNatClampNeg) _ h1) rfl hl.1 ⟨Nat.le_of_ble_eq_true rfl, Nat.le_of_ble_eq_true rfl⟩ ⟨by show cells + 0 ≤ 101448; omega, by show slots + 0 ≤ 8797906; omega⟩ (Nat.le_of_ble_eq_true rfl) dL_law_702) (fun H locs hP hS => ?_)
  refine lv_aload_n hx hb dL_law_705 rfl (lv_at hl 2 rfl) ?_
  refine lv_aload_n hx hb dL_law_706 rfl (lv_at hl 0 rfl) ?_
  refine lv_iload_n hx hb dL_law_707 rfl (lv_at hl 3 rfl) ?_
  refine lv_iconst (v := 1) hx hb dL_law_708 (by decide) ?_
  refine lv_iadd hx hb dL_law_709 ?_
  refine va_sld (s := s.setDrawn d0) hx hb hX hbl hbA hS (law_in (v := 1) (j := 1) hL hx3 hi6 (by decide) (by decide)) dL_law_710 ?_
  refine l_cP hS (r_runV (As := [.int (xs (x3 + 1).toNatClampNeg)]) (rest := [.int r]) (hC.drew d0) kV_L_78 cw_X12_next (rc_X12 (hC.drew d0) hP) hP (tM_next x al lv σ1 (xs (x3 + 1).toNatClampNeg) _ h2) rfl hl.1 ⟨Nat.le_of_ble_eq_true rfl, Nat.le_of_ble_eq_true rfl⟩ ⟨by show cells + 0 ≤ 101448; omega, by show slots + 0 ≤ 8797906; omega⟩ (Nat.le_of_ble_eq_true rfl) dL_law_711) (fun H locs hP hS => ?_)
  refine lv_icmp_eq (tgt := 1226) hx hb dL_law_714 (by decide) (fun _ => ?_) (fun hc => absurd rfl hc)
  exact kk lv σ1 al H locs d0 hI2 hd0 rfl rfl hP hS
set_option maxRecDepth 20000 in
theorem law_take {p : Program} {l : Launch} {e : Env} {s : State} {m : MethodId} {below : List Frame} {meth : Method} {c : Code} {H : Heap} {locs : List Loc} {cells slots : Nat} {Q : State → Prop} {ls : Array Slot} {x : Wx} {al : Nat → Nat → Nat} {lv : Nat → Bool} {σ : Sg} {b L : Nat} {xs : Nat → Int32} {d0 : Drawn} {Inv : (Nat → Bool) → Sg → Prop} {i : Nat} {x3 : Int32} (hop : Op_take Inv) (hC : Cx x p s m #[Value.ref b] meth c cL_law 4 (some .boolean) "IceTradeLaw") (hX : va_X b L xs s s.heap) (hbl : b < s.heap.size) (hbA : ¬ Ab x b) (hL : L ≤ 3072) (hx3 : x3 = nI i) (hi6 : i + 6 ≤ L) (hI : Inv lv σ) (hd0 : s.drawn.sameBut d0 lw_cs) (hcc : cells + 24 ≤ 101448) (hss : slots + 5400 ≤ 8797906) (hP : Pic x al lv σ H) (hS : va_S (Ab x) s.heap H locs) (hl : lv_has ls 4 [(0, .ref b), (1, .ref (al 6 0)), (2, .ref (al 7 0)), (3, .int x3)]) (kk : ∀ (lv2 : Nat → Bool) (σ2 : Sg) (al2 : Nat → Nat → Nat) (H2 : Heap) (locs2 : List Loc) (d2 : Drawn), Inv lv2 σ2 → s.drawn.sameBut d2 lw_cs → al2 6 0 = al 6 0 → al2 7 0 = al 7 0 → Pic x al2 lv2 σ2 H2 → va_S (Ab x) s.heap H2 locs2 → W p l e room_1 (s.setDrawn d2) m #[Value.ref b] below meth c H2 locs2 (cells + 0) (slots + 0) Q (F0 m 1226 ls [])) : W p l e room_1 (s.setDrawn d0) m #[Value.ref b] below meth c H locs cells slots Q (F0 m 719 ls []) := by
  obtain ⟨hx, hb, hml, hown, hts⟩ := hC.1
  obtain ⟨r, σ1, h1, σ2, h2, hI2⟩ := hop lv σ hI (xs (x3 + 1).toNatClampNeg) (xs (x3 + 2).toNatClampNeg)
  refine lv_aload_n hx hb dL_law_719 rfl (lv_at hl 1 rfl) ?_
  refine lv_aload_n hx hb dL_law_720 rfl (lv_at hl 0 rfl) ?_
  refine lv_iload_n hx hb dL_law_721 rfl (lv_at hl 3 rfl) ?_
  refine lv_iconst (v := 1) hx hb dL_law_722 (by decide) ?_
  refine lv_iadd hx hb dL_law_723 ?_
  refine va_sld (s := s.setDrawn d0) hx hb hX hbl hbA hS (law_in (v := 1) (j := 1) hL hx3 hi6 (by decide) (by decide)) dL_law_724 ?_
  refine lv_aload_n hx hb dL_law_725 rfl (lv_at hl 0 rfl) ?_
  refine lv_iload_n hx hb dL_law_726 rfl (lv_at hl 3 rfl) ?_
  refine lv_iconst (v := 2) hx hb dL_law_727 (by decide) ?_
  refine lv_iadd hx hb dL_law_728 ?_
  refine va_sld (s := s.setDrawn d0) hx hb hX hbl hbA hS (law_in (v := 2) (j := 2) hL hx3 hi6 (by decide) (by decide)) dL_law_729 ?_
  refine l_cI hS (r_runV (As := [.int (xs (x3 + 1).toNatClampNeg), .int (xs (x3 + 2).toNatClampNeg)]) (rest := []) (hC.drew d0) kV_L_79 cw_X11_take (rc_X11 (hC.drew d0) hP) hP (tI_take x al lv σ (xs (x3 + 1).toNatClampNeg) (xs (x3 + 2).toNatClampNeg) _ h1) rfl hl.1 ⟨Nat.le_of_ble_eq_true rfl, Nat.le_of_ble_eq_true rfl⟩ ⟨by show cells + 0 ≤ 101448; omega, by show slots + 0 ≤ 8797906; omega⟩ (Nat.le_of_ble_eq_true rfl) dL_law_730) (fun H locs hP hS => ?_)
  refine lv_aload_n hx hb dL_law_733 rfl (lv_at hl 2 rfl) ?_
  refine lv_aload_n hx hb dL_law_734 rfl (lv_at hl 0 rfl) ?_
  refine lv_iload_n hx hb dL_law_735 rfl (lv_at hl 3 rfl) ?_
  refine lv_iconst (v := 1) hx hb dL_law_736 (by decide) ?_
  refine lv_iadd hx hb dL_law_737 ?_
  refine va_sld (s := s.setDrawn d0) hx hb hX hbl hbA hS (law_in (v := 1) (j := 1) hL hx3 hi6 (by decide) (by decide)) dL_law_738 ?_
  refine lv_aload_n hx hb dL_law_739 rfl (lv_at hl 0 rfl) ?_
  refine lv_iload_n hx hb dL_law_740 rfl (lv_at hl 3 rfl) ?_
  refine lv_iconst (v := 2) hx hb dL_law_741 (by decide) ?_
  refine lv_iadd hx hb dL_law_742 ?_
  refine va_sld (s := s.setDrawn d0) hx hb hX hbl hbA hS (law_in (v := 2) (j := 2) hL hx3 hi6 (by decide) (by decide)) dL_law_743 ?_
  refine l_cI hS (r_runV (As := [.int (xs (x3 + 1).toNatClampNeg), .int (xs (x3 + 2).toNatClampNeg)]) (rest := [.int r]) (hC.drew d0) kV_L_82 cw_X12_take (rc_X12 (hC.drew d0) hP) hP (tM_take x al lv σ1 (xs (x3 + 1).toNatClampNeg) (xs (x3 + 2).toNatClampNeg) _ h2) rfl hl.1 ⟨Nat.le_of_ble_eq_true rfl, Nat.le_of_ble_eq_true rfl⟩ ⟨by show cells + 0 ≤ 101448; omega, by show slots + 0 ≤ 8797906; omega⟩ (Nat.le_of_ble_eq_true rfl) dL_law_744) (fun H locs hP hS => ?_)
  refine lv_icmp_eq (tgt := 1226) hx hb dL_law_747 (by decide) (fun _ => ?_) (fun hc => absurd rfl hc)
  exact kk lv σ2 al H locs d0 hI2 hd0 rfl rfl hP hS
set_option maxRecDepth 20000 in
theorem law_way {p : Program} {l : Launch} {e : Env} {s : State} {m : MethodId} {below : List Frame} {meth : Method} {c : Code} {H : Heap} {locs : List Loc} {cells slots : Nat} {Q : State → Prop} {ls : Array Slot} {x : Wx} {al : Nat → Nat → Nat} {lv : Nat → Bool} {σ : Sg} {b L : Nat} {xs : Nat → Int32} {d0 : Drawn} {Inv : (Nat → Bool) → Sg → Prop} {i : Nat} {x3 : Int32} (hop : Op_way Inv) (hC : Cx x p s m #[Value.ref b] meth c cL_law 4 (some .boolean) "IceTradeLaw") (hX : va_X b L xs s s.heap) (hbl : b < s.heap.size) (hbA : ¬ Ab x b) (hL : L ≤ 3072) (hx3 : x3 = nI i) (hi6 : i + 6 ≤ L) (hI : Inv lv σ) (hd0 : s.drawn.sameBut d0 lw_cs) (hcc : cells + 24 ≤ 101448) (hss : slots + 5400 ≤ 8797906) (hP : Pic x al lv σ H) (hS : va_S (Ab x) s.heap H locs) (hl : lv_has ls 4 [(0, .ref b), (1, .ref (al 6 0)), (2, .ref (al 7 0)), (3, .int x3)]) (kk : ∀ (lv2 : Nat → Bool) (σ2 : Sg) (al2 : Nat → Nat → Nat) (H2 : Heap) (locs2 : List Loc) (d2 : Drawn), Inv lv2 σ2 → s.drawn.sameBut d2 lw_cs → al2 6 0 = al 6 0 → al2 7 0 = al 7 0 → Pic x al2 lv2 σ2 H2 → va_S (Ab x) s.heap H2 locs2 → W p l e room_1 (s.setDrawn d2) m #[Value.ref b] below meth c H2 locs2 (cells + 0) (slots + 0) Q (F0 m 1226 ls [])) : W p l e room_1 (s.setDrawn d0) m #[Value.ref b] below meth c H locs cells slots Q (F0 m 752 ls []) := by
  obtain ⟨hx, hb, hml, hown, hts⟩ := hC.1
  obtain ⟨r, σ1, h1, σ2, h2, hI2⟩ := hop lv σ hI (xs (x3 + 1).toNatClampNeg) (xs (x3 + 2).toNatClampNeg)
  refine lv_aload_n hx hb dL_law_752 rfl (lv_at hl 1 rfl) ?_
  refine lv_aload_n hx hb dL_law_753 rfl (lv_at hl 0 rfl) ?_
  refine lv_iload_n hx hb dL_law_754 rfl (lv_at hl 3 rfl) ?_
  refine lv_iconst (v := 1) hx hb dL_law_755 (by decide) ?_
  refine lv_iadd hx hb dL_law_756 ?_
  refine va_sld (s := s.setDrawn d0) hx hb hX hbl hbA hS (law_in (v := 1) (j := 1) hL hx3 hi6 (by decide) (by decide)) dL_law_757 ?_
  refine lv_aload_n hx hb dL_law_758 rfl (lv_at hl 0 rfl) ?_
  refine lv_iload_n hx hb dL_law_759 rfl (lv_at hl 3 rfl) ?_
  refine lv_iconst (v := 2) hx hb dL_law_760 (by decide) ?_
  refine lv_iadd hx hb dL_law_761 ?_
  refine va_sld (s := s.setDrawn d0) hx hb hX hbl hbA hS (law_in (v := 2) (j := 2) hL hx3 hi6 (by decide) (by decide)) dL_law_762 ?_
  refine l_cI hS (r_runV (As := [.int (xs (x3 + 1).toNatClampNeg), .int (xs (x3 + 2).toNatClampNeg)]) (rest := []) (hC.drew d0) kV_L_83 cw_X11_way (rc_X11 (hC.drew d0) hP) hP (tI_way x al lv σ (xs (x3 + 1).toNatClampNeg) (xs (x3 + 2).toNatClampNeg) _ h1) rfl hl.1 ⟨Nat.le_of_ble_eq_true rfl, Nat.le_of_ble_eq_true rfl⟩ ⟨by show cells + 0 ≤ 101448; omega, by show slots + 0 ≤ 8797906; omega⟩ (Nat.le_of_ble_eq_true rfl) dL_law_763) (fun H locs hP hS => ?_)
  refine lv_aload_n hx hb dL_law_766 rfl (lv_at hl 2 rfl) ?_
  refine lv_aload_n hx hb dL_law_767 rfl (lv_at hl 0 rfl) ?_
  refine lv_iload_n hx hb dL_law_768 rfl (lv_at hl 3 rfl) ?_
  refine lv_iconst (v := 1) hx hb dL_law_769 (by decide) ?_
  refine lv_iadd hx hb dL_law_770 ?_
  refine va_sld (s := s.setDrawn d0) hx hb hX hbl hbA hS (law_in (v := 1) (j := 1) hL hx3 hi6 (by decide) (by decide)) dL_law_771 ?_
  refine lv_aload_n hx hb dL_law_772 rfl (lv_at hl 0 rfl) ?_
  refine lv_iload_n hx hb dL_law_773 rfl (lv_at hl 3 rfl) ?_
  refine lv_iconst (v := 2) hx hb dL_law_774 (by decide) ?_
  refine lv_iadd hx hb dL_law_775 ?_
  refine va_sld (s := s.setDrawn d0) hx hb hX hbl hbA hS (law_in (v := 2) (j := 2) hL hx3 hi6 (by decide) (by decide)) dL_law_776 ?_
  refine l_cI hS (r_runV (As := [.int (xs (x3 + 1).toNatClampNeg), .int (xs (x3 + 2).toNatClampNeg)]) (rest := [.int r]) (hC.drew d0) kV_L_86 cw_X12_way (rc_X12 (hC.drew d0) hP) hP (tM_way x al lv σ1 (xs (x3 + 1).toNatClampNeg) (xs (x3 + 2).toNatClampNeg) _ h2) rfl hl.1 ⟨Nat.le_of_ble_eq_true rfl, Nat.le_of_ble_eq_true rfl⟩ ⟨by show cells + 0 ≤ 101448; omega, by show slots + 0 ≤ 8797906; omega⟩ (Nat.le_of_ble_eq_true rfl) dL_law_777) (fun H locs hP hS => ?_)
  refine lv_icmp_eq (tgt := 1226) hx hb dL_law_780 (by decide) (fun _ => ?_) (fun hc => absurd rfl hc)
  exact kk lv σ2 al H locs d0 hI2 hd0 rfl rfl hP hS
set_option maxRecDepth 20000 in
theorem law_home {p : Program} {l : Launch} {e : Env} {s : State} {m : MethodId} {below : List Frame} {meth : Method} {c : Code} {H : Heap} {locs : List Loc} {cells slots : Nat} {Q : State → Prop} {ls : Array Slot} {x : Wx} {al : Nat → Nat → Nat} {lv : Nat → Bool} {σ : Sg} {b L : Nat} {xs : Nat → Int32} {d0 : Drawn} {Inv : (Nat → Bool) → Sg → Prop} {i : Nat} {x3 : Int32} (hop : Op_home Inv) (hC : Cx x p s m #[Value.ref b] meth c cL_law 4 (some .boolean) "IceTradeLaw") (hX : va_X b L xs s s.heap) (hbl : b < s.heap.size) (hbA : ¬ Ab x b) (hL : L ≤ 3072) (hx3 : x3 = nI i) (hi6 : i + 6 ≤ L) (hI : Inv lv σ) (hd0 : s.drawn.sameBut d0 lw_cs) (hcc : cells + 24 ≤ 101448) (hss : slots + 5400 ≤ 8797906) (hP : Pic x al lv σ H) (hS : va_S (Ab x) s.heap H locs) (hl : lv_has ls 4 [(0, .ref b), (1, .ref (al 6 0)), (2, .ref (al 7 0)), (3, .int x3)]) (kk : ∀ (lv2 : Nat → Bool) (σ2 : Sg) (al2 : Nat → Nat → Nat) (H2 : Heap) (locs2 : List Loc) (d2 : Drawn), Inv lv2 σ2 → s.drawn.sameBut d2 lw_cs → al2 6 0 = al 6 0 → al2 7 0 = al 7 0 → Pic x al2 lv2 σ2 H2 → va_S (Ab x) s.heap H2 locs2 → W p l e room_1 (s.setDrawn d2) m #[Value.ref b] below meth c H2 locs2 (cells + 0) (slots + 0) Q (F0 m 1226 ls [])) : W p l e room_1 (s.setDrawn d0) m #[Value.ref b] below meth c H locs cells slots Q (F0 m 785 ls []) := by
  obtain ⟨hx, hb, hml, hown, hts⟩ := hC.1
  obtain ⟨r, σ1, h1, σ2, h2, hI2⟩ := hop lv σ hI 
  refine lv_aload_n hx hb dL_law_785 rfl (lv_at hl 1 rfl) ?_
  refine l_cI hS (r_runV (As := []) (rest := []) (hC.drew d0) kV_L_87 cw_X11_home (rc_X11 (hC.drew d0) hP) hP (tI_home x al lv σ  _ h1) rfl hl.1 ⟨Nat.le_of_ble_eq_true rfl, Nat.le_of_ble_eq_true rfl⟩ ⟨by show cells + 0 ≤ 101448; omega, by show slots + 0 ≤ 8797906; omega⟩ (Nat.le_of_ble_eq_true rfl) dL_law_786) (fun H locs hP hS => ?_)
  refine lv_aload_n hx hb dL_law_789 rfl (lv_at hl 2 rfl) ?_
  refine l_cI hS (r_runV (As := []) (rest := [.int r]) (hC.drew d0) kV_L_90 cw_X12_home (rc_X12 (hC.drew d0) hP) hP (tM_home x al lv σ1  _ h2) rfl hl.1 ⟨Nat.le_of_ble_eq_true rfl, Nat.le_of_ble_eq_true rfl⟩ ⟨by show cells + 0 ≤ 101448; omega, by show slots + 0 ≤ 8797906; omega⟩ (Nat.le_of_ble_eq_true rfl) dL_law_790) (fun H locs hP hS => ?_)
  refine lv_icmp_eq (tgt := 1226) hx hb dL_law_793 (by decide) (fun _ => ?_) (fun hc => absurd rfl hc)
  exact kk lv σ2 al H locs d0 hI2 hd0 rfl rfl hP hS
set_option maxRecDepth 20000 in
theorem law_comes {p : Program} {l : Launch} {e : Env} {s : State} {m : MethodId} {below : List Frame} {meth : Method} {c : Code} {H : Heap} {locs : List Loc} {cells slots : Nat} {Q : State → Prop} {ls : Array Slot} {x : Wx} {al : Nat → Nat → Nat} {lv : Nat → Bool} {σ : Sg} {b L : Nat} {xs : Nat → Int32} {d0 : Drawn} {Inv : (Nat → Bool) → Sg → Prop} {i : Nat} {x3 : Int32} (hop : Op_comes Inv) (hC : Cx x p s m #[Value.ref b] meth c cL_law 4 (some .boolean) "IceTradeLaw") (hX : va_X b L xs s s.heap) (hbl : b < s.heap.size) (hbA : ¬ Ab x b) (hL : L ≤ 3072) (hx3 : x3 = nI i) (hi6 : i + 6 ≤ L) (hI : Inv lv σ) (hd0 : s.drawn.sameBut d0 lw_cs) (hcc : cells + 24 ≤ 101448) (hss : slots + 5400 ≤ 8797906) (hP : Pic x al lv σ H) (hS : va_S (Ab x) s.heap H locs) (hl : lv_has ls 4 [(0, .ref b), (1, .ref (al 6 0)), (2, .ref (al 7 0)), (3, .int x3)]) (kk : ∀ (lv2 : Nat → Bool) (σ2 : Sg) (al2 : Nat → Nat → Nat) (H2 : Heap) (locs2 : List Loc) (d2 : Drawn), Inv lv2 σ2 → s.drawn.sameBut d2 lw_cs → al2 6 0 = al 6 0 → al2 7 0 = al 7 0 → Pic x al2 lv2 σ2 H2 → va_S (Ab x) s.heap H2 locs2 → W p l e room_1 (s.setDrawn d2) m #[Value.ref b] below meth c H2 locs2 (cells + 0) (slots + 0) Q (F0 m 1226 ls [])) : W p l e room_1 (s.setDrawn d0) m #[Value.ref b] below meth c H locs cells slots Q (F0 m 798 ls []) := by
  obtain ⟨hx, hb, hml, hown, hts⟩ := hC.1
  obtain ⟨r, σ1, h1, σ2, h2, hI2⟩ := hop lv σ hI (xs (x3 + 1).toNatClampNeg) (xs (x3 + 2).toNatClampNeg)
  refine lv_aload_n hx hb dL_law_798 rfl (lv_at hl 1 rfl) ?_
  refine lv_aload_n hx hb dL_law_799 rfl (lv_at hl 0 rfl) ?_
  refine lv_iload_n hx hb dL_law_800 rfl (lv_at hl 3 rfl) ?_
  refine lv_iconst (v := 1) hx hb dL_law_801 (by decide) ?_
  refine lv_iadd hx hb dL_law_802 ?_
  refine va_sld (s := s.setDrawn d0) hx hb hX hbl hbA hS (law_in (v := 1) (j := 1) hL hx3 hi6 (by decide) (by decide)) dL_law_803 ?_
  refine lv_aload_n hx hb dL_law_804 rfl (lv_at hl 0 rfl) ?_
  refine lv_iload_n hx hb dL_law_805 rfl (lv_at hl 3 rfl) ?_
  refine lv_iconst (v := 2) hx hb dL_law_806 (by decide) ?_
  refine lv_iadd hx hb dL_law_807 ?_
  refine va_sld (s := s.setDrawn d0) hx hb hX hbl hbA hS (law_in (v := 2) (j := 2) hL hx3 hi6 (by decide) (by decide)) dL_law_808 ?_
  refine l_cI hS (r_runV (As := [.int (xs (x3 + 1).toNatClampNeg), .int (xs (x3 + 2).toNatClampNeg)]) (rest := []) (hC.drew d0) kV_L_91 cw_X11_comes (rc_X11 (hC.drew d0) hP) hP (tI_comes x al lv σ (xs (x3 + 1).toNatClampNeg) (xs (x3 + 2).toNatClampNeg) _ h1) rfl hl.1 ⟨Nat.le_of_ble_eq_true rfl, Nat.le_of_ble_eq_true rfl⟩ ⟨by show cells + 0 ≤ 101448; omega, by show slots + 0 ≤ 8797906; omega⟩ (Nat.le_of_ble_eq_true rfl) dL_law_809) (fun H locs hP hS => ?_)
  refine lv_aload_n hx hb dL_law_812 rfl (lv_at hl 2 rfl) ?_
  refine lv_aload_n hx hb dL_law_813 rfl (lv_at hl 0 rfl) ?_
  refine lv_iload_n hx hb dL_law_814 rfl (lv_at hl 3 rfl) ?_
  refine lv_iconst (v := 1) hx hb dL_law_815 (by decide) ?_
  refine lv_iadd hx hb dL_law_816 ?_
  refine va_sld (s := s.setDrawn d0) hx hb hX hbl hbA hS (law_in (v := 1) (j := 1) hL hx3 hi6 (by decide) (by decide)) dL_law_817 ?_
  refine lv_aload_n hx hb dL_law_818 rfl (lv_at hl 0 rfl) ?_
  refine lv_iload_n hx hb dL_law_819 rfl (lv_at hl 3 rfl) ?_
  refine lv_iconst (v := 2) hx hb dL_law_820 (by decide) ?_
  refine lv_iadd hx hb dL_law_821 ?_
  refine va_sld (s := s.setDrawn d0) hx hb hX hbl hbA hS (law_in (v := 2) (j := 2) hL hx3 hi6 (by decide) (by decide)) dL_law_822 ?_
  refine l_cI hS (r_runV (As := [.int (xs (x3 + 1).toNatClampNeg), .int (xs (x3 + 2).toNatClampNeg)]) (rest := [.int r]) (hC.drew d0) kV_L_94 cw_X12_comes (rc_X12 (hC.drew d0) hP) hP (tM_comes x al lv σ1 (xs (x3 + 1).toNatClampNeg) (xs (x3 + 2).toNatClampNeg) _ h2) rfl hl.1 ⟨Nat.le_of_ble_eq_true rfl, Nat.le_of_ble_eq_true rfl⟩ ⟨by show cells + 0 ≤ 101448; omega, by show slots + 0 ≤ 8797906; omega⟩ (Nat.le_of_ble_eq_true rfl) dL_law_823) (fun H locs hP hS => ?_)
  refine lv_icmp_eq (tgt := 1226) hx hb dL_law_826 (by decide) (fun _ => ?_) (fun hc => absurd rfl hc)
  exact kk lv σ2 al H locs d0 hI2 hd0 rfl rfl hP hS
set_option maxRecDepth 20000 in
theorem law_send {p : Program} {l : Launch} {e : Env} {s : State} {m : MethodId} {below : List Frame} {meth : Method} {c : Code} {H : Heap} {locs : List Loc} {cells slots : Nat} {Q : State → Prop} {ls : Array Slot} {x : Wx} {al : Nat → Nat → Nat} {lv : Nat → Bool} {σ : Sg} {b L : Nat} {xs : Nat → Int32} {d0 : Drawn} {Inv : (Nat → Bool) → Sg → Prop} {i : Nat} {x3 : Int32} (hop : Op_send Inv) (hC : Cx x p s m #[Value.ref b] meth c cL_law 4 (some .boolean) "IceTradeLaw") (hX : va_X b L xs s s.heap) (hbl : b < s.heap.size) (hbA : ¬ Ab x b) (hL : L ≤ 3072) (hx3 : x3 = nI i) (hi6 : i + 6 ≤ L) (hI : Inv lv σ) (hd0 : s.drawn.sameBut d0 lw_cs) (hcc : cells + 24 ≤ 101448) (hss : slots + 5400 ≤ 8797906) (hP : Pic x al lv σ H) (hS : va_S (Ab x) s.heap H locs) (hl : lv_has ls 4 [(0, .ref b), (1, .ref (al 6 0)), (2, .ref (al 7 0)), (3, .int x3)]) (kk : ∀ (lv2 : Nat → Bool) (σ2 : Sg) (al2 : Nat → Nat → Nat) (H2 : Heap) (locs2 : List Loc) (d2 : Drawn), Inv lv2 σ2 → s.drawn.sameBut d2 lw_cs → al2 6 0 = al 6 0 → al2 7 0 = al 7 0 → Pic x al2 lv2 σ2 H2 → va_S (Ab x) s.heap H2 locs2 → W p l e room_1 (s.setDrawn d2) m #[Value.ref b] below meth c H2 locs2 (cells + 0) (slots + 0) Q (F0 m 1226 ls [])) : W p l e room_1 (s.setDrawn d0) m #[Value.ref b] below meth c H locs cells slots Q (F0 m 831 ls []) := by
  obtain ⟨hx, hb, hml, hown, hts⟩ := hC.1
  obtain ⟨r, σ1, h1, σ2, h2, hI2⟩ := hop lv σ hI (xs (x3 + 1).toNatClampNeg) (xs (x3 + 2).toNatClampNeg)
  refine lv_aload_n hx hb dL_law_831 rfl (lv_at hl 1 rfl) ?_
  refine lv_aload_n hx hb dL_law_832 rfl (lv_at hl 0 rfl) ?_
  refine lv_iload_n hx hb dL_law_833 rfl (lv_at hl 3 rfl) ?_
  refine lv_iconst (v := 1) hx hb dL_law_834 (by decide) ?_
  refine lv_iadd hx hb dL_law_835 ?_
  refine va_sld (s := s.setDrawn d0) hx hb hX hbl hbA hS (law_in (v := 1) (j := 1) hL hx3 hi6 (by decide) (by decide)) dL_law_836 ?_
  refine lv_aload_n hx hb dL_law_837 rfl (lv_at hl 0 rfl) ?_
  refine lv_iload_n hx hb dL_law_838 rfl (lv_at hl 3 rfl) ?_
  refine lv_iconst (v := 2) hx hb dL_law_839 (by decide) ?_
  refine lv_iadd hx hb dL_law_840 ?_
  refine va_sld (s := s.setDrawn d0) hx hb hX hbl hbA hS (law_in (v := 2) (j := 2) hL hx3 hi6 (by decide) (by decide)) dL_law_841 ?_
  refine l_cI hS (r_runV (As := [.int (xs (x3 + 1).toNatClampNeg), .int (xs (x3 + 2).toNatClampNeg)]) (rest := []) (hC.drew d0) kV_L_95 cw_X11_send (rc_X11 (hC.drew d0) hP) hP (tI_send x al lv σ (xs (x3 + 1).toNatClampNeg) (xs (x3 + 2).toNatClampNeg) _ h1) rfl hl.1 ⟨Nat.le_of_ble_eq_true rfl, Nat.le_of_ble_eq_true rfl⟩ ⟨by show cells + 0 ≤ 101448; omega, by show slots + 0 ≤ 8797906; omega⟩ (Nat.le_of_ble_eq_true rfl) dL_law_842) (fun H locs hP hS => ?_)
  refine lv_aload_n hx hb dL_law_845 rfl (lv_at hl 2 rfl) ?_
  refine lv_aload_n hx hb dL_law_846 rfl (lv_at hl 0 rfl) ?_
  refine lv_iload_n hx hb dL_law_847 rfl (lv_at hl 3 rfl) ?_
  refine lv_iconst (v := 1) hx hb dL_law_848 (by decide) ?_
  refine lv_iadd hx hb dL_law_849 ?_
  refine va_sld (s := s.setDrawn d0) hx hb hX hbl hbA hS (law_in (v := 1) (j := 1) hL hx3 hi6 (by decide) (by decide)) dL_law_850 ?_
  refine lv_aload_n hx hb dL_law_851 rfl (lv_at hl 0 rfl) ?_
  refine lv_iload_n hx hb dL_law_852 rfl (lv_at hl 3 rfl) ?_
  refine lv_iconst (v := 2) hx hb dL_law_853 (by decide) ?_
  refine lv_iadd hx hb dL_law_854 ?_
  refine va_sld (s := s.setDrawn d0) hx hb hX hbl hbA hS (law_in (v := 2) (j := 2) hL hx3 hi6 (by decide) (by decide)) dL_law_855 ?_
  refine l_cI hS (r_runV (As := [.int (xs (x3 + 1).toNatClampNeg), .int (xs (x3 + 2).toNatClampNeg)]) (rest := [.int r]) (hC.drew d0) kV_L_98 cw_X12_send (rc_X12 (hC.drew d0) hP) hP (tM_send x al lv σ1 (xs (x3 + 1).toNatClampNeg) (xs (x3 + 2).toNatClampNeg) _ h2) rfl hl.1 ⟨Nat.le_of_ble_eq_true rfl, Nat.le_of_ble_eq_true rfl⟩ ⟨by show cells + 0 ≤ 101448; omega, by show slots + 0 ≤ 8797906; omega⟩ (Nat.le_of_ble_eq_true rfl) dL_law_856) (fun H locs hP hS => ?_)
  refine lv_icmp_eq (tgt := 1226) hx hb dL_law_859 (by decide) (fun _ => ?_) (fun hc => absurd rfl hc)
  exact kk lv σ2 al H locs d0 hI2 hd0 rfl rfl hP hS
set_option maxRecDepth 20000 in
theorem law_sent {p : Program} {l : Launch} {e : Env} {s : State} {m : MethodId} {below : List Frame} {meth : Method} {c : Code} {H : Heap} {locs : List Loc} {cells slots : Nat} {Q : State → Prop} {ls : Array Slot} {x : Wx} {al : Nat → Nat → Nat} {lv : Nat → Bool} {σ : Sg} {b L : Nat} {xs : Nat → Int32} {d0 : Drawn} {Inv : (Nat → Bool) → Sg → Prop} {i : Nat} {x3 : Int32} (hop : Op_sent Inv) (hC : Cx x p s m #[Value.ref b] meth c cL_law 4 (some .boolean) "IceTradeLaw") (hX : va_X b L xs s s.heap) (hbl : b < s.heap.size) (hbA : ¬ Ab x b) (hL : L ≤ 3072) (hx3 : x3 = nI i) (hi6 : i + 6 ≤ L) (hI : Inv lv σ) (hd0 : s.drawn.sameBut d0 lw_cs) (hcc : cells + 24 ≤ 101448) (hss : slots + 5400 ≤ 8797906) (hP : Pic x al lv σ H) (hS : va_S (Ab x) s.heap H locs) (hl : lv_has ls 4 [(0, .ref b), (1, .ref (al 6 0)), (2, .ref (al 7 0)), (3, .int x3)]) (kk : ∀ (lv2 : Nat → Bool) (σ2 : Sg) (al2 : Nat → Nat → Nat) (H2 : Heap) (locs2 : List Loc) (d2 : Drawn), Inv lv2 σ2 → s.drawn.sameBut d2 lw_cs → al2 6 0 = al 6 0 → al2 7 0 = al 7 0 → Pic x al2 lv2 σ2 H2 → va_S (Ab x) s.heap H2 locs2 → W p l e room_1 (s.setDrawn d2) m #[Value.ref b] below meth c H2 locs2 (cells + 0) (slots + 0) Q (F0 m 1226 ls [])) : W p l e room_1 (s.setDrawn d0) m #[Value.ref b] below meth c H locs cells slots Q (F0 m 864 ls []) := by
  obtain ⟨hx, hb, hml, hown, hts⟩ := hC.1
  obtain ⟨r, h1, h2, hI2⟩ := hop lv σ hI (xs (x3 + 1).toNatClampNeg)
  refine lv_aload_n hx hb dL_law_864 rfl (lv_at hl 1 rfl) ?_
  refine lv_aload_n hx hb dL_law_865 rfl (lv_at hl 0 rfl) ?_
  refine lv_iload_n hx hb dL_law_866 rfl (lv_at hl 3 rfl) ?_
  refine lv_iconst (v := 1) hx hb dL_law_867 (by decide) ?_
  refine lv_iadd hx hb dL_law_868 ?_
  refine va_sld (s := s.setDrawn d0) hx hb hX hbl hbA hS (law_in (v := 1) (j := 1) hL hx3 hi6 (by decide) (by decide)) dL_law_869 ?_
  refine l_cP hS (r_runV (As := [.int (xs (x3 + 1).toNatClampNeg)]) (rest := []) (hC.drew d0) kV_L_99 cw_X11_sent (rc_X11 (hC.drew d0) hP) hP (tI_sent x al lv σ (xs (x3 + 1).toNatClampNeg) _ h1) rfl hl.1 ⟨Nat.le_of_ble_eq_true rfl, Nat.le_of_ble_eq_true rfl⟩ ⟨by show cells + 0 ≤ 101448; omega, by show slots + 0 ≤ 8797906; omega⟩ (Nat.le_of_ble_eq_true rfl) dL_law_870) (fun H locs hP hS => ?_)
  refine lv_aload_n hx hb dL_law_873 rfl (lv_at hl 2 rfl) ?_
  refine lv_aload_n hx hb dL_law_874 rfl (lv_at hl 0 rfl) ?_
  refine lv_iload_n hx hb dL_law_875 rfl (lv_at hl 3 rfl) ?_
  refine lv_iconst (v := 1) hx hb dL_law_876 (by decide) ?_
  refine lv_iadd hx hb dL_law_877 ?_
  refine va_sld (s := s.setDrawn d0) hx hb hX hbl hbA hS (law_in (v := 1) (j := 1) hL hx3 hi6 (by decide) (by decide)) dL_law_878 ?_
  refine l_cP hS (r_runV (As := [.int (xs (x3 + 1).toNatClampNeg)]) (rest := [.int r]) (hC.drew d0) kV_L_102 cw_X12_sent (rc_X12 (hC.drew d0) hP) hP (tM_sent x al lv σ (xs (x3 + 1).toNatClampNeg) _ h2) rfl hl.1 ⟨Nat.le_of_ble_eq_true rfl, Nat.le_of_ble_eq_true rfl⟩ ⟨by show cells + 0 ≤ 101448; omega, by show slots + 0 ≤ 8797906; omega⟩ (Nat.le_of_ble_eq_true rfl) dL_law_879) (fun H locs hP hS => ?_)
  refine lv_icmp_eq (tgt := 1226) hx hb dL_law_882 (by decide) (fun _ => ?_) (fun hc => absurd rfl hc)
  exact kk lv σ al H locs d0 hI2 hd0 rfl rfl hP hS
set_option maxRecDepth 20000 in
theorem law_list {p : Program} {l : Launch} {e : Env} {s : State} {m : MethodId} {below : List Frame} {meth : Method} {c : Code} {H : Heap} {locs : List Loc} {cells slots : Nat} {Q : State → Prop} {ls : Array Slot} {x : Wx} {al : Nat → Nat → Nat} {lv : Nat → Bool} {σ : Sg} {b L : Nat} {xs : Nat → Int32} {d0 : Drawn} {Inv : (Nat → Bool) → Sg → Prop} {i : Nat} {x3 : Int32} (hop : Op_list Inv) (hC : Cx x p s m #[Value.ref b] meth c cL_law 4 (some .boolean) "IceTradeLaw") (hX : va_X b L xs s s.heap) (hbl : b < s.heap.size) (hbA : ¬ Ab x b) (hL : L ≤ 3072) (hx3 : x3 = nI i) (hi6 : i + 6 ≤ L) (hI : Inv lv σ) (hd0 : s.drawn.sameBut d0 lw_cs) (hcc : cells + 24 ≤ 101448) (hss : slots + 5400 ≤ 8797906) (hP : Pic x al lv σ H) (hS : va_S (Ab x) s.heap H locs) (hl : lv_has ls 4 [(0, .ref b), (1, .ref (al 6 0)), (2, .ref (al 7 0)), (3, .int x3)]) (kk : ∀ (lv2 : Nat → Bool) (σ2 : Sg) (al2 : Nat → Nat → Nat) (H2 : Heap) (locs2 : List Loc) (d2 : Drawn), Inv lv2 σ2 → s.drawn.sameBut d2 lw_cs → al2 6 0 = al 6 0 → al2 7 0 = al 7 0 → Pic x al2 lv2 σ2 H2 → va_S (Ab x) s.heap H2 locs2 → W p l e room_1 (s.setDrawn d2) m #[Value.ref b] below meth c H2 locs2 (cells + 0) (slots + 0) Q (F0 m 1226 ls [])) : W p l e room_1 (s.setDrawn d0) m #[Value.ref b] below meth c H locs cells slots Q (F0 m 887 ls []) := by
  obtain ⟨hx, hb, hml, hown, hts⟩ := hC.1
  obtain ⟨r, h1, h2, hI2⟩ := hop lv σ hI (xs (x3 + 1).toNatClampNeg)
  refine lv_aload_n hx hb dL_law_887 rfl (lv_at hl 1 rfl) ?_
  refine lv_aload_n hx hb dL_law_888 rfl (lv_at hl 0 rfl) ?_
  refine lv_iload_n hx hb dL_law_889 rfl (lv_at hl 3 rfl) ?_
  refine lv_iconst (v := 1) hx hb dL_law_890 (by decide) ?_
  refine lv_iadd hx hb dL_law_891 ?_
  refine va_sld (s := s.setDrawn d0) hx hb hX hbl hbA hS (law_in (v := 1) (j := 1) hL hx3 hi6 (by decide) (by decide)) dL_law_892 ?_
  refine l_cP hS (r_runV (As := [.int (xs (x3 + 1).toNatClampNeg)]) (rest := []) (hC.drew d0) kV_L_103 cw_X11_list (rc_X11 (hC.drew d0) hP) hP (tI_list x al lv σ (xs (x3 + 1).toNatClampNeg) _ h1) rfl hl.1 ⟨Nat.le_of_ble_eq_true rfl, Nat.le_of_ble_eq_true rfl⟩ ⟨by show cells + 0 ≤ 101448; omega, by show slots + 0 ≤ 8797906; omega⟩ (Nat.le_of_ble_eq_true rfl) dL_law_893) (fun H locs hP hS => ?_)
  refine lv_aload_n hx hb dL_law_896 rfl (lv_at hl 2 rfl) ?_
  refine lv_aload_n hx hb dL_law_897 rfl (lv_at hl 0 rfl) ?_
  refine lv_iload_n hx hb dL_law_898 rfl (lv_at hl 3 rfl) ?_
  refine lv_iconst (v := 1) hx hb dL_law_899 (by decide) ?_
  refine lv_iadd hx hb dL_law_900 ?_
  refine va_sld (s := s.setDrawn d0) hx hb hX hbl hbA hS (law_in (v := 1) (j := 1) hL hx3 hi6 (by decide) (by decide)) dL_law_901 ?_
  refine l_cP hS (r_runV (As := [.int (xs (x3 + 1).toNatClampNeg)]) (rest := [.int r]) (hC.drew d0) kV_L_106 cw_X12_list (rc_X12 (hC.drew d0) hP) hP (tM_list x al lv σ (xs (x3 + 1).toNatClampNeg) _ h2) rfl hl.1 ⟨Nat.le_of_ble_eq_true rfl, Nat.le_of_ble_eq_true rfl⟩ ⟨by show cells + 0 ≤ 101448; omega, by show slots + 0 ≤ 8797906; omega⟩ (Nat.le_of_ble_eq_true rfl) dL_law_902) (fun H locs hP hS => ?_)
  refine lv_icmp_eq (tgt := 1226) hx hb dL_law_905 (by decide) (fun _ => ?_) (fun hc => absurd rfl hc)
  exact kk lv σ al H locs d0 hI2 hd0 rfl rfl hP hS
set_option maxRecDepth 20000 in
theorem law_price {p : Program} {l : Launch} {e : Env} {s : State} {m : MethodId} {below : List Frame} {meth : Method} {c : Code} {H : Heap} {locs : List Loc} {cells slots : Nat} {Q : State → Prop} {ls : Array Slot} {x : Wx} {al : Nat → Nat → Nat} {lv : Nat → Bool} {σ : Sg} {b L : Nat} {xs : Nat → Int32} {d0 : Drawn} {Inv : (Nat → Bool) → Sg → Prop} {i : Nat} {x3 : Int32} (hop : Op_price Inv) (hC : Cx x p s m #[Value.ref b] meth c cL_law 4 (some .boolean) "IceTradeLaw") (hX : va_X b L xs s s.heap) (hbl : b < s.heap.size) (hbA : ¬ Ab x b) (hL : L ≤ 3072) (hx3 : x3 = nI i) (hi6 : i + 6 ≤ L) (hI : Inv lv σ) (hd0 : s.drawn.sameBut d0 lw_cs) (hcc : cells + 24 ≤ 101448) (hss : slots + 5400 ≤ 8797906) (hP : Pic x al lv σ H) (hS : va_S (Ab x) s.heap H locs) (hl : lv_has ls 4 [(0, .ref b), (1, .ref (al 6 0)), (2, .ref (al 7 0)), (3, .int x3)]) (kk : ∀ (lv2 : Nat → Bool) (σ2 : Sg) (al2 : Nat → Nat → Nat) (H2 : Heap) (locs2 : List Loc) (d2 : Drawn), Inv lv2 σ2 → s.drawn.sameBut d2 lw_cs → al2 6 0 = al 6 0 → al2 7 0 = al 7 0 → Pic x al2 lv2 σ2 H2 → va_S (Ab x) s.heap H2 locs2 → W p l e room_1 (s.setDrawn d2) m #[Value.ref b] below meth c H2 locs2 (cells + 0) (slots + 0) Q (F0 m 1226 ls [])) : W p l e room_1 (s.setDrawn d0) m #[Value.ref b] below meth c H locs cells slots Q (F0 m 910 ls []) := by
  obtain ⟨hx, hb, hml, hown, hts⟩ := hC.1
  obtain ⟨r, σ1, h1, σ2, h2, hI2⟩ := hop lv σ hI (xs (x3 + 1).toNatClampNeg) (xs (x3 + 2).toNatClampNeg)
  refine lv_aload_n hx hb dL_law_910 rfl (lv_at hl 1 rfl) ?_
  refine lv_aload_n hx hb dL_law_911 rfl (lv_at hl 0 rfl) ?_
  refine lv_iload_n hx hb dL_law_912 rfl (lv_at hl 3 rfl) ?_
  refine lv_iconst (v := 1) hx hb dL_law_913 (by decide) ?_
  refine lv_iadd hx hb dL_law_914 ?_
  refine va_sld (s := s.setDrawn d0) hx hb hX hbl hbA hS (law_in (v := 1) (j := 1) hL hx3 hi6 (by decide) (by decide)) dL_law_915 ?_
  refine lv_aload_n hx hb dL_law_916 rfl (lv_at hl 0 rfl) ?_
  refine lv_iload_n hx hb dL_law_917 rfl (lv_at hl 3 rfl) ?_
  refine lv_iconst (v := 2) hx hb dL_law_918 (by decide) ?_
  refine lv_iadd hx hb dL_law_919 ?_
  refine va_sld (s := s.setDrawn d0) hx hb hX hbl hbA hS (law_in (v := 2) (j := 2) hL hx3 hi6 (by decide) (by decide)) dL_law_920 ?_
  refine l_cI hS (r_runV (As := [.int (xs (x3 + 1).toNatClampNeg), .int (xs (x3 + 2).toNatClampNeg)]) (rest := []) (hC.drew d0) kV_L_107 cw_X11_price (rc_X11 (hC.drew d0) hP) hP (tI_price x al lv σ (xs (x3 + 1).toNatClampNeg) (xs (x3 + 2).toNatClampNeg) _ h1) rfl hl.1 ⟨Nat.le_of_ble_eq_true rfl, Nat.le_of_ble_eq_true rfl⟩ ⟨by show cells + 0 ≤ 101448; omega, by show slots + 0 ≤ 8797906; omega⟩ (Nat.le_of_ble_eq_true rfl) dL_law_921) (fun H locs hP hS => ?_)
  refine lv_aload_n hx hb dL_law_924 rfl (lv_at hl 2 rfl) ?_
  refine lv_aload_n hx hb dL_law_925 rfl (lv_at hl 0 rfl) ?_
  refine lv_iload_n hx hb dL_law_926 rfl (lv_at hl 3 rfl) ?_
  refine lv_iconst (v := 1) hx hb dL_law_927 (by decide) ?_
  refine lv_iadd hx hb dL_law_928 ?_
  refine va_sld (s := s.setDrawn d0) hx hb hX hbl hbA hS (law_in (v := 1) (j := 1) hL hx3 hi6 (by decide) (by decide)) dL_law_929 ?_
  refine lv_aload_n hx hb dL_law_930 rfl (lv_at hl 0 rfl) ?_
  refine lv_iload_n hx hb dL_law_931 rfl (lv_at hl 3 rfl) ?_
  refine lv_iconst (v := 2) hx hb dL_law_932 (by decide) ?_
  refine lv_iadd hx hb dL_law_933 ?_
  refine va_sld (s := s.setDrawn d0) hx hb hX hbl hbA hS (law_in (v := 2) (j := 2) hL hx3 hi6 (by decide) (by decide)) dL_law_934 ?_
  refine l_cI hS (r_runV (As := [.int (xs (x3 + 1).toNatClampNeg), .int (xs (x3 + 2).toNatClampNeg)]) (rest := [.int r]) (hC.drew d0) kV_L_110 cw_X12_price (rc_X12 (hC.drew d0) hP) hP (tM_price x al lv σ1 (xs (x3 + 1).toNatClampNeg) (xs (x3 + 2).toNatClampNeg) _ h2) rfl hl.1 ⟨Nat.le_of_ble_eq_true rfl, Nat.le_of_ble_eq_true rfl⟩ ⟨by show cells + 0 ≤ 101448; omega, by show slots + 0 ≤ 8797906; omega⟩ (Nat.le_of_ble_eq_true rfl) dL_law_935) (fun H locs hP hS => ?_)
  refine lv_icmp_eq (tgt := 1226) hx hb dL_law_938 (by decide) (fun _ => ?_) (fun hc => absurd rfl hc)
  exact kk lv σ2 al H locs d0 hI2 hd0 rfl rfl hP hS
set_option maxRecDepth 20000 in
theorem law_foretell {p : Program} {l : Launch} {e : Env} {s : State} {m : MethodId} {below : List Frame} {meth : Method} {c : Code} {H : Heap} {locs : List Loc} {cells slots : Nat} {Q : State → Prop} {ls : Array Slot} {x : Wx} {al : Nat → Nat → Nat} {lv : Nat → Bool} {σ : Sg} {b L : Nat} {xs : Nat → Int32} {d0 : Drawn} {Inv : (Nat → Bool) → Sg → Prop} {i : Nat} {x3 : Int32} (hop : Op_foretell Inv) (hC : Cx x p s m #[Value.ref b] meth c cL_law 4 (some .boolean) "IceTradeLaw") (hX : va_X b L xs s s.heap) (hbl : b < s.heap.size) (hbA : ¬ Ab x b) (hL : L ≤ 3072) (hx3 : x3 = nI i) (hi6 : i + 6 ≤ L) (hI : Inv lv σ) (hd0 : s.drawn.sameBut d0 lw_cs) (hcc : cells + 24 ≤ 101448) (hss : slots + 5400 ≤ 8797906) (hP : Pic x al lv σ H) (hS : va_S (Ab x) s.heap H locs) (hl : lv_has ls 4 [(0, .ref b), (1, .ref (al 6 0)), (2, .ref (al 7 0)), (3, .int x3)]) (kk : ∀ (lv2 : Nat → Bool) (σ2 : Sg) (al2 : Nat → Nat → Nat) (H2 : Heap) (locs2 : List Loc) (d2 : Drawn), Inv lv2 σ2 → s.drawn.sameBut d2 lw_cs → al2 6 0 = al 6 0 → al2 7 0 = al 7 0 → Pic x al2 lv2 σ2 H2 → va_S (Ab x) s.heap H2 locs2 → W p l e room_1 (s.setDrawn d2) m #[Value.ref b] below meth c H2 locs2 (cells + 24) (slots + 5168) Q (F0 m 1226 ls [])) : W p l e room_1 (s.setDrawn d0) m #[Value.ref b] below meth c H locs cells slots Q (F0 m 943 ls []) := by
  obtain ⟨hx, hb, hml, hown, hts⟩ := hC.1
  obtain ⟨r, σ1, lv1, h1, σ2, h2, hI2⟩ := hop lv σ hI (xs (x3 + 1).toNatClampNeg) (xs (x3 + 2).toNatClampNeg)
  refine lv_aload_n hx hb dL_law_943 rfl (lv_at hl 1 rfl) ?_
  refine lv_aload_n hx hb dL_law_944 rfl (lv_at hl 0 rfl) ?_
  refine lv_iload_n hx hb dL_law_945 rfl (lv_at hl 3 rfl) ?_
  refine lv_iconst (v := 1) hx hb dL_law_946 (by decide) ?_
  refine lv_iadd hx hb dL_law_947 ?_
  refine va_sld (s := s.setDrawn d0) hx hb hX hbl hbA hS (law_in (v := 1) (j := 1) hL hx3 hi6 (by decide) (by decide)) dL_law_948 ?_
  refine lv_aload_n hx hb dL_law_949 rfl (lv_at hl 0 rfl) ?_
  refine lv_iload_n hx hb dL_law_950 rfl (lv_at hl 3 rfl) ?_
  refine lv_iconst (v := 2) hx hb dL_law_951 (by decide) ?_
  refine lv_iadd hx hb dL_law_952 ?_
  refine va_sld (s := s.setDrawn d0) hx hb hX hbl hbA hS (law_in (v := 2) (j := 2) hL hx3 hi6 (by decide) (by decide)) dL_law_953 ?_
  refine l_cA hS (r_runV (As := [.int (xs (x3 + 1).toNatClampNeg), .int (xs (x3 + 2).toNatClampNeg)]) (rest := []) (hC.drew d0) kV_L_111 cw_X11_foretell (rc_X11 (hC.drew d0) hP) hP (tI_foretell x al lv σ (xs (x3 + 1).toNatClampNeg) (xs (x3 + 2).toNatClampNeg) _ h1) rfl hl.1 ⟨Nat.le_of_ble_eq_true rfl, Nat.le_of_ble_eq_true rfl⟩ ⟨by show cells + 24 ≤ 101448; omega, by show slots + 5168 ≤ 8797906; omega⟩ (Nat.le_of_ble_eq_true rfl) dL_law_954) (fun al1 H locs e60 e70 hP hS => ?_)
  rw [← e60, ← e70] at hl
  refine lv_aload_n hx hb dL_law_957 rfl (lv_at hl 2 rfl) ?_
  refine lv_aload_n hx hb dL_law_958 rfl (lv_at hl 0 rfl) ?_
  refine lv_iload_n hx hb dL_law_959 rfl (lv_at hl 3 rfl) ?_
  refine lv_iconst (v := 1) hx hb dL_law_960 (by decide) ?_
  refine lv_iadd hx hb dL_law_961 ?_
  refine va_sld (s := s.setDrawn d0) hx hb hX hbl hbA hS (law_in (v := 1) (j := 1) hL hx3 hi6 (by decide) (by decide)) dL_law_962 ?_
  refine lv_aload_n hx hb dL_law_963 rfl (lv_at hl 0 rfl) ?_
  refine lv_iload_n hx hb dL_law_964 rfl (lv_at hl 3 rfl) ?_
  refine lv_iconst (v := 2) hx hb dL_law_965 (by decide) ?_
  refine lv_iadd hx hb dL_law_966 ?_
  refine va_sld (s := s.setDrawn d0) hx hb hX hbl hbA hS (law_in (v := 2) (j := 2) hL hx3 hi6 (by decide) (by decide)) dL_law_967 ?_
  refine l_cI hS (r_runV (As := [.int (xs (x3 + 1).toNatClampNeg), .int (xs (x3 + 2).toNatClampNeg)]) (rest := [.int r]) (hC.drew d0) kV_L_114 cw_X12_foretell (rc_X12 (hC.drew d0) hP) hP (tM_foretell x al1 lv1 σ1 (xs (x3 + 1).toNatClampNeg) (xs (x3 + 2).toNatClampNeg) _ h2) rfl hl.1 ⟨Nat.le_of_ble_eq_true rfl, Nat.le_of_ble_eq_true rfl⟩ ⟨by show cells + 24 ≤ 101448; omega, by show slots + 5168 ≤ 8797906; omega⟩ (Nat.le_of_ble_eq_true rfl) dL_law_968) (fun H locs hP hS => ?_)
  refine lv_icmp_eq (tgt := 1226) hx hb dL_law_971 (by decide) (fun _ => ?_) (fun hc => absurd rfl hc)
  exact kk lv1 σ2 al1 H locs d0 hI2 hd0 e60 e70 hP hS
set_option maxRecDepth 20000 in
theorem law_foretold {p : Program} {l : Launch} {e : Env} {s : State} {m : MethodId} {below : List Frame} {meth : Method} {c : Code} {H : Heap} {locs : List Loc} {cells slots : Nat} {Q : State → Prop} {ls : Array Slot} {x : Wx} {al : Nat → Nat → Nat} {lv : Nat → Bool} {σ : Sg} {b L : Nat} {xs : Nat → Int32} {d0 : Drawn} {Inv : (Nat → Bool) → Sg → Prop} {i : Nat} {x3 : Int32} (hop : Op_foretold Inv) (hC : Cx x p s m #[Value.ref b] meth c cL_law 4 (some .boolean) "IceTradeLaw") (hX : va_X b L xs s s.heap) (hbl : b < s.heap.size) (hbA : ¬ Ab x b) (hL : L ≤ 3072) (hx3 : x3 = nI i) (hi6 : i + 6 ≤ L) (hI : Inv lv σ) (hd0 : s.drawn.sameBut d0 lw_cs) (hcc : cells + 24 ≤ 101448) (hss : slots + 5400 ≤ 8797906) (hP : Pic x al lv σ H) (hS : va_S (Ab x) s.heap H locs) (hl : lv_has ls 4 [(0, .ref b), (1, .ref (al 6 0)), (2, .ref (al 7 0)), (3, .int x3)]) (kk : ∀ (lv2 : Nat → Bool) (σ2 : Sg) (al2 : Nat → Nat → Nat) (H2 : Heap) (locs2 : List Loc) (d2 : Drawn), Inv lv2 σ2 → s.drawn.sameBut d2 lw_cs → al2 6 0 = al 6 0 → al2 7 0 = al 7 0 → Pic x al2 lv2 σ2 H2 → va_S (Ab x) s.heap H2 locs2 → W p l e room_1 (s.setDrawn d2) m #[Value.ref b] below meth c H2 locs2 (cells + 0) (slots + 0) Q (F0 m 1226 ls [])) : W p l e room_1 (s.setDrawn d0) m #[Value.ref b] below meth c H locs cells slots Q (F0 m 976 ls []) := by
  obtain ⟨hx, hb, hml, hown, hts⟩ := hC.1
  obtain ⟨r, h1, h2, hI2⟩ := hop lv σ hI (xs (x3 + 1).toNatClampNeg) (xs (x3 + 2).toNatClampNeg)
  refine lv_aload_n hx hb dL_law_976 rfl (lv_at hl 1 rfl) ?_
  refine lv_aload_n hx hb dL_law_977 rfl (lv_at hl 0 rfl) ?_
  refine lv_iload_n hx hb dL_law_978 rfl (lv_at hl 3 rfl) ?_
  refine lv_iconst (v := 1) hx hb dL_law_979 (by decide) ?_
  refine lv_iadd hx hb dL_law_980 ?_
  refine va_sld (s := s.setDrawn d0) hx hb hX hbl hbA hS (law_in (v := 1) (j := 1) hL hx3 hi6 (by decide) (by decide)) dL_law_981 ?_
  refine lv_aload_n hx hb dL_law_982 rfl (lv_at hl 0 rfl) ?_
  refine lv_iload_n hx hb dL_law_983 rfl (lv_at hl 3 rfl) ?_
  refine lv_iconst (v := 2) hx hb dL_law_984 (by decide) ?_
  refine lv_iadd hx hb dL_law_985 ?_
  refine va_sld (s := s.setDrawn d0) hx hb hX hbl hbA hS (law_in (v := 2) (j := 2) hL hx3 hi6 (by decide) (by decide)) dL_law_986 ?_
  refine l_cP hS (r_runV (As := [.int (xs (x3 + 1).toNatClampNeg), .int (xs (x3 + 2).toNatClampNeg)]) (rest := []) (hC.drew d0) kV_L_115 cw_X11_foretold (rc_X11 (hC.drew d0) hP) hP (tI_foretold x al lv σ (xs (x3 + 1).toNatClampNeg) (xs (x3 + 2).toNatClampNeg) _ h1) rfl hl.1 ⟨Nat.le_of_ble_eq_true rfl, Nat.le_of_ble_eq_true rfl⟩ ⟨by show cells + 0 ≤ 101448; omega, by show slots + 0 ≤ 8797906; omega⟩ (Nat.le_of_ble_eq_true rfl) dL_law_987) (fun H locs hP hS => ?_)
  refine lv_aload_n hx hb dL_law_990 rfl (lv_at hl 2 rfl) ?_
  refine lv_aload_n hx hb dL_law_991 rfl (lv_at hl 0 rfl) ?_
  refine lv_iload_n hx hb dL_law_992 rfl (lv_at hl 3 rfl) ?_
  refine lv_iconst (v := 1) hx hb dL_law_993 (by decide) ?_
  refine lv_iadd hx hb dL_law_994 ?_
  refine va_sld (s := s.setDrawn d0) hx hb hX hbl hbA hS (law_in (v := 1) (j := 1) hL hx3 hi6 (by decide) (by decide)) dL_law_995 ?_
  refine lv_aload_n hx hb dL_law_996 rfl (lv_at hl 0 rfl) ?_
  refine lv_iload_n hx hb dL_law_997 rfl (lv_at hl 3 rfl) ?_
  refine lv_iconst (v := 2) hx hb dL_law_998 (by decide) ?_
  refine lv_iadd hx hb dL_law_999 ?_
  refine va_sld (s := s.setDrawn d0) hx hb hX hbl hbA hS (law_in (v := 2) (j := 2) hL hx3 hi6 (by decide) (by decide)) dL_law_1000 ?_
  refine l_cP hS (r_runV (As := [.int (xs (x3 + 1).toNatClampNeg), .int (xs (x3 + 2).toNatClampNeg)]) (rest := [.int r]) (hC.drew d0) kV_L_118 cw_X12_foretold (rc_X12 (hC.drew d0) hP) hP (tM_foretold x al lv σ (xs (x3 + 1).toNatClampNeg) (xs (x3 + 2).toNatClampNeg) _ h2) rfl hl.1 ⟨Nat.le_of_ble_eq_true rfl, Nat.le_of_ble_eq_true rfl⟩ ⟨by show cells + 0 ≤ 101448; omega, by show slots + 0 ≤ 8797906; omega⟩ (Nat.le_of_ble_eq_true rfl) dL_law_1001) (fun H locs hP hS => ?_)
  refine lv_icmp_eq (tgt := 1226) hx hb dL_law_1004 (by decide) (fun _ => ?_) (fun hc => absurd rfl hc)
  exact kk lv σ al H locs d0 hI2 hd0 rfl rfl hP hS
set_option maxRecDepth 20000 in
theorem law_last {p : Program} {l : Launch} {e : Env} {s : State} {m : MethodId} {below : List Frame} {meth : Method} {c : Code} {H : Heap} {locs : List Loc} {cells slots : Nat} {Q : State → Prop} {ls : Array Slot} {x : Wx} {al : Nat → Nat → Nat} {lv : Nat → Bool} {σ : Sg} {b L : Nat} {xs : Nat → Int32} {d0 : Drawn} {Inv : (Nat → Bool) → Sg → Prop} {i : Nat} {x3 : Int32} (hop : Op_last Inv) (hC : Cx x p s m #[Value.ref b] meth c cL_law 4 (some .boolean) "IceTradeLaw") (hX : va_X b L xs s s.heap) (hbl : b < s.heap.size) (hbA : ¬ Ab x b) (hL : L ≤ 3072) (hx3 : x3 = nI i) (hi6 : i + 6 ≤ L) (hI : Inv lv σ) (hd0 : s.drawn.sameBut d0 lw_cs) (hcc : cells + 24 ≤ 101448) (hss : slots + 5400 ≤ 8797906) (hP : Pic x al lv σ H) (hS : va_S (Ab x) s.heap H locs) (hl : lv_has ls 4 [(0, .ref b), (1, .ref (al 6 0)), (2, .ref (al 7 0)), (3, .int x3)]) (kk : ∀ (lv2 : Nat → Bool) (σ2 : Sg) (al2 : Nat → Nat → Nat) (H2 : Heap) (locs2 : List Loc) (d2 : Drawn), Inv lv2 σ2 → s.drawn.sameBut d2 lw_cs → al2 6 0 = al 6 0 → al2 7 0 = al 7 0 → Pic x al2 lv2 σ2 H2 → va_S (Ab x) s.heap H2 locs2 → W p l e room_1 (s.setDrawn d2) m #[Value.ref b] below meth c H2 locs2 (cells + 0) (slots + 0) Q (F0 m 1226 ls [])) : W p l e room_1 (s.setDrawn d0) m #[Value.ref b] below meth c H locs cells slots Q (F0 m 1009 ls []) := by
  obtain ⟨hx, hb, hml, hown, hts⟩ := hC.1
  obtain ⟨r, h1, h2, hI2⟩ := hop lv σ hI 
  refine lv_aload_n hx hb dL_law_1009 rfl (lv_at hl 1 rfl) ?_
  refine l_cP hS (r_runV (As := []) (rest := []) (hC.drew d0) kV_L_119 cw_X11_last (rc_X11 (hC.drew d0) hP) hP (tI_last x al lv σ  _ h1) rfl hl.1 ⟨Nat.le_of_ble_eq_true rfl, Nat.le_of_ble_eq_true rfl⟩ ⟨by show cells + 0 ≤ 101448; omega, by show slots + 0 ≤ 8797906; omega⟩ (Nat.le_of_ble_eq_true rfl) dL_law_1010) (fun H locs hP hS => ?_)
  refine lv_aload_n hx hb dL_law_1013 rfl (lv_at hl 2 rfl) ?_
  refine l_cP hS (r_runV (As := []) (rest := [.int r]) (hC.drew d0) kV_L_122 cw_X12_last (rc_X12 (hC.drew d0) hP) hP (tM_last x al lv σ  _ h2) rfl hl.1 ⟨Nat.le_of_ble_eq_true rfl, Nat.le_of_ble_eq_true rfl⟩ ⟨by show cells + 0 ≤ 101448; omega, by show slots + 0 ≤ 8797906; omega⟩ (Nat.le_of_ble_eq_true rfl) dL_law_1014) (fun H locs hP hS => ?_)
  refine lv_icmp_eq (tgt := 1226) hx hb dL_law_1017 (by decide) (fun _ => ?_) (fun hc => absurd rfl hc)
  exact kk lv σ al H locs d0 hI2 hd0 rfl rfl hP hS
set_option maxRecDepth 20000 in
theorem law_heap {p : Program} {l : Launch} {e : Env} {s : State} {m : MethodId} {below : List Frame} {meth : Method} {c : Code} {H : Heap} {locs : List Loc} {cells slots : Nat} {Q : State → Prop} {ls : Array Slot} {x : Wx} {al : Nat → Nat → Nat} {lv : Nat → Bool} {σ : Sg} {b L : Nat} {xs : Nat → Int32} {d0 : Drawn} {Inv : (Nat → Bool) → Sg → Prop} {i : Nat} {x3 : Int32} (hop : Op_heap Inv) (hC : Cx x p s m #[Value.ref b] meth c cL_law 4 (some .boolean) "IceTradeLaw") (hX : va_X b L xs s s.heap) (hbl : b < s.heap.size) (hbA : ¬ Ab x b) (hL : L ≤ 3072) (hx3 : x3 = nI i) (hi6 : i + 6 ≤ L) (hI : Inv lv σ) (hd0 : s.drawn.sameBut d0 lw_cs) (hcc : cells + 24 ≤ 101448) (hss : slots + 5400 ≤ 8797906) (hP : Pic x al lv σ H) (hS : va_S (Ab x) s.heap H locs) (hl : lv_has ls 4 [(0, .ref b), (1, .ref (al 6 0)), (2, .ref (al 7 0)), (3, .int x3)]) (kk : ∀ (lv2 : Nat → Bool) (σ2 : Sg) (al2 : Nat → Nat → Nat) (H2 : Heap) (locs2 : List Loc) (d2 : Drawn), Inv lv2 σ2 → s.drawn.sameBut d2 lw_cs → al2 6 0 = al 6 0 → al2 7 0 = al 7 0 → Pic x al2 lv2 σ2 H2 → va_S (Ab x) s.heap H2 locs2 → W p l e room_1 (s.setDrawn d2) m #[Value.ref b] below meth c H2 locs2 (cells + 0) (slots + 0) Q (F0 m 1226 ls [])) : W p l e room_1 (s.setDrawn d0) m #[Value.ref b] below meth c H locs cells slots Q (F0 m 1022 ls []) := by
  obtain ⟨hx, hb, hml, hown, hts⟩ := hC.1
  obtain ⟨r, σ1, h1, σ2, h2, hI2⟩ := hop lv σ hI (xs (x3 + 1).toNatClampNeg) (xs (x3 + 2).toNatClampNeg)
  refine lv_aload_n hx hb dL_law_1022 rfl (lv_at hl 1 rfl) ?_
  refine lv_aload_n hx hb dL_law_1023 rfl (lv_at hl 0 rfl) ?_
  refine lv_iload_n hx hb dL_law_1024 rfl (lv_at hl 3 rfl) ?_
  refine lv_iconst (v := 1) hx hb dL_law_1025 (by decide) ?_
  refine lv_iadd hx hb dL_law_1026 ?_
  refine va_sld (s := s.setDrawn d0) hx hb hX hbl hbA hS (law_in (v := 1) (j := 1) hL hx3 hi6 (by decide) (by decide)) dL_law_1027 ?_
  refine lv_aload_n hx hb dL_law_1028 rfl (lv_at hl 0 rfl) ?_
  refine lv_iload_n hx hb dL_law_1029 rfl (lv_at hl 3 rfl) ?_
  refine lv_iconst (v := 2) hx hb dL_law_1030 (by decide) ?_
  refine lv_iadd hx hb dL_law_1031 ?_
  refine va_sld (s := s.setDrawn d0) hx hb hX hbl hbA hS (law_in (v := 2) (j := 2) hL hx3 hi6 (by decide) (by decide)) dL_law_1032 ?_
  refine l_cI hS (r_runV (As := [.int (xs (x3 + 1).toNatClampNeg), .int (xs (x3 + 2).toNatClampNeg)]) (rest := []) (hC.drew d0) kV_L_123 cw_X11_heap (rc_X11 (hC.drew d0) hP) hP (tI_heap x al lv σ (xs (x3 + 1).toNatClampNeg) (xs (x3 + 2).toNatClampNeg) _ h1) rfl hl.1 ⟨Nat.le_of_ble_eq_true rfl, Nat.le_of_ble_eq_true rfl⟩ ⟨by show cells + 0 ≤ 101448; omega, by show slots + 0 ≤ 8797906; omega⟩ (Nat.le_of_ble_eq_true rfl) dL_law_1033) (fun H locs hP hS => ?_)
  refine lv_aload_n hx hb dL_law_1036 rfl (lv_at hl 2 rfl) ?_
  refine lv_aload_n hx hb dL_law_1037 rfl (lv_at hl 0 rfl) ?_
  refine lv_iload_n hx hb dL_law_1038 rfl (lv_at hl 3 rfl) ?_
  refine lv_iconst (v := 1) hx hb dL_law_1039 (by decide) ?_
  refine lv_iadd hx hb dL_law_1040 ?_
  refine va_sld (s := s.setDrawn d0) hx hb hX hbl hbA hS (law_in (v := 1) (j := 1) hL hx3 hi6 (by decide) (by decide)) dL_law_1041 ?_
  refine lv_aload_n hx hb dL_law_1042 rfl (lv_at hl 0 rfl) ?_
  refine lv_iload_n hx hb dL_law_1043 rfl (lv_at hl 3 rfl) ?_
  refine lv_iconst (v := 2) hx hb dL_law_1044 (by decide) ?_
  refine lv_iadd hx hb dL_law_1045 ?_
  refine va_sld (s := s.setDrawn d0) hx hb hX hbl hbA hS (law_in (v := 2) (j := 2) hL hx3 hi6 (by decide) (by decide)) dL_law_1046 ?_
  refine l_cI hS (r_runV (As := [.int (xs (x3 + 1).toNatClampNeg), .int (xs (x3 + 2).toNatClampNeg)]) (rest := [.int r]) (hC.drew d0) kV_L_126 cw_X12_heap (rc_X12 (hC.drew d0) hP) hP (tM_heap x al lv σ1 (xs (x3 + 1).toNatClampNeg) (xs (x3 + 2).toNatClampNeg) _ h2) rfl hl.1 ⟨Nat.le_of_ble_eq_true rfl, Nat.le_of_ble_eq_true rfl⟩ ⟨by show cells + 0 ≤ 101448; omega, by show slots + 0 ≤ 8797906; omega⟩ (Nat.le_of_ble_eq_true rfl) dL_law_1047) (fun H locs hP hS => ?_)
  refine lv_icmp_eq (tgt := 1226) hx hb dL_law_1050 (by decide) (fun _ => ?_) (fun hc => absurd rfl hc)
  exact kk lv σ2 al H locs d0 hI2 hd0 rfl rfl hP hS
set_option maxRecDepth 20000 in
theorem law_pack {p : Program} {l : Launch} {e : Env} {s : State} {m : MethodId} {below : List Frame} {meth : Method} {c : Code} {H : Heap} {locs : List Loc} {cells slots : Nat} {Q : State → Prop} {ls : Array Slot} {x : Wx} {al : Nat → Nat → Nat} {lv : Nat → Bool} {σ : Sg} {b L : Nat} {xs : Nat → Int32} {d0 : Drawn} {Inv : (Nat → Bool) → Sg → Prop} {i : Nat} {x3 : Int32} (hop : Op_pack Inv) (hC : Cx x p s m #[Value.ref b] meth c cL_law 4 (some .boolean) "IceTradeLaw") (hX : va_X b L xs s s.heap) (hbl : b < s.heap.size) (hbA : ¬ Ab x b) (hL : L ≤ 3072) (hx3 : x3 = nI i) (hi6 : i + 6 ≤ L) (hI : Inv lv σ) (hd0 : s.drawn.sameBut d0 lw_cs) (hcc : cells + 24 ≤ 101448) (hss : slots + 5400 ≤ 8797906) (hP : Pic x al lv σ H) (hS : va_S (Ab x) s.heap H locs) (hl : lv_has ls 4 [(0, .ref b), (1, .ref (al 6 0)), (2, .ref (al 7 0)), (3, .int x3)]) (kk : ∀ (lv2 : Nat → Bool) (σ2 : Sg) (al2 : Nat → Nat → Nat) (H2 : Heap) (locs2 : List Loc) (d2 : Drawn), Inv lv2 σ2 → s.drawn.sameBut d2 lw_cs → al2 6 0 = al 6 0 → al2 7 0 = al 7 0 → Pic x al2 lv2 σ2 H2 → va_S (Ab x) s.heap H2 locs2 → W p l e room_1 (s.setDrawn d2) m #[Value.ref b] below meth c H2 locs2 (cells + 3) (slots + 367) Q (F0 m 1226 ls [])) : W p l e room_1 (s.setDrawn d0) m #[Value.ref b] below meth c H locs cells slots Q (F0 m 1055 ls []) := by
  obtain ⟨hx, hb, hml, hown, hts⟩ := hC.1
  obtain ⟨r, σ1, lv1, h1, σ2, h2, hI2⟩ := hop lv σ hI (xs (x3 + 1).toNatClampNeg)
  refine lv_aload_n hx hb dL_law_1055 rfl (lv_at hl 1 rfl) ?_
  refine lv_aload_n hx hb dL_law_1056 rfl (lv_at hl 0 rfl) ?_
  refine lv_iload_n hx hb dL_law_1057 rfl (lv_at hl 3 rfl) ?_
  refine lv_iconst (v := 1) hx hb dL_law_1058 (by decide) ?_
  refine lv_iadd hx hb dL_law_1059 ?_
  refine va_sld (s := s.setDrawn d0) hx hb hX hbl hbA hS (law_in (v := 1) (j := 1) hL hx3 hi6 (by decide) (by decide)) dL_law_1060 ?_
  refine l_cA hS (r_runV (As := [.int (xs (x3 + 1).toNatClampNeg)]) (rest := []) (hC.drew d0) kV_L_127 cw_X11_pack (rc_X11 (hC.drew d0) hP) hP (tI_pack x al lv σ (xs (x3 + 1).toNatClampNeg) _ h1) rfl hl.1 ⟨Nat.le_of_ble_eq_true rfl, Nat.le_of_ble_eq_true rfl⟩ ⟨by show cells + 3 ≤ 101448; omega, by show slots + 367 ≤ 8797906; omega⟩ (Nat.le_of_ble_eq_true rfl) dL_law_1061) (fun al1 H locs e60 e70 hP hS => ?_)
  rw [← e60, ← e70] at hl
  refine lv_aload_n hx hb dL_law_1064 rfl (lv_at hl 2 rfl) ?_
  refine lv_aload_n hx hb dL_law_1065 rfl (lv_at hl 0 rfl) ?_
  refine lv_iload_n hx hb dL_law_1066 rfl (lv_at hl 3 rfl) ?_
  refine lv_iconst (v := 1) hx hb dL_law_1067 (by decide) ?_
  refine lv_iadd hx hb dL_law_1068 ?_
  refine va_sld (s := s.setDrawn d0) hx hb hX hbl hbA hS (law_in (v := 1) (j := 1) hL hx3 hi6 (by decide) (by decide)) dL_law_1069 ?_
  refine l_cI hS (r_runV (As := [.int (xs (x3 + 1).toNatClampNeg)]) (rest := [.int r]) (hC.drew d0) kV_L_130 cw_X12_pack (rc_X12 (hC.drew d0) hP) hP (tM_pack x al1 lv1 σ1 (xs (x3 + 1).toNatClampNeg) _ h2) rfl hl.1 ⟨Nat.le_of_ble_eq_true rfl, Nat.le_of_ble_eq_true rfl⟩ ⟨by show cells + 3 ≤ 101448; omega, by show slots + 367 ≤ 8797906; omega⟩ (Nat.le_of_ble_eq_true rfl) dL_law_1070) (fun H locs hP hS => ?_)
  refine lv_icmp_eq (tgt := 1226) hx hb dL_law_1073 (by decide) (fun _ => ?_) (fun hc => absurd rfl hc)
  exact kk lv1 σ2 al1 H locs d0 hI2 hd0 e60 e70 hP hS
set_option maxRecDepth 20000 in
theorem law_image {p : Program} {l : Launch} {e : Env} {s : State} {m : MethodId} {below : List Frame} {meth : Method} {c : Code} {H : Heap} {locs : List Loc} {cells slots : Nat} {Q : State → Prop} {ls : Array Slot} {x : Wx} {al : Nat → Nat → Nat} {lv : Nat → Bool} {σ : Sg} {b L : Nat} {xs : Nat → Int32} {d0 : Drawn} {Inv : (Nat → Bool) → Sg → Prop} {i : Nat} {x3 : Int32} (hop : Op_image Inv) (hC : Cx x p s m #[Value.ref b] meth c cL_law 4 (some .boolean) "IceTradeLaw") (hX : va_X b L xs s s.heap) (hbl : b < s.heap.size) (hbA : ¬ Ab x b) (hL : L ≤ 3072) (hx3 : x3 = nI i) (hi6 : i + 6 ≤ L) (hI : Inv lv σ) (hd0 : s.drawn.sameBut d0 lw_cs) (hcc : cells + 24 ≤ 101448) (hss : slots + 5400 ≤ 8797906) (hP : Pic x al lv σ H) (hS : va_S (Ab x) s.heap H locs) (hl : lv_has ls 4 [(0, .ref b), (1, .ref (al 6 0)), (2, .ref (al 7 0)), (3, .int x3)]) (kk : ∀ (lv2 : Nat → Bool) (σ2 : Sg) (al2 : Nat → Nat → Nat) (H2 : Heap) (locs2 : List Loc) (d2 : Drawn), Inv lv2 σ2 → s.drawn.sameBut d2 lw_cs → al2 6 0 = al 6 0 → al2 7 0 = al 7 0 → Pic x al2 lv2 σ2 H2 → va_S (Ab x) s.heap H2 locs2 → W p l e room_1 (s.setDrawn d2) m #[Value.ref b] below meth c H2 locs2 (cells + 22) (slots + 3364) Q (F0 m 1226 ls [])) : W p l e room_1 (s.setDrawn d0) m #[Value.ref b] below meth c H locs cells slots Q (F0 m 1078 ls []) := by
  obtain ⟨hx, hb, hml, hown, hts⟩ := hC.1
  obtain ⟨r, σ1, lv1, h1, σ2, h2, hI2⟩ := hop lv σ hI (xs (x3 + 1).toNatClampNeg)
  refine lv_aload_n hx hb dL_law_1078 rfl (lv_at hl 1 rfl) ?_
  refine lv_aload_n hx hb dL_law_1079 rfl (lv_at hl 0 rfl) ?_
  refine lv_iload_n hx hb dL_law_1080 rfl (lv_at hl 3 rfl) ?_
  refine lv_iconst (v := 1) hx hb dL_law_1081 (by decide) ?_
  refine lv_iadd hx hb dL_law_1082 ?_
  refine va_sld (s := s.setDrawn d0) hx hb hX hbl hbA hS (law_in (v := 1) (j := 1) hL hx3 hi6 (by decide) (by decide)) dL_law_1083 ?_
  refine l_cA hS (r_runV (As := [.int (xs (x3 + 1).toNatClampNeg)]) (rest := []) (hC.drew d0) kV_L_131 cw_X11_image (rc_X11 (hC.drew d0) hP) hP (tI_image x al lv σ (xs (x3 + 1).toNatClampNeg) _ h1) rfl hl.1 ⟨Nat.le_of_ble_eq_true rfl, Nat.le_of_ble_eq_true rfl⟩ ⟨by show cells + 22 ≤ 101448; omega, by show slots + 3364 ≤ 8797906; omega⟩ (Nat.le_of_ble_eq_true rfl) dL_law_1084) (fun al1 H locs e60 e70 hP hS => ?_)
  rw [← e60, ← e70] at hl
  refine lv_aload_n hx hb dL_law_1087 rfl (lv_at hl 2 rfl) ?_
  refine lv_aload_n hx hb dL_law_1088 rfl (lv_at hl 0 rfl) ?_
  refine lv_iload_n hx hb dL_law_1089 rfl (lv_at hl 3 rfl) ?_
  refine lv_iconst (v := 1) hx hb dL_law_1090 (by decide) ?_
  refine lv_iadd hx hb dL_law_1091 ?_
  refine va_sld (s := s.setDrawn d0) hx hb hX hbl hbA hS (law_in (v := 1) (j := 1) hL hx3 hi6 (by decide) (by decide)) dL_law_1092 ?_
  refine l_cI hS (r_runV (As := [.int (xs (x3 + 1).toNatClampNeg)]) (rest := [.int r]) (hC.drew d0) kV_L_134 cw_X12_image (rc_X12 (hC.drew d0) hP) hP (tM_image x al1 lv1 σ1 (xs (x3 + 1).toNatClampNeg) _ h2) rfl hl.1 ⟨Nat.le_of_ble_eq_true rfl, Nat.le_of_ble_eq_true rfl⟩ ⟨by show cells + 22 ≤ 101448; omega, by show slots + 3364 ≤ 8797906; omega⟩ (Nat.le_of_ble_eq_true rfl) dL_law_1093) (fun H locs hP hS => ?_)
  refine lv_icmp_eq (tgt := 1226) hx hb dL_law_1096 (by decide) (fun _ => ?_) (fun hc => absurd rfl hc)
  exact kk lv1 σ2 al1 H locs d0 hI2 hd0 e60 e70 hP hS
set_option maxRecDepth 20000 in
theorem law_back {p : Program} {l : Launch} {e : Env} {s : State} {m : MethodId} {below : List Frame} {meth : Method} {c : Code} {H : Heap} {locs : List Loc} {cells slots : Nat} {Q : State → Prop} {ls : Array Slot} {x : Wx} {al : Nat → Nat → Nat} {lv : Nat → Bool} {σ : Sg} {b L : Nat} {xs : Nat → Int32} {d0 : Drawn} {Inv : (Nat → Bool) → Sg → Prop} {i : Nat} {x3 : Int32} (hop : Op_back Inv) (hC : Cx x p s m #[Value.ref b] meth c cL_law 4 (some .boolean) "IceTradeLaw") (hX : va_X b L xs s s.heap) (hbl : b < s.heap.size) (hbA : ¬ Ab x b) (hL : L ≤ 3072) (hx3 : x3 = nI i) (hi6 : i + 6 ≤ L) (hI : Inv lv σ) (hd0 : s.drawn.sameBut d0 lw_cs) (hcc : cells + 24 ≤ 101448) (hss : slots + 5400 ≤ 8797906) (hP : Pic x al lv σ H) (hS : va_S (Ab x) s.heap H locs) (hl : lv_has ls 4 [(0, .ref b), (1, .ref (al 6 0)), (2, .ref (al 7 0)), (3, .int x3)]) (kk : ∀ (lv2 : Nat → Bool) (σ2 : Sg) (al2 : Nat → Nat → Nat) (H2 : Heap) (locs2 : List Loc) (d2 : Drawn), Inv lv2 σ2 → s.drawn.sameBut d2 lw_cs → al2 6 0 = al 6 0 → al2 7 0 = al 7 0 → Pic x al2 lv2 σ2 H2 → va_S (Ab x) s.heap H2 locs2 → W p l e room_1 (s.setDrawn d2) m #[Value.ref b] below meth c H2 locs2 (cells + 0) (slots + 0) Q (F0 m 1226 ls [])) : W p l e room_1 (s.setDrawn d0) m #[Value.ref b] below meth c H locs cells slots Q (F0 m 1101 ls []) := by
  obtain ⟨hx, hb, hml, hown, hts⟩ := hC.1
  obtain ⟨r, σ1, h1, σ2, h2, hI2⟩ := hop lv σ hI (xs (x3 + 1).toNatClampNeg)
  refine lv_aload_n hx hb dL_law_1101 rfl (lv_at hl 1 rfl) ?_
  refine lv_aload_n hx hb dL_law_1102 rfl (lv_at hl 0 rfl) ?_
  refine lv_iload_n hx hb dL_law_1103 rfl (lv_at hl 3 rfl) ?_
  refine lv_iconst (v := 1) hx hb dL_law_1104 (by decide) ?_
  refine lv_iadd hx hb dL_law_1105 ?_
  refine va_sld (s := s.setDrawn d0) hx hb hX hbl hbA hS (law_in (v := 1) (j := 1) hL hx3 hi6 (by decide) (by decide)) dL_law_1106 ?_
  refine l_cI hS (r_runV (As := [.int (xs (x3 + 1).toNatClampNeg)]) (rest := []) (hC.drew d0) kV_L_135 cw_X11_back (rc_X11 (hC.drew d0) hP) hP (tI_back x al lv σ (xs (x3 + 1).toNatClampNeg) _ h1) rfl hl.1 ⟨Nat.le_of_ble_eq_true rfl, Nat.le_of_ble_eq_true rfl⟩ ⟨by show cells + 0 ≤ 101448; omega, by show slots + 0 ≤ 8797906; omega⟩ (Nat.le_of_ble_eq_true rfl) dL_law_1107) (fun H locs hP hS => ?_)
  refine lv_aload_n hx hb dL_law_1110 rfl (lv_at hl 2 rfl) ?_
  refine lv_aload_n hx hb dL_law_1111 rfl (lv_at hl 0 rfl) ?_
  refine lv_iload_n hx hb dL_law_1112 rfl (lv_at hl 3 rfl) ?_
  refine lv_iconst (v := 1) hx hb dL_law_1113 (by decide) ?_
  refine lv_iadd hx hb dL_law_1114 ?_
  refine va_sld (s := s.setDrawn d0) hx hb hX hbl hbA hS (law_in (v := 1) (j := 1) hL hx3 hi6 (by decide) (by decide)) dL_law_1115 ?_
  refine l_cI hS (r_runV (As := [.int (xs (x3 + 1).toNatClampNeg)]) (rest := [.int r]) (hC.drew d0) kV_L_138 cw_X12_back (rc_X12 (hC.drew d0) hP) hP (tM_back x al lv σ1 (xs (x3 + 1).toNatClampNeg) _ h2) rfl hl.1 ⟨Nat.le_of_ble_eq_true rfl, Nat.le_of_ble_eq_true rfl⟩ ⟨by show cells + 0 ≤ 101448; omega, by show slots + 0 ≤ 8797906; omega⟩ (Nat.le_of_ble_eq_true rfl) dL_law_1116) (fun H locs hP hS => ?_)
  refine lv_icmp_eq (tgt := 1226) hx hb dL_law_1119 (by decide) (fun _ => ?_) (fun hc => absurd rfl hc)
  exact kk lv σ2 al H locs d0 hI2 hd0 rfl rfl hP hS
set_option maxRecDepth 20000 in
theorem law_line {p : Program} {l : Launch} {e : Env} {s : State} {m : MethodId} {below : List Frame} {meth : Method} {c : Code} {H : Heap} {locs : List Loc} {cells slots : Nat} {Q : State → Prop} {ls : Array Slot} {x : Wx} {al : Nat → Nat → Nat} {lv : Nat → Bool} {σ : Sg} {b L : Nat} {xs : Nat → Int32} {d0 : Drawn} {Inv : (Nat → Bool) → Sg → Prop} {i : Nat} {x3 : Int32} (hop : Op_line Inv) (hC : Cx x p s m #[Value.ref b] meth c cL_law 4 (some .boolean) "IceTradeLaw") (hX : va_X b L xs s s.heap) (hbl : b < s.heap.size) (hbA : ¬ Ab x b) (hL : L ≤ 3072) (hx3 : x3 = nI i) (hi6 : i + 6 ≤ L) (hI : Inv lv σ) (hd0 : s.drawn.sameBut d0 lw_cs) (hcc : cells + 24 ≤ 101448) (hss : slots + 5400 ≤ 8797906) (hP : Pic x al lv σ H) (hS : va_S (Ab x) s.heap H locs) (hl : lv_has ls 4 [(0, .ref b), (1, .ref (al 6 0)), (2, .ref (al 7 0)), (3, .int x3)]) (kk : ∀ (lv2 : Nat → Bool) (σ2 : Sg) (al2 : Nat → Nat → Nat) (H2 : Heap) (locs2 : List Loc) (d2 : Drawn), Inv lv2 σ2 → s.drawn.sameBut d2 lw_cs → al2 6 0 = al 6 0 → al2 7 0 = al 7 0 → Pic x al2 lv2 σ2 H2 → va_S (Ab x) s.heap H2 locs2 → W p l e room_1 (s.setDrawn d2) m #[Value.ref b] below meth c H2 locs2 (cells + 0) (slots + 0) Q (F0 m 1226 ls [])) : W p l e room_1 (s.setDrawn d0) m #[Value.ref b] below meth c H locs cells slots Q (F0 m 1124 ls []) := by
  obtain ⟨hx, hb, hml, hown, hts⟩ := hC.1
  obtain ⟨r, h1, h2, hI2⟩ := hop lv σ hI (xs (x3 + 1).toNatClampNeg) (xs (x3 + 2).toNatClampNeg)
  refine lv_aload_n hx hb dL_law_1124 rfl (lv_at hl 1 rfl) ?_
  refine lv_aload_n hx hb dL_law_1125 rfl (lv_at hl 0 rfl) ?_
  refine lv_iload_n hx hb dL_law_1126 rfl (lv_at hl 3 rfl) ?_
  refine lv_iconst (v := 1) hx hb dL_law_1127 (by decide) ?_
  refine lv_iadd hx hb dL_law_1128 ?_
  refine va_sld (s := s.setDrawn d0) hx hb hX hbl hbA hS (law_in (v := 1) (j := 1) hL hx3 hi6 (by decide) (by decide)) dL_law_1129 ?_
  refine lv_aload_n hx hb dL_law_1130 rfl (lv_at hl 0 rfl) ?_
  refine lv_iload_n hx hb dL_law_1131 rfl (lv_at hl 3 rfl) ?_
  refine lv_iconst (v := 2) hx hb dL_law_1132 (by decide) ?_
  refine lv_iadd hx hb dL_law_1133 ?_
  refine va_sld (s := s.setDrawn d0) hx hb hX hbl hbA hS (law_in (v := 2) (j := 2) hL hx3 hi6 (by decide) (by decide)) dL_law_1134 ?_
  refine l_cP hS (r_runV (As := [.int (xs (x3 + 1).toNatClampNeg), .int (xs (x3 + 2).toNatClampNeg)]) (rest := []) (hC.drew d0) kV_L_139 cw_X11_line (rc_X11 (hC.drew d0) hP) hP (tI_line x al lv σ (xs (x3 + 1).toNatClampNeg) (xs (x3 + 2).toNatClampNeg) _ h1) rfl hl.1 ⟨Nat.le_of_ble_eq_true rfl, Nat.le_of_ble_eq_true rfl⟩ ⟨by show cells + 0 ≤ 101448; omega, by show slots + 0 ≤ 8797906; omega⟩ (Nat.le_of_ble_eq_true rfl) dL_law_1135) (fun H locs hP hS => ?_)
  refine lv_aload_n hx hb dL_law_1138 rfl (lv_at hl 2 rfl) ?_
  refine lv_aload_n hx hb dL_law_1139 rfl (lv_at hl 0 rfl) ?_
  refine lv_iload_n hx hb dL_law_1140 rfl (lv_at hl 3 rfl) ?_
  refine lv_iconst (v := 1) hx hb dL_law_1141 (by decide) ?_
  refine lv_iadd hx hb dL_law_1142 ?_
  refine va_sld (s := s.setDrawn d0) hx hb hX hbl hbA hS (law_in (v := 1) (j := 1) hL hx3 hi6 (by decide) (by decide)) dL_law_1143 ?_
  refine lv_aload_n hx hb dL_law_1144 rfl (lv_at hl 0 rfl) ?_
  refine lv_iload_n hx hb dL_law_1145 rfl (lv_at hl 3 rfl) ?_
  refine lv_iconst (v := 2) hx hb dL_law_1146 (by decide) ?_
  refine lv_iadd hx hb dL_law_1147 ?_
  refine va_sld (s := s.setDrawn d0) hx hb hX hbl hbA hS (law_in (v := 2) (j := 2) hL hx3 hi6 (by decide) (by decide)) dL_law_1148 ?_
  refine l_cP hS (r_runV (As := [.int (xs (x3 + 1).toNatClampNeg), .int (xs (x3 + 2).toNatClampNeg)]) (rest := [.int r]) (hC.drew d0) kV_L_142 cw_X12_line (rc_X12 (hC.drew d0) hP) hP (tM_line x al lv σ (xs (x3 + 1).toNatClampNeg) (xs (x3 + 2).toNatClampNeg) _ h2) rfl hl.1 ⟨Nat.le_of_ble_eq_true rfl, Nat.le_of_ble_eq_true rfl⟩ ⟨by show cells + 0 ≤ 101448; omega, by show slots + 0 ≤ 8797906; omega⟩ (Nat.le_of_ble_eq_true rfl) dL_law_1149) (fun H locs hP hS => ?_)
  refine lv_icmp_eq (tgt := 1226) hx hb dL_law_1152 (by decide) (fun _ => ?_) (fun hc => absurd rfl hc)
  exact kk lv σ al H locs d0 hI2 hd0 rfl rfl hP hS
set_option maxRecDepth 20000 in
theorem law_alter {p : Program} {l : Launch} {e : Env} {s : State} {m : MethodId} {below : List Frame} {meth : Method} {c : Code} {H : Heap} {locs : List Loc} {cells slots : Nat} {Q : State → Prop} {ls : Array Slot} {x : Wx} {al : Nat → Nat → Nat} {lv : Nat → Bool} {σ : Sg} {b L : Nat} {xs : Nat → Int32} {d0 : Drawn} {Inv : (Nat → Bool) → Sg → Prop} {i : Nat} {x3 : Int32} (hop : Op_alter Inv) (hC : Cx x p s m #[Value.ref b] meth c cL_law 4 (some .boolean) "IceTradeLaw") (hX : va_X b L xs s s.heap) (hbl : b < s.heap.size) (hbA : ¬ Ab x b) (hL : L ≤ 3072) (hx3 : x3 = nI i) (hi6 : i + 6 ≤ L) (hI : Inv lv σ) (hd0 : s.drawn.sameBut d0 lw_cs) (hcc : cells + 24 ≤ 101448) (hss : slots + 5400 ≤ 8797906) (hP : Pic x al lv σ H) (hS : va_S (Ab x) s.heap H locs) (hl : lv_has ls 4 [(0, .ref b), (1, .ref (al 6 0)), (2, .ref (al 7 0)), (3, .int x3)]) (kk : ∀ (lv2 : Nat → Bool) (σ2 : Sg) (al2 : Nat → Nat → Nat) (H2 : Heap) (locs2 : List Loc) (d2 : Drawn), Inv lv2 σ2 → s.drawn.sameBut d2 lw_cs → al2 6 0 = al 6 0 → al2 7 0 = al 7 0 → Pic x al2 lv2 σ2 H2 → va_S (Ab x) s.heap H2 locs2 → W p l e room_1 (s.setDrawn d2) m #[Value.ref b] below meth c H2 locs2 (cells + 0) (slots + 0) Q (F0 m 1226 ls [])) : W p l e room_1 (s.setDrawn d0) m #[Value.ref b] below meth c H locs cells slots Q (F0 m 1157 ls []) := by
  obtain ⟨hx, hb, hml, hown, hts⟩ := hC.1
  obtain ⟨r, σ1, h1, σ2, h2, hI2⟩ := hop lv σ hI (xs (x3 + 1).toNatClampNeg) (xs (x3 + 2).toNatClampNeg) (xs (x3 + 3).toNatClampNeg)
  refine lv_aload_n hx hb dL_law_1157 rfl (lv_at hl 1 rfl) ?_
  refine lv_aload_n hx hb dL_law_1158 rfl (lv_at hl 0 rfl) ?_
  refine lv_iload_n hx hb dL_law_1159 rfl (lv_at hl 3 rfl) ?_
  refine lv_iconst (v := 1) hx hb dL_law_1160 (by decide) ?_
  refine lv_iadd hx hb dL_law_1161 ?_
  refine va_sld (s := s.setDrawn d0) hx hb hX hbl hbA hS (law_in (v := 1) (j := 1) hL hx3 hi6 (by decide) (by decide)) dL_law_1162 ?_
  refine lv_aload_n hx hb dL_law_1163 rfl (lv_at hl 0 rfl) ?_
  refine lv_iload_n hx hb dL_law_1164 rfl (lv_at hl 3 rfl) ?_
  refine lv_iconst (v := 2) hx hb dL_law_1165 (by decide) ?_
  refine lv_iadd hx hb dL_law_1166 ?_
  refine va_sld (s := s.setDrawn d0) hx hb hX hbl hbA hS (law_in (v := 2) (j := 2) hL hx3 hi6 (by decide) (by decide)) dL_law_1167 ?_
  refine lv_aload_n hx hb dL_law_1168 rfl (lv_at hl 0 rfl) ?_
  refine lv_iload_n hx hb dL_law_1169 rfl (lv_at hl 3 rfl) ?_
  refine lv_iconst (v := 3) hx hb dL_law_1170 (by decide) ?_
  refine lv_iadd hx hb dL_law_1171 ?_
  refine va_sld (s := s.setDrawn d0) hx hb hX hbl hbA hS (law_in (v := 3) (j := 3) hL hx3 hi6 (by decide) (by decide)) dL_law_1172 ?_
  refine l_cI hS (r_runV (As := [.int (xs (x3 + 1).toNatClampNeg), .int (xs (x3 + 2).toNatClampNeg), .int (xs (x3 + 3).toNatClampNeg)]) (rest := []) (hC.drew d0) kV_L_143 cw_X11_alter (rc_X11 (hC.drew d0) hP) hP (tI_alter x al lv σ (xs (x3 + 1).toNatClampNeg) (xs (x3 + 2).toNatClampNeg) (xs (x3 + 3).toNatClampNeg) _ h1) rfl hl.1 ⟨Nat.le_of_ble_eq_true rfl, Nat.le_of_ble_eq_true rfl⟩ ⟨by show cells + 0 ≤ 101448; omega, by show slots + 0 ≤ 8797906; omega⟩ (Nat.le_of_ble_eq_true rfl) dL_law_1173) (fun H locs hP hS => ?_)
  refine lv_aload_n hx hb dL_law_1176 rfl (lv_at hl 2 rfl) ?_
  refine lv_aload_n hx hb dL_law_1177 rfl (lv_at hl 0 rfl) ?_
  refine lv_iload_n hx hb dL_law_1178 rfl (lv_at hl 3 rfl) ?_
  refine lv_iconst (v := 1) hx hb dL_law_1179 (by decide) ?_
  refine lv_iadd hx hb dL_law_1180 ?_
  refine va_sld (s := s.setDrawn d0) hx hb hX hbl hbA hS (law_in (v := 1) (j := 1) hL hx3 hi6 (by decide) (by decide)) dL_law_1181 ?_
  refine lv_aload_n hx hb dL_law_1182 rfl (lv_at hl 0 rfl) ?_
  refine lv_iload_n hx hb dL_law_1183 rfl (lv_at hl 3 rfl) ?_
  refine lv_iconst (v := 2) hx hb dL_law_1184 (by decide) ?_
  refine lv_iadd hx hb dL_law_1185 ?_
  refine va_sld (s := s.setDrawn d0) hx hb hX hbl hbA hS (law_in (v := 2) (j := 2) hL hx3 hi6 (by decide) (by decide)) dL_law_1186 ?_
  refine lv_aload_n hx hb dL_law_1187 rfl (lv_at hl 0 rfl) ?_
  refine lv_iload_n hx hb dL_law_1188 rfl (lv_at hl 3 rfl) ?_
  refine lv_iconst (v := 3) hx hb dL_law_1189 (by decide) ?_
  refine lv_iadd hx hb dL_law_1190 ?_
  refine va_sld (s := s.setDrawn d0) hx hb hX hbl hbA hS (law_in (v := 3) (j := 3) hL hx3 hi6 (by decide) (by decide)) dL_law_1191 ?_
  refine l_cI hS (r_runV (As := [.int (xs (x3 + 1).toNatClampNeg), .int (xs (x3 + 2).toNatClampNeg), .int (xs (x3 + 3).toNatClampNeg)]) (rest := [.int r]) (hC.drew d0) kV_L_146 cw_X12_alter (rc_X12 (hC.drew d0) hP) hP (tM_alter x al lv σ1 (xs (x3 + 1).toNatClampNeg) (xs (x3 + 2).toNatClampNeg) (xs (x3 + 3).toNatClampNeg) _ h2) rfl hl.1 ⟨Nat.le_of_ble_eq_true rfl, Nat.le_of_ble_eq_true rfl⟩ ⟨by show cells + 0 ≤ 101448; omega, by show slots + 0 ≤ 8797906; omega⟩ (Nat.le_of_ble_eq_true rfl) dL_law_1192) (fun H locs hP hS => ?_)
  refine lv_icmp_eq (tgt := 1226) hx hb dL_law_1195 (by decide) (fun _ => ?_) (fun hc => absurd rfl hc)
  exact kk lv σ2 al H locs d0 hI2 hd0 rfl rfl hP hS
set_option maxRecDepth 20000 in
theorem law_check {p : Program} {l : Launch} {e : Env} {s : State} {m : MethodId} {below : List Frame} {meth : Method} {c : Code} {H : Heap} {locs : List Loc} {cells slots : Nat} {Q : State → Prop} {ls : Array Slot} {x : Wx} {al : Nat → Nat → Nat} {lv : Nat → Bool} {σ : Sg} {b L : Nat} {xs : Nat → Int32} {d0 : Drawn} {Inv : (Nat → Bool) → Sg → Prop} {i : Nat} {x3 : Int32} (hop : Op_check Inv) (hC : Cx x p s m #[Value.ref b] meth c cL_law 4 (some .boolean) "IceTradeLaw") (hX : va_X b L xs s s.heap) (hbl : b < s.heap.size) (hbA : ¬ Ab x b) (hL : L ≤ 3072) (hx3 : x3 = nI i) (hi6 : i + 6 ≤ L) (hI : Inv lv σ) (hd0 : s.drawn.sameBut d0 lw_cs) (hcc : cells + 24 ≤ 101448) (hss : slots + 5400 ≤ 8797906) (hP : Pic x al lv σ H) (hS : va_S (Ab x) s.heap H locs) (hl : lv_has ls 4 [(0, .ref b), (1, .ref (al 6 0)), (2, .ref (al 7 0)), (3, .int x3)]) (kk : ∀ (lv2 : Nat → Bool) (σ2 : Sg) (al2 : Nat → Nat → Nat) (H2 : Heap) (locs2 : List Loc) (d2 : Drawn), Inv lv2 σ2 → s.drawn.sameBut d2 lw_cs → al2 6 0 = al 6 0 → al2 7 0 = al 7 0 → Pic x al2 lv2 σ2 H2 → va_S (Ab x) s.heap H2 locs2 → W p l e room_1 (s.setDrawn d2) m #[Value.ref b] below meth c H2 locs2 (cells + 0) (slots + 0) Q (F0 m 1226 ls [])) : W p l e room_1 (s.setDrawn d0) m #[Value.ref b] below meth c H locs cells slots Q (F0 m 1200 ls []) := by
  obtain ⟨hx, hb, hml, hown, hts⟩ := hC.1
  obtain ⟨r, h1, h2, hI2⟩ := hop lv σ hI 
  refine lv_aload_n hx hb dL_law_1200 rfl (lv_at hl 1 rfl) ?_
  refine l_cP hS (r_runV (As := []) (rest := []) (hC.drew d0) kV_L_147 cw_X11_check (rc_X11 (hC.drew d0) hP) hP (tI_check x al lv σ  _ h1) rfl hl.1 ⟨Nat.le_of_ble_eq_true rfl, Nat.le_of_ble_eq_true rfl⟩ ⟨by show cells + 0 ≤ 101448; omega, by show slots + 0 ≤ 8797906; omega⟩ (Nat.le_of_ble_eq_true rfl) dL_law_1201) (fun H locs hP hS => ?_)
  refine lv_aload_n hx hb dL_law_1204 rfl (lv_at hl 2 rfl) ?_
  refine l_cP hS (r_runV (As := []) (rest := [.int r]) (hC.drew d0) kV_L_150 cw_X12_check (rc_X12 (hC.drew d0) hP) hP (tM_check x al lv σ  _ h2) rfl hl.1 ⟨Nat.le_of_ble_eq_true rfl, Nat.le_of_ble_eq_true rfl⟩ ⟨by show cells + 0 ≤ 101448; omega, by show slots + 0 ≤ 8797906; omega⟩ (Nat.le_of_ble_eq_true rfl) dL_law_1205) (fun H locs hP hS => ?_)
  refine lv_icmp_eq (tgt := 1226) hx hb dL_law_1208 (by decide) (fun _ => ?_) (fun hc => absurd rfl hc)
  exact kk lv σ al H locs d0 hI2 hd0 rfl rfl hP hS
set_option maxRecDepth 20000 in
theorem law_status {p : Program} {l : Launch} {e : Env} {s : State} {m : MethodId} {below : List Frame} {meth : Method} {c : Code} {H : Heap} {locs : List Loc} {cells slots : Nat} {Q : State → Prop} {ls : Array Slot} {x : Wx} {al : Nat → Nat → Nat} {lv : Nat → Bool} {σ : Sg} {b L : Nat} {xs : Nat → Int32} {d0 : Drawn} {Inv : (Nat → Bool) → Sg → Prop} {i : Nat} {x3 : Int32} (hop : Op_status Inv) (hC : Cx x p s m #[Value.ref b] meth c cL_law 4 (some .boolean) "IceTradeLaw") (hX : va_X b L xs s s.heap) (hbl : b < s.heap.size) (hbA : ¬ Ab x b) (hL : L ≤ 3072) (hx3 : x3 = nI i) (hi6 : i + 6 ≤ L) (hI : Inv lv σ) (hd0 : s.drawn.sameBut d0 lw_cs) (hcc : cells + 24 ≤ 101448) (hss : slots + 5400 ≤ 8797906) (hP : Pic x al lv σ H) (hS : va_S (Ab x) s.heap H locs) (hl : lv_has ls 4 [(0, .ref b), (1, .ref (al 6 0)), (2, .ref (al 7 0)), (3, .int x3)]) (kk : ∀ (lv2 : Nat → Bool) (σ2 : Sg) (al2 : Nat → Nat → Nat) (H2 : Heap) (locs2 : List Loc) (d2 : Drawn), Inv lv2 σ2 → s.drawn.sameBut d2 lw_cs → al2 6 0 = al 6 0 → al2 7 0 = al 7 0 → Pic x al2 lv2 σ2 H2 → va_S (Ab x) s.heap H2 locs2 → W p l e room_1 (s.setDrawn d2) m #[Value.ref b] below meth c H2 locs2 (cells + 0) (slots + 0) Q (F0 m 1226 ls [])) : W p l e room_1 (s.setDrawn d0) m #[Value.ref b] below meth c H locs cells slots Q (F0 m 1213 ls []) := by
  obtain ⟨hx, hb, hml, hown, hts⟩ := hC.1
  obtain ⟨r, h1, h2, hI2⟩ := hop lv σ hI 
  refine lv_aload_n hx hb dL_law_1213 rfl (lv_at hl 1 rfl) ?_
  refine l_cP hS (r_runV (As := []) (rest := []) (hC.drew d0) kV_L_151 cw_X11_status (rc_X11 (hC.drew d0) hP) hP (tI_status x al lv σ  _ h1) rfl hl.1 ⟨Nat.le_of_ble_eq_true rfl, Nat.le_of_ble_eq_true rfl⟩ ⟨by show cells + 0 ≤ 101448; omega, by show slots + 0 ≤ 8797906; omega⟩ (Nat.le_of_ble_eq_true rfl) dL_law_1214) (fun H locs hP hS => ?_)
  refine lv_aload_n hx hb dL_law_1217 rfl (lv_at hl 2 rfl) ?_
  refine l_cP hS (r_runV (As := []) (rest := [.int r]) (hC.drew d0) kV_L_154 cw_X12_status (rc_X12 (hC.drew d0) hP) hP (tM_status x al lv σ  _ h2) rfl hl.1 ⟨Nat.le_of_ble_eq_true rfl, Nat.le_of_ble_eq_true rfl⟩ ⟨by show cells + 0 ≤ 101448; omega, by show slots + 0 ≤ 8797906; omega⟩ (Nat.le_of_ble_eq_true rfl) dL_law_1218) (fun H locs hP hS => ?_)
  refine lv_icmp_eq (tgt := 1226) hx hb dL_law_1221 (by decide) (fun _ => ?_) (fun hc => absurd rfl hc)
  exact kk lv σ al H locs d0 hI2 hd0 rfl rfl hP hS
