/-! the law's cases with an exception: numbers, more -/
section GLW
variable {p : Program} {l : Launch} {e : Env} {s : State} {m : MethodId} {below : List Frame} {meth : Method} {c : Code} {H : Heap} {locs : List Loc} {cells slots : Nat} {Q : State → Prop} {G : GL} {b L : Nat} {xs : Nat → Int32} {x : CS} {y : MS} {o : Nat → Int32} {ls : Array Slot} {i : Int32}
theorem w_L_feed (C0 : g_X G (List.range 162) p s m #[.ref b] meth c cL_law 9 RL ret) (hW : g_W G (List.range 162) (x, y, o) s.heap H locs) (hR : pp_R x y) (hl : lv_has ls 9 (g_LV G b i)) (hcl : cells + 900 ≤ 601024) (hsl : slots + 13000 ≤ 7293034) (hfl : l.stackTraces = false) (hnc : g_NC s) (hX : va_X b L xs s s.heap) (hbl : b < s.heap.size) (hbA : ¬ g_A G b) (hin : ∀ j : Nat, j ≤ 5 → vp_in (i + nI j) L) (K : ∀ (x' : CS) (y' : MS) (o' : Nat → Int32) (H' : Heap) (locs' : List Loc) (ls' : Array Slot), pp_R x' y' → g_W G (List.range 162) (x', y', o') s.heap H' locs' → lv_has ls' 9 (g_LV G b i) → W p l e room_1 s m #[.ref b] below meth c H' locs' (cells + 900) (slots + 13000) Q (F0 m 1913 ls' [])) : W p l e room_1 s m #[.ref b] below meth c H locs cells slots Q (F0 m 204 ls []) := by
  obtain ⟨k, x1, o1, r, y1, h1, h2, h3, h4, h5⟩ := pp_o0 (a := xs (i + 1).toNatClampNeg) (b := xs (i + 2).toNatClampNeg) (c := xs (i + 3).toNatClampNeg) (d := xs (i + 4).toNatClampNeg) (e := xs (i + 5).toNatClampNeg) (o := o) hR
  refine lv_aload_n C0.hx C0.hb dL_law_204 rfl (lv_at hl 1 rfl) ?_
  refine lv_aload_n C0.hx C0.hb dL_law_205 rfl (lv_at hl 0 rfl) ?_
  refine lv_iload C0.hx C0.hb dL_law_206 (lv_at hl 4 rfl) ?_
  refine lv_iconst (v := (1 : Int32)) C0.hx C0.hb dL_law_208 (by decide) ?_
  refine lv_iadd C0.hx C0.hb dL_law_209 ?_
  refine va_sld C0.hx C0.hb hX hbl hbA hW.2.2 (hin 1 (by decide)) dL_law_210 ?_
  refine lv_aload_n C0.hx C0.hb dL_law_211 rfl (lv_at hl 0 rfl) ?_
  refine lv_iload C0.hx C0.hb dL_law_212 (lv_at hl 4 rfl) ?_
  refine lv_iconst (v := (2 : Int32)) C0.hx C0.hb dL_law_214 (by decide) ?_
  refine lv_iadd C0.hx C0.hb dL_law_215 ?_
  refine va_sld C0.hx C0.hb hX hbl hbA hW.2.2 (hin 2 (by decide)) dL_law_216 ?_
  refine lv_aload_n C0.hx C0.hb dL_law_217 rfl (lv_at hl 0 rfl) ?_
  refine lv_iload C0.hx C0.hb dL_law_218 (lv_at hl 4 rfl) ?_
  refine lv_iconst (v := (3 : Int32)) C0.hx C0.hb dL_law_220 (by decide) ?_
  refine lv_iadd C0.hx C0.hb dL_law_221 ?_
  refine va_sld C0.hx C0.hb hX hbl hbA hW.2.2 (hin 3 (by decide)) dL_law_222 ?_
  refine lv_aload_n C0.hx C0.hb dL_law_223 rfl (lv_at hl 0 rfl) ?_
  refine lv_iload C0.hx C0.hb dL_law_224 (lv_at hl 4 rfl) ?_
  refine lv_iconst (v := (4 : Int32)) C0.hx C0.hb dL_law_226 (by decide) ?_
  refine lv_iadd C0.hx C0.hb dL_law_227 ?_
  refine va_sld C0.hx C0.hb hX hbl hbA hW.2.2 (hin 4 (by decide)) dL_law_228 ?_
  refine lv_aload_n C0.hx C0.hb dL_law_229 rfl (lv_at hl 0 rfl) ?_
  refine lv_iload C0.hx C0.hb dL_law_230 (lv_at hl 4 rfl) ?_
  refine lv_iconst (v := (5 : Int32)) C0.hx C0.hb dL_law_232 (by decide) ?_
  refine lv_iadd C0.hx C0.hb dL_law_233 ?_
  refine va_sld C0.hx C0.hb hX hbl hbA hW.2.2 (hin 5 (by decide)) dL_law_234 ?_
  refine lv_aload_n C0.hx C0.hb dL_law_235 rfl (lv_at hl 3 rfl) ?_
  refine g_calli hW (vx_runSW (As := [.ref (g_ad G 0), .int (xs (i + 1).toNatClampNeg), .int (xs (i + 2).toNatClampNeg), .int (xs (i + 3).toNatClampNeg), .int (xs (i + 4).toNatClampNeg), .int (xs (i + 5).toNatClampNeg), .ref (g_ad G 161)]) (rest := []) C0.call (c_L_feed hfl (List.mem_range.mpr (by decide)) h1) (vx_cwSW 7 C0.hts (g_goodS tm_L_100 tz_L_feed tn_L tc_L_feed) rfl rfl rfl ⟨by decide, by decide, by decide +kernel⟩ ⟨Nat.le_of_ble_eq_true rfl, Nat.le_of_ble_eq_true rfl⟩) ⟨g_blindL, fun U hU hw => ⟨rfl, g_pre C0 hW hU hw, g_NC.to hnc hw.alike⟩⟩ rfl rfl hl.1 rfl (Nat.le_of_ble_eq_true rfl) dL_law_236 ⟨by simp only [room_1]; omega, by simp only [room_1]; omega⟩) (fun H locs hW => ?_)
  refine lv_istore (lv' := (5, .int k) :: g_LV G b i) C0.hx C0.hb dL_law_239 hl (by decide) rfl (fun ls hl => ?_)
  have hl : lv_has ls 9 [(5, .int k), (0, .ref b), (1, .ref (g_ad G 0)), (2, .ref (g_ad G 120)), (3, .ref (g_ad G 161)), (4, .int i)] := hl
  refine lv_aload_n C0.hx C0.hb dL_law_241 rfl (lv_at hl 3 rfl) ?_
  refine lv_aload_n C0.hx C0.hb dL_law_242 rfl (lv_at hl 1 rfl) ?_
  refine lv_iload C0.hx C0.hb dL_law_243 (lv_at hl 5 rfl) ?_
  refine lv_iconst (v := (1 : Int32)) C0.hx C0.hb dL_law_245 (by decide) ?_
  refine lv_iadd C0.hx C0.hb dL_law_246 ?_
  refine va_sld C0.hx C0.hb hX hbl hbA hW.2.2 (hin 1 (by decide)) dL_law_247 ?_
  refine lv_aload_n C0.hx C0.hb dL_law_248 rfl (lv_at hl 1 rfl) ?_
  refine lv_iload C0.hx C0.hb dL_law_249 (lv_at hl 5 rfl) ?_
  refine lv_iconst (v := (2 : Int32)) C0.hx C0.hb dL_law_251 (by decide) ?_
  refine lv_iadd C0.hx C0.hb dL_law_252 ?_
  refine va_sld C0.hx C0.hb hX hbl hbA hW.2.2 (hin 2 (by decide)) dL_law_253 ?_
  refine lv_aload_n C0.hx C0.hb dL_law_254 rfl (lv_at hl 1 rfl) ?_
  refine lv_iload C0.hx C0.hb dL_law_255 (lv_at hl 5 rfl) ?_
  refine lv_iconst (v := (3 : Int32)) C0.hx C0.hb dL_law_257 (by decide) ?_
  refine lv_iadd C0.hx C0.hb dL_law_258 ?_
  refine va_sld C0.hx C0.hb hX hbl hbA hW.2.2 (hin 3 (by decide)) dL_law_259 ?_
  refine lv_aload_n C0.hx C0.hb dL_law_260 rfl (lv_at hl 1 rfl) ?_
  refine lv_iload C0.hx C0.hb dL_law_261 (lv_at hl 5 rfl) ?_
  refine lv_iconst (v := (4 : Int32)) C0.hx C0.hb dL_law_263 (by decide) ?_
  refine lv_iadd C0.hx C0.hb dL_law_264 ?_
  refine va_sld C0.hx C0.hb hX hbl hbA hW.2.2 (hin 4 (by decide)) dL_law_265 ?_
  refine lv_aload_n C0.hx C0.hb dL_law_266 rfl (lv_at hl 1 rfl) ?_
  refine lv_iload C0.hx C0.hb dL_law_267 (lv_at hl 5 rfl) ?_
  refine lv_iconst (v := (5 : Int32)) C0.hx C0.hb dL_law_269 (by decide) ?_
  refine lv_iadd C0.hx C0.hb dL_law_270 ?_
  refine va_sld C0.hx C0.hb hX hbl hbA hW.2.2 (hin 5 (by decide)) dL_law_271 ?_
  refine g_calli hW (g_runV (As := [.int (xs (i + 1).toNatClampNeg), .int (xs (i + 2).toNatClampNeg), .int (xs (i + 3).toNatClampNeg), .int (xs (i + 4).toNatClampNeg), .int (xs (i + 5).toNatClampNeg)]) (rest := []) C0 hW (c_X15_feed (fun j hj => List.mem_range.mp hj) (pp_R.ok h5) h2) (g_cwL (n := 5) tc_X15_feed tn_X15 ⟨by decide, by decide, by decide +kernel⟩ (by decide) (by decide) (by omega) (by omega)) tm_L_105 ti_X15_feed ts_X15_feed (C0.mem (i := 120) (Nat.le_of_ble_eq_true rfl)) (g_c12 k_120) rfl rfl hl.1 rfl (Nat.le_of_ble_eq_true rfl) dL_law_272) (fun H locs hW => ?_)
  refine lv_istore (lv' := [(6, .int r), (5, .int k), (0, .ref b), (1, .ref (g_ad G 0)), (2, .ref (g_ad G 120)), (3, .ref (g_ad G 161)), (4, .int i)]) C0.hx C0.hb dL_law_275 hl (by decide) rfl (fun ls hl => ?_)
  refine lv_aload_n C0.hx C0.hb dL_law_277 rfl (lv_at hl 4 rfl) ?_
  refine g_calli hW (g_runV (As := []) (rest := []) C0 hW (c_X15_thrown (q := y1 120 0) rfl) (g_cwL (n := 0) tc_X15_thrown tn_X15 ⟨by decide, by decide, by decide +kernel⟩ (by decide) (by decide) (by omega) (by omega)) tm_L_106 ti_X15_thrown ts_X15_thrown (C0.mem (i := 120) (Nat.le_of_ble_eq_true rfl)) (g_c12 k_120) rfl rfl hl.1 rfl (Nat.le_of_ble_eq_true rfl) dL_law_278) (fun H locs hW => ?_)
  refine lv_iload C0.hx C0.hb dL_law_281 (lv_at hl 1 rfl) ?_
  refine lv_icmp_eq (tgt := 288) C0.hx C0.hb dL_law_283 (by decide) (fun _ => ?_) (fun hc => absurd h3 hc)
  refine lv_iload C0.hx C0.hb dL_law_288 (lv_at hl 1 rfl) ?_
  refine lv_if_ne (tgt := 305) C0.hx C0.hb dL_law_290 (by decide) (fun hc => ?_) (fun hc => ?_)
  · refine lv_goto (tgt := 1913) C0.hx C0.hb dL_law_305 (by decide) ?_
    refine W.widen (k := cells + 900) (n := slots + 13000) (by omega) (by omega) ?_
    exact K x1 y1 o1 H locs ls h5 hW (lv_sub hl [2, 3, 4, 5, 6] rfl)
  · have hk : k = 0 := hc
    have h0 := h4 hk
    refine lv_aload_n C0.hx C0.hb dL_law_293 rfl (lv_at hl 5 rfl) ?_
    refine lv_iconst (v := (0 : Int32)) C0.hx C0.hb dL_law_294 (by decide) ?_
    refine ga_38 C0 hW (List.mem_range.mpr (by decide)) k_161 (by decide) dL_law_295 ?_
    refine lv_iload C0.hx C0.hb dL_law_296 (lv_at hl 0 rfl) ?_
    refine lv_i2l (v := r.toInt64) C0.hx C0.hb dL_law_298 rfl ?_
    refine W.lcmp C0.hx C0.hb dL_law_299 ?_
    refine lv_if_eq (tgt := 305) C0.hx C0.hb dL_law_300 (by decide) (fun hc => ?_) (fun hc => absurd (by show lg_cmp (o1 0).toInt64 r.toInt64 = 0; rw [h0]; exact g_cmp0) hc)
    refine lv_goto (tgt := 1913) C0.hx C0.hb dL_law_305 (by decide) ?_
    refine W.widen (k := cells + 900) (n := slots + 13000) (by omega) (by omega) ?_
    exact K x1 y1 o1 H locs ls h5 hW (lv_sub hl [2, 3, 4, 5, 6] rfl)
theorem w_L_meantWord (C0 : g_X G (List.range 162) p s m #[.ref b] meth c cL_law 9 RL ret) (hW : g_W G (List.range 162) (x, y, o) s.heap H locs) (hR : pp_R x y) (hl : lv_has ls 9 (g_LV G b i)) (hcl : cells + 900 ≤ 601024) (hsl : slots + 13000 ≤ 7293034) (hfl : l.stackTraces = false) (hnc : g_NC s) (hX : va_X b L xs s s.heap) (hbl : b < s.heap.size) (hbA : ¬ g_A G b) (hin : ∀ j : Nat, j ≤ 5 → vp_in (i + nI j) L) (K : ∀ (x' : CS) (y' : MS) (o' : Nat → Int32) (H' : Heap) (locs' : List Loc) (ls' : Array Slot), pp_R x' y' → g_W G (List.range 162) (x', y', o') s.heap H' locs' → lv_has ls' 9 (g_LV G b i) → W p l e room_1 s m #[.ref b] below meth c H' locs' (cells + 900) (slots + 13000) Q (F0 m 1913 ls' [])) : W p l e room_1 s m #[.ref b] below meth c H locs cells slots Q (F0 m 1333 ls []) := by
  obtain ⟨k, x1, o1, r, y1, h1, h2, h3, h4, h5⟩ := pp_o24 (o := o) hR
  refine lv_aload_n C0.hx C0.hb dL_law_1333 rfl (lv_at hl 1 rfl) ?_
  refine lv_aload_n C0.hx C0.hb dL_law_1334 rfl (lv_at hl 3 rfl) ?_
  refine g_calli hW (vx_runSW (As := [.ref (g_ad G 0), .ref (g_ad G 161)]) (rest := []) C0.call (c_L_meantWord hfl (List.mem_range.mpr (by decide)) h1) (vx_cwSW 2 C0.hts (g_goodS tm_L_188 tz_L_meantWord tn_L tc_L_meantWord) rfl rfl rfl ⟨by decide, by decide, by decide +kernel⟩ ⟨Nat.le_of_ble_eq_true rfl, Nat.le_of_ble_eq_true rfl⟩) ⟨g_blindL, fun U hU hw => ⟨rfl, g_pre C0 hW hU hw, g_NC.to hnc hw.alike⟩⟩ rfl rfl hl.1 rfl (Nat.le_of_ble_eq_true rfl) dL_law_1335 ⟨by simp only [room_1]; omega, by simp only [room_1]; omega⟩) (fun H locs hW => ?_)
  refine lv_istore (lv' := (5, .int k) :: g_LV G b i) C0.hx C0.hb dL_law_1338 hl (by decide) rfl (fun ls hl => ?_)
  have hl : lv_has ls 9 [(5, .int k), (0, .ref b), (1, .ref (g_ad G 0)), (2, .ref (g_ad G 120)), (3, .ref (g_ad G 161)), (4, .int i)] := hl
  refine lv_aload_n C0.hx C0.hb dL_law_1340 rfl (lv_at hl 3 rfl) ?_
  refine g_calli hW (g_runV (As := []) (rest := []) C0 hW (c_X15_meantWord h2) (g_cwL (n := 0) tc_X15_meantWord tn_X15 ⟨by decide, by decide, by decide +kernel⟩ (by decide) (by decide) (by omega) (by omega)) tm_L_191 ti_X15_meantWord ts_X15_meantWord (C0.mem (i := 120) (Nat.le_of_ble_eq_true rfl)) (g_c12 k_120) rfl rfl hl.1 rfl (Nat.le_of_ble_eq_true rfl) dL_law_1341) (fun H locs hW => ?_)
  refine lv_istore (lv' := [(6, .int r), (5, .int k), (0, .ref b), (1, .ref (g_ad G 0)), (2, .ref (g_ad G 120)), (3, .ref (g_ad G 161)), (4, .int i)]) C0.hx C0.hb dL_law_1344 hl (by decide) rfl (fun ls hl => ?_)
  refine lv_aload_n C0.hx C0.hb dL_law_1346 rfl (lv_at hl 4 rfl) ?_
  refine g_calli hW (g_runV (As := []) (rest := []) C0 hW (c_X15_thrown (q := y1 120 0) rfl) (g_cwL (n := 0) tc_X15_thrown tn_X15 ⟨by decide, by decide, by decide +kernel⟩ (by decide) (by decide) (by omega) (by omega)) tm_L_106 ti_X15_thrown ts_X15_thrown (C0.mem (i := 120) (Nat.le_of_ble_eq_true rfl)) (g_c12 k_120) rfl rfl hl.1 rfl (Nat.le_of_ble_eq_true rfl) dL_law_1347) (fun H locs hW => ?_)
  refine lv_iload C0.hx C0.hb dL_law_1350 (lv_at hl 1 rfl) ?_
  refine lv_icmp_eq (tgt := 1357) C0.hx C0.hb dL_law_1352 (by decide) (fun _ => ?_) (fun hc => absurd h3 hc)
  refine lv_iload C0.hx C0.hb dL_law_1357 (lv_at hl 1 rfl) ?_
  refine lv_if_ne (tgt := 1374) C0.hx C0.hb dL_law_1359 (by decide) (fun hc => ?_) (fun hc => ?_)
  · refine lv_goto (tgt := 1913) C0.hx C0.hb dL_law_1374 (by decide) ?_
    refine W.widen (k := cells + 900) (n := slots + 13000) (by omega) (by omega) ?_
    exact K x1 y1 o1 H locs ls h5 hW (lv_sub hl [2, 3, 4, 5, 6] rfl)
  · have hk : k = 0 := hc
    have h0 := h4 hk
    refine lv_aload_n C0.hx C0.hb dL_law_1362 rfl (lv_at hl 5 rfl) ?_
    refine lv_iconst (v := (0 : Int32)) C0.hx C0.hb dL_law_1363 (by decide) ?_
    refine ga_38 C0 hW (List.mem_range.mpr (by decide)) k_161 (by decide) dL_law_1364 ?_
    refine lv_iload C0.hx C0.hb dL_law_1365 (lv_at hl 0 rfl) ?_
    refine lv_i2l (v := r.toInt64) C0.hx C0.hb dL_law_1367 rfl ?_
    refine W.lcmp C0.hx C0.hb dL_law_1368 ?_
    refine lv_if_eq (tgt := 1374) C0.hx C0.hb dL_law_1369 (by decide) (fun hc => ?_) (fun hc => absurd (by show lg_cmp (o1 0).toInt64 r.toInt64 = 0; rw [h0]; exact g_cmp0) hc)
    refine lv_goto (tgt := 1913) C0.hx C0.hb dL_law_1374 (by decide) ?_
    refine W.widen (k := cells + 900) (n := slots + 13000) (by omega) (by omega) ?_
    exact K x1 y1 o1 H locs ls h5 hW (lv_sub hl [2, 3, 4, 5, 6] rfl)
theorem w_L_surety (C0 : g_X G (List.range 162) p s m #[.ref b] meth c cL_law 9 RL ret) (hW : g_W G (List.range 162) (x, y, o) s.heap H locs) (hR : pp_R x y) (hl : lv_has ls 9 (g_LV G b i)) (hcl : cells + 900 ≤ 601024) (hsl : slots + 13000 ≤ 7293034) (hfl : l.stackTraces = false) (hnc : g_NC s) (hX : va_X b L xs s s.heap) (hbl : b < s.heap.size) (hbA : ¬ g_A G b) (hin : ∀ j : Nat, j ≤ 5 → vp_in (i + nI j) L) (K : ∀ (x' : CS) (y' : MS) (o' : Nat → Int32) (H' : Heap) (locs' : List Loc) (ls' : Array Slot), pp_R x' y' → g_W G (List.range 162) (x', y', o') s.heap H' locs' → lv_has ls' 9 (g_LV G b i) → W p l e room_1 s m #[.ref b] below meth c H' locs' (cells + 900) (slots + 13000) Q (F0 m 1913 ls' [])) : W p l e room_1 s m #[.ref b] below meth c H locs cells slots Q (F0 m 1377 ls []) := by
  obtain ⟨k, x1, o1, r, y1, h1, h2, h3, h4, h5⟩ := pp_o25 (o := o) hR
  refine lv_aload_n C0.hx C0.hb dL_law_1377 rfl (lv_at hl 1 rfl) ?_
  refine lv_aload_n C0.hx C0.hb dL_law_1378 rfl (lv_at hl 3 rfl) ?_
  refine g_calli hW (vx_runSW (As := [.ref (g_ad G 0), .ref (g_ad G 161)]) (rest := []) C0.call (c_L_surety hfl (List.mem_range.mpr (by decide)) h1) (vx_cwSW 2 C0.hts (g_goodS tm_L_192 tz_L_surety tn_L tc_L_surety) rfl rfl rfl ⟨by decide, by decide, by decide +kernel⟩ ⟨Nat.le_of_ble_eq_true rfl, Nat.le_of_ble_eq_true rfl⟩) ⟨g_blindL, fun U hU hw => ⟨rfl, g_pre C0 hW hU hw, g_NC.to hnc hw.alike⟩⟩ rfl rfl hl.1 rfl (Nat.le_of_ble_eq_true rfl) dL_law_1379 ⟨by simp only [room_1]; omega, by simp only [room_1]; omega⟩) (fun H locs hW => ?_)
  refine lv_istore (lv' := (5, .int k) :: g_LV G b i) C0.hx C0.hb dL_law_1382 hl (by decide) rfl (fun ls hl => ?_)
  have hl : lv_has ls 9 [(5, .int k), (0, .ref b), (1, .ref (g_ad G 0)), (2, .ref (g_ad G 120)), (3, .ref (g_ad G 161)), (4, .int i)] := hl
  refine lv_aload_n C0.hx C0.hb dL_law_1384 rfl (lv_at hl 3 rfl) ?_
  refine g_calli hW (g_runV (As := []) (rest := []) C0 hW (c_X15_surety h2) (g_cwL (n := 0) tc_X15_surety tn_X15 ⟨by decide, by decide, by decide +kernel⟩ (by decide) (by decide) (by omega) (by omega)) tm_L_194 ti_X15_surety ts_X15_surety (C0.mem (i := 120) (Nat.le_of_ble_eq_true rfl)) (g_c12 k_120) rfl rfl hl.1 rfl (Nat.le_of_ble_eq_true rfl) dL_law_1385) (fun H locs hW => ?_)
  refine lv_istore (lv' := [(6, .int r), (5, .int k), (0, .ref b), (1, .ref (g_ad G 0)), (2, .ref (g_ad G 120)), (3, .ref (g_ad G 161)), (4, .int i)]) C0.hx C0.hb dL_law_1388 hl (by decide) rfl (fun ls hl => ?_)
  refine lv_aload_n C0.hx C0.hb dL_law_1390 rfl (lv_at hl 4 rfl) ?_
  refine g_calli hW (g_runV (As := []) (rest := []) C0 hW (c_X15_thrown (q := y1 120 0) rfl) (g_cwL (n := 0) tc_X15_thrown tn_X15 ⟨by decide, by decide, by decide +kernel⟩ (by decide) (by decide) (by omega) (by omega)) tm_L_106 ti_X15_thrown ts_X15_thrown (C0.mem (i := 120) (Nat.le_of_ble_eq_true rfl)) (g_c12 k_120) rfl rfl hl.1 rfl (Nat.le_of_ble_eq_true rfl) dL_law_1391) (fun H locs hW => ?_)
  refine lv_iload C0.hx C0.hb dL_law_1394 (lv_at hl 1 rfl) ?_
  refine lv_icmp_eq (tgt := 1401) C0.hx C0.hb dL_law_1396 (by decide) (fun _ => ?_) (fun hc => absurd h3 hc)
  refine lv_iload C0.hx C0.hb dL_law_1401 (lv_at hl 1 rfl) ?_
  refine lv_if_ne (tgt := 1418) C0.hx C0.hb dL_law_1403 (by decide) (fun hc => ?_) (fun hc => ?_)
  · refine lv_goto (tgt := 1913) C0.hx C0.hb dL_law_1418 (by decide) ?_
    refine W.widen (k := cells + 900) (n := slots + 13000) (by omega) (by omega) ?_
    exact K x1 y1 o1 H locs ls h5 hW (lv_sub hl [2, 3, 4, 5, 6] rfl)
  · have hk : k = 0 := hc
    have h0 := h4 hk
    refine lv_aload_n C0.hx C0.hb dL_law_1406 rfl (lv_at hl 5 rfl) ?_
    refine lv_iconst (v := (0 : Int32)) C0.hx C0.hb dL_law_1407 (by decide) ?_
    refine ga_38 C0 hW (List.mem_range.mpr (by decide)) k_161 (by decide) dL_law_1408 ?_
    refine lv_iload C0.hx C0.hb dL_law_1409 (lv_at hl 0 rfl) ?_
    refine lv_i2l (v := r.toInt64) C0.hx C0.hb dL_law_1411 rfl ?_
    refine W.lcmp C0.hx C0.hb dL_law_1412 ?_
    refine lv_if_eq (tgt := 1418) C0.hx C0.hb dL_law_1413 (by decide) (fun hc => ?_) (fun hc => absurd (by show lg_cmp (o1 0).toInt64 r.toInt64 = 0; rw [h0]; exact g_cmp0) hc)
    refine lv_goto (tgt := 1913) C0.hx C0.hb dL_law_1418 (by decide) ?_
    refine W.widen (k := cells + 900) (n := slots + 13000) (by omega) (by omega) ?_
    exact K x1 y1 o1 H locs ls h5 hW (lv_sub hl [2, 3, 4, 5, 6] rfl)
theorem w_L_hear (C0 : g_X G (List.range 162) p s m #[.ref b] meth c cL_law 9 RL ret) (hW : g_W G (List.range 162) (x, y, o) s.heap H locs) (hR : pp_R x y) (hl : lv_has ls 9 (g_LV G b i)) (hcl : cells + 900 ≤ 601024) (hsl : slots + 13000 ≤ 7293034) (hfl : l.stackTraces = false) (hnc : g_NC s) (hX : va_X b L xs s s.heap) (hbl : b < s.heap.size) (hbA : ¬ g_A G b) (hin : ∀ j : Nat, j ≤ 5 → vp_in (i + nI j) L) (K : ∀ (x' : CS) (y' : MS) (o' : Nat → Int32) (H' : Heap) (locs' : List Loc) (ls' : Array Slot), pp_R x' y' → g_W G (List.range 162) (x', y', o') s.heap H' locs' → lv_has ls' 9 (g_LV G b i) → W p l e room_1 s m #[.ref b] below meth c H' locs' (cells + 900) (slots + 13000) Q (F0 m 1913 ls' [])) : W p l e room_1 s m #[.ref b] below meth c H locs cells slots Q (F0 m 1421 ls []) := by
  obtain ⟨k, x1, o1, r, y1, h1, h2, h3, h4, h5⟩ := pp_o26 (p := xs (i + 1).toNatClampNeg) (o := o) hR
  refine lv_aload_n C0.hx C0.hb dL_law_1421 rfl (lv_at hl 1 rfl) ?_
  refine lv_aload_n C0.hx C0.hb dL_law_1422 rfl (lv_at hl 0 rfl) ?_
  refine lv_iload C0.hx C0.hb dL_law_1423 (lv_at hl 4 rfl) ?_
  refine lv_iconst (v := (1 : Int32)) C0.hx C0.hb dL_law_1425 (by decide) ?_
  refine lv_iadd C0.hx C0.hb dL_law_1426 ?_
  refine va_sld C0.hx C0.hb hX hbl hbA hW.2.2 (hin 1 (by decide)) dL_law_1427 ?_
  refine lv_aload_n C0.hx C0.hb dL_law_1428 rfl (lv_at hl 3 rfl) ?_
  refine g_calli hW (vx_runSW (As := [.ref (g_ad G 0), .int (xs (i + 1).toNatClampNeg), .ref (g_ad G 161)]) (rest := []) C0.call (c_L_hear hfl (List.mem_range.mpr (by decide)) h1) (vx_cwSW 3 C0.hts (g_goodS tm_L_195 tz_L_hear tn_L tc_L_hear) rfl rfl rfl ⟨by decide, by decide, by decide +kernel⟩ ⟨Nat.le_of_ble_eq_true rfl, Nat.le_of_ble_eq_true rfl⟩) ⟨g_blindL, fun U hU hw => ⟨rfl, g_pre C0 hW hU hw, g_NC.to hnc hw.alike⟩⟩ rfl rfl hl.1 rfl (Nat.le_of_ble_eq_true rfl) dL_law_1429 ⟨by simp only [room_1]; omega, by simp only [room_1]; omega⟩) (fun H locs hW => ?_)
  refine lv_istore (lv' := (5, .int k) :: g_LV G b i) C0.hx C0.hb dL_law_1432 hl (by decide) rfl (fun ls hl => ?_)
  have hl : lv_has ls 9 [(5, .int k), (0, .ref b), (1, .ref (g_ad G 0)), (2, .ref (g_ad G 120)), (3, .ref (g_ad G 161)), (4, .int i)] := hl
  refine lv_aload_n C0.hx C0.hb dL_law_1434 rfl (lv_at hl 3 rfl) ?_
  refine lv_aload_n C0.hx C0.hb dL_law_1435 rfl (lv_at hl 1 rfl) ?_
  refine lv_iload C0.hx C0.hb dL_law_1436 (lv_at hl 5 rfl) ?_
  refine lv_iconst (v := (1 : Int32)) C0.hx C0.hb dL_law_1438 (by decide) ?_
  refine lv_iadd C0.hx C0.hb dL_law_1439 ?_
  refine va_sld C0.hx C0.hb hX hbl hbA hW.2.2 (hin 1 (by decide)) dL_law_1440 ?_
  refine g_calli hW (g_runV (As := [.int (xs (i + 1).toNatClampNeg)]) (rest := []) C0 hW (c_X15_hear h2) (g_cwL (n := 1) tc_X15_hear tn_X15 ⟨by decide, by decide, by decide +kernel⟩ (by decide) (by decide) (by omega) (by omega)) tm_L_197 ti_X15_hear ts_X15_hear (C0.mem (i := 120) (Nat.le_of_ble_eq_true rfl)) (g_c12 k_120) rfl rfl hl.1 rfl (Nat.le_of_ble_eq_true rfl) dL_law_1441) (fun H locs hW => ?_)
  refine lv_istore (lv' := [(6, .int r), (5, .int k), (0, .ref b), (1, .ref (g_ad G 0)), (2, .ref (g_ad G 120)), (3, .ref (g_ad G 161)), (4, .int i)]) C0.hx C0.hb dL_law_1444 hl (by decide) rfl (fun ls hl => ?_)
  refine lv_aload_n C0.hx C0.hb dL_law_1446 rfl (lv_at hl 4 rfl) ?_
  refine g_calli hW (g_runV (As := []) (rest := []) C0 hW (c_X15_thrown (q := y1 120 0) rfl) (g_cwL (n := 0) tc_X15_thrown tn_X15 ⟨by decide, by decide, by decide +kernel⟩ (by decide) (by decide) (by omega) (by omega)) tm_L_106 ti_X15_thrown ts_X15_thrown (C0.mem (i := 120) (Nat.le_of_ble_eq_true rfl)) (g_c12 k_120) rfl rfl hl.1 rfl (Nat.le_of_ble_eq_true rfl) dL_law_1447) (fun H locs hW => ?_)
  refine lv_iload C0.hx C0.hb dL_law_1450 (lv_at hl 1 rfl) ?_
  refine lv_icmp_eq (tgt := 1457) C0.hx C0.hb dL_law_1452 (by decide) (fun _ => ?_) (fun hc => absurd h3 hc)
  refine lv_iload C0.hx C0.hb dL_law_1457 (lv_at hl 1 rfl) ?_
  refine lv_if_ne (tgt := 1474) C0.hx C0.hb dL_law_1459 (by decide) (fun hc => ?_) (fun hc => ?_)
  · refine lv_goto (tgt := 1913) C0.hx C0.hb dL_law_1474 (by decide) ?_
    refine W.widen (k := cells + 900) (n := slots + 13000) (by omega) (by omega) ?_
    exact K x1 y1 o1 H locs ls h5 hW (lv_sub hl [2, 3, 4, 5, 6] rfl)
  · have hk : k = 0 := hc
    have h0 := h4 hk
    refine lv_aload_n C0.hx C0.hb dL_law_1462 rfl (lv_at hl 5 rfl) ?_
    refine lv_iconst (v := (0 : Int32)) C0.hx C0.hb dL_law_1463 (by decide) ?_
    refine ga_38 C0 hW (List.mem_range.mpr (by decide)) k_161 (by decide) dL_law_1464 ?_
    refine lv_iload C0.hx C0.hb dL_law_1465 (lv_at hl 0 rfl) ?_
    refine lv_i2l (v := r.toInt64) C0.hx C0.hb dL_law_1467 rfl ?_
    refine W.lcmp C0.hx C0.hb dL_law_1468 ?_
    refine lv_if_eq (tgt := 1474) C0.hx C0.hb dL_law_1469 (by decide) (fun hc => ?_) (fun hc => absurd (by show lg_cmp (o1 0).toInt64 r.toInt64 = 0; rw [h0]; exact g_cmp0) hc)
    refine lv_goto (tgt := 1913) C0.hx C0.hb dL_law_1474 (by decide) ?_
    refine W.widen (k := cells + 900) (n := slots + 13000) (by omega) (by omega) ?_
    exact K x1 y1 o1 H locs ls h5 hW (lv_sub hl [2, 3, 4, 5, 6] rfl)
theorem w_L_hearWord (C0 : g_X G (List.range 162) p s m #[.ref b] meth c cL_law 9 RL ret) (hW : g_W G (List.range 162) (x, y, o) s.heap H locs) (hR : pp_R x y) (hl : lv_has ls 9 (g_LV G b i)) (hcl : cells + 900 ≤ 601024) (hsl : slots + 13000 ≤ 7293034) (hfl : l.stackTraces = false) (hnc : g_NC s) (hX : va_X b L xs s s.heap) (hbl : b < s.heap.size) (hbA : ¬ g_A G b) (hin : ∀ j : Nat, j ≤ 5 → vp_in (i + nI j) L) (K : ∀ (x' : CS) (y' : MS) (o' : Nat → Int32) (H' : Heap) (locs' : List Loc) (ls' : Array Slot), pp_R x' y' → g_W G (List.range 162) (x', y', o') s.heap H' locs' → lv_has ls' 9 (g_LV G b i) → W p l e room_1 s m #[.ref b] below meth c H' locs' (cells + 900) (slots + 13000) Q (F0 m 1913 ls' [])) : W p l e room_1 s m #[.ref b] below meth c H locs cells slots Q (F0 m 1477 ls []) := by
  obtain ⟨k, x1, o1, r, y1, h1, h2, h3, h4, h5⟩ := pp_o27 (p := xs (i + 1).toNatClampNeg) (q := xs (i + 2).toNatClampNeg) (o := o) hR
  refine lv_aload_n C0.hx C0.hb dL_law_1477 rfl (lv_at hl 1 rfl) ?_
  refine lv_aload_n C0.hx C0.hb dL_law_1478 rfl (lv_at hl 0 rfl) ?_
  refine lv_iload C0.hx C0.hb dL_law_1479 (lv_at hl 4 rfl) ?_
  refine lv_iconst (v := (1 : Int32)) C0.hx C0.hb dL_law_1481 (by decide) ?_
  refine lv_iadd C0.hx C0.hb dL_law_1482 ?_
  refine va_sld C0.hx C0.hb hX hbl hbA hW.2.2 (hin 1 (by decide)) dL_law_1483 ?_
  refine lv_aload_n C0.hx C0.hb dL_law_1484 rfl (lv_at hl 0 rfl) ?_
  refine lv_iload C0.hx C0.hb dL_law_1485 (lv_at hl 4 rfl) ?_
  refine lv_iconst (v := (2 : Int32)) C0.hx C0.hb dL_law_1487 (by decide) ?_
  refine lv_iadd C0.hx C0.hb dL_law_1488 ?_
  refine va_sld C0.hx C0.hb hX hbl hbA hW.2.2 (hin 2 (by decide)) dL_law_1489 ?_
  refine lv_aload_n C0.hx C0.hb dL_law_1490 rfl (lv_at hl 3 rfl) ?_
  refine g_calli hW (vx_runSW (As := [.ref (g_ad G 0), .int (xs (i + 1).toNatClampNeg), .int (xs (i + 2).toNatClampNeg), .ref (g_ad G 161)]) (rest := []) C0.call (c_L_hearWord hfl (List.mem_range.mpr (by decide)) h1) (vx_cwSW 4 C0.hts (g_goodS tm_L_198 tz_L_hearWord tn_L tc_L_hearWord) rfl rfl rfl ⟨by decide, by decide, by decide +kernel⟩ ⟨Nat.le_of_ble_eq_true rfl, Nat.le_of_ble_eq_true rfl⟩) ⟨g_blindL, fun U hU hw => ⟨rfl, g_pre C0 hW hU hw, g_NC.to hnc hw.alike⟩⟩ rfl rfl hl.1 rfl (Nat.le_of_ble_eq_true rfl) dL_law_1491 ⟨by simp only [room_1]; omega, by simp only [room_1]; omega⟩) (fun H locs hW => ?_)
  refine lv_istore (lv' := (5, .int k) :: g_LV G b i) C0.hx C0.hb dL_law_1494 hl (by decide) rfl (fun ls hl => ?_)
  have hl : lv_has ls 9 [(5, .int k), (0, .ref b), (1, .ref (g_ad G 0)), (2, .ref (g_ad G 120)), (3, .ref (g_ad G 161)), (4, .int i)] := hl
  refine lv_aload_n C0.hx C0.hb dL_law_1496 rfl (lv_at hl 3 rfl) ?_
  refine lv_aload_n C0.hx C0.hb dL_law_1497 rfl (lv_at hl 1 rfl) ?_
  refine lv_iload C0.hx C0.hb dL_law_1498 (lv_at hl 5 rfl) ?_
  refine lv_iconst (v := (1 : Int32)) C0.hx C0.hb dL_law_1500 (by decide) ?_
  refine lv_iadd C0.hx C0.hb dL_law_1501 ?_
  refine va_sld C0.hx C0.hb hX hbl hbA hW.2.2 (hin 1 (by decide)) dL_law_1502 ?_
  refine lv_aload_n C0.hx C0.hb dL_law_1503 rfl (lv_at hl 1 rfl) ?_
  refine lv_iload C0.hx C0.hb dL_law_1504 (lv_at hl 5 rfl) ?_
  refine lv_iconst (v := (2 : Int32)) C0.hx C0.hb dL_law_1506 (by decide) ?_
  refine lv_iadd C0.hx C0.hb dL_law_1507 ?_
  refine va_sld C0.hx C0.hb hX hbl hbA hW.2.2 (hin 2 (by decide)) dL_law_1508 ?_
  refine g_calli hW (g_runV (As := [.int (xs (i + 1).toNatClampNeg), .int (xs (i + 2).toNatClampNeg)]) (rest := []) C0 hW (c_X15_hearWord h2) (g_cwL (n := 2) tc_X15_hearWord tn_X15 ⟨by decide, by decide, by decide +kernel⟩ (by decide) (by decide) (by omega) (by omega)) tm_L_200 ti_X15_hearWord ts_X15_hearWord (C0.mem (i := 120) (Nat.le_of_ble_eq_true rfl)) (g_c12 k_120) rfl rfl hl.1 rfl (Nat.le_of_ble_eq_true rfl) dL_law_1509) (fun H locs hW => ?_)
  refine lv_istore (lv' := [(6, .int r), (5, .int k), (0, .ref b), (1, .ref (g_ad G 0)), (2, .ref (g_ad G 120)), (3, .ref (g_ad G 161)), (4, .int i)]) C0.hx C0.hb dL_law_1512 hl (by decide) rfl (fun ls hl => ?_)
  refine lv_aload_n C0.hx C0.hb dL_law_1514 rfl (lv_at hl 4 rfl) ?_
  refine g_calli hW (g_runV (As := []) (rest := []) C0 hW (c_X15_thrown (q := y1 120 0) rfl) (g_cwL (n := 0) tc_X15_thrown tn_X15 ⟨by decide, by decide, by decide +kernel⟩ (by decide) (by decide) (by omega) (by omega)) tm_L_106 ti_X15_thrown ts_X15_thrown (C0.mem (i := 120) (Nat.le_of_ble_eq_true rfl)) (g_c12 k_120) rfl rfl hl.1 rfl (Nat.le_of_ble_eq_true rfl) dL_law_1515) (fun H locs hW => ?_)
  refine lv_iload C0.hx C0.hb dL_law_1518 (lv_at hl 1 rfl) ?_
  refine lv_icmp_eq (tgt := 1525) C0.hx C0.hb dL_law_1520 (by decide) (fun _ => ?_) (fun hc => absurd h3 hc)
  refine lv_iload C0.hx C0.hb dL_law_1525 (lv_at hl 1 rfl) ?_
  refine lv_if_ne (tgt := 1542) C0.hx C0.hb dL_law_1527 (by decide) (fun hc => ?_) (fun hc => ?_)
  · refine lv_goto (tgt := 1913) C0.hx C0.hb dL_law_1542 (by decide) ?_
    refine W.widen (k := cells + 900) (n := slots + 13000) (by omega) (by omega) ?_
    exact K x1 y1 o1 H locs ls h5 hW (lv_sub hl [2, 3, 4, 5, 6] rfl)
  · have hk : k = 0 := hc
    have h0 := h4 hk
    refine lv_aload_n C0.hx C0.hb dL_law_1530 rfl (lv_at hl 5 rfl) ?_
    refine lv_iconst (v := (0 : Int32)) C0.hx C0.hb dL_law_1531 (by decide) ?_
    refine ga_38 C0 hW (List.mem_range.mpr (by decide)) k_161 (by decide) dL_law_1532 ?_
    refine lv_iload C0.hx C0.hb dL_law_1533 (lv_at hl 0 rfl) ?_
    refine lv_i2l (v := r.toInt64) C0.hx C0.hb dL_law_1535 rfl ?_
    refine W.lcmp C0.hx C0.hb dL_law_1536 ?_
    refine lv_if_eq (tgt := 1542) C0.hx C0.hb dL_law_1537 (by decide) (fun hc => ?_) (fun hc => absurd (by show lg_cmp (o1 0).toInt64 r.toInt64 = 0; rw [h0]; exact g_cmp0) hc)
    refine lv_goto (tgt := 1913) C0.hx C0.hb dL_law_1542 (by decide) ?_
    refine W.widen (k := cells + 900) (n := slots + 13000) (by omega) (by omega) ?_
    exact K x1 y1 o1 H locs ls h5 hW (lv_sub hl [2, 3, 4, 5, 6] rfl)
theorem w_L_passLessons (C0 : g_X G (List.range 162) p s m #[.ref b] meth c cL_law 9 RL ret) (hW : g_W G (List.range 162) (x, y, o) s.heap H locs) (hR : pp_R x y) (hl : lv_has ls 9 (g_LV G b i)) (hcl : cells + 900 ≤ 601024) (hsl : slots + 13000 ≤ 7293034) (hfl : l.stackTraces = false) (hnc : g_NC s) (hX : va_X b L xs s s.heap) (hbl : b < s.heap.size) (hbA : ¬ g_A G b) (hin : ∀ j : Nat, j ≤ 5 → vp_in (i + nI j) L) (K : ∀ (x' : CS) (y' : MS) (o' : Nat → Int32) (H' : Heap) (locs' : List Loc) (ls' : Array Slot), pp_R x' y' → g_W G (List.range 162) (x', y', o') s.heap H' locs' → lv_has ls' 9 (g_LV G b i) → W p l e room_1 s m #[.ref b] below meth c H' locs' (cells + 900) (slots + 13000) Q (F0 m 1913 ls' [])) : W p l e room_1 s m #[.ref b] below meth c H locs cells slots Q (F0 m 1634 ls []) := by
  obtain ⟨k, x1, o1, r, y1, h1, h2, h3, h4, h5⟩ := pp_o31 (p := xs (i + 1).toNatClampNeg) (o := o) hR
  refine lv_aload_n C0.hx C0.hb dL_law_1634 rfl (lv_at hl 1 rfl) ?_
  refine lv_aload_n C0.hx C0.hb dL_law_1635 rfl (lv_at hl 0 rfl) ?_
  refine lv_iload C0.hx C0.hb dL_law_1636 (lv_at hl 4 rfl) ?_
  refine lv_iconst (v := (1 : Int32)) C0.hx C0.hb dL_law_1638 (by decide) ?_
  refine lv_iadd C0.hx C0.hb dL_law_1639 ?_
  refine va_sld C0.hx C0.hb hX hbl hbA hW.2.2 (hin 1 (by decide)) dL_law_1640 ?_
  refine lv_aload_n C0.hx C0.hb dL_law_1641 rfl (lv_at hl 3 rfl) ?_
  refine g_calli hW (vx_runSW (As := [.ref (g_ad G 0), .int (xs (i + 1).toNatClampNeg), .ref (g_ad G 161)]) (rest := []) C0.call (c_L_passLessons hfl (List.mem_range.mpr (by decide)) h1) (vx_cwSW 3 C0.hts (g_goodS tm_L_212 tz_L_passLessons tn_L tc_L_passLessons) rfl rfl rfl ⟨by decide, by decide, by decide +kernel⟩ ⟨Nat.le_of_ble_eq_true rfl, Nat.le_of_ble_eq_true rfl⟩) ⟨g_blindL, fun U hU hw => ⟨rfl, g_pre C0 hW hU hw, g_NC.to hnc hw.alike⟩⟩ rfl rfl hl.1 rfl (Nat.le_of_ble_eq_true rfl) dL_law_1642 ⟨by simp only [room_1]; omega, by simp only [room_1]; omega⟩) (fun H locs hW => ?_)
  refine lv_istore (lv' := (5, .int k) :: g_LV G b i) C0.hx C0.hb dL_law_1645 hl (by decide) rfl (fun ls hl => ?_)
  have hl : lv_has ls 9 [(5, .int k), (0, .ref b), (1, .ref (g_ad G 0)), (2, .ref (g_ad G 120)), (3, .ref (g_ad G 161)), (4, .int i)] := hl
  refine lv_aload_n C0.hx C0.hb dL_law_1647 rfl (lv_at hl 3 rfl) ?_
  refine lv_aload_n C0.hx C0.hb dL_law_1648 rfl (lv_at hl 1 rfl) ?_
  refine lv_iload C0.hx C0.hb dL_law_1649 (lv_at hl 5 rfl) ?_
  refine lv_iconst (v := (1 : Int32)) C0.hx C0.hb dL_law_1651 (by decide) ?_
  refine lv_iadd C0.hx C0.hb dL_law_1652 ?_
  refine va_sld C0.hx C0.hb hX hbl hbA hW.2.2 (hin 1 (by decide)) dL_law_1653 ?_
  refine g_calli hW (g_runV (As := [.int (xs (i + 1).toNatClampNeg)]) (rest := []) C0 hW (c_X15_passLessons h2) (g_cwL (n := 1) tc_X15_passLessons tn_X15 ⟨by decide, by decide, by decide +kernel⟩ (by decide) (by decide) (by omega) (by omega)) tm_L_214 ti_X15_passLessons ts_X15_passLessons (C0.mem (i := 120) (Nat.le_of_ble_eq_true rfl)) (g_c12 k_120) rfl rfl hl.1 rfl (Nat.le_of_ble_eq_true rfl) dL_law_1654) (fun H locs hW => ?_)
  refine lv_istore (lv' := [(6, .int r), (5, .int k), (0, .ref b), (1, .ref (g_ad G 0)), (2, .ref (g_ad G 120)), (3, .ref (g_ad G 161)), (4, .int i)]) C0.hx C0.hb dL_law_1657 hl (by decide) rfl (fun ls hl => ?_)
  refine lv_aload_n C0.hx C0.hb dL_law_1659 rfl (lv_at hl 4 rfl) ?_
  refine g_calli hW (g_runV (As := []) (rest := []) C0 hW (c_X15_thrown (q := y1 120 0) rfl) (g_cwL (n := 0) tc_X15_thrown tn_X15 ⟨by decide, by decide, by decide +kernel⟩ (by decide) (by decide) (by omega) (by omega)) tm_L_106 ti_X15_thrown ts_X15_thrown (C0.mem (i := 120) (Nat.le_of_ble_eq_true rfl)) (g_c12 k_120) rfl rfl hl.1 rfl (Nat.le_of_ble_eq_true rfl) dL_law_1660) (fun H locs hW => ?_)
  refine lv_iload C0.hx C0.hb dL_law_1663 (lv_at hl 1 rfl) ?_
  refine lv_icmp_eq (tgt := 1670) C0.hx C0.hb dL_law_1665 (by decide) (fun _ => ?_) (fun hc => absurd h3 hc)
  refine lv_iload C0.hx C0.hb dL_law_1670 (lv_at hl 1 rfl) ?_
  refine lv_if_ne (tgt := 1687) C0.hx C0.hb dL_law_1672 (by decide) (fun hc => ?_) (fun hc => ?_)
  · refine lv_goto (tgt := 1913) C0.hx C0.hb dL_law_1687 (by decide) ?_
    refine W.widen (k := cells + 900) (n := slots + 13000) (by omega) (by omega) ?_
    exact K x1 y1 o1 H locs ls h5 hW (lv_sub hl [2, 3, 4, 5, 6] rfl)
  · have hk : k = 0 := hc
    have h0 := h4 hk
    refine lv_aload_n C0.hx C0.hb dL_law_1675 rfl (lv_at hl 5 rfl) ?_
    refine lv_iconst (v := (0 : Int32)) C0.hx C0.hb dL_law_1676 (by decide) ?_
    refine ga_38 C0 hW (List.mem_range.mpr (by decide)) k_161 (by decide) dL_law_1677 ?_
    refine lv_iload C0.hx C0.hb dL_law_1678 (lv_at hl 0 rfl) ?_
    refine lv_i2l (v := r.toInt64) C0.hx C0.hb dL_law_1680 rfl ?_
    refine W.lcmp C0.hx C0.hb dL_law_1681 ?_
    refine lv_if_eq (tgt := 1687) C0.hx C0.hb dL_law_1682 (by decide) (fun hc => ?_) (fun hc => absurd (by show lg_cmp (o1 0).toInt64 r.toInt64 = 0; rw [h0]; exact g_cmp0) hc)
    refine lv_goto (tgt := 1913) C0.hx C0.hb dL_law_1687 (by decide) ?_
    refine W.widen (k := cells + 900) (n := slots + 13000) (by omega) (by omega) ?_
    exact K x1 y1 o1 H locs ls h5 hW (lv_sub hl [2, 3, 4, 5, 6] rfl)
theorem w_L_keptAfter (C0 : g_X G (List.range 162) p s m #[.ref b] meth c cL_law 9 RL ret) (hW : g_W G (List.range 162) (x, y, o) s.heap H locs) (hR : pp_R x y) (hl : lv_has ls 9 (g_LV G b i)) (hcl : cells + 900 ≤ 601024) (hsl : slots + 13000 ≤ 7293034) (hfl : l.stackTraces = false) (hnc : g_NC s) (hX : va_X b L xs s s.heap) (hbl : b < s.heap.size) (hbA : ¬ g_A G b) (hin : ∀ j : Nat, j ≤ 5 → vp_in (i + nI j) L) (K : ∀ (x' : CS) (y' : MS) (o' : Nat → Int32) (H' : Heap) (locs' : List Loc) (ls' : Array Slot), pp_R x' y' → g_W G (List.range 162) (x', y', o') s.heap H' locs' → lv_has ls' 9 (g_LV G b i) → W p l e room_1 s m #[.ref b] below meth c H' locs' (cells + 900) (slots + 13000) Q (F0 m 1913 ls' [])) : W p l e room_1 s m #[.ref b] below meth c H locs cells slots Q (F0 m 1690 ls []) := by
  obtain ⟨k, x1, o1, r, y1, h1, h2, h3, h4, h5⟩ := pp_o32 (p := xs (i + 1).toNatClampNeg) (o := o) hR
  refine lv_aload_n C0.hx C0.hb dL_law_1690 rfl (lv_at hl 1 rfl) ?_
  refine lv_aload_n C0.hx C0.hb dL_law_1691 rfl (lv_at hl 0 rfl) ?_
  refine lv_iload C0.hx C0.hb dL_law_1692 (lv_at hl 4 rfl) ?_
  refine lv_iconst (v := (1 : Int32)) C0.hx C0.hb dL_law_1694 (by decide) ?_
  refine lv_iadd C0.hx C0.hb dL_law_1695 ?_
  refine va_sld C0.hx C0.hb hX hbl hbA hW.2.2 (hin 1 (by decide)) dL_law_1696 ?_
  refine lv_aload_n C0.hx C0.hb dL_law_1697 rfl (lv_at hl 3 rfl) ?_
  refine g_calli hW (vx_runSW (As := [.ref (g_ad G 0), .int (xs (i + 1).toNatClampNeg), .ref (g_ad G 161)]) (rest := []) C0.call (c_L_keptAfter hfl (List.mem_range.mpr (by decide)) h1) (vx_cwSW 3 C0.hts (g_goodS tm_L_215 tz_L_keptAfter tn_L tc_L_keptAfter) rfl rfl rfl ⟨by decide, by decide, by decide +kernel⟩ ⟨Nat.le_of_ble_eq_true rfl, Nat.le_of_ble_eq_true rfl⟩) ⟨g_blindL, fun U hU hw => ⟨rfl, g_pre C0 hW hU hw, g_NC.to hnc hw.alike⟩⟩ rfl rfl hl.1 rfl (Nat.le_of_ble_eq_true rfl) dL_law_1698 ⟨by simp only [room_1]; omega, by simp only [room_1]; omega⟩) (fun H locs hW => ?_)
  refine lv_istore (lv' := (5, .int k) :: g_LV G b i) C0.hx C0.hb dL_law_1701 hl (by decide) rfl (fun ls hl => ?_)
  have hl : lv_has ls 9 [(5, .int k), (0, .ref b), (1, .ref (g_ad G 0)), (2, .ref (g_ad G 120)), (3, .ref (g_ad G 161)), (4, .int i)] := hl
  refine lv_aload_n C0.hx C0.hb dL_law_1703 rfl (lv_at hl 3 rfl) ?_
  refine lv_aload_n C0.hx C0.hb dL_law_1704 rfl (lv_at hl 1 rfl) ?_
  refine lv_iload C0.hx C0.hb dL_law_1705 (lv_at hl 5 rfl) ?_
  refine lv_iconst (v := (1 : Int32)) C0.hx C0.hb dL_law_1707 (by decide) ?_
  refine lv_iadd C0.hx C0.hb dL_law_1708 ?_
  refine va_sld C0.hx C0.hb hX hbl hbA hW.2.2 (hin 1 (by decide)) dL_law_1709 ?_
  refine g_calli hW (g_runV (As := [.int (xs (i + 1).toNatClampNeg)]) (rest := []) C0 hW (c_X15_keptAfter h2) (g_cwL (n := 1) tc_X15_keptAfter tn_X15 ⟨by decide, by decide, by decide +kernel⟩ (by decide) (by decide) (by omega) (by omega)) tm_L_217 ti_X15_keptAfter ts_X15_keptAfter (C0.mem (i := 120) (Nat.le_of_ble_eq_true rfl)) (g_c12 k_120) rfl rfl hl.1 rfl (Nat.le_of_ble_eq_true rfl) dL_law_1710) (fun H locs hW => ?_)
  refine lv_istore (lv' := [(6, .int r), (5, .int k), (0, .ref b), (1, .ref (g_ad G 0)), (2, .ref (g_ad G 120)), (3, .ref (g_ad G 161)), (4, .int i)]) C0.hx C0.hb dL_law_1713 hl (by decide) rfl (fun ls hl => ?_)
  refine lv_aload_n C0.hx C0.hb dL_law_1715 rfl (lv_at hl 4 rfl) ?_
  refine g_calli hW (g_runV (As := []) (rest := []) C0 hW (c_X15_thrown (q := y1 120 0) rfl) (g_cwL (n := 0) tc_X15_thrown tn_X15 ⟨by decide, by decide, by decide +kernel⟩ (by decide) (by decide) (by omega) (by omega)) tm_L_106 ti_X15_thrown ts_X15_thrown (C0.mem (i := 120) (Nat.le_of_ble_eq_true rfl)) (g_c12 k_120) rfl rfl hl.1 rfl (Nat.le_of_ble_eq_true rfl) dL_law_1716) (fun H locs hW => ?_)
  refine lv_iload C0.hx C0.hb dL_law_1719 (lv_at hl 1 rfl) ?_
  refine lv_icmp_eq (tgt := 1726) C0.hx C0.hb dL_law_1721 (by decide) (fun _ => ?_) (fun hc => absurd h3 hc)
  refine lv_iload C0.hx C0.hb dL_law_1726 (lv_at hl 1 rfl) ?_
  refine lv_if_ne (tgt := 1743) C0.hx C0.hb dL_law_1728 (by decide) (fun hc => ?_) (fun hc => ?_)
  · refine lv_goto (tgt := 1913) C0.hx C0.hb dL_law_1743 (by decide) ?_
    refine W.widen (k := cells + 900) (n := slots + 13000) (by omega) (by omega) ?_
    exact K x1 y1 o1 H locs ls h5 hW (lv_sub hl [2, 3, 4, 5, 6] rfl)
  · have hk : k = 0 := hc
    have h0 := h4 hk
    refine lv_aload_n C0.hx C0.hb dL_law_1731 rfl (lv_at hl 5 rfl) ?_
    refine lv_iconst (v := (0 : Int32)) C0.hx C0.hb dL_law_1732 (by decide) ?_
    refine ga_38 C0 hW (List.mem_range.mpr (by decide)) k_161 (by decide) dL_law_1733 ?_
    refine lv_iload C0.hx C0.hb dL_law_1734 (lv_at hl 0 rfl) ?_
    refine lv_i2l (v := r.toInt64) C0.hx C0.hb dL_law_1736 rfl ?_
    refine W.lcmp C0.hx C0.hb dL_law_1737 ?_
    refine lv_if_eq (tgt := 1743) C0.hx C0.hb dL_law_1738 (by decide) (fun hc => ?_) (fun hc => absurd (by show lg_cmp (o1 0).toInt64 r.toInt64 = 0; rw [h0]; exact g_cmp0) hc)
    refine lv_goto (tgt := 1913) C0.hx C0.hb dL_law_1743 (by decide) ?_
    refine W.widen (k := cells + 900) (n := slots + 13000) (by omega) (by omega) ?_
    exact K x1 y1 o1 H locs ls h5 hW (lv_sub hl [2, 3, 4, 5, 6] rfl)
theorem w_L_lessonsUntilMeant (C0 : g_X G (List.range 162) p s m #[.ref b] meth c cL_law 9 RL ret) (hW : g_W G (List.range 162) (x, y, o) s.heap H locs) (hR : pp_R x y) (hl : lv_has ls 9 (g_LV G b i)) (hcl : cells + 900 ≤ 601024) (hsl : slots + 13000 ≤ 7293034) (hfl : l.stackTraces = false) (hnc : g_NC s) (hX : va_X b L xs s s.heap) (hbl : b < s.heap.size) (hbA : ¬ g_A G b) (hin : ∀ j : Nat, j ≤ 5 → vp_in (i + nI j) L) (K : ∀ (x' : CS) (y' : MS) (o' : Nat → Int32) (H' : Heap) (locs' : List Loc) (ls' : Array Slot), pp_R x' y' → g_W G (List.range 162) (x', y', o') s.heap H' locs' → lv_has ls' 9 (g_LV G b i) → W p l e room_1 s m #[.ref b] below meth c H' locs' (cells + 900) (slots + 13000) Q (F0 m 1913 ls' [])) : W p l e room_1 s m #[.ref b] below meth c H locs cells slots Q (F0 m 1746 ls []) := by
  obtain ⟨k, x1, o1, r, y1, h1, h2, h3, h4, h5⟩ := pp_o33 (p := xs (i + 1).toNatClampNeg) (o := o) hR
  refine lv_aload_n C0.hx C0.hb dL_law_1746 rfl (lv_at hl 1 rfl) ?_
  refine lv_aload_n C0.hx C0.hb dL_law_1747 rfl (lv_at hl 0 rfl) ?_
  refine lv_iload C0.hx C0.hb dL_law_1748 (lv_at hl 4 rfl) ?_
  refine lv_iconst (v := (1 : Int32)) C0.hx C0.hb dL_law_1750 (by decide) ?_
  refine lv_iadd C0.hx C0.hb dL_law_1751 ?_
  refine va_sld C0.hx C0.hb hX hbl hbA hW.2.2 (hin 1 (by decide)) dL_law_1752 ?_
  refine lv_aload_n C0.hx C0.hb dL_law_1753 rfl (lv_at hl 3 rfl) ?_
  refine g_calli hW (vx_runSW (As := [.ref (g_ad G 0), .int (xs (i + 1).toNatClampNeg), .ref (g_ad G 161)]) (rest := []) C0.call (c_L_lessonsUntilMeant hfl (List.mem_range.mpr (by decide)) h1) (vx_cwSW 3 C0.hts (g_goodS tm_L_218 tz_L_lessonsUntilMeant tn_L tc_L_lessonsUntilMeant) rfl rfl rfl ⟨by decide, by decide, by decide +kernel⟩ ⟨Nat.le_of_ble_eq_true rfl, Nat.le_of_ble_eq_true rfl⟩) ⟨g_blindL, fun U hU hw => ⟨rfl, g_pre C0 hW hU hw, g_NC.to hnc hw.alike⟩⟩ rfl rfl hl.1 rfl (Nat.le_of_ble_eq_true rfl) dL_law_1754 ⟨by simp only [room_1]; omega, by simp only [room_1]; omega⟩) (fun H locs hW => ?_)
  refine lv_istore (lv' := (5, .int k) :: g_LV G b i) C0.hx C0.hb dL_law_1757 hl (by decide) rfl (fun ls hl => ?_)
  have hl : lv_has ls 9 [(5, .int k), (0, .ref b), (1, .ref (g_ad G 0)), (2, .ref (g_ad G 120)), (3, .ref (g_ad G 161)), (4, .int i)] := hl
  refine lv_aload_n C0.hx C0.hb dL_law_1759 rfl (lv_at hl 3 rfl) ?_
  refine lv_aload_n C0.hx C0.hb dL_law_1760 rfl (lv_at hl 1 rfl) ?_
  refine lv_iload C0.hx C0.hb dL_law_1761 (lv_at hl 5 rfl) ?_
  refine lv_iconst (v := (1 : Int32)) C0.hx C0.hb dL_law_1763 (by decide) ?_
  refine lv_iadd C0.hx C0.hb dL_law_1764 ?_
  refine va_sld C0.hx C0.hb hX hbl hbA hW.2.2 (hin 1 (by decide)) dL_law_1765 ?_
  refine g_calli hW (g_runV (As := [.int (xs (i + 1).toNatClampNeg)]) (rest := []) C0 hW (c_X15_lessonsUntilMeant h2) (g_cwL (n := 1) tc_X15_lessonsUntilMeant tn_X15 ⟨by decide, by decide, by decide +kernel⟩ (by decide) (by decide) (by omega) (by omega)) tm_L_220 ti_X15_lessonsUntilMeant ts_X15_lessonsUntilMeant (C0.mem (i := 120) (Nat.le_of_ble_eq_true rfl)) (g_c12 k_120) rfl rfl hl.1 rfl (Nat.le_of_ble_eq_true rfl) dL_law_1766) (fun H locs hW => ?_)
  refine lv_istore (lv' := [(6, .int r), (5, .int k), (0, .ref b), (1, .ref (g_ad G 0)), (2, .ref (g_ad G 120)), (3, .ref (g_ad G 161)), (4, .int i)]) C0.hx C0.hb dL_law_1769 hl (by decide) rfl (fun ls hl => ?_)
  refine lv_aload_n C0.hx C0.hb dL_law_1771 rfl (lv_at hl 4 rfl) ?_
  refine g_calli hW (g_runV (As := []) (rest := []) C0 hW (c_X15_thrown (q := y1 120 0) rfl) (g_cwL (n := 0) tc_X15_thrown tn_X15 ⟨by decide, by decide, by decide +kernel⟩ (by decide) (by decide) (by omega) (by omega)) tm_L_106 ti_X15_thrown ts_X15_thrown (C0.mem (i := 120) (Nat.le_of_ble_eq_true rfl)) (g_c12 k_120) rfl rfl hl.1 rfl (Nat.le_of_ble_eq_true rfl) dL_law_1772) (fun H locs hW => ?_)
  refine lv_iload C0.hx C0.hb dL_law_1775 (lv_at hl 1 rfl) ?_
  refine lv_icmp_eq (tgt := 1782) C0.hx C0.hb dL_law_1777 (by decide) (fun _ => ?_) (fun hc => absurd h3 hc)
  refine lv_iload C0.hx C0.hb dL_law_1782 (lv_at hl 1 rfl) ?_
  refine lv_if_ne (tgt := 1799) C0.hx C0.hb dL_law_1784 (by decide) (fun hc => ?_) (fun hc => ?_)
  · refine lv_goto (tgt := 1913) C0.hx C0.hb dL_law_1799 (by decide) ?_
    refine W.widen (k := cells + 900) (n := slots + 13000) (by omega) (by omega) ?_
    exact K x1 y1 o1 H locs ls h5 hW (lv_sub hl [2, 3, 4, 5, 6] rfl)
  · have hk : k = 0 := hc
    have h0 := h4 hk
    refine lv_aload_n C0.hx C0.hb dL_law_1787 rfl (lv_at hl 5 rfl) ?_
    refine lv_iconst (v := (0 : Int32)) C0.hx C0.hb dL_law_1788 (by decide) ?_
    refine ga_38 C0 hW (List.mem_range.mpr (by decide)) k_161 (by decide) dL_law_1789 ?_
    refine lv_iload C0.hx C0.hb dL_law_1790 (lv_at hl 0 rfl) ?_
    refine lv_i2l (v := r.toInt64) C0.hx C0.hb dL_law_1792 rfl ?_
    refine W.lcmp C0.hx C0.hb dL_law_1793 ?_
    refine lv_if_eq (tgt := 1799) C0.hx C0.hb dL_law_1794 (by decide) (fun hc => ?_) (fun hc => absurd (by show lg_cmp (o1 0).toInt64 r.toInt64 = 0; rw [h0]; exact g_cmp0) hc)
    refine lv_goto (tgt := 1913) C0.hx C0.hb dL_law_1799 (by decide) ?_
    refine W.widen (k := cells + 900) (n := slots + 13000) (by omega) (by omega) ?_
    exact K x1 y1 o1 H locs ls h5 hW (lv_sub hl [2, 3, 4, 5, 6] rfl)
theorem w_L_bestShift (C0 : g_X G (List.range 162) p s m #[.ref b] meth c cL_law 9 RL ret) (hW : g_W G (List.range 162) (x, y, o) s.heap H locs) (hR : pp_R x y) (hl : lv_has ls 9 (g_LV G b i)) (hcl : cells + 900 ≤ 601024) (hsl : slots + 13000 ≤ 7293034) (hfl : l.stackTraces = false) (hnc : g_NC s) (hX : va_X b L xs s s.heap) (hbl : b < s.heap.size) (hbA : ¬ g_A G b) (hin : ∀ j : Nat, j ≤ 5 → vp_in (i + nI j) L) (K : ∀ (x' : CS) (y' : MS) (o' : Nat → Int32) (H' : Heap) (locs' : List Loc) (ls' : Array Slot), pp_R x' y' → g_W G (List.range 162) (x', y', o') s.heap H' locs' → lv_has ls' 9 (g_LV G b i) → W p l e room_1 s m #[.ref b] below meth c H' locs' (cells + 900) (slots + 13000) Q (F0 m 1913 ls' [])) : W p l e room_1 s m #[.ref b] below meth c H locs cells slots Q (F0 m 1802 ls []) := by
  obtain ⟨k, x1, o1, r, y1, h1, h2, h3, h4, h5⟩ := pp_o34 (p := xs (i + 1).toNatClampNeg) (o := o) hR
  refine lv_aload_n C0.hx C0.hb dL_law_1802 rfl (lv_at hl 1 rfl) ?_
  refine lv_aload_n C0.hx C0.hb dL_law_1803 rfl (lv_at hl 0 rfl) ?_
  refine lv_iload C0.hx C0.hb dL_law_1804 (lv_at hl 4 rfl) ?_
  refine lv_iconst (v := (1 : Int32)) C0.hx C0.hb dL_law_1806 (by decide) ?_
  refine lv_iadd C0.hx C0.hb dL_law_1807 ?_
  refine va_sld C0.hx C0.hb hX hbl hbA hW.2.2 (hin 1 (by decide)) dL_law_1808 ?_
  refine lv_aload_n C0.hx C0.hb dL_law_1809 rfl (lv_at hl 3 rfl) ?_
  refine g_calli hW (vx_runSW (As := [.ref (g_ad G 0), .int (xs (i + 1).toNatClampNeg), .ref (g_ad G 161)]) (rest := []) C0.call (c_L_bestShift hfl (List.mem_range.mpr (by decide)) h1) (vx_cwSW 3 C0.hts (g_goodS tm_L_221 tz_L_bestShift tn_L tc_L_bestShift) rfl rfl rfl ⟨by decide, by decide, by decide +kernel⟩ ⟨Nat.le_of_ble_eq_true rfl, Nat.le_of_ble_eq_true rfl⟩) ⟨g_blindL, fun U hU hw => ⟨rfl, g_pre C0 hW hU hw, g_NC.to hnc hw.alike⟩⟩ rfl rfl hl.1 rfl (Nat.le_of_ble_eq_true rfl) dL_law_1810 ⟨by simp only [room_1]; omega, by simp only [room_1]; omega⟩) (fun H locs hW => ?_)
  refine lv_istore (lv' := (5, .int k) :: g_LV G b i) C0.hx C0.hb dL_law_1813 hl (by decide) rfl (fun ls hl => ?_)
  have hl : lv_has ls 9 [(5, .int k), (0, .ref b), (1, .ref (g_ad G 0)), (2, .ref (g_ad G 120)), (3, .ref (g_ad G 161)), (4, .int i)] := hl
  refine lv_aload_n C0.hx C0.hb dL_law_1815 rfl (lv_at hl 3 rfl) ?_
  refine lv_aload_n C0.hx C0.hb dL_law_1816 rfl (lv_at hl 1 rfl) ?_
  refine lv_iload C0.hx C0.hb dL_law_1817 (lv_at hl 5 rfl) ?_
  refine lv_iconst (v := (1 : Int32)) C0.hx C0.hb dL_law_1819 (by decide) ?_
  refine lv_iadd C0.hx C0.hb dL_law_1820 ?_
  refine va_sld C0.hx C0.hb hX hbl hbA hW.2.2 (hin 1 (by decide)) dL_law_1821 ?_
  refine g_calli hW (g_runV (As := [.int (xs (i + 1).toNatClampNeg)]) (rest := []) C0 hW (c_X15_bestShift h2) (g_cwL (n := 1) tc_X15_bestShift tn_X15 ⟨by decide, by decide, by decide +kernel⟩ (by decide) (by decide) (by omega) (by omega)) tm_L_223 ti_X15_bestShift ts_X15_bestShift (C0.mem (i := 120) (Nat.le_of_ble_eq_true rfl)) (g_c12 k_120) rfl rfl hl.1 rfl (Nat.le_of_ble_eq_true rfl) dL_law_1822) (fun H locs hW => ?_)
  refine lv_istore (lv' := [(6, .int r), (5, .int k), (0, .ref b), (1, .ref (g_ad G 0)), (2, .ref (g_ad G 120)), (3, .ref (g_ad G 161)), (4, .int i)]) C0.hx C0.hb dL_law_1825 hl (by decide) rfl (fun ls hl => ?_)
  refine lv_aload_n C0.hx C0.hb dL_law_1827 rfl (lv_at hl 4 rfl) ?_
  refine g_calli hW (g_runV (As := []) (rest := []) C0 hW (c_X15_thrown (q := y1 120 0) rfl) (g_cwL (n := 0) tc_X15_thrown tn_X15 ⟨by decide, by decide, by decide +kernel⟩ (by decide) (by decide) (by omega) (by omega)) tm_L_106 ti_X15_thrown ts_X15_thrown (C0.mem (i := 120) (Nat.le_of_ble_eq_true rfl)) (g_c12 k_120) rfl rfl hl.1 rfl (Nat.le_of_ble_eq_true rfl) dL_law_1828) (fun H locs hW => ?_)
  refine lv_iload C0.hx C0.hb dL_law_1831 (lv_at hl 1 rfl) ?_
  refine lv_icmp_eq (tgt := 1838) C0.hx C0.hb dL_law_1833 (by decide) (fun _ => ?_) (fun hc => absurd h3 hc)
  refine lv_iload C0.hx C0.hb dL_law_1838 (lv_at hl 1 rfl) ?_
  refine lv_if_ne (tgt := 1855) C0.hx C0.hb dL_law_1840 (by decide) (fun hc => ?_) (fun hc => ?_)
  · refine lv_goto (tgt := 1913) C0.hx C0.hb dL_law_1855 (by decide) ?_
    refine W.widen (k := cells + 900) (n := slots + 13000) (by omega) (by omega) ?_
    exact K x1 y1 o1 H locs ls h5 hW (lv_sub hl [2, 3, 4, 5, 6] rfl)
  · have hk : k = 0 := hc
    have h0 := h4 hk
    refine lv_aload_n C0.hx C0.hb dL_law_1843 rfl (lv_at hl 5 rfl) ?_
    refine lv_iconst (v := (0 : Int32)) C0.hx C0.hb dL_law_1844 (by decide) ?_
    refine ga_38 C0 hW (List.mem_range.mpr (by decide)) k_161 (by decide) dL_law_1845 ?_
    refine lv_iload C0.hx C0.hb dL_law_1846 (lv_at hl 0 rfl) ?_
    refine lv_i2l (v := r.toInt64) C0.hx C0.hb dL_law_1848 rfl ?_
    refine W.lcmp C0.hx C0.hb dL_law_1849 ?_
    refine lv_if_eq (tgt := 1855) C0.hx C0.hb dL_law_1850 (by decide) (fun hc => ?_) (fun hc => absurd (by show lg_cmp (o1 0).toInt64 r.toInt64 = 0; rw [h0]; exact g_cmp0) hc)
    refine lv_goto (tgt := 1913) C0.hx C0.hb dL_law_1855 (by decide) ?_
    refine W.widen (k := cells + 900) (n := slots + 13000) (by omega) (by omega) ?_
    exact K x1 y1 o1 H locs ls h5 hW (lv_sub hl [2, 3, 4, 5, 6] rfl)
end GLW
