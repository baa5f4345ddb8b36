/-! the law's cases with an exception: numbers -/
section GLW
variable {p : Program} {l : Launch} {e : Env} {s : State} {m : MethodId} {below : List Frame} {meth : Method} {c : Code} {H : Heap} {locs : List Loc} {cells slots : Nat} {Q : State → Prop} {G : GL} {b L : Nat} {xs : Nat → Int32} {x : CS} {y : MS} {o : Nat → Int32} {ls : Array Slot} {i : Int32}
theorem w_L_trim (C0 : g_X G (List.range 162) p s m #[.ref b] meth c cL_law 9 RL ret) (hW : g_W G (List.range 162) (x, y, o) s.heap H locs) (hR : pp_R x y) (hl : lv_has ls 9 (g_LV G b i)) (hcl : cells + 900 ≤ 601024) (hsl : slots + 13000 ≤ 7293034) (hfl : l.stackTraces = false) (hnc : g_NC s) (hX : va_X b L xs s s.heap) (hbl : b < s.heap.size) (hbA : ¬ g_A G b) (hin : ∀ j : Nat, j ≤ 5 → vp_in (i + nI j) L) (K : ∀ (x' : CS) (y' : MS) (o' : Nat → Int32) (H' : Heap) (locs' : List Loc) (ls' : Array Slot), pp_R x' y' → g_W G (List.range 162) (x', y', o') s.heap H' locs' → lv_has ls' 9 (g_LV G b i) → W p l e room_1 s m #[.ref b] below meth c H' locs' (cells + 900) (slots + 13000) Q (F0 m 1913 ls' [])) : W p l e room_1 s m #[.ref b] below meth c H locs cells slots Q (F0 m 308 ls []) := by
  obtain ⟨k, x1, o1, r, y1, h1, h2, h3, h4, h5⟩ := pp_o1 (p := xs (i + 1).toNatClampNeg) (o := o) hR
  refine lv_aload_n C0.hx C0.hb dL_law_308 rfl (lv_at hl 1 rfl) ?_
  refine lv_aload_n C0.hx C0.hb dL_law_309 rfl (lv_at hl 0 rfl) ?_
  refine lv_iload C0.hx C0.hb dL_law_310 (lv_at hl 4 rfl) ?_
  refine lv_iconst (v := (1 : Int32)) C0.hx C0.hb dL_law_312 (by decide) ?_
  refine lv_iadd C0.hx C0.hb dL_law_313 ?_
  refine va_sld C0.hx C0.hb hX hbl hbA hW.2.2 (hin 1 (by decide)) dL_law_314 ?_
  refine lv_aload_n C0.hx C0.hb dL_law_315 rfl (lv_at hl 3 rfl) ?_
  refine g_calli hW (vx_runSW (As := [.ref (g_ad G 0), .int (xs (i + 1).toNatClampNeg), .ref (g_ad G 161)]) (rest := []) C0.call (c_L_trim hfl (List.mem_range.mpr (by decide)) h1) (vx_cwSW 3 C0.hts (g_goodS tm_L_109 tz_L_trim tn_L tc_L_trim) rfl rfl rfl ⟨by decide, by decide, by decide +kernel⟩ ⟨Nat.le_of_ble_eq_true rfl, Nat.le_of_ble_eq_true rfl⟩) ⟨g_blindL, fun U hU hw => ⟨rfl, g_pre C0 hW hU hw, g_NC.to hnc hw.alike⟩⟩ rfl rfl hl.1 rfl (Nat.le_of_ble_eq_true rfl) dL_law_316 ⟨by simp only [room_1]; omega, by simp only [room_1]; omega⟩) (fun H locs hW => ?_)
  refine lv_istore (lv' := (5, .int k) :: g_LV G b i) C0.hx C0.hb dL_law_319 hl (by decide) rfl (fun ls hl => ?_)
  have hl : lv_has ls 9 [(5, .int k), (0, .ref b), (1, .ref (g_ad G 0)), (2, .ref (g_ad G 120)), (3, .ref (g_ad G 161)), (4, .int i)] := hl
  refine lv_aload_n C0.hx C0.hb dL_law_321 rfl (lv_at hl 3 rfl) ?_
  refine lv_aload_n C0.hx C0.hb dL_law_322 rfl (lv_at hl 1 rfl) ?_
  refine lv_iload C0.hx C0.hb dL_law_323 (lv_at hl 5 rfl) ?_
  refine lv_iconst (v := (1 : Int32)) C0.hx C0.hb dL_law_325 (by decide) ?_
  refine lv_iadd C0.hx C0.hb dL_law_326 ?_
  refine va_sld C0.hx C0.hb hX hbl hbA hW.2.2 (hin 1 (by decide)) dL_law_327 ?_
  refine g_calli hW (g_runV (As := [.int (xs (i + 1).toNatClampNeg)]) (rest := []) C0 hW (c_X15_trim h2) (g_cwL (n := 1) tc_X15_trim tn_X15 ⟨by decide, by decide, by decide +kernel⟩ (by decide) (by decide) (by omega) (by omega)) tm_L_112 ti_X15_trim ts_X15_trim (C0.mem (i := 120) (Nat.le_of_ble_eq_true rfl)) (g_c12 k_120) rfl rfl hl.1 rfl (Nat.le_of_ble_eq_true rfl) dL_law_328) (fun H locs hW => ?_)
  refine lv_istore (lv' := [(6, .int r), (5, .int k), (0, .ref b), (1, .ref (g_ad G 0)), (2, .ref (g_ad G 120)), (3, .ref (g_ad G 161)), (4, .int i)]) C0.hx C0.hb dL_law_331 hl (by decide) rfl (fun ls hl => ?_)
  refine lv_aload_n C0.hx C0.hb dL_law_333 rfl (lv_at hl 4 rfl) ?_
  refine g_calli hW (g_runV (As := []) (rest := []) C0 hW (c_X15_thrown (q := y1 120 0) rfl) (g_cwL (n := 0) tc_X15_thrown tn_X15 ⟨by decide, by decide, by decide +kernel⟩ (by decide) (by decide) (by omega) (by omega)) tm_L_106 ti_X15_thrown ts_X15_thrown (C0.mem (i := 120) (Nat.le_of_ble_eq_true rfl)) (g_c12 k_120) rfl rfl hl.1 rfl (Nat.le_of_ble_eq_true rfl) dL_law_334) (fun H locs hW => ?_)
  refine lv_iload C0.hx C0.hb dL_law_337 (lv_at hl 1 rfl) ?_
  refine lv_icmp_eq (tgt := 344) C0.hx C0.hb dL_law_339 (by decide) (fun _ => ?_) (fun hc => absurd h3 hc)
  refine lv_iload C0.hx C0.hb dL_law_344 (lv_at hl 1 rfl) ?_
  refine lv_if_ne (tgt := 361) C0.hx C0.hb dL_law_346 (by decide) (fun hc => ?_) (fun hc => ?_)
  · refine lv_goto (tgt := 1913) C0.hx C0.hb dL_law_361 (by decide) ?_
    refine W.widen (k := cells + 900) (n := slots + 13000) (by omega) (by omega) ?_
    exact K x1 y1 o1 H locs ls h5 hW (lv_sub hl [2, 3, 4, 5, 6] rfl)
  · have hk : k = 0 := hc
    have h0 := h4 hk
    refine lv_aload_n C0.hx C0.hb dL_law_349 rfl (lv_at hl 5 rfl) ?_
    refine lv_iconst (v := (0 : Int32)) C0.hx C0.hb dL_law_350 (by decide) ?_
    refine ga_38 C0 hW (List.mem_range.mpr (by decide)) k_161 (by decide) dL_law_351 ?_
    refine lv_iload C0.hx C0.hb dL_law_352 (lv_at hl 0 rfl) ?_
    refine lv_i2l (v := r.toInt64) C0.hx C0.hb dL_law_354 rfl ?_
    refine W.lcmp C0.hx C0.hb dL_law_355 ?_
    refine lv_if_eq (tgt := 361) C0.hx C0.hb dL_law_356 (by decide) (fun hc => ?_) (fun hc => absurd (by show lg_cmp (o1 0).toInt64 r.toInt64 = 0; rw [h0]; exact g_cmp0) hc)
    refine lv_goto (tgt := 1913) C0.hx C0.hb dL_law_361 (by decide) ?_
    refine W.widen (k := cells + 900) (n := slots + 13000) (by omega) (by omega) ?_
    exact K x1 y1 o1 H locs ls h5 hW (lv_sub hl [2, 3, 4, 5, 6] rfl)
theorem w_L_lengthOf (C0 : g_X G (List.range 162) p s m #[.ref b] meth c cL_law 9 RL ret) (hW : g_W G (List.range 162) (x, y, o) s.heap H locs) (hR : pp_R x y) (hl : lv_has ls 9 (g_LV G b i)) (hcl : cells + 900 ≤ 601024) (hsl : slots + 13000 ≤ 7293034) (hfl : l.stackTraces = false) (hnc : g_NC s) (hX : va_X b L xs s s.heap) (hbl : b < s.heap.size) (hbA : ¬ g_A G b) (hin : ∀ j : Nat, j ≤ 5 → vp_in (i + nI j) L) (K : ∀ (x' : CS) (y' : MS) (o' : Nat → Int32) (H' : Heap) (locs' : List Loc) (ls' : Array Slot), pp_R x' y' → g_W G (List.range 162) (x', y', o') s.heap H' locs' → lv_has ls' 9 (g_LV G b i) → W p l e room_1 s m #[.ref b] below meth c H' locs' (cells + 900) (slots + 13000) Q (F0 m 1913 ls' [])) : W p l e room_1 s m #[.ref b] below meth c H locs cells slots Q (F0 m 468 ls []) := by
  obtain ⟨k, x1, o1, r, y1, h1, h2, h3, h4, h5⟩ := pp_o10 (p := xs (i + 1).toNatClampNeg) (o := o) hR
  refine lv_aload_n C0.hx C0.hb dL_law_468 rfl (lv_at hl 1 rfl) ?_
  refine lv_aload_n C0.hx C0.hb dL_law_469 rfl (lv_at hl 0 rfl) ?_
  refine lv_iload C0.hx C0.hb dL_law_470 (lv_at hl 4 rfl) ?_
  refine lv_iconst (v := (1 : Int32)) C0.hx C0.hb dL_law_472 (by decide) ?_
  refine lv_iadd C0.hx C0.hb dL_law_473 ?_
  refine va_sld C0.hx C0.hb hX hbl hbA hW.2.2 (hin 1 (by decide)) dL_law_474 ?_
  refine lv_aload_n C0.hx C0.hb dL_law_475 rfl (lv_at hl 3 rfl) ?_
  refine g_calli hW (vx_runSW (As := [.ref (g_ad G 0), .int (xs (i + 1).toNatClampNeg), .ref (g_ad G 161)]) (rest := []) C0.call (c_L_lengthOf hfl (List.mem_range.mpr (by decide)) h1) (vx_cwSW 3 C0.hts (g_goodS tm_L_145 tz_L_lengthOf tn_L tc_L_lengthOf) rfl rfl rfl ⟨by decide, by decide, by decide +kernel⟩ ⟨Nat.le_of_ble_eq_true rfl, Nat.le_of_ble_eq_true rfl⟩) ⟨g_blindL, fun U hU hw => ⟨rfl, g_pre C0 hW hU hw, g_NC.to hnc hw.alike⟩⟩ rfl rfl hl.1 rfl (Nat.le_of_ble_eq_true rfl) dL_law_476 ⟨by simp only [room_1]; omega, by simp only [room_1]; omega⟩) (fun H locs hW => ?_)
  refine lv_istore (lv' := (5, .int k) :: g_LV G b i) C0.hx C0.hb dL_law_479 hl (by decide) rfl (fun ls hl => ?_)
  have hl : lv_has ls 9 [(5, .int k), (0, .ref b), (1, .ref (g_ad G 0)), (2, .ref (g_ad G 120)), (3, .ref (g_ad G 161)), (4, .int i)] := hl
  refine lv_aload_n C0.hx C0.hb dL_law_481 rfl (lv_at hl 3 rfl) ?_
  refine lv_aload_n C0.hx C0.hb dL_law_482 rfl (lv_at hl 1 rfl) ?_
  refine lv_iload C0.hx C0.hb dL_law_483 (lv_at hl 5 rfl) ?_
  refine lv_iconst (v := (1 : Int32)) C0.hx C0.hb dL_law_485 (by decide) ?_
  refine lv_iadd C0.hx C0.hb dL_law_486 ?_
  refine va_sld C0.hx C0.hb hX hbl hbA hW.2.2 (hin 1 (by decide)) dL_law_487 ?_
  refine g_calli hW (g_runV (As := [.int (xs (i + 1).toNatClampNeg)]) (rest := []) C0 hW (c_X15_lengthOf h2) (g_cwL (n := 1) tc_X15_lengthOf tn_X15 ⟨by decide, by decide, by decide +kernel⟩ (by decide) (by decide) (by omega) (by omega)) tm_L_147 ti_X15_lengthOf ts_X15_lengthOf (C0.mem (i := 120) (Nat.le_of_ble_eq_true rfl)) (g_c12 k_120) rfl rfl hl.1 rfl (Nat.le_of_ble_eq_true rfl) dL_law_488) (fun H locs hW => ?_)
  refine lv_istore (lv' := [(6, .int r), (5, .int k), (0, .ref b), (1, .ref (g_ad G 0)), (2, .ref (g_ad G 120)), (3, .ref (g_ad G 161)), (4, .int i)]) C0.hx C0.hb dL_law_491 hl (by decide) rfl (fun ls hl => ?_)
  refine lv_aload_n C0.hx C0.hb dL_law_493 rfl (lv_at hl 4 rfl) ?_
  refine g_calli hW (g_runV (As := []) (rest := []) C0 hW (c_X15_thrown (q := y1 120 0) rfl) (g_cwL (n := 0) tc_X15_thrown tn_X15 ⟨by decide, by decide, by decide +kernel⟩ (by decide) (by decide) (by omega) (by omega)) tm_L_106 ti_X15_thrown ts_X15_thrown (C0.mem (i := 120) (Nat.le_of_ble_eq_true rfl)) (g_c12 k_120) rfl rfl hl.1 rfl (Nat.le_of_ble_eq_true rfl) dL_law_494) (fun H locs hW => ?_)
  refine lv_iload C0.hx C0.hb dL_law_497 (lv_at hl 1 rfl) ?_
  refine lv_icmp_eq (tgt := 504) C0.hx C0.hb dL_law_499 (by decide) (fun _ => ?_) (fun hc => absurd h3 hc)
  refine lv_iload C0.hx C0.hb dL_law_504 (lv_at hl 1 rfl) ?_
  refine lv_if_ne (tgt := 521) C0.hx C0.hb dL_law_506 (by decide) (fun hc => ?_) (fun hc => ?_)
  · refine lv_goto (tgt := 1913) C0.hx C0.hb dL_law_521 (by decide) ?_
    refine W.widen (k := cells + 900) (n := slots + 13000) (by omega) (by omega) ?_
    exact K x1 y1 o1 H locs ls h5 hW (lv_sub hl [2, 3, 4, 5, 6] rfl)
  · have hk : k = 0 := hc
    have h0 := h4 hk
    refine lv_aload_n C0.hx C0.hb dL_law_509 rfl (lv_at hl 5 rfl) ?_
    refine lv_iconst (v := (0 : Int32)) C0.hx C0.hb dL_law_510 (by decide) ?_
    refine ga_38 C0 hW (List.mem_range.mpr (by decide)) k_161 (by decide) dL_law_511 ?_
    refine lv_iload C0.hx C0.hb dL_law_512 (lv_at hl 0 rfl) ?_
    refine lv_i2l (v := r.toInt64) C0.hx C0.hb dL_law_514 rfl ?_
    refine W.lcmp C0.hx C0.hb dL_law_515 ?_
    refine lv_if_eq (tgt := 521) C0.hx C0.hb dL_law_516 (by decide) (fun hc => ?_) (fun hc => absurd (by show lg_cmp (o1 0).toInt64 r.toInt64 = 0; rw [h0]; exact g_cmp0) hc)
    refine lv_goto (tgt := 1913) C0.hx C0.hb dL_law_521 (by decide) ?_
    refine W.widen (k := cells + 900) (n := slots + 13000) (by omega) (by omega) ?_
    exact K x1 y1 o1 H locs ls h5 hW (lv_sub hl [2, 3, 4, 5, 6] rfl)
theorem w_L_pitchAt (C0 : g_X G (List.range 162) p s m #[.ref b] meth c cL_law 9 RL ret) (hW : g_W G (List.range 162) (x, y, o) s.heap H locs) (hR : pp_R x y) (hl : lv_has ls 9 (g_LV G b i)) (hcl : cells + 900 ≤ 601024) (hsl : slots + 13000 ≤ 7293034) (hfl : l.stackTraces = false) (hnc : g_NC s) (hX : va_X b L xs s s.heap) (hbl : b < s.heap.size) (hbA : ¬ g_A G b) (hin : ∀ j : Nat, j ≤ 5 → vp_in (i + nI j) L) (K : ∀ (x' : CS) (y' : MS) (o' : Nat → Int32) (H' : Heap) (locs' : List Loc) (ls' : Array Slot), pp_R x' y' → g_W G (List.range 162) (x', y', o') s.heap H' locs' → lv_has ls' 9 (g_LV G b i) → W p l e room_1 s m #[.ref b] below meth c H' locs' (cells + 900) (slots + 13000) Q (F0 m 1913 ls' [])) : W p l e room_1 s m #[.ref b] below meth c H locs cells slots Q (F0 m 524 ls []) := by
  obtain ⟨k, x1, o1, r, y1, h1, h2, h3, h4, h5⟩ := pp_o11 (p := xs (i + 1).toNatClampNeg) (q := xs (i + 2).toNatClampNeg) (o := o) hR
  refine lv_aload_n C0.hx C0.hb dL_law_524 rfl (lv_at hl 1 rfl) ?_
  refine lv_aload_n C0.hx C0.hb dL_law_525 rfl (lv_at hl 0 rfl) ?_
  refine lv_iload C0.hx C0.hb dL_law_526 (lv_at hl 4 rfl) ?_
  refine lv_iconst (v := (1 : Int32)) C0.hx C0.hb dL_law_528 (by decide) ?_
  refine lv_iadd C0.hx C0.hb dL_law_529 ?_
  refine va_sld C0.hx C0.hb hX hbl hbA hW.2.2 (hin 1 (by decide)) dL_law_530 ?_
  refine lv_aload_n C0.hx C0.hb dL_law_531 rfl (lv_at hl 0 rfl) ?_
  refine lv_iload C0.hx C0.hb dL_law_532 (lv_at hl 4 rfl) ?_
  refine lv_iconst (v := (2 : Int32)) C0.hx C0.hb dL_law_534 (by decide) ?_
  refine lv_iadd C0.hx C0.hb dL_law_535 ?_
  refine va_sld C0.hx C0.hb hX hbl hbA hW.2.2 (hin 2 (by decide)) dL_law_536 ?_
  refine lv_aload_n C0.hx C0.hb dL_law_537 rfl (lv_at hl 3 rfl) ?_
  refine g_calli hW (vx_runSW (As := [.ref (g_ad G 0), .int (xs (i + 1).toNatClampNeg), .int (xs (i + 2).toNatClampNeg), .ref (g_ad G 161)]) (rest := []) C0.call (c_L_pitchAt hfl (List.mem_range.mpr (by decide)) h1) (vx_cwSW 4 C0.hts (g_goodS tm_L_148 tz_L_pitchAt tn_L tc_L_pitchAt) rfl rfl rfl ⟨by decide, by decide, by decide +kernel⟩ ⟨Nat.le_of_ble_eq_true rfl, Nat.le_of_ble_eq_true rfl⟩) ⟨g_blindL, fun U hU hw => ⟨rfl, g_pre C0 hW hU hw, g_NC.to hnc hw.alike⟩⟩ rfl rfl hl.1 rfl (Nat.le_of_ble_eq_true rfl) dL_law_538 ⟨by simp only [room_1]; omega, by simp only [room_1]; omega⟩) (fun H locs hW => ?_)
  refine lv_istore (lv' := (5, .int k) :: g_LV G b i) C0.hx C0.hb dL_law_541 hl (by decide) rfl (fun ls hl => ?_)
  have hl : lv_has ls 9 [(5, .int k), (0, .ref b), (1, .ref (g_ad G 0)), (2, .ref (g_ad G 120)), (3, .ref (g_ad G 161)), (4, .int i)] := hl
  refine lv_aload_n C0.hx C0.hb dL_law_543 rfl (lv_at hl 3 rfl) ?_
  refine lv_aload_n C0.hx C0.hb dL_law_544 rfl (lv_at hl 1 rfl) ?_
  refine lv_iload C0.hx C0.hb dL_law_545 (lv_at hl 5 rfl) ?_
  refine lv_iconst (v := (1 : Int32)) C0.hx C0.hb dL_law_547 (by decide) ?_
  refine lv_iadd C0.hx C0.hb dL_law_548 ?_
  refine va_sld C0.hx C0.hb hX hbl hbA hW.2.2 (hin 1 (by decide)) dL_law_549 ?_
  refine lv_aload_n C0.hx C0.hb dL_law_550 rfl (lv_at hl 1 rfl) ?_
  refine lv_iload C0.hx C0.hb dL_law_551 (lv_at hl 5 rfl) ?_
  refine lv_iconst (v := (2 : Int32)) C0.hx C0.hb dL_law_553 (by decide) ?_
  refine lv_iadd C0.hx C0.hb dL_law_554 ?_
  refine va_sld C0.hx C0.hb hX hbl hbA hW.2.2 (hin 2 (by decide)) dL_law_555 ?_
  refine g_calli hW (g_runV (As := [.int (xs (i + 1).toNatClampNeg), .int (xs (i + 2).toNatClampNeg)]) (rest := []) C0 hW (c_X15_pitchAt h2) (g_cwL (n := 2) tc_X15_pitchAt tn_X15 ⟨by decide, by decide, by decide +kernel⟩ (by decide) (by decide) (by omega) (by omega)) tm_L_151 ti_X15_pitchAt ts_X15_pitchAt (C0.mem (i := 120) (Nat.le_of_ble_eq_true rfl)) (g_c12 k_120) rfl rfl hl.1 rfl (Nat.le_of_ble_eq_true rfl) dL_law_556) (fun H locs hW => ?_)
  refine lv_istore (lv' := [(6, .int r), (5, .int k), (0, .ref b), (1, .ref (g_ad G 0)), (2, .ref (g_ad G 120)), (3, .ref (g_ad G 161)), (4, .int i)]) C0.hx C0.hb dL_law_559 hl (by decide) rfl (fun ls hl => ?_)
  refine lv_aload_n C0.hx C0.hb dL_law_561 rfl (lv_at hl 4 rfl) ?_
  refine g_calli hW (g_runV (As := []) (rest := []) C0 hW (c_X15_thrown (q := y1 120 0) rfl) (g_cwL (n := 0) tc_X15_thrown tn_X15 ⟨by decide, by decide, by decide +kernel⟩ (by decide) (by decide) (by omega) (by omega)) tm_L_106 ti_X15_thrown ts_X15_thrown (C0.mem (i := 120) (Nat.le_of_ble_eq_true rfl)) (g_c12 k_120) rfl rfl hl.1 rfl (Nat.le_of_ble_eq_true rfl) dL_law_562) (fun H locs hW => ?_)
  refine lv_iload C0.hx C0.hb dL_law_565 (lv_at hl 1 rfl) ?_
  refine lv_icmp_eq (tgt := 572) C0.hx C0.hb dL_law_567 (by decide) (fun _ => ?_) (fun hc => absurd h3 hc)
  refine lv_iload C0.hx C0.hb dL_law_572 (lv_at hl 1 rfl) ?_
  refine lv_if_ne (tgt := 589) C0.hx C0.hb dL_law_574 (by decide) (fun hc => ?_) (fun hc => ?_)
  · refine lv_goto (tgt := 1913) C0.hx C0.hb dL_law_589 (by decide) ?_
    refine W.widen (k := cells + 900) (n := slots + 13000) (by omega) (by omega) ?_
    exact K x1 y1 o1 H locs ls h5 hW (lv_sub hl [2, 3, 4, 5, 6] rfl)
  · have hk : k = 0 := hc
    have h0 := h4 hk
    refine lv_aload_n C0.hx C0.hb dL_law_577 rfl (lv_at hl 5 rfl) ?_
    refine lv_iconst (v := (0 : Int32)) C0.hx C0.hb dL_law_578 (by decide) ?_
    refine ga_38 C0 hW (List.mem_range.mpr (by decide)) k_161 (by decide) dL_law_579 ?_
    refine lv_iload C0.hx C0.hb dL_law_580 (lv_at hl 0 rfl) ?_
    refine lv_i2l (v := r.toInt64) C0.hx C0.hb dL_law_582 rfl ?_
    refine W.lcmp C0.hx C0.hb dL_law_583 ?_
    refine lv_if_eq (tgt := 589) C0.hx C0.hb dL_law_584 (by decide) (fun hc => ?_) (fun hc => absurd (by show lg_cmp (o1 0).toInt64 r.toInt64 = 0; rw [h0]; exact g_cmp0) hc)
    refine lv_goto (tgt := 1913) C0.hx C0.hb dL_law_589 (by decide) ?_
    refine W.widen (k := cells + 900) (n := slots + 13000) (by omega) (by omega) ?_
    exact K x1 y1 o1 H locs ls h5 hW (lv_sub hl [2, 3, 4, 5, 6] rfl)
theorem w_L_contourAt (C0 : g_X G (List.range 162) p s m #[.ref b] meth c cL_law 9 RL ret) (hW : g_W G (List.range 162) (x, y, o) s.heap H locs) (hR : pp_R x y) (hl : lv_has ls 9 (g_LV G b i)) (hcl : cells + 900 ≤ 601024) (hsl : slots + 13000 ≤ 7293034) (hfl : l.stackTraces = false) (hnc : g_NC s) (hX : va_X b L xs s s.heap) (hbl : b < s.heap.size) (hbA : ¬ g_A G b) (hin : ∀ j : Nat, j ≤ 5 → vp_in (i + nI j) L) (K : ∀ (x' : CS) (y' : MS) (o' : Nat → Int32) (H' : Heap) (locs' : List Loc) (ls' : Array Slot), pp_R x' y' → g_W G (List.range 162) (x', y', o') s.heap H' locs' → lv_has ls' 9 (g_LV G b i) → W p l e room_1 s m #[.ref b] below meth c H' locs' (cells + 900) (slots + 13000) Q (F0 m 1913 ls' [])) : W p l e room_1 s m #[.ref b] below meth c H locs cells slots Q (F0 m 592 ls []) := by
  obtain ⟨k, x1, o1, r, y1, h1, h2, h3, h4, h5⟩ := pp_o12 (p := xs (i + 1).toNatClampNeg) (q := xs (i + 2).toNatClampNeg) (o := o) hR
  refine lv_aload_n C0.hx C0.hb dL_law_592 rfl (lv_at hl 1 rfl) ?_
  refine lv_aload_n C0.hx C0.hb dL_law_593 rfl (lv_at hl 0 rfl) ?_
  refine lv_iload C0.hx C0.hb dL_law_594 (lv_at hl 4 rfl) ?_
  refine lv_iconst (v := (1 : Int32)) C0.hx C0.hb dL_law_596 (by decide) ?_
  refine lv_iadd C0.hx C0.hb dL_law_597 ?_
  refine va_sld C0.hx C0.hb hX hbl hbA hW.2.2 (hin 1 (by decide)) dL_law_598 ?_
  refine lv_aload_n C0.hx C0.hb dL_law_599 rfl (lv_at hl 0 rfl) ?_
  refine lv_iload C0.hx C0.hb dL_law_600 (lv_at hl 4 rfl) ?_
  refine lv_iconst (v := (2 : Int32)) C0.hx C0.hb dL_law_602 (by decide) ?_
  refine lv_iadd C0.hx C0.hb dL_law_603 ?_
  refine va_sld C0.hx C0.hb hX hbl hbA hW.2.2 (hin 2 (by decide)) dL_law_604 ?_
  refine lv_aload_n C0.hx C0.hb dL_law_605 rfl (lv_at hl 3 rfl) ?_
  refine g_calli hW (vx_runSW (As := [.ref (g_ad G 0), .int (xs (i + 1).toNatClampNeg), .int (xs (i + 2).toNatClampNeg), .ref (g_ad G 161)]) (rest := []) C0.call (c_L_contourAt hfl (List.mem_range.mpr (by decide)) h1) (vx_cwSW 4 C0.hts (g_goodS tm_L_152 tz_L_contourAt tn_L tc_L_contourAt) rfl rfl rfl ⟨by decide, by decide, by decide +kernel⟩ ⟨Nat.le_of_ble_eq_true rfl, Nat.le_of_ble_eq_true rfl⟩) ⟨g_blindL, fun U hU hw => ⟨rfl, g_pre C0 hW hU hw, g_NC.to hnc hw.alike⟩⟩ rfl rfl hl.1 rfl (Nat.le_of_ble_eq_true rfl) dL_law_606 ⟨by simp only [room_1]; omega, by simp only [room_1]; omega⟩) (fun H locs hW => ?_)
  refine lv_istore (lv' := (5, .int k) :: g_LV G b i) C0.hx C0.hb dL_law_609 hl (by decide) rfl (fun ls hl => ?_)
  have hl : lv_has ls 9 [(5, .int k), (0, .ref b), (1, .ref (g_ad G 0)), (2, .ref (g_ad G 120)), (3, .ref (g_ad G 161)), (4, .int i)] := hl
  refine lv_aload_n C0.hx C0.hb dL_law_611 rfl (lv_at hl 3 rfl) ?_
  refine lv_aload_n C0.hx C0.hb dL_law_612 rfl (lv_at hl 1 rfl) ?_
  refine lv_iload C0.hx C0.hb dL_law_613 (lv_at hl 5 rfl) ?_
  refine lv_iconst (v := (1 : Int32)) C0.hx C0.hb dL_law_615 (by decide) ?_
  refine lv_iadd C0.hx C0.hb dL_law_616 ?_
  refine va_sld C0.hx C0.hb hX hbl hbA hW.2.2 (hin 1 (by decide)) dL_law_617 ?_
  refine lv_aload_n C0.hx C0.hb dL_law_618 rfl (lv_at hl 1 rfl) ?_
  refine lv_iload C0.hx C0.hb dL_law_619 (lv_at hl 5 rfl) ?_
  refine lv_iconst (v := (2 : Int32)) C0.hx C0.hb dL_law_621 (by decide) ?_
  refine lv_iadd C0.hx C0.hb dL_law_622 ?_
  refine va_sld C0.hx C0.hb hX hbl hbA hW.2.2 (hin 2 (by decide)) dL_law_623 ?_
  refine g_calli hW (g_runV (As := [.int (xs (i + 1).toNatClampNeg), .int (xs (i + 2).toNatClampNeg)]) (rest := []) C0 hW (c_X15_contourAt h2) (g_cwL (n := 2) tc_X15_contourAt tn_X15 ⟨by decide, by decide, by decide +kernel⟩ (by decide) (by decide) (by omega) (by omega)) tm_L_154 ti_X15_contourAt ts_X15_contourAt (C0.mem (i := 120) (Nat.le_of_ble_eq_true rfl)) (g_c12 k_120) rfl rfl hl.1 rfl (Nat.le_of_ble_eq_true rfl) dL_law_624) (fun H locs hW => ?_)
  refine lv_istore (lv' := [(6, .int r), (5, .int k), (0, .ref b), (1, .ref (g_ad G 0)), (2, .ref (g_ad G 120)), (3, .ref (g_ad G 161)), (4, .int i)]) C0.hx C0.hb dL_law_627 hl (by decide) rfl (fun ls hl => ?_)
  refine lv_aload_n C0.hx C0.hb dL_law_629 rfl (lv_at hl 4 rfl) ?_
  refine g_calli hW (g_runV (As := []) (rest := []) C0 hW (c_X15_thrown (q := y1 120 0) rfl) (g_cwL (n := 0) tc_X15_thrown tn_X15 ⟨by decide, by decide, by decide +kernel⟩ (by decide) (by decide) (by omega) (by omega)) tm_L_106 ti_X15_thrown ts_X15_thrown (C0.mem (i := 120) (Nat.le_of_ble_eq_true rfl)) (g_c12 k_120) rfl rfl hl.1 rfl (Nat.le_of_ble_eq_true rfl) dL_law_630) (fun H locs hW => ?_)
  refine lv_iload C0.hx C0.hb dL_law_633 (lv_at hl 1 rfl) ?_
  refine lv_icmp_eq (tgt := 640) C0.hx C0.hb dL_law_635 (by decide) (fun _ => ?_) (fun hc => absurd h3 hc)
  refine lv_iload C0.hx C0.hb dL_law_640 (lv_at hl 1 rfl) ?_
  refine lv_if_ne (tgt := 657) C0.hx C0.hb dL_law_642 (by decide) (fun hc => ?_) (fun hc => ?_)
  · refine lv_goto (tgt := 1913) C0.hx C0.hb dL_law_657 (by decide) ?_
    refine W.widen (k := cells + 900) (n := slots + 13000) (by omega) (by omega) ?_
    exact K x1 y1 o1 H locs ls h5 hW (lv_sub hl [2, 3, 4, 5, 6] rfl)
  · have hk : k = 0 := hc
    have h0 := h4 hk
    refine lv_aload_n C0.hx C0.hb dL_law_645 rfl (lv_at hl 5 rfl) ?_
    refine lv_iconst (v := (0 : Int32)) C0.hx C0.hb dL_law_646 (by decide) ?_
    refine ga_38 C0 hW (List.mem_range.mpr (by decide)) k_161 (by decide) dL_law_647 ?_
    refine lv_iload C0.hx C0.hb dL_law_648 (lv_at hl 0 rfl) ?_
    refine lv_i2l (v := r.toInt64) C0.hx C0.hb dL_law_650 rfl ?_
    refine W.lcmp C0.hx C0.hb dL_law_651 ?_
    refine lv_if_eq (tgt := 657) C0.hx C0.hb dL_law_652 (by decide) (fun hc => ?_) (fun hc => absurd (by show lg_cmp (o1 0).toInt64 r.toInt64 = 0; rw [h0]; exact g_cmp0) hc)
    refine lv_goto (tgt := 1913) C0.hx C0.hb dL_law_657 (by decide) ?_
    refine W.widen (k := cells + 900) (n := slots + 13000) (by omega) (by omega) ?_
    exact K x1 y1 o1 H locs ls h5 hW (lv_sub hl [2, 3, 4, 5, 6] rfl)
theorem w_L_silentBeats (C0 : g_X G (List.range 162) p s m #[.ref b] meth c cL_law 9 RL ret) (hW : g_W G (List.range 162) (x, y, o) s.heap H locs) (hR : pp_R x y) (hl : lv_has ls 9 (g_LV G b i)) (hcl : cells + 900 ≤ 601024) (hsl : slots + 13000 ≤ 7293034) (hfl : l.stackTraces = false) (hnc : g_NC s) (hX : va_X b L xs s s.heap) (hbl : b < s.heap.size) (hbA : ¬ g_A G b) (hin : ∀ j : Nat, j ≤ 5 → vp_in (i + nI j) L) (K : ∀ (x' : CS) (y' : MS) (o' : Nat → Int32) (H' : Heap) (locs' : List Loc) (ls' : Array Slot), pp_R x' y' → g_W G (List.range 162) (x', y', o') s.heap H' locs' → lv_has ls' 9 (g_LV G b i) → W p l e room_1 s m #[.ref b] below meth c H' locs' (cells + 900) (slots + 13000) Q (F0 m 1913 ls' [])) : W p l e room_1 s m #[.ref b] below meth c H locs cells slots Q (F0 m 723 ls []) := by
  obtain ⟨k, x1, o1, r, y1, h1, h2, h3, h4, h5⟩ := pp_o14 (p := xs (i + 1).toNatClampNeg) (o := o) hR
  refine lv_aload_n C0.hx C0.hb dL_law_723 rfl (lv_at hl 1 rfl) ?_
  refine lv_aload_n C0.hx C0.hb dL_law_724 rfl (lv_at hl 0 rfl) ?_
  refine lv_iload C0.hx C0.hb dL_law_725 (lv_at hl 4 rfl) ?_
  refine lv_iconst (v := (1 : Int32)) C0.hx C0.hb dL_law_727 (by decide) ?_
  refine lv_iadd C0.hx C0.hb dL_law_728 ?_
  refine va_sld C0.hx C0.hb hX hbl hbA hW.2.2 (hin 1 (by decide)) dL_law_729 ?_
  refine lv_aload_n C0.hx C0.hb dL_law_730 rfl (lv_at hl 3 rfl) ?_
  refine g_calli hW (vx_runSW (As := [.ref (g_ad G 0), .int (xs (i + 1).toNatClampNeg), .ref (g_ad G 161)]) (rest := []) C0.call (c_L_silentBeats hfl (List.mem_range.mpr (by decide)) h1) (vx_cwSW 3 C0.hts (g_goodS tm_L_158 tz_L_silentBeats tn_L tc_L_silentBeats) rfl rfl rfl ⟨by decide, by decide, by decide +kernel⟩ ⟨Nat.le_of_ble_eq_true rfl, Nat.le_of_ble_eq_true rfl⟩) ⟨g_blindL, fun U hU hw => ⟨rfl, g_pre C0 hW hU hw, g_NC.to hnc hw.alike⟩⟩ rfl rfl hl.1 rfl (Nat.le_of_ble_eq_true rfl) dL_law_731 ⟨by simp only [room_1]; omega, by simp only [room_1]; omega⟩) (fun H locs hW => ?_)
  refine lv_istore (lv' := (5, .int k) :: g_LV G b i) C0.hx C0.hb dL_law_734 hl (by decide) rfl (fun ls hl => ?_)
  have hl : lv_has ls 9 [(5, .int k), (0, .ref b), (1, .ref (g_ad G 0)), (2, .ref (g_ad G 120)), (3, .ref (g_ad G 161)), (4, .int i)] := hl
  refine lv_aload_n C0.hx C0.hb dL_law_736 rfl (lv_at hl 3 rfl) ?_
  refine lv_aload_n C0.hx C0.hb dL_law_737 rfl (lv_at hl 1 rfl) ?_
  refine lv_iload C0.hx C0.hb dL_law_738 (lv_at hl 5 rfl) ?_
  refine lv_iconst (v := (1 : Int32)) C0.hx C0.hb dL_law_740 (by decide) ?_
  refine lv_iadd C0.hx C0.hb dL_law_741 ?_
  refine va_sld C0.hx C0.hb hX hbl hbA hW.2.2 (hin 1 (by decide)) dL_law_742 ?_
  refine g_calli hW (g_runV (As := [.int (xs (i + 1).toNatClampNeg)]) (rest := []) C0 hW (c_X15_silentBeats h2) (g_cwL (n := 1) tc_X15_silentBeats tn_X15 ⟨by decide, by decide, by decide +kernel⟩ (by decide) (by decide) (by omega) (by omega)) tm_L_160 ti_X15_silentBeats ts_X15_silentBeats (C0.mem (i := 120) (Nat.le_of_ble_eq_true rfl)) (g_c12 k_120) rfl rfl hl.1 rfl (Nat.le_of_ble_eq_true rfl) dL_law_743) (fun H locs hW => ?_)
  refine lv_istore (lv' := [(6, .int r), (5, .int k), (0, .ref b), (1, .ref (g_ad G 0)), (2, .ref (g_ad G 120)), (3, .ref (g_ad G 161)), (4, .int i)]) C0.hx C0.hb dL_law_746 hl (by decide) rfl (fun ls hl => ?_)
  refine lv_aload_n C0.hx C0.hb dL_law_748 rfl (lv_at hl 4 rfl) ?_
  refine g_calli hW (g_runV (As := []) (rest := []) C0 hW (c_X15_thrown (q := y1 120 0) rfl) (g_cwL (n := 0) tc_X15_thrown tn_X15 ⟨by decide, by decide, by decide +kernel⟩ (by decide) (by decide) (by omega) (by omega)) tm_L_106 ti_X15_thrown ts_X15_thrown (C0.mem (i := 120) (Nat.le_of_ble_eq_true rfl)) (g_c12 k_120) rfl rfl hl.1 rfl (Nat.le_of_ble_eq_true rfl) dL_law_749) (fun H locs hW => ?_)
  refine lv_iload C0.hx C0.hb dL_law_752 (lv_at hl 1 rfl) ?_
  refine lv_icmp_eq (tgt := 759) C0.hx C0.hb dL_law_754 (by decide) (fun _ => ?_) (fun hc => absurd h3 hc)
  refine lv_iload C0.hx C0.hb dL_law_759 (lv_at hl 1 rfl) ?_
  refine lv_if_ne (tgt := 776) C0.hx C0.hb dL_law_761 (by decide) (fun hc => ?_) (fun hc => ?_)
  · refine lv_goto (tgt := 1913) C0.hx C0.hb dL_law_776 (by decide) ?_
    refine W.widen (k := cells + 900) (n := slots + 13000) (by omega) (by omega) ?_
    exact K x1 y1 o1 H locs ls h5 hW (lv_sub hl [2, 3, 4, 5, 6] rfl)
  · have hk : k = 0 := hc
    have h0 := h4 hk
    refine lv_aload_n C0.hx C0.hb dL_law_764 rfl (lv_at hl 5 rfl) ?_
    refine lv_iconst (v := (0 : Int32)) C0.hx C0.hb dL_law_765 (by decide) ?_
    refine ga_38 C0 hW (List.mem_range.mpr (by decide)) k_161 (by decide) dL_law_766 ?_
    refine lv_iload C0.hx C0.hb dL_law_767 (lv_at hl 0 rfl) ?_
    refine lv_i2l (v := r.toInt64) C0.hx C0.hb dL_law_769 rfl ?_
    refine W.lcmp C0.hx C0.hb dL_law_770 ?_
    refine lv_if_eq (tgt := 776) C0.hx C0.hb dL_law_771 (by decide) (fun hc => ?_) (fun hc => absurd (by show lg_cmp (o1 0).toInt64 r.toInt64 = 0; rw [h0]; exact g_cmp0) hc)
    refine lv_goto (tgt := 1913) C0.hx C0.hb dL_law_776 (by decide) ?_
    refine W.widen (k := cells + 900) (n := slots + 13000) (by omega) (by omega) ?_
    exact K x1 y1 o1 H locs ls h5 hW (lv_sub hl [2, 3, 4, 5, 6] rfl)
theorem w_L_distanceBetween (C0 : g_X G (List.range 162) p s m #[.ref b] meth c cL_law 9 RL ret) (hW : g_W G (List.range 162) (x, y, o) s.heap H locs) (hR : pp_R x y) (hl : lv_has ls 9 (g_LV G b i)) (hcl : cells + 900 ≤ 601024) (hsl : slots + 13000 ≤ 7293034) (hfl : l.stackTraces = false) (hnc : g_NC s) (hX : va_X b L xs s s.heap) (hbl : b < s.heap.size) (hbA : ¬ g_A G b) (hin : ∀ j : Nat, j ≤ 5 → vp_in (i + nI j) L) (K : ∀ (x' : CS) (y' : MS) (o' : Nat → Int32) (H' : Heap) (locs' : List Loc) (ls' : Array Slot), pp_R x' y' → g_W G (List.range 162) (x', y', o') s.heap H' locs' → lv_has ls' 9 (g_LV G b i) → W p l e room_1 s m #[.ref b] below meth c H' locs' (cells + 900) (slots + 13000) Q (F0 m 1913 ls' [])) : W p l e room_1 s m #[.ref b] below meth c H locs cells slots Q (F0 m 779 ls []) := by
  obtain ⟨k, x1, o1, r, y1, h1, h2, h3, h4, h5⟩ := pp_o15 (p := xs (i + 1).toNatClampNeg) (q := xs (i + 2).toNatClampNeg) (o := o) hR
  refine lv_aload_n C0.hx C0.hb dL_law_779 rfl (lv_at hl 1 rfl) ?_
  refine lv_aload_n C0.hx C0.hb dL_law_780 rfl (lv_at hl 0 rfl) ?_
  refine lv_iload C0.hx C0.hb dL_law_781 (lv_at hl 4 rfl) ?_
  refine lv_iconst (v := (1 : Int32)) C0.hx C0.hb dL_law_783 (by decide) ?_
  refine lv_iadd C0.hx C0.hb dL_law_784 ?_
  refine va_sld C0.hx C0.hb hX hbl hbA hW.2.2 (hin 1 (by decide)) dL_law_785 ?_
  refine lv_aload_n C0.hx C0.hb dL_law_786 rfl (lv_at hl 0 rfl) ?_
  refine lv_iload C0.hx C0.hb dL_law_787 (lv_at hl 4 rfl) ?_
  refine lv_iconst (v := (2 : Int32)) C0.hx C0.hb dL_law_789 (by decide) ?_
  refine lv_iadd C0.hx C0.hb dL_law_790 ?_
  refine va_sld C0.hx C0.hb hX hbl hbA hW.2.2 (hin 2 (by decide)) dL_law_791 ?_
  refine lv_aload_n C0.hx C0.hb dL_law_792 rfl (lv_at hl 3 rfl) ?_
  refine g_calli hW (vx_runSW (As := [.ref (g_ad G 0), .int (xs (i + 1).toNatClampNeg), .int (xs (i + 2).toNatClampNeg), .ref (g_ad G 161)]) (rest := []) C0.call (c_L_distanceBetween hfl (List.mem_range.mpr (by decide)) h1) (vx_cwSW 4 C0.hts (g_goodS tm_L_161 tz_L_distanceBetween tn_L tc_L_distanceBetween) rfl rfl rfl ⟨by decide, by decide, by decide +kernel⟩ ⟨Nat.le_of_ble_eq_true rfl, Nat.le_of_ble_eq_true rfl⟩) ⟨g_blindL, fun U hU hw => ⟨rfl, g_pre C0 hW hU hw, g_NC.to hnc hw.alike⟩⟩ rfl rfl hl.1 rfl (Nat.le_of_ble_eq_true rfl) dL_law_793 ⟨by simp only [room_1]; omega, by simp only [room_1]; omega⟩) (fun H locs hW => ?_)
  refine lv_istore (lv' := (5, .int k) :: g_LV G b i) C0.hx C0.hb dL_law_796 hl (by decide) rfl (fun ls hl => ?_)
  have hl : lv_has ls 9 [(5, .int k), (0, .ref b), (1, .ref (g_ad G 0)), (2, .ref (g_ad G 120)), (3, .ref (g_ad G 161)), (4, .int i)] := hl
  refine lv_aload_n C0.hx C0.hb dL_law_798 rfl (lv_at hl 3 rfl) ?_
  refine lv_aload_n C0.hx C0.hb dL_law_799 rfl (lv_at hl 1 rfl) ?_
  refine lv_iload C0.hx C0.hb dL_law_800 (lv_at hl 5 rfl) ?_
  refine lv_iconst (v := (1 : Int32)) C0.hx C0.hb dL_law_802 (by decide) ?_
  refine lv_iadd C0.hx C0.hb dL_law_803 ?_
  refine va_sld C0.hx C0.hb hX hbl hbA hW.2.2 (hin 1 (by decide)) dL_law_804 ?_
  refine lv_aload_n C0.hx C0.hb dL_law_805 rfl (lv_at hl 1 rfl) ?_
  refine lv_iload C0.hx C0.hb dL_law_806 (lv_at hl 5 rfl) ?_
  refine lv_iconst (v := (2 : Int32)) C0.hx C0.hb dL_law_808 (by decide) ?_
  refine lv_iadd C0.hx C0.hb dL_law_809 ?_
  refine va_sld C0.hx C0.hb hX hbl hbA hW.2.2 (hin 2 (by decide)) dL_law_810 ?_
  refine g_calli hW (g_runV (As := [.int (xs (i + 1).toNatClampNeg), .int (xs (i + 2).toNatClampNeg)]) (rest := []) C0 hW (c_X15_distanceBetween h2) (g_cwL (n := 2) tc_X15_distanceBetween tn_X15 ⟨by decide, by decide, by decide +kernel⟩ (by decide) (by decide) (by omega) (by omega)) tm_L_163 ti_X15_distanceBetween ts_X15_distanceBetween (C0.mem (i := 120) (Nat.le_of_ble_eq_true rfl)) (g_c12 k_120) rfl rfl hl.1 rfl (Nat.le_of_ble_eq_true rfl) dL_law_811) (fun H locs hW => ?_)
  refine lv_istore (lv' := [(6, .int r), (5, .int k), (0, .ref b), (1, .ref (g_ad G 0)), (2, .ref (g_ad G 120)), (3, .ref (g_ad G 161)), (4, .int i)]) C0.hx C0.hb dL_law_814 hl (by decide) rfl (fun ls hl => ?_)
  refine lv_aload_n C0.hx C0.hb dL_law_816 rfl (lv_at hl 4 rfl) ?_
  refine g_calli hW (g_runV (As := []) (rest := []) C0 hW (c_X15_thrown (q := y1 120 0) rfl) (g_cwL (n := 0) tc_X15_thrown tn_X15 ⟨by decide, by decide, by decide +kernel⟩ (by decide) (by decide) (by omega) (by omega)) tm_L_106 ti_X15_thrown ts_X15_thrown (C0.mem (i := 120) (Nat.le_of_ble_eq_true rfl)) (g_c12 k_120) rfl rfl hl.1 rfl (Nat.le_of_ble_eq_true rfl) dL_law_817) (fun H locs hW => ?_)
  refine lv_iload C0.hx C0.hb dL_law_820 (lv_at hl 1 rfl) ?_
  refine lv_icmp_eq (tgt := 827) C0.hx C0.hb dL_law_822 (by decide) (fun _ => ?_) (fun hc => absurd h3 hc)
  refine lv_iload C0.hx C0.hb dL_law_827 (lv_at hl 1 rfl) ?_
  refine lv_if_ne (tgt := 844) C0.hx C0.hb dL_law_829 (by decide) (fun hc => ?_) (fun hc => ?_)
  · refine lv_goto (tgt := 1913) C0.hx C0.hb dL_law_844 (by decide) ?_
    refine W.widen (k := cells + 900) (n := slots + 13000) (by omega) (by omega) ?_
    exact K x1 y1 o1 H locs ls h5 hW (lv_sub hl [2, 3, 4, 5, 6] rfl)
  · have hk : k = 0 := hc
    have h0 := h4 hk
    refine lv_aload_n C0.hx C0.hb dL_law_832 rfl (lv_at hl 5 rfl) ?_
    refine lv_iconst (v := (0 : Int32)) C0.hx C0.hb dL_law_833 (by decide) ?_
    refine ga_38 C0 hW (List.mem_range.mpr (by decide)) k_161 (by decide) dL_law_834 ?_
    refine lv_iload C0.hx C0.hb dL_law_835 (lv_at hl 0 rfl) ?_
    refine lv_i2l (v := r.toInt64) C0.hx C0.hb dL_law_837 rfl ?_
    refine W.lcmp C0.hx C0.hb dL_law_838 ?_
    refine lv_if_eq (tgt := 844) C0.hx C0.hb dL_law_839 (by decide) (fun hc => ?_) (fun hc => absurd (by show lg_cmp (o1 0).toInt64 r.toInt64 = 0; rw [h0]; exact g_cmp0) hc)
    refine lv_goto (tgt := 1913) C0.hx C0.hb dL_law_844 (by decide) ?_
    refine W.widen (k := cells + 900) (n := slots + 13000) (by omega) (by omega) ?_
    exact K x1 y1 o1 H locs ls h5 hW (lv_sub hl [2, 3, 4, 5, 6] rfl)
theorem w_L_contourBetween (C0 : g_X G (List.range 162) p s m #[.ref b] meth c cL_law 9 RL ret) (hW : g_W G (List.range 162) (x, y, o) s.heap H locs) (hR : pp_R x y) (hl : lv_has ls 9 (g_LV G b i)) (hcl : cells + 900 ≤ 601024) (hsl : slots + 13000 ≤ 7293034) (hfl : l.stackTraces = false) (hnc : g_NC s) (hX : va_X b L xs s s.heap) (hbl : b < s.heap.size) (hbA : ¬ g_A G b) (hin : ∀ j : Nat, j ≤ 5 → vp_in (i + nI j) L) (K : ∀ (x' : CS) (y' : MS) (o' : Nat → Int32) (H' : Heap) (locs' : List Loc) (ls' : Array Slot), pp_R x' y' → g_W G (List.range 162) (x', y', o') s.heap H' locs' → lv_has ls' 9 (g_LV G b i) → W p l e room_1 s m #[.ref b] below meth c H' locs' (cells + 900) (slots + 13000) Q (F0 m 1913 ls' [])) : W p l e room_1 s m #[.ref b] below meth c H locs cells slots Q (F0 m 847 ls []) := by
  obtain ⟨k, x1, o1, r, y1, h1, h2, h3, h4, h5⟩ := pp_o16 (p := xs (i + 1).toNatClampNeg) (q := xs (i + 2).toNatClampNeg) (o := o) hR
  refine lv_aload_n C0.hx C0.hb dL_law_847 rfl (lv_at hl 1 rfl) ?_
  refine lv_aload_n C0.hx C0.hb dL_law_848 rfl (lv_at hl 0 rfl) ?_
  refine lv_iload C0.hx C0.hb dL_law_849 (lv_at hl 4 rfl) ?_
  refine lv_iconst (v := (1 : Int32)) C0.hx C0.hb dL_law_851 (by decide) ?_
  refine lv_iadd C0.hx C0.hb dL_law_852 ?_
  refine va_sld C0.hx C0.hb hX hbl hbA hW.2.2 (hin 1 (by decide)) dL_law_853 ?_
  refine lv_aload_n C0.hx C0.hb dL_law_854 rfl (lv_at hl 0 rfl) ?_
  refine lv_iload C0.hx C0.hb dL_law_855 (lv_at hl 4 rfl) ?_
  refine lv_iconst (v := (2 : Int32)) C0.hx C0.hb dL_law_857 (by decide) ?_
  refine lv_iadd C0.hx C0.hb dL_law_858 ?_
  refine va_sld C0.hx C0.hb hX hbl hbA hW.2.2 (hin 2 (by decide)) dL_law_859 ?_
  refine lv_aload_n C0.hx C0.hb dL_law_860 rfl (lv_at hl 3 rfl) ?_
  refine g_calli hW (vx_runSW (As := [.ref (g_ad G 0), .int (xs (i + 1).toNatClampNeg), .int (xs (i + 2).toNatClampNeg), .ref (g_ad G 161)]) (rest := []) C0.call (c_L_contourBetween hfl (List.mem_range.mpr (by decide)) h1) (vx_cwSW 4 C0.hts (g_goodS tm_L_164 tz_L_contourBetween tn_L tc_L_contourBetween) rfl rfl rfl ⟨by decide, by decide, by decide +kernel⟩ ⟨Nat.le_of_ble_eq_true rfl, Nat.le_of_ble_eq_true rfl⟩) ⟨g_blindL, fun U hU hw => ⟨rfl, g_pre C0 hW hU hw, g_NC.to hnc hw.alike⟩⟩ rfl rfl hl.1 rfl (Nat.le_of_ble_eq_true rfl) dL_law_861 ⟨by simp only [room_1]; omega, by simp only [room_1]; omega⟩) (fun H locs hW => ?_)
  refine lv_istore (lv' := (5, .int k) :: g_LV G b i) C0.hx C0.hb dL_law_864 hl (by decide) rfl (fun ls hl => ?_)
  have hl : lv_has ls 9 [(5, .int k), (0, .ref b), (1, .ref (g_ad G 0)), (2, .ref (g_ad G 120)), (3, .ref (g_ad G 161)), (4, .int i)] := hl
  refine lv_aload_n C0.hx C0.hb dL_law_866 rfl (lv_at hl 3 rfl) ?_
  refine lv_aload_n C0.hx C0.hb dL_law_867 rfl (lv_at hl 1 rfl) ?_
  refine lv_iload C0.hx C0.hb dL_law_868 (lv_at hl 5 rfl) ?_
  refine lv_iconst (v := (1 : Int32)) C0.hx C0.hb dL_law_870 (by decide) ?_
  refine lv_iadd C0.hx C0.hb dL_law_871 ?_
  refine va_sld C0.hx C0.hb hX hbl hbA hW.2.2 (hin 1 (by decide)) dL_law_872 ?_
  refine lv_aload_n C0.hx C0.hb dL_law_873 rfl (lv_at hl 1 rfl) ?_
  refine lv_iload C0.hx C0.hb dL_law_874 (lv_at hl 5 rfl) ?_
  refine lv_iconst (v := (2 : Int32)) C0.hx C0.hb dL_law_876 (by decide) ?_
  refine lv_iadd C0.hx C0.hb dL_law_877 ?_
  refine va_sld C0.hx C0.hb hX hbl hbA hW.2.2 (hin 2 (by decide)) dL_law_878 ?_
  refine g_calli hW (g_runV (As := [.int (xs (i + 1).toNatClampNeg), .int (xs (i + 2).toNatClampNeg)]) (rest := []) C0 hW (c_X15_contourBetween h2) (g_cwL (n := 2) tc_X15_contourBetween tn_X15 ⟨by decide, by decide, by decide +kernel⟩ (by decide) (by decide) (by omega) (by omega)) tm_L_166 ti_X15_contourBetween ts_X15_contourBetween (C0.mem (i := 120) (Nat.le_of_ble_eq_true rfl)) (g_c12 k_120) rfl rfl hl.1 rfl (Nat.le_of_ble_eq_true rfl) dL_law_879) (fun H locs hW => ?_)
  refine lv_istore (lv' := [(6, .int r), (5, .int k), (0, .ref b), (1, .ref (g_ad G 0)), (2, .ref (g_ad G 120)), (3, .ref (g_ad G 161)), (4, .int i)]) C0.hx C0.hb dL_law_882 hl (by decide) rfl (fun ls hl => ?_)
  refine lv_aload_n C0.hx C0.hb dL_law_884 rfl (lv_at hl 4 rfl) ?_
  refine g_calli hW (g_runV (As := []) (rest := []) C0 hW (c_X15_thrown (q := y1 120 0) rfl) (g_cwL (n := 0) tc_X15_thrown tn_X15 ⟨by decide, by decide, by decide +kernel⟩ (by decide) (by decide) (by omega) (by omega)) tm_L_106 ti_X15_thrown ts_X15_thrown (C0.mem (i := 120) (Nat.le_of_ble_eq_true rfl)) (g_c12 k_120) rfl rfl hl.1 rfl (Nat.le_of_ble_eq_true rfl) dL_law_885) (fun H locs hW => ?_)
  refine lv_iload C0.hx C0.hb dL_law_888 (lv_at hl 1 rfl) ?_
  refine lv_icmp_eq (tgt := 895) C0.hx C0.hb dL_law_890 (by decide) (fun _ => ?_) (fun hc => absurd h3 hc)
  refine lv_iload C0.hx C0.hb dL_law_895 (lv_at hl 1 rfl) ?_
  refine lv_if_ne (tgt := 912) C0.hx C0.hb dL_law_897 (by decide) (fun hc => ?_) (fun hc => ?_)
  · refine lv_goto (tgt := 1913) C0.hx C0.hb dL_law_912 (by decide) ?_
    refine W.widen (k := cells + 900) (n := slots + 13000) (by omega) (by omega) ?_
    exact K x1 y1 o1 H locs ls h5 hW (lv_sub hl [2, 3, 4, 5, 6] rfl)
  · have hk : k = 0 := hc
    have h0 := h4 hk
    refine lv_aload_n C0.hx C0.hb dL_law_900 rfl (lv_at hl 5 rfl) ?_
    refine lv_iconst (v := (0 : Int32)) C0.hx C0.hb dL_law_901 (by decide) ?_
    refine ga_38 C0 hW (List.mem_range.mpr (by decide)) k_161 (by decide) dL_law_902 ?_
    refine lv_iload C0.hx C0.hb dL_law_903 (lv_at hl 0 rfl) ?_
    refine lv_i2l (v := r.toInt64) C0.hx C0.hb dL_law_905 rfl ?_
    refine W.lcmp C0.hx C0.hb dL_law_906 ?_
    refine lv_if_eq (tgt := 912) C0.hx C0.hb dL_law_907 (by decide) (fun hc => ?_) (fun hc => absurd (by show lg_cmp (o1 0).toInt64 r.toInt64 = 0; rw [h0]; exact g_cmp0) hc)
    refine lv_goto (tgt := 1913) C0.hx C0.hb dL_law_912 (by decide) ?_
    refine W.widen (k := cells + 900) (n := slots + 13000) (by omega) (by omega) ?_
    exact K x1 y1 o1 H locs ls h5 hW (lv_sub hl [2, 3, 4, 5, 6] rfl)
theorem w_L_nearestTo (C0 : g_X G (List.range 162) p s m #[.ref b] meth c cL_law 9 RL ret) (hW : g_W G (List.range 162) (x, y, o) s.heap H locs) (hR : pp_R x y) (hl : lv_has ls 9 (g_LV G b i)) (hcl : cells + 900 ≤ 601024) (hsl : slots + 13000 ≤ 7293034) (hfl : l.stackTraces = false) (hnc : g_NC s) (hX : va_X b L xs s s.heap) (hbl : b < s.heap.size) (hbA : ¬ g_A G b) (hin : ∀ j : Nat, j ≤ 5 → vp_in (i + nI j) L) (K : ∀ (x' : CS) (y' : MS) (o' : Nat → Int32) (H' : Heap) (locs' : List Loc) (ls' : Array Slot), pp_R x' y' → g_W G (List.range 162) (x', y', o') s.heap H' locs' → lv_has ls' 9 (g_LV G b i) → W p l e room_1 s m #[.ref b] below meth c H' locs' (cells + 900) (slots + 13000) Q (F0 m 1913 ls' [])) : W p l e room_1 s m #[.ref b] below meth c H locs cells slots Q (F0 m 990 ls []) := by
  obtain ⟨k, x1, o1, r, y1, h1, h2, h3, h4, h5⟩ := pp_o18 (p := xs (i + 1).toNatClampNeg) (o := o) hR
  refine lv_aload_n C0.hx C0.hb dL_law_990 rfl (lv_at hl 1 rfl) ?_
  refine lv_aload_n C0.hx C0.hb dL_law_991 rfl (lv_at hl 0 rfl) ?_
  refine lv_iload C0.hx C0.hb dL_law_992 (lv_at hl 4 rfl) ?_
  refine lv_iconst (v := (1 : Int32)) C0.hx C0.hb dL_law_994 (by decide) ?_
  refine lv_iadd C0.hx C0.hb dL_law_995 ?_
  refine va_sld C0.hx C0.hb hX hbl hbA hW.2.2 (hin 1 (by decide)) dL_law_996 ?_
  refine lv_aload_n C0.hx C0.hb dL_law_997 rfl (lv_at hl 3 rfl) ?_
  refine g_calli hW (vx_runSW (As := [.ref (g_ad G 0), .int (xs (i + 1).toNatClampNeg), .ref (g_ad G 161)]) (rest := []) C0.call (c_L_nearestTo hfl (List.mem_range.mpr (by decide)) h1) (vx_cwSW 3 C0.hts (g_goodS tm_L_170 tz_L_nearestTo tn_L tc_L_nearestTo) rfl rfl rfl ⟨by decide, by decide, by decide +kernel⟩ ⟨Nat.le_of_ble_eq_true rfl, Nat.le_of_ble_eq_true rfl⟩) ⟨g_blindL, fun U hU hw => ⟨rfl, g_pre C0 hW hU hw, g_NC.to hnc hw.alike⟩⟩ rfl rfl hl.1 rfl (Nat.le_of_ble_eq_true rfl) dL_law_998 ⟨by simp only [room_1]; omega, by simp only [room_1]; omega⟩) (fun H locs hW => ?_)
  refine lv_istore (lv' := (5, .int k) :: g_LV G b i) C0.hx C0.hb dL_law_1001 hl (by decide) rfl (fun ls hl => ?_)
  have hl : lv_has ls 9 [(5, .int k), (0, .ref b), (1, .ref (g_ad G 0)), (2, .ref (g_ad G 120)), (3, .ref (g_ad G 161)), (4, .int i)] := hl
  refine lv_aload_n C0.hx C0.hb dL_law_1003 rfl (lv_at hl 3 rfl) ?_
  refine lv_aload_n C0.hx C0.hb dL_law_1004 rfl (lv_at hl 1 rfl) ?_
  refine lv_iload C0.hx C0.hb dL_law_1005 (lv_at hl 5 rfl) ?_
  refine lv_iconst (v := (1 : Int32)) C0.hx C0.hb dL_law_1007 (by decide) ?_
  refine lv_iadd C0.hx C0.hb dL_law_1008 ?_
  refine va_sld C0.hx C0.hb hX hbl hbA hW.2.2 (hin 1 (by decide)) dL_law_1009 ?_
  refine g_calli hW (g_runV (As := [.int (xs (i + 1).toNatClampNeg)]) (rest := []) C0 hW (c_X15_nearestTo h2) (g_cwL (n := 1) tc_X15_nearestTo tn_X15 ⟨by decide, by decide, by decide +kernel⟩ (by decide) (by decide) (by omega) (by omega)) tm_L_172 ti_X15_nearestTo ts_X15_nearestTo (C0.mem (i := 120) (Nat.le_of_ble_eq_true rfl)) (g_c12 k_120) rfl rfl hl.1 rfl (Nat.le_of_ble_eq_true rfl) dL_law_1010) (fun H locs hW => ?_)
  refine lv_istore (lv' := [(6, .int r), (5, .int k), (0, .ref b), (1, .ref (g_ad G 0)), (2, .ref (g_ad G 120)), (3, .ref (g_ad G 161)), (4, .int i)]) C0.hx C0.hb dL_law_1013 hl (by decide) rfl (fun ls hl => ?_)
  refine lv_aload_n C0.hx C0.hb dL_law_1015 rfl (lv_at hl 4 rfl) ?_
  refine g_calli hW (g_runV (As := []) (rest := []) C0 hW (c_X15_thrown (q := y1 120 0) rfl) (g_cwL (n := 0) tc_X15_thrown tn_X15 ⟨by decide, by decide, by decide +kernel⟩ (by decide) (by decide) (by omega) (by omega)) tm_L_106 ti_X15_thrown ts_X15_thrown (C0.mem (i := 120) (Nat.le_of_ble_eq_true rfl)) (g_c12 k_120) rfl rfl hl.1 rfl (Nat.le_of_ble_eq_true rfl) dL_law_1016) (fun H locs hW => ?_)
  refine lv_iload C0.hx C0.hb dL_law_1019 (lv_at hl 1 rfl) ?_
  refine lv_icmp_eq (tgt := 1026) C0.hx C0.hb dL_law_1021 (by decide) (fun _ => ?_) (fun hc => absurd h3 hc)
  refine lv_iload C0.hx C0.hb dL_law_1026 (lv_at hl 1 rfl) ?_
  refine lv_if_ne (tgt := 1043) C0.hx C0.hb dL_law_1028 (by decide) (fun hc => ?_) (fun hc => ?_)
  · refine lv_goto (tgt := 1913) C0.hx C0.hb dL_law_1043 (by decide) ?_
    refine W.widen (k := cells + 900) (n := slots + 13000) (by omega) (by omega) ?_
    exact K x1 y1 o1 H locs ls h5 hW (lv_sub hl [2, 3, 4, 5, 6] rfl)
  · have hk : k = 0 := hc
    have h0 := h4 hk
    refine lv_aload_n C0.hx C0.hb dL_law_1031 rfl (lv_at hl 5 rfl) ?_
    refine lv_iconst (v := (0 : Int32)) C0.hx C0.hb dL_law_1032 (by decide) ?_
    refine ga_38 C0 hW (List.mem_range.mpr (by decide)) k_161 (by decide) dL_law_1033 ?_
    refine lv_iload C0.hx C0.hb dL_law_1034 (lv_at hl 0 rfl) ?_
    refine lv_i2l (v := r.toInt64) C0.hx C0.hb dL_law_1036 rfl ?_
    refine W.lcmp C0.hx C0.hb dL_law_1037 ?_
    refine lv_if_eq (tgt := 1043) C0.hx C0.hb dL_law_1038 (by decide) (fun hc => ?_) (fun hc => absurd (by show lg_cmp (o1 0).toInt64 r.toInt64 = 0; rw [h0]; exact g_cmp0) hc)
    refine lv_goto (tgt := 1913) C0.hx C0.hb dL_law_1043 (by decide) ?_
    refine W.widen (k := cells + 900) (n := slots + 13000) (by omega) (by omega) ?_
    exact K x1 y1 o1 H locs ls h5 hW (lv_sub hl [2, 3, 4, 5, 6] rfl)
theorem w_L_heardPitch (C0 : g_X G (List.range 162) p s m #[.ref b] meth c cL_law 9 RL ret) (hW : g_W G (List.range 162) (x, y, o) s.heap H locs) (hR : pp_R x y) (hl : lv_has ls 9 (g_LV G b i)) (hcl : cells + 900 ≤ 601024) (hsl : slots + 13000 ≤ 7293034) (hfl : l.stackTraces = false) (hnc : g_NC s) (hX : va_X b L xs s s.heap) (hbl : b < s.heap.size) (hbA : ¬ g_A G b) (hin : ∀ j : Nat, j ≤ 5 → vp_in (i + nI j) L) (K : ∀ (x' : CS) (y' : MS) (o' : Nat → Int32) (H' : Heap) (locs' : List Loc) (ls' : Array Slot), pp_R x' y' → g_W G (List.range 162) (x', y', o') s.heap H' locs' → lv_has ls' 9 (g_LV G b i) → W p l e room_1 s m #[.ref b] below meth c H' locs' (cells + 900) (slots + 13000) Q (F0 m 1913 ls' [])) : W p l e room_1 s m #[.ref b] below meth c H locs cells slots Q (F0 m 1109 ls []) := by
  obtain ⟨k, x1, o1, r, y1, h1, h2, h3, h4, h5⟩ := pp_o20 (p := xs (i + 1).toNatClampNeg) (o := o) hR
  refine lv_aload_n C0.hx C0.hb dL_law_1109 rfl (lv_at hl 1 rfl) ?_
  refine lv_aload_n C0.hx C0.hb dL_law_1110 rfl (lv_at hl 0 rfl) ?_
  refine lv_iload C0.hx C0.hb dL_law_1111 (lv_at hl 4 rfl) ?_
  refine lv_iconst (v := (1 : Int32)) C0.hx C0.hb dL_law_1113 (by decide) ?_
  refine lv_iadd C0.hx C0.hb dL_law_1114 ?_
  refine va_sld C0.hx C0.hb hX hbl hbA hW.2.2 (hin 1 (by decide)) dL_law_1115 ?_
  refine lv_aload_n C0.hx C0.hb dL_law_1116 rfl (lv_at hl 3 rfl) ?_
  refine g_calli hW (vx_runSW (As := [.ref (g_ad G 0), .int (xs (i + 1).toNatClampNeg), .ref (g_ad G 161)]) (rest := []) C0.call (c_L_heardPitch hfl (List.mem_range.mpr (by decide)) h1) (vx_cwSW 3 C0.hts (g_goodS tm_L_176 tz_L_heardPitch tn_L tc_L_heardPitch) rfl rfl rfl ⟨by decide, by decide, by decide +kernel⟩ ⟨Nat.le_of_ble_eq_true rfl, Nat.le_of_ble_eq_true rfl⟩) ⟨g_blindL, fun U hU hw => ⟨rfl, g_pre C0 hW hU hw, g_NC.to hnc hw.alike⟩⟩ rfl rfl hl.1 rfl (Nat.le_of_ble_eq_true rfl) dL_law_1117 ⟨by simp only [room_1]; omega, by simp only [room_1]; omega⟩) (fun H locs hW => ?_)
  refine lv_istore (lv' := (5, .int k) :: g_LV G b i) C0.hx C0.hb dL_law_1120 hl (by decide) rfl (fun ls hl => ?_)
  have hl : lv_has ls 9 [(5, .int k), (0, .ref b), (1, .ref (g_ad G 0)), (2, .ref (g_ad G 120)), (3, .ref (g_ad G 161)), (4, .int i)] := hl
  refine lv_aload_n C0.hx C0.hb dL_law_1122 rfl (lv_at hl 3 rfl) ?_
  refine lv_aload_n C0.hx C0.hb dL_law_1123 rfl (lv_at hl 1 rfl) ?_
  refine lv_iload C0.hx C0.hb dL_law_1124 (lv_at hl 5 rfl) ?_
  refine lv_iconst (v := (1 : Int32)) C0.hx C0.hb dL_law_1126 (by decide) ?_
  refine lv_iadd C0.hx C0.hb dL_law_1127 ?_
  refine va_sld C0.hx C0.hb hX hbl hbA hW.2.2 (hin 1 (by decide)) dL_law_1128 ?_
  refine g_calli hW (g_runV (As := [.int (xs (i + 1).toNatClampNeg)]) (rest := []) C0 hW (c_X15_heardPitch h2) (g_cwL (n := 1) tc_X15_heardPitch tn_X15 ⟨by decide, by decide, by decide +kernel⟩ (by decide) (by decide) (by omega) (by omega)) tm_L_178 ti_X15_heardPitch ts_X15_heardPitch (C0.mem (i := 120) (Nat.le_of_ble_eq_true rfl)) (g_c12 k_120) rfl rfl hl.1 rfl (Nat.le_of_ble_eq_true rfl) dL_law_1129) (fun H locs hW => ?_)
  refine lv_istore (lv' := [(6, .int r), (5, .int k), (0, .ref b), (1, .ref (g_ad G 0)), (2, .ref (g_ad G 120)), (3, .ref (g_ad G 161)), (4, .int i)]) C0.hx C0.hb dL_law_1132 hl (by decide) rfl (fun ls hl => ?_)
  refine lv_aload_n C0.hx C0.hb dL_law_1134 rfl (lv_at hl 4 rfl) ?_
  refine g_calli hW (g_runV (As := []) (rest := []) C0 hW (c_X15_thrown (q := y1 120 0) rfl) (g_cwL (n := 0) tc_X15_thrown tn_X15 ⟨by decide, by decide, by decide +kernel⟩ (by decide) (by decide) (by omega) (by omega)) tm_L_106 ti_X15_thrown ts_X15_thrown (C0.mem (i := 120) (Nat.le_of_ble_eq_true rfl)) (g_c12 k_120) rfl rfl hl.1 rfl (Nat.le_of_ble_eq_true rfl) dL_law_1135) (fun H locs hW => ?_)
  refine lv_iload C0.hx C0.hb dL_law_1138 (lv_at hl 1 rfl) ?_
  refine lv_icmp_eq (tgt := 1145) C0.hx C0.hb dL_law_1140 (by decide) (fun _ => ?_) (fun hc => absurd h3 hc)
  refine lv_iload C0.hx C0.hb dL_law_1145 (lv_at hl 1 rfl) ?_
  refine lv_if_ne (tgt := 1162) C0.hx C0.hb dL_law_1147 (by decide) (fun hc => ?_) (fun hc => ?_)
  · refine lv_goto (tgt := 1913) C0.hx C0.hb dL_law_1162 (by decide) ?_
    refine W.widen (k := cells + 900) (n := slots + 13000) (by omega) (by omega) ?_
    exact K x1 y1 o1 H locs ls h5 hW (lv_sub hl [2, 3, 4, 5, 6] rfl)
  · have hk : k = 0 := hc
    have h0 := h4 hk
    refine lv_aload_n C0.hx C0.hb dL_law_1150 rfl (lv_at hl 5 rfl) ?_
    refine lv_iconst (v := (0 : Int32)) C0.hx C0.hb dL_law_1151 (by decide) ?_
    refine ga_38 C0 hW (List.mem_range.mpr (by decide)) k_161 (by decide) dL_law_1152 ?_
    refine lv_iload C0.hx C0.hb dL_law_1153 (lv_at hl 0 rfl) ?_
    refine lv_i2l (v := r.toInt64) C0.hx C0.hb dL_law_1155 rfl ?_
    refine W.lcmp C0.hx C0.hb dL_law_1156 ?_
    refine lv_if_eq (tgt := 1162) C0.hx C0.hb dL_law_1157 (by decide) (fun hc => ?_) (fun hc => absurd (by show lg_cmp (o1 0).toInt64 r.toInt64 = 0; rw [h0]; exact g_cmp0) hc)
    refine lv_goto (tgt := 1913) C0.hx C0.hb dL_law_1162 (by decide) ?_
    refine W.widen (k := cells + 900) (n := slots + 13000) (by omega) (by omega) ?_
    exact K x1 y1 o1 H locs ls h5 hW (lv_sub hl [2, 3, 4, 5, 6] rfl)
theorem w_L_distanceTo (C0 : g_X G (List.range 162) p s m #[.ref b] meth c cL_law 9 RL ret) (hW : g_W G (List.range 162) (x, y, o) s.heap H locs) (hR : pp_R x y) (hl : lv_has ls 9 (g_LV G b i)) (hcl : cells + 900 ≤ 601024) (hsl : slots + 13000 ≤ 7293034) (hfl : l.stackTraces = false) (hnc : g_NC s) (hX : va_X b L xs s s.heap) (hbl : b < s.heap.size) (hbA : ¬ g_A G b) (hin : ∀ j : Nat, j ≤ 5 → vp_in (i + nI j) L) (K : ∀ (x' : CS) (y' : MS) (o' : Nat → Int32) (H' : Heap) (locs' : List Loc) (ls' : Array Slot), pp_R x' y' → g_W G (List.range 162) (x', y', o') s.heap H' locs' → lv_has ls' 9 (g_LV G b i) → W p l e room_1 s m #[.ref b] below meth c H' locs' (cells + 900) (slots + 13000) Q (F0 m 1913 ls' [])) : W p l e room_1 s m #[.ref b] below meth c H locs cells slots Q (F0 m 1165 ls []) := by
  obtain ⟨k, x1, o1, r, y1, h1, h2, h3, h4, h5⟩ := pp_o21 (p := xs (i + 1).toNatClampNeg) (o := o) hR
  refine lv_aload_n C0.hx C0.hb dL_law_1165 rfl (lv_at hl 1 rfl) ?_
  refine lv_aload_n C0.hx C0.hb dL_law_1166 rfl (lv_at hl 0 rfl) ?_
  refine lv_iload C0.hx C0.hb dL_law_1167 (lv_at hl 4 rfl) ?_
  refine lv_iconst (v := (1 : Int32)) C0.hx C0.hb dL_law_1169 (by decide) ?_
  refine lv_iadd C0.hx C0.hb dL_law_1170 ?_
  refine va_sld C0.hx C0.hb hX hbl hbA hW.2.2 (hin 1 (by decide)) dL_law_1171 ?_
  refine lv_aload_n C0.hx C0.hb dL_law_1172 rfl (lv_at hl 3 rfl) ?_
  refine g_calli hW (vx_runSW (As := [.ref (g_ad G 0), .int (xs (i + 1).toNatClampNeg), .ref (g_ad G 161)]) (rest := []) C0.call (c_L_distanceTo hfl (List.mem_range.mpr (by decide)) h1) (vx_cwSW 3 C0.hts (g_goodS tm_L_179 tz_L_distanceTo tn_L tc_L_distanceTo) rfl rfl rfl ⟨by decide, by decide, by decide +kernel⟩ ⟨Nat.le_of_ble_eq_true rfl, Nat.le_of_ble_eq_true rfl⟩) ⟨g_blindL, fun U hU hw => ⟨rfl, g_pre C0 hW hU hw, g_NC.to hnc hw.alike⟩⟩ rfl rfl hl.1 rfl (Nat.le_of_ble_eq_true rfl) dL_law_1173 ⟨by simp only [room_1]; omega, by simp only [room_1]; omega⟩) (fun H locs hW => ?_)
  refine lv_istore (lv' := (5, .int k) :: g_LV G b i) C0.hx C0.hb dL_law_1176 hl (by decide) rfl (fun ls hl => ?_)
  have hl : lv_has ls 9 [(5, .int k), (0, .ref b), (1, .ref (g_ad G 0)), (2, .ref (g_ad G 120)), (3, .ref (g_ad G 161)), (4, .int i)] := hl
  refine lv_aload_n C0.hx C0.hb dL_law_1178 rfl (lv_at hl 3 rfl) ?_
  refine lv_aload_n C0.hx C0.hb dL_law_1179 rfl (lv_at hl 1 rfl) ?_
  refine lv_iload C0.hx C0.hb dL_law_1180 (lv_at hl 5 rfl) ?_
  refine lv_iconst (v := (1 : Int32)) C0.hx C0.hb dL_law_1182 (by decide) ?_
  refine lv_iadd C0.hx C0.hb dL_law_1183 ?_
  refine va_sld C0.hx C0.hb hX hbl hbA hW.2.2 (hin 1 (by decide)) dL_law_1184 ?_
  refine g_calli hW (g_runV (As := [.int (xs (i + 1).toNatClampNeg)]) (rest := []) C0 hW (c_X15_distanceTo h2) (g_cwL (n := 1) tc_X15_distanceTo tn_X15 ⟨by decide, by decide, by decide +kernel⟩ (by decide) (by decide) (by omega) (by omega)) tm_L_181 ti_X15_distanceTo ts_X15_distanceTo (C0.mem (i := 120) (Nat.le_of_ble_eq_true rfl)) (g_c12 k_120) rfl rfl hl.1 rfl (Nat.le_of_ble_eq_true rfl) dL_law_1185) (fun H locs hW => ?_)
  refine lv_istore (lv' := [(6, .int r), (5, .int k), (0, .ref b), (1, .ref (g_ad G 0)), (2, .ref (g_ad G 120)), (3, .ref (g_ad G 161)), (4, .int i)]) C0.hx C0.hb dL_law_1188 hl (by decide) rfl (fun ls hl => ?_)
  refine lv_aload_n C0.hx C0.hb dL_law_1190 rfl (lv_at hl 4 rfl) ?_
  refine g_calli hW (g_runV (As := []) (rest := []) C0 hW (c_X15_thrown (q := y1 120 0) rfl) (g_cwL (n := 0) tc_X15_thrown tn_X15 ⟨by decide, by decide, by decide +kernel⟩ (by decide) (by decide) (by omega) (by omega)) tm_L_106 ti_X15_thrown ts_X15_thrown (C0.mem (i := 120) (Nat.le_of_ble_eq_true rfl)) (g_c12 k_120) rfl rfl hl.1 rfl (Nat.le_of_ble_eq_true rfl) dL_law_1191) (fun H locs hW => ?_)
  refine lv_iload C0.hx C0.hb dL_law_1194 (lv_at hl 1 rfl) ?_
  refine lv_icmp_eq (tgt := 1201) C0.hx C0.hb dL_law_1196 (by decide) (fun _ => ?_) (fun hc => absurd h3 hc)
  refine lv_iload C0.hx C0.hb dL_law_1201 (lv_at hl 1 rfl) ?_
  refine lv_if_ne (tgt := 1218) C0.hx C0.hb dL_law_1203 (by decide) (fun hc => ?_) (fun hc => ?_)
  · refine lv_goto (tgt := 1913) C0.hx C0.hb dL_law_1218 (by decide) ?_
    refine W.widen (k := cells + 900) (n := slots + 13000) (by omega) (by omega) ?_
    exact K x1 y1 o1 H locs ls h5 hW (lv_sub hl [2, 3, 4, 5, 6] rfl)
  · have hk : k = 0 := hc
    have h0 := h4 hk
    refine lv_aload_n C0.hx C0.hb dL_law_1206 rfl (lv_at hl 5 rfl) ?_
    refine lv_iconst (v := (0 : Int32)) C0.hx C0.hb dL_law_1207 (by decide) ?_
    refine ga_38 C0 hW (List.mem_range.mpr (by decide)) k_161 (by decide) dL_law_1208 ?_
    refine lv_iload C0.hx C0.hb dL_law_1209 (lv_at hl 0 rfl) ?_
    refine lv_i2l (v := r.toInt64) C0.hx C0.hb dL_law_1211 rfl ?_
    refine W.lcmp C0.hx C0.hb dL_law_1212 ?_
    refine lv_if_eq (tgt := 1218) C0.hx C0.hb dL_law_1213 (by decide) (fun hc => ?_) (fun hc => absurd (by show lg_cmp (o1 0).toInt64 r.toInt64 = 0; rw [h0]; exact g_cmp0) hc)
    refine lv_goto (tgt := 1913) C0.hx C0.hb dL_law_1218 (by decide) ?_
    refine W.widen (k := cells + 900) (n := slots + 13000) (by omega) (by omega) ?_
    exact K x1 y1 o1 H locs ls h5 hW (lv_sub hl [2, 3, 4, 5, 6] rfl)
theorem w_L_contourTo (C0 : g_X G (List.range 162) p s m #[.ref b] meth c cL_law 9 RL ret) (hW : g_W G (List.range 162) (x, y, o) s.heap H locs) (hR : pp_R x y) (hl : lv_has ls 9 (g_LV G b i)) (hcl : cells + 900 ≤ 601024) (hsl : slots + 13000 ≤ 7293034) (hfl : l.stackTraces = false) (hnc : g_NC s) (hX : va_X b L xs s s.heap) (hbl : b < s.heap.size) (hbA : ¬ g_A G b) (hin : ∀ j : Nat, j ≤ 5 → vp_in (i + nI j) L) (K : ∀ (x' : CS) (y' : MS) (o' : Nat → Int32) (H' : Heap) (locs' : List Loc) (ls' : Array Slot), pp_R x' y' → g_W G (List.range 162) (x', y', o') s.heap H' locs' → lv_has ls' 9 (g_LV G b i) → W p l e room_1 s m #[.ref b] below meth c H' locs' (cells + 900) (slots + 13000) Q (F0 m 1913 ls' [])) : W p l e room_1 s m #[.ref b] below meth c H locs cells slots Q (F0 m 1221 ls []) := by
  obtain ⟨k, x1, o1, r, y1, h1, h2, h3, h4, h5⟩ := pp_o22 (p := xs (i + 1).toNatClampNeg) (o := o) hR
  refine lv_aload_n C0.hx C0.hb dL_law_1221 rfl (lv_at hl 1 rfl) ?_
  refine lv_aload_n C0.hx C0.hb dL_law_1222 rfl (lv_at hl 0 rfl) ?_
  refine lv_iload C0.hx C0.hb dL_law_1223 (lv_at hl 4 rfl) ?_
  refine lv_iconst (v := (1 : Int32)) C0.hx C0.hb dL_law_1225 (by decide) ?_
  refine lv_iadd C0.hx C0.hb dL_law_1226 ?_
  refine va_sld C0.hx C0.hb hX hbl hbA hW.2.2 (hin 1 (by decide)) dL_law_1227 ?_
  refine lv_aload_n C0.hx C0.hb dL_law_1228 rfl (lv_at hl 3 rfl) ?_
  refine g_calli hW (vx_runSW (As := [.ref (g_ad G 0), .int (xs (i + 1).toNatClampNeg), .ref (g_ad G 161)]) (rest := []) C0.call (c_L_contourTo hfl (List.mem_range.mpr (by decide)) h1) (vx_cwSW 3 C0.hts (g_goodS tm_L_182 tz_L_contourTo tn_L tc_L_contourTo) rfl rfl rfl ⟨by decide, by decide, by decide +kernel⟩ ⟨Nat.le_of_ble_eq_true rfl, Nat.le_of_ble_eq_true rfl⟩) ⟨g_blindL, fun U hU hw => ⟨rfl, g_pre C0 hW hU hw, g_NC.to hnc hw.alike⟩⟩ rfl rfl hl.1 rfl (Nat.le_of_ble_eq_true rfl) dL_law_1229 ⟨by simp only [room_1]; omega, by simp only [room_1]; omega⟩) (fun H locs hW => ?_)
  refine lv_istore (lv' := (5, .int k) :: g_LV G b i) C0.hx C0.hb dL_law_1232 hl (by decide) rfl (fun ls hl => ?_)
  have hl : lv_has ls 9 [(5, .int k), (0, .ref b), (1, .ref (g_ad G 0)), (2, .ref (g_ad G 120)), (3, .ref (g_ad G 161)), (4, .int i)] := hl
  refine lv_aload_n C0.hx C0.hb dL_law_1234 rfl (lv_at hl 3 rfl) ?_
  refine lv_aload_n C0.hx C0.hb dL_law_1235 rfl (lv_at hl 1 rfl) ?_
  refine lv_iload C0.hx C0.hb dL_law_1236 (lv_at hl 5 rfl) ?_
  refine lv_iconst (v := (1 : Int32)) C0.hx C0.hb dL_law_1238 (by decide) ?_
  refine lv_iadd C0.hx C0.hb dL_law_1239 ?_
  refine va_sld C0.hx C0.hb hX hbl hbA hW.2.2 (hin 1 (by decide)) dL_law_1240 ?_
  refine g_calli hW (g_runV (As := [.int (xs (i + 1).toNatClampNeg)]) (rest := []) C0 hW (c_X15_contourTo h2) (g_cwL (n := 1) tc_X15_contourTo tn_X15 ⟨by decide, by decide, by decide +kernel⟩ (by decide) (by decide) (by omega) (by omega)) tm_L_184 ti_X15_contourTo ts_X15_contourTo (C0.mem (i := 120) (Nat.le_of_ble_eq_true rfl)) (g_c12 k_120) rfl rfl hl.1 rfl (Nat.le_of_ble_eq_true rfl) dL_law_1241) (fun H locs hW => ?_)
  refine lv_istore (lv' := [(6, .int r), (5, .int k), (0, .ref b), (1, .ref (g_ad G 0)), (2, .ref (g_ad G 120)), (3, .ref (g_ad G 161)), (4, .int i)]) C0.hx C0.hb dL_law_1244 hl (by decide) rfl (fun ls hl => ?_)
  refine lv_aload_n C0.hx C0.hb dL_law_1246 rfl (lv_at hl 4 rfl) ?_
  refine g_calli hW (g_runV (As := []) (rest := []) C0 hW (c_X15_thrown (q := y1 120 0) rfl) (g_cwL (n := 0) tc_X15_thrown tn_X15 ⟨by decide, by decide, by decide +kernel⟩ (by decide) (by decide) (by omega) (by omega)) tm_L_106 ti_X15_thrown ts_X15_thrown (C0.mem (i := 120) (Nat.le_of_ble_eq_true rfl)) (g_c12 k_120) rfl rfl hl.1 rfl (Nat.le_of_ble_eq_true rfl) dL_law_1247) (fun H locs hW => ?_)
  refine lv_iload C0.hx C0.hb dL_law_1250 (lv_at hl 1 rfl) ?_
  refine lv_icmp_eq (tgt := 1257) C0.hx C0.hb dL_law_1252 (by decide) (fun _ => ?_) (fun hc => absurd h3 hc)
  refine lv_iload C0.hx C0.hb dL_law_1257 (lv_at hl 1 rfl) ?_
  refine lv_if_ne (tgt := 1274) C0.hx C0.hb dL_law_1259 (by decide) (fun hc => ?_) (fun hc => ?_)
  · refine lv_goto (tgt := 1913) C0.hx C0.hb dL_law_1274 (by decide) ?_
    refine W.widen (k := cells + 900) (n := slots + 13000) (by omega) (by omega) ?_
    exact K x1 y1 o1 H locs ls h5 hW (lv_sub hl [2, 3, 4, 5, 6] rfl)
  · have hk : k = 0 := hc
    have h0 := h4 hk
    refine lv_aload_n C0.hx C0.hb dL_law_1262 rfl (lv_at hl 5 rfl) ?_
    refine lv_iconst (v := (0 : Int32)) C0.hx C0.hb dL_law_1263 (by decide) ?_
    refine ga_38 C0 hW (List.mem_range.mpr (by decide)) k_161 (by decide) dL_law_1264 ?_
    refine lv_iload C0.hx C0.hb dL_law_1265 (lv_at hl 0 rfl) ?_
    refine lv_i2l (v := r.toInt64) C0.hx C0.hb dL_law_1267 rfl ?_
    refine W.lcmp C0.hx C0.hb dL_law_1268 ?_
    refine lv_if_eq (tgt := 1274) C0.hx C0.hb dL_law_1269 (by decide) (fun hc => ?_) (fun hc => absurd (by show lg_cmp (o1 0).toInt64 r.toInt64 = 0; rw [h0]; exact g_cmp0) hc)
    refine lv_goto (tgt := 1913) C0.hx C0.hb dL_law_1274 (by decide) ?_
    refine W.widen (k := cells + 900) (n := slots + 13000) (by omega) (by omega) ?_
    exact K x1 y1 o1 H locs ls h5 hW (lv_sub hl [2, 3, 4, 5, 6] rfl)
theorem w_L_stepsTo (C0 : g_X G (List.range 162) p s m #[.ref b] meth c cL_law 9 RL ret) (hW : g_W G (List.range 162) (x, y, o) s.heap H locs) (hR : pp_R x y) (hl : lv_has ls 9 (g_LV G b i)) (hcl : cells + 900 ≤ 601024) (hsl : slots + 13000 ≤ 7293034) (hfl : l.stackTraces = false) (hnc : g_NC s) (hX : va_X b L xs s s.heap) (hbl : b < s.heap.size) (hbA : ¬ g_A G b) (hin : ∀ j : Nat, j ≤ 5 → vp_in (i + nI j) L) (K : ∀ (x' : CS) (y' : MS) (o' : Nat → Int32) (H' : Heap) (locs' : List Loc) (ls' : Array Slot), pp_R x' y' → g_W G (List.range 162) (x', y', o') s.heap H' locs' → lv_has ls' 9 (g_LV G b i) → W p l e room_1 s m #[.ref b] below meth c H' locs' (cells + 900) (slots + 13000) Q (F0 m 1913 ls' [])) : W p l e room_1 s m #[.ref b] below meth c H locs cells slots Q (F0 m 1277 ls []) := by
  obtain ⟨k, x1, o1, r, y1, h1, h2, h3, h4, h5⟩ := pp_o23 (p := xs (i + 1).toNatClampNeg) (o := o) hR
  refine lv_aload_n C0.hx C0.hb dL_law_1277 rfl (lv_at hl 1 rfl) ?_
  refine lv_aload_n C0.hx C0.hb dL_law_1278 rfl (lv_at hl 0 rfl) ?_
  refine lv_iload C0.hx C0.hb dL_law_1279 (lv_at hl 4 rfl) ?_
  refine lv_iconst (v := (1 : Int32)) C0.hx C0.hb dL_law_1281 (by decide) ?_
  refine lv_iadd C0.hx C0.hb dL_law_1282 ?_
  refine va_sld C0.hx C0.hb hX hbl hbA hW.2.2 (hin 1 (by decide)) dL_law_1283 ?_
  refine lv_aload_n C0.hx C0.hb dL_law_1284 rfl (lv_at hl 3 rfl) ?_
  refine g_calli hW (vx_runSW (As := [.ref (g_ad G 0), .int (xs (i + 1).toNatClampNeg), .ref (g_ad G 161)]) (rest := []) C0.call (c_L_stepsTo hfl (List.mem_range.mpr (by decide)) h1) (vx_cwSW 3 C0.hts (g_goodS tm_L_185 tz_L_stepsTo tn_L tc_L_stepsTo) rfl rfl rfl ⟨by decide, by decide, by decide +kernel⟩ ⟨Nat.le_of_ble_eq_true rfl, Nat.le_of_ble_eq_true rfl⟩) ⟨g_blindL, fun U hU hw => ⟨rfl, g_pre C0 hW hU hw, g_NC.to hnc hw.alike⟩⟩ rfl rfl hl.1 rfl (Nat.le_of_ble_eq_true rfl) dL_law_1285 ⟨by simp only [room_1]; omega, by simp only [room_1]; omega⟩) (fun H locs hW => ?_)
  refine lv_istore (lv' := (5, .int k) :: g_LV G b i) C0.hx C0.hb dL_law_1288 hl (by decide) rfl (fun ls hl => ?_)
  have hl : lv_has ls 9 [(5, .int k), (0, .ref b), (1, .ref (g_ad G 0)), (2, .ref (g_ad G 120)), (3, .ref (g_ad G 161)), (4, .int i)] := hl
  refine lv_aload_n C0.hx C0.hb dL_law_1290 rfl (lv_at hl 3 rfl) ?_
  refine lv_aload_n C0.hx C0.hb dL_law_1291 rfl (lv_at hl 1 rfl) ?_
  refine lv_iload C0.hx C0.hb dL_law_1292 (lv_at hl 5 rfl) ?_
  refine lv_iconst (v := (1 : Int32)) C0.hx C0.hb dL_law_1294 (by decide) ?_
  refine lv_iadd C0.hx C0.hb dL_law_1295 ?_
  refine va_sld C0.hx C0.hb hX hbl hbA hW.2.2 (hin 1 (by decide)) dL_law_1296 ?_
  refine g_calli hW (g_runV (As := [.int (xs (i + 1).toNatClampNeg)]) (rest := []) C0 hW (c_X15_stepsTo h2) (g_cwL (n := 1) tc_X15_stepsTo tn_X15 ⟨by decide, by decide, by decide +kernel⟩ (by decide) (by decide) (by omega) (by omega)) tm_L_187 ti_X15_stepsTo ts_X15_stepsTo (C0.mem (i := 120) (Nat.le_of_ble_eq_true rfl)) (g_c12 k_120) rfl rfl hl.1 rfl (Nat.le_of_ble_eq_true rfl) dL_law_1297) (fun H locs hW => ?_)
  refine lv_istore (lv' := [(6, .int r), (5, .int k), (0, .ref b), (1, .ref (g_ad G 0)), (2, .ref (g_ad G 120)), (3, .ref (g_ad G 161)), (4, .int i)]) C0.hx C0.hb dL_law_1300 hl (by decide) rfl (fun ls hl => ?_)
  refine lv_aload_n C0.hx C0.hb dL_law_1302 rfl (lv_at hl 4 rfl) ?_
  refine g_calli hW (g_runV (As := []) (rest := []) C0 hW (c_X15_thrown (q := y1 120 0) rfl) (g_cwL (n := 0) tc_X15_thrown tn_X15 ⟨by decide, by decide, by decide +kernel⟩ (by decide) (by decide) (by omega) (by omega)) tm_L_106 ti_X15_thrown ts_X15_thrown (C0.mem (i := 120) (Nat.le_of_ble_eq_true rfl)) (g_c12 k_120) rfl rfl hl.1 rfl (Nat.le_of_ble_eq_true rfl) dL_law_1303) (fun H locs hW => ?_)
  refine lv_iload C0.hx C0.hb dL_law_1306 (lv_at hl 1 rfl) ?_
  refine lv_icmp_eq (tgt := 1313) C0.hx C0.hb dL_law_1308 (by decide) (fun _ => ?_) (fun hc => absurd h3 hc)
  refine lv_iload C0.hx C0.hb dL_law_1313 (lv_at hl 1 rfl) ?_
  refine lv_if_ne (tgt := 1330) C0.hx C0.hb dL_law_1315 (by decide) (fun hc => ?_) (fun hc => ?_)
  · refine lv_goto (tgt := 1913) C0.hx C0.hb dL_law_1330 (by decide) ?_
    refine W.widen (k := cells + 900) (n := slots + 13000) (by omega) (by omega) ?_
    exact K x1 y1 o1 H locs ls h5 hW (lv_sub hl [2, 3, 4, 5, 6] rfl)
  · have hk : k = 0 := hc
    have h0 := h4 hk
    refine lv_aload_n C0.hx C0.hb dL_law_1318 rfl (lv_at hl 5 rfl) ?_
    refine lv_iconst (v := (0 : Int32)) C0.hx C0.hb dL_law_1319 (by decide) ?_
    refine ga_38 C0 hW (List.mem_range.mpr (by decide)) k_161 (by decide) dL_law_1320 ?_
    refine lv_iload C0.hx C0.hb dL_law_1321 (lv_at hl 0 rfl) ?_
    refine lv_i2l (v := r.toInt64) C0.hx C0.hb dL_law_1323 rfl ?_
    refine W.lcmp C0.hx C0.hb dL_law_1324 ?_
    refine lv_if_eq (tgt := 1330) C0.hx C0.hb dL_law_1325 (by decide) (fun hc => ?_) (fun hc => absurd (by show lg_cmp (o1 0).toInt64 r.toInt64 = 0; rw [h0]; exact g_cmp0) hc)
    refine lv_goto (tgt := 1913) C0.hx C0.hb dL_law_1330 (by decide) ?_
    refine W.widen (k := cells + 900) (n := slots + 13000) (by omega) (by omega) ?_
    exact K x1 y1 o1 H locs ls h5 hW (lv_sub hl [2, 3, 4, 5, 6] rfl)
end GLW
