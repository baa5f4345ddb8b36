set_option maxRecDepth 100000 in
set_option maxHeartbeats 4000000 in
theorem w_l_L_drawn_518 {p : Program} {l : Launch} {e : Env} {s : State} {m : MethodId} {args : Array Value} {below : List Frame} {meth : Method} {c : Code} {G : GL} {o : Nat → Int32} {y0 : MS} {x : CS} {q : Nat × MS}  (C0 : g_X G (List.range 120) p s m args meth c cL_drawn 16 RL (Option.some (Jvm.ClassFile.FieldType.object "GlideWhistlesLaw$Talk")))  : ∀ (n : Nat) (l0 : Nat) (l1 : Nat) (l4 : Nat) (l5 : Int32) (l6 : Int32) (l7 : Int32) (y : MS) (H : Heap) (locs : List Loc) (ls : Array Slot), f_l_L_drawn_518 n l0 l1 l4 l5 l6 l7 y = some q → h_W G y0 (x, y, o) s.heap H locs → lv_has ls 16 [(0, g_rf G (l0)), (1, g_rf G (l1)), (4, g_rf G (l4)), (5, .int (l5)), (6, .int (l6)), (7, .int (l7))] → W p l e (h_lv 86 y0) s m args below meth c H locs (h_nx y - h_nx y0) (h_sl y - h_sl y0) (MQ below (h_Qr G y0 (g_rf G (q.1)) (x, q.2, o)) args s (h_nx q.2 - h_nx y0) (h_sl q.2 - h_sl y0) (g_A G)) (F0 m 518 ls []) := by
  intro n
  induction n with
  | zero =>
    intro l0 l1 l4 l5 l6 l7 y H locs ls h hW hl
    exact absurd h (by simp [f_l_L_drawn_518])
  | succ n ih =>
    intro l0 l1 l4 l5 l6 l7 y H locs ls h hW hl
    unfold f_l_L_drawn_518 at h
    refine lv_iload C0.hx C0.hb dL_drawn_518 (lv_at hl 5 rfl) ?_
    refine lv_iload C0.hx C0.hb dL_drawn_520 (lv_at hl 4 rfl) ?_
    refine lv_icmp_ge (tgt := 565) C0.hx C0.hb dL_drawn_522 (by decide) (fun hc92 => ?_) (fun hc92 => ?_)
    · replace h := (if_pos hc92).symm.trans h
      refine h_aload C0.hx C0.hb dL_drawn_565 (lv_at hl 2 rfl) ?_
      obtain ⟨hk93, h⟩ := g_if h
      obtain rfl := Option.some.inj h
      exact h_aretC C0 hW (hW.rf (h_ne hk93 (by decide))) rfl dL_drawn_567
    · replace h := (if_neg hc92).symm.trans h
      refine h_aload C0.hx C0.hb dL_drawn_525 (lv_at hl 2 rfl) ?_
      obtain ⟨hk94, h⟩ := g_if h
      refine hf_X16_7 C0 hW hk94 tf_L_96 dL_drawn_527 ?_
      refine lv_iload C0.hx C0.hb dL_drawn_530 (lv_at hl 5 rfl) ?_
      obtain ⟨hn95, h⟩ := g_if h
      refine hno_52 C0 hW hn95 tl_L_94 dL_drawn_532 (fun H hW => ?_)
      refine lv_dup C0.hx C0.hb dL_drawn_535 g_catQ ?_
      refine h_aload_n C0.hx C0.hb dL_drawn_536 rfl (lv_at hl 0 rfl) ?_
      refine lv_iload C0.hx C0.hb dL_drawn_537 (lv_at hl 3 rfl) ?_
      obtain ⟨hk96, h⟩ := g_if h
      obtain ⟨q97, hq97, h⟩ := Option.bind_eq_some_iff.mp h
      refine h_callv hW (h_runI (As := [g_rf G (l0), .int (l5)]) (rest := [g_rf G (h_nx y), .int (l7), g_rf G (h_R y l4 7)]) C0 hW (hW.rf (h_ne hk96 (by decide))) (c_l_X15_init hq97) cy_X15_init (by omega) tm_L_100 ti_X15_init rfl rfl hl.1 rfl (by simp [g_catQ, h_ki, h_kr, h_kn, h_kl, h_kd]) dL_drawn_539) (fun H locs hW => ?_)
      obtain ⟨hk98, h⟩ := g_if h
      obtain ⟨hk99, h⟩ := g_if h
      obtain ⟨hn100, h⟩ := g_if h
      refine hs_64 C0 hW hk99 hk98 hn100 dL_drawn_542 (fun H locs hW => ?_)
      refine h_fwr hW ?_
      refine h_aload_n C0.hx C0.hb dL_drawn_543 rfl (lv_at hl 1 rfl) ?_
      refine h_aload C0.hx C0.hb dL_drawn_544 (lv_at hl 2 rfl) ?_
      obtain ⟨hk101, h⟩ := g_if h
      refine hf_X16_7 C0 hW hk101 tf_L_96 dL_drawn_546 ?_
      refine lv_iload C0.hx C0.hb dL_drawn_549 (lv_at hl 5 rfl) ?_
      obtain ⟨hk102, h⟩ := g_if h
      obtain ⟨hn103, h⟩ := g_if h
      refine ha_64 C0 hW hk102 hn103 dL_drawn_551 ?_
      obtain ⟨hk104, h⟩ := g_if h
      obtain ⟨q105, hq105, h⟩ := Option.bind_eq_some_iff.mp h
      refine h_callr hW (h_runV (As := []) (rest := [g_rf G (l1)]) C0 hW (hW.rf (h_ne hk104 (by decide))) (h_recv C0 hW (h_ne hk104 (by decide)) (h_c52 hk104) rfl) (c_l_X15_text hq105) cy_X15_text (by omega) tm_L_103 ti_X15_text ts_X15_text rfl hl.1 rfl (by simp [g_catQ, h_ki, h_kr, h_kn, h_kl, h_kd]) dL_drawn_552) (fun H locs hW => ?_)
      obtain ⟨hk106, h⟩ := g_if h
      obtain ⟨q107, hq107, h⟩ := Option.bind_eq_some_iff.mp h
      refine h_callr hW (h_runV (As := [.ref (g_sa G (q105.1))]) (rest := []) C0 hW (hW.rf (h_ne hk106 (by decide))) (h_recv C0 hW (h_ne hk106 (by decide)) (h_c54 hk106) rfl) (c_l_J4_append_15ec4 hq107) cy_J4_append_15ec4 (by omega) tm_L_54 ti_J4_append_15ec4 ts_J4_append_15ec4 rfl hl.1 rfl (Nat.le_of_ble_eq_true rfl) dL_drawn_555) (fun H locs hW => ?_)
      refine lv_pop C0.hx C0.hb dL_drawn_558 g_catQ ?_
      refine lv_iinc (v := l7 + (1 : Int32)) (lv' := [(7, .int (l7 + (1 : Int32))), (0, g_rf G (l0)), (1, g_rf G (l1)), (4, g_rf G (l4)), (5, .int (l5)), (6, .int (l6))]) C0.hx C0.hb dL_drawn_559 hl (k := 5) rfl rfl (by decide) rfl (fun ls hl => ?_)
      refine lv_goto (tgt := 518) C0.hx C0.hb dL_drawn_562 (by decide) ?_
      have hz := ih _ _ _ _ _ _ _ _ _ _ h hW (lv_sub hl [1, 2, 3, 4, 5, 0] rfl)
      exact hz
set_option maxRecDepth 100000 in
set_option maxHeartbeats 4000000 in
theorem w_l_L_drawn_487 {p : Program} {l : Launch} {e : Env} {s : State} {m : MethodId} {args : Array Value} {below : List Frame} {meth : Method} {c : Code} {G : GL} {o : Nat → Int32} {y0 : MS} {x : CS} {q : Nat × MS}  (C0 : g_X G (List.range 120) p s m args meth c cL_drawn 16 RL (Option.some (Jvm.ClassFile.FieldType.object "GlideWhistlesLaw$Talk")))  : ∀  (l0 : Nat) (l1 : Nat) (l3 : Int32) (l4 : Nat) (l5 : Int32) (y : MS) (H : Heap) (locs : List Loc) (ls : Array Slot), f_l_L_drawn_487 l0 l1 l3 l4 l5 y = some q → h_W G y0 (x, y, o) s.heap H locs → lv_has ls 16 [(0, g_rf G (l0)), (1, g_rf G (l1)), (3, .int (l3)), (4, g_rf G (l4)), (5, .int (l5))] → W p l e (h_lv 86 y0) s m args below meth c H locs (h_nx y - h_nx y0) (h_sl y - h_sl y0) (MQ below (h_Qr G y0 (g_rf G (q.1)) (x, q.2, o)) args s (h_nx q.2 - h_nx y0) (h_sl q.2 - h_sl y0) (g_A G)) (F0 m 487 ls []) := by
  intro l0 l1 l3 l4 l5 y H locs ls h hW hl
  unfold f_l_L_drawn_487 at h
  refine lv_iload C0.hx C0.hb dL_drawn_487 (lv_at hl 4 rfl) ?_
  refine lv_if_ne (tgt := 496) C0.hx C0.hb dL_drawn_489 (by decide) (fun hc62 => ?_) (fun hc62 => ?_)
  · replace h := (if_neg hc62).symm.trans h
    refine h_aload_n C0.hx C0.hb dL_drawn_496 rfl (lv_at hl 0 rfl) ?_
    refine lv_iload_n C0.hx C0.hb dL_drawn_497 rfl (lv_at hl 2 rfl) ?_
    refine lv_iconst (v := (1 : Int32)) C0.hx C0.hb dL_drawn_498 (by decide) ?_
    refine lv_iadd C0.hx C0.hb dL_drawn_499 ?_
    obtain ⟨hk63, h⟩ := g_if h
    obtain ⟨q64, hq64, h⟩ := Option.bind_eq_some_iff.mp h
    refine h_calli hW (h_runV (As := [.int (l3 + (1 : Int32))]) (rest := []) C0 hW (hW.rf (h_ne hk63 (by decide))) (h_recv C0 hW (h_ne hk63 (by decide)) (h_c50 hk63) rfl) (c_l_X13_next hq64) cy_X13_next (by omega) tm_L_37 ti_X13_next ts_X13_next rfl hl.1 rfl (Nat.le_of_ble_eq_true rfl) dL_drawn_500) (fun H locs hW => ?_)
    refine lv_istore (lv' := [(6, .int (q64.1)), (0, g_rf G (l0)), (1, g_rf G (l1)), (3, .int (l3)), (4, g_rf G (l4)), (5, .int (l5))]) C0.hx C0.hb dL_drawn_503 hl (by decide) rfl (fun ls hl => ?_)
    refine h_aload C0.hx C0.hb dL_drawn_505 (lv_at hl 4 rfl) ?_
    refine lv_iload C0.hx C0.hb dL_drawn_507 (lv_at hl 0 rfl) ?_
    obtain ⟨hn65, h⟩ := g_if h
    obtain ⟨hn66, h⟩ := g_if h
    refine hn_64 C0 hW hn65 hn66 tl_L_94 dL_drawn_509 (fun H hW => ?_)
    obtain ⟨hk67, h⟩ := g_if h
    refine hp_X16_7 C0 hW hk67 tf_L_96 dL_drawn_512 (fun H locs hW => ?_)
    refine h_fwr hW ?_
    refine lv_iconst (v := (0 : Int32)) C0.hx C0.hb dL_drawn_515 (by decide) ?_
    refine lv_istore (lv' := [(7, .int ((0 : Int32))), (6, .int (q64.1)), (0, g_rf G (l0)), (1, g_rf G (l1)), (3, .int (l3)), (4, g_rf G (l4)), (5, .int (l5))]) C0.hx C0.hb dL_drawn_516 hl (by decide) rfl (fun ls hl => ?_)
    have hz := w_l_L_drawn_518 (l := l) (e := e) (below := below) C0 g_fuel _ _ _ _ _ _ _ _ _ _ h hW (lv_sub hl [2, 3, 5, 6, 1, 0] rfl)
    exact hz
  · replace h := (if_pos hc62).symm.trans h
    refine lv_iconst (v := (0 : Int32)) C0.hx C0.hb dL_drawn_492 (by decide) ?_
    refine lv_goto (tgt := 503) C0.hx C0.hb dL_drawn_493 (by decide) ?_
    refine lv_istore (lv' := [(6, .int ((0 : Int32))), (0, g_rf G (l0)), (1, g_rf G (l1)), (3, .int (l3)), (4, g_rf G (l4)), (5, .int (l5))]) C0.hx C0.hb dL_drawn_503 hl (by decide) rfl (fun ls hl => ?_)
    refine h_aload C0.hx C0.hb dL_drawn_505 (lv_at hl 4 rfl) ?_
    refine lv_iload C0.hx C0.hb dL_drawn_507 (lv_at hl 0 rfl) ?_
    obtain ⟨hn68, h⟩ := g_if h
    obtain ⟨hn69, h⟩ := g_if h
    refine hn_64 C0 hW hn68 hn69 tl_L_94 dL_drawn_509 (fun H hW => ?_)
    obtain ⟨hk70, h⟩ := g_if h
    refine hp_X16_7 C0 hW hk70 tf_L_96 dL_drawn_512 (fun H locs hW => ?_)
    refine h_fwr hW ?_
    refine lv_iconst (v := (0 : Int32)) C0.hx C0.hb dL_drawn_515 (by decide) ?_
    refine lv_istore (lv' := [(7, .int ((0 : Int32))), (6, .int ((0 : Int32))), (0, g_rf G (l0)), (1, g_rf G (l1)), (3, .int (l3)), (4, g_rf G (l4)), (5, .int (l5))]) C0.hx C0.hb dL_drawn_516 hl (by decide) rfl (fun ls hl => ?_)
    have hz := w_l_L_drawn_518 (l := l) (e := e) (below := below) C0 g_fuel _ _ _ _ _ _ _ _ _ _ h hW (lv_sub hl [2, 3, 5, 6, 1, 0] rfl)
    exact hz
set_option maxRecDepth 100000 in
set_option maxHeartbeats 4000000 in
theorem w_l_L_drawn_461 {p : Program} {l : Launch} {e : Env} {s : State} {m : MethodId} {args : Array Value} {below : List Frame} {meth : Method} {c : Code} {G : GL} {o : Nat → Int32} {y0 : MS} {x : CS} {q : Nat × MS}  (C0 : g_X G (List.range 120) p s m args meth c cL_drawn 16 RL (Option.some (Jvm.ClassFile.FieldType.object "GlideWhistlesLaw$Talk")))  : ∀  (l0 : Nat) (l1 : Nat) (l3 : Int32) (l4 : Nat) (l5 : Int32) (s0 : Int32) (s1 : Nat) (s2 : Nat) (y : MS) (H : Heap) (locs : List Loc) (ls : Array Slot), f_l_L_drawn_461 l0 l1 l3 l4 l5 s0 s1 s2 y = some q → h_W G y0 (x, y, o) s.heap H locs → lv_has ls 16 [(0, g_rf G (l0)), (1, g_rf G (l1)), (3, .int (l3)), (4, g_rf G (l4)), (5, .int (l5))] → W p l e (h_lv 86 y0) s m args below meth c H locs (h_nx y - h_nx y0) (h_sl y - h_sl y0) (MQ below (h_Qr G y0 (g_rf G (q.1)) (x, q.2, o)) args s (h_nx q.2 - h_nx y0) (h_sl q.2 - h_sl y0) (g_A G)) (F0 m 461 ls [.int (s0), g_rf G (s1), g_rf G (s2)]) := by
  intro l0 l1 l3 l4 l5 s0 s1 s2 y H locs ls h hW hl
  unfold f_l_L_drawn_461 at h
  obtain ⟨hk71, h⟩ := g_if h
  obtain ⟨q72, hq72, h⟩ := Option.bind_eq_some_iff.mp h
  refine h_calli hW (h_runV (As := [.int (s0)]) (rest := [g_rf G (s2)]) C0 hW (hW.rf (h_ne hk71 (by decide))) (h_recv C0 hW (h_ne hk71 (by decide)) (h_c50 hk71) rfl) (c_l_X13_next hq72) cy_X13_next (by omega) tm_L_37 ti_X13_next ts_X13_next rfl hl.1 rfl (by simp [g_catQ, h_ki, h_kr, h_kn, h_kl, h_kd]) dL_drawn_461) (fun H locs hW => ?_)
  obtain ⟨hk73, h⟩ := g_if h
  refine hp_X16_1 C0 hW hk73 tf_L_89 dL_drawn_464 (fun H locs hW => ?_)
  refine h_fwi hW ?_
  refine h_aload_n C0.hx C0.hb dL_drawn_467 rfl (lv_at hl 1 rfl) ?_
  refine h_ldc C0 hW (n := 58) (List.mem_of_getElem? (i := 12) rfl) (by decide) dL_drawn_468 ?_
  obtain ⟨hk74, h⟩ := g_if h
  obtain ⟨q75, hq75, h⟩ := Option.bind_eq_some_iff.mp h
  refine h_callr hW (h_runV (As := [.ref (g_sa G (58))]) (rest := []) C0 hW (hW.rf (h_ne hk74 (by decide))) (h_recv C0 hW (h_ne hk74 (by decide)) (h_c54 hk74) rfl) (c_l_J4_append_15ec4 hq75) cy_J4_append_15ec4 (by omega) tm_L_54 ti_J4_append_15ec4 ts_J4_append_15ec4 rfl hl.1 rfl (Nat.le_of_ble_eq_true rfl) dL_drawn_470) (fun H locs hW => ?_)
  refine h_aload C0.hx C0.hb dL_drawn_473 (lv_at hl 3 rfl) ?_
  obtain ⟨hk76, h⟩ := g_if h
  refine hf_X16_1 C0 hW hk76 tf_L_89 dL_drawn_475 ?_
  obtain ⟨hk77, h⟩ := g_if h
  obtain ⟨q78, hq78, h⟩ := Option.bind_eq_some_iff.mp h
  refine h_callr hW (h_runV (As := [.int (h_I q75.2 l4 1)]) (rest := []) C0 hW (hW.rf (h_ne hk77 (by decide))) (h_recv C0 hW (h_ne hk77 (by decide)) (h_c54 hk77) rfl) (c_l_J4_append_bf812 hq78) cy_J4_append_bf812 (by omega) tm_L_60 ti_J4_append_bf812 ts_J4_append_bf812 rfl hl.1 rfl (Nat.le_of_ble_eq_true rfl) dL_drawn_478) (fun H locs hW => ?_)
  refine h_ldc C0 hW (n := 56) (List.mem_of_getElem? (i := 10) rfl) (by decide) dL_drawn_481 ?_
  obtain ⟨hk79, h⟩ := g_if h
  obtain ⟨q80, hq80, h⟩ := Option.bind_eq_some_iff.mp h
  refine h_callr hW (h_runV (As := [.ref (g_sa G (56))]) (rest := []) C0 hW (hW.rf (h_ne hk79 (by decide))) (h_recv C0 hW (h_ne hk79 (by decide)) (h_c54 hk79) rfl) (c_l_J4_append_15ec4 hq80) cy_J4_append_15ec4 (by omega) tm_L_54 ti_J4_append_15ec4 ts_J4_append_15ec4 rfl hl.1 rfl (Nat.le_of_ble_eq_true rfl) dL_drawn_483) (fun H locs hW => ?_)
  refine lv_pop C0.hx C0.hb dL_drawn_486 g_catQ ?_
  have hz := w_l_L_drawn_487 (l := l) (e := e) (below := below) C0 _ _ _ _ _ _ _ _ _ h hW (lv_sub hl [0, 1, 2, 3, 4] rfl)
  exact hz
set_option maxRecDepth 100000 in
set_option maxHeartbeats 4000000 in
theorem w_l_L_drawn_435 {p : Program} {l : Launch} {e : Env} {s : State} {m : MethodId} {args : Array Value} {below : List Frame} {meth : Method} {c : Code} {G : GL} {o : Nat → Int32} {y0 : MS} {x : CS} {q : Nat × MS}  (C0 : g_X G (List.range 120) p s m args meth c cL_drawn 16 RL (Option.some (Jvm.ClassFile.FieldType.object "GlideWhistlesLaw$Talk")))  : ∀  (l0 : Nat) (l1 : Nat) (l3 : Int32) (l4 : Nat) (l5 : Int32) (y : MS) (H : Heap) (locs : List Loc) (ls : Array Slot), f_l_L_drawn_435 l0 l1 l3 l4 l5 y = some q → h_W G y0 (x, y, o) s.heap H locs → lv_has ls 16 [(0, g_rf G (l0)), (1, g_rf G (l1)), (3, .int (l3)), (4, g_rf G (l4)), (5, .int (l5))] → W p l e (h_lv 86 y0) s m args below meth c H locs (h_nx y - h_nx y0) (h_sl y - h_sl y0) (MQ below (h_Qr G y0 (g_rf G (q.1)) (x, q.2, o)) args s (h_nx q.2 - h_nx y0) (h_sl q.2 - h_sl y0) (g_A G)) (F0 m 435 ls []) := by
  intro l0 l1 l3 l4 l5 y H locs ls h hW hl
  unfold f_l_L_drawn_435 at h
  refine h_aload_n C0.hx C0.hb dL_drawn_435 rfl (lv_at hl 0 rfl) ?_
  refine lv_iconst (v := (2 : Int32)) C0.hx C0.hb dL_drawn_436 (by decide) ?_
  obtain ⟨hk33, h⟩ := g_if h
  obtain ⟨q34, hq34, h⟩ := Option.bind_eq_some_iff.mp h
  refine h_calli hW (h_runV (As := [.int ((2 : Int32))]) (rest := []) C0 hW (hW.rf (h_ne hk33 (by decide))) (h_recv C0 hW (h_ne hk33 (by decide)) (h_c50 hk33) rfl) (c_l_X13_next hq34) cy_X13_next (by omega) tm_L_37 ti_X13_next ts_X13_next rfl hl.1 rfl (Nat.le_of_ble_eq_true rfl) dL_drawn_437) (fun H locs hW => ?_)
  refine lv_if_ne (tgt := 487) C0.hx C0.hb dL_drawn_440 (by decide) (fun hc35 => ?_) (fun hc35 => ?_)
  · replace h := (if_neg hc35).symm.trans h
    have hz := w_l_L_drawn_487 (l := l) (e := e) (below := below) C0 _ _ _ _ _ _ _ _ _ h hW (lv_sub hl [0, 1, 2, 3, 4] rfl)
    exact hz
  · replace h := (if_pos hc35).symm.trans h
    refine h_aload C0.hx C0.hb dL_drawn_443 (lv_at hl 3 rfl) ?_
    refine h_aload_n C0.hx C0.hb dL_drawn_445 rfl (lv_at hl 0 rfl) ?_
    refine h_aload_n C0.hx C0.hb dL_drawn_446 rfl (lv_at hl 0 rfl) ?_
    refine lv_iconst (v := (2 : Int32)) C0.hx C0.hb dL_drawn_447 (by decide) ?_
    obtain ⟨hk36, h⟩ := g_if h
    obtain ⟨q37, hq37, h⟩ := Option.bind_eq_some_iff.mp h
    refine h_calli hW (h_runV (As := [.int ((2 : Int32))]) (rest := [g_rf G (l0), g_rf G (l4)]) C0 hW (hW.rf (h_ne hk36 (by decide))) (h_recv C0 hW (h_ne hk36 (by decide)) (h_c50 hk36) rfl) (c_l_X13_next hq37) cy_X13_next (by omega) tm_L_37 ti_X13_next ts_X13_next rfl hl.1 rfl (by simp [g_catQ, h_ki, h_kr, h_kn, h_kl, h_kd]) dL_drawn_448) (fun H locs hW => ?_)
    refine lv_if_ne (tgt := 459) C0.hx C0.hb dL_drawn_451 (by decide) (fun hc38 => ?_) (fun hc38 => ?_)
    · replace h := (if_neg hc38).symm.trans h
      refine lv_bipush (v := (20 : Int32)) C0.hx C0.hb dL_drawn_459 (by decide) ?_
      have hz := w_l_L_drawn_461 (l := l) (e := e) (below := below) C0 _ _ _ _ _ _ _ _ _ _ _ _ h hW (lv_sub hl [0, 1, 2, 3, 4] rfl)
      exact hz
    · replace h := (if_pos hc38).symm.trans h
      refine lv_bipush (v := (100 : Int32)) C0.hx C0.hb dL_drawn_454 (by decide) ?_
      refine lv_goto (tgt := 461) C0.hx C0.hb dL_drawn_456 (by decide) ?_
      have hz := w_l_L_drawn_461 (l := l) (e := e) (below := below) C0 _ _ _ _ _ _ _ _ _ _ _ _ h hW (lv_sub hl [0, 1, 2, 3, 4] rfl)
      exact hz
set_option maxRecDepth 100000 in
set_option maxHeartbeats 4000000 in
theorem w_l_L_drawn_409 {p : Program} {l : Launch} {e : Env} {s : State} {m : MethodId} {args : Array Value} {below : List Frame} {meth : Method} {c : Code} {G : GL} {o : Nat → Int32} {y0 : MS} {x : CS} {q : Nat × MS}  (C0 : g_X G (List.range 120) p s m args meth c cL_drawn 16 RL (Option.some (Jvm.ClassFile.FieldType.object "GlideWhistlesLaw$Talk")))  : ∀  (l0 : Nat) (l1 : Nat) (l3 : Int32) (l4 : Nat) (l5 : Int32) (s0 : Int32) (s1 : Nat) (s2 : Nat) (y : MS) (H : Heap) (locs : List Loc) (ls : Array Slot), f_l_L_drawn_409 l0 l1 l3 l4 l5 s0 s1 s2 y = some q → h_W G y0 (x, y, o) s.heap H locs → lv_has ls 16 [(0, g_rf G (l0)), (1, g_rf G (l1)), (3, .int (l3)), (4, g_rf G (l4)), (5, .int (l5))] → W p l e (h_lv 86 y0) s m args below meth c H locs (h_nx y - h_nx y0) (h_sl y - h_sl y0) (MQ below (h_Qr G y0 (g_rf G (q.1)) (x, q.2, o)) args s (h_nx q.2 - h_nx y0) (h_sl q.2 - h_sl y0) (g_A G)) (F0 m 409 ls [.int (s0), g_rf G (s1), g_rf G (s2)]) := by
  intro l0 l1 l3 l4 l5 s0 s1 s2 y H locs ls h hW hl
  unfold f_l_L_drawn_409 at h
  obtain ⟨hk39, h⟩ := g_if h
  obtain ⟨q40, hq40, h⟩ := Option.bind_eq_some_iff.mp h
  refine h_calli hW (h_runV (As := [.int (s0)]) (rest := [g_rf G (s2)]) C0 hW (hW.rf (h_ne hk39 (by decide))) (h_recv C0 hW (h_ne hk39 (by decide)) (h_c50 hk39) rfl) (c_l_X13_next hq40) cy_X13_next (by omega) tm_L_37 ti_X13_next ts_X13_next rfl hl.1 rfl (by simp [g_catQ, h_ki, h_kr, h_kn, h_kl, h_kd]) dL_drawn_409) (fun H locs hW => ?_)
  obtain ⟨hk41, h⟩ := g_if h
  refine hp_X16_0 C0 hW hk41 tf_L_83 dL_drawn_412 (fun H locs hW => ?_)
  refine h_fwi hW ?_
  refine h_aload_n C0.hx C0.hb dL_drawn_415 rfl (lv_at hl 1 rfl) ?_
  refine h_ldc C0 hW (n := 57) (List.mem_of_getElem? (i := 11) rfl) (by decide) dL_drawn_416 ?_
  obtain ⟨hk42, h⟩ := g_if h
  obtain ⟨q43, hq43, h⟩ := Option.bind_eq_some_iff.mp h
  refine h_callr hW (h_runV (As := [.ref (g_sa G (57))]) (rest := []) C0 hW (hW.rf (h_ne hk42 (by decide))) (h_recv C0 hW (h_ne hk42 (by decide)) (h_c54 hk42) rfl) (c_l_J4_append_15ec4 hq43) cy_J4_append_15ec4 (by omega) tm_L_54 ti_J4_append_15ec4 ts_J4_append_15ec4 rfl hl.1 rfl (Nat.le_of_ble_eq_true rfl) dL_drawn_418) (fun H locs hW => ?_)
  refine h_aload C0.hx C0.hb dL_drawn_421 (lv_at hl 3 rfl) ?_
  obtain ⟨hk44, h⟩ := g_if h
  refine hf_X16_0 C0 hW hk44 tf_L_83 dL_drawn_423 ?_
  obtain ⟨hk45, h⟩ := g_if h
  obtain ⟨q46, hq46, h⟩ := Option.bind_eq_some_iff.mp h
  refine h_callr hW (h_runV (As := [.int (h_I q43.2 l4 0)]) (rest := []) C0 hW (hW.rf (h_ne hk45 (by decide))) (h_recv C0 hW (h_ne hk45 (by decide)) (h_c54 hk45) rfl) (c_l_J4_append_bf812 hq46) cy_J4_append_bf812 (by omega) tm_L_60 ti_J4_append_bf812 ts_J4_append_bf812 rfl hl.1 rfl (Nat.le_of_ble_eq_true rfl) dL_drawn_426) (fun H locs hW => ?_)
  refine h_ldc C0 hW (n := 56) (List.mem_of_getElem? (i := 10) rfl) (by decide) dL_drawn_429 ?_
  obtain ⟨hk47, h⟩ := g_if h
  obtain ⟨q48, hq48, h⟩ := Option.bind_eq_some_iff.mp h
  refine h_callr hW (h_runV (As := [.ref (g_sa G (56))]) (rest := []) C0 hW (hW.rf (h_ne hk47 (by decide))) (h_recv C0 hW (h_ne hk47 (by decide)) (h_c54 hk47) rfl) (c_l_J4_append_15ec4 hq48) cy_J4_append_15ec4 (by omega) tm_L_54 ti_J4_append_15ec4 ts_J4_append_15ec4 rfl hl.1 rfl (Nat.le_of_ble_eq_true rfl) dL_drawn_431) (fun H locs hW => ?_)
  refine lv_pop C0.hx C0.hb dL_drawn_434 g_catQ ?_
  have hz := w_l_L_drawn_435 (l := l) (e := e) (below := below) C0 _ _ _ _ _ _ _ _ _ h hW (lv_sub hl [0, 1, 2, 3, 4] rfl)
  exact hz
set_option maxRecDepth 100000 in
set_option maxHeartbeats 4000000 in
theorem w_l_L_drawn_349 {p : Program} {l : Launch} {e : Env} {s : State} {m : MethodId} {args : Array Value} {below : List Frame} {meth : Method} {c : Code} {G : GL} {o : Nat → Int32} {y0 : MS} {x : CS} {q : Nat × MS} {k53 : Nat → Nat → Int32 → Nat → Int32 → Int32 → MS → Option (Nat × MS)}  (C0 : g_X G (List.range 120) p s m args meth c cL_drawn 16 RL (Option.some (Jvm.ClassFile.FieldType.object "GlideWhistlesLaw$Talk"))) (kt53 : ∀ (l0 : Nat) (l1 : Nat) (l3 : Int32) (l4 : Nat) (l5 : Int32) (l6 : Int32) (y : MS) (H : Heap) (locs : List Loc) (ls : Array Slot), k53 l0 l1 l3 l4 l5 l6 y = some q → h_W G y0 (x, y, o) s.heap H locs → lv_has ls 16 [(0, g_rf G (l0)), (1, g_rf G (l1)), (3, .int (l3)), (4, g_rf G (l4)), (5, .int (l5)), (6, .int (l6))] → W p l e (h_lv 86 y0) s m args below meth c H locs (h_nx y - h_nx y0) (h_sl y - h_sl y0) (MQ below (h_Qr G y0 (g_rf G (q.1)) (x, q.2, o)) args s (h_nx q.2 - h_nx y0) (h_sl q.2 - h_sl y0) (g_A G)) (F0 m 53 ls [])) : ∀ (n : Nat) (l0 : Nat) (l1 : Nat) (l3 : Int32) (l4 : Nat) (l5 : Int32) (l6 : Int32) (l7 : Nat) (l8 : Int32) (l10 : Int32) (y : MS) (H : Heap) (locs : List Loc) (ls : Array Slot), f_l_L_drawn_349 k53 n l0 l1 l3 l4 l5 l6 l7 l8 l10 y = some q → h_W G y0 (x, y, o) s.heap H locs → lv_has ls 16 [(0, g_rf G (l0)), (1, g_rf G (l1)), (3, .int (l3)), (4, g_rf G (l4)), (5, .int (l5)), (6, .int (l6)), (7, g_rf G (l7)), (8, .int (l8)), (10, .int (l10))] → W p l e (h_lv 86 y0) s m args below meth c H locs (h_nx y - h_nx y0) (h_sl y - h_sl y0) (MQ below (h_Qr G y0 (g_rf G (q.1)) (x, q.2, o)) args s (h_nx q.2 - h_nx y0) (h_sl q.2 - h_sl y0) (g_A G)) (F0 m 349 ls []) := by
  intro n
  induction n with
  | zero =>
    intro l0 l1 l3 l4 l5 l6 l7 l8 l10 y H locs ls h hW hl
    exact absurd h (by simp [f_l_L_drawn_349])
  | succ n ih =>
    intro l0 l1 l3 l4 l5 l6 l7 l8 l10 y H locs ls h hW hl
    unfold f_l_L_drawn_349 at h
    refine lv_iload C0.hx C0.hb dL_drawn_349 (lv_at hl 8 rfl) ?_
    refine lv_iload C0.hx C0.hb dL_drawn_351 (lv_at hl 7 rfl) ?_
    refine lv_icmp_ge (tgt := 378) C0.hx C0.hb dL_drawn_353 (by decide) (fun hc108 => ?_) (fun hc108 => ?_)
    · replace h := (if_pos hc108).symm.trans h
      refine lv_iinc (v := l6 + (1 : Int32)) (lv' := [(6, .int (l6 + (1 : Int32))), (0, g_rf G (l0)), (1, g_rf G (l1)), (3, .int (l3)), (4, g_rf G (l4)), (5, .int (l5)), (7, g_rf G (l7)), (8, .int (l8)), (10, .int (l10))]) C0.hx C0.hb dL_drawn_378 hl (k := 5) rfl rfl (by decide) rfl (fun ls hl => ?_)
      refine lv_goto (tgt := 53) C0.hx C0.hb dL_drawn_381 (by decide) ?_
      have hz := kt53 _ _ _ _ _ _ _ _ _ _ h hW (lv_sub hl [1, 2, 3, 4, 5, 0] rfl)
      exact hz
    · replace h := (if_neg hc108).symm.trans h
      refine h_aload C0.hx C0.hb dL_drawn_356 (lv_at hl 3 rfl) ?_
      obtain ⟨hk109, h⟩ := g_if h
      refine hf_X16_2 C0 hW hk109 tf_L_44 dL_drawn_358 ?_
      refine lv_iload C0.hx C0.hb dL_drawn_361 (lv_at hl 5 rfl) ?_
      obtain ⟨hk110, h⟩ := g_if h
      obtain ⟨hn111, h⟩ := g_if h
      refine ha_63 C0 hW hk110 hn111 dL_drawn_363 ?_
      refine lv_iload C0.hx C0.hb dL_drawn_364 (lv_at hl 8 rfl) ?_
      refine h_aload C0.hx C0.hb dL_drawn_366 (lv_at hl 6 rfl) ?_
      refine lv_iload C0.hx C0.hb dL_drawn_368 (lv_at hl 8 rfl) ?_
      obtain ⟨hk112, h⟩ := g_if h
      obtain ⟨hn113, h⟩ := g_if h
      refine ha_60 C0 hW hk112 hn113 dL_drawn_370 ?_
      obtain ⟨hk114, h⟩ := g_if h
      obtain ⟨hn115, h⟩ := g_if h
      refine hs_60 C0 hW hk114 hn115 dL_drawn_371 (fun H locs hW => ?_)
      refine h_fwi hW ?_
      refine lv_iinc (v := l10 + (1 : Int32)) (lv' := [(10, .int (l10 + (1 : Int32))), (0, g_rf G (l0)), (1, g_rf G (l1)), (3, .int (l3)), (4, g_rf G (l4)), (5, .int (l5)), (6, .int (l6)), (7, g_rf G (l7)), (8, .int (l8))]) C0.hx C0.hb dL_drawn_372 hl (k := 8) rfl rfl (by decide) rfl (fun ls hl => ?_)
      refine lv_goto (tgt := 349) C0.hx C0.hb dL_drawn_375 (by decide) ?_
      have hz := ih _ _ _ _ _ _ _ _ _ _ _ _ _ h hW (lv_sub hl [1, 2, 3, 4, 5, 6, 7, 8, 0] rfl)
      exact hz
set_option maxRecDepth 100000 in
set_option maxHeartbeats 4000000 in
theorem w_l_L_drawn_330 {p : Program} {l : Launch} {e : Env} {s : State} {m : MethodId} {args : Array Value} {below : List Frame} {meth : Method} {c : Code} {G : GL} {o : Nat → Int32} {y0 : MS} {x : CS} {q : Nat × MS} {k53 : Nat → Nat → Int32 → Nat → Int32 → Int32 → MS → Option (Nat × MS)}  (C0 : g_X G (List.range 120) p s m args meth c cL_drawn 16 RL (Option.some (Jvm.ClassFile.FieldType.object "GlideWhistlesLaw$Talk"))) (kt53 : ∀ (l0 : Nat) (l1 : Nat) (l3 : Int32) (l4 : Nat) (l5 : Int32) (l6 : Int32) (y : MS) (H : Heap) (locs : List Loc) (ls : Array Slot), k53 l0 l1 l3 l4 l5 l6 y = some q → h_W G y0 (x, y, o) s.heap H locs → lv_has ls 16 [(0, g_rf G (l0)), (1, g_rf G (l1)), (3, .int (l3)), (4, g_rf G (l4)), (5, .int (l5)), (6, .int (l6))] → W p l e (h_lv 86 y0) s m args below meth c H locs (h_nx y - h_nx y0) (h_sl y - h_sl y0) (MQ below (h_Qr G y0 (g_rf G (q.1)) (x, q.2, o)) args s (h_nx q.2 - h_nx y0) (h_sl q.2 - h_sl y0) (g_A G)) (F0 m 53 ls [])) : ∀  (l0 : Nat) (l1 : Nat) (l3 : Int32) (l4 : Nat) (l5 : Int32) (l6 : Int32) (l7 : Nat) (l8 : Int32) (s0 : Nat) (s1 : Nat) (y : MS) (H : Heap) (locs : List Loc) (ls : Array Slot), f_l_L_drawn_330 k53 l0 l1 l3 l4 l5 l6 l7 l8 s0 s1 y = some q → h_W G y0 (x, y, o) s.heap H locs → lv_has ls 16 [(0, g_rf G (l0)), (1, g_rf G (l1)), (3, .int (l3)), (4, g_rf G (l4)), (5, .int (l5)), (6, .int (l6)), (7, g_rf G (l7)), (8, .int (l8))] → W p l e (h_lv 86 y0) s m args below meth c H locs (h_nx y - h_nx y0) (h_sl y - h_sl y0) (MQ below (h_Qr G y0 (g_rf G (q.1)) (x, q.2, o)) args s (h_nx q.2 - h_nx y0) (h_sl q.2 - h_sl y0) (g_A G)) (F0 m 330 ls [.ref (g_sa G (s0)), g_rf G (s1)]) := by
  intro l0 l1 l3 l4 l5 l6 l7 l8 s0 s1 y H locs ls h hW hl
  unfold f_l_L_drawn_330 at h
  obtain ⟨hk81, h⟩ := g_if h
  obtain ⟨q82, hq82, h⟩ := Option.bind_eq_some_iff.mp h
  refine h_callr hW (h_runV (As := [.ref (g_sa G (s0))]) (rest := []) C0 hW (hW.rf (h_ne hk81 (by decide))) (h_recv C0 hW (h_ne hk81 (by decide)) (h_c54 hk81) rfl) (c_l_J4_append_15ec4 hq82) cy_J4_append_15ec4 (by omega) tm_L_54 ti_J4_append_15ec4 ts_J4_append_15ec4 rfl hl.1 rfl (Nat.le_of_ble_eq_true rfl) dL_drawn_330) (fun H locs hW => ?_)
  refine lv_pop C0.hx C0.hb dL_drawn_333 g_catQ ?_
  refine h_aload C0.hx C0.hb dL_drawn_334 (lv_at hl 3 rfl) ?_
  obtain ⟨hk83, h⟩ := g_if h
  refine hf_X16_2 C0 hW hk83 tf_L_44 dL_drawn_336 ?_
  refine lv_iload C0.hx C0.hb dL_drawn_339 (lv_at hl 5 rfl) ?_
  refine lv_iload C0.hx C0.hb dL_drawn_341 (lv_at hl 7 rfl) ?_
  obtain ⟨hn84, h⟩ := g_if h
  obtain ⟨hn85, h⟩ := g_if h
  refine hn_60 C0 hW hn84 hn85 dL_drawn_343 (fun H hW => ?_)
  obtain ⟨hk86, h⟩ := g_if h
  obtain ⟨hk87, h⟩ := g_if h
  obtain ⟨hn88, h⟩ := g_if h
  refine hs_63 C0 hW hk87 hk86 hn88 dL_drawn_345 (fun H locs hW => ?_)
  refine h_fwr hW ?_
  refine lv_iconst (v := (0 : Int32)) C0.hx C0.hb dL_drawn_346 (by decide) ?_
  refine lv_istore (lv' := [(10, .int ((0 : Int32))), (0, g_rf G (l0)), (1, g_rf G (l1)), (3, .int (l3)), (4, g_rf G (l4)), (5, .int (l5)), (6, .int (l6)), (7, g_rf G (l7)), (8, .int (l8))]) C0.hx C0.hb dL_drawn_347 hl (by decide) rfl (fun ls hl => ?_)
  have hz := w_l_L_drawn_349 (l := l) (e := e) (below := below) C0 kt53 g_fuel _ _ _ _ _ _ _ _ _ _ _ _ _ h hW (lv_sub hl [1, 2, 3, 4, 5, 6, 7, 8, 0] rfl)
  exact hz
set_option maxRecDepth 100000 in
set_option maxHeartbeats 4000000 in
theorem w_l_L_drawn_245 {p : Program} {l : Launch} {e : Env} {s : State} {m : MethodId} {args : Array Value} {below : List Frame} {meth : Method} {c : Code} {G : GL} {o : Nat → Int32} {y0 : MS} {x : CS} {q : Nat × MS} {k53 : Nat → Nat → Int32 → Nat → Int32 → Int32 → MS → Option (Nat × MS)} {k98 : Nat → Nat → Int32 → Nat → Int32 → Int32 → Nat → Int32 → Int32 → Int32 → MS → Option (Nat × MS)}  (C0 : g_X G (List.range 120) p s m args meth c cL_drawn 16 RL (Option.some (Jvm.ClassFile.FieldType.object "GlideWhistlesLaw$Talk"))) (kt53 : ∀ (l0 : Nat) (l1 : Nat) (l3 : Int32) (l4 : Nat) (l5 : Int32) (l6 : Int32) (y : MS) (H : Heap) (locs : List Loc) (ls : Array Slot), k53 l0 l1 l3 l4 l5 l6 y = some q → h_W G y0 (x, y, o) s.heap H locs → lv_has ls 16 [(0, g_rf G (l0)), (1, g_rf G (l1)), (3, .int (l3)), (4, g_rf G (l4)), (5, .int (l5)), (6, .int (l6))] → W p l e (h_lv 86 y0) s m args below meth c H locs (h_nx y - h_nx y0) (h_sl y - h_sl y0) (MQ below (h_Qr G y0 (g_rf G (q.1)) (x, q.2, o)) args s (h_nx q.2 - h_nx y0) (h_sl q.2 - h_sl y0) (g_A G)) (F0 m 53 ls [])) (kt98 : ∀ (l0 : Nat) (l1 : Nat) (l3 : Int32) (l4 : Nat) (l5 : Int32) (l6 : Int32) (l7 : Nat) (l8 : Int32) (l9 : Int32) (l10 : Int32) (y : MS) (H : Heap) (locs : List Loc) (ls : Array Slot), k98 l0 l1 l3 l4 l5 l6 l7 l8 l9 l10 y = some q → h_W G y0 (x, y, o) s.heap H locs → lv_has ls 16 [(0, g_rf G (l0)), (1, g_rf G (l1)), (3, .int (l3)), (4, g_rf G (l4)), (5, .int (l5)), (6, .int (l6)), (7, g_rf G (l7)), (8, .int (l8)), (9, .int (l9)), (10, .int (l10))] → W p l e (h_lv 86 y0) s m args below meth c H locs (h_nx y - h_nx y0) (h_sl y - h_sl y0) (MQ below (h_Qr G y0 (g_rf G (q.1)) (x, q.2, o)) args s (h_nx q.2 - h_nx y0) (h_sl q.2 - h_sl y0) (g_A G)) (F0 m 98 ls [])) : ∀ (n : Nat) (l0 : Nat) (l1 : Nat) (l3 : Int32) (l4 : Nat) (l5 : Int32) (l6 : Int32) (l7 : Nat) (l8 : Int32) (l9 : Int32) (l10 : Int32) (l11 : Int32) (l12 : Int32) (l13 : Int32) (l14 : Int32) (l15 : Int32) (y : MS) (H : Heap) (locs : List Loc) (ls : Array Slot), f_l_L_drawn_245 k53 k98 n l0 l1 l3 l4 l5 l6 l7 l8 l9 l10 l11 l12 l13 l14 l15 y = some q → h_W G y0 (x, y, o) s.heap H locs → lv_has ls 16 [(0, g_rf G (l0)), (1, g_rf G (l1)), (3, .int (l3)), (4, g_rf G (l4)), (5, .int (l5)), (6, .int (l6)), (7, g_rf G (l7)), (8, .int (l8)), (9, .int (l9)), (10, .int (l10)), (11, .int (l11)), (12, .int (l12)), (13, .int (l13)), (14, .int (l14)), (15, .int (l15))] → W p l e (h_lv 86 y0) s m args below meth c H locs (h_nx y - h_nx y0) (h_sl y - h_sl y0) (MQ below (h_Qr G y0 (g_rf G (q.1)) (x, q.2, o)) args s (h_nx q.2 - h_nx y0) (h_sl q.2 - h_sl y0) (g_A G)) (F0 m 245 ls []) := by
  intro n
  induction n with
  | zero =>
    intro l0 l1 l3 l4 l5 l6 l7 l8 l9 l10 l11 l12 l13 l14 l15 y H locs ls h hW hl
    exact absurd h (by simp [f_l_L_drawn_245])
  | succ n ih =>
    intro l0 l1 l3 l4 l5 l6 l7 l8 l9 l10 l11 l12 l13 l14 l15 y H locs ls h hW hl
    unfold f_l_L_drawn_245 at h
    refine lv_iload C0.hx C0.hb dL_drawn_245 (lv_at hl 14 rfl) ?_
    refine lv_iload C0.hx C0.hb dL_drawn_247 (lv_at hl 13 rfl) ?_
    refine lv_icmp_ge (tgt := 301) C0.hx C0.hb dL_drawn_249 (by decide) (fun hc138 => ?_) (fun hc138 => ?_)
    · replace h := (if_pos hc138).symm.trans h
      refine lv_iload C0.hx C0.hb dL_drawn_301 (lv_at hl 7 rfl) ?_
      refine lv_iload C0.hx C0.hb dL_drawn_303 (lv_at hl 13 rfl) ?_
      refine lv_iadd C0.hx C0.hb dL_drawn_305 ?_
      refine lv_istore (lv' := [(8, .int (l8 + l14)), (0, g_rf G (l0)), (1, g_rf G (l1)), (3, .int (l3)), (4, g_rf G (l4)), (5, .int (l5)), (6, .int (l6)), (7, g_rf G (l7)), (9, .int (l9)), (10, .int (l10)), (11, .int (l11)), (12, .int (l12)), (13, .int (l13)), (14, .int (l14)), (15, .int (l15))]) C0.hx C0.hb dL_drawn_306 hl (by decide) (by simp [g_catQ]) (fun ls hl => ?_)
      refine lv_iinc (v := l10 + (1 : Int32)) (lv' := [(10, .int (l10 + (1 : Int32))), (8, .int (l8 + l14)), (0, g_rf G (l0)), (1, g_rf G (l1)), (3, .int (l3)), (4, g_rf G (l4)), (5, .int (l5)), (6, .int (l6)), (7, g_rf G (l7)), (9, .int (l9)), (11, .int (l11)), (12, .int (l12)), (13, .int (l13)), (14, .int (l14)), (15, .int (l15))]) C0.hx C0.hb dL_drawn_308 hl (k := 9) rfl rfl (by decide) rfl (fun ls hl => ?_)
      refine lv_goto (tgt := 98) C0.hx C0.hb dL_drawn_311 (by decide) ?_
      have hz := kt98 _ _ _ _ _ _ _ _ _ _ _ _ _ _ h hW (lv_sub hl [2, 3, 4, 5, 6, 7, 8, 1, 9, 0] rfl)
      exact hz
    · replace h := (if_neg hc138).symm.trans h
      refine h_aload C0.hx C0.hb dL_drawn_252 (lv_at hl 6 rfl) ?_
      refine lv_iload C0.hx C0.hb dL_drawn_254 (lv_at hl 7 rfl) ?_
      refine lv_iload C0.hx C0.hb dL_drawn_256 (lv_at hl 14 rfl) ?_
      refine lv_iadd C0.hx C0.hb dL_drawn_258 ?_
      refine lv_iload C0.hx C0.hb dL_drawn_259 (lv_at hl 10 rfl) ?_
      refine lv_iconst (v := (2 : Int32)) C0.hx C0.hb dL_drawn_261 (by decide) ?_
      refine lv_icmp_ge (tgt := 270) C0.hx C0.hb dL_drawn_262 (by decide) (fun hc139 => ?_) (fun hc139 => ?_)
      · replace h := (if_pos hc139).symm.trans h
        refine lv_iload C0.hx C0.hb dL_drawn_270 (lv_at hl 10 rfl) ?_
        refine lv_iconst (v := (4 : Int32)) C0.hx C0.hb dL_drawn_272 (by decide) ?_
        refine lv_icmp_ge (tgt := 293) C0.hx C0.hb dL_drawn_273 (by decide) (fun hc140 => ?_) (fun hc140 => ?_)
        · replace h := (if_pos hc140).symm.trans h
          refine lv_iconst (v := (0 : Int32)) C0.hx C0.hb dL_drawn_293 (by decide) ?_
          obtain ⟨hk141, h⟩ := g_if h
          obtain ⟨hn142, h⟩ := g_if h
          refine hs_60 C0 hW hk141 hn142 dL_drawn_294 (fun H locs hW => ?_)
          refine h_fwi hW ?_
          refine lv_iinc (v := l15 + (1 : Int32)) (lv' := [(15, .int (l15 + (1 : Int32))), (0, g_rf G (l0)), (1, g_rf G (l1)), (3, .int (l3)), (4, g_rf G (l4)), (5, .int (l5)), (6, .int (l6)), (7, g_rf G (l7)), (8, .int (l8)), (9, .int (l9)), (10, .int (l10)), (11, .int (l11)), (12, .int (l12)), (13, .int (l13)), (14, .int (l14))]) C0.hx C0.hb dL_drawn_295 hl (k := 14) rfl rfl (by decide) rfl (fun ls hl => ?_)
          refine lv_goto (tgt := 245) C0.hx C0.hb dL_drawn_298 (by decide) ?_
          have hz := ih _ _ _ _ _ _ _ _ _ _ _ _ _ _ _ _ _ _ _ h hW (lv_sub hl [1, 2, 3, 4, 5, 6, 7, 8, 9, 10, 11, 12, 13, 14, 0] rfl)
          exact hz
        · replace h := (if_neg hc140).symm.trans h
          refine lv_iload C0.hx C0.hb dL_drawn_276 (lv_at hl 11 rfl) ?_
          refine lv_iload C0.hx C0.hb dL_drawn_278 (lv_at hl 14 rfl) ?_
          refine lv_iload C0.hx C0.hb dL_drawn_280 (lv_at hl 12 rfl) ?_
          refine lv_iload C0.hx C0.hb dL_drawn_282 (lv_at hl 11 rfl) ?_
          refine lv_isub C0.hx C0.hb dL_drawn_284 ?_
          refine lv_imul C0.hx C0.hb dL_drawn_285 ?_
          refine lv_iload C0.hx C0.hb dL_drawn_286 (lv_at hl 13 rfl) ?_
          obtain ⟨hn143, h⟩ := g_if h
          refine lv_idiv C0.hx C0.hb dL_drawn_288 hn143 ?_
          refine lv_iadd C0.hx C0.hb dL_drawn_289 ?_
          refine lv_goto (tgt := 294) C0.hx C0.hb dL_drawn_290 (by decide) ?_
          obtain ⟨hk144, h⟩ := g_if h
          obtain ⟨hn145, h⟩ := g_if h
          refine hs_60 C0 hW hk144 hn145 dL_drawn_294 (fun H locs hW => ?_)
          refine h_fwi hW ?_
          refine lv_iinc (v := l15 + (1 : Int32)) (lv' := [(15, .int (l15 + (1 : Int32))), (0, g_rf G (l0)), (1, g_rf G (l1)), (3, .int (l3)), (4, g_rf G (l4)), (5, .int (l5)), (6, .int (l6)), (7, g_rf G (l7)), (8, .int (l8)), (9, .int (l9)), (10, .int (l10)), (11, .int (l11)), (12, .int (l12)), (13, .int (l13)), (14, .int (l14))]) C0.hx C0.hb dL_drawn_295 hl (k := 14) rfl rfl (by decide) rfl (fun ls hl => ?_)
          refine lv_goto (tgt := 245) C0.hx C0.hb dL_drawn_298 (by decide) ?_
          have hz := ih _ _ _ _ _ _ _ _ _ _ _ _ _ _ _ _ _ _ _ h hW (lv_sub hl [1, 2, 3, 4, 5, 6, 7, 8, 9, 10, 11, 12, 13, 14, 0] rfl)
          exact hz
      · replace h := (if_neg hc139).symm.trans h
        refine lv_iload C0.hx C0.hb dL_drawn_265 (lv_at hl 11 rfl) ?_
        refine lv_goto (tgt := 294) C0.hx C0.hb dL_drawn_267 (by decide) ?_
        obtain ⟨hk146, h⟩ := g_if h
        obtain ⟨hn147, h⟩ := g_if h
        refine hs_60 C0 hW hk146 hn147 dL_drawn_294 (fun H locs hW => ?_)
        refine h_fwi hW ?_
        refine lv_iinc (v := l15 + (1 : Int32)) (lv' := [(15, .int (l15 + (1 : Int32))), (0, g_rf G (l0)), (1, g_rf G (l1)), (3, .int (l3)), (4, g_rf G (l4)), (5, .int (l5)), (6, .int (l6)), (7, g_rf G (l7)), (8, .int (l8)), (9, .int (l9)), (10, .int (l10)), (11, .int (l11)), (12, .int (l12)), (13, .int (l13)), (14, .int (l14))]) C0.hx C0.hb dL_drawn_295 hl (k := 14) rfl rfl (by decide) rfl (fun ls hl => ?_)
        refine lv_goto (tgt := 245) C0.hx C0.hb dL_drawn_298 (by decide) ?_
        have hz := ih _ _ _ _ _ _ _ _ _ _ _ _ _ _ _ _ _ _ _ h hW (lv_sub hl [1, 2, 3, 4, 5, 6, 7, 8, 9, 10, 11, 12, 13, 14, 0] rfl)
        exact hz
set_option maxRecDepth 100000 in
set_option maxHeartbeats 4000000 in
theorem w_l_L_drawn_230 {p : Program} {l : Launch} {e : Env} {s : State} {m : MethodId} {args : Array Value} {below : List Frame} {meth : Method} {c : Code} {G : GL} {o : Nat → Int32} {y0 : MS} {x : CS} {q : Nat × MS} {k53 : Nat → Nat → Int32 → Nat → Int32 → Int32 → MS → Option (Nat × MS)} {k98 : Nat → Nat → Int32 → Nat → Int32 → Int32 → Nat → Int32 → Int32 → Int32 → MS → Option (Nat × MS)}  (C0 : g_X G (List.range 120) p s m args meth c cL_drawn 16 RL (Option.some (Jvm.ClassFile.FieldType.object "GlideWhistlesLaw$Talk"))) (kt53 : ∀ (l0 : Nat) (l1 : Nat) (l3 : Int32) (l4 : Nat) (l5 : Int32) (l6 : Int32) (y : MS) (H : Heap) (locs : List Loc) (ls : Array Slot), k53 l0 l1 l3 l4 l5 l6 y = some q → h_W G y0 (x, y, o) s.heap H locs → lv_has ls 16 [(0, g_rf G (l0)), (1, g_rf G (l1)), (3, .int (l3)), (4, g_rf G (l4)), (5, .int (l5)), (6, .int (l6))] → W p l e (h_lv 86 y0) s m args below meth c H locs (h_nx y - h_nx y0) (h_sl y - h_sl y0) (MQ below (h_Qr G y0 (g_rf G (q.1)) (x, q.2, o)) args s (h_nx q.2 - h_nx y0) (h_sl q.2 - h_sl y0) (g_A G)) (F0 m 53 ls [])) (kt98 : ∀ (l0 : Nat) (l1 : Nat) (l3 : Int32) (l4 : Nat) (l5 : Int32) (l6 : Int32) (l7 : Nat) (l8 : Int32) (l9 : Int32) (l10 : Int32) (y : MS) (H : Heap) (locs : List Loc) (ls : Array Slot), k98 l0 l1 l3 l4 l5 l6 l7 l8 l9 l10 y = some q → h_W G y0 (x, y, o) s.heap H locs → lv_has ls 16 [(0, g_rf G (l0)), (1, g_rf G (l1)), (3, .int (l3)), (4, g_rf G (l4)), (5, .int (l5)), (6, .int (l6)), (7, g_rf G (l7)), (8, .int (l8)), (9, .int (l9)), (10, .int (l10))] → W p l e (h_lv 86 y0) s m args below meth c H locs (h_nx y - h_nx y0) (h_sl y - h_sl y0) (MQ below (h_Qr G y0 (g_rf G (q.1)) (x, q.2, o)) args s (h_nx q.2 - h_nx y0) (h_sl q.2 - h_sl y0) (g_A G)) (F0 m 98 ls [])) : ∀  (l0 : Nat) (l1 : Nat) (l3 : Int32) (l4 : Nat) (l5 : Int32) (l6 : Int32) (l7 : Nat) (l8 : Int32) (l9 : Int32) (l10 : Int32) (l11 : Int32) (l12 : Int32) (l13 : Int32) (l14 : Int32) (y : MS) (H : Heap) (locs : List Loc) (ls : Array Slot), f_l_L_drawn_230 k53 k98 l0 l1 l3 l4 l5 l6 l7 l8 l9 l10 l11 l12 l13 l14 y = some q → h_W G y0 (x, y, o) s.heap H locs → lv_has ls 16 [(0, g_rf G (l0)), (1, g_rf G (l1)), (3, .int (l3)), (4, g_rf G (l4)), (5, .int (l5)), (6, .int (l6)), (7, g_rf G (l7)), (8, .int (l8)), (9, .int (l9)), (10, .int (l10)), (11, .int (l11)), (12, .int (l12)), (13, .int (l13)), (14, .int (l14))] → W p l e (h_lv 86 y0) s m args below meth c H locs (h_nx y - h_nx y0) (h_sl y - h_sl y0) (MQ below (h_Qr G y0 (g_rf G (q.1)) (x, q.2, o)) args s (h_nx q.2 - h_nx y0) (h_sl q.2 - h_sl y0) (g_A G)) (F0 m 230 ls []) := by
  intro l0 l1 l3 l4 l5 l6 l7 l8 l9 l10 l11 l12 l13 l14 y H locs ls h hW hl
  unfold f_l_L_drawn_230 at h
  refine h_aload_n C0.hx C0.hb dL_drawn_230 rfl (lv_at hl 1 rfl) ?_
  refine h_ldc C0 hW (n := 54) (List.mem_of_getElem? (i := 8) rfl) (by decide) dL_drawn_231 ?_
  obtain ⟨hk134, h⟩ := g_if h
  obtain ⟨q135, hq135, h⟩ := Option.bind_eq_some_iff.mp h
  refine h_callr hW (h_runV (As := [.ref (g_sa G (54))]) (rest := []) C0 hW (hW.rf (h_ne hk134 (by decide))) (h_recv C0 hW (h_ne hk134 (by decide)) (h_c54 hk134) rfl) (c_l_J4_append_15ec4 hq135) cy_J4_append_15ec4 (by omega) tm_L_54 ti_J4_append_15ec4 ts_J4_append_15ec4 rfl hl.1 rfl (Nat.le_of_ble_eq_true rfl) dL_drawn_233) (fun H locs hW => ?_)
  refine lv_iload C0.hx C0.hb dL_drawn_236 (lv_at hl 13 rfl) ?_
  obtain ⟨hk136, h⟩ := g_if h
  obtain ⟨q137, hq137, h⟩ := Option.bind_eq_some_iff.mp h
  refine h_callr hW (h_runV (As := [.int (l14)]) (rest := []) C0 hW (hW.rf (h_ne hk136 (by decide))) (h_recv C0 hW (h_ne hk136 (by decide)) (h_c54 hk136) rfl) (c_l_J4_append_bf812 hq137) cy_J4_append_bf812 (by omega) tm_L_60 ti_J4_append_bf812 ts_J4_append_bf812 rfl hl.1 rfl (Nat.le_of_ble_eq_true rfl) dL_drawn_238) (fun H locs hW => ?_)
  refine lv_pop C0.hx C0.hb dL_drawn_241 g_catQ ?_
  refine lv_iconst (v := (0 : Int32)) C0.hx C0.hb dL_drawn_242 (by decide) ?_
  refine lv_istore (lv' := [(15, .int ((0 : Int32))), (0, g_rf G (l0)), (1, g_rf G (l1)), (3, .int (l3)), (4, g_rf G (l4)), (5, .int (l5)), (6, .int (l6)), (7, g_rf G (l7)), (8, .int (l8)), (9, .int (l9)), (10, .int (l10)), (11, .int (l11)), (12, .int (l12)), (13, .int (l13)), (14, .int (l14))]) C0.hx C0.hb dL_drawn_243 hl (by decide) rfl (fun ls hl => ?_)
  have hz := w_l_L_drawn_245 (l := l) (e := e) (below := below) C0 kt53 kt98 g_fuel _ _ _ _ _ _ _ _ _ _ _ _ _ _ _ _ _ _ _ h hW (lv_sub hl [1, 2, 3, 4, 5, 6, 7, 8, 9, 10, 11, 12, 13, 14, 0] rfl)
  exact hz
set_option maxRecDepth 100000 in
set_option maxHeartbeats 4000000 in
theorem w_l_L_drawn_167 {p : Program} {l : Launch} {e : Env} {s : State} {m : MethodId} {args : Array Value} {below : List Frame} {meth : Method} {c : Code} {G : GL} {o : Nat → Int32} {y0 : MS} {x : CS} {q : Nat × MS} {k53 : Nat → Nat → Int32 → Nat → Int32 → Int32 → MS → Option (Nat × MS)} {k98 : Nat → Nat → Int32 → Nat → Int32 → Int32 → Nat → Int32 → Int32 → Int32 → MS → Option (Nat × MS)}  (C0 : g_X G (List.range 120) p s m args meth c cL_drawn 16 RL (Option.some (Jvm.ClassFile.FieldType.object "GlideWhistlesLaw$Talk"))) (kt53 : ∀ (l0 : Nat) (l1 : Nat) (l3 : Int32) (l4 : Nat) (l5 : Int32) (l6 : Int32) (y : MS) (H : Heap) (locs : List Loc) (ls : Array Slot), k53 l0 l1 l3 l4 l5 l6 y = some q → h_W G y0 (x, y, o) s.heap H locs → lv_has ls 16 [(0, g_rf G (l0)), (1, g_rf G (l1)), (3, .int (l3)), (4, g_rf G (l4)), (5, .int (l5)), (6, .int (l6))] → W p l e (h_lv 86 y0) s m args below meth c H locs (h_nx y - h_nx y0) (h_sl y - h_sl y0) (MQ below (h_Qr G y0 (g_rf G (q.1)) (x, q.2, o)) args s (h_nx q.2 - h_nx y0) (h_sl q.2 - h_sl y0) (g_A G)) (F0 m 53 ls [])) (kt98 : ∀ (l0 : Nat) (l1 : Nat) (l3 : Int32) (l4 : Nat) (l5 : Int32) (l6 : Int32) (l7 : Nat) (l8 : Int32) (l9 : Int32) (l10 : Int32) (y : MS) (H : Heap) (locs : List Loc) (ls : Array Slot), k98 l0 l1 l3 l4 l5 l6 l7 l8 l9 l10 y = some q → h_W G y0 (x, y, o) s.heap H locs → lv_has ls 16 [(0, g_rf G (l0)), (1, g_rf G (l1)), (3, .int (l3)), (4, g_rf G (l4)), (5, .int (l5)), (6, .int (l6)), (7, g_rf G (l7)), (8, .int (l8)), (9, .int (l9)), (10, .int (l10))] → W p l e (h_lv 86 y0) s m args below meth c H locs (h_nx y - h_nx y0) (h_sl y - h_sl y0) (MQ below (h_Qr G y0 (g_rf G (q.1)) (x, q.2, o)) args s (h_nx q.2 - h_nx y0) (h_sl q.2 - h_sl y0) (g_A G)) (F0 m 98 ls [])) : ∀  (l0 : Nat) (l1 : Nat) (l3 : Int32) (l4 : Nat) (l5 : Int32) (l6 : Int32) (l7 : Nat) (l8 : Int32) (l9 : Int32) (l10 : Int32) (l11 : Int32) (l12 : Int32) (l13 : Int32) (l14 : Int32) (s0 : Nat) (s1 : Nat) (y : MS) (H : Heap) (locs : List Loc) (ls : Array Slot), f_l_L_drawn_167 k53 k98 l0 l1 l3 l4 l5 l6 l7 l8 l9 l10 l11 l12 l13 l14 s0 s1 y = some q → h_W G y0 (x, y, o) s.heap H locs → lv_has ls 16 [(0, g_rf G (l0)), (1, g_rf G (l1)), (3, .int (l3)), (4, g_rf G (l4)), (5, .int (l5)), (6, .int (l6)), (7, g_rf G (l7)), (8, .int (l8)), (9, .int (l9)), (10, .int (l10)), (11, .int (l11)), (12, .int (l12)), (13, .int (l13)), (14, .int (l14))] → W p l e (h_lv 86 y0) s m args below meth c H locs (h_nx y - h_nx y0) (h_sl y - h_sl y0) (MQ below (h_Qr G y0 (g_rf G (q.1)) (x, q.2, o)) args s (h_nx q.2 - h_nx y0) (h_sl q.2 - h_sl y0) (g_A G)) (F0 m 167 ls [.ref (g_sa G (s0)), g_rf G (s1)]) := by
  intro l0 l1 l3 l4 l5 l6 l7 l8 l9 l10 l11 l12 l13 l14 s0 s1 y H locs ls h hW hl
  unfold f_l_L_drawn_167 at h
  obtain ⟨hk116, h⟩ := g_if h
  obtain ⟨q117, hq117, h⟩ := Option.bind_eq_some_iff.mp h
  refine h_callr hW (h_runV (As := [.ref (g_sa G (s0))]) (rest := []) C0 hW (hW.rf (h_ne hk116 (by decide))) (h_recv C0 hW (h_ne hk116 (by decide)) (h_c54 hk116) rfl) (c_l_J4_append_15ec4 hq117) cy_J4_append_15ec4 (by omega) tm_L_54 ti_J4_append_15ec4 ts_J4_append_15ec4 rfl hl.1 rfl (Nat.le_of_ble_eq_true rfl) dL_drawn_167) (fun H locs hW => ?_)
  refine lv_pop C0.hx C0.hb dL_drawn_170 g_catQ ?_
  refine lv_iload C0.hx C0.hb dL_drawn_171 (lv_at hl 10 rfl) ?_
  refine lv_iconst (v := (2 : Int32)) C0.hx C0.hb dL_drawn_173 (by decide) ?_
  refine lv_icmp_ge (tgt := 192) C0.hx C0.hb dL_drawn_174 (by decide) (fun hc118 => ?_) (fun hc118 => ?_)
  · replace h := (if_pos hc118).symm.trans h
    refine lv_iload C0.hx C0.hb dL_drawn_192 (lv_at hl 10 rfl) ?_
    refine lv_iconst (v := (4 : Int32)) C0.hx C0.hb dL_drawn_194 (by decide) ?_
    refine lv_icmp_ge (tgt := 223) C0.hx C0.hb dL_drawn_195 (by decide) (fun hc119 => ?_) (fun hc119 => ?_)
    · replace h := (if_pos hc119).symm.trans h
      refine h_aload_n C0.hx C0.hb dL_drawn_223 rfl (lv_at hl 1 rfl) ?_
      refine h_ldc C0 hW (n := 53) (List.mem_of_getElem? (i := 7) rfl) (by decide) dL_drawn_224 ?_
      obtain ⟨hk120, h⟩ := g_if h
      obtain ⟨q121, hq121, h⟩ := Option.bind_eq_some_iff.mp h
      refine h_callr hW (h_runV (As := [.ref (g_sa G (53))]) (rest := []) C0 hW (hW.rf (h_ne hk120 (by decide))) (h_recv C0 hW (h_ne hk120 (by decide)) (h_c54 hk120) rfl) (c_l_J4_append_15ec4 hq121) cy_J4_append_15ec4 (by omega) tm_L_54 ti_J4_append_15ec4 ts_J4_append_15ec4 rfl hl.1 rfl (Nat.le_of_ble_eq_true rfl) dL_drawn_226) (fun H locs hW => ?_)
      refine lv_pop C0.hx C0.hb dL_drawn_229 g_catQ ?_
      have hz := w_l_L_drawn_230 (l := l) (e := e) (below := below) C0 kt53 kt98 _ _ _ _ _ _ _ _ _ _ _ _ _ _ _ _ _ _ h hW (lv_sub hl [0, 1, 2, 3, 4, 5, 6, 7, 8, 9, 10, 11, 12, 13] rfl)
      exact hz
    · replace h := (if_neg hc119).symm.trans h
      refine h_aload_n C0.hx C0.hb dL_drawn_198 rfl (lv_at hl 1 rfl) ?_
      refine h_ldc C0 hW (n := 51) (List.mem_of_getElem? (i := 5) rfl) (by decide) dL_drawn_199 ?_
      obtain ⟨hk122, h⟩ := g_if h
      obtain ⟨q123, hq123, h⟩ := Option.bind_eq_some_iff.mp h
      refine h_callr hW (h_runV (As := [.ref (g_sa G (51))]) (rest := []) C0 hW (hW.rf (h_ne hk122 (by decide))) (h_recv C0 hW (h_ne hk122 (by decide)) (h_c54 hk122) rfl) (c_l_J4_append_15ec4 hq123) cy_J4_append_15ec4 (by omega) tm_L_54 ti_J4_append_15ec4 ts_J4_append_15ec4 rfl hl.1 rfl (Nat.le_of_ble_eq_true rfl) dL_drawn_201) (fun H locs hW => ?_)
      refine lv_iload C0.hx C0.hb dL_drawn_204 (lv_at hl 11 rfl) ?_
      obtain ⟨hk124, h⟩ := g_if h
      obtain ⟨q125, hq125, h⟩ := Option.bind_eq_some_iff.mp h
      refine h_callr hW (h_runV (As := [.int (l12)]) (rest := []) C0 hW (hW.rf (h_ne hk124 (by decide))) (h_recv C0 hW (h_ne hk124 (by decide)) (h_c54 hk124) rfl) (c_l_J4_append_bf812 hq125) cy_J4_append_bf812 (by omega) tm_L_60 ti_J4_append_bf812 ts_J4_append_bf812 rfl hl.1 rfl (Nat.le_of_ble_eq_true rfl) dL_drawn_206) (fun H locs hW => ?_)
      refine h_ldc C0 hW (n := 52) (List.mem_of_getElem? (i := 6) rfl) (by decide) dL_drawn_209 ?_
      obtain ⟨hk126, h⟩ := g_if h
      obtain ⟨q127, hq127, h⟩ := Option.bind_eq_some_iff.mp h
      refine h_callr hW (h_runV (As := [.ref (g_sa G (52))]) (rest := []) C0 hW (hW.rf (h_ne hk126 (by decide))) (h_recv C0 hW (h_ne hk126 (by decide)) (h_c54 hk126) rfl) (c_l_J4_append_15ec4 hq127) cy_J4_append_15ec4 (by omega) tm_L_54 ti_J4_append_15ec4 ts_J4_append_15ec4 rfl hl.1 rfl (Nat.le_of_ble_eq_true rfl) dL_drawn_211) (fun H locs hW => ?_)
      refine lv_iload C0.hx C0.hb dL_drawn_214 (lv_at hl 12 rfl) ?_
      obtain ⟨hk128, h⟩ := g_if h
      obtain ⟨q129, hq129, h⟩ := Option.bind_eq_some_iff.mp h
      refine h_callr hW (h_runV (As := [.int (l13)]) (rest := []) C0 hW (hW.rf (h_ne hk128 (by decide))) (h_recv C0 hW (h_ne hk128 (by decide)) (h_c54 hk128) rfl) (c_l_J4_append_bf812 hq129) cy_J4_append_bf812 (by omega) tm_L_60 ti_J4_append_bf812 ts_J4_append_bf812 rfl hl.1 rfl (Nat.le_of_ble_eq_true rfl) dL_drawn_216) (fun H locs hW => ?_)
      refine lv_pop C0.hx C0.hb dL_drawn_219 g_catQ ?_
      refine lv_goto (tgt := 230) C0.hx C0.hb dL_drawn_220 (by decide) ?_
      have hz := w_l_L_drawn_230 (l := l) (e := e) (below := below) C0 kt53 kt98 _ _ _ _ _ _ _ _ _ _ _ _ _ _ _ _ _ _ h hW (lv_sub hl [0, 1, 2, 3, 4, 5, 6, 7, 8, 9, 10, 11, 12, 13] rfl)
      exact hz
  · replace h := (if_neg hc118).symm.trans h
    refine h_aload_n C0.hx C0.hb dL_drawn_177 rfl (lv_at hl 1 rfl) ?_
    refine h_ldc C0 hW (n := 50) (List.mem_of_getElem? (i := 4) rfl) (by decide) dL_drawn_178 ?_
    obtain ⟨hk130, h⟩ := g_if h
    obtain ⟨q131, hq131, h⟩ := Option.bind_eq_some_iff.mp h
    refine h_callr hW (h_runV (As := [.ref (g_sa G (50))]) (rest := []) C0 hW (hW.rf (h_ne hk130 (by decide))) (h_recv C0 hW (h_ne hk130 (by decide)) (h_c54 hk130) rfl) (c_l_J4_append_15ec4 hq131) cy_J4_append_15ec4 (by omega) tm_L_54 ti_J4_append_15ec4 ts_J4_append_15ec4 rfl hl.1 rfl (Nat.le_of_ble_eq_true rfl) dL_drawn_180) (fun H locs hW => ?_)
    refine lv_iload C0.hx C0.hb dL_drawn_183 (lv_at hl 11 rfl) ?_
    obtain ⟨hk132, h⟩ := g_if h
    obtain ⟨q133, hq133, h⟩ := Option.bind_eq_some_iff.mp h
    refine h_callr hW (h_runV (As := [.int (l12)]) (rest := []) C0 hW (hW.rf (h_ne hk132 (by decide))) (h_recv C0 hW (h_ne hk132 (by decide)) (h_c54 hk132) rfl) (c_l_J4_append_bf812 hq133) cy_J4_append_bf812 (by omega) tm_L_60 ti_J4_append_bf812 ts_J4_append_bf812 rfl hl.1 rfl (Nat.le_of_ble_eq_true rfl) dL_drawn_185) (fun H locs hW => ?_)
    refine lv_pop C0.hx C0.hb dL_drawn_188 g_catQ ?_
    refine lv_goto (tgt := 230) C0.hx C0.hb dL_drawn_189 (by decide) ?_
    have hz := w_l_L_drawn_230 (l := l) (e := e) (below := below) C0 kt53 kt98 _ _ _ _ _ _ _ _ _ _ _ _ _ _ _ _ _ _ h hW (lv_sub hl [0, 1, 2, 3, 4, 5, 6, 7, 8, 9, 10, 11, 12, 13] rfl)
    exact hz
set_option maxRecDepth 100000 in
set_option maxHeartbeats 4000000 in
theorem w_l_L_drawn_148 {p : Program} {l : Launch} {e : Env} {s : State} {m : MethodId} {args : Array Value} {below : List Frame} {meth : Method} {c : Code} {G : GL} {o : Nat → Int32} {y0 : MS} {x : CS} {q : Nat × MS} {k53 : Nat → Nat → Int32 → Nat → Int32 → Int32 → MS → Option (Nat × MS)} {k98 : Nat → Nat → Int32 → Nat → Int32 → Int32 → Nat → Int32 → Int32 → Int32 → MS → Option (Nat × MS)}  (C0 : g_X G (List.range 120) p s m args meth c cL_drawn 16 RL (Option.some (Jvm.ClassFile.FieldType.object "GlideWhistlesLaw$Talk"))) (kt53 : ∀ (l0 : Nat) (l1 : Nat) (l3 : Int32) (l4 : Nat) (l5 : Int32) (l6 : Int32) (y : MS) (H : Heap) (locs : List Loc) (ls : Array Slot), k53 l0 l1 l3 l4 l5 l6 y = some q → h_W G y0 (x, y, o) s.heap H locs → lv_has ls 16 [(0, g_rf G (l0)), (1, g_rf G (l1)), (3, .int (l3)), (4, g_rf G (l4)), (5, .int (l5)), (6, .int (l6))] → W p l e (h_lv 86 y0) s m args below meth c H locs (h_nx y - h_nx y0) (h_sl y - h_sl y0) (MQ below (h_Qr G y0 (g_rf G (q.1)) (x, q.2, o)) args s (h_nx q.2 - h_nx y0) (h_sl q.2 - h_sl y0) (g_A G)) (F0 m 53 ls [])) (kt98 : ∀ (l0 : Nat) (l1 : Nat) (l3 : Int32) (l4 : Nat) (l5 : Int32) (l6 : Int32) (l7 : Nat) (l8 : Int32) (l9 : Int32) (l10 : Int32) (y : MS) (H : Heap) (locs : List Loc) (ls : Array Slot), k98 l0 l1 l3 l4 l5 l6 l7 l8 l9 l10 y = some q → h_W G y0 (x, y, o) s.heap H locs → lv_has ls 16 [(0, g_rf G (l0)), (1, g_rf G (l1)), (3, .int (l3)), (4, g_rf G (l4)), (5, .int (l5)), (6, .int (l6)), (7, g_rf G (l7)), (8, .int (l8)), (9, .int (l9)), (10, .int (l10))] → W p l e (h_lv 86 y0) s m args below meth c H locs (h_nx y - h_nx y0) (h_sl y - h_sl y0) (MQ below (h_Qr G y0 (g_rf G (q.1)) (x, q.2, o)) args s (h_nx q.2 - h_nx y0) (h_sl q.2 - h_sl y0) (g_A G)) (F0 m 98 ls [])) : ∀  (l0 : Nat) (l1 : Nat) (l3 : Int32) (l4 : Nat) (l5 : Int32) (l6 : Int32) (l7 : Nat) (l8 : Int32) (l9 : Int32) (l10 : Int32) (l11 : Int32) (l12 : Int32) (l13 : Int32) (s0 : Int32) (s1 : Nat) (s2 : Int32) (y : MS) (H : Heap) (locs : List Loc) (ls : Array Slot), f_l_L_drawn_148 k53 k98 l0 l1 l3 l4 l5 l6 l7 l8 l9 l10 l11 l12 l13 s0 s1 s2 y = some q → h_W G y0 (x, y, o) s.heap H locs → lv_has ls 16 [(0, g_rf G (l0)), (1, g_rf G (l1)), (3, .int (l3)), (4, g_rf G (l4)), (5, .int (l5)), (6, .int (l6)), (7, g_rf G (l7)), (8, .int (l8)), (9, .int (l9)), (10, .int (l10)), (11, .int (l11)), (12, .int (l12)), (13, .int (l13))] → W p l e (h_lv 86 y0) s m args below meth c H locs (h_nx y - h_nx y0) (h_sl y - h_sl y0) (MQ below (h_Qr G y0 (g_rf G (q.1)) (x, q.2, o)) args s (h_nx q.2 - h_nx y0) (h_sl q.2 - h_sl y0) (g_A G)) (F0 m 148 ls [.int (s0), g_rf G (s1), .int (s2)]) := by
  intro l0 l1 l3 l4 l5 l6 l7 l8 l9 l10 l11 l12 l13 s0 s1 s2 y H locs ls h hW hl
  unfold f_l_L_drawn_148 at h
  obtain ⟨hk89, h⟩ := g_if h
  obtain ⟨q90, hq90, h⟩ := Option.bind_eq_some_iff.mp h
  refine h_calli hW (h_runV (As := [.int (s0)]) (rest := [.int (s2)]) C0 hW (hW.rf (h_ne hk89 (by decide))) (h_recv C0 hW (h_ne hk89 (by decide)) (h_c50 hk89) rfl) (c_l_X13_next hq90) cy_X13_next (by omega) tm_L_37 ti_X13_next ts_X13_next rfl hl.1 rfl (Nat.le_of_ble_eq_true rfl) dL_drawn_148) (fun H locs hW => ?_)
  refine lv_iadd C0.hx C0.hb dL_drawn_151 ?_
  refine lv_istore (lv' := [(14, .int (s2 + q90.1)), (0, g_rf G (l0)), (1, g_rf G (l1)), (3, .int (l3)), (4, g_rf G (l4)), (5, .int (l5)), (6, .int (l6)), (7, g_rf G (l7)), (8, .int (l8)), (9, .int (l9)), (10, .int (l10)), (11, .int (l11)), (12, .int (l12)), (13, .int (l13))]) C0.hx C0.hb dL_drawn_152 hl (by decide) rfl (fun ls hl => ?_)
  refine h_aload_n C0.hx C0.hb dL_drawn_154 rfl (lv_at hl 2 rfl) ?_
  refine lv_iload C0.hx C0.hb dL_drawn_155 (lv_at hl 10 rfl) ?_
  refine lv_if_ne (tgt := 165) C0.hx C0.hb dL_drawn_157 (by decide) (fun hc91 => ?_) (fun hc91 => ?_)
  · replace h := (if_neg hc91).symm.trans h
    refine h_ldc C0 hW (n := 49) (List.mem_of_getElem? (i := 3) rfl) (by decide) dL_drawn_165 ?_
    have hz := w_l_L_drawn_167 (l := l) (e := e) (below := below) C0 kt53 kt98 _ _ _ _ _ _ _ _ _ _ _ _ _ _ _ _ _ _ _ _ h hW (lv_sub hl [1, 2, 3, 4, 5, 6, 7, 8, 9, 10, 11, 12, 13, 0] rfl)
    exact hz
  · replace h := (if_pos hc91).symm.trans h
    refine h_ldc C0 hW (n := 48) (List.mem_of_getElem? (i := 2) rfl) (by decide) dL_drawn_160 ?_
    refine lv_goto (tgt := 167) C0.hx C0.hb dL_drawn_162 (by decide) ?_
    have hz := w_l_L_drawn_167 (l := l) (e := e) (below := below) C0 kt53 kt98 _ _ _ _ _ _ _ _ _ _ _ _ _ _ _ _ _ _ _ _ h hW (lv_sub hl [1, 2, 3, 4, 5, 6, 7, 8, 9, 10, 11, 12, 13, 0] rfl)
    exact hz
set_option maxRecDepth 100000 in
set_option maxHeartbeats 4000000 in
theorem w_l_L_drawn_98 {p : Program} {l : Launch} {e : Env} {s : State} {m : MethodId} {args : Array Value} {below : List Frame} {meth : Method} {c : Code} {G : GL} {o : Nat → Int32} {y0 : MS} {x : CS} {q : Nat × MS} {k53 : Nat → Nat → Int32 → Nat → Int32 → Int32 → MS → Option (Nat × MS)}  (C0 : g_X G (List.range 120) p s m args meth c cL_drawn 16 RL (Option.some (Jvm.ClassFile.FieldType.object "GlideWhistlesLaw$Talk"))) (kt53 : ∀ (l0 : Nat) (l1 : Nat) (l3 : Int32) (l4 : Nat) (l5 : Int32) (l6 : Int32) (y : MS) (H : Heap) (locs : List Loc) (ls : Array Slot), k53 l0 l1 l3 l4 l5 l6 y = some q → h_W G y0 (x, y, o) s.heap H locs → lv_has ls 16 [(0, g_rf G (l0)), (1, g_rf G (l1)), (3, .int (l3)), (4, g_rf G (l4)), (5, .int (l5)), (6, .int (l6))] → W p l e (h_lv 86 y0) s m args below meth c H locs (h_nx y - h_nx y0) (h_sl y - h_sl y0) (MQ below (h_Qr G y0 (g_rf G (q.1)) (x, q.2, o)) args s (h_nx q.2 - h_nx y0) (h_sl q.2 - h_sl y0) (g_A G)) (F0 m 53 ls [])) : ∀ (n : Nat) (l0 : Nat) (l1 : Nat) (l3 : Int32) (l4 : Nat) (l5 : Int32) (l6 : Int32) (l7 : Nat) (l8 : Int32) (l9 : Int32) (l10 : Int32) (y : MS) (H : Heap) (locs : List Loc) (ls : Array Slot), f_l_L_drawn_98 k53 n l0 l1 l3 l4 l5 l6 l7 l8 l9 l10 y = some q → h_W G y0 (x, y, o) s.heap H locs → lv_has ls 16 [(0, g_rf G (l0)), (1, g_rf G (l1)), (3, .int (l3)), (4, g_rf G (l4)), (5, .int (l5)), (6, .int (l6)), (7, g_rf G (l7)), (8, .int (l8)), (9, .int (l9)), (10, .int (l10))] → W p l e (h_lv 86 y0) s m args below meth c H locs (h_nx y - h_nx y0) (h_sl y - h_sl y0) (MQ below (h_Qr G y0 (g_rf G (q.1)) (x, q.2, o)) args s (h_nx q.2 - h_nx y0) (h_sl q.2 - h_sl y0) (g_A G)) (F0 m 98 ls []) := by
  intro n
  induction n with
  | zero =>
    intro l0 l1 l3 l4 l5 l6 l7 l8 l9 l10 y H locs ls h hW hl
    exact absurd h (by simp [f_l_L_drawn_98])
  | succ n ih =>
    intro l0 l1 l3 l4 l5 l6 l7 l8 l9 l10 y H locs ls h hW hl
    unfold f_l_L_drawn_98 at h
    refine lv_iload C0.hx C0.hb dL_drawn_98 (lv_at hl 9 rfl) ?_
    refine lv_iload C0.hx C0.hb dL_drawn_100 (lv_at hl 8 rfl) ?_
    refine lv_icmp_ge (tgt := 314) C0.hx C0.hb dL_drawn_102 (by decide) (fun hc49 => ?_) (fun hc49 => ?_)
    · replace h := (if_pos hc49).symm.trans h
      refine h_aload_n C0.hx C0.hb dL_drawn_314 rfl (lv_at hl 1 rfl) ?_
      refine h_aload_n C0.hx C0.hb dL_drawn_315 rfl (lv_at hl 0 rfl) ?_
      refine lv_iconst (v := (5 : Int32)) C0.hx C0.hb dL_drawn_316 (by decide) ?_
      obtain ⟨hk50, h⟩ := g_if h
      obtain ⟨q51, hq51, h⟩ := Option.bind_eq_some_iff.mp h
      refine h_calli hW (h_runV (As := [.int ((5 : Int32))]) (rest := [g_rf G (l1)]) C0 hW (hW.rf (h_ne hk50 (by decide))) (h_recv C0 hW (h_ne hk50 (by decide)) (h_c50 hk50) rfl) (c_l_X13_next hq51) cy_X13_next (by omega) tm_L_37 ti_X13_next ts_X13_next rfl hl.1 rfl (by simp [g_catQ, h_ki, h_kr, h_kn, h_kl, h_kd]) dL_drawn_317) (fun H locs hW => ?_)
      refine lv_if_ne (tgt := 328) C0.hx C0.hb dL_drawn_320 (by decide) (fun hc52 => ?_) (fun hc52 => ?_)
      · replace h := (if_neg hc52).symm.trans h
        refine h_ldc C0 hW (n := 56) (List.mem_of_getElem? (i := 10) rfl) (by decide) dL_drawn_328 ?_
        have hz := w_l_L_drawn_330 (l := l) (e := e) (below := below) C0 kt53 _ _ _ _ _ _ _ _ _ _ _ _ _ _ h hW (lv_sub hl [0, 1, 2, 3, 4, 5, 6, 7] rfl)
        exact hz
      · replace h := (if_pos hc52).symm.trans h
        refine h_ldc C0 hW (n := 55) (List.mem_of_getElem? (i := 9) rfl) (by decide) dL_drawn_323 ?_
        refine lv_goto (tgt := 330) C0.hx C0.hb dL_drawn_325 (by decide) ?_
        have hz := w_l_L_drawn_330 (l := l) (e := e) (below := below) C0 kt53 _ _ _ _ _ _ _ _ _ _ _ _ _ _ h hW (lv_sub hl [0, 1, 2, 3, 4, 5, 6, 7] rfl)
        exact hz
    · replace h := (if_neg hc49).symm.trans h
      refine h_aload_n C0.hx C0.hb dL_drawn_105 rfl (lv_at hl 0 rfl) ?_
      refine lv_iconst (v := (5 : Int32)) C0.hx C0.hb dL_drawn_106 (by decide) ?_
      obtain ⟨hk53, h⟩ := g_if h
      obtain ⟨q54, hq54, h⟩ := Option.bind_eq_some_iff.mp h
      refine h_calli hW (h_runV (As := [.int ((5 : Int32))]) (rest := []) C0 hW (hW.rf (h_ne hk53 (by decide))) (h_recv C0 hW (h_ne hk53 (by decide)) (h_c50 hk53) rfl) (c_l_X13_next hq54) cy_X13_next (by omega) tm_L_37 ti_X13_next ts_X13_next rfl hl.1 rfl (Nat.le_of_ble_eq_true rfl) dL_drawn_107) (fun H locs hW => ?_)
      refine lv_istore (lv' := [(11, .int (q54.1)), (0, g_rf G (l0)), (1, g_rf G (l1)), (3, .int (l3)), (4, g_rf G (l4)), (5, .int (l5)), (6, .int (l6)), (7, g_rf G (l7)), (8, .int (l8)), (9, .int (l9)), (10, .int (l10))]) C0.hx C0.hb dL_drawn_110 hl (by decide) rfl (fun ls hl => ?_)
      refine lv_iconst (v := (1 : Int32)) C0.hx C0.hb dL_drawn_112 (by decide) ?_
      refine h_aload_n C0.hx C0.hb dL_drawn_113 rfl (lv_at hl 1 rfl) ?_
      refine lv_bipush (v := (40 : Int32)) C0.hx C0.hb dL_drawn_114 (by decide) ?_
      obtain ⟨hk55, h⟩ := g_if h
      obtain ⟨q56, hq56, h⟩ := Option.bind_eq_some_iff.mp h
      refine h_calli hW (h_runV (As := [.int ((40 : Int32))]) (rest := [.int ((1 : Int32))]) C0 hW (hW.rf (h_ne hk55 (by decide))) (h_recv C0 hW (h_ne hk55 (by decide)) (h_c50 hk55) rfl) (c_l_X13_next hq56) cy_X13_next (by omega) tm_L_37 ti_X13_next ts_X13_next rfl hl.1 rfl (Nat.le_of_ble_eq_true rfl) dL_drawn_116) (fun H locs hW => ?_)
      refine lv_iadd C0.hx C0.hb dL_drawn_119 ?_
      refine lv_istore (lv' := [(12, .int ((1 : Int32) + q56.1)), (11, .int (q54.1)), (0, g_rf G (l0)), (1, g_rf G (l1)), (3, .int (l3)), (4, g_rf G (l4)), (5, .int (l5)), (6, .int (l6)), (7, g_rf G (l7)), (8, .int (l8)), (9, .int (l9)), (10, .int (l10))]) C0.hx C0.hb dL_drawn_120 hl (by decide) rfl (fun ls hl => ?_)
      refine lv_iconst (v := (1 : Int32)) C0.hx C0.hb dL_drawn_122 (by decide) ?_
      refine h_aload_n C0.hx C0.hb dL_drawn_123 rfl (lv_at hl 2 rfl) ?_
      refine lv_bipush (v := (40 : Int32)) C0.hx C0.hb dL_drawn_124 (by decide) ?_
      obtain ⟨hk57, h⟩ := g_if h
      obtain ⟨q58, hq58, h⟩ := Option.bind_eq_some_iff.mp h
      refine h_calli hW (h_runV (As := [.int ((40 : Int32))]) (rest := [.int ((1 : Int32))]) C0 hW (hW.rf (h_ne hk57 (by decide))) (h_recv C0 hW (h_ne hk57 (by decide)) (h_c50 hk57) rfl) (c_l_X13_next hq58) cy_X13_next (by omega) tm_L_37 ti_X13_next ts_X13_next rfl hl.1 rfl (Nat.le_of_ble_eq_true rfl) dL_drawn_126) (fun H locs hW => ?_)
      refine lv_iadd C0.hx C0.hb dL_drawn_129 ?_
      refine lv_istore (lv' := [(13, .int ((1 : Int32) + q58.1)), (12, .int ((1 : Int32) + q56.1)), (11, .int (q54.1)), (0, g_rf G (l0)), (1, g_rf G (l1)), (3, .int (l3)), (4, g_rf G (l4)), (5, .int (l5)), (6, .int (l6)), (7, g_rf G (l7)), (8, .int (l8)), (9, .int (l9)), (10, .int (l10))]) C0.hx C0.hb dL_drawn_130 hl (by decide) rfl (fun ls hl => ?_)
      refine lv_iconst (v := (1 : Int32)) C0.hx C0.hb dL_drawn_132 (by decide) ?_
      refine h_aload_n C0.hx C0.hb dL_drawn_133 rfl (lv_at hl 3 rfl) ?_
      refine h_aload_n C0.hx C0.hb dL_drawn_134 rfl (lv_at hl 3 rfl) ?_
      refine lv_iconst (v := (3 : Int32)) C0.hx C0.hb dL_drawn_135 (by decide) ?_
      obtain ⟨hk59, h⟩ := g_if h
      obtain ⟨q60, hq60, h⟩ := Option.bind_eq_some_iff.mp h
      refine h_calli hW (h_runV (As := [.int ((3 : Int32))]) (rest := [g_rf G (l0), .int ((1 : Int32))]) C0 hW (hW.rf (h_ne hk59 (by decide))) (h_recv C0 hW (h_ne hk59 (by decide)) (h_c50 hk59) rfl) (c_l_X13_next hq60) cy_X13_next (by omega) tm_L_37 ti_X13_next ts_X13_next rfl hl.1 rfl (by simp [g_catQ, h_ki, h_kr, h_kn, h_kl, h_kd]) dL_drawn_136) (fun H locs hW => ?_)
      refine lv_if_ne (tgt := 147) C0.hx C0.hb dL_drawn_139 (by decide) (fun hc61 => ?_) (fun hc61 => ?_)
      · replace h := (if_neg hc61).symm.trans h
        refine lv_iconst (v := (4 : Int32)) C0.hx C0.hb dL_drawn_147 (by decide) ?_
        have hz := w_l_L_drawn_148 (l := l) (e := e) (below := below) C0 kt53 ih _ _ _ _ _ _ _ _ _ _ _ _ _ _ _ _ _ _ _ _ h hW (lv_sub hl [3, 4, 5, 6, 7, 8, 9, 10, 11, 12, 2, 1, 0] rfl)
        exact hz
      · replace h := (if_pos hc61).symm.trans h
        refine lv_bipush (v := (8 : Int32)) C0.hx C0.hb dL_drawn_142 (by decide) ?_
        refine lv_goto (tgt := 148) C0.hx C0.hb dL_drawn_144 (by decide) ?_
        have hz := w_l_L_drawn_148 (l := l) (e := e) (below := below) C0 kt53 ih _ _ _ _ _ _ _ _ _ _ _ _ _ _ _ _ _ _ _ _ h hW (lv_sub hl [3, 4, 5, 6, 7, 8, 9, 10, 11, 12, 2, 1, 0] rfl)
        exact hz
set_option maxRecDepth 100000 in
set_option maxHeartbeats 4000000 in
theorem w_l_L_drawn_53 {p : Program} {l : Launch} {e : Env} {s : State} {m : MethodId} {args : Array Value} {below : List Frame} {meth : Method} {c : Code} {G : GL} {o : Nat → Int32} {y0 : MS} {x : CS} {q : Nat × MS}  (C0 : g_X G (List.range 120) p s m args meth c cL_drawn 16 RL (Option.some (Jvm.ClassFile.FieldType.object "GlideWhistlesLaw$Talk")))  : ∀ (n : Nat) (l0 : Nat) (l1 : Nat) (l3 : Int32) (l4 : Nat) (l5 : Int32) (l6 : Int32) (y : MS) (H : Heap) (locs : List Loc) (ls : Array Slot), f_l_L_drawn_53 n l0 l1 l3 l4 l5 l6 y = some q → h_W G y0 (x, y, o) s.heap H locs → lv_has ls 16 [(0, g_rf G (l0)), (1, g_rf G (l1)), (3, .int (l3)), (4, g_rf G (l4)), (5, .int (l5)), (6, .int (l6))] → W p l e (h_lv 86 y0) s m args below meth c H locs (h_nx y - h_nx y0) (h_sl y - h_sl y0) (MQ below (h_Qr G y0 (g_rf G (q.1)) (x, q.2, o)) args s (h_nx q.2 - h_nx y0) (h_sl q.2 - h_sl y0) (g_A G)) (F0 m 53 ls []) := by
  intro n
  induction n with
  | zero =>
    intro l0 l1 l3 l4 l5 l6 y H locs ls h hW hl
    exact absurd h (by simp [f_l_L_drawn_53])
  | succ n ih =>
    intro l0 l1 l3 l4 l5 l6 y H locs ls h hW hl
    unfold f_l_L_drawn_53 at h
    refine lv_iload C0.hx C0.hb dL_drawn_53 (lv_at hl 5 rfl) ?_
    refine lv_iload C0.hx C0.hb dL_drawn_55 (lv_at hl 4 rfl) ?_
    refine lv_icmp_ge (tgt := 384) C0.hx C0.hb dL_drawn_57 (by decide) (fun hc16 => ?_) (fun hc16 => ?_)
    · replace h := (if_pos hc16).symm.trans h
      refine h_aload_n C0.hx C0.hb dL_drawn_384 rfl (lv_at hl 0 rfl) ?_
      refine lv_iconst (v := (2 : Int32)) C0.hx C0.hb dL_drawn_385 (by decide) ?_
      obtain ⟨hk17, h⟩ := g_if h
      obtain ⟨q18, hq18, h⟩ := Option.bind_eq_some_iff.mp h
      refine h_calli hW (h_runV (As := [.int ((2 : Int32))]) (rest := []) C0 hW (hW.rf (h_ne hk17 (by decide))) (h_recv C0 hW (h_ne hk17 (by decide)) (h_c50 hk17) rfl) (c_l_X13_next hq18) cy_X13_next (by omega) tm_L_37 ti_X13_next ts_X13_next rfl hl.1 rfl (Nat.le_of_ble_eq_true rfl) dL_drawn_386) (fun H locs hW => ?_)
      refine lv_if_ne (tgt := 435) C0.hx C0.hb dL_drawn_389 (by decide) (fun hc19 => ?_) (fun hc19 => ?_)
      · replace h := (if_neg hc19).symm.trans h
        have hz := w_l_L_drawn_435 (l := l) (e := e) (below := below) C0 _ _ _ _ _ _ _ _ _ h hW (lv_sub hl [0, 1, 2, 3, 4] rfl)
        exact hz
      · replace h := (if_pos hc19).symm.trans h
        refine h_aload C0.hx C0.hb dL_drawn_392 (lv_at hl 3 rfl) ?_
        refine h_aload_n C0.hx C0.hb dL_drawn_394 rfl (lv_at hl 0 rfl) ?_
        refine h_aload_n C0.hx C0.hb dL_drawn_395 rfl (lv_at hl 0 rfl) ?_
        refine lv_iconst (v := (2 : Int32)) C0.hx C0.hb dL_drawn_396 (by decide) ?_
        obtain ⟨hk20, h⟩ := g_if h
        obtain ⟨q21, hq21, h⟩ := Option.bind_eq_some_iff.mp h
        refine h_calli hW (h_runV (As := [.int ((2 : Int32))]) (rest := [g_rf G (l0), g_rf G (l4)]) C0 hW (hW.rf (h_ne hk20 (by decide))) (h_recv C0 hW (h_ne hk20 (by decide)) (h_c50 hk20) rfl) (c_l_X13_next hq21) cy_X13_next (by omega) tm_L_37 ti_X13_next ts_X13_next rfl hl.1 rfl (by simp [g_catQ, h_ki, h_kr, h_kn, h_kl, h_kd]) dL_drawn_397) (fun H locs hW => ?_)
        refine lv_if_ne (tgt := 408) C0.hx C0.hb dL_drawn_400 (by decide) (fun hc22 => ?_) (fun hc22 => ?_)
        · replace h := (if_neg hc22).symm.trans h
          refine lv_iconst (v := (3 : Int32)) C0.hx C0.hb dL_drawn_408 (by decide) ?_
          have hz := w_l_L_drawn_409 (l := l) (e := e) (below := below) C0 _ _ _ _ _ _ _ _ _ _ _ _ h hW (lv_sub hl [0, 1, 2, 3, 4] rfl)
          exact hz
        · replace h := (if_pos hc22).symm.trans h
          refine lv_bipush (v := (21 : Int32)) C0.hx C0.hb dL_drawn_403 (by decide) ?_
          refine lv_goto (tgt := 409) C0.hx C0.hb dL_drawn_405 (by decide) ?_
          have hz := w_l_L_drawn_409 (l := l) (e := e) (below := below) C0 _ _ _ _ _ _ _ _ _ _ _ _ h hW (lv_sub hl [0, 1, 2, 3, 4] rfl)
          exact hz
    · replace h := (if_neg hc16).symm.trans h
      refine lv_bipush (v := (24 : Int32)) C0.hx C0.hb dL_drawn_60 (by decide) ?_
      obtain ⟨hn23, h⟩ := g_if h
      obtain ⟨hn24, h⟩ := g_if h
      refine hn_60 C0 hW hn23 hn24 dL_drawn_62 (fun H hW => ?_)
      refine h_astore (lv' := [(7, g_rf G (h_nx y)), (0, g_rf G (l0)), (1, g_rf G (l1)), (3, .int (l3)), (4, g_rf G (l4)), (5, .int (l5)), (6, .int (l6))]) C0.hx C0.hb dL_drawn_64 hl (by decide) rfl (fun ls hl => ?_)
      refine lv_iconst (v := (0 : Int32)) C0.hx C0.hb dL_drawn_66 (by decide) ?_
      refine lv_istore (lv' := [(8, .int ((0 : Int32))), (7, g_rf G (h_nx y)), (0, g_rf G (l0)), (1, g_rf G (l1)), (3, .int (l3)), (4, g_rf G (l4)), (5, .int (l5)), (6, .int (l6))]) C0.hx C0.hb dL_drawn_67 hl (by decide) (by simp [g_catQ]) (fun ls hl => ?_)
      refine lv_iconst (v := (1 : Int32)) C0.hx C0.hb dL_drawn_69 (by decide) ?_
      refine h_aload_n C0.hx C0.hb dL_drawn_70 rfl (lv_at hl 2 rfl) ?_
      refine lv_iconst (v := (3 : Int32)) C0.hx C0.hb dL_drawn_71 (by decide) ?_
      obtain ⟨hk25, h⟩ := g_if h
      obtain ⟨q26, hq26, h⟩ := Option.bind_eq_some_iff.mp h
      refine h_calli hW (h_runV (As := [.int ((3 : Int32))]) (rest := [.int ((1 : Int32))]) C0 hW (hW.rf (h_ne hk25 (by decide))) (h_recv C0 hW (h_ne hk25 (by decide)) (h_c50 hk25) rfl) (c_l_X13_next hq26) cy_X13_next (by omega) tm_L_37 ti_X13_next ts_X13_next rfl hl.1 rfl (Nat.le_of_ble_eq_true rfl) dL_drawn_72) (fun H locs hW => ?_)
      refine lv_iadd C0.hx C0.hb dL_drawn_75 ?_
      refine lv_istore (lv' := [(9, .int ((1 : Int32) + q26.1)), (8, .int ((0 : Int32))), (7, g_rf G (h_nx y)), (0, g_rf G (l0)), (1, g_rf G (l1)), (3, .int (l3)), (4, g_rf G (l4)), (5, .int (l5)), (6, .int (l6))]) C0.hx C0.hb dL_drawn_76 hl (by decide) rfl (fun ls hl => ?_)
      refine h_aload_n C0.hx C0.hb dL_drawn_78 rfl (lv_at hl 4 rfl) ?_
      refine h_ldc C0 hW (n := 46) (List.mem_of_getElem? (i := 0) rfl) (by decide) dL_drawn_79 ?_
      obtain ⟨hk27, h⟩ := g_if h
      obtain ⟨q28, hq28, h⟩ := Option.bind_eq_some_iff.mp h
      refine h_callr hW (h_runV (As := [.ref (g_sa G (46))]) (rest := []) C0 hW (hW.rf (h_ne hk27 (by decide))) (h_recv C0 hW (h_ne hk27 (by decide)) (h_c54 hk27) rfl) (c_l_J4_append_15ec4 hq28) cy_J4_append_15ec4 (by omega) tm_L_54 ti_J4_append_15ec4 ts_J4_append_15ec4 rfl hl.1 rfl (Nat.le_of_ble_eq_true rfl) dL_drawn_81) (fun H locs hW => ?_)
      refine lv_iload C0.hx C0.hb dL_drawn_84 (lv_at hl 8 rfl) ?_
      obtain ⟨hk29, h⟩ := g_if h
      obtain ⟨q30, hq30, h⟩ := Option.bind_eq_some_iff.mp h
      refine h_callr hW (h_runV (As := [.int (l6)]) (rest := []) C0 hW (hW.rf (h_ne hk29 (by decide))) (h_recv C0 hW (h_ne hk29 (by decide)) (h_c54 hk29) rfl) (c_l_J4_append_bf812 hq30) cy_J4_append_bf812 (by omega) tm_L_60 ti_J4_append_bf812 ts_J4_append_bf812 rfl hl.1 rfl (Nat.le_of_ble_eq_true rfl) dL_drawn_86) (fun H locs hW => ?_)
      refine h_ldc C0 hW (n := 47) (List.mem_of_getElem? (i := 1) rfl) (by decide) dL_drawn_89 ?_
      obtain ⟨hk31, h⟩ := g_if h
      obtain ⟨q32, hq32, h⟩ := Option.bind_eq_some_iff.mp h
      refine h_callr hW (h_runV (As := [.ref (g_sa G (47))]) (rest := []) C0 hW (hW.rf (h_ne hk31 (by decide))) (h_recv C0 hW (h_ne hk31 (by decide)) (h_c54 hk31) rfl) (c_l_J4_append_15ec4 hq32) cy_J4_append_15ec4 (by omega) tm_L_54 ti_J4_append_15ec4 ts_J4_append_15ec4 rfl hl.1 rfl (Nat.le_of_ble_eq_true rfl) dL_drawn_91) (fun H locs hW => ?_)
      refine lv_pop C0.hx C0.hb dL_drawn_94 g_catQ ?_
      refine lv_iconst (v := (0 : Int32)) C0.hx C0.hb dL_drawn_95 (by decide) ?_
      refine lv_istore (lv' := [(10, .int ((0 : Int32))), (9, .int ((1 : Int32) + q26.1)), (8, .int ((0 : Int32))), (7, g_rf G (h_nx y)), (0, g_rf G (l0)), (1, g_rf G (l1)), (3, .int (l3)), (4, g_rf G (l4)), (5, .int (l5)), (6, .int (l6))]) C0.hx C0.hb dL_drawn_96 hl (by decide) rfl (fun ls hl => ?_)
      have hz := w_l_L_drawn_98 (l := l) (e := e) (below := below) C0 ih g_fuel _ _ _ _ _ _ _ _ _ _ _ _ _ _ h hW (lv_sub hl [4, 5, 6, 7, 8, 9, 3, 2, 1, 0] rfl)
      exact hz
set_option maxRecDepth 100000 in
set_option maxHeartbeats 4000000 in
theorem c_l_L_drawn {l : Launch} {G : GL} {o : Nat → Int32} {x : CS} {y : MS} {p1 : Nat} {p2 : Nat} {p3 : Int32} {p4 : Int32} {q : Nat × MS} (h : f_l_L_drawn p1 p2 p3 p4 y = some q) : Met l yL_drawn (.code yL_drawn cL_drawn 16 (Option.some (Jvm.ClassFile.FieldType.object "GlideWhistlesLaw$Talk")) :: gT) (h_lv 86 y) (va_Pc [g_rf G (p1), g_rf G (p2), .int (p3), .int (p4)] (h_P G (x, y, o))) (h_Qr G y (g_rf G (q.1)) (x, q.2, o)) (h_nx q.2 - h_nx y) (h_sl q.2 - h_sl y) (g_A G) := by
  unfold f_l_L_drawn at h
  refine h_entry (by decide) (by simp [lg_sl, g_catQ, h_ki, h_kr, h_kn, h_kl, h_kd]) (fun p e s m args below meth c ls C0 hl hW hin_ => ?_)
  have hl : lv_has ls 16 [(0, g_rf G (p1)), (1, g_rf G (p2)), (2, .int (p3)), (3, .int (p4))] := by simpa [lv_args, g_catQ, h_ki, h_kr, h_kn, h_kl, h_kd] using hl
  obtain ⟨hn1, h⟩ := g_if h
  refine hno_53 C0 hW hn1 tl_L_32 dL_drawn_0 (fun H hW => ?_)
  refine lv_dup C0.hx C0.hb dL_drawn_3 g_catQ ?_
  refine lv_sipush (v := (576 : Int32)) C0.hx C0.hb dL_drawn_4 (by decide) ?_
  obtain ⟨hn2, h⟩ := g_if h
  obtain ⟨hn3, h⟩ := g_if h
  refine hn_60 C0 hW hn2 hn3 dL_drawn_7 (fun H hW => ?_)
  refine lv_sipush (v := (576 : Int32)) C0.hx C0.hb dL_drawn_9 (by decide) ?_
  obtain ⟨hn4, h⟩ := g_if h
  obtain ⟨hn5, h⟩ := g_if h
  refine hn_60 C0 hW hn4 hn5 dL_drawn_12 (fun H hW => ?_)
  obtain ⟨hk6, h⟩ := g_if h
  obtain ⟨q7, hq7, h⟩ := Option.bind_eq_some_iff.mp h
  refine h_callv hW (h_runI (As := [g_rf G (h_nx (h_new y 53 (fun _ => 0) (fun _ => 0) 0 10)), g_rf G (h_nx (h_new (h_new y 53 (fun _ => 0) (fun _ => 0) 0 10) 60 (fun _ => 0) (fun _ => 0) (576 : Int32).toNatClampNeg (576 : Int32).toNatClampNeg))]) (rest := [g_rf G (h_nx y)]) C0 hW (hW.rf (h_ne hk6 (by decide))) (c_l_X16_init hq7) cy_X16_init (by omega) tm_L_34 ti_X16_init rfl rfl hl.1 rfl (by simp [g_catQ, h_ki, h_kr, h_kn, h_kl, h_kd]) dL_drawn_14) (fun H locs hW => ?_)
  refine h_astore (lv' := [(4, g_rf G (h_nx y)), (0, g_rf G (p1)), (1, g_rf G (p2)), (2, .int (p3)), (3, .int (p4))]) C0.hx C0.hb dL_drawn_17 hl (by decide) rfl (fun ls hl => ?_)
  refine lv_iload_n C0.hx C0.hb dL_drawn_19 rfl (lv_at hl 3 rfl) ?_
  refine h_aload_n C0.hx C0.hb dL_drawn_20 rfl (lv_at hl 1 rfl) ?_
  refine lv_bipush (v := (9 : Int32)) C0.hx C0.hb dL_drawn_21 (by decide) ?_
  refine lv_iload_n C0.hx C0.hb dL_drawn_23 rfl (lv_at hl 3 rfl) ?_
  refine lv_isub C0.hx C0.hb dL_drawn_24 ?_
  obtain ⟨hk8, h⟩ := g_if h
  obtain ⟨q9, hq9, h⟩ := Option.bind_eq_some_iff.mp h
  refine h_calli hW (h_runV (As := [.int ((9 : Int32) - p3)]) (rest := [.int (p3)]) C0 hW (hW.rf (h_ne hk8 (by decide))) (h_recv C0 hW (h_ne hk8 (by decide)) (h_c50 hk8) rfl) (c_l_X13_next hq9) cy_X13_next (by omega) tm_L_37 ti_X13_next ts_X13_next rfl hl.1 rfl (Nat.le_of_ble_eq_true rfl) dL_drawn_25) (fun H locs hW => ?_)
  refine lv_iadd C0.hx C0.hb dL_drawn_28 ?_
  refine lv_istore (lv' := [(5, .int (p3 + q9.1)), (4, g_rf G (h_nx y)), (0, g_rf G (p1)), (1, g_rf G (p2)), (2, .int (p3)), (3, .int (p4))]) C0.hx C0.hb dL_drawn_29 hl (by decide) (by simp [g_catQ]) (fun ls hl => ?_)
  refine h_aload C0.hx C0.hb dL_drawn_31 (lv_at hl 1 rfl) ?_
  refine lv_iload C0.hx C0.hb dL_drawn_33 (lv_at hl 0 rfl) ?_
  obtain ⟨hn10, h⟩ := g_if h
  obtain ⟨hn11, h⟩ := g_if h
  refine hn_63 C0 hW hn10 hn11 tl_L_42 dL_drawn_35 (fun H hW => ?_)
  obtain ⟨hk12, h⟩ := g_if h
  refine hp_X16_2 C0 hW hk12 tf_L_44 dL_drawn_38 (fun H locs hW => ?_)
  refine h_fwr hW ?_
  refine h_aload C0.hx C0.hb dL_drawn_41 (lv_at hl 1 rfl) ?_
  refine lv_iload C0.hx C0.hb dL_drawn_43 (lv_at hl 0 rfl) ?_
  obtain ⟨hn13, h⟩ := g_if h
  obtain ⟨hn14, h⟩ := g_if h
  refine hn_62 C0 hW hn13 hn14 dL_drawn_45 (fun H hW => ?_)
  obtain ⟨hk15, h⟩ := g_if h
  refine hp_X16_3 C0 hW hk15 tf_L_48 dL_drawn_47 (fun H locs hW => ?_)
  refine h_fwr hW ?_
  refine lv_iconst (v := (0 : Int32)) C0.hx C0.hb dL_drawn_50 (by decide) ?_
  refine lv_istore (lv' := [(6, .int ((0 : Int32))), (5, .int (p3 + q9.1)), (4, g_rf G (h_nx y)), (0, g_rf G (p1)), (1, g_rf G (p2)), (2, .int (p3)), (3, .int (p4))]) C0.hx C0.hb dL_drawn_51 hl (by decide) rfl (fun ls hl => ?_)
  have hz := w_l_L_drawn_53 (l := l) (e := e) (below := below) C0 g_fuel _ _ _ _ _ _ _ _ _ _ h hW (lv_sub hl [3, 4, 6, 2, 1, 0] rfl)
  exact hz
set_option maxRecDepth 100000 in
set_option maxHeartbeats 4000000 in
theorem w_l_L_act_369 {p : Program} {l : Launch} {e : Env} {s : State} {m : MethodId} {args : Array Value} {below : List Frame} {meth : Method} {c : Code} {G : GL} {o : Nat → Int32} {y0 : MS} {q : Int32 × CS × MS} (htab : c.exceptionTable.toList = tableOf [((176 : Nat), (198 : Nat), (199 : Nat), (119 : Nat))]) (hfl : l.stackTraces = false) (C0 : g_X G (List.range 120) p s m args meth c cL_act 9 RL (Option.some Jvm.ClassFile.FieldType.boolean))  : ∀ (n : Nat) (l1 : Nat) (l3 : Int32) (l6 : Int32) (l7 : Int32) (x : CS) (y : MS) (H : Heap) (locs : List Loc) (ls : Array Slot), f_l_L_act_369 n l1 l3 l6 l7 x y = some q → h_W G y0 (x, y, o) s.heap H locs → lv_has ls 9 [(0, .ref (g_ad G (0))), (1, g_rf G (l1)), (3, .int (l3)), (6, .int (l6)), (7, .int (l7))] → W p l e (h_lv 48 y0) s m args below meth c H locs (h_nx y - h_nx y0) (h_sl y - h_sl y0) (MQ below (h_Qi G y0 q.1 (q.2.1, q.2.2, o)) args s (h_nx q.2.2 - h_nx y0) (h_sl q.2.2 - h_sl y0) (g_A G)) (F0 m 369 ls []) := by
  intro n
  induction n with
  | zero =>
    intro l1 l3 l6 l7 x y H locs ls h hW hl
    exact absurd h (by simp [f_l_L_act_369])
  | succ n ih =>
    intro l1 l3 l6 l7 x y H locs ls h hW hl
    unfold f_l_L_act_369 at h
    refine lv_iload C0.hx C0.hb dL_act_369 (lv_at hl 4 rfl) ?_
    refine lv_iload_n C0.hx C0.hb dL_act_371 rfl (lv_at hl 2 rfl) ?_
    refine lv_icmp_ge (tgt := 404) C0.hx C0.hb dL_act_372 (by decide) (fun hc42 => ?_) (fun hc42 => ?_)
    · replace h := (if_pos hc42).symm.trans h
      refine lv_aload_n C0.hx C0.hb dL_act_404 rfl (lv_at hl 0 rfl) ?_
      obtain ⟨q43, hq43, h⟩ := Option.bind_eq_some_iff.mp h
      refine h_kcalli hW (h_krunV (Sx := (x, y, o)) (As := []) (rest := []) C0 hW (c_X12_pruneNeedless hq43) rfl ⟨tc_X12_pruneNeedless, tn_X12, md_X12_pruneNeedless, by decide⟩ (by omega) tm_L_139 ti_X12_pruneNeedless ts_X12_pruneNeedless rfl hl.1 rfl (Nat.le_of_ble_eq_true rfl) dL_act_405) (fun H locs hW => ?_)
      refine lv_iload C0.hx C0.hb dL_act_408 (lv_at hl 3 rfl) ?_
      refine lv_icmp_ne (tgt := 417) C0.hx C0.hb dL_act_410 (by decide) (fun hc44 => ?_) (fun hc44 => ?_)
      · replace h := (if_neg hc44).symm.trans h
        refine lv_iconst (v := (0 : Int32)) C0.hx C0.hb dL_act_417 (by decide) ?_
        obtain rfl := Option.some.inj h
        exact h_iret C0 hW rfl (g_bool (Or.inl rfl)).1 dL_act_418
      · replace h := (if_pos hc44).symm.trans h
        refine lv_iconst (v := (1 : Int32)) C0.hx C0.hb dL_act_413 (by decide) ?_
        refine lv_goto (tgt := 418) C0.hx C0.hb dL_act_414 (by decide) ?_
        obtain rfl := Option.some.inj h
        exact h_iret C0 hW rfl (g_bool (Or.inr rfl)).1 dL_act_418
    · replace h := (if_neg hc42).symm.trans h
      refine h_aload_n C0.hx C0.hb dL_act_375 rfl (lv_at hl 1 rfl) ?_
      refine lv_iload C0.hx C0.hb dL_act_376 (lv_at hl 4 rfl) ?_
      obtain ⟨hk45, h⟩ := g_if h
      obtain ⟨q46, hq46, h⟩ := Option.bind_eq_some_iff.mp h
      refine h_calli hW (h_runV (As := [.int (l7)]) (rest := []) C0 hW (hW.rf (h_ne hk45 (by decide))) (h_recv C0 hW (h_ne hk45 (by decide)) (h_c53 hk45) rfl) (c_l_X16_needless hq46) cy_X16_needless (by omega) tm_L_136 ti_X16_needless ts_X16_needless rfl hl.1 rfl (Nat.le_of_ble_eq_true rfl) dL_act_378) (fun H locs hW => ?_)
      refine lv_if_ne (tgt := 387) C0.hx C0.hb dL_act_381 (by decide) (fun hc47 => ?_) (fun hc47 => ?_)
      · replace h := (if_neg hc47).symm.trans h
        refine h_aload_n C0.hx C0.hb dL_act_387 rfl (lv_at hl 1 rfl) ?_
        obtain ⟨hk48, h⟩ := g_if h
        refine hf_X16_3 C0 hW hk48 tf_L_48 dL_act_388 ?_
        refine lv_iload C0.hx C0.hb dL_act_391 (lv_at hl 4 rfl) ?_
        refine lv_iconst (v := (1 : Int32)) C0.hx C0.hb dL_act_393 (by decide) ?_
        obtain ⟨hk49, h⟩ := g_if h
        obtain ⟨hn50, h⟩ := g_if h
        refine hs_62 C0 hW hk49 hn50 dL_act_394 (fun H locs hW => ?_)
        refine h_fwi hW ?_
        refine lv_iinc (v := l6 + (1 : Int32)) (lv' := [(6, .int (l6 + (1 : Int32))), (0, .ref (g_ad G (0))), (1, g_rf G (l1)), (3, .int (l3)), (7, .int (l7))]) C0.hx C0.hb dL_act_395 hl (k := 3) rfl rfl (by decide) rfl (fun ls hl => ?_)
        refine lv_iinc (v := l7 + (1 : Int32)) (lv' := [(7, .int (l7 + (1 : Int32))), (6, .int (l6 + (1 : Int32))), (0, .ref (g_ad G (0))), (1, g_rf G (l1)), (3, .int (l3))]) C0.hx C0.hb dL_act_398 hl (k := 4) rfl rfl (by decide) rfl (fun ls hl => ?_)
        refine lv_goto (tgt := 369) C0.hx C0.hb dL_act_401 (by decide) ?_
        have hz := ih _ _ _ _ _ _ _ _ _ h hW (lv_sub hl [2, 3, 4, 1, 0] rfl)
        exact hz
      · replace h := (if_pos hc47).symm.trans h
        refine lv_goto (tgt := 398) C0.hx C0.hb dL_act_384 (by decide) ?_
        refine lv_iinc (v := l7 + (1 : Int32)) (lv' := [(7, .int (l7 + (1 : Int32))), (0, .ref (g_ad G (0))), (1, g_rf G (l1)), (3, .int (l3)), (6, .int (l6))]) C0.hx C0.hb dL_act_398 hl (k := 4) rfl rfl (by decide) rfl (fun ls hl => ?_)
        refine lv_goto (tgt := 369) C0.hx C0.hb dL_act_401 (by decide) ?_
        have hz := ih _ _ _ _ _ _ _ _ _ h hW (lv_sub hl [1, 2, 3, 4, 0] rfl)
        exact hz
set_option maxRecDepth 100000 in
set_option maxHeartbeats 4000000 in
theorem w_l_L_act_304 {p : Program} {l : Launch} {e : Env} {s : State} {m : MethodId} {args : Array Value} {below : List Frame} {meth : Method} {c : Code} {G : GL} {o : Nat → Int32} {y0 : MS} {q : Int32 × CS × MS} (htab : c.exceptionTable.toList = tableOf [((176 : Nat), (198 : Nat), (199 : Nat), (119 : Nat))]) (hfl : l.stackTraces = false) (C0 : g_X G (List.range 120) p s m args meth c cL_act 9 RL (Option.some Jvm.ClassFile.FieldType.boolean))  : ∀  (l1 : Nat) (l5 : Int32) (s0 : Int32) (s1 : Int32) (s2 : Nat) (x : CS) (y : MS) (H : Heap) (locs : List Loc) (ls : Array Slot), f_l_L_act_304 l1 l5 s0 s1 s2 x y = some q → h_W G y0 (x, y, o) s.heap H locs → lv_has ls 9 [(0, .ref (g_ad G (0))), (1, g_rf G (l1)), (5, .int (l5))] → W p l e (h_lv 48 y0) s m args below meth c H locs (h_nx y - h_nx y0) (h_sl y - h_sl y0) (MQ below (h_Qi G y0 q.1 (q.2.1, q.2.2, o)) args s (h_nx q.2.2 - h_nx y0) (h_sl q.2.2 - h_sl y0) (g_A G)) (F0 m 304 ls [.int (s0), .int (s1), g_rf G (s2)]) := by
  intro l1 l5 s0 s1 s2 x y H locs ls h hW hl
  unfold f_l_L_act_304 at h
  obtain ⟨hk51, h⟩ := g_if h
  obtain ⟨hn52, h⟩ := g_if h
  refine hs_62 C0 hW hk51 hn52 dL_act_304 (fun H locs hW => ?_)
  refine h_fwi hW ?_
  refine lv_aload_n C0.hx C0.hb dL_act_305 rfl (lv_at hl 0 rfl) ?_
  refine lv_iload C0.hx C0.hb dL_act_306 (lv_at hl 2 rfl) ?_
  obtain ⟨q53, hq53, h⟩ := Option.bind_eq_some_iff.mp h
  refine h_kcalli hW (h_krunV (Sx := (x, y, o)) (As := [.int (l5)]) (rest := []) C0 hW (c_X12_turnPruned hq53) rfl ⟨tc_X12_turnPruned, tn_X12, md_X12_turnPruned, by decide⟩ (by omega) tm_L_129 ti_X12_turnPruned ts_X12_turnPruned rfl hl.1 rfl (Nat.le_of_ble_eq_true rfl) dL_act_308) (fun H locs hW => ?_)
  refine h_aload_n C0.hx C0.hb dL_act_311 rfl (lv_at hl 1 rfl) ?_
  obtain ⟨hk54, h⟩ := g_if h
  refine hf_X16_3 C0 hW hk54 tf_L_48 dL_act_312 ?_
  refine lv_iload C0.hx C0.hb dL_act_315 (lv_at hl 2 rfl) ?_
  obtain ⟨hk55, h⟩ := g_if h
  obtain ⟨hn56, h⟩ := g_if h
  refine ha_62 C0 hW hk55 hn56 dL_act_317 ?_
  refine lv_icmp_ne (tgt := 325) C0.hx C0.hb dL_act_318 (by decide) (fun hc57 => ?_) (fun hc57 => ?_)
  · replace h := (if_neg hc57).symm.trans h
    refine lv_iconst (v := (0 : Int32)) C0.hx C0.hb dL_act_325 (by decide) ?_
    obtain rfl := Option.some.inj h
    exact h_iret C0 hW rfl (g_bool (Or.inl rfl)).1 dL_act_326
  · replace h := (if_pos hc57).symm.trans h
    refine lv_iconst (v := (1 : Int32)) C0.hx C0.hb dL_act_321 (by decide) ?_
    refine lv_goto (tgt := 326) C0.hx C0.hb dL_act_322 (by decide) ?_
    obtain rfl := Option.some.inj h
    exact h_iret C0 hW rfl (g_bool (Or.inr rfl)).1 dL_act_326
set_option maxRecDepth 100000 in
set_option maxHeartbeats 4000000 in
theorem w_l_L_act_176 {p : Program} {l : Launch} {e : Env} {s : State} {m : MethodId} {args : Array Value} {below : List Frame} {meth : Method} {c : Code} {G : GL} {o : Nat → Int32} {y0 : MS} {q : Int32 × CS × MS} (htab : c.exceptionTable.toList = tableOf [((176 : Nat), (198 : Nat), (199 : Nat), (119 : Nat))]) (hfl : l.stackTraces = false) (C0 : g_X G (List.range 120) p s m args meth c cL_act 9 RL (Option.some Jvm.ClassFile.FieldType.boolean))  : ∀  (l5 : Int32) (l6 : Int32) (l7 : Nat) (x : CS) (y : MS) (H : Heap) (locs : List Loc) (ls : Array Slot), f_l_L_act_176 l5 l6 l7 x y = some q → h_W G y0 (x, y, o) s.heap H locs → lv_has ls 9 [(0, .ref (g_ad G (0))), (5, .int (l5)), (6, .int (l6)), (7, g_rf G (l7))] → W p l e (h_lv 48 y0) s m args below meth c H locs (h_nx y - h_nx y0) (h_sl y - h_sl y0) (MQ below (h_Qi G y0 q.1 (q.2.1, q.2.2, o)) args s (h_nx q.2.2 - h_nx y0) (h_sl q.2.2 - h_sl y0) (g_A G)) (F0 m 176 ls []) := by
  intro l5 l6 l7 x y H locs ls h hW hl
  unfold f_l_L_act_176 at h
  refine lv_aload_n C0.hx C0.hb dL_act_176 rfl (lv_at hl 0 rfl) ?_
  refine lv_iload C0.hx C0.hb dL_act_177 (lv_at hl 1 rfl) ?_
  obtain ⟨r80, hr80, h⟩ := Option.bind_eq_some_iff.mp h
  rcases r80 with u_ | z_
  · replace h : (if u_ = 1 ∧ h_rm y 6 = true then (if l6 = 0 then (some (((1 : Int32), x, h_ex y 1 6))) else (some (((0 : Int32), x, h_ex y 1 6)))) else none) = some _ := h
    obtain ⟨⟨hu_, hrm_⟩, h7⟩ := g_if h
    clear h
    subst hu_
    have h := h7
    refine h_try (xt := ⟨176, 198, 199, 119⟩) (As := [.int (l5)]) (rest := []) (k1 := 6) C0 hW (fun _ _ h => by cases h) rfl hrm_ (cx_X12_hear hfl hr80) rfl ⟨tc_X12_hear, tn_X12, md_X12_hear, by decide⟩ (by omega) (htab.trans rfl) (by decide) (by decide) tl_L_119 tm_L_116 ti_X12_hear ts_X12_hear rfl hl.1 rfl (Nat.le_of_ble_eq_true rfl) dL_act_179 (fun H locs q9 hW => ?_)
    refine lv_astore (lv' := [(8, .ref q9), (0, .ref (g_ad G (0))), (5, .int (l5)), (6, .int (l6)), (7, g_rf G (l7))]) C0.hx C0.hb dL_act_199 hl (by decide) (by simp [g_catQ]) (fun ls hl => ?_)
    refine lv_iload C0.hx C0.hb dL_act_201 (lv_at hl 3 rfl) ?_
    refine lv_if_ne (tgt := 210) C0.hx C0.hb dL_act_203 (by decide) (fun hc81 => ?_) (fun hc81 => ?_)
    · replace h := (if_neg hc81).symm.trans h
      refine lv_iconst (v := (0 : Int32)) C0.hx C0.hb dL_act_210 (by decide) ?_
      obtain rfl := Option.some.inj h
      exact h_iret C0 hW rfl (g_bool (Or.inl rfl)).1 dL_act_211
    · replace h := (if_pos hc81).symm.trans h
      refine lv_iconst (v := (1 : Int32)) C0.hx C0.hb dL_act_206 (by decide) ?_
      refine lv_goto (tgt := 211) C0.hx C0.hb dL_act_207 (by decide) ?_
      obtain rfl := Option.some.inj h
      exact h_iret C0 hW rfl (g_bool (Or.inr rfl)).1 dL_act_211
  · replace h : ((f_X12_hear l5 x).bind fun q82 => if h_K y l7 = 60 then (if q82.1 = (nI (h_N y l7)) then (if l6 = 0 then (some (((0 : Int32), q82.2, y))) else (some (((1 : Int32), q82.2, y)))) else (some (((0 : Int32), q82.2, y)))) else none) = some _ := h
    obtain ⟨q82, hq82, h⟩ := Option.bind_eq_some_iff.mp h
    refine h_kcalli hW (h_krunV (Sx := (x, y, o)) (As := [.int (l5)]) (rest := []) C0 hW (c_X12_hear hq82) rfl ⟨tc_X12_hear, tn_X12, md_X12_hear, by decide⟩ (by omega) tm_L_116 ti_X12_hear ts_X12_hear rfl hl.1 rfl (Nat.le_of_ble_eq_true rfl) dL_act_179) (fun H locs hW => ?_)
    refine h_aload C0.hx C0.hb dL_act_182 (lv_at hl 3 rfl) ?_
    obtain ⟨hk83, h⟩ := g_if h
    refine hl_60 C0 hW hk83 dL_act_184 ?_
    refine lv_icmp_ne (tgt := 197) C0.hx C0.hb dL_act_185 (by decide) (fun hc84 => ?_) (fun hc84 => ?_)
    · replace h := (if_neg hc84).symm.trans h
      refine lv_iconst (v := (0 : Int32)) C0.hx C0.hb dL_act_197 (by decide) ?_
      obtain rfl := Option.some.inj h
      exact h_iret C0 hW rfl (g_bool (Or.inl rfl)).1 dL_act_198
    · replace h := (if_pos hc84).symm.trans h
      refine lv_iload C0.hx C0.hb dL_act_188 (lv_at hl 2 rfl) ?_
      refine lv_if_eq (tgt := 197) C0.hx C0.hb dL_act_190 (by decide) (fun hc85 => ?_) (fun hc85 => ?_)
      · replace h := (if_pos hc85).symm.trans h
        refine lv_iconst (v := (0 : Int32)) C0.hx C0.hb dL_act_197 (by decide) ?_
        obtain rfl := Option.some.inj h
        exact h_iret C0 hW rfl (g_bool (Or.inl rfl)).1 dL_act_198
      · replace h := (if_neg hc85).symm.trans h
        refine lv_iconst (v := (1 : Int32)) C0.hx C0.hb dL_act_193 (by decide) ?_
        refine lv_goto (tgt := 198) C0.hx C0.hb dL_act_194 (by decide) ?_
        obtain rfl := Option.some.inj h
        exact h_iret C0 hW rfl (g_bool (Or.inr rfl)).1 dL_act_198
set_option maxRecDepth 100000 in
set_option maxHeartbeats 4000000 in
theorem w_l_L_act_127 {p : Program} {l : Launch} {e : Env} {s : State} {m : MethodId} {args : Array Value} {below : List Frame} {meth : Method} {c : Code} {G : GL} {o : Nat → Int32} {y0 : MS} {q : Int32 × CS × MS} (htab : c.exceptionTable.toList = tableOf [((176 : Nat), (198 : Nat), (199 : Nat), (119 : Nat))]) (hfl : l.stackTraces = false) (C0 : g_X G (List.range 120) p s m args meth c cL_act 9 RL (Option.some Jvm.ClassFile.FieldType.boolean))  : ∀ (n : Nat) (l1 : Nat) (l5 : Int32) (l6 : Int32) (l7 : Nat) (l8 : Int32) (x : CS) (y : MS) (H : Heap) (locs : List Loc) (ls : Array Slot), f_l_L_act_127 n l1 l5 l6 l7 l8 x y = some q → h_W G y0 (x, y, o) s.heap H locs → lv_has ls 9 [(0, .ref (g_ad G (0))), (1, g_rf G (l1)), (5, .int (l5)), (6, .int (l6)), (7, g_rf G (l7)), (8, .int (l8))] → W p l e (h_lv 48 y0) s m args below meth c H locs (h_nx y - h_nx y0) (h_sl y - h_sl y0) (MQ below (h_Qi G y0 q.1 (q.2.1, q.2.2, o)) args s (h_nx q.2.2 - h_nx y0) (h_sl q.2.2 - h_sl y0) (g_A G)) (F0 m 127 ls []) := by
  intro n
  induction n with
  | zero =>
    intro l1 l5 l6 l7 l8 x y H locs ls h hW hl
    exact absurd h (by simp [f_l_L_act_127])
  | succ n ih =>
    intro l1 l5 l6 l7 l8 x y H locs ls h hW hl
    unfold f_l_L_act_127 at h
    refine lv_iload C0.hx C0.hb dL_act_127 (lv_at hl 5 rfl) ?_
    refine h_aload_n C0.hx C0.hb dL_act_129 rfl (lv_at hl 1 rfl) ?_
    obtain ⟨hk71, h⟩ := g_if h
    refine hf_X16_4 C0 hW hk71 tf_L_113 dL_act_130 ?_
    obtain ⟨hk72, h⟩ := g_if h
    refine hl_60 C0 hW hk72 dL_act_133 ?_
    refine lv_icmp_ge (tgt := 155) C0.hx C0.hb dL_act_134 (by decide) (fun hc73 => ?_) (fun hc73 => ?_)
    · replace h := (if_pos hc73).symm.trans h
      refine h_aload C0.hx C0.hb dL_act_155 (lv_at hl 4 rfl) ?_
      refine h_aload_n C0.hx C0.hb dL_act_157 rfl (lv_at hl 1 rfl) ?_
      refine hf_X16_4 C0 hW hk71 tf_L_113 dL_act_158 ?_
      refine hl_60 C0 hW hk72 dL_act_161 ?_
      refine lv_iload C0.hx C0.hb dL_act_162 (lv_at hl 2 rfl) ?_
      obtain ⟨hk74, h⟩ := g_if h
      obtain ⟨hn75, h⟩ := g_if h
      refine hs_60 C0 hW hk74 hn75 dL_act_164 (fun H locs hW => ?_)
      refine h_fwi hW ?_
      refine lv_iload C0.hx C0.hb dL_act_165 (lv_at hl 3 rfl) ?_
      refine lv_if_eq (tgt := 176) C0.hx C0.hb dL_act_167 (by decide) (fun hc76 => ?_) (fun hc76 => ?_)
      · replace h := (if_pos hc76).symm.trans h
        have hz := w_l_L_act_176 (l := l) (e := e) (below := below) htab hfl C0 _ _ _ _ _ _ _ _ h hW (lv_sub hl [0, 2, 3, 4] rfl)
        exact hz
      · replace h := (if_neg hc76).symm.trans h
        refine h_aload_n C0.hx C0.hb dL_act_170 rfl (lv_at hl 1 rfl) ?_
        refine h_aload C0.hx C0.hb dL_act_171 (lv_at hl 4 rfl) ?_
        refine hp_X16_4 C0 hW hk71 tf_L_113 dL_act_173 (fun H locs hW => ?_)
        refine h_fwr hW ?_
        have hz := w_l_L_act_176 (l := l) (e := e) (below := below) htab hfl C0 _ _ _ _ _ _ _ _ h hW (lv_sub hl [0, 2, 3, 4] rfl)
        exact hz
    · replace h := (if_neg hc73).symm.trans h
      refine h_aload C0.hx C0.hb dL_act_137 (lv_at hl 4 rfl) ?_
      refine lv_iload C0.hx C0.hb dL_act_139 (lv_at hl 5 rfl) ?_
      refine h_aload_n C0.hx C0.hb dL_act_141 rfl (lv_at hl 1 rfl) ?_
      refine hf_X16_4 C0 hW hk71 tf_L_113 dL_act_142 ?_
      refine lv_iload C0.hx C0.hb dL_act_145 (lv_at hl 5 rfl) ?_
      obtain ⟨hn77, h⟩ := g_if h
      refine ha_60 C0 hW hk72 hn77 dL_act_147 ?_
      obtain ⟨hk78, h⟩ := g_if h
      obtain ⟨hn79, h⟩ := g_if h
      refine hs_60 C0 hW hk78 hn79 dL_act_148 (fun H locs hW => ?_)
      refine h_fwi hW ?_
      refine lv_iinc (v := l8 + (1 : Int32)) (lv' := [(8, .int (l8 + (1 : Int32))), (0, .ref (g_ad G (0))), (1, g_rf G (l1)), (5, .int (l5)), (6, .int (l6)), (7, g_rf G (l7))]) C0.hx C0.hb dL_act_149 hl (k := 5) rfl rfl (by decide) (by simp [g_catQ]) (fun ls hl => ?_)
      refine lv_goto (tgt := 127) C0.hx C0.hb dL_act_152 (by decide) ?_
      have hz := ih _ _ _ _ _ _ _ _ _ _ h hW (lv_sub hl [1, 2, 3, 4, 5, 0] rfl)
      exact hz
set_option maxRecDepth 100000 in
set_option maxHeartbeats 4000000 in
theorem w_l_L_act_111 {p : Program} {l : Launch} {e : Env} {s : State} {m : MethodId} {args : Array Value} {below : List Frame} {meth : Method} {c : Code} {G : GL} {o : Nat → Int32} {y0 : MS} {q : Int32 × CS × MS} (htab : c.exceptionTable.toList = tableOf [((176 : Nat), (198 : Nat), (199 : Nat), (119 : Nat))]) (hfl : l.stackTraces = false) (C0 : g_X G (List.range 120) p s m args meth c cL_act 9 RL (Option.some Jvm.ClassFile.FieldType.boolean))  : ∀  (l1 : Nat) (l5 : Int32) (s0 : Int32) (x : CS) (y : MS) (H : Heap) (locs : List Loc) (ls : Array Slot), f_l_L_act_111 l1 l5 s0 x y = some q → h_W G y0 (x, y, o) s.heap H locs → lv_has ls 9 [(0, .ref (g_ad G (0))), (1, g_rf G (l1)), (5, .int (l5))] → W p l e (h_lv 48 y0) s m args below meth c H locs (h_nx y - h_nx y0) (h_sl y - h_sl y0) (MQ below (h_Qi G y0 q.1 (q.2.1, q.2.2, o)) args s (h_nx q.2.2 - h_nx y0) (h_sl q.2.2 - h_sl y0) (g_A G)) (F0 m 111 ls [.int (s0)]) := by
  intro l1 l5 s0 x y H locs ls h hW hl
  unfold f_l_L_act_111 at h
  refine lv_istore (lv' := [(6, .int (s0)), (0, .ref (g_ad G (0))), (1, g_rf G (l1)), (5, .int (l5))]) C0.hx C0.hb dL_act_111 hl (by decide) rfl (fun ls hl => ?_)
  refine h_aload_n C0.hx C0.hb dL_act_113 rfl (lv_at hl 2 rfl) ?_
  obtain ⟨hk67, h⟩ := g_if h
  refine hf_X16_4 C0 hW hk67 tf_L_113 dL_act_114 ?_
  obtain ⟨hk68, h⟩ := g_if h
  refine hl_60 C0 hW hk68 dL_act_117 ?_
  refine lv_iconst (v := (1 : Int32)) C0.hx C0.hb dL_act_118 (by decide) ?_
  refine lv_iadd C0.hx C0.hb dL_act_119 ?_
  obtain ⟨hn69, h⟩ := g_if h
  obtain ⟨hn70, h⟩ := g_if h
  refine hn_60 C0 hW hn69 hn70 dL_act_120 (fun H hW => ?_)
  refine h_astore (lv' := [(7, g_rf G (h_nx y)), (6, .int (s0)), (0, .ref (g_ad G (0))), (1, g_rf G (l1)), (5, .int (l5))]) C0.hx C0.hb dL_act_122 hl (by decide) rfl (fun ls hl => ?_)
  refine lv_iconst (v := (0 : Int32)) C0.hx C0.hb dL_act_124 (by decide) ?_
  refine lv_istore (lv' := [(8, .int ((0 : Int32))), (7, g_rf G (h_nx y)), (6, .int (s0)), (0, .ref (g_ad G (0))), (1, g_rf G (l1)), (5, .int (l5))]) C0.hx C0.hb dL_act_125 hl (by decide) (by simp [g_catQ]) (fun ls hl => ?_)
  have hz := w_l_L_act_127 (l := l) (e := e) (below := below) htab hfl C0 g_fuel _ _ _ _ _ _ _ _ _ _ h hW (lv_sub hl [3, 4, 5, 2, 1, 0] rfl)
  exact hz
set_option maxRecDepth 100000 in
set_option maxHeartbeats 4000000 in
theorem w_l_L_act_94 {p : Program} {l : Launch} {e : Env} {s : State} {m : MethodId} {args : Array Value} {below : List Frame} {meth : Method} {c : Code} {G : GL} {o : Nat → Int32} {y0 : MS} {q : Int32 × CS × MS} (htab : c.exceptionTable.toList = tableOf [((176 : Nat), (198 : Nat), (199 : Nat), (119 : Nat))]) (hfl : l.stackTraces = false) (C0 : g_X G (List.range 120) p s m args meth c cL_act 9 RL (Option.some Jvm.ClassFile.FieldType.boolean))  : ∀  (l1 : Nat) (s0 : Int32) (x : CS) (y : MS) (H : Heap) (locs : List Loc) (ls : Array Slot), f_l_L_act_94 l1 s0 x y = some q → h_W G y0 (x, y, o) s.heap H locs → lv_has ls 9 [(0, .ref (g_ad G (0))), (1, g_rf G (l1))] → W p l e (h_lv 48 y0) s m args below meth c H locs (h_nx y - h_nx y0) (h_sl y - h_sl y0) (MQ below (h_Qi G y0 q.1 (q.2.1, q.2.2, o)) args s (h_nx q.2.2 - h_nx y0) (h_sl q.2.2 - h_sl y0) (g_A G)) (F0 m 94 ls [.int (s0)]) := by
  intro l1 s0 x y H locs ls h hW hl
  unfold f_l_L_act_94 at h
  refine lv_istore (lv' := [(5, .int (s0)), (0, .ref (g_ad G (0))), (1, g_rf G (l1))]) C0.hx C0.hb dL_act_94 hl (by decide) rfl (fun ls hl => ?_)
  refine h_aload_n C0.hx C0.hb dL_act_96 rfl (lv_at hl 2 rfl) ?_
  obtain ⟨hk64, h⟩ := g_if h
  refine hf_X16_4 C0 hW hk64 tf_L_113 dL_act_97 ?_
  obtain ⟨hk65, h⟩ := g_if h
  refine hl_60 C0 hW hk65 dL_act_100 ?_
  refine lv_bipush (v := (24 : Int32)) C0.hx C0.hb dL_act_101 (by decide) ?_
  refine lv_icmp_ge (tgt := 110) C0.hx C0.hb dL_act_103 (by decide) (fun hc66 => ?_) (fun hc66 => ?_)
  · replace h := (if_pos hc66).symm.trans h
    refine lv_iconst (v := (0 : Int32)) C0.hx C0.hb dL_act_110 (by decide) ?_
    have hz := w_l_L_act_111 (l := l) (e := e) (below := below) htab hfl C0 _ _ _ _ _ _ _ _ h hW (lv_sub hl [1, 2, 0] rfl)
    exact hz
  · replace h := (if_neg hc66).symm.trans h
    refine lv_iconst (v := (1 : Int32)) C0.hx C0.hb dL_act_106 (by decide) ?_
    refine lv_goto (tgt := 111) C0.hx C0.hb dL_act_107 (by decide) ?_
    have hz := w_l_L_act_111 (l := l) (e := e) (below := below) htab hfl C0 _ _ _ _ _ _ _ _ h hW (lv_sub hl [1, 2, 0] rfl)
    exact hz
set_option maxRecDepth 100000 in
set_option maxHeartbeats 4000000 in
theorem w_l_L_act_74 {p : Program} {l : Launch} {e : Env} {s : State} {m : MethodId} {args : Array Value} {below : List Frame} {meth : Method} {c : Code} {G : GL} {o : Nat → Int32} {y0 : MS} {q : Int32 × CS × MS} (htab : c.exceptionTable.toList = tableOf [((176 : Nat), (198 : Nat), (199 : Nat), (119 : Nat))]) (hfl : l.stackTraces = false) (C0 : g_X G (List.range 120) p s m args meth c cL_act 9 RL (Option.some Jvm.ClassFile.FieldType.boolean))  : ∀  (l1 : Nat) (l2 : Nat) (x : CS) (y : MS) (H : Heap) (locs : List Loc) (ls : Array Slot), f_l_L_act_74 l1 l2 x y = some q → h_W G y0 (x, y, o) s.heap H locs → lv_has ls 9 [(0, .ref (g_ad G (0))), (1, g_rf G (l1)), (2, g_rf G (l2))] → W p l e (h_lv 48 y0) s m args below meth c H locs (h_nx y - h_nx y0) (h_sl y - h_sl y0) (MQ below (h_Qi G y0 q.1 (q.2.1, q.2.2, o)) args s (h_nx q.2.2 - h_nx y0) (h_sl q.2.2 - h_sl y0) (g_A G)) (F0 m 74 ls []) := by
  intro l1 l2 x y H locs ls h hW hl
  unfold f_l_L_act_74 at h
  refine h_aload_n C0.hx C0.hb dL_act_74 rfl (lv_at hl 2 rfl) ?_
  refine lv_iconst (v := (5 : Int32)) C0.hx C0.hb dL_act_75 (by decide) ?_
  obtain ⟨hk37, h⟩ := g_if h
  obtain ⟨q38, hq38, h⟩ := Option.bind_eq_some_iff.mp h
  refine h_calli hW (h_runV (As := [.int ((5 : Int32))]) (rest := []) C0 hW (hW.rf (h_ne hk37 (by decide))) (h_recv C0 hW (h_ne hk37 (by decide)) (h_c50 hk37) rfl) (c_l_X13_next hq38) cy_X13_next (by omega) tm_L_37 ti_X13_next ts_X13_next rfl hl.1 rfl (Nat.le_of_ble_eq_true rfl) dL_act_76) (fun H locs hW => ?_)
  refine lv_if_ne (tgt := 86) C0.hx C0.hb dL_act_79 (by decide) (fun hc39 => ?_) (fun hc39 => ?_)
  · replace h := (if_neg hc39).symm.trans h
    refine lv_iconst (v := (1 : Int32)) C0.hx C0.hb dL_act_86 (by decide) ?_
    refine h_aload_n C0.hx C0.hb dL_act_87 rfl (lv_at hl 2 rfl) ?_
    refine lv_bipush (v := (40 : Int32)) C0.hx C0.hb dL_act_88 (by decide) ?_
    obtain ⟨hk40, h⟩ := g_if h
    obtain ⟨q41, hq41, h⟩ := Option.bind_eq_some_iff.mp h
    refine h_calli hW (h_runV (As := [.int ((40 : Int32))]) (rest := [.int ((1 : Int32))]) C0 hW (hW.rf (h_ne hk40 (by decide))) (h_recv C0 hW (h_ne hk40 (by decide)) (h_c50 hk40) rfl) (c_l_X13_next hq41) cy_X13_next (by omega) tm_L_37 ti_X13_next ts_X13_next rfl hl.1 rfl (Nat.le_of_ble_eq_true rfl) dL_act_90) (fun H locs hW => ?_)
    refine lv_iadd C0.hx C0.hb dL_act_93 ?_
    have hz := w_l_L_act_94 (l := l) (e := e) (below := below) htab hfl C0 _ _ _ _ _ _ _ h hW (lv_sub hl [0, 1] rfl)
    exact hz
  · replace h := (if_pos hc39).symm.trans h
    refine lv_iconst (v := (0 : Int32)) C0.hx C0.hb dL_act_82 (by decide) ?_
    refine lv_goto (tgt := 94) C0.hx C0.hb dL_act_83 (by decide) ?_
    have hz := w_l_L_act_94 (l := l) (e := e) (below := below) htab hfl C0 _ _ _ _ _ _ _ h hW (lv_sub hl [0, 1] rfl)
    exact hz
set_option maxRecDepth 100000 in
set_option maxHeartbeats 4000000 in
theorem w_l_L_act_37 {p : Program} {l : Launch} {e : Env} {s : State} {m : MethodId} {args : Array Value} {below : List Frame} {meth : Method} {c : Code} {G : GL} {o : Nat → Int32} {y0 : MS} {q : Int32 × CS × MS} (htab : c.exceptionTable.toList = tableOf [((176 : Nat), (198 : Nat), (199 : Nat), (119 : Nat))]) (hfl : l.stackTraces = false) (C0 : g_X G (List.range 120) p s m args meth c cL_act 9 RL (Option.some Jvm.ClassFile.FieldType.boolean))  : ∀  (l1 : Nat) (s0 : Int32) (s1 : Nat) (s2 : Int32) (x : CS) (y : MS) (H : Heap) (locs : List Loc) (ls : Array Slot), f_l_L_act_37 l1 s0 s1 s2 x y = some q → h_W G y0 (x, y, o) s.heap H locs → lv_has ls 9 [(0, .ref (g_ad G (0))), (1, g_rf G (l1))] → W p l e (h_lv 48 y0) s m args below meth c H locs (h_nx y - h_nx y0) (h_sl y - h_sl y0) (MQ below (h_Qi G y0 q.1 (q.2.1, q.2.2, o)) args s (h_nx q.2.2 - h_nx y0) (h_sl q.2.2 - h_sl y0) (g_A G)) (F0 m 37 ls [.int (s0), g_rf G (s1), .int (s2)]) := by
  intro l1 s0 s1 s2 x y H locs ls h hW hl
  unfold f_l_L_act_37 at h
  obtain ⟨hk58, h⟩ := g_if h
  obtain ⟨q59, hq59, h⟩ := Option.bind_eq_some_iff.mp h
  refine h_calli hW (h_runV (As := [.int (s0)]) (rest := [.int (s2)]) C0 hW (hW.rf (h_ne hk58 (by decide))) (h_recv C0 hW (h_ne hk58 (by decide)) (h_c50 hk58) rfl) (c_l_X13_next hq59) cy_X13_next (by omega) tm_L_37 ti_X13_next ts_X13_next rfl hl.1 rfl (Nat.le_of_ble_eq_true rfl) dL_act_37) (fun H locs hW => ?_)
  refine lv_iadd C0.hx C0.hb dL_act_40 ?_
  refine lv_istore (lv' := [(5, .int (s2 + q59.1)), (0, .ref (g_ad G (0))), (1, g_rf G (l1))]) C0.hx C0.hb dL_act_41 hl (by decide) rfl (fun ls hl => ?_)
  refine lv_aload_n C0.hx C0.hb dL_act_43 rfl (lv_at hl 1 rfl) ?_
  refine lv_iload C0.hx C0.hb dL_act_44 (lv_at hl 0 rfl) ?_
  obtain ⟨q60, hq60, h⟩ := Option.bind_eq_some_iff.mp h
  refine h_kcalli hW (h_krunV (Sx := (x, y, o)) (As := [.int (s2 + q59.1)]) (rest := []) C0 hW (c_X12_passLessons hq60) rfl ⟨tc_X12_passLessons, tn_X12, md_X12_passLessons, by decide⟩ (by omega) tm_L_107 ti_X12_passLessons ts_X12_passLessons rfl hl.1 rfl (Nat.le_of_ble_eq_true rfl) dL_act_46) (fun H locs hW => ?_)
  refine h_aload_n C0.hx C0.hb dL_act_49 rfl (lv_at hl 2 rfl) ?_
  refine lv_iload C0.hx C0.hb dL_act_50 (lv_at hl 0 rfl) ?_
  obtain ⟨hk61, h⟩ := g_if h
  obtain ⟨q62, hq62, h⟩ := Option.bind_eq_some_iff.mp h
  refine h_calli hW (h_runV (As := [.int (s2 + q59.1)]) (rest := [.int (q60.1)]) C0 hW (hW.rf (h_ne hk61 (by decide))) (h_recv C0 hW (h_ne hk61 (by decide)) (h_c53 hk61) rfl) (c_l_X16_pass_ hq62) cy_X16_pass_ (by omega) tm_L_110 ti_X16_pass_ ts_X16_pass_ rfl hl.1 rfl (Nat.le_of_ble_eq_true rfl) dL_act_52) (fun H locs hW => ?_)
  refine lv_icmp_ne (tgt := 62) C0.hx C0.hb dL_act_55 (by decide) (fun hc63 => ?_) (fun hc63 => ?_)
  · replace h := (if_neg hc63).symm.trans h
    refine lv_iconst (v := (0 : Int32)) C0.hx C0.hb dL_act_62 (by decide) ?_
    obtain rfl := Option.some.inj h
    exact h_iret C0 hW rfl (g_bool (Or.inl rfl)).1 dL_act_63
  · replace h := (if_pos hc63).symm.trans h
    refine lv_iconst (v := (1 : Int32)) C0.hx C0.hb dL_act_58 (by decide) ?_
    refine lv_goto (tgt := 63) C0.hx C0.hb dL_act_59 (by decide) ?_
    obtain rfl := Option.some.inj h
    exact h_iret C0 hW rfl (g_bool (Or.inr rfl)).1 dL_act_63
set_option maxRecDepth 100000 in
set_option maxHeartbeats 4000000 in
theorem c_l_L_act {l : Launch} {G : GL} {o : Nat → Int32} {x : CS} {y : MS} {p2 : Nat} {p3 : Nat} {q : Int32 × CS × MS} (hfl : l.stackTraces = false) (h : f_l_L_act p2 p3 x y = some q) : Met l yL_act (.codeWith yL_act cL_act 9 (Option.some Jvm.ClassFile.FieldType.boolean) [((176 : Nat), (198 : Nat), (199 : Nat), (119 : Nat))] :: gT) (h_lv 48 y) (va_Pc [.ref (g_ad G (0)), g_rf G (p2), g_rf G (p3)] (h_P G (x, y, o))) (h_Qi G y q.1 (q.2.1, q.2.2, o)) (h_nx q.2.2 - h_nx y) (h_sl q.2.2 - h_sl y) (g_A G) := by
  unfold f_l_L_act at h
  refine h_entryL (by decide) (by simp [lg_sl, g_catQ, h_ki, h_kr, h_kn, h_kl, h_kd]) (fun p e s m args below meth c ls C0 hl hW htab => ?_)
  have hl : lv_has ls 9 [(0, .ref (g_ad G (0))), (1, g_rf G (p2)), (2, g_rf G (p3))] := by simpa [lv_args, g_catQ, h_ki, h_kr, h_kn, h_kl, h_kd] using hl
  refine h_aload_n C0.hx C0.hb dL_act_0 rfl (lv_at hl 1 rfl) ?_
  obtain ⟨hk1, h⟩ := g_if h
  refine hf_X16_2 C0 hW hk1 tf_L_44 dL_act_1 ?_
  obtain ⟨hk2, h⟩ := g_if h
  refine hl_63 C0 hW hk2 dL_act_4 ?_
  refine lv_istore_n (i := 3) (lv' := [(3, .int (nI (h_N y (h_R y p2 2)))), (0, .ref (g_ad G (0))), (1, g_rf G (p2)), (2, g_rf G (p3))]) C0.hx C0.hb dL_act_5 rfl hl (by decide) (by simp [g_catQ]) (fun ls hl => ?_)
  refine h_aload_n C0.hx C0.hb dL_act_6 rfl (lv_at hl 3 rfl) ?_
  refine lv_bipush (v := (12 : Int32)) C0.hx C0.hb dL_act_7 (by decide) ?_
  obtain ⟨hk3, h⟩ := g_if h
  obtain ⟨q4, hq4, h⟩ := Option.bind_eq_some_iff.mp h
  refine h_calli hW (h_runV (As := [.int ((12 : Int32))]) (rest := []) C0 hW (hW.rf (h_ne hk3 (by decide))) (h_recv C0 hW (h_ne hk3 (by decide)) (h_c50 hk3) rfl) (c_l_X13_next hq4) cy_X13_next (by omega) tm_L_37 ti_X13_next ts_X13_next rfl hl.1 rfl (Nat.le_of_ble_eq_true rfl) dL_act_9) (fun H locs hW => ?_)
  refine lv_istore (lv' := [(4, .int (q4.1)), (3, .int (nI (h_N y (h_R y p2 2)))), (0, .ref (g_ad G (0))), (1, g_rf G (p2)), (2, g_rf G (p3))]) C0.hx C0.hb dL_act_12 hl (by decide) rfl (fun ls hl => ?_)
  refine lv_iload C0.hx C0.hb dL_act_14 (lv_at hl 0 rfl) ?_
  refine lv_bipush (v := (8 : Int32)) C0.hx C0.hb dL_act_16 (by decide) ?_
  refine lv_icmp_le (tgt := 64) C0.hx C0.hb dL_act_18 (by decide) (fun hc5 => ?_) (fun hc5 => ?_)
  · replace h := (if_pos hc5).symm.trans h
    refine lv_iload_n C0.hx C0.hb dL_act_64 rfl (lv_at hl 1 rfl) ?_
    refine lv_if_eq (tgt := 74) C0.hx C0.hb dL_act_65 (by decide) (fun hc6 => ?_) (fun hc6 => ?_)
    · replace h := (if_pos hc6).symm.trans h
      have hz := w_l_L_act_74 (l := l) (e := e) (below := below) htab hfl C0 _ _ _ _ _ _ _ h hW (lv_sub hl [2, 3, 4] rfl)
      exact hz
    · replace h := (if_neg hc6).symm.trans h
      refine lv_iload C0.hx C0.hb dL_act_68 (lv_at hl 0 rfl) ?_
      refine lv_iconst (v := (4 : Int32)) C0.hx C0.hb dL_act_70 (by decide) ?_
      refine lv_icmp_ge (tgt := 212) C0.hx C0.hb dL_act_71 (by decide) (fun hc7 => ?_) (fun hc7 => ?_)
      · replace h := (if_pos hc7).symm.trans h
        refine h_aload_n C0.hx C0.hb dL_act_212 rfl (lv_at hl 4 rfl) ?_
        refine lv_iload_n C0.hx C0.hb dL_act_213 rfl (lv_at hl 1 rfl) ?_
        obtain ⟨hk8, h⟩ := g_if h
        obtain ⟨q9, hq9, h⟩ := Option.bind_eq_some_iff.mp h
        refine h_calli hW (h_runV (As := [.int (nI (h_N y (h_R y p2 2)))]) (rest := []) C0 hW (hW.rf (h_ne hk8 (by decide))) (h_recv C0 hW (h_ne hk8 (by decide)) (h_c50 hk8) rfl) (c_l_X13_next hq9) cy_X13_next (by omega) tm_L_37 ti_X13_next ts_X13_next rfl hl.1 rfl (Nat.le_of_ble_eq_true rfl) dL_act_214) (fun H locs hW => ?_)
        refine lv_istore (lv' := [(5, .int (q9.1)), (4, .int (q4.1)), (3, .int (nI (h_N y (h_R y p2 2)))), (0, .ref (g_ad G (0))), (1, g_rf G (p2)), (2, g_rf G (p3))]) C0.hx C0.hb dL_act_217 hl (by decide) rfl (fun ls hl => ?_)
        refine lv_iload C0.hx C0.hb dL_act_219 (lv_at hl 1 rfl) ?_
        refine lv_bipush (v := (6 : Int32)) C0.hx C0.hb dL_act_221 (by decide) ?_
        refine lv_icmp_ge (tgt := 276) C0.hx C0.hb dL_act_223 (by decide) (fun hc10 => ?_) (fun hc10 => ?_)
        · replace h := (if_pos hc10).symm.trans h
          refine lv_iload C0.hx C0.hb dL_act_276 (lv_at hl 1 rfl) ?_
          refine lv_bipush (v := (6 : Int32)) C0.hx C0.hb dL_act_278 (by decide) ?_
          refine lv_icmp_ne (tgt := 327) C0.hx C0.hb dL_act_280 (by decide) (fun hc11 => ?_) (fun hc11 => ?_)
          · replace h := (if_neg hc11).symm.trans h
            refine lv_iload C0.hx C0.hb dL_act_327 (lv_at hl 1 rfl) ?_
            refine lv_bipush (v := (7 : Int32)) C0.hx C0.hb dL_act_329 (by decide) ?_
            refine lv_icmp_ne (tgt := 363) C0.hx C0.hb dL_act_331 (by decide) (fun hc12 => ?_) (fun hc12 => ?_)
            · replace h := (if_neg hc12).symm.trans h
              refine lv_iconst (v := (0 : Int32)) C0.hx C0.hb dL_act_363 (by decide) ?_
              refine lv_istore (lv' := [(6, .int ((0 : Int32))), (5, .int (q9.1)), (4, .int (q4.1)), (3, .int (nI (h_N y (h_R y p2 2)))), (0, .ref (g_ad G (0))), (1, g_rf G (p2)), (2, g_rf G (p3))]) C0.hx C0.hb dL_act_364 hl (by decide) rfl (fun ls hl => ?_)
              refine lv_iconst (v := (0 : Int32)) C0.hx C0.hb dL_act_366 (by decide) ?_
              refine lv_istore (lv' := [(7, .int ((0 : Int32))), (6, .int ((0 : Int32))), (5, .int (q9.1)), (4, .int (q4.1)), (3, .int (nI (h_N y (h_R y p2 2)))), (0, .ref (g_ad G (0))), (1, g_rf G (p2)), (2, g_rf G (p3))]) C0.hx C0.hb dL_act_367 hl (by decide) rfl (fun ls hl => ?_)
              have hz := w_l_L_act_369 (l := l) (e := e) (below := below) htab hfl C0 g_fuel _ _ _ _ _ _ _ _ _ h hW (lv_sub hl [5, 6, 4, 1, 0] rfl)
              exact hz
            · replace h := (if_pos hc12).symm.trans h
              refine h_aload_n C0.hx C0.hb dL_act_334 rfl (lv_at hl 4 rfl) ?_
              obtain ⟨hk13, h⟩ := g_if h
              refine hf_X16_4 C0 hW hk13 tf_L_113 dL_act_335 ?_
              obtain ⟨hk14, h⟩ := g_if h
              refine hl_60 C0 hW hk14 dL_act_338 ?_
              refine lv_istore (lv' := [(6, .int (nI (h_N q9.2 (h_R q9.2 p2 4)))), (5, .int (q9.1)), (4, .int (q4.1)), (3, .int (nI (h_N y (h_R y p2 2)))), (0, .ref (g_ad G (0))), (1, g_rf G (p2)), (2, g_rf G (p3))]) C0.hx C0.hb dL_act_339 hl (by decide) rfl (fun ls hl => ?_)
              refine h_aload_n C0.hx C0.hb dL_act_341 rfl (lv_at hl 5 rfl) ?_
              refine lv_iconst (v := (0 : Int32)) C0.hx C0.hb dL_act_342 (by decide) ?_
              obtain ⟨hn15, h⟩ := g_if h
              obtain ⟨hn16, h⟩ := g_if h
              refine hn_60 C0 hW hn15 hn16 dL_act_343 (fun H hW => ?_)
              obtain ⟨hk17, h⟩ := g_if h
              refine hp_X16_4 C0 hW hk17 tf_L_113 dL_act_345 (fun H locs hW => ?_)
              refine h_fwr hW ?_
              refine lv_aload_n C0.hx C0.hb dL_act_348 rfl (lv_at hl 4 rfl) ?_
              obtain ⟨q18, hq18, h⟩ := Option.bind_eq_some_iff.mp h
              refine h_kcalli hW (h_krunV (Sx := (x, y, o)) (As := []) (rest := []) C0 hW (c_X12_forget hq18) rfl ⟨tc_X12_forget, tn_X12, md_X12_forget, by decide⟩ (by omega) tm_L_133 ti_X12_forget ts_X12_forget rfl hl.1 rfl (Nat.le_of_ble_eq_true rfl) dL_act_349) (fun H locs hW => ?_)
              refine lv_iload C0.hx C0.hb dL_act_352 (lv_at hl 0 rfl) ?_
              refine lv_icmp_ne (tgt := 361) C0.hx C0.hb dL_act_354 (by decide) (fun hc19 => ?_) (fun hc19 => ?_)
              · replace h := (if_neg hc19).symm.trans h
                refine lv_iconst (v := (0 : Int32)) C0.hx C0.hb dL_act_361 (by decide) ?_
                obtain rfl := Option.some.inj h
                exact h_iret C0 hW rfl (g_bool (Or.inl rfl)).1 dL_act_362
              · replace h := (if_pos hc19).symm.trans h
                refine lv_iconst (v := (1 : Int32)) C0.hx C0.hb dL_act_357 (by decide) ?_
                refine lv_goto (tgt := 362) C0.hx C0.hb dL_act_358 (by decide) ?_
                obtain rfl := Option.some.inj h
                exact h_iret C0 hW rfl (g_bool (Or.inr rfl)).1 dL_act_362
          · replace h := (if_pos hc11).symm.trans h
            refine h_aload_n C0.hx C0.hb dL_act_283 rfl (lv_at hl 4 rfl) ?_
            obtain ⟨hk20, h⟩ := g_if h
            refine hf_X16_3 C0 hW hk20 tf_L_48 dL_act_284 ?_
            refine lv_iload C0.hx C0.hb dL_act_287 (lv_at hl 0 rfl) ?_
            refine h_aload_n C0.hx C0.hb dL_act_289 rfl (lv_at hl 4 rfl) ?_
            refine hf_X16_3 C0 hW hk20 tf_L_48 dL_act_290 ?_
            refine lv_iload C0.hx C0.hb dL_act_293 (lv_at hl 0 rfl) ?_
            obtain ⟨hk21, h⟩ := g_if h
            obtain ⟨hn22, h⟩ := g_if h
            refine ha_62 C0 hW hk21 hn22 dL_act_295 ?_
            refine lv_if_ne (tgt := 303) C0.hx C0.hb dL_act_296 (by decide) (fun hc23 => ?_) (fun hc23 => ?_)
            · replace h := (if_neg hc23).symm.trans h
              refine lv_iconst (v := (0 : Int32)) C0.hx C0.hb dL_act_303 (by decide) ?_
              have hz := w_l_L_act_304 (l := l) (e := e) (below := below) htab hfl C0 _ _ _ _ _ _ _ _ _ _ h hW (lv_sub hl [3, 4, 0] rfl)
              exact hz
            · replace h := (if_pos hc23).symm.trans h
              refine lv_iconst (v := (1 : Int32)) C0.hx C0.hb dL_act_299 (by decide) ?_
              refine lv_goto (tgt := 304) C0.hx C0.hb dL_act_300 (by decide) ?_
              have hz := w_l_L_act_304 (l := l) (e := e) (below := below) htab hfl C0 _ _ _ _ _ _ _ _ _ _ h hW (lv_sub hl [3, 4, 0] rfl)
              exact hz
        · replace h := (if_neg hc10).symm.trans h
          refine h_aload_n C0.hx C0.hb dL_act_226 rfl (lv_at hl 5 rfl) ?_
          refine lv_bipush (v := (79 : Int32)) C0.hx C0.hb dL_act_227 (by decide) ?_
          obtain ⟨hk24, h⟩ := g_if h
          obtain ⟨q25, hq25, h⟩ := Option.bind_eq_some_iff.mp h
          refine h_calli hW (h_runV (As := [.int ((79 : Int32))]) (rest := []) C0 hW (hW.rf (h_ne hk24 (by decide))) (h_recv C0 hW (h_ne hk24 (by decide)) (h_c50 hk24) rfl) (c_l_X13_next hq25) cy_X13_next (by omega) tm_L_37 ti_X13_next ts_X13_next rfl hl.1 rfl (Nat.le_of_ble_eq_true rfl) dL_act_229) (fun H locs hW => ?_)
          refine lv_bipush (v := (39 : Int32)) C0.hx C0.hb dL_act_232 (by decide) ?_
          refine lv_isub C0.hx C0.hb dL_act_234 ?_
          refine lv_istore (lv' := [(6, .int (q25.1 - (39 : Int32))), (5, .int (q9.1)), (4, .int (q4.1)), (3, .int (nI (h_N y (h_R y p2 2)))), (0, .ref (g_ad G (0))), (1, g_rf G (p2)), (2, g_rf G (p3))]) C0.hx C0.hb dL_act_235 hl (by decide) rfl (fun ls hl => ?_)
          refine h_aload_n C0.hx C0.hb dL_act_237 rfl (lv_at hl 5 rfl) ?_
          refine h_aload_n C0.hx C0.hb dL_act_238 rfl (lv_at hl 5 rfl) ?_
          obtain ⟨hk26, h⟩ := g_if h
          refine hf_X16_2 C0 hW hk26 tf_L_44 dL_act_239 ?_
          refine lv_iload C0.hx C0.hb dL_act_242 (lv_at hl 1 rfl) ?_
          obtain ⟨hk27, h⟩ := g_if h
          obtain ⟨hn28, h⟩ := g_if h
          refine ha_63 C0 hW hk27 hn28 dL_act_244 ?_
          refine lv_iload C0.hx C0.hb dL_act_245 (lv_at hl 0 rfl) ?_
          refine lv_i2l C0.hx C0.hb dL_act_247 rfl ?_
          obtain ⟨q29, hq29, h⟩ := Option.bind_eq_some_iff.mp h
          refine h_callr hW (h_runS (As := [g_rf G (h_R q25.2 (h_R q25.2 p2 2) q9.1.toNatClampNeg), .long ((q25.1 - (39 : Int32)).toInt64)]) (rest := [g_rf G (p2)]) C0 hW (c_l_X16_shifted hq29) cy_X16_shifted (by omega) tm_L_121 tz_X16_shifted rfl hl.1 rfl (by simp [g_catQ, h_ki, h_kr, h_kn, h_kl, h_kd]) dL_act_248) (fun H locs hW => ?_)
          obtain ⟨hk30, h⟩ := g_if h
          refine hp_X16_4 C0 hW hk30 tf_L_113 dL_act_251 (fun H locs hW => ?_)
          refine h_fwr hW ?_
          refine lv_aload_n C0.hx C0.hb dL_act_254 rfl (lv_at hl 4 rfl) ?_
          refine lv_iload C0.hx C0.hb dL_act_255 (lv_at hl 1 rfl) ?_
          refine lv_iload C0.hx C0.hb dL_act_257 (lv_at hl 0 rfl) ?_
          obtain ⟨q31, hq31, h⟩ := Option.bind_eq_some_iff.mp h
          refine h_kcalli hW (h_krunV (Sx := (x, y, o)) (As := [.int (q9.1), .int (q25.1 - (39 : Int32))]) (rest := []) C0 hW (c_X12_hearWord hq31) rfl ⟨tc_X12_hearWord, tn_X12, md_X12_hearWord, by decide⟩ (by omega) tm_L_125 ti_X12_hearWord ts_X12_hearWord rfl hl.1 rfl (Nat.le_of_ble_eq_true rfl) dL_act_259) (fun H locs hW => ?_)
          refine h_aload_n C0.hx C0.hb dL_act_262 rfl (lv_at hl 5 rfl) ?_
          refine hf_X16_4 C0 hW hk30 tf_L_113 dL_act_263 ?_
          obtain ⟨hk32, h⟩ := g_if h
          refine hl_60 C0 hW hk32 dL_act_266 ?_
          refine lv_icmp_ne (tgt := 274) C0.hx C0.hb dL_act_267 (by decide) (fun hc33 => ?_) (fun hc33 => ?_)
          · replace h := (if_neg hc33).symm.trans h
            refine lv_iconst (v := (0 : Int32)) C0.hx C0.hb dL_act_274 (by decide) ?_
            obtain rfl := Option.some.inj h
            exact h_iret C0 hW rfl (g_bool (Or.inl rfl)).1 dL_act_275
          · replace h := (if_pos hc33).symm.trans h
            refine lv_iconst (v := (1 : Int32)) C0.hx C0.hb dL_act_270 (by decide) ?_
            refine lv_goto (tgt := 275) C0.hx C0.hb dL_act_271 (by decide) ?_
            obtain rfl := Option.some.inj h
            exact h_iret C0 hW rfl (g_bool (Or.inr rfl)).1 dL_act_275
      · replace h := (if_neg hc7).symm.trans h
        have hz := w_l_L_act_74 (l := l) (e := e) (below := below) htab hfl C0 _ _ _ _ _ _ _ h hW (lv_sub hl [2, 3, 4] rfl)
        exact hz
  · replace h := (if_neg hc5).symm.trans h
    refine lv_iconst (v := (1 : Int32)) C0.hx C0.hb dL_act_21 (by decide) ?_
    refine h_aload_n C0.hx C0.hb dL_act_22 rfl (lv_at hl 4 rfl) ?_
    refine h_aload_n C0.hx C0.hb dL_act_23 rfl (lv_at hl 4 rfl) ?_
    refine lv_iconst (v := (3 : Int32)) C0.hx C0.hb dL_act_24 (by decide) ?_
    obtain ⟨hk34, h⟩ := g_if h
    obtain ⟨q35, hq35, h⟩ := Option.bind_eq_some_iff.mp h
    refine h_calli hW (h_runV (As := [.int ((3 : Int32))]) (rest := [g_rf G (p3), .int ((1 : Int32))]) C0 hW (hW.rf (h_ne hk34 (by decide))) (h_recv C0 hW (h_ne hk34 (by decide)) (h_c50 hk34) rfl) (c_l_X13_next hq35) cy_X13_next (by omega) tm_L_37 ti_X13_next ts_X13_next rfl hl.1 rfl (by simp [g_catQ, h_ki, h_kr, h_kn, h_kl, h_kd]) dL_act_25) (fun H locs hW => ?_)
    refine lv_if_ne (tgt := 36) C0.hx C0.hb dL_act_28 (by decide) (fun hc36 => ?_) (fun hc36 => ?_)
    · replace h := (if_neg hc36).symm.trans h
      refine lv_iconst (v := (2 : Int32)) C0.hx C0.hb dL_act_36 (by decide) ?_
      have hz := w_l_L_act_37 (l := l) (e := e) (below := below) htab hfl C0 _ _ _ _ _ _ _ _ _ h hW (lv_sub hl [2, 3] rfl)
      exact hz
    · replace h := (if_pos hc36).symm.trans h
      refine lv_bipush (v := (6 : Int32)) C0.hx C0.hb dL_act_31 (by decide) ?_
      refine lv_goto (tgt := 37) C0.hx C0.hb dL_act_33 (by decide) ?_
      have hz := w_l_L_act_37 (l := l) (e := e) (below := below) htab hfl C0 _ _ _ _ _ _ _ _ _ h hW (lv_sub hl [2, 3] rfl)
      exact hz
set_option maxRecDepth 100000 in
set_option maxHeartbeats 4000000 in
theorem c_l_L_meant {l : Launch} {G : GL} {o : Nat → Int32} {x : CS} {y : MS}  {q : Int32 × CS × MS} (hfl : l.stackTraces = false) (h : f_l_L_meant x y = some q) : Met l yL_meant (.codeWith yL_meant cL_meant 2 (Option.some Jvm.ClassFile.FieldType.int) [((0 : Nat), (4 : Nat), (5 : Nat), (119 : Nat))] :: gT) (h_lv 20 y) (va_Pc [.ref (g_ad G (0))] (h_P G (x, y, o))) (h_Qi G y q.1 (q.2.1, q.2.2, o)) (h_nx q.2.2 - h_nx y) (h_sl q.2.2 - h_sl y) (g_A G) := by
  unfold f_l_L_meant at h
  refine h_entryL (by decide) (Nat.le_of_ble_eq_true rfl) (fun p e s m args below meth c ls C0 hl hW htab => ?_)
  have hl : lv_has ls 2 [(0, .ref (g_ad G (0)))] := hl
  refine lv_aload_n C0.hx C0.hb dL_meant_0 rfl (lv_at hl 0 rfl) ?_
  obtain ⟨r1, hr1, h⟩ := Option.bind_eq_some_iff.mp h
  rcases r1 with u_ | z_
  · replace h : (if u_ = 1 ∧ h_rm y 6 = true then (some (((-1 : Int32), x, h_ex y 1 6))) else none) = some _ := h
    obtain ⟨⟨hu_, hrm_⟩, h7⟩ := g_if h
    clear h
    subst hu_
    have h := h7
    refine h_try (xt := ⟨0, 4, 5, 119⟩) (As := []) (rest := []) (k1 := 7) C0 hW (fun _ _ h => by cases h) rfl hrm_ (cx_X12_meantWord hfl hr1) rfl ⟨tc_X12_meantWord, tn_X12, md_X12_meantWord, by decide⟩ (by omega) (htab.trans rfl) (by decide) (by decide) tl_L_119 tm_L_142 ti_X12_meantWord ts_X12_meantWord rfl hl.1 rfl (Nat.le_of_ble_eq_true rfl) dL_meant_1 (fun H locs q9 hW => ?_)
    refine lv_astore_n (lv' := [(1, .ref q9), (0, .ref (g_ad G (0)))]) C0.hx C0.hb dL_meant_5 rfl hl (by decide) rfl (fun ls hl => ?_)
    refine lv_iconst (v := (-1 : Int32)) C0.hx C0.hb dL_meant_6 (by decide) ?_
    obtain rfl := Option.some.inj h
    exact h_iret C0 hW rfl rfl dL_meant_7
  · replace h : ((f_X12_meantWord x).bind fun q2 => some ((q2, x, y))) = some _ := h
    obtain ⟨q2, hq2, h⟩ := Option.bind_eq_some_iff.mp h
    refine h_kcalli hW (h_krunV (Sx := (x, y, o)) (As := []) (rest := []) C0 hW (c_X12_meantWord hq2) rfl ⟨tc_X12_meantWord, tn_X12, md_X12_meantWord, by decide⟩ (by omega) tm_L_142 ti_X12_meantWord ts_X12_meantWord rfl hl.1 rfl (Nat.le_of_ble_eq_true rfl) dL_meant_1) (fun H locs hW => ?_)
    obtain rfl := Option.some.inj h
    exact h_iret C0 hW rfl rfl dL_meant_4
set_option maxRecDepth 100000 in
set_option maxHeartbeats 4000000 in
theorem c_l_L_surety {l : Launch} {G : GL} {o : Nat → Int32} {x : CS} {y : MS}  {q : Int32 × CS × MS} (hfl : l.stackTraces = false) (h : f_l_L_surety x y = some q) : Met l yL_surety (.codeWith yL_surety cL_surety 2 (Option.some Jvm.ClassFile.FieldType.int) [((0 : Nat), (4 : Nat), (5 : Nat), (119 : Nat))] :: gT) (h_lv 20 y) (va_Pc [.ref (g_ad G (0))] (h_P G (x, y, o))) (h_Qi G y q.1 (q.2.1, q.2.2, o)) (h_nx q.2.2 - h_nx y) (h_sl q.2.2 - h_sl y) (g_A G) := by
  unfold f_l_L_surety at h
  refine h_entryL (by decide) (Nat.le_of_ble_eq_true rfl) (fun p e s m args below meth c ls C0 hl hW htab => ?_)
  have hl : lv_has ls 2 [(0, .ref (g_ad G (0)))] := hl
  refine lv_aload_n C0.hx C0.hb dL_surety_0 rfl (lv_at hl 0 rfl) ?_
  obtain ⟨r1, hr1, h⟩ := Option.bind_eq_some_iff.mp h
  rcases r1 with u_ | z_
  · replace h : (if u_ = 1 ∧ h_rm y 6 = true then (some (((-2 : Int32), x, h_ex y 1 6))) else none) = some _ := h
    obtain ⟨⟨hu_, hrm_⟩, h7⟩ := g_if h
    clear h
    subst hu_
    have h := h7
    refine h_try (xt := ⟨0, 4, 5, 119⟩) (As := []) (rest := []) (k1 := 7) C0 hW (fun _ _ h => by cases h) rfl hrm_ (cx_X12_surety hfl hr1) rfl ⟨tc_X12_surety, tn_X12, md_X12_surety, by decide⟩ (by omega) (htab.trans rfl) (by decide) (by decide) tl_L_119 tm_L_145 ti_X12_surety ts_X12_surety rfl hl.1 rfl (Nat.le_of_ble_eq_true rfl) dL_surety_1 (fun H locs q9 hW => ?_)
    refine lv_astore_n (lv' := [(1, .ref q9), (0, .ref (g_ad G (0)))]) C0.hx C0.hb dL_surety_5 rfl hl (by decide) rfl (fun ls hl => ?_)
    refine lv_bipush (v := (-2 : Int32)) C0.hx C0.hb dL_surety_6 (by decide) ?_
    obtain rfl := Option.some.inj h
    exact h_iret C0 hW rfl rfl dL_surety_8
  · replace h : ((f_X12_surety x).bind fun q2 => some ((q2, x, y))) = some _ := h
    obtain ⟨q2, hq2, h⟩ := Option.bind_eq_some_iff.mp h
    refine h_kcalli hW (h_krunV (Sx := (x, y, o)) (As := []) (rest := []) C0 hW (c_X12_surety hq2) rfl ⟨tc_X12_surety, tn_X12, md_X12_surety, by decide⟩ (by omega) tm_L_145 ti_X12_surety ts_X12_surety rfl hl.1 rfl (Nat.le_of_ble_eq_true rfl) dL_surety_1) (fun H locs hW => ?_)
    obtain rfl := Option.some.inj h
    exact h_iret C0 hW rfl rfl dL_surety_4
