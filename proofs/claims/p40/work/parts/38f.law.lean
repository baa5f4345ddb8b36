set_option maxRecDepth 100000 in
set_option maxHeartbeats 4000000 in
theorem w_l_X15_text_109 {p : Program} {l : Launch} {e : Env} {s : State} {m : MethodId} {args : Array Value} {below : List Frame} {meth : Method} {c : Code} {G : GL} {o : Nat → Int32} {y0 : MS} {x : CS} {q : Nat × MS}  (C0 : g_X G (List.range 120) p s m args meth c cX15_text 1 RX15 (Option.some (Jvm.ClassFile.FieldType.object "java/lang/String")))  : ∀  (l0 : Nat) (s0 : Nat) (s1 : Nat) (y : MS) (H : Heap) (locs : List Loc) (ls : Array Slot), f_l_X15_text_109 l0 s0 s1 y = some q → h_W G y0 (x, y, o) s.heap H locs → lv_has ls 1 [(0, g_rf G (l0))] → W p l e (h_lv 45 y0) s m args below meth c H locs (h_nx y - h_nx y0) (h_sl y - h_sl y0) (MQ below (h_Qr G y0 (.ref (g_sa G (q.1))) (x, q.2, o)) args s (h_nx q.2 - h_nx y0) (h_sl q.2 - h_sl y0) (g_A G)) (F0 m 109 ls [.ref (g_sa G (s0)), g_rf G (s1)]) := by
  intro l0 s0 s1 y H locs ls h hW hl
  unfold f_l_X15_text_109 at h
  obtain ⟨hk44, h⟩ := g_if h
  obtain ⟨q45, hq45, h⟩ := Option.bind_eq_some_iff.mp h
  refine h_callr hW (h_runV (As := [.ref (g_sa G (s0))]) (rest := []) C0 hW (hW.rf (h_ne hk44 (by decide))) (h_recv C0 hW (h_ne hk44 (by decide)) (h_c54 hk44) rfl) (c_l_J4_append_15ec4 hq45) cy_J4_append_15ec4 (by omega) tm_X15_41 ti_J4_append_15ec4 ts_J4_append_15ec4 rfl hl.1 rfl (Nat.le_of_ble_eq_true rfl) dX15_text_109) (fun H locs hW => ?_)
  refine h_aload_n C0.hx C0.hb dX15_text_112 rfl (lv_at hl 0 rfl) ?_
  obtain ⟨hk46, h⟩ := g_if h
  refine hf_X15_3 C0 hW hk46 tf_X15_34 dX15_text_113 ?_
  refine h_ifnonnull (tgt := 124) C0.hx C0.hb dX15_text_116 (by decide) (fun hc47 => ?_) (fun hc47 => ?_)
  · replace h := (if_neg hc47).symm.trans h
    obtain ⟨hn48, h⟩ := g_if h
    refine hno_54 C0 hW hn48 tl_X15_36 dX15_text_124 (fun H hW => ?_)
    refine lv_dup C0.hx C0.hb dX15_text_127 g_catQ ?_
    obtain ⟨hk49, h⟩ := g_if h
    obtain ⟨q50, hq50, h⟩ := Option.bind_eq_some_iff.mp h
    refine h_callv hW (h_runI (As := []) (rest := [g_rf G (h_nx q45.2), g_rf G (q45.1)]) C0 hW (hW.rf (h_ne hk49 (by decide))) (c_l_J4_init_da8c8 hq50) cy_J4_init_da8c8 (by omega) tm_X15_38 ti_J4_init_da8c8 rfl rfl hl.1 rfl (by simp [g_catQ, h_ki, h_kr, h_kn, h_kl, h_kd]) dX15_text_128) (fun H locs hW => ?_)
    refine h_ldc C0 hW (n := 83) (List.mem_of_getElem? (i := 37) rfl) (by decide) dX15_text_131 ?_
    obtain ⟨hk51, h⟩ := g_if h
    obtain ⟨q52, hq52, h⟩ := Option.bind_eq_some_iff.mp h
    refine h_callr hW (h_runV (As := [.ref (g_sa G (83))]) (rest := [g_rf G (q45.1)]) C0 hW (hW.rf (h_ne hk51 (by decide))) (h_recv C0 hW (h_ne hk51 (by decide)) (h_c54 hk51) rfl) (c_l_J4_append_15ec4 hq52) cy_J4_append_15ec4 (by omega) tm_X15_41 ti_J4_append_15ec4 ts_J4_append_15ec4 rfl hl.1 rfl (by simp [g_catQ, h_ki, h_kr, h_kn, h_kl, h_kd]) dX15_text_133) (fun H locs hW => ?_)
    refine h_aload_n C0.hx C0.hb dX15_text_136 rfl (lv_at hl 0 rfl) ?_
    obtain ⟨hk53, h⟩ := g_if h
    refine hf_X15_3 C0 hW hk53 tf_X15_34 dX15_text_137 ?_
    obtain ⟨hk54, h⟩ := g_if h
    obtain ⟨q55, hq55, h⟩ := Option.bind_eq_some_iff.mp h
    refine h_callr hW (h_runV (As := []) (rest := [g_rf G (q52.1), g_rf G (q45.1)]) C0 hW (hW.rf (h_ne hk54 (by decide))) (h_recv C0 hW (h_ne hk54 (by decide)) (h_c51 hk54) rfl) (c_l_X14_text 6 _ _ _ hq55) cy_X14_text (by omega) tm_X15_58 ti_X14_text ts_X14_text rfl hl.1 rfl (by simp [g_catQ, h_ki, h_kr, h_kn, h_kl, h_kd]) dX15_text_140) (fun H locs hW => ?_)
    obtain ⟨hk56, h⟩ := g_if h
    obtain ⟨q57, hq57, h⟩ := Option.bind_eq_some_iff.mp h
    refine h_callr hW (h_runV (As := [.ref (g_sa G (q55.1))]) (rest := [g_rf G (q45.1)]) C0 hW (hW.rf (h_ne hk56 (by decide))) (h_recv C0 hW (h_ne hk56 (by decide)) (h_c54 hk56) rfl) (c_l_J4_append_15ec4 hq57) cy_J4_append_15ec4 (by omega) tm_X15_41 ti_J4_append_15ec4 ts_J4_append_15ec4 rfl hl.1 rfl (by simp [g_catQ, h_ki, h_kr, h_kn, h_kl, h_kd]) dX15_text_143) (fun H locs hW => ?_)
    refine h_ldc C0 hW (n := 82) (List.mem_of_getElem? (i := 36) rfl) (by decide) dX15_text_146 ?_
    obtain ⟨hk58, h⟩ := g_if h
    obtain ⟨q59, hq59, h⟩ := Option.bind_eq_some_iff.mp h
    refine h_callr hW (h_runV (As := [.ref (g_sa G (82))]) (rest := [g_rf G (q45.1)]) C0 hW (hW.rf (h_ne hk58 (by decide))) (h_recv C0 hW (h_ne hk58 (by decide)) (h_c54 hk58) rfl) (c_l_J4_append_15ec4 hq59) cy_J4_append_15ec4 (by omega) tm_X15_41 ti_J4_append_15ec4 ts_J4_append_15ec4 rfl hl.1 rfl (by simp [g_catQ, h_ki, h_kr, h_kn, h_kl, h_kd]) dX15_text_148) (fun H locs hW => ?_)
    obtain ⟨hk60, h⟩ := g_if h
    obtain ⟨q61, hq61, h⟩ := Option.bind_eq_some_iff.mp h
    refine h_callr hW (h_runV (As := []) (rest := [g_rf G (q45.1)]) C0 hW (hW.rf (h_ne hk60 (by decide))) (h_recv C0 hW (h_ne hk60 (by decide)) (h_c54 hk60) rfl) (c_l_J4_toString_0e30d hq61) cy_J4_toString_0e30d (by omega) tm_X15_48 ti_J4_toString_0e30d ts_J4_toString_0e30d rfl hl.1 rfl (by simp [g_catQ, h_ki, h_kr, h_kn, h_kl, h_kd]) dX15_text_151) (fun H locs hW => ?_)
    obtain ⟨hk62, h⟩ := g_if h
    obtain ⟨q63, hq63, h⟩ := Option.bind_eq_some_iff.mp h
    refine h_callr hW (h_runV (As := [.ref (g_sa G (q61.1))]) (rest := []) C0 hW (hW.rf (h_ne hk62 (by decide))) (h_recv C0 hW (h_ne hk62 (by decide)) (h_c54 hk62) rfl) (c_l_J4_append_15ec4 hq63) cy_J4_append_15ec4 (by omega) tm_X15_41 ti_J4_append_15ec4 ts_J4_append_15ec4 rfl hl.1 rfl (Nat.le_of_ble_eq_true rfl) dX15_text_154) (fun H locs hW => ?_)
    obtain ⟨hk64, h⟩ := g_if h
    obtain ⟨q65, hq65, h⟩ := Option.bind_eq_some_iff.mp h
    refine h_callr hW (h_runV (As := []) (rest := []) C0 hW (hW.rf (h_ne hk64 (by decide))) (h_recv C0 hW (h_ne hk64 (by decide)) (h_c54 hk64) rfl) (c_l_J4_toString_0e30d hq65) cy_J4_toString_0e30d (by omega) tm_X15_48 ti_J4_toString_0e30d ts_J4_toString_0e30d rfl hl.1 rfl (Nat.le_of_ble_eq_true rfl) dX15_text_157) (fun H locs hW => ?_)
    obtain rfl := Option.some.inj h
    exact h_aretC C0 hW rfl rfl dX15_text_160
  · replace h := (if_pos hc47).symm.trans h
    refine h_ldc C0 hW (n := 82) (List.mem_of_getElem? (i := 36) rfl) (by decide) dX15_text_119 ?_
    refine lv_goto (tgt := 154) C0.hx C0.hb dX15_text_121 (by decide) ?_
    obtain ⟨hk66, h⟩ := g_if h
    obtain ⟨q67, hq67, h⟩ := Option.bind_eq_some_iff.mp h
    refine h_callr hW (h_runV (As := [.ref (g_sa G (82))]) (rest := []) C0 hW (hW.rf (h_ne hk66 (by decide))) (h_recv C0 hW (h_ne hk66 (by decide)) (h_c54 hk66) rfl) (c_l_J4_append_15ec4 hq67) cy_J4_append_15ec4 (by omega) tm_X15_41 ti_J4_append_15ec4 ts_J4_append_15ec4 rfl hl.1 rfl (Nat.le_of_ble_eq_true rfl) dX15_text_154) (fun H locs hW => ?_)
    obtain ⟨hk68, h⟩ := g_if h
    obtain ⟨q69, hq69, h⟩ := Option.bind_eq_some_iff.mp h
    refine h_callr hW (h_runV (As := []) (rest := []) C0 hW (hW.rf (h_ne hk68 (by decide))) (h_recv C0 hW (h_ne hk68 (by decide)) (h_c54 hk68) rfl) (c_l_J4_toString_0e30d hq69) cy_J4_toString_0e30d (by omega) tm_X15_48 ti_J4_toString_0e30d ts_J4_toString_0e30d rfl hl.1 rfl (Nat.le_of_ble_eq_true rfl) dX15_text_157) (fun H locs hW => ?_)
    obtain rfl := Option.some.inj h
    exact h_aretC C0 hW rfl rfl dX15_text_160
set_option maxRecDepth 100000 in
set_option maxHeartbeats 4000000 in
theorem c_l_X15_text {l : Launch} {G : GL} {o : Nat → Int32} {x : CS} {y : MS} {t : Nat} {q : Nat × MS} (h : f_l_X15_text t y = some q) : Met l yX15_text (.code yX15_text cX15_text 1 (Option.some (Jvm.ClassFile.FieldType.object "java/lang/String")) :: gT) (h_lv 45 y) (va_Pc [g_rf G (t)] (h_P G (x, y, o))) (h_Qr G y (.ref (g_sa G (q.1))) (x, q.2, o)) (h_nx q.2 - h_nx y) (h_sl q.2 - h_sl y) (g_A G) := by
  unfold f_l_X15_text at h
  refine h_entry (by decide) (by simp [lg_sl, g_catQ, h_ki, h_kr, h_kn, h_kl, h_kd]) (fun p e s m args below meth c ls C0 hl hW hin_ => ?_)
  have hl : lv_has ls 1 [(0, g_rf G (t))] := by simpa [lv_args, g_catQ, h_ki, h_kr, h_kn, h_kl, h_kd] using hl
  obtain ⟨hn1, h⟩ := g_if h
  refine hno_54 C0 hW hn1 tl_X15_36 dX15_text_0 (fun H hW => ?_)
  refine lv_dup C0.hx C0.hb dX15_text_3 g_catQ ?_
  obtain ⟨hk2, h⟩ := g_if h
  obtain ⟨q3, hq3, h⟩ := Option.bind_eq_some_iff.mp h
  refine h_callv hW (h_runI (As := []) (rest := [g_rf G (h_nx y)]) C0 hW (hW.rf (h_ne hk2 (by decide))) (c_l_J4_init_da8c8 hq3) cy_J4_init_da8c8 (by omega) tm_X15_38 ti_J4_init_da8c8 rfl rfl hl.1 rfl (by simp [g_catQ, h_ki, h_kr, h_kn, h_kl, h_kd]) dX15_text_4) (fun H locs hW => ?_)
  refine h_aload_n C0.hx C0.hb dX15_text_7 rfl (lv_at hl 0 rfl) ?_
  obtain ⟨hk4, h⟩ := g_if h
  refine hf_X15_0 C0 hW hk4 tf_X15_13 dX15_text_8 ?_
  refine lv_if_ne (tgt := 39) C0.hx C0.hb dX15_text_11 (by decide) (fun hc5 => ?_) (fun hc5 => ?_)
  · replace h := (if_neg hc5).symm.trans h
    refine h_aload_n C0.hx C0.hb dX15_text_39 rfl (lv_at hl 0 rfl) ?_
    refine hf_X15_0 C0 hW hk4 tf_X15_13 dX15_text_40 ?_
    refine lv_iconst (v := (1 : Int32)) C0.hx C0.hb dX15_text_43 (by decide) ?_
    refine lv_icmp_ne (tgt := 72) C0.hx C0.hb dX15_text_44 (by decide) (fun hc6 => ?_) (fun hc6 => ?_)
    · replace h := (if_neg hc6).symm.trans h
      obtain ⟨hn7, h⟩ := g_if h
      refine hno_54 C0 hW hn7 tl_X15_36 dX15_text_72 (fun H hW => ?_)
      refine lv_dup C0.hx C0.hb dX15_text_75 g_catQ ?_
      obtain ⟨hk8, h⟩ := g_if h
      obtain ⟨q9, hq9, h⟩ := Option.bind_eq_some_iff.mp h
      refine h_callv hW (h_runI (As := []) (rest := [g_rf G (h_nx q3), g_rf G (h_nx y)]) C0 hW (hW.rf (h_ne hk8 (by decide))) (c_l_J4_init_da8c8 hq9) cy_J4_init_da8c8 (by omega) tm_X15_38 ti_J4_init_da8c8 rfl rfl hl.1 rfl (by simp [g_catQ, h_ki, h_kr, h_kn, h_kl, h_kd]) dX15_text_76) (fun H locs hW => ?_)
      refine h_ldc C0 hW (n := 80) (List.mem_of_getElem? (i := 34) rfl) (by decide) dX15_text_79 ?_
      obtain ⟨hk10, h⟩ := g_if h
      obtain ⟨q11, hq11, h⟩ := Option.bind_eq_some_iff.mp h
      refine h_callr hW (h_runV (As := [.ref (g_sa G (80))]) (rest := [g_rf G (h_nx y)]) C0 hW (hW.rf (h_ne hk10 (by decide))) (h_recv C0 hW (h_ne hk10 (by decide)) (h_c54 hk10) rfl) (c_l_J4_append_15ec4 hq11) cy_J4_append_15ec4 (by omega) tm_X15_41 ti_J4_append_15ec4 ts_J4_append_15ec4 rfl hl.1 rfl (by simp [g_catQ, h_ki, h_kr, h_kn, h_kl, h_kd]) dX15_text_81) (fun H locs hW => ?_)
      refine h_aload_n C0.hx C0.hb dX15_text_84 rfl (lv_at hl 0 rfl) ?_
      obtain ⟨hk12, h⟩ := g_if h
      refine hf_X15_1 C0 hW hk12 tf_X15_19 dX15_text_85 ?_
      obtain ⟨hk13, h⟩ := g_if h
      obtain ⟨q14, hq14, h⟩ := Option.bind_eq_some_iff.mp h
      refine h_callr hW (h_runV (As := [.int (h_I q11.2 t 1)]) (rest := [g_rf G (h_nx y)]) C0 hW (hW.rf (h_ne hk13 (by decide))) (h_recv C0 hW (h_ne hk13 (by decide)) (h_c54 hk13) rfl) (c_l_J4_append_bf812 hq14) cy_J4_append_bf812 (by omega) tm_X15_45 ti_J4_append_bf812 ts_J4_append_bf812 rfl hl.1 rfl (by simp [g_catQ, h_ki, h_kr, h_kn, h_kl, h_kd]) dX15_text_88) (fun H locs hW => ?_)
      refine h_ldc C0 hW (n := 81) (List.mem_of_getElem? (i := 35) rfl) (by decide) dX15_text_91 ?_
      obtain ⟨hk15, h⟩ := g_if h
      obtain ⟨q16, hq16, h⟩ := Option.bind_eq_some_iff.mp h
      refine h_callr hW (h_runV (As := [.ref (g_sa G (81))]) (rest := [g_rf G (h_nx y)]) C0 hW (hW.rf (h_ne hk15 (by decide))) (h_recv C0 hW (h_ne hk15 (by decide)) (h_c54 hk15) rfl) (c_l_J4_append_15ec4 hq16) cy_J4_append_15ec4 (by omega) tm_X15_41 ti_J4_append_15ec4 ts_J4_append_15ec4 rfl hl.1 rfl (by simp [g_catQ, h_ki, h_kr, h_kn, h_kl, h_kd]) dX15_text_93) (fun H locs hW => ?_)
      refine h_aload_n C0.hx C0.hb dX15_text_96 rfl (lv_at hl 0 rfl) ?_
      obtain ⟨hk17, h⟩ := g_if h
      refine hf_X15_2 C0 hW hk17 tf_X15_28 dX15_text_97 ?_
      obtain ⟨hk18, h⟩ := g_if h
      obtain ⟨q19, hq19, h⟩ := Option.bind_eq_some_iff.mp h
      refine h_callr hW (h_runV (As := []) (rest := [g_rf G (q16.1), g_rf G (h_nx y)]) C0 hW (hW.rf (h_ne hk18 (by decide))) (h_recv C0 hW (h_ne hk18 (by decide)) (h_c51 hk18) rfl) (c_l_X14_text 6 _ _ _ hq19) cy_X14_text (by omega) tm_X15_58 ti_X14_text ts_X14_text rfl hl.1 rfl (by simp [g_catQ, h_ki, h_kr, h_kn, h_kl, h_kd]) dX15_text_100) (fun H locs hW => ?_)
      obtain ⟨hk20, h⟩ := g_if h
      obtain ⟨q21, hq21, h⟩ := Option.bind_eq_some_iff.mp h
      refine h_callr hW (h_runV (As := [.ref (g_sa G (q19.1))]) (rest := [g_rf G (h_nx y)]) C0 hW (hW.rf (h_ne hk20 (by decide))) (h_recv C0 hW (h_ne hk20 (by decide)) (h_c54 hk20) rfl) (c_l_J4_append_15ec4 hq21) cy_J4_append_15ec4 (by omega) tm_X15_41 ti_J4_append_15ec4 ts_J4_append_15ec4 rfl hl.1 rfl (by simp [g_catQ, h_ki, h_kr, h_kn, h_kl, h_kd]) dX15_text_103) (fun H locs hW => ?_)
      obtain ⟨hk22, h⟩ := g_if h
      obtain ⟨q23, hq23, h⟩ := Option.bind_eq_some_iff.mp h
      refine h_callr hW (h_runV (As := []) (rest := [g_rf G (h_nx y)]) C0 hW (hW.rf (h_ne hk22 (by decide))) (h_recv C0 hW (h_ne hk22 (by decide)) (h_c54 hk22) rfl) (c_l_J4_toString_0e30d hq23) cy_J4_toString_0e30d (by omega) tm_X15_48 ti_J4_toString_0e30d ts_J4_toString_0e30d rfl hl.1 rfl (by simp [g_catQ, h_ki, h_kr, h_kn, h_kl, h_kd]) dX15_text_106) (fun H locs hW => ?_)
      have hz := w_l_X15_text_109 (l := l) (e := e) (below := below) C0 _ _ _ _ _ _ _ h hW (lv_sub hl [0] rfl)
      exact hz
    · replace h := (if_pos hc6).symm.trans h
      obtain ⟨hn24, h⟩ := g_if h
      refine hno_54 C0 hW hn24 tl_X15_36 dX15_text_47 (fun H hW => ?_)
      refine lv_dup C0.hx C0.hb dX15_text_50 g_catQ ?_
      obtain ⟨hk25, h⟩ := g_if h
      obtain ⟨q26, hq26, h⟩ := Option.bind_eq_some_iff.mp h
      refine h_callv hW (h_runI (As := []) (rest := [g_rf G (h_nx q3), g_rf G (h_nx y)]) C0 hW (hW.rf (h_ne hk25 (by decide))) (c_l_J4_init_da8c8 hq26) cy_J4_init_da8c8 (by omega) tm_X15_38 ti_J4_init_da8c8 rfl rfl hl.1 rfl (by simp [g_catQ, h_ki, h_kr, h_kn, h_kl, h_kd]) dX15_text_51) (fun H locs hW => ?_)
      refine h_ldc C0 hW (n := 79) (List.mem_of_getElem? (i := 33) rfl) (by decide) dX15_text_54 ?_
      obtain ⟨hk27, h⟩ := g_if h
      obtain ⟨q28, hq28, h⟩ := Option.bind_eq_some_iff.mp h
      refine h_callr hW (h_runV (As := [.ref (g_sa G (79))]) (rest := [g_rf G (h_nx y)]) C0 hW (hW.rf (h_ne hk27 (by decide))) (h_recv C0 hW (h_ne hk27 (by decide)) (h_c54 hk27) rfl) (c_l_J4_append_15ec4 hq28) cy_J4_append_15ec4 (by omega) tm_X15_41 ti_J4_append_15ec4 ts_J4_append_15ec4 rfl hl.1 rfl (by simp [g_catQ, h_ki, h_kr, h_kn, h_kl, h_kd]) dX15_text_56) (fun H locs hW => ?_)
      refine h_aload_n C0.hx C0.hb dX15_text_59 rfl (lv_at hl 0 rfl) ?_
      obtain ⟨hk29, h⟩ := g_if h
      refine hf_X15_1 C0 hW hk29 tf_X15_19 dX15_text_60 ?_
      obtain ⟨hk30, h⟩ := g_if h
      obtain ⟨q31, hq31, h⟩ := Option.bind_eq_some_iff.mp h
      refine h_callr hW (h_runV (As := [.int (h_I q28.2 t 1)]) (rest := [g_rf G (h_nx y)]) C0 hW (hW.rf (h_ne hk30 (by decide))) (h_recv C0 hW (h_ne hk30 (by decide)) (h_c54 hk30) rfl) (c_l_J4_append_bf812 hq31) cy_J4_append_bf812 (by omega) tm_X15_45 ti_J4_append_bf812 ts_J4_append_bf812 rfl hl.1 rfl (by simp [g_catQ, h_ki, h_kr, h_kn, h_kl, h_kd]) dX15_text_63) (fun H locs hW => ?_)
      obtain ⟨hk32, h⟩ := g_if h
      obtain ⟨q33, hq33, h⟩ := Option.bind_eq_some_iff.mp h
      refine h_callr hW (h_runV (As := []) (rest := [g_rf G (h_nx y)]) C0 hW (hW.rf (h_ne hk32 (by decide))) (h_recv C0 hW (h_ne hk32 (by decide)) (h_c54 hk32) rfl) (c_l_J4_toString_0e30d hq33) cy_J4_toString_0e30d (by omega) tm_X15_48 ti_J4_toString_0e30d ts_J4_toString_0e30d rfl hl.1 rfl (by simp [g_catQ, h_ki, h_kr, h_kn, h_kl, h_kd]) dX15_text_66) (fun H locs hW => ?_)
      refine lv_goto (tgt := 109) C0.hx C0.hb dX15_text_69 (by decide) ?_
      have hz := w_l_X15_text_109 (l := l) (e := e) (below := below) C0 _ _ _ _ _ _ _ h hW (lv_sub hl [0] rfl)
      exact hz
  · replace h := (if_pos hc5).symm.trans h
    obtain ⟨hn34, h⟩ := g_if h
    refine hno_54 C0 hW hn34 tl_X15_36 dX15_text_14 (fun H hW => ?_)
    refine lv_dup C0.hx C0.hb dX15_text_17 g_catQ ?_
    obtain ⟨hk35, h⟩ := g_if h
    obtain ⟨q36, hq36, h⟩ := Option.bind_eq_some_iff.mp h
    refine h_callv hW (h_runI (As := []) (rest := [g_rf G (h_nx q3), g_rf G (h_nx y)]) C0 hW (hW.rf (h_ne hk35 (by decide))) (c_l_J4_init_da8c8 hq36) cy_J4_init_da8c8 (by omega) tm_X15_38 ti_J4_init_da8c8 rfl rfl hl.1 rfl (by simp [g_catQ, h_ki, h_kr, h_kn, h_kl, h_kd]) dX15_text_18) (fun H locs hW => ?_)
    refine h_ldc C0 hW (n := 78) (List.mem_of_getElem? (i := 32) rfl) (by decide) dX15_text_21 ?_
    obtain ⟨hk37, h⟩ := g_if h
    obtain ⟨q38, hq38, h⟩ := Option.bind_eq_some_iff.mp h
    refine h_callr hW (h_runV (As := [.ref (g_sa G (78))]) (rest := [g_rf G (h_nx y)]) C0 hW (hW.rf (h_ne hk37 (by decide))) (h_recv C0 hW (h_ne hk37 (by decide)) (h_c54 hk37) rfl) (c_l_J4_append_15ec4 hq38) cy_J4_append_15ec4 (by omega) tm_X15_41 ti_J4_append_15ec4 ts_J4_append_15ec4 rfl hl.1 rfl (by simp [g_catQ, h_ki, h_kr, h_kn, h_kl, h_kd]) dX15_text_23) (fun H locs hW => ?_)
    refine h_aload_n C0.hx C0.hb dX15_text_26 rfl (lv_at hl 0 rfl) ?_
    obtain ⟨hk39, h⟩ := g_if h
    refine hf_X15_1 C0 hW hk39 tf_X15_19 dX15_text_27 ?_
    obtain ⟨hk40, h⟩ := g_if h
    obtain ⟨q41, hq41, h⟩ := Option.bind_eq_some_iff.mp h
    refine h_callr hW (h_runV (As := [.int (h_I q38.2 t 1)]) (rest := [g_rf G (h_nx y)]) C0 hW (hW.rf (h_ne hk40 (by decide))) (h_recv C0 hW (h_ne hk40 (by decide)) (h_c54 hk40) rfl) (c_l_J4_append_bf812 hq41) cy_J4_append_bf812 (by omega) tm_X15_45 ti_J4_append_bf812 ts_J4_append_bf812 rfl hl.1 rfl (by simp [g_catQ, h_ki, h_kr, h_kn, h_kl, h_kd]) dX15_text_30) (fun H locs hW => ?_)
    obtain ⟨hk42, h⟩ := g_if h
    obtain ⟨q43, hq43, h⟩ := Option.bind_eq_some_iff.mp h
    refine h_callr hW (h_runV (As := []) (rest := [g_rf G (h_nx y)]) C0 hW (hW.rf (h_ne hk42 (by decide))) (h_recv C0 hW (h_ne hk42 (by decide)) (h_c54 hk42) rfl) (c_l_J4_toString_0e30d hq43) cy_J4_toString_0e30d (by omega) tm_X15_48 ti_J4_toString_0e30d ts_J4_toString_0e30d rfl hl.1 rfl (by simp [g_catQ, h_ki, h_kr, h_kn, h_kl, h_kd]) dX15_text_33) (fun H locs hW => ?_)
    refine lv_goto (tgt := 109) C0.hx C0.hb dX15_text_36 (by decide) ?_
    have hz := w_l_X15_text_109 (l := l) (e := e) (below := below) C0 _ _ _ _ _ _ _ h hW (lv_sub hl [0] rfl)
    exact hz
set_option maxRecDepth 100000 in
set_option maxHeartbeats 4000000 in
theorem w_l_X16_shifted_11 {p : Program} {l : Launch} {e : Env} {s : State} {m : MethodId} {args : Array Value} {below : List Frame} {meth : Method} {c : Code} {G : GL} {o : Nat → Int32} {y0 : MS} {x : CS} {q : Nat × MS}  (C0 : g_X G (List.range 120) p s m args meth c cX16_shifted 7 RX16 (Option.some (Jvm.ClassFile.FieldType.array Jvm.ClassFile.FieldType.int)))  : ∀ (n : Nat) (l1 : Int64) (l3 : Nat) (l4 : Int32) (y : MS) (H : Heap) (locs : List Loc) (ls : Array Slot), f_l_X16_shifted_11 n l1 l3 l4 y = some q → h_W G y0 (x, y, o) s.heap H locs → lv_has ls 7 [(1, .long (l1)), (3, g_rf G (l3)), (4, .int (l4))] → W p l e (h_lv 1 y0) s m args below meth c H locs (h_nx y - h_nx y0) (h_sl y - h_sl y0) (MQ below (h_Qr G y0 (g_rf G (q.1)) (x, q.2, o)) args s (h_nx q.2 - h_nx y0) (h_sl q.2 - h_sl y0) (g_A G)) (F0 m 11 ls []) := by
  intro n
  induction n with
  | zero =>
    intro l1 l3 l4 y H locs ls h hW hl
    exact absurd h (by simp [f_l_X16_shifted_11])
  | succ n ih =>
    intro l1 l3 l4 y H locs ls h hW hl
    unfold f_l_X16_shifted_11 at h
    refine lv_iload C0.hx C0.hb dX16_shifted_11 (lv_at hl 2 rfl) ?_
    refine h_aload_n C0.hx C0.hb dX16_shifted_13 rfl (lv_at hl 1 rfl) ?_
    obtain ⟨hk4, h⟩ := g_if h
    refine hl_60 C0 hW hk4 dX16_shifted_14 ?_
    refine lv_icmp_ge (tgt := 75) C0.hx C0.hb dX16_shifted_15 (by decide) (fun hc5 => ?_) (fun hc5 => ?_)
    · replace h := (if_pos hc5).symm.trans h
      refine h_aload_n C0.hx C0.hb dX16_shifted_75 rfl (lv_at hl 1 rfl) ?_
      obtain rfl := Option.some.inj h
      exact h_aretA C0 hW (hW.rf (h_ne hk4 (by decide))) rfl dX16_shifted_76
    · replace h := (if_neg hc5).symm.trans h
      refine h_aload_n C0.hx C0.hb dX16_shifted_18 rfl (lv_at hl 1 rfl) ?_
      refine lv_iload C0.hx C0.hb dX16_shifted_19 (lv_at hl 2 rfl) ?_
      obtain ⟨hn6, h⟩ := g_if h
      refine ha_60 C0 hW hk4 hn6 dX16_shifted_21 ?_
      refine lv_if_ne (tgt := 28) C0.hx C0.hb dX16_shifted_22 (by decide) (fun hc7 => ?_) (fun hc7 => ?_)
      · replace h := (if_neg hc7).symm.trans h
        refine h_aload_n C0.hx C0.hb dX16_shifted_28 rfl (lv_at hl 1 rfl) ?_
        refine lv_iload C0.hx C0.hb dX16_shifted_29 (lv_at hl 2 rfl) ?_
        obtain ⟨hn8, h⟩ := g_if h
        refine ha_60 C0 hW hk4 hn8 dX16_shifted_31 ?_
        refine lv_i2l C0.hx C0.hb dX16_shifted_32 rfl ?_
        refine lv_lload_n C0.hx C0.hb dX16_shifted_33 rfl (lv_at hl 0 rfl) ?_
        refine lv_ladd C0.hx C0.hb dX16_shifted_34 ?_
        refine lv_lstore (lv' := [(5, .long (((h_I y l3 l4.toNatClampNeg).toInt64) + l1)), (1, .long (l1)), (3, g_rf G (l3)), (4, .int (l4))]) C0.hx C0.hb dX16_shifted_35 hl (by decide) rfl (fun ls hl => ?_)
        refine h_aload_n C0.hx C0.hb dX16_shifted_37 rfl (lv_at hl 2 rfl) ?_
        refine lv_iload C0.hx C0.hb dX16_shifted_38 (lv_at hl 3 rfl) ?_
        refine lv_lload C0.hx C0.hb dX16_shifted_40 (lv_at hl 0 rfl) ?_
        refine lv_lconst (v := (1 : Int64)) C0.hx C0.hb dX16_shifted_42 (by decide) ?_
        refine W.lcmp C0.hx C0.hb dX16_shifted_43 ?_
        refine lv_if_ge (tgt := 51) C0.hx C0.hb dX16_shifted_44 (by decide) (fun hc9 => ?_) (fun hc9 => ?_)
        · replace h := (if_pos hc9).symm.trans h
          refine lv_lload C0.hx C0.hb dX16_shifted_51 (lv_at hl 0 rfl) ?_
          refine lv_ldc2 C0.hx C0.hb C0.hown (C0.hts _ tq_X16_77) dX16_shifted_53 ?_
          refine W.lcmp C0.hx C0.hb dX16_shifted_56 ?_
          refine lv_if_le (tgt := 65) C0.hx C0.hb dX16_shifted_57 (by decide) (fun hc10 => ?_) (fun hc10 => ?_)
          · replace h := (if_pos hc10).symm.trans h
            refine lv_lload C0.hx C0.hb dX16_shifted_65 (lv_at hl 0 rfl) ?_
            refine lv_l2i C0.hx C0.hb dX16_shifted_67 rfl ?_
            obtain ⟨hn11, h⟩ := g_if h
            refine hs_60 C0 hW hk4 hn11 dX16_shifted_68 (fun H locs hW => ?_)
            refine h_fwi hW ?_
            refine lv_iinc (v := l4 + (1 : Int32)) (lv' := [(4, .int (l4 + (1 : Int32))), (5, .long (((h_I y l3 l4.toNatClampNeg).toInt64) + l1)), (1, .long (l1)), (3, g_rf G (l3))]) C0.hx C0.hb dX16_shifted_69 hl (k := 3) rfl rfl (by decide) (by simp [g_catQ]) (fun ls hl => ?_)
            refine lv_goto (tgt := 11) C0.hx C0.hb dX16_shifted_72 (by decide) ?_
            have hz := ih _ _ _ _ _ _ _ h hW (lv_sub hl [2, 3, 0] rfl)
            exact hz
          · replace h := (if_neg hc10).symm.trans h
            refine lv_bipush (v := (40 : Int32)) C0.hx C0.hb dX16_shifted_60 (by decide) ?_
            refine lv_goto (tgt := 68) C0.hx C0.hb dX16_shifted_62 (by decide) ?_
            obtain ⟨hn12, h⟩ := g_if h
            refine hs_60 C0 hW hk4 hn12 dX16_shifted_68 (fun H locs hW => ?_)
            refine h_fwi hW ?_
            refine lv_iinc (v := l4 + (1 : Int32)) (lv' := [(4, .int (l4 + (1 : Int32))), (5, .long (((h_I y l3 l4.toNatClampNeg).toInt64) + l1)), (1, .long (l1)), (3, g_rf G (l3))]) C0.hx C0.hb dX16_shifted_69 hl (k := 3) rfl rfl (by decide) (by simp [g_catQ]) (fun ls hl => ?_)
            refine lv_goto (tgt := 11) C0.hx C0.hb dX16_shifted_72 (by decide) ?_
            have hz := ih _ _ _ _ _ _ _ h hW (lv_sub hl [2, 3, 0] rfl)
            exact hz
        · replace h := (if_neg hc9).symm.trans h
          refine lv_iconst (v := (1 : Int32)) C0.hx C0.hb dX16_shifted_47 (by decide) ?_
          refine lv_goto (tgt := 68) C0.hx C0.hb dX16_shifted_48 (by decide) ?_
          obtain ⟨hn13, h⟩ := g_if h
          refine hs_60 C0 hW hk4 hn13 dX16_shifted_68 (fun H locs hW => ?_)
          refine h_fwi hW ?_
          refine lv_iinc (v := l4 + (1 : Int32)) (lv' := [(4, .int (l4 + (1 : Int32))), (5, .long (((h_I y l3 l4.toNatClampNeg).toInt64) + l1)), (1, .long (l1)), (3, g_rf G (l3))]) C0.hx C0.hb dX16_shifted_69 hl (k := 3) rfl rfl (by decide) (by simp [g_catQ]) (fun ls hl => ?_)
          refine lv_goto (tgt := 11) C0.hx C0.hb dX16_shifted_72 (by decide) ?_
          have hz := ih _ _ _ _ _ _ _ h hW (lv_sub hl [2, 3, 0] rfl)
          exact hz
      · replace h := (if_pos hc7).symm.trans h
        refine lv_goto (tgt := 69) C0.hx C0.hb dX16_shifted_25 (by decide) ?_
        refine lv_iinc (v := l4 + (1 : Int32)) (lv' := [(4, .int (l4 + (1 : Int32))), (1, .long (l1)), (3, g_rf G (l3))]) C0.hx C0.hb dX16_shifted_69 hl (k := 2) rfl rfl (by decide) (by simp [g_catQ]) (fun ls hl => ?_)
        refine lv_goto (tgt := 11) C0.hx C0.hb dX16_shifted_72 (by decide) ?_
        have hz := ih _ _ _ _ _ _ _ h hW (lv_sub hl [1, 2, 0] rfl)
        exact hz
set_option maxRecDepth 100000 in
set_option maxHeartbeats 4000000 in
theorem c_l_X16_shifted {l : Launch} {G : GL} {o : Nat → Int32} {x : CS} {y : MS} {p1 : Nat} {p2 : Int64} {q : Nat × MS} (h : f_l_X16_shifted p1 p2 y = some q) : Met l yX16_shifted (.code yX16_shifted cX16_shifted 7 (Option.some (Jvm.ClassFile.FieldType.array Jvm.ClassFile.FieldType.int)) :: gT) (h_lv 1 y) (va_Pc [g_rf G (p1), .long (p2)] (h_P G (x, y, o))) (h_Qr G y (g_rf G (q.1)) (x, q.2, o)) (h_nx q.2 - h_nx y) (h_sl q.2 - h_sl y) (g_A G) := by
  unfold f_l_X16_shifted at h
  refine h_entry (by decide) (by simp [lg_sl, g_catQ, h_ki, h_kr, h_kn, h_kl, h_kd]) (fun p e s m args below meth c ls C0 hl hW hin_ => ?_)
  have hl : lv_has ls 7 [(0, g_rf G (p1)), (1, .long (p2))] := by simpa [lv_args, g_catQ, h_ki, h_kr, h_kn, h_kl, h_kd] using hl
  refine h_aload_n C0.hx C0.hb dX16_shifted_0 rfl (lv_at hl 0 rfl) ?_
  obtain ⟨hk1, h⟩ := g_if h
  obtain ⟨hn2, h⟩ := g_if h
  refine hcl_60 C0 hW hk1 hn2  (by show 1 ≤ 1; omega) (Nat.le_of_ble_eq_true rfl) hl.1 tm_X16_44 ti_java_lang_Object_clone ts_java_lang_Object_clone dX16_shifted_1 (fun H hW => ?_)
  obtain ⟨hk3, h⟩ := g_if h
  refine hca_60 C0 hW hk3 tl_X16_16 dX16_shifted_4 ?_
  refine h_astore_n (lv' := [(3, g_rf G (h_nx y)), (0, g_rf G (p1)), (1, .long (p2))]) C0.hx C0.hb dX16_shifted_7 rfl hl (by decide) rfl (fun ls hl => ?_)
  refine lv_iconst (v := (0 : Int32)) C0.hx C0.hb dX16_shifted_8 (by decide) ?_
  refine lv_istore (lv' := [(4, .int ((0 : Int32))), (3, g_rf G (h_nx y)), (0, g_rf G (p1)), (1, .long (p2))]) C0.hx C0.hb dX16_shifted_9 hl (by decide) (by simp [g_catQ]) (fun ls hl => ?_)
  have hz := w_l_X16_shifted_11 (l := l) (e := e) (below := below) C0 g_fuel _ _ _ _ _ _ _ h hW (lv_sub hl [3, 1, 0] rfl)
  exact hz
set_option maxRecDepth 100000 in
set_option maxHeartbeats 4000000 in
theorem w_l_X15_isDone_136 {p : Program} {l : Launch} {e : Env} {s : State} {m : MethodId} {args : Array Value} {below : List Frame} {meth : Method} {c : Code} {G : GL} {o : Nat → Int32} {y0 : MS} {x : CS} {q : Int32 × MS}  (C0 : g_X G (List.range 120) p s m args meth c cX15_isDone 5 RX15 (Option.some Jvm.ClassFile.FieldType.boolean))  : ∀  (l0 : Nat) (l1 : Nat) (s0 : Int32) (y : MS) (H : Heap) (locs : List Loc) (ls : Array Slot), f_l_X15_isDone_136 l0 l1 s0 y = some q → h_W G y0 (x, y, o) s.heap H locs → lv_has ls 5 [(0, g_rf G (l0)), (1, g_rf G (l1))] → W p l e (h_lv 45 y0) s m args below meth c H locs (h_nx y - h_nx y0) (h_sl y - h_sl y0) (MQ below (h_Qi G y0 q.1 (x, q.2, o)) args s (h_nx q.2 - h_nx y0) (h_sl q.2 - h_sl y0) (g_A G)) (F0 m 136 ls [.int (s0)]) := by
  intro l0 l1 s0 y H locs ls h hW hl
  unfold f_l_X15_isDone_136 at h
  refine lv_istore_n (i := 2) (lv' := [(2, .int (s0)), (0, g_rf G (l0)), (1, g_rf G (l1))]) C0.hx C0.hb dX15_isDone_136 rfl hl (by decide) (by simp [g_catQ]) (fun ls hl => ?_)
  refine h_aload_n C0.hx C0.hb dX15_isDone_137 rfl (lv_at hl 2 rfl) ?_
  obtain ⟨hk45, h⟩ := g_if h
  refine hf_X16_3 C0 hW hk45 tf_X15_79 dX15_isDone_138 ?_
  refine h_aload_n C0.hx C0.hb dX15_isDone_141 rfl (lv_at hl 1 rfl) ?_
  obtain ⟨hk46, h⟩ := g_if h
  refine hf_X15_1 C0 hW hk46 tf_X15_19 dX15_isDone_142 ?_
  refine h_aload_n C0.hx C0.hb dX15_isDone_145 rfl (lv_at hl 1 rfl) ?_
  refine hf_X15_0 C0 hW hk46 tf_X15_13 dX15_isDone_146 ?_
  refine lv_if_ne (tgt := 156) C0.hx C0.hb dX15_isDone_149 (by decide) (fun hc47 => ?_) (fun hc47 => ?_)
  · replace h := (if_neg hc47).symm.trans h
    refine lv_iconst (v := (0 : Int32)) C0.hx C0.hb dX15_isDone_156 (by decide) ?_
    obtain ⟨hk48, h⟩ := g_if h
    obtain ⟨hn49, h⟩ := g_if h
    refine hs_62 C0 hW hk48 hn49 dX15_isDone_157 (fun H locs hW => ?_)
    refine h_fwi hW ?_
    refine lv_iload_n C0.hx C0.hb dX15_isDone_158 rfl (lv_at hl 0 rfl) ?_
    obtain ⟨hb50, h⟩ := g_if h
    obtain rfl := Option.some.inj h
    exact h_iret C0 hW rfl (g_bool hb50).1 dX15_isDone_159
  · replace h := (if_pos hc47).symm.trans h
    refine lv_iconst (v := (1 : Int32)) C0.hx C0.hb dX15_isDone_152 (by decide) ?_
    refine lv_goto (tgt := 157) C0.hx C0.hb dX15_isDone_153 (by decide) ?_
    obtain ⟨hk51, h⟩ := g_if h
    obtain ⟨hn52, h⟩ := g_if h
    refine hs_62 C0 hW hk51 hn52 dX15_isDone_157 (fun H locs hW => ?_)
    refine h_fwi hW ?_
    refine lv_iload_n C0.hx C0.hb dX15_isDone_158 rfl (lv_at hl 0 rfl) ?_
    obtain ⟨hb53, h⟩ := g_if h
    obtain rfl := Option.some.inj h
    exact h_iret C0 hW rfl (g_bool hb53).1 dX15_isDone_159
set_option maxRecDepth 100000 in
set_option maxHeartbeats 4000000 in
theorem w_l_X15_isDone_128 {p : Program} {l : Launch} {e : Env} {s : State} {m : MethodId} {args : Array Value} {below : List Frame} {meth : Method} {c : Code} {G : GL} {o : Nat → Int32} {y0 : MS} {x : CS} {q : Int32 × MS}  (C0 : g_X G (List.range 120) p s m args meth c cX15_isDone 5 RX15 (Option.some Jvm.ClassFile.FieldType.boolean))  : ∀  (l0 : Nat) (l1 : Nat) (s0 : Int32) (s1 : Int32) (y : MS) (H : Heap) (locs : List Loc) (ls : Array Slot), f_l_X15_isDone_128 l0 l1 s0 s1 y = some q → h_W G y0 (x, y, o) s.heap H locs → lv_has ls 5 [(0, g_rf G (l0)), (1, g_rf G (l1))] → W p l e (h_lv 45 y0) s m args below meth c H locs (h_nx y - h_nx y0) (h_sl y - h_sl y0) (MQ below (h_Qi G y0 q.1 (x, q.2, o)) args s (h_nx q.2 - h_nx y0) (h_sl q.2 - h_sl y0) (g_A G)) (F0 m 128 ls [.int (s0), .int (s1)]) := by
  intro l0 l1 s0 s1 y H locs ls h hW hl
  unfold f_l_X15_isDone_128 at h
  refine lv_icmp_eq (tgt := 135) C0.hx C0.hb dX15_isDone_128 (by decide) (fun hc29 => ?_) (fun hc29 => ?_)
  · replace h := (if_pos hc29).symm.trans h
    refine lv_iconst (v := (0 : Int32)) C0.hx C0.hb dX15_isDone_135 (by decide) ?_
    have hz := w_l_X15_isDone_136 (l := l) (e := e) (below := below) C0 _ _ _ _ _ _ _ h hW (lv_sub hl [0, 1] rfl)
    exact hz
  · replace h := (if_neg hc29).symm.trans h
    refine lv_iconst (v := (1 : Int32)) C0.hx C0.hb dX15_isDone_131 (by decide) ?_
    refine lv_goto (tgt := 136) C0.hx C0.hb dX15_isDone_132 (by decide) ?_
    have hz := w_l_X15_isDone_136 (l := l) (e := e) (below := below) C0 _ _ _ _ _ _ _ h hW (lv_sub hl [0, 1] rfl)
    exact hz
set_option maxRecDepth 100000 in
set_option maxHeartbeats 4000000 in
theorem w_l_X15_isDone_55 {p : Program} {l : Launch} {e : Env} {s : State} {m : MethodId} {args : Array Value} {below : List Frame} {meth : Method} {c : Code} {G : GL} {o : Nat → Int32} {y0 : MS} {x : CS} {q : Int32 × MS}  (C0 : g_X G (List.range 120) p s m args meth c cX15_isDone 5 RX15 (Option.some Jvm.ClassFile.FieldType.boolean))  : ∀ (n : Nat) (l0 : Nat) (l1 : Nat) (l2 : Nat) (l3 : Int32) (l4 : Int32) (y : MS) (H : Heap) (locs : List Loc) (ls : Array Slot), f_l_X15_isDone_55 n l0 l1 l2 l3 l4 y = some q → h_W G y0 (x, y, o) s.heap H locs → lv_has ls 5 [(0, g_rf G (l0)), (1, g_rf G (l1)), (2, g_rf G (l2)), (3, .int (l3)), (4, .int (l4))] → W p l e (h_lv 45 y0) s m args below meth c H locs (h_nx y - h_nx y0) (h_sl y - h_sl y0) (MQ below (h_Qi G y0 q.1 (x, q.2, o)) args s (h_nx q.2 - h_nx y0) (h_sl q.2 - h_sl y0) (g_A G)) (F0 m 55 ls []) := by
  intro n
  induction n with
  | zero =>
    intro l0 l1 l2 l3 l4 y H locs ls h hW hl
    exact absurd h (by simp [f_l_X15_isDone_55])
  | succ n ih =>
    intro l0 l1 l2 l3 l4 y H locs ls h hW hl
    unfold f_l_X15_isDone_55 at h
    refine lv_iload C0.hx C0.hb dX15_isDone_55 (lv_at hl 4 rfl) ?_
    refine h_aload_n C0.hx C0.hb dX15_isDone_57 rfl (lv_at hl 2 rfl) ?_
    obtain ⟨hk30, h⟩ := g_if h
    refine hl_60 C0 hW hk30 dX15_isDone_58 ?_
    refine lv_icmp_ge (tgt := 95) C0.hx C0.hb dX15_isDone_59 (by decide) (fun hc31 => ?_) (fun hc31 => ?_)
    · replace h := (if_pos hc31).symm.trans h
      refine h_aload_n C0.hx C0.hb dX15_isDone_95 rfl (lv_at hl 1 rfl) ?_
      obtain ⟨hk32, h⟩ := g_if h
      refine hf_X16_2 C0 hW hk32 tf_X15_69 dX15_isDone_96 ?_
      refine h_aload_n C0.hx C0.hb dX15_isDone_99 rfl (lv_at hl 0 rfl) ?_
      obtain ⟨hk33, h⟩ := g_if h
      refine hf_X15_1 C0 hW hk33 tf_X15_19 dX15_isDone_100 ?_
      refine h_aload_n C0.hx C0.hb dX15_isDone_103 rfl (lv_at hl 2 rfl) ?_
      obtain ⟨hk34, h⟩ := g_if h
      obtain ⟨hn35, h⟩ := g_if h
      refine hs_63 C0 hW hk30 hk34 hn35 dX15_isDone_104 (fun H locs hW => ?_)
      refine h_fwr hW ?_
      refine lv_iload_n C0.hx C0.hb dX15_isDone_105 rfl (lv_at hl 3 rfl) ?_
      obtain ⟨hb36, h⟩ := g_if h
      obtain rfl := Option.some.inj h
      exact h_iret C0 hW rfl (g_bool hb36).1 dX15_isDone_106
    · replace h := (if_neg hc31).symm.trans h
      refine lv_iload_n C0.hx C0.hb dX15_isDone_62 rfl (lv_at hl 3 rfl) ?_
      refine h_aload_n C0.hx C0.hb dX15_isDone_63 rfl (lv_at hl 2 rfl) ?_
      refine lv_iload C0.hx C0.hb dX15_isDone_64 (lv_at hl 4 rfl) ?_
      obtain ⟨hn37, h⟩ := g_if h
      refine ha_60 C0 hW hk30 hn37 dX15_isDone_66 ?_
      refine h_aload_n C0.hx C0.hb dX15_isDone_67 rfl (lv_at hl 1 rfl) ?_
      obtain ⟨hk38, h⟩ := g_if h
      refine hf_X16_2 C0 hW hk38 tf_X15_69 dX15_isDone_68 ?_
      refine h_aload_n C0.hx C0.hb dX15_isDone_71 rfl (lv_at hl 0 rfl) ?_
      obtain ⟨hk39, h⟩ := g_if h
      refine hf_X15_1 C0 hW hk39 tf_X15_19 dX15_isDone_72 ?_
      obtain ⟨hk40, h⟩ := g_if h
      obtain ⟨hn41, h⟩ := g_if h
      refine ha_63 C0 hW hk40 hn41 dX15_isDone_75 ?_
      refine lv_iload C0.hx C0.hb dX15_isDone_76 (lv_at hl 4 rfl) ?_
      obtain ⟨hk42, h⟩ := g_if h
      obtain ⟨hn43, h⟩ := g_if h
      refine ha_60 C0 hW hk42 hn43 dX15_isDone_78 ?_
      refine lv_icmp_eq (tgt := 86) C0.hx C0.hb dX15_isDone_79 (by decide) (fun hc44 => ?_) (fun hc44 => ?_)
      · replace h := (if_pos hc44).symm.trans h
        refine lv_iconst (v := (0 : Int32)) C0.hx C0.hb dX15_isDone_86 (by decide) ?_
        refine lv_ior C0.hx C0.hb dX15_isDone_87 ?_
        refine lv_istore_n (i := 3) (lv' := [(3, .int (l3 ||| (0 : Int32))), (0, g_rf G (l0)), (1, g_rf G (l1)), (2, g_rf G (l2)), (4, .int (l4))]) C0.hx C0.hb dX15_isDone_88 rfl hl (by decide) (by simp [g_catQ]) (fun ls hl => ?_)
        refine lv_iinc (v := l4 + (1 : Int32)) (lv' := [(4, .int (l4 + (1 : Int32))), (3, .int (l3 ||| (0 : Int32))), (0, g_rf G (l0)), (1, g_rf G (l1)), (2, g_rf G (l2))]) C0.hx C0.hb dX15_isDone_89 hl (k := 4) rfl rfl (by decide) rfl (fun ls hl => ?_)
        refine lv_goto (tgt := 55) C0.hx C0.hb dX15_isDone_92 (by decide) ?_
        have hz := ih _ _ _ _ _ _ _ _ _ h hW (lv_sub hl [2, 3, 4, 1, 0] rfl)
        exact hz
      · replace h := (if_neg hc44).symm.trans h
        refine lv_iconst (v := (1 : Int32)) C0.hx C0.hb dX15_isDone_82 (by decide) ?_
        refine lv_goto (tgt := 87) C0.hx C0.hb dX15_isDone_83 (by decide) ?_
        refine lv_ior C0.hx C0.hb dX15_isDone_87 ?_
        refine lv_istore_n (i := 3) (lv' := [(3, .int (l3 ||| (1 : Int32))), (0, g_rf G (l0)), (1, g_rf G (l1)), (2, g_rf G (l2)), (4, .int (l4))]) C0.hx C0.hb dX15_isDone_88 rfl hl (by decide) (by simp [g_catQ]) (fun ls hl => ?_)
        refine lv_iinc (v := l4 + (1 : Int32)) (lv' := [(4, .int (l4 + (1 : Int32))), (3, .int (l3 ||| (1 : Int32))), (0, g_rf G (l0)), (1, g_rf G (l1)), (2, g_rf G (l2))]) C0.hx C0.hb dX15_isDone_89 hl (k := 4) rfl rfl (by decide) rfl (fun ls hl => ?_)
        refine lv_goto (tgt := 55) C0.hx C0.hb dX15_isDone_92 (by decide) ?_
        have hz := ih _ _ _ _ _ _ _ _ _ h hW (lv_sub hl [2, 3, 4, 1, 0] rfl)
        exact hz
set_option maxRecDepth 100000 in
set_option maxHeartbeats 4000000 in
theorem c_l_X15_isDone {l : Launch} {G : GL} {o : Nat → Int32} {x : CS} {y : MS} {t : Nat} {p1 : Nat} {q : Int32 × MS} (h : f_l_X15_isDone t p1 y = some q) : Met l yX15_isDone (.code yX15_isDone cX15_isDone 5 (Option.some Jvm.ClassFile.FieldType.boolean) :: gT) (h_lv 45 y) (va_Pc [g_rf G (t), g_rf G (p1)] (h_P G (x, y, o))) (h_Qi G y q.1 (x, q.2, o)) (h_nx q.2 - h_nx y) (h_sl q.2 - h_sl y) (g_A G) := by
  unfold f_l_X15_isDone at h
  refine h_entry (by decide) (by simp [lg_sl, g_catQ, h_ki, h_kr, h_kn, h_kl, h_kd]) (fun p e s m args below meth c ls C0 hl hW hin_ => ?_)
  have hl : lv_has ls 5 [(0, g_rf G (t)), (1, g_rf G (p1))] := by simpa [lv_args, g_catQ, h_ki, h_kr, h_kn, h_kl, h_kd] using hl
  refine h_aload_n C0.hx C0.hb dX15_isDone_0 rfl (lv_at hl 0 rfl) ?_
  obtain ⟨hk1, h⟩ := g_if h
  refine hf_X15_3 C0 hW hk1 tf_X15_34 dX15_isDone_1 ?_
  refine h_ifnull (tgt := 20) C0.hx C0.hb dX15_isDone_4 (by decide) (fun hc2 => ?_) (fun hc2 => ?_)
  · replace h := (if_pos hc2).symm.trans h
    refine h_aload_n C0.hx C0.hb dX15_isDone_20 rfl (lv_at hl 0 rfl) ?_
    refine hf_X15_0 C0 hW hk1 tf_X15_13 dX15_isDone_21 ?_
    refine lv_iconst (v := (2 : Int32)) C0.hx C0.hb dX15_isDone_24 (by decide) ?_
    refine lv_icmp_ne (tgt := 107) C0.hx C0.hb dX15_isDone_25 (by decide) (fun hc3 => ?_) (fun hc3 => ?_)
    · replace h := (if_neg hc3).symm.trans h
      refine h_aload_n C0.hx C0.hb dX15_isDone_107 rfl (lv_at hl 1 rfl) ?_
      obtain ⟨hk4, h⟩ := g_if h
      refine hf_X16_3 C0 hW hk4 tf_X15_79 dX15_isDone_108 ?_
      refine h_aload_n C0.hx C0.hb dX15_isDone_111 rfl (lv_at hl 0 rfl) ?_
      refine hf_X15_1 C0 hW hk1 tf_X15_19 dX15_isDone_112 ?_
      obtain ⟨hk5, h⟩ := g_if h
      obtain ⟨hn6, h⟩ := g_if h
      refine ha_62 C0 hW hk5 hn6 dX15_isDone_115 ?_
      refine h_aload_n C0.hx C0.hb dX15_isDone_116 rfl (lv_at hl 0 rfl) ?_
      refine hf_X15_0 C0 hW hk1 tf_X15_13 dX15_isDone_117 ?_
      refine lv_if_ne (tgt := 127) C0.hx C0.hb dX15_isDone_120 (by decide) (fun hc7 => ?_) (fun hc7 => ?_)
      · replace h := (if_neg hc7).symm.trans h
        refine lv_iconst (v := (0 : Int32)) C0.hx C0.hb dX15_isDone_127 (by decide) ?_
        have hz := w_l_X15_isDone_128 (l := l) (e := e) (below := below) C0 _ _ _ _ _ _ _ _ h hW (lv_sub hl [0, 1] rfl)
        exact hz
      · replace h := (if_pos hc7).symm.trans h
        refine lv_iconst (v := (1 : Int32)) C0.hx C0.hb dX15_isDone_123 (by decide) ?_
        refine lv_goto (tgt := 128) C0.hx C0.hb dX15_isDone_124 (by decide) ?_
        have hz := w_l_X15_isDone_128 (l := l) (e := e) (below := below) C0 _ _ _ _ _ _ _ _ h hW (lv_sub hl [0, 1] rfl)
        exact hz
    · replace h := (if_pos hc3).symm.trans h
      refine h_aload_n C0.hx C0.hb dX15_isDone_28 rfl (lv_at hl 1 rfl) ?_
      obtain ⟨hk8, h⟩ := g_if h
      refine hf_X16_2 C0 hW hk8 tf_X15_69 dX15_isDone_29 ?_
      refine h_aload_n C0.hx C0.hb dX15_isDone_32 rfl (lv_at hl 0 rfl) ?_
      refine hf_X15_1 C0 hW hk1 tf_X15_19 dX15_isDone_33 ?_
      obtain ⟨hk9, h⟩ := g_if h
      obtain ⟨hn10, h⟩ := g_if h
      refine ha_63 C0 hW hk9 hn10 dX15_isDone_36 ?_
      refine h_aload_n C0.hx C0.hb dX15_isDone_37 rfl (lv_at hl 0 rfl) ?_
      refine hf_X15_2 C0 hW hk1 tf_X15_28 dX15_isDone_38 ?_
      refine h_aload_n C0.hx C0.hb dX15_isDone_41 rfl (lv_at hl 1 rfl) ?_
      obtain ⟨hk11, h⟩ := g_if h
      obtain ⟨q12, hq12, h⟩ := Option.bind_eq_some_iff.mp h
      refine h_calli hW (h_runV (As := [g_rf G (p1)]) (rest := [g_rf G (h_R y (h_R y p1 2) (h_I y t 1).toNatClampNeg)]) C0 hW (hW.rf (h_ne hk11 (by decide))) (h_recv C0 hW (h_ne hk11 (by decide)) (h_c51 hk11) rfl) (c_l_X14_value 6 _ _ _ _ hq12) cy_X14_value (by omega) tm_X15_65 ti_X14_value ts_X14_value rfl hl.1 rfl (by simp [g_catQ, h_ki, h_kr, h_kn, h_kl, h_kd]) dX15_isDone_42) (fun H locs hW => ?_)
      refine lv_i2l C0.hx C0.hb dX15_isDone_45 rfl ?_
      obtain ⟨q13, hq13, h⟩ := Option.bind_eq_some_iff.mp h
      refine h_callr hW (h_runS (As := [g_rf G (h_R y (h_R y p1 2) (h_I y t 1).toNatClampNeg), .long (q12.1.toInt64)]) (rest := []) C0 hW (c_l_X16_shifted hq13) cy_X16_shifted (by omega) tm_X15_75 tz_X16_shifted rfl hl.1 rfl (Nat.le_of_ble_eq_true rfl) dX15_isDone_46) (fun H locs hW => ?_)
      refine h_astore_n (j := 2) (lv' := [(2, g_rf G (q13.1)), (0, g_rf G (t)), (1, g_rf G (p1))]) C0.hx C0.hb dX15_isDone_49 rfl hl (by decide) (by simp [g_catQ]) (fun ls hl => ?_)
      refine lv_iconst (v := (0 : Int32)) C0.hx C0.hb dX15_isDone_50 (by decide) ?_
      refine lv_istore_n (i := 3) (lv' := [(3, .int ((0 : Int32))), (2, g_rf G (q13.1)), (0, g_rf G (t)), (1, g_rf G (p1))]) C0.hx C0.hb dX15_isDone_51 rfl hl (by decide) (by simp [g_catQ]) (fun ls hl => ?_)
      refine lv_iconst (v := (0 : Int32)) C0.hx C0.hb dX15_isDone_52 (by decide) ?_
      refine lv_istore (lv' := [(4, .int ((0 : Int32))), (3, .int ((0 : Int32))), (2, g_rf G (q13.1)), (0, g_rf G (t)), (1, g_rf G (p1))]) C0.hx C0.hb dX15_isDone_53 hl (by decide) rfl (fun ls hl => ?_)
      have hz := w_l_X15_isDone_55 (l := l) (e := e) (below := below) C0 g_fuel _ _ _ _ _ _ _ _ _ h hW (lv_sub hl [3, 4, 2, 1, 0] rfl)
      exact hz
  · replace h := (if_neg hc2).symm.trans h
    refine h_aload_n C0.hx C0.hb dX15_isDone_7 rfl (lv_at hl 0 rfl) ?_
    refine hf_X15_3 C0 hW hk1 tf_X15_34 dX15_isDone_8 ?_
    refine h_aload_n C0.hx C0.hb dX15_isDone_11 rfl (lv_at hl 1 rfl) ?_
    obtain ⟨hk14, h⟩ := g_if h
    obtain ⟨q15, hq15, h⟩ := Option.bind_eq_some_iff.mp h
    refine h_calli hW (h_runV (As := [g_rf G (p1)]) (rest := []) C0 hW (hW.rf (h_ne hk14 (by decide))) (h_recv C0 hW (h_ne hk14 (by decide)) (h_c51 hk14) rfl) (c_l_X14_value 6 _ _ _ _ hq15) cy_X14_value (by omega) tm_X15_65 ti_X14_value ts_X14_value rfl hl.1 rfl (Nat.le_of_ble_eq_true rfl) dX15_isDone_12) (fun H locs hW => ?_)
    refine lv_if_ne (tgt := 20) C0.hx C0.hb dX15_isDone_15 (by decide) (fun hc16 => ?_) (fun hc16 => ?_)
    · replace h := (if_neg hc16).symm.trans h
      refine h_aload_n C0.hx C0.hb dX15_isDone_20 rfl (lv_at hl 0 rfl) ?_
      obtain ⟨hk17, h⟩ := g_if h
      refine hf_X15_0 C0 hW hk17 tf_X15_13 dX15_isDone_21 ?_
      refine lv_iconst (v := (2 : Int32)) C0.hx C0.hb dX15_isDone_24 (by decide) ?_
      refine lv_icmp_ne (tgt := 107) C0.hx C0.hb dX15_isDone_25 (by decide) (fun hc18 => ?_) (fun hc18 => ?_)
      · replace h := (if_neg hc18).symm.trans h
        refine h_aload_n C0.hx C0.hb dX15_isDone_107 rfl (lv_at hl 1 rfl) ?_
        obtain ⟨hk19, h⟩ := g_if h
        refine hf_X16_3 C0 hW hk19 tf_X15_79 dX15_isDone_108 ?_
        refine h_aload_n C0.hx C0.hb dX15_isDone_111 rfl (lv_at hl 0 rfl) ?_
        refine hf_X15_1 C0 hW hk17 tf_X15_19 dX15_isDone_112 ?_
        obtain ⟨hk20, h⟩ := g_if h
        obtain ⟨hn21, h⟩ := g_if h
        refine ha_62 C0 hW hk20 hn21 dX15_isDone_115 ?_
        refine h_aload_n C0.hx C0.hb dX15_isDone_116 rfl (lv_at hl 0 rfl) ?_
        refine hf_X15_0 C0 hW hk17 tf_X15_13 dX15_isDone_117 ?_
        refine lv_if_ne (tgt := 127) C0.hx C0.hb dX15_isDone_120 (by decide) (fun hc22 => ?_) (fun hc22 => ?_)
        · replace h := (if_neg hc22).symm.trans h
          refine lv_iconst (v := (0 : Int32)) C0.hx C0.hb dX15_isDone_127 (by decide) ?_
          have hz := w_l_X15_isDone_128 (l := l) (e := e) (below := below) C0 _ _ _ _ _ _ _ _ h hW (lv_sub hl [0, 1] rfl)
          exact hz
        · replace h := (if_pos hc22).symm.trans h
          refine lv_iconst (v := (1 : Int32)) C0.hx C0.hb dX15_isDone_123 (by decide) ?_
          refine lv_goto (tgt := 128) C0.hx C0.hb dX15_isDone_124 (by decide) ?_
          have hz := w_l_X15_isDone_128 (l := l) (e := e) (below := below) C0 _ _ _ _ _ _ _ _ h hW (lv_sub hl [0, 1] rfl)
          exact hz
      · replace h := (if_pos hc18).symm.trans h
        refine h_aload_n C0.hx C0.hb dX15_isDone_28 rfl (lv_at hl 1 rfl) ?_
        obtain ⟨hk23, h⟩ := g_if h
        refine hf_X16_2 C0 hW hk23 tf_X15_69 dX15_isDone_29 ?_
        refine h_aload_n C0.hx C0.hb dX15_isDone_32 rfl (lv_at hl 0 rfl) ?_
        refine hf_X15_1 C0 hW hk17 tf_X15_19 dX15_isDone_33 ?_
        obtain ⟨hk24, h⟩ := g_if h
        obtain ⟨hn25, h⟩ := g_if h
        refine ha_63 C0 hW hk24 hn25 dX15_isDone_36 ?_
        refine h_aload_n C0.hx C0.hb dX15_isDone_37 rfl (lv_at hl 0 rfl) ?_
        refine hf_X15_2 C0 hW hk17 tf_X15_28 dX15_isDone_38 ?_
        refine h_aload_n C0.hx C0.hb dX15_isDone_41 rfl (lv_at hl 1 rfl) ?_
        obtain ⟨hk26, h⟩ := g_if h
        obtain ⟨q27, hq27, h⟩ := Option.bind_eq_some_iff.mp h
        refine h_calli hW (h_runV (As := [g_rf G (p1)]) (rest := [g_rf G (h_R q15.2 (h_R q15.2 p1 2) (h_I q15.2 t 1).toNatClampNeg)]) C0 hW (hW.rf (h_ne hk26 (by decide))) (h_recv C0 hW (h_ne hk26 (by decide)) (h_c51 hk26) rfl) (c_l_X14_value 6 _ _ _ _ hq27) cy_X14_value (by omega) tm_X15_65 ti_X14_value ts_X14_value rfl hl.1 rfl (by simp [g_catQ, h_ki, h_kr, h_kn, h_kl, h_kd]) dX15_isDone_42) (fun H locs hW => ?_)
        refine lv_i2l C0.hx C0.hb dX15_isDone_45 rfl ?_
        obtain ⟨q28, hq28, h⟩ := Option.bind_eq_some_iff.mp h
        refine h_callr hW (h_runS (As := [g_rf G (h_R q15.2 (h_R q15.2 p1 2) (h_I q15.2 t 1).toNatClampNeg), .long (q27.1.toInt64)]) (rest := []) C0 hW (c_l_X16_shifted hq28) cy_X16_shifted (by omega) tm_X15_75 tz_X16_shifted rfl hl.1 rfl (Nat.le_of_ble_eq_true rfl) dX15_isDone_46) (fun H locs hW => ?_)
        refine h_astore_n (j := 2) (lv' := [(2, g_rf G (q28.1)), (0, g_rf G (t)), (1, g_rf G (p1))]) C0.hx C0.hb dX15_isDone_49 rfl hl (by decide) (by simp [g_catQ]) (fun ls hl => ?_)
        refine lv_iconst (v := (0 : Int32)) C0.hx C0.hb dX15_isDone_50 (by decide) ?_
        refine lv_istore_n (i := 3) (lv' := [(3, .int ((0 : Int32))), (2, g_rf G (q28.1)), (0, g_rf G (t)), (1, g_rf G (p1))]) C0.hx C0.hb dX15_isDone_51 rfl hl (by decide) (by simp [g_catQ]) (fun ls hl => ?_)
        refine lv_iconst (v := (0 : Int32)) C0.hx C0.hb dX15_isDone_52 (by decide) ?_
        refine lv_istore (lv' := [(4, .int ((0 : Int32))), (3, .int ((0 : Int32))), (2, g_rf G (q28.1)), (0, g_rf G (t)), (1, g_rf G (p1))]) C0.hx C0.hb dX15_isDone_53 hl (by decide) rfl (fun ls hl => ?_)
        have hz := w_l_X15_isDone_55 (l := l) (e := e) (below := below) C0 g_fuel _ _ _ _ _ _ _ _ _ h hW (lv_sub hl [3, 4, 2, 1, 0] rfl)
        exact hz
    · replace h := (if_pos hc16).symm.trans h
      refine lv_iconst (v := (0 : Int32)) C0.hx C0.hb dX15_isDone_18 (by decide) ?_
      obtain rfl := Option.some.inj h
      exact h_iret C0 hW rfl (g_bool (Or.inl rfl)).1 dX15_isDone_19
