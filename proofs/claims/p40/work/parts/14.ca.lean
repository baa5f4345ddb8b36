set_option maxRecDepth 100000 in
set_option maxHeartbeats 4000000 in
theorem c_X9_word {l : Launch} {G : GL} {ids : List Nat} {y : MS} {o : Nat → Int32} {x : CS} {t : Nat} {p1 : Int32} {q : Nat}   (hk_t : kd t = 9) (h : f_X9_word t p1 x = some q) : Met l yX9_word (.code yX9_word cX9_word 2 (Option.some (Jvm.ClassFile.FieldType.object "GlideWhistles$Word")) :: gT) (g_rm 0 0 0) (va_Pc [.ref (g_ad G (t)), .int (p1)] (g_P G ids (x, y, o))) (g_Qr G ids (g_ad G q) (x, y, o)) 0 0 (g_A G) := by
  unfold f_X9_word at h
  refine g_entry (by decide) (Nat.le_of_ble_eq_true rfl) (fun p e s m args below meth c ls C0 hl hW _ => ?_)
  have hl : lv_has ls 2 [(0, .ref (g_ad G (t))), (1, .int (p1))] := hl
  refine lv_iload_n C0.hx C0.hb dX9_word_0 rfl (lv_at hl 1 rfl) ?_
  refine lv_if_lt (tgt := 22) C0.hx C0.hb dX9_word_1 (by decide) (fun hc1 => ?_) (fun hc1 => ?_)
  · replace h := (if_pos hc1).symm.trans h
    refine lv_aload_n C0.hx C0.hb dX9_word_22 rfl (lv_at hl 0 rfl) ?_
    refine gf_X9_1 C0 hW (C0.mem (kl9 hk_t)) hk_t tf_X9_18 dX9_word_23 ?_
    obtain rfl := Option.some.inj h
    exact g_aret C0 hW rfl rfl dX9_word_26
  · replace h := (if_neg hc1).symm.trans h
    refine lv_iload_n C0.hx C0.hb dX9_word_4 rfl (lv_at hl 1 rfl) ?_
    refine lv_aload_n C0.hx C0.hb dX9_word_5 rfl (lv_at hl 0 rfl) ?_
    refine gf_X9_0 C0 hW (C0.mem (kl9 hk_t)) hk_t tf_X9_11 dX9_word_6 ?_
    refine gl_28 C0 hW (C0.mem (kl28 (ko9_0 hk_t))) (ko9_0 hk_t) dX9_word_9 ?_
    refine lv_icmp_ge (tgt := 22) C0.hx C0.hb dX9_word_10 (by decide) (fun hc2 => ?_) (fun hc2 => ?_)
    · replace h := (if_pos hc2).symm.trans h
      refine lv_aload_n C0.hx C0.hb dX9_word_22 rfl (lv_at hl 0 rfl) ?_
      refine gf_X9_1 C0 hW (C0.mem (kl9 hk_t)) hk_t tf_X9_18 dX9_word_23 ?_
      obtain rfl := Option.some.inj h
      exact g_aret C0 hW rfl rfl dX9_word_26
    · replace h := (if_neg hc2).symm.trans h
      refine lv_aload_n C0.hx C0.hb dX9_word_13 rfl (lv_at hl 0 rfl) ?_
      refine gf_X9_0 C0 hW (C0.mem (kl9 hk_t)) hk_t tf_X9_11 dX9_word_14 ?_
      refine lv_iload_n C0.hx C0.hb dX9_word_17 rfl (lv_at hl 1 rfl) ?_
      obtain ⟨hb3, h⟩ := g_if h
      refine ga_28 C0 hW (C0.mem (kl28 (ko9_0 hk_t))) (ko9_0 hk_t) hb3 dX9_word_18 ?_
      refine lv_goto (tgt := 26) C0.hx C0.hb dX9_word_19 (by decide) ?_
      obtain rfl := Option.some.inj h
      exact g_aret C0 hW rfl rfl dX9_word_26
set_option maxRecDepth 100000 in
set_option maxHeartbeats 4000000 in
theorem w_X9_closestKept_4 {p : Program} {l : Launch} {e : Env} {s : State} {m : MethodId} {args : Array Value} {below : List Frame} {meth : Method} {c : Code} {G : GL} {ids : List Nat} {y : MS} {o : Nat → Int32} {x : CS} {q : Int32}   (C0 : g_X G ids p s m args meth c cX9_closestKept 4 RX9 (Option.some Jvm.ClassFile.FieldType.int))  : ∀ (n : Nat) (l0 : Nat) (l1 : Int32) (l2 : Int32) (l3 : Int32)  (H : Heap) (locs : List Loc) (ls : Array Slot), kd l0 = 9 → f_X9_closestKept_4 x n l0 l1 l2 l3 = some q → g_W G ids (x, y, o) s.heap H locs → lv_has ls 4 [(0, .ref (g_ad G (l0))), (1, .int (l1)), (2, .int (l2)), (3, .int (l3))] → W p l e (g_rm 1 0 0) s m args below meth c H locs 0 0 (MQ below (g_Qi G ids q (x, y, o)) args s 0 0 (g_A G)) (F0 m 4 ls []) := by
  intro n
  induction n with
  | zero =>
    intro l0 l1 l2 l3 H locs ls hk_l0 h hW hl
    exact absurd h (by simp [f_X9_closestKept_4])
  | succ n ih =>
    intro l0 l1 l2 l3 H locs ls hk_l0 h hW hl
    unfold f_X9_closestKept_4 at h
    refine lv_iload_n C0.hx C0.hb dX9_closestKept_4 rfl (lv_at hl 3 rfl) ?_
    refine lv_aload_n C0.hx C0.hb dX9_closestKept_5 rfl (lv_at hl 0 rfl) ?_
    refine gf_X9_2 C0 hW (C0.mem (kl9 hk_l0)) hk_l0 tf_X9_22 dX9_closestKept_6 ?_
    refine lv_icmp_ge (tgt := 60) C0.hx C0.hb dX9_closestKept_9 (by decide) (fun hc1 => ?_) (fun hc1 => ?_)
    · replace h := (if_pos hc1).symm.trans h
      refine lv_iload_n C0.hx C0.hb dX9_closestKept_60 rfl (lv_at hl 2 rfl) ?_
      obtain rfl := Option.some.inj h
      exact g_iret C0 hW rfl rfl rfl dX9_closestKept_61
    · replace h := (if_neg hc1).symm.trans h
      refine lv_iload_n C0.hx C0.hb dX9_closestKept_12 rfl (lv_at hl 3 rfl) ?_
      refine lv_iload_n C0.hx C0.hb dX9_closestKept_13 rfl (lv_at hl 1 rfl) ?_
      refine lv_icmp_eq (tgt := 54) C0.hx C0.hb dX9_closestKept_14 (by decide) (fun hc2 => ?_) (fun hc2 => ?_)
      · replace h := (if_pos hc2).symm.trans h
        refine lv_iinc (v := l3 + (1 : Int32)) (lv' := [(3, .int (l3 + (1 : Int32))), (0, .ref (g_ad G (l0))), (1, .int (l1)), (2, .int (l2))]) C0.hx C0.hb dX9_closestKept_54 hl (k := 3) rfl rfl (by decide) rfl (fun ls hl => ?_)
        refine lv_goto (tgt := 4) C0.hx C0.hb dX9_closestKept_57 (by decide) ?_
        exact ih _ _ _ _ _ _ _ hk_l0 h hW (lv_sub hl [1, 2, 3, 0] rfl)
      · replace h := (if_neg hc2).symm.trans h
        refine lv_aload_n C0.hx C0.hb dX9_closestKept_17 rfl (lv_at hl 0 rfl) ?_
        refine lv_iload_n C0.hx C0.hb dX9_closestKept_18 rfl (lv_at hl 3 rfl) ?_
        obtain ⟨q3, hq3, h⟩ := Option.bind_eq_some_iff.mp h
        obtain ⟨hk4, h⟩ := g_if h
        refine g_callr hW (g_runV (As := [.int (l3)]) (rest := []) C0 hW (c_X9_word hk_l0 hq3) (g_cwOf (n := 1) tc_X9_word tn_X9 md_X9_word (by decide) (by omega)) tm_X9_32 ti_X9_word ts_X9_word (C0.mem (kl9 hk_l0)) (g_c9 hk_l0) rfl rfl hl.1 rfl (Nat.le_of_ble_eq_true rfl) dX9_closestKept_19) (fun H locs hW => ?_)
        refine gfN_X11_1 C0 hW (C0.mem (kl10 hk4)) hk4 tfN_X9_45 dX9_closestKept_22 ?_
        refine lv_if_ne (tgt := 54) C0.hx C0.hb dX9_closestKept_25 (by decide) (fun hc5 => ?_) (fun hc5 => ?_)
        · replace h := (if_neg hc5).symm.trans h
          refine lv_iinc (v := l3 + (1 : Int32)) (lv' := [(3, .int (l3 + (1 : Int32))), (0, .ref (g_ad G (l0))), (1, .int (l1)), (2, .int (l2))]) C0.hx C0.hb dX9_closestKept_54 hl (k := 3) rfl rfl (by decide) rfl (fun ls hl => ?_)
          refine lv_goto (tgt := 4) C0.hx C0.hb dX9_closestKept_57 (by decide) ?_
          exact ih _ _ _ _ _ _ _ hk_l0 h hW (lv_sub hl [1, 2, 3, 0] rfl)
        · replace h := (if_pos hc5).symm.trans h
          refine lv_iload_n C0.hx C0.hb dX9_closestKept_28 rfl (lv_at hl 2 rfl) ?_
          refine lv_iconst (v := (-1 : Int32)) C0.hx C0.hb dX9_closestKept_29 (by decide) ?_
          refine lv_icmp_eq (tgt := 52) C0.hx C0.hb dX9_closestKept_30 (by decide) (fun hc6 => ?_) (fun hc6 => ?_)
          · replace h := (if_pos hc6).symm.trans h
            refine lv_iload_n C0.hx C0.hb dX9_closestKept_52 rfl (lv_at hl 3 rfl) ?_
            refine lv_istore_n (lv' := [(2, .int (l3)), (0, .ref (g_ad G (l0))), (1, .int (l1)), (3, .int (l3))]) C0.hx C0.hb dX9_closestKept_53 rfl hl (by decide) rfl (fun ls hl => ?_)
            refine lv_iinc (v := l3 + (1 : Int32)) (lv' := [(3, .int (l3 + (1 : Int32))), (2, .int (l3)), (0, .ref (g_ad G (l0))), (1, .int (l1))]) C0.hx C0.hb dX9_closestKept_54 hl (k := 3) rfl rfl (by decide) rfl (fun ls hl => ?_)
            refine lv_goto (tgt := 4) C0.hx C0.hb dX9_closestKept_57 (by decide) ?_
            exact ih _ _ _ _ _ _ _ hk_l0 h hW (lv_sub hl [2, 3, 1, 0] rfl)
          · replace h := (if_neg hc6).symm.trans h
            refine lv_aload_n C0.hx C0.hb dX9_closestKept_33 rfl (lv_at hl 0 rfl) ?_
            refine lv_iload_n C0.hx C0.hb dX9_closestKept_34 rfl (lv_at hl 3 rfl) ?_
            obtain ⟨q7, hq7, h⟩ := Option.bind_eq_some_iff.mp h
            obtain ⟨hk8, h⟩ := g_if h
            refine g_callr hW (g_runV (As := [.int (l3)]) (rest := []) C0 hW (c_X9_word hk_l0 hq7) (g_cwOf (n := 1) tc_X9_word tn_X9 md_X9_word (by decide) (by omega)) tm_X9_32 ti_X9_word ts_X9_word (C0.mem (kl9 hk_l0)) (g_c9 hk_l0) rfl rfl hl.1 rfl (Nat.le_of_ble_eq_true rfl) dX9_closestKept_35) (fun H locs hW => ?_)
            refine gfN_X11_2 C0 hW (C0.mem (kl10 hk8)) hk8 tfN_X9_49 dX9_closestKept_38 ?_
            refine lv_aload_n C0.hx C0.hb dX9_closestKept_41 rfl (lv_at hl 0 rfl) ?_
            refine lv_iload_n C0.hx C0.hb dX9_closestKept_42 rfl (lv_at hl 2 rfl) ?_
            obtain ⟨q9, hq9, h⟩ := Option.bind_eq_some_iff.mp h
            obtain ⟨hk10, h⟩ := g_if h
            refine g_callr hW (g_runV (As := [.int (l2)]) (rest := [.int (x.1 q7 2)]) C0 hW (c_X9_word hk_l0 hq9) (g_cwOf (n := 1) tc_X9_word tn_X9 md_X9_word (by decide) (by omega)) tm_X9_32 ti_X9_word ts_X9_word (C0.mem (kl9 hk_l0)) (g_c9 hk_l0) rfl rfl hl.1 rfl (Nat.le_of_ble_eq_true rfl) dX9_closestKept_43) (fun H locs hW => ?_)
            refine gfN_X11_2 C0 hW (C0.mem (kl10 hk10)) hk10 tfN_X9_49 dX9_closestKept_46 ?_
            refine lv_icmp_ge (tgt := 54) C0.hx C0.hb dX9_closestKept_49 (by decide) (fun hc11 => ?_) (fun hc11 => ?_)
            · replace h := (if_pos hc11).symm.trans h
              refine lv_iinc (v := l3 + (1 : Int32)) (lv' := [(3, .int (l3 + (1 : Int32))), (0, .ref (g_ad G (l0))), (1, .int (l1)), (2, .int (l2))]) C0.hx C0.hb dX9_closestKept_54 hl (k := 3) rfl rfl (by decide) rfl (fun ls hl => ?_)
              refine lv_goto (tgt := 4) C0.hx C0.hb dX9_closestKept_57 (by decide) ?_
              exact ih _ _ _ _ _ _ _ hk_l0 h hW (lv_sub hl [1, 2, 3, 0] rfl)
            · replace h := (if_neg hc11).symm.trans h
              refine lv_iload_n C0.hx C0.hb dX9_closestKept_52 rfl (lv_at hl 3 rfl) ?_
              refine lv_istore_n (lv' := [(2, .int (l3)), (0, .ref (g_ad G (l0))), (1, .int (l1)), (3, .int (l3))]) C0.hx C0.hb dX9_closestKept_53 rfl hl (by decide) rfl (fun ls hl => ?_)
              refine lv_iinc (v := l3 + (1 : Int32)) (lv' := [(3, .int (l3 + (1 : Int32))), (2, .int (l3)), (0, .ref (g_ad G (l0))), (1, .int (l1))]) C0.hx C0.hb dX9_closestKept_54 hl (k := 3) rfl rfl (by decide) rfl (fun ls hl => ?_)
              refine lv_goto (tgt := 4) C0.hx C0.hb dX9_closestKept_57 (by decide) ?_
              exact ih _ _ _ _ _ _ _ hk_l0 h hW (lv_sub hl [2, 3, 1, 0] rfl)
set_option maxRecDepth 100000 in
set_option maxHeartbeats 4000000 in
theorem c_X9_closestKept {l : Launch} {G : GL} {ids : List Nat} {y : MS} {o : Nat → Int32} {x : CS} {t : Nat} {p1 : Int32} {q : Int32}   (hk_t : kd t = 9) (h : f_X9_closestKept t p1 x = some q) : Met l yX9_closestKept (.code yX9_closestKept cX9_closestKept 4 (Option.some Jvm.ClassFile.FieldType.int) :: gT) (g_rm 1 0 0) (va_Pc [.ref (g_ad G (t)), .int (p1)] (g_P G ids (x, y, o))) (g_Qi G ids q (x, y, o)) 0 0 (g_A G) := by
  unfold f_X9_closestKept at h
  refine g_entry (by decide) (Nat.le_of_ble_eq_true rfl) (fun p e s m args below meth c ls C0 hl hW _ => ?_)
  have hl : lv_has ls 4 [(0, .ref (g_ad G (t))), (1, .int (p1))] := hl
  refine lv_iconst (v := (-1 : Int32)) C0.hx C0.hb dX9_closestKept_0 (by decide) ?_
  refine lv_istore_n (lv' := [(2, .int ((-1 : Int32))), (0, .ref (g_ad G (t))), (1, .int (p1))]) C0.hx C0.hb dX9_closestKept_1 rfl hl (by decide) rfl (fun ls hl => ?_)
  refine lv_iconst (v := (0 : Int32)) C0.hx C0.hb dX9_closestKept_2 (by decide) ?_
  refine lv_istore_n (lv' := [(3, .int ((0 : Int32))), (2, .int ((-1 : Int32))), (0, .ref (g_ad G (t))), (1, .int (p1))]) C0.hx C0.hb dX9_closestKept_3 rfl hl (by decide) rfl (fun ls hl => ?_)
  exact w_X9_closestKept_4 C0 g_fuel _ _ _ _ _ _ _ hk_t h hW (lv_sub hl [2, 3, 1, 0] rfl)
set_option maxRecDepth 100000 in
set_option maxHeartbeats 4000000 in
theorem c_X3_pitch {l : Launch} {G : GL} {ids : List Nat} {y : MS} {o : Nat → Int32} {x : CS} {t : Nat} {p1 : Int32} {q : Int32}   (hk_t : kd t = 5) (h : f_X3_pitch t p1 x = some q) : Met l yX3_pitch (.code yX3_pitch cX3_pitch 2 (Option.some Jvm.ClassFile.FieldType.int) :: gT) (g_rm 0 0 0) (va_Pc [.ref (g_ad G (t)), .int (p1)] (g_P G ids (x, y, o))) (g_Qi G ids q (x, y, o)) 0 0 (g_A G) := by
  unfold f_X3_pitch at h
  refine g_entry (by decide) (Nat.le_of_ble_eq_true rfl) (fun p e s m args below meth c ls C0 hl hW _ => ?_)
  have hl : lv_has ls 2 [(0, .ref (g_ad G (t))), (1, .int (p1))] := hl
  refine lv_iload_n C0.hx C0.hb dX3_pitch_0 rfl (lv_at hl 1 rfl) ?_
  refine lv_if_lt (tgt := 22) C0.hx C0.hb dX3_pitch_1 (by decide) (fun hc1 => ?_) (fun hc1 => ?_)
  · replace h := (if_pos hc1).symm.trans h
    refine lv_iconst (v := (0 : Int32)) C0.hx C0.hb dX3_pitch_22 (by decide) ?_
    obtain rfl := Option.some.inj h
    exact g_iret C0 hW rfl rfl rfl dX3_pitch_23
  · replace h := (if_neg hc1).symm.trans h
    refine lv_iload_n C0.hx C0.hb dX3_pitch_4 rfl (lv_at hl 1 rfl) ?_
    refine lv_aload_n C0.hx C0.hb dX3_pitch_5 rfl (lv_at hl 0 rfl) ?_
    refine gf_X3_0 C0 hW (C0.mem (kl5 hk_t)) hk_t tf_X3_9 dX3_pitch_6 ?_
    refine gl_24 C0 hW (C0.mem (kl24 (ko5_0 hk_t))) (ko5_0 hk_t) dX3_pitch_9 ?_
    refine lv_icmp_ge (tgt := 22) C0.hx C0.hb dX3_pitch_10 (by decide) (fun hc2 => ?_) (fun hc2 => ?_)
    · replace h := (if_pos hc2).symm.trans h
      refine lv_iconst (v := (0 : Int32)) C0.hx C0.hb dX3_pitch_22 (by decide) ?_
      obtain rfl := Option.some.inj h
      exact g_iret C0 hW rfl rfl rfl dX3_pitch_23
    · replace h := (if_neg hc2).symm.trans h
      refine lv_aload_n C0.hx C0.hb dX3_pitch_13 rfl (lv_at hl 0 rfl) ?_
      refine gf_X3_0 C0 hW (C0.mem (kl5 hk_t)) hk_t tf_X3_9 dX3_pitch_14 ?_
      refine lv_iload_n C0.hx C0.hb dX3_pitch_17 rfl (lv_at hl 1 rfl) ?_
      obtain ⟨hb3, h⟩ := g_if h
      refine ga_24 C0 hW (C0.mem (kl24 (ko5_0 hk_t))) (ko5_0 hk_t) hb3 dX3_pitch_18 ?_
      refine lv_goto (tgt := 23) C0.hx C0.hb dX3_pitch_19 (by decide) ?_
      obtain rfl := Option.some.inj h
      exact g_iret C0 hW rfl rfl rfl dX3_pitch_23
set_option maxRecDepth 100000 in
set_option maxHeartbeats 4000000 in
theorem w_X10_weight_46 {p : Program} {l : Launch} {e : Env} {s : State} {m : MethodId} {args : Array Value} {below : List Frame} {meth : Method} {c : Code} {G : GL} {ids : List Nat} {y : MS} {o : Nat → Int32} {x : CS} {q : Int32}   (C0 : g_X G ids p s m args meth c cX10_weight 4 RX10 (Option.some Jvm.ClassFile.FieldType.int))  : ∀    (H : Heap) (locs : List Loc) (ls : Array Slot),  f_X10_weight_46 = some q → g_W G ids (x, y, o) s.heap H locs → lv_has ls 4 [] → W p l e (g_rm 0 0 0) s m args below meth c H locs 0 0 (MQ below (g_Qi G ids q (x, y, o)) args s 0 0 (g_A G)) (F0 m 46 ls []) := by
  intro H locs ls h hW hl
  unfold f_X10_weight_46 at h
  refine lv_bipush (v := (10 : Int32)) C0.hx C0.hb dX10_weight_46 (by decide) ?_
  refine lv_istore_n (lv' := [(3, .int ((10 : Int32)))]) C0.hx C0.hb dX10_weight_48 rfl hl (by decide) rfl (fun ls hl => ?_)
  refine lv_iload_n C0.hx C0.hb dX10_weight_49 rfl (lv_at hl 0 rfl) ?_
  refine lv_bipush (v := (64 : Int32)) C0.hx C0.hb dX10_weight_50 (by decide) ?_
  refine lv_imul C0.hx C0.hb dX10_weight_52 ?_
  refine lv_iconst (v := (1 : Int32)) C0.hx C0.hb dX10_weight_53 (by decide) ?_
  refine lv_iadd C0.hx C0.hb dX10_weight_54 ?_
  obtain rfl := Option.some.inj h
  exact g_iret C0 hW rfl rfl rfl dX10_weight_55
set_option maxRecDepth 100000 in
set_option maxHeartbeats 4000000 in
theorem w_X10_weight_29 {p : Program} {l : Launch} {e : Env} {s : State} {m : MethodId} {args : Array Value} {below : List Frame} {meth : Method} {c : Code} {G : GL} {ids : List Nat} {y : MS} {o : Nat → Int32} {x : CS} {q : Int32}   (C0 : g_X G ids p s m args meth c cX10_weight 4 RX10 (Option.some Jvm.ClassFile.FieldType.int))  : ∀  (s0 : Int32)  (H : Heap) (locs : List Loc) (ls : Array Slot),  f_X10_weight_29 s0 = some q → g_W G ids (x, y, o) s.heap H locs → lv_has ls 4 [] → W p l e (g_rm 0 0 0) s m args below meth c H locs 0 0 (MQ below (g_Qi G ids q (x, y, o)) args s 0 0 (g_A G)) (F0 m 29 ls [.int (s0)]) := by
  intro s0 H locs ls h hW hl
  unfold f_X10_weight_29 at h
  refine lv_istore_n (lv' := [(3, .int (s0))]) C0.hx C0.hb dX10_weight_29 rfl hl (by decide) rfl (fun ls hl => ?_)
  refine lv_goto (tgt := 49) C0.hx C0.hb dX10_weight_30 (by decide) ?_
  refine lv_iload_n C0.hx C0.hb dX10_weight_49 rfl (lv_at hl 0 rfl) ?_
  refine lv_bipush (v := (64 : Int32)) C0.hx C0.hb dX10_weight_50 (by decide) ?_
  refine lv_imul C0.hx C0.hb dX10_weight_52 ?_
  refine lv_iconst (v := (1 : Int32)) C0.hx C0.hb dX10_weight_53 (by decide) ?_
  refine lv_iadd C0.hx C0.hb dX10_weight_54 ?_
  obtain rfl := Option.some.inj h
  exact g_iret C0 hW rfl rfl rfl dX10_weight_55
set_option maxRecDepth 100000 in
set_option maxHeartbeats 4000000 in
theorem w_X10_weight_14 {p : Program} {l : Launch} {e : Env} {s : State} {m : MethodId} {args : Array Value} {below : List Frame} {meth : Method} {c : Code} {G : GL} {ids : List Nat} {y : MS} {o : Nat → Int32} {x : CS} {q : Int32}   (C0 : g_X G ids p s m args meth c cX10_weight 4 RX10 (Option.some Jvm.ClassFile.FieldType.int))  : ∀  (l0 : Int32) (l1 : Int32) (l2 : Int32) (s0 : Int32)  (H : Heap) (locs : List Loc) (ls : Array Slot),  f_X10_weight_14 l0 l1 l2 s0 = some q → g_W G ids (x, y, o) s.heap H locs → lv_has ls 4 [(0, .int (l0)), (1, .int (l1)), (2, .int (l2))] → W p l e (g_rm 0 0 0) s m args below meth c H locs 0 0 (MQ below (g_Qi G ids q (x, y, o)) args s 0 0 (g_A G)) (F0 m 14 ls [.int (s0)]) := by
  intro l0 l1 l2 s0 H locs ls h hW hl
  unfold f_X10_weight_14 at h
  refine lv_istore_n (lv' := [(3, .int (s0)), (0, .int (l0)), (1, .int (l1)), (2, .int (l2))]) C0.hx C0.hb dX10_weight_14 rfl hl (by decide) rfl (fun ls hl => ?_)
  refine lv_iload_n C0.hx C0.hb dX10_weight_15 rfl (lv_at hl 3 rfl) ?_
  refine lv_if_eq (tgt := 33) C0.hx C0.hb dX10_weight_16 (by decide) (fun hc2 => ?_) (fun hc2 => ?_)
  · replace h := (if_pos hc2).symm.trans h
    refine lv_iload_n C0.hx C0.hb dX10_weight_33 rfl (lv_at hl 1 rfl) ?_
    refine lv_iload_n C0.hx C0.hb dX10_weight_34 rfl (lv_at hl 2 rfl) ?_
    refine lv_icmp_eq (tgt := 49) C0.hx C0.hb dX10_weight_35 (by decide) (fun hc3 => ?_) (fun hc3 => ?_)
    · replace h := (if_pos hc3).symm.trans h
      refine lv_iload_n C0.hx C0.hb dX10_weight_49 rfl (lv_at hl 0 rfl) ?_
      refine lv_bipush (v := (64 : Int32)) C0.hx C0.hb dX10_weight_50 (by decide) ?_
      refine lv_imul C0.hx C0.hb dX10_weight_52 ?_
      refine lv_iconst (v := (1 : Int32)) C0.hx C0.hb dX10_weight_53 (by decide) ?_
      refine lv_iadd C0.hx C0.hb dX10_weight_54 ?_
      obtain rfl := Option.some.inj h
      exact g_iret C0 hW rfl rfl rfl dX10_weight_55
    · replace h := (if_neg hc3).symm.trans h
      refine lv_iload_n C0.hx C0.hb dX10_weight_38 rfl (lv_at hl 1 rfl) ?_
      refine lv_if_eq (tgt := 46) C0.hx C0.hb dX10_weight_39 (by decide) (fun hc4 => ?_) (fun hc4 => ?_)
      · replace h := (if_pos hc4).symm.trans h
        exact w_X10_weight_46 C0 _ _ _ h hW (lv_sub hl [] rfl)
      · replace h := (if_neg hc4).symm.trans h
        refine lv_iload_n C0.hx C0.hb dX10_weight_42 rfl (lv_at hl 2 rfl) ?_
        refine lv_if_ne (tgt := 49) C0.hx C0.hb dX10_weight_43 (by decide) (fun hc5 => ?_) (fun hc5 => ?_)
        · replace h := (if_neg hc5).symm.trans h
          refine lv_iload_n C0.hx C0.hb dX10_weight_49 rfl (lv_at hl 0 rfl) ?_
          refine lv_bipush (v := (64 : Int32)) C0.hx C0.hb dX10_weight_50 (by decide) ?_
          refine lv_imul C0.hx C0.hb dX10_weight_52 ?_
          refine lv_iconst (v := (1 : Int32)) C0.hx C0.hb dX10_weight_53 (by decide) ?_
          refine lv_iadd C0.hx C0.hb dX10_weight_54 ?_
          obtain rfl := Option.some.inj h
          exact g_iret C0 hW rfl rfl rfl dX10_weight_55
        · replace h := (if_pos hc5).symm.trans h
          exact w_X10_weight_46 C0 _ _ _ h hW (lv_sub hl [] rfl)
  · replace h := (if_neg hc2).symm.trans h
    refine lv_iload_n C0.hx C0.hb dX10_weight_19 rfl (lv_at hl 1 rfl) ?_
    refine lv_iload_n C0.hx C0.hb dX10_weight_20 rfl (lv_at hl 2 rfl) ?_
    refine lv_icmp_ne (tgt := 28) C0.hx C0.hb dX10_weight_21 (by decide) (fun hc6 => ?_) (fun hc6 => ?_)
    · replace h := (if_neg hc6).symm.trans h
      refine lv_iconst (v := (1 : Int32)) C0.hx C0.hb dX10_weight_28 (by decide) ?_
      exact w_X10_weight_29 C0 _ _ _ _ h hW (lv_sub hl [] rfl)
    · replace h := (if_pos hc6).symm.trans h
      refine lv_iconst (v := (0 : Int32)) C0.hx C0.hb dX10_weight_24 (by decide) ?_
      refine lv_goto (tgt := 29) C0.hx C0.hb dX10_weight_25 (by decide) ?_
      exact w_X10_weight_29 C0 _ _ _ _ h hW (lv_sub hl [] rfl)
set_option maxRecDepth 100000 in
set_option maxHeartbeats 4000000 in
theorem c_X10_weight {l : Launch} {G : GL} {ids : List Nat} {y : MS} {o : Nat → Int32} {x : CS} {p1 : Int32} {p2 : Int32} {p3 : Int32} {q : Int32}    (h : f_X10_weight p1 p2 p3 = some q) : Met l yX10_weight (.code yX10_weight cX10_weight 4 (Option.some Jvm.ClassFile.FieldType.int) :: gT) (g_rm 0 0 0) (va_Pc [.int (p1), .int (p2), .int (p3)] (g_P G ids (x, y, o))) (g_Qi G ids q (x, y, o)) 0 0 (g_A G) := by
  unfold f_X10_weight at h
  refine g_entry (by decide) (Nat.le_of_ble_eq_true rfl) (fun p e s m args below meth c ls C0 hl hW _ => ?_)
  have hl : lv_has ls 4 [(0, .int (p1)), (1, .int (p2)), (2, .int (p3))] := hl
  refine lv_iload_n C0.hx C0.hb dX10_weight_0 rfl (lv_at hl 0 rfl) ?_
  refine lv_iload_n C0.hx C0.hb dX10_weight_1 rfl (lv_at hl 1 rfl) ?_
  refine lv_icmp_ge (tgt := 11) C0.hx C0.hb dX10_weight_2 (by decide) (fun hc1 => ?_) (fun hc1 => ?_)
  · replace h := (if_pos hc1).symm.trans h
    refine lv_iload_n C0.hx C0.hb dX10_weight_11 rfl (lv_at hl 0 rfl) ?_
    refine lv_iload_n C0.hx C0.hb dX10_weight_12 rfl (lv_at hl 1 rfl) ?_
    refine lv_isub C0.hx C0.hb dX10_weight_13 ?_
    exact w_X10_weight_14 C0 _ _ _ _ _ _ _ h hW (lv_sub hl [0, 1, 2] rfl)
  · replace h := (if_neg hc1).symm.trans h
    refine lv_iload_n C0.hx C0.hb dX10_weight_5 rfl (lv_at hl 1 rfl) ?_
    refine lv_iload_n C0.hx C0.hb dX10_weight_6 rfl (lv_at hl 0 rfl) ?_
    refine lv_isub C0.hx C0.hb dX10_weight_7 ?_
    refine lv_goto (tgt := 14) C0.hx C0.hb dX10_weight_8 (by decide) ?_
    exact w_X10_weight_14 C0 _ _ _ _ _ _ _ h hW (lv_sub hl [0, 1, 2] rfl)
set_option maxRecDepth 100000 in
set_option maxHeartbeats 4000000 in
theorem w_X10_lightest_129 {p : Program} {l : Launch} {e : Env} {s : State} {m : MethodId} {args : Array Value} {below : List Frame} {meth : Method} {c : Code} {G : GL} {ids : List Nat} {y : MS} {o : Nat → Int32}  {q : Int32 × CS} {k28 : Nat → Nat → Int32 → Int32 → Int32 → CS → Option (Int32 × CS)} {k53 : Nat → Nat → Int32 → Int32 → Int32 → Int32 → Int32 → CS → Option (Int32 × CS)}   (C0 : g_X G ids p s m args meth c cX10_lightest 12 RX10 (Option.some Jvm.ClassFile.FieldType.int)) (kt28 : ∀ (l1 : Nat) (l2 : Nat) (l4 : Int32) (l5 : Int32) (l6 : Int32) (x : CS) (H : Heap) (locs : List Loc) (ls : Array Slot), kd l1 = 5 → kd l2 = 5 → k28 l1 l2 l4 l5 l6 x = some q → g_W G ids (x, y, o) s.heap H locs → lv_has ls 12 [(0, .ref (g_ad G (8))), (1, .ref (g_ad G (l1))), (2, .ref (g_ad G (l2))), (4, .int (l4)), (5, .int (l5)), (6, .int (l6))] → W p l e (g_rm 1 0 0) s m args below meth c H locs 0 0 (MQ below (g_Qi G ids q.1 (q.2, y, o)) args s 0 0 (g_A G)) (F0 m 28 ls [])) (kt53 : ∀ (l1 : Nat) (l2 : Nat) (l4 : Int32) (l5 : Int32) (l6 : Int32) (l7 : Int32) (l8 : Int32) (x : CS) (H : Heap) (locs : List Loc) (ls : Array Slot), kd l1 = 5 → kd l2 = 5 → k53 l1 l2 l4 l5 l6 l7 l8 x = some q → g_W G ids (x, y, o) s.heap H locs → lv_has ls 12 [(0, .ref (g_ad G (8))), (1, .ref (g_ad G (l1))), (2, .ref (g_ad G (l2))), (4, .int (l4)), (5, .int (l5)), (6, .int (l6)), (7, .int (l7)), (8, .int (l8))] → W p l e (g_rm 1 0 0) s m args below meth c H locs 0 0 (MQ below (g_Qi G ids q.1 (q.2, y, o)) args s 0 0 (g_A G)) (F0 m 53 ls [])) : ∀  (l1 : Nat) (l2 : Nat) (l4 : Int32) (l5 : Int32) (l6 : Int32) (l8 : Int32) (l9 : Int32) (l10 : Int32) (s0 : Int32) (x : CS) (H : Heap) (locs : List Loc) (ls : Array Slot), kd l1 = 5 → kd l2 = 5 → f_X10_lightest_129 k28 k53 l1 l2 l4 l5 l6 l8 l9 l10 s0 x = some q → g_W G ids (x, y, o) s.heap H locs → lv_has ls 12 [(0, .ref (g_ad G (8))), (1, .ref (g_ad G (l1))), (2, .ref (g_ad G (l2))), (4, .int (l4)), (5, .int (l5)), (6, .int (l6)), (8, .int (l8)), (9, .int (l9)), (10, .int (l10))] → W p l e (g_rm 1 0 0) s m args below meth c H locs 0 0 (MQ below (g_Qi G ids q.1 (q.2, y, o)) args s 0 0 (g_A G)) (F0 m 129 ls [.int (s0)]) := by
  intro l1 l2 l4 l5 l6 l8 l9 l10 s0 x H locs ls hk_l1 hk_l2 h hW hl
  unfold f_X10_lightest_129 at h
  refine lv_istore (lv' := [(11, .int (s0)), (0, .ref (g_ad G (8))), (1, .ref (g_ad G (l1))), (2, .ref (g_ad G (l2))), (4, .int (l4)), (5, .int (l5)), (6, .int (l6)), (8, .int (l8)), (9, .int (l9)), (10, .int (l10))]) C0.hx C0.hb dX10_lightest_129 hl (by decide) rfl (fun ls hl => ?_)
  refine lv_aload_n C0.hx C0.hb dX10_lightest_131 rfl (lv_at hl 1 rfl) ?_
  refine gf_X10_0 C0 hW (C0.mem (i := 8) (Nat.le_of_ble_eq_true rfl)) k_8 tf_X10_9 dX10_lightest_132 ?_
  refine lv_iload C0.hx C0.hb dX10_lightest_135 (lv_at hl 7 rfl) ?_
  refine lv_iconst (v := (1 : Int32)) C0.hx C0.hb dX10_lightest_137 (by decide) ?_
  refine lv_iadd C0.hx C0.hb dX10_lightest_138 ?_
  refine lv_iload C0.hx C0.hb dX10_lightest_139 (lv_at hl 0 rfl) ?_
  refine lv_if_eq (tgt := 167) C0.hx C0.hb dX10_lightest_141 (by decide) (fun hc12 => ?_) (fun hc12 => ?_)
  · replace h := (if_pos hc12).symm.trans h
    refine lv_ldc C0.hx C0.hb C0.hown (C0.hts _ tq_X10_43) dX10_lightest_167 ?_
    obtain ⟨hb13, h⟩ := g_if h
    refine gs_23 C0 hW (C0.mem (i := 9) (Nat.le_of_ble_eq_true rfl)) k_9 hb13 dX10_lightest_169 (fun H locs hW => ?_)
    refine lv_iload C0.hx C0.hb dX10_lightest_170 (lv_at hl 8 rfl) ?_
    refine lv_istore (lv' := [(7, .int (l9)), (11, .int (s0)), (0, .ref (g_ad G (8))), (1, .ref (g_ad G (l1))), (2, .ref (g_ad G (l2))), (4, .int (l4)), (5, .int (l5)), (6, .int (l6)), (8, .int (l8)), (9, .int (l9)), (10, .int (l10))]) C0.hx C0.hb dX10_lightest_172 hl (by decide) rfl (fun ls hl => ?_)
    refine lv_iinc (v := l8 + (1 : Int32)) (lv' := [(8, .int (l8 + (1 : Int32))), (7, .int (l9)), (11, .int (s0)), (0, .ref (g_ad G (8))), (1, .ref (g_ad G (l1))), (2, .ref (g_ad G (l2))), (4, .int (l4)), (5, .int (l5)), (6, .int (l6)), (9, .int (l9)), (10, .int (l10))]) C0.hx C0.hb dX10_lightest_174 hl (k := 8) rfl rfl (by decide) rfl (fun ls hl => ?_)
    refine lv_goto (tgt := 53) C0.hx C0.hb dX10_lightest_177 (by decide) ?_
    exact kt53 _ _ _ _ _ _ _ _ _ _ _ hk_l1 hk_l2 h hW (lv_sub hl [3, 4, 5, 6, 7, 8, 1, 0] rfl)
  · replace h := (if_neg hc12).symm.trans h
    refine lv_iload C0.hx C0.hb dX10_lightest_144 (lv_at hl 9 rfl) ?_
    refine lv_aload_n C0.hx C0.hb dX10_lightest_146 rfl (lv_at hl 2 rfl) ?_
    refine lv_iload C0.hx C0.hb dX10_lightest_147 (lv_at hl 6 rfl) ?_
    obtain ⟨q14, hq14, h⟩ := Option.bind_eq_some_iff.mp h
    refine g_calli hW (g_runV (As := [.int (l6)]) (rest := [.int (l10), .int (l8 + (1 : Int32)), .ref (g_ad G (9))]) C0 hW (c_X3_pitch hk_l1 hq14) (g_cwOf (n := 1) tc_X3_pitch tn_X3 md_X3_pitch (by decide) (by omega)) tm_X10_54 ti_X3_pitch ts_X3_pitch (C0.mem (kl5 hk_l1)) (g_c5 hk_l1) rfl rfl hl.1 rfl (Nat.le_of_ble_eq_true rfl) dX10_lightest_149) (fun H locs hW => ?_)
    refine lv_aload_n C0.hx C0.hb dX10_lightest_152 rfl (lv_at hl 3 rfl) ?_
    refine lv_iload C0.hx C0.hb dX10_lightest_153 (lv_at hl 7 rfl) ?_
    obtain ⟨q15, hq15, h⟩ := Option.bind_eq_some_iff.mp h
    refine g_calli hW (g_runV (As := [.int (l8)]) (rest := [.int (q14), .int (l10), .int (l8 + (1 : Int32)), .ref (g_ad G (9))]) C0 hW (c_X3_pitch hk_l2 hq15) (g_cwOf (n := 1) tc_X3_pitch tn_X3 md_X3_pitch (by decide) (by omega)) tm_X10_54 ti_X3_pitch ts_X3_pitch (C0.mem (kl5 hk_l2)) (g_c5 hk_l2) rfl rfl hl.1 rfl (Nat.le_of_ble_eq_true rfl) dX10_lightest_155) (fun H locs hW => ?_)
    refine lv_iload C0.hx C0.hb dX10_lightest_158 (lv_at hl 4 rfl) ?_
    obtain ⟨q16, hq16, h⟩ := Option.bind_eq_some_iff.mp h
    refine g_calli hW (g_runS (As := [.int (q14), .int (q15), .int (l4)]) (rest := [.int (l10), .int (l8 + (1 : Int32)), .ref (g_ad G (9))]) C0 hW (c_X10_weight hq16) (g_cwOf (n := 3) tc_X10_weight tn_X10 md_X10_weight (by decide) (by omega)) tm_X10_57 tz_X10_weight rfl hl.1 rfl (Nat.le_of_ble_eq_true rfl) dX10_lightest_160) (fun H locs hW => ?_)
    refine lv_iadd C0.hx C0.hb dX10_lightest_163 ?_
    refine lv_goto (tgt := 169) C0.hx C0.hb dX10_lightest_164 (by decide) ?_
    obtain ⟨hb17, h⟩ := g_if h
    refine gs_23 C0 hW (C0.mem (i := 9) (Nat.le_of_ble_eq_true rfl)) k_9 hb17 dX10_lightest_169 (fun H locs hW => ?_)
    refine lv_iload C0.hx C0.hb dX10_lightest_170 (lv_at hl 8 rfl) ?_
    refine lv_istore (lv' := [(7, .int (l9)), (11, .int (s0)), (0, .ref (g_ad G (8))), (1, .ref (g_ad G (l1))), (2, .ref (g_ad G (l2))), (4, .int (l4)), (5, .int (l5)), (6, .int (l6)), (8, .int (l8)), (9, .int (l9)), (10, .int (l10))]) C0.hx C0.hb dX10_lightest_172 hl (by decide) rfl (fun ls hl => ?_)
    refine lv_iinc (v := l8 + (1 : Int32)) (lv' := [(8, .int (l8 + (1 : Int32))), (7, .int (l9)), (11, .int (s0)), (0, .ref (g_ad G (8))), (1, .ref (g_ad G (l1))), (2, .ref (g_ad G (l2))), (4, .int (l4)), (5, .int (l5)), (6, .int (l6)), (9, .int (l9)), (10, .int (l10))]) C0.hx C0.hb dX10_lightest_174 hl (k := 8) rfl rfl (by decide) rfl (fun ls hl => ?_)
    refine lv_goto (tgt := 53) C0.hx C0.hb dX10_lightest_177 (by decide) ?_
    exact kt53 _ _ _ _ _ _ _ _ _ _ _ hk_l1 hk_l2 h hW (lv_sub hl [3, 4, 5, 6, 7, 8, 1, 0] rfl)
set_option maxRecDepth 100000 in
set_option maxHeartbeats 4000000 in
theorem w_X10_lightest_128 {p : Program} {l : Launch} {e : Env} {s : State} {m : MethodId} {args : Array Value} {below : List Frame} {meth : Method} {c : Code} {G : GL} {ids : List Nat} {y : MS} {o : Nat → Int32}  {q : Int32 × CS} {k28 : Nat → Nat → Int32 → Int32 → Int32 → CS → Option (Int32 × CS)} {k53 : Nat → Nat → Int32 → Int32 → Int32 → Int32 → Int32 → CS → Option (Int32 × CS)}   (C0 : g_X G ids p s m args meth c cX10_lightest 12 RX10 (Option.some Jvm.ClassFile.FieldType.int)) (kt28 : ∀ (l1 : Nat) (l2 : Nat) (l4 : Int32) (l5 : Int32) (l6 : Int32) (x : CS) (H : Heap) (locs : List Loc) (ls : Array Slot), kd l1 = 5 → kd l2 = 5 → k28 l1 l2 l4 l5 l6 x = some q → g_W G ids (x, y, o) s.heap H locs → lv_has ls 12 [(0, .ref (g_ad G (8))), (1, .ref (g_ad G (l1))), (2, .ref (g_ad G (l2))), (4, .int (l4)), (5, .int (l5)), (6, .int (l6))] → W p l e (g_rm 1 0 0) s m args below meth c H locs 0 0 (MQ below (g_Qi G ids q.1 (q.2, y, o)) args s 0 0 (g_A G)) (F0 m 28 ls [])) (kt53 : ∀ (l1 : Nat) (l2 : Nat) (l4 : Int32) (l5 : Int32) (l6 : Int32) (l7 : Int32) (l8 : Int32) (x : CS) (H : Heap) (locs : List Loc) (ls : Array Slot), kd l1 = 5 → kd l2 = 5 → k53 l1 l2 l4 l5 l6 l7 l8 x = some q → g_W G ids (x, y, o) s.heap H locs → lv_has ls 12 [(0, .ref (g_ad G (8))), (1, .ref (g_ad G (l1))), (2, .ref (g_ad G (l2))), (4, .int (l4)), (5, .int (l5)), (6, .int (l6)), (7, .int (l7)), (8, .int (l8))] → W p l e (g_rm 1 0 0) s m args below meth c H locs 0 0 (MQ below (g_Qi G ids q.1 (q.2, y, o)) args s 0 0 (g_A G)) (F0 m 53 ls [])) : ∀  (l1 : Nat) (l2 : Nat) (l4 : Int32) (l5 : Int32) (l6 : Int32) (l8 : Int32) (l9 : Int32) (l10 : Int32) (x : CS) (H : Heap) (locs : List Loc) (ls : Array Slot), kd l1 = 5 → kd l2 = 5 → f_X10_lightest_128 k28 k53 l1 l2 l4 l5 l6 l8 l9 l10 x = some q → g_W G ids (x, y, o) s.heap H locs → lv_has ls 12 [(0, .ref (g_ad G (8))), (1, .ref (g_ad G (l1))), (2, .ref (g_ad G (l2))), (4, .int (l4)), (5, .int (l5)), (6, .int (l6)), (8, .int (l8)), (9, .int (l9)), (10, .int (l10))] → W p l e (g_rm 1 0 0) s m args below meth c H locs 0 0 (MQ below (g_Qi G ids q.1 (q.2, y, o)) args s 0 0 (g_A G)) (F0 m 128 ls []) := by
  intro l1 l2 l4 l5 l6 l8 l9 l10 x H locs ls hk_l1 hk_l2 h hW hl
  unfold f_X10_lightest_128 at h
  refine lv_iconst (v := (0 : Int32)) C0.hx C0.hb dX10_lightest_128 (by decide) ?_
  exact w_X10_lightest_129 C0 kt28 kt53 _ _ _ _ _ _ _ _ _ _ _ _ _ hk_l1 hk_l2 h hW (lv_sub hl [0, 1, 2, 3, 4, 5, 6, 7, 8] rfl)
set_option maxRecDepth 100000 in
set_option maxHeartbeats 4000000 in
theorem w_X10_lightest_53 {p : Program} {l : Launch} {e : Env} {s : State} {m : MethodId} {args : Array Value} {below : List Frame} {meth : Method} {c : Code} {G : GL} {ids : List Nat} {y : MS} {o : Nat → Int32}  {q : Int32 × CS} {k28 : Nat → Nat → Int32 → Int32 → Int32 → CS → Option (Int32 × CS)}   (C0 : g_X G ids p s m args meth c cX10_lightest 12 RX10 (Option.some Jvm.ClassFile.FieldType.int)) (kt28 : ∀ (l1 : Nat) (l2 : Nat) (l4 : Int32) (l5 : Int32) (l6 : Int32) (x : CS) (H : Heap) (locs : List Loc) (ls : Array Slot), kd l1 = 5 → kd l2 = 5 → k28 l1 l2 l4 l5 l6 x = some q → g_W G ids (x, y, o) s.heap H locs → lv_has ls 12 [(0, .ref (g_ad G (8))), (1, .ref (g_ad G (l1))), (2, .ref (g_ad G (l2))), (4, .int (l4)), (5, .int (l5)), (6, .int (l6))] → W p l e (g_rm 1 0 0) s m args below meth c H locs 0 0 (MQ below (g_Qi G ids q.1 (q.2, y, o)) args s 0 0 (g_A G)) (F0 m 28 ls [])) : ∀ (n : Nat) (l1 : Nat) (l2 : Nat) (l4 : Int32) (l5 : Int32) (l6 : Int32) (l7 : Int32) (l8 : Int32) (x : CS) (H : Heap) (locs : List Loc) (ls : Array Slot), kd l1 = 5 → kd l2 = 5 → f_X10_lightest_53 k28 n l1 l2 l4 l5 l6 l7 l8 x = some q → g_W G ids (x, y, o) s.heap H locs → lv_has ls 12 [(0, .ref (g_ad G (8))), (1, .ref (g_ad G (l1))), (2, .ref (g_ad G (l2))), (4, .int (l4)), (5, .int (l5)), (6, .int (l6)), (7, .int (l7)), (8, .int (l8))] → W p l e (g_rm 1 0 0) s m args below meth c H locs 0 0 (MQ below (g_Qi G ids q.1 (q.2, y, o)) args s 0 0 (g_A G)) (F0 m 53 ls []) := by
  intro n
  induction n with
  | zero =>
    intro l1 l2 l4 l5 l6 l7 l8 x H locs ls hk_l1 hk_l2 h hW hl
    exact absurd h (by simp [f_X10_lightest_53])
  | succ n ih =>
    intro l1 l2 l4 l5 l6 l7 l8 x H locs ls hk_l1 hk_l2 h hW hl
    unfold f_X10_lightest_53 at h
    refine lv_iload C0.hx C0.hb dX10_lightest_53 (lv_at hl 7 rfl) ?_
    refine lv_aload_n C0.hx C0.hb dX10_lightest_55 rfl (lv_at hl 2 rfl) ?_
    refine gfN_X3_1 C0 hW (C0.mem (kl5 hk_l2)) hk_l2 tfN_X10_33 dX10_lightest_56 ?_
    refine lv_icmp_ge (tgt := 180) C0.hx C0.hb dX10_lightest_59 (by decide) (fun hc6 => ?_) (fun hc6 => ?_)
    · replace h := (if_pos hc6).symm.trans h
      refine lv_iinc (v := l6 + (1 : Int32)) (lv' := [(6, .int (l6 + (1 : Int32))), (0, .ref (g_ad G (8))), (1, .ref (g_ad G (l1))), (2, .ref (g_ad G (l2))), (4, .int (l4)), (5, .int (l5)), (7, .int (l7)), (8, .int (l8))]) C0.hx C0.hb dX10_lightest_180 hl (k := 5) rfl rfl (by decide) rfl (fun ls hl => ?_)
      refine lv_goto (tgt := 28) C0.hx C0.hb dX10_lightest_183 (by decide) ?_
      exact kt28 _ _ _ _ _ _ _ _ _ hk_l1 hk_l2 h hW (lv_sub hl [1, 2, 3, 4, 5, 0] rfl)
    · replace h := (if_neg hc6).symm.trans h
      refine lv_iload C0.hx C0.hb dX10_lightest_62 (lv_at hl 7 rfl) ?_
      refine lv_aload_n C0.hx C0.hb dX10_lightest_64 rfl (lv_at hl 0 rfl) ?_
      refine gf_X10_0 C0 hW (C0.mem (i := 8) (Nat.le_of_ble_eq_true rfl)) k_8 tf_X10_9 dX10_lightest_65 ?_
      refine gl_23 C0 hW (C0.mem (i := 9) (Nat.le_of_ble_eq_true rfl)) k_9 dX10_lightest_68 ?_
      refine lv_iconst (v := (1 : Int32)) C0.hx C0.hb dX10_lightest_69 (by decide) ?_
      refine lv_isub C0.hx C0.hb dX10_lightest_70 ?_
      refine lv_icmp_ge (tgt := 180) C0.hx C0.hb dX10_lightest_71 (by decide) (fun hc7 => ?_) (fun hc7 => ?_)
      · replace h := (if_pos hc7).symm.trans h
        refine lv_iinc (v := l6 + (1 : Int32)) (lv' := [(6, .int (l6 + (1 : Int32))), (0, .ref (g_ad G (8))), (1, .ref (g_ad G (l1))), (2, .ref (g_ad G (l2))), (4, .int (l4)), (5, .int (l5)), (7, .int (l7)), (8, .int (l8))]) C0.hx C0.hb dX10_lightest_180 hl (k := 5) rfl rfl (by decide) rfl (fun ls hl => ?_)
        refine lv_goto (tgt := 28) C0.hx C0.hb dX10_lightest_183 (by decide) ?_
        exact kt28 _ _ _ _ _ _ _ _ _ hk_l1 hk_l2 h hW (lv_sub hl [1, 2, 3, 4, 5, 0] rfl)
      · replace h := (if_neg hc7).symm.trans h
        refine lv_aload_n C0.hx C0.hb dX10_lightest_74 rfl (lv_at hl 0 rfl) ?_
        refine gf_X10_0 C0 hW (C0.mem (i := 8) (Nat.le_of_ble_eq_true rfl)) k_8 tf_X10_9 dX10_lightest_75 ?_
        refine lv_iload C0.hx C0.hb dX10_lightest_78 (lv_at hl 7 rfl) ?_
        refine lv_iconst (v := (1 : Int32)) C0.hx C0.hb dX10_lightest_80 (by decide) ?_
        refine lv_iadd C0.hx C0.hb dX10_lightest_81 ?_
        obtain ⟨hb8, h⟩ := g_if h
        refine ga_23 C0 hW (C0.mem (i := 9) (Nat.le_of_ble_eq_true rfl)) k_9 hb8 dX10_lightest_82 ?_
        refine lv_istore (lv' := [(9, .int (x.1 9 (l8 + (1 : Int32)).toNatClampNeg)), (0, .ref (g_ad G (8))), (1, .ref (g_ad G (l1))), (2, .ref (g_ad G (l2))), (4, .int (l4)), (5, .int (l5)), (6, .int (l6)), (7, .int (l7)), (8, .int (l8))]) C0.hx C0.hb dX10_lightest_83 hl (by decide) rfl (fun ls hl => ?_)
        refine lv_iload C0.hx C0.hb dX10_lightest_85 (lv_at hl 7 rfl) ?_
        refine lv_iload C0.hx C0.hb dX10_lightest_87 (lv_at hl 0 rfl) ?_
        refine lv_aload_n C0.hx C0.hb dX10_lightest_89 rfl (lv_at hl 1 rfl) ?_
        refine gf_X10_0 C0 hW (C0.mem (i := 8) (Nat.le_of_ble_eq_true rfl)) k_8 tf_X10_9 dX10_lightest_90 ?_
        refine lv_iload C0.hx C0.hb dX10_lightest_93 (lv_at hl 8 rfl) ?_
        obtain ⟨hb9, h⟩ := g_if h
        refine ga_23 C0 hW (C0.mem (i := 9) (Nat.le_of_ble_eq_true rfl)) k_9 hb9 dX10_lightest_95 ?_
        refine g_minR C0 hl.1 (Nat.le_of_ble_eq_true rfl) (by omega) tm_X10_50 (by decide) (by decide) dX10_lightest_96 ?_
        refine g_minR C0 hl.1 (Nat.le_of_ble_eq_true rfl) (by omega) tm_X10_50 (by decide) (by decide) dX10_lightest_99 ?_
        refine lv_istore (lv' := [(10, .int (g_min l7 (g_min (x.1 9 (l8 + (1 : Int32)).toNatClampNeg) (x.1 9 l8.toNatClampNeg)))), (9, .int (x.1 9 (l8 + (1 : Int32)).toNatClampNeg)), (0, .ref (g_ad G (8))), (1, .ref (g_ad G (l1))), (2, .ref (g_ad G (l2))), (4, .int (l4)), (5, .int (l5)), (6, .int (l6)), (7, .int (l7)), (8, .int (l8))]) C0.hx C0.hb dX10_lightest_102 hl (by decide) rfl (fun ls hl => ?_)
        refine lv_iload C0.hx C0.hb dX10_lightest_104 (lv_at hl 0 rfl) ?_
        refine lv_ldc C0.hx C0.hb C0.hown (C0.hts _ tq_X10_43) dX10_lightest_106 ?_
        refine lv_icmp_ge (tgt := 128) C0.hx C0.hb dX10_lightest_108 (by decide) (fun hc10 => ?_) (fun hc10 => ?_)
        · replace h := (if_pos hc10).symm.trans h
          exact w_X10_lightest_128 C0 kt28 ih _ _ _ _ _ _ _ _ _ _ _ _ hk_l1 hk_l2 h hW (lv_sub hl [2, 3, 4, 5, 6, 7, 9, 1, 0] rfl)
        · replace h := (if_neg hc10).symm.trans h
          refine lv_iload C0.hx C0.hb dX10_lightest_111 (lv_at hl 7 rfl) ?_
          refine lv_iload C0.hx C0.hb dX10_lightest_113 (lv_at hl 9 rfl) ?_
          refine lv_isub C0.hx C0.hb dX10_lightest_115 ?_
          refine g_absR C0 hl.1 (Nat.le_of_ble_eq_true rfl) (by omega) tm_X10_37 (by decide) (by decide) dX10_lightest_116 ?_
          refine lv_iload C0.hx C0.hb dX10_lightest_119 (lv_at hl 6 rfl) ?_
          refine lv_icmp_gt (tgt := 128) C0.hx C0.hb dX10_lightest_121 (by decide) (fun hc11 => ?_) (fun hc11 => ?_)
          · replace h := (if_pos hc11).symm.trans h
            exact w_X10_lightest_128 C0 kt28 ih _ _ _ _ _ _ _ _ _ _ _ _ hk_l1 hk_l2 h hW (lv_sub hl [2, 3, 4, 5, 6, 7, 9, 1, 0] rfl)
          · replace h := (if_neg hc11).symm.trans h
            refine lv_iconst (v := (1 : Int32)) C0.hx C0.hb dX10_lightest_124 (by decide) ?_
            refine lv_goto (tgt := 129) C0.hx C0.hb dX10_lightest_125 (by decide) ?_
            exact w_X10_lightest_129 C0 kt28 ih _ _ _ _ _ _ _ _ _ _ _ _ _ hk_l1 hk_l2 h hW (lv_sub hl [2, 3, 4, 5, 6, 7, 9, 1, 0] rfl)
set_option maxRecDepth 100000 in
set_option maxHeartbeats 4000000 in
theorem w_X10_lightest_28 {p : Program} {l : Launch} {e : Env} {s : State} {m : MethodId} {args : Array Value} {below : List Frame} {meth : Method} {c : Code} {G : GL} {ids : List Nat} {y : MS} {o : Nat → Int32}  {q : Int32 × CS}   (C0 : g_X G ids p s m args meth c cX10_lightest 12 RX10 (Option.some Jvm.ClassFile.FieldType.int))  : ∀ (n : Nat) (l1 : Nat) (l2 : Nat) (l4 : Int32) (l5 : Int32) (l6 : Int32) (x : CS) (H : Heap) (locs : List Loc) (ls : Array Slot), kd l1 = 5 → kd l2 = 5 → f_X10_lightest_28 n l1 l2 l4 l5 l6 x = some q → g_W G ids (x, y, o) s.heap H locs → lv_has ls 12 [(0, .ref (g_ad G (8))), (1, .ref (g_ad G (l1))), (2, .ref (g_ad G (l2))), (4, .int (l4)), (5, .int (l5)), (6, .int (l6))] → W p l e (g_rm 1 0 0) s m args below meth c H locs 0 0 (MQ below (g_Qi G ids q.1 (q.2, y, o)) args s 0 0 (g_A G)) (F0 m 28 ls []) := by
  intro n
  induction n with
  | zero =>
    intro l1 l2 l4 l5 l6 x H locs ls hk_l1 hk_l2 h hW hl
    exact absurd h (by simp [f_X10_lightest_28])
  | succ n ih =>
    intro l1 l2 l4 l5 l6 x H locs ls hk_l1 hk_l2 h hW hl
    unfold f_X10_lightest_28 at h
    refine lv_iload C0.hx C0.hb dX10_lightest_28 (lv_at hl 5 rfl) ?_
    refine lv_aload_n C0.hx C0.hb dX10_lightest_30 rfl (lv_at hl 1 rfl) ?_
    refine gfN_X3_1 C0 hW (C0.mem (kl5 hk_l1)) hk_l1 tfN_X10_33 dX10_lightest_31 ?_
    refine lv_icmp_ge (tgt := 186) C0.hx C0.hb dX10_lightest_34 (by decide) (fun hc1 => ?_) (fun hc1 => ?_)
    · replace h := (if_pos hc1).symm.trans h
      refine lv_aload_n C0.hx C0.hb dX10_lightest_186 rfl (lv_at hl 2 rfl) ?_
      refine gfN_X3_1 C0 hW (C0.mem (kl5 hk_l2)) hk_l2 tfN_X10_33 dX10_lightest_187 ?_
      refine lv_if_lt (tgt := 217) C0.hx C0.hb dX10_lightest_190 (by decide) (fun hc2 => ?_) (fun hc2 => ?_)
      · replace h := (if_pos hc2).symm.trans h
        refine lv_ldc C0.hx C0.hb C0.hown (C0.hts _ tq_X10_43) dX10_lightest_217 ?_
        obtain rfl := Option.some.inj h
        exact g_iret C0 hW rfl rfl rfl dX10_lightest_219
      · replace h := (if_neg hc2).symm.trans h
        refine lv_aload_n C0.hx C0.hb dX10_lightest_193 rfl (lv_at hl 2 rfl) ?_
        refine gfN_X3_1 C0 hW (C0.mem (kl5 hk_l2)) hk_l2 tfN_X10_33 dX10_lightest_194 ?_
        refine lv_aload_n C0.hx C0.hb dX10_lightest_197 rfl (lv_at hl 0 rfl) ?_
        refine gf_X10_0 C0 hW (C0.mem (i := 8) (Nat.le_of_ble_eq_true rfl)) k_8 tf_X10_9 dX10_lightest_198 ?_
        refine gl_23 C0 hW (C0.mem (i := 9) (Nat.le_of_ble_eq_true rfl)) k_9 dX10_lightest_201 ?_
        refine lv_icmp_ge (tgt := 217) C0.hx C0.hb dX10_lightest_202 (by decide) (fun hc3 => ?_) (fun hc3 => ?_)
        · replace h := (if_pos hc3).symm.trans h
          refine lv_ldc C0.hx C0.hb C0.hown (C0.hts _ tq_X10_43) dX10_lightest_217 ?_
          obtain rfl := Option.some.inj h
          exact g_iret C0 hW rfl rfl rfl dX10_lightest_219
        · replace h := (if_neg hc3).symm.trans h
          refine lv_aload_n C0.hx C0.hb dX10_lightest_205 rfl (lv_at hl 0 rfl) ?_
          refine gf_X10_0 C0 hW (C0.mem (i := 8) (Nat.le_of_ble_eq_true rfl)) k_8 tf_X10_9 dX10_lightest_206 ?_
          refine lv_aload_n C0.hx C0.hb dX10_lightest_209 rfl (lv_at hl 2 rfl) ?_
          refine gfN_X3_1 C0 hW (C0.mem (kl5 hk_l2)) hk_l2 tfN_X10_33 dX10_lightest_210 ?_
          obtain ⟨hb4, h⟩ := g_if h
          refine ga_23 C0 hW (C0.mem (i := 9) (Nat.le_of_ble_eq_true rfl)) k_9 hb4 dX10_lightest_213 ?_
          refine lv_goto (tgt := 219) C0.hx C0.hb dX10_lightest_214 (by decide) ?_
          obtain rfl := Option.some.inj h
          exact g_iret C0 hW rfl rfl rfl dX10_lightest_219
    · replace h := (if_neg hc1).symm.trans h
      refine lv_iload C0.hx C0.hb dX10_lightest_37 (lv_at hl 5 rfl) ?_
      refine lv_if_ne (tgt := 46) C0.hx C0.hb dX10_lightest_39 (by decide) (fun hc5 => ?_) (fun hc5 => ?_)
      · replace h := (if_neg hc5).symm.trans h
        refine lv_ldc C0.hx C0.hb C0.hown (C0.hts _ tq_X10_43) dX10_lightest_46 ?_
        refine lv_istore (lv' := [(7, .int ((16777216 : Int32))), (0, .ref (g_ad G (8))), (1, .ref (g_ad G (l1))), (2, .ref (g_ad G (l2))), (4, .int (l4)), (5, .int (l5)), (6, .int (l6))]) C0.hx C0.hb dX10_lightest_48 hl (by decide) rfl (fun ls hl => ?_)
        refine lv_iconst (v := (0 : Int32)) C0.hx C0.hb dX10_lightest_50 (by decide) ?_
        refine lv_istore (lv' := [(8, .int ((0 : Int32))), (7, .int ((16777216 : Int32))), (0, .ref (g_ad G (8))), (1, .ref (g_ad G (l1))), (2, .ref (g_ad G (l2))), (4, .int (l4)), (5, .int (l5)), (6, .int (l6))]) C0.hx C0.hb dX10_lightest_51 hl (by decide) rfl (fun ls hl => ?_)
        exact w_X10_lightest_53 C0 ih g_fuel _ _ _ _ _ _ _ _ _ _ _ hk_l1 hk_l2 h hW (lv_sub hl [2, 3, 4, 5, 6, 7, 1, 0] rfl)
      · replace h := (if_pos hc5).symm.trans h
        refine lv_iconst (v := (0 : Int32)) C0.hx C0.hb dX10_lightest_42 (by decide) ?_
        refine lv_goto (tgt := 48) C0.hx C0.hb dX10_lightest_43 (by decide) ?_
        refine lv_istore (lv' := [(7, .int ((0 : Int32))), (0, .ref (g_ad G (8))), (1, .ref (g_ad G (l1))), (2, .ref (g_ad G (l2))), (4, .int (l4)), (5, .int (l5)), (6, .int (l6))]) C0.hx C0.hb dX10_lightest_48 hl (by decide) rfl (fun ls hl => ?_)
        refine lv_iconst (v := (0 : Int32)) C0.hx C0.hb dX10_lightest_50 (by decide) ?_
        refine lv_istore (lv' := [(8, .int ((0 : Int32))), (7, .int ((0 : Int32))), (0, .ref (g_ad G (8))), (1, .ref (g_ad G (l1))), (2, .ref (g_ad G (l2))), (4, .int (l4)), (5, .int (l5)), (6, .int (l6))]) C0.hx C0.hb dX10_lightest_51 hl (by decide) rfl (fun ls hl => ?_)
        exact w_X10_lightest_53 C0 ih g_fuel _ _ _ _ _ _ _ _ _ _ _ hk_l1 hk_l2 h hW (lv_sub hl [2, 3, 4, 5, 6, 7, 1, 0] rfl)
set_option maxRecDepth 100000 in
set_option maxHeartbeats 4000000 in
theorem c_X10_lightest {l : Launch} {G : GL} {ids : List Nat} {y : MS} {o : Nat → Int32} {x : CS} {p1 : Nat} {p2 : Nat} {p3 : Int32} {p4 : Int32} {q : Int32 × CS}   (hk_p1 : kd p1 = 5) (hk_p2 : kd p2 = 5) (h : f_X10_lightest p1 p2 p3 p4 x = some q) : Met l yX10_lightest (.code yX10_lightest cX10_lightest 12 (Option.some Jvm.ClassFile.FieldType.int) :: gT) (g_rm 1 0 0) (va_Pc [.ref (g_ad G (8)), .ref (g_ad G (p1)), .ref (g_ad G (p2)), .int (p3), .int (p4)] (g_P G ids (x, y, o))) (g_Qi G ids q.1 (q.2, y, o)) 0 0 (g_A G) := by
  unfold f_X10_lightest at h
  refine g_entry (by decide) (Nat.le_of_ble_eq_true rfl) (fun p e s m args below meth c ls C0 hl hW _ => ?_)
  have hl : lv_has ls 12 [(0, .ref (g_ad G (8))), (1, .ref (g_ad G (p1))), (2, .ref (g_ad G (p2))), (3, .int (p3)), (4, .int (p4))] := hl
  refine lv_iload_n C0.hx C0.hb dX10_lightest_0 rfl (lv_at hl 3 rfl) ?_
  refine lv_aload_n C0.hx C0.hb dX10_lightest_1 rfl (lv_at hl 1 rfl) ?_
  refine gfN_X3_1 C0 hW (C0.mem (kl5 hk_p1)) hk_p1 tfN_X10_33 dX10_lightest_2 ?_
  refine lv_aload_n C0.hx C0.hb dX10_lightest_5 rfl (lv_at hl 2 rfl) ?_
  refine gfN_X3_1 C0 hW (C0.mem (kl5 hk_p2)) hk_p2 tfN_X10_33 dX10_lightest_6 ?_
  refine lv_isub C0.hx C0.hb dX10_lightest_9 ?_
  refine g_absR C0 hl.1 (Nat.le_of_ble_eq_true rfl) (by omega) tm_X10_37 (by decide) (by decide) dX10_lightest_10 ?_
  refine lv_iadd C0.hx C0.hb dX10_lightest_13 ?_
  refine lv_istore (lv' := [(5, .int (p3 + (g_abs ((x.1 p1 1) - (x.1 p2 1))))), (0, .ref (g_ad G (8))), (1, .ref (g_ad G (p1))), (2, .ref (g_ad G (p2))), (3, .int (p3)), (4, .int (p4))]) C0.hx C0.hb dX10_lightest_14 hl (by decide) rfl (fun ls hl => ?_)
  refine lv_aload_n C0.hx C0.hb dX10_lightest_16 rfl (lv_at hl 1 rfl) ?_
  refine gf_X10_0 C0 hW (C0.mem (i := 8) (Nat.le_of_ble_eq_true rfl)) k_8 tf_X10_9 dX10_lightest_17 ?_
  refine lv_ldc C0.hx C0.hb C0.hown (C0.hts _ tq_X10_43) dX10_lightest_20 ?_
  refine g_callv hW (g_runS (As := [.ref (g_ad G (9)), .int ((16777216 : Int32))]) (rest := []) C0 hW c_J7_fill_53178 (g_cwOf (n := 2) tc_J7_fill_53178 tn_J7 md_J7_fill_53178 (by decide) (by omega)) tm_X10_44 tz_J7_fill_53178 rfl hl.1 rfl (Nat.le_of_ble_eq_true rfl) dX10_lightest_22) (fun H locs hW => ?_)
  refine lv_iconst (v := (0 : Int32)) C0.hx C0.hb dX10_lightest_25 (by decide) ?_
  refine lv_istore (lv' := [(6, .int ((0 : Int32))), (5, .int (p3 + (g_abs ((x.1 p1 1) - (x.1 p2 1))))), (0, .ref (g_ad G (8))), (1, .ref (g_ad G (p1))), (2, .ref (g_ad G (p2))), (3, .int (p3)), (4, .int (p4))]) C0.hx C0.hb dX10_lightest_26 hl (by decide) rfl (fun ls hl => ?_)
  exact w_X10_lightest_28 C0 g_fuel _ _ _ _ _ _ _ _ _ hk_p1 hk_p2 h hW (lv_sub hl [2, 3, 4, 6, 1, 0] rfl)
set_option maxRecDepth 100000 in
set_option maxHeartbeats 4000000 in
theorem c_X10_distance {l : Launch} {G : GL} {ids : List Nat} {y : MS} {o : Nat → Int32} {x : CS} {p1 : Nat} {p2 : Nat} {p3 : Int32} {q : Int32 × CS}   (hk_p1 : kd p1 = 5) (hk_p2 : kd p2 = 5) (h : f_X10_distance p1 p2 p3 x = some q) : Met l yX10_distance (.code yX10_distance cX10_distance 4 (Option.some Jvm.ClassFile.FieldType.int) :: gT) (g_rm 2 0 0) (va_Pc [.ref (g_ad G (8)), .ref (g_ad G (p1)), .ref (g_ad G (p2)), .int (p3)] (g_P G ids (x, y, o))) (g_Qi G ids q.1 (q.2, y, o)) 0 0 (g_A G) := by
  unfold f_X10_distance at h
  refine g_entry (by decide) (Nat.le_of_ble_eq_true rfl) (fun p e s m args below meth c ls C0 hl hW _ => ?_)
  have hl : lv_has ls 4 [(0, .ref (g_ad G (8))), (1, .ref (g_ad G (p1))), (2, .ref (g_ad G (p2))), (3, .int (p3))] := hl
  refine lv_aload_n C0.hx C0.hb dX10_distance_0 rfl (lv_at hl 0 rfl) ?_
  refine lv_aload_n C0.hx C0.hb dX10_distance_1 rfl (lv_at hl 1 rfl) ?_
  refine lv_aload_n C0.hx C0.hb dX10_distance_2 rfl (lv_at hl 2 rfl) ?_
  refine lv_iload_n C0.hx C0.hb dX10_distance_3 rfl (lv_at hl 3 rfl) ?_
  refine lv_iconst (v := (0 : Int32)) C0.hx C0.hb dX10_distance_4 (by decide) ?_
  obtain ⟨q1, hq1, h⟩ := Option.bind_eq_some_iff.mp h
  refine g_calli hW (g_runV (As := [.ref (g_ad G (p1)), .ref (g_ad G (p2)), .int (p3), .int ((0 : Int32))]) (rest := []) C0 hW (c_X10_lightest hk_p1 hk_p2 hq1) (g_cwOf (n := 4) tc_X10_lightest tn_X10 md_X10_lightest (by decide) (by omega)) tm_X10_25 ti_X10_lightest ts_X10_lightest (C0.mem (i := 8) (Nat.le_of_ble_eq_true rfl)) (g_c4 k_8) rfl rfl hl.1 rfl (Nat.le_of_ble_eq_true rfl) dX10_distance_5) (fun H locs hW => ?_)
  refine lv_bipush (v := (64 : Int32)) C0.hx C0.hb dX10_distance_8 (by decide) ?_
  refine lv_idiv C0.hx C0.hb dX10_distance_10 (by decide) ?_
  obtain rfl := Option.some.inj h
  exact g_iret C0 hW rfl rfl rfl dX10_distance_11
set_option maxRecDepth 100000 in
set_option maxHeartbeats 4000000 in
theorem c_X5_rule {l : Launch} {G : GL} {ids : List Nat} {y : MS} {o : Nat → Int32} {x : CS} {t : Nat} {p1 : Int32} {q : Nat}   (hk_t : kd t = 7) (h : f_X5_rule t p1 x = some q) : Met l yX5_rule (.code yX5_rule cX5_rule 2 (Option.some (Jvm.ClassFile.FieldType.object "GlideWhistles$Rule")) :: gT) (g_rm 0 0 0) (va_Pc [.ref (g_ad G (t)), .int (p1)] (g_P G ids (x, y, o))) (g_Qr G ids (g_ad G q) (x, y, o)) 0 0 (g_A G) := by
  unfold f_X5_rule at h
  refine g_entry (by decide) (Nat.le_of_ble_eq_true rfl) (fun p e s m args below meth c ls C0 hl hW _ => ?_)
  have hl : lv_has ls 2 [(0, .ref (g_ad G (t))), (1, .int (p1))] := hl
  refine lv_iload_n C0.hx C0.hb dX5_rule_0 rfl (lv_at hl 1 rfl) ?_
  refine lv_if_lt (tgt := 22) C0.hx C0.hb dX5_rule_1 (by decide) (fun hc1 => ?_) (fun hc1 => ?_)
  · replace h := (if_pos hc1).symm.trans h
    refine lv_aload_n C0.hx C0.hb dX5_rule_22 rfl (lv_at hl 0 rfl) ?_
    refine gf_X5_1 C0 hW (C0.mem (kl7 hk_t)) hk_t tf_X5_18 dX5_rule_23 ?_
    obtain rfl := Option.some.inj h
    exact g_aret C0 hW rfl rfl dX5_rule_26
  · replace h := (if_neg hc1).symm.trans h
    refine lv_iload_n C0.hx C0.hb dX5_rule_4 rfl (lv_at hl 1 rfl) ?_
    refine lv_aload_n C0.hx C0.hb dX5_rule_5 rfl (lv_at hl 0 rfl) ?_
    refine gf_X5_0 C0 hW (C0.mem (kl7 hk_t)) hk_t tf_X5_11 dX5_rule_6 ?_
    refine gl_26 C0 hW (C0.mem (kl26 (ko7_0 hk_t))) (ko7_0 hk_t) dX5_rule_9 ?_
    refine lv_icmp_ge (tgt := 22) C0.hx C0.hb dX5_rule_10 (by decide) (fun hc2 => ?_) (fun hc2 => ?_)
    · replace h := (if_pos hc2).symm.trans h
      refine lv_aload_n C0.hx C0.hb dX5_rule_22 rfl (lv_at hl 0 rfl) ?_
      refine gf_X5_1 C0 hW (C0.mem (kl7 hk_t)) hk_t tf_X5_18 dX5_rule_23 ?_
      obtain rfl := Option.some.inj h
      exact g_aret C0 hW rfl rfl dX5_rule_26
    · replace h := (if_neg hc2).symm.trans h
      refine lv_aload_n C0.hx C0.hb dX5_rule_13 rfl (lv_at hl 0 rfl) ?_
      refine gf_X5_0 C0 hW (C0.mem (kl7 hk_t)) hk_t tf_X5_11 dX5_rule_14 ?_
      refine lv_iload_n C0.hx C0.hb dX5_rule_17 rfl (lv_at hl 1 rfl) ?_
      obtain ⟨hb3, h⟩ := g_if h
      refine ga_26 C0 hW (C0.mem (kl26 (ko7_0 hk_t))) (ko7_0 hk_t) hb3 dX5_rule_18 ?_
      refine lv_goto (tgt := 26) C0.hx C0.hb dX5_rule_19 (by decide) ?_
      obtain rfl := Option.some.inj h
      exact g_aret C0 hW rfl rfl dX5_rule_26
set_option maxRecDepth 100000 in
set_option maxHeartbeats 4000000 in
theorem c_X5_sign {l : Launch} {G : GL} {ids : List Nat} {y : MS} {o : Nat → Int32} {x : CS} {t : Nat} {p1 : Int32} {q : Nat}   (hk_t : kd t = 7) (h : f_X5_sign t p1 x = some q) : Met l yX5_sign (.code yX5_sign cX5_sign 2 (Option.some (Jvm.ClassFile.FieldType.object "GlideWhistles$Sign")) :: gT) (g_rm 0 0 0) (va_Pc [.ref (g_ad G (t)), .int (p1)] (g_P G ids (x, y, o))) (g_Qr G ids (g_sg G q) (x, y, o)) 0 0 (g_A G) := by
  unfold f_X5_sign at h
  refine g_entry (by decide) (Nat.le_of_ble_eq_true rfl) (fun p e s m args below meth c ls C0 hl hW _ => ?_)
  have hl : lv_has ls 2 [(0, .ref (g_ad G (t))), (1, .int (p1))] := hl
  refine lv_iload_n C0.hx C0.hb dX5_sign_0 rfl (lv_at hl 1 rfl) ?_
  refine lv_if_lt (tgt := 22) C0.hx C0.hb dX5_sign_1 (by decide) (fun hc1 => ?_) (fun hc1 => ?_)
  · replace h := (if_pos hc1).symm.trans h
    refine g_sign C0 hW 44 (by decide) tf_X5_45 dX5_sign_22 ?_
    obtain rfl := Option.some.inj h
    exact g_aret C0 hW rfl rfl dX5_sign_25
  · replace h := (if_neg hc1).symm.trans h
    refine lv_iload_n C0.hx C0.hb dX5_sign_4 rfl (lv_at hl 1 rfl) ?_
    refine lv_aload_n C0.hx C0.hb dX5_sign_5 rfl (lv_at hl 0 rfl) ?_
    refine gf_X5_2 C0 hW (C0.mem (kl7 hk_t)) hk_t tf_X5_24 dX5_sign_6 ?_
    refine gl_27 C0 hW (C0.mem (kl27 (ko7_2 hk_t))) (ko7_2 hk_t) dX5_sign_9 ?_
    refine lv_icmp_ge (tgt := 22) C0.hx C0.hb dX5_sign_10 (by decide) (fun hc2 => ?_) (fun hc2 => ?_)
    · replace h := (if_pos hc2).symm.trans h
      refine g_sign C0 hW 44 (by decide) tf_X5_45 dX5_sign_22 ?_
      obtain rfl := Option.some.inj h
      exact g_aret C0 hW rfl rfl dX5_sign_25
    · replace h := (if_neg hc2).symm.trans h
      refine lv_aload_n C0.hx C0.hb dX5_sign_13 rfl (lv_at hl 0 rfl) ?_
      refine gf_X5_2 C0 hW (C0.mem (kl7 hk_t)) hk_t tf_X5_24 dX5_sign_14 ?_
      refine lv_iload_n C0.hx C0.hb dX5_sign_17 rfl (lv_at hl 1 rfl) ?_
      obtain ⟨hb3, h⟩ := g_if h
      refine ga_27 C0 hW (C0.mem (kl27 (ko7_2 hk_t))) (ko7_2 hk_t) hb3 dX5_sign_18 ?_
      refine lv_goto (tgt := 25) C0.hx C0.hb dX5_sign_19 (by decide) ?_
      obtain rfl := Option.some.inj h
      exact g_aret C0 hW rfl rfl dX5_sign_25
set_option maxRecDepth 100000 in
set_option maxHeartbeats 4000000 in
theorem c_X12_quotient {l : Launch} {G : GL} {ids : List Nat} {y : MS} {o : Nat → Int32} {x : CS} {p1 : Int32} {p2 : Int32} {q : Int32}    (h : f_X12_quotient p1 p2 = some q) : Met l yX12_quotient (.code yX12_quotient cX12_quotient 2 (Option.some Jvm.ClassFile.FieldType.int) :: gT) (g_rm 0 0 0) (va_Pc [.int (p1), .int (p2)] (g_P G ids (x, y, o))) (g_Qi G ids q (x, y, o)) 0 0 (g_A G) := by
  unfold f_X12_quotient at h
  refine g_entry (by decide) (Nat.le_of_ble_eq_true rfl) (fun p e s m args below meth c ls C0 hl hW _ => ?_)
  have hl : lv_has ls 2 [(0, .int (p1)), (1, .int (p2))] := hl
  refine lv_iload_n C0.hx C0.hb dX12_quotient_0 rfl (lv_at hl 1 rfl) ?_
  refine lv_if_ne (tgt := 8) C0.hx C0.hb dX12_quotient_1 (by decide) (fun hc1 => ?_) (fun hc1 => ?_)
  · replace h := (if_neg hc1).symm.trans h
    refine lv_iload_n C0.hx C0.hb dX12_quotient_8 rfl (lv_at hl 0 rfl) ?_
    refine lv_iload_n C0.hx C0.hb dX12_quotient_9 rfl (lv_at hl 1 rfl) ?_
    obtain ⟨hn2, h⟩ := g_if h
    refine lv_idiv C0.hx C0.hb dX12_quotient_10 hn2 ?_
    obtain rfl := Option.some.inj h
    exact g_iret C0 hW rfl rfl rfl dX12_quotient_11
  · replace h := (if_pos hc1).symm.trans h
    refine lv_iconst (v := (0 : Int32)) C0.hx C0.hb dX12_quotient_4 (by decide) ?_
    refine lv_goto (tgt := 11) C0.hx C0.hb dX12_quotient_5 (by decide) ?_
    obtain rfl := Option.some.inj h
    exact g_iret C0 hW rfl rfl rfl dX12_quotient_11
set_option maxRecDepth 100000 in
set_option maxHeartbeats 4000000 in
theorem c_X5_value {l : Launch} {G : GL} {ids : List Nat} {y : MS} {o : Nat → Int32} {x : CS} {t : Nat} {p1 : Int32} {q : Int32}   (hk_t : kd t = 7) (h : f_X5_value t p1 x = some q) : Met l yX5_value (.code yX5_value cX5_value 2 (Option.some Jvm.ClassFile.FieldType.int) :: gT) (g_rm 0 0 0) (va_Pc [.ref (g_ad G (t)), .int (p1)] (g_P G ids (x, y, o))) (g_Qi G ids q (x, y, o)) 0 0 (g_A G) := by
  unfold f_X5_value at h
  refine g_entry (by decide) (Nat.le_of_ble_eq_true rfl) (fun p e s m args below meth c ls C0 hl hW _ => ?_)
  have hl : lv_has ls 2 [(0, .ref (g_ad G (t))), (1, .int (p1))] := hl
  refine lv_iload_n C0.hx C0.hb dX5_value_0 rfl (lv_at hl 1 rfl) ?_
  refine lv_if_lt (tgt := 22) C0.hx C0.hb dX5_value_1 (by decide) (fun hc1 => ?_) (fun hc1 => ?_)
  · replace h := (if_pos hc1).symm.trans h
    refine lv_iconst (v := (0 : Int32)) C0.hx C0.hb dX5_value_22 (by decide) ?_
    obtain rfl := Option.some.inj h
    exact g_iret C0 hW rfl rfl rfl dX5_value_23
  · replace h := (if_neg hc1).symm.trans h
    refine lv_iload_n C0.hx C0.hb dX5_value_4 rfl (lv_at hl 1 rfl) ?_
    refine lv_aload_n C0.hx C0.hb dX5_value_5 rfl (lv_at hl 0 rfl) ?_
    refine gf_X5_3 C0 hW (C0.mem (kl7 hk_t)) hk_t tf_X5_28 dX5_value_6 ?_
    refine gl_25 C0 hW (C0.mem (kl25 (ko7_3 hk_t))) (ko7_3 hk_t) dX5_value_9 ?_
    refine lv_icmp_ge (tgt := 22) C0.hx C0.hb dX5_value_10 (by decide) (fun hc2 => ?_) (fun hc2 => ?_)
    · replace h := (if_pos hc2).symm.trans h
      refine lv_iconst (v := (0 : Int32)) C0.hx C0.hb dX5_value_22 (by decide) ?_
      obtain rfl := Option.some.inj h
      exact g_iret C0 hW rfl rfl rfl dX5_value_23
    · replace h := (if_neg hc2).symm.trans h
      refine lv_aload_n C0.hx C0.hb dX5_value_13 rfl (lv_at hl 0 rfl) ?_
      refine gf_X5_3 C0 hW (C0.mem (kl7 hk_t)) hk_t tf_X5_28 dX5_value_14 ?_
      refine lv_iload_n C0.hx C0.hb dX5_value_17 rfl (lv_at hl 1 rfl) ?_
      obtain ⟨hb3, h⟩ := g_if h
      refine ga_25 C0 hW (C0.mem (kl25 (ko7_3 hk_t))) (ko7_3 hk_t) hb3 dX5_value_18 ?_
      refine lv_goto (tgt := 23) C0.hx C0.hb dX5_value_19 (by decide) ?_
      obtain rfl := Option.some.inj h
      exact g_iret C0 hW rfl rfl rfl dX5_value_23
set_option maxRecDepth 100000 in
set_option maxHeartbeats 4000000 in
theorem w_X9_countKept_4 {p : Program} {l : Launch} {e : Env} {s : State} {m : MethodId} {args : Array Value} {below : List Frame} {meth : Method} {c : Code} {G : GL} {ids : List Nat} {y : MS} {o : Nat → Int32} {x : CS} {q : Int32}   (C0 : g_X G ids p s m args meth c cX9_countKept 3 RX9 (Option.some Jvm.ClassFile.FieldType.int))  : ∀ (n : Nat) (l0 : Nat) (l1 : Int32) (l2 : Int32)  (H : Heap) (locs : List Loc) (ls : Array Slot), kd l0 = 9 → f_X9_countKept_4 x n l0 l1 l2 = some q → g_W G ids (x, y, o) s.heap H locs → lv_has ls 3 [(0, .ref (g_ad G (l0))), (1, .int (l1)), (2, .int (l2))] → W p l e (g_rm 1 0 0) s m args below meth c H locs 0 0 (MQ below (g_Qi G ids q (x, y, o)) args s 0 0 (g_A G)) (F0 m 4 ls []) := by
  intro n
  induction n with
  | zero =>
    intro l0 l1 l2 H locs ls hk_l0 h hW hl
    exact absurd h (by simp [f_X9_countKept_4])
  | succ n ih =>
    intro l0 l1 l2 H locs ls hk_l0 h hW hl
    unfold f_X9_countKept_4 at h
    refine lv_iload_n C0.hx C0.hb dX9_countKept_4 rfl (lv_at hl 2 rfl) ?_
    refine lv_aload_n C0.hx C0.hb dX9_countKept_5 rfl (lv_at hl 0 rfl) ?_
    refine gf_X9_2 C0 hW (C0.mem (kl9 hk_l0)) hk_l0 tf_X9_22 dX9_countKept_6 ?_
    refine lv_icmp_ge (tgt := 32) C0.hx C0.hb dX9_countKept_9 (by decide) (fun hc1 => ?_) (fun hc1 => ?_)
    · replace h := (if_pos hc1).symm.trans h
      refine lv_iload_n C0.hx C0.hb dX9_countKept_32 rfl (lv_at hl 1 rfl) ?_
      obtain rfl := Option.some.inj h
      exact g_iret C0 hW rfl rfl rfl dX9_countKept_33
    · replace h := (if_neg hc1).symm.trans h
      refine lv_aload_n C0.hx C0.hb dX9_countKept_12 rfl (lv_at hl 0 rfl) ?_
      refine lv_iload_n C0.hx C0.hb dX9_countKept_13 rfl (lv_at hl 2 rfl) ?_
      obtain ⟨q2, hq2, h⟩ := Option.bind_eq_some_iff.mp h
      obtain ⟨hk3, h⟩ := g_if h
      refine g_callr hW (g_runV (As := [.int (l2)]) (rest := []) C0 hW (c_X9_word hk_l0 hq2) (g_cwOf (n := 1) tc_X9_word tn_X9 md_X9_word (by decide) (by omega)) tm_X9_32 ti_X9_word ts_X9_word (C0.mem (kl9 hk_l0)) (g_c9 hk_l0) rfl rfl hl.1 rfl (Nat.le_of_ble_eq_true rfl) dX9_countKept_14) (fun H locs hW => ?_)
      refine gfN_X11_1 C0 hW (C0.mem (kl10 hk3)) hk3 tfN_X9_45 dX9_countKept_17 ?_
      refine lv_if_ne (tgt := 26) C0.hx C0.hb dX9_countKept_20 (by decide) (fun hc4 => ?_) (fun hc4 => ?_)
      · replace h := (if_neg hc4).symm.trans h
        refine lv_iinc (v := l2 + (1 : Int32)) (lv' := [(2, .int (l2 + (1 : Int32))), (0, .ref (g_ad G (l0))), (1, .int (l1))]) C0.hx C0.hb dX9_countKept_26 hl (k := 2) rfl rfl (by decide) rfl (fun ls hl => ?_)
        refine lv_goto (tgt := 4) C0.hx C0.hb dX9_countKept_29 (by decide) ?_
        exact ih _ _ _ _ _ _ hk_l0 h hW (lv_sub hl [1, 2, 0] rfl)
      · replace h := (if_pos hc4).symm.trans h
        refine lv_iinc (v := l1 + (1 : Int32)) (lv' := [(1, .int (l1 + (1 : Int32))), (0, .ref (g_ad G (l0))), (2, .int (l2))]) C0.hx C0.hb dX9_countKept_23 hl (k := 1) rfl rfl (by decide) rfl (fun ls hl => ?_)
        refine lv_iinc (v := l2 + (1 : Int32)) (lv' := [(2, .int (l2 + (1 : Int32))), (1, .int (l1 + (1 : Int32))), (0, .ref (g_ad G (l0)))]) C0.hx C0.hb dX9_countKept_26 hl (k := 2) rfl rfl (by decide) rfl (fun ls hl => ?_)
        refine lv_goto (tgt := 4) C0.hx C0.hb dX9_countKept_29 (by decide) ?_
        exact ih _ _ _ _ _ _ hk_l0 h hW (lv_sub hl [2, 1, 0] rfl)
set_option maxRecDepth 100000 in
set_option maxHeartbeats 4000000 in
theorem c_X9_countKept {l : Launch} {G : GL} {ids : List Nat} {y : MS} {o : Nat → Int32} {x : CS} {t : Nat} {q : Int32}   (hk_t : kd t = 9) (h : f_X9_countKept t x = some q) : Met l yX9_countKept (.code yX9_countKept cX9_countKept 3 (Option.some Jvm.ClassFile.FieldType.int) :: gT) (g_rm 1 0 0) (va_Pc [.ref (g_ad G (t))] (g_P G ids (x, y, o))) (g_Qi G ids q (x, y, o)) 0 0 (g_A G) := by
  unfold f_X9_countKept at h
  refine g_entry (by decide) (Nat.le_of_ble_eq_true rfl) (fun p e s m args below meth c ls C0 hl hW _ => ?_)
  have hl : lv_has ls 3 [(0, .ref (g_ad G (t)))] := hl
  refine lv_iconst (v := (0 : Int32)) C0.hx C0.hb dX9_countKept_0 (by decide) ?_
  refine lv_istore_n (lv' := [(1, .int ((0 : Int32))), (0, .ref (g_ad G (t)))]) C0.hx C0.hb dX9_countKept_1 rfl hl (by decide) rfl (fun ls hl => ?_)
  refine lv_iconst (v := (0 : Int32)) C0.hx C0.hb dX9_countKept_2 (by decide) ?_
  refine lv_istore_n (lv' := [(2, .int ((0 : Int32))), (1, .int ((0 : Int32))), (0, .ref (g_ad G (t)))]) C0.hx C0.hb dX9_countKept_3 rfl hl (by decide) rfl (fun ls hl => ?_)
  exact w_X9_countKept_4 C0 g_fuel _ _ _ _ _ _ hk_t h hW (lv_sub hl [2, 1, 0] rfl)
set_option maxRecDepth 100000 in
set_option maxHeartbeats 4000000 in
theorem w_X3_shift_75 {p : Program} {l : Launch} {e : Env} {s : State} {m : MethodId} {args : Array Value} {below : List Frame} {meth : Method} {c : Code} {G : GL} {ids : List Nat} {y : MS} {o : Nat → Int32}  {q : Int32 × CS} {k4 : Nat → Int32 → Int32 → Int32 → CS → Option (Int32 × CS)}   (C0 : g_X G ids p s m args meth c cX3_shift 7 RX3 (Option.some Jvm.ClassFile.FieldType.boolean)) (kt4 : ∀ (l0 : Nat) (l1 : Int32) (l2 : Int32) (l3 : Int32) (x : CS) (H : Heap) (locs : List Loc) (ls : Array Slot), kd l0 = 5 → k4 l0 l1 l2 l3 x = some q → g_W G ids (x, y, o) s.heap H locs → lv_has ls 7 [(0, .ref (g_ad G (l0))), (1, .int (l1)), (2, .int (l2)), (3, .int (l3))] → W p l e (g_rm 0 0 0) s m args below meth c H locs 0 0 (MQ below (g_Qi G ids q.1 (q.2, y, o)) args s 0 0 (g_A G)) (F0 m 4 ls [])) : ∀  (l0 : Nat) (l1 : Int32) (l2 : Int32) (l3 : Int32) (l4 : Int32) (s0 : Int32) (s1 : Int32) (s2 : Nat) (x : CS) (H : Heap) (locs : List Loc) (ls : Array Slot), kd l0 = 5 → kd s2 = 24 → f_X3_shift_75 k4 l0 l1 l2 l3 l4 s0 s1 s2 x = some q → g_W G ids (x, y, o) s.heap H locs → lv_has ls 7 [(0, .ref (g_ad G (l0))), (1, .int (l1)), (2, .int (l2)), (3, .int (l3)), (4, .int (l4))] → W p l e (g_rm 0 0 0) s m args below meth c H locs 0 0 (MQ below (g_Qi G ids q.1 (q.2, y, o)) args s 0 0 (g_A G)) (F0 m 75 ls [.int (s0), .int (s1), .ref (g_ad G (s2))]) := by
  intro l0 l1 l2 l3 l4 s0 s1 s2 x H locs ls hk_l0 hk_s2 h hW hl
  unfold f_X3_shift_75 at h
  obtain ⟨hb9, h⟩ := g_if h
  refine gs_24 C0 hW (C0.mem (kl24 hk_s2)) hk_s2 hb9 dX3_shift_75 (fun H locs hW => ?_)
  refine lv_iload_n C0.hx C0.hb dX3_shift_76 rfl (lv_at hl 2 rfl) ?_
  refine lv_if_ne (tgt := 91) C0.hx C0.hb dX3_shift_77 (by decide) (fun hc10 => ?_) (fun hc10 => ?_)
  · replace h := (if_neg hc10).symm.trans h
    refine lv_iconst (v := (1 : Int32)) C0.hx C0.hb dX3_shift_91 (by decide) ?_
    refine lv_goto (tgt := 96) C0.hx C0.hb dX3_shift_92 (by decide) ?_
    refine lv_istore_n (lv' := [(2, .int ((1 : Int32))), (0, .ref (g_ad G (l0))), (1, .int (l1)), (3, .int (l3)), (4, .int (l4))]) C0.hx C0.hb dX3_shift_96 rfl hl (by decide) rfl (fun ls hl => ?_)
    refine lv_iinc (v := l3 + (1 : Int32)) (lv' := [(3, .int (l3 + (1 : Int32))), (2, .int ((1 : Int32))), (0, .ref (g_ad G (l0))), (1, .int (l1)), (4, .int (l4))]) C0.hx C0.hb dX3_shift_97 hl (k := 3) rfl rfl (by decide) rfl (fun ls hl => ?_)
    refine lv_goto (tgt := 4) C0.hx C0.hb dX3_shift_100 (by decide) ?_
    exact kt4 _ _ _ _ _ _ _ _ hk_l0 h hW (lv_sub hl [2, 3, 1, 0] rfl)
  · replace h := (if_pos hc10).symm.trans h
    refine lv_aload_n C0.hx C0.hb dX3_shift_80 rfl (lv_at hl 0 rfl) ?_
    refine gf_X3_0 C0 hW (C0.mem (kl5 hk_l0)) hk_l0 tf_X3_9 dX3_shift_81 ?_
    refine lv_iload_n C0.hx C0.hb dX3_shift_84 rfl (lv_at hl 3 rfl) ?_
    obtain ⟨hb11, h⟩ := g_if h
    refine ga_24 C0 hW (C0.mem (kl24 (ko5_0 hk_l0))) (ko5_0 hk_l0) hb11 dX3_shift_85 ?_
    refine lv_iload C0.hx C0.hb dX3_shift_86 (lv_at hl 4 rfl) ?_
    refine lv_icmp_eq (tgt := 95) C0.hx C0.hb dX3_shift_88 (by decide) (fun hc12 => ?_) (fun hc12 => ?_)
    · replace h := (if_pos hc12).symm.trans h
      refine lv_iconst (v := (0 : Int32)) C0.hx C0.hb dX3_shift_95 (by decide) ?_
      refine lv_istore_n (lv' := [(2, .int ((0 : Int32))), (0, .ref (g_ad G (l0))), (1, .int (l1)), (3, .int (l3)), (4, .int (l4))]) C0.hx C0.hb dX3_shift_96 rfl hl (by decide) rfl (fun ls hl => ?_)
      refine lv_iinc (v := l3 + (1 : Int32)) (lv' := [(3, .int (l3 + (1 : Int32))), (2, .int ((0 : Int32))), (0, .ref (g_ad G (l0))), (1, .int (l1)), (4, .int (l4))]) C0.hx C0.hb dX3_shift_97 hl (k := 3) rfl rfl (by decide) rfl (fun ls hl => ?_)
      refine lv_goto (tgt := 4) C0.hx C0.hb dX3_shift_100 (by decide) ?_
      exact kt4 _ _ _ _ _ _ _ _ hk_l0 h hW (lv_sub hl [2, 3, 1, 0] rfl)
    · replace h := (if_neg hc12).symm.trans h
      refine lv_iconst (v := (1 : Int32)) C0.hx C0.hb dX3_shift_91 (by decide) ?_
      refine lv_goto (tgt := 96) C0.hx C0.hb dX3_shift_92 (by decide) ?_
      refine lv_istore_n (lv' := [(2, .int ((1 : Int32))), (0, .ref (g_ad G (l0))), (1, .int (l1)), (3, .int (l3)), (4, .int (l4))]) C0.hx C0.hb dX3_shift_96 rfl hl (by decide) rfl (fun ls hl => ?_)
      refine lv_iinc (v := l3 + (1 : Int32)) (lv' := [(3, .int (l3 + (1 : Int32))), (2, .int ((1 : Int32))), (0, .ref (g_ad G (l0))), (1, .int (l1)), (4, .int (l4))]) C0.hx C0.hb dX3_shift_97 hl (k := 3) rfl rfl (by decide) rfl (fun ls hl => ?_)
      refine lv_goto (tgt := 4) C0.hx C0.hb dX3_shift_100 (by decide) ?_
      exact kt4 _ _ _ _ _ _ _ _ hk_l0 h hW (lv_sub hl [2, 3, 1, 0] rfl)
set_option maxRecDepth 100000 in
set_option maxHeartbeats 4000000 in
theorem w_X3_shift_4 {p : Program} {l : Launch} {e : Env} {s : State} {m : MethodId} {args : Array Value} {below : List Frame} {meth : Method} {c : Code} {G : GL} {ids : List Nat} {y : MS} {o : Nat → Int32}  {q : Int32 × CS}   (C0 : g_X G ids p s m args meth c cX3_shift 7 RX3 (Option.some Jvm.ClassFile.FieldType.boolean))  : ∀ (n : Nat) (l0 : Nat) (l1 : Int32) (l2 : Int32) (l3 : Int32) (x : CS) (H : Heap) (locs : List Loc) (ls : Array Slot), kd l0 = 5 → f_X3_shift_4 n l0 l1 l2 l3 x = some q → g_W G ids (x, y, o) s.heap H locs → lv_has ls 7 [(0, .ref (g_ad G (l0))), (1, .int (l1)), (2, .int (l2)), (3, .int (l3))] → W p l e (g_rm 0 0 0) s m args below meth c H locs 0 0 (MQ below (g_Qi G ids q.1 (q.2, y, o)) args s 0 0 (g_A G)) (F0 m 4 ls []) := by
  intro n
  induction n with
  | zero =>
    intro l0 l1 l2 l3 x H locs ls hk_l0 h hW hl
    exact absurd h (by simp [f_X3_shift_4])
  | succ n ih =>
    intro l0 l1 l2 l3 x H locs ls hk_l0 h hW hl
    unfold f_X3_shift_4 at h
    refine lv_iload_n C0.hx C0.hb dX3_shift_4 rfl (lv_at hl 3 rfl) ?_
    refine lv_aload_n C0.hx C0.hb dX3_shift_5 rfl (lv_at hl 0 rfl) ?_
    refine gf_X3_0 C0 hW (C0.mem (kl5 hk_l0)) hk_l0 tf_X3_9 dX3_shift_6 ?_
    refine gl_24 C0 hW (C0.mem (kl24 (ko5_0 hk_l0))) (ko5_0 hk_l0) dX3_shift_9 ?_
    refine lv_icmp_ge (tgt := 103) C0.hx C0.hb dX3_shift_10 (by decide) (fun hc1 => ?_) (fun hc1 => ?_)
    · replace h := (if_pos hc1).symm.trans h
      refine lv_iload_n C0.hx C0.hb dX3_shift_103 rfl (lv_at hl 2 rfl) ?_
      obtain ⟨hb2, h⟩ := g_if h
      obtain rfl := Option.some.inj h
      exact g_iret C0 hW rfl (g_bool hb2).1 rfl dX3_shift_104
    · replace h := (if_neg hc1).symm.trans h
      refine lv_iload_n C0.hx C0.hb dX3_shift_13 rfl (lv_at hl 3 rfl) ?_
      refine lv_aload_n C0.hx C0.hb dX3_shift_14 rfl (lv_at hl 0 rfl) ?_
      refine gf_X3_1 C0 hW (C0.mem (kl5 hk_l0)) hk_l0 tf_X3_15 dX3_shift_15 ?_
      refine lv_icmp_ge (tgt := 103) C0.hx C0.hb dX3_shift_18 (by decide) (fun hc3 => ?_) (fun hc3 => ?_)
      · replace h := (if_pos hc3).symm.trans h
        refine lv_iload_n C0.hx C0.hb dX3_shift_103 rfl (lv_at hl 2 rfl) ?_
        obtain ⟨hb4, h⟩ := g_if h
        obtain rfl := Option.some.inj h
        exact g_iret C0 hW rfl (g_bool hb4).1 rfl dX3_shift_104
      · replace h := (if_neg hc3).symm.trans h
        refine lv_aload_n C0.hx C0.hb dX3_shift_21 rfl (lv_at hl 0 rfl) ?_
        refine gf_X3_0 C0 hW (C0.mem (kl5 hk_l0)) hk_l0 tf_X3_9 dX3_shift_22 ?_
        refine lv_iload_n C0.hx C0.hb dX3_shift_25 rfl (lv_at hl 3 rfl) ?_
        obtain ⟨hb5, h⟩ := g_if h
        refine ga_24 C0 hW (C0.mem (kl24 (ko5_0 hk_l0))) (ko5_0 hk_l0) hb5 dX3_shift_26 ?_
        refine lv_istore (lv' := [(4, .int (x.1 (l0 + 1) l3.toNatClampNeg)), (0, .ref (g_ad G (l0))), (1, .int (l1)), (2, .int (l2)), (3, .int (l3))]) C0.hx C0.hb dX3_shift_27 hl (by decide) rfl (fun ls hl => ?_)
        refine lv_iload C0.hx C0.hb dX3_shift_29 (lv_at hl 0 rfl) ?_
        refine lv_if_eq (tgt := 97) C0.hx C0.hb dX3_shift_31 (by decide) (fun hc6 => ?_) (fun hc6 => ?_)
        · replace h := (if_pos hc6).symm.trans h
          refine lv_iinc (v := l3 + (1 : Int32)) (lv' := [(3, .int (l3 + (1 : Int32))), (4, .int (x.1 (l0 + 1) l3.toNatClampNeg)), (0, .ref (g_ad G (l0))), (1, .int (l1)), (2, .int (l2))]) C0.hx C0.hb dX3_shift_97 hl (k := 4) rfl rfl (by decide) rfl (fun ls hl => ?_)
          refine lv_goto (tgt := 4) C0.hx C0.hb dX3_shift_100 (by decide) ?_
          exact ih _ _ _ _ _ _ _ _ hk_l0 h hW (lv_sub hl [2, 3, 4, 0] rfl)
        · replace h := (if_neg hc6).symm.trans h
          refine lv_iload C0.hx C0.hb dX3_shift_34 (lv_at hl 0 rfl) ?_
          refine lv_i2l C0.hx C0.hb dX3_shift_36 rfl ?_
          refine lv_iload_n C0.hx C0.hb dX3_shift_37 rfl (lv_at hl 2 rfl) ?_
          refine lv_i2l C0.hx C0.hb dX3_shift_38 rfl ?_
          refine lv_ladd C0.hx C0.hb dX3_shift_39 ?_
          refine lv_lstore (lv' := [(5, .long (((x.1 (l0 + 1) l3.toNatClampNeg).toInt64) + l1.toInt64)), (4, .int (x.1 (l0 + 1) l3.toNatClampNeg)), (0, .ref (g_ad G (l0))), (1, .int (l1)), (2, .int (l2)), (3, .int (l3))]) C0.hx C0.hb dX3_shift_40 hl (by decide) rfl (fun ls hl => ?_)
          refine lv_aload_n C0.hx C0.hb dX3_shift_42 rfl (lv_at hl 2 rfl) ?_
          refine gf_X3_0 C0 hW (C0.mem (kl5 hk_l0)) hk_l0 tf_X3_9 dX3_shift_43 ?_
          refine lv_iload_n C0.hx C0.hb dX3_shift_46 rfl (lv_at hl 5 rfl) ?_
          refine lv_lload C0.hx C0.hb dX3_shift_47 (lv_at hl 0 rfl) ?_
          refine lv_lconst (v := (1 : Int64)) C0.hx C0.hb dX3_shift_49 (by decide) ?_
          refine W.lcmp C0.hx C0.hb dX3_shift_50 ?_
          refine lv_if_ge (tgt := 58) C0.hx C0.hb dX3_shift_51 (by decide) (fun hc7 => ?_) (fun hc7 => ?_)
          · replace h := (if_pos hc7).symm.trans h
            refine lv_lload C0.hx C0.hb dX3_shift_58 (lv_at hl 0 rfl) ?_
            refine lv_ldc2 C0.hx C0.hb C0.hown (C0.hts _ tq_X3_34) dX3_shift_60 ?_
            refine W.lcmp C0.hx C0.hb dX3_shift_63 ?_
            refine lv_if_le (tgt := 72) C0.hx C0.hb dX3_shift_64 (by decide) (fun hc8 => ?_) (fun hc8 => ?_)
            · replace h := (if_pos hc8).symm.trans h
              refine lv_lload C0.hx C0.hb dX3_shift_72 (lv_at hl 0 rfl) ?_
              refine lv_l2i C0.hx C0.hb dX3_shift_74 rfl ?_
              exact w_X3_shift_75 C0 ih _ _ _ _ _ _ _ _ _ _ _ _ hk_l0 (ko5_0 hk_l0) h hW (lv_sub hl [2, 3, 4, 5, 1] rfl)
            · replace h := (if_neg hc8).symm.trans h
              refine lv_bipush (v := (40 : Int32)) C0.hx C0.hb dX3_shift_67 (by decide) ?_
              refine lv_goto (tgt := 75) C0.hx C0.hb dX3_shift_69 (by decide) ?_
              exact w_X3_shift_75 C0 ih _ _ _ _ _ _ _ _ _ _ _ _ hk_l0 (ko5_0 hk_l0) h hW (lv_sub hl [2, 3, 4, 5, 1] rfl)
          · replace h := (if_neg hc7).symm.trans h
            refine lv_iconst (v := (1 : Int32)) C0.hx C0.hb dX3_shift_54 (by decide) ?_
            refine lv_goto (tgt := 75) C0.hx C0.hb dX3_shift_55 (by decide) ?_
            exact w_X3_shift_75 C0 ih _ _ _ _ _ _ _ _ _ _ _ _ hk_l0 (ko5_0 hk_l0) h hW (lv_sub hl [2, 3, 4, 5, 1] rfl)
set_option maxRecDepth 100000 in
set_option maxHeartbeats 4000000 in
theorem c_X3_shift {l : Launch} {G : GL} {ids : List Nat} {y : MS} {o : Nat → Int32} {x : CS} {t : Nat} {p1 : Int32} {q : Int32 × CS}   (hk_t : kd t = 5) (h : f_X3_shift t p1 x = some q) : Met l yX3_shift (.code yX3_shift cX3_shift 7 (Option.some Jvm.ClassFile.FieldType.boolean) :: gT) (g_rm 0 0 0) (va_Pc [.ref (g_ad G (t)), .int (p1)] (g_P G ids (x, y, o))) (g_Qi G ids q.1 (q.2, y, o)) 0 0 (g_A G) := by
  unfold f_X3_shift at h
  refine g_entry (by decide) (Nat.le_of_ble_eq_true rfl) (fun p e s m args below meth c ls C0 hl hW _ => ?_)
  have hl : lv_has ls 7 [(0, .ref (g_ad G (t))), (1, .int (p1))] := hl
  refine lv_iconst (v := (0 : Int32)) C0.hx C0.hb dX3_shift_0 (by decide) ?_
  refine lv_istore_n (lv' := [(2, .int ((0 : Int32))), (0, .ref (g_ad G (t))), (1, .int (p1))]) C0.hx C0.hb dX3_shift_1 rfl hl (by decide) rfl (fun ls hl => ?_)
  refine lv_iconst (v := (0 : Int32)) C0.hx C0.hb dX3_shift_2 (by decide) ?_
  refine lv_istore_n (lv' := [(3, .int ((0 : Int32))), (2, .int ((0 : Int32))), (0, .ref (g_ad G (t))), (1, .int (p1))]) C0.hx C0.hb dX3_shift_3 rfl hl (by decide) rfl (fun ls hl => ?_)
  exact w_X3_shift_4 C0 g_fuel _ _ _ _ _ _ _ _ hk_t h hW (lv_sub hl [2, 3, 1, 0] rfl)
set_option maxRecDepth 100000 in
set_option maxHeartbeats 4000000 in
theorem c_X5_clear {l : Launch} {G : GL} {ids : List Nat} {y : MS} {o : Nat → Int32} {x : CS} {t : Nat} {q : CS}   (hk_t : kd t = 7) (h : f_X5_clear t x = some q) : Met l yX5_clear (.code yX5_clear cX5_clear 1 (Option.none : Option Jvm.ClassFile.FieldType) :: gT) (g_rm 0 0 0) (va_Pc [.ref (g_ad G (t))] (g_P G ids (x, y, o))) (g_Qv G ids (q, y, o)) 0 0 (g_A G) := by
  unfold f_X5_clear at h
  refine g_entry (by decide) (Nat.le_of_ble_eq_true rfl) (fun p e s m args below meth c ls C0 hl hW _ => ?_)
  have hl : lv_has ls 1 [(0, .ref (g_ad G (t)))] := hl
  refine lv_aload_n C0.hx C0.hb dX5_clear_0 rfl (lv_at hl 0 rfl) ?_
  refine lv_iconst (v := (0 : Int32)) C0.hx C0.hb dX5_clear_1 (by decide) ?_
  refine gp_X5_4 C0 hW (C0.mem (kl7 hk_t)) hk_t tf_X5_32 dX5_clear_2 (fun H locs hW => ?_)
  refine lv_aload_n C0.hx C0.hb dX5_clear_5 rfl (lv_at hl 0 rfl) ?_
  refine lv_iconst (v := (0 : Int32)) C0.hx C0.hb dX5_clear_6 (by decide) ?_
  refine gp_X5_5 C0 hW (C0.mem (kl7 hk_t)) hk_t tf_X5_36 dX5_clear_7 (fun H locs hW => ?_)
  refine lv_aload_n C0.hx C0.hb dX5_clear_10 rfl (lv_at hl 0 rfl) ?_
  refine lv_iconst (v := (4 : Int32)) C0.hx C0.hb dX5_clear_11 (by decide) ?_
  refine gp_X5_6 C0 hW (C0.mem (kl7 hk_t)) hk_t tf_X5_39 dX5_clear_12 (fun H locs hW => ?_)
  refine lv_aload_n C0.hx C0.hb dX5_clear_15 rfl (lv_at hl 0 rfl) ?_
  refine lv_bipush (v := (6 : Int32)) C0.hx C0.hb dX5_clear_16 (by decide) ?_
  refine gp_X5_7 C0 hW (C0.mem (kl7 hk_t)) hk_t tf_X5_42 dX5_clear_18 (fun H locs hW => ?_)
  obtain rfl := Option.some.inj h
  exact g_vret C0 hW rfl dX5_clear_21
set_option maxRecDepth 100000 in
set_option maxHeartbeats 4000000 in
theorem c_X9_clear {l : Launch} {G : GL} {ids : List Nat} {y : MS} {o : Nat → Int32} {x : CS} {t : Nat} {q : CS}   (hk_t : kd t = 9) (h : f_X9_clear t x = some q) : Met l yX9_clear (.code yX9_clear cX9_clear 1 (Option.none : Option Jvm.ClassFile.FieldType) :: gT) (g_rm 0 0 0) (va_Pc [.ref (g_ad G (t))] (g_P G ids (x, y, o))) (g_Qv G ids (q, y, o)) 0 0 (g_A G) := by
  unfold f_X9_clear at h
  refine g_entry (by decide) (Nat.le_of_ble_eq_true rfl) (fun p e s m args below meth c ls C0 hl hW _ => ?_)
  have hl : lv_has ls 1 [(0, .ref (g_ad G (t)))] := hl
  refine lv_aload_n C0.hx C0.hb dX9_clear_0 rfl (lv_at hl 0 rfl) ?_
  refine lv_iconst (v := (0 : Int32)) C0.hx C0.hb dX9_clear_1 (by decide) ?_
  refine gp_X9_2 C0 hW (C0.mem (kl9 hk_t)) hk_t tf_X9_22 dX9_clear_2 (fun H locs hW => ?_)
  refine lv_aload_n C0.hx C0.hb dX9_clear_5 rfl (lv_at hl 0 rfl) ?_
  refine lv_iconst (v := (0 : Int32)) C0.hx C0.hb dX9_clear_6 (by decide) ?_
  refine gp_X9_3 C0 hW (C0.mem (kl9 hk_t)) hk_t tf_X9_26 dX9_clear_7 (fun H locs hW => ?_)
  refine lv_aload_n C0.hx C0.hb dX9_clear_10 rfl (lv_at hl 0 rfl) ?_
  refine lv_iconst (v := (0 : Int32)) C0.hx C0.hb dX9_clear_11 (by decide) ?_
  refine gp_X9_4 C0 hW (C0.mem (kl9 hk_t)) hk_t tf_X9_29 dX9_clear_12 (fun H locs hW => ?_)
  obtain rfl := Option.some.inj h
  exact g_vret C0 hW rfl dX9_clear_15
set_option maxRecDepth 100000 in
set_option maxHeartbeats 4000000 in
theorem c_X8_sign {l : Launch} {G : GL} {ids : List Nat} {y : MS} {o : Nat → Int32} {x : CS} {p1 : Int32} {q : Nat}    (h : f_X8_sign p1 x = some q) : Met l yX8_sign (.code yX8_sign cX8_sign 2 (Option.some (Jvm.ClassFile.FieldType.object "GlideWhistles$Sign")) :: gT) (g_rm 0 0 0) (va_Pc [.ref (g_ad G (3)), .int (p1)] (g_P G ids (x, y, o))) (g_Qr G ids (g_sg G q) (x, y, o)) 0 0 (g_A G) := by
  unfold f_X8_sign at h
  refine g_entry (by decide) (Nat.le_of_ble_eq_true rfl) (fun p e s m args below meth c ls C0 hl hW _ => ?_)
  have hl : lv_has ls 2 [(0, .ref (g_ad G (3))), (1, .int (p1))] := hl
  refine lv_iload_n C0.hx C0.hb dX8_sign_0 rfl (lv_at hl 1 rfl) ?_
  refine lv_if_lt (tgt := 22) C0.hx C0.hb dX8_sign_1 (by decide) (fun hc1 => ?_) (fun hc1 => ?_)
  · replace h := (if_pos hc1).symm.trans h
    refine g_sign C0 hW 45 (by decide) tf_X8_39 dX8_sign_22 ?_
    obtain rfl := Option.some.inj h
    exact g_aret C0 hW rfl rfl dX8_sign_25
  · replace h := (if_neg hc1).symm.trans h
    refine lv_iload_n C0.hx C0.hb dX8_sign_4 rfl (lv_at hl 1 rfl) ?_
    refine lv_aload_n C0.hx C0.hb dX8_sign_5 rfl (lv_at hl 0 rfl) ?_
    refine gf_X8_1 C0 hW (C0.mem (i := 3) (Nat.le_of_ble_eq_true rfl)) k_3 tf_X8_11 dX8_sign_6 ?_
    refine gl_21 C0 hW (C0.mem (i := 4) (Nat.le_of_ble_eq_true rfl)) k_4 dX8_sign_9 ?_
    refine lv_icmp_ge (tgt := 22) C0.hx C0.hb dX8_sign_10 (by decide) (fun hc2 => ?_) (fun hc2 => ?_)
    · replace h := (if_pos hc2).symm.trans h
      refine g_sign C0 hW 45 (by decide) tf_X8_39 dX8_sign_22 ?_
      obtain rfl := Option.some.inj h
      exact g_aret C0 hW rfl rfl dX8_sign_25
    · replace h := (if_neg hc2).symm.trans h
      refine lv_aload_n C0.hx C0.hb dX8_sign_13 rfl (lv_at hl 0 rfl) ?_
      refine gf_X8_1 C0 hW (C0.mem (i := 3) (Nat.le_of_ble_eq_true rfl)) k_3 tf_X8_11 dX8_sign_14 ?_
      refine lv_iload_n C0.hx C0.hb dX8_sign_17 rfl (lv_at hl 1 rfl) ?_
      obtain ⟨hb3, h⟩ := g_if h
      refine ga_21 C0 hW (C0.mem (i := 4) (Nat.le_of_ble_eq_true rfl)) k_4 hb3 dX8_sign_18 ?_
      refine lv_goto (tgt := 25) C0.hx C0.hb dX8_sign_19 (by decide) ?_
      obtain rfl := Option.some.inj h
      exact g_aret C0 hW rfl rfl dX8_sign_25
set_option maxRecDepth 100000 in
set_option maxHeartbeats 4000000 in
theorem c_X8_place {l : Launch} {G : GL} {ids : List Nat} {y : MS} {o : Nat → Int32} {x : CS} {p1 : Int32} {q : Int32}    (h : f_X8_place p1 x = some q) : Met l yX8_place (.code yX8_place cX8_place 2 (Option.some Jvm.ClassFile.FieldType.int) :: gT) (g_rm 0 0 0) (va_Pc [.ref (g_ad G (3)), .int (p1)] (g_P G ids (x, y, o))) (g_Qi G ids q (x, y, o)) 0 0 (g_A G) := by
  unfold f_X8_place at h
  refine g_entry (by decide) (Nat.le_of_ble_eq_true rfl) (fun p e s m args below meth c ls C0 hl hW _ => ?_)
  have hl : lv_has ls 2 [(0, .ref (g_ad G (3))), (1, .int (p1))] := hl
  refine lv_iload_n C0.hx C0.hb dX8_place_0 rfl (lv_at hl 1 rfl) ?_
  refine lv_if_lt (tgt := 22) C0.hx C0.hb dX8_place_1 (by decide) (fun hc1 => ?_) (fun hc1 => ?_)
  · replace h := (if_pos hc1).symm.trans h
    refine lv_iconst (v := (0 : Int32)) C0.hx C0.hb dX8_place_22 (by decide) ?_
    obtain rfl := Option.some.inj h
    exact g_iret C0 hW rfl rfl rfl dX8_place_23
  · replace h := (if_neg hc1).symm.trans h
    refine lv_iload_n C0.hx C0.hb dX8_place_4 rfl (lv_at hl 1 rfl) ?_
    refine lv_aload_n C0.hx C0.hb dX8_place_5 rfl (lv_at hl 0 rfl) ?_
    refine gf_X8_2 C0 hW (C0.mem (i := 3) (Nat.le_of_ble_eq_true rfl)) k_3 tf_X8_17 dX8_place_6 ?_
    refine gl_22 C0 hW (C0.mem (i := 5) (Nat.le_of_ble_eq_true rfl)) k_5 dX8_place_9 ?_
    refine lv_icmp_ge (tgt := 22) C0.hx C0.hb dX8_place_10 (by decide) (fun hc2 => ?_) (fun hc2 => ?_)
    · replace h := (if_pos hc2).symm.trans h
      refine lv_iconst (v := (0 : Int32)) C0.hx C0.hb dX8_place_22 (by decide) ?_
      obtain rfl := Option.some.inj h
      exact g_iret C0 hW rfl rfl rfl dX8_place_23
    · replace h := (if_neg hc2).symm.trans h
      refine lv_aload_n C0.hx C0.hb dX8_place_13 rfl (lv_at hl 0 rfl) ?_
      refine gf_X8_2 C0 hW (C0.mem (i := 3) (Nat.le_of_ble_eq_true rfl)) k_3 tf_X8_17 dX8_place_14 ?_
      refine lv_iload_n C0.hx C0.hb dX8_place_17 rfl (lv_at hl 1 rfl) ?_
      obtain ⟨hb3, h⟩ := g_if h
      refine ga_22 C0 hW (C0.mem (i := 5) (Nat.le_of_ble_eq_true rfl)) k_5 hb3 dX8_place_18 ?_
      refine lv_goto (tgt := 23) C0.hx C0.hb dX8_place_19 (by decide) ?_
      obtain rfl := Option.some.inj h
      exact g_iret C0 hW rfl rfl rfl dX8_place_23
set_option maxRecDepth 100000 in
set_option maxHeartbeats 4000000 in
theorem c_X8_value {l : Launch} {G : GL} {ids : List Nat} {y : MS} {o : Nat → Int32} {x : CS} {p1 : Int32} {q : Int32}    (h : f_X8_value p1 x = some q) : Met l yX8_value (.code yX8_value cX8_value 2 (Option.some Jvm.ClassFile.FieldType.int) :: gT) (g_rm 0 0 0) (va_Pc [.ref (g_ad G (3)), .int (p1)] (g_P G ids (x, y, o))) (g_Qi G ids q (x, y, o)) 0 0 (g_A G) := by
  unfold f_X8_value at h
  refine g_entry (by decide) (Nat.le_of_ble_eq_true rfl) (fun p e s m args below meth c ls C0 hl hW _ => ?_)
  have hl : lv_has ls 2 [(0, .ref (g_ad G (3))), (1, .int (p1))] := hl
  refine lv_iload_n C0.hx C0.hb dX8_value_0 rfl (lv_at hl 1 rfl) ?_
  refine lv_if_lt (tgt := 22) C0.hx C0.hb dX8_value_1 (by decide) (fun hc1 => ?_) (fun hc1 => ?_)
  · replace h := (if_pos hc1).symm.trans h
    refine lv_iconst (v := (0 : Int32)) C0.hx C0.hb dX8_value_22 (by decide) ?_
    obtain rfl := Option.some.inj h
    exact g_iret C0 hW rfl rfl rfl dX8_value_23
  · replace h := (if_neg hc1).symm.trans h
    refine lv_iload_n C0.hx C0.hb dX8_value_4 rfl (lv_at hl 1 rfl) ?_
    refine lv_aload_n C0.hx C0.hb dX8_value_5 rfl (lv_at hl 0 rfl) ?_
    refine gf_X8_4 C0 hW (C0.mem (i := 3) (Nat.le_of_ble_eq_true rfl)) k_3 tf_X8_24 dX8_value_6 ?_
    refine gl_22 C0 hW (C0.mem (i := 7) (Nat.le_of_ble_eq_true rfl)) k_7 dX8_value_9 ?_
    refine lv_icmp_ge (tgt := 22) C0.hx C0.hb dX8_value_10 (by decide) (fun hc2 => ?_) (fun hc2 => ?_)
    · replace h := (if_pos hc2).symm.trans h
      refine lv_iconst (v := (0 : Int32)) C0.hx C0.hb dX8_value_22 (by decide) ?_
      obtain rfl := Option.some.inj h
      exact g_iret C0 hW rfl rfl rfl dX8_value_23
    · replace h := (if_neg hc2).symm.trans h
      refine lv_aload_n C0.hx C0.hb dX8_value_13 rfl (lv_at hl 0 rfl) ?_
      refine gf_X8_4 C0 hW (C0.mem (i := 3) (Nat.le_of_ble_eq_true rfl)) k_3 tf_X8_24 dX8_value_14 ?_
      refine lv_iload_n C0.hx C0.hb dX8_value_17 rfl (lv_at hl 1 rfl) ?_
      obtain ⟨hb3, h⟩ := g_if h
      refine ga_22 C0 hW (C0.mem (i := 7) (Nat.le_of_ble_eq_true rfl)) k_7 hb3 dX8_value_18 ?_
      refine lv_goto (tgt := 23) C0.hx C0.hb dX8_value_19 (by decide) ?_
      obtain rfl := Option.some.inj h
      exact g_iret C0 hW rfl rfl rfl dX8_value_23
set_option maxRecDepth 100000 in
set_option maxHeartbeats 4000000 in
theorem c_X9_addWord {l : Launch} {G : GL} {ids : List Nat} {y : MS} {o : Nat → Int32} {x : CS} {t : Nat} {q : CS}   (hk_t : kd t = 9) (h : f_X9_addWord t x = some q) : Met l yX9_addWord (.code yX9_addWord cX9_addWord 2 (Option.none : Option Jvm.ClassFile.FieldType) :: gT) (g_rm 1 0 0) (va_Pc [.ref (g_ad G (t))] (g_P G ids (x, y, o))) (g_Qv G ids (q, y, o)) 0 0 (g_A G) := by
  unfold f_X9_addWord at h
  refine g_entry (by decide) (Nat.le_of_ble_eq_true rfl) (fun p e s m args below meth c ls C0 hl hW _ => ?_)
  have hl : lv_has ls 2 [(0, .ref (g_ad G (t)))] := hl
  refine lv_aload_n C0.hx C0.hb dX9_addWord_0 rfl (lv_at hl 0 rfl) ?_
  refine gf_X9_2 C0 hW (C0.mem (kl9 hk_t)) hk_t tf_X9_22 dX9_addWord_1 ?_
  refine lv_bipush (v := (8 : Int32)) C0.hx C0.hb dX9_addWord_4 (by decide) ?_
  refine lv_icmp_ge (tgt := 48) C0.hx C0.hb dX9_addWord_6 (by decide) (fun hc1 => ?_) (fun hc1 => ?_)
  · replace h := (if_pos hc1).symm.trans h
    obtain rfl := Option.some.inj h
    exact g_vret C0 hW rfl dX9_addWord_48
  · replace h := (if_neg hc1).symm.trans h
    refine lv_aload_n C0.hx C0.hb dX9_addWord_9 rfl (lv_at hl 0 rfl) ?_
    refine lv_aload_n C0.hx C0.hb dX9_addWord_10 rfl (lv_at hl 0 rfl) ?_
    refine gf_X9_2 C0 hW (C0.mem (kl9 hk_t)) hk_t tf_X9_22 dX9_addWord_11 ?_
    obtain ⟨q2, hq2, h⟩ := Option.bind_eq_some_iff.mp h
    obtain ⟨hk3, h⟩ := g_if h
    refine g_callr hW (g_runV (As := [.int (x.1 t 2)]) (rest := []) C0 hW (c_X9_word hk_t hq2) (g_cwOf (n := 1) tc_X9_word tn_X9 md_X9_word (by decide) (by omega)) tm_X9_32 ti_X9_word ts_X9_word (C0.mem (kl9 hk_t)) (g_c9 hk_t) rfl rfl hl.1 rfl (Nat.le_of_ble_eq_true rfl) dX9_addWord_14) (fun H locs hW => ?_)
    refine lv_astore_n (lv' := [(1, .ref (g_ad G (q2))), (0, .ref (g_ad G (t)))]) C0.hx C0.hb dX9_addWord_17 rfl hl (by decide) rfl (fun ls hl => ?_)
    refine lv_aload_n C0.hx C0.hb dX9_addWord_18 rfl (lv_at hl 0 rfl) ?_
    refine gfN_X11_0 C0 hW (C0.mem (kl10 hk3)) hk3 tfN_X9_36 dX9_addWord_19 ?_
    refine lv_iconst (v := (0 : Int32)) C0.hx C0.hb dX9_addWord_22 (by decide) ?_
    refine gpN_X3_1 C0 hW (C0.mem (kl5 (ko10_0 hk3))) (ko10_0 hk3) tfN_X9_40 dX9_addWord_23 (fun H locs hW => ?_)
    refine lv_aload_n C0.hx C0.hb dX9_addWord_26 rfl (lv_at hl 0 rfl) ?_
    refine lv_iconst (v := (0 : Int32)) C0.hx C0.hb dX9_addWord_27 (by decide) ?_
    refine gpN_X11_1 C0 hW (Or.inl rfl) (C0.mem (kl10 hk3)) hk3 tfN_X9_45 dX9_addWord_28 (fun H locs hW => ?_)
    refine lv_aload_n C0.hx C0.hb dX9_addWord_31 rfl (lv_at hl 0 rfl) ?_
    refine lv_sipush (v := (999 : Int32)) C0.hx C0.hb dX9_addWord_32 (by decide) ?_
    refine gpN_X11_2 C0 hW (C0.mem (kl10 hk3)) hk3 tfN_X9_49 dX9_addWord_35 (fun H locs hW => ?_)
    refine lv_aload_n C0.hx C0.hb dX9_addWord_38 rfl (lv_at hl 1 rfl) ?_
    refine lv_dup C0.hx C0.hb dX9_addWord_39 rfl ?_
    refine gf_X9_2 C0 hW (C0.mem (kl9 hk_t)) hk_t tf_X9_22 dX9_addWord_40 ?_
    refine lv_iconst (v := (1 : Int32)) C0.hx C0.hb dX9_addWord_43 (by decide) ?_
    refine lv_iadd C0.hx C0.hb dX9_addWord_44 ?_
    refine gp_X9_2 C0 hW (C0.mem (kl9 hk_t)) hk_t tf_X9_22 dX9_addWord_45 (fun H locs hW => ?_)
    obtain rfl := Option.some.inj h
    exact g_vret C0 hW rfl dX9_addWord_48
set_option maxRecDepth 100000 in
set_option maxHeartbeats 4000000 in
theorem c_X3_add {l : Launch} {G : GL} {ids : List Nat} {y : MS} {o : Nat → Int32} {x : CS} {t : Nat} {p1 : Int32} {q : CS}   (hk_t : kd t = 5) (h : f_X3_add t p1 x = some q) : Met l yX3_add (.code yX3_add cX3_add 2 (Option.none : Option Jvm.ClassFile.FieldType) :: gT) (g_rm 0 0 0) (va_Pc [.ref (g_ad G (t)), .int (p1)] (g_P G ids (x, y, o))) (g_Qv G ids (q, y, o)) 0 0 (g_A G) := by
  unfold f_X3_add at h
  refine g_entry (by decide) (Nat.le_of_ble_eq_true rfl) (fun p e s m args below meth c ls C0 hl hW _ => ?_)
  have hl : lv_has ls 2 [(0, .ref (g_ad G (t))), (1, .int (p1))] := hl
  refine lv_aload_n C0.hx C0.hb dX3_add_0 rfl (lv_at hl 0 rfl) ?_
  refine gf_X3_1 C0 hW (C0.mem (kl5 hk_t)) hk_t tf_X3_15 dX3_add_1 ?_
  refine lv_if_lt (tgt := 39) C0.hx C0.hb dX3_add_4 (by decide) (fun hc1 => ?_) (fun hc1 => ?_)
  · replace h := (if_pos hc1).symm.trans h
    obtain rfl := Option.some.inj h
    exact g_vret C0 hW rfl dX3_add_39
  · replace h := (if_neg hc1).symm.trans h
    refine lv_aload_n C0.hx C0.hb dX3_add_7 rfl (lv_at hl 0 rfl) ?_
    refine gf_X3_1 C0 hW (C0.mem (kl5 hk_t)) hk_t tf_X3_15 dX3_add_8 ?_
    refine lv_aload_n C0.hx C0.hb dX3_add_11 rfl (lv_at hl 0 rfl) ?_
    refine gf_X3_0 C0 hW (C0.mem (kl5 hk_t)) hk_t tf_X3_9 dX3_add_12 ?_
    refine gl_24 C0 hW (C0.mem (kl24 (ko5_0 hk_t))) (ko5_0 hk_t) dX3_add_15 ?_
    refine lv_icmp_ge (tgt := 39) C0.hx C0.hb dX3_add_16 (by decide) (fun hc2 => ?_) (fun hc2 => ?_)
    · replace h := (if_pos hc2).symm.trans h
      obtain rfl := Option.some.inj h
      exact g_vret C0 hW rfl dX3_add_39
    · replace h := (if_neg hc2).symm.trans h
      refine lv_aload_n C0.hx C0.hb dX3_add_19 rfl (lv_at hl 0 rfl) ?_
      refine gf_X3_0 C0 hW (C0.mem (kl5 hk_t)) hk_t tf_X3_9 dX3_add_20 ?_
      refine lv_aload_n C0.hx C0.hb dX3_add_23 rfl (lv_at hl 0 rfl) ?_
      refine gf_X3_1 C0 hW (C0.mem (kl5 hk_t)) hk_t tf_X3_15 dX3_add_24 ?_
      refine lv_iload_n C0.hx C0.hb dX3_add_27 rfl (lv_at hl 1 rfl) ?_
      obtain ⟨hb3, h⟩ := g_if h
      refine gs_24 C0 hW (C0.mem (kl24 (ko5_0 hk_t))) (ko5_0 hk_t) hb3 dX3_add_28 (fun H locs hW => ?_)
      refine lv_aload_n C0.hx C0.hb dX3_add_29 rfl (lv_at hl 0 rfl) ?_
      refine lv_dup C0.hx C0.hb dX3_add_30 rfl ?_
      refine gf_X3_1 C0 hW (C0.mem (kl5 hk_t)) hk_t tf_X3_15 dX3_add_31 ?_
      refine lv_iconst (v := (1 : Int32)) C0.hx C0.hb dX3_add_34 (by decide) ?_
      refine lv_iadd C0.hx C0.hb dX3_add_35 ?_
      refine gp_X3_1 C0 hW (C0.mem (kl5 hk_t)) hk_t tf_X3_15 dX3_add_36 (fun H locs hW => ?_)
      obtain rfl := Option.some.inj h
      exact g_vret C0 hW rfl dX3_add_39
set_option maxRecDepth 100000 in
set_option maxHeartbeats 4000000 in
theorem w_X3_addGlide_3 {p : Program} {l : Launch} {e : Env} {s : State} {m : MethodId} {args : Array Value} {below : List Frame} {meth : Method} {c : Code} {G : GL} {ids : List Nat} {y : MS} {o : Nat → Int32}  {q : CS}   (C0 : g_X G ids p s m args meth c cX3_addGlide 5 RX3 (Option.none : Option Jvm.ClassFile.FieldType))  : ∀ (n : Nat) (l0 : Nat) (l1 : Int32) (l2 : Int32) (l3 : Int32) (l4 : Int32) (x : CS) (H : Heap) (locs : List Loc) (ls : Array Slot), kd l0 = 5 → f_X3_addGlide_3 n l0 l1 l2 l3 l4 x = some q → g_W G ids (x, y, o) s.heap H locs → lv_has ls 5 [(0, .ref (g_ad G (l0))), (1, .int (l1)), (2, .int (l2)), (3, .int (l3)), (4, .int (l4))] → W p l e (g_rm 1 0 0) s m args below meth c H locs 0 0 (MQ below (g_Qv G ids (q, y, o)) args s 0 0 (g_A G)) (F0 m 3 ls []) := by
  intro n
  induction n with
  | zero =>
    intro l0 l1 l2 l3 l4 x H locs ls hk_l0 h hW hl
    exact absurd h (by simp [f_X3_addGlide_3])
  | succ n ih =>
    intro l0 l1 l2 l3 l4 x H locs ls hk_l0 h hW hl
    unfold f_X3_addGlide_3 at h
    refine lv_iload C0.hx C0.hb dX3_addGlide_3 (lv_at hl 4 rfl) ?_
    refine lv_iload_n C0.hx C0.hb dX3_addGlide_5 rfl (lv_at hl 3 rfl) ?_
    refine lv_icmp_ge (tgt := 38) C0.hx C0.hb dX3_addGlide_6 (by decide) (fun hc1 => ?_) (fun hc1 => ?_)
    · replace h := (if_pos hc1).symm.trans h
      obtain rfl := Option.some.inj h
      exact g_vret C0 hW rfl dX3_addGlide_38
    · replace h := (if_neg hc1).symm.trans h
      refine lv_iload C0.hx C0.hb dX3_addGlide_9 (lv_at hl 4 rfl) ?_
      refine lv_bipush (v := (9 : Int32)) C0.hx C0.hb dX3_addGlide_11 (by decide) ?_
      refine lv_icmp_ge (tgt := 38) C0.hx C0.hb dX3_addGlide_13 (by decide) (fun hc2 => ?_) (fun hc2 => ?_)
      · replace h := (if_pos hc2).symm.trans h
        obtain rfl := Option.some.inj h
        exact g_vret C0 hW rfl dX3_addGlide_38
      · replace h := (if_neg hc2).symm.trans h
        refine lv_aload_n C0.hx C0.hb dX3_addGlide_16 rfl (lv_at hl 0 rfl) ?_
        refine lv_iload_n C0.hx C0.hb dX3_addGlide_17 rfl (lv_at hl 1 rfl) ?_
        refine lv_iload_n C0.hx C0.hb dX3_addGlide_18 rfl (lv_at hl 2 rfl) ?_
        refine lv_iload_n C0.hx C0.hb dX3_addGlide_19 rfl (lv_at hl 1 rfl) ?_
        refine lv_isub C0.hx C0.hb dX3_addGlide_20 ?_
        refine lv_iload C0.hx C0.hb dX3_addGlide_21 (lv_at hl 4 rfl) ?_
        refine lv_imul C0.hx C0.hb dX3_addGlide_23 ?_
        refine lv_iload_n C0.hx C0.hb dX3_addGlide_24 rfl (lv_at hl 3 rfl) ?_
        obtain ⟨q3, hq3, h⟩ := Option.bind_eq_some_iff.mp h
        refine g_calli hW (g_runSN (As := [.int ((l2 - l1) * l4), .int (l3)]) (rest := [.int (l1), .ref (g_ad G (l0))]) C0 hW (c_X12_quotient hq3) (g_cwOf (n := 2) tc_X12_quotient tn_X12 md_X12_quotient (by decide) (by omega)) tmN_X3_23 tz_X12_quotient rfl hl.1 rfl (Nat.le_of_ble_eq_true rfl) dX3_addGlide_25) (fun H locs hW => ?_)
        refine lv_iadd C0.hx C0.hb dX3_addGlide_28 ?_
        obtain ⟨q4, hq4, h⟩ := Option.bind_eq_some_iff.mp h
        refine g_callv hW (g_runV (As := [.int (l1 + q3)]) (rest := []) C0 hW (c_X3_add hk_l0 hq4) (g_cwOf (n := 1) tc_X3_add tn_X3 md_X3_add (by decide) (by omega)) tm_X3_27 ti_X3_add ts_X3_add (C0.mem (kl5 hk_l0)) (g_c5 hk_l0) rfl rfl hl.1 rfl (Nat.le_of_ble_eq_true rfl) dX3_addGlide_29) (fun H locs hW => ?_)
        refine lv_iinc (v := l4 + (1 : Int32)) (lv' := [(4, .int (l4 + (1 : Int32))), (0, .ref (g_ad G (l0))), (1, .int (l1)), (2, .int (l2)), (3, .int (l3))]) C0.hx C0.hb dX3_addGlide_32 hl (k := 4) rfl rfl (by decide) rfl (fun ls hl => ?_)
        refine lv_goto (tgt := 3) C0.hx C0.hb dX3_addGlide_35 (by decide) ?_
        exact ih _ _ _ _ _ _ _ _ _ hk_l0 h hW (lv_sub hl [1, 2, 3, 4, 0] rfl)
set_option maxRecDepth 100000 in
set_option maxHeartbeats 4000000 in
theorem c_X3_addGlide {l : Launch} {G : GL} {ids : List Nat} {y : MS} {o : Nat → Int32} {x : CS} {t : Nat} {p1 : Int32} {p2 : Int32} {p3 : Int32} {q : CS}   (hk_t : kd t = 5) (h : f_X3_addGlide t p1 p2 p3 x = some q) : Met l yX3_addGlide (.code yX3_addGlide cX3_addGlide 5 (Option.none : Option Jvm.ClassFile.FieldType) :: gT) (g_rm 1 0 0) (va_Pc [.ref (g_ad G (t)), .int (p1), .int (p2), .int (p3)] (g_P G ids (x, y, o))) (g_Qv G ids (q, y, o)) 0 0 (g_A G) := by
  unfold f_X3_addGlide at h
  refine g_entry (by decide) (Nat.le_of_ble_eq_true rfl) (fun p e s m args below meth c ls C0 hl hW _ => ?_)
  have hl : lv_has ls 5 [(0, .ref (g_ad G (t))), (1, .int (p1)), (2, .int (p2)), (3, .int (p3))] := hl
  refine lv_iconst (v := (0 : Int32)) C0.hx C0.hb dX3_addGlide_0 (by decide) ?_
  refine lv_istore (lv' := [(4, .int ((0 : Int32))), (0, .ref (g_ad G (t))), (1, .int (p1)), (2, .int (p2)), (3, .int (p3))]) C0.hx C0.hb dX3_addGlide_1 hl (by decide) rfl (fun ls hl => ?_)
  exact w_X3_addGlide_3 C0 g_fuel _ _ _ _ _ _ _ _ _ hk_t h hW (lv_sub hl [1, 2, 3, 4, 0] rfl)
set_option maxRecDepth 100000 in
set_option maxHeartbeats 4000000 in
theorem c_X5_addSign {l : Launch} {G : GL} {ids : List Nat} {y : MS} {o : Nat → Int32} {x : CS} {t : Nat} {p1 : Nat} {p2 : Int32} {q : CS}   (hk_t : kd t = 7) (h : f_X5_addSign t p1 p2 x = some q) : Met l yX5_addSign (.code yX5_addSign cX5_addSign 3 (Option.none : Option Jvm.ClassFile.FieldType) :: gT) (g_rm 0 0 0) (va_Pc [.ref (g_ad G (t)), .ref (g_sg G (p1)), .int (p2)] (g_P G ids (x, y, o))) (g_Qv G ids (q, y, o)) 0 0 (g_A G) := by
  unfold f_X5_addSign at h
  refine g_entry (by decide) (Nat.le_of_ble_eq_true rfl) (fun p e s m args below meth c ls C0 hl hW _ => ?_)
  have hl : lv_has ls 3 [(0, .ref (g_ad G (t))), (1, .ref (g_sg G (p1))), (2, .int (p2))] := hl
  refine lv_aload_n C0.hx C0.hb dX5_addSign_0 rfl (lv_at hl 0 rfl) ?_
  refine gf_X5_5 C0 hW (C0.mem (kl7 hk_t)) hk_t tf_X5_36 dX5_addSign_1 ?_
  refine lv_if_lt (tgt := 61) C0.hx C0.hb dX5_addSign_4 (by decide) (fun hc1 => ?_) (fun hc1 => ?_)
  · replace h := (if_pos hc1).symm.trans h
    obtain rfl := Option.some.inj h
    exact g_vret C0 hW rfl dX5_addSign_61
  · replace h := (if_neg hc1).symm.trans h
    refine lv_aload_n C0.hx C0.hb dX5_addSign_7 rfl (lv_at hl 0 rfl) ?_
    refine gf_X5_5 C0 hW (C0.mem (kl7 hk_t)) hk_t tf_X5_36 dX5_addSign_8 ?_
    refine lv_aload_n C0.hx C0.hb dX5_addSign_11 rfl (lv_at hl 0 rfl) ?_
    refine gf_X5_2 C0 hW (C0.mem (kl7 hk_t)) hk_t tf_X5_24 dX5_addSign_12 ?_
    refine gl_27 C0 hW (C0.mem (kl27 (ko7_2 hk_t))) (ko7_2 hk_t) dX5_addSign_15 ?_
    refine lv_icmp_ge (tgt := 61) C0.hx C0.hb dX5_addSign_16 (by decide) (fun hc2 => ?_) (fun hc2 => ?_)
    · replace h := (if_pos hc2).symm.trans h
      obtain rfl := Option.some.inj h
      exact g_vret C0 hW rfl dX5_addSign_61
    · replace h := (if_neg hc2).symm.trans h
      refine lv_aload_n C0.hx C0.hb dX5_addSign_19 rfl (lv_at hl 0 rfl) ?_
      refine gf_X5_5 C0 hW (C0.mem (kl7 hk_t)) hk_t tf_X5_36 dX5_addSign_20 ?_
      refine lv_aload_n C0.hx C0.hb dX5_addSign_23 rfl (lv_at hl 0 rfl) ?_
      refine gf_X5_3 C0 hW (C0.mem (kl7 hk_t)) hk_t tf_X5_28 dX5_addSign_24 ?_
      refine gl_25 C0 hW (C0.mem (kl25 (ko7_3 hk_t))) (ko7_3 hk_t) dX5_addSign_27 ?_
      refine lv_icmp_ge (tgt := 61) C0.hx C0.hb dX5_addSign_28 (by decide) (fun hc3 => ?_) (fun hc3 => ?_)
      · replace h := (if_pos hc3).symm.trans h
        obtain rfl := Option.some.inj h
        exact g_vret C0 hW rfl dX5_addSign_61
      · replace h := (if_neg hc3).symm.trans h
        refine lv_aload_n C0.hx C0.hb dX5_addSign_31 rfl (lv_at hl 0 rfl) ?_
        refine gf_X5_2 C0 hW (C0.mem (kl7 hk_t)) hk_t tf_X5_24 dX5_addSign_32 ?_
        refine lv_aload_n C0.hx C0.hb dX5_addSign_35 rfl (lv_at hl 0 rfl) ?_
        refine gf_X5_5 C0 hW (C0.mem (kl7 hk_t)) hk_t tf_X5_36 dX5_addSign_36 ?_
        refine lv_aload_n C0.hx C0.hb dX5_addSign_39 rfl (lv_at hl 1 rfl) ?_
        obtain ⟨hb4, h⟩ := g_if h
        obtain ⟨hs5, h⟩ := g_if h
        refine gs_27 C0 hW hs5 (C0.mem (kl27 (ko7_2 hk_t))) (ko7_2 hk_t) hb4 dX5_addSign_40 (fun H locs hW => ?_)
        refine lv_aload_n C0.hx C0.hb dX5_addSign_41 rfl (lv_at hl 0 rfl) ?_
        refine gf_X5_3 C0 hW (C0.mem (kl7 hk_t)) hk_t tf_X5_28 dX5_addSign_42 ?_
        refine lv_aload_n C0.hx C0.hb dX5_addSign_45 rfl (lv_at hl 0 rfl) ?_
        refine gf_X5_5 C0 hW (C0.mem (kl7 hk_t)) hk_t tf_X5_36 dX5_addSign_46 ?_
        refine lv_iload_n C0.hx C0.hb dX5_addSign_49 rfl (lv_at hl 2 rfl) ?_
        obtain ⟨hb6, h⟩ := g_if h
        refine gs_25 C0 hW (C0.mem (kl25 (ko7_3 hk_t))) (ko7_3 hk_t) hb6 dX5_addSign_50 (fun H locs hW => ?_)
        refine lv_aload_n C0.hx C0.hb dX5_addSign_51 rfl (lv_at hl 0 rfl) ?_
        refine lv_dup C0.hx C0.hb dX5_addSign_52 rfl ?_
        refine gf_X5_5 C0 hW (C0.mem (kl7 hk_t)) hk_t tf_X5_36 dX5_addSign_53 ?_
        refine lv_iconst (v := (1 : Int32)) C0.hx C0.hb dX5_addSign_56 (by decide) ?_
        refine lv_iadd C0.hx C0.hb dX5_addSign_57 ?_
        refine gp_X5_5 C0 hW (C0.mem (kl7 hk_t)) hk_t tf_X5_36 dX5_addSign_58 (fun H locs hW => ?_)
        obtain rfl := Option.some.inj h
        exact g_vret C0 hW rfl dX5_addSign_61
set_option maxRecDepth 100000 in
set_option maxHeartbeats 4000000 in
theorem c_X5_addRule {l : Launch} {G : GL} {ids : List Nat} {y : MS} {o : Nat → Int32} {x : CS} {t : Nat} {p1 : Nat} {p2 : Int32} {p3 : Int32} {p4 : Int32} {q : CS}   (hk_t : kd t = 7) (h : f_X5_addRule t p1 p2 p3 p4 x = some q) : Met l yX5_addRule (.code yX5_addRule cX5_addRule 6 (Option.none : Option Jvm.ClassFile.FieldType) :: gT) (g_rm 1 0 0) (va_Pc [.ref (g_ad G (t)), .ref (g_sg G (p1)), .int (p2), .int (p3), .int (p4)] (g_P G ids (x, y, o))) (g_Qv G ids (q, y, o)) 0 0 (g_A G) := by
  unfold f_X5_addRule at h
  refine g_entry (by decide) (Nat.le_of_ble_eq_true rfl) (fun p e s m args below meth c ls C0 hl hW _ => ?_)
  have hl : lv_has ls 6 [(0, .ref (g_ad G (t))), (1, .ref (g_sg G (p1))), (2, .int (p2)), (3, .int (p3)), (4, .int (p4))] := hl
  refine lv_aload_n C0.hx C0.hb dX5_addRule_0 rfl (lv_at hl 0 rfl) ?_
  refine gf_X5_4 C0 hW (C0.mem (kl7 hk_t)) hk_t tf_X5_32 dX5_addRule_1 ?_
  refine lv_bipush (v := (16 : Int32)) C0.hx C0.hb dX5_addRule_4 (by decide) ?_
  refine lv_icmp_ge (tgt := 63) C0.hx C0.hb dX5_addRule_6 (by decide) (fun hc1 => ?_) (fun hc1 => ?_)
  · replace h := (if_pos hc1).symm.trans h
    obtain rfl := Option.some.inj h
    exact g_vret C0 hW rfl dX5_addRule_63
  · replace h := (if_neg hc1).symm.trans h
    refine lv_aload_n C0.hx C0.hb dX5_addRule_9 rfl (lv_at hl 0 rfl) ?_
    refine lv_aload_n C0.hx C0.hb dX5_addRule_10 rfl (lv_at hl 0 rfl) ?_
    refine gf_X5_4 C0 hW (C0.mem (kl7 hk_t)) hk_t tf_X5_32 dX5_addRule_11 ?_
    obtain ⟨q2, hq2, h⟩ := Option.bind_eq_some_iff.mp h
    obtain ⟨hk3, h⟩ := g_if h
    refine g_callr hW (g_runV (As := [.int (x.1 t 4)]) (rest := []) C0 hW (c_X5_rule hk_t hq2) (g_cwOf (n := 1) tc_X5_rule tn_X5 md_X5_rule (by decide) (by omega)) tm_X5_49 ti_X5_rule ts_X5_rule (C0.mem (kl7 hk_t)) (g_c7 hk_t) rfl rfl hl.1 rfl (Nat.le_of_ble_eq_true rfl) dX5_addRule_14) (fun H locs hW => ?_)
    refine lv_astore (lv' := [(5, .ref (g_ad G (q2))), (0, .ref (g_ad G (t))), (1, .ref (g_sg G (p1))), (2, .int (p2)), (3, .int (p3)), (4, .int (p4))]) C0.hx C0.hb dX5_addRule_17 hl (by decide) rfl (fun ls hl => ?_)
    refine lv_aload C0.hx C0.hb dX5_addRule_19 (lv_at hl 0 rfl) ?_
    refine lv_aload_n C0.hx C0.hb dX5_addRule_21 rfl (lv_at hl 2 rfl) ?_
    refine gpN_X4_0 C0 hW (C0.mem (kl8 hk3)) hk3 tfN_X5_53 dX5_addRule_22 (fun H locs hW => ?_)
    refine lv_aload C0.hx C0.hb dX5_addRule_25 (lv_at hl 0 rfl) ?_
    refine lv_iload_n C0.hx C0.hb dX5_addRule_27 rfl (lv_at hl 3 rfl) ?_
    refine gpN_X4_1 C0 hW (C0.mem (kl8 hk3)) hk3 tfN_X5_56 dX5_addRule_28 (fun H locs hW => ?_)
    refine lv_aload C0.hx C0.hb dX5_addRule_31 (lv_at hl 0 rfl) ?_
    refine lv_iload_n C0.hx C0.hb dX5_addRule_33 rfl (lv_at hl 4 rfl) ?_
    refine gpN_X4_2 C0 hW (C0.mem (kl8 hk3)) hk3 tfN_X5_59 dX5_addRule_34 (fun H locs hW => ?_)
    refine lv_aload C0.hx C0.hb dX5_addRule_37 (lv_at hl 0 rfl) ?_
    refine lv_iload C0.hx C0.hb dX5_addRule_39 (lv_at hl 5 rfl) ?_
    refine gpN_X4_3 C0 hW (C0.mem (kl8 hk3)) hk3 tfN_X5_62 dX5_addRule_41 (fun H locs hW => ?_)
    refine lv_aload C0.hx C0.hb dX5_addRule_44 (lv_at hl 0 rfl) ?_
    refine lv_aload_n C0.hx C0.hb dX5_addRule_46 rfl (lv_at hl 1 rfl) ?_
    refine gf_X5_5 C0 hW (C0.mem (kl7 hk_t)) hk_t tf_X5_36 dX5_addRule_47 ?_
    refine gpN_X4_4 C0 hW (C0.mem (kl8 hk3)) hk3 tfN_X5_65 dX5_addRule_50 (fun H locs hW => ?_)
    refine lv_aload_n C0.hx C0.hb dX5_addRule_53 rfl (lv_at hl 1 rfl) ?_
    refine lv_dup C0.hx C0.hb dX5_addRule_54 rfl ?_
    refine gf_X5_4 C0 hW (C0.mem (kl7 hk_t)) hk_t tf_X5_32 dX5_addRule_55 ?_
    refine lv_iconst (v := (1 : Int32)) C0.hx C0.hb dX5_addRule_58 (by decide) ?_
    refine lv_iadd C0.hx C0.hb dX5_addRule_59 ?_
    refine gp_X5_4 C0 hW (C0.mem (kl7 hk_t)) hk_t tf_X5_32 dX5_addRule_60 (fun H locs hW => ?_)
    obtain rfl := Option.some.inj h
    exact g_vret C0 hW rfl dX5_addRule_63
set_option maxRecDepth 100000 in
set_option maxHeartbeats 4000000 in
theorem c_X3_contour {l : Launch} {G : GL} {ids : List Nat} {y : MS} {o : Nat → Int32} {x : CS} {t : Nat} {p1 : Int32} {q : Int32}   (hk_t : kd t = 5) (h : f_X3_contour t p1 x = some q) : Met l yX3_contour (.code yX3_contour cX3_contour 4 (Option.some Jvm.ClassFile.FieldType.int) :: gT) (g_rm 1 0 0) (va_Pc [.ref (g_ad G (t)), .int (p1)] (g_P G ids (x, y, o))) (g_Qi G ids q (x, y, o)) 0 0 (g_A G) := by
  unfold f_X3_contour at h
  refine g_entry (by decide) (Nat.le_of_ble_eq_true rfl) (fun p e s m args below meth c ls C0 hl hW _ => ?_)
  have hl : lv_has ls 4 [(0, .ref (g_ad G (t))), (1, .int (p1))] := hl
  refine lv_iload_n C0.hx C0.hb dX3_contour_0 rfl (lv_at hl 1 rfl) ?_
  refine lv_if_lt (tgt := 14) C0.hx C0.hb dX3_contour_1 (by decide) (fun hc1 => ?_) (fun hc1 => ?_)
  · replace h := (if_pos hc1).symm.trans h
    refine lv_iconst (v := (0 : Int32)) C0.hx C0.hb dX3_contour_14 (by decide) ?_
    obtain rfl := Option.some.inj h
    exact g_iret C0 hW rfl rfl rfl dX3_contour_15
  · replace h := (if_neg hc1).symm.trans h
    refine lv_iload_n C0.hx C0.hb dX3_contour_4 rfl (lv_at hl 1 rfl) ?_
    refine lv_aload_n C0.hx C0.hb dX3_contour_5 rfl (lv_at hl 0 rfl) ?_
    refine gf_X3_1 C0 hW (C0.mem (kl5 hk_t)) hk_t tf_X3_15 dX3_contour_6 ?_
    refine lv_iconst (v := (1 : Int32)) C0.hx C0.hb dX3_contour_9 (by decide) ?_
    refine lv_isub C0.hx C0.hb dX3_contour_10 ?_
    refine lv_icmp_lt (tgt := 16) C0.hx C0.hb dX3_contour_11 (by decide) (fun hc2 => ?_) (fun hc2 => ?_)
    · replace h := (if_pos hc2).symm.trans h
      refine lv_aload_n C0.hx C0.hb dX3_contour_16 rfl (lv_at hl 0 rfl) ?_
      refine lv_iload_n C0.hx C0.hb dX3_contour_17 rfl (lv_at hl 1 rfl) ?_
      obtain ⟨q3, hq3, h⟩ := Option.bind_eq_some_iff.mp h
      refine g_calli hW (g_runV (As := [.int (p1)]) (rest := []) C0 hW (c_X3_pitch hk_t hq3) (g_cwOf (n := 1) tc_X3_pitch tn_X3 md_X3_pitch (by decide) (by omega)) tm_X3_19 ti_X3_pitch ts_X3_pitch (C0.mem (kl5 hk_t)) (g_c5 hk_t) rfl rfl hl.1 rfl (Nat.le_of_ble_eq_true rfl) dX3_contour_18) (fun H locs hW => ?_)
      refine lv_istore_n (lv' := [(2, .int (q3)), (0, .ref (g_ad G (t))), (1, .int (p1))]) C0.hx C0.hb dX3_contour_21 rfl hl (by decide) rfl (fun ls hl => ?_)
      refine lv_aload_n C0.hx C0.hb dX3_contour_22 rfl (lv_at hl 1 rfl) ?_
      refine lv_iload_n C0.hx C0.hb dX3_contour_23 rfl (lv_at hl 2 rfl) ?_
      refine lv_iconst (v := (1 : Int32)) C0.hx C0.hb dX3_contour_24 (by decide) ?_
      refine lv_iadd C0.hx C0.hb dX3_contour_25 ?_
      obtain ⟨q4, hq4, h⟩ := Option.bind_eq_some_iff.mp h
      refine g_calli hW (g_runV (As := [.int (p1 + (1 : Int32))]) (rest := []) C0 hW (c_X3_pitch hk_t hq4) (g_cwOf (n := 1) tc_X3_pitch tn_X3 md_X3_pitch (by decide) (by omega)) tm_X3_19 ti_X3_pitch ts_X3_pitch (C0.mem (kl5 hk_t)) (g_c5 hk_t) rfl rfl hl.1 rfl (Nat.le_of_ble_eq_true rfl) dX3_contour_26) (fun H locs hW => ?_)
      refine lv_istore_n (lv' := [(3, .int (q4)), (2, .int (q3)), (0, .ref (g_ad G (t))), (1, .int (p1))]) C0.hx C0.hb dX3_contour_29 rfl hl (by decide) rfl (fun ls hl => ?_)
      refine lv_iload_n C0.hx C0.hb dX3_contour_30 rfl (lv_at hl 0 rfl) ?_
      refine lv_iload_n C0.hx C0.hb dX3_contour_31 rfl (lv_at hl 1 rfl) ?_
      refine lv_icmp_le (tgt := 39) C0.hx C0.hb dX3_contour_32 (by decide) (fun hc5 => ?_) (fun hc5 => ?_)
      · replace h := (if_pos hc5).symm.trans h
        refine lv_iload_n C0.hx C0.hb dX3_contour_39 rfl (lv_at hl 0 rfl) ?_
        refine lv_iload_n C0.hx C0.hb dX3_contour_40 rfl (lv_at hl 1 rfl) ?_
        refine lv_icmp_ge (tgt := 48) C0.hx C0.hb dX3_contour_41 (by decide) (fun hc6 => ?_) (fun hc6 => ?_)
        · replace h := (if_pos hc6).symm.trans h
          refine lv_iconst (v := (0 : Int32)) C0.hx C0.hb dX3_contour_48 (by decide) ?_
          obtain rfl := Option.some.inj h
          exact g_iret C0 hW rfl rfl rfl dX3_contour_49
        · replace h := (if_neg hc6).symm.trans h
          refine lv_iconst (v := (-1 : Int32)) C0.hx C0.hb dX3_contour_44 (by decide) ?_
          refine lv_goto (tgt := 49) C0.hx C0.hb dX3_contour_45 (by decide) ?_
          obtain rfl := Option.some.inj h
          exact g_iret C0 hW rfl rfl rfl dX3_contour_49
      · replace h := (if_neg hc5).symm.trans h
        refine lv_iconst (v := (1 : Int32)) C0.hx C0.hb dX3_contour_35 (by decide) ?_
        refine lv_goto (tgt := 49) C0.hx C0.hb dX3_contour_36 (by decide) ?_
        obtain rfl := Option.some.inj h
        exact g_iret C0 hW rfl rfl rfl dX3_contour_49
    · replace h := (if_neg hc2).symm.trans h
      refine lv_iconst (v := (0 : Int32)) C0.hx C0.hb dX3_contour_14 (by decide) ?_
      obtain rfl := Option.some.inj h
      exact g_iret C0 hW rfl rfl rfl dX3_contour_15
set_option maxRecDepth 100000 in
set_option maxHeartbeats 4000000 in
theorem w_X3_countSilent_4 {p : Program} {l : Launch} {e : Env} {s : State} {m : MethodId} {args : Array Value} {below : List Frame} {meth : Method} {c : Code} {G : GL} {ids : List Nat} {y : MS} {o : Nat → Int32} {x : CS} {q : Int32}   (C0 : g_X G ids p s m args meth c cX3_countSilent 3 RX3 (Option.some Jvm.ClassFile.FieldType.int))  : ∀ (n : Nat) (l0 : Nat) (l1 : Int32) (l2 : Int32)  (H : Heap) (locs : List Loc) (ls : Array Slot), kd l0 = 5 → f_X3_countSilent_4 x n l0 l1 l2 = some q → g_W G ids (x, y, o) s.heap H locs → lv_has ls 3 [(0, .ref (g_ad G (l0))), (1, .int (l1)), (2, .int (l2))] → W p l e (g_rm 1 0 0) s m args below meth c H locs 0 0 (MQ below (g_Qi G ids q (x, y, o)) args s 0 0 (g_A G)) (F0 m 4 ls []) := by
  intro n
  induction n with
  | zero =>
    intro l0 l1 l2 H locs ls hk_l0 h hW hl
    exact absurd h (by simp [f_X3_countSilent_4])
  | succ n ih =>
    intro l0 l1 l2 H locs ls hk_l0 h hW hl
    unfold f_X3_countSilent_4 at h
    refine lv_iload_n C0.hx C0.hb dX3_countSilent_4 rfl (lv_at hl 2 rfl) ?_
    refine lv_aload_n C0.hx C0.hb dX3_countSilent_5 rfl (lv_at hl 0 rfl) ?_
    refine gf_X3_1 C0 hW (C0.mem (kl5 hk_l0)) hk_l0 tf_X3_15 dX3_countSilent_6 ?_
    refine lv_icmp_ge (tgt := 29) C0.hx C0.hb dX3_countSilent_9 (by decide) (fun hc1 => ?_) (fun hc1 => ?_)
    · replace h := (if_pos hc1).symm.trans h
      refine lv_iload_n C0.hx C0.hb dX3_countSilent_29 rfl (lv_at hl 1 rfl) ?_
      obtain rfl := Option.some.inj h
      exact g_iret C0 hW rfl rfl rfl dX3_countSilent_30
    · replace h := (if_neg hc1).symm.trans h
      refine lv_aload_n C0.hx C0.hb dX3_countSilent_12 rfl (lv_at hl 0 rfl) ?_
      refine lv_iload_n C0.hx C0.hb dX3_countSilent_13 rfl (lv_at hl 2 rfl) ?_
      obtain ⟨q2, hq2, h⟩ := Option.bind_eq_some_iff.mp h
      refine g_calli hW (g_runV (As := [.int (l2)]) (rest := []) C0 hW (c_X3_pitch hk_l0 hq2) (g_cwOf (n := 1) tc_X3_pitch tn_X3 md_X3_pitch (by decide) (by omega)) tm_X3_19 ti_X3_pitch ts_X3_pitch (C0.mem (kl5 hk_l0)) (g_c5 hk_l0) rfl rfl hl.1 rfl (Nat.le_of_ble_eq_true rfl) dX3_countSilent_14) (fun H locs hW => ?_)
      refine lv_if_ne (tgt := 23) C0.hx C0.hb dX3_countSilent_17 (by decide) (fun hc3 => ?_) (fun hc3 => ?_)
      · replace h := (if_neg hc3).symm.trans h
        refine lv_iinc (v := l2 + (1 : Int32)) (lv' := [(2, .int (l2 + (1 : Int32))), (0, .ref (g_ad G (l0))), (1, .int (l1))]) C0.hx C0.hb dX3_countSilent_23 hl (k := 2) rfl rfl (by decide) rfl (fun ls hl => ?_)
        refine lv_goto (tgt := 4) C0.hx C0.hb dX3_countSilent_26 (by decide) ?_
        exact ih _ _ _ _ _ _ hk_l0 h hW (lv_sub hl [1, 2, 0] rfl)
      · replace h := (if_pos hc3).symm.trans h
        refine lv_iinc (v := l1 + (1 : Int32)) (lv' := [(1, .int (l1 + (1 : Int32))), (0, .ref (g_ad G (l0))), (2, .int (l2))]) C0.hx C0.hb dX3_countSilent_20 hl (k := 1) rfl rfl (by decide) rfl (fun ls hl => ?_)
        refine lv_iinc (v := l2 + (1 : Int32)) (lv' := [(2, .int (l2 + (1 : Int32))), (1, .int (l1 + (1 : Int32))), (0, .ref (g_ad G (l0)))]) C0.hx C0.hb dX3_countSilent_23 hl (k := 2) rfl rfl (by decide) rfl (fun ls hl => ?_)
        refine lv_goto (tgt := 4) C0.hx C0.hb dX3_countSilent_26 (by decide) ?_
        exact ih _ _ _ _ _ _ hk_l0 h hW (lv_sub hl [2, 1, 0] rfl)
set_option maxRecDepth 100000 in
set_option maxHeartbeats 4000000 in
theorem c_X3_countSilent {l : Launch} {G : GL} {ids : List Nat} {y : MS} {o : Nat → Int32} {x : CS} {t : Nat} {q : Int32}   (hk_t : kd t = 5) (h : f_X3_countSilent t x = some q) : Met l yX3_countSilent (.code yX3_countSilent cX3_countSilent 3 (Option.some Jvm.ClassFile.FieldType.int) :: gT) (g_rm 1 0 0) (va_Pc [.ref (g_ad G (t))] (g_P G ids (x, y, o))) (g_Qi G ids q (x, y, o)) 0 0 (g_A G) := by
  unfold f_X3_countSilent at h
  refine g_entry (by decide) (Nat.le_of_ble_eq_true rfl) (fun p e s m args below meth c ls C0 hl hW _ => ?_)
  have hl : lv_has ls 3 [(0, .ref (g_ad G (t)))] := hl
  refine lv_iconst (v := (0 : Int32)) C0.hx C0.hb dX3_countSilent_0 (by decide) ?_
  refine lv_istore_n (lv' := [(1, .int ((0 : Int32))), (0, .ref (g_ad G (t)))]) C0.hx C0.hb dX3_countSilent_1 rfl hl (by decide) rfl (fun ls hl => ?_)
  refine lv_iconst (v := (0 : Int32)) C0.hx C0.hb dX3_countSilent_2 (by decide) ?_
  refine lv_istore_n (lv' := [(2, .int ((0 : Int32))), (1, .int ((0 : Int32))), (0, .ref (g_ad G (t)))]) C0.hx C0.hb dX3_countSilent_3 rfl hl (by decide) rfl (fun ls hl => ?_)
  exact w_X3_countSilent_4 C0 g_fuel _ _ _ _ _ _ hk_t h hW (lv_sub hl [2, 1, 0] rfl)
set_option maxRecDepth 100000 in
set_option maxHeartbeats 4000000 in
theorem w_X3_copyFrom_10 {p : Program} {l : Launch} {e : Env} {s : State} {m : MethodId} {args : Array Value} {below : List Frame} {meth : Method} {c : Code} {G : GL} {ids : List Nat} {y : MS} {o : Nat → Int32}  {q : CS}   (C0 : g_X G ids p s m args meth c cX3_copyFrom 3 RX3 (Option.none : Option Jvm.ClassFile.FieldType))  : ∀ (n : Nat) (l0 : Nat) (l1 : Nat) (l2 : Int32) (x : CS) (H : Heap) (locs : List Loc) (ls : Array Slot), kd l0 = 5 → kd l1 = 5 → f_X3_copyFrom_10 n l0 l1 l2 x = some q → g_W G ids (x, y, o) s.heap H locs → lv_has ls 3 [(0, .ref (g_ad G (l0))), (1, .ref (g_ad G (l1))), (2, .int (l2))] → W p l e (g_rm 1 0 0) s m args below meth c H locs 0 0 (MQ below (g_Qv G ids (q, y, o)) args s 0 0 (g_A G)) (F0 m 10 ls []) := by
  intro n
  induction n with
  | zero =>
    intro l0 l1 l2 x H locs ls hk_l0 hk_l1 h hW hl
    exact absurd h (by simp [f_X3_copyFrom_10])
  | succ n ih =>
    intro l0 l1 l2 x H locs ls hk_l0 hk_l1 h hW hl
    unfold f_X3_copyFrom_10 at h
    refine lv_iload_n C0.hx C0.hb dX3_copyFrom_10 rfl (lv_at hl 2 rfl) ?_
    refine lv_aload_n C0.hx C0.hb dX3_copyFrom_11 rfl (lv_at hl 0 rfl) ?_
    refine gf_X3_0 C0 hW (C0.mem (kl5 hk_l0)) hk_l0 tf_X3_9 dX3_copyFrom_12 ?_
    refine gl_24 C0 hW (C0.mem (kl24 (ko5_0 hk_l0))) (ko5_0 hk_l0) dX3_copyFrom_15 ?_
    refine lv_icmp_ge (tgt := 36) C0.hx C0.hb dX3_copyFrom_16 (by decide) (fun hc1 => ?_) (fun hc1 => ?_)
    · replace h := (if_pos hc1).symm.trans h
      obtain rfl := Option.some.inj h
      exact g_vret C0 hW rfl dX3_copyFrom_36
    · replace h := (if_neg hc1).symm.trans h
      refine lv_aload_n C0.hx C0.hb dX3_copyFrom_19 rfl (lv_at hl 0 rfl) ?_
      refine gf_X3_0 C0 hW (C0.mem (kl5 hk_l0)) hk_l0 tf_X3_9 dX3_copyFrom_20 ?_
      refine lv_iload_n C0.hx C0.hb dX3_copyFrom_23 rfl (lv_at hl 2 rfl) ?_
      refine lv_aload_n C0.hx C0.hb dX3_copyFrom_24 rfl (lv_at hl 1 rfl) ?_
      refine lv_iload_n C0.hx C0.hb dX3_copyFrom_25 rfl (lv_at hl 2 rfl) ?_
      obtain ⟨q2, hq2, h⟩ := Option.bind_eq_some_iff.mp h
      refine g_calli hW (g_runV (As := [.int (l2)]) (rest := [.int (l2), .ref (g_ad G (l0 + 1))]) C0 hW (c_X3_pitch hk_l1 hq2) (g_cwOf (n := 1) tc_X3_pitch tn_X3 md_X3_pitch (by decide) (by omega)) tm_X3_19 ti_X3_pitch ts_X3_pitch (C0.mem (kl5 hk_l1)) (g_c5 hk_l1) rfl rfl hl.1 rfl (Nat.le_of_ble_eq_true rfl) dX3_copyFrom_26) (fun H locs hW => ?_)
      obtain ⟨hb3, h⟩ := g_if h
      refine gs_24 C0 hW (C0.mem (kl24 (ko5_0 hk_l0))) (ko5_0 hk_l0) hb3 dX3_copyFrom_29 (fun H locs hW => ?_)
      refine lv_iinc (v := l2 + (1 : Int32)) (lv' := [(2, .int (l2 + (1 : Int32))), (0, .ref (g_ad G (l0))), (1, .ref (g_ad G (l1)))]) C0.hx C0.hb dX3_copyFrom_30 hl (k := 2) rfl rfl (by decide) rfl (fun ls hl => ?_)
      refine lv_goto (tgt := 10) C0.hx C0.hb dX3_copyFrom_33 (by decide) ?_
      exact ih _ _ _ _ _ _ _ hk_l0 hk_l1 h hW (lv_sub hl [1, 2, 0] rfl)
set_option maxRecDepth 100000 in
set_option maxHeartbeats 4000000 in
theorem c_X3_copyFrom {l : Launch} {G : GL} {ids : List Nat} {y : MS} {o : Nat → Int32} {x : CS} {t : Nat} {p1 : Nat} {q : CS}   (hk_t : kd t = 5) (hk_p1 : kd p1 = 5) (h : f_X3_copyFrom t p1 x = some q) : Met l yX3_copyFrom (.code yX3_copyFrom cX3_copyFrom 3 (Option.none : Option Jvm.ClassFile.FieldType) :: gT) (g_rm 1 0 0) (va_Pc [.ref (g_ad G (t)), .ref (g_ad G (p1))] (g_P G ids (x, y, o))) (g_Qv G ids (q, y, o)) 0 0 (g_A G) := by
  unfold f_X3_copyFrom at h
  refine g_entry (by decide) (Nat.le_of_ble_eq_true rfl) (fun p e s m args below meth c ls C0 hl hW _ => ?_)
  have hl : lv_has ls 3 [(0, .ref (g_ad G (t))), (1, .ref (g_ad G (p1)))] := hl
  refine lv_aload_n C0.hx C0.hb dX3_copyFrom_0 rfl (lv_at hl 0 rfl) ?_
  refine lv_aload_n C0.hx C0.hb dX3_copyFrom_1 rfl (lv_at hl 1 rfl) ?_
  refine gf_X3_1 C0 hW (C0.mem (kl5 hk_p1)) hk_p1 tf_X3_15 dX3_copyFrom_2 ?_
  refine gp_X3_1 C0 hW (C0.mem (kl5 hk_t)) hk_t tf_X3_15 dX3_copyFrom_5 (fun H locs hW => ?_)
  refine lv_iconst (v := (0 : Int32)) C0.hx C0.hb dX3_copyFrom_8 (by decide) ?_
  refine lv_istore_n (lv' := [(2, .int ((0 : Int32))), (0, .ref (g_ad G (t))), (1, .ref (g_ad G (p1)))]) C0.hx C0.hb dX3_copyFrom_9 rfl hl (by decide) rfl (fun ls hl => ?_)
  exact w_X3_copyFrom_10 C0 g_fuel _ _ _ _ _ _ _ hk_t hk_p1 h hW (lv_sub hl [1, 2, 0] rfl)
set_option maxRecDepth 100000 in
set_option maxHeartbeats 4000000 in
theorem w_X3_traceContour_10 {p : Program} {l : Launch} {e : Env} {s : State} {m : MethodId} {args : Array Value} {below : List Frame} {meth : Method} {c : Code} {G : GL} {ids : List Nat} {y : MS} {o : Nat → Int32}  {q : CS}   (C0 : g_X G ids p s m args meth c cX3_traceContour 3 RX3 (Option.none : Option Jvm.ClassFile.FieldType))  : ∀ (n : Nat) (l0 : Nat) (l1 : Nat) (l2 : Int32) (x : CS) (H : Heap) (locs : List Loc) (ls : Array Slot), kd l0 = 5 → kd l1 = 5 → f_X3_traceContour_10 n l0 l1 l2 x = some q → g_W G ids (x, y, o) s.heap H locs → lv_has ls 3 [(0, .ref (g_ad G (l0))), (1, .ref (g_ad G (l1))), (2, .int (l2))] → W p l e (g_rm 2 0 0) s m args below meth c H locs 0 0 (MQ below (g_Qv G ids (q, y, o)) args s 0 0 (g_A G)) (F0 m 10 ls []) := by
  intro n
  induction n with
  | zero =>
    intro l0 l1 l2 x H locs ls hk_l0 hk_l1 h hW hl
    exact absurd h (by simp [f_X3_traceContour_10])
  | succ n ih =>
    intro l0 l1 l2 x H locs ls hk_l0 hk_l1 h hW hl
    unfold f_X3_traceContour_10 at h
    refine lv_iload_n C0.hx C0.hb dX3_traceContour_10 rfl (lv_at hl 2 rfl) ?_
    refine lv_aload_n C0.hx C0.hb dX3_traceContour_11 rfl (lv_at hl 0 rfl) ?_
    refine gf_X3_0 C0 hW (C0.mem (kl5 hk_l0)) hk_l0 tf_X3_9 dX3_traceContour_12 ?_
    refine gl_24 C0 hW (C0.mem (kl24 (ko5_0 hk_l0))) (ko5_0 hk_l0) dX3_traceContour_15 ?_
    refine lv_icmp_ge (tgt := 36) C0.hx C0.hb dX3_traceContour_16 (by decide) (fun hc1 => ?_) (fun hc1 => ?_)
    · replace h := (if_pos hc1).symm.trans h
      obtain rfl := Option.some.inj h
      exact g_vret C0 hW rfl dX3_traceContour_36
    · replace h := (if_neg hc1).symm.trans h
      refine lv_aload_n C0.hx C0.hb dX3_traceContour_19 rfl (lv_at hl 0 rfl) ?_
      refine gf_X3_0 C0 hW (C0.mem (kl5 hk_l0)) hk_l0 tf_X3_9 dX3_traceContour_20 ?_
      refine lv_iload_n C0.hx C0.hb dX3_traceContour_23 rfl (lv_at hl 2 rfl) ?_
      refine lv_aload_n C0.hx C0.hb dX3_traceContour_24 rfl (lv_at hl 1 rfl) ?_
      refine lv_iload_n C0.hx C0.hb dX3_traceContour_25 rfl (lv_at hl 2 rfl) ?_
      obtain ⟨q2, hq2, h⟩ := Option.bind_eq_some_iff.mp h
      refine g_calli hW (g_runV (As := [.int (l2)]) (rest := [.int (l2), .ref (g_ad G (l0 + 1))]) C0 hW (c_X3_contour hk_l1 hq2) (g_cwOf (n := 1) tc_X3_contour tn_X3 md_X3_contour (by decide) (by omega)) tm_X3_31 ti_X3_contour ts_X3_contour (C0.mem (kl5 hk_l1)) (g_c5 hk_l1) rfl rfl hl.1 rfl (Nat.le_of_ble_eq_true rfl) dX3_traceContour_26) (fun H locs hW => ?_)
      obtain ⟨hb3, h⟩ := g_if h
      refine gs_24 C0 hW (C0.mem (kl24 (ko5_0 hk_l0))) (ko5_0 hk_l0) hb3 dX3_traceContour_29 (fun H locs hW => ?_)
      refine lv_iinc (v := l2 + (1 : Int32)) (lv' := [(2, .int (l2 + (1 : Int32))), (0, .ref (g_ad G (l0))), (1, .ref (g_ad G (l1)))]) C0.hx C0.hb dX3_traceContour_30 hl (k := 2) rfl rfl (by decide) rfl (fun ls hl => ?_)
      refine lv_goto (tgt := 10) C0.hx C0.hb dX3_traceContour_33 (by decide) ?_
      exact ih _ _ _ _ _ _ _ hk_l0 hk_l1 h hW (lv_sub hl [1, 2, 0] rfl)
set_option maxRecDepth 100000 in
set_option maxHeartbeats 4000000 in
theorem c_X3_traceContour {l : Launch} {G : GL} {ids : List Nat} {y : MS} {o : Nat → Int32} {x : CS} {t : Nat} {p1 : Nat} {q : CS}   (hk_t : kd t = 5) (hk_p1 : kd p1 = 5) (h : f_X3_traceContour t p1 x = some q) : Met l yX3_traceContour (.code yX3_traceContour cX3_traceContour 3 (Option.none : Option Jvm.ClassFile.FieldType) :: gT) (g_rm 2 0 0) (va_Pc [.ref (g_ad G (t)), .ref (g_ad G (p1))] (g_P G ids (x, y, o))) (g_Qv G ids (q, y, o)) 0 0 (g_A G) := by
  unfold f_X3_traceContour at h
  refine g_entry (by decide) (Nat.le_of_ble_eq_true rfl) (fun p e s m args below meth c ls C0 hl hW _ => ?_)
  have hl : lv_has ls 3 [(0, .ref (g_ad G (t))), (1, .ref (g_ad G (p1)))] := hl
  refine lv_aload_n C0.hx C0.hb dX3_traceContour_0 rfl (lv_at hl 0 rfl) ?_
  refine lv_aload_n C0.hx C0.hb dX3_traceContour_1 rfl (lv_at hl 1 rfl) ?_
  refine gf_X3_1 C0 hW (C0.mem (kl5 hk_p1)) hk_p1 tf_X3_15 dX3_traceContour_2 ?_
  refine gp_X3_1 C0 hW (C0.mem (kl5 hk_t)) hk_t tf_X3_15 dX3_traceContour_5 (fun H locs hW => ?_)
  refine lv_iconst (v := (0 : Int32)) C0.hx C0.hb dX3_traceContour_8 (by decide) ?_
  refine lv_istore_n (lv' := [(2, .int ((0 : Int32))), (0, .ref (g_ad G (t))), (1, .ref (g_ad G (p1)))]) C0.hx C0.hb dX3_traceContour_9 rfl hl (by decide) rfl (fun ls hl => ?_)
  exact w_X3_traceContour_10 C0 g_fuel _ _ _ _ _ _ _ hk_t hk_p1 h hW (lv_sub hl [1, 2, 0] rfl)
set_option maxRecDepth 100000 in
set_option maxHeartbeats 4000000 in
theorem w_X7_append_3 {p : Program} {l : Launch} {e : Env} {s : State} {m : MethodId} {args : Array Value} {below : List Frame} {meth : Method} {c : Code} {G : GL} {ids : List Nat} {y : MS} {o : Nat → Int32}  {q : CS}   (C0 : g_X G ids p s m args meth c cX7_append 3 RX7 (Option.none : Option Jvm.ClassFile.FieldType))  : ∀ (n : Nat) (l1 : Int32) (l2 : Int32) (x : CS) (H : Heap) (locs : List Loc) (ls : Array Slot),  f_X7_append_3 n l1 l2 x = some q → g_W G ids (x, y, o) s.heap H locs → lv_has ls 3 [(0, .ref (g_ad G (1))), (1, .int (l1)), (2, .int (l2))] → W p l e (g_rm 0 0 0) s m args below meth c H locs 0 0 (MQ below (g_Qv G ids (q, y, o)) args s 0 0 (g_A G)) (F0 m 3 ls []) := by
  intro n
  induction n with
  | zero =>
    intro l1 l2 x H locs ls h hW hl
    exact absurd h (by simp [f_X7_append_3])
  | succ n ih =>
    intro l1 l2 x H locs ls h hW hl
    unfold f_X7_append_3 at h
    refine lv_iload_n C0.hx C0.hb dX7_append_3 rfl (lv_at hl 2 rfl) ?_
    refine lv_if_lt (tgt := 59) C0.hx C0.hb dX7_append_4 (by decide) (fun hc1 => ?_) (fun hc1 => ?_)
    · replace h := (if_pos hc1).symm.trans h
      obtain rfl := Option.some.inj h
      exact g_vret C0 hW rfl dX7_append_59
    · replace h := (if_neg hc1).symm.trans h
      refine lv_aload_n C0.hx C0.hb dX7_append_7 rfl (lv_at hl 0 rfl) ?_
      refine gf_X7_1 C0 hW (C0.mem (i := 1) (Nat.le_of_ble_eq_true rfl)) k_1 tf_X7_15 dX7_append_8 ?_
      refine lv_if_lt (tgt := 53) C0.hx C0.hb dX7_append_11 (by decide) (fun hc2 => ?_) (fun hc2 => ?_)
      · replace h := (if_pos hc2).symm.trans h
        refine lv_iinc (v := l2 + (-8 : Int32)) (lv' := [(2, .int (l2 + (-8 : Int32))), (0, .ref (g_ad G (1))), (1, .int (l1))]) C0.hx C0.hb dX7_append_53 hl (k := 2) rfl rfl (by decide) rfl (fun ls hl => ?_)
        refine lv_goto (tgt := 3) C0.hx C0.hb dX7_append_56 (by decide) ?_
        exact ih _ _ _ _ _ _ h hW (lv_sub hl [1, 2, 0] rfl)
      · replace h := (if_neg hc2).symm.trans h
        refine lv_aload_n C0.hx C0.hb dX7_append_14 rfl (lv_at hl 0 rfl) ?_
        refine gf_X7_1 C0 hW (C0.mem (i := 1) (Nat.le_of_ble_eq_true rfl)) k_1 tf_X7_15 dX7_append_15 ?_
        refine lv_aload_n C0.hx C0.hb dX7_append_18 rfl (lv_at hl 0 rfl) ?_
        refine gf_X7_0 C0 hW (C0.mem (i := 1) (Nat.le_of_ble_eq_true rfl)) k_1 tf_X7_9 dX7_append_19 ?_
        refine gl_20 C0 hW (C0.mem (i := 2) (Nat.le_of_ble_eq_true rfl)) k_2 dX7_append_22 ?_
        refine lv_icmp_ge (tgt := 53) C0.hx C0.hb dX7_append_23 (by decide) (fun hc3 => ?_) (fun hc3 => ?_)
        · replace h := (if_pos hc3).symm.trans h
          refine lv_iinc (v := l2 + (-8 : Int32)) (lv' := [(2, .int (l2 + (-8 : Int32))), (0, .ref (g_ad G (1))), (1, .int (l1))]) C0.hx C0.hb dX7_append_53 hl (k := 2) rfl rfl (by decide) rfl (fun ls hl => ?_)
          refine lv_goto (tgt := 3) C0.hx C0.hb dX7_append_56 (by decide) ?_
          exact ih _ _ _ _ _ _ h hW (lv_sub hl [1, 2, 0] rfl)
        · replace h := (if_neg hc3).symm.trans h
          refine lv_aload_n C0.hx C0.hb dX7_append_26 rfl (lv_at hl 0 rfl) ?_
          refine gf_X7_0 C0 hW (C0.mem (i := 1) (Nat.le_of_ble_eq_true rfl)) k_1 tf_X7_9 dX7_append_27 ?_
          refine lv_aload_n C0.hx C0.hb dX7_append_30 rfl (lv_at hl 0 rfl) ?_
          refine gf_X7_1 C0 hW (C0.mem (i := 1) (Nat.le_of_ble_eq_true rfl)) k_1 tf_X7_15 dX7_append_31 ?_
          refine lv_iload_n C0.hx C0.hb dX7_append_34 rfl (lv_at hl 1 rfl) ?_
          refine lv_iload_n C0.hx C0.hb dX7_append_35 rfl (lv_at hl 2 rfl) ?_
          refine lv_iushr C0.hx C0.hb dX7_append_36 rfl ?_
          refine lv_sipush (v := (255 : Int32)) C0.hx C0.hb dX7_append_37 (by decide) ?_
          refine lv_iand C0.hx C0.hb dX7_append_40 ?_
          refine lv_i2c C0.hx C0.hb dX7_append_41 rfl ?_
          obtain ⟨hb4, h⟩ := g_if h
          refine gs_20 C0 hW (C0.mem (i := 2) (Nat.le_of_ble_eq_true rfl)) k_2 hb4 dX7_append_42 (fun H locs hW => ?_)
          refine lv_aload_n C0.hx C0.hb dX7_append_43 rfl (lv_at hl 0 rfl) ?_
          refine lv_dup C0.hx C0.hb dX7_append_44 rfl ?_
          refine gf_X7_1 C0 hW (C0.mem (i := 1) (Nat.le_of_ble_eq_true rfl)) k_1 tf_X7_15 dX7_append_45 ?_
          refine lv_iconst (v := (1 : Int32)) C0.hx C0.hb dX7_append_48 (by decide) ?_
          refine lv_iadd C0.hx C0.hb dX7_append_49 ?_
          refine gp_X7_1 C0 hW (C0.mem (i := 1) (Nat.le_of_ble_eq_true rfl)) k_1 tf_X7_15 dX7_append_50 (fun H locs hW => ?_)
          refine lv_iinc (v := l2 + (-8 : Int32)) (lv' := [(2, .int (l2 + (-8 : Int32))), (0, .ref (g_ad G (1))), (1, .int (l1))]) C0.hx C0.hb dX7_append_53 hl (k := 2) rfl rfl (by decide) rfl (fun ls hl => ?_)
          refine lv_goto (tgt := 3) C0.hx C0.hb dX7_append_56 (by decide) ?_
          exact ih _ _ _ _ _ _ h hW (lv_sub hl [1, 2, 0] rfl)
set_option maxRecDepth 100000 in
set_option maxHeartbeats 4000000 in
theorem c_X7_append {l : Launch} {G : GL} {ids : List Nat} {y : MS} {o : Nat → Int32} {x : CS} {p1 : Int32} {q : CS}    (h : f_X7_append p1 x = some q) : Met l yX7_append (.code yX7_append cX7_append 3 (Option.none : Option Jvm.ClassFile.FieldType) :: gT) (g_rm 0 0 0) (va_Pc [.ref (g_ad G (1)), .int (p1)] (g_P G ids (x, y, o))) (g_Qv G ids (q, y, o)) 0 0 (g_A G) := by
  unfold f_X7_append at h
  refine g_entry (by decide) (Nat.le_of_ble_eq_true rfl) (fun p e s m args below meth c ls C0 hl hW _ => ?_)
  have hl : lv_has ls 3 [(0, .ref (g_ad G (1))), (1, .int (p1))] := hl
  refine lv_bipush (v := (24 : Int32)) C0.hx C0.hb dX7_append_0 (by decide) ?_
  refine lv_istore_n (lv' := [(2, .int ((24 : Int32))), (0, .ref (g_ad G (1))), (1, .int (p1))]) C0.hx C0.hb dX7_append_2 rfl hl (by decide) rfl (fun ls hl => ?_)
  exact w_X7_append_3 C0 g_fuel _ _ _ _ _ _ h hW (lv_sub hl [1, 2, 0] rfl)
set_option maxRecDepth 100000 in
set_option maxHeartbeats 4000000 in
theorem c_X7_byteAt {l : Launch} {G : GL} {ids : List Nat} {y : MS} {o : Nat → Int32} {x : CS} {p1 : Int32} {q : Int32}    (h : f_X7_byteAt p1 x = some q) : Met l yX7_byteAt (.code yX7_byteAt cX7_byteAt 2 (Option.some Jvm.ClassFile.FieldType.int) :: gT) (g_rm 0 0 0) (va_Pc [.ref (g_ad G (1)), .int (p1)] (g_P G ids (x, y, o))) (g_Qi G ids q (x, y, o)) 0 0 (g_A G) := by
  unfold f_X7_byteAt at h
  refine g_entry (by decide) (Nat.le_of_ble_eq_true rfl) (fun p e s m args below meth c ls C0 hl hW _ => ?_)
  have hl : lv_has ls 2 [(0, .ref (g_ad G (1))), (1, .int (p1))] := hl
  refine lv_iload_n C0.hx C0.hb dX7_byteAt_0 rfl (lv_at hl 1 rfl) ?_
  refine lv_if_lt (tgt := 30) C0.hx C0.hb dX7_byteAt_1 (by decide) (fun hc1 => ?_) (fun hc1 => ?_)
  · replace h := (if_pos hc1).symm.trans h
    refine lv_iconst (v := (-1 : Int32)) C0.hx C0.hb dX7_byteAt_30 (by decide) ?_
    obtain rfl := Option.some.inj h
    exact g_iret C0 hW rfl rfl rfl dX7_byteAt_31
  · replace h := (if_neg hc1).symm.trans h
    refine lv_iload_n C0.hx C0.hb dX7_byteAt_4 rfl (lv_at hl 1 rfl) ?_
    refine lv_aload_n C0.hx C0.hb dX7_byteAt_5 rfl (lv_at hl 0 rfl) ?_
    refine gf_X7_1 C0 hW (C0.mem (i := 1) (Nat.le_of_ble_eq_true rfl)) k_1 tf_X7_15 dX7_byteAt_6 ?_
    refine lv_icmp_ge (tgt := 30) C0.hx C0.hb dX7_byteAt_9 (by decide) (fun hc2 => ?_) (fun hc2 => ?_)
    · replace h := (if_pos hc2).symm.trans h
      refine lv_iconst (v := (-1 : Int32)) C0.hx C0.hb dX7_byteAt_30 (by decide) ?_
      obtain rfl := Option.some.inj h
      exact g_iret C0 hW rfl rfl rfl dX7_byteAt_31
    · replace h := (if_neg hc2).symm.trans h
      refine lv_iload_n C0.hx C0.hb dX7_byteAt_12 rfl (lv_at hl 1 rfl) ?_
      refine lv_aload_n C0.hx C0.hb dX7_byteAt_13 rfl (lv_at hl 0 rfl) ?_
      refine gf_X7_0 C0 hW (C0.mem (i := 1) (Nat.le_of_ble_eq_true rfl)) k_1 tf_X7_9 dX7_byteAt_14 ?_
      refine gl_20 C0 hW (C0.mem (i := 2) (Nat.le_of_ble_eq_true rfl)) k_2 dX7_byteAt_17 ?_
      refine lv_icmp_ge (tgt := 30) C0.hx C0.hb dX7_byteAt_18 (by decide) (fun hc3 => ?_) (fun hc3 => ?_)
      · replace h := (if_pos hc3).symm.trans h
        refine lv_iconst (v := (-1 : Int32)) C0.hx C0.hb dX7_byteAt_30 (by decide) ?_
        obtain rfl := Option.some.inj h
        exact g_iret C0 hW rfl rfl rfl dX7_byteAt_31
      · replace h := (if_neg hc3).symm.trans h
        refine lv_aload_n C0.hx C0.hb dX7_byteAt_21 rfl (lv_at hl 0 rfl) ?_
        refine gf_X7_0 C0 hW (C0.mem (i := 1) (Nat.le_of_ble_eq_true rfl)) k_1 tf_X7_9 dX7_byteAt_22 ?_
        refine lv_iload_n C0.hx C0.hb dX7_byteAt_25 rfl (lv_at hl 1 rfl) ?_
        obtain ⟨hb4, h⟩ := g_if h
        refine ga_20 C0 hW (C0.mem (i := 2) (Nat.le_of_ble_eq_true rfl)) k_2 hb4 dX7_byteAt_26 ?_
        refine lv_goto (tgt := 31) C0.hx C0.hb dX7_byteAt_27 (by decide) ?_
        obtain rfl := Option.some.inj h
        exact g_iret C0 hW rfl rfl rfl dX7_byteAt_31
set_option maxRecDepth 100000 in
set_option maxHeartbeats 4000000 in
theorem c_X7_isLetter {l : Launch} {G : GL} {ids : List Nat} {y : MS} {o : Nat → Int32} {x : CS} {p1 : Int32} {q : Int32}    (h : f_X7_isLetter p1 x = some q) : Met l yX7_isLetter (.code yX7_isLetter cX7_isLetter 3 (Option.some Jvm.ClassFile.FieldType.boolean) :: gT) (g_rm 1 0 0) (va_Pc [.ref (g_ad G (1)), .int (p1)] (g_P G ids (x, y, o))) (g_Qi G ids q (x, y, o)) 0 0 (g_A G) := by
  unfold f_X7_isLetter at h
  refine g_entry (by decide) (Nat.le_of_ble_eq_true rfl) (fun p e s m args below meth c ls C0 hl hW _ => ?_)
  have hl : lv_has ls 3 [(0, .ref (g_ad G (1))), (1, .int (p1))] := hl
  refine lv_aload_n C0.hx C0.hb dX7_isLetter_0 rfl (lv_at hl 0 rfl) ?_
  refine lv_iload_n C0.hx C0.hb dX7_isLetter_1 rfl (lv_at hl 1 rfl) ?_
  obtain ⟨q1, hq1, h⟩ := Option.bind_eq_some_iff.mp h
  refine g_calli hW (g_runV (As := [.int (p1)]) (rest := []) C0 hW (c_X7_byteAt hq1) (g_cwOf (n := 1) tc_X7_byteAt tn_X7 md_X7_byteAt (by decide) (by omega)) tm_X7_19 ti_X7_byteAt ts_X7_byteAt (C0.mem (i := 1) (Nat.le_of_ble_eq_true rfl)) (g_c2 k_1) rfl rfl hl.1 rfl (Nat.le_of_ble_eq_true rfl) dX7_isLetter_2) (fun H locs hW => ?_)
  refine lv_istore_n (lv' := [(2, .int (q1)), (0, .ref (g_ad G (1))), (1, .int (p1))]) C0.hx C0.hb dX7_isLetter_5 rfl hl (by decide) rfl (fun ls hl => ?_)
  refine lv_iload_n C0.hx C0.hb dX7_isLetter_6 rfl (lv_at hl 0 rfl) ?_
  refine lv_bipush (v := (97 : Int32)) C0.hx C0.hb dX7_isLetter_7 (by decide) ?_
  refine lv_icmp_lt (tgt := 22) C0.hx C0.hb dX7_isLetter_9 (by decide) (fun hc2 => ?_) (fun hc2 => ?_)
  · replace h := (if_pos hc2).symm.trans h
    refine lv_iconst (v := (0 : Int32)) C0.hx C0.hb dX7_isLetter_22 (by decide) ?_
    obtain rfl := Option.some.inj h
    exact g_iret C0 hW rfl (g_bool (Or.inl rfl)).1 rfl dX7_isLetter_23
  · replace h := (if_neg hc2).symm.trans h
    refine lv_iload_n C0.hx C0.hb dX7_isLetter_12 rfl (lv_at hl 0 rfl) ?_
    refine lv_bipush (v := (122 : Int32)) C0.hx C0.hb dX7_isLetter_13 (by decide) ?_
    refine lv_icmp_gt (tgt := 22) C0.hx C0.hb dX7_isLetter_15 (by decide) (fun hc3 => ?_) (fun hc3 => ?_)
    · replace h := (if_pos hc3).symm.trans h
      refine lv_iconst (v := (0 : Int32)) C0.hx C0.hb dX7_isLetter_22 (by decide) ?_
      obtain rfl := Option.some.inj h
      exact g_iret C0 hW rfl (g_bool (Or.inl rfl)).1 rfl dX7_isLetter_23
    · replace h := (if_neg hc3).symm.trans h
      refine lv_iconst (v := (1 : Int32)) C0.hx C0.hb dX7_isLetter_18 (by decide) ?_
      refine lv_goto (tgt := 23) C0.hx C0.hb dX7_isLetter_19 (by decide) ?_
      obtain rfl := Option.some.inj h
      exact g_iret C0 hW rfl (g_bool (Or.inr rfl)).1 rfl dX7_isLetter_23
set_option maxRecDepth 100000 in
set_option maxHeartbeats 4000000 in
theorem c_X7_isDigit {l : Launch} {G : GL} {ids : List Nat} {y : MS} {o : Nat → Int32} {x : CS} {p1 : Int32} {q : Int32}    (h : f_X7_isDigit p1 x = some q) : Met l yX7_isDigit (.code yX7_isDigit cX7_isDigit 3 (Option.some Jvm.ClassFile.FieldType.boolean) :: gT) (g_rm 1 0 0) (va_Pc [.ref (g_ad G (1)), .int (p1)] (g_P G ids (x, y, o))) (g_Qi G ids q (x, y, o)) 0 0 (g_A G) := by
  unfold f_X7_isDigit at h
  refine g_entry (by decide) (Nat.le_of_ble_eq_true rfl) (fun p e s m args below meth c ls C0 hl hW _ => ?_)
  have hl : lv_has ls 3 [(0, .ref (g_ad G (1))), (1, .int (p1))] := hl
  refine lv_aload_n C0.hx C0.hb dX7_isDigit_0 rfl (lv_at hl 0 rfl) ?_
  refine lv_iload_n C0.hx C0.hb dX7_isDigit_1 rfl (lv_at hl 1 rfl) ?_
  obtain ⟨q1, hq1, h⟩ := Option.bind_eq_some_iff.mp h
  refine g_calli hW (g_runV (As := [.int (p1)]) (rest := []) C0 hW (c_X7_byteAt hq1) (g_cwOf (n := 1) tc_X7_byteAt tn_X7 md_X7_byteAt (by decide) (by omega)) tm_X7_19 ti_X7_byteAt ts_X7_byteAt (C0.mem (i := 1) (Nat.le_of_ble_eq_true rfl)) (g_c2 k_1) rfl rfl hl.1 rfl (Nat.le_of_ble_eq_true rfl) dX7_isDigit_2) (fun H locs hW => ?_)
  refine lv_istore_n (lv' := [(2, .int (q1)), (0, .ref (g_ad G (1))), (1, .int (p1))]) C0.hx C0.hb dX7_isDigit_5 rfl hl (by decide) rfl (fun ls hl => ?_)
  refine lv_iload_n C0.hx C0.hb dX7_isDigit_6 rfl (lv_at hl 0 rfl) ?_
  refine lv_bipush (v := (48 : Int32)) C0.hx C0.hb dX7_isDigit_7 (by decide) ?_
  refine lv_icmp_lt (tgt := 22) C0.hx C0.hb dX7_isDigit_9 (by decide) (fun hc2 => ?_) (fun hc2 => ?_)
  · replace h := (if_pos hc2).symm.trans h
    refine lv_iconst (v := (0 : Int32)) C0.hx C0.hb dX7_isDigit_22 (by decide) ?_
    obtain rfl := Option.some.inj h
    exact g_iret C0 hW rfl (g_bool (Or.inl rfl)).1 rfl dX7_isDigit_23
  · replace h := (if_neg hc2).symm.trans h
    refine lv_iload_n C0.hx C0.hb dX7_isDigit_12 rfl (lv_at hl 0 rfl) ?_
    refine lv_bipush (v := (57 : Int32)) C0.hx C0.hb dX7_isDigit_13 (by decide) ?_
    refine lv_icmp_gt (tgt := 22) C0.hx C0.hb dX7_isDigit_15 (by decide) (fun hc3 => ?_) (fun hc3 => ?_)
    · replace h := (if_pos hc3).symm.trans h
      refine lv_iconst (v := (0 : Int32)) C0.hx C0.hb dX7_isDigit_22 (by decide) ?_
      obtain rfl := Option.some.inj h
      exact g_iret C0 hW rfl (g_bool (Or.inl rfl)).1 rfl dX7_isDigit_23
    · replace h := (if_neg hc3).symm.trans h
      refine lv_iconst (v := (1 : Int32)) C0.hx C0.hb dX7_isDigit_18 (by decide) ?_
      refine lv_goto (tgt := 23) C0.hx C0.hb dX7_isDigit_19 (by decide) ?_
      obtain rfl := Option.some.inj h
      exact g_iret C0 hW rfl (g_bool (Or.inr rfl)).1 rfl dX7_isDigit_23
set_option maxRecDepth 100000 in
set_option maxHeartbeats 4000000 in
theorem w_X7_behindBlanks_2 {p : Program} {l : Launch} {e : Env} {s : State} {m : MethodId} {args : Array Value} {below : List Frame} {meth : Method} {c : Code} {G : GL} {ids : List Nat} {y : MS} {o : Nat → Int32} {x : CS} {q : Int32}   (C0 : g_X G ids p s m args meth c cX7_behindBlanks 3 RX7 (Option.some Jvm.ClassFile.FieldType.int))  : ∀ (n : Nat) (l2 : Int32)  (H : Heap) (locs : List Loc) (ls : Array Slot),  f_X7_behindBlanks_2 x n l2 = some q → g_W G ids (x, y, o) s.heap H locs → lv_has ls 3 [(0, .ref (g_ad G (1))), (2, .int (l2))] → W p l e (g_rm 1 0 0) s m args below meth c H locs 0 0 (MQ below (g_Qi G ids q (x, y, o)) args s 0 0 (g_A G)) (F0 m 2 ls []) := by
  intro n
  induction n with
  | zero =>
    intro l2 H locs ls h hW hl
    exact absurd h (by simp [f_X7_behindBlanks_2])
  | succ n ih =>
    intro l2 H locs ls h hW hl
    unfold f_X7_behindBlanks_2 at h
    refine lv_iload_n C0.hx C0.hb dX7_behindBlanks_2 rfl (lv_at hl 1 rfl) ?_
    refine lv_aload_n C0.hx C0.hb dX7_behindBlanks_3 rfl (lv_at hl 0 rfl) ?_
    refine gf_X7_1 C0 hW (C0.mem (i := 1) (Nat.le_of_ble_eq_true rfl)) k_1 tf_X7_15 dX7_behindBlanks_4 ?_
    refine lv_icmp_ge (tgt := 36) C0.hx C0.hb dX7_behindBlanks_7 (by decide) (fun hc1 => ?_) (fun hc1 => ?_)
    · replace h := (if_pos hc1).symm.trans h
      refine lv_iload_n C0.hx C0.hb dX7_behindBlanks_36 rfl (lv_at hl 1 rfl) ?_
      obtain rfl := Option.some.inj h
      exact g_iret C0 hW rfl rfl rfl dX7_behindBlanks_37
    · replace h := (if_neg hc1).symm.trans h
      refine lv_aload_n C0.hx C0.hb dX7_behindBlanks_10 rfl (lv_at hl 0 rfl) ?_
      refine lv_iload_n C0.hx C0.hb dX7_behindBlanks_11 rfl (lv_at hl 1 rfl) ?_
      obtain ⟨q2, hq2, h⟩ := Option.bind_eq_some_iff.mp h
      refine g_calli hW (g_runV (As := [.int (l2)]) (rest := []) C0 hW (c_X7_byteAt hq2) (g_cwOf (n := 1) tc_X7_byteAt tn_X7 md_X7_byteAt (by decide) (by omega)) tm_X7_19 ti_X7_byteAt ts_X7_byteAt (C0.mem (i := 1) (Nat.le_of_ble_eq_true rfl)) (g_c2 k_1) rfl rfl hl.1 rfl (Nat.le_of_ble_eq_true rfl) dX7_behindBlanks_12) (fun H locs hW => ?_)
      refine lv_bipush (v := (32 : Int32)) C0.hx C0.hb dX7_behindBlanks_15 (by decide) ?_
      refine lv_icmp_eq (tgt := 30) C0.hx C0.hb dX7_behindBlanks_17 (by decide) (fun hc3 => ?_) (fun hc3 => ?_)
      · replace h := (if_pos hc3).symm.trans h
        refine lv_iinc (v := l2 + (1 : Int32)) (lv' := [(2, .int (l2 + (1 : Int32))), (0, .ref (g_ad G (1)))]) C0.hx C0.hb dX7_behindBlanks_30 hl (k := 1) rfl rfl (by decide) rfl (fun ls hl => ?_)
        refine lv_goto (tgt := 2) C0.hx C0.hb dX7_behindBlanks_33 (by decide) ?_
        exact ih _ _ _ _ h hW (lv_sub hl [1, 0] rfl)
      · replace h := (if_neg hc3).symm.trans h
        refine lv_aload_n C0.hx C0.hb dX7_behindBlanks_20 rfl (lv_at hl 0 rfl) ?_
        refine lv_iload_n C0.hx C0.hb dX7_behindBlanks_21 rfl (lv_at hl 1 rfl) ?_
        obtain ⟨q4, hq4, h⟩ := Option.bind_eq_some_iff.mp h
        refine g_calli hW (g_runV (As := [.int (l2)]) (rest := []) C0 hW (c_X7_byteAt hq4) (g_cwOf (n := 1) tc_X7_byteAt tn_X7 md_X7_byteAt (by decide) (by omega)) tm_X7_19 ti_X7_byteAt ts_X7_byteAt (C0.mem (i := 1) (Nat.le_of_ble_eq_true rfl)) (g_c2 k_1) rfl rfl hl.1 rfl (Nat.le_of_ble_eq_true rfl) dX7_behindBlanks_22) (fun H locs hW => ?_)
        refine lv_bipush (v := (10 : Int32)) C0.hx C0.hb dX7_behindBlanks_25 (by decide) ?_
        refine lv_icmp_ne (tgt := 36) C0.hx C0.hb dX7_behindBlanks_27 (by decide) (fun hc5 => ?_) (fun hc5 => ?_)
        · replace h := (if_neg hc5).symm.trans h
          refine lv_iload_n C0.hx C0.hb dX7_behindBlanks_36 rfl (lv_at hl 1 rfl) ?_
          obtain rfl := Option.some.inj h
          exact g_iret C0 hW rfl rfl rfl dX7_behindBlanks_37
        · replace h := (if_pos hc5).symm.trans h
          refine lv_iinc (v := l2 + (1 : Int32)) (lv' := [(2, .int (l2 + (1 : Int32))), (0, .ref (g_ad G (1)))]) C0.hx C0.hb dX7_behindBlanks_30 hl (k := 1) rfl rfl (by decide) rfl (fun ls hl => ?_)
          refine lv_goto (tgt := 2) C0.hx C0.hb dX7_behindBlanks_33 (by decide) ?_
          exact ih _ _ _ _ h hW (lv_sub hl [1, 0] rfl)
set_option maxRecDepth 100000 in
set_option maxHeartbeats 4000000 in
theorem c_X7_behindBlanks {l : Launch} {G : GL} {ids : List Nat} {y : MS} {o : Nat → Int32} {x : CS} {p1 : Int32} {q : Int32}    (h : f_X7_behindBlanks p1 x = some q) : Met l yX7_behindBlanks (.code yX7_behindBlanks cX7_behindBlanks 3 (Option.some Jvm.ClassFile.FieldType.int) :: gT) (g_rm 1 0 0) (va_Pc [.ref (g_ad G (1)), .int (p1)] (g_P G ids (x, y, o))) (g_Qi G ids q (x, y, o)) 0 0 (g_A G) := by
  unfold f_X7_behindBlanks at h
  refine g_entry (by decide) (Nat.le_of_ble_eq_true rfl) (fun p e s m args below meth c ls C0 hl hW _ => ?_)
  have hl : lv_has ls 3 [(0, .ref (g_ad G (1))), (1, .int (p1))] := hl
  refine lv_iload_n C0.hx C0.hb dX7_behindBlanks_0 rfl (lv_at hl 1 rfl) ?_
  refine lv_istore_n (lv' := [(2, .int (p1)), (0, .ref (g_ad G (1))), (1, .int (p1))]) C0.hx C0.hb dX7_behindBlanks_1 rfl hl (by decide) rfl (fun ls hl => ?_)
  exact w_X7_behindBlanks_2 C0 g_fuel _ _ _ _ h hW (lv_sub hl [1, 0] rfl)
set_option maxRecDepth 100000 in
set_option maxHeartbeats 4000000 in
theorem w_X7_spells_2 {p : Program} {l : Launch} {e : Env} {s : State} {m : MethodId} {args : Array Value} {below : List Frame} {meth : Method} {c : Code} {G : GL} {ids : List Nat} {y : MS} {o : Nat → Int32} {x : CS} {q : Int32}   (C0 : g_X G ids p s m args meth c cX7_spells 4 RX7 (Option.some Jvm.ClassFile.FieldType.boolean))  : ∀ (n : Nat) (l1 : Int32) (l2 : Nat) (l3 : Int32)  (H : Heap) (locs : List Loc) (ls : Array Slot),  f_X7_spells_2 x n l1 l2 l3 = some q → g_W G ids (x, y, o) s.heap H locs → lv_has ls 4 [(0, .ref (g_ad G (1))), (1, .int (l1)), (2, .ref (g_sK G (l2))), (3, .int (l3))] → W p l e (g_rm 11 0 0) s m args below meth c H locs 0 0 (MQ below (g_Qi G ids q (x, y, o)) args s 0 0 (g_A G)) (F0 m 2 ls []) := by
  intro n
  induction n with
  | zero =>
    intro l1 l2 l3 H locs ls h hW hl
    exact absurd h (by simp [f_X7_spells_2])
  | succ n ih =>
    intro l1 l2 l3 H locs ls h hW hl
    unfold f_X7_spells_2 at h
    refine lv_iload_n C0.hx C0.hb dX7_spells_2 rfl (lv_at hl 3 rfl) ?_
    refine lv_aload_n C0.hx C0.hb dX7_spells_3 rfl (lv_at hl 2 rfl) ?_
    obtain ⟨hs7, h⟩ := g_if h
    obtain ⟨q1, hq1, h⟩ := Option.bind_eq_some_iff.mp h
    refine g_calli hW (g_runR (As := []) (rest := [.int (l3)]) C0 hW (c_J0_length_8abf5 hq1) (g_cwOf (n := 0) tc_J0_length_8abf5 tn_J0 md_J0_length_8abf5 (by decide) (by omega)) tm_X7_23 ti_J0_length_8abf5 ts_J0_length_8abf5 (g_srecv C0 hW hs7) rfl hl.1 rfl (Nat.le_of_ble_eq_true rfl) dX7_spells_4) (fun H locs hW => ?_)
    refine lv_icmp_ge (tgt := 33) C0.hx C0.hb dX7_spells_7 (by decide) (fun hc2 => ?_) (fun hc2 => ?_)
    · replace h := (if_pos hc2).symm.trans h
      refine lv_iconst (v := (1 : Int32)) C0.hx C0.hb dX7_spells_33 (by decide) ?_
      obtain rfl := Option.some.inj h
      exact g_iret C0 hW rfl (g_bool (Or.inr rfl)).1 rfl dX7_spells_34
    · replace h := (if_neg hc2).symm.trans h
      refine lv_aload_n C0.hx C0.hb dX7_spells_10 rfl (lv_at hl 0 rfl) ?_
      refine lv_iload_n C0.hx C0.hb dX7_spells_11 rfl (lv_at hl 1 rfl) ?_
      refine lv_iload_n C0.hx C0.hb dX7_spells_12 rfl (lv_at hl 3 rfl) ?_
      refine lv_iadd C0.hx C0.hb dX7_spells_13 ?_
      obtain ⟨q3, hq3, h⟩ := Option.bind_eq_some_iff.mp h
      refine g_calli hW (g_runV (As := [.int (l1 + l3)]) (rest := []) C0 hW (c_X7_byteAt hq3) (g_cwOf (n := 1) tc_X7_byteAt tn_X7 md_X7_byteAt (by decide) (by omega)) tm_X7_19 ti_X7_byteAt ts_X7_byteAt (C0.mem (i := 1) (Nat.le_of_ble_eq_true rfl)) (g_c2 k_1) rfl rfl hl.1 rfl (Nat.le_of_ble_eq_true rfl) dX7_spells_14) (fun H locs hW => ?_)
      refine lv_aload_n C0.hx C0.hb dX7_spells_17 rfl (lv_at hl 2 rfl) ?_
      refine lv_iload_n C0.hx C0.hb dX7_spells_18 rfl (lv_at hl 3 rfl) ?_
      obtain ⟨hs6, h⟩ := g_if h
      obtain ⟨q4, hq4, h⟩ := Option.bind_eq_some_iff.mp h
      refine g_calli hW (g_runR (As := [.int (l3)]) (rest := [.int (q3)]) C0 hW (c_J0_charAt_5068e hq4) (g_cwOf (n := 1) tc_J0_charAt_5068e tn_J0 md_J0_charAt_5068e (by decide) (by omega)) tm_X7_28 ti_J0_charAt_5068e ts_J0_charAt_5068e (g_srecv C0 hW hs6) rfl hl.1 rfl (Nat.le_of_ble_eq_true rfl) dX7_spells_19) (fun H locs hW => ?_)
      refine lv_icmp_eq (tgt := 27) C0.hx C0.hb dX7_spells_22 (by decide) (fun hc5 => ?_) (fun hc5 => ?_)
      · replace h := (if_pos hc5).symm.trans h
        refine lv_iinc (v := l3 + (1 : Int32)) (lv' := [(3, .int (l3 + (1 : Int32))), (0, .ref (g_ad G (1))), (1, .int (l1)), (2, .ref (g_sK G (l2)))]) C0.hx C0.hb dX7_spells_27 hl (k := 3) rfl rfl (by decide) rfl (fun ls hl => ?_)
        refine lv_goto (tgt := 2) C0.hx C0.hb dX7_spells_30 (by decide) ?_
        exact ih _ _ _ _ _ _ h hW (lv_sub hl [1, 2, 3, 0] rfl)
      · replace h := (if_neg hc5).symm.trans h
        refine lv_iconst (v := (0 : Int32)) C0.hx C0.hb dX7_spells_25 (by decide) ?_
        obtain rfl := Option.some.inj h
        exact g_iret C0 hW rfl (g_bool (Or.inl rfl)).1 rfl dX7_spells_26
set_option maxRecDepth 100000 in
set_option maxHeartbeats 4000000 in
theorem c_X7_spells {l : Launch} {G : GL} {ids : List Nat} {y : MS} {o : Nat → Int32} {x : CS} {p1 : Int32} {p2 : Nat} {q : Int32}    (h : f_X7_spells p1 p2 x = some q) : Met l yX7_spells (.code yX7_spells cX7_spells 4 (Option.some Jvm.ClassFile.FieldType.boolean) :: gT) (g_rm 11 0 0) (va_Pc [.ref (g_ad G (1)), .int (p1), .ref (g_sK G (p2))] (g_P G ids (x, y, o))) (g_Qi G ids q (x, y, o)) 0 0 (g_A G) := by
  unfold f_X7_spells at h
  refine g_entry (by decide) (Nat.le_of_ble_eq_true rfl) (fun p e s m args below meth c ls C0 hl hW _ => ?_)
  have hl : lv_has ls 4 [(0, .ref (g_ad G (1))), (1, .int (p1)), (2, .ref (g_sK G (p2)))] := hl
  refine lv_iconst (v := (0 : Int32)) C0.hx C0.hb dX7_spells_0 (by decide) ?_
  refine lv_istore_n (lv' := [(3, .int ((0 : Int32))), (0, .ref (g_ad G (1))), (1, .int (p1)), (2, .ref (g_sK G (p2)))]) C0.hx C0.hb dX7_spells_1 rfl hl (by decide) rfl (fun ls hl => ?_)
  exact w_X7_spells_2 C0 g_fuel _ _ _ _ _ _ h hW (lv_sub hl [1, 2, 3, 0] rfl)
set_option maxRecDepth 100000 in
set_option maxHeartbeats 4000000 in
theorem w_X7_alike_3 {p : Program} {l : Launch} {e : Env} {s : State} {m : MethodId} {args : Array Value} {below : List Frame} {meth : Method} {c : Code} {G : GL} {ids : List Nat} {y : MS} {o : Nat → Int32} {x : CS} {q : Int32}   (C0 : g_X G ids p s m args meth c cX7_alike 5 RX7 (Option.some Jvm.ClassFile.FieldType.boolean))  : ∀ (n : Nat) (l1 : Int32) (l2 : Int32) (l3 : Int32) (l4 : Int32)  (H : Heap) (locs : List Loc) (ls : Array Slot),  f_X7_alike_3 x n l1 l2 l3 l4 = some q → g_W G ids (x, y, o) s.heap H locs → lv_has ls 5 [(0, .ref (g_ad G (1))), (1, .int (l1)), (2, .int (l2)), (3, .int (l3)), (4, .int (l4))] → W p l e (g_rm 1 0 0) s m args below meth c H locs 0 0 (MQ below (g_Qi G ids q (x, y, o)) args s 0 0 (g_A G)) (F0 m 3 ls []) := by
  intro n
  induction n with
  | zero =>
    intro l1 l2 l3 l4 H locs ls h hW hl
    exact absurd h (by simp [f_X7_alike_3])
  | succ n ih =>
    intro l1 l2 l3 l4 H locs ls h hW hl
    unfold f_X7_alike_3 at h
    refine lv_iload C0.hx C0.hb dX7_alike_3 (lv_at hl 4 rfl) ?_
    refine lv_iload_n C0.hx C0.hb dX7_alike_5 rfl (lv_at hl 3 rfl) ?_
    refine lv_icmp_ge (tgt := 36) C0.hx C0.hb dX7_alike_6 (by decide) (fun hc1 => ?_) (fun hc1 => ?_)
    · replace h := (if_pos hc1).symm.trans h
      refine lv_iconst (v := (1 : Int32)) C0.hx C0.hb dX7_alike_36 (by decide) ?_
      obtain rfl := Option.some.inj h
      exact g_iret C0 hW rfl (g_bool (Or.inr rfl)).1 rfl dX7_alike_37
    · replace h := (if_neg hc1).symm.trans h
      refine lv_aload_n C0.hx C0.hb dX7_alike_9 rfl (lv_at hl 0 rfl) ?_
      refine lv_iload_n C0.hx C0.hb dX7_alike_10 rfl (lv_at hl 1 rfl) ?_
      refine lv_iload C0.hx C0.hb dX7_alike_11 (lv_at hl 4 rfl) ?_
      refine lv_iadd C0.hx C0.hb dX7_alike_13 ?_
      obtain ⟨q2, hq2, h⟩ := Option.bind_eq_some_iff.mp h
      refine g_calli hW (g_runV (As := [.int (l1 + l4)]) (rest := []) C0 hW (c_X7_byteAt hq2) (g_cwOf (n := 1) tc_X7_byteAt tn_X7 md_X7_byteAt (by decide) (by omega)) tm_X7_19 ti_X7_byteAt ts_X7_byteAt (C0.mem (i := 1) (Nat.le_of_ble_eq_true rfl)) (g_c2 k_1) rfl rfl hl.1 rfl (Nat.le_of_ble_eq_true rfl) dX7_alike_14) (fun H locs hW => ?_)
      refine lv_aload_n C0.hx C0.hb dX7_alike_17 rfl (lv_at hl 0 rfl) ?_
      refine lv_iload_n C0.hx C0.hb dX7_alike_18 rfl (lv_at hl 2 rfl) ?_
      refine lv_iload C0.hx C0.hb dX7_alike_19 (lv_at hl 4 rfl) ?_
      refine lv_iadd C0.hx C0.hb dX7_alike_21 ?_
      obtain ⟨q3, hq3, h⟩ := Option.bind_eq_some_iff.mp h
      refine g_calli hW (g_runV (As := [.int (l2 + l4)]) (rest := [.int (q2)]) C0 hW (c_X7_byteAt hq3) (g_cwOf (n := 1) tc_X7_byteAt tn_X7 md_X7_byteAt (by decide) (by omega)) tm_X7_19 ti_X7_byteAt ts_X7_byteAt (C0.mem (i := 1) (Nat.le_of_ble_eq_true rfl)) (g_c2 k_1) rfl rfl hl.1 rfl (Nat.le_of_ble_eq_true rfl) dX7_alike_22) (fun H locs hW => ?_)
      refine lv_icmp_eq (tgt := 30) C0.hx C0.hb dX7_alike_25 (by decide) (fun hc4 => ?_) (fun hc4 => ?_)
      · replace h := (if_pos hc4).symm.trans h
        refine lv_iinc (v := l4 + (1 : Int32)) (lv' := [(4, .int (l4 + (1 : Int32))), (0, .ref (g_ad G (1))), (1, .int (l1)), (2, .int (l2)), (3, .int (l3))]) C0.hx C0.hb dX7_alike_30 hl (k := 4) rfl rfl (by decide) rfl (fun ls hl => ?_)
        refine lv_goto (tgt := 3) C0.hx C0.hb dX7_alike_33 (by decide) ?_
        exact ih _ _ _ _ _ _ _ h hW (lv_sub hl [1, 2, 3, 4, 0] rfl)
      · replace h := (if_neg hc4).symm.trans h
        refine lv_iconst (v := (0 : Int32)) C0.hx C0.hb dX7_alike_28 (by decide) ?_
        obtain rfl := Option.some.inj h
        exact g_iret C0 hW rfl (g_bool (Or.inl rfl)).1 rfl dX7_alike_29
set_option maxRecDepth 100000 in
set_option maxHeartbeats 4000000 in
theorem c_X7_alike {l : Launch} {G : GL} {ids : List Nat} {y : MS} {o : Nat → Int32} {x : CS} {p1 : Int32} {p2 : Int32} {p3 : Int32} {q : Int32}    (h : f_X7_alike p1 p2 p3 x = some q) : Met l yX7_alike (.code yX7_alike cX7_alike 5 (Option.some Jvm.ClassFile.FieldType.boolean) :: gT) (g_rm 1 0 0) (va_Pc [.ref (g_ad G (1)), .int (p1), .int (p2), .int (p3)] (g_P G ids (x, y, o))) (g_Qi G ids q (x, y, o)) 0 0 (g_A G) := by
  unfold f_X7_alike at h
  refine g_entry (by decide) (Nat.le_of_ble_eq_true rfl) (fun p e s m args below meth c ls C0 hl hW _ => ?_)
  have hl : lv_has ls 5 [(0, .ref (g_ad G (1))), (1, .int (p1)), (2, .int (p2)), (3, .int (p3))] := hl
  refine lv_iconst (v := (0 : Int32)) C0.hx C0.hb dX7_alike_0 (by decide) ?_
  refine lv_istore (lv' := [(4, .int ((0 : Int32))), (0, .ref (g_ad G (1))), (1, .int (p1)), (2, .int (p2)), (3, .int (p3))]) C0.hx C0.hb dX7_alike_1 hl (by decide) rfl (fun ls hl => ?_)
  exact w_X7_alike_3 C0 g_fuel _ _ _ _ _ _ _ h hW (lv_sub hl [1, 2, 3, 4, 0] rfl)
set_option maxRecDepth 100000 in
set_option maxHeartbeats 4000000 in
theorem c_X8_size {l : Launch} {G : GL} {ids : List Nat} {y : MS} {o : Nat → Int32} {x : CS} {p1 : Int32} {q : Int32}    (h : f_X8_size p1 x = some q) : Met l yX8_size (.code yX8_size cX8_size 2 (Option.some Jvm.ClassFile.FieldType.int) :: gT) (g_rm 0 0 0) (va_Pc [.ref (g_ad G (3)), .int (p1)] (g_P G ids (x, y, o))) (g_Qi G ids q (x, y, o)) 0 0 (g_A G) := by
  unfold f_X8_size at h
  refine g_entry (by decide) (Nat.le_of_ble_eq_true rfl) (fun p e s m args below meth c ls C0 hl hW _ => ?_)
  have hl : lv_has ls 2 [(0, .ref (g_ad G (3))), (1, .int (p1))] := hl
  refine lv_iload_n C0.hx C0.hb dX8_size_0 rfl (lv_at hl 1 rfl) ?_
  refine lv_if_lt (tgt := 22) C0.hx C0.hb dX8_size_1 (by decide) (fun hc1 => ?_) (fun hc1 => ?_)
  · replace h := (if_pos hc1).symm.trans h
    refine lv_iconst (v := (0 : Int32)) C0.hx C0.hb dX8_size_22 (by decide) ?_
    obtain rfl := Option.some.inj h
    exact g_iret C0 hW rfl rfl rfl dX8_size_23
  · replace h := (if_neg hc1).symm.trans h
    refine lv_iload_n C0.hx C0.hb dX8_size_4 rfl (lv_at hl 1 rfl) ?_
    refine lv_aload_n C0.hx C0.hb dX8_size_5 rfl (lv_at hl 0 rfl) ?_
    refine gf_X8_3 C0 hW (C0.mem (i := 3) (Nat.le_of_ble_eq_true rfl)) k_3 tf_X8_21 dX8_size_6 ?_
    refine gl_22 C0 hW (C0.mem (i := 6) (Nat.le_of_ble_eq_true rfl)) k_6 dX8_size_9 ?_
    refine lv_icmp_ge (tgt := 22) C0.hx C0.hb dX8_size_10 (by decide) (fun hc2 => ?_) (fun hc2 => ?_)
    · replace h := (if_pos hc2).symm.trans h
      refine lv_iconst (v := (0 : Int32)) C0.hx C0.hb dX8_size_22 (by decide) ?_
      obtain rfl := Option.some.inj h
      exact g_iret C0 hW rfl rfl rfl dX8_size_23
    · replace h := (if_neg hc2).symm.trans h
      refine lv_aload_n C0.hx C0.hb dX8_size_13 rfl (lv_at hl 0 rfl) ?_
      refine gf_X8_3 C0 hW (C0.mem (i := 3) (Nat.le_of_ble_eq_true rfl)) k_3 tf_X8_21 dX8_size_14 ?_
      refine lv_iload_n C0.hx C0.hb dX8_size_17 rfl (lv_at hl 1 rfl) ?_
      obtain ⟨hb3, h⟩ := g_if h
      refine ga_22 C0 hW (C0.mem (i := 6) (Nat.le_of_ble_eq_true rfl)) k_6 hb3 dX8_size_18 ?_
      refine lv_goto (tgt := 23) C0.hx C0.hb dX8_size_19 (by decide) ?_
      obtain rfl := Option.some.inj h
      exact g_iret C0 hW rfl rfl rfl dX8_size_23
set_option maxRecDepth 100000 in
set_option maxHeartbeats 4000000 in
theorem c_X8_add {l : Launch} {G : GL} {ids : List Nat} {y : MS} {o : Nat → Int32} {x : CS} {p1 : Nat} {p2 : Int32} {p3 : Int32} {p4 : Int32} {q : CS}    (h : f_X8_add p1 p2 p3 p4 x = some q) : Met l yX8_add (.code yX8_add cX8_add 5 (Option.none : Option Jvm.ClassFile.FieldType) :: gT) (g_rm 0 0 0) (va_Pc [.ref (g_ad G (3)), .ref (g_sg G (p1)), .int (p2), .int (p3), .int (p4)] (g_P G ids (x, y, o))) (g_Qv G ids (q, y, o)) 0 0 (g_A G) := by
  unfold f_X8_add at h
  refine g_entry (by decide) (Nat.le_of_ble_eq_true rfl) (fun p e s m args below meth c ls C0 hl hW _ => ?_)
  have hl : lv_has ls 5 [(0, .ref (g_ad G (3))), (1, .ref (g_sg G (p1))), (2, .int (p2)), (3, .int (p3)), (4, .int (p4))] := hl
  refine lv_aload_n C0.hx C0.hb dX8_add_0 rfl (lv_at hl 0 rfl) ?_
  refine gf_X8_5 C0 hW (C0.mem (i := 3) (Nat.le_of_ble_eq_true rfl)) k_3 tf_X8_27 dX8_add_1 ?_
  refine lv_if_lt (tgt := 106) C0.hx C0.hb dX8_add_4 (by decide) (fun hc1 => ?_) (fun hc1 => ?_)
  · replace h := (if_pos hc1).symm.trans h
    obtain rfl := Option.some.inj h
    exact g_vret C0 hW rfl dX8_add_106
  · replace h := (if_neg hc1).symm.trans h
    refine lv_aload_n C0.hx C0.hb dX8_add_7 rfl (lv_at hl 0 rfl) ?_
    refine gf_X8_5 C0 hW (C0.mem (i := 3) (Nat.le_of_ble_eq_true rfl)) k_3 tf_X8_27 dX8_add_8 ?_
    refine lv_aload_n C0.hx C0.hb dX8_add_11 rfl (lv_at hl 0 rfl) ?_
    refine gf_X8_1 C0 hW (C0.mem (i := 3) (Nat.le_of_ble_eq_true rfl)) k_3 tf_X8_11 dX8_add_12 ?_
    refine gl_21 C0 hW (C0.mem (i := 4) (Nat.le_of_ble_eq_true rfl)) k_4 dX8_add_15 ?_
    refine lv_icmp_ge (tgt := 106) C0.hx C0.hb dX8_add_16 (by decide) (fun hc2 => ?_) (fun hc2 => ?_)
    · replace h := (if_pos hc2).symm.trans h
      obtain rfl := Option.some.inj h
      exact g_vret C0 hW rfl dX8_add_106
    · replace h := (if_neg hc2).symm.trans h
      refine lv_aload_n C0.hx C0.hb dX8_add_19 rfl (lv_at hl 0 rfl) ?_
      refine gf_X8_5 C0 hW (C0.mem (i := 3) (Nat.le_of_ble_eq_true rfl)) k_3 tf_X8_27 dX8_add_20 ?_
      refine lv_aload_n C0.hx C0.hb dX8_add_23 rfl (lv_at hl 0 rfl) ?_
      refine gf_X8_2 C0 hW (C0.mem (i := 3) (Nat.le_of_ble_eq_true rfl)) k_3 tf_X8_17 dX8_add_24 ?_
      refine gl_22 C0 hW (C0.mem (i := 5) (Nat.le_of_ble_eq_true rfl)) k_5 dX8_add_27 ?_
      refine lv_icmp_ge (tgt := 106) C0.hx C0.hb dX8_add_28 (by decide) (fun hc3 => ?_) (fun hc3 => ?_)
      · replace h := (if_pos hc3).symm.trans h
        obtain rfl := Option.some.inj h
        exact g_vret C0 hW rfl dX8_add_106
      · replace h := (if_neg hc3).symm.trans h
        refine lv_aload_n C0.hx C0.hb dX8_add_31 rfl (lv_at hl 0 rfl) ?_
        refine gf_X8_5 C0 hW (C0.mem (i := 3) (Nat.le_of_ble_eq_true rfl)) k_3 tf_X8_27 dX8_add_32 ?_
        refine lv_aload_n C0.hx C0.hb dX8_add_35 rfl (lv_at hl 0 rfl) ?_
        refine gf_X8_3 C0 hW (C0.mem (i := 3) (Nat.le_of_ble_eq_true rfl)) k_3 tf_X8_21 dX8_add_36 ?_
        refine gl_22 C0 hW (C0.mem (i := 6) (Nat.le_of_ble_eq_true rfl)) k_6 dX8_add_39 ?_
        refine lv_icmp_ge (tgt := 106) C0.hx C0.hb dX8_add_40 (by decide) (fun hc4 => ?_) (fun hc4 => ?_)
        · replace h := (if_pos hc4).symm.trans h
          obtain rfl := Option.some.inj h
          exact g_vret C0 hW rfl dX8_add_106
        · replace h := (if_neg hc4).symm.trans h
          refine lv_aload_n C0.hx C0.hb dX8_add_43 rfl (lv_at hl 0 rfl) ?_
          refine gf_X8_5 C0 hW (C0.mem (i := 3) (Nat.le_of_ble_eq_true rfl)) k_3 tf_X8_27 dX8_add_44 ?_
          refine lv_aload_n C0.hx C0.hb dX8_add_47 rfl (lv_at hl 0 rfl) ?_
          refine gf_X8_4 C0 hW (C0.mem (i := 3) (Nat.le_of_ble_eq_true rfl)) k_3 tf_X8_24 dX8_add_48 ?_
          refine gl_22 C0 hW (C0.mem (i := 7) (Nat.le_of_ble_eq_true rfl)) k_7 dX8_add_51 ?_
          refine lv_icmp_ge (tgt := 106) C0.hx C0.hb dX8_add_52 (by decide) (fun hc5 => ?_) (fun hc5 => ?_)
          · replace h := (if_pos hc5).symm.trans h
            obtain rfl := Option.some.inj h
            exact g_vret C0 hW rfl dX8_add_106
          · replace h := (if_neg hc5).symm.trans h
            refine lv_aload_n C0.hx C0.hb dX8_add_55 rfl (lv_at hl 0 rfl) ?_
            refine gf_X8_1 C0 hW (C0.mem (i := 3) (Nat.le_of_ble_eq_true rfl)) k_3 tf_X8_11 dX8_add_56 ?_
            refine lv_aload_n C0.hx C0.hb dX8_add_59 rfl (lv_at hl 0 rfl) ?_
            refine gf_X8_5 C0 hW (C0.mem (i := 3) (Nat.le_of_ble_eq_true rfl)) k_3 tf_X8_27 dX8_add_60 ?_
            refine lv_aload_n C0.hx C0.hb dX8_add_63 rfl (lv_at hl 1 rfl) ?_
            obtain ⟨hb6, h⟩ := g_if h
            obtain ⟨hs7, h⟩ := g_if h
            refine gs_21 C0 hW hs7 (C0.mem (i := 4) (Nat.le_of_ble_eq_true rfl)) k_4 hb6 dX8_add_64 (fun H locs hW => ?_)
            refine lv_aload_n C0.hx C0.hb dX8_add_65 rfl (lv_at hl 0 rfl) ?_
            refine gf_X8_2 C0 hW (C0.mem (i := 3) (Nat.le_of_ble_eq_true rfl)) k_3 tf_X8_17 dX8_add_66 ?_
            refine lv_aload_n C0.hx C0.hb dX8_add_69 rfl (lv_at hl 0 rfl) ?_
            refine gf_X8_5 C0 hW (C0.mem (i := 3) (Nat.le_of_ble_eq_true rfl)) k_3 tf_X8_27 dX8_add_70 ?_
            refine lv_iload_n C0.hx C0.hb dX8_add_73 rfl (lv_at hl 2 rfl) ?_
            obtain ⟨hb8, h⟩ := g_if h
            refine gs_22 C0 hW (C0.mem (i := 5) (Nat.le_of_ble_eq_true rfl)) k_5 hb8 dX8_add_74 (fun H locs hW => ?_)
            refine lv_aload_n C0.hx C0.hb dX8_add_75 rfl (lv_at hl 0 rfl) ?_
            refine gf_X8_3 C0 hW (C0.mem (i := 3) (Nat.le_of_ble_eq_true rfl)) k_3 tf_X8_21 dX8_add_76 ?_
            refine lv_aload_n C0.hx C0.hb dX8_add_79 rfl (lv_at hl 0 rfl) ?_
            refine gf_X8_5 C0 hW (C0.mem (i := 3) (Nat.le_of_ble_eq_true rfl)) k_3 tf_X8_27 dX8_add_80 ?_
            refine lv_iload_n C0.hx C0.hb dX8_add_83 rfl (lv_at hl 3 rfl) ?_
            obtain ⟨hb9, h⟩ := g_if h
            refine gs_22 C0 hW (C0.mem (i := 6) (Nat.le_of_ble_eq_true rfl)) k_6 hb9 dX8_add_84 (fun H locs hW => ?_)
            refine lv_aload_n C0.hx C0.hb dX8_add_85 rfl (lv_at hl 0 rfl) ?_
            refine gf_X8_4 C0 hW (C0.mem (i := 3) (Nat.le_of_ble_eq_true rfl)) k_3 tf_X8_24 dX8_add_86 ?_
            refine lv_aload_n C0.hx C0.hb dX8_add_89 rfl (lv_at hl 0 rfl) ?_
            refine gf_X8_5 C0 hW (C0.mem (i := 3) (Nat.le_of_ble_eq_true rfl)) k_3 tf_X8_27 dX8_add_90 ?_
            refine lv_iload C0.hx C0.hb dX8_add_93 (lv_at hl 4 rfl) ?_
            obtain ⟨hb10, h⟩ := g_if h
            refine gs_22 C0 hW (C0.mem (i := 7) (Nat.le_of_ble_eq_true rfl)) k_7 hb10 dX8_add_95 (fun H locs hW => ?_)
            refine lv_aload_n C0.hx C0.hb dX8_add_96 rfl (lv_at hl 0 rfl) ?_
            refine lv_dup C0.hx C0.hb dX8_add_97 rfl ?_
            refine gf_X8_5 C0 hW (C0.mem (i := 3) (Nat.le_of_ble_eq_true rfl)) k_3 tf_X8_27 dX8_add_98 ?_
            refine lv_iconst (v := (1 : Int32)) C0.hx C0.hb dX8_add_101 (by decide) ?_
            refine lv_iadd C0.hx C0.hb dX8_add_102 ?_
            refine gp_X8_5 C0 hW (C0.mem (i := 3) (Nat.le_of_ble_eq_true rfl)) k_3 tf_X8_27 dX8_add_103 (fun H locs hW => ?_)
            obtain rfl := Option.some.inj h
            exact g_vret C0 hW rfl dX8_add_106
set_option maxRecDepth 100000 in
set_option maxHeartbeats 4000000 in
theorem w_X8_longestSpelled_6 {p : Program} {l : Launch} {e : Env} {s : State} {m : MethodId} {args : Array Value} {below : List Frame} {meth : Method} {c : Code} {G : GL} {ids : List Nat} {y : MS} {o : Nat → Int32} {x : CS} {q : Nat}   (C0 : g_X G ids p s m args meth c cX8_longestSpelled 5 RX8 (Option.some (Jvm.ClassFile.FieldType.object "GlideWhistles$Sign")))  : ∀ (n : Nat) (l1 : Int32) (l2 : Nat) (l3 : Int32)  (H : Heap) (locs : List Loc) (ls : Array Slot),  f_X8_longestSpelled_6 x n l1 l2 l3 = some q → g_W G ids (x, y, o) s.heap H locs → lv_has ls 5 [(0, .ref (g_ad G (3))), (1, .int (l1)), (2, .ref (g_sg G (l2))), (3, .int (l3))] → W p l e (g_rm 12 0 0) s m args below meth c H locs 0 0 (MQ below (g_Qr G ids (g_sg G q) (x, y, o)) args s 0 0 (g_A G)) (F0 m 6 ls []) := by
  intro n
  induction n with
  | zero =>
    intro l1 l2 l3 H locs ls h hW hl
    exact absurd h (by simp [f_X8_longestSpelled_6])
  | succ n ih =>
    intro l1 l2 l3 H locs ls h hW hl
    unfold f_X8_longestSpelled_6 at h
    refine lv_iload_n C0.hx C0.hb dX8_longestSpelled_6 rfl (lv_at hl 3 rfl) ?_
    refine g_SIGNS C0 hW tfN_X8_107 dX8_longestSpelled_7 ?_
    refine g_SIGNSlen C0 hW dX8_longestSpelled_10 ?_
    refine lv_icmp_ge (tgt := 64) C0.hx C0.hb dX8_longestSpelled_11 (by decide) (fun hc1 => ?_) (fun hc1 => ?_)
    · replace h := (if_pos hc1).symm.trans h
      refine lv_aload_n C0.hx C0.hb dX8_longestSpelled_64 rfl (lv_at hl 2 rfl) ?_
      obtain rfl := Option.some.inj h
      exact g_aret C0 hW rfl rfl dX8_longestSpelled_65
    · replace h := (if_neg hc1).symm.trans h
      refine g_SIGNS C0 hW tfN_X8_107 dX8_longestSpelled_14 ?_
      refine lv_iload_n C0.hx C0.hb dX8_longestSpelled_17 rfl (lv_at hl 3 rfl) ?_
      obtain ⟨hb2, h⟩ := g_if h
      refine g_SIGNSat C0 hW hb2 dX8_longestSpelled_18 ?_
      obtain ⟨hs3, h⟩ := g_if h
      refine g_text C0 hW hs3 tfN_X8_85 dX8_longestSpelled_19 ?_
      refine lv_astore (lv' := [(4, .ref (g_sK G (l3.toNatClampNeg))), (0, .ref (g_ad G (3))), (1, .int (l1)), (2, .ref (g_sg G (l2))), (3, .int (l3))]) C0.hx C0.hb dX8_longestSpelled_22 hl (by decide) rfl (fun ls hl => ?_)
      refine lv_aload C0.hx C0.hb dX8_longestSpelled_24 (lv_at hl 0 rfl) ?_
      obtain ⟨hs12, h⟩ := g_if h
      obtain ⟨q4, hq4, h⟩ := Option.bind_eq_some_iff.mp h
      refine g_calli hW (g_runR (As := []) (rest := []) C0 hW (c_J0_length_8abf5 hq4) (g_cwOf (n := 0) tc_J0_length_8abf5 tn_J0 md_J0_length_8abf5 (by decide) (by omega)) tm_X8_89 ti_J0_length_8abf5 ts_J0_length_8abf5 (g_srecv C0 hW hs12) rfl hl.1 rfl (Nat.le_of_ble_eq_true rfl) dX8_longestSpelled_26) (fun H locs hW => ?_)
      refine lv_aload_n C0.hx C0.hb dX8_longestSpelled_29 rfl (lv_at hl 3 rfl) ?_
      obtain ⟨hs5, h⟩ := g_if h
      refine g_text C0 hW hs5 tfN_X8_85 dX8_longestSpelled_30 ?_
      obtain ⟨hs11, h⟩ := g_if h
      obtain ⟨q6, hq6, h⟩ := Option.bind_eq_some_iff.mp h
      refine g_calli hW (g_runR (As := []) (rest := [.int (q4)]) C0 hW (c_J0_length_8abf5 hq6) (g_cwOf (n := 0) tc_J0_length_8abf5 tn_J0 md_J0_length_8abf5 (by decide) (by omega)) tm_X8_89 ti_J0_length_8abf5 ts_J0_length_8abf5 (g_srecv C0 hW hs11) rfl hl.1 rfl (Nat.le_of_ble_eq_true rfl) dX8_longestSpelled_33) (fun H locs hW => ?_)
      refine lv_icmp_le (tgt := 58) C0.hx C0.hb dX8_longestSpelled_36 (by decide) (fun hc7 => ?_) (fun hc7 => ?_)
      · replace h := (if_pos hc7).symm.trans h
        refine lv_iinc (v := l3 + (1 : Int32)) (lv' := [(3, .int (l3 + (1 : Int32))), (4, .ref (g_sK G (l3.toNatClampNeg))), (0, .ref (g_ad G (3))), (1, .int (l1)), (2, .ref (g_sg G (l2)))]) C0.hx C0.hb dX8_longestSpelled_58 hl (k := 4) rfl rfl (by decide) rfl (fun ls hl => ?_)
        refine lv_goto (tgt := 6) C0.hx C0.hb dX8_longestSpelled_61 (by decide) ?_
        exact ih _ _ _ _ _ _ h hW (lv_sub hl [2, 3, 4, 0] rfl)
      · replace h := (if_neg hc7).symm.trans h
        refine lv_aload_n C0.hx C0.hb dX8_longestSpelled_39 rfl (lv_at hl 1 rfl) ?_
        refine gf_X8_0 C0 hW (C0.mem (i := 3) (Nat.le_of_ble_eq_true rfl)) k_3 tf_X8_31 dX8_longestSpelled_40 ?_
        refine lv_iload_n C0.hx C0.hb dX8_longestSpelled_43 rfl (lv_at hl 2 rfl) ?_
        refine lv_aload C0.hx C0.hb dX8_longestSpelled_44 (lv_at hl 0 rfl) ?_
        obtain ⟨q8, hq8, h⟩ := Option.bind_eq_some_iff.mp h
        refine g_calli hW (g_runV (As := [.int (l1), .ref (g_sK G (l3.toNatClampNeg))]) (rest := []) C0 hW (c_X7_spells hq8) (g_cwOf (n := 2) tc_X7_spells tn_X7 md_X7_spells (by decide) (by omega)) tm_X8_110 ti_X7_spells ts_X7_spells (C0.mem (i := 1) (Nat.le_of_ble_eq_true rfl)) (g_c2 k_1) rfl rfl hl.1 rfl (Nat.le_of_ble_eq_true rfl) dX8_longestSpelled_46) (fun H locs hW => ?_)
        refine lv_if_eq (tgt := 58) C0.hx C0.hb dX8_longestSpelled_49 (by decide) (fun hc9 => ?_) (fun hc9 => ?_)
        · replace h := (if_pos hc9).symm.trans h
          refine lv_iinc (v := l3 + (1 : Int32)) (lv' := [(3, .int (l3 + (1 : Int32))), (4, .ref (g_sK G (l3.toNatClampNeg))), (0, .ref (g_ad G (3))), (1, .int (l1)), (2, .ref (g_sg G (l2)))]) C0.hx C0.hb dX8_longestSpelled_58 hl (k := 4) rfl rfl (by decide) rfl (fun ls hl => ?_)
          refine lv_goto (tgt := 6) C0.hx C0.hb dX8_longestSpelled_61 (by decide) ?_
          exact ih _ _ _ _ _ _ h hW (lv_sub hl [2, 3, 4, 0] rfl)
        · replace h := (if_neg hc9).symm.trans h
          refine g_SIGNS C0 hW tfN_X8_107 dX8_longestSpelled_52 ?_
          refine lv_iload_n C0.hx C0.hb dX8_longestSpelled_55 rfl (lv_at hl 4 rfl) ?_
          obtain ⟨hb10, h⟩ := g_if h
          refine g_SIGNSat C0 hW hb10 dX8_longestSpelled_56 ?_
          refine lv_astore_n (lv' := [(2, .ref (g_sg G (l3.toNatClampNeg))), (4, .ref (g_sK G (l3.toNatClampNeg))), (0, .ref (g_ad G (3))), (1, .int (l1)), (3, .int (l3))]) C0.hx C0.hb dX8_longestSpelled_57 rfl hl (by decide) rfl (fun ls hl => ?_)
          refine lv_iinc (v := l3 + (1 : Int32)) (lv' := [(3, .int (l3 + (1 : Int32))), (2, .ref (g_sg G (l3.toNatClampNeg))), (4, .ref (g_sK G (l3.toNatClampNeg))), (0, .ref (g_ad G (3))), (1, .int (l1))]) C0.hx C0.hb dX8_longestSpelled_58 hl (k := 4) rfl rfl (by decide) rfl (fun ls hl => ?_)
          refine lv_goto (tgt := 6) C0.hx C0.hb dX8_longestSpelled_61 (by decide) ?_
          exact ih _ _ _ _ _ _ h hW (lv_sub hl [3, 4, 1, 0] rfl)
set_option maxRecDepth 100000 in
set_option maxHeartbeats 4000000 in
theorem c_X8_longestSpelled {l : Launch} {G : GL} {ids : List Nat} {y : MS} {o : Nat → Int32} {x : CS} {p1 : Int32} {q : Nat}    (h : f_X8_longestSpelled p1 x = some q) : Met l yX8_longestSpelled (.code yX8_longestSpelled cX8_longestSpelled 5 (Option.some (Jvm.ClassFile.FieldType.object "GlideWhistles$Sign")) :: gT) (g_rm 12 0 0) (va_Pc [.ref (g_ad G (3)), .int (p1)] (g_P G ids (x, y, o))) (g_Qr G ids (g_sg G q) (x, y, o)) 0 0 (g_A G) := by
  unfold f_X8_longestSpelled at h
  refine g_entry (by decide) (Nat.le_of_ble_eq_true rfl) (fun p e s m args below meth c ls C0 hl hW _ => ?_)
  have hl : lv_has ls 5 [(0, .ref (g_ad G (3))), (1, .int (p1))] := hl
  refine g_sign C0 hW 45 (by decide) tf_X8_39 dX8_longestSpelled_0 ?_
  refine lv_astore_n (lv' := [(2, .ref (g_sg G (45))), (0, .ref (g_ad G (3))), (1, .int (p1))]) C0.hx C0.hb dX8_longestSpelled_3 rfl hl (by decide) rfl (fun ls hl => ?_)
  refine lv_iconst (v := (0 : Int32)) C0.hx C0.hb dX8_longestSpelled_4 (by decide) ?_
  refine lv_istore_n (lv' := [(3, .int ((0 : Int32))), (2, .ref (g_sg G (45))), (0, .ref (g_ad G (3))), (1, .int (p1))]) C0.hx C0.hb dX8_longestSpelled_5 rfl hl (by decide) rfl (fun ls hl => ?_)
  exact w_X8_longestSpelled_6 C0 g_fuel _ _ _ _ _ _ h hW (lv_sub hl [2, 3, 1, 0] rfl)
set_option maxRecDepth 100000 in
set_option maxHeartbeats 4000000 in
theorem w_X8_firstAlike_2 {p : Program} {l : Launch} {e : Env} {s : State} {m : MethodId} {args : Array Value} {below : List Frame} {meth : Method} {c : Code} {G : GL} {ids : List Nat} {y : MS} {o : Nat → Int32} {x : CS} {q : Int32}   (C0 : g_X G ids p s m args meth c cX8_firstAlike 4 RX8 (Option.some Jvm.ClassFile.FieldType.int))  : ∀ (n : Nat) (l1 : Int32) (l2 : Int32) (l3 : Int32)  (H : Heap) (locs : List Loc) (ls : Array Slot),  f_X8_firstAlike_2 x n l1 l2 l3 = some q → g_W G ids (x, y, o) s.heap H locs → lv_has ls 4 [(0, .ref (g_ad G (3))), (1, .int (l1)), (2, .int (l2)), (3, .int (l3))] → W p l e (g_rm 2 0 0) s m args below meth c H locs 0 0 (MQ below (g_Qi G ids q (x, y, o)) args s 0 0 (g_A G)) (F0 m 2 ls []) := by
  intro n
  induction n with
  | zero =>
    intro l1 l2 l3 H locs ls h hW hl
    exact absurd h (by simp [f_X8_firstAlike_2])
  | succ n ih =>
    intro l1 l2 l3 H locs ls h hW hl
    unfold f_X8_firstAlike_2 at h
    refine lv_iload_n C0.hx C0.hb dX8_firstAlike_2 rfl (lv_at hl 3 rfl) ?_
    refine lv_aload_n C0.hx C0.hb dX8_firstAlike_3 rfl (lv_at hl 0 rfl) ?_
    refine gf_X8_5 C0 hW (C0.mem (i := 3) (Nat.le_of_ble_eq_true rfl)) k_3 tf_X8_27 dX8_firstAlike_4 ?_
    refine lv_icmp_ge (tgt := 55) C0.hx C0.hb dX8_firstAlike_7 (by decide) (fun hc1 => ?_) (fun hc1 => ?_)
    · replace h := (if_pos hc1).symm.trans h
      refine lv_aload_n C0.hx C0.hb dX8_firstAlike_55 rfl (lv_at hl 0 rfl) ?_
      refine gf_X8_5 C0 hW (C0.mem (i := 3) (Nat.le_of_ble_eq_true rfl)) k_3 tf_X8_27 dX8_firstAlike_56 ?_
      obtain rfl := Option.some.inj h
      exact g_iret C0 hW rfl rfl rfl dX8_firstAlike_59
    · replace h := (if_neg hc1).symm.trans h
      refine lv_aload_n C0.hx C0.hb dX8_firstAlike_10 rfl (lv_at hl 0 rfl) ?_
      refine lv_iload_n C0.hx C0.hb dX8_firstAlike_11 rfl (lv_at hl 3 rfl) ?_
      obtain ⟨q2, hq2, h⟩ := Option.bind_eq_some_iff.mp h
      refine g_callr hW (g_runV (As := [.int (l3)]) (rest := []) C0 hW (c_X8_sign hq2) (g_cwOf (n := 1) tc_X8_sign tn_X8 md_X8_sign (by decide) (by omega)) tm_X8_52 ti_X8_sign ts_X8_sign (C0.mem (i := 3) (Nat.le_of_ble_eq_true rfl)) (g_c3 k_3) rfl rfl hl.1 rfl (Nat.le_of_ble_eq_true rfl) dX8_firstAlike_12) (fun H locs hW => ?_)
      refine g_sign C0 hW 41 (by decide) tf_X8_94 dX8_firstAlike_15 ?_
      refine g_acmp_ne (tgt := 49) C0 dX8_firstAlike_18 (by decide) (fun hc3 => ?_) (fun hc3 => ?_)
      · replace h := (if_neg hc3).symm.trans h
        refine lv_iinc (v := l3 + (1 : Int32)) (lv' := [(3, .int (l3 + (1 : Int32))), (0, .ref (g_ad G (3))), (1, .int (l1)), (2, .int (l2))]) C0.hx C0.hb dX8_firstAlike_49 hl (k := 3) rfl rfl (by decide) rfl (fun ls hl => ?_)
        refine lv_goto (tgt := 2) C0.hx C0.hb dX8_firstAlike_52 (by decide) ?_
        exact ih _ _ _ _ _ _ h hW (lv_sub hl [1, 2, 3, 0] rfl)
      · replace h := (if_pos hc3).symm.trans h
        refine lv_aload_n C0.hx C0.hb dX8_firstAlike_21 rfl (lv_at hl 0 rfl) ?_
        refine lv_iload_n C0.hx C0.hb dX8_firstAlike_22 rfl (lv_at hl 3 rfl) ?_
        obtain ⟨q4, hq4, h⟩ := Option.bind_eq_some_iff.mp h
        refine g_calli hW (g_runV (As := [.int (l3)]) (rest := []) C0 hW (c_X8_size hq4) (g_cwOf (n := 1) tc_X8_size tn_X8 md_X8_size (by decide) (by omega)) tm_X8_56 ti_X8_size ts_X8_size (C0.mem (i := 3) (Nat.le_of_ble_eq_true rfl)) (g_c3 k_3) rfl rfl hl.1 rfl (Nat.le_of_ble_eq_true rfl) dX8_firstAlike_23) (fun H locs hW => ?_)
        refine lv_iload_n C0.hx C0.hb dX8_firstAlike_26 rfl (lv_at hl 2 rfl) ?_
        refine lv_icmp_ne (tgt := 49) C0.hx C0.hb dX8_firstAlike_27 (by decide) (fun hc5 => ?_) (fun hc5 => ?_)
        · replace h := (if_neg hc5).symm.trans h
          refine lv_iinc (v := l3 + (1 : Int32)) (lv' := [(3, .int (l3 + (1 : Int32))), (0, .ref (g_ad G (3))), (1, .int (l1)), (2, .int (l2))]) C0.hx C0.hb dX8_firstAlike_49 hl (k := 3) rfl rfl (by decide) rfl (fun ls hl => ?_)
          refine lv_goto (tgt := 2) C0.hx C0.hb dX8_firstAlike_52 (by decide) ?_
          exact ih _ _ _ _ _ _ h hW (lv_sub hl [1, 2, 3, 0] rfl)
        · replace h := (if_pos hc5).symm.trans h
          refine lv_aload_n C0.hx C0.hb dX8_firstAlike_30 rfl (lv_at hl 0 rfl) ?_
          refine gf_X8_0 C0 hW (C0.mem (i := 3) (Nat.le_of_ble_eq_true rfl)) k_3 tf_X8_31 dX8_firstAlike_31 ?_
          refine lv_aload_n C0.hx C0.hb dX8_firstAlike_34 rfl (lv_at hl 0 rfl) ?_
          refine lv_iload_n C0.hx C0.hb dX8_firstAlike_35 rfl (lv_at hl 3 rfl) ?_
          obtain ⟨q6, hq6, h⟩ := Option.bind_eq_some_iff.mp h
          refine g_calli hW (g_runV (As := [.int (l3)]) (rest := [.ref (g_ad G (1))]) C0 hW (c_X8_place hq6) (g_cwOf (n := 1) tc_X8_place tn_X8 md_X8_place (by decide) (by omega)) tm_X8_114 ti_X8_place ts_X8_place (C0.mem (i := 3) (Nat.le_of_ble_eq_true rfl)) (g_c3 k_3) rfl rfl hl.1 rfl (Nat.le_of_ble_eq_true rfl) dX8_firstAlike_36) (fun H locs hW => ?_)
          refine lv_iload_n C0.hx C0.hb dX8_firstAlike_39 rfl (lv_at hl 1 rfl) ?_
          refine lv_iload_n C0.hx C0.hb dX8_firstAlike_40 rfl (lv_at hl 2 rfl) ?_
          obtain ⟨q7, hq7, h⟩ := Option.bind_eq_some_iff.mp h
          refine g_calli hW (g_runV (As := [.int (q6), .int (l1), .int (l2)]) (rest := []) C0 hW (c_X7_alike hq7) (g_cwOf (n := 3) tc_X7_alike tn_X7 md_X7_alike (by decide) (by omega)) tm_X8_117 ti_X7_alike ts_X7_alike (C0.mem (i := 1) (Nat.le_of_ble_eq_true rfl)) (g_c2 k_1) rfl rfl hl.1 rfl (Nat.le_of_ble_eq_true rfl) dX8_firstAlike_41) (fun H locs hW => ?_)
          refine lv_if_eq (tgt := 49) C0.hx C0.hb dX8_firstAlike_44 (by decide) (fun hc8 => ?_) (fun hc8 => ?_)
          · replace h := (if_pos hc8).symm.trans h
            refine lv_iinc (v := l3 + (1 : Int32)) (lv' := [(3, .int (l3 + (1 : Int32))), (0, .ref (g_ad G (3))), (1, .int (l1)), (2, .int (l2))]) C0.hx C0.hb dX8_firstAlike_49 hl (k := 3) rfl rfl (by decide) rfl (fun ls hl => ?_)
            refine lv_goto (tgt := 2) C0.hx C0.hb dX8_firstAlike_52 (by decide) ?_
            exact ih _ _ _ _ _ _ h hW (lv_sub hl [1, 2, 3, 0] rfl)
          · replace h := (if_neg hc8).symm.trans h
            refine lv_iload_n C0.hx C0.hb dX8_firstAlike_47 rfl (lv_at hl 3 rfl) ?_
            obtain rfl := Option.some.inj h
            exact g_iret C0 hW rfl rfl rfl dX8_firstAlike_48
set_option maxRecDepth 100000 in
set_option maxHeartbeats 4000000 in
theorem c_X8_firstAlike {l : Launch} {G : GL} {ids : List Nat} {y : MS} {o : Nat → Int32} {x : CS} {p1 : Int32} {p2 : Int32} {q : Int32}    (h : f_X8_firstAlike p1 p2 x = some q) : Met l yX8_firstAlike (.code yX8_firstAlike cX8_firstAlike 4 (Option.some Jvm.ClassFile.FieldType.int) :: gT) (g_rm 2 0 0) (va_Pc [.ref (g_ad G (3)), .int (p1), .int (p2)] (g_P G ids (x, y, o))) (g_Qi G ids q (x, y, o)) 0 0 (g_A G) := by
  unfold f_X8_firstAlike at h
  refine g_entry (by decide) (Nat.le_of_ble_eq_true rfl) (fun p e s m args below meth c ls C0 hl hW _ => ?_)
  have hl : lv_has ls 4 [(0, .ref (g_ad G (3))), (1, .int (p1)), (2, .int (p2))] := hl
  refine lv_iconst (v := (0 : Int32)) C0.hx C0.hb dX8_firstAlike_0 (by decide) ?_
  refine lv_istore_n (lv' := [(3, .int ((0 : Int32))), (0, .ref (g_ad G (3))), (1, .int (p1)), (2, .int (p2))]) C0.hx C0.hb dX8_firstAlike_1 rfl hl (by decide) rfl (fun ls hl => ?_)
  exact w_X8_firstAlike_2 C0 g_fuel _ _ _ _ _ _ h hW (lv_sub hl [1, 2, 3, 0] rfl)
set_option maxRecDepth 100000 in
set_option maxHeartbeats 4000000 in
theorem w_X8_readWord_41 {p : Program} {l : Launch} {e : Env} {s : State} {m : MethodId} {args : Array Value} {below : List Frame} {meth : Method} {c : Code} {G : GL} {ids : List Nat} {y : MS} {o : Nat → Int32}  {q : CS}   (C0 : g_X G ids p s m args meth c cX8_readWord 5 RX8 (Option.none : Option Jvm.ClassFile.FieldType))  : ∀  (l1 : Int32) (l2 : Int32) (x : CS) (H : Heap) (locs : List Loc) (ls : Array Slot),  f_X8_readWord_41 l1 l2 x = some q → g_W G ids (x, y, o) s.heap H locs → lv_has ls 5 [(0, .ref (g_ad G (3))), (1, .int (l1)), (2, .int (l2))] → W p l e (g_rm 13 0 0) s m args below meth c H locs 0 0 (MQ below (g_Qv G ids (q, y, o)) args s 0 0 (g_A G)) (F0 m 41 ls []) := by
  intro l1 l2 x H locs ls h hW hl
  unfold f_X8_readWord_41 at h
  refine lv_iload_n C0.hx C0.hb dX8_readWord_41 rfl (lv_at hl 2 rfl) ?_
  refine lv_iload_n C0.hx C0.hb dX8_readWord_42 rfl (lv_at hl 1 rfl) ?_
  refine lv_isub C0.hx C0.hb dX8_readWord_43 ?_
  refine lv_istore_n (lv' := [(3, .int (l2 - l1)), (0, .ref (g_ad G (3))), (1, .int (l1)), (2, .int (l2))]) C0.hx C0.hb dX8_readWord_44 rfl hl (by decide) rfl (fun ls hl => ?_)
  refine lv_iload_n C0.hx C0.hb dX8_readWord_45 rfl (lv_at hl 0 rfl) ?_
  refine lv_bipush (v := (10 : Int32)) C0.hx C0.hb dX8_readWord_46 (by decide) ?_
  refine lv_icmp_le (tgt := 62) C0.hx C0.hb dX8_readWord_48 (by decide) (fun hc6 => ?_) (fun hc6 => ?_)
  · replace h := (if_pos hc6).symm.trans h
    refine lv_aload_n C0.hx C0.hb dX8_readWord_62 rfl (lv_at hl 1 rfl) ?_
    refine lv_iload_n C0.hx C0.hb dX8_readWord_63 rfl (lv_at hl 2 rfl) ?_
    obtain ⟨q7, hq7, h⟩ := Option.bind_eq_some_iff.mp h
    refine g_callr hW (g_runV (As := [.int (l1)]) (rest := []) C0 hW (c_X8_longestSpelled hq7) (g_cwOf (n := 1) tc_X8_longestSpelled tn_X8 md_X8_longestSpelled (by decide) (by omega)) tm_X8_82 ti_X8_longestSpelled ts_X8_longestSpelled (C0.mem (i := 3) (Nat.le_of_ble_eq_true rfl)) (g_c3 k_3) rfl rfl hl.1 rfl (Nat.le_of_ble_eq_true rfl) dX8_readWord_64) (fun H locs hW => ?_)
    refine lv_astore (lv' := [(4, .ref (g_sg G (q7))), (3, .int (l2 - l1)), (0, .ref (g_ad G (3))), (1, .int (l1)), (2, .int (l2))]) C0.hx C0.hb dX8_readWord_67 hl (by decide) rfl (fun ls hl => ?_)
    refine lv_aload C0.hx C0.hb dX8_readWord_69 (lv_at hl 0 rfl) ?_
    obtain ⟨hs8, h⟩ := g_if h
    refine g_text C0 hW hs8 tfN_X8_85 dX8_readWord_71 ?_
    obtain ⟨hs14, h⟩ := g_if h
    obtain ⟨q9, hq9, h⟩ := Option.bind_eq_some_iff.mp h
    refine g_calli hW (g_runR (As := []) (rest := []) C0 hW (c_J0_length_8abf5 hq9) (g_cwOf (n := 0) tc_J0_length_8abf5 tn_J0 md_J0_length_8abf5 (by decide) (by omega)) tm_X8_89 ti_J0_length_8abf5 ts_J0_length_8abf5 (g_srecv C0 hW hs14) rfl hl.1 rfl (Nat.le_of_ble_eq_true rfl) dX8_readWord_74) (fun H locs hW => ?_)
    refine lv_iload_n C0.hx C0.hb dX8_readWord_77 rfl (lv_at hl 1 rfl) ?_
    refine lv_icmp_ne (tgt := 93) C0.hx C0.hb dX8_readWord_78 (by decide) (fun hc10 => ?_) (fun hc10 => ?_)
    · replace h := (if_neg hc10).symm.trans h
      refine lv_aload_n C0.hx C0.hb dX8_readWord_93 rfl (lv_at hl 2 rfl) ?_
      refine g_sign C0 hW 41 (by decide) tf_X8_94 dX8_readWord_94 ?_
      refine lv_iload_n C0.hx C0.hb dX8_readWord_97 rfl (lv_at hl 3 rfl) ?_
      refine lv_iload_n C0.hx C0.hb dX8_readWord_98 rfl (lv_at hl 1 rfl) ?_
      refine lv_aload_n C0.hx C0.hb dX8_readWord_99 rfl (lv_at hl 2 rfl) ?_
      refine lv_iload_n C0.hx C0.hb dX8_readWord_100 rfl (lv_at hl 3 rfl) ?_
      refine lv_iload_n C0.hx C0.hb dX8_readWord_101 rfl (lv_at hl 1 rfl) ?_
      obtain ⟨q11, hq11, h⟩ := Option.bind_eq_some_iff.mp h
      refine g_calli hW (g_runV (As := [.int (l1), .int (l2 - l1)]) (rest := [.int (l2 - l1), .int (l1), .ref (g_sg G (41)), .ref (g_ad G (3))]) C0 hW (c_X8_firstAlike hq11) (g_cwOf (n := 2) tc_X8_firstAlike tn_X8 md_X8_firstAlike (by decide) (by omega)) tm_X8_97 ti_X8_firstAlike ts_X8_firstAlike (C0.mem (i := 3) (Nat.le_of_ble_eq_true rfl)) (g_c3 k_3) rfl rfl hl.1 rfl (Nat.le_of_ble_eq_true rfl) dX8_readWord_102) (fun H locs hW => ?_)
      obtain ⟨q12, hq12, h⟩ := Option.bind_eq_some_iff.mp h
      refine g_callv hW (g_runV (As := [.ref (g_sg G (41)), .int (l1), .int (l2 - l1), .int (q11)]) (rest := []) C0 hW (c_X8_add hq12) (g_cwOf (n := 4) tc_X8_add tn_X8 md_X8_add (by decide) (by omega)) tm_X8_62 ti_X8_add ts_X8_add (C0.mem (i := 3) (Nat.le_of_ble_eq_true rfl)) (g_c3 k_3) rfl rfl hl.1 rfl (Nat.le_of_ble_eq_true rfl) dX8_readWord_105) (fun H locs hW => ?_)
      obtain rfl := Option.some.inj h
      exact g_vret C0 hW rfl dX8_readWord_108
    · replace h := (if_pos hc10).symm.trans h
      refine lv_aload_n C0.hx C0.hb dX8_readWord_81 rfl (lv_at hl 2 rfl) ?_
      refine lv_aload C0.hx C0.hb dX8_readWord_82 (lv_at hl 0 rfl) ?_
      refine lv_iload_n C0.hx C0.hb dX8_readWord_84 rfl (lv_at hl 3 rfl) ?_
      refine lv_iload_n C0.hx C0.hb dX8_readWord_85 rfl (lv_at hl 1 rfl) ?_
      refine lv_iconst (v := (0 : Int32)) C0.hx C0.hb dX8_readWord_86 (by decide) ?_
      obtain ⟨q13, hq13, h⟩ := Option.bind_eq_some_iff.mp h
      refine g_callv hW (g_runV (As := [.ref (g_sg G (q7)), .int (l1), .int (l2 - l1), .int ((0 : Int32))]) (rest := []) C0 hW (c_X8_add hq13) (g_cwOf (n := 4) tc_X8_add tn_X8 md_X8_add (by decide) (by omega)) tm_X8_62 ti_X8_add ts_X8_add (C0.mem (i := 3) (Nat.le_of_ble_eq_true rfl)) (g_c3 k_3) rfl rfl hl.1 rfl (Nat.le_of_ble_eq_true rfl) dX8_readWord_87) (fun H locs hW => ?_)
      refine lv_goto (tgt := 108) C0.hx C0.hb dX8_readWord_90 (by decide) ?_
      obtain rfl := Option.some.inj h
      exact g_vret C0 hW rfl dX8_readWord_108
  · replace h := (if_neg hc6).symm.trans h
    refine lv_aload_n C0.hx C0.hb dX8_readWord_51 rfl (lv_at hl 1 rfl) ?_
    refine g_sign C0 hW 45 (by decide) tf_X8_39 dX8_readWord_52 ?_
    refine lv_iload_n C0.hx C0.hb dX8_readWord_55 rfl (lv_at hl 2 rfl) ?_
    refine lv_iload_n C0.hx C0.hb dX8_readWord_56 rfl (lv_at hl 0 rfl) ?_
    refine lv_iconst (v := (0 : Int32)) C0.hx C0.hb dX8_readWord_57 (by decide) ?_
    obtain ⟨q15, hq15, h⟩ := Option.bind_eq_some_iff.mp h
    refine g_callv hW (g_runV (As := [.ref (g_sg G (45)), .int (l1), .int (l2 - l1), .int ((0 : Int32))]) (rest := []) C0 hW (c_X8_add hq15) (g_cwOf (n := 4) tc_X8_add tn_X8 md_X8_add (by decide) (by omega)) tm_X8_62 ti_X8_add ts_X8_add (C0.mem (i := 3) (Nat.le_of_ble_eq_true rfl)) (g_c3 k_3) rfl rfl hl.1 rfl (Nat.le_of_ble_eq_true rfl) dX8_readWord_58) (fun H locs hW => ?_)
    obtain rfl := Option.some.inj h
    exact g_vret C0 hW rfl dX8_readWord_61
set_option maxRecDepth 100000 in
set_option maxHeartbeats 4000000 in
theorem w_X8_readWord_2 {p : Program} {l : Launch} {e : Env} {s : State} {m : MethodId} {args : Array Value} {below : List Frame} {meth : Method} {c : Code} {G : GL} {ids : List Nat} {y : MS} {o : Nat → Int32}  {q : CS}   (C0 : g_X G ids p s m args meth c cX8_readWord 5 RX8 (Option.none : Option Jvm.ClassFile.FieldType))  : ∀ (n : Nat) (l1 : Int32) (l2 : Int32) (x : CS) (H : Heap) (locs : List Loc) (ls : Array Slot),  f_X8_readWord_2 n l1 l2 x = some q → g_W G ids (x, y, o) s.heap H locs → lv_has ls 5 [(0, .ref (g_ad G (3))), (1, .int (l1)), (2, .int (l2))] → W p l e (g_rm 13 0 0) s m args below meth c H locs 0 0 (MQ below (g_Qv G ids (q, y, o)) args s 0 0 (g_A G)) (F0 m 2 ls []) := by
  intro n
  induction n with
  | zero =>
    intro l1 l2 x H locs ls h hW hl
    exact absurd h (by simp [f_X8_readWord_2])
  | succ n ih =>
    intro l1 l2 x H locs ls h hW hl
    unfold f_X8_readWord_2 at h
    refine lv_iload_n C0.hx C0.hb dX8_readWord_2 rfl (lv_at hl 2 rfl) ?_
    refine lv_aload_n C0.hx C0.hb dX8_readWord_3 rfl (lv_at hl 0 rfl) ?_
    refine gf_X8_0 C0 hW (C0.mem (i := 3) (Nat.le_of_ble_eq_true rfl)) k_3 tf_X8_31 dX8_readWord_4 ?_
    refine gfN_X7_1 C0 hW (C0.mem (i := 1) (Nat.le_of_ble_eq_true rfl)) k_1 tfN_X8_59 dX8_readWord_7 ?_
    refine lv_icmp_ge (tgt := 41) C0.hx C0.hb dX8_readWord_10 (by decide) (fun hc1 => ?_) (fun hc1 => ?_)
    · replace h := (if_pos hc1).symm.trans h
      exact w_X8_readWord_41 C0 _ _ _ _ _ _ h hW (lv_sub hl [0, 1, 2] rfl)
    · replace h := (if_neg hc1).symm.trans h
      refine lv_aload_n C0.hx C0.hb dX8_readWord_13 rfl (lv_at hl 0 rfl) ?_
      refine gf_X8_0 C0 hW (C0.mem (i := 3) (Nat.le_of_ble_eq_true rfl)) k_3 tf_X8_31 dX8_readWord_14 ?_
      refine lv_iload_n C0.hx C0.hb dX8_readWord_17 rfl (lv_at hl 2 rfl) ?_
      obtain ⟨q2, hq2, h⟩ := Option.bind_eq_some_iff.mp h
      refine g_calli hW (g_runV (As := [.int (l2)]) (rest := []) C0 hW (c_X7_isLetter hq2) (g_cwOf (n := 1) tc_X7_isLetter tn_X7 md_X7_isLetter (by decide) (by omega)) tm_X8_66 ti_X7_isLetter ts_X7_isLetter (C0.mem (i := 1) (Nat.le_of_ble_eq_true rfl)) (g_c2 k_1) rfl rfl hl.1 rfl (Nat.le_of_ble_eq_true rfl) dX8_readWord_18) (fun H locs hW => ?_)
      refine lv_if_ne (tgt := 35) C0.hx C0.hb dX8_readWord_21 (by decide) (fun hc3 => ?_) (fun hc3 => ?_)
      · replace h := (if_neg hc3).symm.trans h
        refine lv_iinc (v := l2 + (1 : Int32)) (lv' := [(2, .int (l2 + (1 : Int32))), (0, .ref (g_ad G (3))), (1, .int (l1))]) C0.hx C0.hb dX8_readWord_35 hl (k := 2) rfl rfl (by decide) rfl (fun ls hl => ?_)
        refine lv_goto (tgt := 2) C0.hx C0.hb dX8_readWord_38 (by decide) ?_
        exact ih _ _ _ _ _ _ h hW (lv_sub hl [1, 2, 0] rfl)
      · replace h := (if_pos hc3).symm.trans h
        refine lv_aload_n C0.hx C0.hb dX8_readWord_24 rfl (lv_at hl 0 rfl) ?_
        refine gf_X8_0 C0 hW (C0.mem (i := 3) (Nat.le_of_ble_eq_true rfl)) k_3 tf_X8_31 dX8_readWord_25 ?_
        refine lv_iload_n C0.hx C0.hb dX8_readWord_28 rfl (lv_at hl 2 rfl) ?_
        obtain ⟨q4, hq4, h⟩ := Option.bind_eq_some_iff.mp h
        refine g_calli hW (g_runV (As := [.int (l2)]) (rest := []) C0 hW (c_X7_isDigit hq4) (g_cwOf (n := 1) tc_X7_isDigit tn_X7 md_X7_isDigit (by decide) (by omega)) tm_X8_73 ti_X7_isDigit ts_X7_isDigit (C0.mem (i := 1) (Nat.le_of_ble_eq_true rfl)) (g_c2 k_1) rfl rfl hl.1 rfl (Nat.le_of_ble_eq_true rfl) dX8_readWord_29) (fun H locs hW => ?_)
        refine lv_if_eq (tgt := 41) C0.hx C0.hb dX8_readWord_32 (by decide) (fun hc5 => ?_) (fun hc5 => ?_)
        · replace h := (if_pos hc5).symm.trans h
          exact w_X8_readWord_41 C0 _ _ _ _ _ _ h hW (lv_sub hl [0, 1, 2] rfl)
        · replace h := (if_neg hc5).symm.trans h
          refine lv_iinc (v := l2 + (1 : Int32)) (lv' := [(2, .int (l2 + (1 : Int32))), (0, .ref (g_ad G (3))), (1, .int (l1))]) C0.hx C0.hb dX8_readWord_35 hl (k := 2) rfl rfl (by decide) rfl (fun ls hl => ?_)
          refine lv_goto (tgt := 2) C0.hx C0.hb dX8_readWord_38 (by decide) ?_
          exact ih _ _ _ _ _ _ h hW (lv_sub hl [1, 2, 0] rfl)
set_option maxRecDepth 100000 in
set_option maxHeartbeats 4000000 in
theorem c_X8_readWord {l : Launch} {G : GL} {ids : List Nat} {y : MS} {o : Nat → Int32} {x : CS} {p1 : Int32} {q : CS}    (h : f_X8_readWord p1 x = some q) : Met l yX8_readWord (.code yX8_readWord cX8_readWord 5 (Option.none : Option Jvm.ClassFile.FieldType) :: gT) (g_rm 13 0 0) (va_Pc [.ref (g_ad G (3)), .int (p1)] (g_P G ids (x, y, o))) (g_Qv G ids (q, y, o)) 0 0 (g_A G) := by
  unfold f_X8_readWord at h
  refine g_entry (by decide) (Nat.le_of_ble_eq_true rfl) (fun p e s m args below meth c ls C0 hl hW _ => ?_)
  have hl : lv_has ls 5 [(0, .ref (g_ad G (3))), (1, .int (p1))] := hl
  refine lv_iload_n C0.hx C0.hb dX8_readWord_0 rfl (lv_at hl 1 rfl) ?_
  refine lv_istore_n (lv' := [(2, .int (p1)), (0, .ref (g_ad G (3))), (1, .int (p1))]) C0.hx C0.hb dX8_readWord_1 rfl hl (by decide) rfl (fun ls hl => ?_)
  exact w_X8_readWord_2 C0 g_fuel _ _ _ _ _ _ h hW (lv_sub hl [1, 2, 0] rfl)
set_option maxRecDepth 100000 in
set_option maxHeartbeats 4000000 in
theorem w_X8_readNumber_71 {p : Program} {l : Launch} {e : Env} {s : State} {m : MethodId} {args : Array Value} {below : List Frame} {meth : Method} {c : Code} {G : GL} {ids : List Nat} {y : MS} {o : Nat → Int32}  {q : CS}   (C0 : g_X G ids p s m args meth c cX8_readNumber 5 RX8 (Option.none : Option Jvm.ClassFile.FieldType))  : ∀  (l1 : Int32) (l3 : Int32) (l4 : Int32) (s0 : Nat) (x : CS) (H : Heap) (locs : List Loc) (ls : Array Slot),  f_X8_readNumber_71 l1 l3 l4 s0 x = some q → g_W G ids (x, y, o) s.heap H locs → lv_has ls 5 [(1, .int (l1)), (3, .int (l3)), (4, .int (l4))] → W p l e (g_rm 2 0 0) s m args below meth c H locs 0 0 (MQ below (g_Qv G ids (q, y, o)) args s 0 0 (g_A G)) (F0 m 71 ls [.ref (g_sg G (s0)), .ref (g_ad G (3))]) := by
  intro l1 l3 l4 s0 x H locs ls h hW hl
  unfold f_X8_readNumber_71 at h
  refine lv_iload_n C0.hx C0.hb dX8_readNumber_71 rfl (lv_at hl 0 rfl) ?_
  refine lv_iload C0.hx C0.hb dX8_readNumber_72 (lv_at hl 2 rfl) ?_
  refine lv_iload_n C0.hx C0.hb dX8_readNumber_74 rfl (lv_at hl 1 rfl) ?_
  obtain ⟨q6, hq6, h⟩ := Option.bind_eq_some_iff.mp h
  refine g_callv hW (g_runV (As := [.ref (g_sg G (s0)), .int (l1), .int (l4), .int (l3)]) (rest := []) C0 hW (c_X8_add hq6) (g_cwOf (n := 4) tc_X8_add tn_X8 md_X8_add (by decide) (by omega)) tm_X8_62 ti_X8_add ts_X8_add (C0.mem (i := 3) (Nat.le_of_ble_eq_true rfl)) (g_c3 k_3) rfl rfl hl.1 rfl (Nat.le_of_ble_eq_true rfl) dX8_readNumber_75) (fun H locs hW => ?_)
  obtain rfl := Option.some.inj h
  exact g_vret C0 hW rfl dX8_readNumber_78
set_option maxRecDepth 100000 in
set_option maxHeartbeats 4000000 in
theorem w_X8_readNumber_49 {p : Program} {l : Launch} {e : Env} {s : State} {m : MethodId} {args : Array Value} {below : List Frame} {meth : Method} {c : Code} {G : GL} {ids : List Nat} {y : MS} {o : Nat → Int32}  {q : CS}   (C0 : g_X G ids p s m args meth c cX8_readNumber 5 RX8 (Option.none : Option Jvm.ClassFile.FieldType))  : ∀  (l1 : Int32) (l2 : Int32) (l3 : Int32) (x : CS) (H : Heap) (locs : List Loc) (ls : Array Slot),  f_X8_readNumber_49 l1 l2 l3 x = some q → g_W G ids (x, y, o) s.heap H locs → lv_has ls 5 [(0, .ref (g_ad G (3))), (1, .int (l1)), (2, .int (l2)), (3, .int (l3))] → W p l e (g_rm 2 0 0) s m args below meth c H locs 0 0 (MQ below (g_Qv G ids (q, y, o)) args s 0 0 (g_A G)) (F0 m 49 ls []) := by
  intro l1 l2 l3 x H locs ls h hW hl
  unfold f_X8_readNumber_49 at h
  refine lv_iload_n C0.hx C0.hb dX8_readNumber_49 rfl (lv_at hl 2 rfl) ?_
  refine lv_iload_n C0.hx C0.hb dX8_readNumber_50 rfl (lv_at hl 1 rfl) ?_
  refine lv_isub C0.hx C0.hb dX8_readNumber_51 ?_
  refine lv_istore (lv' := [(4, .int (l2 - l1)), (0, .ref (g_ad G (3))), (1, .int (l1)), (2, .int (l2)), (3, .int (l3))]) C0.hx C0.hb dX8_readNumber_52 hl (by decide) rfl (fun ls hl => ?_)
  refine lv_aload_n C0.hx C0.hb dX8_readNumber_54 rfl (lv_at hl 1 rfl) ?_
  refine lv_iload C0.hx C0.hb dX8_readNumber_55 (lv_at hl 0 rfl) ?_
  refine lv_bipush (v := (6 : Int32)) C0.hx C0.hb dX8_readNumber_57 (by decide) ?_
  refine lv_icmp_le (tgt := 68) C0.hx C0.hb dX8_readNumber_59 (by decide) (fun hc5 => ?_) (fun hc5 => ?_)
  · replace h := (if_pos hc5).symm.trans h
    refine g_sign C0 hW 42 (by decide) tf_X8_104 dX8_readNumber_68 ?_
    exact w_X8_readNumber_71 C0 _ _ _ _ _ _ _ _ h hW (lv_sub hl [2, 4, 0] rfl)
  · replace h := (if_neg hc5).symm.trans h
    refine g_sign C0 hW 45 (by decide) tf_X8_39 dX8_readNumber_62 ?_
    refine lv_goto (tgt := 71) C0.hx C0.hb dX8_readNumber_65 (by decide) ?_
    exact w_X8_readNumber_71 C0 _ _ _ _ _ _ _ _ h hW (lv_sub hl [2, 4, 0] rfl)
set_option maxRecDepth 100000 in
set_option maxHeartbeats 4000000 in
theorem w_X8_readNumber_4 {p : Program} {l : Launch} {e : Env} {s : State} {m : MethodId} {args : Array Value} {below : List Frame} {meth : Method} {c : Code} {G : GL} {ids : List Nat} {y : MS} {o : Nat → Int32}  {q : CS}   (C0 : g_X G ids p s m args meth c cX8_readNumber 5 RX8 (Option.none : Option Jvm.ClassFile.FieldType))  : ∀ (n : Nat) (l1 : Int32) (l2 : Int32) (l3 : Int32) (x : CS) (H : Heap) (locs : List Loc) (ls : Array Slot),  f_X8_readNumber_4 n l1 l2 l3 x = some q → g_W G ids (x, y, o) s.heap H locs → lv_has ls 5 [(0, .ref (g_ad G (3))), (1, .int (l1)), (2, .int (l2)), (3, .int (l3))] → W p l e (g_rm 2 0 0) s m args below meth c H locs 0 0 (MQ below (g_Qv G ids (q, y, o)) args s 0 0 (g_A G)) (F0 m 4 ls []) := by
  intro n
  induction n with
  | zero =>
    intro l1 l2 l3 x H locs ls h hW hl
    exact absurd h (by simp [f_X8_readNumber_4])
  | succ n ih =>
    intro l1 l2 l3 x H locs ls h hW hl
    unfold f_X8_readNumber_4 at h
    refine lv_iload_n C0.hx C0.hb dX8_readNumber_4 rfl (lv_at hl 2 rfl) ?_
    refine lv_aload_n C0.hx C0.hb dX8_readNumber_5 rfl (lv_at hl 0 rfl) ?_
    refine gf_X8_0 C0 hW (C0.mem (i := 3) (Nat.le_of_ble_eq_true rfl)) k_3 tf_X8_31 dX8_readNumber_6 ?_
    refine gfN_X7_1 C0 hW (C0.mem (i := 1) (Nat.le_of_ble_eq_true rfl)) k_1 tfN_X8_59 dX8_readNumber_9 ?_
    refine lv_icmp_ge (tgt := 49) C0.hx C0.hb dX8_readNumber_12 (by decide) (fun hc1 => ?_) (fun hc1 => ?_)
    · replace h := (if_pos hc1).symm.trans h
      exact w_X8_readNumber_49 C0 _ _ _ _ _ _ _ h hW (lv_sub hl [0, 1, 2, 3] rfl)
    · replace h := (if_neg hc1).symm.trans h
      refine lv_aload_n C0.hx C0.hb dX8_readNumber_15 rfl (lv_at hl 0 rfl) ?_
      refine gf_X8_0 C0 hW (C0.mem (i := 3) (Nat.le_of_ble_eq_true rfl)) k_3 tf_X8_31 dX8_readNumber_16 ?_
      refine lv_iload_n C0.hx C0.hb dX8_readNumber_19 rfl (lv_at hl 2 rfl) ?_
      obtain ⟨q2, hq2, h⟩ := Option.bind_eq_some_iff.mp h
      refine g_calli hW (g_runV (As := [.int (l2)]) (rest := []) C0 hW (c_X7_isDigit hq2) (g_cwOf (n := 1) tc_X7_isDigit tn_X7 md_X7_isDigit (by decide) (by omega)) tm_X8_73 ti_X7_isDigit ts_X7_isDigit (C0.mem (i := 1) (Nat.le_of_ble_eq_true rfl)) (g_c2 k_1) rfl rfl hl.1 rfl (Nat.le_of_ble_eq_true rfl) dX8_readNumber_20) (fun H locs hW => ?_)
      refine lv_if_eq (tgt := 49) C0.hx C0.hb dX8_readNumber_23 (by decide) (fun hc3 => ?_) (fun hc3 => ?_)
      · replace h := (if_pos hc3).symm.trans h
        exact w_X8_readNumber_49 C0 _ _ _ _ _ _ _ h hW (lv_sub hl [0, 1, 2, 3] rfl)
      · replace h := (if_neg hc3).symm.trans h
        refine lv_iload_n C0.hx C0.hb dX8_readNumber_26 rfl (lv_at hl 3 rfl) ?_
        refine lv_bipush (v := (10 : Int32)) C0.hx C0.hb dX8_readNumber_27 (by decide) ?_
        refine lv_imul C0.hx C0.hb dX8_readNumber_29 ?_
        refine lv_aload_n C0.hx C0.hb dX8_readNumber_30 rfl (lv_at hl 0 rfl) ?_
        refine gf_X8_0 C0 hW (C0.mem (i := 3) (Nat.le_of_ble_eq_true rfl)) k_3 tf_X8_31 dX8_readNumber_31 ?_
        refine lv_iload_n C0.hx C0.hb dX8_readNumber_34 rfl (lv_at hl 2 rfl) ?_
        obtain ⟨q4, hq4, h⟩ := Option.bind_eq_some_iff.mp h
        refine g_calli hW (g_runV (As := [.int (l2)]) (rest := [.int (l3 * (10 : Int32))]) C0 hW (c_X7_byteAt hq4) (g_cwOf (n := 1) tc_X7_byteAt tn_X7 md_X7_byteAt (by decide) (by omega)) tm_X8_101 ti_X7_byteAt ts_X7_byteAt (C0.mem (i := 1) (Nat.le_of_ble_eq_true rfl)) (g_c2 k_1) rfl rfl hl.1 rfl (Nat.le_of_ble_eq_true rfl) dX8_readNumber_35) (fun H locs hW => ?_)
        refine lv_iadd C0.hx C0.hb dX8_readNumber_38 ?_
        refine lv_bipush (v := (48 : Int32)) C0.hx C0.hb dX8_readNumber_39 (by decide) ?_
        refine lv_isub C0.hx C0.hb dX8_readNumber_41 ?_
        refine lv_istore_n (lv' := [(3, .int (((l3 * (10 : Int32)) + q4) - (48 : Int32))), (0, .ref (g_ad G (3))), (1, .int (l1)), (2, .int (l2))]) C0.hx C0.hb dX8_readNumber_42 rfl hl (by decide) rfl (fun ls hl => ?_)
        refine lv_iinc (v := l2 + (1 : Int32)) (lv' := [(2, .int (l2 + (1 : Int32))), (3, .int (((l3 * (10 : Int32)) + q4) - (48 : Int32))), (0, .ref (g_ad G (3))), (1, .int (l1))]) C0.hx C0.hb dX8_readNumber_43 hl (k := 3) rfl rfl (by decide) rfl (fun ls hl => ?_)
        refine lv_goto (tgt := 4) C0.hx C0.hb dX8_readNumber_46 (by decide) ?_
        exact ih _ _ _ _ _ _ _ h hW (lv_sub hl [2, 3, 0, 1] rfl)
set_option maxRecDepth 100000 in
set_option maxHeartbeats 4000000 in
theorem c_X8_readNumber {l : Launch} {G : GL} {ids : List Nat} {y : MS} {o : Nat → Int32} {x : CS} {p1 : Int32} {q : CS}    (h : f_X8_readNumber p1 x = some q) : Met l yX8_readNumber (.code yX8_readNumber cX8_readNumber 5 (Option.none : Option Jvm.ClassFile.FieldType) :: gT) (g_rm 2 0 0) (va_Pc [.ref (g_ad G (3)), .int (p1)] (g_P G ids (x, y, o))) (g_Qv G ids (q, y, o)) 0 0 (g_A G) := by
  unfold f_X8_readNumber at h
  refine g_entry (by decide) (Nat.le_of_ble_eq_true rfl) (fun p e s m args below meth c ls C0 hl hW _ => ?_)
  have hl : lv_has ls 5 [(0, .ref (g_ad G (3))), (1, .int (p1))] := hl
  refine lv_iload_n C0.hx C0.hb dX8_readNumber_0 rfl (lv_at hl 1 rfl) ?_
  refine lv_istore_n (lv' := [(2, .int (p1)), (0, .ref (g_ad G (3))), (1, .int (p1))]) C0.hx C0.hb dX8_readNumber_1 rfl hl (by decide) rfl (fun ls hl => ?_)
  refine lv_iconst (v := (0 : Int32)) C0.hx C0.hb dX8_readNumber_2 (by decide) ?_
  refine lv_istore_n (lv' := [(3, .int ((0 : Int32))), (2, .int (p1)), (0, .ref (g_ad G (3))), (1, .int (p1))]) C0.hx C0.hb dX8_readNumber_3 rfl hl (by decide) rfl (fun ls hl => ?_)
  exact w_X8_readNumber_4 C0 g_fuel _ _ _ _ _ _ _ h hW (lv_sub hl [2, 3, 1, 0] rfl)
set_option maxRecDepth 100000 in
set_option maxHeartbeats 4000000 in
theorem c_X8_readSymbol {l : Launch} {G : GL} {ids : List Nat} {y : MS} {o : Nat → Int32} {x : CS} {p1 : Int32} {q : CS}    (h : f_X8_readSymbol p1 x = some q) : Met l yX8_readSymbol (.code yX8_readSymbol cX8_readSymbol 3 (Option.none : Option Jvm.ClassFile.FieldType) :: gT) (g_rm 13 0 0) (va_Pc [.ref (g_ad G (3)), .int (p1)] (g_P G ids (x, y, o))) (g_Qv G ids (q, y, o)) 0 0 (g_A G) := by
  unfold f_X8_readSymbol at h
  refine g_entry (by decide) (Nat.le_of_ble_eq_true rfl) (fun p e s m args below meth c ls C0 hl hW _ => ?_)
  have hl : lv_has ls 3 [(0, .ref (g_ad G (3))), (1, .int (p1))] := hl
  refine lv_aload_n C0.hx C0.hb dX8_readSymbol_0 rfl (lv_at hl 0 rfl) ?_
  refine lv_iload_n C0.hx C0.hb dX8_readSymbol_1 rfl (lv_at hl 1 rfl) ?_
  obtain ⟨q1, hq1, h⟩ := Option.bind_eq_some_iff.mp h
  refine g_callr hW (g_runV (As := [.int (p1)]) (rest := []) C0 hW (c_X8_longestSpelled hq1) (g_cwOf (n := 1) tc_X8_longestSpelled tn_X8 md_X8_longestSpelled (by decide) (by omega)) tm_X8_82 ti_X8_longestSpelled ts_X8_longestSpelled (C0.mem (i := 3) (Nat.le_of_ble_eq_true rfl)) (g_c3 k_3) rfl rfl hl.1 rfl (Nat.le_of_ble_eq_true rfl) dX8_readSymbol_2) (fun H locs hW => ?_)
  refine lv_astore_n (lv' := [(2, .ref (g_sg G (q1))), (0, .ref (g_ad G (3))), (1, .int (p1))]) C0.hx C0.hb dX8_readSymbol_5 rfl hl (by decide) rfl (fun ls hl => ?_)
  refine lv_aload_n C0.hx C0.hb dX8_readSymbol_6 rfl (lv_at hl 1 rfl) ?_
  refine lv_aload_n C0.hx C0.hb dX8_readSymbol_7 rfl (lv_at hl 0 rfl) ?_
  refine lv_iload_n C0.hx C0.hb dX8_readSymbol_8 rfl (lv_at hl 2 rfl) ?_
  refine lv_aload_n C0.hx C0.hb dX8_readSymbol_9 rfl (lv_at hl 0 rfl) ?_
  obtain ⟨hs2, h⟩ := g_if h
  refine g_text C0 hW hs2 tfN_X8_85 dX8_readSymbol_10 ?_
  obtain ⟨hs5, h⟩ := g_if h
  obtain ⟨q3, hq3, h⟩ := Option.bind_eq_some_iff.mp h
  refine g_calli hW (g_runR (As := []) (rest := [.int (p1), .ref (g_sg G (q1)), .ref (g_ad G (3))]) C0 hW (c_J0_length_8abf5 hq3) (g_cwOf (n := 0) tc_J0_length_8abf5 tn_J0 md_J0_length_8abf5 (by decide) (by omega)) tm_X8_89 ti_J0_length_8abf5 ts_J0_length_8abf5 (g_srecv C0 hW hs5) rfl hl.1 rfl (Nat.le_of_ble_eq_true rfl) dX8_readSymbol_13) (fun H locs hW => ?_)
  refine lv_iconst (v := (0 : Int32)) C0.hx C0.hb dX8_readSymbol_16 (by decide) ?_
  obtain ⟨q4, hq4, h⟩ := Option.bind_eq_some_iff.mp h
  refine g_callv hW (g_runV (As := [.ref (g_sg G (q1)), .int (p1), .int (q3), .int ((0 : Int32))]) (rest := []) C0 hW (c_X8_add hq4) (g_cwOf (n := 4) tc_X8_add tn_X8 md_X8_add (by decide) (by omega)) tm_X8_62 ti_X8_add ts_X8_add (C0.mem (i := 3) (Nat.le_of_ble_eq_true rfl)) (g_c3 k_3) rfl rfl hl.1 rfl (Nat.le_of_ble_eq_true rfl) dX8_readSymbol_17) (fun H locs hW => ?_)
  obtain rfl := Option.some.inj h
  exact g_vret C0 hW rfl dX8_readSymbol_20
set_option maxRecDepth 100000 in
set_option maxHeartbeats 4000000 in
theorem c_X8_readToken {l : Launch} {G : GL} {ids : List Nat} {y : MS} {o : Nat → Int32} {x : CS} {p1 : Int32} {q : CS}    (h : f_X8_readToken p1 x = some q) : Met l yX8_readToken (.code yX8_readToken cX8_readToken 2 (Option.none : Option Jvm.ClassFile.FieldType) :: gT) (g_rm 14 0 0) (va_Pc [.ref (g_ad G (3)), .int (p1)] (g_P G ids (x, y, o))) (g_Qv G ids (q, y, o)) 0 0 (g_A G) := by
  unfold f_X8_readToken at h
  refine g_entry (by decide) (Nat.le_of_ble_eq_true rfl) (fun p e s m args below meth c ls C0 hl hW _ => ?_)
  have hl : lv_has ls 2 [(0, .ref (g_ad G (3))), (1, .int (p1))] := hl
  refine lv_iload_n C0.hx C0.hb dX8_readToken_0 rfl (lv_at hl 1 rfl) ?_
  refine lv_aload_n C0.hx C0.hb dX8_readToken_1 rfl (lv_at hl 0 rfl) ?_
  refine gf_X8_0 C0 hW (C0.mem (i := 3) (Nat.le_of_ble_eq_true rfl)) k_3 tf_X8_31 dX8_readToken_2 ?_
  refine gfN_X7_1 C0 hW (C0.mem (i := 1) (Nat.le_of_ble_eq_true rfl)) k_1 tfN_X8_59 dX8_readToken_5 ?_
  refine lv_icmp_lt (tgt := 24) C0.hx C0.hb dX8_readToken_8 (by decide) (fun hc1 => ?_) (fun hc1 => ?_)
  · replace h := (if_pos hc1).symm.trans h
    refine lv_aload_n C0.hx C0.hb dX8_readToken_24 rfl (lv_at hl 0 rfl) ?_
    refine gf_X8_5 C0 hW (C0.mem (i := 3) (Nat.le_of_ble_eq_true rfl)) k_3 tf_X8_27 dX8_readToken_25 ?_
    refine lv_sipush (v := (400 : Int32)) C0.hx C0.hb dX8_readToken_28 (by decide) ?_
    refine lv_icmp_lt (tgt := 47) C0.hx C0.hb dX8_readToken_31 (by decide) (fun hc2 => ?_) (fun hc2 => ?_)
    · replace h := (if_pos hc2).symm.trans h
      refine lv_aload_n C0.hx C0.hb dX8_readToken_47 rfl (lv_at hl 0 rfl) ?_
      refine gf_X8_0 C0 hW (C0.mem (i := 3) (Nat.le_of_ble_eq_true rfl)) k_3 tf_X8_31 dX8_readToken_48 ?_
      refine lv_iload_n C0.hx C0.hb dX8_readToken_51 rfl (lv_at hl 1 rfl) ?_
      obtain ⟨q3, hq3, h⟩ := Option.bind_eq_some_iff.mp h
      refine g_calli hW (g_runV (As := [.int (p1)]) (rest := []) C0 hW (c_X7_isLetter hq3) (g_cwOf (n := 1) tc_X7_isLetter tn_X7 md_X7_isLetter (by decide) (by omega)) tm_X8_66 ti_X7_isLetter ts_X7_isLetter (C0.mem (i := 1) (Nat.le_of_ble_eq_true rfl)) (g_c2 k_1) rfl rfl hl.1 rfl (Nat.le_of_ble_eq_true rfl) dX8_readToken_52) (fun H locs hW => ?_)
      refine lv_if_eq (tgt := 66) C0.hx C0.hb dX8_readToken_55 (by decide) (fun hc4 => ?_) (fun hc4 => ?_)
      · replace h := (if_pos hc4).symm.trans h
        refine lv_aload_n C0.hx C0.hb dX8_readToken_66 rfl (lv_at hl 0 rfl) ?_
        refine gf_X8_0 C0 hW (C0.mem (i := 3) (Nat.le_of_ble_eq_true rfl)) k_3 tf_X8_31 dX8_readToken_67 ?_
        refine lv_iload_n C0.hx C0.hb dX8_readToken_70 rfl (lv_at hl 1 rfl) ?_
        obtain ⟨q5, hq5, h⟩ := Option.bind_eq_some_iff.mp h
        refine g_calli hW (g_runV (As := [.int (p1)]) (rest := []) C0 hW (c_X7_isDigit hq5) (g_cwOf (n := 1) tc_X7_isDigit tn_X7 md_X7_isDigit (by decide) (by omega)) tm_X8_73 ti_X7_isDigit ts_X7_isDigit (C0.mem (i := 1) (Nat.le_of_ble_eq_true rfl)) (g_c2 k_1) rfl rfl hl.1 rfl (Nat.le_of_ble_eq_true rfl) dX8_readToken_71) (fun H locs hW => ?_)
        refine lv_if_eq (tgt := 85) C0.hx C0.hb dX8_readToken_74 (by decide) (fun hc6 => ?_) (fun hc6 => ?_)
        · replace h := (if_pos hc6).symm.trans h
          refine lv_aload_n C0.hx C0.hb dX8_readToken_85 rfl (lv_at hl 0 rfl) ?_
          refine lv_iload_n C0.hx C0.hb dX8_readToken_86 rfl (lv_at hl 1 rfl) ?_
          obtain ⟨q7, hq7, h⟩ := Option.bind_eq_some_iff.mp h
          refine g_callv hW (g_runV (As := [.int (p1)]) (rest := []) C0 hW (c_X8_readSymbol hq7) (g_cwOf (n := 1) tc_X8_readSymbol tn_X8 md_X8_readSymbol (by decide) (by omega)) tm_X8_79 ti_X8_readSymbol ts_X8_readSymbol (C0.mem (i := 3) (Nat.le_of_ble_eq_true rfl)) (g_c3 k_3) rfl rfl hl.1 rfl (Nat.le_of_ble_eq_true rfl) dX8_readToken_87) (fun H locs hW => ?_)
          obtain rfl := Option.some.inj h
          exact g_vret C0 hW rfl dX8_readToken_90
        · replace h := (if_neg hc6).symm.trans h
          refine lv_aload_n C0.hx C0.hb dX8_readToken_77 rfl (lv_at hl 0 rfl) ?_
          refine lv_iload_n C0.hx C0.hb dX8_readToken_78 rfl (lv_at hl 1 rfl) ?_
          obtain ⟨q8, hq8, h⟩ := Option.bind_eq_some_iff.mp h
          refine g_callv hW (g_runV (As := [.int (p1)]) (rest := []) C0 hW (c_X8_readNumber hq8) (g_cwOf (n := 1) tc_X8_readNumber tn_X8 md_X8_readNumber (by decide) (by omega)) tm_X8_76 ti_X8_readNumber ts_X8_readNumber (C0.mem (i := 3) (Nat.le_of_ble_eq_true rfl)) (g_c3 k_3) rfl rfl hl.1 rfl (Nat.le_of_ble_eq_true rfl) dX8_readToken_79) (fun H locs hW => ?_)
          refine lv_goto (tgt := 90) C0.hx C0.hb dX8_readToken_82 (by decide) ?_
          obtain rfl := Option.some.inj h
          exact g_vret C0 hW rfl dX8_readToken_90
      · replace h := (if_neg hc4).symm.trans h
        refine lv_aload_n C0.hx C0.hb dX8_readToken_58 rfl (lv_at hl 0 rfl) ?_
        refine lv_iload_n C0.hx C0.hb dX8_readToken_59 rfl (lv_at hl 1 rfl) ?_
        obtain ⟨q9, hq9, h⟩ := Option.bind_eq_some_iff.mp h
        refine g_callv hW (g_runV (As := [.int (p1)]) (rest := []) C0 hW (c_X8_readWord hq9) (g_cwOf (n := 1) tc_X8_readWord tn_X8 md_X8_readWord (by decide) (by omega)) tm_X8_70 ti_X8_readWord ts_X8_readWord (C0.mem (i := 3) (Nat.le_of_ble_eq_true rfl)) (g_c3 k_3) rfl rfl hl.1 rfl (Nat.le_of_ble_eq_true rfl) dX8_readToken_60) (fun H locs hW => ?_)
        refine lv_goto (tgt := 90) C0.hx C0.hb dX8_readToken_63 (by decide) ?_
        obtain rfl := Option.some.inj h
        exact g_vret C0 hW rfl dX8_readToken_90
    · replace h := (if_neg hc2).symm.trans h
      refine lv_aload_n C0.hx C0.hb dX8_readToken_34 rfl (lv_at hl 0 rfl) ?_
      refine g_sign C0 hW 45 (by decide) tf_X8_39 dX8_readToken_35 ?_
      refine lv_iload_n C0.hx C0.hb dX8_readToken_38 rfl (lv_at hl 1 rfl) ?_
      refine lv_iconst (v := (0 : Int32)) C0.hx C0.hb dX8_readToken_39 (by decide) ?_
      refine lv_iconst (v := (0 : Int32)) C0.hx C0.hb dX8_readToken_40 (by decide) ?_
      obtain ⟨q10, hq10, h⟩ := Option.bind_eq_some_iff.mp h
      refine g_callv hW (g_runV (As := [.ref (g_sg G (45)), .int (p1), .int ((0 : Int32)), .int ((0 : Int32))]) (rest := []) C0 hW (c_X8_add hq10) (g_cwOf (n := 4) tc_X8_add tn_X8 md_X8_add (by decide) (by omega)) tm_X8_62 ti_X8_add ts_X8_add (C0.mem (i := 3) (Nat.le_of_ble_eq_true rfl)) (g_c3 k_3) rfl rfl hl.1 rfl (Nat.le_of_ble_eq_true rfl) dX8_readToken_41) (fun H locs hW => ?_)
      refine lv_goto (tgt := 90) C0.hx C0.hb dX8_readToken_44 (by decide) ?_
      obtain rfl := Option.some.inj h
      exact g_vret C0 hW rfl dX8_readToken_90
  · replace h := (if_neg hc1).symm.trans h
    refine lv_aload_n C0.hx C0.hb dX8_readToken_11 rfl (lv_at hl 0 rfl) ?_
    refine g_sign C0 hW 44 (by decide) tf_X8_35 dX8_readToken_12 ?_
    refine lv_iload_n C0.hx C0.hb dX8_readToken_15 rfl (lv_at hl 1 rfl) ?_
    refine lv_iconst (v := (0 : Int32)) C0.hx C0.hb dX8_readToken_16 (by decide) ?_
    refine lv_iconst (v := (0 : Int32)) C0.hx C0.hb dX8_readToken_17 (by decide) ?_
    obtain ⟨q11, hq11, h⟩ := Option.bind_eq_some_iff.mp h
    refine g_callv hW (g_runV (As := [.ref (g_sg G (44)), .int (p1), .int ((0 : Int32)), .int ((0 : Int32))]) (rest := []) C0 hW (c_X8_add hq11) (g_cwOf (n := 4) tc_X8_add tn_X8 md_X8_add (by decide) (by omega)) tm_X8_62 ti_X8_add ts_X8_add (C0.mem (i := 3) (Nat.le_of_ble_eq_true rfl)) (g_c3 k_3) rfl rfl hl.1 rfl (Nat.le_of_ble_eq_true rfl) dX8_readToken_18) (fun H locs hW => ?_)
    refine lv_goto (tgt := 90) C0.hx C0.hb dX8_readToken_21 (by decide) ?_
    obtain rfl := Option.some.inj h
    exact g_vret C0 hW rfl dX8_readToken_90
set_option maxRecDepth 100000 in
set_option maxHeartbeats 4000000 in
theorem w_X8_readTape_16 {p : Program} {l : Launch} {e : Env} {s : State} {m : MethodId} {args : Array Value} {below : List Frame} {meth : Method} {c : Code} {G : GL} {ids : List Nat} {y : MS} {o : Nat → Int32}  {q : CS}   (C0 : g_X G ids p s m args meth c cX8_readTape 3 RX8 (Option.none : Option Jvm.ClassFile.FieldType))  : ∀ (n : Nat) (l1 : Int32) (l2 : Int32) (x : CS) (H : Heap) (locs : List Loc) (ls : Array Slot),  f_X8_readTape_16 n l1 l2 x = some q → g_W G ids (x, y, o) s.heap H locs → lv_has ls 3 [(0, .ref (g_ad G (3))), (1, .int (l1)), (2, .int (l2))] → W p l e (g_rm 15 0 0) s m args below meth c H locs 0 0 (MQ below (g_Qv G ids (q, y, o)) args s 0 0 (g_A G)) (F0 m 16 ls []) := by
  intro n
  induction n with
  | zero =>
    intro l1 l2 x H locs ls h hW hl
    exact absurd h (by simp [f_X8_readTape_16])
  | succ n ih =>
    intro l1 l2 x H locs ls h hW hl
    unfold f_X8_readTape_16 at h
    refine lv_iload_n C0.hx C0.hb dX8_readTape_16 rfl (lv_at hl 2 rfl) ?_
    refine lv_sipush (v := (400 : Int32)) C0.hx C0.hb dX8_readTape_17 (by decide) ?_
    refine lv_icmp_gt (tgt := 72) C0.hx C0.hb dX8_readTape_20 (by decide) (fun hc2 => ?_) (fun hc2 => ?_)
    · replace h := (if_pos hc2).symm.trans h
      obtain rfl := Option.some.inj h
      exact g_vret C0 hW rfl dX8_readTape_72
    · replace h := (if_neg hc2).symm.trans h
      refine lv_aload_n C0.hx C0.hb dX8_readTape_23 rfl (lv_at hl 0 rfl) ?_
      refine lv_iload_n C0.hx C0.hb dX8_readTape_24 rfl (lv_at hl 1 rfl) ?_
      obtain ⟨q3, hq3, h⟩ := Option.bind_eq_some_iff.mp h
      refine g_callv hW (g_runV (As := [.int (l1)]) (rest := []) C0 hW (c_X8_readToken hq3) (g_cwOf (n := 1) tc_X8_readToken tn_X8 md_X8_readToken (by decide) (by omega)) tm_X8_48 ti_X8_readToken ts_X8_readToken (C0.mem (i := 3) (Nat.le_of_ble_eq_true rfl)) (g_c3 k_3) rfl rfl hl.1 rfl (Nat.le_of_ble_eq_true rfl) dX8_readTape_25) (fun H locs hW => ?_)
      refine lv_aload_n C0.hx C0.hb dX8_readTape_28 rfl (lv_at hl 0 rfl) ?_
      refine lv_iload_n C0.hx C0.hb dX8_readTape_29 rfl (lv_at hl 2 rfl) ?_
      obtain ⟨q4, hq4, h⟩ := Option.bind_eq_some_iff.mp h
      refine g_callr hW (g_runV (As := [.int (l2)]) (rest := []) C0 hW (c_X8_sign hq4) (g_cwOf (n := 1) tc_X8_sign tn_X8 md_X8_sign (by decide) (by omega)) tm_X8_52 ti_X8_sign ts_X8_sign (C0.mem (i := 3) (Nat.le_of_ble_eq_true rfl)) (g_c3 k_3) rfl rfl hl.1 rfl (Nat.le_of_ble_eq_true rfl) dX8_readTape_30) (fun H locs hW => ?_)
      refine g_sign C0 hW 44 (by decide) tf_X8_35 dX8_readTape_33 ?_
      refine g_acmp_eq (tgt := 50) C0 dX8_readTape_36 (by decide) (fun hc5 => ?_) (fun hc5 => ?_)
      · replace h := (if_pos hc5).symm.trans h
        obtain rfl := Option.some.inj h
        exact g_vret C0 hW rfl dX8_readTape_50
      · replace h := (if_neg hc5).symm.trans h
        refine lv_aload_n C0.hx C0.hb dX8_readTape_39 rfl (lv_at hl 0 rfl) ?_
        refine lv_iload_n C0.hx C0.hb dX8_readTape_40 rfl (lv_at hl 2 rfl) ?_
        obtain ⟨q6, hq6, h⟩ := Option.bind_eq_some_iff.mp h
        refine g_callr hW (g_runV (As := [.int (l2)]) (rest := []) C0 hW (c_X8_sign hq6) (g_cwOf (n := 1) tc_X8_sign tn_X8 md_X8_sign (by decide) (by omega)) tm_X8_52 ti_X8_sign ts_X8_sign (C0.mem (i := 3) (Nat.le_of_ble_eq_true rfl)) (g_c3 k_3) rfl rfl hl.1 rfl (Nat.le_of_ble_eq_true rfl) dX8_readTape_41) (fun H locs hW => ?_)
        refine g_sign C0 hW 45 (by decide) tf_X8_39 dX8_readTape_44 ?_
        refine g_acmp_ne (tgt := 51) C0 dX8_readTape_47 (by decide) (fun hc7 => ?_) (fun hc7 => ?_)
        · replace h := (if_neg hc7).symm.trans h
          refine lv_aload_n C0.hx C0.hb dX8_readTape_51 rfl (lv_at hl 0 rfl) ?_
          refine gf_X8_0 C0 hW (C0.mem (i := 3) (Nat.le_of_ble_eq_true rfl)) k_3 tf_X8_31 dX8_readTape_52 ?_
          refine lv_iload_n C0.hx C0.hb dX8_readTape_55 rfl (lv_at hl 1 rfl) ?_
          refine lv_aload_n C0.hx C0.hb dX8_readTape_56 rfl (lv_at hl 0 rfl) ?_
          refine lv_iload_n C0.hx C0.hb dX8_readTape_57 rfl (lv_at hl 2 rfl) ?_
          obtain ⟨q8, hq8, h⟩ := Option.bind_eq_some_iff.mp h
          refine g_calli hW (g_runV (As := [.int (l2)]) (rest := [.int (l1), .ref (g_ad G (1))]) C0 hW (c_X8_size hq8) (g_cwOf (n := 1) tc_X8_size tn_X8 md_X8_size (by decide) (by omega)) tm_X8_56 ti_X8_size ts_X8_size (C0.mem (i := 3) (Nat.le_of_ble_eq_true rfl)) (g_c3 k_3) rfl rfl hl.1 rfl (Nat.le_of_ble_eq_true rfl) dX8_readTape_58) (fun H locs hW => ?_)
          refine lv_iadd C0.hx C0.hb dX8_readTape_61 ?_
          obtain ⟨q9, hq9, h⟩ := Option.bind_eq_some_iff.mp h
          refine g_calli hW (g_runV (As := [.int (l1 + q8)]) (rest := []) C0 hW (c_X7_behindBlanks hq9) (g_cwOf (n := 1) tc_X7_behindBlanks tn_X7 md_X7_behindBlanks (by decide) (by omega)) tm_X8_42 ti_X7_behindBlanks ts_X7_behindBlanks (C0.mem (i := 1) (Nat.le_of_ble_eq_true rfl)) (g_c2 k_1) rfl rfl hl.1 rfl (Nat.le_of_ble_eq_true rfl) dX8_readTape_62) (fun H locs hW => ?_)
          refine lv_istore_n (lv' := [(1, .int (q9)), (0, .ref (g_ad G (3))), (2, .int (l2))]) C0.hx C0.hb dX8_readTape_65 rfl hl (by decide) rfl (fun ls hl => ?_)
          refine lv_iinc (v := l2 + (1 : Int32)) (lv' := [(2, .int (l2 + (1 : Int32))), (1, .int (q9)), (0, .ref (g_ad G (3)))]) C0.hx C0.hb dX8_readTape_66 hl (k := 2) rfl rfl (by decide) rfl (fun ls hl => ?_)
          refine lv_goto (tgt := 16) C0.hx C0.hb dX8_readTape_69 (by decide) ?_
          exact ih _ _ _ _ _ _ h hW (lv_sub hl [2, 1, 0] rfl)
        · replace h := (if_pos hc7).symm.trans h
          obtain rfl := Option.some.inj h
          exact g_vret C0 hW rfl dX8_readTape_50
set_option maxRecDepth 100000 in
set_option maxHeartbeats 4000000 in
theorem c_X8_readTape {l : Launch} {G : GL} {ids : List Nat} {y : MS} {o : Nat → Int32} {x : CS}  {q : CS}    (h : f_X8_readTape x = some q) : Met l yX8_readTape (.code yX8_readTape cX8_readTape 3 (Option.none : Option Jvm.ClassFile.FieldType) :: gT) (g_rm 15 0 0) (va_Pc [.ref (g_ad G (3))] (g_P G ids (x, y, o))) (g_Qv G ids (q, y, o)) 0 0 (g_A G) := by
  unfold f_X8_readTape at h
  refine g_entry (by decide) (Nat.le_of_ble_eq_true rfl) (fun p e s m args below meth c ls C0 hl hW _ => ?_)
  have hl : lv_has ls 3 [(0, .ref (g_ad G (3)))] := hl
  refine lv_aload_n C0.hx C0.hb dX8_readTape_0 rfl (lv_at hl 0 rfl) ?_
  refine lv_iconst (v := (0 : Int32)) C0.hx C0.hb dX8_readTape_1 (by decide) ?_
  refine gp_X8_5 C0 hW (C0.mem (i := 3) (Nat.le_of_ble_eq_true rfl)) k_3 tf_X8_27 dX8_readTape_2 (fun H locs hW => ?_)
  refine lv_aload_n C0.hx C0.hb dX8_readTape_5 rfl (lv_at hl 0 rfl) ?_
  refine gf_X8_0 C0 hW (C0.mem (i := 3) (Nat.le_of_ble_eq_true rfl)) k_3 tf_X8_31 dX8_readTape_6 ?_
  refine lv_iconst (v := (0 : Int32)) C0.hx C0.hb dX8_readTape_9 (by decide) ?_
  obtain ⟨q1, hq1, h⟩ := Option.bind_eq_some_iff.mp h
  refine g_calli hW (g_runV (As := [.int ((0 : Int32))]) (rest := []) C0 hW (c_X7_behindBlanks hq1) (g_cwOf (n := 1) tc_X7_behindBlanks tn_X7 md_X7_behindBlanks (by decide) (by omega)) tm_X8_42 ti_X7_behindBlanks ts_X7_behindBlanks (C0.mem (i := 1) (Nat.le_of_ble_eq_true rfl)) (g_c2 k_1) rfl rfl hl.1 rfl (Nat.le_of_ble_eq_true rfl) dX8_readTape_10) (fun H locs hW => ?_)
  refine lv_istore_n (lv' := [(1, .int (q1)), (0, .ref (g_ad G (3)))]) C0.hx C0.hb dX8_readTape_13 rfl hl (by decide) rfl (fun ls hl => ?_)
  refine lv_iconst (v := (0 : Int32)) C0.hx C0.hb dX8_readTape_14 (by decide) ?_
  refine lv_istore_n (lv' := [(2, .int ((0 : Int32))), (1, .int (q1)), (0, .ref (g_ad G (3)))]) C0.hx C0.hb dX8_readTape_15 rfl hl (by decide) rfl (fun ls hl => ?_)
  exact w_X8_readTape_16 C0 g_fuel _ _ _ _ _ _ h hW (lv_sub hl [2, 1, 0] rfl)
set_option maxRecDepth 100000 in
set_option maxHeartbeats 4000000 in
theorem w_X9_copyFrom_26 {p : Program} {l : Launch} {e : Env} {s : State} {m : MethodId} {args : Array Value} {below : List Frame} {meth : Method} {c : Code} {G : GL} {ids : List Nat} {y : MS} {o : Nat → Int32}  {q : CS}   (C0 : g_X G ids p s m args meth c cX9_copyFrom 3 RX9 (Option.none : Option Jvm.ClassFile.FieldType))  : ∀ (n : Nat) (l0 : Nat) (l1 : Nat) (l2 : Int32) (x : CS) (H : Heap) (locs : List Loc) (ls : Array Slot), kd l0 = 9 → kd l1 = 9 → f_X9_copyFrom_26 n l0 l1 l2 x = some q → g_W G ids (x, y, o) s.heap H locs → lv_has ls 3 [(0, .ref (g_ad G (l0))), (1, .ref (g_ad G (l1))), (2, .int (l2))] → W p l e (g_rm 2 0 0) s m args below meth c H locs 0 0 (MQ below (g_Qv G ids (q, y, o)) args s 0 0 (g_A G)) (F0 m 26 ls []) := by
  intro n
  induction n with
  | zero =>
    intro l0 l1 l2 x H locs ls hk_l0 hk_l1 h hW hl
    exact absurd h (by simp [f_X9_copyFrom_26])
  | succ n ih =>
    intro l0 l1 l2 x H locs ls hk_l0 hk_l1 h hW hl
    unfold f_X9_copyFrom_26 at h
    refine lv_iload_n C0.hx C0.hb dX9_copyFrom_26 rfl (lv_at hl 2 rfl) ?_
    refine lv_aload_n C0.hx C0.hb dX9_copyFrom_27 rfl (lv_at hl 0 rfl) ?_
    refine gf_X9_2 C0 hW (C0.mem (kl9 hk_l0)) hk_l0 tf_X9_22 dX9_copyFrom_28 ?_
    refine lv_icmp_ge (tgt := 91) C0.hx C0.hb dX9_copyFrom_31 (by decide) (fun hc1 => ?_) (fun hc1 => ?_)
    · replace h := (if_pos hc1).symm.trans h
      obtain rfl := Option.some.inj h
      exact g_vret C0 hW rfl dX9_copyFrom_91
    · replace h := (if_neg hc1).symm.trans h
      refine lv_aload_n C0.hx C0.hb dX9_copyFrom_34 rfl (lv_at hl 0 rfl) ?_
      refine lv_iload_n C0.hx C0.hb dX9_copyFrom_35 rfl (lv_at hl 2 rfl) ?_
      obtain ⟨q2, hq2, h⟩ := Option.bind_eq_some_iff.mp h
      obtain ⟨hk3, h⟩ := g_if h
      refine g_callr hW (g_runV (As := [.int (l2)]) (rest := []) C0 hW (c_X9_word hk_l0 hq2) (g_cwOf (n := 1) tc_X9_word tn_X9 md_X9_word (by decide) (by omega)) tm_X9_32 ti_X9_word ts_X9_word (C0.mem (kl9 hk_l0)) (g_c9 hk_l0) rfl rfl hl.1 rfl (Nat.le_of_ble_eq_true rfl) dX9_copyFrom_36) (fun H locs hW => ?_)
      refine gfN_X11_0 C0 hW (C0.mem (kl10 hk3)) hk3 tfN_X9_36 dX9_copyFrom_39 ?_
      refine lv_aload_n C0.hx C0.hb dX9_copyFrom_42 rfl (lv_at hl 1 rfl) ?_
      refine lv_iload_n C0.hx C0.hb dX9_copyFrom_43 rfl (lv_at hl 2 rfl) ?_
      obtain ⟨q4, hq4, h⟩ := Option.bind_eq_some_iff.mp h
      obtain ⟨hk5, h⟩ := g_if h
      refine g_callr hW (g_runV (As := [.int (l2)]) (rest := [.ref (g_ad G (q2 + 1))]) C0 hW (c_X9_word hk_l1 hq4) (g_cwOf (n := 1) tc_X9_word tn_X9 md_X9_word (by decide) (by omega)) tm_X9_32 ti_X9_word ts_X9_word (C0.mem (kl9 hk_l1)) (g_c9 hk_l1) rfl rfl hl.1 rfl (Nat.le_of_ble_eq_true rfl) dX9_copyFrom_44) (fun H locs hW => ?_)
      refine gfN_X11_0 C0 hW (C0.mem (kl10 hk5)) hk5 tfN_X9_36 dX9_copyFrom_47 ?_
      obtain ⟨q6, hq6, h⟩ := Option.bind_eq_some_iff.mp h
      refine g_callv hW (g_runV (As := [.ref (g_ad G (q4 + 1))]) (rest := []) C0 hW (c_X3_copyFrom (ko10_0 hk3) (ko10_0 hk5) hq6) (g_cwOf (n := 1) tc_X3_copyFrom tn_X3 md_X3_copyFrom (by decide) (by omega)) tm_X9_52 ti_X3_copyFrom ts_X3_copyFrom (C0.mem (kl5 (ko10_0 hk3))) (g_c5 (ko10_0 hk3)) rfl rfl hl.1 rfl (Nat.le_of_ble_eq_true rfl) dX9_copyFrom_50) (fun H locs hW => ?_)
      refine lv_aload_n C0.hx C0.hb dX9_copyFrom_53 rfl (lv_at hl 0 rfl) ?_
      refine lv_iload_n C0.hx C0.hb dX9_copyFrom_54 rfl (lv_at hl 2 rfl) ?_
      obtain ⟨q7, hq7, h⟩ := Option.bind_eq_some_iff.mp h
      obtain ⟨hk8, h⟩ := g_if h
      refine g_callr hW (g_runV (As := [.int (l2)]) (rest := []) C0 hW (c_X9_word hk_l0 hq7) (g_cwOf (n := 1) tc_X9_word tn_X9 md_X9_word (by decide) (by omega)) tm_X9_32 ti_X9_word ts_X9_word (C0.mem (kl9 hk_l0)) (g_c9 hk_l0) rfl rfl hl.1 rfl (Nat.le_of_ble_eq_true rfl) dX9_copyFrom_55) (fun H locs hW => ?_)
      refine lv_aload_n C0.hx C0.hb dX9_copyFrom_58 rfl (lv_at hl 1 rfl) ?_
      refine lv_iload_n C0.hx C0.hb dX9_copyFrom_59 rfl (lv_at hl 2 rfl) ?_
      obtain ⟨q9, hq9, h⟩ := Option.bind_eq_some_iff.mp h
      obtain ⟨hk10, h⟩ := g_if h
      refine g_callr hW (g_runV (As := [.int (l2)]) (rest := [.ref (g_ad G (q7))]) C0 hW (c_X9_word hk_l1 hq9) (g_cwOf (n := 1) tc_X9_word tn_X9 md_X9_word (by decide) (by omega)) tm_X9_32 ti_X9_word ts_X9_word (C0.mem (kl9 hk_l1)) (g_c9 hk_l1) rfl rfl hl.1 rfl (Nat.le_of_ble_eq_true rfl) dX9_copyFrom_60) (fun H locs hW => ?_)
      refine gfN_X11_1 C0 hW (C0.mem (kl10 hk10)) hk10 tfN_X9_45 dX9_copyFrom_63 ?_
      obtain ⟨hb11, h⟩ := g_if h
      refine gpN_X11_1 C0 hW hb11 (C0.mem (kl10 hk8)) hk8 tfN_X9_45 dX9_copyFrom_66 (fun H locs hW => ?_)
      refine lv_aload_n C0.hx C0.hb dX9_copyFrom_69 rfl (lv_at hl 0 rfl) ?_
      refine lv_iload_n C0.hx C0.hb dX9_copyFrom_70 rfl (lv_at hl 2 rfl) ?_
      obtain ⟨q12, hq12, h⟩ := Option.bind_eq_some_iff.mp h
      obtain ⟨hk13, h⟩ := g_if h
      refine g_callr hW (g_runV (As := [.int (l2)]) (rest := []) C0 hW (c_X9_word hk_l0 hq12) (g_cwOf (n := 1) tc_X9_word tn_X9 md_X9_word (by decide) (by omega)) tm_X9_32 ti_X9_word ts_X9_word (C0.mem (kl9 hk_l0)) (g_c9 hk_l0) rfl rfl hl.1 rfl (Nat.le_of_ble_eq_true rfl) dX9_copyFrom_71) (fun H locs hW => ?_)
      refine lv_aload_n C0.hx C0.hb dX9_copyFrom_74 rfl (lv_at hl 1 rfl) ?_
      refine lv_iload_n C0.hx C0.hb dX9_copyFrom_75 rfl (lv_at hl 2 rfl) ?_
      obtain ⟨q14, hq14, h⟩ := Option.bind_eq_some_iff.mp h
      obtain ⟨hk15, h⟩ := g_if h
      refine g_callr hW (g_runV (As := [.int (l2)]) (rest := [.ref (g_ad G (q12))]) C0 hW (c_X9_word hk_l1 hq14) (g_cwOf (n := 1) tc_X9_word tn_X9 md_X9_word (by decide) (by omega)) tm_X9_32 ti_X9_word ts_X9_word (C0.mem (kl9 hk_l1)) (g_c9 hk_l1) rfl rfl hl.1 rfl (Nat.le_of_ble_eq_true rfl) dX9_copyFrom_76) (fun H locs hW => ?_)
      refine gfN_X11_2 C0 hW (C0.mem (kl10 hk15)) hk15 tfN_X9_49 dX9_copyFrom_79 ?_
      refine gpN_X11_2 C0 hW (C0.mem (kl10 hk13)) hk13 tfN_X9_49 dX9_copyFrom_82 (fun H locs hW => ?_)
      refine lv_iinc (v := l2 + (1 : Int32)) (lv' := [(2, .int (l2 + (1 : Int32))), (0, .ref (g_ad G (l0))), (1, .ref (g_ad G (l1)))]) C0.hx C0.hb dX9_copyFrom_85 hl (k := 2) rfl rfl (by decide) rfl (fun ls hl => ?_)
      refine lv_goto (tgt := 26) C0.hx C0.hb dX9_copyFrom_88 (by decide) ?_
      exact ih _ _ _ _ _ _ _ hk_l0 hk_l1 h hW (lv_sub hl [1, 2, 0] rfl)
set_option maxRecDepth 100000 in
set_option maxHeartbeats 4000000 in
theorem c_X9_copyFrom {l : Launch} {G : GL} {ids : List Nat} {y : MS} {o : Nat → Int32} {x : CS} {t : Nat} {p1 : Nat} {q : CS}   (hk_t : kd t = 9) (hk_p1 : kd p1 = 9) (h : f_X9_copyFrom t p1 x = some q) : Met l yX9_copyFrom (.code yX9_copyFrom cX9_copyFrom 3 (Option.none : Option Jvm.ClassFile.FieldType) :: gT) (g_rm 2 0 0) (va_Pc [.ref (g_ad G (t)), .ref (g_ad G (p1))] (g_P G ids (x, y, o))) (g_Qv G ids (q, y, o)) 0 0 (g_A G) := by
  unfold f_X9_copyFrom at h
  refine g_entry (by decide) (Nat.le_of_ble_eq_true rfl) (fun p e s m args below meth c ls C0 hl hW _ => ?_)
  have hl : lv_has ls 3 [(0, .ref (g_ad G (t))), (1, .ref (g_ad G (p1)))] := hl
  refine lv_aload_n C0.hx C0.hb dX9_copyFrom_0 rfl (lv_at hl 0 rfl) ?_
  refine lv_aload_n C0.hx C0.hb dX9_copyFrom_1 rfl (lv_at hl 1 rfl) ?_
  refine gf_X9_2 C0 hW (C0.mem (kl9 hk_p1)) hk_p1 tf_X9_22 dX9_copyFrom_2 ?_
  refine gp_X9_2 C0 hW (C0.mem (kl9 hk_t)) hk_t tf_X9_22 dX9_copyFrom_5 (fun H locs hW => ?_)
  refine lv_aload_n C0.hx C0.hb dX9_copyFrom_8 rfl (lv_at hl 0 rfl) ?_
  refine lv_aload_n C0.hx C0.hb dX9_copyFrom_9 rfl (lv_at hl 1 rfl) ?_
  refine gf_X9_3 C0 hW (C0.mem (kl9 hk_p1)) hk_p1 tf_X9_26 dX9_copyFrom_10 ?_
  refine gp_X9_3 C0 hW (C0.mem (kl9 hk_t)) hk_t tf_X9_26 dX9_copyFrom_13 (fun H locs hW => ?_)
  refine lv_aload_n C0.hx C0.hb dX9_copyFrom_16 rfl (lv_at hl 0 rfl) ?_
  refine lv_aload_n C0.hx C0.hb dX9_copyFrom_17 rfl (lv_at hl 1 rfl) ?_
  refine gf_X9_4 C0 hW (C0.mem (kl9 hk_p1)) hk_p1 tf_X9_29 dX9_copyFrom_18 ?_
  refine gp_X9_4 C0 hW (C0.mem (kl9 hk_t)) hk_t tf_X9_29 dX9_copyFrom_21 (fun H locs hW => ?_)
  refine lv_iconst (v := (0 : Int32)) C0.hx C0.hb dX9_copyFrom_24 (by decide) ?_
  refine lv_istore_n (lv' := [(2, .int ((0 : Int32))), (0, .ref (g_ad G (t))), (1, .ref (g_ad G (p1)))]) C0.hx C0.hb dX9_copyFrom_25 rfl hl (by decide) rfl (fun ls hl => ?_)
  exact w_X9_copyFrom_26 C0 g_fuel _ _ _ _ _ _ _ hk_t hk_p1 h hW (lv_sub hl [1, 2, 0] rfl)
set_option maxRecDepth 100000 in
set_option maxHeartbeats 4000000 in
theorem c_X10_fewestSteps {l : Launch} {G : GL} {ids : List Nat} {y : MS} {o : Nat → Int32} {x : CS} {p1 : Nat} {p2 : Nat} {p3 : Int32} {q : Int32 × CS}   (hk_p1 : kd p1 = 5) (hk_p2 : kd p2 = 5) (h : f_X10_fewestSteps p1 p2 p3 x = some q) : Met l yX10_fewestSteps (.code yX10_fewestSteps cX10_fewestSteps 4 (Option.some Jvm.ClassFile.FieldType.int) :: gT) (g_rm 2 0 0) (va_Pc [.ref (g_ad G (8)), .ref (g_ad G (p1)), .ref (g_ad G (p2)), .int (p3)] (g_P G ids (x, y, o))) (g_Qi G ids q.1 (q.2, y, o)) 0 0 (g_A G) := by
  unfold f_X10_fewestSteps at h
  refine g_entry (by decide) (Nat.le_of_ble_eq_true rfl) (fun p e s m args below meth c ls C0 hl hW _ => ?_)
  have hl : lv_has ls 4 [(0, .ref (g_ad G (8))), (1, .ref (g_ad G (p1))), (2, .ref (g_ad G (p2))), (3, .int (p3))] := hl
  refine lv_aload_n C0.hx C0.hb dX10_fewestSteps_0 rfl (lv_at hl 0 rfl) ?_
  refine lv_aload_n C0.hx C0.hb dX10_fewestSteps_1 rfl (lv_at hl 1 rfl) ?_
  refine lv_aload_n C0.hx C0.hb dX10_fewestSteps_2 rfl (lv_at hl 2 rfl) ?_
  refine lv_iload_n C0.hx C0.hb dX10_fewestSteps_3 rfl (lv_at hl 3 rfl) ?_
  refine lv_iconst (v := (0 : Int32)) C0.hx C0.hb dX10_fewestSteps_4 (by decide) ?_
  obtain ⟨q1, hq1, h⟩ := Option.bind_eq_some_iff.mp h
  refine g_calli hW (g_runV (As := [.ref (g_ad G (p1)), .ref (g_ad G (p2)), .int (p3), .int ((0 : Int32))]) (rest := []) C0 hW (c_X10_lightest hk_p1 hk_p2 hq1) (g_cwOf (n := 4) tc_X10_lightest tn_X10 md_X10_lightest (by decide) (by omega)) tm_X10_25 ti_X10_lightest ts_X10_lightest (C0.mem (i := 8) (Nat.le_of_ble_eq_true rfl)) (g_c4 k_8) rfl rfl hl.1 rfl (Nat.le_of_ble_eq_true rfl) dX10_fewestSteps_5) (fun H locs hW => ?_)
  refine lv_bipush (v := (64 : Int32)) C0.hx C0.hb dX10_fewestSteps_8 (by decide) ?_
  refine lv_irem C0.hx C0.hb dX10_fewestSteps_10 (by decide) ?_
  obtain rfl := Option.some.inj h
  exact g_iret C0 hW rfl rfl rfl dX10_fewestSteps_11
set_option maxRecDepth 100000 in
set_option maxHeartbeats 4000000 in
theorem c_X10_contourDistance {l : Launch} {G : GL} {ids : List Nat} {y : MS} {o : Nat → Int32} {x : CS} {p1 : Nat} {p2 : Nat} {p3 : Int32} {q : Int32 × CS}   (hk_p1 : kd p1 = 5) (hk_p2 : kd p2 = 5) (h : f_X10_contourDistance p1 p2 p3 x = some q) : Met l yX10_contourDistance (.code yX10_contourDistance cX10_contourDistance 4 (Option.some Jvm.ClassFile.FieldType.int) :: gT) (g_rm 3 0 0) (va_Pc [.ref (g_ad G (8)), .ref (g_ad G (p1)), .ref (g_ad G (p2)), .int (p3)] (g_P G ids (x, y, o))) (g_Qi G ids q.1 (q.2, y, o)) 0 0 (g_A G) := by
  unfold f_X10_contourDistance at h
  refine g_entry (by decide) (Nat.le_of_ble_eq_true rfl) (fun p e s m args below meth c ls C0 hl hW _ => ?_)
  have hl : lv_has ls 4 [(0, .ref (g_ad G (8))), (1, .ref (g_ad G (p1))), (2, .ref (g_ad G (p2))), (3, .int (p3))] := hl
  refine lv_aload_n C0.hx C0.hb dX10_contourDistance_0 rfl (lv_at hl 0 rfl) ?_
  refine gf_X10_1 C0 hW (C0.mem (i := 8) (Nat.le_of_ble_eq_true rfl)) k_8 tf_X10_18 dX10_contourDistance_1 ?_
  refine lv_aload_n C0.hx C0.hb dX10_contourDistance_4 rfl (lv_at hl 1 rfl) ?_
  obtain ⟨q1, hq1, h⟩ := Option.bind_eq_some_iff.mp h
  refine g_callv hW (g_runV (As := [.ref (g_ad G (p1))]) (rest := []) C0 hW (c_X3_traceContour k_10 hk_p1 hq1) (g_cwOf (n := 1) tc_X3_traceContour tn_X3 md_X3_traceContour (by decide) (by omega)) tm_X10_29 ti_X3_traceContour ts_X3_traceContour (C0.mem (i := 10) (Nat.le_of_ble_eq_true rfl)) (g_c5 k_10) rfl rfl hl.1 rfl (Nat.le_of_ble_eq_true rfl) dX10_contourDistance_5) (fun H locs hW => ?_)
  refine lv_aload_n C0.hx C0.hb dX10_contourDistance_8 rfl (lv_at hl 0 rfl) ?_
  refine gf_X10_2 C0 hW (C0.mem (i := 8) (Nat.le_of_ble_eq_true rfl)) k_8 tf_X10_22 dX10_contourDistance_9 ?_
  refine lv_aload_n C0.hx C0.hb dX10_contourDistance_12 rfl (lv_at hl 2 rfl) ?_
  obtain ⟨q2, hq2, h⟩ := Option.bind_eq_some_iff.mp h
  refine g_callv hW (g_runV (As := [.ref (g_ad G (p2))]) (rest := []) C0 hW (c_X3_traceContour k_12 hk_p2 hq2) (g_cwOf (n := 1) tc_X3_traceContour tn_X3 md_X3_traceContour (by decide) (by omega)) tm_X10_29 ti_X3_traceContour ts_X3_traceContour (C0.mem (i := 12) (Nat.le_of_ble_eq_true rfl)) (g_c5 k_12) rfl rfl hl.1 rfl (Nat.le_of_ble_eq_true rfl) dX10_contourDistance_13) (fun H locs hW => ?_)
  refine lv_aload_n C0.hx C0.hb dX10_contourDistance_16 rfl (lv_at hl 0 rfl) ?_
  refine lv_aload_n C0.hx C0.hb dX10_contourDistance_17 rfl (lv_at hl 0 rfl) ?_
  refine gf_X10_1 C0 hW (C0.mem (i := 8) (Nat.le_of_ble_eq_true rfl)) k_8 tf_X10_18 dX10_contourDistance_18 ?_
  refine lv_aload_n C0.hx C0.hb dX10_contourDistance_21 rfl (lv_at hl 0 rfl) ?_
  refine gf_X10_2 C0 hW (C0.mem (i := 8) (Nat.le_of_ble_eq_true rfl)) k_8 tf_X10_22 dX10_contourDistance_22 ?_
  refine lv_iload_n C0.hx C0.hb dX10_contourDistance_25 rfl (lv_at hl 3 rfl) ?_
  refine lv_iconst (v := (1 : Int32)) C0.hx C0.hb dX10_contourDistance_26 (by decide) ?_
  obtain ⟨q3, hq3, h⟩ := Option.bind_eq_some_iff.mp h
  refine g_calli hW (g_runV (As := [.ref (g_ad G (10)), .ref (g_ad G (12)), .int (p3), .int ((1 : Int32))]) (rest := []) C0 hW (c_X10_lightest k_10 k_12 hq3) (g_cwOf (n := 4) tc_X10_lightest tn_X10 md_X10_lightest (by decide) (by omega)) tm_X10_25 ti_X10_lightest ts_X10_lightest (C0.mem (i := 8) (Nat.le_of_ble_eq_true rfl)) (g_c4 k_8) rfl rfl hl.1 rfl (Nat.le_of_ble_eq_true rfl) dX10_contourDistance_27) (fun H locs hW => ?_)
  refine lv_bipush (v := (64 : Int32)) C0.hx C0.hb dX10_contourDistance_30 (by decide) ?_
  refine lv_idiv C0.hx C0.hb dX10_contourDistance_32 (by decide) ?_
  obtain rfl := Option.some.inj h
  exact g_iret C0 hW rfl rfl rfl dX10_contourDistance_33
