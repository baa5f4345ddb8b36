set_option maxRecDepth 100000 in
set_option maxHeartbeats 4000000 in
theorem w_X15_rule_122 {p : Program} {l : Launch} {e : Env} {s : State} {m : MethodId} {args : Array Value} {below : List Frame} {meth : Method} {c : Code} {G : GL} {ids : List Nat} {x : CS} {o : Nat → Int32}  {q : MS}   (C0 : g_X G ids p s m args meth c cX15_rule 3 RX15 (Option.none : Option Jvm.ClassFile.FieldType))  : ∀  (l2 : Int32) (s0 : Int32) (s1 : Int32) (y : MS) (H : Heap) (locs : List Loc) (ls : Array Slot),  f_X15_rule_122 l2 s0 s1 y = some q → g_W G ids (x, y, o) s.heap H locs → lv_has ls 3 [(0, .ref (g_ad G (120))), (2, .int (l2))] → W p l e (g_rm 117 0 0) s m args below meth c H locs 0 0 (MQ below (g_Qv G ids (x, q, o)) args s 0 0 (g_A G)) (F0 m 122 ls [.int (s0), .int (s1), .ref (g_ad G (147))]) := by
  intro l2 s0 s1 y H locs ls h hW hl
  unfold f_X15_rule_122 at h
  obtain ⟨hb14, h⟩ := g_if h
  refine gs_35 C0 hW (C0.mem (i := 147) (Nat.le_of_ble_eq_true rfl)) k_147 hb14 dX15_rule_122 (fun H locs hW => ?_)
  refine lv_aload_n C0.hx C0.hb dX15_rule_123 rfl (lv_at hl 0 rfl) ?_
  refine gf_X15_15 C0 hW (C0.mem (i := 120) (Nat.le_of_ble_eq_true rfl)) k_120 tf_X15_39 dX15_rule_124 ?_
  refine gfN_X14_9 C0 hW (C0.mem (i := 139) (Nat.le_of_ble_eq_true rfl)) k_139 tfN_X15_239 dX15_rule_127 ?_
  refine lv_iload_n C0.hx C0.hb dX15_rule_130 rfl (lv_at hl 1 rfl) ?_
  refine lv_aload_n C0.hx C0.hb dX15_rule_131 rfl (lv_at hl 0 rfl) ?_
  refine gf_X15_15 C0 hW (C0.mem (i := 120) (Nat.le_of_ble_eq_true rfl)) k_120 tf_X15_39 dX15_rule_132 ?_
  refine gfN_X14_12 C0 hW (C0.mem (i := 139) (Nat.le_of_ble_eq_true rfl)) k_139 tfN_X15_135 dX15_rule_135 ?_
  obtain ⟨hb15, h⟩ := g_if h
  refine gs_35 C0 hW (C0.mem (i := 145) (Nat.le_of_ble_eq_true rfl)) k_145 hb15 dX15_rule_138 (fun H locs hW => ?_)
  refine lv_aload_n C0.hx C0.hb dX15_rule_139 rfl (lv_at hl 0 rfl) ?_
  refine gf_X15_15 C0 hW (C0.mem (i := 120) (Nat.le_of_ble_eq_true rfl)) k_120 tf_X15_39 dX15_rule_140 ?_
  refine lv_bipush (v := (16 : Int32)) C0.hx C0.hb dX15_rule_143 (by decide) ?_
  refine lv_iload_n C0.hx C0.hb dX15_rule_145 rfl (lv_at hl 1 rfl) ?_
  refine lv_iconst (v := (1 : Int32)) C0.hx C0.hb dX15_rule_146 (by decide) ?_
  refine lv_iadd C0.hx C0.hb dX15_rule_147 ?_
  refine g_minR C0 hl.1 (Nat.le_of_ble_eq_true rfl) (by omega) tm_X15_214 (by decide) (by decide) dX15_rule_148 ?_
  refine gpN_X14_5 C0 hW (C0.mem (i := 139) (Nat.le_of_ble_eq_true rfl)) k_139 tfN_X15_223 dX15_rule_151 (fun H locs hW => ?_)
  obtain rfl := Option.some.inj h
  exact g_vret C0 hW rfl dX15_rule_154
set_option maxRecDepth 100000 in
set_option maxHeartbeats 4000000 in
theorem w_X15_rule_97 {p : Program} {l : Launch} {e : Env} {s : State} {m : MethodId} {args : Array Value} {below : List Frame} {meth : Method} {c : Code} {G : GL} {ids : List Nat} {x : CS} {o : Nat → Int32}  {q : MS}   (C0 : g_X G ids p s m args meth c cX15_rule 3 RX15 (Option.none : Option Jvm.ClassFile.FieldType))  : ∀  (l2 : Int32) (y : MS) (H : Heap) (locs : List Loc) (ls : Array Slot),  f_X15_rule_97 l2 y = some q → g_W G ids (x, y, o) s.heap H locs → lv_has ls 3 [(0, .ref (g_ad G (120))), (2, .int (l2))] → W p l e (g_rm 117 0 0) s m args below meth c H locs 0 0 (MQ below (g_Qv G ids (x, q, o)) args s 0 0 (g_A G)) (F0 m 97 ls []) := by
  intro l2 y H locs ls h hW hl
  unfold f_X15_rule_97 at h
  refine lv_aload_n C0.hx C0.hb dX15_rule_97 rfl (lv_at hl 0 rfl) ?_
  refine gf_X15_15 C0 hW (C0.mem (i := 120) (Nat.le_of_ble_eq_true rfl)) k_120 tf_X15_39 dX15_rule_98 ?_
  refine gfN_X14_11 C0 hW (C0.mem (i := 139) (Nat.le_of_ble_eq_true rfl)) k_139 tfN_X15_237 dX15_rule_101 ?_
  refine lv_iload_n C0.hx C0.hb dX15_rule_104 rfl (lv_at hl 1 rfl) ?_
  refine lv_aload_n C0.hx C0.hb dX15_rule_105 rfl (lv_at hl 0 rfl) ?_
  refine lv_bipush (v := (13 : Int32)) C0.hx C0.hb dX15_rule_106 (by decide) ?_
  obtain ⟨q11, hq11, h⟩ := Option.bind_eq_some_iff.mp h
  refine g_calli hW (g_runV (As := [.int ((13 : Int32))]) (rest := [.int (l2), .ref (g_ad G (147))]) C0 hW (c_X15_takes hq11) (g_cwOf (n := 1) tc_X15_takes tn_X15 md_X15_takes (by decide) (by omega)) tm_X15_199 ti_X15_takes ts_X15_takes (C0.mem (i := 120) (Nat.le_of_ble_eq_true rfl)) (g_c12 k_120) rfl rfl hl.1 rfl (Nat.le_of_ble_eq_true rfl) dX15_rule_108) (fun H locs hW => ?_)
  refine lv_if_eq (tgt := 121) C0.hx C0.hb dX15_rule_111 (by decide) (fun hc12 => ?_) (fun hc12 => ?_)
  · replace h := (if_pos hc12).symm.trans h
    refine lv_iconst (v := (-1 : Int32)) C0.hx C0.hb dX15_rule_121 (by decide) ?_
    exact w_X15_rule_122 C0 _ _ _ _ _ _ _ h hW (lv_sub hl [0, 1] rfl)
  · replace h := (if_neg hc12).symm.trans h
    refine lv_aload_n C0.hx C0.hb dX15_rule_114 rfl (lv_at hl 0 rfl) ?_
    obtain ⟨q13, hq13, h⟩ := Option.bind_eq_some_iff.mp h
    refine g_calli hW (g_runV (As := []) (rest := [.int (l2), .ref (g_ad G (147))]) C0 hW (c_X15_test (c_X15_single 12) (by omega) hq13) (g_cwOf (n := 0) tc_X15_test tn_X15 md_X15_test (by decide) (by omega)) tm_X15_196 ti_X15_test ts_X15_test (C0.mem (i := 120) (Nat.le_of_ble_eq_true rfl)) (g_c12 k_120) rfl rfl hl.1 rfl (Nat.le_of_ble_eq_true rfl) dX15_rule_115) (fun H locs hW => ?_)
    refine lv_goto (tgt := 122) C0.hx C0.hb dX15_rule_118 (by decide) ?_
    exact w_X15_rule_122 C0 _ _ _ _ _ _ _ h hW (lv_sub hl [0, 1] rfl)
set_option maxRecDepth 100000 in
set_option maxHeartbeats 4000000 in
theorem w_X15_rule_24 {p : Program} {l : Launch} {e : Env} {s : State} {m : MethodId} {args : Array Value} {below : List Frame} {meth : Method} {c : Code} {G : GL} {ids : List Nat} {x : CS} {o : Nat → Int32}  {q : MS}   (C0 : g_X G ids p s m args meth c cX15_rule 3 RX15 (Option.none : Option Jvm.ClassFile.FieldType))  : ∀  (l1 : Int32) (l2 : Int32) (y : MS) (H : Heap) (locs : List Loc) (ls : Array Slot),  f_X15_rule_24 l1 l2 y = some q → g_W G ids (x, y, o) s.heap H locs → lv_has ls 3 [(0, .ref (g_ad G (120))), (1, .int (l1)), (2, .int (l2))] → W p l e (g_rm 117 0 0) s m args below meth c H locs 0 0 (MQ below (g_Qv G ids (x, q, o)) args s 0 0 (g_A G)) (F0 m 24 ls []) := by
  intro l1 l2 y H locs ls h hW hl
  unfold f_X15_rule_24 at h
  refine lv_aload_n C0.hx C0.hb dX15_rule_24 rfl (lv_at hl 0 rfl) ?_
  refine lv_dup C0.hx C0.hb dX15_rule_25 rfl ?_
  refine gf_X15_8 C0 hW (C0.mem (i := 120) (Nat.le_of_ble_eq_true rfl)) k_120 tf_X15_117 dX15_rule_26 ?_
  refine lv_iconst (v := (1 : Int32)) C0.hx C0.hb dX15_rule_29 (by decide) ?_
  refine lv_iadd C0.hx C0.hb dX15_rule_30 ?_
  refine gp_X15_8 C0 hW (C0.mem (i := 120) (Nat.le_of_ble_eq_true rfl)) k_120 tf_X15_117 dX15_rule_31 (fun H locs hW => ?_)
  refine lv_aload_n C0.hx C0.hb dX15_rule_34 rfl (lv_at hl 0 rfl) ?_
  refine gf_X15_15 C0 hW (C0.mem (i := 120) (Nat.le_of_ble_eq_true rfl)) k_120 tf_X15_39 dX15_rule_35 ?_
  refine gfN_X14_8 C0 hW (C0.mem (i := 139) (Nat.le_of_ble_eq_true rfl)) k_139 tfN_X15_226 dX15_rule_38 ?_
  refine lv_iload_n C0.hx C0.hb dX15_rule_41 rfl (lv_at hl 2 rfl) ?_
  refine lv_aload_n C0.hx C0.hb dX15_rule_42 rfl (lv_at hl 0 rfl) ?_
  refine gf_X15_15 C0 hW (C0.mem (i := 120) (Nat.le_of_ble_eq_true rfl)) k_120 tf_X15_39 dX15_rule_43 ?_
  refine gfN_X14_12 C0 hW (C0.mem (i := 139) (Nat.le_of_ble_eq_true rfl)) k_139 tfN_X15_135 dX15_rule_46 ?_
  obtain ⟨hb3, h⟩ := g_if h
  refine gs_35 C0 hW (C0.mem (i := 144) (Nat.le_of_ble_eq_true rfl)) k_144 hb3 dX15_rule_49 (fun H locs hW => ?_)
  refine lv_aload_n C0.hx C0.hb dX15_rule_50 rfl (lv_at hl 0 rfl) ?_
  refine gf_X15_15 C0 hW (C0.mem (i := 120) (Nat.le_of_ble_eq_true rfl)) k_120 tf_X15_39 dX15_rule_51 ?_
  refine gfN_X14_6 C0 hW (C0.mem (i := 139) (Nat.le_of_ble_eq_true rfl)) k_139 tfN_X15_229 dX15_rule_54 ?_
  refine lv_iload_n C0.hx C0.hb dX15_rule_57 rfl (lv_at hl 2 rfl) ?_
  refine lv_iload_n C0.hx C0.hb dX15_rule_58 rfl (lv_at hl 1 rfl) ?_
  obtain ⟨hb4, h⟩ := g_if h
  refine gs_35 C0 hW (C0.mem (i := 142) (Nat.le_of_ble_eq_true rfl)) k_142 hb4 dX15_rule_59 (fun H locs hW => ?_)
  refine lv_aload_n C0.hx C0.hb dX15_rule_60 rfl (lv_at hl 0 rfl) ?_
  refine gf_X15_15 C0 hW (C0.mem (i := 120) (Nat.le_of_ble_eq_true rfl)) k_120 tf_X15_39 dX15_rule_61 ?_
  refine gfN_X14_7 C0 hW (C0.mem (i := 139) (Nat.le_of_ble_eq_true rfl)) k_139 tfN_X15_232 dX15_rule_64 ?_
  refine lv_iload_n C0.hx C0.hb dX15_rule_67 rfl (lv_at hl 2 rfl) ?_
  refine lv_aload_n C0.hx C0.hb dX15_rule_68 rfl (lv_at hl 0 rfl) ?_
  obtain ⟨q5, hq5, h⟩ := Option.bind_eq_some_iff.mp h
  refine g_calli hW (g_runV (As := []) (rest := [.int (l2), .ref (g_ad G (143))]) C0 hW (c_X15_name hq5) (g_cwOf (n := 0) tc_X15_name tn_X15 md_X15_name (by decide) (by omega)) tm_X15_179 ti_X15_name ts_X15_name (C0.mem (i := 120) (Nat.le_of_ble_eq_true rfl)) (g_c12 k_120) rfl rfl hl.1 rfl (Nat.le_of_ble_eq_true rfl) dX15_rule_69) (fun H locs hW => ?_)
  obtain ⟨hb6, h⟩ := g_if h
  refine gs_35 C0 hW (C0.mem (i := 143) (Nat.le_of_ble_eq_true rfl)) k_143 hb6 dX15_rule_72 (fun H locs hW => ?_)
  refine lv_iload_n C0.hx C0.hb dX15_rule_73 rfl (lv_at hl 1 rfl) ?_
  refine lv_iconst (v := (2 : Int32)) C0.hx C0.hb dX15_rule_74 (by decide) ?_
  refine lv_icmp_ne (tgt := 97) C0.hx C0.hb dX15_rule_75 (by decide) (fun hc7 => ?_) (fun hc7 => ?_)
  · replace h := (if_neg hc7).symm.trans h
    exact w_X15_rule_97 C0 _ _ _ _ _ h hW (lv_sub hl [0, 2] rfl)
  · replace h := (if_pos hc7).symm.trans h
    refine lv_aload_n C0.hx C0.hb dX15_rule_78 rfl (lv_at hl 0 rfl) ?_
    refine lv_bipush (v := (12 : Int32)) C0.hx C0.hb dX15_rule_79 (by decide) ?_
    obtain ⟨q8, hq8, h⟩ := Option.bind_eq_some_iff.mp h
    refine g_callv hW (g_runV (As := [.int ((12 : Int32))]) (rest := []) C0 hW (c_X15_take hq8) (g_cwOf (n := 1) tc_X15_take tn_X15 md_X15_take (by decide) (by omega)) tm_X15_161 ti_X15_take ts_X15_take (C0.mem (i := 120) (Nat.le_of_ble_eq_true rfl)) (g_c12 k_120) rfl rfl hl.1 rfl (Nat.le_of_ble_eq_true rfl) dX15_rule_81) (fun H locs hW => ?_)
    refine lv_aload_n C0.hx C0.hb dX15_rule_84 rfl (lv_at hl 0 rfl) ?_
    refine gf_X15_15 C0 hW (C0.mem (i := 120) (Nat.le_of_ble_eq_true rfl)) k_120 tf_X15_39 dX15_rule_85 ?_
    refine gfN_X14_10 C0 hW (C0.mem (i := 139) (Nat.le_of_ble_eq_true rfl)) k_139 tfN_X15_235 dX15_rule_88 ?_
    refine lv_iload_n C0.hx C0.hb dX15_rule_91 rfl (lv_at hl 2 rfl) ?_
    refine lv_aload_n C0.hx C0.hb dX15_rule_92 rfl (lv_at hl 0 rfl) ?_
    obtain ⟨q9, hq9, h⟩ := Option.bind_eq_some_iff.mp h
    refine g_calli hW (g_runV (As := []) (rest := [.int (l2), .ref (g_ad G (146))]) C0 hW (c_X15_sum (c_X15_value 12) (by omega) hq9) (g_cwOf (n := 0) tc_X15_sum tn_X15 md_X15_sum (by decide) (by omega)) tm_X15_172 ti_X15_sum ts_X15_sum (C0.mem (i := 120) (Nat.le_of_ble_eq_true rfl)) (g_c12 k_120) rfl rfl hl.1 rfl (Nat.le_of_ble_eq_true rfl) dX15_rule_93) (fun H locs hW => ?_)
    obtain ⟨hb10, h⟩ := g_if h
    refine gs_35 C0 hW (C0.mem (i := 146) (Nat.le_of_ble_eq_true rfl)) k_146 hb10 dX15_rule_96 (fun H locs hW => ?_)
    exact w_X15_rule_97 C0 _ _ _ _ _ h hW (lv_sub hl [0, 2] rfl)
set_option maxRecDepth 100000 in
set_option maxHeartbeats 4000000 in
theorem c_X15_rule {l : Launch} {G : GL} {ids : List Nat} {x : CS} {o : Nat → Int32} {y : MS} {p1 : Int32} {q : MS}    (h : f_X15_rule p1 y = some q) : Met l yX15_rule (.code yX15_rule cX15_rule 3 (Option.none : Option Jvm.ClassFile.FieldType) :: gT) (g_rm 117 0 0) (va_Pc [.ref (g_ad G (120)), .int (p1)] (g_P G ids (x, y, o))) (g_Qv G ids (x, q, o)) 0 0 (g_A G) := by
  unfold f_X15_rule at h
  refine g_entry (by decide) (Nat.le_of_ble_eq_true rfl) (fun p e s m args below meth c ls C0 hl hW _ => ?_)
  have hl : lv_has ls 3 [(0, .ref (g_ad G (120))), (1, .int (p1))] := hl
  refine lv_bipush (v := (16 : Int32)) C0.hx C0.hb dX15_rule_0 (by decide) ?_
  refine lv_aload_n C0.hx C0.hb dX15_rule_2 rfl (lv_at hl 0 rfl) ?_
  refine gf_X15_15 C0 hW (C0.mem (i := 120) (Nat.le_of_ble_eq_true rfl)) k_120 tf_X15_39 dX15_rule_3 ?_
  refine gfN_X14_5 C0 hW (C0.mem (i := 139) (Nat.le_of_ble_eq_true rfl)) k_139 tfN_X15_223 dX15_rule_6 ?_
  refine g_minR C0 hl.1 (Nat.le_of_ble_eq_true rfl) (by omega) tm_X15_214 (by decide) (by decide) dX15_rule_9 ?_
  refine lv_istore_n (lv' := [(2, .int (g_min (16 : Int32) (y 139 5))), (0, .ref (g_ad G (120))), (1, .int (p1))]) C0.hx C0.hb dX15_rule_12 rfl hl (by decide) rfl (fun ls hl => ?_)
  refine lv_iload_n C0.hx C0.hb dX15_rule_13 rfl (lv_at hl 0 rfl) ?_
  refine lv_bipush (v := (16 : Int32)) C0.hx C0.hb dX15_rule_14 (by decide) ?_
  refine lv_icmp_ne (tgt := 24) C0.hx C0.hb dX15_rule_16 (by decide) (fun hc1 => ?_) (fun hc1 => ?_)
  · replace h := (if_neg hc1).symm.trans h
    exact w_X15_rule_24 C0 _ _ _ _ _ _ h hW (lv_sub hl [1, 2, 0] rfl)
  · replace h := (if_pos hc1).symm.trans h
    refine lv_aload_n C0.hx C0.hb dX15_rule_19 rfl (lv_at hl 1 rfl) ?_
    refine lv_iconst (v := (4 : Int32)) C0.hx C0.hb dX15_rule_20 (by decide) ?_
    obtain ⟨q2, hq2, h⟩ := Option.bind_eq_some_iff.mp h
    refine g_callv hW (g_runV (As := [.int ((4 : Int32))]) (rest := []) C0 hW (c_X15_mark hq2) (g_cwOf (n := 1) tc_X15_mark tn_X15 md_X15_mark (by decide) (by omega)) tm_X15_157 ti_X15_mark ts_X15_mark (C0.mem (i := 120) (Nat.le_of_ble_eq_true rfl)) (g_c12 k_120) rfl rfl hl.1 rfl (Nat.le_of_ble_eq_true rfl) dX15_rule_21) (fun H locs hW => ?_)
    exact w_X15_rule_24 C0 _ _ _ _ _ _ h hW (lv_sub hl [1, 2, 0] rfl)
set_option maxRecDepth 100000 in
set_option maxHeartbeats 4000000 in
theorem c_X15_line {l : Launch} {G : GL} {ids : List Nat} {x : CS} {o : Nat → Int32} {y : MS}  {q : MS}    (h : f_X15_line y = some q) : Met l yX15_line (.code yX15_line cX15_line 1 (Option.none : Option Jvm.ClassFile.FieldType) :: gT) (g_rm 118 0 0) (va_Pc [.ref (g_ad G (120))] (g_P G ids (x, y, o))) (g_Qv G ids (x, q, o)) 0 0 (g_A G) := by
  unfold f_X15_line at h
  refine g_entry (by decide) (Nat.le_of_ble_eq_true rfl) (fun p e s m args below meth c ls C0 hl hW _ => ?_)
  have hl : lv_has ls 1 [(0, .ref (g_ad G (120)))] := hl
  refine lv_aload_n C0.hx C0.hb dX15_line_0 rfl (lv_at hl 0 rfl) ?_
  refine lv_iconst (v := (0 : Int32)) C0.hx C0.hb dX15_line_1 (by decide) ?_
  obtain ⟨q1, hq1, h⟩ := Option.bind_eq_some_iff.mp h
  refine g_calli hW (g_runV (As := [.int ((0 : Int32))]) (rest := []) C0 hW (c_X15_takes hq1) (g_cwOf (n := 1) tc_X15_takes tn_X15 md_X15_takes (by decide) (by omega)) tm_X15_199 ti_X15_takes ts_X15_takes (C0.mem (i := 120) (Nat.le_of_ble_eq_true rfl)) (g_c12 k_120) rfl rfl hl.1 rfl (Nat.le_of_ble_eq_true rfl) dX15_line_2) (fun H locs hW => ?_)
  refine lv_if_eq (tgt := 15) C0.hx C0.hb dX15_line_5 (by decide) (fun hc2 => ?_) (fun hc2 => ?_)
  · replace h := (if_pos hc2).symm.trans h
    refine lv_aload_n C0.hx C0.hb dX15_line_15 rfl (lv_at hl 0 rfl) ?_
    refine lv_bipush (v := (7 : Int32)) C0.hx C0.hb dX15_line_16 (by decide) ?_
    obtain ⟨q3, hq3, h⟩ := Option.bind_eq_some_iff.mp h
    refine g_calli hW (g_runV (As := [.int ((7 : Int32))]) (rest := []) C0 hW (c_X15_takes hq3) (g_cwOf (n := 1) tc_X15_takes tn_X15 md_X15_takes (by decide) (by omega)) tm_X15_199 ti_X15_takes ts_X15_takes (C0.mem (i := 120) (Nat.le_of_ble_eq_true rfl)) (g_c12 k_120) rfl rfl hl.1 rfl (Nat.le_of_ble_eq_true rfl) dX15_line_18) (fun H locs hW => ?_)
    refine lv_if_eq (tgt := 41) C0.hx C0.hb dX15_line_21 (by decide) (fun hc4 => ?_) (fun hc4 => ?_)
    · replace h := (if_pos hc4).symm.trans h
      refine lv_aload_n C0.hx C0.hb dX15_line_41 rfl (lv_at hl 0 rfl) ?_
      refine lv_bipush (v := (8 : Int32)) C0.hx C0.hb dX15_line_42 (by decide) ?_
      obtain ⟨q5, hq5, h⟩ := Option.bind_eq_some_iff.mp h
      refine g_calli hW (g_runV (As := [.int ((8 : Int32))]) (rest := []) C0 hW (c_X15_takes hq5) (g_cwOf (n := 1) tc_X15_takes tn_X15 md_X15_takes (by decide) (by omega)) tm_X15_199 ti_X15_takes ts_X15_takes (C0.mem (i := 120) (Nat.le_of_ble_eq_true rfl)) (g_c12 k_120) rfl rfl hl.1 rfl (Nat.le_of_ble_eq_true rfl) dX15_line_44) (fun H locs hW => ?_)
      refine lv_if_eq (tgt := 67) C0.hx C0.hb dX15_line_47 (by decide) (fun hc6 => ?_) (fun hc6 => ?_)
      · replace h := (if_pos hc6).symm.trans h
        refine lv_aload_n C0.hx C0.hb dX15_line_67 rfl (lv_at hl 0 rfl) ?_
        refine lv_bipush (v := (9 : Int32)) C0.hx C0.hb dX15_line_68 (by decide) ?_
        obtain ⟨q7, hq7, h⟩ := Option.bind_eq_some_iff.mp h
        refine g_calli hW (g_runV (As := [.int ((9 : Int32))]) (rest := []) C0 hW (c_X15_is hq7) (g_cwOf (n := 1) tc_X15_is tn_X15 md_X15_is (by decide) (by omega)) tm_X15_126 ti_X15_is ts_X15_is (C0.mem (i := 120) (Nat.le_of_ble_eq_true rfl)) (g_c12 k_120) rfl rfl hl.1 rfl (Nat.le_of_ble_eq_true rfl) dX15_line_70) (fun H locs hW => ?_)
        refine lv_if_eq (tgt := 84) C0.hx C0.hb dX15_line_73 (by decide) (fun hc8 => ?_) (fun hc8 => ?_)
        · replace h := (if_pos hc8).symm.trans h
          refine lv_aload_n C0.hx C0.hb dX15_line_84 rfl (lv_at hl 0 rfl) ?_
          refine lv_bipush (v := (10 : Int32)) C0.hx C0.hb dX15_line_85 (by decide) ?_
          obtain ⟨q9, hq9, h⟩ := Option.bind_eq_some_iff.mp h
          refine g_calli hW (g_runV (As := [.int ((10 : Int32))]) (rest := []) C0 hW (c_X15_is hq9) (g_cwOf (n := 1) tc_X15_is tn_X15 md_X15_is (by decide) (by omega)) tm_X15_126 ti_X15_is ts_X15_is (C0.mem (i := 120) (Nat.le_of_ble_eq_true rfl)) (g_c12 k_120) rfl rfl hl.1 rfl (Nat.le_of_ble_eq_true rfl) dX15_line_87) (fun H locs hW => ?_)
          refine lv_if_eq (tgt := 101) C0.hx C0.hb dX15_line_90 (by decide) (fun hc10 => ?_) (fun hc10 => ?_)
          · replace h := (if_pos hc10).symm.trans h
            refine lv_aload_n C0.hx C0.hb dX15_line_101 rfl (lv_at hl 0 rfl) ?_
            refine lv_bipush (v := (11 : Int32)) C0.hx C0.hb dX15_line_102 (by decide) ?_
            obtain ⟨q11, hq11, h⟩ := Option.bind_eq_some_iff.mp h
            refine g_calli hW (g_runV (As := [.int ((11 : Int32))]) (rest := []) C0 hW (c_X15_is hq11) (g_cwOf (n := 1) tc_X15_is tn_X15 md_X15_is (by decide) (by omega)) tm_X15_126 ti_X15_is ts_X15_is (C0.mem (i := 120) (Nat.le_of_ble_eq_true rfl)) (g_c12 k_120) rfl rfl hl.1 rfl (Nat.le_of_ble_eq_true rfl) dX15_line_104) (fun H locs hW => ?_)
            refine lv_if_eq (tgt := 118) C0.hx C0.hb dX15_line_107 (by decide) (fun hc12 => ?_) (fun hc12 => ?_)
            · replace h := (if_pos hc12).symm.trans h
              refine lv_aload_n C0.hx C0.hb dX15_line_118 rfl (lv_at hl 0 rfl) ?_
              obtain ⟨q13, hq13, h⟩ := Option.bind_eq_some_iff.mp h
              refine g_callv hW (g_runV (As := []) (rest := []) C0 hW (c_X15_wrong hq13) (g_cwOf (n := 0) tc_X15_wrong tn_X15 md_X15_wrong (by decide) (by omega)) tm_X15_129 ti_X15_wrong ts_X15_wrong (C0.mem (i := 120) (Nat.le_of_ble_eq_true rfl)) (g_c12 k_120) rfl rfl hl.1 rfl (Nat.le_of_ble_eq_true rfl) dX15_line_119) (fun H locs hW => ?_)
              obtain rfl := Option.some.inj h
              exact g_vret C0 hW rfl dX15_line_122
            · replace h := (if_neg hc12).symm.trans h
              refine lv_aload_n C0.hx C0.hb dX15_line_110 rfl (lv_at hl 0 rfl) ?_
              refine lv_iconst (v := (2 : Int32)) C0.hx C0.hb dX15_line_111 (by decide) ?_
              obtain ⟨q14, hq14, h⟩ := Option.bind_eq_some_iff.mp h
              refine g_callv hW (g_runV (As := [.int ((2 : Int32))]) (rest := []) C0 hW (c_X15_rule hq14) (g_cwOf (n := 1) tc_X15_rule tn_X15 md_X15_rule (by decide) (by omega)) tm_X15_250 ti_X15_rule ts_X15_rule (C0.mem (i := 120) (Nat.le_of_ble_eq_true rfl)) (g_c12 k_120) rfl rfl hl.1 rfl (Nat.le_of_ble_eq_true rfl) dX15_line_112) (fun H locs hW => ?_)
              refine lv_goto (tgt := 122) C0.hx C0.hb dX15_line_115 (by decide) ?_
              obtain rfl := Option.some.inj h
              exact g_vret C0 hW rfl dX15_line_122
          · replace h := (if_neg hc10).symm.trans h
            refine lv_aload_n C0.hx C0.hb dX15_line_93 rfl (lv_at hl 0 rfl) ?_
            refine lv_iconst (v := (1 : Int32)) C0.hx C0.hb dX15_line_94 (by decide) ?_
            obtain ⟨q15, hq15, h⟩ := Option.bind_eq_some_iff.mp h
            refine g_callv hW (g_runV (As := [.int ((1 : Int32))]) (rest := []) C0 hW (c_X15_rule hq15) (g_cwOf (n := 1) tc_X15_rule tn_X15 md_X15_rule (by decide) (by omega)) tm_X15_250 ti_X15_rule ts_X15_rule (C0.mem (i := 120) (Nat.le_of_ble_eq_true rfl)) (g_c12 k_120) rfl rfl hl.1 rfl (Nat.le_of_ble_eq_true rfl) dX15_line_95) (fun H locs hW => ?_)
            refine lv_goto (tgt := 122) C0.hx C0.hb dX15_line_98 (by decide) ?_
            obtain rfl := Option.some.inj h
            exact g_vret C0 hW rfl dX15_line_122
        · replace h := (if_neg hc8).symm.trans h
          refine lv_aload_n C0.hx C0.hb dX15_line_76 rfl (lv_at hl 0 rfl) ?_
          refine lv_iconst (v := (0 : Int32)) C0.hx C0.hb dX15_line_77 (by decide) ?_
          obtain ⟨q16, hq16, h⟩ := Option.bind_eq_some_iff.mp h
          refine g_callv hW (g_runV (As := [.int ((0 : Int32))]) (rest := []) C0 hW (c_X15_rule hq16) (g_cwOf (n := 1) tc_X15_rule tn_X15 md_X15_rule (by decide) (by omega)) tm_X15_250 ti_X15_rule ts_X15_rule (C0.mem (i := 120) (Nat.le_of_ble_eq_true rfl)) (g_c12 k_120) rfl rfl hl.1 rfl (Nat.le_of_ble_eq_true rfl) dX15_line_78) (fun H locs hW => ?_)
          refine lv_goto (tgt := 122) C0.hx C0.hb dX15_line_81 (by decide) ?_
          obtain rfl := Option.some.inj h
          exact g_vret C0 hW rfl dX15_line_122
      · replace h := (if_neg hc6).symm.trans h
        refine lv_aload_n C0.hx C0.hb dX15_line_50 rfl (lv_at hl 0 rfl) ?_
        refine gf_X15_15 C0 hW (C0.mem (i := 120) (Nat.le_of_ble_eq_true rfl)) k_120 tf_X15_39 dX15_line_51 ?_
        refine lv_aload_n C0.hx C0.hb dX15_line_54 rfl (lv_at hl 0 rfl) ?_
        refine lv_iconst (v := (0 : Int32)) C0.hx C0.hb dX15_line_55 (by decide) ?_
        refine lv_bipush (v := (99 : Int32)) C0.hx C0.hb dX15_line_56 (by decide) ?_
        obtain ⟨q17, hq17, h⟩ := Option.bind_eq_some_iff.mp h
        refine g_calli hW (g_runV (As := [.int ((0 : Int32)), .int ((99 : Int32))]) (rest := [.ref (g_ad G (139))]) C0 hW (c_X15_numberIn hq17) (g_cwOf (n := 2) tc_X15_numberIn tn_X15 md_X15_numberIn (by decide) (by omega)) tm_X15_208 ti_X15_numberIn ts_X15_numberIn (C0.mem (i := 120) (Nat.le_of_ble_eq_true rfl)) (g_c12 k_120) rfl rfl hl.1 rfl (Nat.le_of_ble_eq_true rfl) dX15_line_58) (fun H locs hW => ?_)
        refine gpN_X14_1 C0 hW (C0.mem (i := 139) (Nat.le_of_ble_eq_true rfl)) k_139 tfN_X15_247 dX15_line_61 (fun H locs hW => ?_)
        refine lv_goto (tgt := 122) C0.hx C0.hb dX15_line_64 (by decide) ?_
        obtain rfl := Option.some.inj h
        exact g_vret C0 hW rfl dX15_line_122
    · replace h := (if_neg hc4).symm.trans h
      refine lv_aload_n C0.hx C0.hb dX15_line_24 rfl (lv_at hl 0 rfl) ?_
      refine gf_X15_15 C0 hW (C0.mem (i := 120) (Nat.le_of_ble_eq_true rfl)) k_120 tf_X15_39 dX15_line_25 ?_
      refine lv_aload_n C0.hx C0.hb dX15_line_28 rfl (lv_at hl 0 rfl) ?_
      refine lv_iconst (v := (0 : Int32)) C0.hx C0.hb dX15_line_29 (by decide) ?_
      refine lv_bipush (v := (20 : Int32)) C0.hx C0.hb dX15_line_30 (by decide) ?_
      obtain ⟨q18, hq18, h⟩ := Option.bind_eq_some_iff.mp h
      refine g_calli hW (g_runV (As := [.int ((0 : Int32)), .int ((20 : Int32))]) (rest := [.ref (g_ad G (139))]) C0 hW (c_X15_numberIn hq18) (g_cwOf (n := 2) tc_X15_numberIn tn_X15 md_X15_numberIn (by decide) (by omega)) tm_X15_208 ti_X15_numberIn ts_X15_numberIn (C0.mem (i := 120) (Nat.le_of_ble_eq_true rfl)) (g_c12 k_120) rfl rfl hl.1 rfl (Nat.le_of_ble_eq_true rfl) dX15_line_32) (fun H locs hW => ?_)
      refine gpN_X14_0 C0 hW (C0.mem (i := 139) (Nat.le_of_ble_eq_true rfl)) k_139 tfN_X15_244 dX15_line_35 (fun H locs hW => ?_)
      refine lv_goto (tgt := 122) C0.hx C0.hb dX15_line_38 (by decide) ?_
      obtain rfl := Option.some.inj h
      exact g_vret C0 hW rfl dX15_line_122
  · replace h := (if_neg hc2).symm.trans h
    refine lv_aload_n C0.hx C0.hb dX15_line_8 rfl (lv_at hl 0 rfl) ?_
    obtain ⟨q19, hq19, h⟩ := Option.bind_eq_some_iff.mp h
    refine g_callv hW (g_runV (As := []) (rest := []) C0 hW (c_X15_word hq19) (g_cwOf (n := 0) tc_X15_word tn_X15 md_X15_word (by decide) (by omega)) tm_X15_242 ti_X15_word ts_X15_word (C0.mem (i := 120) (Nat.le_of_ble_eq_true rfl)) (g_c12 k_120) rfl rfl hl.1 rfl (Nat.le_of_ble_eq_true rfl) dX15_line_9) (fun H locs hW => ?_)
    refine lv_goto (tgt := 122) C0.hx C0.hb dX15_line_12 (by decide) ?_
    obtain rfl := Option.some.inj h
    exact g_vret C0 hW rfl dX15_line_122
set_option maxRecDepth 100000 in
set_option maxHeartbeats 4000000 in
theorem c_X15_trim {l : Launch} {G : GL} {ids : List Nat} {x : CS} {o : Nat → Int32} {y : MS} {p1 : Int32} {q : Int32 × MS}    (h : f_X15_trim p1 y = some q) : Met l yX15_trim (.code yX15_trim cX15_trim 2 (Option.some Jvm.ClassFile.FieldType.int) :: gT) (g_rm 1 0 0) (va_Pc [.ref (g_ad G (120)), .int (p1)] (g_P G ids (x, y, o))) (g_Qi G ids q.1 (x, q.2, o)) 0 0 (g_A G) := by
  unfold f_X15_trim at h
  refine g_entry (by decide) (Nat.le_of_ble_eq_true rfl) (fun p e s m args below meth c ls C0 hl hW _ => ?_)
  have hl : lv_has ls 2 [(0, .ref (g_ad G (120))), (1, .int (p1))] := hl
  refine lv_aload_n C0.hx C0.hb dX15_trim_0 rfl (lv_at hl 0 rfl) ?_
  refine lv_iconst (v := (0 : Int32)) C0.hx C0.hb dX15_trim_1 (by decide) ?_
  refine gp_X15_0 C0 hW (C0.mem (i := 120) (Nat.le_of_ble_eq_true rfl)) k_120 tf_X15_62 dX15_trim_2 (fun H locs hW => ?_)
  refine lv_iload_n C0.hx C0.hb dX15_trim_5 rfl (lv_at hl 1 rfl) ?_
  refine lv_iconst (v := (0 : Int32)) C0.hx C0.hb dX15_trim_6 (by decide) ?_
  refine lv_aload_n C0.hx C0.hb dX15_trim_7 rfl (lv_at hl 0 rfl) ?_
  refine gf_X15_2 C0 hW (C0.mem (i := 120) (Nat.le_of_ble_eq_true rfl)) k_120 tf_X15_69 dX15_trim_8 ?_
  obtain ⟨q1, hq1, h⟩ := Option.bind_eq_some_iff.mp h
  refine g_calli hW (g_runS (As := [.int (p1), .int ((0 : Int32)), .int ((g_mi y 120 0 (0 : Int32)) 120 2)]) (rest := []) C0 hW (c_X15_isIn hq1) (g_cwOf (n := 3) tc_X15_isIn tn_X15 md_X15_isIn (by decide) (by omega)) tm_X15_65 tz_X15_isIn rfl hl.1 rfl (Nat.le_of_ble_eq_true rfl) dX15_trim_11) (fun H locs hW => ?_)
  refine lv_if_ne (tgt := 23) C0.hx C0.hb dX15_trim_14 (by decide) (fun hc2 => ?_) (fun hc2 => ?_)
  · replace h := (if_neg hc2).symm.trans h
    refine lv_aload_n C0.hx C0.hb dX15_trim_23 rfl (lv_at hl 0 rfl) ?_
    refine lv_iload_n C0.hx C0.hb dX15_trim_24 rfl (lv_at hl 1 rfl) ?_
    refine gp_X15_2 C0 hW (C0.mem (i := 120) (Nat.le_of_ble_eq_true rfl)) k_120 tf_X15_69 dX15_trim_25 (fun H locs hW => ?_)
    refine lv_iload_n C0.hx C0.hb dX15_trim_28 rfl (lv_at hl 1 rfl) ?_
    obtain rfl := Option.some.inj h
    exact g_iret C0 hW rfl rfl rfl dX15_trim_29
  · replace h := (if_pos hc2).symm.trans h
    refine lv_aload_n C0.hx C0.hb dX15_trim_17 rfl (lv_at hl 0 rfl) ?_
    refine lv_iconst (v := (1 : Int32)) C0.hx C0.hb dX15_trim_18 (by decide) ?_
    obtain ⟨q3, hq3, h⟩ := Option.bind_eq_some_iff.mp h
    refine g_calli hW (g_runV (As := [.int ((1 : Int32))]) (rest := []) C0 hW (c_X15_no hq3) (g_cwOf (n := 1) tc_X15_no tn_X15 md_X15_no (by decide) (by omega)) tm_X15_253 ti_X15_no ts_X15_no (C0.mem (i := 120) (Nat.le_of_ble_eq_true rfl)) (g_c12 k_120) rfl rfl hl.1 rfl (Nat.le_of_ble_eq_true rfl) dX15_trim_19) (fun H locs hW => ?_)
    obtain rfl := Option.some.inj h
    exact g_iret C0 hW rfl rfl rfl dX15_trim_22
set_option maxRecDepth 100000 in
set_option maxHeartbeats 4000000 in
theorem w_X15_teach_96 {p : Program} {l : Launch} {e : Env} {s : State} {m : MethodId} {args : Array Value} {below : List Frame} {meth : Method} {c : Code} {G : GL} {ids : List Nat} {x : CS} {o : Nat → Int32}  {q : Int32 × MS}   (C0 : g_X G ids p s m args meth c cX15_teach 1 RX15 (Option.some Jvm.ClassFile.FieldType.int))  : ∀  (s0 : Int32) (y : MS) (H : Heap) (locs : List Loc) (ls : Array Slot),  f_X15_teach_96 s0 y = some q → g_W G ids (x, y, o) s.heap H locs → lv_has ls 1 [(0, .ref (g_ad G (120)))] → W p l e (g_rm 119 0 0) s m args below meth c H locs 0 0 (MQ below (g_Qi G ids q.1 (x, q.2, o)) args s 0 0 (g_A G)) (F0 m 96 ls [.int (s0), .ref (g_ad G (120))]) := by
  intro s0 y H locs ls h hW hl
  unfold f_X15_teach_96 at h
  refine gp_X15_3 C0 hW (C0.mem (i := 120) (Nat.le_of_ble_eq_true rfl)) k_120 tf_X15_13 dX15_teach_96 (fun H locs hW => ?_)
  refine lv_aload_n C0.hx C0.hb dX15_teach_99 rfl (lv_at hl 0 rfl) ?_
  refine gf_X15_10 C0 hW (C0.mem (i := 120) (Nat.le_of_ble_eq_true rfl)) k_120 tf_X15_120 dX15_teach_100 ?_
  refine lv_if_eq (tgt := 111) C0.hx C0.hb dX15_teach_103 (by decide) (fun hc10 => ?_) (fun hc10 => ?_)
  · replace h := (if_pos hc10).symm.trans h
    refine lv_aload_n C0.hx C0.hb dX15_teach_111 rfl (lv_at hl 0 rfl) ?_
    refine gf_X15_14 C0 hW (C0.mem (i := 120) (Nat.le_of_ble_eq_true rfl)) k_120 tf_X15_35 dX15_teach_112 ?_
    refine lv_aload_n C0.hx C0.hb dX15_teach_115 rfl (lv_at hl 0 rfl) ?_
    refine gf_X15_15 C0 hW (C0.mem (i := 120) (Nat.le_of_ble_eq_true rfl)) k_120 tf_X15_39 dX15_teach_116 ?_
    obtain ⟨q11, hq11, h⟩ := Option.bind_eq_some_iff.mp h
    refine g_callv hW (g_runV (As := [.ref (g_ad G (139))]) (rest := []) C0 hW (c_X14_become k_127 k_139 hq11) (g_cwOf (n := 1) tc_X14_become tn_X14 md_X14_become (by decide) (by omega)) tm_X15_264 ti_X14_become ts_X14_become (C0.mem (i := 127) (Nat.le_of_ble_eq_true rfl)) (g_c13 k_127) rfl rfl hl.1 rfl (Nat.le_of_ble_eq_true rfl) dX15_teach_119) (fun H locs hW => ?_)
    refine lv_aload_n C0.hx C0.hb dX15_teach_122 rfl (lv_at hl 0 rfl) ?_
    refine gf_X15_17 C0 hW (C0.mem (i := 120) (Nat.le_of_ble_eq_true rfl)) k_120 tf_X15_48 dX15_teach_123 ?_
    refine lv_aload_n C0.hx C0.hb dX15_teach_126 rfl (lv_at hl 0 rfl) ?_
    refine gf_X15_14 C0 hW (C0.mem (i := 120) (Nat.le_of_ble_eq_true rfl)) k_120 tf_X15_35 dX15_teach_127 ?_
    obtain ⟨q12, hq12, h⟩ := Option.bind_eq_some_iff.mp h
    refine g_callv hW (g_runV (As := [.ref (g_ad G (127))]) (rest := []) C0 hW (c_X13_begin k_152 k_127 hq12) (g_cwOf (n := 1) tc_X13_begin tn_X13 md_X13_begin (by decide) (by omega)) tm_X15_58 ti_X13_begin ts_X13_begin (C0.mem (i := 152) (Nat.le_of_ble_eq_true rfl)) (g_c14 k_152) rfl rfl hl.1 rfl (Nat.le_of_ble_eq_true rfl) dX15_teach_130) (fun H locs hW => ?_)
    refine lv_iconst (v := (0 : Int32)) C0.hx C0.hb dX15_teach_133 (by decide) ?_
    obtain rfl := Option.some.inj h
    exact g_iret C0 hW rfl rfl rfl dX15_teach_134
  · replace h := (if_neg hc10).symm.trans h
    refine lv_aload_n C0.hx C0.hb dX15_teach_106 rfl (lv_at hl 0 rfl) ?_
    refine gf_X15_10 C0 hW (C0.mem (i := 120) (Nat.le_of_ble_eq_true rfl)) k_120 tf_X15_120 dX15_teach_107 ?_
    obtain rfl := Option.some.inj h
    exact g_iret C0 hW rfl rfl rfl dX15_teach_110
set_option maxRecDepth 100000 in
set_option maxHeartbeats 4000000 in
theorem w_X15_teach_70 {p : Program} {l : Launch} {e : Env} {s : State} {m : MethodId} {args : Array Value} {below : List Frame} {meth : Method} {c : Code} {G : GL} {ids : List Nat} {x : CS} {o : Nat → Int32}  {q : Int32 × MS}   (C0 : g_X G ids p s m args meth c cX15_teach 1 RX15 (Option.some Jvm.ClassFile.FieldType.int))  : ∀   (y : MS) (H : Heap) (locs : List Loc) (ls : Array Slot),  f_X15_teach_70 y = some q → g_W G ids (x, y, o) s.heap H locs → lv_has ls 1 [(0, .ref (g_ad G (120)))] → W p l e (g_rm 119 0 0) s m args below meth c H locs 0 0 (MQ below (g_Qi G ids q.1 (x, q.2, o)) args s 0 0 (g_A G)) (F0 m 70 ls []) := by
  intro y H locs ls h hW hl
  unfold f_X15_teach_70 at h
  refine lv_aload_n C0.hx C0.hb dX15_teach_70 rfl (lv_at hl 0 rfl) ?_
  refine lv_iconst (v := (0 : Int32)) C0.hx C0.hb dX15_teach_71 (by decide) ?_
  refine gp_X15_2 C0 hW (C0.mem (i := 120) (Nat.le_of_ble_eq_true rfl)) k_120 tf_X15_69 dX15_teach_72 (fun H locs hW => ?_)
  refine lv_aload_n C0.hx C0.hb dX15_teach_75 rfl (lv_at hl 0 rfl) ?_
  refine lv_aload_n C0.hx C0.hb dX15_teach_76 rfl (lv_at hl 0 rfl) ?_
  refine gf_X15_10 C0 hW (C0.mem (i := 120) (Nat.le_of_ble_eq_true rfl)) k_120 tf_X15_120 dX15_teach_77 ?_
  refine lv_if_ne (tgt := 87) C0.hx C0.hb dX15_teach_80 (by decide) (fun hc8 => ?_) (fun hc8 => ?_)
  · replace h := (if_neg hc8).symm.trans h
    refine lv_aload_n C0.hx C0.hb dX15_teach_87 rfl (lv_at hl 0 rfl) ?_
    refine gf_X15_6 C0 hW (C0.mem (i := 120) (Nat.le_of_ble_eq_true rfl)) k_120 tf_X15_23 dX15_teach_88 ?_
    refine lv_aload_n C0.hx C0.hb dX15_teach_91 rfl (lv_at hl 0 rfl) ?_
    refine gf_X15_11 C0 hW (C0.mem (i := 120) (Nat.le_of_ble_eq_true rfl)) k_120 tf_X15_123 dX15_teach_92 ?_
    obtain ⟨hb9, h⟩ := g_if h
    refine ga_31 C0 hW (C0.mem (i := 124) (Nat.le_of_ble_eq_true rfl)) k_124 hb9 dX15_teach_95 ?_
    exact w_X15_teach_96 C0 _ _ _ _ _ h hW (lv_sub hl [0] rfl)
  · replace h := (if_pos hc8).symm.trans h
    refine lv_iconst (v := (-1 : Int32)) C0.hx C0.hb dX15_teach_83 (by decide) ?_
    refine lv_goto (tgt := 96) C0.hx C0.hb dX15_teach_84 (by decide) ?_
    exact w_X15_teach_96 C0 _ _ _ _ _ h hW (lv_sub hl [0] rfl)
set_option maxRecDepth 100000 in
set_option maxHeartbeats 4000000 in
theorem w_X15_teach_36 {p : Program} {l : Launch} {e : Env} {s : State} {m : MethodId} {args : Array Value} {below : List Frame} {meth : Method} {c : Code} {G : GL} {ids : List Nat} {x : CS} {o : Nat → Int32}  {q : Int32 × MS}   (C0 : g_X G ids p s m args meth c cX15_teach 1 RX15 (Option.some Jvm.ClassFile.FieldType.int))  : ∀ (n : Nat)  (y : MS) (H : Heap) (locs : List Loc) (ls : Array Slot),  f_X15_teach_36 n y = some q → g_W G ids (x, y, o) s.heap H locs → lv_has ls 1 [(0, .ref (g_ad G (120)))] → W p l e (g_rm 119 0 0) s m args below meth c H locs 0 0 (MQ below (g_Qi G ids q.1 (x, q.2, o)) args s 0 0 (g_A G)) (F0 m 36 ls []) := by
  intro n
  induction n with
  | zero =>
    intro y H locs ls h hW hl
    exact absurd h (by simp [f_X15_teach_36])
  | succ n ih =>
    intro y H locs ls h hW hl
    unfold f_X15_teach_36 at h
    refine lv_aload_n C0.hx C0.hb dX15_teach_36 rfl (lv_at hl 0 rfl) ?_
    refine gf_X15_9 C0 hW (C0.mem (i := 120) (Nat.le_of_ble_eq_true rfl)) k_120 tf_X15_113 dX15_teach_37 ?_
    refine lv_if_ne (tgt := 70) C0.hx C0.hb dX15_teach_40 (by decide) (fun hc3 => ?_) (fun hc3 => ?_)
    · replace h := (if_neg hc3).symm.trans h
      exact w_X15_teach_70 C0 _ _ _ _ h hW (lv_sub hl [0] rfl)
    · replace h := (if_pos hc3).symm.trans h
      refine lv_aload_n C0.hx C0.hb dX15_teach_43 rfl (lv_at hl 0 rfl) ?_
      refine gf_X15_4 C0 hW (C0.mem (i := 120) (Nat.le_of_ble_eq_true rfl)) k_120 tf_X15_17 dX15_teach_44 ?_
      refine lv_aload_n C0.hx C0.hb dX15_teach_47 rfl (lv_at hl 0 rfl) ?_
      refine gf_X15_8 C0 hW (C0.mem (i := 120) (Nat.le_of_ble_eq_true rfl)) k_120 tf_X15_117 dX15_teach_48 ?_
      obtain ⟨hb4, h⟩ := g_if h
      refine ga_31 C0 hW (C0.mem (i := 122) (Nat.le_of_ble_eq_true rfl)) k_122 hb4 dX15_teach_51 ?_
      refine lv_bipush (v := (33 : Int32)) C0.hx C0.hb dX15_teach_52 (by decide) ?_
      refine lv_icmp_eq (tgt := 70) C0.hx C0.hb dX15_teach_54 (by decide) (fun hc5 => ?_) (fun hc5 => ?_)
      · replace h := (if_pos hc5).symm.trans h
        exact w_X15_teach_70 C0 _ _ _ _ h hW (lv_sub hl [0] rfl)
      · replace h := (if_neg hc5).symm.trans h
        refine lv_aload_n C0.hx C0.hb dX15_teach_57 rfl (lv_at hl 0 rfl) ?_
        obtain ⟨q6, hq6, h⟩ := Option.bind_eq_some_iff.mp h
        refine g_callv hW (g_runV (As := []) (rest := []) C0 hW (c_X15_line hq6) (g_cwOf (n := 0) tc_X15_line tn_X15 md_X15_line (by decide) (by omega)) tm_X15_261 ti_X15_line ts_X15_line (C0.mem (i := 120) (Nat.le_of_ble_eq_true rfl)) (g_c12 k_120) rfl rfl hl.1 rfl (Nat.le_of_ble_eq_true rfl) dX15_teach_58) (fun H locs hW => ?_)
        refine lv_aload_n C0.hx C0.hb dX15_teach_61 rfl (lv_at hl 0 rfl) ?_
        refine lv_bipush (v := (53 : Int32)) C0.hx C0.hb dX15_teach_62 (by decide) ?_
        obtain ⟨q7, hq7, h⟩ := Option.bind_eq_some_iff.mp h
        refine g_callv hW (g_runV (As := [.int ((53 : Int32))]) (rest := []) C0 hW (c_X15_take hq7) (g_cwOf (n := 1) tc_X15_take tn_X15 md_X15_take (by decide) (by omega)) tm_X15_161 ti_X15_take ts_X15_take (C0.mem (i := 120) (Nat.le_of_ble_eq_true rfl)) (g_c12 k_120) rfl rfl hl.1 rfl (Nat.le_of_ble_eq_true rfl) dX15_teach_64) (fun H locs hW => ?_)
        refine lv_goto (tgt := 36) C0.hx C0.hb dX15_teach_67 (by decide) ?_
        exact ih _ _ _ _ h hW (lv_sub hl [0] rfl)
set_option maxRecDepth 100000 in
set_option maxHeartbeats 4000000 in
theorem c_X15_teach {l : Launch} {G : GL} {ids : List Nat} {x : CS} {o : Nat → Int32} {y : MS}  {q : Int32 × MS}    (h : f_X15_teach y = some q) : Met l yX15_teach (.code yX15_teach cX15_teach 1 (Option.some Jvm.ClassFile.FieldType.int) :: gT) (g_rm 119 0 0) (va_Pc [.ref (g_ad G (120))] (g_P G ids (x, y, o))) (g_Qi G ids q.1 (x, q.2, o)) 0 0 (g_A G) := by
  unfold f_X15_teach at h
  refine g_entry (by decide) (Nat.le_of_ble_eq_true rfl) (fun p e s m args below meth c ls C0 hl hW _ => ?_)
  have hl : lv_has ls 1 [(0, .ref (g_ad G (120)))] := hl
  refine lv_aload_n C0.hx C0.hb dX15_teach_0 rfl (lv_at hl 0 rfl) ?_
  refine lv_iconst (v := (0 : Int32)) C0.hx C0.hb dX15_teach_1 (by decide) ?_
  refine gp_X15_0 C0 hW (C0.mem (i := 120) (Nat.le_of_ble_eq_true rfl)) k_120 tf_X15_62 dX15_teach_2 (fun H locs hW => ?_)
  refine lv_aload_n C0.hx C0.hb dX15_teach_5 rfl (lv_at hl 0 rfl) ?_
  refine lv_iconst (v := (0 : Int32)) C0.hx C0.hb dX15_teach_6 (by decide) ?_
  refine gp_X15_8 C0 hW (C0.mem (i := 120) (Nat.le_of_ble_eq_true rfl)) k_120 tf_X15_117 dX15_teach_7 (fun H locs hW => ?_)
  refine lv_aload_n C0.hx C0.hb dX15_teach_10 rfl (lv_at hl 0 rfl) ?_
  refine lv_iconst (v := (0 : Int32)) C0.hx C0.hb dX15_teach_11 (by decide) ?_
  refine gp_X15_9 C0 hW (Or.inl rfl) (C0.mem (i := 120) (Nat.le_of_ble_eq_true rfl)) k_120 tf_X15_113 dX15_teach_12 (fun H locs hW => ?_)
  refine lv_aload_n C0.hx C0.hb dX15_teach_15 rfl (lv_at hl 0 rfl) ?_
  refine lv_iconst (v := (0 : Int32)) C0.hx C0.hb dX15_teach_16 (by decide) ?_
  refine gp_X15_10 C0 hW (C0.mem (i := 120) (Nat.le_of_ble_eq_true rfl)) k_120 tf_X15_120 dX15_teach_17 (fun H locs hW => ?_)
  refine lv_aload_n C0.hx C0.hb dX15_teach_20 rfl (lv_at hl 0 rfl) ?_
  refine lv_iconst (v := (0 : Int32)) C0.hx C0.hb dX15_teach_21 (by decide) ?_
  refine gp_X15_12 C0 hW (C0.mem (i := 120) (Nat.le_of_ble_eq_true rfl)) k_120 tf_X15_132 dX15_teach_22 (fun H locs hW => ?_)
  refine lv_aload_n C0.hx C0.hb dX15_teach_25 rfl (lv_at hl 0 rfl) ?_
  refine gf_X15_15 C0 hW (C0.mem (i := 120) (Nat.le_of_ble_eq_true rfl)) k_120 tf_X15_39 dX15_teach_26 ?_
  obtain ⟨q1, hq1, h⟩ := Option.bind_eq_some_iff.mp h
  refine g_callv hW (g_runV (As := []) (rest := []) C0 hW (c_X14_begin k_139 hq1) (g_cwOf (n := 0) tc_X14_begin tn_X14 md_X14_begin (by decide) (by omega)) tm_X15_256 ti_X14_begin ts_X14_begin (C0.mem (i := 139) (Nat.le_of_ble_eq_true rfl)) (g_c13 k_139) rfl rfl hl.1 rfl (Nat.le_of_ble_eq_true rfl) dX15_teach_29) (fun H locs hW => ?_)
  refine lv_aload_n C0.hx C0.hb dX15_teach_32 rfl (lv_at hl 0 rfl) ?_
  obtain ⟨q2, hq2, h⟩ := Option.bind_eq_some_iff.mp h
  refine g_callv hW (g_runV (As := []) (rest := []) C0 hW (c_X15_readAll hq2) (g_cwOf (n := 0) tc_X15_readAll tn_X15 md_X15_readAll (by decide) (by omega)) tm_X15_258 ti_X15_readAll ts_X15_readAll (C0.mem (i := 120) (Nat.le_of_ble_eq_true rfl)) (g_c12 k_120) rfl rfl hl.1 rfl (Nat.le_of_ble_eq_true rfl) dX15_teach_33) (fun H locs hW => ?_)
  exact w_X15_teach_36 C0 g_fuel _ _ _ _ h hW (lv_sub hl [0] rfl)
set_option maxRecDepth 100000 in
set_option maxHeartbeats 4000000 in
theorem c_X15_errorAt {l : Launch} {G : GL} {ids : List Nat} {x : CS} {o : Nat → Int32} {y : MS}  {q : Int32 × MS}    (h : f_X15_errorAt y = some q) : Met l yX15_errorAt (.code yX15_errorAt cX15_errorAt 1 (Option.some Jvm.ClassFile.FieldType.int) :: gT) (g_rm 1 0 0) (va_Pc [.ref (g_ad G (120))] (g_P G ids (x, y, o))) (g_Qi G ids q.1 (x, q.2, o)) 0 0 (g_A G) := by
  unfold f_X15_errorAt at h
  refine g_entry (by decide) (Nat.le_of_ble_eq_true rfl) (fun p e s m args below meth c ls C0 hl hW _ => ?_)
  have hl : lv_has ls 1 [(0, .ref (g_ad G (120)))] := hl
  refine lv_aload_n C0.hx C0.hb dX15_errorAt_0 rfl (lv_at hl 0 rfl) ?_
  refine lv_aload_n C0.hx C0.hb dX15_errorAt_1 rfl (lv_at hl 0 rfl) ?_
  refine gf_X15_3 C0 hW (C0.mem (i := 120) (Nat.le_of_ble_eq_true rfl)) k_120 tf_X15_13 dX15_errorAt_2 ?_
  obtain ⟨q1, hq1, h⟩ := Option.bind_eq_some_iff.mp h
  refine g_calli hW (g_runV (As := [.int (y 120 3)]) (rest := []) C0 hW (c_X15_ok hq1) (g_cwOf (n := 1) tc_X15_ok tn_X15 md_X15_ok (by decide) (by omega)) tm_X15_267 ti_X15_ok ts_X15_ok (C0.mem (i := 120) (Nat.le_of_ble_eq_true rfl)) (g_c12 k_120) rfl rfl hl.1 rfl (Nat.le_of_ble_eq_true rfl) dX15_errorAt_5) (fun H locs hW => ?_)
  obtain rfl := Option.some.inj h
  exact g_iret C0 hW rfl rfl rfl dX15_errorAt_8
set_option maxRecDepth 100000 in
set_option maxHeartbeats 4000000 in
theorem c_X15_contour {l : Launch} {G : GL} {ids : List Nat} {x : CS} {o : Nat → Int32} {y : MS} {p1 : Nat} {p2 : Int32} {p3 : Int32} {q : Int32}   (hk_p1 : kd p1 = 14) (h : f_X15_contour p1 p2 p3 y = some q) : Met l yX15_contour (.code yX15_contour cX15_contour 4 (Option.some Jvm.ClassFile.FieldType.int) :: gT) (g_rm 1 0 0) (va_Pc [.ref (g_ad G (p1)), .int (p2), .int (p3)] (g_P G ids (x, y, o))) (g_Qi G ids q (x, y, o)) 0 0 (g_A G) := by
  unfold f_X15_contour at h
  refine g_entry (by decide) (Nat.le_of_ble_eq_true rfl) (fun p e s m args below meth c ls C0 hl hW _ => ?_)
  have hl : lv_has ls 4 [(0, .ref (g_ad G (p1))), (1, .int (p2)), (2, .int (p3))] := hl
  refine lv_iload_n C0.hx C0.hb dX15_contour_0 rfl (lv_at hl 2 rfl) ?_
  refine lv_iconst (v := (1 : Int32)) C0.hx C0.hb dX15_contour_1 (by decide) ?_
  refine lv_iadd C0.hx C0.hb dX15_contour_2 ?_
  refine lv_aload_n C0.hx C0.hb dX15_contour_3 rfl (lv_at hl 0 rfl) ?_
  refine gfN_X13_0 C0 hW (C0.mem (kl14 hk_p1)) hk_p1 tfN_X15_270 dX15_contour_4 ?_
  refine lv_iload_n C0.hx C0.hb dX15_contour_7 rfl (lv_at hl 1 rfl) ?_
  obtain ⟨hb1, h⟩ := g_if h
  refine ga_33 C0 hW (C0.mem (kl33 (ko14_0 hk_p1))) (ko14_0 hk_p1) hb1 dX15_contour_8 ?_
  refine lv_icmp_lt (tgt := 14) C0.hx C0.hb dX15_contour_9 (by decide) (fun hc2 => ?_) (fun hc2 => ?_)
  · replace h := (if_pos hc2).symm.trans h
    refine lv_bipush (v := (24 : Int32)) C0.hx C0.hb dX15_contour_14 (by decide) ?_
    refine lv_iload_n C0.hx C0.hb dX15_contour_16 rfl (lv_at hl 1 rfl) ?_
    refine lv_imul C0.hx C0.hb dX15_contour_17 ?_
    refine lv_iload_n C0.hx C0.hb dX15_contour_18 rfl (lv_at hl 2 rfl) ?_
    refine lv_iadd C0.hx C0.hb dX15_contour_19 ?_
    refine lv_istore_n (lv' := [(3, .int (((24 : Int32) * p2) + p3)), (0, .ref (g_ad G (p1))), (1, .int (p2)), (2, .int (p3))]) C0.hx C0.hb dX15_contour_20 rfl hl (by decide) rfl (fun ls hl => ?_)
    refine lv_aload_n C0.hx C0.hb dX15_contour_21 rfl (lv_at hl 1 rfl) ?_
    refine gfN_X13_1 C0 hW (C0.mem (kl14 hk_p1)) hk_p1 tfN_X15_271 dX15_contour_22 ?_
    refine lv_iload_n C0.hx C0.hb dX15_contour_25 rfl (lv_at hl 0 rfl) ?_
    refine lv_iconst (v := (1 : Int32)) C0.hx C0.hb dX15_contour_26 (by decide) ?_
    refine lv_iadd C0.hx C0.hb dX15_contour_27 ?_
    obtain ⟨hb3, h⟩ := g_if h
    refine ga_34 C0 hW (C0.mem (kl34 (ko14_1 hk_p1))) (ko14_1 hk_p1) hb3 dX15_contour_28 ?_
    refine lv_aload_n C0.hx C0.hb dX15_contour_29 rfl (lv_at hl 1 rfl) ?_
    refine gfN_X13_1 C0 hW (C0.mem (kl14 hk_p1)) hk_p1 tfN_X15_271 dX15_contour_30 ?_
    refine lv_iload_n C0.hx C0.hb dX15_contour_33 rfl (lv_at hl 0 rfl) ?_
    obtain ⟨hb4, h⟩ := g_if h
    refine ga_34 C0 hW (C0.mem (kl34 (ko14_1 hk_p1))) (ko14_1 hk_p1) hb4 dX15_contour_34 ?_
    refine lv_isub C0.hx C0.hb dX15_contour_35 ?_
    obtain ⟨q5, hq5, h⟩ := Option.bind_eq_some_iff.mp h
    refine g_calli hW (g_runS (As := [.int ((y (p1 + 2) ((((24 : Int32) * p2) + p3) + (1 : Int32)).toNatClampNeg) - (y (p1 + 2) (((24 : Int32) * p2) + p3).toNatClampNeg))]) (rest := []) C0 hW (c_J6_signum_0f7a4 hq5) (g_cwOf (n := 1) tc_J6_signum_0f7a4 tn_J6 md_J6_signum_0f7a4 (by decide) (by omega)) tm_X15_272 tz_J6_signum_0f7a4 rfl hl.1 rfl (Nat.le_of_ble_eq_true rfl) dX15_contour_36) (fun H locs hW => ?_)
    obtain rfl := Option.some.inj h
    exact g_iret C0 hW rfl rfl rfl dX15_contour_39
  · replace h := (if_neg hc2).symm.trans h
    refine lv_iconst (v := (0 : Int32)) C0.hx C0.hb dX15_contour_12 (by decide) ?_
    obtain rfl := Option.some.inj h
    exact g_iret C0 hW rfl rfl rfl dX15_contour_13
set_option maxRecDepth 100000 in
set_option maxHeartbeats 4000000 in
theorem w_X15_cost_64 {p : Program} {l : Launch} {e : Env} {s : State} {m : MethodId} {args : Array Value} {below : List Frame} {meth : Method} {c : Code} {G : GL} {ids : List Nat} {x : CS} {o : Nat → Int32} {y : MS} {q : Int32}   (C0 : g_X G ids p s m args meth c cX15_cost 8 RX15 (Option.some Jvm.ClassFile.FieldType.int))  : ∀  (l6 : Int32) (l7 : Int32)  (H : Heap) (locs : List Loc) (ls : Array Slot),  f_X15_cost_64 y l6 l7 = some q → g_W G ids (x, y, o) s.heap H locs → lv_has ls 8 [(6, .int (l6)), (7, .int (l7))] → W p l e (g_rm 2 0 0) s m args below meth c H locs 0 0 (MQ below (g_Qi G ids q (x, y, o)) args s 0 0 (g_A G)) (F0 m 64 ls []) := by
  intro l6 l7 H locs ls h hW hl
  unfold f_X15_cost_64 at h
  refine lv_iload C0.hx C0.hb dX15_cost_64 (lv_at hl 0 rfl) ?_
  refine lv_iload C0.hx C0.hb dX15_cost_66 (lv_at hl 1 rfl) ?_
  refine lv_icmp_ne (tgt := 75) C0.hx C0.hb dX15_cost_68 (by decide) (fun hc9 => ?_) (fun hc9 => ?_)
  · replace h := (if_neg hc9).symm.trans h
    refine lv_bipush (v := (10 : Int32)) C0.hx C0.hb dX15_cost_75 (by decide) ?_
    obtain rfl := Option.some.inj h
    exact g_iret C0 hW rfl rfl rfl dX15_cost_77
  · replace h := (if_pos hc9).symm.trans h
    refine lv_iconst (v := (0 : Int32)) C0.hx C0.hb dX15_cost_71 (by decide) ?_
    refine lv_goto (tgt := 77) C0.hx C0.hb dX15_cost_72 (by decide) ?_
    obtain rfl := Option.some.inj h
    exact g_iret C0 hW rfl rfl rfl dX15_cost_77
set_option maxRecDepth 100000 in
set_option maxHeartbeats 4000000 in
theorem c_X15_cost {l : Launch} {G : GL} {ids : List Nat} {x : CS} {o : Nat → Int32} {y : MS} {p1 : Nat} {p2 : Int32} {p3 : Int32} {p4 : Int32} {p5 : Int32} {p6 : Int32} {q : Int32}   (hk_p1 : kd p1 = 14) (h : f_X15_cost p1 p2 p3 p4 p5 p6 y = some q) : Met l yX15_cost (.code yX15_cost cX15_cost 8 (Option.some Jvm.ClassFile.FieldType.int) :: gT) (g_rm 2 0 0) (va_Pc [.ref (g_ad G (p1)), .int (p2), .int (p3), .int (p4), .int (p5), .int (p6)] (g_P G ids (x, y, o))) (g_Qi G ids q (x, y, o)) 0 0 (g_A G) := by
  unfold f_X15_cost at h
  refine g_entry (by decide) (Nat.le_of_ble_eq_true rfl) (fun p e s m args below meth c ls C0 hl hW _ => ?_)
  have hl : lv_has ls 8 [(0, .ref (g_ad G (p1))), (1, .int (p2)), (2, .int (p3)), (3, .int (p4)), (4, .int (p5)), (5, .int (p6))] := hl
  refine lv_iload C0.hx C0.hb dX15_cost_0 (lv_at hl 5 rfl) ?_
  refine lv_if_eq (tgt := 27) C0.hx C0.hb dX15_cost_2 (by decide) (fun hc1 => ?_) (fun hc1 => ?_)
  · replace h := (if_pos hc1).symm.trans h
    refine lv_aload_n C0.hx C0.hb dX15_cost_27 rfl (lv_at hl 0 rfl) ?_
    refine gfN_X13_1 C0 hW (C0.mem (kl14 hk_p1)) hk_p1 tfN_X15_271 dX15_cost_28 ?_
    refine lv_bipush (v := (24 : Int32)) C0.hx C0.hb dX15_cost_31 (by decide) ?_
    refine lv_iload_n C0.hx C0.hb dX15_cost_33 rfl (lv_at hl 1 rfl) ?_
    refine lv_imul C0.hx C0.hb dX15_cost_34 ?_
    refine lv_iload_n C0.hx C0.hb dX15_cost_35 rfl (lv_at hl 2 rfl) ?_
    refine lv_iadd C0.hx C0.hb dX15_cost_36 ?_
    obtain ⟨hb2, h⟩ := g_if h
    refine ga_34 C0 hW (C0.mem (kl34 (ko14_1 hk_p1))) (ko14_1 hk_p1) hb2 dX15_cost_37 ?_
    refine lv_istore (lv' := [(6, .int (y (p1 + 2) (((24 : Int32) * p2) + p3).toNatClampNeg)), (0, .ref (g_ad G (p1))), (1, .int (p2)), (2, .int (p3)), (3, .int (p4)), (4, .int (p5)), (5, .int (p6))]) C0.hx C0.hb dX15_cost_38 hl (by decide) rfl (fun ls hl => ?_)
    refine lv_aload_n C0.hx C0.hb dX15_cost_40 rfl (lv_at hl 1 rfl) ?_
    refine gfN_X13_1 C0 hW (C0.mem (kl14 hk_p1)) hk_p1 tfN_X15_271 dX15_cost_41 ?_
    refine lv_bipush (v := (24 : Int32)) C0.hx C0.hb dX15_cost_44 (by decide) ?_
    refine lv_iload_n C0.hx C0.hb dX15_cost_46 rfl (lv_at hl 4 rfl) ?_
    refine lv_imul C0.hx C0.hb dX15_cost_47 ?_
    refine lv_iload C0.hx C0.hb dX15_cost_48 (lv_at hl 5 rfl) ?_
    refine lv_iadd C0.hx C0.hb dX15_cost_50 ?_
    obtain ⟨hb3, h⟩ := g_if h
    refine ga_34 C0 hW (C0.mem (kl34 (ko14_1 hk_p1))) (ko14_1 hk_p1) hb3 dX15_cost_51 ?_
    refine lv_istore (lv' := [(7, .int (y (p1 + 2) (((24 : Int32) * p4) + p5).toNatClampNeg)), (6, .int (y (p1 + 2) (((24 : Int32) * p2) + p3).toNatClampNeg)), (0, .ref (g_ad G (p1))), (1, .int (p2)), (2, .int (p3)), (3, .int (p4)), (4, .int (p5)), (5, .int (p6))]) C0.hx C0.hb dX15_cost_52 hl (by decide) rfl (fun ls hl => ?_)
    refine lv_iload C0.hx C0.hb dX15_cost_54 (lv_at hl 1 rfl) ?_
    refine lv_if_eq (tgt := 64) C0.hx C0.hb dX15_cost_56 (by decide) (fun hc4 => ?_) (fun hc4 => ?_)
    · replace h := (if_pos hc4).symm.trans h
      exact w_X15_cost_64 C0 _ _ _ _ _ h hW (lv_sub hl [1, 0] rfl)
    · replace h := (if_neg hc4).symm.trans h
      refine lv_iload C0.hx C0.hb dX15_cost_59 (lv_at hl 0 rfl) ?_
      refine lv_if_ne (tgt := 78) C0.hx C0.hb dX15_cost_61 (by decide) (fun hc5 => ?_) (fun hc5 => ?_)
      · replace h := (if_neg hc5).symm.trans h
        refine lv_iload C0.hx C0.hb dX15_cost_78 (lv_at hl 1 rfl) ?_
        refine lv_iload C0.hx C0.hb dX15_cost_80 (lv_at hl 0 rfl) ?_
        refine lv_isub C0.hx C0.hb dX15_cost_82 ?_
        refine g_absR C0 hl.1 (Nat.le_of_ble_eq_true rfl) (by omega) tm_X15_281 (by decide) (by decide) dX15_cost_83 ?_
        obtain rfl := Option.some.inj h
        exact g_iret C0 hW rfl rfl rfl dX15_cost_86
      · replace h := (if_pos hc5).symm.trans h
        exact w_X15_cost_64 C0 _ _ _ _ _ h hW (lv_sub hl [1, 0] rfl)
  · replace h := (if_neg hc1).symm.trans h
    refine lv_aload_n C0.hx C0.hb dX15_cost_5 rfl (lv_at hl 0 rfl) ?_
    refine lv_iload_n C0.hx C0.hb dX15_cost_6 rfl (lv_at hl 1 rfl) ?_
    refine lv_iload_n C0.hx C0.hb dX15_cost_7 rfl (lv_at hl 2 rfl) ?_
    obtain ⟨q6, hq6, h⟩ := Option.bind_eq_some_iff.mp h
    refine g_calli hW (g_runS (As := [.ref (g_ad G (p1)), .int (p2), .int (p3)]) (rest := []) C0 hW (c_X15_contour hk_p1 hq6) (g_cwOf (n := 3) tc_X15_contour tn_X15 md_X15_contour (by decide) (by omega)) tm_X15_277 tz_X15_contour rfl hl.1 rfl (Nat.le_of_ble_eq_true rfl) dX15_cost_8) (fun H locs hW => ?_)
    refine lv_aload_n C0.hx C0.hb dX15_cost_11 rfl (lv_at hl 0 rfl) ?_
    refine lv_iload_n C0.hx C0.hb dX15_cost_12 rfl (lv_at hl 3 rfl) ?_
    refine lv_iload C0.hx C0.hb dX15_cost_13 (lv_at hl 4 rfl) ?_
    obtain ⟨q7, hq7, h⟩ := Option.bind_eq_some_iff.mp h
    refine g_calli hW (g_runS (As := [.ref (g_ad G (p1)), .int (p4), .int (p5)]) (rest := [.int (q6)]) C0 hW (c_X15_contour hk_p1 hq7) (g_cwOf (n := 3) tc_X15_contour tn_X15 md_X15_contour (by decide) (by omega)) tm_X15_277 tz_X15_contour rfl hl.1 rfl (Nat.le_of_ble_eq_true rfl) dX15_cost_15) (fun H locs hW => ?_)
    refine lv_icmp_ne (tgt := 25) C0.hx C0.hb dX15_cost_18 (by decide) (fun hc8 => ?_) (fun hc8 => ?_)
    · replace h := (if_neg hc8).symm.trans h
      refine lv_iconst (v := (1 : Int32)) C0.hx C0.hb dX15_cost_25 (by decide) ?_
      obtain rfl := Option.some.inj h
      exact g_iret C0 hW rfl rfl rfl dX15_cost_26
    · replace h := (if_pos hc8).symm.trans h
      refine lv_iconst (v := (0 : Int32)) C0.hx C0.hb dX15_cost_21 (by decide) ?_
      refine lv_goto (tgt := 26) C0.hx C0.hb dX15_cost_22 (by decide) ?_
      obtain rfl := Option.some.inj h
      exact g_iret C0 hW rfl rfl rfl dX15_cost_26
set_option maxRecDepth 100000 in
set_option maxHeartbeats 4000000 in
theorem w_X15_way_205 {p : Program} {l : Launch} {e : Env} {s : State} {m : MethodId} {args : Array Value} {below : List Frame} {meth : Method} {c : Code} {G : GL} {ids : List Nat} {x : CS} {o : Nat → Int32}  {q : Int32 × MS} {k37 : Nat → Int32 → Int32 → Int32 → Int32 → Int32 → Int32 → Int32 → MS → Option (Int32 × MS)} {k47 : Nat → Int32 → Int32 → Int32 → Int32 → Int32 → Int32 → Int32 → Int32 → MS → Option (Int32 × MS)}   (C0 : g_X G ids p s m args meth c cX15_way 12 RX15 (Option.some Jvm.ClassFile.FieldType.int)) (kt37 : ∀ (l1 : Nat) (l2 : Int32) (l3 : Int32) (l4 : Int32) (l5 : Int32) (l6 : Int32) (l7 : Int32) (l8 : Int32) (y : MS) (H : Heap) (locs : List Loc) (ls : Array Slot), kd l1 = 14 → k37 l1 l2 l3 l4 l5 l6 l7 l8 y = some q → g_W G ids (x, y, o) s.heap H locs → lv_has ls 12 [(0, .ref (g_ad G (120))), (1, .ref (g_ad G (l1))), (2, .int (l2)), (3, .int (l3)), (4, .int (l4)), (5, .int (l5)), (6, .int (l6)), (7, .int (l7)), (8, .int (l8))] → W p l e (g_rm 3 0 0) s m args below meth c H locs 0 0 (MQ below (g_Qi G ids q.1 (x, q.2, o)) args s 0 0 (g_A G)) (F0 m 37 ls [])) (kt47 : ∀ (l1 : Nat) (l2 : Int32) (l3 : Int32) (l4 : Int32) (l5 : Int32) (l6 : Int32) (l7 : Int32) (l8 : Int32) (l9 : Int32) (y : MS) (H : Heap) (locs : List Loc) (ls : Array Slot), kd l1 = 14 → k47 l1 l2 l3 l4 l5 l6 l7 l8 l9 y = some q → g_W G ids (x, y, o) s.heap H locs → lv_has ls 12 [(0, .ref (g_ad G (120))), (1, .ref (g_ad G (l1))), (2, .int (l2)), (3, .int (l3)), (4, .int (l4)), (5, .int (l5)), (6, .int (l6)), (7, .int (l7)), (8, .int (l8)), (9, .int (l9))] → W p l e (g_rm 3 0 0) s m args below meth c H locs 0 0 (MQ below (g_Qi G ids q.1 (x, q.2, o)) args s 0 0 (g_A G)) (F0 m 47 ls [])) : ∀  (l1 : Nat) (l2 : Int32) (l3 : Int32) (l4 : Int32) (l5 : Int32) (l6 : Int32) (l7 : Int32) (l8 : Int32) (l9 : Int32) (l10 : Int32) (y : MS) (H : Heap) (locs : List Loc) (ls : Array Slot), kd l1 = 14 → f_X15_way_205 k37 k47 l1 l2 l3 l4 l5 l6 l7 l8 l9 l10 y = some q → g_W G ids (x, y, o) s.heap H locs → lv_has ls 12 [(0, .ref (g_ad G (120))), (1, .ref (g_ad G (l1))), (2, .int (l2)), (3, .int (l3)), (4, .int (l4)), (5, .int (l5)), (6, .int (l6)), (7, .int (l7)), (8, .int (l8)), (9, .int (l9)), (10, .int (l10))] → W p l e (g_rm 3 0 0) s m args below meth c H locs 0 0 (MQ below (g_Qi G ids q.1 (x, q.2, o)) args s 0 0 (g_A G)) (F0 m 205 ls []) := by
  intro l1 l2 l3 l4 l5 l6 l7 l8 l9 l10 y H locs ls hk_l1 h hW hl
  unfold f_X15_way_205 at h
  refine lv_aload_n C0.hx C0.hb dX15_way_205 rfl (lv_at hl 0 rfl) ?_
  refine gf_X15_19 C0 hW (C0.mem (i := 120) (Nat.le_of_ble_eq_true rfl)) k_120 tf_X15_55 dX15_way_206 ?_
  refine lv_bipush (v := (24 : Int32)) C0.hx C0.hb dX15_way_209 (by decide) ?_
  refine lv_iload C0.hx C0.hb dX15_way_211 (lv_at hl 8 rfl) ?_
  refine lv_imul C0.hx C0.hb dX15_way_213 ?_
  refine lv_iload C0.hx C0.hb dX15_way_214 (lv_at hl 9 rfl) ?_
  refine lv_iadd C0.hx C0.hb dX15_way_216 ?_
  refine lv_iload C0.hx C0.hb dX15_way_217 (lv_at hl 10 rfl) ?_
  obtain ⟨hb8, h⟩ := g_if h
  refine gs_37 C0 hW (C0.mem (i := 160) (Nat.le_of_ble_eq_true rfl)) k_160 hb8 dX15_way_219 (fun H locs hW => ?_)
  refine lv_iinc (v := l9 + (1 : Int32)) (lv' := [(9, .int (l9 + (1 : Int32))), (0, .ref (g_ad G (120))), (1, .ref (g_ad G (l1))), (2, .int (l2)), (3, .int (l3)), (4, .int (l4)), (5, .int (l5)), (6, .int (l6)), (7, .int (l7)), (8, .int (l8)), (10, .int (l10))]) C0.hx C0.hb dX15_way_220 hl (k := 9) rfl rfl (by decide) rfl (fun ls hl => ?_)
  refine lv_goto (tgt := 47) C0.hx C0.hb dX15_way_223 (by decide) ?_
  exact kt47 _ _ _ _ _ _ _ _ _ _ _ _ _ hk_l1 h hW (lv_sub hl [1, 2, 3, 4, 5, 6, 7, 8, 9, 0] rfl)
set_option maxRecDepth 100000 in
set_option maxHeartbeats 4000000 in
theorem w_X15_way_177 {p : Program} {l : Launch} {e : Env} {s : State} {m : MethodId} {args : Array Value} {below : List Frame} {meth : Method} {c : Code} {G : GL} {ids : List Nat} {x : CS} {o : Nat → Int32}  {q : Int32 × MS} {k37 : Nat → Int32 → Int32 → Int32 → Int32 → Int32 → Int32 → Int32 → MS → Option (Int32 × MS)} {k47 : Nat → Int32 → Int32 → Int32 → Int32 → Int32 → Int32 → Int32 → Int32 → MS → Option (Int32 × MS)}   (C0 : g_X G ids p s m args meth c cX15_way 12 RX15 (Option.some Jvm.ClassFile.FieldType.int)) (kt37 : ∀ (l1 : Nat) (l2 : Int32) (l3 : Int32) (l4 : Int32) (l5 : Int32) (l6 : Int32) (l7 : Int32) (l8 : Int32) (y : MS) (H : Heap) (locs : List Loc) (ls : Array Slot), kd l1 = 14 → k37 l1 l2 l3 l4 l5 l6 l7 l8 y = some q → g_W G ids (x, y, o) s.heap H locs → lv_has ls 12 [(0, .ref (g_ad G (120))), (1, .ref (g_ad G (l1))), (2, .int (l2)), (3, .int (l3)), (4, .int (l4)), (5, .int (l5)), (6, .int (l6)), (7, .int (l7)), (8, .int (l8))] → W p l e (g_rm 3 0 0) s m args below meth c H locs 0 0 (MQ below (g_Qi G ids q.1 (x, q.2, o)) args s 0 0 (g_A G)) (F0 m 37 ls [])) (kt47 : ∀ (l1 : Nat) (l2 : Int32) (l3 : Int32) (l4 : Int32) (l5 : Int32) (l6 : Int32) (l7 : Int32) (l8 : Int32) (l9 : Int32) (y : MS) (H : Heap) (locs : List Loc) (ls : Array Slot), kd l1 = 14 → k47 l1 l2 l3 l4 l5 l6 l7 l8 l9 y = some q → g_W G ids (x, y, o) s.heap H locs → lv_has ls 12 [(0, .ref (g_ad G (120))), (1, .ref (g_ad G (l1))), (2, .int (l2)), (3, .int (l3)), (4, .int (l4)), (5, .int (l5)), (6, .int (l6)), (7, .int (l7)), (8, .int (l8)), (9, .int (l9))] → W p l e (g_rm 3 0 0) s m args below meth c H locs 0 0 (MQ below (g_Qi G ids q.1 (x, q.2, o)) args s 0 0 (g_A G)) (F0 m 47 ls [])) : ∀  (l1 : Nat) (l2 : Int32) (l3 : Int32) (l4 : Int32) (l5 : Int32) (l6 : Int32) (l7 : Int32) (l8 : Int32) (l9 : Int32) (l11 : Int32) (y : MS) (H : Heap) (locs : List Loc) (ls : Array Slot), kd l1 = 14 → f_X15_way_177 k37 k47 l1 l2 l3 l4 l5 l6 l7 l8 l9 l11 y = some q → g_W G ids (x, y, o) s.heap H locs → lv_has ls 12 [(0, .ref (g_ad G (120))), (1, .ref (g_ad G (l1))), (2, .int (l2)), (3, .int (l3)), (4, .int (l4)), (5, .int (l5)), (6, .int (l6)), (7, .int (l7)), (8, .int (l8)), (9, .int (l9)), (11, .int (l11))] → W p l e (g_rm 3 0 0) s m args below meth c H locs 0 0 (MQ below (g_Qi G ids q.1 (x, q.2, o)) args s 0 0 (g_A G)) (F0 m 177 ls []) := by
  intro l1 l2 l3 l4 l5 l6 l7 l8 l9 l11 y H locs ls hk_l1 h hW hl
  unfold f_X15_way_177 at h
  refine lv_ldcw C0.hx C0.hb C0.hown (C0.hts _ tq_X15_284) dX15_way_177 ?_
  refine lv_iload C0.hx C0.hb dX15_way_180 (lv_at hl 10 rfl) ?_
  refine lv_bipush (v := (100 : Int32)) C0.hx C0.hb dX15_way_182 (by decide) ?_
  refine lv_aload_n C0.hx C0.hb dX15_way_184 rfl (lv_at hl 1 rfl) ?_
  refine lv_iload_n C0.hx C0.hb dX15_way_185 rfl (lv_at hl 2 rfl) ?_
  refine lv_iload C0.hx C0.hb dX15_way_186 (lv_at hl 8 rfl) ?_
  refine lv_iload_n C0.hx C0.hb dX15_way_188 rfl (lv_at hl 3 rfl) ?_
  refine lv_iload C0.hx C0.hb dX15_way_189 (lv_at hl 9 rfl) ?_
  refine lv_iload C0.hx C0.hb dX15_way_191 (lv_at hl 4 rfl) ?_
  obtain ⟨q16, hq16, h⟩ := Option.bind_eq_some_iff.mp h
  refine g_calli hW (g_runS (As := [.ref (g_ad G (l1)), .int (l2), .int (l8), .int (l3), .int (l9), .int (l4)]) (rest := [.int ((100 : Int32)), .int (l11), .int ((536870912 : Int32))]) C0 hW (c_X15_cost hk_l1 hq16) (g_cwOf (n := 6) tc_X15_cost tn_X15 md_X15_cost (by decide) (by omega)) tm_X15_285 tz_X15_cost rfl hl.1 rfl (Nat.le_of_ble_eq_true rfl) dX15_way_193) (fun H locs hW => ?_)
  refine lv_imul C0.hx C0.hb dX15_way_196 ?_
  refine lv_iadd C0.hx C0.hb dX15_way_197 ?_
  refine lv_iconst (v := (1 : Int32)) C0.hx C0.hb dX15_way_198 (by decide) ?_
  refine lv_iadd C0.hx C0.hb dX15_way_199 ?_
  refine g_minR C0 hl.1 (Nat.le_of_ble_eq_true rfl) (by omega) tm_X15_214 (by decide) (by decide) dX15_way_200 ?_
  refine lv_istore (lv' := [(10, .int (g_min (536870912 : Int32) ((l11 + ((100 : Int32) * q16)) + (1 : Int32)))), (0, .ref (g_ad G (120))), (1, .ref (g_ad G (l1))), (2, .int (l2)), (3, .int (l3)), (4, .int (l4)), (5, .int (l5)), (6, .int (l6)), (7, .int (l7)), (8, .int (l8)), (9, .int (l9)), (11, .int (l11))]) C0.hx C0.hb dX15_way_203 hl (by decide) rfl (fun ls hl => ?_)
  exact w_X15_way_205 C0 kt37 kt47 _ _ _ _ _ _ _ _ _ _ _ _ _ _ hk_l1 h hW (lv_sub hl [1, 2, 3, 4, 5, 6, 7, 8, 9, 10, 0] rfl)
set_option maxRecDepth 100000 in
set_option maxHeartbeats 4000000 in
theorem w_X15_way_143 {p : Program} {l : Launch} {e : Env} {s : State} {m : MethodId} {args : Array Value} {below : List Frame} {meth : Method} {c : Code} {G : GL} {ids : List Nat} {x : CS} {o : Nat → Int32}  {q : Int32 × MS} {k37 : Nat → Int32 → Int32 → Int32 → Int32 → Int32 → Int32 → Int32 → MS → Option (Int32 × MS)} {k47 : Nat → Int32 → Int32 → Int32 → Int32 → Int32 → Int32 → Int32 → Int32 → MS → Option (Int32 × MS)}   (C0 : g_X G ids p s m args meth c cX15_way 12 RX15 (Option.some Jvm.ClassFile.FieldType.int)) (kt37 : ∀ (l1 : Nat) (l2 : Int32) (l3 : Int32) (l4 : Int32) (l5 : Int32) (l6 : Int32) (l7 : Int32) (l8 : Int32) (y : MS) (H : Heap) (locs : List Loc) (ls : Array Slot), kd l1 = 14 → k37 l1 l2 l3 l4 l5 l6 l7 l8 y = some q → g_W G ids (x, y, o) s.heap H locs → lv_has ls 12 [(0, .ref (g_ad G (120))), (1, .ref (g_ad G (l1))), (2, .int (l2)), (3, .int (l3)), (4, .int (l4)), (5, .int (l5)), (6, .int (l6)), (7, .int (l7)), (8, .int (l8))] → W p l e (g_rm 3 0 0) s m args below meth c H locs 0 0 (MQ below (g_Qi G ids q.1 (x, q.2, o)) args s 0 0 (g_A G)) (F0 m 37 ls [])) (kt47 : ∀ (l1 : Nat) (l2 : Int32) (l3 : Int32) (l4 : Int32) (l5 : Int32) (l6 : Int32) (l7 : Int32) (l8 : Int32) (l9 : Int32) (y : MS) (H : Heap) (locs : List Loc) (ls : Array Slot), kd l1 = 14 → k47 l1 l2 l3 l4 l5 l6 l7 l8 l9 y = some q → g_W G ids (x, y, o) s.heap H locs → lv_has ls 12 [(0, .ref (g_ad G (120))), (1, .ref (g_ad G (l1))), (2, .int (l2)), (3, .int (l3)), (4, .int (l4)), (5, .int (l5)), (6, .int (l6)), (7, .int (l7)), (8, .int (l8)), (9, .int (l9))] → W p l e (g_rm 3 0 0) s m args below meth c H locs 0 0 (MQ below (g_Qi G ids q.1 (x, q.2, o)) args s 0 0 (g_A G)) (F0 m 47 ls [])) : ∀  (l1 : Nat) (l2 : Int32) (l3 : Int32) (l4 : Int32) (l5 : Int32) (l6 : Int32) (l7 : Int32) (l8 : Int32) (l9 : Int32) (l11 : Int32) (y : MS) (H : Heap) (locs : List Loc) (ls : Array Slot), kd l1 = 14 → f_X15_way_143 k37 k47 l1 l2 l3 l4 l5 l6 l7 l8 l9 l11 y = some q → g_W G ids (x, y, o) s.heap H locs → lv_has ls 12 [(0, .ref (g_ad G (120))), (1, .ref (g_ad G (l1))), (2, .int (l2)), (3, .int (l3)), (4, .int (l4)), (5, .int (l5)), (6, .int (l6)), (7, .int (l7)), (8, .int (l8)), (9, .int (l9)), (11, .int (l11))] → W p l e (g_rm 3 0 0) s m args below meth c H locs 0 0 (MQ below (g_Qi G ids q.1 (x, q.2, o)) args s 0 0 (g_A G)) (F0 m 143 ls []) := by
  intro l1 l2 l3 l4 l5 l6 l7 l8 l9 l11 y H locs ls hk_l1 h hW hl
  unfold f_X15_way_143 at h
  refine lv_iload C0.hx C0.hb dX15_way_143 (lv_at hl 8 rfl) ?_
  refine lv_if_le (tgt := 177) C0.hx C0.hb dX15_way_145 (by decide) (fun hc13 => ?_) (fun hc13 => ?_)
  · replace h := (if_pos hc13).symm.trans h
    exact w_X15_way_177 C0 kt37 kt47 _ _ _ _ _ _ _ _ _ _ _ _ _ _ hk_l1 h hW (lv_sub hl [0, 1, 2, 3, 4, 5, 6, 7, 8, 9, 10] rfl)
  · replace h := (if_neg hc13).symm.trans h
    refine lv_iload C0.hx C0.hb dX15_way_148 (lv_at hl 9 rfl) ?_
    refine lv_if_le (tgt := 177) C0.hx C0.hb dX15_way_150 (by decide) (fun hc14 => ?_) (fun hc14 => ?_)
    · replace h := (if_pos hc14).symm.trans h
      exact w_X15_way_177 C0 kt37 kt47 _ _ _ _ _ _ _ _ _ _ _ _ _ _ hk_l1 h hW (lv_sub hl [0, 1, 2, 3, 4, 5, 6, 7, 8, 9, 10] rfl)
    · replace h := (if_neg hc14).symm.trans h
      refine lv_iload C0.hx C0.hb dX15_way_153 (lv_at hl 10 rfl) ?_
      refine lv_aload_n C0.hx C0.hb dX15_way_155 rfl (lv_at hl 0 rfl) ?_
      refine gf_X15_19 C0 hW (C0.mem (i := 120) (Nat.le_of_ble_eq_true rfl)) k_120 tf_X15_55 dX15_way_156 ?_
      refine lv_bipush (v := (24 : Int32)) C0.hx C0.hb dX15_way_159 (by decide) ?_
      refine lv_iload C0.hx C0.hb dX15_way_161 (lv_at hl 8 rfl) ?_
      refine lv_iconst (v := (1 : Int32)) C0.hx C0.hb dX15_way_163 (by decide) ?_
      refine lv_isub C0.hx C0.hb dX15_way_164 ?_
      refine lv_imul C0.hx C0.hb dX15_way_165 ?_
      refine lv_iload C0.hx C0.hb dX15_way_166 (lv_at hl 9 rfl) ?_
      refine lv_iadd C0.hx C0.hb dX15_way_168 ?_
      refine lv_iconst (v := (1 : Int32)) C0.hx C0.hb dX15_way_169 (by decide) ?_
      refine lv_isub C0.hx C0.hb dX15_way_170 ?_
      obtain ⟨hb15, h⟩ := g_if h
      refine ga_37 C0 hW (C0.mem (i := 160) (Nat.le_of_ble_eq_true rfl)) k_160 hb15 dX15_way_171 ?_
      refine g_minR C0 hl.1 (Nat.le_of_ble_eq_true rfl) (by omega) tm_X15_214 (by decide) (by decide) dX15_way_172 ?_
      refine lv_istore (lv' := [(11, .int (g_min l11 (y 160 ((((24 : Int32) * (l8 - (1 : Int32))) + l9) - (1 : Int32)).toNatClampNeg))), (0, .ref (g_ad G (120))), (1, .ref (g_ad G (l1))), (2, .int (l2)), (3, .int (l3)), (4, .int (l4)), (5, .int (l5)), (6, .int (l6)), (7, .int (l7)), (8, .int (l8)), (9, .int (l9))]) C0.hx C0.hb dX15_way_175 hl (by decide) rfl (fun ls hl => ?_)
      exact w_X15_way_177 C0 kt37 kt47 _ _ _ _ _ _ _ _ _ _ _ _ _ _ hk_l1 h hW (lv_sub hl [1, 2, 3, 4, 5, 6, 7, 8, 9, 10, 0] rfl)
set_option maxRecDepth 100000 in
set_option maxHeartbeats 4000000 in
theorem w_X15_way_116 {p : Program} {l : Launch} {e : Env} {s : State} {m : MethodId} {args : Array Value} {below : List Frame} {meth : Method} {c : Code} {G : GL} {ids : List Nat} {x : CS} {o : Nat → Int32}  {q : Int32 × MS} {k37 : Nat → Int32 → Int32 → Int32 → Int32 → Int32 → Int32 → Int32 → MS → Option (Int32 × MS)} {k47 : Nat → Int32 → Int32 → Int32 → Int32 → Int32 → Int32 → Int32 → Int32 → MS → Option (Int32 × MS)}   (C0 : g_X G ids p s m args meth c cX15_way 12 RX15 (Option.some Jvm.ClassFile.FieldType.int)) (kt37 : ∀ (l1 : Nat) (l2 : Int32) (l3 : Int32) (l4 : Int32) (l5 : Int32) (l6 : Int32) (l7 : Int32) (l8 : Int32) (y : MS) (H : Heap) (locs : List Loc) (ls : Array Slot), kd l1 = 14 → k37 l1 l2 l3 l4 l5 l6 l7 l8 y = some q → g_W G ids (x, y, o) s.heap H locs → lv_has ls 12 [(0, .ref (g_ad G (120))), (1, .ref (g_ad G (l1))), (2, .int (l2)), (3, .int (l3)), (4, .int (l4)), (5, .int (l5)), (6, .int (l6)), (7, .int (l7)), (8, .int (l8))] → W p l e (g_rm 3 0 0) s m args below meth c H locs 0 0 (MQ below (g_Qi G ids q.1 (x, q.2, o)) args s 0 0 (g_A G)) (F0 m 37 ls [])) (kt47 : ∀ (l1 : Nat) (l2 : Int32) (l3 : Int32) (l4 : Int32) (l5 : Int32) (l6 : Int32) (l7 : Int32) (l8 : Int32) (l9 : Int32) (y : MS) (H : Heap) (locs : List Loc) (ls : Array Slot), kd l1 = 14 → k47 l1 l2 l3 l4 l5 l6 l7 l8 l9 y = some q → g_W G ids (x, y, o) s.heap H locs → lv_has ls 12 [(0, .ref (g_ad G (120))), (1, .ref (g_ad G (l1))), (2, .int (l2)), (3, .int (l3)), (4, .int (l4)), (5, .int (l5)), (6, .int (l6)), (7, .int (l7)), (8, .int (l8)), (9, .int (l9))] → W p l e (g_rm 3 0 0) s m args below meth c H locs 0 0 (MQ below (g_Qi G ids q.1 (x, q.2, o)) args s 0 0 (g_A G)) (F0 m 47 ls [])) : ∀  (l1 : Nat) (l2 : Int32) (l3 : Int32) (l4 : Int32) (l5 : Int32) (l6 : Int32) (l7 : Int32) (l8 : Int32) (l9 : Int32) (l11 : Int32) (y : MS) (H : Heap) (locs : List Loc) (ls : Array Slot), kd l1 = 14 → f_X15_way_116 k37 k47 l1 l2 l3 l4 l5 l6 l7 l8 l9 l11 y = some q → g_W G ids (x, y, o) s.heap H locs → lv_has ls 12 [(0, .ref (g_ad G (120))), (1, .ref (g_ad G (l1))), (2, .int (l2)), (3, .int (l3)), (4, .int (l4)), (5, .int (l5)), (6, .int (l6)), (7, .int (l7)), (8, .int (l8)), (9, .int (l9)), (11, .int (l11))] → W p l e (g_rm 3 0 0) s m args below meth c H locs 0 0 (MQ below (g_Qi G ids q.1 (x, q.2, o)) args s 0 0 (g_A G)) (F0 m 116 ls []) := by
  intro l1 l2 l3 l4 l5 l6 l7 l8 l9 l11 y H locs ls hk_l1 h hW hl
  unfold f_X15_way_116 at h
  refine lv_iload C0.hx C0.hb dX15_way_116 (lv_at hl 9 rfl) ?_
  refine lv_if_le (tgt := 143) C0.hx C0.hb dX15_way_118 (by decide) (fun hc11 => ?_) (fun hc11 => ?_)
  · replace h := (if_pos hc11).symm.trans h
    exact w_X15_way_143 C0 kt37 kt47 _ _ _ _ _ _ _ _ _ _ _ _ _ _ hk_l1 h hW (lv_sub hl [0, 1, 2, 3, 4, 5, 6, 7, 8, 9, 10] rfl)
  · replace h := (if_neg hc11).symm.trans h
    refine lv_iload C0.hx C0.hb dX15_way_121 (lv_at hl 10 rfl) ?_
    refine lv_aload_n C0.hx C0.hb dX15_way_123 rfl (lv_at hl 0 rfl) ?_
    refine gf_X15_19 C0 hW (C0.mem (i := 120) (Nat.le_of_ble_eq_true rfl)) k_120 tf_X15_55 dX15_way_124 ?_
    refine lv_bipush (v := (24 : Int32)) C0.hx C0.hb dX15_way_127 (by decide) ?_
    refine lv_iload C0.hx C0.hb dX15_way_129 (lv_at hl 8 rfl) ?_
    refine lv_imul C0.hx C0.hb dX15_way_131 ?_
    refine lv_iload C0.hx C0.hb dX15_way_132 (lv_at hl 9 rfl) ?_
    refine lv_iadd C0.hx C0.hb dX15_way_134 ?_
    refine lv_iconst (v := (1 : Int32)) C0.hx C0.hb dX15_way_135 (by decide) ?_
    refine lv_isub C0.hx C0.hb dX15_way_136 ?_
    obtain ⟨hb12, h⟩ := g_if h
    refine ga_37 C0 hW (C0.mem (i := 160) (Nat.le_of_ble_eq_true rfl)) k_160 hb12 dX15_way_137 ?_
    refine g_minR C0 hl.1 (Nat.le_of_ble_eq_true rfl) (by omega) tm_X15_214 (by decide) (by decide) dX15_way_138 ?_
    refine lv_istore (lv' := [(11, .int (g_min l11 (y 160 ((((24 : Int32) * l8) + l9) - (1 : Int32)).toNatClampNeg))), (0, .ref (g_ad G (120))), (1, .ref (g_ad G (l1))), (2, .int (l2)), (3, .int (l3)), (4, .int (l4)), (5, .int (l5)), (6, .int (l6)), (7, .int (l7)), (8, .int (l8)), (9, .int (l9))]) C0.hx C0.hb dX15_way_141 hl (by decide) rfl (fun ls hl => ?_)
    exact w_X15_way_143 C0 kt37 kt47 _ _ _ _ _ _ _ _ _ _ _ _ _ _ hk_l1 h hW (lv_sub hl [1, 2, 3, 4, 5, 6, 7, 8, 9, 10, 0] rfl)
set_option maxRecDepth 100000 in
set_option maxHeartbeats 4000000 in
theorem w_X15_way_87 {p : Program} {l : Launch} {e : Env} {s : State} {m : MethodId} {args : Array Value} {below : List Frame} {meth : Method} {c : Code} {G : GL} {ids : List Nat} {x : CS} {o : Nat → Int32}  {q : Int32 × MS} {k37 : Nat → Int32 → Int32 → Int32 → Int32 → Int32 → Int32 → Int32 → MS → Option (Int32 × MS)} {k47 : Nat → Int32 → Int32 → Int32 → Int32 → Int32 → Int32 → Int32 → Int32 → MS → Option (Int32 × MS)}   (C0 : g_X G ids p s m args meth c cX15_way 12 RX15 (Option.some Jvm.ClassFile.FieldType.int)) (kt37 : ∀ (l1 : Nat) (l2 : Int32) (l3 : Int32) (l4 : Int32) (l5 : Int32) (l6 : Int32) (l7 : Int32) (l8 : Int32) (y : MS) (H : Heap) (locs : List Loc) (ls : Array Slot), kd l1 = 14 → k37 l1 l2 l3 l4 l5 l6 l7 l8 y = some q → g_W G ids (x, y, o) s.heap H locs → lv_has ls 12 [(0, .ref (g_ad G (120))), (1, .ref (g_ad G (l1))), (2, .int (l2)), (3, .int (l3)), (4, .int (l4)), (5, .int (l5)), (6, .int (l6)), (7, .int (l7)), (8, .int (l8))] → W p l e (g_rm 3 0 0) s m args below meth c H locs 0 0 (MQ below (g_Qi G ids q.1 (x, q.2, o)) args s 0 0 (g_A G)) (F0 m 37 ls [])) (kt47 : ∀ (l1 : Nat) (l2 : Int32) (l3 : Int32) (l4 : Int32) (l5 : Int32) (l6 : Int32) (l7 : Int32) (l8 : Int32) (l9 : Int32) (y : MS) (H : Heap) (locs : List Loc) (ls : Array Slot), kd l1 = 14 → k47 l1 l2 l3 l4 l5 l6 l7 l8 l9 y = some q → g_W G ids (x, y, o) s.heap H locs → lv_has ls 12 [(0, .ref (g_ad G (120))), (1, .ref (g_ad G (l1))), (2, .int (l2)), (3, .int (l3)), (4, .int (l4)), (5, .int (l5)), (6, .int (l6)), (7, .int (l7)), (8, .int (l8)), (9, .int (l9))] → W p l e (g_rm 3 0 0) s m args below meth c H locs 0 0 (MQ below (g_Qi G ids q.1 (x, q.2, o)) args s 0 0 (g_A G)) (F0 m 47 ls [])) : ∀  (l1 : Nat) (l2 : Int32) (l3 : Int32) (l4 : Int32) (l5 : Int32) (l6 : Int32) (l7 : Int32) (l8 : Int32) (l9 : Int32) (s0 : Int32) (y : MS) (H : Heap) (locs : List Loc) (ls : Array Slot), kd l1 = 14 → f_X15_way_87 k37 k47 l1 l2 l3 l4 l5 l6 l7 l8 l9 s0 y = some q → g_W G ids (x, y, o) s.heap H locs → lv_has ls 12 [(0, .ref (g_ad G (120))), (1, .ref (g_ad G (l1))), (2, .int (l2)), (3, .int (l3)), (4, .int (l4)), (5, .int (l5)), (6, .int (l6)), (7, .int (l7)), (8, .int (l8)), (9, .int (l9))] → W p l e (g_rm 3 0 0) s m args below meth c H locs 0 0 (MQ below (g_Qi G ids q.1 (x, q.2, o)) args s 0 0 (g_A G)) (F0 m 87 ls [.int (s0)]) := by
  intro l1 l2 l3 l4 l5 l6 l7 l8 l9 s0 y H locs ls hk_l1 h hW hl
  unfold f_X15_way_87 at h
  refine lv_istore (lv' := [(11, .int (s0)), (0, .ref (g_ad G (120))), (1, .ref (g_ad G (l1))), (2, .int (l2)), (3, .int (l3)), (4, .int (l4)), (5, .int (l5)), (6, .int (l6)), (7, .int (l7)), (8, .int (l8)), (9, .int (l9))]) C0.hx C0.hb dX15_way_87 hl (by decide) rfl (fun ls hl => ?_)
  refine lv_iload C0.hx C0.hb dX15_way_89 (lv_at hl 9 rfl) ?_
  refine lv_if_le (tgt := 116) C0.hx C0.hb dX15_way_91 (by decide) (fun hc9 => ?_) (fun hc9 => ?_)
  · replace h := (if_pos hc9).symm.trans h
    exact w_X15_way_116 C0 kt37 kt47 _ _ _ _ _ _ _ _ _ _ _ _ _ _ hk_l1 h hW (lv_sub hl [1, 2, 3, 4, 5, 6, 7, 8, 9, 10, 0] rfl)
  · replace h := (if_neg hc9).symm.trans h
    refine lv_iload C0.hx C0.hb dX15_way_94 (lv_at hl 0 rfl) ?_
    refine lv_aload_n C0.hx C0.hb dX15_way_96 rfl (lv_at hl 1 rfl) ?_
    refine gf_X15_19 C0 hW (C0.mem (i := 120) (Nat.le_of_ble_eq_true rfl)) k_120 tf_X15_55 dX15_way_97 ?_
    refine lv_bipush (v := (24 : Int32)) C0.hx C0.hb dX15_way_100 (by decide) ?_
    refine lv_iload C0.hx C0.hb dX15_way_102 (lv_at hl 9 rfl) ?_
    refine lv_iconst (v := (1 : Int32)) C0.hx C0.hb dX15_way_104 (by decide) ?_
    refine lv_isub C0.hx C0.hb dX15_way_105 ?_
    refine lv_imul C0.hx C0.hb dX15_way_106 ?_
    refine lv_iload C0.hx C0.hb dX15_way_107 (lv_at hl 10 rfl) ?_
    refine lv_iadd C0.hx C0.hb dX15_way_109 ?_
    obtain ⟨hb10, h⟩ := g_if h
    refine ga_37 C0 hW (C0.mem (i := 160) (Nat.le_of_ble_eq_true rfl)) k_160 hb10 dX15_way_110 ?_
    refine g_minR C0 hl.1 (Nat.le_of_ble_eq_true rfl) (by omega) tm_X15_214 (by decide) (by decide) dX15_way_111 ?_
    refine lv_istore (lv' := [(11, .int (g_min s0 (y 160 (((24 : Int32) * (l8 - (1 : Int32))) + l9).toNatClampNeg))), (0, .ref (g_ad G (120))), (1, .ref (g_ad G (l1))), (2, .int (l2)), (3, .int (l3)), (4, .int (l4)), (5, .int (l5)), (6, .int (l6)), (7, .int (l7)), (8, .int (l8)), (9, .int (l9))]) C0.hx C0.hb dX15_way_114 hl (by decide) rfl (fun ls hl => ?_)
    exact w_X15_way_116 C0 kt37 kt47 _ _ _ _ _ _ _ _ _ _ _ _ _ _ hk_l1 h hW (lv_sub hl [1, 2, 3, 4, 5, 6, 7, 8, 9, 10, 0] rfl)
set_option maxRecDepth 100000 in
set_option maxHeartbeats 4000000 in
theorem w_X15_way_47 {p : Program} {l : Launch} {e : Env} {s : State} {m : MethodId} {args : Array Value} {below : List Frame} {meth : Method} {c : Code} {G : GL} {ids : List Nat} {x : CS} {o : Nat → Int32}  {q : Int32 × MS} {k37 : Nat → Int32 → Int32 → Int32 → Int32 → Int32 → Int32 → Int32 → MS → Option (Int32 × MS)}   (C0 : g_X G ids p s m args meth c cX15_way 12 RX15 (Option.some Jvm.ClassFile.FieldType.int)) (kt37 : ∀ (l1 : Nat) (l2 : Int32) (l3 : Int32) (l4 : Int32) (l5 : Int32) (l6 : Int32) (l7 : Int32) (l8 : Int32) (y : MS) (H : Heap) (locs : List Loc) (ls : Array Slot), kd l1 = 14 → k37 l1 l2 l3 l4 l5 l6 l7 l8 y = some q → g_W G ids (x, y, o) s.heap H locs → lv_has ls 12 [(0, .ref (g_ad G (120))), (1, .ref (g_ad G (l1))), (2, .int (l2)), (3, .int (l3)), (4, .int (l4)), (5, .int (l5)), (6, .int (l6)), (7, .int (l7)), (8, .int (l8))] → W p l e (g_rm 3 0 0) s m args below meth c H locs 0 0 (MQ below (g_Qi G ids q.1 (x, q.2, o)) args s 0 0 (g_A G)) (F0 m 37 ls [])) : ∀ (n : Nat) (l1 : Nat) (l2 : Int32) (l3 : Int32) (l4 : Int32) (l5 : Int32) (l6 : Int32) (l7 : Int32) (l8 : Int32) (l9 : Int32) (y : MS) (H : Heap) (locs : List Loc) (ls : Array Slot), kd l1 = 14 → f_X15_way_47 k37 n l1 l2 l3 l4 l5 l6 l7 l8 l9 y = some q → g_W G ids (x, y, o) s.heap H locs → lv_has ls 12 [(0, .ref (g_ad G (120))), (1, .ref (g_ad G (l1))), (2, .int (l2)), (3, .int (l3)), (4, .int (l4)), (5, .int (l5)), (6, .int (l6)), (7, .int (l7)), (8, .int (l8)), (9, .int (l9))] → W p l e (g_rm 3 0 0) s m args below meth c H locs 0 0 (MQ below (g_Qi G ids q.1 (x, q.2, o)) args s 0 0 (g_A G)) (F0 m 47 ls []) := by
  intro n
  induction n with
  | zero =>
    intro l1 l2 l3 l4 l5 l6 l7 l8 l9 y H locs ls hk_l1 h hW hl
    exact absurd h (by simp [f_X15_way_47])
  | succ n ih =>
    intro l1 l2 l3 l4 l5 l6 l7 l8 l9 y H locs ls hk_l1 h hW hl
    unfold f_X15_way_47 at h
    refine lv_iload C0.hx C0.hb dX15_way_47 (lv_at hl 9 rfl) ?_
    refine lv_iload C0.hx C0.hb dX15_way_49 (lv_at hl 6 rfl) ?_
    refine lv_icmp_ge (tgt := 226) C0.hx C0.hb dX15_way_51 (by decide) (fun hc5 => ?_) (fun hc5 => ?_)
    · replace h := (if_pos hc5).symm.trans h
      refine lv_iinc (v := l8 + (1 : Int32)) (lv' := [(8, .int (l8 + (1 : Int32))), (0, .ref (g_ad G (120))), (1, .ref (g_ad G (l1))), (2, .int (l2)), (3, .int (l3)), (4, .int (l4)), (5, .int (l5)), (6, .int (l6)), (7, .int (l7)), (9, .int (l9))]) C0.hx C0.hb dX15_way_226 hl (k := 8) rfl rfl (by decide) rfl (fun ls hl => ?_)
      refine lv_goto (tgt := 37) C0.hx C0.hb dX15_way_229 (by decide) ?_
      exact kt37 _ _ _ _ _ _ _ _ _ _ _ _ hk_l1 h hW (lv_sub hl [1, 2, 3, 4, 5, 6, 7, 8, 0] rfl)
    · replace h := (if_neg hc5).symm.trans h
      refine lv_ldcw C0.hx C0.hb C0.hown (C0.hts _ tq_X15_284) dX15_way_54 ?_
      refine lv_istore (lv' := [(10, .int ((536870912 : Int32))), (0, .ref (g_ad G (120))), (1, .ref (g_ad G (l1))), (2, .int (l2)), (3, .int (l3)), (4, .int (l4)), (5, .int (l5)), (6, .int (l6)), (7, .int (l7)), (8, .int (l8)), (9, .int (l9))]) C0.hx C0.hb dX15_way_57 hl (by decide) rfl (fun ls hl => ?_)
      refine lv_iload C0.hx C0.hb dX15_way_59 (lv_at hl 9 rfl) ?_
      refine lv_iload C0.hx C0.hb dX15_way_61 (lv_at hl 10 rfl) ?_
      refine lv_isub C0.hx C0.hb dX15_way_63 ?_
      refine g_absR C0 hl.1 (Nat.le_of_ble_eq_true rfl) (by omega) tm_X15_281 (by decide) (by decide) dX15_way_64 ?_
      refine lv_iload C0.hx C0.hb dX15_way_67 (lv_at hl 8 rfl) ?_
      refine lv_icmp_gt (tgt := 205) C0.hx C0.hb dX15_way_69 (by decide) (fun hc6 => ?_) (fun hc6 => ?_)
      · replace h := (if_pos hc6).symm.trans h
        exact w_X15_way_205 C0 kt37 ih _ _ _ _ _ _ _ _ _ _ _ _ _ _ hk_l1 h hW (lv_sub hl [1, 2, 3, 4, 5, 6, 7, 8, 9, 10, 0] rfl)
      · replace h := (if_neg hc6).symm.trans h
        refine lv_iload C0.hx C0.hb dX15_way_72 (lv_at hl 9 rfl) ?_
        refine lv_iload C0.hx C0.hb dX15_way_74 (lv_at hl 10 rfl) ?_
        refine lv_iadd C0.hx C0.hb dX15_way_76 ?_
        refine lv_if_ne (tgt := 84) C0.hx C0.hb dX15_way_77 (by decide) (fun hc7 => ?_) (fun hc7 => ?_)
        · replace h := (if_neg hc7).symm.trans h
          refine lv_ldcw C0.hx C0.hb C0.hown (C0.hts _ tq_X15_284) dX15_way_84 ?_
          exact w_X15_way_87 C0 kt37 ih _ _ _ _ _ _ _ _ _ _ _ _ _ _ hk_l1 h hW (lv_sub hl [1, 2, 3, 4, 5, 6, 7, 8, 9, 10] rfl)
        · replace h := (if_pos hc7).symm.trans h
          refine lv_iconst (v := (0 : Int32)) C0.hx C0.hb dX15_way_80 (by decide) ?_
          refine lv_goto (tgt := 87) C0.hx C0.hb dX15_way_81 (by decide) ?_
          exact w_X15_way_87 C0 kt37 ih _ _ _ _ _ _ _ _ _ _ _ _ _ _ hk_l1 h hW (lv_sub hl [1, 2, 3, 4, 5, 6, 7, 8, 9, 10] rfl)
set_option maxRecDepth 100000 in
set_option maxHeartbeats 4000000 in
theorem w_X15_way_37 {p : Program} {l : Launch} {e : Env} {s : State} {m : MethodId} {args : Array Value} {below : List Frame} {meth : Method} {c : Code} {G : GL} {ids : List Nat} {x : CS} {o : Nat → Int32}  {q : Int32 × MS}   (C0 : g_X G ids p s m args meth c cX15_way 12 RX15 (Option.some Jvm.ClassFile.FieldType.int))  : ∀ (n : Nat) (l1 : Nat) (l2 : Int32) (l3 : Int32) (l4 : Int32) (l5 : Int32) (l6 : Int32) (l7 : Int32) (l8 : Int32) (y : MS) (H : Heap) (locs : List Loc) (ls : Array Slot), kd l1 = 14 → f_X15_way_37 n l1 l2 l3 l4 l5 l6 l7 l8 y = some q → g_W G ids (x, y, o) s.heap H locs → lv_has ls 12 [(0, .ref (g_ad G (120))), (1, .ref (g_ad G (l1))), (2, .int (l2)), (3, .int (l3)), (4, .int (l4)), (5, .int (l5)), (6, .int (l6)), (7, .int (l7)), (8, .int (l8))] → W p l e (g_rm 3 0 0) s m args below meth c H locs 0 0 (MQ below (g_Qi G ids q.1 (x, q.2, o)) args s 0 0 (g_A G)) (F0 m 37 ls []) := by
  intro n
  induction n with
  | zero =>
    intro l1 l2 l3 l4 l5 l6 l7 l8 y H locs ls hk_l1 h hW hl
    exact absurd h (by simp [f_X15_way_37])
  | succ n ih =>
    intro l1 l2 l3 l4 l5 l6 l7 l8 y H locs ls hk_l1 h hW hl
    unfold f_X15_way_37 at h
    refine lv_iload C0.hx C0.hb dX15_way_37 (lv_at hl 8 rfl) ?_
    refine lv_iload C0.hx C0.hb dX15_way_39 (lv_at hl 5 rfl) ?_
    refine lv_icmp_ge (tgt := 232) C0.hx C0.hb dX15_way_41 (by decide) (fun hc3 => ?_) (fun hc3 => ?_)
    · replace h := (if_pos hc3).symm.trans h
      refine lv_aload_n C0.hx C0.hb dX15_way_232 rfl (lv_at hl 0 rfl) ?_
      refine gf_X15_19 C0 hW (C0.mem (i := 120) (Nat.le_of_ble_eq_true rfl)) k_120 tf_X15_55 dX15_way_233 ?_
      refine lv_bipush (v := (24 : Int32)) C0.hx C0.hb dX15_way_236 (by decide) ?_
      refine lv_iload C0.hx C0.hb dX15_way_238 (lv_at hl 5 rfl) ?_
      refine lv_iconst (v := (1 : Int32)) C0.hx C0.hb dX15_way_240 (by decide) ?_
      refine lv_isub C0.hx C0.hb dX15_way_241 ?_
      refine lv_imul C0.hx C0.hb dX15_way_242 ?_
      refine lv_iload C0.hx C0.hb dX15_way_243 (lv_at hl 6 rfl) ?_
      refine lv_iadd C0.hx C0.hb dX15_way_245 ?_
      refine lv_iconst (v := (1 : Int32)) C0.hx C0.hb dX15_way_246 (by decide) ?_
      refine lv_isub C0.hx C0.hb dX15_way_247 ?_
      obtain ⟨hb4, h⟩ := g_if h
      refine ga_37 C0 hW (C0.mem (i := 160) (Nat.le_of_ble_eq_true rfl)) k_160 hb4 dX15_way_248 ?_
      obtain rfl := Option.some.inj h
      exact g_iret C0 hW rfl rfl rfl dX15_way_249
    · replace h := (if_neg hc3).symm.trans h
      refine lv_iconst (v := (0 : Int32)) C0.hx C0.hb dX15_way_44 (by decide) ?_
      refine lv_istore (lv' := [(9, .int ((0 : Int32))), (0, .ref (g_ad G (120))), (1, .ref (g_ad G (l1))), (2, .int (l2)), (3, .int (l3)), (4, .int (l4)), (5, .int (l5)), (6, .int (l6)), (7, .int (l7)), (8, .int (l8))]) C0.hx C0.hb dX15_way_45 hl (by decide) rfl (fun ls hl => ?_)
      exact w_X15_way_47 C0 ih g_fuel _ _ _ _ _ _ _ _ _ _ _ _ _ hk_l1 h hW (lv_sub hl [1, 2, 3, 4, 5, 6, 7, 8, 9, 0] rfl)
set_option maxRecDepth 100000 in
set_option maxHeartbeats 4000000 in
theorem c_X15_way {l : Launch} {G : GL} {ids : List Nat} {x : CS} {o : Nat → Int32} {y : MS} {p1 : Nat} {p2 : Int32} {p3 : Int32} {p4 : Int32} {q : Int32 × MS}   (hk_p1 : kd p1 = 14) (h : f_X15_way p1 p2 p3 p4 y = some q) : Met l yX15_way (.code yX15_way cX15_way 12 (Option.some Jvm.ClassFile.FieldType.int) :: gT) (g_rm 3 0 0) (va_Pc [.ref (g_ad G (120)), .ref (g_ad G (p1)), .int (p2), .int (p3), .int (p4)] (g_P G ids (x, y, o))) (g_Qi G ids q.1 (x, q.2, o)) 0 0 (g_A G) := by
  unfold f_X15_way at h
  refine g_entry (by decide) (Nat.le_of_ble_eq_true rfl) (fun p e s m args below meth c ls C0 hl hW _ => ?_)
  have hl : lv_has ls 12 [(0, .ref (g_ad G (120))), (1, .ref (g_ad G (p1))), (2, .int (p2)), (3, .int (p3)), (4, .int (p4))] := hl
  refine lv_aload_n C0.hx C0.hb dX15_way_0 rfl (lv_at hl 1 rfl) ?_
  refine gfN_X13_0 C0 hW (C0.mem (kl14 hk_p1)) hk_p1 tfN_X15_270 dX15_way_1 ?_
  refine lv_iload_n C0.hx C0.hb dX15_way_4 rfl (lv_at hl 2 rfl) ?_
  obtain ⟨hb1, h⟩ := g_if h
  refine ga_33 C0 hW (C0.mem (kl33 (ko14_0 hk_p1))) (ko14_0 hk_p1) hb1 dX15_way_5 ?_
  refine lv_istore (lv' := [(5, .int (y (p1 + 1) p2.toNatClampNeg)), (0, .ref (g_ad G (120))), (1, .ref (g_ad G (p1))), (2, .int (p2)), (3, .int (p3)), (4, .int (p4))]) C0.hx C0.hb dX15_way_6 hl (by decide) rfl (fun ls hl => ?_)
  refine lv_aload_n C0.hx C0.hb dX15_way_8 rfl (lv_at hl 2 rfl) ?_
  refine gfN_X13_0 C0 hW (C0.mem (kl14 hk_p1)) hk_p1 tfN_X15_270 dX15_way_9 ?_
  refine lv_iload_n C0.hx C0.hb dX15_way_12 rfl (lv_at hl 4 rfl) ?_
  obtain ⟨hb2, h⟩ := g_if h
  refine ga_33 C0 hW (C0.mem (kl33 (ko14_0 hk_p1))) (ko14_0 hk_p1) hb2 dX15_way_13 ?_
  refine lv_istore (lv' := [(6, .int (y (p1 + 1) p3.toNatClampNeg)), (5, .int (y (p1 + 1) p2.toNatClampNeg)), (0, .ref (g_ad G (120))), (1, .ref (g_ad G (p1))), (2, .int (p2)), (3, .int (p3)), (4, .int (p4))]) C0.hx C0.hb dX15_way_14 hl (by decide) rfl (fun ls hl => ?_)
  refine lv_aload_n C0.hx C0.hb dX15_way_16 rfl (lv_at hl 2 rfl) ?_
  refine gf_X15_14 C0 hW (C0.mem (i := 120) (Nat.le_of_ble_eq_true rfl)) k_120 tf_X15_35 dX15_way_17 ?_
  refine gfN_X14_0 C0 hW (C0.mem (i := 127) (Nat.le_of_ble_eq_true rfl)) k_127 tfN_X15_244 dX15_way_20 ?_
  refine lv_iload C0.hx C0.hb dX15_way_23 (lv_at hl 1 rfl) ?_
  refine lv_iload C0.hx C0.hb dX15_way_25 (lv_at hl 0 rfl) ?_
  refine lv_isub C0.hx C0.hb dX15_way_27 ?_
  refine g_absR C0 hl.1 (Nat.le_of_ble_eq_true rfl) (by omega) tm_X15_281 (by decide) (by decide) dX15_way_28 ?_
  refine lv_iadd C0.hx C0.hb dX15_way_31 ?_
  refine lv_istore (lv' := [(7, .int ((y 127 0) + (g_abs ((y (p1 + 1) p2.toNatClampNeg) - (y (p1 + 1) p3.toNatClampNeg))))), (6, .int (y (p1 + 1) p3.toNatClampNeg)), (5, .int (y (p1 + 1) p2.toNatClampNeg)), (0, .ref (g_ad G (120))), (1, .ref (g_ad G (p1))), (2, .int (p2)), (3, .int (p3)), (4, .int (p4))]) C0.hx C0.hb dX15_way_32 hl (by decide) rfl (fun ls hl => ?_)
  refine lv_iconst (v := (0 : Int32)) C0.hx C0.hb dX15_way_34 (by decide) ?_
  refine lv_istore (lv' := [(8, .int ((0 : Int32))), (7, .int ((y 127 0) + (g_abs ((y (p1 + 1) p2.toNatClampNeg) - (y (p1 + 1) p3.toNatClampNeg))))), (6, .int (y (p1 + 1) p3.toNatClampNeg)), (5, .int (y (p1 + 1) p2.toNatClampNeg)), (0, .ref (g_ad G (120))), (1, .ref (g_ad G (p1))), (2, .int (p2)), (3, .int (p3)), (4, .int (p4))]) C0.hx C0.hb dX15_way_35 hl (by decide) rfl (fun ls hl => ?_)
  exact w_X15_way_37 C0 g_fuel _ _ _ _ _ _ _ _ _ _ _ _ hk_p1 h hW (lv_sub hl [4, 5, 6, 7, 8, 3, 2, 1, 0] rfl)
set_option maxRecDepth 100000 in
set_option maxHeartbeats 4000000 in
theorem c_X15_distance {l : Launch} {G : GL} {ids : List Nat} {x : CS} {o : Nat → Int32} {y : MS} {p1 : Nat} {p2 : Int32} {p3 : Int32} {q : Int32 × MS}   (hk_p1 : kd p1 = 14) (h : f_X15_distance p1 p2 p3 y = some q) : Met l yX15_distance (.code yX15_distance cX15_distance 4 (Option.some Jvm.ClassFile.FieldType.int) :: gT) (g_rm 4 0 0) (va_Pc [.ref (g_ad G (120)), .ref (g_ad G (p1)), .int (p2), .int (p3)] (g_P G ids (x, y, o))) (g_Qi G ids q.1 (x, q.2, o)) 0 0 (g_A G) := by
  unfold f_X15_distance at h
  refine g_entry (by decide) (Nat.le_of_ble_eq_true rfl) (fun p e s m args below meth c ls C0 hl hW _ => ?_)
  have hl : lv_has ls 4 [(0, .ref (g_ad G (120))), (1, .ref (g_ad G (p1))), (2, .int (p2)), (3, .int (p3))] := hl
  refine lv_aload_n C0.hx C0.hb dX15_distance_0 rfl (lv_at hl 0 rfl) ?_
  refine lv_aload_n C0.hx C0.hb dX15_distance_1 rfl (lv_at hl 1 rfl) ?_
  refine lv_iload_n C0.hx C0.hb dX15_distance_2 rfl (lv_at hl 2 rfl) ?_
  refine lv_iload_n C0.hx C0.hb dX15_distance_3 rfl (lv_at hl 3 rfl) ?_
  refine lv_iconst (v := (0 : Int32)) C0.hx C0.hb dX15_distance_4 (by decide) ?_
  obtain ⟨q1, hq1, h⟩ := Option.bind_eq_some_iff.mp h
  refine g_calli hW (g_runV (As := [.ref (g_ad G (p1)), .int (p2), .int (p3), .int ((0 : Int32))]) (rest := []) C0 hW (c_X15_way hk_p1 hq1) (g_cwOf (n := 4) tc_X15_way tn_X15 md_X15_way (by decide) (by omega)) tm_X15_289 ti_X15_way ts_X15_way (C0.mem (i := 120) (Nat.le_of_ble_eq_true rfl)) (g_c12 k_120) rfl rfl hl.1 rfl (Nat.le_of_ble_eq_true rfl) dX15_distance_5) (fun H locs hW => ?_)
  refine lv_bipush (v := (100 : Int32)) C0.hx C0.hb dX15_distance_8 (by decide) ?_
  refine lv_idiv C0.hx C0.hb dX15_distance_10 (by decide) ?_
  obtain rfl := Option.some.inj h
  exact g_iret C0 hW rfl rfl rfl dX15_distance_11
set_option maxRecDepth 100000 in
set_option maxHeartbeats 4000000 in
theorem w_X15_meant_20 {p : Program} {l : Launch} {e : Env} {s : State} {m : MethodId} {args : Array Value} {below : List Frame} {meth : Method} {c : Code} {G : GL} {ids : List Nat} {x : CS} {o : Nat → Int32}  {q : Int32 × MS}   (C0 : g_X G ids p s m args meth c cX15_meant 7 RX15 (Option.some Jvm.ClassFile.FieldType.int))  : ∀ (n : Nat) (l1 : Nat) (l2 : Int32) (l3 : Int32) (l4 : Int32) (l5 : Int32) (y : MS) (H : Heap) (locs : List Loc) (ls : Array Slot), kd l1 = 14 → f_X15_meant_20 n l1 l2 l3 l4 l5 y = some q → g_W G ids (x, y, o) s.heap H locs → lv_has ls 7 [(0, .ref (g_ad G (120))), (1, .ref (g_ad G (l1))), (2, .int (l2)), (3, .int (l3)), (4, .int (l4)), (5, .int (l5))] → W p l e (g_rm 5 0 0) s m args below meth c H locs 0 0 (MQ below (g_Qi G ids q.1 (x, q.2, o)) args s 0 0 (g_A G)) (F0 m 20 ls []) := by
  intro n
  induction n with
  | zero =>
    intro l1 l2 l3 l4 l5 y H locs ls hk_l1 h hW hl
    exact absurd h (by simp [f_X15_meant_20])
  | succ n ih =>
    intro l1 l2 l3 l4 l5 y H locs ls hk_l1 h hW hl
    unfold f_X15_meant_20 at h
    refine lv_iload C0.hx C0.hb dX15_meant_20 (lv_at hl 5 rfl) ?_
    refine lv_aload_n C0.hx C0.hb dX15_meant_22 rfl (lv_at hl 0 rfl) ?_
    refine gf_X15_14 C0 hW (C0.mem (i := 120) (Nat.le_of_ble_eq_true rfl)) k_120 tf_X15_35 dX15_meant_23 ?_
    refine gfN_X14_2 C0 hW (C0.mem (i := 127) (Nat.le_of_ble_eq_true rfl)) k_127 tfN_X15_147 dX15_meant_26 ?_
    refine lv_icmp_ge (tgt := 91) C0.hx C0.hb dX15_meant_29 (by decide) (fun hc3 => ?_) (fun hc3 => ?_)
    · replace h := (if_pos hc3).symm.trans h
      refine lv_iload_n C0.hx C0.hb dX15_meant_91 rfl (lv_at hl 3 rfl) ?_
      obtain rfl := Option.some.inj h
      exact g_iret C0 hW rfl rfl rfl dX15_meant_92
    · replace h := (if_neg hc3).symm.trans h
      refine lv_iload C0.hx C0.hb dX15_meant_32 (lv_at hl 5 rfl) ?_
      refine lv_iload_n C0.hx C0.hb dX15_meant_34 rfl (lv_at hl 2 rfl) ?_
      refine lv_icmp_eq (tgt := 85) C0.hx C0.hb dX15_meant_35 (by decide) (fun hc4 => ?_) (fun hc4 => ?_)
      · replace h := (if_pos hc4).symm.trans h
        refine lv_iinc (v := l5 + (1 : Int32)) (lv' := [(5, .int (l5 + (1 : Int32))), (0, .ref (g_ad G (120))), (1, .ref (g_ad G (l1))), (2, .int (l2)), (3, .int (l3)), (4, .int (l4))]) C0.hx C0.hb dX15_meant_85 hl (k := 5) rfl rfl (by decide) rfl (fun ls hl => ?_)
        refine lv_goto (tgt := 20) C0.hx C0.hb dX15_meant_88 (by decide) ?_
        exact ih _ _ _ _ _ _ _ _ _ hk_l1 h hW (lv_sub hl [1, 2, 3, 4, 5, 0] rfl)
      · replace h := (if_neg hc4).symm.trans h
        refine lv_aload_n C0.hx C0.hb dX15_meant_38 rfl (lv_at hl 1 rfl) ?_
        refine gfN_X13_2 C0 hW (C0.mem (kl14 hk_l1)) hk_l1 tfN_X15_293 dX15_meant_39 ?_
        refine lv_iload C0.hx C0.hb dX15_meant_42 (lv_at hl 5 rfl) ?_
        obtain ⟨hb5, h⟩ := g_if h
        refine ga_32 C0 hW (C0.mem (kl32 (ko14_2 hk_l1))) (ko14_2 hk_l1) hb5 dX15_meant_44 ?_
        refine lv_iconst (v := (1 : Int32)) C0.hx C0.hb dX15_meant_45 (by decide) ?_
        refine lv_icmp_ne (tgt := 52) C0.hx C0.hb dX15_meant_46 (by decide) (fun hc6 => ?_) (fun hc6 => ?_)
        · replace h := (if_neg hc6).symm.trans h
          refine lv_aload_n C0.hx C0.hb dX15_meant_52 rfl (lv_at hl 0 rfl) ?_
          refine lv_aload_n C0.hx C0.hb dX15_meant_53 rfl (lv_at hl 1 rfl) ?_
          refine lv_iload C0.hx C0.hb dX15_meant_54 (lv_at hl 5 rfl) ?_
          refine lv_bipush (v := (8 : Int32)) C0.hx C0.hb dX15_meant_56 (by decide) ?_
          obtain ⟨q7, hq7, h⟩ := Option.bind_eq_some_iff.mp h
          refine g_calli hW (g_runV (As := [.ref (g_ad G (l1)), .int (l5), .int ((8 : Int32))]) (rest := []) C0 hW (c_X15_distance hk_l1 hq7) (g_cwOf (n := 3) tc_X15_distance tn_X15 md_X15_distance (by decide) (by omega)) tm_X15_296 ti_X15_distance ts_X15_distance (C0.mem (i := 120) (Nat.le_of_ble_eq_true rfl)) (g_c12 k_120) rfl rfl hl.1 rfl (Nat.le_of_ble_eq_true rfl) dX15_meant_58) (fun H locs hW => ?_)
          refine lv_istore (lv' := [(6, .int (q7.1)), (0, .ref (g_ad G (120))), (1, .ref (g_ad G (l1))), (2, .int (l2)), (3, .int (l3)), (4, .int (l4)), (5, .int (l5))]) C0.hx C0.hb dX15_meant_61 hl (by decide) rfl (fun ls hl => ?_)
          refine lv_iload_n C0.hx C0.hb dX15_meant_63 rfl (lv_at hl 4 rfl) ?_
          refine lv_iconst (v := (-1 : Int32)) C0.hx C0.hb dX15_meant_64 (by decide) ?_
          refine lv_icmp_eq (tgt := 78) C0.hx C0.hb dX15_meant_65 (by decide) (fun hc8 => ?_) (fun hc8 => ?_)
          · replace h := (if_pos hc8).symm.trans h
            refine lv_iload C0.hx C0.hb dX15_meant_78 (lv_at hl 6 rfl) ?_
            refine lv_istore_n (lv' := [(3, .int (l5)), (6, .int (q7.1)), (0, .ref (g_ad G (120))), (1, .ref (g_ad G (l1))), (2, .int (l2)), (4, .int (l4)), (5, .int (l5))]) C0.hx C0.hb dX15_meant_80 rfl hl (by decide) rfl (fun ls hl => ?_)
            refine lv_iload C0.hx C0.hb dX15_meant_81 (lv_at hl 1 rfl) ?_
            refine lv_istore (lv' := [(4, .int (q7.1)), (3, .int (l5)), (6, .int (q7.1)), (0, .ref (g_ad G (120))), (1, .ref (g_ad G (l1))), (2, .int (l2)), (5, .int (l5))]) C0.hx C0.hb dX15_meant_83 hl (by decide) rfl (fun ls hl => ?_)
            refine lv_iinc (v := l5 + (1 : Int32)) (lv' := [(5, .int (l5 + (1 : Int32))), (4, .int (q7.1)), (3, .int (l5)), (6, .int (q7.1)), (0, .ref (g_ad G (120))), (1, .ref (g_ad G (l1))), (2, .int (l2))]) C0.hx C0.hb dX15_meant_85 hl (k := 6) rfl rfl (by decide) rfl (fun ls hl => ?_)
            refine lv_goto (tgt := 20) C0.hx C0.hb dX15_meant_88 (by decide) ?_
            exact ih _ _ _ _ _ _ _ _ _ hk_l1 h hW (lv_sub hl [4, 5, 6, 2, 1, 0] rfl)
          · replace h := (if_neg hc8).symm.trans h
            refine lv_iload C0.hx C0.hb dX15_meant_68 (lv_at hl 0 rfl) ?_
            refine lv_iload C0.hx C0.hb dX15_meant_70 (lv_at hl 5 rfl) ?_
            refine lv_icmp_lt (tgt := 78) C0.hx C0.hb dX15_meant_72 (by decide) (fun hc9 => ?_) (fun hc9 => ?_)
            · replace h := (if_pos hc9).symm.trans h
              refine lv_iload C0.hx C0.hb dX15_meant_78 (lv_at hl 6 rfl) ?_
              refine lv_istore_n (lv' := [(3, .int (l5)), (6, .int (q7.1)), (0, .ref (g_ad G (120))), (1, .ref (g_ad G (l1))), (2, .int (l2)), (4, .int (l4)), (5, .int (l5))]) C0.hx C0.hb dX15_meant_80 rfl hl (by decide) rfl (fun ls hl => ?_)
              refine lv_iload C0.hx C0.hb dX15_meant_81 (lv_at hl 1 rfl) ?_
              refine lv_istore (lv' := [(4, .int (q7.1)), (3, .int (l5)), (6, .int (q7.1)), (0, .ref (g_ad G (120))), (1, .ref (g_ad G (l1))), (2, .int (l2)), (5, .int (l5))]) C0.hx C0.hb dX15_meant_83 hl (by decide) rfl (fun ls hl => ?_)
              refine lv_iinc (v := l5 + (1 : Int32)) (lv' := [(5, .int (l5 + (1 : Int32))), (4, .int (q7.1)), (3, .int (l5)), (6, .int (q7.1)), (0, .ref (g_ad G (120))), (1, .ref (g_ad G (l1))), (2, .int (l2))]) C0.hx C0.hb dX15_meant_85 hl (k := 6) rfl rfl (by decide) rfl (fun ls hl => ?_)
              refine lv_goto (tgt := 20) C0.hx C0.hb dX15_meant_88 (by decide) ?_
              exact ih _ _ _ _ _ _ _ _ _ hk_l1 h hW (lv_sub hl [4, 5, 6, 2, 1, 0] rfl)
            · replace h := (if_neg hc9).symm.trans h
              refine lv_goto (tgt := 85) C0.hx C0.hb dX15_meant_75 (by decide) ?_
              refine lv_iinc (v := l5 + (1 : Int32)) (lv' := [(5, .int (l5 + (1 : Int32))), (6, .int (q7.1)), (0, .ref (g_ad G (120))), (1, .ref (g_ad G (l1))), (2, .int (l2)), (3, .int (l3)), (4, .int (l4))]) C0.hx C0.hb dX15_meant_85 hl (k := 6) rfl rfl (by decide) rfl (fun ls hl => ?_)
              refine lv_goto (tgt := 20) C0.hx C0.hb dX15_meant_88 (by decide) ?_
              exact ih _ _ _ _ _ _ _ _ _ hk_l1 h hW (lv_sub hl [2, 3, 4, 5, 6, 0] rfl)
        · replace h := (if_pos hc6).symm.trans h
          refine lv_goto (tgt := 85) C0.hx C0.hb dX15_meant_49 (by decide) ?_
          refine lv_iinc (v := l5 + (1 : Int32)) (lv' := [(5, .int (l5 + (1 : Int32))), (0, .ref (g_ad G (120))), (1, .ref (g_ad G (l1))), (2, .int (l2)), (3, .int (l3)), (4, .int (l4))]) C0.hx C0.hb dX15_meant_85 hl (k := 5) rfl rfl (by decide) rfl (fun ls hl => ?_)
          refine lv_goto (tgt := 20) C0.hx C0.hb dX15_meant_88 (by decide) ?_
          exact ih _ _ _ _ _ _ _ _ _ hk_l1 h hW (lv_sub hl [1, 2, 3, 4, 5, 0] rfl)
set_option maxRecDepth 100000 in
set_option maxHeartbeats 4000000 in
theorem c_X15_meant {l : Launch} {G : GL} {ids : List Nat} {x : CS} {o : Nat → Int32} {y : MS} {p1 : Nat} {p2 : Int32} {q : Int32 × MS}   (hk_p1 : kd p1 = 14) (h : f_X15_meant p1 p2 y = some q) : Met l yX15_meant (.code yX15_meant cX15_meant 7 (Option.some Jvm.ClassFile.FieldType.int) :: gT) (g_rm 5 0 0) (va_Pc [.ref (g_ad G (120)), .ref (g_ad G (p1)), .int (p2)] (g_P G ids (x, y, o))) (g_Qi G ids q.1 (x, q.2, o)) 0 0 (g_A G) := by
  unfold f_X15_meant at h
  refine g_entry (by decide) (Nat.le_of_ble_eq_true rfl) (fun p e s m args below meth c ls C0 hl hW _ => ?_)
  have hl : lv_has ls 7 [(0, .ref (g_ad G (120))), (1, .ref (g_ad G (p1))), (2, .int (p2))] := hl
  refine lv_aload_n C0.hx C0.hb dX15_meant_0 rfl (lv_at hl 1 rfl) ?_
  refine gfN_X13_0 C0 hW (C0.mem (kl14 hk_p1)) hk_p1 tfN_X15_270 dX15_meant_1 ?_
  refine lv_bipush (v := (8 : Int32)) C0.hx C0.hb dX15_meant_4 (by decide) ?_
  obtain ⟨hb1, h⟩ := g_if h
  refine ga_33 C0 hW (C0.mem (kl33 (ko14_0 hk_p1))) (ko14_0 hk_p1) hb1 dX15_meant_6 ?_
  refine lv_if_ne (tgt := 12) C0.hx C0.hb dX15_meant_7 (by decide) (fun hc2 => ?_) (fun hc2 => ?_)
  · replace h := (if_neg hc2).symm.trans h
    refine lv_iconst (v := (-1 : Int32)) C0.hx C0.hb dX15_meant_12 (by decide) ?_
    refine lv_istore_n (lv' := [(3, .int ((-1 : Int32))), (0, .ref (g_ad G (120))), (1, .ref (g_ad G (p1))), (2, .int (p2))]) C0.hx C0.hb dX15_meant_13 rfl hl (by decide) rfl (fun ls hl => ?_)
    refine lv_iconst (v := (0 : Int32)) C0.hx C0.hb dX15_meant_14 (by decide) ?_
    refine lv_istore (lv' := [(4, .int ((0 : Int32))), (3, .int ((-1 : Int32))), (0, .ref (g_ad G (120))), (1, .ref (g_ad G (p1))), (2, .int (p2))]) C0.hx C0.hb dX15_meant_15 hl (by decide) rfl (fun ls hl => ?_)
    refine lv_iconst (v := (0 : Int32)) C0.hx C0.hb dX15_meant_17 (by decide) ?_
    refine lv_istore (lv' := [(5, .int ((0 : Int32))), (4, .int ((0 : Int32))), (3, .int ((-1 : Int32))), (0, .ref (g_ad G (120))), (1, .ref (g_ad G (p1))), (2, .int (p2))]) C0.hx C0.hb dX15_meant_18 hl (by decide) rfl (fun ls hl => ?_)
    exact w_X15_meant_20 C0 g_fuel _ _ _ _ _ _ _ _ _ hk_p1 h hW (lv_sub hl [3, 4, 5, 2, 1, 0] rfl)
  · replace h := (if_pos hc2).symm.trans h
    refine lv_iconst (v := (-1 : Int32)) C0.hx C0.hb dX15_meant_10 (by decide) ?_
    obtain rfl := Option.some.inj h
    exact g_iret C0 hW rfl rfl rfl dX15_meant_11
set_option maxRecDepth 100000 in
set_option maxHeartbeats 4000000 in
theorem w_X15_kept_4 {p : Program} {l : Launch} {e : Env} {s : State} {m : MethodId} {args : Array Value} {below : List Frame} {meth : Method} {c : Code} {G : GL} {ids : List Nat} {x : CS} {o : Nat → Int32} {y : MS} {q : Int32}   (C0 : g_X G ids p s m args meth c cX15_kept 4 RX15 (Option.some Jvm.ClassFile.FieldType.int))  : ∀ (n : Nat) (l1 : Nat) (l2 : Int32) (l3 : Int32)  (H : Heap) (locs : List Loc) (ls : Array Slot), kd l1 = 14 → f_X15_kept_4 y n l1 l2 l3 = some q → g_W G ids (x, y, o) s.heap H locs → lv_has ls 4 [(0, .ref (g_ad G (120))), (1, .ref (g_ad G (l1))), (2, .int (l2)), (3, .int (l3))] → W p l e (g_rm 0 0 0) s m args below meth c H locs 0 0 (MQ below (g_Qi G ids q (x, y, o)) args s 0 0 (g_A G)) (F0 m 4 ls []) := by
  intro n
  induction n with
  | zero =>
    intro l1 l2 l3 H locs ls hk_l1 h hW hl
    exact absurd h (by simp [f_X15_kept_4])
  | succ n ih =>
    intro l1 l2 l3 H locs ls hk_l1 h hW hl
    unfold f_X15_kept_4 at h
    refine lv_iload_n C0.hx C0.hb dX15_kept_4 rfl (lv_at hl 3 rfl) ?_
    refine lv_aload_n C0.hx C0.hb dX15_kept_5 rfl (lv_at hl 0 rfl) ?_
    refine gf_X15_14 C0 hW (C0.mem (i := 120) (Nat.le_of_ble_eq_true rfl)) k_120 tf_X15_35 dX15_kept_6 ?_
    refine gfN_X14_2 C0 hW (C0.mem (i := 127) (Nat.le_of_ble_eq_true rfl)) k_127 tfN_X15_147 dX15_kept_9 ?_
    refine lv_icmp_ge (tgt := 32) C0.hx C0.hb dX15_kept_12 (by decide) (fun hc1 => ?_) (fun hc1 => ?_)
    · replace h := (if_pos hc1).symm.trans h
      refine lv_iload_n C0.hx C0.hb dX15_kept_32 rfl (lv_at hl 2 rfl) ?_
      obtain rfl := Option.some.inj h
      exact g_iret C0 hW rfl rfl rfl dX15_kept_33
    · replace h := (if_neg hc1).symm.trans h
      refine lv_iload_n C0.hx C0.hb dX15_kept_15 rfl (lv_at hl 2 rfl) ?_
      refine lv_iconst (v := (1 : Int32)) C0.hx C0.hb dX15_kept_16 (by decide) ?_
      refine lv_aload_n C0.hx C0.hb dX15_kept_17 rfl (lv_at hl 1 rfl) ?_
      refine gfN_X13_2 C0 hW (C0.mem (kl14 hk_l1)) hk_l1 tfN_X15_293 dX15_kept_18 ?_
      refine lv_iload_n C0.hx C0.hb dX15_kept_21 rfl (lv_at hl 3 rfl) ?_
      obtain ⟨hb2, h⟩ := g_if h
      refine ga_32 C0 hW (C0.mem (kl32 (ko14_2 hk_l1))) (ko14_2 hk_l1) hb2 dX15_kept_22 ?_
      refine lv_isub C0.hx C0.hb dX15_kept_23 ?_
      refine lv_iadd C0.hx C0.hb dX15_kept_24 ?_
      refine lv_istore_n (lv' := [(2, .int (l2 + ((1 : Int32) - (y (l1 + 3) l3.toNatClampNeg)))), (0, .ref (g_ad G (120))), (1, .ref (g_ad G (l1))), (3, .int (l3))]) C0.hx C0.hb dX15_kept_25 rfl hl (by decide) rfl (fun ls hl => ?_)
      refine lv_iinc (v := l3 + (1 : Int32)) (lv' := [(3, .int (l3 + (1 : Int32))), (2, .int (l2 + ((1 : Int32) - (y (l1 + 3) l3.toNatClampNeg)))), (0, .ref (g_ad G (120))), (1, .ref (g_ad G (l1)))]) C0.hx C0.hb dX15_kept_26 hl (k := 3) rfl rfl (by decide) rfl (fun ls hl => ?_)
      refine lv_goto (tgt := 4) C0.hx C0.hb dX15_kept_29 (by decide) ?_
      exact ih _ _ _ _ _ _ hk_l1 h hW (lv_sub hl [2, 3, 1, 0] rfl)
set_option maxRecDepth 100000 in
set_option maxHeartbeats 4000000 in
theorem c_X15_kept {l : Launch} {G : GL} {ids : List Nat} {x : CS} {o : Nat → Int32} {y : MS} {p1 : Nat} {q : Int32}   (hk_p1 : kd p1 = 14) (h : f_X15_kept p1 y = some q) : Met l yX15_kept (.code yX15_kept cX15_kept 4 (Option.some Jvm.ClassFile.FieldType.int) :: gT) (g_rm 0 0 0) (va_Pc [.ref (g_ad G (120)), .ref (g_ad G (p1))] (g_P G ids (x, y, o))) (g_Qi G ids q (x, y, o)) 0 0 (g_A G) := by
  unfold f_X15_kept at h
  refine g_entry (by decide) (Nat.le_of_ble_eq_true rfl) (fun p e s m args below meth c ls C0 hl hW _ => ?_)
  have hl : lv_has ls 4 [(0, .ref (g_ad G (120))), (1, .ref (g_ad G (p1)))] := hl
  refine lv_iconst (v := (0 : Int32)) C0.hx C0.hb dX15_kept_0 (by decide) ?_
  refine lv_istore_n (lv' := [(2, .int ((0 : Int32))), (0, .ref (g_ad G (120))), (1, .ref (g_ad G (p1)))]) C0.hx C0.hb dX15_kept_1 rfl hl (by decide) rfl (fun ls hl => ?_)
  refine lv_iconst (v := (0 : Int32)) C0.hx C0.hb dX15_kept_2 (by decide) ?_
  refine lv_istore_n (lv' := [(3, .int ((0 : Int32))), (2, .int ((0 : Int32))), (0, .ref (g_ad G (120))), (1, .ref (g_ad G (p1)))]) C0.hx C0.hb dX15_kept_3 rfl hl (by decide) rfl (fun ls hl => ?_)
  exact w_X15_kept_4 C0 g_fuel _ _ _ _ _ _ hk_p1 h hW (lv_sub hl [2, 3, 1, 0] rfl)
set_option maxRecDepth 100000 in
set_option maxHeartbeats 4000000 in
theorem c_X15_near {l : Launch} {G : GL} {ids : List Nat} {x : CS} {o : Nat → Int32} {y : MS} {p1 : Nat} {p2 : Int32} {p3 : Int32} {q : Int32 × MS}   (hk_p1 : kd p1 = 14) (h : f_X15_near p1 p2 p3 y = some q) : Met l yX15_near (.code yX15_near cX15_near 4 (Option.some Jvm.ClassFile.FieldType.boolean) :: gT) (g_rm 5 0 0) (va_Pc [.ref (g_ad G (120)), .ref (g_ad G (p1)), .int (p2), .int (p3)] (g_P G ids (x, y, o))) (g_Qi G ids q.1 (x, q.2, o)) 0 0 (g_A G) := by
  unfold f_X15_near at h
  refine g_entry (by decide) (Nat.le_of_ble_eq_true rfl) (fun p e s m args below meth c ls C0 hl hW _ => ?_)
  have hl : lv_has ls 4 [(0, .ref (g_ad G (120))), (1, .ref (g_ad G (p1))), (2, .int (p2)), (3, .int (p3))] := hl
  refine lv_iload_n C0.hx C0.hb dX15_near_0 rfl (lv_at hl 2 rfl) ?_
  refine lv_iload_n C0.hx C0.hb dX15_near_1 rfl (lv_at hl 3 rfl) ?_
  refine lv_icmp_eq (tgt := 44) C0.hx C0.hb dX15_near_2 (by decide) (fun hc1 => ?_) (fun hc1 => ?_)
  · replace h := (if_pos hc1).symm.trans h
    refine lv_iconst (v := (0 : Int32)) C0.hx C0.hb dX15_near_44 (by decide) ?_
    obtain rfl := Option.some.inj h
    exact g_iret C0 hW rfl (g_bool (Or.inl rfl)).1 rfl dX15_near_45
  · replace h := (if_neg hc1).symm.trans h
    refine lv_aload_n C0.hx C0.hb dX15_near_5 rfl (lv_at hl 0 rfl) ?_
    refine lv_aload_n C0.hx C0.hb dX15_near_6 rfl (lv_at hl 1 rfl) ?_
    refine lv_iload_n C0.hx C0.hb dX15_near_7 rfl (lv_at hl 2 rfl) ?_
    refine lv_iload_n C0.hx C0.hb dX15_near_8 rfl (lv_at hl 3 rfl) ?_
    obtain ⟨q2, hq2, h⟩ := Option.bind_eq_some_iff.mp h
    refine g_calli hW (g_runV (As := [.ref (g_ad G (p1)), .int (p2), .int (p3)]) (rest := []) C0 hW (c_X15_distance hk_p1 hq2) (g_cwOf (n := 3) tc_X15_distance tn_X15 md_X15_distance (by decide) (by omega)) tm_X15_296 ti_X15_distance ts_X15_distance (C0.mem (i := 120) (Nat.le_of_ble_eq_true rfl)) (g_c12 k_120) rfl rfl hl.1 rfl (Nat.le_of_ble_eq_true rfl) dX15_near_9) (fun H locs hW => ?_)
    refine lv_aload_n C0.hx C0.hb dX15_near_12 rfl (lv_at hl 0 rfl) ?_
    refine gf_X15_14 C0 hW (C0.mem (i := 120) (Nat.le_of_ble_eq_true rfl)) k_120 tf_X15_35 dX15_near_13 ?_
    refine gfN_X14_1 C0 hW (C0.mem (i := 127) (Nat.le_of_ble_eq_true rfl)) k_127 tfN_X15_247 dX15_near_16 ?_
    refine lv_aload_n C0.hx C0.hb dX15_near_19 rfl (lv_at hl 1 rfl) ?_
    refine gfN_X13_0 C0 hW (C0.mem (kl14 hk_p1)) hk_p1 tfN_X15_270 dX15_near_20 ?_
    refine lv_iload_n C0.hx C0.hb dX15_near_23 rfl (lv_at hl 2 rfl) ?_
    obtain ⟨hb3, h⟩ := g_if h
    refine ga_33 C0 hW (C0.mem (kl33 (ko14_0 hk_p1))) (ko14_0 hk_p1) hb3 dX15_near_24 ?_
    refine lv_aload_n C0.hx C0.hb dX15_near_25 rfl (lv_at hl 1 rfl) ?_
    refine gfN_X13_0 C0 hW (C0.mem (kl14 hk_p1)) hk_p1 tfN_X15_270 dX15_near_26 ?_
    refine lv_iload_n C0.hx C0.hb dX15_near_29 rfl (lv_at hl 3 rfl) ?_
    obtain ⟨hb4, h⟩ := g_if h
    refine ga_33 C0 hW (C0.mem (kl33 (ko14_0 hk_p1))) (ko14_0 hk_p1) hb4 dX15_near_30 ?_
    refine g_maxR C0 hl.1 (Nat.le_of_ble_eq_true rfl) (by omega) tm_X15_164 (by decide) (by decide) dX15_near_31 ?_
    refine lv_imul C0.hx C0.hb dX15_near_34 ?_
    refine lv_iconst (v := (4 : Int32)) C0.hx C0.hb dX15_near_35 (by decide) ?_
    refine lv_idiv C0.hx C0.hb dX15_near_36 (by decide) ?_
    refine lv_icmp_ge (tgt := 44) C0.hx C0.hb dX15_near_37 (by decide) (fun hc5 => ?_) (fun hc5 => ?_)
    · replace h := (if_pos hc5).symm.trans h
      refine lv_iconst (v := (0 : Int32)) C0.hx C0.hb dX15_near_44 (by decide) ?_
      obtain rfl := Option.some.inj h
      exact g_iret C0 hW rfl (g_bool (Or.inl rfl)).1 rfl dX15_near_45
    · replace h := (if_neg hc5).symm.trans h
      refine lv_iconst (v := (1 : Int32)) C0.hx C0.hb dX15_near_40 (by decide) ?_
      refine lv_goto (tgt := 45) C0.hx C0.hb dX15_near_41 (by decide) ?_
      obtain rfl := Option.some.inj h
      exact g_iret C0 hW rfl (g_bool (Or.inr rfl)).1 rfl dX15_near_45
set_option maxRecDepth 100000 in
set_option maxHeartbeats 4000000 in
theorem w_X15_needless_17 {p : Program} {l : Launch} {e : Env} {s : State} {m : MethodId} {args : Array Value} {below : List Frame} {meth : Method} {c : Code} {G : GL} {ids : List Nat} {x : CS} {o : Nat → Int32}  {q : Int32 × MS}   (C0 : g_X G ids p s m args meth c cX15_needless 3 RX15 (Option.some Jvm.ClassFile.FieldType.boolean))  : ∀ (n : Nat) (l1 : Int32) (l2 : Int32) (y : MS) (H : Heap) (locs : List Loc) (ls : Array Slot),  f_X15_needless_17 n l1 l2 y = some q → g_W G ids (x, y, o) s.heap H locs → lv_has ls 3 [(0, .ref (g_ad G (120))), (1, .int (l1)), (2, .int (l2))] → W p l e (g_rm 6 0 0) s m args below meth c H locs 0 0 (MQ below (g_Qi G ids q.1 (x, q.2, o)) args s 0 0 (g_A G)) (F0 m 17 ls []) := by
  intro n
  induction n with
  | zero =>
    intro l1 l2 y H locs ls h hW hl
    exact absurd h (by simp [f_X15_needless_17])
  | succ n ih =>
    intro l1 l2 y H locs ls h hW hl
    unfold f_X15_needless_17 at h
    refine lv_iload_n C0.hx C0.hb dX15_needless_17 rfl (lv_at hl 2 rfl) ?_
    refine lv_iload_n C0.hx C0.hb dX15_needless_18 rfl (lv_at hl 1 rfl) ?_
    refine lv_icmp_ge (tgt := 55) C0.hx C0.hb dX15_needless_19 (by decide) (fun hc3 => ?_) (fun hc3 => ?_)
    · replace h := (if_pos hc3).symm.trans h
      refine lv_iconst (v := (0 : Int32)) C0.hx C0.hb dX15_needless_55 (by decide) ?_
      obtain rfl := Option.some.inj h
      exact g_iret C0 hW rfl (g_bool (Or.inl rfl)).1 rfl dX15_needless_56
    · replace h := (if_neg hc3).symm.trans h
      refine lv_aload_n C0.hx C0.hb dX15_needless_22 rfl (lv_at hl 0 rfl) ?_
      refine gf_X15_17 C0 hW (C0.mem (i := 120) (Nat.le_of_ble_eq_true rfl)) k_120 tf_X15_48 dX15_needless_23 ?_
      refine gfN_X13_2 C0 hW (C0.mem (i := 152) (Nat.le_of_ble_eq_true rfl)) k_152 tfN_X15_293 dX15_needless_26 ?_
      refine lv_iload_n C0.hx C0.hb dX15_needless_29 rfl (lv_at hl 2 rfl) ?_
      obtain ⟨hb4, h⟩ := g_if h
      refine ga_32 C0 hW (C0.mem (i := 155) (Nat.le_of_ble_eq_true rfl)) k_155 hb4 dX15_needless_30 ?_
      refine lv_if_ne (tgt := 49) C0.hx C0.hb dX15_needless_31 (by decide) (fun hc5 => ?_) (fun hc5 => ?_)
      · replace h := (if_neg hc5).symm.trans h
        refine lv_iinc (v := l2 + (1 : Int32)) (lv' := [(2, .int (l2 + (1 : Int32))), (0, .ref (g_ad G (120))), (1, .int (l1))]) C0.hx C0.hb dX15_needless_49 hl (k := 2) rfl rfl (by decide) rfl (fun ls hl => ?_)
        refine lv_goto (tgt := 17) C0.hx C0.hb dX15_needless_52 (by decide) ?_
        exact ih _ _ _ _ _ _ h hW (lv_sub hl [1, 2, 0] rfl)
      · replace h := (if_pos hc5).symm.trans h
        refine lv_aload_n C0.hx C0.hb dX15_needless_34 rfl (lv_at hl 0 rfl) ?_
        refine lv_aload_n C0.hx C0.hb dX15_needless_35 rfl (lv_at hl 0 rfl) ?_
        refine gf_X15_17 C0 hW (C0.mem (i := 120) (Nat.le_of_ble_eq_true rfl)) k_120 tf_X15_48 dX15_needless_36 ?_
        refine lv_iload_n C0.hx C0.hb dX15_needless_39 rfl (lv_at hl 2 rfl) ?_
        refine lv_iload_n C0.hx C0.hb dX15_needless_40 rfl (lv_at hl 1 rfl) ?_
        obtain ⟨q6, hq6, h⟩ := Option.bind_eq_some_iff.mp h
        refine g_calli hW (g_runV (As := [.ref (g_ad G (152)), .int (l2), .int (l1)]) (rest := []) C0 hW (c_X15_near k_152 hq6) (g_cwOf (n := 3) tc_X15_near tn_X15 md_X15_near (by decide) (by omega)) tm_X15_299 ti_X15_near ts_X15_near (C0.mem (i := 120) (Nat.le_of_ble_eq_true rfl)) (g_c12 k_120) rfl rfl hl.1 rfl (Nat.le_of_ble_eq_true rfl) dX15_needless_41) (fun H locs hW => ?_)
        refine lv_if_eq (tgt := 49) C0.hx C0.hb dX15_needless_44 (by decide) (fun hc7 => ?_) (fun hc7 => ?_)
        · replace h := (if_pos hc7).symm.trans h
          refine lv_iinc (v := l2 + (1 : Int32)) (lv' := [(2, .int (l2 + (1 : Int32))), (0, .ref (g_ad G (120))), (1, .int (l1))]) C0.hx C0.hb dX15_needless_49 hl (k := 2) rfl rfl (by decide) rfl (fun ls hl => ?_)
          refine lv_goto (tgt := 17) C0.hx C0.hb dX15_needless_52 (by decide) ?_
          exact ih _ _ _ _ _ _ h hW (lv_sub hl [1, 2, 0] rfl)
        · replace h := (if_neg hc7).symm.trans h
          refine lv_iconst (v := (1 : Int32)) C0.hx C0.hb dX15_needless_47 (by decide) ?_
          obtain rfl := Option.some.inj h
          exact g_iret C0 hW rfl (g_bool (Or.inr rfl)).1 rfl dX15_needless_48
set_option maxRecDepth 100000 in
set_option maxHeartbeats 4000000 in
theorem c_X15_needless {l : Launch} {G : GL} {ids : List Nat} {x : CS} {o : Nat → Int32} {y : MS} {p1 : Int32} {q : Int32 × MS}    (h : f_X15_needless p1 y = some q) : Met l yX15_needless (.code yX15_needless cX15_needless 3 (Option.some Jvm.ClassFile.FieldType.boolean) :: gT) (g_rm 6 0 0) (va_Pc [.ref (g_ad G (120)), .int (p1)] (g_P G ids (x, y, o))) (g_Qi G ids q.1 (x, q.2, o)) 0 0 (g_A G) := by
  unfold f_X15_needless at h
  refine g_entry (by decide) (Nat.le_of_ble_eq_true rfl) (fun p e s m args below meth c ls C0 hl hW _ => ?_)
  have hl : lv_has ls 3 [(0, .ref (g_ad G (120))), (1, .int (p1))] := hl
  refine lv_aload_n C0.hx C0.hb dX15_needless_0 rfl (lv_at hl 0 rfl) ?_
  refine gf_X15_17 C0 hW (C0.mem (i := 120) (Nat.le_of_ble_eq_true rfl)) k_120 tf_X15_48 dX15_needless_1 ?_
  refine gfN_X13_2 C0 hW (C0.mem (i := 152) (Nat.le_of_ble_eq_true rfl)) k_152 tfN_X15_293 dX15_needless_4 ?_
  refine lv_iload_n C0.hx C0.hb dX15_needless_7 rfl (lv_at hl 1 rfl) ?_
  obtain ⟨hb1, h⟩ := g_if h
  refine ga_32 C0 hW (C0.mem (i := 155) (Nat.le_of_ble_eq_true rfl)) k_155 hb1 dX15_needless_8 ?_
  refine lv_iconst (v := (1 : Int32)) C0.hx C0.hb dX15_needless_9 (by decide) ?_
  refine lv_icmp_ne (tgt := 15) C0.hx C0.hb dX15_needless_10 (by decide) (fun hc2 => ?_) (fun hc2 => ?_)
  · replace h := (if_neg hc2).symm.trans h
    refine lv_iconst (v := (0 : Int32)) C0.hx C0.hb dX15_needless_15 (by decide) ?_
    refine lv_istore_n (lv' := [(2, .int ((0 : Int32))), (0, .ref (g_ad G (120))), (1, .int (p1))]) C0.hx C0.hb dX15_needless_16 rfl hl (by decide) rfl (fun ls hl => ?_)
    exact w_X15_needless_17 C0 g_fuel _ _ _ _ _ _ h hW (lv_sub hl [1, 2, 0] rfl)
  · replace h := (if_pos hc2).symm.trans h
    refine lv_iconst (v := (0 : Int32)) C0.hx C0.hb dX15_needless_13 (by decide) ?_
    obtain rfl := Option.some.inj h
    exact g_iret C0 hW rfl (g_bool (Or.inl rfl)).1 rfl dX15_needless_14
set_option maxRecDepth 100000 in
set_option maxHeartbeats 4000000 in
theorem c_X15_joined {l : Launch} {G : GL} {ids : List Nat} {x : CS} {o : Nat → Int32} {y : MS} {p1 : Int32} {p2 : Int32} {p3 : Int32} {q : Int32}    (h : f_X15_joined p1 p2 p3 = some q) : Met l yX15_joined (.code yX15_joined cX15_joined 3 (Option.some Jvm.ClassFile.FieldType.int) :: gT) (g_rm 1 0 0) (va_Pc [.int (p1), .int (p2), .int (p3)] (g_P G ids (x, y, o))) (g_Qi G ids q (x, y, o)) 0 0 (g_A G) := by
  unfold f_X15_joined at h
  refine g_entry (by decide) (Nat.le_of_ble_eq_true rfl) (fun p e s m args below meth c ls C0 hl hW _ => ?_)
  have hl : lv_has ls 3 [(0, .int (p1)), (1, .int (p2)), (2, .int (p3))] := hl
  refine lv_iload_n C0.hx C0.hb dX15_joined_0 rfl (lv_at hl 0 rfl) ?_
  by_cases hc1 : p1 = (22 : Int32)
  · replace h := (if_pos hc1).symm.trans h
    refine lv_tableIn (tgt := 156) C0.hx C0.hb dX15_joined_1 (by rw [hc1]; decide) (by rw [hc1]; decide) (by rw [hc1]; rfl) (by decide) ?_
    refine lv_iload_n C0.hx C0.hb dX15_joined_156 rfl (lv_at hl 1 rfl) ?_
    refine lv_iload_n C0.hx C0.hb dX15_joined_157 rfl (lv_at hl 2 rfl) ?_
    refine lv_iand C0.hx C0.hb dX15_joined_158 ?_
    obtain rfl := Option.some.inj h
    exact g_iret C0 hW rfl rfl rfl dX15_joined_159
  · replace h := (if_neg hc1).symm.trans h
    by_cases hc2 : p1 = (23 : Int32)
    · replace h := (if_pos hc2).symm.trans h
      refine lv_tableIn (tgt := 160) C0.hx C0.hb dX15_joined_1 (by rw [hc2]; decide) (by rw [hc2]; decide) (by rw [hc2]; rfl) (by decide) ?_
      refine lv_iload_n C0.hx C0.hb dX15_joined_160 rfl (lv_at hl 1 rfl) ?_
      refine lv_iload_n C0.hx C0.hb dX15_joined_161 rfl (lv_at hl 2 rfl) ?_
      refine lv_ior C0.hx C0.hb dX15_joined_162 ?_
      obtain rfl := Option.some.inj h
      exact g_iret C0 hW rfl rfl rfl dX15_joined_163
    · replace h := (if_neg hc2).symm.trans h
      by_cases hc3 : p1 = (24 : Int32)
      · replace h := (if_pos hc3).symm.trans h
        refine lv_tableIn (tgt := 144) C0.hx C0.hb dX15_joined_1 (by rw [hc3]; decide) (by rw [hc3]; decide) (by rw [hc3]; rfl) (by decide) ?_
        refine lv_iload_n C0.hx C0.hb dX15_joined_144 rfl (lv_at hl 1 rfl) ?_
        refine lv_iload_n C0.hx C0.hb dX15_joined_145 rfl (lv_at hl 2 rfl) ?_
        refine g_minR C0 hl.1 (Nat.le_of_ble_eq_true rfl) (by omega) tm_X15_214 (by decide) (by decide) dX15_joined_146 ?_
        obtain rfl := Option.some.inj h
        exact g_iret C0 hW rfl rfl rfl dX15_joined_149
      · replace h := (if_neg hc3).symm.trans h
        by_cases hc4 : p1 = (25 : Int32)
        · replace h := (if_pos hc4).symm.trans h
          refine lv_tableIn (tgt := 150) C0.hx C0.hb dX15_joined_1 (by rw [hc4]; decide) (by rw [hc4]; decide) (by rw [hc4]; rfl) (by decide) ?_
          refine lv_iload_n C0.hx C0.hb dX15_joined_150 rfl (lv_at hl 1 rfl) ?_
          refine lv_iload_n C0.hx C0.hb dX15_joined_151 rfl (lv_at hl 2 rfl) ?_
          refine g_maxR C0 hl.1 (Nat.le_of_ble_eq_true rfl) (by omega) tm_X15_164 (by decide) (by decide) dX15_joined_152 ?_
          obtain rfl := Option.some.inj h
          exact g_iret C0 hW rfl rfl rfl dX15_joined_155
        · replace h := (if_neg hc4).symm.trans h
          by_cases hc5 : p1 = (26 : Int32)
          · replace h := (if_pos hc5).symm.trans h
            refine lv_tableIn (tgt := 208) C0.hx C0.hb dX15_joined_1 (by rw [hc5]; decide) (by rw [hc5]; decide) (by rw [hc5]; rfl) (by decide) ?_
            refine lv_iload_n C0.hx C0.hb dX15_joined_208 rfl (lv_at hl 1 rfl) ?_
            refine lv_iload_n C0.hx C0.hb dX15_joined_209 rfl (lv_at hl 2 rfl) ?_
            refine lv_icmp_lt (tgt := 217) C0.hx C0.hb dX15_joined_210 (by decide) (fun hc47 => ?_) (fun hc47 => ?_)
            · replace h := (if_pos hc47).symm.trans h
              refine lv_iconst (v := (0 : Int32)) C0.hx C0.hb dX15_joined_217 (by decide) ?_
              obtain rfl := Option.some.inj h
              exact g_iret C0 hW rfl rfl rfl dX15_joined_218
            · replace h := (if_neg hc47).symm.trans h
              refine lv_iconst (v := (1 : Int32)) C0.hx C0.hb dX15_joined_213 (by decide) ?_
              refine lv_goto (tgt := 218) C0.hx C0.hb dX15_joined_214 (by decide) ?_
              obtain rfl := Option.some.inj h
              exact g_iret C0 hW rfl rfl rfl dX15_joined_218
          · replace h := (if_neg hc5).symm.trans h
            by_cases hc6 : p1 = (27 : Int32)
            · replace h := (if_pos hc6).symm.trans h
              refine lv_tableIn (tgt := 208) C0.hx C0.hb dX15_joined_1 (by rw [hc6]; decide) (by rw [hc6]; decide) (by rw [hc6]; rfl) (by decide) ?_
              refine lv_iload_n C0.hx C0.hb dX15_joined_208 rfl (lv_at hl 1 rfl) ?_
              refine lv_iload_n C0.hx C0.hb dX15_joined_209 rfl (lv_at hl 2 rfl) ?_
              refine lv_icmp_lt (tgt := 217) C0.hx C0.hb dX15_joined_210 (by decide) (fun hc46 => ?_) (fun hc46 => ?_)
              · replace h := (if_pos hc46).symm.trans h
                refine lv_iconst (v := (0 : Int32)) C0.hx C0.hb dX15_joined_217 (by decide) ?_
                obtain rfl := Option.some.inj h
                exact g_iret C0 hW rfl rfl rfl dX15_joined_218
              · replace h := (if_neg hc46).symm.trans h
                refine lv_iconst (v := (1 : Int32)) C0.hx C0.hb dX15_joined_213 (by decide) ?_
                refine lv_goto (tgt := 218) C0.hx C0.hb dX15_joined_214 (by decide) ?_
                obtain rfl := Option.some.inj h
                exact g_iret C0 hW rfl rfl rfl dX15_joined_218
            · replace h := (if_neg hc6).symm.trans h
              by_cases hc7 : p1 = (28 : Int32)
              · replace h := (if_pos hc7).symm.trans h
                refine lv_tableIn (tgt := 208) C0.hx C0.hb dX15_joined_1 (by rw [hc7]; decide) (by rw [hc7]; decide) (by rw [hc7]; rfl) (by decide) ?_
                refine lv_iload_n C0.hx C0.hb dX15_joined_208 rfl (lv_at hl 1 rfl) ?_
                refine lv_iload_n C0.hx C0.hb dX15_joined_209 rfl (lv_at hl 2 rfl) ?_
                refine lv_icmp_lt (tgt := 217) C0.hx C0.hb dX15_joined_210 (by decide) (fun hc45 => ?_) (fun hc45 => ?_)
                · replace h := (if_pos hc45).symm.trans h
                  refine lv_iconst (v := (0 : Int32)) C0.hx C0.hb dX15_joined_217 (by decide) ?_
                  obtain rfl := Option.some.inj h
                  exact g_iret C0 hW rfl rfl rfl dX15_joined_218
                · replace h := (if_neg hc45).symm.trans h
                  refine lv_iconst (v := (1 : Int32)) C0.hx C0.hb dX15_joined_213 (by decide) ?_
                  refine lv_goto (tgt := 218) C0.hx C0.hb dX15_joined_214 (by decide) ?_
                  obtain rfl := Option.some.inj h
                  exact g_iret C0 hW rfl rfl rfl dX15_joined_218
              · replace h := (if_neg hc7).symm.trans h
                by_cases hc8 : p1 = (29 : Int32)
                · replace h := (if_pos hc8).symm.trans h
                  refine lv_tableIn (tgt := 208) C0.hx C0.hb dX15_joined_1 (by rw [hc8]; decide) (by rw [hc8]; decide) (by rw [hc8]; rfl) (by decide) ?_
                  refine lv_iload_n C0.hx C0.hb dX15_joined_208 rfl (lv_at hl 1 rfl) ?_
                  refine lv_iload_n C0.hx C0.hb dX15_joined_209 rfl (lv_at hl 2 rfl) ?_
                  refine lv_icmp_lt (tgt := 217) C0.hx C0.hb dX15_joined_210 (by decide) (fun hc44 => ?_) (fun hc44 => ?_)
                  · replace h := (if_pos hc44).symm.trans h
                    refine lv_iconst (v := (0 : Int32)) C0.hx C0.hb dX15_joined_217 (by decide) ?_
                    obtain rfl := Option.some.inj h
                    exact g_iret C0 hW rfl rfl rfl dX15_joined_218
                  · replace h := (if_neg hc44).symm.trans h
                    refine lv_iconst (v := (1 : Int32)) C0.hx C0.hb dX15_joined_213 (by decide) ?_
                    refine lv_goto (tgt := 218) C0.hx C0.hb dX15_joined_214 (by decide) ?_
                    obtain rfl := Option.some.inj h
                    exact g_iret C0 hW rfl rfl rfl dX15_joined_218
                · replace h := (if_neg hc8).symm.trans h
                  by_cases hc9 : p1 = (30 : Int32)
                  · replace h := (if_pos hc9).symm.trans h
                    refine lv_tableIn (tgt := 208) C0.hx C0.hb dX15_joined_1 (by rw [hc9]; decide) (by rw [hc9]; decide) (by rw [hc9]; rfl) (by decide) ?_
                    refine lv_iload_n C0.hx C0.hb dX15_joined_208 rfl (lv_at hl 1 rfl) ?_
                    refine lv_iload_n C0.hx C0.hb dX15_joined_209 rfl (lv_at hl 2 rfl) ?_
                    refine lv_icmp_lt (tgt := 217) C0.hx C0.hb dX15_joined_210 (by decide) (fun hc43 => ?_) (fun hc43 => ?_)
                    · replace h := (if_pos hc43).symm.trans h
                      refine lv_iconst (v := (0 : Int32)) C0.hx C0.hb dX15_joined_217 (by decide) ?_
                      obtain rfl := Option.some.inj h
                      exact g_iret C0 hW rfl rfl rfl dX15_joined_218
                    · replace h := (if_neg hc43).symm.trans h
                      refine lv_iconst (v := (1 : Int32)) C0.hx C0.hb dX15_joined_213 (by decide) ?_
                      refine lv_goto (tgt := 218) C0.hx C0.hb dX15_joined_214 (by decide) ?_
                      obtain rfl := Option.some.inj h
                      exact g_iret C0 hW rfl rfl rfl dX15_joined_218
                  · replace h := (if_neg hc9).symm.trans h
                    by_cases hc10 : p1 = (31 : Int32)
                    · replace h := (if_pos hc10).symm.trans h
                      refine lv_tableIn (tgt := 208) C0.hx C0.hb dX15_joined_1 (by rw [hc10]; decide) (by rw [hc10]; decide) (by rw [hc10]; rfl) (by decide) ?_
                      refine lv_iload_n C0.hx C0.hb dX15_joined_208 rfl (lv_at hl 1 rfl) ?_
                      refine lv_iload_n C0.hx C0.hb dX15_joined_209 rfl (lv_at hl 2 rfl) ?_
                      refine lv_icmp_lt (tgt := 217) C0.hx C0.hb dX15_joined_210 (by decide) (fun hc42 => ?_) (fun hc42 => ?_)
                      · replace h := (if_pos hc42).symm.trans h
                        refine lv_iconst (v := (0 : Int32)) C0.hx C0.hb dX15_joined_217 (by decide) ?_
                        obtain rfl := Option.some.inj h
                        exact g_iret C0 hW rfl rfl rfl dX15_joined_218
                      · replace h := (if_neg hc42).symm.trans h
                        refine lv_iconst (v := (1 : Int32)) C0.hx C0.hb dX15_joined_213 (by decide) ?_
                        refine lv_goto (tgt := 218) C0.hx C0.hb dX15_joined_214 (by decide) ?_
                        obtain rfl := Option.some.inj h
                        exact g_iret C0 hW rfl rfl rfl dX15_joined_218
                    · replace h := (if_neg hc10).symm.trans h
                      by_cases hc11 : p1 = (32 : Int32)
                      · replace h := (if_pos hc11).symm.trans h
                        refine lv_tableIn (tgt := 208) C0.hx C0.hb dX15_joined_1 (by rw [hc11]; decide) (by rw [hc11]; decide) (by rw [hc11]; rfl) (by decide) ?_
                        refine lv_iload_n C0.hx C0.hb dX15_joined_208 rfl (lv_at hl 1 rfl) ?_
                        refine lv_iload_n C0.hx C0.hb dX15_joined_209 rfl (lv_at hl 2 rfl) ?_
                        refine lv_icmp_lt (tgt := 217) C0.hx C0.hb dX15_joined_210 (by decide) (fun hc41 => ?_) (fun hc41 => ?_)
                        · replace h := (if_pos hc41).symm.trans h
                          refine lv_iconst (v := (0 : Int32)) C0.hx C0.hb dX15_joined_217 (by decide) ?_
                          obtain rfl := Option.some.inj h
                          exact g_iret C0 hW rfl rfl rfl dX15_joined_218
                        · replace h := (if_neg hc41).symm.trans h
                          refine lv_iconst (v := (1 : Int32)) C0.hx C0.hb dX15_joined_213 (by decide) ?_
                          refine lv_goto (tgt := 218) C0.hx C0.hb dX15_joined_214 (by decide) ?_
                          obtain rfl := Option.some.inj h
                          exact g_iret C0 hW rfl rfl rfl dX15_joined_218
                      · replace h := (if_neg hc11).symm.trans h
                        by_cases hc12 : p1 = (33 : Int32)
                        · replace h := (if_pos hc12).symm.trans h
                          refine lv_tableIn (tgt := 208) C0.hx C0.hb dX15_joined_1 (by rw [hc12]; decide) (by rw [hc12]; decide) (by rw [hc12]; rfl) (by decide) ?_
                          refine lv_iload_n C0.hx C0.hb dX15_joined_208 rfl (lv_at hl 1 rfl) ?_
                          refine lv_iload_n C0.hx C0.hb dX15_joined_209 rfl (lv_at hl 2 rfl) ?_
                          refine lv_icmp_lt (tgt := 217) C0.hx C0.hb dX15_joined_210 (by decide) (fun hc40 => ?_) (fun hc40 => ?_)
                          · replace h := (if_pos hc40).symm.trans h
                            refine lv_iconst (v := (0 : Int32)) C0.hx C0.hb dX15_joined_217 (by decide) ?_
                            obtain rfl := Option.some.inj h
                            exact g_iret C0 hW rfl rfl rfl dX15_joined_218
                          · replace h := (if_neg hc40).symm.trans h
                            refine lv_iconst (v := (1 : Int32)) C0.hx C0.hb dX15_joined_213 (by decide) ?_
                            refine lv_goto (tgt := 218) C0.hx C0.hb dX15_joined_214 (by decide) ?_
                            obtain rfl := Option.some.inj h
                            exact g_iret C0 hW rfl rfl rfl dX15_joined_218
                        · replace h := (if_neg hc12).symm.trans h
                          by_cases hc13 : p1 = (34 : Int32)
                          · replace h := (if_pos hc13).symm.trans h
                            refine lv_tableIn (tgt := 208) C0.hx C0.hb dX15_joined_1 (by rw [hc13]; decide) (by rw [hc13]; decide) (by rw [hc13]; rfl) (by decide) ?_
                            refine lv_iload_n C0.hx C0.hb dX15_joined_208 rfl (lv_at hl 1 rfl) ?_
                            refine lv_iload_n C0.hx C0.hb dX15_joined_209 rfl (lv_at hl 2 rfl) ?_
                            refine lv_icmp_lt (tgt := 217) C0.hx C0.hb dX15_joined_210 (by decide) (fun hc39 => ?_) (fun hc39 => ?_)
                            · replace h := (if_pos hc39).symm.trans h
                              refine lv_iconst (v := (0 : Int32)) C0.hx C0.hb dX15_joined_217 (by decide) ?_
                              obtain rfl := Option.some.inj h
                              exact g_iret C0 hW rfl rfl rfl dX15_joined_218
                            · replace h := (if_neg hc39).symm.trans h
                              refine lv_iconst (v := (1 : Int32)) C0.hx C0.hb dX15_joined_213 (by decide) ?_
                              refine lv_goto (tgt := 218) C0.hx C0.hb dX15_joined_214 (by decide) ?_
                              obtain rfl := Option.some.inj h
                              exact g_iret C0 hW rfl rfl rfl dX15_joined_218
                          · replace h := (if_neg hc13).symm.trans h
                            by_cases hc14 : p1 = (35 : Int32)
                            · replace h := (if_pos hc14).symm.trans h
                              refine lv_tableIn (tgt := 208) C0.hx C0.hb dX15_joined_1 (by rw [hc14]; decide) (by rw [hc14]; decide) (by rw [hc14]; rfl) (by decide) ?_
                              refine lv_iload_n C0.hx C0.hb dX15_joined_208 rfl (lv_at hl 1 rfl) ?_
                              refine lv_iload_n C0.hx C0.hb dX15_joined_209 rfl (lv_at hl 2 rfl) ?_
                              refine lv_icmp_lt (tgt := 217) C0.hx C0.hb dX15_joined_210 (by decide) (fun hc38 => ?_) (fun hc38 => ?_)
                              · replace h := (if_pos hc38).symm.trans h
                                refine lv_iconst (v := (0 : Int32)) C0.hx C0.hb dX15_joined_217 (by decide) ?_
                                obtain rfl := Option.some.inj h
                                exact g_iret C0 hW rfl rfl rfl dX15_joined_218
                              · replace h := (if_neg hc38).symm.trans h
                                refine lv_iconst (v := (1 : Int32)) C0.hx C0.hb dX15_joined_213 (by decide) ?_
                                refine lv_goto (tgt := 218) C0.hx C0.hb dX15_joined_214 (by decide) ?_
                                obtain rfl := Option.some.inj h
                                exact g_iret C0 hW rfl rfl rfl dX15_joined_218
                            · replace h := (if_neg hc14).symm.trans h
                              by_cases hc15 : p1 = (36 : Int32)
                              · replace h := (if_pos hc15).symm.trans h
                                refine lv_tableIn (tgt := 208) C0.hx C0.hb dX15_joined_1 (by rw [hc15]; decide) (by rw [hc15]; decide) (by rw [hc15]; rfl) (by decide) ?_
                                refine lv_iload_n C0.hx C0.hb dX15_joined_208 rfl (lv_at hl 1 rfl) ?_
                                refine lv_iload_n C0.hx C0.hb dX15_joined_209 rfl (lv_at hl 2 rfl) ?_
                                refine lv_icmp_lt (tgt := 217) C0.hx C0.hb dX15_joined_210 (by decide) (fun hc37 => ?_) (fun hc37 => ?_)
                                · replace h := (if_pos hc37).symm.trans h
                                  refine lv_iconst (v := (0 : Int32)) C0.hx C0.hb dX15_joined_217 (by decide) ?_
                                  obtain rfl := Option.some.inj h
                                  exact g_iret C0 hW rfl rfl rfl dX15_joined_218
                                · replace h := (if_neg hc37).symm.trans h
                                  refine lv_iconst (v := (1 : Int32)) C0.hx C0.hb dX15_joined_213 (by decide) ?_
                                  refine lv_goto (tgt := 218) C0.hx C0.hb dX15_joined_214 (by decide) ?_
                                  obtain rfl := Option.some.inj h
                                  exact g_iret C0 hW rfl rfl rfl dX15_joined_218
                              · replace h := (if_neg hc15).symm.trans h
                                by_cases hc16 : p1 = (37 : Int32)
                                · replace h := (if_pos hc16).symm.trans h
                                  refine lv_tableIn (tgt := 208) C0.hx C0.hb dX15_joined_1 (by rw [hc16]; decide) (by rw [hc16]; decide) (by rw [hc16]; rfl) (by decide) ?_
                                  refine lv_iload_n C0.hx C0.hb dX15_joined_208 rfl (lv_at hl 1 rfl) ?_
                                  refine lv_iload_n C0.hx C0.hb dX15_joined_209 rfl (lv_at hl 2 rfl) ?_
                                  refine lv_icmp_lt (tgt := 217) C0.hx C0.hb dX15_joined_210 (by decide) (fun hc36 => ?_) (fun hc36 => ?_)
                                  · replace h := (if_pos hc36).symm.trans h
                                    refine lv_iconst (v := (0 : Int32)) C0.hx C0.hb dX15_joined_217 (by decide) ?_
                                    obtain rfl := Option.some.inj h
                                    exact g_iret C0 hW rfl rfl rfl dX15_joined_218
                                  · replace h := (if_neg hc36).symm.trans h
                                    refine lv_iconst (v := (1 : Int32)) C0.hx C0.hb dX15_joined_213 (by decide) ?_
                                    refine lv_goto (tgt := 218) C0.hx C0.hb dX15_joined_214 (by decide) ?_
                                    obtain rfl := Option.some.inj h
                                    exact g_iret C0 hW rfl rfl rfl dX15_joined_218
                                · replace h := (if_neg hc16).symm.trans h
                                  by_cases hc17 : p1 = (38 : Int32)
                                  · replace h := (if_pos hc17).symm.trans h
                                    refine lv_tableIn (tgt := 208) C0.hx C0.hb dX15_joined_1 (by rw [hc17]; decide) (by rw [hc17]; decide) (by rw [hc17]; rfl) (by decide) ?_
                                    refine lv_iload_n C0.hx C0.hb dX15_joined_208 rfl (lv_at hl 1 rfl) ?_
                                    refine lv_iload_n C0.hx C0.hb dX15_joined_209 rfl (lv_at hl 2 rfl) ?_
                                    refine lv_icmp_lt (tgt := 217) C0.hx C0.hb dX15_joined_210 (by decide) (fun hc35 => ?_) (fun hc35 => ?_)
                                    · replace h := (if_pos hc35).symm.trans h
                                      refine lv_iconst (v := (0 : Int32)) C0.hx C0.hb dX15_joined_217 (by decide) ?_
                                      obtain rfl := Option.some.inj h
                                      exact g_iret C0 hW rfl rfl rfl dX15_joined_218
                                    · replace h := (if_neg hc35).symm.trans h
                                      refine lv_iconst (v := (1 : Int32)) C0.hx C0.hb dX15_joined_213 (by decide) ?_
                                      refine lv_goto (tgt := 218) C0.hx C0.hb dX15_joined_214 (by decide) ?_
                                      obtain rfl := Option.some.inj h
                                      exact g_iret C0 hW rfl rfl rfl dX15_joined_218
                                  · replace h := (if_neg hc17).symm.trans h
                                    by_cases hc18 : p1 = (39 : Int32)
                                    · replace h := (if_pos hc18).symm.trans h
                                      refine lv_tableIn (tgt := 208) C0.hx C0.hb dX15_joined_1 (by rw [hc18]; decide) (by rw [hc18]; decide) (by rw [hc18]; rfl) (by decide) ?_
                                      refine lv_iload_n C0.hx C0.hb dX15_joined_208 rfl (lv_at hl 1 rfl) ?_
                                      refine lv_iload_n C0.hx C0.hb dX15_joined_209 rfl (lv_at hl 2 rfl) ?_
                                      refine lv_icmp_lt (tgt := 217) C0.hx C0.hb dX15_joined_210 (by decide) (fun hc34 => ?_) (fun hc34 => ?_)
                                      · replace h := (if_pos hc34).symm.trans h
                                        refine lv_iconst (v := (0 : Int32)) C0.hx C0.hb dX15_joined_217 (by decide) ?_
                                        obtain rfl := Option.some.inj h
                                        exact g_iret C0 hW rfl rfl rfl dX15_joined_218
                                      · replace h := (if_neg hc34).symm.trans h
                                        refine lv_iconst (v := (1 : Int32)) C0.hx C0.hb dX15_joined_213 (by decide) ?_
                                        refine lv_goto (tgt := 218) C0.hx C0.hb dX15_joined_214 (by decide) ?_
                                        obtain rfl := Option.some.inj h
                                        exact g_iret C0 hW rfl rfl rfl dX15_joined_218
                                    · replace h := (if_neg hc18).symm.trans h
                                      by_cases hc19 : p1 = (40 : Int32)
                                      · replace h := (if_pos hc19).symm.trans h
                                        refine lv_tableIn (tgt := 120) C0.hx C0.hb dX15_joined_1 (by rw [hc19]; decide) (by rw [hc19]; decide) (by rw [hc19]; rfl) (by decide) ?_
                                        refine lv_iload_n C0.hx C0.hb dX15_joined_120 rfl (lv_at hl 1 rfl) ?_
                                        refine lv_iload_n C0.hx C0.hb dX15_joined_121 rfl (lv_at hl 2 rfl) ?_
                                        refine lv_iadd C0.hx C0.hb dX15_joined_122 ?_
                                        obtain rfl := Option.some.inj h
                                        exact g_iret C0 hW rfl rfl rfl dX15_joined_123
                                      · replace h := (if_neg hc19).symm.trans h
                                        by_cases hc20 : p1 = (41 : Int32)
                                        · replace h := (if_pos hc20).symm.trans h
                                          refine lv_tableIn (tgt := 124) C0.hx C0.hb dX15_joined_1 (by rw [hc20]; decide) (by rw [hc20]; decide) (by rw [hc20]; rfl) (by decide) ?_
                                          refine lv_iload_n C0.hx C0.hb dX15_joined_124 rfl (lv_at hl 1 rfl) ?_
                                          refine lv_iload_n C0.hx C0.hb dX15_joined_125 rfl (lv_at hl 2 rfl) ?_
                                          refine lv_isub C0.hx C0.hb dX15_joined_126 ?_
                                          obtain rfl := Option.some.inj h
                                          exact g_iret C0 hW rfl rfl rfl dX15_joined_127
                                        · replace h := (if_neg hc20).symm.trans h
                                          by_cases hc21 : p1 = (42 : Int32)
                                          · replace h := (if_pos hc21).symm.trans h
                                            refine lv_tableIn (tgt := 128) C0.hx C0.hb dX15_joined_1 (by rw [hc21]; decide) (by rw [hc21]; decide) (by rw [hc21]; rfl) (by decide) ?_
                                            refine lv_iload_n C0.hx C0.hb dX15_joined_128 rfl (lv_at hl 1 rfl) ?_
                                            refine lv_iload_n C0.hx C0.hb dX15_joined_129 rfl (lv_at hl 2 rfl) ?_
                                            refine lv_imul C0.hx C0.hb dX15_joined_130 ?_
                                            obtain rfl := Option.some.inj h
                                            exact g_iret C0 hW rfl rfl rfl dX15_joined_131
                                          · replace h := (if_neg hc21).symm.trans h
                                            by_cases hc22 : p1 = (43 : Int32)
                                            · replace h := (if_pos hc22).symm.trans h
                                              refine lv_tableIn (tgt := 132) C0.hx C0.hb dX15_joined_1 (by rw [hc22]; decide) (by rw [hc22]; decide) (by rw [hc22]; rfl) (by decide) ?_
                                              refine lv_iload_n C0.hx C0.hb dX15_joined_132 rfl (lv_at hl 2 rfl) ?_
                                              refine lv_if_ne (tgt := 140) C0.hx C0.hb dX15_joined_133 (by decide) (fun hc32 => ?_) (fun hc32 => ?_)
                                              · replace h := (if_neg hc32).symm.trans h
                                                refine lv_iload_n C0.hx C0.hb dX15_joined_140 rfl (lv_at hl 1 rfl) ?_
                                                refine lv_iload_n C0.hx C0.hb dX15_joined_141 rfl (lv_at hl 2 rfl) ?_
                                                obtain ⟨hn33, h⟩ := g_if h
                                                refine lv_idiv C0.hx C0.hb dX15_joined_142 hn33 ?_
                                                obtain rfl := Option.some.inj h
                                                exact g_iret C0 hW rfl rfl rfl dX15_joined_143
                                              · replace h := (if_pos hc32).symm.trans h
                                                refine lv_iconst (v := (0 : Int32)) C0.hx C0.hb dX15_joined_136 (by decide) ?_
                                                refine lv_goto (tgt := 143) C0.hx C0.hb dX15_joined_137 (by decide) ?_
                                                obtain rfl := Option.some.inj h
                                                exact g_iret C0 hW rfl rfl rfl dX15_joined_143
                                            · replace h := (if_neg hc22).symm.trans h
                                              by_cases hc23 : p1 = (44 : Int32)
                                              · replace h := (if_pos hc23).symm.trans h
                                                refine lv_tableIn (tgt := 164) C0.hx C0.hb dX15_joined_1 (by rw [hc23]; decide) (by rw [hc23]; decide) (by rw [hc23]; rfl) (by decide) ?_
                                                refine lv_iload_n C0.hx C0.hb dX15_joined_164 rfl (lv_at hl 1 rfl) ?_
                                                refine lv_iload_n C0.hx C0.hb dX15_joined_165 rfl (lv_at hl 2 rfl) ?_
                                                refine lv_icmp_ge (tgt := 173) C0.hx C0.hb dX15_joined_166 (by decide) (fun hc31 => ?_) (fun hc31 => ?_)
                                                · replace h := (if_pos hc31).symm.trans h
                                                  refine lv_iconst (v := (0 : Int32)) C0.hx C0.hb dX15_joined_173 (by decide) ?_
                                                  obtain rfl := Option.some.inj h
                                                  exact g_iret C0 hW rfl rfl rfl dX15_joined_174
                                                · replace h := (if_neg hc31).symm.trans h
                                                  refine lv_iconst (v := (1 : Int32)) C0.hx C0.hb dX15_joined_169 (by decide) ?_
                                                  refine lv_goto (tgt := 174) C0.hx C0.hb dX15_joined_170 (by decide) ?_
                                                  obtain rfl := Option.some.inj h
                                                  exact g_iret C0 hW rfl rfl rfl dX15_joined_174
                                              · replace h := (if_neg hc23).symm.trans h
                                                by_cases hc24 : p1 = (45 : Int32)
                                                · replace h := (if_pos hc24).symm.trans h
                                                  refine lv_tableIn (tgt := 175) C0.hx C0.hb dX15_joined_1 (by rw [hc24]; decide) (by rw [hc24]; decide) (by rw [hc24]; rfl) (by decide) ?_
                                                  refine lv_iload_n C0.hx C0.hb dX15_joined_175 rfl (lv_at hl 1 rfl) ?_
                                                  refine lv_iload_n C0.hx C0.hb dX15_joined_176 rfl (lv_at hl 2 rfl) ?_
                                                  refine lv_icmp_le (tgt := 184) C0.hx C0.hb dX15_joined_177 (by decide) (fun hc30 => ?_) (fun hc30 => ?_)
                                                  · replace h := (if_pos hc30).symm.trans h
                                                    refine lv_iconst (v := (0 : Int32)) C0.hx C0.hb dX15_joined_184 (by decide) ?_
                                                    obtain rfl := Option.some.inj h
                                                    exact g_iret C0 hW rfl rfl rfl dX15_joined_185
                                                  · replace h := (if_neg hc30).symm.trans h
                                                    refine lv_iconst (v := (1 : Int32)) C0.hx C0.hb dX15_joined_180 (by decide) ?_
                                                    refine lv_goto (tgt := 185) C0.hx C0.hb dX15_joined_181 (by decide) ?_
                                                    obtain rfl := Option.some.inj h
                                                    exact g_iret C0 hW rfl rfl rfl dX15_joined_185
                                                · replace h := (if_neg hc24).symm.trans h
                                                  by_cases hc25 : p1 = (46 : Int32)
                                                  · replace h := (if_pos hc25).symm.trans h
                                                    refine lv_tableIn (tgt := 186) C0.hx C0.hb dX15_joined_1 (by rw [hc25]; decide) (by rw [hc25]; decide) (by rw [hc25]; rfl) (by decide) ?_
                                                    refine lv_iload_n C0.hx C0.hb dX15_joined_186 rfl (lv_at hl 1 rfl) ?_
                                                    refine lv_iload_n C0.hx C0.hb dX15_joined_187 rfl (lv_at hl 2 rfl) ?_
                                                    refine lv_icmp_ne (tgt := 195) C0.hx C0.hb dX15_joined_188 (by decide) (fun hc29 => ?_) (fun hc29 => ?_)
                                                    · replace h := (if_neg hc29).symm.trans h
                                                      refine lv_iconst (v := (0 : Int32)) C0.hx C0.hb dX15_joined_195 (by decide) ?_
                                                      obtain rfl := Option.some.inj h
                                                      exact g_iret C0 hW rfl rfl rfl dX15_joined_196
                                                    · replace h := (if_pos hc29).symm.trans h
                                                      refine lv_iconst (v := (1 : Int32)) C0.hx C0.hb dX15_joined_191 (by decide) ?_
                                                      refine lv_goto (tgt := 196) C0.hx C0.hb dX15_joined_192 (by decide) ?_
                                                      obtain rfl := Option.some.inj h
                                                      exact g_iret C0 hW rfl rfl rfl dX15_joined_196
                                                  · replace h := (if_neg hc25).symm.trans h
                                                    by_cases hc26 : p1 = (47 : Int32)
                                                    · replace h := (if_pos hc26).symm.trans h
                                                      refine lv_tableIn (tgt := 197) C0.hx C0.hb dX15_joined_1 (by rw [hc26]; decide) (by rw [hc26]; decide) (by rw [hc26]; rfl) (by decide) ?_
                                                      refine lv_iload_n C0.hx C0.hb dX15_joined_197 rfl (lv_at hl 1 rfl) ?_
                                                      refine lv_iload_n C0.hx C0.hb dX15_joined_198 rfl (lv_at hl 2 rfl) ?_
                                                      refine lv_icmp_gt (tgt := 206) C0.hx C0.hb dX15_joined_199 (by decide) (fun hc28 => ?_) (fun hc28 => ?_)
                                                      · replace h := (if_pos hc28).symm.trans h
                                                        refine lv_iconst (v := (0 : Int32)) C0.hx C0.hb dX15_joined_206 (by decide) ?_
                                                        obtain rfl := Option.some.inj h
                                                        exact g_iret C0 hW rfl rfl rfl dX15_joined_207
                                                      · replace h := (if_neg hc28).symm.trans h
                                                        refine lv_iconst (v := (1 : Int32)) C0.hx C0.hb dX15_joined_202 (by decide) ?_
                                                        refine lv_goto (tgt := 207) C0.hx C0.hb dX15_joined_203 (by decide) ?_
                                                        obtain rfl := Option.some.inj h
                                                        exact g_iret C0 hW rfl rfl rfl dX15_joined_207
                                                    · replace h := (if_neg hc26).symm.trans h
                                                      refine lv_tableOut (tgt := 208) C0.hx C0.hb dX15_joined_1 (g_sw_X15_joined_1 hc1 hc2 hc3 hc4 hc5 hc6 hc7 hc8 hc9 hc10 hc11 hc12 hc13 hc14 hc15 hc16 hc17 hc18 hc19 hc20 hc21 hc22 hc23 hc24 hc25 hc26) (by decide) ?_
                                                      refine lv_iload_n C0.hx C0.hb dX15_joined_208 rfl (lv_at hl 1 rfl) ?_
                                                      refine lv_iload_n C0.hx C0.hb dX15_joined_209 rfl (lv_at hl 2 rfl) ?_
                                                      refine lv_icmp_lt (tgt := 217) C0.hx C0.hb dX15_joined_210 (by decide) (fun hc27 => ?_) (fun hc27 => ?_)
                                                      · replace h := (if_pos hc27).symm.trans h
                                                        refine lv_iconst (v := (0 : Int32)) C0.hx C0.hb dX15_joined_217 (by decide) ?_
                                                        obtain rfl := Option.some.inj h
                                                        exact g_iret C0 hW rfl rfl rfl dX15_joined_218
                                                      · replace h := (if_neg hc27).symm.trans h
                                                        refine lv_iconst (v := (1 : Int32)) C0.hx C0.hb dX15_joined_213 (by decide) ?_
                                                        refine lv_goto (tgt := 218) C0.hx C0.hb dX15_joined_214 (by decide) ?_
                                                        obtain rfl := Option.some.inj h
                                                        exact g_iret C0 hW rfl rfl rfl dX15_joined_218
set_option maxRecDepth 100000 in
set_option maxHeartbeats 4000000 in
theorem c_X15_reckon {l : Launch} {G : GL} {ids : List Nat} {x : CS} {o : Nat → Int32} {y : MS} {p1 : Nat} {p2 : Int32} {p3 : Int32} {p4 : Int32} {q : Int32 × MS}   (hk_p1 : kd p1 = 14) (h : f_X15_reckon p1 p2 p3 p4 y = some q) : Met l yX15_reckon (.code yX15_reckon cX15_reckon 5 (Option.some Jvm.ClassFile.FieldType.int) :: gT) (g_rm 6 0 0) (va_Pc [.ref (g_ad G (120)), .ref (g_ad G (p1)), .int (p2), .int (p3), .int (p4)] (g_P G ids (x, y, o))) (g_Qi G ids q.1 (x, q.2, o)) 0 0 (g_A G) := by
  unfold f_X15_reckon at h
  refine g_entry (by decide) (Nat.le_of_ble_eq_true rfl) (fun p e s m args below meth c ls C0 hl hW _ => ?_)
  have hl : lv_has ls 5 [(0, .ref (g_ad G (120))), (1, .ref (g_ad G (p1))), (2, .int (p2)), (3, .int (p3)), (4, .int (p4))] := hl
  refine lv_iload_n C0.hx C0.hb dX15_reckon_0 rfl (lv_at hl 2 rfl) ?_
  by_cases hc1 : p2 = (14 : Int32)
  · replace h := (if_pos hc1).symm.trans h
    refine lv_lookup (tgt := 86) C0.hx C0.hb dX15_reckon_1 (by decide) (by rw [hc1] <;> rfl) (by decide) ?_
    refine lv_aload_n C0.hx C0.hb dX15_reckon_86 rfl (lv_at hl 1 rfl) ?_
    refine gfN_X13_3 C0 hW (C0.mem (kl14 hk_p1)) hk_p1 tfN_X15_303 dX15_reckon_87 ?_
    obtain rfl := Option.some.inj h
    exact g_iret C0 hW rfl rfl rfl dX15_reckon_90
  · replace h := (if_neg hc1).symm.trans h
    by_cases hc2 : p2 = (15 : Int32)
    · replace h := (if_pos hc2).symm.trans h
      refine lv_lookup (tgt := 91) C0.hx C0.hb dX15_reckon_1 (by decide) (by rw [hc2] <;> rfl) (by decide) ?_
      refine lv_aload_n C0.hx C0.hb dX15_reckon_91 rfl (lv_at hl 0 rfl) ?_
      refine lv_aload_n C0.hx C0.hb dX15_reckon_92 rfl (lv_at hl 1 rfl) ?_
      obtain ⟨q22, hq22, h⟩ := Option.bind_eq_some_iff.mp h
      refine g_calli hW (g_runV (As := [.ref (g_ad G (p1))]) (rest := []) C0 hW (c_X15_kept hk_p1 hq22) (g_cwOf (n := 1) tc_X15_kept tn_X15 md_X15_kept (by decide) (by omega)) tm_X15_306 ti_X15_kept ts_X15_kept (C0.mem (i := 120) (Nat.le_of_ble_eq_true rfl)) (g_c12 k_120) rfl rfl hl.1 rfl (Nat.le_of_ble_eq_true rfl) dX15_reckon_93) (fun H locs hW => ?_)
      obtain rfl := Option.some.inj h
      exact g_iret C0 hW rfl rfl rfl dX15_reckon_96
    · replace h := (if_neg hc2).symm.trans h
      by_cases hc3 : p2 = (16 : Int32)
      · replace h := (if_pos hc3).symm.trans h
        refine lv_lookup (tgt := 97) C0.hx C0.hb dX15_reckon_1 (by decide) (by rw [hc3] <;> rfl) (by decide) ?_
        refine lv_aload_n C0.hx C0.hb dX15_reckon_97 rfl (lv_at hl 1 rfl) ?_
        refine gfN_X13_0 C0 hW (C0.mem (kl14 hk_p1)) hk_p1 tfN_X15_270 dX15_reckon_98 ?_
        refine lv_bipush (v := (8 : Int32)) C0.hx C0.hb dX15_reckon_101 (by decide) ?_
        obtain ⟨hb19, h⟩ := g_if h
        refine ga_33 C0 hW (C0.mem (kl33 (ko14_0 hk_p1))) (ko14_0 hk_p1) hb19 dX15_reckon_103 ?_
        refine lv_if_ne (tgt := 113) C0.hx C0.hb dX15_reckon_104 (by decide) (fun hc20 => ?_) (fun hc20 => ?_)
        · replace h := (if_neg hc20).symm.trans h
          refine lv_aload_n C0.hx C0.hb dX15_reckon_113 rfl (lv_at hl 0 rfl) ?_
          refine lv_aload_n C0.hx C0.hb dX15_reckon_114 rfl (lv_at hl 1 rfl) ?_
          refine lv_iload_n C0.hx C0.hb dX15_reckon_115 rfl (lv_at hl 3 rfl) ?_
          refine lv_bipush (v := (8 : Int32)) C0.hx C0.hb dX15_reckon_116 (by decide) ?_
          obtain ⟨q21, hq21, h⟩ := Option.bind_eq_some_iff.mp h
          refine g_calli hW (g_runV (As := [.ref (g_ad G (p1)), .int (p3), .int ((8 : Int32))]) (rest := []) C0 hW (c_X15_distance hk_p1 hq21) (g_cwOf (n := 3) tc_X15_distance tn_X15 md_X15_distance (by decide) (by omega)) tm_X15_296 ti_X15_distance ts_X15_distance (C0.mem (i := 120) (Nat.le_of_ble_eq_true rfl)) (g_c12 k_120) rfl rfl hl.1 rfl (Nat.le_of_ble_eq_true rfl) dX15_reckon_118) (fun H locs hW => ?_)
          obtain rfl := Option.some.inj h
          exact g_iret C0 hW rfl rfl rfl dX15_reckon_121
        · replace h := (if_pos hc20).symm.trans h
          refine lv_sipush (v := (999 : Int32)) C0.hx C0.hb dX15_reckon_107 (by decide) ?_
          refine lv_goto (tgt := 121) C0.hx C0.hb dX15_reckon_110 (by decide) ?_
          obtain rfl := Option.some.inj h
          exact g_iret C0 hW rfl rfl rfl dX15_reckon_121
      · replace h := (if_neg hc3).symm.trans h
        by_cases hc4 : p2 = (17 : Int32)
        · replace h := (if_pos hc4).symm.trans h
          refine lv_lookup (tgt := 122) C0.hx C0.hb dX15_reckon_1 (by decide) (by rw [hc4] <;> rfl) (by decide) ?_
          refine lv_aload_n C0.hx C0.hb dX15_reckon_122 rfl (lv_at hl 1 rfl) ?_
          refine gfN_X13_0 C0 hW (C0.mem (kl14 hk_p1)) hk_p1 tfN_X15_270 dX15_reckon_123 ?_
          refine lv_iload_n C0.hx C0.hb dX15_reckon_126 rfl (lv_at hl 3 rfl) ?_
          obtain ⟨hb18, h⟩ := g_if h
          refine ga_33 C0 hW (C0.mem (kl33 (ko14_0 hk_p1))) (ko14_0 hk_p1) hb18 dX15_reckon_127 ?_
          obtain rfl := Option.some.inj h
          exact g_iret C0 hW rfl rfl rfl dX15_reckon_128
        · replace h := (if_neg hc4).symm.trans h
          by_cases hc5 : p2 = (19 : Int32)
          · replace h := (if_pos hc5).symm.trans h
            refine lv_lookup (tgt := 129) C0.hx C0.hb dX15_reckon_1 (by decide) (by rw [hc5] <;> rfl) (by decide) ?_
            refine lv_aload_n C0.hx C0.hb dX15_reckon_129 rfl (lv_at hl 0 rfl) ?_
            refine lv_aload_n C0.hx C0.hb dX15_reckon_130 rfl (lv_at hl 1 rfl) ?_
            refine lv_iconst (v := (-1 : Int32)) C0.hx C0.hb dX15_reckon_131 (by decide) ?_
            obtain ⟨q16, hq16, h⟩ := Option.bind_eq_some_iff.mp h
            refine g_calli hW (g_runV (As := [.ref (g_ad G (p1)), .int ((-1 : Int32))]) (rest := []) C0 hW (c_X15_meant hk_p1 hq16) (g_cwOf (n := 2) tc_X15_meant tn_X15 md_X15_meant (by decide) (by omega)) tm_X15_310 ti_X15_meant ts_X15_meant (C0.mem (i := 120) (Nat.le_of_ble_eq_true rfl)) (g_c12 k_120) rfl rfl hl.1 rfl (Nat.le_of_ble_eq_true rfl) dX15_reckon_132) (fun H locs hW => ?_)
            refine lv_iload_n C0.hx C0.hb dX15_reckon_135 rfl (lv_at hl 3 rfl) ?_
            refine lv_icmp_ne (tgt := 143) C0.hx C0.hb dX15_reckon_136 (by decide) (fun hc17 => ?_) (fun hc17 => ?_)
            · replace h := (if_neg hc17).symm.trans h
              refine lv_iconst (v := (0 : Int32)) C0.hx C0.hb dX15_reckon_143 (by decide) ?_
              obtain rfl := Option.some.inj h
              exact g_iret C0 hW rfl rfl rfl dX15_reckon_144
            · replace h := (if_pos hc17).symm.trans h
              refine lv_iconst (v := (1 : Int32)) C0.hx C0.hb dX15_reckon_139 (by decide) ?_
              refine lv_goto (tgt := 144) C0.hx C0.hb dX15_reckon_140 (by decide) ?_
              obtain rfl := Option.some.inj h
              exact g_iret C0 hW rfl rfl rfl dX15_reckon_144
          · replace h := (if_neg hc5).symm.trans h
            by_cases hc6 : p2 = (20 : Int32)
            · replace h := (if_pos hc6).symm.trans h
              refine lv_lookup (tgt := 145) C0.hx C0.hb dX15_reckon_1 (by decide) (by rw [hc6] <;> rfl) (by decide) ?_
              refine lv_aload_n C0.hx C0.hb dX15_reckon_145 rfl (lv_at hl 1 rfl) ?_
              refine gfN_X13_2 C0 hW (C0.mem (kl14 hk_p1)) hk_p1 tfN_X15_293 dX15_reckon_146 ?_
              refine lv_iload_n C0.hx C0.hb dX15_reckon_149 rfl (lv_at hl 3 rfl) ?_
              obtain ⟨hb15, h⟩ := g_if h
              refine ga_32 C0 hW (C0.mem (kl32 (ko14_2 hk_p1))) (ko14_2 hk_p1) hb15 dX15_reckon_150 ?_
              obtain rfl := Option.some.inj h
              exact g_iret C0 hW rfl rfl rfl dX15_reckon_151
            · replace h := (if_neg hc6).symm.trans h
              by_cases hc7 : p2 = (21 : Int32)
              · replace h := (if_pos hc7).symm.trans h
                refine lv_lookup (tgt := 160) C0.hx C0.hb dX15_reckon_1 (by decide) (by rw [hc7] <;> rfl) (by decide) ?_
                refine lv_iconst (v := (1 : Int32)) C0.hx C0.hb dX15_reckon_160 (by decide) ?_
                refine lv_aload_n C0.hx C0.hb dX15_reckon_161 rfl (lv_at hl 0 rfl) ?_
                refine gf_X15_16 C0 hW (C0.mem (i := 120) (Nat.le_of_ble_eq_true rfl)) k_120 tf_X15_42 dX15_reckon_162 ?_
                refine lv_iload_n C0.hx C0.hb dX15_reckon_165 rfl (lv_at hl 3 rfl) ?_
                obtain ⟨hb14, h⟩ := g_if h
                refine ga_36 C0 hW (C0.mem (i := 151) (Nat.le_of_ble_eq_true rfl)) k_151 hb14 dX15_reckon_166 ?_
                refine lv_isub C0.hx C0.hb dX15_reckon_167 ?_
                obtain rfl := Option.some.inj h
                exact g_iret C0 hW rfl rfl rfl dX15_reckon_168
              · replace h := (if_neg hc7).symm.trans h
                by_cases hc8 : p2 = (31 : Int32)
                · replace h := (if_pos hc8).symm.trans h
                  refine lv_lookup (tgt := 84) C0.hx C0.hb dX15_reckon_1 (by decide) (by rw [hc8] <;> rfl) (by decide) ?_
                  refine lv_iload_n C0.hx C0.hb dX15_reckon_84 rfl (lv_at hl 3 rfl) ?_
                  obtain rfl := Option.some.inj h
                  exact g_iret C0 hW rfl rfl rfl dX15_reckon_85
                · replace h := (if_neg hc8).symm.trans h
                  by_cases hc9 : p2 = (60 : Int32)
                  · replace h := (if_pos hc9).symm.trans h
                    refine lv_lookup (tgt := 152) C0.hx C0.hb dX15_reckon_1 (by decide) (by rw [hc9] <;> rfl) (by decide) ?_
                    refine lv_aload_n C0.hx C0.hb dX15_reckon_152 rfl (lv_at hl 0 rfl) ?_
                    refine gf_X15_16 C0 hW (C0.mem (i := 120) (Nat.le_of_ble_eq_true rfl)) k_120 tf_X15_42 dX15_reckon_153 ?_
                    refine lv_iload_n C0.hx C0.hb dX15_reckon_156 rfl (lv_at hl 3 rfl) ?_
                    obtain ⟨hb13, h⟩ := g_if h
                    refine ga_36 C0 hW (C0.mem (i := 151) (Nat.le_of_ble_eq_true rfl)) k_151 hb13 dX15_reckon_157 ?_
                    refine lv_ineg C0.hx C0.hb dX15_reckon_158 ?_
                    obtain rfl := Option.some.inj h
                    exact g_iret C0 hW rfl rfl rfl dX15_reckon_159
                  · replace h := (if_neg hc9).symm.trans h
                    refine lv_lookup (tgt := 169) C0.hx C0.hb dX15_reckon_1 (by decide) (g_lk_X15_reckon_1 hc1 hc2 hc3 hc4 hc5 hc6 hc7 hc8 hc9) (by decide) ?_
                    refine lv_iload_n C0.hx C0.hb dX15_reckon_169 rfl (lv_at hl 2 rfl) ?_
                    refine lv_aload_n C0.hx C0.hb dX15_reckon_170 rfl (lv_at hl 0 rfl) ?_
                    refine gf_X15_16 C0 hW (C0.mem (i := 120) (Nat.le_of_ble_eq_true rfl)) k_120 tf_X15_42 dX15_reckon_171 ?_
                    refine lv_iload_n C0.hx C0.hb dX15_reckon_174 rfl (lv_at hl 3 rfl) ?_
                    obtain ⟨hb10, h⟩ := g_if h
                    refine ga_36 C0 hW (C0.mem (i := 151) (Nat.le_of_ble_eq_true rfl)) k_151 hb10 dX15_reckon_175 ?_
                    refine lv_aload_n C0.hx C0.hb dX15_reckon_176 rfl (lv_at hl 0 rfl) ?_
                    refine gf_X15_16 C0 hW (C0.mem (i := 120) (Nat.le_of_ble_eq_true rfl)) k_120 tf_X15_42 dX15_reckon_177 ?_
                    refine lv_iload C0.hx C0.hb dX15_reckon_180 (lv_at hl 4 rfl) ?_
                    obtain ⟨hb11, h⟩ := g_if h
                    refine ga_36 C0 hW (C0.mem (i := 151) (Nat.le_of_ble_eq_true rfl)) k_151 hb11 dX15_reckon_182 ?_
                    obtain ⟨q12, hq12, h⟩ := Option.bind_eq_some_iff.mp h
                    refine g_calli hW (g_runS (As := [.int (p2), .int (y 151 p3.toNatClampNeg), .int (y 151 p4.toNatClampNeg)]) (rest := []) C0 hW (c_X15_joined hq12) (g_cwOf (n := 3) tc_X15_joined tn_X15 md_X15_joined (by decide) (by omega)) tm_X15_314 tz_X15_joined rfl hl.1 rfl (Nat.le_of_ble_eq_true rfl) dX15_reckon_183) (fun H locs hW => ?_)
                    obtain rfl := Option.some.inj h
                    exact g_iret C0 hW rfl rfl rfl dX15_reckon_186
set_option maxRecDepth 100000 in
set_option maxHeartbeats 4000000 in
theorem c_X15_held {l : Launch} {G : GL} {ids : List Nat} {x : CS} {o : Nat → Int32} {y : MS} {p1 : Int32} {p2 : Int32} {q : Int32}    (h : f_X15_held p1 p2 = some q) : Met l yX15_held (.code yX15_held cX15_held 2 (Option.some Jvm.ClassFile.FieldType.int) :: gT) (g_rm 1 0 0) (va_Pc [.int (p1), .int (p2)] (g_P G ids (x, y, o))) (g_Qi G ids q (x, y, o)) 0 0 (g_A G) := by
  unfold f_X15_held at h
  refine g_entry (by decide) (Nat.le_of_ble_eq_true rfl) (fun p e s m args below meth c ls C0 hl hW _ => ?_)
  have hl : lv_has ls 2 [(0, .int (p1)), (1, .int (p2))] := hl
  refine lv_iload_n C0.hx C0.hb dX15_held_0 rfl (lv_at hl 0 rfl) ?_
  refine lv_if_ne (tgt := 8) C0.hx C0.hb dX15_held_1 (by decide) (fun hc1 => ?_) (fun hc1 => ?_)
  · replace h := (if_neg hc1).symm.trans h
    refine lv_lconst (v := (1 : Int64)) C0.hx C0.hb dX15_held_8 (by decide) ?_
    refine lv_ldc2 C0.hx C0.hb C0.hown (C0.hts _ tq_X15_317) dX15_held_9 ?_
    refine lv_iload_n C0.hx C0.hb dX15_held_12 rfl (lv_at hl 0 rfl) ?_
    refine lv_i2l C0.hx C0.hb dX15_held_13 rfl ?_
    refine lv_iload_n C0.hx C0.hb dX15_held_14 rfl (lv_at hl 1 rfl) ?_
    refine lv_i2l C0.hx C0.hb dX15_held_15 rfl ?_
    refine lv_ladd C0.hx C0.hb dX15_held_16 ?_
    refine g_minLR C0 hl.1 (Nat.le_of_ble_eq_true rfl) (by omega) tm_X15_319 (by decide) (by decide) dX15_held_17 ?_
    refine g_maxLR C0 hl.1 (Nat.le_of_ble_eq_true rfl) (by omega) tm_X15_322 (by decide) (by decide) dX15_held_20 ?_
    refine lv_l2i C0.hx C0.hb dX15_held_23 rfl ?_
    obtain rfl := Option.some.inj h
    exact g_iret C0 hW rfl rfl rfl dX15_held_24
  · replace h := (if_pos hc1).symm.trans h
    refine lv_iconst (v := (0 : Int32)) C0.hx C0.hb dX15_held_4 (by decide) ?_
    refine lv_goto (tgt := 24) C0.hx C0.hb dX15_held_5 (by decide) ?_
    obtain rfl := Option.some.inj h
    exact g_iret C0 hW rfl rfl rfl dX15_held_24
set_option maxRecDepth 100000 in
set_option maxHeartbeats 4000000 in
theorem w_X15_isShifted_57 {p : Program} {l : Launch} {e : Env} {s : State} {m : MethodId} {args : Array Value} {below : List Frame} {meth : Method} {c : Code} {G : GL} {ids : List Nat} {x : CS} {o : Nat → Int32}  {q : Int32 × MS} {k9 : Nat → Int32 → Int32 → Int32 → Int32 → MS → Option (Int32 × MS)}   (C0 : g_X G ids p s m args meth c cX15_isShifted 7 RX15 (Option.some Jvm.ClassFile.FieldType.boolean)) (kt9 : ∀ (l1 : Nat) (l2 : Int32) (l3 : Int32) (l4 : Int32) (l5 : Int32) (y : MS) (H : Heap) (locs : List Loc) (ls : Array Slot), kd l1 = 14 → k9 l1 l2 l3 l4 l5 y = some q → g_W G ids (x, y, o) s.heap H locs → lv_has ls 7 [(1, .ref (g_ad G (l1))), (2, .int (l2)), (3, .int (l3)), (4, .int (l4)), (5, .int (l5))] → W p l e (g_rm 2 0 0) s m args below meth c H locs 0 0 (MQ below (g_Qi G ids q.1 (x, q.2, o)) args s 0 0 (g_A G)) (F0 m 9 ls [])) : ∀  (l1 : Nat) (l2 : Int32) (l3 : Int32) (l5 : Int32) (l6 : Int32) (s0 : Int32) (s1 : Int32) (y : MS) (H : Heap) (locs : List Loc) (ls : Array Slot), kd l1 = 14 → f_X15_isShifted_57 k9 l1 l2 l3 l5 l6 s0 s1 y = some q → g_W G ids (x, y, o) s.heap H locs → lv_has ls 7 [(1, .ref (g_ad G (l1))), (2, .int (l2)), (3, .int (l3)), (5, .int (l5)), (6, .int (l6))] → W p l e (g_rm 2 0 0) s m args below meth c H locs 0 0 (MQ below (g_Qi G ids q.1 (x, q.2, o)) args s 0 0 (g_A G)) (F0 m 57 ls [.int (s0), .int (s1)]) := by
  intro l1 l2 l3 l5 l6 s0 s1 y H locs ls hk_l1 h hW hl
  unfold f_X15_isShifted_57 at h
  refine lv_ior C0.hx C0.hb dX15_isShifted_57 ?_
  refine lv_istore (lv' := [(4, .int (s1 ||| s0)), (1, .ref (g_ad G (l1))), (2, .int (l2)), (3, .int (l3)), (5, .int (l5)), (6, .int (l6))]) C0.hx C0.hb dX15_isShifted_58 hl (by decide) rfl (fun ls hl => ?_)
  refine lv_aload_n C0.hx C0.hb dX15_isShifted_60 rfl (lv_at hl 1 rfl) ?_
  refine gfN_X13_1 C0 hW (C0.mem (kl14 hk_l1)) hk_l1 tfN_X15_271 dX15_isShifted_61 ?_
  refine lv_iload C0.hx C0.hb dX15_isShifted_64 (lv_at hl 4 rfl) ?_
  refine lv_iload C0.hx C0.hb dX15_isShifted_66 (lv_at hl 5 rfl) ?_
  obtain ⟨hb8, h⟩ := g_if h
  refine gs_34 C0 hW (C0.mem (kl34 (ko14_1 hk_l1))) (ko14_1 hk_l1) hb8 dX15_isShifted_68 (fun H locs hW => ?_)
  refine lv_iinc (v := l5 + (1 : Int32)) (lv' := [(5, .int (l5 + (1 : Int32))), (4, .int (s1 ||| s0)), (1, .ref (g_ad G (l1))), (2, .int (l2)), (3, .int (l3)), (6, .int (l6))]) C0.hx C0.hb dX15_isShifted_69 hl (k := 4) rfl rfl (by decide) rfl (fun ls hl => ?_)
  refine lv_goto (tgt := 9) C0.hx C0.hb dX15_isShifted_72 (by decide) ?_
  exact kt9 _ _ _ _ _ _ _ _ _ hk_l1 h hW (lv_sub hl [2, 3, 4, 1, 0] rfl)
set_option maxRecDepth 100000 in
set_option maxHeartbeats 4000000 in
theorem w_X15_isShifted_9 {p : Program} {l : Launch} {e : Env} {s : State} {m : MethodId} {args : Array Value} {below : List Frame} {meth : Method} {c : Code} {G : GL} {ids : List Nat} {x : CS} {o : Nat → Int32}  {q : Int32 × MS}   (C0 : g_X G ids p s m args meth c cX15_isShifted 7 RX15 (Option.some Jvm.ClassFile.FieldType.boolean))  : ∀ (n : Nat) (l1 : Nat) (l2 : Int32) (l3 : Int32) (l4 : Int32) (l5 : Int32) (y : MS) (H : Heap) (locs : List Loc) (ls : Array Slot), kd l1 = 14 → f_X15_isShifted_9 n l1 l2 l3 l4 l5 y = some q → g_W G ids (x, y, o) s.heap H locs → lv_has ls 7 [(1, .ref (g_ad G (l1))), (2, .int (l2)), (3, .int (l3)), (4, .int (l4)), (5, .int (l5))] → W p l e (g_rm 2 0 0) s m args below meth c H locs 0 0 (MQ below (g_Qi G ids q.1 (x, q.2, o)) args s 0 0 (g_A G)) (F0 m 9 ls []) := by
  intro n
  induction n with
  | zero =>
    intro l1 l2 l3 l4 l5 y H locs ls hk_l1 h hW hl
    exact absurd h (by simp [f_X15_isShifted_9])
  | succ n ih =>
    intro l1 l2 l3 l4 l5 y H locs ls hk_l1 h hW hl
    unfold f_X15_isShifted_9 at h
    refine lv_iload C0.hx C0.hb dX15_isShifted_9 (lv_at hl 4 rfl) ?_
    refine lv_bipush (v := (24 : Int32)) C0.hx C0.hb dX15_isShifted_11 (by decide) ?_
    refine lv_iload_n C0.hx C0.hb dX15_isShifted_13 rfl (lv_at hl 1 rfl) ?_
    refine lv_imul C0.hx C0.hb dX15_isShifted_14 ?_
    refine lv_aload_n C0.hx C0.hb dX15_isShifted_15 rfl (lv_at hl 0 rfl) ?_
    refine gfN_X13_0 C0 hW (C0.mem (kl14 hk_l1)) hk_l1 tfN_X15_270 dX15_isShifted_16 ?_
    refine lv_iload_n C0.hx C0.hb dX15_isShifted_19 rfl (lv_at hl 1 rfl) ?_
    obtain ⟨hb1, h⟩ := g_if h
    refine ga_33 C0 hW (C0.mem (kl33 (ko14_0 hk_l1))) (ko14_0 hk_l1) hb1 dX15_isShifted_20 ?_
    refine lv_iadd C0.hx C0.hb dX15_isShifted_21 ?_
    refine lv_icmp_ge (tgt := 75) C0.hx C0.hb dX15_isShifted_22 (by decide) (fun hc2 => ?_) (fun hc2 => ?_)
    · replace h := (if_pos hc2).symm.trans h
      refine lv_iload C0.hx C0.hb dX15_isShifted_75 (lv_at hl 3 rfl) ?_
      obtain ⟨hb3, h⟩ := g_if h
      obtain rfl := Option.some.inj h
      exact g_iret C0 hW rfl (g_bool hb3).1 rfl dX15_isShifted_77
    · replace h := (if_neg hc2).symm.trans h
      refine lv_aload_n C0.hx C0.hb dX15_isShifted_25 rfl (lv_at hl 0 rfl) ?_
      refine gfN_X13_1 C0 hW (C0.mem (kl14 hk_l1)) hk_l1 tfN_X15_271 dX15_isShifted_26 ?_
      refine lv_iload C0.hx C0.hb dX15_isShifted_29 (lv_at hl 4 rfl) ?_
      obtain ⟨hb4, h⟩ := g_if h
      refine ga_34 C0 hW (C0.mem (kl34 (ko14_1 hk_l1))) (ko14_1 hk_l1) hb4 dX15_isShifted_31 ?_
      refine lv_iload_n C0.hx C0.hb dX15_isShifted_32 rfl (lv_at hl 2 rfl) ?_
      obtain ⟨q5, hq5, h⟩ := Option.bind_eq_some_iff.mp h
      refine g_calli hW (g_runS (As := [.int (y (l1 + 2) l5.toNatClampNeg), .int (l3)]) (rest := []) C0 hW (c_X15_held hq5) (g_cwOf (n := 2) tc_X15_held tn_X15 md_X15_held (by decide) (by omega)) tm_X15_324 tz_X15_held rfl hl.1 rfl (Nat.le_of_ble_eq_true rfl) dX15_isShifted_33) (fun H locs hW => ?_)
      refine lv_istore (lv' := [(6, .int (q5)), (1, .ref (g_ad G (l1))), (2, .int (l2)), (3, .int (l3)), (4, .int (l4)), (5, .int (l5))]) C0.hx C0.hb dX15_isShifted_36 hl (by decide) rfl (fun ls hl => ?_)
      refine lv_iload C0.hx C0.hb dX15_isShifted_38 (lv_at hl 4 rfl) ?_
      refine lv_iload C0.hx C0.hb dX15_isShifted_40 (lv_at hl 0 rfl) ?_
      refine lv_aload_n C0.hx C0.hb dX15_isShifted_42 rfl (lv_at hl 1 rfl) ?_
      refine gfN_X13_1 C0 hW (C0.mem (kl14 hk_l1)) hk_l1 tfN_X15_271 dX15_isShifted_43 ?_
      refine lv_iload C0.hx C0.hb dX15_isShifted_46 (lv_at hl 5 rfl) ?_
      obtain ⟨hb6, h⟩ := g_if h
      refine ga_34 C0 hW (C0.mem (kl34 (ko14_1 hk_l1))) (ko14_1 hk_l1) hb6 dX15_isShifted_48 ?_
      refine lv_icmp_eq (tgt := 56) C0.hx C0.hb dX15_isShifted_49 (by decide) (fun hc7 => ?_) (fun hc7 => ?_)
      · replace h := (if_pos hc7).symm.trans h
        refine lv_iconst (v := (0 : Int32)) C0.hx C0.hb dX15_isShifted_56 (by decide) ?_
        exact w_X15_isShifted_57 C0 ih _ _ _ _ _ _ _ _ _ _ _ hk_l1 h hW (lv_sub hl [1, 2, 3, 5, 0] rfl)
      · replace h := (if_neg hc7).symm.trans h
        refine lv_iconst (v := (1 : Int32)) C0.hx C0.hb dX15_isShifted_52 (by decide) ?_
        refine lv_goto (tgt := 57) C0.hx C0.hb dX15_isShifted_53 (by decide) ?_
        exact w_X15_isShifted_57 C0 ih _ _ _ _ _ _ _ _ _ _ _ hk_l1 h hW (lv_sub hl [1, 2, 3, 5, 0] rfl)
set_option maxRecDepth 100000 in
set_option maxHeartbeats 4000000 in
theorem c_X15_isShifted {l : Launch} {G : GL} {ids : List Nat} {x : CS} {o : Nat → Int32} {y : MS} {p1 : Nat} {p2 : Int32} {p3 : Int32} {q : Int32 × MS}   (hk_p1 : kd p1 = 14) (h : f_X15_isShifted p1 p2 p3 y = some q) : Met l yX15_isShifted (.code yX15_isShifted cX15_isShifted 7 (Option.some Jvm.ClassFile.FieldType.boolean) :: gT) (g_rm 2 0 0) (va_Pc [.ref (g_ad G (120)), .ref (g_ad G (p1)), .int (p2), .int (p3)] (g_P G ids (x, y, o))) (g_Qi G ids q.1 (x, q.2, o)) 0 0 (g_A G) := by
  unfold f_X15_isShifted at h
  refine g_entry (by decide) (Nat.le_of_ble_eq_true rfl) (fun p e s m args below meth c ls C0 hl hW _ => ?_)
  have hl : lv_has ls 7 [(0, .ref (g_ad G (120))), (1, .ref (g_ad G (p1))), (2, .int (p2)), (3, .int (p3))] := hl
  refine lv_iconst (v := (0 : Int32)) C0.hx C0.hb dX15_isShifted_0 (by decide) ?_
  refine lv_istore (lv' := [(4, .int ((0 : Int32))), (0, .ref (g_ad G (120))), (1, .ref (g_ad G (p1))), (2, .int (p2)), (3, .int (p3))]) C0.hx C0.hb dX15_isShifted_1 hl (by decide) rfl (fun ls hl => ?_)
  refine lv_bipush (v := (24 : Int32)) C0.hx C0.hb dX15_isShifted_3 (by decide) ?_
  refine lv_iload_n C0.hx C0.hb dX15_isShifted_5 rfl (lv_at hl 3 rfl) ?_
  refine lv_imul C0.hx C0.hb dX15_isShifted_6 ?_
  refine lv_istore (lv' := [(5, .int ((24 : Int32) * p2)), (4, .int ((0 : Int32))), (0, .ref (g_ad G (120))), (1, .ref (g_ad G (p1))), (2, .int (p2)), (3, .int (p3))]) C0.hx C0.hb dX15_isShifted_7 hl (by decide) rfl (fun ls hl => ?_)
  exact w_X15_isShifted_9 C0 g_fuel _ _ _ _ _ _ _ _ _ hk_p1 h hW (lv_sub hl [3, 4, 5, 1, 0] rfl)
set_option maxRecDepth 100000 in
set_option maxHeartbeats 4000000 in
theorem w_X15_carryOut_178 {p : Program} {l : Launch} {e : Env} {s : State} {m : MethodId} {args : Array Value} {below : List Frame} {meth : Method} {c : Code} {G : GL} {ids : List Nat} {x : CS} {o : Nat → Int32}  {q : Int32 × MS}   (C0 : g_X G ids p s m args meth c cX15_carryOut 6 RX15 (Option.some Jvm.ClassFile.FieldType.boolean))  : ∀  (l1 : Nat) (l3 : Int32) (l4 : Int32) (s0 : Int32) (y : MS) (H : Heap) (locs : List Loc) (ls : Array Slot), kd l1 = 14 → f_X15_carryOut_178 l1 l3 l4 s0 y = some q → g_W G ids (x, y, o) s.heap H locs → lv_has ls 6 [(1, .ref (g_ad G (l1))), (3, .int (l3)), (4, .int (l4))] → W p l e (g_rm 7 0 0) s m args below meth c H locs 0 0 (MQ below (g_Qi G ids q.1 (x, q.2, o)) args s 0 0 (g_A G)) (F0 m 178 ls [.int (s0)]) := by
  intro l1 l3 l4 s0 y H locs ls hk_l1 h hW hl
  unfold f_X15_carryOut_178 at h
  refine lv_istore (lv' := [(5, .int (s0)), (1, .ref (g_ad G (l1))), (3, .int (l3)), (4, .int (l4))]) C0.hx C0.hb dX15_carryOut_178 hl (by decide) rfl (fun ls hl => ?_)
  refine lv_aload_n C0.hx C0.hb dX15_carryOut_180 rfl (lv_at hl 1 rfl) ?_
  refine gfN_X13_2 C0 hW (C0.mem (kl14 hk_l1)) hk_l1 tfN_X15_293 dX15_carryOut_181 ?_
  refine lv_iload_n C0.hx C0.hb dX15_carryOut_184 rfl (lv_at hl 2 rfl) ?_
  refine lv_iload C0.hx C0.hb dX15_carryOut_185 (lv_at hl 3 rfl) ?_
  obtain ⟨hb25, h⟩ := g_if h
  refine gs_32 C0 hW (C0.mem (kl32 (ko14_2 hk_l1))) (ko14_2 hk_l1) hb25 dX15_carryOut_187 (fun H locs hW => ?_)
  refine lv_iload C0.hx C0.hb dX15_carryOut_188 (lv_at hl 0 rfl) ?_
  obtain ⟨hb26, h⟩ := g_if h
  obtain rfl := Option.some.inj h
  exact g_iret C0 hW rfl (g_bool hb26).1 rfl dX15_carryOut_190
set_option maxRecDepth 100000 in
set_option maxHeartbeats 4000000 in
theorem w_X15_carryOut_160 {p : Program} {l : Launch} {e : Env} {s : State} {m : MethodId} {args : Array Value} {below : List Frame} {meth : Method} {c : Code} {G : GL} {ids : List Nat} {x : CS} {o : Nat → Int32}  {q : Int32 × MS}   (C0 : g_X G ids p s m args meth c cX15_carryOut 6 RX15 (Option.some Jvm.ClassFile.FieldType.boolean))  : ∀  (l1 : Nat) (l3 : Int32) (s0 : Int32) (y : MS) (H : Heap) (locs : List Loc) (ls : Array Slot), kd l1 = 14 → f_X15_carryOut_160 l1 l3 s0 y = some q → g_W G ids (x, y, o) s.heap H locs → lv_has ls 6 [(1, .ref (g_ad G (l1))), (3, .int (l3))] → W p l e (g_rm 7 0 0) s m args below meth c H locs 0 0 (MQ below (g_Qi G ids q.1 (x, q.2, o)) args s 0 0 (g_A G)) (F0 m 160 ls [.int (s0)]) := by
  intro l1 l3 s0 y H locs ls hk_l1 h hW hl
  unfold f_X15_carryOut_160 at h
  refine lv_istore (lv' := [(4, .int (s0)), (1, .ref (g_ad G (l1))), (3, .int (l3))]) C0.hx C0.hb dX15_carryOut_160 hl (by decide) rfl (fun ls hl => ?_)
  refine lv_aload_n C0.hx C0.hb dX15_carryOut_162 rfl (lv_at hl 1 rfl) ?_
  refine gfN_X13_2 C0 hW (C0.mem (kl14 hk_l1)) hk_l1 tfN_X15_293 dX15_carryOut_163 ?_
  refine lv_iload_n C0.hx C0.hb dX15_carryOut_166 rfl (lv_at hl 2 rfl) ?_
  obtain ⟨hb23, h⟩ := g_if h
  refine ga_32 C0 hW (C0.mem (kl32 (ko14_2 hk_l1))) (ko14_2 hk_l1) hb23 dX15_carryOut_167 ?_
  refine lv_iload C0.hx C0.hb dX15_carryOut_168 (lv_at hl 0 rfl) ?_
  refine lv_icmp_eq (tgt := 177) C0.hx C0.hb dX15_carryOut_170 (by decide) (fun hc24 => ?_) (fun hc24 => ?_)
  · replace h := (if_pos hc24).symm.trans h
    refine lv_iconst (v := (0 : Int32)) C0.hx C0.hb dX15_carryOut_177 (by decide) ?_
    exact w_X15_carryOut_178 C0 _ _ _ _ _ _ _ _ hk_l1 h hW (lv_sub hl [1, 2, 0] rfl)
  · replace h := (if_neg hc24).symm.trans h
    refine lv_iconst (v := (1 : Int32)) C0.hx C0.hb dX15_carryOut_173 (by decide) ?_
    refine lv_goto (tgt := 178) C0.hx C0.hb dX15_carryOut_174 (by decide) ?_
    exact w_X15_carryOut_178 C0 _ _ _ _ _ _ _ _ hk_l1 h hW (lv_sub hl [1, 2, 0] rfl)
set_option maxRecDepth 100000 in
set_option maxHeartbeats 4000000 in
theorem w_X15_carryOut_99 {p : Program} {l : Launch} {e : Env} {s : State} {m : MethodId} {args : Array Value} {below : List Frame} {meth : Method} {c : Code} {G : GL} {ids : List Nat} {x : CS} {o : Nat → Int32}  {q : Int32 × MS}   (C0 : g_X G ids p s m args meth c cX15_carryOut 6 RX15 (Option.some Jvm.ClassFile.FieldType.boolean))  : ∀  (l1 : Nat) (l2 : Int32) (y : MS) (H : Heap) (locs : List Loc) (ls : Array Slot), kd l1 = 14 → f_X15_carryOut_99 l1 l2 y = some q → g_W G ids (x, y, o) s.heap H locs → lv_has ls 6 [(0, .ref (g_ad G (120))), (1, .ref (g_ad G (l1))), (2, .int (l2))] → W p l e (g_rm 7 0 0) s m args below meth c H locs 0 0 (MQ below (g_Qi G ids q.1 (x, q.2, o)) args s 0 0 (g_A G)) (F0 m 99 ls []) := by
  intro l1 l2 y H locs ls hk_l1 h hW hl
  unfold f_X15_carryOut_99 at h
  refine lv_aload_n C0.hx C0.hb dX15_carryOut_99 rfl (lv_at hl 0 rfl) ?_
  refine gf_X15_14 C0 hW (C0.mem (i := 120) (Nat.le_of_ble_eq_true rfl)) k_120 tf_X15_35 dX15_carryOut_100 ?_
  refine gfN_X14_7 C0 hW (C0.mem (i := 127) (Nat.le_of_ble_eq_true rfl)) k_127 tfN_X15_232 dX15_carryOut_103 ?_
  refine lv_iload_n C0.hx C0.hb dX15_carryOut_106 rfl (lv_at hl 2 rfl) ?_
  obtain ⟨hb14, h⟩ := g_if h
  refine ga_35 C0 hW (C0.mem (i := 131) (Nat.le_of_ble_eq_true rfl)) k_131 hb14 dX15_carryOut_107 ?_
  refine lv_istore_n (lv' := [(3, .int (y 131 l2.toNatClampNeg)), (0, .ref (g_ad G (120))), (1, .ref (g_ad G (l1))), (2, .int (l2))]) C0.hx C0.hb dX15_carryOut_108 rfl hl (by decide) rfl (fun ls hl => ?_)
  refine lv_aload_n C0.hx C0.hb dX15_carryOut_109 rfl (lv_at hl 1 rfl) ?_
  refine gf_X15_14 C0 hW (C0.mem (i := 120) (Nat.le_of_ble_eq_true rfl)) k_120 tf_X15_35 dX15_carryOut_110 ?_
  refine gfN_X14_6 C0 hW (C0.mem (i := 127) (Nat.le_of_ble_eq_true rfl)) k_127 tfN_X15_229 dX15_carryOut_113 ?_
  refine lv_iload_n C0.hx C0.hb dX15_carryOut_116 rfl (lv_at hl 3 rfl) ?_
  obtain ⟨hb15, h⟩ := g_if h
  refine ga_35 C0 hW (C0.mem (i := 130) (Nat.le_of_ble_eq_true rfl)) k_130 hb15 dX15_carryOut_117 ?_
  refine lv_iconst (v := (2 : Int32)) C0.hx C0.hb dX15_carryOut_118 (by decide) ?_
  refine lv_icmp_ne (tgt := 143) C0.hx C0.hb dX15_carryOut_119 (by decide) (fun hc16 => ?_) (fun hc16 => ?_)
  · replace h := (if_neg hc16).symm.trans h
    refine lv_aload_n C0.hx C0.hb dX15_carryOut_143 rfl (lv_at hl 1 rfl) ?_
    refine gf_X15_14 C0 hW (C0.mem (i := 120) (Nat.le_of_ble_eq_true rfl)) k_120 tf_X15_35 dX15_carryOut_144 ?_
    refine gfN_X14_6 C0 hW (C0.mem (i := 127) (Nat.le_of_ble_eq_true rfl)) k_127 tfN_X15_229 dX15_carryOut_147 ?_
    refine lv_iload_n C0.hx C0.hb dX15_carryOut_150 rfl (lv_at hl 3 rfl) ?_
    obtain ⟨hb17, h⟩ := g_if h
    refine ga_35 C0 hW (C0.mem (i := 130) (Nat.le_of_ble_eq_true rfl)) k_130 hb17 dX15_carryOut_151 ?_
    refine lv_if_ne (tgt := 159) C0.hx C0.hb dX15_carryOut_152 (by decide) (fun hc18 => ?_) (fun hc18 => ?_)
    · replace h := (if_neg hc18).symm.trans h
      refine lv_iconst (v := (0 : Int32)) C0.hx C0.hb dX15_carryOut_159 (by decide) ?_
      exact w_X15_carryOut_160 C0 _ _ _ _ _ _ _ hk_l1 h hW (lv_sub hl [2, 0] rfl)
    · replace h := (if_pos hc18).symm.trans h
      refine lv_iconst (v := (1 : Int32)) C0.hx C0.hb dX15_carryOut_155 (by decide) ?_
      refine lv_goto (tgt := 160) C0.hx C0.hb dX15_carryOut_156 (by decide) ?_
      exact w_X15_carryOut_160 C0 _ _ _ _ _ _ _ hk_l1 h hW (lv_sub hl [2, 0] rfl)
  · replace h := (if_pos hc16).symm.trans h
    refine lv_aload_n C0.hx C0.hb dX15_carryOut_122 rfl (lv_at hl 1 rfl) ?_
    refine lv_aload_n C0.hx C0.hb dX15_carryOut_123 rfl (lv_at hl 2 rfl) ?_
    refine lv_iload_n C0.hx C0.hb dX15_carryOut_124 rfl (lv_at hl 0 rfl) ?_
    refine lv_aload_n C0.hx C0.hb dX15_carryOut_125 rfl (lv_at hl 1 rfl) ?_
    refine gf_X15_16 C0 hW (C0.mem (i := 120) (Nat.le_of_ble_eq_true rfl)) k_120 tf_X15_42 dX15_carryOut_126 ?_
    refine lv_aload_n C0.hx C0.hb dX15_carryOut_129 rfl (lv_at hl 1 rfl) ?_
    refine gf_X15_14 C0 hW (C0.mem (i := 120) (Nat.le_of_ble_eq_true rfl)) k_120 tf_X15_35 dX15_carryOut_130 ?_
    refine gfN_X14_10 C0 hW (C0.mem (i := 127) (Nat.le_of_ble_eq_true rfl)) k_127 tfN_X15_235 dX15_carryOut_133 ?_
    refine lv_iload_n C0.hx C0.hb dX15_carryOut_136 rfl (lv_at hl 3 rfl) ?_
    obtain ⟨hb19, h⟩ := g_if h
    refine ga_35 C0 hW (C0.mem (i := 134) (Nat.le_of_ble_eq_true rfl)) k_134 hb19 dX15_carryOut_137 ?_
    obtain ⟨hb20, h⟩ := g_if h
    refine ga_36 C0 hW (C0.mem (i := 151) (Nat.le_of_ble_eq_true rfl)) k_151 hb20 dX15_carryOut_138 ?_
    obtain ⟨q21, hq21, h⟩ := Option.bind_eq_some_iff.mp h
    refine g_calli hW (g_runV (As := [.ref (g_ad G (l1)), .int (y 131 l2.toNatClampNeg), .int (y 151 (y 134 l2.toNatClampNeg).toNatClampNeg)]) (rest := []) C0 hW (c_X15_isShifted hk_l1 hq21) (g_cwOf (n := 3) tc_X15_isShifted tn_X15 md_X15_isShifted (by decide) (by omega)) tm_X15_331 ti_X15_isShifted ts_X15_isShifted (C0.mem (i := 120) (Nat.le_of_ble_eq_true rfl)) (g_c12 k_120) rfl rfl hl.1 rfl (Nat.le_of_ble_eq_true rfl) dX15_carryOut_139) (fun H locs hW => ?_)
    obtain ⟨hb22, h⟩ := g_if h
    obtain rfl := Option.some.inj h
    exact g_iret C0 hW rfl (g_bool hb22).1 rfl dX15_carryOut_142
set_option maxRecDepth 100000 in
set_option maxHeartbeats 4000000 in
theorem w_X15_carryOut_10 {p : Program} {l : Launch} {e : Env} {s : State} {m : MethodId} {args : Array Value} {below : List Frame} {meth : Method} {c : Code} {G : GL} {ids : List Nat} {x : CS} {o : Nat → Int32}  {q : Int32 × MS}   (C0 : g_X G ids p s m args meth c cX15_carryOut 6 RX15 (Option.some Jvm.ClassFile.FieldType.boolean))  : ∀ (n : Nat) (l1 : Nat) (l2 : Int32) (l3 : Int32) (y : MS) (H : Heap) (locs : List Loc) (ls : Array Slot), kd l1 = 14 → f_X15_carryOut_10 n l1 l2 l3 y = some q → g_W G ids (x, y, o) s.heap H locs → lv_has ls 6 [(0, .ref (g_ad G (120))), (1, .ref (g_ad G (l1))), (2, .int (l2)), (3, .int (l3))] → W p l e (g_rm 7 0 0) s m args below meth c H locs 0 0 (MQ below (g_Qi G ids q.1 (x, q.2, o)) args s 0 0 (g_A G)) (F0 m 10 ls []) := by
  intro n
  induction n with
  | zero =>
    intro l1 l2 l3 y H locs ls hk_l1 h hW hl
    exact absurd h (by simp [f_X15_carryOut_10])
  | succ n ih =>
    intro l1 l2 l3 y H locs ls hk_l1 h hW hl
    unfold f_X15_carryOut_10 at h
    refine lv_iload_n C0.hx C0.hb dX15_carryOut_10 rfl (lv_at hl 3 rfl) ?_
    refine lv_aload_n C0.hx C0.hb dX15_carryOut_11 rfl (lv_at hl 0 rfl) ?_
    refine gf_X15_14 C0 hW (C0.mem (i := 120) (Nat.le_of_ble_eq_true rfl)) k_120 tf_X15_35 dX15_carryOut_12 ?_
    refine gfN_X14_9 C0 hW (C0.mem (i := 127) (Nat.le_of_ble_eq_true rfl)) k_127 tfN_X15_239 dX15_carryOut_15 ?_
    refine lv_iload_n C0.hx C0.hb dX15_carryOut_18 rfl (lv_at hl 2 rfl) ?_
    obtain ⟨hb2, h⟩ := g_if h
    refine ga_35 C0 hW (C0.mem (i := 133) (Nat.le_of_ble_eq_true rfl)) k_133 hb2 dX15_carryOut_19 ?_
    refine lv_icmp_ge (tgt := 67) C0.hx C0.hb dX15_carryOut_20 (by decide) (fun hc3 => ?_) (fun hc3 => ?_)
    · replace h := (if_pos hc3).symm.trans h
      refine lv_aload_n C0.hx C0.hb dX15_carryOut_67 rfl (lv_at hl 0 rfl) ?_
      refine gf_X15_14 C0 hW (C0.mem (i := 120) (Nat.le_of_ble_eq_true rfl)) k_120 tf_X15_35 dX15_carryOut_68 ?_
      refine gfN_X14_11 C0 hW (C0.mem (i := 127) (Nat.le_of_ble_eq_true rfl)) k_127 tfN_X15_237 dX15_carryOut_71 ?_
      refine lv_iload_n C0.hx C0.hb dX15_carryOut_74 rfl (lv_at hl 2 rfl) ?_
      obtain ⟨hb4, h⟩ := g_if h
      refine ga_35 C0 hW (C0.mem (i := 135) (Nat.le_of_ble_eq_true rfl)) k_135 hb4 dX15_carryOut_75 ?_
      refine lv_iconst (v := (-1 : Int32)) C0.hx C0.hb dX15_carryOut_76 (by decide) ?_
      refine lv_icmp_eq (tgt := 99) C0.hx C0.hb dX15_carryOut_77 (by decide) (fun hc5 => ?_) (fun hc5 => ?_)
      · replace h := (if_pos hc5).symm.trans h
        exact w_X15_carryOut_99 C0 _ _ _ _ _ _ hk_l1 h hW (lv_sub hl [0, 1, 2] rfl)
      · replace h := (if_neg hc5).symm.trans h
        refine lv_aload_n C0.hx C0.hb dX15_carryOut_80 rfl (lv_at hl 0 rfl) ?_
        refine gf_X15_16 C0 hW (C0.mem (i := 120) (Nat.le_of_ble_eq_true rfl)) k_120 tf_X15_42 dX15_carryOut_81 ?_
        refine lv_aload_n C0.hx C0.hb dX15_carryOut_84 rfl (lv_at hl 0 rfl) ?_
        refine gf_X15_14 C0 hW (C0.mem (i := 120) (Nat.le_of_ble_eq_true rfl)) k_120 tf_X15_35 dX15_carryOut_85 ?_
        refine gfN_X14_11 C0 hW (C0.mem (i := 127) (Nat.le_of_ble_eq_true rfl)) k_127 tfN_X15_237 dX15_carryOut_88 ?_
        refine lv_iload_n C0.hx C0.hb dX15_carryOut_91 rfl (lv_at hl 2 rfl) ?_
        obtain ⟨hb6, h⟩ := g_if h
        refine ga_35 C0 hW (C0.mem (i := 135) (Nat.le_of_ble_eq_true rfl)) k_135 hb6 dX15_carryOut_92 ?_
        obtain ⟨hb7, h⟩ := g_if h
        refine ga_36 C0 hW (C0.mem (i := 151) (Nat.le_of_ble_eq_true rfl)) k_151 hb7 dX15_carryOut_93 ?_
        refine lv_if_ne (tgt := 99) C0.hx C0.hb dX15_carryOut_94 (by decide) (fun hc8 => ?_) (fun hc8 => ?_)
        · replace h := (if_neg hc8).symm.trans h
          exact w_X15_carryOut_99 C0 _ _ _ _ _ _ hk_l1 h hW (lv_sub hl [0, 1, 2] rfl)
        · replace h := (if_pos hc8).symm.trans h
          refine lv_iconst (v := (0 : Int32)) C0.hx C0.hb dX15_carryOut_97 (by decide) ?_
          obtain rfl := Option.some.inj h
          exact g_iret C0 hW rfl (g_bool (Or.inl rfl)).1 rfl dX15_carryOut_98
    · replace h := (if_neg hc3).symm.trans h
      refine lv_aload_n C0.hx C0.hb dX15_carryOut_23 rfl (lv_at hl 0 rfl) ?_
      refine gf_X15_16 C0 hW (C0.mem (i := 120) (Nat.le_of_ble_eq_true rfl)) k_120 tf_X15_42 dX15_carryOut_24 ?_
      refine lv_iload_n C0.hx C0.hb dX15_carryOut_27 rfl (lv_at hl 3 rfl) ?_
      refine lv_aload_n C0.hx C0.hb dX15_carryOut_28 rfl (lv_at hl 0 rfl) ?_
      refine lv_aload_n C0.hx C0.hb dX15_carryOut_29 rfl (lv_at hl 1 rfl) ?_
      refine lv_aload_n C0.hx C0.hb dX15_carryOut_30 rfl (lv_at hl 0 rfl) ?_
      refine gf_X15_14 C0 hW (C0.mem (i := 120) (Nat.le_of_ble_eq_true rfl)) k_120 tf_X15_35 dX15_carryOut_31 ?_
      refine gfN_X14_13 C0 hW (C0.mem (i := 127) (Nat.le_of_ble_eq_true rfl)) k_127 tfN_X15_138 dX15_carryOut_34 ?_
      refine lv_iload_n C0.hx C0.hb dX15_carryOut_37 rfl (lv_at hl 3 rfl) ?_
      obtain ⟨hb9, h⟩ := g_if h
      refine ga_36 C0 hW (C0.mem (i := 136) (Nat.le_of_ble_eq_true rfl)) k_136 hb9 dX15_carryOut_38 ?_
      refine lv_aload_n C0.hx C0.hb dX15_carryOut_39 rfl (lv_at hl 0 rfl) ?_
      refine gf_X15_14 C0 hW (C0.mem (i := 120) (Nat.le_of_ble_eq_true rfl)) k_120 tf_X15_35 dX15_carryOut_40 ?_
      refine gfN_X14_14 C0 hW (C0.mem (i := 127) (Nat.le_of_ble_eq_true rfl)) k_127 tfN_X15_141 dX15_carryOut_43 ?_
      refine lv_iload_n C0.hx C0.hb dX15_carryOut_46 rfl (lv_at hl 3 rfl) ?_
      obtain ⟨hb10, h⟩ := g_if h
      refine ga_36 C0 hW (C0.mem (i := 137) (Nat.le_of_ble_eq_true rfl)) k_137 hb10 dX15_carryOut_47 ?_
      refine lv_aload_n C0.hx C0.hb dX15_carryOut_48 rfl (lv_at hl 0 rfl) ?_
      refine gf_X15_14 C0 hW (C0.mem (i := 120) (Nat.le_of_ble_eq_true rfl)) k_120 tf_X15_35 dX15_carryOut_49 ?_
      refine gfN_X14_15 C0 hW (C0.mem (i := 127) (Nat.le_of_ble_eq_true rfl)) k_127 tfN_X15_144 dX15_carryOut_52 ?_
      refine lv_iload_n C0.hx C0.hb dX15_carryOut_55 rfl (lv_at hl 3 rfl) ?_
      obtain ⟨hb11, h⟩ := g_if h
      refine ga_36 C0 hW (C0.mem (i := 138) (Nat.le_of_ble_eq_true rfl)) k_138 hb11 dX15_carryOut_56 ?_
      obtain ⟨q12, hq12, h⟩ := Option.bind_eq_some_iff.mp h
      refine g_calli hW (g_runV (As := [.ref (g_ad G (l1)), .int (y 136 l3.toNatClampNeg), .int (y 137 l3.toNatClampNeg), .int (y 138 l3.toNatClampNeg)]) (rest := [.int (l3), .ref (g_ad G (151))]) C0 hW (c_X15_reckon hk_l1 hq12) (g_cwOf (n := 4) tc_X15_reckon tn_X15 md_X15_reckon (by decide) (by omega)) tm_X15_327 ti_X15_reckon ts_X15_reckon (C0.mem (i := 120) (Nat.le_of_ble_eq_true rfl)) (g_c12 k_120) rfl rfl hl.1 rfl (Nat.le_of_ble_eq_true rfl) dX15_carryOut_57) (fun H locs hW => ?_)
      obtain ⟨hb13, h⟩ := g_if h
      refine gs_36 C0 hW (C0.mem (i := 151) (Nat.le_of_ble_eq_true rfl)) k_151 hb13 dX15_carryOut_60 (fun H locs hW => ?_)
      refine lv_iinc (v := l3 + (1 : Int32)) (lv' := [(3, .int (l3 + (1 : Int32))), (0, .ref (g_ad G (120))), (1, .ref (g_ad G (l1))), (2, .int (l2))]) C0.hx C0.hb dX15_carryOut_61 hl (k := 3) rfl rfl (by decide) rfl (fun ls hl => ?_)
      refine lv_goto (tgt := 10) C0.hx C0.hb dX15_carryOut_64 (by decide) ?_
      exact ih _ _ _ _ _ _ _ hk_l1 h hW (lv_sub hl [1, 2, 3, 0] rfl)
set_option maxRecDepth 100000 in
set_option maxHeartbeats 4000000 in
theorem c_X15_carryOut {l : Launch} {G : GL} {ids : List Nat} {x : CS} {o : Nat → Int32} {y : MS} {p1 : Nat} {p2 : Int32} {q : Int32 × MS}   (hk_p1 : kd p1 = 14) (h : f_X15_carryOut p1 p2 y = some q) : Met l yX15_carryOut (.code yX15_carryOut cX15_carryOut 6 (Option.some Jvm.ClassFile.FieldType.boolean) :: gT) (g_rm 7 0 0) (va_Pc [.ref (g_ad G (120)), .ref (g_ad G (p1)), .int (p2)] (g_P G ids (x, y, o))) (g_Qi G ids q.1 (x, q.2, o)) 0 0 (g_A G) := by
  unfold f_X15_carryOut at h
  refine g_entry (by decide) (Nat.le_of_ble_eq_true rfl) (fun p e s m args below meth c ls C0 hl hW _ => ?_)
  have hl : lv_has ls 6 [(0, .ref (g_ad G (120))), (1, .ref (g_ad G (p1))), (2, .int (p2))] := hl
  refine lv_aload_n C0.hx C0.hb dX15_carryOut_0 rfl (lv_at hl 0 rfl) ?_
  refine gf_X15_14 C0 hW (C0.mem (i := 120) (Nat.le_of_ble_eq_true rfl)) k_120 tf_X15_35 dX15_carryOut_1 ?_
  refine gfN_X14_8 C0 hW (C0.mem (i := 127) (Nat.le_of_ble_eq_true rfl)) k_127 tfN_X15_226 dX15_carryOut_4 ?_
  refine lv_iload_n C0.hx C0.hb dX15_carryOut_7 rfl (lv_at hl 2 rfl) ?_
  obtain ⟨hb1, h⟩ := g_if h
  refine ga_35 C0 hW (C0.mem (i := 132) (Nat.le_of_ble_eq_true rfl)) k_132 hb1 dX15_carryOut_8 ?_
  refine lv_istore_n (lv' := [(3, .int (y 132 p2.toNatClampNeg)), (0, .ref (g_ad G (120))), (1, .ref (g_ad G (p1))), (2, .int (p2))]) C0.hx C0.hb dX15_carryOut_9 rfl hl (by decide) rfl (fun ls hl => ?_)
  exact w_X15_carryOut_10 C0 g_fuel _ _ _ _ _ _ _ hk_p1 h hW (lv_sub hl [1, 2, 3, 0] rfl)
set_option maxRecDepth 100000 in
set_option maxHeartbeats 4000000 in
theorem w_X15_lesson_4 {p : Program} {l : Launch} {e : Env} {s : State} {m : MethodId} {args : Array Value} {below : List Frame} {meth : Method} {c : Code} {G : GL} {ids : List Nat} {x : CS} {o : Nat → Int32}  {q : Int32 × MS}   (C0 : g_X G ids p s m args meth c cX15_lesson 4 RX15 (Option.some Jvm.ClassFile.FieldType.int))  : ∀ (n : Nat) (l1 : Nat) (l2 : Int32) (l3 : Int32) (y : MS) (H : Heap) (locs : List Loc) (ls : Array Slot), kd l1 = 14 → f_X15_lesson_4 n l1 l2 l3 y = some q → g_W G ids (x, y, o) s.heap H locs → lv_has ls 4 [(0, .ref (g_ad G (120))), (1, .ref (g_ad G (l1))), (2, .int (l2)), (3, .int (l3))] → W p l e (g_rm 8 0 0) s m args below meth c H locs 0 0 (MQ below (g_Qi G ids q.1 (x, q.2, o)) args s 0 0 (g_A G)) (F0 m 4 ls []) := by
  intro n
  induction n with
  | zero =>
    intro l1 l2 l3 y H locs ls hk_l1 h hW hl
    exact absurd h (by simp [f_X15_lesson_4])
  | succ n ih =>
    intro l1 l2 l3 y H locs ls hk_l1 h hW hl
    unfold f_X15_lesson_4 at h
    refine lv_iload_n C0.hx C0.hb dX15_lesson_4 rfl (lv_at hl 3 rfl) ?_
    refine lv_aload_n C0.hx C0.hb dX15_lesson_5 rfl (lv_at hl 0 rfl) ?_
    refine gf_X15_14 C0 hW (C0.mem (i := 120) (Nat.le_of_ble_eq_true rfl)) k_120 tf_X15_35 dX15_lesson_6 ?_
    refine gfN_X14_5 C0 hW (C0.mem (i := 127) (Nat.le_of_ble_eq_true rfl)) k_127 tfN_X15_223 dX15_lesson_9 ?_
    refine lv_icmp_ge (tgt := 38) C0.hx C0.hb dX15_lesson_12 (by decide) (fun hc1 => ?_) (fun hc1 => ?_)
    · replace h := (if_pos hc1).symm.trans h
      refine lv_aload_n C0.hx C0.hb dX15_lesson_38 rfl (lv_at hl 1 rfl) ?_
      refine lv_dup C0.hx C0.hb dX15_lesson_39 rfl ?_
      refine gfN_X13_4 C0 hW (C0.mem (kl14 hk_l1)) hk_l1 tfN_X15_338 dX15_lesson_40 ?_
      refine lv_iload_n C0.hx C0.hb dX15_lesson_43 rfl (lv_at hl 2 rfl) ?_
      refine lv_iadd C0.hx C0.hb dX15_lesson_44 ?_
      refine gpN_X13_4 C0 hW (C0.mem (kl14 hk_l1)) hk_l1 tfN_X15_338 dX15_lesson_45 (fun H locs hW => ?_)
      refine lv_aload_n C0.hx C0.hb dX15_lesson_48 rfl (lv_at hl 1 rfl) ?_
      refine lv_dup C0.hx C0.hb dX15_lesson_49 rfl ?_
      refine gfN_X13_3 C0 hW (C0.mem (kl14 hk_l1)) hk_l1 tfN_X15_303 dX15_lesson_50 ?_
      refine lv_iconst (v := (1 : Int32)) C0.hx C0.hb dX15_lesson_53 (by decide) ?_
      refine lv_iadd C0.hx C0.hb dX15_lesson_54 ?_
      refine gpN_X13_3 C0 hW (C0.mem (kl14 hk_l1)) hk_l1 tfN_X15_303 dX15_lesson_55 (fun H locs hW => ?_)
      refine lv_iload_n C0.hx C0.hb dX15_lesson_58 rfl (lv_at hl 2 rfl) ?_
      obtain rfl := Option.some.inj h
      exact g_iret C0 hW rfl rfl rfl dX15_lesson_59
    · replace h := (if_neg hc1).symm.trans h
      refine lv_iload_n C0.hx C0.hb dX15_lesson_15 rfl (lv_at hl 2 rfl) ?_
      refine lv_aload_n C0.hx C0.hb dX15_lesson_16 rfl (lv_at hl 0 rfl) ?_
      refine lv_aload_n C0.hx C0.hb dX15_lesson_17 rfl (lv_at hl 1 rfl) ?_
      refine lv_iload_n C0.hx C0.hb dX15_lesson_18 rfl (lv_at hl 3 rfl) ?_
      obtain ⟨q2, hq2, h⟩ := Option.bind_eq_some_iff.mp h
      refine g_calli hW (g_runV (As := [.ref (g_ad G (l1)), .int (l3)]) (rest := [.int (l2)]) C0 hW (c_X15_carryOut hk_l1 hq2) (g_cwOf (n := 2) tc_X15_carryOut tn_X15 md_X15_carryOut (by decide) (by omega)) tm_X15_334 ti_X15_carryOut ts_X15_carryOut (C0.mem (i := 120) (Nat.le_of_ble_eq_true rfl)) (g_c12 k_120) rfl rfl hl.1 rfl (Nat.le_of_ble_eq_true rfl) dX15_lesson_19) (fun H locs hW => ?_)
      refine lv_if_eq (tgt := 29) C0.hx C0.hb dX15_lesson_22 (by decide) (fun hc3 => ?_) (fun hc3 => ?_)
      · replace h := (if_pos hc3).symm.trans h
        refine lv_iconst (v := (0 : Int32)) C0.hx C0.hb dX15_lesson_29 (by decide) ?_
        refine lv_iadd C0.hx C0.hb dX15_lesson_30 ?_
        refine lv_istore_n (lv' := [(2, .int (l2 + (0 : Int32))), (0, .ref (g_ad G (120))), (1, .ref (g_ad G (l1))), (3, .int (l3))]) C0.hx C0.hb dX15_lesson_31 rfl hl (by decide) rfl (fun ls hl => ?_)
        refine lv_iinc (v := l3 + (1 : Int32)) (lv' := [(3, .int (l3 + (1 : Int32))), (2, .int (l2 + (0 : Int32))), (0, .ref (g_ad G (120))), (1, .ref (g_ad G (l1)))]) C0.hx C0.hb dX15_lesson_32 hl (k := 3) rfl rfl (by decide) rfl (fun ls hl => ?_)
        refine lv_goto (tgt := 4) C0.hx C0.hb dX15_lesson_35 (by decide) ?_
        exact ih _ _ _ _ _ _ _ hk_l1 h hW (lv_sub hl [2, 3, 1, 0] rfl)
      · replace h := (if_neg hc3).symm.trans h
        refine lv_iconst (v := (1 : Int32)) C0.hx C0.hb dX15_lesson_25 (by decide) ?_
        refine lv_goto (tgt := 30) C0.hx C0.hb dX15_lesson_26 (by decide) ?_
        refine lv_iadd C0.hx C0.hb dX15_lesson_30 ?_
        refine lv_istore_n (lv' := [(2, .int (l2 + (1 : Int32))), (0, .ref (g_ad G (120))), (1, .ref (g_ad G (l1))), (3, .int (l3))]) C0.hx C0.hb dX15_lesson_31 rfl hl (by decide) rfl (fun ls hl => ?_)
        refine lv_iinc (v := l3 + (1 : Int32)) (lv' := [(3, .int (l3 + (1 : Int32))), (2, .int (l2 + (1 : Int32))), (0, .ref (g_ad G (120))), (1, .ref (g_ad G (l1)))]) C0.hx C0.hb dX15_lesson_32 hl (k := 3) rfl rfl (by decide) rfl (fun ls hl => ?_)
        refine lv_goto (tgt := 4) C0.hx C0.hb dX15_lesson_35 (by decide) ?_
        exact ih _ _ _ _ _ _ _ hk_l1 h hW (lv_sub hl [2, 3, 1, 0] rfl)
set_option maxRecDepth 100000 in
set_option maxHeartbeats 4000000 in
theorem c_X15_lesson {l : Launch} {G : GL} {ids : List Nat} {x : CS} {o : Nat → Int32} {y : MS} {p1 : Nat} {q : Int32 × MS}   (hk_p1 : kd p1 = 14) (h : f_X15_lesson p1 y = some q) : Met l yX15_lesson (.code yX15_lesson cX15_lesson 4 (Option.some Jvm.ClassFile.FieldType.int) :: gT) (g_rm 8 0 0) (va_Pc [.ref (g_ad G (120)), .ref (g_ad G (p1))] (g_P G ids (x, y, o))) (g_Qi G ids q.1 (x, q.2, o)) 0 0 (g_A G) := by
  unfold f_X15_lesson at h
  refine g_entry (by decide) (Nat.le_of_ble_eq_true rfl) (fun p e s m args below meth c ls C0 hl hW _ => ?_)
  have hl : lv_has ls 4 [(0, .ref (g_ad G (120))), (1, .ref (g_ad G (p1)))] := hl
  refine lv_iconst (v := (0 : Int32)) C0.hx C0.hb dX15_lesson_0 (by decide) ?_
  refine lv_istore_n (lv' := [(2, .int ((0 : Int32))), (0, .ref (g_ad G (120))), (1, .ref (g_ad G (p1)))]) C0.hx C0.hb dX15_lesson_1 rfl hl (by decide) rfl (fun ls hl => ?_)
  refine lv_iconst (v := (0 : Int32)) C0.hx C0.hb dX15_lesson_2 (by decide) ?_
  refine lv_istore_n (lv' := [(3, .int ((0 : Int32))), (2, .int ((0 : Int32))), (0, .ref (g_ad G (120))), (1, .ref (g_ad G (p1)))]) C0.hx C0.hb dX15_lesson_3 rfl hl (by decide) rfl (fun ls hl => ?_)
  exact w_X15_lesson_4 C0 g_fuel _ _ _ _ _ _ _ hk_p1 h hW (lv_sub hl [2, 3, 1, 0] rfl)
set_option maxRecDepth 100000 in
set_option maxHeartbeats 4000000 in
theorem c_X15_words {l : Launch} {G : GL} {ids : List Nat} {x : CS} {o : Nat → Int32} {y : MS}  {q : Int32 × MS}    (h : f_X15_words y = some q) : Met l yX15_words (.code yX15_words cX15_words 1 (Option.some Jvm.ClassFile.FieldType.int) :: gT) (g_rm 1 0 0) (va_Pc [.ref (g_ad G (120))] (g_P G ids (x, y, o))) (g_Qi G ids q.1 (x, q.2, o)) 0 0 (g_A G) := by
  unfold f_X15_words at h
  refine g_entry (by decide) (Nat.le_of_ble_eq_true rfl) (fun p e s m args below meth c ls C0 hl hW _ => ?_)
  have hl : lv_has ls 1 [(0, .ref (g_ad G (120)))] := hl
  refine lv_aload_n C0.hx C0.hb dX15_words_0 rfl (lv_at hl 0 rfl) ?_
  refine lv_aload_n C0.hx C0.hb dX15_words_1 rfl (lv_at hl 0 rfl) ?_
  refine gf_X15_14 C0 hW (C0.mem (i := 120) (Nat.le_of_ble_eq_true rfl)) k_120 tf_X15_35 dX15_words_2 ?_
  refine gfN_X14_2 C0 hW (C0.mem (i := 127) (Nat.le_of_ble_eq_true rfl)) k_127 tfN_X15_147 dX15_words_5 ?_
  obtain ⟨q1, hq1, h⟩ := Option.bind_eq_some_iff.mp h
  refine g_calli hW (g_runV (As := [.int (y 127 2)]) (rest := []) C0 hW (c_X15_ok hq1) (g_cwOf (n := 1) tc_X15_ok tn_X15 md_X15_ok (by decide) (by omega)) tm_X15_267 ti_X15_ok ts_X15_ok (C0.mem (i := 120) (Nat.le_of_ble_eq_true rfl)) (g_c12 k_120) rfl rfl hl.1 rfl (Nat.le_of_ble_eq_true rfl) dX15_words_8) (fun H locs hW => ?_)
  obtain rfl := Option.some.inj h
  exact g_iret C0 hW rfl rfl rfl dX15_words_11
set_option maxRecDepth 100000 in
set_option maxHeartbeats 4000000 in
theorem c_X15_keptWords {l : Launch} {G : GL} {ids : List Nat} {x : CS} {o : Nat → Int32} {y : MS}  {q : Int32 × MS}    (h : f_X15_keptWords y = some q) : Met l yX15_keptWords (.code yX15_keptWords cX15_keptWords 1 (Option.some Jvm.ClassFile.FieldType.int) :: gT) (g_rm 1 0 0) (va_Pc [.ref (g_ad G (120))] (g_P G ids (x, y, o))) (g_Qi G ids q.1 (x, q.2, o)) 0 0 (g_A G) := by
  unfold f_X15_keptWords at h
  refine g_entry (by decide) (Nat.le_of_ble_eq_true rfl) (fun p e s m args below meth c ls C0 hl hW _ => ?_)
  have hl : lv_has ls 1 [(0, .ref (g_ad G (120)))] := hl
  refine lv_aload_n C0.hx C0.hb dX15_keptWords_0 rfl (lv_at hl 0 rfl) ?_
  refine lv_aload_n C0.hx C0.hb dX15_keptWords_1 rfl (lv_at hl 0 rfl) ?_
  refine lv_aload_n C0.hx C0.hb dX15_keptWords_2 rfl (lv_at hl 0 rfl) ?_
  refine gf_X15_17 C0 hW (C0.mem (i := 120) (Nat.le_of_ble_eq_true rfl)) k_120 tf_X15_48 dX15_keptWords_3 ?_
  obtain ⟨q1, hq1, h⟩ := Option.bind_eq_some_iff.mp h
  refine g_calli hW (g_runV (As := [.ref (g_ad G (152))]) (rest := [.ref (g_ad G (120))]) C0 hW (c_X15_kept k_152 hq1) (g_cwOf (n := 1) tc_X15_kept tn_X15 md_X15_kept (by decide) (by omega)) tm_X15_306 ti_X15_kept ts_X15_kept (C0.mem (i := 120) (Nat.le_of_ble_eq_true rfl)) (g_c12 k_120) rfl rfl hl.1 rfl (Nat.le_of_ble_eq_true rfl) dX15_keptWords_6) (fun H locs hW => ?_)
  obtain ⟨q2, hq2, h⟩ := Option.bind_eq_some_iff.mp h
  refine g_calli hW (g_runV (As := [.int (q1)]) (rest := []) C0 hW (c_X15_ok hq2) (g_cwOf (n := 1) tc_X15_ok tn_X15 md_X15_ok (by decide) (by omega)) tm_X15_267 ti_X15_ok ts_X15_ok (C0.mem (i := 120) (Nat.le_of_ble_eq_true rfl)) (g_c12 k_120) rfl rfl hl.1 rfl (Nat.le_of_ble_eq_true rfl) dX15_keptWords_9) (fun H locs hW => ?_)
  obtain rfl := Option.some.inj h
  exact g_iret C0 hW rfl rfl rfl dX15_keptWords_12
set_option maxRecDepth 100000 in
set_option maxHeartbeats 4000000 in
theorem c_X15_rules {l : Launch} {G : GL} {ids : List Nat} {x : CS} {o : Nat → Int32} {y : MS}  {q : Int32 × MS}    (h : f_X15_rules y = some q) : Met l yX15_rules (.code yX15_rules cX15_rules 1 (Option.some Jvm.ClassFile.FieldType.int) :: gT) (g_rm 1 0 0) (va_Pc [.ref (g_ad G (120))] (g_P G ids (x, y, o))) (g_Qi G ids q.1 (x, q.2, o)) 0 0 (g_A G) := by
  unfold f_X15_rules at h
  refine g_entry (by decide) (Nat.le_of_ble_eq_true rfl) (fun p e s m args below meth c ls C0 hl hW _ => ?_)
  have hl : lv_has ls 1 [(0, .ref (g_ad G (120)))] := hl
  refine lv_aload_n C0.hx C0.hb dX15_rules_0 rfl (lv_at hl 0 rfl) ?_
  refine lv_aload_n C0.hx C0.hb dX15_rules_1 rfl (lv_at hl 0 rfl) ?_
  refine gf_X15_14 C0 hW (C0.mem (i := 120) (Nat.le_of_ble_eq_true rfl)) k_120 tf_X15_35 dX15_rules_2 ?_
  refine gfN_X14_5 C0 hW (C0.mem (i := 127) (Nat.le_of_ble_eq_true rfl)) k_127 tfN_X15_223 dX15_rules_5 ?_
  obtain ⟨q1, hq1, h⟩ := Option.bind_eq_some_iff.mp h
  refine g_calli hW (g_runV (As := [.int (y 127 5)]) (rest := []) C0 hW (c_X15_ok hq1) (g_cwOf (n := 1) tc_X15_ok tn_X15 md_X15_ok (by decide) (by omega)) tm_X15_267 ti_X15_ok ts_X15_ok (C0.mem (i := 120) (Nat.le_of_ble_eq_true rfl)) (g_c12 k_120) rfl rfl hl.1 rfl (Nat.le_of_ble_eq_true rfl) dX15_rules_8) (fun H locs hW => ?_)
  obtain rfl := Option.some.inj h
  exact g_iret C0 hW rfl rfl rfl dX15_rules_11
set_option maxRecDepth 100000 in
set_option maxHeartbeats 4000000 in
theorem c_X15_lessons {l : Launch} {G : GL} {ids : List Nat} {x : CS} {o : Nat → Int32} {y : MS}  {q : Int32 × MS}    (h : f_X15_lessons y = some q) : Met l yX15_lessons (.code yX15_lessons cX15_lessons 1 (Option.some Jvm.ClassFile.FieldType.int) :: gT) (g_rm 1 0 0) (va_Pc [.ref (g_ad G (120))] (g_P G ids (x, y, o))) (g_Qi G ids q.1 (x, q.2, o)) 0 0 (g_A G) := by
  unfold f_X15_lessons at h
  refine g_entry (by decide) (Nat.le_of_ble_eq_true rfl) (fun p e s m args below meth c ls C0 hl hW _ => ?_)
  have hl : lv_has ls 1 [(0, .ref (g_ad G (120)))] := hl
  refine lv_aload_n C0.hx C0.hb dX15_lessons_0 rfl (lv_at hl 0 rfl) ?_
  refine lv_aload_n C0.hx C0.hb dX15_lessons_1 rfl (lv_at hl 0 rfl) ?_
  refine gf_X15_17 C0 hW (C0.mem (i := 120) (Nat.le_of_ble_eq_true rfl)) k_120 tf_X15_48 dX15_lessons_2 ?_
  refine gfN_X13_3 C0 hW (C0.mem (i := 152) (Nat.le_of_ble_eq_true rfl)) k_152 tfN_X15_303 dX15_lessons_5 ?_
  obtain ⟨q1, hq1, h⟩ := Option.bind_eq_some_iff.mp h
  refine g_calli hW (g_runV (As := [.int (y 152 3)]) (rest := []) C0 hW (c_X15_ok hq1) (g_cwOf (n := 1) tc_X15_ok tn_X15 md_X15_ok (by decide) (by omega)) tm_X15_267 ti_X15_ok ts_X15_ok (C0.mem (i := 120) (Nat.le_of_ble_eq_true rfl)) (g_c12 k_120) rfl rfl hl.1 rfl (Nat.le_of_ble_eq_true rfl) dX15_lessons_8) (fun H locs hW => ?_)
  obtain rfl := Option.some.inj h
  exact g_iret C0 hW rfl rfl rfl dX15_lessons_11
set_option maxRecDepth 100000 in
set_option maxHeartbeats 4000000 in
theorem c_X15_rulesCarriedOut {l : Launch} {G : GL} {ids : List Nat} {x : CS} {o : Nat → Int32} {y : MS}  {q : Int32 × MS}    (h : f_X15_rulesCarriedOut y = some q) : Met l yX15_rulesCarriedOut (.code yX15_rulesCarriedOut cX15_rulesCarriedOut 1 (Option.some Jvm.ClassFile.FieldType.int) :: gT) (g_rm 1 0 0) (va_Pc [.ref (g_ad G (120))] (g_P G ids (x, y, o))) (g_Qi G ids q.1 (x, q.2, o)) 0 0 (g_A G) := by
  unfold f_X15_rulesCarriedOut at h
  refine g_entry (by decide) (Nat.le_of_ble_eq_true rfl) (fun p e s m args below meth c ls C0 hl hW _ => ?_)
  have hl : lv_has ls 1 [(0, .ref (g_ad G (120)))] := hl
  refine lv_aload_n C0.hx C0.hb dX15_rulesCarriedOut_0 rfl (lv_at hl 0 rfl) ?_
  refine lv_aload_n C0.hx C0.hb dX15_rulesCarriedOut_1 rfl (lv_at hl 0 rfl) ?_
  refine gf_X15_17 C0 hW (C0.mem (i := 120) (Nat.le_of_ble_eq_true rfl)) k_120 tf_X15_48 dX15_rulesCarriedOut_2 ?_
  refine gfN_X13_4 C0 hW (C0.mem (i := 152) (Nat.le_of_ble_eq_true rfl)) k_152 tfN_X15_338 dX15_rulesCarriedOut_5 ?_
  obtain ⟨q1, hq1, h⟩ := Option.bind_eq_some_iff.mp h
  refine g_calli hW (g_runV (As := [.int (y 152 4)]) (rest := []) C0 hW (c_X15_ok hq1) (g_cwOf (n := 1) tc_X15_ok tn_X15 md_X15_ok (by decide) (by omega)) tm_X15_267 ti_X15_ok ts_X15_ok (C0.mem (i := 120) (Nat.le_of_ble_eq_true rfl)) (g_c12 k_120) rfl rfl hl.1 rfl (Nat.le_of_ble_eq_true rfl) dX15_rulesCarriedOut_8) (fun H locs hW => ?_)
  obtain rfl := Option.some.inj h
  exact g_iret C0 hW rfl rfl rfl dX15_rulesCarriedOut_11
set_option maxRecDepth 100000 in
set_option maxHeartbeats 4000000 in
theorem c_X15_heardBeats {l : Launch} {G : GL} {ids : List Nat} {x : CS} {o : Nat → Int32} {y : MS}  {q : Int32 × MS}    (h : f_X15_heardBeats y = some q) : Met l yX15_heardBeats (.code yX15_heardBeats cX15_heardBeats 1 (Option.some Jvm.ClassFile.FieldType.int) :: gT) (g_rm 1 0 0) (va_Pc [.ref (g_ad G (120))] (g_P G ids (x, y, o))) (g_Qi G ids q.1 (x, q.2, o)) 0 0 (g_A G) := by
  unfold f_X15_heardBeats at h
  refine g_entry (by decide) (Nat.le_of_ble_eq_true rfl) (fun p e s m args below meth c ls C0 hl hW _ => ?_)
  have hl : lv_has ls 1 [(0, .ref (g_ad G (120)))] := hl
  refine lv_aload_n C0.hx C0.hb dX15_heardBeats_0 rfl (lv_at hl 0 rfl) ?_
  refine lv_aload_n C0.hx C0.hb dX15_heardBeats_1 rfl (lv_at hl 0 rfl) ?_
  refine gf_X15_17 C0 hW (C0.mem (i := 120) (Nat.le_of_ble_eq_true rfl)) k_120 tf_X15_48 dX15_heardBeats_2 ?_
  refine gfN_X13_0 C0 hW (C0.mem (i := 152) (Nat.le_of_ble_eq_true rfl)) k_152 tfN_X15_270 dX15_heardBeats_5 ?_
  refine lv_bipush (v := (8 : Int32)) C0.hx C0.hb dX15_heardBeats_8 (by decide) ?_
  obtain ⟨hb1, h⟩ := g_if h
  refine ga_33 C0 hW (C0.mem (i := 153) (Nat.le_of_ble_eq_true rfl)) k_153 hb1 dX15_heardBeats_10 ?_
  obtain ⟨q2, hq2, h⟩ := Option.bind_eq_some_iff.mp h
  refine g_calli hW (g_runV (As := [.int (y 153 (8 : Int32).toNatClampNeg)]) (rest := []) C0 hW (c_X15_ok hq2) (g_cwOf (n := 1) tc_X15_ok tn_X15 md_X15_ok (by decide) (by omega)) tm_X15_267 ti_X15_ok ts_X15_ok (C0.mem (i := 120) (Nat.le_of_ble_eq_true rfl)) (g_c12 k_120) rfl rfl hl.1 rfl (Nat.le_of_ble_eq_true rfl) dX15_heardBeats_11) (fun H locs hW => ?_)
  obtain rfl := Option.some.inj h
  exact g_iret C0 hW rfl rfl rfl dX15_heardBeats_14
set_option maxRecDepth 100000 in
set_option maxHeartbeats 4000000 in
theorem c_X15_isTold {l : Launch} {G : GL} {ids : List Nat} {x : CS} {o : Nat → Int32} {y : MS} {p1 : Int32} {q : Int32}    (h : f_X15_isTold p1 y = some q) : Met l yX15_isTold (.code yX15_isTold cX15_isTold 2 (Option.some Jvm.ClassFile.FieldType.boolean) :: gT) (g_rm 1 0 0) (va_Pc [.ref (g_ad G (120)), .int (p1)] (g_P G ids (x, y, o))) (g_Qi G ids q (x, y, o)) 0 0 (g_A G) := by
  unfold f_X15_isTold at h
  refine g_entry (by decide) (Nat.le_of_ble_eq_true rfl) (fun p e s m args below meth c ls C0 hl hW _ => ?_)
  have hl : lv_has ls 2 [(0, .ref (g_ad G (120))), (1, .int (p1))] := hl
  refine lv_iload_n C0.hx C0.hb dX15_isTold_0 rfl (lv_at hl 1 rfl) ?_
  refine lv_iconst (v := (0 : Int32)) C0.hx C0.hb dX15_isTold_1 (by decide) ?_
  refine lv_aload_n C0.hx C0.hb dX15_isTold_2 rfl (lv_at hl 0 rfl) ?_
  refine gf_X15_14 C0 hW (C0.mem (i := 120) (Nat.le_of_ble_eq_true rfl)) k_120 tf_X15_35 dX15_isTold_3 ?_
  refine gfN_X14_2 C0 hW (C0.mem (i := 127) (Nat.le_of_ble_eq_true rfl)) k_127 tfN_X15_147 dX15_isTold_6 ?_
  refine lv_iconst (v := (1 : Int32)) C0.hx C0.hb dX15_isTold_9 (by decide) ?_
  refine lv_isub C0.hx C0.hb dX15_isTold_10 ?_
  obtain ⟨q1, hq1, h⟩ := Option.bind_eq_some_iff.mp h
  refine g_calli hW (g_runS (As := [.int (p1), .int ((0 : Int32)), .int ((y 127 2) - (1 : Int32))]) (rest := []) C0 hW (c_X15_isIn hq1) (g_cwOf (n := 3) tc_X15_isIn tn_X15 md_X15_isIn (by decide) (by omega)) tm_X15_65 tz_X15_isIn rfl hl.1 rfl (Nat.le_of_ble_eq_true rfl) dX15_isTold_11) (fun H locs hW => ?_)
  obtain ⟨hb2, h⟩ := g_if h
  obtain rfl := Option.some.inj h
  exact g_iret C0 hW rfl (g_bool hb2).1 rfl dX15_isTold_14
set_option maxRecDepth 100000 in
set_option maxHeartbeats 4000000 in
theorem c_X15_isBeat {l : Launch} {G : GL} {ids : List Nat} {x : CS} {o : Nat → Int32} {y : MS} {p1 : Int32} {p2 : Int32} {q : Int32}    (h : f_X15_isBeat p1 p2 y = some q) : Met l yX15_isBeat (.code yX15_isBeat cX15_isBeat 3 (Option.some Jvm.ClassFile.FieldType.boolean) :: gT) (g_rm 2 0 0) (va_Pc [.ref (g_ad G (120)), .int (p1), .int (p2)] (g_P G ids (x, y, o))) (g_Qi G ids q (x, y, o)) 0 0 (g_A G) := by
  unfold f_X15_isBeat at h
  refine g_entry (by decide) (Nat.le_of_ble_eq_true rfl) (fun p e s m args below meth c ls C0 hl hW _ => ?_)
  have hl : lv_has ls 3 [(0, .ref (g_ad G (120))), (1, .int (p1)), (2, .int (p2))] := hl
  refine lv_aload_n C0.hx C0.hb dX15_isBeat_0 rfl (lv_at hl 0 rfl) ?_
  refine lv_iload_n C0.hx C0.hb dX15_isBeat_1 rfl (lv_at hl 1 rfl) ?_
  obtain ⟨q1, hq1, h⟩ := Option.bind_eq_some_iff.mp h
  refine g_calli hW (g_runV (As := [.int (p1)]) (rest := []) C0 hW (c_X15_isTold hq1) (g_cwOf (n := 1) tc_X15_isTold tn_X15 md_X15_isTold (by decide) (by omega)) tm_X15_341 ti_X15_isTold ts_X15_isTold (C0.mem (i := 120) (Nat.le_of_ble_eq_true rfl)) (g_c12 k_120) rfl rfl hl.1 rfl (Nat.le_of_ble_eq_true rfl) dX15_isBeat_2) (fun H locs hW => ?_)
  refine lv_if_eq (tgt := 31) C0.hx C0.hb dX15_isBeat_5 (by decide) (fun hc2 => ?_) (fun hc2 => ?_)
  · replace h := (if_pos hc2).symm.trans h
    refine lv_iconst (v := (0 : Int32)) C0.hx C0.hb dX15_isBeat_31 (by decide) ?_
    obtain rfl := Option.some.inj h
    exact g_iret C0 hW rfl (g_bool (Or.inl rfl)).1 rfl dX15_isBeat_32
  · replace h := (if_neg hc2).symm.trans h
    refine lv_iload_n C0.hx C0.hb dX15_isBeat_8 rfl (lv_at hl 2 rfl) ?_
    refine lv_iconst (v := (0 : Int32)) C0.hx C0.hb dX15_isBeat_9 (by decide) ?_
    refine lv_aload_n C0.hx C0.hb dX15_isBeat_10 rfl (lv_at hl 0 rfl) ?_
    refine gf_X15_17 C0 hW (C0.mem (i := 120) (Nat.le_of_ble_eq_true rfl)) k_120 tf_X15_48 dX15_isBeat_11 ?_
    refine gfN_X13_0 C0 hW (C0.mem (i := 152) (Nat.le_of_ble_eq_true rfl)) k_152 tfN_X15_270 dX15_isBeat_14 ?_
    refine lv_iload_n C0.hx C0.hb dX15_isBeat_17 rfl (lv_at hl 1 rfl) ?_
    obtain ⟨hb3, h⟩ := g_if h
    refine ga_33 C0 hW (C0.mem (i := 153) (Nat.le_of_ble_eq_true rfl)) k_153 hb3 dX15_isBeat_18 ?_
    refine lv_iconst (v := (1 : Int32)) C0.hx C0.hb dX15_isBeat_19 (by decide) ?_
    refine lv_isub C0.hx C0.hb dX15_isBeat_20 ?_
    obtain ⟨q4, hq4, h⟩ := Option.bind_eq_some_iff.mp h
    refine g_calli hW (g_runS (As := [.int (p2), .int ((0 : Int32)), .int ((y 153 p1.toNatClampNeg) - (1 : Int32))]) (rest := []) C0 hW (c_X15_isIn hq4) (g_cwOf (n := 3) tc_X15_isIn tn_X15 md_X15_isIn (by decide) (by omega)) tm_X15_65 tz_X15_isIn rfl hl.1 rfl (Nat.le_of_ble_eq_true rfl) dX15_isBeat_21) (fun H locs hW => ?_)
    refine lv_if_eq (tgt := 31) C0.hx C0.hb dX15_isBeat_24 (by decide) (fun hc5 => ?_) (fun hc5 => ?_)
    · replace h := (if_pos hc5).symm.trans h
      refine lv_iconst (v := (0 : Int32)) C0.hx C0.hb dX15_isBeat_31 (by decide) ?_
      obtain rfl := Option.some.inj h
      exact g_iret C0 hW rfl (g_bool (Or.inl rfl)).1 rfl dX15_isBeat_32
    · replace h := (if_neg hc5).symm.trans h
      refine lv_iconst (v := (1 : Int32)) C0.hx C0.hb dX15_isBeat_27 (by decide) ?_
      refine lv_goto (tgt := 32) C0.hx C0.hb dX15_isBeat_28 (by decide) ?_
      obtain rfl := Option.some.inj h
      exact g_iret C0 hW rfl (g_bool (Or.inr rfl)).1 rfl dX15_isBeat_32
set_option maxRecDepth 100000 in
set_option maxHeartbeats 4000000 in
theorem c_X15_lengthOf {l : Launch} {G : GL} {ids : List Nat} {x : CS} {o : Nat → Int32} {y : MS} {p1 : Int32} {q : Int32 × MS}    (h : f_X15_lengthOf p1 y = some q) : Met l yX15_lengthOf (.code yX15_lengthOf cX15_lengthOf 2 (Option.some Jvm.ClassFile.FieldType.int) :: gT) (g_rm 2 0 0) (va_Pc [.ref (g_ad G (120)), .int (p1)] (g_P G ids (x, y, o))) (g_Qi G ids q.1 (x, q.2, o)) 0 0 (g_A G) := by
  unfold f_X15_lengthOf at h
  refine g_entry (by decide) (Nat.le_of_ble_eq_true rfl) (fun p e s m args below meth c ls C0 hl hW _ => ?_)
  have hl : lv_has ls 2 [(0, .ref (g_ad G (120))), (1, .int (p1))] := hl
  refine lv_aload_n C0.hx C0.hb dX15_lengthOf_0 rfl (lv_at hl 0 rfl) ?_
  refine lv_iconst (v := (0 : Int32)) C0.hx C0.hb dX15_lengthOf_1 (by decide) ?_
  refine gp_X15_0 C0 hW (C0.mem (i := 120) (Nat.le_of_ble_eq_true rfl)) k_120 tf_X15_62 dX15_lengthOf_2 (fun H locs hW => ?_)
  refine lv_aload_n C0.hx C0.hb dX15_lengthOf_5 rfl (lv_at hl 0 rfl) ?_
  refine lv_iload_n C0.hx C0.hb dX15_lengthOf_6 rfl (lv_at hl 1 rfl) ?_
  obtain ⟨q1, hq1, h⟩ := Option.bind_eq_some_iff.mp h
  refine g_calli hW (g_runV (As := [.int (p1)]) (rest := []) C0 hW (c_X15_isTold hq1) (g_cwOf (n := 1) tc_X15_isTold tn_X15 md_X15_isTold (by decide) (by omega)) tm_X15_341 ti_X15_isTold ts_X15_isTold (C0.mem (i := 120) (Nat.le_of_ble_eq_true rfl)) (g_c12 k_120) rfl rfl hl.1 rfl (Nat.le_of_ble_eq_true rfl) dX15_lengthOf_7) (fun H locs hW => ?_)
  refine lv_if_eq (tgt := 25) C0.hx C0.hb dX15_lengthOf_10 (by decide) (fun hc2 => ?_) (fun hc2 => ?_)
  · replace h := (if_pos hc2).symm.trans h
    refine lv_aload_n C0.hx C0.hb dX15_lengthOf_25 rfl (lv_at hl 0 rfl) ?_
    refine lv_iconst (v := (1 : Int32)) C0.hx C0.hb dX15_lengthOf_26 (by decide) ?_
    obtain ⟨q3, hq3, h⟩ := Option.bind_eq_some_iff.mp h
    refine g_calli hW (g_runV (As := [.int ((1 : Int32))]) (rest := []) C0 hW (c_X15_no hq3) (g_cwOf (n := 1) tc_X15_no tn_X15 md_X15_no (by decide) (by omega)) tm_X15_253 ti_X15_no ts_X15_no (C0.mem (i := 120) (Nat.le_of_ble_eq_true rfl)) (g_c12 k_120) rfl rfl hl.1 rfl (Nat.le_of_ble_eq_true rfl) dX15_lengthOf_27) (fun H locs hW => ?_)
    obtain rfl := Option.some.inj h
    exact g_iret C0 hW rfl rfl rfl dX15_lengthOf_30
  · replace h := (if_neg hc2).symm.trans h
    refine lv_aload_n C0.hx C0.hb dX15_lengthOf_13 rfl (lv_at hl 0 rfl) ?_
    refine gf_X15_17 C0 hW (C0.mem (i := 120) (Nat.le_of_ble_eq_true rfl)) k_120 tf_X15_48 dX15_lengthOf_14 ?_
    refine gfN_X13_0 C0 hW (C0.mem (i := 152) (Nat.le_of_ble_eq_true rfl)) k_152 tfN_X15_270 dX15_lengthOf_17 ?_
    refine lv_iload_n C0.hx C0.hb dX15_lengthOf_20 rfl (lv_at hl 1 rfl) ?_
    obtain ⟨hb4, h⟩ := g_if h
    refine ga_33 C0 hW (C0.mem (i := 153) (Nat.le_of_ble_eq_true rfl)) k_153 hb4 dX15_lengthOf_21 ?_
    refine lv_goto (tgt := 30) C0.hx C0.hb dX15_lengthOf_22 (by decide) ?_
    obtain rfl := Option.some.inj h
    exact g_iret C0 hW rfl rfl rfl dX15_lengthOf_30
set_option maxRecDepth 100000 in
set_option maxHeartbeats 4000000 in
theorem c_X15_pitchAt {l : Launch} {G : GL} {ids : List Nat} {x : CS} {o : Nat → Int32} {y : MS} {p1 : Int32} {p2 : Int32} {q : Int32 × MS}    (h : f_X15_pitchAt p1 p2 y = some q) : Met l yX15_pitchAt (.code yX15_pitchAt cX15_pitchAt 3 (Option.some Jvm.ClassFile.FieldType.int) :: gT) (g_rm 3 0 0) (va_Pc [.ref (g_ad G (120)), .int (p1), .int (p2)] (g_P G ids (x, y, o))) (g_Qi G ids q.1 (x, q.2, o)) 0 0 (g_A G) := by
  unfold f_X15_pitchAt at h
  refine g_entry (by decide) (Nat.le_of_ble_eq_true rfl) (fun p e s m args below meth c ls C0 hl hW _ => ?_)
  have hl : lv_has ls 3 [(0, .ref (g_ad G (120))), (1, .int (p1)), (2, .int (p2))] := hl
  refine lv_aload_n C0.hx C0.hb dX15_pitchAt_0 rfl (lv_at hl 0 rfl) ?_
  refine lv_iconst (v := (0 : Int32)) C0.hx C0.hb dX15_pitchAt_1 (by decide) ?_
  refine gp_X15_0 C0 hW (C0.mem (i := 120) (Nat.le_of_ble_eq_true rfl)) k_120 tf_X15_62 dX15_pitchAt_2 (fun H locs hW => ?_)
  refine lv_aload_n C0.hx C0.hb dX15_pitchAt_5 rfl (lv_at hl 0 rfl) ?_
  refine lv_iload_n C0.hx C0.hb dX15_pitchAt_6 rfl (lv_at hl 1 rfl) ?_
  refine lv_iload_n C0.hx C0.hb dX15_pitchAt_7 rfl (lv_at hl 2 rfl) ?_
  obtain ⟨q1, hq1, h⟩ := Option.bind_eq_some_iff.mp h
  refine g_calli hW (g_runV (As := [.int (p1), .int (p2)]) (rest := []) C0 hW (c_X15_isBeat hq1) (g_cwOf (n := 2) tc_X15_isBeat tn_X15 md_X15_isBeat (by decide) (by omega)) tm_X15_344 ti_X15_isBeat ts_X15_isBeat (C0.mem (i := 120) (Nat.le_of_ble_eq_true rfl)) (g_c12 k_120) rfl rfl hl.1 rfl (Nat.le_of_ble_eq_true rfl) dX15_pitchAt_8) (fun H locs hW => ?_)
  refine lv_if_eq (tgt := 31) C0.hx C0.hb dX15_pitchAt_11 (by decide) (fun hc2 => ?_) (fun hc2 => ?_)
  · replace h := (if_pos hc2).symm.trans h
    refine lv_aload_n C0.hx C0.hb dX15_pitchAt_31 rfl (lv_at hl 0 rfl) ?_
    refine lv_iconst (v := (1 : Int32)) C0.hx C0.hb dX15_pitchAt_32 (by decide) ?_
    obtain ⟨q3, hq3, h⟩ := Option.bind_eq_some_iff.mp h
    refine g_calli hW (g_runV (As := [.int ((1 : Int32))]) (rest := []) C0 hW (c_X15_no hq3) (g_cwOf (n := 1) tc_X15_no tn_X15 md_X15_no (by decide) (by omega)) tm_X15_253 ti_X15_no ts_X15_no (C0.mem (i := 120) (Nat.le_of_ble_eq_true rfl)) (g_c12 k_120) rfl rfl hl.1 rfl (Nat.le_of_ble_eq_true rfl) dX15_pitchAt_33) (fun H locs hW => ?_)
    obtain rfl := Option.some.inj h
    exact g_iret C0 hW rfl rfl rfl dX15_pitchAt_36
  · replace h := (if_neg hc2).symm.trans h
    refine lv_aload_n C0.hx C0.hb dX15_pitchAt_14 rfl (lv_at hl 0 rfl) ?_
    refine gf_X15_17 C0 hW (C0.mem (i := 120) (Nat.le_of_ble_eq_true rfl)) k_120 tf_X15_48 dX15_pitchAt_15 ?_
    refine gfN_X13_1 C0 hW (C0.mem (i := 152) (Nat.le_of_ble_eq_true rfl)) k_152 tfN_X15_271 dX15_pitchAt_18 ?_
    refine lv_bipush (v := (24 : Int32)) C0.hx C0.hb dX15_pitchAt_21 (by decide) ?_
    refine lv_iload_n C0.hx C0.hb dX15_pitchAt_23 rfl (lv_at hl 1 rfl) ?_
    refine lv_imul C0.hx C0.hb dX15_pitchAt_24 ?_
    refine lv_iload_n C0.hx C0.hb dX15_pitchAt_25 rfl (lv_at hl 2 rfl) ?_
    refine lv_iadd C0.hx C0.hb dX15_pitchAt_26 ?_
    obtain ⟨hb4, h⟩ := g_if h
    refine ga_34 C0 hW (C0.mem (i := 154) (Nat.le_of_ble_eq_true rfl)) k_154 hb4 dX15_pitchAt_27 ?_
    refine lv_goto (tgt := 36) C0.hx C0.hb dX15_pitchAt_28 (by decide) ?_
    obtain rfl := Option.some.inj h
    exact g_iret C0 hW rfl rfl rfl dX15_pitchAt_36
set_option maxRecDepth 100000 in
set_option maxHeartbeats 4000000 in
theorem c_X15_contourAt {l : Launch} {G : GL} {ids : List Nat} {x : CS} {o : Nat → Int32} {y : MS} {p1 : Int32} {p2 : Int32} {q : Int32 × MS}    (h : f_X15_contourAt p1 p2 y = some q) : Met l yX15_contourAt (.code yX15_contourAt cX15_contourAt 3 (Option.some Jvm.ClassFile.FieldType.int) :: gT) (g_rm 3 0 0) (va_Pc [.ref (g_ad G (120)), .int (p1), .int (p2)] (g_P G ids (x, y, o))) (g_Qi G ids q.1 (x, q.2, o)) 0 0 (g_A G) := by
  unfold f_X15_contourAt at h
  refine g_entry (by decide) (Nat.le_of_ble_eq_true rfl) (fun p e s m args below meth c ls C0 hl hW _ => ?_)
  have hl : lv_has ls 3 [(0, .ref (g_ad G (120))), (1, .int (p1)), (2, .int (p2))] := hl
  refine lv_aload_n C0.hx C0.hb dX15_contourAt_0 rfl (lv_at hl 0 rfl) ?_
  refine lv_iconst (v := (0 : Int32)) C0.hx C0.hb dX15_contourAt_1 (by decide) ?_
  refine gp_X15_0 C0 hW (C0.mem (i := 120) (Nat.le_of_ble_eq_true rfl)) k_120 tf_X15_62 dX15_contourAt_2 (fun H locs hW => ?_)
  refine lv_aload_n C0.hx C0.hb dX15_contourAt_5 rfl (lv_at hl 0 rfl) ?_
  refine lv_iload_n C0.hx C0.hb dX15_contourAt_6 rfl (lv_at hl 1 rfl) ?_
  refine lv_iload_n C0.hx C0.hb dX15_contourAt_7 rfl (lv_at hl 2 rfl) ?_
  obtain ⟨q1, hq1, h⟩ := Option.bind_eq_some_iff.mp h
  refine g_calli hW (g_runV (As := [.int (p1), .int (p2)]) (rest := []) C0 hW (c_X15_isBeat hq1) (g_cwOf (n := 2) tc_X15_isBeat tn_X15 md_X15_isBeat (by decide) (by omega)) tm_X15_344 ti_X15_isBeat ts_X15_isBeat (C0.mem (i := 120) (Nat.le_of_ble_eq_true rfl)) (g_c12 k_120) rfl rfl hl.1 rfl (Nat.le_of_ble_eq_true rfl) dX15_contourAt_8) (fun H locs hW => ?_)
  refine lv_if_eq (tgt := 26) C0.hx C0.hb dX15_contourAt_11 (by decide) (fun hc2 => ?_) (fun hc2 => ?_)
  · replace h := (if_pos hc2).symm.trans h
    refine lv_aload_n C0.hx C0.hb dX15_contourAt_26 rfl (lv_at hl 0 rfl) ?_
    refine lv_iconst (v := (1 : Int32)) C0.hx C0.hb dX15_contourAt_27 (by decide) ?_
    obtain ⟨q3, hq3, h⟩ := Option.bind_eq_some_iff.mp h
    refine g_calli hW (g_runV (As := [.int ((1 : Int32))]) (rest := []) C0 hW (c_X15_no hq3) (g_cwOf (n := 1) tc_X15_no tn_X15 md_X15_no (by decide) (by omega)) tm_X15_253 ti_X15_no ts_X15_no (C0.mem (i := 120) (Nat.le_of_ble_eq_true rfl)) (g_c12 k_120) rfl rfl hl.1 rfl (Nat.le_of_ble_eq_true rfl) dX15_contourAt_28) (fun H locs hW => ?_)
    obtain rfl := Option.some.inj h
    exact g_iret C0 hW rfl rfl rfl dX15_contourAt_31
  · replace h := (if_neg hc2).symm.trans h
    refine lv_aload_n C0.hx C0.hb dX15_contourAt_14 rfl (lv_at hl 0 rfl) ?_
    refine gf_X15_17 C0 hW (C0.mem (i := 120) (Nat.le_of_ble_eq_true rfl)) k_120 tf_X15_48 dX15_contourAt_15 ?_
    refine lv_iload_n C0.hx C0.hb dX15_contourAt_18 rfl (lv_at hl 1 rfl) ?_
    refine lv_iload_n C0.hx C0.hb dX15_contourAt_19 rfl (lv_at hl 2 rfl) ?_
    obtain ⟨q4, hq4, h⟩ := Option.bind_eq_some_iff.mp h
    refine g_calli hW (g_runS (As := [.ref (g_ad G (152)), .int (p1), .int (p2)]) (rest := []) C0 hW (c_X15_contour k_152 hq4) (g_cwOf (n := 3) tc_X15_contour tn_X15 md_X15_contour (by decide) (by omega)) tm_X15_277 tz_X15_contour rfl hl.1 rfl (Nat.le_of_ble_eq_true rfl) dX15_contourAt_20) (fun H locs hW => ?_)
    refine lv_goto (tgt := 31) C0.hx C0.hb dX15_contourAt_23 (by decide) ?_
    obtain rfl := Option.some.inj h
    exact g_iret C0 hW rfl rfl rfl dX15_contourAt_31
set_option maxRecDepth 100000 in
set_option maxHeartbeats 4000000 in
theorem c_X15_isPruned {l : Launch} {G : GL} {ids : List Nat} {x : CS} {o : Nat → Int32} {y : MS} {p1 : Int32} {q : Int32 × MS}    (h : f_X15_isPruned p1 y = some q) : Met l yX15_isPruned (.code yX15_isPruned cX15_isPruned 2 (Option.some Jvm.ClassFile.FieldType.boolean) :: gT) (g_rm 2 0 0) (va_Pc [.ref (g_ad G (120)), .int (p1)] (g_P G ids (x, y, o))) (g_Qi G ids q.1 (x, q.2, o)) 0 0 (g_A G) := by
  unfold f_X15_isPruned at h
  refine g_entry (by decide) (Nat.le_of_ble_eq_true rfl) (fun p e s m args below meth c ls C0 hl hW _ => ?_)
  have hl : lv_has ls 2 [(0, .ref (g_ad G (120))), (1, .int (p1))] := hl
  refine lv_aload_n C0.hx C0.hb dX15_isPruned_0 rfl (lv_at hl 0 rfl) ?_
  refine lv_iconst (v := (0 : Int32)) C0.hx C0.hb dX15_isPruned_1 (by decide) ?_
  refine gp_X15_0 C0 hW (C0.mem (i := 120) (Nat.le_of_ble_eq_true rfl)) k_120 tf_X15_62 dX15_isPruned_2 (fun H locs hW => ?_)
  refine lv_aload_n C0.hx C0.hb dX15_isPruned_5 rfl (lv_at hl 0 rfl) ?_
  refine lv_iload_n C0.hx C0.hb dX15_isPruned_6 rfl (lv_at hl 1 rfl) ?_
  obtain ⟨q1, hq1, h⟩ := Option.bind_eq_some_iff.mp h
  refine g_calli hW (g_runV (As := [.int (p1)]) (rest := []) C0 hW (c_X15_isTold hq1) (g_cwOf (n := 1) tc_X15_isTold tn_X15 md_X15_isTold (by decide) (by omega)) tm_X15_341 ti_X15_isTold ts_X15_isTold (C0.mem (i := 120) (Nat.le_of_ble_eq_true rfl)) (g_c12 k_120) rfl rfl hl.1 rfl (Nat.le_of_ble_eq_true rfl) dX15_isPruned_7) (fun H locs hW => ?_)
  refine lv_if_eq (tgt := 34) C0.hx C0.hb dX15_isPruned_10 (by decide) (fun hc2 => ?_) (fun hc2 => ?_)
  · replace h := (if_pos hc2).symm.trans h
    refine lv_aload_n C0.hx C0.hb dX15_isPruned_34 rfl (lv_at hl 0 rfl) ?_
    refine lv_iconst (v := (1 : Int32)) C0.hx C0.hb dX15_isPruned_35 (by decide) ?_
    obtain ⟨q3, hq3, h⟩ := Option.bind_eq_some_iff.mp h
    refine g_calli hW (g_runV (As := [.int ((1 : Int32))]) (rest := []) C0 hW (c_X15_isNot hq3) (g_cwOf (n := 1) tc_X15_isNot tn_X15 md_X15_isNot (by decide) (by omega)) tm_X15_347 ti_X15_isNot ts_X15_isNot (C0.mem (i := 120) (Nat.le_of_ble_eq_true rfl)) (g_c12 k_120) rfl rfl hl.1 rfl (Nat.le_of_ble_eq_true rfl) dX15_isPruned_36) (fun H locs hW => ?_)
    obtain ⟨hb4, h⟩ := g_if h
    obtain rfl := Option.some.inj h
    exact g_iret C0 hW rfl (g_bool hb4).1 rfl dX15_isPruned_39
  · replace h := (if_neg hc2).symm.trans h
    refine lv_aload_n C0.hx C0.hb dX15_isPruned_13 rfl (lv_at hl 0 rfl) ?_
    refine gf_X15_17 C0 hW (C0.mem (i := 120) (Nat.le_of_ble_eq_true rfl)) k_120 tf_X15_48 dX15_isPruned_14 ?_
    refine gfN_X13_2 C0 hW (C0.mem (i := 152) (Nat.le_of_ble_eq_true rfl)) k_152 tfN_X15_293 dX15_isPruned_17 ?_
    refine lv_iload_n C0.hx C0.hb dX15_isPruned_20 rfl (lv_at hl 1 rfl) ?_
    obtain ⟨hb5, h⟩ := g_if h
    refine ga_32 C0 hW (C0.mem (i := 155) (Nat.le_of_ble_eq_true rfl)) k_155 hb5 dX15_isPruned_21 ?_
    refine lv_iconst (v := (1 : Int32)) C0.hx C0.hb dX15_isPruned_22 (by decide) ?_
    refine lv_icmp_ne (tgt := 30) C0.hx C0.hb dX15_isPruned_23 (by decide) (fun hc6 => ?_) (fun hc6 => ?_)
    · replace h := (if_neg hc6).symm.trans h
      refine lv_iconst (v := (0 : Int32)) C0.hx C0.hb dX15_isPruned_30 (by decide) ?_
      refine lv_goto (tgt := 39) C0.hx C0.hb dX15_isPruned_31 (by decide) ?_
      obtain rfl := Option.some.inj h
      exact g_iret C0 hW rfl (g_bool (Or.inl rfl)).1 rfl dX15_isPruned_39
    · replace h := (if_pos hc6).symm.trans h
      refine lv_iconst (v := (1 : Int32)) C0.hx C0.hb dX15_isPruned_26 (by decide) ?_
      refine lv_goto (tgt := 39) C0.hx C0.hb dX15_isPruned_27 (by decide) ?_
      obtain rfl := Option.some.inj h
      exact g_iret C0 hW rfl (g_bool (Or.inr rfl)).1 rfl dX15_isPruned_39
set_option maxRecDepth 100000 in
set_option maxHeartbeats 4000000 in
theorem w_X15_silentBeats_23 {p : Program} {l : Launch} {e : Env} {s : State} {m : MethodId} {args : Array Value} {below : List Frame} {meth : Method} {c : Code} {G : GL} {ids : List Nat} {x : CS} {o : Nat → Int32}  {q : Int32 × MS}   (C0 : g_X G ids p s m args meth c cX15_silentBeats 4 RX15 (Option.some Jvm.ClassFile.FieldType.int))  : ∀ (n : Nat) (l1 : Int32) (l2 : Int32) (l3 : Int32) (y : MS) (H : Heap) (locs : List Loc) (ls : Array Slot),  f_X15_silentBeats_23 n l1 l2 l3 y = some q → g_W G ids (x, y, o) s.heap H locs → lv_has ls 4 [(0, .ref (g_ad G (120))), (1, .int (l1)), (2, .int (l2)), (3, .int (l3))] → W p l e (g_rm 2 0 0) s m args below meth c H locs 0 0 (MQ below (g_Qi G ids q.1 (x, q.2, o)) args s 0 0 (g_A G)) (F0 m 23 ls []) := by
  intro n
  induction n with
  | zero =>
    intro l1 l2 l3 y H locs ls h hW hl
    exact absurd h (by simp [f_X15_silentBeats_23])
  | succ n ih =>
    intro l1 l2 l3 y H locs ls h hW hl
    unfold f_X15_silentBeats_23 at h
    refine lv_iload_n C0.hx C0.hb dX15_silentBeats_23 rfl (lv_at hl 3 rfl) ?_
    refine lv_aload_n C0.hx C0.hb dX15_silentBeats_24 rfl (lv_at hl 0 rfl) ?_
    refine gf_X15_17 C0 hW (C0.mem (i := 120) (Nat.le_of_ble_eq_true rfl)) k_120 tf_X15_48 dX15_silentBeats_25 ?_
    refine gfN_X13_0 C0 hW (C0.mem (i := 152) (Nat.le_of_ble_eq_true rfl)) k_152 tfN_X15_270 dX15_silentBeats_28 ?_
    refine lv_iload_n C0.hx C0.hb dX15_silentBeats_31 rfl (lv_at hl 1 rfl) ?_
    obtain ⟨hb4, h⟩ := g_if h
    refine ga_33 C0 hW (C0.mem (i := 153) (Nat.le_of_ble_eq_true rfl)) k_153 hb4 dX15_silentBeats_32 ?_
    refine lv_icmp_ge (tgt := 67) C0.hx C0.hb dX15_silentBeats_33 (by decide) (fun hc5 => ?_) (fun hc5 => ?_)
    · replace h := (if_pos hc5).symm.trans h
      refine lv_iload_n C0.hx C0.hb dX15_silentBeats_67 rfl (lv_at hl 2 rfl) ?_
      obtain rfl := Option.some.inj h
      exact g_iret C0 hW rfl rfl rfl dX15_silentBeats_68
    · replace h := (if_neg hc5).symm.trans h
      refine lv_iload_n C0.hx C0.hb dX15_silentBeats_36 rfl (lv_at hl 2 rfl) ?_
      refine lv_aload_n C0.hx C0.hb dX15_silentBeats_37 rfl (lv_at hl 0 rfl) ?_
      refine gf_X15_17 C0 hW (C0.mem (i := 120) (Nat.le_of_ble_eq_true rfl)) k_120 tf_X15_48 dX15_silentBeats_38 ?_
      refine gfN_X13_1 C0 hW (C0.mem (i := 152) (Nat.le_of_ble_eq_true rfl)) k_152 tfN_X15_271 dX15_silentBeats_41 ?_
      refine lv_bipush (v := (24 : Int32)) C0.hx C0.hb dX15_silentBeats_44 (by decide) ?_
      refine lv_iload_n C0.hx C0.hb dX15_silentBeats_46 rfl (lv_at hl 1 rfl) ?_
      refine lv_imul C0.hx C0.hb dX15_silentBeats_47 ?_
      refine lv_iload_n C0.hx C0.hb dX15_silentBeats_48 rfl (lv_at hl 3 rfl) ?_
      refine lv_iadd C0.hx C0.hb dX15_silentBeats_49 ?_
      obtain ⟨hb6, h⟩ := g_if h
      refine ga_34 C0 hW (C0.mem (i := 154) (Nat.le_of_ble_eq_true rfl)) k_154 hb6 dX15_silentBeats_50 ?_
      refine lv_if_ne (tgt := 58) C0.hx C0.hb dX15_silentBeats_51 (by decide) (fun hc7 => ?_) (fun hc7 => ?_)
      · replace h := (if_neg hc7).symm.trans h
        refine lv_iconst (v := (0 : Int32)) C0.hx C0.hb dX15_silentBeats_58 (by decide) ?_
        refine lv_iadd C0.hx C0.hb dX15_silentBeats_59 ?_
        refine lv_istore_n (lv' := [(2, .int (l2 + (0 : Int32))), (0, .ref (g_ad G (120))), (1, .int (l1)), (3, .int (l3))]) C0.hx C0.hb dX15_silentBeats_60 rfl hl (by decide) rfl (fun ls hl => ?_)
        refine lv_iinc (v := l3 + (1 : Int32)) (lv' := [(3, .int (l3 + (1 : Int32))), (2, .int (l2 + (0 : Int32))), (0, .ref (g_ad G (120))), (1, .int (l1))]) C0.hx C0.hb dX15_silentBeats_61 hl (k := 3) rfl rfl (by decide) rfl (fun ls hl => ?_)
        refine lv_goto (tgt := 23) C0.hx C0.hb dX15_silentBeats_64 (by decide) ?_
        exact ih _ _ _ _ _ _ _ h hW (lv_sub hl [2, 3, 1, 0] rfl)
      · replace h := (if_pos hc7).symm.trans h
        refine lv_iconst (v := (1 : Int32)) C0.hx C0.hb dX15_silentBeats_54 (by decide) ?_
        refine lv_goto (tgt := 59) C0.hx C0.hb dX15_silentBeats_55 (by decide) ?_
        refine lv_iadd C0.hx C0.hb dX15_silentBeats_59 ?_
        refine lv_istore_n (lv' := [(2, .int (l2 + (1 : Int32))), (0, .ref (g_ad G (120))), (1, .int (l1)), (3, .int (l3))]) C0.hx C0.hb dX15_silentBeats_60 rfl hl (by decide) rfl (fun ls hl => ?_)
        refine lv_iinc (v := l3 + (1 : Int32)) (lv' := [(3, .int (l3 + (1 : Int32))), (2, .int (l2 + (1 : Int32))), (0, .ref (g_ad G (120))), (1, .int (l1))]) C0.hx C0.hb dX15_silentBeats_61 hl (k := 3) rfl rfl (by decide) rfl (fun ls hl => ?_)
        refine lv_goto (tgt := 23) C0.hx C0.hb dX15_silentBeats_64 (by decide) ?_
        exact ih _ _ _ _ _ _ _ h hW (lv_sub hl [2, 3, 1, 0] rfl)
set_option maxRecDepth 100000 in
set_option maxHeartbeats 4000000 in
theorem c_X15_silentBeats {l : Launch} {G : GL} {ids : List Nat} {x : CS} {o : Nat → Int32} {y : MS} {p1 : Int32} {q : Int32 × MS}    (h : f_X15_silentBeats p1 y = some q) : Met l yX15_silentBeats (.code yX15_silentBeats cX15_silentBeats 4 (Option.some Jvm.ClassFile.FieldType.int) :: gT) (g_rm 2 0 0) (va_Pc [.ref (g_ad G (120)), .int (p1)] (g_P G ids (x, y, o))) (g_Qi G ids q.1 (x, q.2, o)) 0 0 (g_A G) := by
  unfold f_X15_silentBeats at h
  refine g_entry (by decide) (Nat.le_of_ble_eq_true rfl) (fun p e s m args below meth c ls C0 hl hW _ => ?_)
  have hl : lv_has ls 4 [(0, .ref (g_ad G (120))), (1, .int (p1))] := hl
  refine lv_aload_n C0.hx C0.hb dX15_silentBeats_0 rfl (lv_at hl 0 rfl) ?_
  refine lv_iconst (v := (0 : Int32)) C0.hx C0.hb dX15_silentBeats_1 (by decide) ?_
  refine gp_X15_0 C0 hW (C0.mem (i := 120) (Nat.le_of_ble_eq_true rfl)) k_120 tf_X15_62 dX15_silentBeats_2 (fun H locs hW => ?_)
  refine lv_aload_n C0.hx C0.hb dX15_silentBeats_5 rfl (lv_at hl 0 rfl) ?_
  refine lv_iload_n C0.hx C0.hb dX15_silentBeats_6 rfl (lv_at hl 1 rfl) ?_
  obtain ⟨q1, hq1, h⟩ := Option.bind_eq_some_iff.mp h
  refine g_calli hW (g_runV (As := [.int (p1)]) (rest := []) C0 hW (c_X15_isTold hq1) (g_cwOf (n := 1) tc_X15_isTold tn_X15 md_X15_isTold (by decide) (by omega)) tm_X15_341 ti_X15_isTold ts_X15_isTold (C0.mem (i := 120) (Nat.le_of_ble_eq_true rfl)) (g_c12 k_120) rfl rfl hl.1 rfl (Nat.le_of_ble_eq_true rfl) dX15_silentBeats_7) (fun H locs hW => ?_)
  refine lv_if_ne (tgt := 19) C0.hx C0.hb dX15_silentBeats_10 (by decide) (fun hc2 => ?_) (fun hc2 => ?_)
  · replace h := (if_neg hc2).symm.trans h
    refine lv_iconst (v := (0 : Int32)) C0.hx C0.hb dX15_silentBeats_19 (by decide) ?_
    refine lv_istore_n (lv' := [(2, .int ((0 : Int32))), (0, .ref (g_ad G (120))), (1, .int (p1))]) C0.hx C0.hb dX15_silentBeats_20 rfl hl (by decide) rfl (fun ls hl => ?_)
    refine lv_iconst (v := (0 : Int32)) C0.hx C0.hb dX15_silentBeats_21 (by decide) ?_
    refine lv_istore_n (lv' := [(3, .int ((0 : Int32))), (2, .int ((0 : Int32))), (0, .ref (g_ad G (120))), (1, .int (p1))]) C0.hx C0.hb dX15_silentBeats_22 rfl hl (by decide) rfl (fun ls hl => ?_)
    exact w_X15_silentBeats_23 C0 g_fuel _ _ _ _ _ _ _ h hW (lv_sub hl [2, 3, 1, 0] rfl)
  · replace h := (if_pos hc2).symm.trans h
    refine lv_aload_n C0.hx C0.hb dX15_silentBeats_13 rfl (lv_at hl 0 rfl) ?_
    refine lv_iconst (v := (1 : Int32)) C0.hx C0.hb dX15_silentBeats_14 (by decide) ?_
    obtain ⟨q3, hq3, h⟩ := Option.bind_eq_some_iff.mp h
    refine g_calli hW (g_runV (As := [.int ((1 : Int32))]) (rest := []) C0 hW (c_X15_no hq3) (g_cwOf (n := 1) tc_X15_no tn_X15 md_X15_no (by decide) (by omega)) tm_X15_253 ti_X15_no ts_X15_no (C0.mem (i := 120) (Nat.le_of_ble_eq_true rfl)) (g_c12 k_120) rfl rfl hl.1 rfl (Nat.le_of_ble_eq_true rfl) dX15_silentBeats_15) (fun H locs hW => ?_)
    obtain rfl := Option.some.inj h
    exact g_iret C0 hW rfl rfl rfl dX15_silentBeats_18
set_option maxRecDepth 100000 in
set_option maxHeartbeats 4000000 in
theorem w_X15_distanceBetween_34 {p : Program} {l : Launch} {e : Env} {s : State} {m : MethodId} {args : Array Value} {below : List Frame} {meth : Method} {c : Code} {G : GL} {ids : List Nat} {x : CS} {o : Nat → Int32}  {q : Int32 × MS}   (C0 : g_X G ids p s m args meth c cX15_distanceBetween 3 RX15 (Option.some Jvm.ClassFile.FieldType.int))  : ∀   (y : MS) (H : Heap) (locs : List Loc) (ls : Array Slot),  f_X15_distanceBetween_34 y = some q → g_W G ids (x, y, o) s.heap H locs → lv_has ls 3 [(0, .ref (g_ad G (120)))] → W p l e (g_rm 5 0 0) s m args below meth c H locs 0 0 (MQ below (g_Qi G ids q.1 (x, q.2, o)) args s 0 0 (g_A G)) (F0 m 34 ls []) := by
  intro y H locs ls h hW hl
  unfold f_X15_distanceBetween_34 at h
  refine lv_aload_n C0.hx C0.hb dX15_distanceBetween_34 rfl (lv_at hl 0 rfl) ?_
  refine lv_iconst (v := (1 : Int32)) C0.hx C0.hb dX15_distanceBetween_35 (by decide) ?_
  obtain ⟨q6, hq6, h⟩ := Option.bind_eq_some_iff.mp h
  refine g_calli hW (g_runV (As := [.int ((1 : Int32))]) (rest := []) C0 hW (c_X15_no hq6) (g_cwOf (n := 1) tc_X15_no tn_X15 md_X15_no (by decide) (by omega)) tm_X15_253 ti_X15_no ts_X15_no (C0.mem (i := 120) (Nat.le_of_ble_eq_true rfl)) (g_c12 k_120) rfl rfl hl.1 rfl (Nat.le_of_ble_eq_true rfl) dX15_distanceBetween_36) (fun H locs hW => ?_)
  obtain rfl := Option.some.inj h
  exact g_iret C0 hW rfl rfl rfl dX15_distanceBetween_39
set_option maxRecDepth 100000 in
set_option maxHeartbeats 4000000 in
theorem c_X15_distanceBetween {l : Launch} {G : GL} {ids : List Nat} {x : CS} {o : Nat → Int32} {y : MS} {p1 : Int32} {p2 : Int32} {q : Int32 × MS}    (h : f_X15_distanceBetween p1 p2 y = some q) : Met l yX15_distanceBetween (.code yX15_distanceBetween cX15_distanceBetween 3 (Option.some Jvm.ClassFile.FieldType.int) :: gT) (g_rm 5 0 0) (va_Pc [.ref (g_ad G (120)), .int (p1), .int (p2)] (g_P G ids (x, y, o))) (g_Qi G ids q.1 (x, q.2, o)) 0 0 (g_A G) := by
  unfold f_X15_distanceBetween at h
  refine g_entry (by decide) (Nat.le_of_ble_eq_true rfl) (fun p e s m args below meth c ls C0 hl hW _ => ?_)
  have hl : lv_has ls 3 [(0, .ref (g_ad G (120))), (1, .int (p1)), (2, .int (p2))] := hl
  refine lv_aload_n C0.hx C0.hb dX15_distanceBetween_0 rfl (lv_at hl 0 rfl) ?_
  refine lv_iconst (v := (0 : Int32)) C0.hx C0.hb dX15_distanceBetween_1 (by decide) ?_
  refine gp_X15_0 C0 hW (C0.mem (i := 120) (Nat.le_of_ble_eq_true rfl)) k_120 tf_X15_62 dX15_distanceBetween_2 (fun H locs hW => ?_)
  refine lv_aload_n C0.hx C0.hb dX15_distanceBetween_5 rfl (lv_at hl 0 rfl) ?_
  refine lv_iload_n C0.hx C0.hb dX15_distanceBetween_6 rfl (lv_at hl 1 rfl) ?_
  obtain ⟨q1, hq1, h⟩ := Option.bind_eq_some_iff.mp h
  refine g_calli hW (g_runV (As := [.int (p1)]) (rest := []) C0 hW (c_X15_isTold hq1) (g_cwOf (n := 1) tc_X15_isTold tn_X15 md_X15_isTold (by decide) (by omega)) tm_X15_341 ti_X15_isTold ts_X15_isTold (C0.mem (i := 120) (Nat.le_of_ble_eq_true rfl)) (g_c12 k_120) rfl rfl hl.1 rfl (Nat.le_of_ble_eq_true rfl) dX15_distanceBetween_7) (fun H locs hW => ?_)
  refine lv_if_eq (tgt := 34) C0.hx C0.hb dX15_distanceBetween_10 (by decide) (fun hc2 => ?_) (fun hc2 => ?_)
  · replace h := (if_pos hc2).symm.trans h
    exact w_X15_distanceBetween_34 C0 _ _ _ _ h hW (lv_sub hl [0] rfl)
  · replace h := (if_neg hc2).symm.trans h
    refine lv_aload_n C0.hx C0.hb dX15_distanceBetween_13 rfl (lv_at hl 0 rfl) ?_
    refine lv_iload_n C0.hx C0.hb dX15_distanceBetween_14 rfl (lv_at hl 2 rfl) ?_
    obtain ⟨q3, hq3, h⟩ := Option.bind_eq_some_iff.mp h
    refine g_calli hW (g_runV (As := [.int (p2)]) (rest := []) C0 hW (c_X15_isTold hq3) (g_cwOf (n := 1) tc_X15_isTold tn_X15 md_X15_isTold (by decide) (by omega)) tm_X15_341 ti_X15_isTold ts_X15_isTold (C0.mem (i := 120) (Nat.le_of_ble_eq_true rfl)) (g_c12 k_120) rfl rfl hl.1 rfl (Nat.le_of_ble_eq_true rfl) dX15_distanceBetween_15) (fun H locs hW => ?_)
    refine lv_if_eq (tgt := 34) C0.hx C0.hb dX15_distanceBetween_18 (by decide) (fun hc4 => ?_) (fun hc4 => ?_)
    · replace h := (if_pos hc4).symm.trans h
      exact w_X15_distanceBetween_34 C0 _ _ _ _ h hW (lv_sub hl [0] rfl)
    · replace h := (if_neg hc4).symm.trans h
      refine lv_aload_n C0.hx C0.hb dX15_distanceBetween_21 rfl (lv_at hl 0 rfl) ?_
      refine lv_aload_n C0.hx C0.hb dX15_distanceBetween_22 rfl (lv_at hl 0 rfl) ?_
      refine gf_X15_17 C0 hW (C0.mem (i := 120) (Nat.le_of_ble_eq_true rfl)) k_120 tf_X15_48 dX15_distanceBetween_23 ?_
      refine lv_iload_n C0.hx C0.hb dX15_distanceBetween_26 rfl (lv_at hl 1 rfl) ?_
      refine lv_iload_n C0.hx C0.hb dX15_distanceBetween_27 rfl (lv_at hl 2 rfl) ?_
      obtain ⟨q5, hq5, h⟩ := Option.bind_eq_some_iff.mp h
      refine g_calli hW (g_runV (As := [.ref (g_ad G (152)), .int (p1), .int (p2)]) (rest := []) C0 hW (c_X15_distance k_152 hq5) (g_cwOf (n := 3) tc_X15_distance tn_X15 md_X15_distance (by decide) (by omega)) tm_X15_296 ti_X15_distance ts_X15_distance (C0.mem (i := 120) (Nat.le_of_ble_eq_true rfl)) (g_c12 k_120) rfl rfl hl.1 rfl (Nat.le_of_ble_eq_true rfl) dX15_distanceBetween_28) (fun H locs hW => ?_)
      refine lv_goto (tgt := 39) C0.hx C0.hb dX15_distanceBetween_31 (by decide) ?_
      obtain rfl := Option.some.inj h
      exact g_iret C0 hW rfl rfl rfl dX15_distanceBetween_39
set_option maxRecDepth 100000 in
set_option maxHeartbeats 4000000 in
theorem w_X15_contourBetween_38 {p : Program} {l : Launch} {e : Env} {s : State} {m : MethodId} {args : Array Value} {below : List Frame} {meth : Method} {c : Code} {G : GL} {ids : List Nat} {x : CS} {o : Nat → Int32}  {q : Int32 × MS}   (C0 : g_X G ids p s m args meth c cX15_contourBetween 3 RX15 (Option.some Jvm.ClassFile.FieldType.int))  : ∀   (y : MS) (H : Heap) (locs : List Loc) (ls : Array Slot),  f_X15_contourBetween_38 y = some q → g_W G ids (x, y, o) s.heap H locs → lv_has ls 3 [(0, .ref (g_ad G (120)))] → W p l e (g_rm 4 0 0) s m args below meth c H locs 0 0 (MQ below (g_Qi G ids q.1 (x, q.2, o)) args s 0 0 (g_A G)) (F0 m 38 ls []) := by
  intro y H locs ls h hW hl
  unfold f_X15_contourBetween_38 at h
  refine lv_aload_n C0.hx C0.hb dX15_contourBetween_38 rfl (lv_at hl 0 rfl) ?_
  refine lv_iconst (v := (1 : Int32)) C0.hx C0.hb dX15_contourBetween_39 (by decide) ?_
  obtain ⟨q6, hq6, h⟩ := Option.bind_eq_some_iff.mp h
  refine g_calli hW (g_runV (As := [.int ((1 : Int32))]) (rest := []) C0 hW (c_X15_no hq6) (g_cwOf (n := 1) tc_X15_no tn_X15 md_X15_no (by decide) (by omega)) tm_X15_253 ti_X15_no ts_X15_no (C0.mem (i := 120) (Nat.le_of_ble_eq_true rfl)) (g_c12 k_120) rfl rfl hl.1 rfl (Nat.le_of_ble_eq_true rfl) dX15_contourBetween_40) (fun H locs hW => ?_)
  obtain rfl := Option.some.inj h
  exact g_iret C0 hW rfl rfl rfl dX15_contourBetween_43
set_option maxRecDepth 100000 in
set_option maxHeartbeats 4000000 in
theorem c_X15_contourBetween {l : Launch} {G : GL} {ids : List Nat} {x : CS} {o : Nat → Int32} {y : MS} {p1 : Int32} {p2 : Int32} {q : Int32 × MS}    (h : f_X15_contourBetween p1 p2 y = some q) : Met l yX15_contourBetween (.code yX15_contourBetween cX15_contourBetween 3 (Option.some Jvm.ClassFile.FieldType.int) :: gT) (g_rm 4 0 0) (va_Pc [.ref (g_ad G (120)), .int (p1), .int (p2)] (g_P G ids (x, y, o))) (g_Qi G ids q.1 (x, q.2, o)) 0 0 (g_A G) := by
  unfold f_X15_contourBetween at h
  refine g_entry (by decide) (Nat.le_of_ble_eq_true rfl) (fun p e s m args below meth c ls C0 hl hW _ => ?_)
  have hl : lv_has ls 3 [(0, .ref (g_ad G (120))), (1, .int (p1)), (2, .int (p2))] := hl
  refine lv_aload_n C0.hx C0.hb dX15_contourBetween_0 rfl (lv_at hl 0 rfl) ?_
  refine lv_iconst (v := (0 : Int32)) C0.hx C0.hb dX15_contourBetween_1 (by decide) ?_
  refine gp_X15_0 C0 hW (C0.mem (i := 120) (Nat.le_of_ble_eq_true rfl)) k_120 tf_X15_62 dX15_contourBetween_2 (fun H locs hW => ?_)
  refine lv_aload_n C0.hx C0.hb dX15_contourBetween_5 rfl (lv_at hl 0 rfl) ?_
  refine lv_iload_n C0.hx C0.hb dX15_contourBetween_6 rfl (lv_at hl 1 rfl) ?_
  obtain ⟨q1, hq1, h⟩ := Option.bind_eq_some_iff.mp h
  refine g_calli hW (g_runV (As := [.int (p1)]) (rest := []) C0 hW (c_X15_isTold hq1) (g_cwOf (n := 1) tc_X15_isTold tn_X15 md_X15_isTold (by decide) (by omega)) tm_X15_341 ti_X15_isTold ts_X15_isTold (C0.mem (i := 120) (Nat.le_of_ble_eq_true rfl)) (g_c12 k_120) rfl rfl hl.1 rfl (Nat.le_of_ble_eq_true rfl) dX15_contourBetween_7) (fun H locs hW => ?_)
  refine lv_if_eq (tgt := 38) C0.hx C0.hb dX15_contourBetween_10 (by decide) (fun hc2 => ?_) (fun hc2 => ?_)
  · replace h := (if_pos hc2).symm.trans h
    exact w_X15_contourBetween_38 C0 _ _ _ _ h hW (lv_sub hl [0] rfl)
  · replace h := (if_neg hc2).symm.trans h
    refine lv_aload_n C0.hx C0.hb dX15_contourBetween_13 rfl (lv_at hl 0 rfl) ?_
    refine lv_iload_n C0.hx C0.hb dX15_contourBetween_14 rfl (lv_at hl 2 rfl) ?_
    obtain ⟨q3, hq3, h⟩ := Option.bind_eq_some_iff.mp h
    refine g_calli hW (g_runV (As := [.int (p2)]) (rest := []) C0 hW (c_X15_isTold hq3) (g_cwOf (n := 1) tc_X15_isTold tn_X15 md_X15_isTold (by decide) (by omega)) tm_X15_341 ti_X15_isTold ts_X15_isTold (C0.mem (i := 120) (Nat.le_of_ble_eq_true rfl)) (g_c12 k_120) rfl rfl hl.1 rfl (Nat.le_of_ble_eq_true rfl) dX15_contourBetween_15) (fun H locs hW => ?_)
    refine lv_if_eq (tgt := 38) C0.hx C0.hb dX15_contourBetween_18 (by decide) (fun hc4 => ?_) (fun hc4 => ?_)
    · replace h := (if_pos hc4).symm.trans h
      exact w_X15_contourBetween_38 C0 _ _ _ _ h hW (lv_sub hl [0] rfl)
    · replace h := (if_neg hc4).symm.trans h
      refine lv_aload_n C0.hx C0.hb dX15_contourBetween_21 rfl (lv_at hl 0 rfl) ?_
      refine lv_aload_n C0.hx C0.hb dX15_contourBetween_22 rfl (lv_at hl 0 rfl) ?_
      refine gf_X15_17 C0 hW (C0.mem (i := 120) (Nat.le_of_ble_eq_true rfl)) k_120 tf_X15_48 dX15_contourBetween_23 ?_
      refine lv_iload_n C0.hx C0.hb dX15_contourBetween_26 rfl (lv_at hl 1 rfl) ?_
      refine lv_iload_n C0.hx C0.hb dX15_contourBetween_27 rfl (lv_at hl 2 rfl) ?_
      refine lv_iconst (v := (1 : Int32)) C0.hx C0.hb dX15_contourBetween_28 (by decide) ?_
      obtain ⟨q5, hq5, h⟩ := Option.bind_eq_some_iff.mp h
      refine g_calli hW (g_runV (As := [.ref (g_ad G (152)), .int (p1), .int (p2), .int ((1 : Int32))]) (rest := []) C0 hW (c_X15_way k_152 hq5) (g_cwOf (n := 4) tc_X15_way tn_X15 md_X15_way (by decide) (by omega)) tm_X15_289 ti_X15_way ts_X15_way (C0.mem (i := 120) (Nat.le_of_ble_eq_true rfl)) (g_c12 k_120) rfl rfl hl.1 rfl (Nat.le_of_ble_eq_true rfl) dX15_contourBetween_29) (fun H locs hW => ?_)
      refine lv_bipush (v := (100 : Int32)) C0.hx C0.hb dX15_contourBetween_32 (by decide) ?_
      refine lv_idiv C0.hx C0.hb dX15_contourBetween_34 (by decide) ?_
      refine lv_goto (tgt := 43) C0.hx C0.hb dX15_contourBetween_35 (by decide) ?_
      obtain rfl := Option.some.inj h
      exact g_iret C0 hW rfl rfl rfl dX15_contourBetween_43
set_option maxRecDepth 100000 in
set_option maxHeartbeats 4000000 in
theorem w_X15_areNear_34 {p : Program} {l : Launch} {e : Env} {s : State} {m : MethodId} {args : Array Value} {below : List Frame} {meth : Method} {c : Code} {G : GL} {ids : List Nat} {x : CS} {o : Nat → Int32}  {q : Int32 × MS}   (C0 : g_X G ids p s m args meth c cX15_areNear 3 RX15 (Option.some Jvm.ClassFile.FieldType.boolean))  : ∀   (y : MS) (H : Heap) (locs : List Loc) (ls : Array Slot),  f_X15_areNear_34 y = some q → g_W G ids (x, y, o) s.heap H locs → lv_has ls 3 [(0, .ref (g_ad G (120)))] → W p l e (g_rm 6 0 0) s m args below meth c H locs 0 0 (MQ below (g_Qi G ids q.1 (x, q.2, o)) args s 0 0 (g_A G)) (F0 m 34 ls []) := by
  intro y H locs ls h hW hl
  unfold f_X15_areNear_34 at h
  refine lv_aload_n C0.hx C0.hb dX15_areNear_34 rfl (lv_at hl 0 rfl) ?_
  refine lv_iconst (v := (1 : Int32)) C0.hx C0.hb dX15_areNear_35 (by decide) ?_
  obtain ⟨q7, hq7, h⟩ := Option.bind_eq_some_iff.mp h
  refine g_calli hW (g_runV (As := [.int ((1 : Int32))]) (rest := []) C0 hW (c_X15_isNot hq7) (g_cwOf (n := 1) tc_X15_isNot tn_X15 md_X15_isNot (by decide) (by omega)) tm_X15_347 ti_X15_isNot ts_X15_isNot (C0.mem (i := 120) (Nat.le_of_ble_eq_true rfl)) (g_c12 k_120) rfl rfl hl.1 rfl (Nat.le_of_ble_eq_true rfl) dX15_areNear_36) (fun H locs hW => ?_)
  obtain ⟨hb8, h⟩ := g_if h
  obtain rfl := Option.some.inj h
  exact g_iret C0 hW rfl (g_bool hb8).1 rfl dX15_areNear_39
set_option maxRecDepth 100000 in
set_option maxHeartbeats 4000000 in
theorem c_X15_areNear {l : Launch} {G : GL} {ids : List Nat} {x : CS} {o : Nat → Int32} {y : MS} {p1 : Int32} {p2 : Int32} {q : Int32 × MS}    (h : f_X15_areNear p1 p2 y = some q) : Met l yX15_areNear (.code yX15_areNear cX15_areNear 3 (Option.some Jvm.ClassFile.FieldType.boolean) :: gT) (g_rm 6 0 0) (va_Pc [.ref (g_ad G (120)), .int (p1), .int (p2)] (g_P G ids (x, y, o))) (g_Qi G ids q.1 (x, q.2, o)) 0 0 (g_A G) := by
  unfold f_X15_areNear at h
  refine g_entry (by decide) (Nat.le_of_ble_eq_true rfl) (fun p e s m args below meth c ls C0 hl hW _ => ?_)
  have hl : lv_has ls 3 [(0, .ref (g_ad G (120))), (1, .int (p1)), (2, .int (p2))] := hl
  refine lv_aload_n C0.hx C0.hb dX15_areNear_0 rfl (lv_at hl 0 rfl) ?_
  refine lv_iconst (v := (0 : Int32)) C0.hx C0.hb dX15_areNear_1 (by decide) ?_
  refine gp_X15_0 C0 hW (C0.mem (i := 120) (Nat.le_of_ble_eq_true rfl)) k_120 tf_X15_62 dX15_areNear_2 (fun H locs hW => ?_)
  refine lv_aload_n C0.hx C0.hb dX15_areNear_5 rfl (lv_at hl 0 rfl) ?_
  refine lv_iload_n C0.hx C0.hb dX15_areNear_6 rfl (lv_at hl 1 rfl) ?_
  obtain ⟨q1, hq1, h⟩ := Option.bind_eq_some_iff.mp h
  refine g_calli hW (g_runV (As := [.int (p1)]) (rest := []) C0 hW (c_X15_isTold hq1) (g_cwOf (n := 1) tc_X15_isTold tn_X15 md_X15_isTold (by decide) (by omega)) tm_X15_341 ti_X15_isTold ts_X15_isTold (C0.mem (i := 120) (Nat.le_of_ble_eq_true rfl)) (g_c12 k_120) rfl rfl hl.1 rfl (Nat.le_of_ble_eq_true rfl) dX15_areNear_7) (fun H locs hW => ?_)
  refine lv_if_eq (tgt := 34) C0.hx C0.hb dX15_areNear_10 (by decide) (fun hc2 => ?_) (fun hc2 => ?_)
  · replace h := (if_pos hc2).symm.trans h
    exact w_X15_areNear_34 C0 _ _ _ _ h hW (lv_sub hl [0] rfl)
  · replace h := (if_neg hc2).symm.trans h
    refine lv_aload_n C0.hx C0.hb dX15_areNear_13 rfl (lv_at hl 0 rfl) ?_
    refine lv_iload_n C0.hx C0.hb dX15_areNear_14 rfl (lv_at hl 2 rfl) ?_
    obtain ⟨q3, hq3, h⟩ := Option.bind_eq_some_iff.mp h
    refine g_calli hW (g_runV (As := [.int (p2)]) (rest := []) C0 hW (c_X15_isTold hq3) (g_cwOf (n := 1) tc_X15_isTold tn_X15 md_X15_isTold (by decide) (by omega)) tm_X15_341 ti_X15_isTold ts_X15_isTold (C0.mem (i := 120) (Nat.le_of_ble_eq_true rfl)) (g_c12 k_120) rfl rfl hl.1 rfl (Nat.le_of_ble_eq_true rfl) dX15_areNear_15) (fun H locs hW => ?_)
    refine lv_if_eq (tgt := 34) C0.hx C0.hb dX15_areNear_18 (by decide) (fun hc4 => ?_) (fun hc4 => ?_)
    · replace h := (if_pos hc4).symm.trans h
      exact w_X15_areNear_34 C0 _ _ _ _ h hW (lv_sub hl [0] rfl)
    · replace h := (if_neg hc4).symm.trans h
      refine lv_aload_n C0.hx C0.hb dX15_areNear_21 rfl (lv_at hl 0 rfl) ?_
      refine lv_aload_n C0.hx C0.hb dX15_areNear_22 rfl (lv_at hl 0 rfl) ?_
      refine gf_X15_17 C0 hW (C0.mem (i := 120) (Nat.le_of_ble_eq_true rfl)) k_120 tf_X15_48 dX15_areNear_23 ?_
      refine lv_iload_n C0.hx C0.hb dX15_areNear_26 rfl (lv_at hl 1 rfl) ?_
      refine lv_iload_n C0.hx C0.hb dX15_areNear_27 rfl (lv_at hl 2 rfl) ?_
      obtain ⟨q5, hq5, h⟩ := Option.bind_eq_some_iff.mp h
      refine g_calli hW (g_runV (As := [.ref (g_ad G (152)), .int (p1), .int (p2)]) (rest := []) C0 hW (c_X15_near k_152 hq5) (g_cwOf (n := 3) tc_X15_near tn_X15 md_X15_near (by decide) (by omega)) tm_X15_299 ti_X15_near ts_X15_near (C0.mem (i := 120) (Nat.le_of_ble_eq_true rfl)) (g_c12 k_120) rfl rfl hl.1 rfl (Nat.le_of_ble_eq_true rfl) dX15_areNear_28) (fun H locs hW => ?_)
      refine lv_goto (tgt := 39) C0.hx C0.hb dX15_areNear_31 (by decide) ?_
      obtain ⟨hb6, h⟩ := g_if h
      obtain rfl := Option.some.inj h
      exact g_iret C0 hW rfl (g_bool hb6).1 rfl dX15_areNear_39
set_option maxRecDepth 100000 in
set_option maxHeartbeats 4000000 in
theorem w_X15_nearestTo_26 {p : Program} {l : Launch} {e : Env} {s : State} {m : MethodId} {args : Array Value} {below : List Frame} {meth : Method} {c : Code} {G : GL} {ids : List Nat} {x : CS} {o : Nat → Int32}  {q : Int32 × MS}   (C0 : g_X G ids p s m args meth c cX15_nearestTo 6 RX15 (Option.some Jvm.ClassFile.FieldType.int))  : ∀ (n : Nat) (l1 : Int32) (l2 : Int32) (l3 : Int32) (l4 : Int32) (y : MS) (H : Heap) (locs : List Loc) (ls : Array Slot),  f_X15_nearestTo_26 n l1 l2 l3 l4 y = some q → g_W G ids (x, y, o) s.heap H locs → lv_has ls 6 [(0, .ref (g_ad G (120))), (1, .int (l1)), (2, .int (l2)), (3, .int (l3)), (4, .int (l4))] → W p l e (g_rm 5 0 0) s m args below meth c H locs 0 0 (MQ below (g_Qi G ids q.1 (x, q.2, o)) args s 0 0 (g_A G)) (F0 m 26 ls []) := by
  intro n
  induction n with
  | zero =>
    intro l1 l2 l3 l4 y H locs ls h hW hl
    exact absurd h (by simp [f_X15_nearestTo_26])
  | succ n ih =>
    intro l1 l2 l3 l4 y H locs ls h hW hl
    unfold f_X15_nearestTo_26 at h
    refine lv_iload C0.hx C0.hb dX15_nearestTo_26 (lv_at hl 4 rfl) ?_
    refine lv_aload_n C0.hx C0.hb dX15_nearestTo_28 rfl (lv_at hl 0 rfl) ?_
    refine gf_X15_14 C0 hW (C0.mem (i := 120) (Nat.le_of_ble_eq_true rfl)) k_120 tf_X15_35 dX15_nearestTo_29 ?_
    refine gfN_X14_2 C0 hW (C0.mem (i := 127) (Nat.le_of_ble_eq_true rfl)) k_127 tfN_X15_147 dX15_nearestTo_32 ?_
    refine lv_icmp_ge (tgt := 86) C0.hx C0.hb dX15_nearestTo_35 (by decide) (fun hc4 => ?_) (fun hc4 => ?_)
    · replace h := (if_pos hc4).symm.trans h
      refine lv_iload_n C0.hx C0.hb dX15_nearestTo_86 rfl (lv_at hl 2 rfl) ?_
      refine lv_iconst (v := (-1 : Int32)) C0.hx C0.hb dX15_nearestTo_87 (by decide) ?_
      refine lv_icmp_ne (tgt := 99) C0.hx C0.hb dX15_nearestTo_88 (by decide) (fun hc5 => ?_) (fun hc5 => ?_)
      · replace h := (if_neg hc5).symm.trans h
        refine lv_iload_n C0.hx C0.hb dX15_nearestTo_99 rfl (lv_at hl 2 rfl) ?_
        obtain rfl := Option.some.inj h
        exact g_iret C0 hW rfl rfl rfl dX15_nearestTo_100
      · replace h := (if_pos hc5).symm.trans h
        refine lv_aload_n C0.hx C0.hb dX15_nearestTo_91 rfl (lv_at hl 0 rfl) ?_
        refine lv_iconst (v := (2 : Int32)) C0.hx C0.hb dX15_nearestTo_92 (by decide) ?_
        obtain ⟨q6, hq6, h⟩ := Option.bind_eq_some_iff.mp h
        refine g_calli hW (g_runV (As := [.int ((2 : Int32))]) (rest := []) C0 hW (c_X15_no hq6) (g_cwOf (n := 1) tc_X15_no tn_X15 md_X15_no (by decide) (by omega)) tm_X15_253 ti_X15_no ts_X15_no (C0.mem (i := 120) (Nat.le_of_ble_eq_true rfl)) (g_c12 k_120) rfl rfl hl.1 rfl (Nat.le_of_ble_eq_true rfl) dX15_nearestTo_93) (fun H locs hW => ?_)
        refine lv_goto (tgt := 100) C0.hx C0.hb dX15_nearestTo_96 (by decide) ?_
        obtain rfl := Option.some.inj h
        exact g_iret C0 hW rfl rfl rfl dX15_nearestTo_100
    · replace h := (if_neg hc4).symm.trans h
      refine lv_iload C0.hx C0.hb dX15_nearestTo_38 (lv_at hl 4 rfl) ?_
      refine lv_iload_n C0.hx C0.hb dX15_nearestTo_40 rfl (lv_at hl 1 rfl) ?_
      refine lv_icmp_ne (tgt := 47) C0.hx C0.hb dX15_nearestTo_41 (by decide) (fun hc7 => ?_) (fun hc7 => ?_)
      · replace h := (if_neg hc7).symm.trans h
        refine lv_aload_n C0.hx C0.hb dX15_nearestTo_47 rfl (lv_at hl 0 rfl) ?_
        refine lv_aload_n C0.hx C0.hb dX15_nearestTo_48 rfl (lv_at hl 0 rfl) ?_
        refine gf_X15_17 C0 hW (C0.mem (i := 120) (Nat.le_of_ble_eq_true rfl)) k_120 tf_X15_48 dX15_nearestTo_49 ?_
        refine lv_iload C0.hx C0.hb dX15_nearestTo_52 (lv_at hl 4 rfl) ?_
        refine lv_iload_n C0.hx C0.hb dX15_nearestTo_54 rfl (lv_at hl 1 rfl) ?_
        obtain ⟨q8, hq8, h⟩ := Option.bind_eq_some_iff.mp h
        refine g_calli hW (g_runV (As := [.ref (g_ad G (152)), .int (l4), .int (l1)]) (rest := []) C0 hW (c_X15_distance k_152 hq8) (g_cwOf (n := 3) tc_X15_distance tn_X15 md_X15_distance (by decide) (by omega)) tm_X15_296 ti_X15_distance ts_X15_distance (C0.mem (i := 120) (Nat.le_of_ble_eq_true rfl)) (g_c12 k_120) rfl rfl hl.1 rfl (Nat.le_of_ble_eq_true rfl) dX15_nearestTo_55) (fun H locs hW => ?_)
        refine lv_istore (lv' := [(5, .int (q8.1)), (0, .ref (g_ad G (120))), (1, .int (l1)), (2, .int (l2)), (3, .int (l3)), (4, .int (l4))]) C0.hx C0.hb dX15_nearestTo_58 hl (by decide) rfl (fun ls hl => ?_)
        refine lv_iload_n C0.hx C0.hb dX15_nearestTo_60 rfl (lv_at hl 3 rfl) ?_
        refine lv_iconst (v := (-1 : Int32)) C0.hx C0.hb dX15_nearestTo_61 (by decide) ?_
        refine lv_icmp_eq (tgt := 74) C0.hx C0.hb dX15_nearestTo_62 (by decide) (fun hc9 => ?_) (fun hc9 => ?_)
        · replace h := (if_pos hc9).symm.trans h
          refine lv_iload C0.hx C0.hb dX15_nearestTo_74 (lv_at hl 5 rfl) ?_
          refine lv_istore_n (lv' := [(2, .int (l4)), (5, .int (q8.1)), (0, .ref (g_ad G (120))), (1, .int (l1)), (3, .int (l3)), (4, .int (l4))]) C0.hx C0.hb dX15_nearestTo_76 rfl hl (by decide) rfl (fun ls hl => ?_)
          refine lv_iload C0.hx C0.hb dX15_nearestTo_77 (lv_at hl 1 rfl) ?_
          refine lv_istore_n (lv' := [(3, .int (q8.1)), (2, .int (l4)), (5, .int (q8.1)), (0, .ref (g_ad G (120))), (1, .int (l1)), (4, .int (l4))]) C0.hx C0.hb dX15_nearestTo_79 rfl hl (by decide) rfl (fun ls hl => ?_)
          refine lv_iinc (v := l4 + (1 : Int32)) (lv' := [(4, .int (l4 + (1 : Int32))), (3, .int (q8.1)), (2, .int (l4)), (5, .int (q8.1)), (0, .ref (g_ad G (120))), (1, .int (l1))]) C0.hx C0.hb dX15_nearestTo_80 hl (k := 5) rfl rfl (by decide) rfl (fun ls hl => ?_)
          refine lv_goto (tgt := 26) C0.hx C0.hb dX15_nearestTo_83 (by decide) ?_
          exact ih _ _ _ _ _ _ _ _ h hW (lv_sub hl [4, 5, 2, 1, 0] rfl)
        · replace h := (if_neg hc9).symm.trans h
          refine lv_iload C0.hx C0.hb dX15_nearestTo_65 (lv_at hl 0 rfl) ?_
          refine lv_iload_n C0.hx C0.hb dX15_nearestTo_67 rfl (lv_at hl 4 rfl) ?_
          refine lv_icmp_lt (tgt := 74) C0.hx C0.hb dX15_nearestTo_68 (by decide) (fun hc10 => ?_) (fun hc10 => ?_)
          · replace h := (if_pos hc10).symm.trans h
            refine lv_iload C0.hx C0.hb dX15_nearestTo_74 (lv_at hl 5 rfl) ?_
            refine lv_istore_n (lv' := [(2, .int (l4)), (5, .int (q8.1)), (0, .ref (g_ad G (120))), (1, .int (l1)), (3, .int (l3)), (4, .int (l4))]) C0.hx C0.hb dX15_nearestTo_76 rfl hl (by decide) rfl (fun ls hl => ?_)
            refine lv_iload C0.hx C0.hb dX15_nearestTo_77 (lv_at hl 1 rfl) ?_
            refine lv_istore_n (lv' := [(3, .int (q8.1)), (2, .int (l4)), (5, .int (q8.1)), (0, .ref (g_ad G (120))), (1, .int (l1)), (4, .int (l4))]) C0.hx C0.hb dX15_nearestTo_79 rfl hl (by decide) rfl (fun ls hl => ?_)
            refine lv_iinc (v := l4 + (1 : Int32)) (lv' := [(4, .int (l4 + (1 : Int32))), (3, .int (q8.1)), (2, .int (l4)), (5, .int (q8.1)), (0, .ref (g_ad G (120))), (1, .int (l1))]) C0.hx C0.hb dX15_nearestTo_80 hl (k := 5) rfl rfl (by decide) rfl (fun ls hl => ?_)
            refine lv_goto (tgt := 26) C0.hx C0.hb dX15_nearestTo_83 (by decide) ?_
            exact ih _ _ _ _ _ _ _ _ h hW (lv_sub hl [4, 5, 2, 1, 0] rfl)
          · replace h := (if_neg hc10).symm.trans h
            refine lv_goto (tgt := 80) C0.hx C0.hb dX15_nearestTo_71 (by decide) ?_
            refine lv_iinc (v := l4 + (1 : Int32)) (lv' := [(4, .int (l4 + (1 : Int32))), (5, .int (q8.1)), (0, .ref (g_ad G (120))), (1, .int (l1)), (2, .int (l2)), (3, .int (l3))]) C0.hx C0.hb dX15_nearestTo_80 hl (k := 5) rfl rfl (by decide) rfl (fun ls hl => ?_)
            refine lv_goto (tgt := 26) C0.hx C0.hb dX15_nearestTo_83 (by decide) ?_
            exact ih _ _ _ _ _ _ _ _ h hW (lv_sub hl [2, 3, 4, 5, 0] rfl)
      · replace h := (if_pos hc7).symm.trans h
        refine lv_goto (tgt := 80) C0.hx C0.hb dX15_nearestTo_44 (by decide) ?_
        refine lv_iinc (v := l4 + (1 : Int32)) (lv' := [(4, .int (l4 + (1 : Int32))), (0, .ref (g_ad G (120))), (1, .int (l1)), (2, .int (l2)), (3, .int (l3))]) C0.hx C0.hb dX15_nearestTo_80 hl (k := 4) rfl rfl (by decide) rfl (fun ls hl => ?_)
        refine lv_goto (tgt := 26) C0.hx C0.hb dX15_nearestTo_83 (by decide) ?_
        exact ih _ _ _ _ _ _ _ _ h hW (lv_sub hl [1, 2, 3, 4, 0] rfl)
set_option maxRecDepth 100000 in
set_option maxHeartbeats 4000000 in
theorem c_X15_nearestTo {l : Launch} {G : GL} {ids : List Nat} {x : CS} {o : Nat → Int32} {y : MS} {p1 : Int32} {q : Int32 × MS}    (h : f_X15_nearestTo p1 y = some q) : Met l yX15_nearestTo (.code yX15_nearestTo cX15_nearestTo 6 (Option.some Jvm.ClassFile.FieldType.int) :: gT) (g_rm 5 0 0) (va_Pc [.ref (g_ad G (120)), .int (p1)] (g_P G ids (x, y, o))) (g_Qi G ids q.1 (x, q.2, o)) 0 0 (g_A G) := by
  unfold f_X15_nearestTo at h
  refine g_entry (by decide) (Nat.le_of_ble_eq_true rfl) (fun p e s m args below meth c ls C0 hl hW _ => ?_)
  have hl : lv_has ls 6 [(0, .ref (g_ad G (120))), (1, .int (p1))] := hl
  refine lv_aload_n C0.hx C0.hb dX15_nearestTo_0 rfl (lv_at hl 0 rfl) ?_
  refine lv_iconst (v := (0 : Int32)) C0.hx C0.hb dX15_nearestTo_1 (by decide) ?_
  refine gp_X15_0 C0 hW (C0.mem (i := 120) (Nat.le_of_ble_eq_true rfl)) k_120 tf_X15_62 dX15_nearestTo_2 (fun H locs hW => ?_)
  refine lv_aload_n C0.hx C0.hb dX15_nearestTo_5 rfl (lv_at hl 0 rfl) ?_
  refine lv_iload_n C0.hx C0.hb dX15_nearestTo_6 rfl (lv_at hl 1 rfl) ?_
  obtain ⟨q1, hq1, h⟩ := Option.bind_eq_some_iff.mp h
  refine g_calli hW (g_runV (As := [.int (p1)]) (rest := []) C0 hW (c_X15_isTold hq1) (g_cwOf (n := 1) tc_X15_isTold tn_X15 md_X15_isTold (by decide) (by omega)) tm_X15_341 ti_X15_isTold ts_X15_isTold (C0.mem (i := 120) (Nat.le_of_ble_eq_true rfl)) (g_c12 k_120) rfl rfl hl.1 rfl (Nat.le_of_ble_eq_true rfl) dX15_nearestTo_7) (fun H locs hW => ?_)
  refine lv_if_ne (tgt := 19) C0.hx C0.hb dX15_nearestTo_10 (by decide) (fun hc2 => ?_) (fun hc2 => ?_)
  · replace h := (if_neg hc2).symm.trans h
    refine lv_iconst (v := (-1 : Int32)) C0.hx C0.hb dX15_nearestTo_19 (by decide) ?_
    refine lv_istore_n (lv' := [(2, .int ((-1 : Int32))), (0, .ref (g_ad G (120))), (1, .int (p1))]) C0.hx C0.hb dX15_nearestTo_20 rfl hl (by decide) rfl (fun ls hl => ?_)
    refine lv_iconst (v := (0 : Int32)) C0.hx C0.hb dX15_nearestTo_21 (by decide) ?_
    refine lv_istore_n (lv' := [(3, .int ((0 : Int32))), (2, .int ((-1 : Int32))), (0, .ref (g_ad G (120))), (1, .int (p1))]) C0.hx C0.hb dX15_nearestTo_22 rfl hl (by decide) rfl (fun ls hl => ?_)
    refine lv_iconst (v := (0 : Int32)) C0.hx C0.hb dX15_nearestTo_23 (by decide) ?_
    refine lv_istore (lv' := [(4, .int ((0 : Int32))), (3, .int ((0 : Int32))), (2, .int ((-1 : Int32))), (0, .ref (g_ad G (120))), (1, .int (p1))]) C0.hx C0.hb dX15_nearestTo_24 hl (by decide) rfl (fun ls hl => ?_)
    exact w_X15_nearestTo_26 C0 g_fuel _ _ _ _ _ _ _ _ h hW (lv_sub hl [3, 4, 2, 1, 0] rfl)
  · replace h := (if_pos hc2).symm.trans h
    refine lv_aload_n C0.hx C0.hb dX15_nearestTo_13 rfl (lv_at hl 0 rfl) ?_
    refine lv_iconst (v := (1 : Int32)) C0.hx C0.hb dX15_nearestTo_14 (by decide) ?_
    obtain ⟨q3, hq3, h⟩ := Option.bind_eq_some_iff.mp h
    refine g_calli hW (g_runV (As := [.int ((1 : Int32))]) (rest := []) C0 hW (c_X15_no hq3) (g_cwOf (n := 1) tc_X15_no tn_X15 md_X15_no (by decide) (by omega)) tm_X15_253 ti_X15_no ts_X15_no (C0.mem (i := 120) (Nat.le_of_ble_eq_true rfl)) (g_c12 k_120) rfl rfl hl.1 rfl (Nat.le_of_ble_eq_true rfl) dX15_nearestTo_15) (fun H locs hW => ?_)
    obtain rfl := Option.some.inj h
    exact g_iret C0 hW rfl rfl rfl dX15_nearestTo_18
set_option maxRecDepth 100000 in
set_option maxHeartbeats 4000000 in
theorem c_X15_isNeedless {l : Launch} {G : GL} {ids : List Nat} {x : CS} {o : Nat → Int32} {y : MS} {p1 : Int32} {q : Int32 × MS}    (h : f_X15_isNeedless p1 y = some q) : Met l yX15_isNeedless (.code yX15_isNeedless cX15_isNeedless 2 (Option.some Jvm.ClassFile.FieldType.boolean) :: gT) (g_rm 7 0 0) (va_Pc [.ref (g_ad G (120)), .int (p1)] (g_P G ids (x, y, o))) (g_Qi G ids q.1 (x, q.2, o)) 0 0 (g_A G) := by
  unfold f_X15_isNeedless at h
  refine g_entry (by decide) (Nat.le_of_ble_eq_true rfl) (fun p e s m args below meth c ls C0 hl hW _ => ?_)
  have hl : lv_has ls 2 [(0, .ref (g_ad G (120))), (1, .int (p1))] := hl
  refine lv_aload_n C0.hx C0.hb dX15_isNeedless_0 rfl (lv_at hl 0 rfl) ?_
  refine lv_iconst (v := (0 : Int32)) C0.hx C0.hb dX15_isNeedless_1 (by decide) ?_
  refine gp_X15_0 C0 hW (C0.mem (i := 120) (Nat.le_of_ble_eq_true rfl)) k_120 tf_X15_62 dX15_isNeedless_2 (fun H locs hW => ?_)
  refine lv_aload_n C0.hx C0.hb dX15_isNeedless_5 rfl (lv_at hl 0 rfl) ?_
  refine lv_iload_n C0.hx C0.hb dX15_isNeedless_6 rfl (lv_at hl 1 rfl) ?_
  obtain ⟨q1, hq1, h⟩ := Option.bind_eq_some_iff.mp h
  refine g_calli hW (g_runV (As := [.int (p1)]) (rest := []) C0 hW (c_X15_isTold hq1) (g_cwOf (n := 1) tc_X15_isTold tn_X15 md_X15_isTold (by decide) (by omega)) tm_X15_341 ti_X15_isTold ts_X15_isTold (C0.mem (i := 120) (Nat.le_of_ble_eq_true rfl)) (g_c12 k_120) rfl rfl hl.1 rfl (Nat.le_of_ble_eq_true rfl) dX15_isNeedless_7) (fun H locs hW => ?_)
  refine lv_if_eq (tgt := 21) C0.hx C0.hb dX15_isNeedless_10 (by decide) (fun hc2 => ?_) (fun hc2 => ?_)
  · replace h := (if_pos hc2).symm.trans h
    refine lv_aload_n C0.hx C0.hb dX15_isNeedless_21 rfl (lv_at hl 0 rfl) ?_
    refine lv_iconst (v := (1 : Int32)) C0.hx C0.hb dX15_isNeedless_22 (by decide) ?_
    obtain ⟨q3, hq3, h⟩ := Option.bind_eq_some_iff.mp h
    refine g_calli hW (g_runV (As := [.int ((1 : Int32))]) (rest := []) C0 hW (c_X15_isNot hq3) (g_cwOf (n := 1) tc_X15_isNot tn_X15 md_X15_isNot (by decide) (by omega)) tm_X15_347 ti_X15_isNot ts_X15_isNot (C0.mem (i := 120) (Nat.le_of_ble_eq_true rfl)) (g_c12 k_120) rfl rfl hl.1 rfl (Nat.le_of_ble_eq_true rfl) dX15_isNeedless_23) (fun H locs hW => ?_)
    obtain ⟨hb4, h⟩ := g_if h
    obtain rfl := Option.some.inj h
    exact g_iret C0 hW rfl (g_bool hb4).1 rfl dX15_isNeedless_26
  · replace h := (if_neg hc2).symm.trans h
    refine lv_aload_n C0.hx C0.hb dX15_isNeedless_13 rfl (lv_at hl 0 rfl) ?_
    refine lv_iload_n C0.hx C0.hb dX15_isNeedless_14 rfl (lv_at hl 1 rfl) ?_
    obtain ⟨q5, hq5, h⟩ := Option.bind_eq_some_iff.mp h
    refine g_calli hW (g_runV (As := [.int (p1)]) (rest := []) C0 hW (c_X15_needless hq5) (g_cwOf (n := 1) tc_X15_needless tn_X15 md_X15_needless (by decide) (by omega)) tm_X15_350 ti_X15_needless ts_X15_needless (C0.mem (i := 120) (Nat.le_of_ble_eq_true rfl)) (g_c12 k_120) rfl rfl hl.1 rfl (Nat.le_of_ble_eq_true rfl) dX15_isNeedless_15) (fun H locs hW => ?_)
    refine lv_goto (tgt := 26) C0.hx C0.hb dX15_isNeedless_18 (by decide) ?_
    obtain ⟨hb6, h⟩ := g_if h
    obtain rfl := Option.some.inj h
    exact g_iret C0 hW rfl (g_bool hb6).1 rfl dX15_isNeedless_26
set_option maxRecDepth 100000 in
set_option maxHeartbeats 4000000 in
theorem c_X15_heardPitch {l : Launch} {G : GL} {ids : List Nat} {x : CS} {o : Nat → Int32} {y : MS} {p1 : Int32} {q : Int32 × MS}    (h : f_X15_heardPitch p1 y = some q) : Met l yX15_heardPitch (.code yX15_heardPitch cX15_heardPitch 2 (Option.some Jvm.ClassFile.FieldType.int) :: gT) (g_rm 1 0 0) (va_Pc [.ref (g_ad G (120)), .int (p1)] (g_P G ids (x, y, o))) (g_Qi G ids q.1 (x, q.2, o)) 0 0 (g_A G) := by
  unfold f_X15_heardPitch at h
  refine g_entry (by decide) (Nat.le_of_ble_eq_true rfl) (fun p e s m args below meth c ls C0 hl hW _ => ?_)
  have hl : lv_has ls 2 [(0, .ref (g_ad G (120))), (1, .int (p1))] := hl
  refine lv_aload_n C0.hx C0.hb dX15_heardPitch_0 rfl (lv_at hl 0 rfl) ?_
  refine lv_iconst (v := (0 : Int32)) C0.hx C0.hb dX15_heardPitch_1 (by decide) ?_
  refine gp_X15_0 C0 hW (C0.mem (i := 120) (Nat.le_of_ble_eq_true rfl)) k_120 tf_X15_62 dX15_heardPitch_2 (fun H locs hW => ?_)
  refine lv_iload_n C0.hx C0.hb dX15_heardPitch_5 rfl (lv_at hl 1 rfl) ?_
  refine lv_iconst (v := (0 : Int32)) C0.hx C0.hb dX15_heardPitch_6 (by decide) ?_
  refine lv_aload_n C0.hx C0.hb dX15_heardPitch_7 rfl (lv_at hl 0 rfl) ?_
  refine gf_X15_17 C0 hW (C0.mem (i := 120) (Nat.le_of_ble_eq_true rfl)) k_120 tf_X15_48 dX15_heardPitch_8 ?_
  refine gfN_X13_0 C0 hW (C0.mem (i := 152) (Nat.le_of_ble_eq_true rfl)) k_152 tfN_X15_270 dX15_heardPitch_11 ?_
  refine lv_bipush (v := (8 : Int32)) C0.hx C0.hb dX15_heardPitch_14 (by decide) ?_
  obtain ⟨hb1, h⟩ := g_if h
  refine ga_33 C0 hW (C0.mem (i := 153) (Nat.le_of_ble_eq_true rfl)) k_153 hb1 dX15_heardPitch_16 ?_
  refine lv_iconst (v := (1 : Int32)) C0.hx C0.hb dX15_heardPitch_17 (by decide) ?_
  refine lv_isub C0.hx C0.hb dX15_heardPitch_18 ?_
  obtain ⟨q2, hq2, h⟩ := Option.bind_eq_some_iff.mp h
  refine g_calli hW (g_runS (As := [.int (p1), .int ((0 : Int32)), .int (((g_mi y 120 0 (0 : Int32)) 153 (8 : Int32).toNatClampNeg) - (1 : Int32))]) (rest := []) C0 hW (c_X15_isIn hq2) (g_cwOf (n := 3) tc_X15_isIn tn_X15 md_X15_isIn (by decide) (by omega)) tm_X15_65 tz_X15_isIn rfl hl.1 rfl (Nat.le_of_ble_eq_true rfl) dX15_heardPitch_19) (fun H locs hW => ?_)
  refine lv_if_eq (tgt := 41) C0.hx C0.hb dX15_heardPitch_22 (by decide) (fun hc3 => ?_) (fun hc3 => ?_)
  · replace h := (if_pos hc3).symm.trans h
    refine lv_aload_n C0.hx C0.hb dX15_heardPitch_41 rfl (lv_at hl 0 rfl) ?_
    refine lv_iconst (v := (1 : Int32)) C0.hx C0.hb dX15_heardPitch_42 (by decide) ?_
    obtain ⟨q4, hq4, h⟩ := Option.bind_eq_some_iff.mp h
    refine g_calli hW (g_runV (As := [.int ((1 : Int32))]) (rest := []) C0 hW (c_X15_no hq4) (g_cwOf (n := 1) tc_X15_no tn_X15 md_X15_no (by decide) (by omega)) tm_X15_253 ti_X15_no ts_X15_no (C0.mem (i := 120) (Nat.le_of_ble_eq_true rfl)) (g_c12 k_120) rfl rfl hl.1 rfl (Nat.le_of_ble_eq_true rfl) dX15_heardPitch_43) (fun H locs hW => ?_)
    obtain rfl := Option.some.inj h
    exact g_iret C0 hW rfl rfl rfl dX15_heardPitch_46
  · replace h := (if_neg hc3).symm.trans h
    refine lv_aload_n C0.hx C0.hb dX15_heardPitch_25 rfl (lv_at hl 0 rfl) ?_
    refine gf_X15_17 C0 hW (C0.mem (i := 120) (Nat.le_of_ble_eq_true rfl)) k_120 tf_X15_48 dX15_heardPitch_26 ?_
    refine gfN_X13_1 C0 hW (C0.mem (i := 152) (Nat.le_of_ble_eq_true rfl)) k_152 tfN_X15_271 dX15_heardPitch_29 ?_
    refine lv_sipush (v := (192 : Int32)) C0.hx C0.hb dX15_heardPitch_32 (by decide) ?_
    refine lv_iload_n C0.hx C0.hb dX15_heardPitch_35 rfl (lv_at hl 1 rfl) ?_
    refine lv_iadd C0.hx C0.hb dX15_heardPitch_36 ?_
    obtain ⟨hb5, h⟩ := g_if h
    refine ga_34 C0 hW (C0.mem (i := 154) (Nat.le_of_ble_eq_true rfl)) k_154 hb5 dX15_heardPitch_37 ?_
    refine lv_goto (tgt := 46) C0.hx C0.hb dX15_heardPitch_38 (by decide) ?_
    obtain rfl := Option.some.inj h
    exact g_iret C0 hW rfl rfl rfl dX15_heardPitch_46
set_option maxRecDepth 100000 in
set_option maxHeartbeats 4000000 in
theorem w_X15_isHeard_31 {p : Program} {l : Launch} {e : Env} {s : State} {m : MethodId} {args : Array Value} {below : List Frame} {meth : Method} {c : Code} {G : GL} {ids : List Nat} {x : CS} {o : Nat → Int32}  {q : Int32 × MS}   (C0 : g_X G ids p s m args meth c cX15_isHeard 2 RX15 (Option.some Jvm.ClassFile.FieldType.boolean))  : ∀  (s0 : Int32) (y : MS) (H : Heap) (locs : List Loc) (ls : Array Slot),  f_X15_isHeard_31 s0 y = some q → g_W G ids (x, y, o) s.heap H locs → lv_has ls 2 [(0, .ref (g_ad G (120)))] → W p l e (g_rm 2 0 0) s m args below meth c H locs 0 0 (MQ below (g_Qi G ids q.1 (x, q.2, o)) args s 0 0 (g_A G)) (F0 m 31 ls [.int (s0), .ref (g_ad G (120))]) := by
  intro s0 y H locs ls h hW hl
  unfold f_X15_isHeard_31 at h
  refine gp_X15_0 C0 hW (C0.mem (i := 120) (Nat.le_of_ble_eq_true rfl)) k_120 tf_X15_62 dX15_isHeard_31 (fun H locs hW => ?_)
  refine lv_aload_n C0.hx C0.hb dX15_isHeard_34 rfl (lv_at hl 0 rfl) ?_
  refine gf_X15_0 C0 hW (C0.mem (i := 120) (Nat.le_of_ble_eq_true rfl)) k_120 tf_X15_62 dX15_isHeard_35 ?_
  refine lv_if_ne (tgt := 45) C0.hx C0.hb dX15_isHeard_38 (by decide) (fun hc5 => ?_) (fun hc5 => ?_)
  · replace h := (if_neg hc5).symm.trans h
    refine lv_iconst (v := (0 : Int32)) C0.hx C0.hb dX15_isHeard_45 (by decide) ?_
    obtain rfl := Option.some.inj h
    exact g_iret C0 hW rfl (g_bool (Or.inl rfl)).1 rfl dX15_isHeard_46
  · replace h := (if_pos hc5).symm.trans h
    refine lv_iconst (v := (1 : Int32)) C0.hx C0.hb dX15_isHeard_41 (by decide) ?_
    refine lv_goto (tgt := 46) C0.hx C0.hb dX15_isHeard_42 (by decide) ?_
    obtain rfl := Option.some.inj h
    exact g_iret C0 hW rfl (g_bool (Or.inr rfl)).1 rfl dX15_isHeard_46
set_option maxRecDepth 100000 in
set_option maxHeartbeats 4000000 in
theorem c_X15_isHeard {l : Launch} {G : GL} {ids : List Nat} {x : CS} {o : Nat → Int32} {y : MS} {p1 : Int32} {q : Int32 × MS}    (h : f_X15_isHeard p1 y = some q) : Met l yX15_isHeard (.code yX15_isHeard cX15_isHeard 2 (Option.some Jvm.ClassFile.FieldType.boolean) :: gT) (g_rm 2 0 0) (va_Pc [.ref (g_ad G (120)), .int (p1)] (g_P G ids (x, y, o))) (g_Qi G ids q.1 (x, q.2, o)) 0 0 (g_A G) := by
  unfold f_X15_isHeard at h
  refine g_entry (by decide) (Nat.le_of_ble_eq_true rfl) (fun p e s m args below meth c ls C0 hl hW _ => ?_)
  have hl : lv_has ls 2 [(0, .ref (g_ad G (120))), (1, .int (p1))] := hl
  refine lv_aload_n C0.hx C0.hb dX15_isHeard_0 rfl (lv_at hl 0 rfl) ?_
  refine lv_aload_n C0.hx C0.hb dX15_isHeard_1 rfl (lv_at hl 0 rfl) ?_
  refine lv_iload_n C0.hx C0.hb dX15_isHeard_2 rfl (lv_at hl 1 rfl) ?_
  obtain ⟨q1, hq1, h⟩ := Option.bind_eq_some_iff.mp h
  refine g_calli hW (g_runV (As := [.int (p1)]) (rest := [.ref (g_ad G (120))]) C0 hW (c_X15_isTold hq1) (g_cwOf (n := 1) tc_X15_isTold tn_X15 md_X15_isTold (by decide) (by omega)) tm_X15_341 ti_X15_isTold ts_X15_isTold (C0.mem (i := 120) (Nat.le_of_ble_eq_true rfl)) (g_c12 k_120) rfl rfl hl.1 rfl (Nat.le_of_ble_eq_true rfl) dX15_isHeard_3) (fun H locs hW => ?_)
  refine lv_if_ne (tgt := 13) C0.hx C0.hb dX15_isHeard_6 (by decide) (fun hc2 => ?_) (fun hc2 => ?_)
  · replace h := (if_neg hc2).symm.trans h
    refine lv_aload_n C0.hx C0.hb dX15_isHeard_13 rfl (lv_at hl 0 rfl) ?_
    refine gf_X15_17 C0 hW (C0.mem (i := 120) (Nat.le_of_ble_eq_true rfl)) k_120 tf_X15_48 dX15_isHeard_14 ?_
    refine gfN_X13_0 C0 hW (C0.mem (i := 152) (Nat.le_of_ble_eq_true rfl)) k_152 tfN_X15_270 dX15_isHeard_17 ?_
    refine lv_bipush (v := (8 : Int32)) C0.hx C0.hb dX15_isHeard_20 (by decide) ?_
    obtain ⟨hb3, h⟩ := g_if h
    refine ga_33 C0 hW (C0.mem (i := 153) (Nat.le_of_ble_eq_true rfl)) k_153 hb3 dX15_isHeard_22 ?_
    refine lv_if_ne (tgt := 30) C0.hx C0.hb dX15_isHeard_23 (by decide) (fun hc4 => ?_) (fun hc4 => ?_)
    · replace h := (if_neg hc4).symm.trans h
      refine lv_iconst (v := (0 : Int32)) C0.hx C0.hb dX15_isHeard_30 (by decide) ?_
      exact w_X15_isHeard_31 C0 _ _ _ _ _ h hW (lv_sub hl [0] rfl)
    · replace h := (if_pos hc4).symm.trans h
      refine lv_iconst (v := (2 : Int32)) C0.hx C0.hb dX15_isHeard_26 (by decide) ?_
      refine lv_goto (tgt := 31) C0.hx C0.hb dX15_isHeard_27 (by decide) ?_
      exact w_X15_isHeard_31 C0 _ _ _ _ _ h hW (lv_sub hl [0] rfl)
  · replace h := (if_pos hc2).symm.trans h
    refine lv_iconst (v := (1 : Int32)) C0.hx C0.hb dX15_isHeard_9 (by decide) ?_
    refine lv_goto (tgt := 31) C0.hx C0.hb dX15_isHeard_10 (by decide) ?_
    exact w_X15_isHeard_31 C0 _ _ _ _ _ h hW (lv_sub hl [0] rfl)
