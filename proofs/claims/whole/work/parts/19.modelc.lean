set_option maxRecDepth 100000 in
set_option maxHeartbeats 4000000 in
theorem c_X15_distanceTo {l : Launch} {G : GL} {ids : List Nat} {x : CS} {o : Nat → Int32} {y : MS} {p1 : Int32} {q : Int32 × MS}    (h : f_X15_distanceTo p1 y = some q) : Met l yX15_distanceTo (.code yX15_distanceTo cX15_distanceTo 2 (Option.some Jvm.ClassFile.FieldType.int) :: gT) (g_rm 5 0 0) (va_Pc [.ref (g_ad G (120)), .int (p1)] (g_P G ids (x, y, o))) (g_Qi G ids q.1 (x, q.2, o)) 0 0 (g_A G) := by
  unfold f_X15_distanceTo at h
  refine g_entry (by decide) (Nat.le_of_ble_eq_true rfl) (fun p e s m args below meth c ls C0 hl hW _ => ?_)
  have hl : lv_has ls 2 [(0, .ref (g_ad G (120))), (1, .int (p1))] := hl
  refine lv_aload_n C0.hx C0.hb dX15_distanceTo_0 rfl (lv_at hl 0 rfl) ?_
  refine lv_iload_n C0.hx C0.hb dX15_distanceTo_1 rfl (lv_at hl 1 rfl) ?_
  obtain ⟨q1, hq1, h⟩ := Option.bind_eq_some_iff.mp h
  refine g_calli hW (g_runV (As := [.int (p1)]) (rest := []) C0 hW (c_X15_isHeard hq1) (g_cwOf (n := 1) tc_X15_isHeard tn_X15 md_X15_isHeard (by decide) (by omega)) tm_X15_353 ti_X15_isHeard ts_X15_isHeard (C0.mem (i := 120) (Nat.le_of_ble_eq_true rfl)) (g_c12 k_120) rfl rfl hl.1 rfl (Nat.le_of_ble_eq_true rfl) dX15_distanceTo_2) (fun H locs hW => ?_)
  refine lv_if_eq (tgt := 22) C0.hx C0.hb dX15_distanceTo_5 (by decide) (fun hc2 => ?_) (fun hc2 => ?_)
  · replace h := (if_pos hc2).symm.trans h
    refine lv_iconst (v := (0 : Int32)) C0.hx C0.hb dX15_distanceTo_22 (by decide) ?_
    obtain rfl := Option.some.inj h
    exact g_iret C0 hW rfl rfl rfl dX15_distanceTo_23
  · replace h := (if_neg hc2).symm.trans h
    refine lv_aload_n C0.hx C0.hb dX15_distanceTo_8 rfl (lv_at hl 0 rfl) ?_
    refine lv_aload_n C0.hx C0.hb dX15_distanceTo_9 rfl (lv_at hl 0 rfl) ?_
    refine gf_X15_17 C0 hW (C0.mem (i := 120) (Nat.le_of_ble_eq_true rfl)) k_120 tf_X15_48 dX15_distanceTo_10 ?_
    refine lv_iload_n C0.hx C0.hb dX15_distanceTo_13 rfl (lv_at hl 1 rfl) ?_
    refine lv_bipush (v := (8 : Int32)) C0.hx C0.hb dX15_distanceTo_14 (by decide) ?_
    obtain ⟨q3, hq3, h⟩ := Option.bind_eq_some_iff.mp h
    refine g_calli hW (g_runV (As := [.ref (g_ad G (152)), .int (p1), .int ((8 : Int32))]) (rest := []) C0 hW (c_X15_distance k_152 hq3) (g_cwOf (n := 3) tc_X15_distance tn_X15 md_X15_distance (by decide) (by omega)) tm_X15_296 ti_X15_distance ts_X15_distance (C0.mem (i := 120) (Nat.le_of_ble_eq_true rfl)) (g_c12 k_120) rfl rfl hl.1 rfl (Nat.le_of_ble_eq_true rfl) dX15_distanceTo_16) (fun H locs hW => ?_)
    refine lv_goto (tgt := 23) C0.hx C0.hb dX15_distanceTo_19 (by decide) ?_
    obtain rfl := Option.some.inj h
    exact g_iret C0 hW rfl rfl rfl dX15_distanceTo_23
set_option maxRecDepth 100000 in
set_option maxHeartbeats 4000000 in
theorem c_X15_contourTo {l : Launch} {G : GL} {ids : List Nat} {x : CS} {o : Nat → Int32} {y : MS} {p1 : Int32} {q : Int32 × MS}    (h : f_X15_contourTo p1 y = some q) : Met l yX15_contourTo (.code yX15_contourTo cX15_contourTo 2 (Option.some Jvm.ClassFile.FieldType.int) :: gT) (g_rm 4 0 0) (va_Pc [.ref (g_ad G (120)), .int (p1)] (g_P G ids (x, y, o))) (g_Qi G ids q.1 (x, q.2, o)) 0 0 (g_A G) := by
  unfold f_X15_contourTo at h
  refine g_entry (by decide) (Nat.le_of_ble_eq_true rfl) (fun p e s m args below meth c ls C0 hl hW _ => ?_)
  have hl : lv_has ls 2 [(0, .ref (g_ad G (120))), (1, .int (p1))] := hl
  refine lv_aload_n C0.hx C0.hb dX15_contourTo_0 rfl (lv_at hl 0 rfl) ?_
  refine lv_iload_n C0.hx C0.hb dX15_contourTo_1 rfl (lv_at hl 1 rfl) ?_
  obtain ⟨q1, hq1, h⟩ := Option.bind_eq_some_iff.mp h
  refine g_calli hW (g_runV (As := [.int (p1)]) (rest := []) C0 hW (c_X15_isHeard hq1) (g_cwOf (n := 1) tc_X15_isHeard tn_X15 md_X15_isHeard (by decide) (by omega)) tm_X15_353 ti_X15_isHeard ts_X15_isHeard (C0.mem (i := 120) (Nat.le_of_ble_eq_true rfl)) (g_c12 k_120) rfl rfl hl.1 rfl (Nat.le_of_ble_eq_true rfl) dX15_contourTo_2) (fun H locs hW => ?_)
  refine lv_if_eq (tgt := 26) C0.hx C0.hb dX15_contourTo_5 (by decide) (fun hc2 => ?_) (fun hc2 => ?_)
  · replace h := (if_pos hc2).symm.trans h
    refine lv_iconst (v := (0 : Int32)) C0.hx C0.hb dX15_contourTo_26 (by decide) ?_
    obtain rfl := Option.some.inj h
    exact g_iret C0 hW rfl rfl rfl dX15_contourTo_27
  · replace h := (if_neg hc2).symm.trans h
    refine lv_aload_n C0.hx C0.hb dX15_contourTo_8 rfl (lv_at hl 0 rfl) ?_
    refine lv_aload_n C0.hx C0.hb dX15_contourTo_9 rfl (lv_at hl 0 rfl) ?_
    refine gf_X15_17 C0 hW (C0.mem (i := 120) (Nat.le_of_ble_eq_true rfl)) k_120 tf_X15_48 dX15_contourTo_10 ?_
    refine lv_iload_n C0.hx C0.hb dX15_contourTo_13 rfl (lv_at hl 1 rfl) ?_
    refine lv_bipush (v := (8 : Int32)) C0.hx C0.hb dX15_contourTo_14 (by decide) ?_
    refine lv_iconst (v := (1 : Int32)) C0.hx C0.hb dX15_contourTo_16 (by decide) ?_
    obtain ⟨q3, hq3, h⟩ := Option.bind_eq_some_iff.mp h
    refine g_calli hW (g_runV (As := [.ref (g_ad G (152)), .int (p1), .int ((8 : Int32)), .int ((1 : Int32))]) (rest := []) C0 hW (c_X15_way k_152 hq3) (g_cwOf (n := 4) tc_X15_way tn_X15 md_X15_way (by decide) (by omega)) tm_X15_289 ti_X15_way ts_X15_way (C0.mem (i := 120) (Nat.le_of_ble_eq_true rfl)) (g_c12 k_120) rfl rfl hl.1 rfl (Nat.le_of_ble_eq_true rfl) dX15_contourTo_17) (fun H locs hW => ?_)
    refine lv_bipush (v := (100 : Int32)) C0.hx C0.hb dX15_contourTo_20 (by decide) ?_
    refine lv_idiv C0.hx C0.hb dX15_contourTo_22 (by decide) ?_
    refine lv_goto (tgt := 27) C0.hx C0.hb dX15_contourTo_23 (by decide) ?_
    obtain rfl := Option.some.inj h
    exact g_iret C0 hW rfl rfl rfl dX15_contourTo_27
set_option maxRecDepth 100000 in
set_option maxHeartbeats 4000000 in
theorem c_X15_stepsTo {l : Launch} {G : GL} {ids : List Nat} {x : CS} {o : Nat → Int32} {y : MS} {p1 : Int32} {q : Int32 × MS}    (h : f_X15_stepsTo p1 y = some q) : Met l yX15_stepsTo (.code yX15_stepsTo cX15_stepsTo 2 (Option.some Jvm.ClassFile.FieldType.int) :: gT) (g_rm 4 0 0) (va_Pc [.ref (g_ad G (120)), .int (p1)] (g_P G ids (x, y, o))) (g_Qi G ids q.1 (x, q.2, o)) 0 0 (g_A G) := by
  unfold f_X15_stepsTo at h
  refine g_entry (by decide) (Nat.le_of_ble_eq_true rfl) (fun p e s m args below meth c ls C0 hl hW _ => ?_)
  have hl : lv_has ls 2 [(0, .ref (g_ad G (120))), (1, .int (p1))] := hl
  refine lv_aload_n C0.hx C0.hb dX15_stepsTo_0 rfl (lv_at hl 0 rfl) ?_
  refine lv_iload_n C0.hx C0.hb dX15_stepsTo_1 rfl (lv_at hl 1 rfl) ?_
  obtain ⟨q1, hq1, h⟩ := Option.bind_eq_some_iff.mp h
  refine g_calli hW (g_runV (As := [.int (p1)]) (rest := []) C0 hW (c_X15_isHeard hq1) (g_cwOf (n := 1) tc_X15_isHeard tn_X15 md_X15_isHeard (by decide) (by omega)) tm_X15_353 ti_X15_isHeard ts_X15_isHeard (C0.mem (i := 120) (Nat.le_of_ble_eq_true rfl)) (g_c12 k_120) rfl rfl hl.1 rfl (Nat.le_of_ble_eq_true rfl) dX15_stepsTo_2) (fun H locs hW => ?_)
  refine lv_if_eq (tgt := 26) C0.hx C0.hb dX15_stepsTo_5 (by decide) (fun hc2 => ?_) (fun hc2 => ?_)
  · replace h := (if_pos hc2).symm.trans h
    refine lv_iconst (v := (0 : Int32)) C0.hx C0.hb dX15_stepsTo_26 (by decide) ?_
    obtain rfl := Option.some.inj h
    exact g_iret C0 hW rfl rfl rfl dX15_stepsTo_27
  · replace h := (if_neg hc2).symm.trans h
    refine lv_aload_n C0.hx C0.hb dX15_stepsTo_8 rfl (lv_at hl 0 rfl) ?_
    refine lv_aload_n C0.hx C0.hb dX15_stepsTo_9 rfl (lv_at hl 0 rfl) ?_
    refine gf_X15_17 C0 hW (C0.mem (i := 120) (Nat.le_of_ble_eq_true rfl)) k_120 tf_X15_48 dX15_stepsTo_10 ?_
    refine lv_iload_n C0.hx C0.hb dX15_stepsTo_13 rfl (lv_at hl 1 rfl) ?_
    refine lv_bipush (v := (8 : Int32)) C0.hx C0.hb dX15_stepsTo_14 (by decide) ?_
    refine lv_iconst (v := (0 : Int32)) C0.hx C0.hb dX15_stepsTo_16 (by decide) ?_
    obtain ⟨q3, hq3, h⟩ := Option.bind_eq_some_iff.mp h
    refine g_calli hW (g_runV (As := [.ref (g_ad G (152)), .int (p1), .int ((8 : Int32)), .int ((0 : Int32))]) (rest := []) C0 hW (c_X15_way k_152 hq3) (g_cwOf (n := 4) tc_X15_way tn_X15 md_X15_way (by decide) (by omega)) tm_X15_289 ti_X15_way ts_X15_way (C0.mem (i := 120) (Nat.le_of_ble_eq_true rfl)) (g_c12 k_120) rfl rfl hl.1 rfl (Nat.le_of_ble_eq_true rfl) dX15_stepsTo_17) (fun H locs hW => ?_)
    refine lv_bipush (v := (100 : Int32)) C0.hx C0.hb dX15_stepsTo_20 (by decide) ?_
    refine lv_irem C0.hx C0.hb dX15_stepsTo_22 (by decide) ?_
    refine lv_goto (tgt := 27) C0.hx C0.hb dX15_stepsTo_23 (by decide) ?_
    obtain rfl := Option.some.inj h
    exact g_iret C0 hW rfl rfl rfl dX15_stepsTo_27
set_option maxRecDepth 100000 in
set_option maxHeartbeats 4000000 in
theorem c_X15_meantWord {l : Launch} {G : GL} {ids : List Nat} {x : CS} {o : Nat → Int32} {y : MS}  {q : Int32 × MS}    (h : f_X15_meantWord y = some q) : Met l yX15_meantWord (.code yX15_meantWord cX15_meantWord 2 (Option.some Jvm.ClassFile.FieldType.int) :: gT) (g_rm 6 0 0) (va_Pc [.ref (g_ad G (120))] (g_P G ids (x, y, o))) (g_Qi G ids q.1 (x, q.2, o)) 0 0 (g_A G) := by
  unfold f_X15_meantWord at h
  refine g_entry (by decide) (Nat.le_of_ble_eq_true rfl) (fun p e s m args below meth c ls C0 hl hW _ => ?_)
  have hl : lv_has ls 2 [(0, .ref (g_ad G (120)))] := hl
  refine lv_aload_n C0.hx C0.hb dX15_meantWord_0 rfl (lv_at hl 0 rfl) ?_
  refine lv_aload_n C0.hx C0.hb dX15_meantWord_1 rfl (lv_at hl 0 rfl) ?_
  refine gf_X15_17 C0 hW (C0.mem (i := 120) (Nat.le_of_ble_eq_true rfl)) k_120 tf_X15_48 dX15_meantWord_2 ?_
  refine lv_iconst (v := (-1 : Int32)) C0.hx C0.hb dX15_meantWord_5 (by decide) ?_
  obtain ⟨q1, hq1, h⟩ := Option.bind_eq_some_iff.mp h
  refine g_calli hW (g_runV (As := [.ref (g_ad G (152)), .int ((-1 : Int32))]) (rest := []) C0 hW (c_X15_meant k_152 hq1) (g_cwOf (n := 2) tc_X15_meant tn_X15 md_X15_meant (by decide) (by omega)) tm_X15_310 ti_X15_meant ts_X15_meant (C0.mem (i := 120) (Nat.le_of_ble_eq_true rfl)) (g_c12 k_120) rfl rfl hl.1 rfl (Nat.le_of_ble_eq_true rfl) dX15_meantWord_6) (fun H locs hW => ?_)
  refine lv_istore_n (lv' := [(1, .int (q1.1)), (0, .ref (g_ad G (120)))]) C0.hx C0.hb dX15_meantWord_9 rfl hl (by decide) rfl (fun ls hl => ?_)
  refine lv_iload_n C0.hx C0.hb dX15_meantWord_10 rfl (lv_at hl 0 rfl) ?_
  refine lv_iconst (v := (-1 : Int32)) C0.hx C0.hb dX15_meantWord_11 (by decide) ?_
  refine lv_icmp_ne (tgt := 23) C0.hx C0.hb dX15_meantWord_12 (by decide) (fun hc2 => ?_) (fun hc2 => ?_)
  · replace h := (if_neg hc2).symm.trans h
    refine lv_aload_n C0.hx C0.hb dX15_meantWord_23 rfl (lv_at hl 1 rfl) ?_
    refine lv_iload_n C0.hx C0.hb dX15_meantWord_24 rfl (lv_at hl 0 rfl) ?_
    obtain ⟨q3, hq3, h⟩ := Option.bind_eq_some_iff.mp h
    refine g_calli hW (g_runV (As := [.int (q1.1)]) (rest := []) C0 hW (c_X15_ok hq3) (g_cwOf (n := 1) tc_X15_ok tn_X15 md_X15_ok (by decide) (by omega)) tm_X15_267 ti_X15_ok ts_X15_ok (C0.mem (i := 120) (Nat.le_of_ble_eq_true rfl)) (g_c12 k_120) rfl rfl hl.1 rfl (Nat.le_of_ble_eq_true rfl) dX15_meantWord_25) (fun H locs hW => ?_)
    obtain rfl := Option.some.inj h
    exact g_iret C0 hW rfl rfl rfl dX15_meantWord_28
  · replace h := (if_pos hc2).symm.trans h
    refine lv_aload_n C0.hx C0.hb dX15_meantWord_15 rfl (lv_at hl 1 rfl) ?_
    refine lv_iconst (v := (1 : Int32)) C0.hx C0.hb dX15_meantWord_16 (by decide) ?_
    obtain ⟨q4, hq4, h⟩ := Option.bind_eq_some_iff.mp h
    refine g_calli hW (g_runV (As := [.int ((1 : Int32))]) (rest := []) C0 hW (c_X15_no hq4) (g_cwOf (n := 1) tc_X15_no tn_X15 md_X15_no (by decide) (by omega)) tm_X15_253 ti_X15_no ts_X15_no (C0.mem (i := 120) (Nat.le_of_ble_eq_true rfl)) (g_c12 k_120) rfl rfl hl.1 rfl (Nat.le_of_ble_eq_true rfl) dX15_meantWord_17) (fun H locs hW => ?_)
    refine lv_goto (tgt := 28) C0.hx C0.hb dX15_meantWord_20 (by decide) ?_
    obtain rfl := Option.some.inj h
    exact g_iret C0 hW rfl rfl rfl dX15_meantWord_28
set_option maxRecDepth 100000 in
set_option maxHeartbeats 4000000 in
theorem w_X15_surety_64 {p : Program} {l : Launch} {e : Env} {s : State} {m : MethodId} {args : Array Value} {below : List Frame} {meth : Method} {c : Code} {G : GL} {ids : List Nat} {x : CS} {o : Nat → Int32}  {q : Int32 × MS}   (C0 : g_X G ids p s m args meth c cX15_surety 3 RX15 (Option.some Jvm.ClassFile.FieldType.int))  : ∀  (s0 : Int32) (y : MS) (H : Heap) (locs : List Loc) (ls : Array Slot),  f_X15_surety_64 s0 y = some q → g_W G ids (x, y, o) s.heap H locs → lv_has ls 3 [] → W p l e (g_rm 6 0 0) s m args below meth c H locs 0 0 (MQ below (g_Qi G ids q.1 (x, q.2, o)) args s 0 0 (g_A G)) (F0 m 64 ls [.int (s0), .ref (g_ad G (120))]) := by
  intro s0 y H locs ls h hW hl
  unfold f_X15_surety_64 at h
  obtain ⟨q8, hq8, h⟩ := Option.bind_eq_some_iff.mp h
  refine g_calli hW (g_runV (As := [.int (s0)]) (rest := []) C0 hW (c_X15_ok hq8) (g_cwOf (n := 1) tc_X15_ok tn_X15 md_X15_ok (by decide) (by omega)) tm_X15_267 ti_X15_ok ts_X15_ok (C0.mem (i := 120) (Nat.le_of_ble_eq_true rfl)) (g_c12 k_120) rfl rfl hl.1 rfl (Nat.le_of_ble_eq_true rfl) dX15_surety_64) (fun H locs hW => ?_)
  obtain rfl := Option.some.inj h
  exact g_iret C0 hW rfl rfl rfl dX15_surety_67
set_option maxRecDepth 100000 in
set_option maxHeartbeats 4000000 in
theorem c_X15_surety {l : Launch} {G : GL} {ids : List Nat} {x : CS} {o : Nat → Int32} {y : MS}  {q : Int32 × MS}    (h : f_X15_surety y = some q) : Met l yX15_surety (.code yX15_surety cX15_surety 3 (Option.some Jvm.ClassFile.FieldType.int) :: gT) (g_rm 6 0 0) (va_Pc [.ref (g_ad G (120))] (g_P G ids (x, y, o))) (g_Qi G ids q.1 (x, q.2, o)) 0 0 (g_A G) := by
  unfold f_X15_surety at h
  refine g_entry (by decide) (Nat.le_of_ble_eq_true rfl) (fun p e s m args below meth c ls C0 hl hW _ => ?_)
  have hl : lv_has ls 3 [(0, .ref (g_ad G (120)))] := hl
  refine lv_aload_n C0.hx C0.hb dX15_surety_0 rfl (lv_at hl 0 rfl) ?_
  refine lv_aload_n C0.hx C0.hb dX15_surety_1 rfl (lv_at hl 0 rfl) ?_
  refine gf_X15_17 C0 hW (C0.mem (i := 120) (Nat.le_of_ble_eq_true rfl)) k_120 tf_X15_48 dX15_surety_2 ?_
  refine lv_iconst (v := (-1 : Int32)) C0.hx C0.hb dX15_surety_5 (by decide) ?_
  obtain ⟨q1, hq1, h⟩ := Option.bind_eq_some_iff.mp h
  refine g_calli hW (g_runV (As := [.ref (g_ad G (152)), .int ((-1 : Int32))]) (rest := []) C0 hW (c_X15_meant k_152 hq1) (g_cwOf (n := 2) tc_X15_meant tn_X15 md_X15_meant (by decide) (by omega)) tm_X15_310 ti_X15_meant ts_X15_meant (C0.mem (i := 120) (Nat.le_of_ble_eq_true rfl)) (g_c12 k_120) rfl rfl hl.1 rfl (Nat.le_of_ble_eq_true rfl) dX15_surety_6) (fun H locs hW => ?_)
  refine lv_istore_n (lv' := [(1, .int (q1.1)), (0, .ref (g_ad G (120)))]) C0.hx C0.hb dX15_surety_9 rfl hl (by decide) rfl (fun ls hl => ?_)
  refine lv_iload_n C0.hx C0.hb dX15_surety_10 rfl (lv_at hl 0 rfl) ?_
  refine lv_iconst (v := (-1 : Int32)) C0.hx C0.hb dX15_surety_11 (by decide) ?_
  refine lv_icmp_ne (tgt := 21) C0.hx C0.hb dX15_surety_12 (by decide) (fun hc2 => ?_) (fun hc2 => ?_)
  · replace h := (if_neg hc2).symm.trans h
    refine lv_aload_n C0.hx C0.hb dX15_surety_21 rfl (lv_at hl 1 rfl) ?_
    refine lv_aload_n C0.hx C0.hb dX15_surety_22 rfl (lv_at hl 1 rfl) ?_
    refine gf_X15_17 C0 hW (C0.mem (i := 120) (Nat.le_of_ble_eq_true rfl)) k_120 tf_X15_48 dX15_surety_23 ?_
    refine lv_iload_n C0.hx C0.hb dX15_surety_26 rfl (lv_at hl 0 rfl) ?_
    obtain ⟨q3, hq3, h⟩ := Option.bind_eq_some_iff.mp h
    refine g_calli hW (g_runV (As := [.ref (g_ad G (152)), .int (q1.1)]) (rest := []) C0 hW (c_X15_meant k_152 hq3) (g_cwOf (n := 2) tc_X15_meant tn_X15 md_X15_meant (by decide) (by omega)) tm_X15_310 ti_X15_meant ts_X15_meant (C0.mem (i := 120) (Nat.le_of_ble_eq_true rfl)) (g_c12 k_120) rfl rfl hl.1 rfl (Nat.le_of_ble_eq_true rfl) dX15_surety_27) (fun H locs hW => ?_)
    refine lv_istore_n (lv' := [(2, .int (q3.1)), (1, .int (q1.1)), (0, .ref (g_ad G (120)))]) C0.hx C0.hb dX15_surety_30 rfl hl (by decide) rfl (fun ls hl => ?_)
    refine lv_aload_n C0.hx C0.hb dX15_surety_31 rfl (lv_at hl 2 rfl) ?_
    refine lv_iload_n C0.hx C0.hb dX15_surety_32 rfl (lv_at hl 0 rfl) ?_
    refine lv_iconst (v := (-1 : Int32)) C0.hx C0.hb dX15_surety_33 (by decide) ?_
    refine lv_icmp_ne (tgt := 41) C0.hx C0.hb dX15_surety_34 (by decide) (fun hc4 => ?_) (fun hc4 => ?_)
    · replace h := (if_neg hc4).symm.trans h
      refine lv_aload_n C0.hx C0.hb dX15_surety_41 rfl (lv_at hl 2 rfl) ?_
      refine lv_aload_n C0.hx C0.hb dX15_surety_42 rfl (lv_at hl 2 rfl) ?_
      refine gf_X15_17 C0 hW (C0.mem (i := 120) (Nat.le_of_ble_eq_true rfl)) k_120 tf_X15_48 dX15_surety_43 ?_
      refine lv_iload_n C0.hx C0.hb dX15_surety_46 rfl (lv_at hl 0 rfl) ?_
      refine lv_bipush (v := (8 : Int32)) C0.hx C0.hb dX15_surety_47 (by decide) ?_
      obtain ⟨q5, hq5, h⟩ := Option.bind_eq_some_iff.mp h
      refine g_calli hW (g_runV (As := [.ref (g_ad G (152)), .int (q3.1), .int ((8 : Int32))]) (rest := [.ref (g_ad G (120))]) C0 hW (c_X15_distance k_152 hq5) (g_cwOf (n := 3) tc_X15_distance tn_X15 md_X15_distance (by decide) (by omega)) tm_X15_296 ti_X15_distance ts_X15_distance (C0.mem (i := 120) (Nat.le_of_ble_eq_true rfl)) (g_c12 k_120) rfl rfl hl.1 rfl (Nat.le_of_ble_eq_true rfl) dX15_surety_49) (fun H locs hW => ?_)
      refine lv_aload_n C0.hx C0.hb dX15_surety_52 rfl (lv_at hl 2 rfl) ?_
      refine lv_aload_n C0.hx C0.hb dX15_surety_53 rfl (lv_at hl 2 rfl) ?_
      refine gf_X15_17 C0 hW (C0.mem (i := 120) (Nat.le_of_ble_eq_true rfl)) k_120 tf_X15_48 dX15_surety_54 ?_
      refine lv_iload_n C0.hx C0.hb dX15_surety_57 rfl (lv_at hl 1 rfl) ?_
      refine lv_bipush (v := (8 : Int32)) C0.hx C0.hb dX15_surety_58 (by decide) ?_
      obtain ⟨q6, hq6, h⟩ := Option.bind_eq_some_iff.mp h
      refine g_calli hW (g_runV (As := [.ref (g_ad G (152)), .int (q1.1), .int ((8 : Int32))]) (rest := [.int (q5.1), .ref (g_ad G (120))]) C0 hW (c_X15_distance k_152 hq6) (g_cwOf (n := 3) tc_X15_distance tn_X15 md_X15_distance (by decide) (by omega)) tm_X15_296 ti_X15_distance ts_X15_distance (C0.mem (i := 120) (Nat.le_of_ble_eq_true rfl)) (g_c12 k_120) rfl rfl hl.1 rfl (Nat.le_of_ble_eq_true rfl) dX15_surety_60) (fun H locs hW => ?_)
      refine lv_isub C0.hx C0.hb dX15_surety_63 ?_
      exact w_X15_surety_64 C0 _ _ _ _ _ h hW (lv_sub hl [] rfl)
    · replace h := (if_pos hc4).symm.trans h
      refine lv_iconst (v := (-1 : Int32)) C0.hx C0.hb dX15_surety_37 (by decide) ?_
      refine lv_goto (tgt := 64) C0.hx C0.hb dX15_surety_38 (by decide) ?_
      exact w_X15_surety_64 C0 _ _ _ _ _ h hW (lv_sub hl [] rfl)
  · replace h := (if_pos hc2).symm.trans h
    refine lv_aload_n C0.hx C0.hb dX15_surety_15 rfl (lv_at hl 1 rfl) ?_
    refine lv_iconst (v := (1 : Int32)) C0.hx C0.hb dX15_surety_16 (by decide) ?_
    obtain ⟨q7, hq7, h⟩ := Option.bind_eq_some_iff.mp h
    refine g_calli hW (g_runV (As := [.int ((1 : Int32))]) (rest := []) C0 hW (c_X15_no hq7) (g_cwOf (n := 1) tc_X15_no tn_X15 md_X15_no (by decide) (by omega)) tm_X15_253 ti_X15_no ts_X15_no (C0.mem (i := 120) (Nat.le_of_ble_eq_true rfl)) (g_c12 k_120) rfl rfl hl.1 rfl (Nat.le_of_ble_eq_true rfl) dX15_surety_17) (fun H locs hW => ?_)
    obtain rfl := Option.some.inj h
    exact g_iret C0 hW rfl rfl rfl dX15_surety_20
set_option maxRecDepth 100000 in
set_option maxHeartbeats 4000000 in
theorem c_X15_hear {l : Launch} {G : GL} {ids : List Nat} {x : CS} {o : Nat → Int32} {y : MS} {p1 : Int32} {q : Int32 × MS}    (h : f_X15_hear p1 y = some q) : Met l yX15_hear (.code yX15_hear cX15_hear 2 (Option.some Jvm.ClassFile.FieldType.int) :: gT) (g_rm 1 0 0) (va_Pc [.ref (g_ad G (120)), .int (p1)] (g_P G ids (x, y, o))) (g_Qi G ids q.1 (x, q.2, o)) 0 0 (g_A G) := by
  unfold f_X15_hear at h
  refine g_entry (by decide) (Nat.le_of_ble_eq_true rfl) (fun p e s m args below meth c ls C0 hl hW _ => ?_)
  have hl : lv_has ls 2 [(0, .ref (g_ad G (120))), (1, .int (p1))] := hl
  refine lv_aload_n C0.hx C0.hb dX15_hear_0 rfl (lv_at hl 0 rfl) ?_
  refine lv_iconst (v := (0 : Int32)) C0.hx C0.hb dX15_hear_1 (by decide) ?_
  refine gp_X15_0 C0 hW (C0.mem (i := 120) (Nat.le_of_ble_eq_true rfl)) k_120 tf_X15_62 dX15_hear_2 (fun H locs hW => ?_)
  refine lv_iload_n C0.hx C0.hb dX15_hear_5 rfl (lv_at hl 1 rfl) ?_
  refine lv_iconst (v := (0 : Int32)) C0.hx C0.hb dX15_hear_6 (by decide) ?_
  refine lv_bipush (v := (40 : Int32)) C0.hx C0.hb dX15_hear_7 (by decide) ?_
  obtain ⟨q1, hq1, h⟩ := Option.bind_eq_some_iff.mp h
  refine g_calli hW (g_runS (As := [.int (p1), .int ((0 : Int32)), .int ((40 : Int32))]) (rest := []) C0 hW (c_X15_isIn hq1) (g_cwOf (n := 3) tc_X15_isIn tn_X15 md_X15_isIn (by decide) (by omega)) tm_X15_65 tz_X15_isIn rfl hl.1 rfl (Nat.le_of_ble_eq_true rfl) dX15_hear_9) (fun H locs hW => ?_)
  refine lv_if_ne (tgt := 21) C0.hx C0.hb dX15_hear_12 (by decide) (fun hc2 => ?_) (fun hc2 => ?_)
  · replace h := (if_neg hc2).symm.trans h
    refine lv_aload_n C0.hx C0.hb dX15_hear_21 rfl (lv_at hl 0 rfl) ?_
    refine gf_X15_17 C0 hW (C0.mem (i := 120) (Nat.le_of_ble_eq_true rfl)) k_120 tf_X15_48 dX15_hear_22 ?_
    refine gfN_X13_0 C0 hW (C0.mem (i := 152) (Nat.le_of_ble_eq_true rfl)) k_152 tfN_X15_270 dX15_hear_25 ?_
    refine lv_bipush (v := (8 : Int32)) C0.hx C0.hb dX15_hear_28 (by decide) ?_
    obtain ⟨hb3, h⟩ := g_if h
    refine ga_33 C0 hW (C0.mem (i := 153) (Nat.le_of_ble_eq_true rfl)) k_153 hb3 dX15_hear_30 ?_
    refine lv_bipush (v := (24 : Int32)) C0.hx C0.hb dX15_hear_31 (by decide) ?_
    refine lv_icmp_ne (tgt := 42) C0.hx C0.hb dX15_hear_33 (by decide) (fun hc4 => ?_) (fun hc4 => ?_)
    · replace h := (if_neg hc4).symm.trans h
      refine lv_aload_n C0.hx C0.hb dX15_hear_42 rfl (lv_at hl 0 rfl) ?_
      refine gf_X15_17 C0 hW (C0.mem (i := 120) (Nat.le_of_ble_eq_true rfl)) k_120 tf_X15_48 dX15_hear_43 ?_
      refine gfN_X13_1 C0 hW (C0.mem (i := 152) (Nat.le_of_ble_eq_true rfl)) k_152 tfN_X15_271 dX15_hear_46 ?_
      refine lv_sipush (v := (192 : Int32)) C0.hx C0.hb dX15_hear_49 (by decide) ?_
      refine lv_aload_n C0.hx C0.hb dX15_hear_52 rfl (lv_at hl 0 rfl) ?_
      refine gf_X15_17 C0 hW (C0.mem (i := 120) (Nat.le_of_ble_eq_true rfl)) k_120 tf_X15_48 dX15_hear_53 ?_
      refine gfN_X13_0 C0 hW (C0.mem (i := 152) (Nat.le_of_ble_eq_true rfl)) k_152 tfN_X15_270 dX15_hear_56 ?_
      refine lv_bipush (v := (8 : Int32)) C0.hx C0.hb dX15_hear_59 (by decide) ?_
      obtain ⟨hb5, h⟩ := g_if h
      refine ga_33 C0 hW (C0.mem (i := 153) (Nat.le_of_ble_eq_true rfl)) k_153 hb5 dX15_hear_61 ?_
      refine lv_iadd C0.hx C0.hb dX15_hear_62 ?_
      refine lv_iload_n C0.hx C0.hb dX15_hear_63 rfl (lv_at hl 1 rfl) ?_
      obtain ⟨hb6, h⟩ := g_if h
      refine gs_34 C0 hW (C0.mem (i := 154) (Nat.le_of_ble_eq_true rfl)) k_154 hb6 dX15_hear_64 (fun H locs hW => ?_)
      refine lv_aload_n C0.hx C0.hb dX15_hear_65 rfl (lv_at hl 0 rfl) ?_
      refine gf_X15_17 C0 hW (C0.mem (i := 120) (Nat.le_of_ble_eq_true rfl)) k_120 tf_X15_48 dX15_hear_66 ?_
      refine gfN_X13_0 C0 hW (C0.mem (i := 152) (Nat.le_of_ble_eq_true rfl)) k_152 tfN_X15_270 dX15_hear_69 ?_
      refine lv_bipush (v := (8 : Int32)) C0.hx C0.hb dX15_hear_72 (by decide) ?_
      refine lv_dup2_11 C0.hx C0.hb dX15_hear_74 rfl rfl ?_
      obtain ⟨hb7, h⟩ := g_if h
      refine ga_33 C0 hW (C0.mem (i := 153) (Nat.le_of_ble_eq_true rfl)) k_153 hb7 dX15_hear_75 ?_
      refine lv_iconst (v := (1 : Int32)) C0.hx C0.hb dX15_hear_76 (by decide) ?_
      refine lv_iadd C0.hx C0.hb dX15_hear_77 ?_
      obtain ⟨hb8, h⟩ := g_if h
      refine gs_33 C0 hW (C0.mem (i := 153) (Nat.le_of_ble_eq_true rfl)) k_153 hb8 dX15_hear_78 (fun H locs hW => ?_)
      refine lv_aload_n C0.hx C0.hb dX15_hear_79 rfl (lv_at hl 0 rfl) ?_
      refine gf_X15_17 C0 hW (C0.mem (i := 120) (Nat.le_of_ble_eq_true rfl)) k_120 tf_X15_48 dX15_hear_80 ?_
      refine gfN_X13_0 C0 hW (C0.mem (i := 152) (Nat.le_of_ble_eq_true rfl)) k_152 tfN_X15_270 dX15_hear_83 ?_
      refine lv_bipush (v := (8 : Int32)) C0.hx C0.hb dX15_hear_86 (by decide) ?_
      obtain ⟨hb9, h⟩ := g_if h
      refine ga_33 C0 hW (C0.mem (i := 153) (Nat.le_of_ble_eq_true rfl)) k_153 hb9 dX15_hear_88 ?_
      obtain rfl := Option.some.inj h
      exact g_iret C0 hW rfl rfl rfl dX15_hear_89
    · replace h := (if_pos hc4).symm.trans h
      refine lv_aload_n C0.hx C0.hb dX15_hear_36 rfl (lv_at hl 0 rfl) ?_
      refine lv_iconst (v := (2 : Int32)) C0.hx C0.hb dX15_hear_37 (by decide) ?_
      obtain ⟨q10, hq10, h⟩ := Option.bind_eq_some_iff.mp h
      refine g_calli hW (g_runV (As := [.int ((2 : Int32))]) (rest := []) C0 hW (c_X15_no hq10) (g_cwOf (n := 1) tc_X15_no tn_X15 md_X15_no (by decide) (by omega)) tm_X15_253 ti_X15_no ts_X15_no (C0.mem (i := 120) (Nat.le_of_ble_eq_true rfl)) (g_c12 k_120) rfl rfl hl.1 rfl (Nat.le_of_ble_eq_true rfl) dX15_hear_38) (fun H locs hW => ?_)
      obtain rfl := Option.some.inj h
      exact g_iret C0 hW rfl rfl rfl dX15_hear_41
  · replace h := (if_pos hc2).symm.trans h
    refine lv_aload_n C0.hx C0.hb dX15_hear_15 rfl (lv_at hl 0 rfl) ?_
    refine lv_iconst (v := (1 : Int32)) C0.hx C0.hb dX15_hear_16 (by decide) ?_
    obtain ⟨q11, hq11, h⟩ := Option.bind_eq_some_iff.mp h
    refine g_calli hW (g_runV (As := [.int ((1 : Int32))]) (rest := []) C0 hW (c_X15_no hq11) (g_cwOf (n := 1) tc_X15_no tn_X15 md_X15_no (by decide) (by omega)) tm_X15_253 ti_X15_no ts_X15_no (C0.mem (i := 120) (Nat.le_of_ble_eq_true rfl)) (g_c12 k_120) rfl rfl hl.1 rfl (Nat.le_of_ble_eq_true rfl) dX15_hear_17) (fun H locs hW => ?_)
    obtain rfl := Option.some.inj h
    exact g_iret C0 hW rfl rfl rfl dX15_hear_20
set_option maxRecDepth 100000 in
set_option maxHeartbeats 4000000 in
theorem w_X15_hearWord_57 {p : Program} {l : Launch} {e : Env} {s : State} {m : MethodId} {args : Array Value} {below : List Frame} {meth : Method} {c : Code} {G : GL} {ids : List Nat} {x : CS} {o : Nat → Int32}  {q : Int32 × MS}   (C0 : g_X G ids p s m args meth c cX15_hearWord 4 RX15 (Option.some Jvm.ClassFile.FieldType.int))  : ∀ (n : Nat) (l1 : Int32) (l2 : Int32) (l3 : Int32) (y : MS) (H : Heap) (locs : List Loc) (ls : Array Slot),  f_X15_hearWord_57 n l1 l2 l3 y = some q → g_W G ids (x, y, o) s.heap H locs → lv_has ls 4 [(0, .ref (g_ad G (120))), (1, .int (l1)), (2, .int (l2)), (3, .int (l3))] → W p l e (g_rm 2 0 0) s m args below meth c H locs 0 0 (MQ below (g_Qi G ids q.1 (x, q.2, o)) args s 0 0 (g_A G)) (F0 m 57 ls []) := by
  intro n
  induction n with
  | zero =>
    intro l1 l2 l3 y H locs ls h hW hl
    exact absurd h (by simp [f_X15_hearWord_57])
  | succ n ih =>
    intro l1 l2 l3 y H locs ls h hW hl
    unfold f_X15_hearWord_57 at h
    refine lv_iload_n C0.hx C0.hb dX15_hearWord_57 rfl (lv_at hl 3 rfl) ?_
    refine lv_aload_n C0.hx C0.hb dX15_hearWord_58 rfl (lv_at hl 0 rfl) ?_
    refine gf_X15_17 C0 hW (C0.mem (i := 120) (Nat.le_of_ble_eq_true rfl)) k_120 tf_X15_48 dX15_hearWord_59 ?_
    refine gfN_X13_0 C0 hW (C0.mem (i := 152) (Nat.le_of_ble_eq_true rfl)) k_152 tfN_X15_270 dX15_hearWord_62 ?_
    refine lv_iload_n C0.hx C0.hb dX15_hearWord_65 rfl (lv_at hl 1 rfl) ?_
    obtain ⟨hb9, h⟩ := g_if h
    refine ga_33 C0 hW (C0.mem (i := 153) (Nat.le_of_ble_eq_true rfl)) k_153 hb9 dX15_hearWord_66 ?_
    refine lv_icmp_ge (tgt := 107) C0.hx C0.hb dX15_hearWord_67 (by decide) (fun hc10 => ?_) (fun hc10 => ?_)
    · replace h := (if_pos hc10).symm.trans h
      refine lv_aload_n C0.hx C0.hb dX15_hearWord_107 rfl (lv_at hl 0 rfl) ?_
      refine gf_X15_17 C0 hW (C0.mem (i := 120) (Nat.le_of_ble_eq_true rfl)) k_120 tf_X15_48 dX15_hearWord_108 ?_
      refine gfN_X13_0 C0 hW (C0.mem (i := 152) (Nat.le_of_ble_eq_true rfl)) k_152 tfN_X15_270 dX15_hearWord_111 ?_
      refine lv_bipush (v := (8 : Int32)) C0.hx C0.hb dX15_hearWord_114 (by decide) ?_
      obtain ⟨hb11, h⟩ := g_if h
      refine ga_33 C0 hW (C0.mem (i := 153) (Nat.le_of_ble_eq_true rfl)) k_153 hb11 dX15_hearWord_116 ?_
      obtain rfl := Option.some.inj h
      exact g_iret C0 hW rfl rfl rfl dX15_hearWord_117
    · replace h := (if_neg hc10).symm.trans h
      refine lv_aload_n C0.hx C0.hb dX15_hearWord_70 rfl (lv_at hl 0 rfl) ?_
      refine gf_X15_17 C0 hW (C0.mem (i := 120) (Nat.le_of_ble_eq_true rfl)) k_120 tf_X15_48 dX15_hearWord_71 ?_
      refine gfN_X13_1 C0 hW (C0.mem (i := 152) (Nat.le_of_ble_eq_true rfl)) k_152 tfN_X15_271 dX15_hearWord_74 ?_
      refine lv_sipush (v := (192 : Int32)) C0.hx C0.hb dX15_hearWord_77 (by decide) ?_
      refine lv_iload_n C0.hx C0.hb dX15_hearWord_80 rfl (lv_at hl 3 rfl) ?_
      refine lv_iadd C0.hx C0.hb dX15_hearWord_81 ?_
      refine lv_aload_n C0.hx C0.hb dX15_hearWord_82 rfl (lv_at hl 0 rfl) ?_
      refine gf_X15_17 C0 hW (C0.mem (i := 120) (Nat.le_of_ble_eq_true rfl)) k_120 tf_X15_48 dX15_hearWord_83 ?_
      refine gfN_X13_1 C0 hW (C0.mem (i := 152) (Nat.le_of_ble_eq_true rfl)) k_152 tfN_X15_271 dX15_hearWord_86 ?_
      refine lv_bipush (v := (24 : Int32)) C0.hx C0.hb dX15_hearWord_89 (by decide) ?_
      refine lv_iload_n C0.hx C0.hb dX15_hearWord_91 rfl (lv_at hl 1 rfl) ?_
      refine lv_imul C0.hx C0.hb dX15_hearWord_92 ?_
      refine lv_iload_n C0.hx C0.hb dX15_hearWord_93 rfl (lv_at hl 3 rfl) ?_
      refine lv_iadd C0.hx C0.hb dX15_hearWord_94 ?_
      obtain ⟨hb12, h⟩ := g_if h
      refine ga_34 C0 hW (C0.mem (i := 154) (Nat.le_of_ble_eq_true rfl)) k_154 hb12 dX15_hearWord_95 ?_
      refine lv_iload_n C0.hx C0.hb dX15_hearWord_96 rfl (lv_at hl 2 rfl) ?_
      obtain ⟨q13, hq13, h⟩ := Option.bind_eq_some_iff.mp h
      refine g_calli hW (g_runS (As := [.int (y 154 (((24 : Int32) * l1) + l3).toNatClampNeg), .int (l2)]) (rest := [.int ((192 : Int32) + l3), .ref (g_ad G (154))]) C0 hW (c_X15_held hq13) (g_cwOf (n := 2) tc_X15_held tn_X15 md_X15_held (by decide) (by omega)) tm_X15_324 tz_X15_held rfl hl.1 rfl (Nat.le_of_ble_eq_true rfl) dX15_hearWord_97) (fun H locs hW => ?_)
      obtain ⟨hb14, h⟩ := g_if h
      refine gs_34 C0 hW (C0.mem (i := 154) (Nat.le_of_ble_eq_true rfl)) k_154 hb14 dX15_hearWord_100 (fun H locs hW => ?_)
      refine lv_iinc (v := l3 + (1 : Int32)) (lv' := [(3, .int (l3 + (1 : Int32))), (0, .ref (g_ad G (120))), (1, .int (l1)), (2, .int (l2))]) C0.hx C0.hb dX15_hearWord_101 hl (k := 3) rfl rfl (by decide) rfl (fun ls hl => ?_)
      refine lv_goto (tgt := 57) C0.hx C0.hb dX15_hearWord_104 (by decide) ?_
      exact ih _ _ _ _ _ _ _ h hW (lv_sub hl [1, 2, 3, 0] rfl)
set_option maxRecDepth 100000 in
set_option maxHeartbeats 4000000 in
theorem c_X15_hearWord {l : Launch} {G : GL} {ids : List Nat} {x : CS} {o : Nat → Int32} {y : MS} {p1 : Int32} {p2 : Int32} {q : Int32 × MS}    (h : f_X15_hearWord p1 p2 y = some q) : Met l yX15_hearWord (.code yX15_hearWord cX15_hearWord 4 (Option.some Jvm.ClassFile.FieldType.int) :: gT) (g_rm 2 0 0) (va_Pc [.ref (g_ad G (120)), .int (p1), .int (p2)] (g_P G ids (x, y, o))) (g_Qi G ids q.1 (x, q.2, o)) 0 0 (g_A G) := by
  unfold f_X15_hearWord at h
  refine g_entry (by decide) (Nat.le_of_ble_eq_true rfl) (fun p e s m args below meth c ls C0 hl hW _ => ?_)
  have hl : lv_has ls 4 [(0, .ref (g_ad G (120))), (1, .int (p1)), (2, .int (p2))] := hl
  refine lv_aload_n C0.hx C0.hb dX15_hearWord_0 rfl (lv_at hl 0 rfl) ?_
  refine lv_iconst (v := (0 : Int32)) C0.hx C0.hb dX15_hearWord_1 (by decide) ?_
  refine gp_X15_0 C0 hW (C0.mem (i := 120) (Nat.le_of_ble_eq_true rfl)) k_120 tf_X15_62 dX15_hearWord_2 (fun H locs hW => ?_)
  refine lv_aload_n C0.hx C0.hb dX15_hearWord_5 rfl (lv_at hl 0 rfl) ?_
  refine lv_iload_n C0.hx C0.hb dX15_hearWord_6 rfl (lv_at hl 1 rfl) ?_
  obtain ⟨q1, hq1, h⟩ := Option.bind_eq_some_iff.mp h
  refine g_calli hW (g_runV (As := [.int (p1)]) (rest := []) C0 hW (c_X15_isTold hq1) (g_cwOf (n := 1) tc_X15_isTold tn_X15 md_X15_isTold (by decide) (by omega)) tm_X15_341 ti_X15_isTold ts_X15_isTold (C0.mem (i := 120) (Nat.le_of_ble_eq_true rfl)) (g_c12 k_120) rfl rfl hl.1 rfl (Nat.le_of_ble_eq_true rfl) dX15_hearWord_7) (fun H locs hW => ?_)
  refine lv_if_ne (tgt := 19) C0.hx C0.hb dX15_hearWord_10 (by decide) (fun hc2 => ?_) (fun hc2 => ?_)
  · replace h := (if_neg hc2).symm.trans h
    refine lv_iload_n C0.hx C0.hb dX15_hearWord_19 rfl (lv_at hl 2 rfl) ?_
    refine lv_bipush (v := (-39 : Int32)) C0.hx C0.hb dX15_hearWord_20 (by decide) ?_
    refine lv_bipush (v := (39 : Int32)) C0.hx C0.hb dX15_hearWord_22 (by decide) ?_
    obtain ⟨q3, hq3, h⟩ := Option.bind_eq_some_iff.mp h
    refine g_calli hW (g_runS (As := [.int (p2), .int ((-39 : Int32)), .int ((39 : Int32))]) (rest := []) C0 hW (c_X15_isIn hq3) (g_cwOf (n := 3) tc_X15_isIn tn_X15 md_X15_isIn (by decide) (by omega)) tm_X15_65 tz_X15_isIn rfl hl.1 rfl (Nat.le_of_ble_eq_true rfl) dX15_hearWord_24) (fun H locs hW => ?_)
    refine lv_if_ne (tgt := 36) C0.hx C0.hb dX15_hearWord_27 (by decide) (fun hc4 => ?_) (fun hc4 => ?_)
    · replace h := (if_neg hc4).symm.trans h
      refine lv_aload_n C0.hx C0.hb dX15_hearWord_36 rfl (lv_at hl 0 rfl) ?_
      refine gf_X15_17 C0 hW (C0.mem (i := 120) (Nat.le_of_ble_eq_true rfl)) k_120 tf_X15_48 dX15_hearWord_37 ?_
      refine gfN_X13_0 C0 hW (C0.mem (i := 152) (Nat.le_of_ble_eq_true rfl)) k_152 tfN_X15_270 dX15_hearWord_40 ?_
      refine lv_bipush (v := (8 : Int32)) C0.hx C0.hb dX15_hearWord_43 (by decide) ?_
      refine lv_aload_n C0.hx C0.hb dX15_hearWord_45 rfl (lv_at hl 0 rfl) ?_
      refine gf_X15_17 C0 hW (C0.mem (i := 120) (Nat.le_of_ble_eq_true rfl)) k_120 tf_X15_48 dX15_hearWord_46 ?_
      refine gfN_X13_0 C0 hW (C0.mem (i := 152) (Nat.le_of_ble_eq_true rfl)) k_152 tfN_X15_270 dX15_hearWord_49 ?_
      refine lv_iload_n C0.hx C0.hb dX15_hearWord_52 rfl (lv_at hl 1 rfl) ?_
      obtain ⟨hb5, h⟩ := g_if h
      refine ga_33 C0 hW (C0.mem (i := 153) (Nat.le_of_ble_eq_true rfl)) k_153 hb5 dX15_hearWord_53 ?_
      obtain ⟨hb6, h⟩ := g_if h
      refine gs_33 C0 hW (C0.mem (i := 153) (Nat.le_of_ble_eq_true rfl)) k_153 hb6 dX15_hearWord_54 (fun H locs hW => ?_)
      refine lv_iconst (v := (0 : Int32)) C0.hx C0.hb dX15_hearWord_55 (by decide) ?_
      refine lv_istore_n (lv' := [(3, .int ((0 : Int32))), (0, .ref (g_ad G (120))), (1, .int (p1)), (2, .int (p2))]) C0.hx C0.hb dX15_hearWord_56 rfl hl (by decide) rfl (fun ls hl => ?_)
      exact w_X15_hearWord_57 C0 g_fuel _ _ _ _ _ _ _ h hW (lv_sub hl [1, 2, 3, 0] rfl)
    · replace h := (if_pos hc4).symm.trans h
      refine lv_aload_n C0.hx C0.hb dX15_hearWord_30 rfl (lv_at hl 0 rfl) ?_
      refine lv_iconst (v := (2 : Int32)) C0.hx C0.hb dX15_hearWord_31 (by decide) ?_
      obtain ⟨q7, hq7, h⟩ := Option.bind_eq_some_iff.mp h
      refine g_calli hW (g_runV (As := [.int ((2 : Int32))]) (rest := []) C0 hW (c_X15_no hq7) (g_cwOf (n := 1) tc_X15_no tn_X15 md_X15_no (by decide) (by omega)) tm_X15_253 ti_X15_no ts_X15_no (C0.mem (i := 120) (Nat.le_of_ble_eq_true rfl)) (g_c12 k_120) rfl rfl hl.1 rfl (Nat.le_of_ble_eq_true rfl) dX15_hearWord_32) (fun H locs hW => ?_)
      obtain rfl := Option.some.inj h
      exact g_iret C0 hW rfl rfl rfl dX15_hearWord_35
  · replace h := (if_pos hc2).symm.trans h
    refine lv_aload_n C0.hx C0.hb dX15_hearWord_13 rfl (lv_at hl 0 rfl) ?_
    refine lv_iconst (v := (1 : Int32)) C0.hx C0.hb dX15_hearWord_14 (by decide) ?_
    obtain ⟨q8, hq8, h⟩ := Option.bind_eq_some_iff.mp h
    refine g_calli hW (g_runV (As := [.int ((1 : Int32))]) (rest := []) C0 hW (c_X15_no hq8) (g_cwOf (n := 1) tc_X15_no tn_X15 md_X15_no (by decide) (by omega)) tm_X15_253 ti_X15_no ts_X15_no (C0.mem (i := 120) (Nat.le_of_ble_eq_true rfl)) (g_c12 k_120) rfl rfl hl.1 rfl (Nat.le_of_ble_eq_true rfl) dX15_hearWord_15) (fun H locs hW => ?_)
    obtain rfl := Option.some.inj h
    exact g_iret C0 hW rfl rfl rfl dX15_hearWord_18
set_option maxRecDepth 100000 in
set_option maxHeartbeats 4000000 in
theorem c_X15_forget {l : Launch} {G : GL} {ids : List Nat} {x : CS} {o : Nat → Int32} {y : MS}  {q : Int32 × MS}    (h : f_X15_forget y = some q) : Met l yX15_forget (.code yX15_forget cX15_forget 2 (Option.some Jvm.ClassFile.FieldType.int) :: gT) (g_rm 1 0 0) (va_Pc [.ref (g_ad G (120))] (g_P G ids (x, y, o))) (g_Qi G ids q.1 (x, q.2, o)) 0 0 (g_A G) := by
  unfold f_X15_forget at h
  refine g_entry (by decide) (Nat.le_of_ble_eq_true rfl) (fun p e s m args below meth c ls C0 hl hW _ => ?_)
  have hl : lv_has ls 2 [(0, .ref (g_ad G (120)))] := hl
  refine lv_aload_n C0.hx C0.hb dX15_forget_0 rfl (lv_at hl 0 rfl) ?_
  refine gf_X15_17 C0 hW (C0.mem (i := 120) (Nat.le_of_ble_eq_true rfl)) k_120 tf_X15_48 dX15_forget_1 ?_
  refine gfN_X13_0 C0 hW (C0.mem (i := 152) (Nat.le_of_ble_eq_true rfl)) k_152 tfN_X15_270 dX15_forget_4 ?_
  refine lv_bipush (v := (8 : Int32)) C0.hx C0.hb dX15_forget_7 (by decide) ?_
  obtain ⟨hb1, h⟩ := g_if h
  refine ga_33 C0 hW (C0.mem (i := 153) (Nat.le_of_ble_eq_true rfl)) k_153 hb1 dX15_forget_9 ?_
  refine lv_istore_n (lv' := [(1, .int (y 153 (8 : Int32).toNatClampNeg)), (0, .ref (g_ad G (120)))]) C0.hx C0.hb dX15_forget_10 rfl hl (by decide) rfl (fun ls hl => ?_)
  refine lv_aload_n C0.hx C0.hb dX15_forget_11 rfl (lv_at hl 1 rfl) ?_
  refine gf_X15_17 C0 hW (C0.mem (i := 120) (Nat.le_of_ble_eq_true rfl)) k_120 tf_X15_48 dX15_forget_12 ?_
  refine gfN_X13_0 C0 hW (C0.mem (i := 152) (Nat.le_of_ble_eq_true rfl)) k_152 tfN_X15_270 dX15_forget_15 ?_
  refine lv_bipush (v := (8 : Int32)) C0.hx C0.hb dX15_forget_18 (by decide) ?_
  refine lv_iconst (v := (0 : Int32)) C0.hx C0.hb dX15_forget_20 (by decide) ?_
  obtain ⟨hb2, h⟩ := g_if h
  refine gs_33 C0 hW (C0.mem (i := 153) (Nat.le_of_ble_eq_true rfl)) k_153 hb2 dX15_forget_21 (fun H locs hW => ?_)
  refine lv_aload_n C0.hx C0.hb dX15_forget_22 rfl (lv_at hl 1 rfl) ?_
  refine lv_iload_n C0.hx C0.hb dX15_forget_23 rfl (lv_at hl 0 rfl) ?_
  obtain ⟨q3, hq3, h⟩ := Option.bind_eq_some_iff.mp h
  refine g_calli hW (g_runV (As := [.int (y 153 (8 : Int32).toNatClampNeg)]) (rest := []) C0 hW (c_X15_ok hq3) (g_cwOf (n := 1) tc_X15_ok tn_X15 md_X15_ok (by decide) (by omega)) tm_X15_267 ti_X15_ok ts_X15_ok (C0.mem (i := 120) (Nat.le_of_ble_eq_true rfl)) (g_c12 k_120) rfl rfl hl.1 rfl (Nat.le_of_ble_eq_true rfl) dX15_forget_24) (fun H locs hW => ?_)
  obtain rfl := Option.some.inj h
  exact g_iret C0 hW rfl rfl rfl dX15_forget_27
set_option maxRecDepth 100000 in
set_option maxHeartbeats 4000000 in
theorem c_X15_turnPruned {l : Launch} {G : GL} {ids : List Nat} {x : CS} {o : Nat → Int32} {y : MS} {p1 : Int32} {q : Int32 × MS}    (h : f_X15_turnPruned p1 y = some q) : Met l yX15_turnPruned (.code yX15_turnPruned cX15_turnPruned 2 (Option.some Jvm.ClassFile.FieldType.boolean) :: gT) (g_rm 2 0 0) (va_Pc [.ref (g_ad G (120)), .int (p1)] (g_P G ids (x, y, o))) (g_Qi G ids q.1 (x, q.2, o)) 0 0 (g_A G) := by
  unfold f_X15_turnPruned at h
  refine g_entry (by decide) (Nat.le_of_ble_eq_true rfl) (fun p e s m args below meth c ls C0 hl hW _ => ?_)
  have hl : lv_has ls 2 [(0, .ref (g_ad G (120))), (1, .int (p1))] := hl
  refine lv_aload_n C0.hx C0.hb dX15_turnPruned_0 rfl (lv_at hl 0 rfl) ?_
  refine lv_iconst (v := (0 : Int32)) C0.hx C0.hb dX15_turnPruned_1 (by decide) ?_
  refine gp_X15_0 C0 hW (C0.mem (i := 120) (Nat.le_of_ble_eq_true rfl)) k_120 tf_X15_62 dX15_turnPruned_2 (fun H locs hW => ?_)
  refine lv_aload_n C0.hx C0.hb dX15_turnPruned_5 rfl (lv_at hl 0 rfl) ?_
  refine lv_iload_n C0.hx C0.hb dX15_turnPruned_6 rfl (lv_at hl 1 rfl) ?_
  obtain ⟨q1, hq1, h⟩ := Option.bind_eq_some_iff.mp h
  refine g_calli hW (g_runV (As := [.int (p1)]) (rest := []) C0 hW (c_X15_isTold hq1) (g_cwOf (n := 1) tc_X15_isTold tn_X15 md_X15_isTold (by decide) (by omega)) tm_X15_341 ti_X15_isTold ts_X15_isTold (C0.mem (i := 120) (Nat.le_of_ble_eq_true rfl)) (g_c12 k_120) rfl rfl hl.1 rfl (Nat.le_of_ble_eq_true rfl) dX15_turnPruned_7) (fun H locs hW => ?_)
  refine lv_if_ne (tgt := 19) C0.hx C0.hb dX15_turnPruned_10 (by decide) (fun hc2 => ?_) (fun hc2 => ?_)
  · replace h := (if_neg hc2).symm.trans h
    refine lv_aload_n C0.hx C0.hb dX15_turnPruned_19 rfl (lv_at hl 0 rfl) ?_
    refine gf_X15_17 C0 hW (C0.mem (i := 120) (Nat.le_of_ble_eq_true rfl)) k_120 tf_X15_48 dX15_turnPruned_20 ?_
    refine gfN_X13_2 C0 hW (C0.mem (i := 152) (Nat.le_of_ble_eq_true rfl)) k_152 tfN_X15_293 dX15_turnPruned_23 ?_
    refine lv_iload_n C0.hx C0.hb dX15_turnPruned_26 rfl (lv_at hl 1 rfl) ?_
    refine lv_iconst (v := (1 : Int32)) C0.hx C0.hb dX15_turnPruned_27 (by decide) ?_
    refine lv_aload_n C0.hx C0.hb dX15_turnPruned_28 rfl (lv_at hl 0 rfl) ?_
    refine gf_X15_17 C0 hW (C0.mem (i := 120) (Nat.le_of_ble_eq_true rfl)) k_120 tf_X15_48 dX15_turnPruned_29 ?_
    refine gfN_X13_2 C0 hW (C0.mem (i := 152) (Nat.le_of_ble_eq_true rfl)) k_152 tfN_X15_293 dX15_turnPruned_32 ?_
    refine lv_iload_n C0.hx C0.hb dX15_turnPruned_35 rfl (lv_at hl 1 rfl) ?_
    obtain ⟨hb3, h⟩ := g_if h
    refine ga_32 C0 hW (C0.mem (i := 155) (Nat.le_of_ble_eq_true rfl)) k_155 hb3 dX15_turnPruned_36 ?_
    refine lv_isub C0.hx C0.hb dX15_turnPruned_37 ?_
    obtain ⟨hb4, h⟩ := g_if h
    refine gs_32 C0 hW (C0.mem (i := 155) (Nat.le_of_ble_eq_true rfl)) k_155 hb4 dX15_turnPruned_38 (fun H locs hW => ?_)
    refine lv_aload_n C0.hx C0.hb dX15_turnPruned_39 rfl (lv_at hl 0 rfl) ?_
    refine gf_X15_17 C0 hW (C0.mem (i := 120) (Nat.le_of_ble_eq_true rfl)) k_120 tf_X15_48 dX15_turnPruned_40 ?_
    refine gfN_X13_2 C0 hW (C0.mem (i := 152) (Nat.le_of_ble_eq_true rfl)) k_152 tfN_X15_293 dX15_turnPruned_43 ?_
    refine lv_iload_n C0.hx C0.hb dX15_turnPruned_46 rfl (lv_at hl 1 rfl) ?_
    obtain ⟨hb5, h⟩ := g_if h
    refine ga_32 C0 hW (C0.mem (i := 155) (Nat.le_of_ble_eq_true rfl)) k_155 hb5 dX15_turnPruned_47 ?_
    refine lv_iconst (v := (1 : Int32)) C0.hx C0.hb dX15_turnPruned_48 (by decide) ?_
    refine lv_icmp_ne (tgt := 56) C0.hx C0.hb dX15_turnPruned_49 (by decide) (fun hc6 => ?_) (fun hc6 => ?_)
    · replace h := (if_neg hc6).symm.trans h
      refine lv_iconst (v := (0 : Int32)) C0.hx C0.hb dX15_turnPruned_56 (by decide) ?_
      obtain rfl := Option.some.inj h
      exact g_iret C0 hW rfl (g_bool (Or.inl rfl)).1 rfl dX15_turnPruned_57
    · replace h := (if_pos hc6).symm.trans h
      refine lv_iconst (v := (1 : Int32)) C0.hx C0.hb dX15_turnPruned_52 (by decide) ?_
      refine lv_goto (tgt := 57) C0.hx C0.hb dX15_turnPruned_53 (by decide) ?_
      obtain rfl := Option.some.inj h
      exact g_iret C0 hW rfl (g_bool (Or.inr rfl)).1 rfl dX15_turnPruned_57
  · replace h := (if_pos hc2).symm.trans h
    refine lv_aload_n C0.hx C0.hb dX15_turnPruned_13 rfl (lv_at hl 0 rfl) ?_
    refine lv_iconst (v := (1 : Int32)) C0.hx C0.hb dX15_turnPruned_14 (by decide) ?_
    obtain ⟨q7, hq7, h⟩ := Option.bind_eq_some_iff.mp h
    refine g_calli hW (g_runV (As := [.int ((1 : Int32))]) (rest := []) C0 hW (c_X15_isNot hq7) (g_cwOf (n := 1) tc_X15_isNot tn_X15 md_X15_isNot (by decide) (by omega)) tm_X15_347 ti_X15_isNot ts_X15_isNot (C0.mem (i := 120) (Nat.le_of_ble_eq_true rfl)) (g_c12 k_120) rfl rfl hl.1 rfl (Nat.le_of_ble_eq_true rfl) dX15_turnPruned_15) (fun H locs hW => ?_)
    obtain ⟨hb8, h⟩ := g_if h
    obtain rfl := Option.some.inj h
    exact g_iret C0 hW rfl (g_bool hb8).1 rfl dX15_turnPruned_18
set_option maxRecDepth 100000 in
set_option maxHeartbeats 4000000 in
theorem w_X15_pruneNeedless_4 {p : Program} {l : Launch} {e : Env} {s : State} {m : MethodId} {args : Array Value} {below : List Frame} {meth : Method} {c : Code} {G : GL} {ids : List Nat} {x : CS} {o : Nat → Int32}  {q : Int32 × MS}   (C0 : g_X G ids p s m args meth c cX15_pruneNeedless 3 RX15 (Option.some Jvm.ClassFile.FieldType.int))  : ∀ (n : Nat) (l1 : Int32) (l2 : Int32) (y : MS) (H : Heap) (locs : List Loc) (ls : Array Slot),  f_X15_pruneNeedless_4 n l1 l2 y = some q → g_W G ids (x, y, o) s.heap H locs → lv_has ls 3 [(0, .ref (g_ad G (120))), (1, .int (l1)), (2, .int (l2))] → W p l e (g_rm 7 0 0) s m args below meth c H locs 0 0 (MQ below (g_Qi G ids q.1 (x, q.2, o)) args s 0 0 (g_A G)) (F0 m 4 ls []) := by
  intro n
  induction n with
  | zero =>
    intro l1 l2 y H locs ls h hW hl
    exact absurd h (by simp [f_X15_pruneNeedless_4])
  | succ n ih =>
    intro l1 l2 y H locs ls h hW hl
    unfold f_X15_pruneNeedless_4 at h
    refine lv_iload_n C0.hx C0.hb dX15_pruneNeedless_4 rfl (lv_at hl 2 rfl) ?_
    refine lv_aload_n C0.hx C0.hb dX15_pruneNeedless_5 rfl (lv_at hl 0 rfl) ?_
    refine gf_X15_14 C0 hW (C0.mem (i := 120) (Nat.le_of_ble_eq_true rfl)) k_120 tf_X15_35 dX15_pruneNeedless_6 ?_
    refine gfN_X14_2 C0 hW (C0.mem (i := 127) (Nat.le_of_ble_eq_true rfl)) k_127 tfN_X15_147 dX15_pruneNeedless_9 ?_
    refine lv_icmp_ge (tgt := 45) C0.hx C0.hb dX15_pruneNeedless_12 (by decide) (fun hc1 => ?_) (fun hc1 => ?_)
    · replace h := (if_pos hc1).symm.trans h
      refine lv_aload_n C0.hx C0.hb dX15_pruneNeedless_45 rfl (lv_at hl 0 rfl) ?_
      refine lv_iload_n C0.hx C0.hb dX15_pruneNeedless_46 rfl (lv_at hl 1 rfl) ?_
      obtain ⟨q2, hq2, h⟩ := Option.bind_eq_some_iff.mp h
      refine g_calli hW (g_runV (As := [.int (l1)]) (rest := []) C0 hW (c_X15_ok hq2) (g_cwOf (n := 1) tc_X15_ok tn_X15 md_X15_ok (by decide) (by omega)) tm_X15_267 ti_X15_ok ts_X15_ok (C0.mem (i := 120) (Nat.le_of_ble_eq_true rfl)) (g_c12 k_120) rfl rfl hl.1 rfl (Nat.le_of_ble_eq_true rfl) dX15_pruneNeedless_47) (fun H locs hW => ?_)
      obtain rfl := Option.some.inj h
      exact g_iret C0 hW rfl rfl rfl dX15_pruneNeedless_50
    · replace h := (if_neg hc1).symm.trans h
      refine lv_aload_n C0.hx C0.hb dX15_pruneNeedless_15 rfl (lv_at hl 0 rfl) ?_
      refine lv_iload_n C0.hx C0.hb dX15_pruneNeedless_16 rfl (lv_at hl 2 rfl) ?_
      obtain ⟨q3, hq3, h⟩ := Option.bind_eq_some_iff.mp h
      refine g_calli hW (g_runV (As := [.int (l2)]) (rest := []) C0 hW (c_X15_needless hq3) (g_cwOf (n := 1) tc_X15_needless tn_X15 md_X15_needless (by decide) (by omega)) tm_X15_350 ti_X15_needless ts_X15_needless (C0.mem (i := 120) (Nat.le_of_ble_eq_true rfl)) (g_c12 k_120) rfl rfl hl.1 rfl (Nat.le_of_ble_eq_true rfl) dX15_pruneNeedless_17) (fun H locs hW => ?_)
      refine lv_if_ne (tgt := 26) C0.hx C0.hb dX15_pruneNeedless_20 (by decide) (fun hc4 => ?_) (fun hc4 => ?_)
      · replace h := (if_neg hc4).symm.trans h
        refine lv_aload_n C0.hx C0.hb dX15_pruneNeedless_26 rfl (lv_at hl 0 rfl) ?_
        refine gf_X15_17 C0 hW (C0.mem (i := 120) (Nat.le_of_ble_eq_true rfl)) k_120 tf_X15_48 dX15_pruneNeedless_27 ?_
        refine gfN_X13_2 C0 hW (C0.mem (i := 152) (Nat.le_of_ble_eq_true rfl)) k_152 tfN_X15_293 dX15_pruneNeedless_30 ?_
        refine lv_iload_n C0.hx C0.hb dX15_pruneNeedless_33 rfl (lv_at hl 2 rfl) ?_
        refine lv_iconst (v := (1 : Int32)) C0.hx C0.hb dX15_pruneNeedless_34 (by decide) ?_
        obtain ⟨hb5, h⟩ := g_if h
        refine gs_32 C0 hW (C0.mem (i := 155) (Nat.le_of_ble_eq_true rfl)) k_155 hb5 dX15_pruneNeedless_35 (fun H locs hW => ?_)
        refine lv_iinc (v := l1 + (1 : Int32)) (lv' := [(1, .int (l1 + (1 : Int32))), (0, .ref (g_ad G (120))), (2, .int (l2))]) C0.hx C0.hb dX15_pruneNeedless_36 hl (k := 1) rfl rfl (by decide) rfl (fun ls hl => ?_)
        refine lv_iinc (v := l2 + (1 : Int32)) (lv' := [(2, .int (l2 + (1 : Int32))), (1, .int (l1 + (1 : Int32))), (0, .ref (g_ad G (120)))]) C0.hx C0.hb dX15_pruneNeedless_39 hl (k := 2) rfl rfl (by decide) rfl (fun ls hl => ?_)
        refine lv_goto (tgt := 4) C0.hx C0.hb dX15_pruneNeedless_42 (by decide) ?_
        exact ih _ _ _ _ _ _ h hW (lv_sub hl [2, 1, 0] rfl)
      · replace h := (if_pos hc4).symm.trans h
        refine lv_goto (tgt := 39) C0.hx C0.hb dX15_pruneNeedless_23 (by decide) ?_
        refine lv_iinc (v := l2 + (1 : Int32)) (lv' := [(2, .int (l2 + (1 : Int32))), (0, .ref (g_ad G (120))), (1, .int (l1))]) C0.hx C0.hb dX15_pruneNeedless_39 hl (k := 2) rfl rfl (by decide) rfl (fun ls hl => ?_)
        refine lv_goto (tgt := 4) C0.hx C0.hb dX15_pruneNeedless_42 (by decide) ?_
        exact ih _ _ _ _ _ _ h hW (lv_sub hl [1, 2, 0] rfl)
set_option maxRecDepth 100000 in
set_option maxHeartbeats 4000000 in
theorem c_X15_pruneNeedless {l : Launch} {G : GL} {ids : List Nat} {x : CS} {o : Nat → Int32} {y : MS}  {q : Int32 × MS}    (h : f_X15_pruneNeedless y = some q) : Met l yX15_pruneNeedless (.code yX15_pruneNeedless cX15_pruneNeedless 3 (Option.some Jvm.ClassFile.FieldType.int) :: gT) (g_rm 7 0 0) (va_Pc [.ref (g_ad G (120))] (g_P G ids (x, y, o))) (g_Qi G ids q.1 (x, q.2, o)) 0 0 (g_A G) := by
  unfold f_X15_pruneNeedless at h
  refine g_entry (by decide) (Nat.le_of_ble_eq_true rfl) (fun p e s m args below meth c ls C0 hl hW _ => ?_)
  have hl : lv_has ls 3 [(0, .ref (g_ad G (120)))] := hl
  refine lv_iconst (v := (0 : Int32)) C0.hx C0.hb dX15_pruneNeedless_0 (by decide) ?_
  refine lv_istore_n (lv' := [(1, .int ((0 : Int32))), (0, .ref (g_ad G (120)))]) C0.hx C0.hb dX15_pruneNeedless_1 rfl hl (by decide) rfl (fun ls hl => ?_)
  refine lv_iconst (v := (0 : Int32)) C0.hx C0.hb dX15_pruneNeedless_2 (by decide) ?_
  refine lv_istore_n (lv' := [(2, .int ((0 : Int32))), (1, .int ((0 : Int32))), (0, .ref (g_ad G (120)))]) C0.hx C0.hb dX15_pruneNeedless_3 rfl hl (by decide) rfl (fun ls hl => ?_)
  exact w_X15_pruneNeedless_4 C0 g_fuel _ _ _ _ _ _ h hW (lv_sub hl [2, 1, 0] rfl)
set_option maxRecDepth 100000 in
set_option maxHeartbeats 4000000 in
theorem w_X15_passLessons_25 {p : Program} {l : Launch} {e : Env} {s : State} {m : MethodId} {args : Array Value} {below : List Frame} {meth : Method} {c : Code} {G : GL} {ids : List Nat} {x : CS} {o : Nat → Int32}  {q : Int32 × MS}   (C0 : g_X G ids p s m args meth c cX15_passLessons 4 RX15 (Option.some Jvm.ClassFile.FieldType.int))  : ∀ (n : Nat) (l1 : Int32) (l2 : Int32) (l3 : Int32) (y : MS) (H : Heap) (locs : List Loc) (ls : Array Slot),  f_X15_passLessons_25 n l1 l2 l3 y = some q → g_W G ids (x, y, o) s.heap H locs → lv_has ls 4 [(0, .ref (g_ad G (120))), (1, .int (l1)), (2, .int (l2)), (3, .int (l3))] → W p l e (g_rm 9 0 0) s m args below meth c H locs 0 0 (MQ below (g_Qi G ids q.1 (x, q.2, o)) args s 0 0 (g_A G)) (F0 m 25 ls []) := by
  intro n
  induction n with
  | zero =>
    intro l1 l2 l3 y H locs ls h hW hl
    exact absurd h (by simp [f_X15_passLessons_25])
  | succ n ih =>
    intro l1 l2 l3 y H locs ls h hW hl
    unfold f_X15_passLessons_25 at h
    refine lv_iload_n C0.hx C0.hb dX15_passLessons_25 rfl (lv_at hl 3 rfl) ?_
    refine lv_iload_n C0.hx C0.hb dX15_passLessons_26 rfl (lv_at hl 1 rfl) ?_
    refine lv_icmp_ge (tgt := 47) C0.hx C0.hb dX15_passLessons_27 (by decide) (fun hc4 => ?_) (fun hc4 => ?_)
    · replace h := (if_pos hc4).symm.trans h
      refine lv_iload_n C0.hx C0.hb dX15_passLessons_47 rfl (lv_at hl 2 rfl) ?_
      obtain rfl := Option.some.inj h
      exact g_iret C0 hW rfl rfl rfl dX15_passLessons_48
    · replace h := (if_neg hc4).symm.trans h
      refine lv_iload_n C0.hx C0.hb dX15_passLessons_30 rfl (lv_at hl 2 rfl) ?_
      refine lv_aload_n C0.hx C0.hb dX15_passLessons_31 rfl (lv_at hl 0 rfl) ?_
      refine lv_aload_n C0.hx C0.hb dX15_passLessons_32 rfl (lv_at hl 0 rfl) ?_
      refine gf_X15_17 C0 hW (C0.mem (i := 120) (Nat.le_of_ble_eq_true rfl)) k_120 tf_X15_48 dX15_passLessons_33 ?_
      obtain ⟨q5, hq5, h⟩ := Option.bind_eq_some_iff.mp h
      refine g_calli hW (g_runV (As := [.ref (g_ad G (152))]) (rest := [.int (l2)]) C0 hW (c_X15_lesson k_152 hq5) (g_cwOf (n := 1) tc_X15_lesson tn_X15 md_X15_lesson (by decide) (by omega)) tm_X15_356 ti_X15_lesson ts_X15_lesson (C0.mem (i := 120) (Nat.le_of_ble_eq_true rfl)) (g_c12 k_120) rfl rfl hl.1 rfl (Nat.le_of_ble_eq_true rfl) dX15_passLessons_36) (fun H locs hW => ?_)
      refine lv_iadd C0.hx C0.hb dX15_passLessons_39 ?_
      refine lv_istore_n (lv' := [(2, .int (l2 + q5.1)), (0, .ref (g_ad G (120))), (1, .int (l1)), (3, .int (l3))]) C0.hx C0.hb dX15_passLessons_40 rfl hl (by decide) rfl (fun ls hl => ?_)
      refine lv_iinc (v := l3 + (1 : Int32)) (lv' := [(3, .int (l3 + (1 : Int32))), (2, .int (l2 + q5.1)), (0, .ref (g_ad G (120))), (1, .int (l1))]) C0.hx C0.hb dX15_passLessons_41 hl (k := 3) rfl rfl (by decide) rfl (fun ls hl => ?_)
      refine lv_goto (tgt := 25) C0.hx C0.hb dX15_passLessons_44 (by decide) ?_
      exact ih _ _ _ _ _ _ _ h hW (lv_sub hl [2, 3, 1, 0] rfl)
set_option maxRecDepth 100000 in
set_option maxHeartbeats 4000000 in
theorem c_X15_passLessons {l : Launch} {G : GL} {ids : List Nat} {x : CS} {o : Nat → Int32} {y : MS} {p1 : Int32} {q : Int32 × MS}    (h : f_X15_passLessons p1 y = some q) : Met l yX15_passLessons (.code yX15_passLessons cX15_passLessons 4 (Option.some Jvm.ClassFile.FieldType.int) :: gT) (g_rm 9 0 0) (va_Pc [.ref (g_ad G (120)), .int (p1)] (g_P G ids (x, y, o))) (g_Qi G ids q.1 (x, q.2, o)) 0 0 (g_A G) := by
  unfold f_X15_passLessons at h
  refine g_entry (by decide) (Nat.le_of_ble_eq_true rfl) (fun p e s m args below meth c ls C0 hl hW _ => ?_)
  have hl : lv_has ls 4 [(0, .ref (g_ad G (120))), (1, .int (p1))] := hl
  refine lv_aload_n C0.hx C0.hb dX15_passLessons_0 rfl (lv_at hl 0 rfl) ?_
  refine lv_iconst (v := (0 : Int32)) C0.hx C0.hb dX15_passLessons_1 (by decide) ?_
  refine gp_X15_0 C0 hW (C0.mem (i := 120) (Nat.le_of_ble_eq_true rfl)) k_120 tf_X15_62 dX15_passLessons_2 (fun H locs hW => ?_)
  refine lv_iload_n C0.hx C0.hb dX15_passLessons_5 rfl (lv_at hl 1 rfl) ?_
  refine lv_iconst (v := (1 : Int32)) C0.hx C0.hb dX15_passLessons_6 (by decide) ?_
  refine lv_bipush (v := (20 : Int32)) C0.hx C0.hb dX15_passLessons_7 (by decide) ?_
  obtain ⟨q1, hq1, h⟩ := Option.bind_eq_some_iff.mp h
  refine g_calli hW (g_runS (As := [.int (p1), .int ((1 : Int32)), .int ((20 : Int32))]) (rest := []) C0 hW (c_X15_isIn hq1) (g_cwOf (n := 3) tc_X15_isIn tn_X15 md_X15_isIn (by decide) (by omega)) tm_X15_65 tz_X15_isIn rfl hl.1 rfl (Nat.le_of_ble_eq_true rfl) dX15_passLessons_9) (fun H locs hW => ?_)
  refine lv_if_ne (tgt := 21) C0.hx C0.hb dX15_passLessons_12 (by decide) (fun hc2 => ?_) (fun hc2 => ?_)
  · replace h := (if_neg hc2).symm.trans h
    refine lv_iconst (v := (0 : Int32)) C0.hx C0.hb dX15_passLessons_21 (by decide) ?_
    refine lv_istore_n (lv' := [(2, .int ((0 : Int32))), (0, .ref (g_ad G (120))), (1, .int (p1))]) C0.hx C0.hb dX15_passLessons_22 rfl hl (by decide) rfl (fun ls hl => ?_)
    refine lv_iconst (v := (0 : Int32)) C0.hx C0.hb dX15_passLessons_23 (by decide) ?_
    refine lv_istore_n (lv' := [(3, .int ((0 : Int32))), (2, .int ((0 : Int32))), (0, .ref (g_ad G (120))), (1, .int (p1))]) C0.hx C0.hb dX15_passLessons_24 rfl hl (by decide) rfl (fun ls hl => ?_)
    exact w_X15_passLessons_25 C0 g_fuel _ _ _ _ _ _ _ h hW (lv_sub hl [2, 3, 1, 0] rfl)
  · replace h := (if_pos hc2).symm.trans h
    refine lv_aload_n C0.hx C0.hb dX15_passLessons_15 rfl (lv_at hl 0 rfl) ?_
    refine lv_iconst (v := (1 : Int32)) C0.hx C0.hb dX15_passLessons_16 (by decide) ?_
    obtain ⟨q3, hq3, h⟩ := Option.bind_eq_some_iff.mp h
    refine g_calli hW (g_runV (As := [.int ((1 : Int32))]) (rest := []) C0 hW (c_X15_no hq3) (g_cwOf (n := 1) tc_X15_no tn_X15 md_X15_no (by decide) (by omega)) tm_X15_253 ti_X15_no ts_X15_no (C0.mem (i := 120) (Nat.le_of_ble_eq_true rfl)) (g_c12 k_120) rfl rfl hl.1 rfl (Nat.le_of_ble_eq_true rfl) dX15_passLessons_17) (fun H locs hW => ?_)
    obtain rfl := Option.some.inj h
    exact g_iret C0 hW rfl rfl rfl dX15_passLessons_20
set_option maxRecDepth 100000 in
set_option maxHeartbeats 4000000 in
theorem w_X15_keptAfter_34 {p : Program} {l : Launch} {e : Env} {s : State} {m : MethodId} {args : Array Value} {below : List Frame} {meth : Method} {c : Code} {G : GL} {ids : List Nat} {x : CS} {o : Nat → Int32}  {q : Int32 × MS}   (C0 : g_X G ids p s m args meth c cX15_keptAfter 3 RX15 (Option.some Jvm.ClassFile.FieldType.int))  : ∀ (n : Nat) (l1 : Int32) (l2 : Int32) (y : MS) (H : Heap) (locs : List Loc) (ls : Array Slot),  f_X15_keptAfter_34 n l1 l2 y = some q → g_W G ids (x, y, o) s.heap H locs → lv_has ls 3 [(0, .ref (g_ad G (120))), (1, .int (l1)), (2, .int (l2))] → W p l e (g_rm 9 0 0) s m args below meth c H locs 0 0 (MQ below (g_Qi G ids q.1 (x, q.2, o)) args s 0 0 (g_A G)) (F0 m 34 ls []) := by
  intro n
  induction n with
  | zero =>
    intro l1 l2 y H locs ls h hW hl
    exact absurd h (by simp [f_X15_keptAfter_34])
  | succ n ih =>
    intro l1 l2 y H locs ls h hW hl
    unfold f_X15_keptAfter_34 at h
    refine lv_iload_n C0.hx C0.hb dX15_keptAfter_34 rfl (lv_at hl 2 rfl) ?_
    refine lv_iload_n C0.hx C0.hb dX15_keptAfter_35 rfl (lv_at hl 1 rfl) ?_
    refine lv_icmp_ge (tgt := 54) C0.hx C0.hb dX15_keptAfter_36 (by decide) (fun hc5 => ?_) (fun hc5 => ?_)
    · replace h := (if_pos hc5).symm.trans h
      refine lv_aload_n C0.hx C0.hb dX15_keptAfter_54 rfl (lv_at hl 0 rfl) ?_
      refine lv_aload_n C0.hx C0.hb dX15_keptAfter_55 rfl (lv_at hl 0 rfl) ?_
      refine gf_X15_18 C0 hW (C0.mem (i := 120) (Nat.le_of_ble_eq_true rfl)) k_120 tf_X15_52 dX15_keptAfter_56 ?_
      obtain ⟨q6, hq6, h⟩ := Option.bind_eq_some_iff.mp h
      refine g_calli hW (g_runV (As := [.ref (g_ad G (156))]) (rest := []) C0 hW (c_X15_kept k_156 hq6) (g_cwOf (n := 1) tc_X15_kept tn_X15 md_X15_kept (by decide) (by omega)) tm_X15_306 ti_X15_kept ts_X15_kept (C0.mem (i := 120) (Nat.le_of_ble_eq_true rfl)) (g_c12 k_120) rfl rfl hl.1 rfl (Nat.le_of_ble_eq_true rfl) dX15_keptAfter_59) (fun H locs hW => ?_)
      obtain rfl := Option.some.inj h
      exact g_iret C0 hW rfl rfl rfl dX15_keptAfter_62
    · replace h := (if_neg hc5).symm.trans h
      refine lv_aload_n C0.hx C0.hb dX15_keptAfter_39 rfl (lv_at hl 0 rfl) ?_
      refine lv_aload_n C0.hx C0.hb dX15_keptAfter_40 rfl (lv_at hl 0 rfl) ?_
      refine gf_X15_18 C0 hW (C0.mem (i := 120) (Nat.le_of_ble_eq_true rfl)) k_120 tf_X15_52 dX15_keptAfter_41 ?_
      obtain ⟨q7, hq7, h⟩ := Option.bind_eq_some_iff.mp h
      refine g_calli hW (g_runV (As := [.ref (g_ad G (156))]) (rest := []) C0 hW (c_X15_lesson k_156 hq7) (g_cwOf (n := 1) tc_X15_lesson tn_X15 md_X15_lesson (by decide) (by omega)) tm_X15_356 ti_X15_lesson ts_X15_lesson (C0.mem (i := 120) (Nat.le_of_ble_eq_true rfl)) (g_c12 k_120) rfl rfl hl.1 rfl (Nat.le_of_ble_eq_true rfl) dX15_keptAfter_44) (fun H locs hW => ?_)
      refine lv_pop C0.hx C0.hb dX15_keptAfter_47 rfl ?_
      refine lv_iinc (v := l2 + (1 : Int32)) (lv' := [(2, .int (l2 + (1 : Int32))), (0, .ref (g_ad G (120))), (1, .int (l1))]) C0.hx C0.hb dX15_keptAfter_48 hl (k := 2) rfl rfl (by decide) rfl (fun ls hl => ?_)
      refine lv_goto (tgt := 34) C0.hx C0.hb dX15_keptAfter_51 (by decide) ?_
      exact ih _ _ _ _ _ _ h hW (lv_sub hl [1, 2, 0] rfl)
set_option maxRecDepth 100000 in
set_option maxHeartbeats 4000000 in
theorem c_X15_keptAfter {l : Launch} {G : GL} {ids : List Nat} {x : CS} {o : Nat → Int32} {y : MS} {p1 : Int32} {q : Int32 × MS}    (h : f_X15_keptAfter p1 y = some q) : Met l yX15_keptAfter (.code yX15_keptAfter cX15_keptAfter 3 (Option.some Jvm.ClassFile.FieldType.int) :: gT) (g_rm 9 0 0) (va_Pc [.ref (g_ad G (120)), .int (p1)] (g_P G ids (x, y, o))) (g_Qi G ids q.1 (x, q.2, o)) 0 0 (g_A G) := by
  unfold f_X15_keptAfter at h
  refine g_entry (by decide) (Nat.le_of_ble_eq_true rfl) (fun p e s m args below meth c ls C0 hl hW _ => ?_)
  have hl : lv_has ls 3 [(0, .ref (g_ad G (120))), (1, .int (p1))] := hl
  refine lv_aload_n C0.hx C0.hb dX15_keptAfter_0 rfl (lv_at hl 0 rfl) ?_
  refine lv_iconst (v := (0 : Int32)) C0.hx C0.hb dX15_keptAfter_1 (by decide) ?_
  refine gp_X15_0 C0 hW (C0.mem (i := 120) (Nat.le_of_ble_eq_true rfl)) k_120 tf_X15_62 dX15_keptAfter_2 (fun H locs hW => ?_)
  refine lv_iload_n C0.hx C0.hb dX15_keptAfter_5 rfl (lv_at hl 1 rfl) ?_
  refine lv_iconst (v := (1 : Int32)) C0.hx C0.hb dX15_keptAfter_6 (by decide) ?_
  refine lv_bipush (v := (20 : Int32)) C0.hx C0.hb dX15_keptAfter_7 (by decide) ?_
  obtain ⟨q1, hq1, h⟩ := Option.bind_eq_some_iff.mp h
  refine g_calli hW (g_runS (As := [.int (p1), .int ((1 : Int32)), .int ((20 : Int32))]) (rest := []) C0 hW (c_X15_isIn hq1) (g_cwOf (n := 3) tc_X15_isIn tn_X15 md_X15_isIn (by decide) (by omega)) tm_X15_65 tz_X15_isIn rfl hl.1 rfl (Nat.le_of_ble_eq_true rfl) dX15_keptAfter_9) (fun H locs hW => ?_)
  refine lv_if_ne (tgt := 21) C0.hx C0.hb dX15_keptAfter_12 (by decide) (fun hc2 => ?_) (fun hc2 => ?_)
  · replace h := (if_neg hc2).symm.trans h
    refine lv_aload_n C0.hx C0.hb dX15_keptAfter_21 rfl (lv_at hl 0 rfl) ?_
    refine gf_X15_18 C0 hW (C0.mem (i := 120) (Nat.le_of_ble_eq_true rfl)) k_120 tf_X15_52 dX15_keptAfter_22 ?_
    refine lv_aload_n C0.hx C0.hb dX15_keptAfter_25 rfl (lv_at hl 0 rfl) ?_
    refine gf_X15_17 C0 hW (C0.mem (i := 120) (Nat.le_of_ble_eq_true rfl)) k_120 tf_X15_48 dX15_keptAfter_26 ?_
    obtain ⟨q3, hq3, h⟩ := Option.bind_eq_some_iff.mp h
    refine g_callv hW (g_runV (As := [.ref (g_ad G (152))]) (rest := []) C0 hW (c_X13_become k_156 k_152 hq3) (g_cwOf (n := 1) tc_X13_become tn_X13 md_X13_become (by decide) (by omega)) tm_X15_359 ti_X13_become ts_X13_become (C0.mem (i := 156) (Nat.le_of_ble_eq_true rfl)) (g_c14 k_156) rfl rfl hl.1 rfl (Nat.le_of_ble_eq_true rfl) dX15_keptAfter_29) (fun H locs hW => ?_)
    refine lv_iconst (v := (0 : Int32)) C0.hx C0.hb dX15_keptAfter_32 (by decide) ?_
    refine lv_istore_n (lv' := [(2, .int ((0 : Int32))), (0, .ref (g_ad G (120))), (1, .int (p1))]) C0.hx C0.hb dX15_keptAfter_33 rfl hl (by decide) rfl (fun ls hl => ?_)
    exact w_X15_keptAfter_34 C0 g_fuel _ _ _ _ _ _ h hW (lv_sub hl [1, 2, 0] rfl)
  · replace h := (if_pos hc2).symm.trans h
    refine lv_aload_n C0.hx C0.hb dX15_keptAfter_15 rfl (lv_at hl 0 rfl) ?_
    refine lv_iconst (v := (1 : Int32)) C0.hx C0.hb dX15_keptAfter_16 (by decide) ?_
    obtain ⟨q4, hq4, h⟩ := Option.bind_eq_some_iff.mp h
    refine g_calli hW (g_runV (As := [.int ((1 : Int32))]) (rest := []) C0 hW (c_X15_no hq4) (g_cwOf (n := 1) tc_X15_no tn_X15 md_X15_no (by decide) (by omega)) tm_X15_253 ti_X15_no ts_X15_no (C0.mem (i := 120) (Nat.le_of_ble_eq_true rfl)) (g_c12 k_120) rfl rfl hl.1 rfl (Nat.le_of_ble_eq_true rfl) dX15_keptAfter_17) (fun H locs hW => ?_)
    obtain rfl := Option.some.inj h
    exact g_iret C0 hW rfl rfl rfl dX15_keptAfter_20
set_option maxRecDepth 100000 in
set_option maxHeartbeats 4000000 in
theorem w_X15_lessonsUntilMeant_32 {p : Program} {l : Launch} {e : Env} {s : State} {m : MethodId} {args : Array Value} {below : List Frame} {meth : Method} {c : Code} {G : GL} {ids : List Nat} {x : CS} {o : Nat → Int32}  {q : Int32 × MS}   (C0 : g_X G ids p s m args meth c cX15_lessonsUntilMeant 3 RX15 (Option.some Jvm.ClassFile.FieldType.int))  : ∀ (n : Nat) (l1 : Int32) (l2 : Int32) (y : MS) (H : Heap) (locs : List Loc) (ls : Array Slot),  f_X15_lessonsUntilMeant_32 n l1 l2 y = some q → g_W G ids (x, y, o) s.heap H locs → lv_has ls 3 [(0, .ref (g_ad G (120))), (1, .int (l1)), (2, .int (l2))] → W p l e (g_rm 9 0 0) s m args below meth c H locs 0 0 (MQ below (g_Qi G ids q.1 (x, q.2, o)) args s 0 0 (g_A G)) (F0 m 32 ls []) := by
  intro n
  induction n with
  | zero =>
    intro l1 l2 y H locs ls h hW hl
    exact absurd h (by simp [f_X15_lessonsUntilMeant_32])
  | succ n ih =>
    intro l1 l2 y H locs ls h hW hl
    unfold f_X15_lessonsUntilMeant_32 at h
    refine lv_iload_n C0.hx C0.hb dX15_lessonsUntilMeant_32 rfl (lv_at hl 2 rfl) ?_
    refine lv_bipush (v := (20 : Int32)) C0.hx C0.hb dX15_lessonsUntilMeant_33 (by decide) ?_
    refine lv_icmp_gt (tgt := 68) C0.hx C0.hb dX15_lessonsUntilMeant_35 (by decide) (fun hc5 => ?_) (fun hc5 => ?_)
    · replace h := (if_pos hc5).symm.trans h
      refine lv_iconst (v := (-1 : Int32)) C0.hx C0.hb dX15_lessonsUntilMeant_68 (by decide) ?_
      obtain rfl := Option.some.inj h
      exact g_iret C0 hW rfl rfl rfl dX15_lessonsUntilMeant_69
    · replace h := (if_neg hc5).symm.trans h
      refine lv_aload_n C0.hx C0.hb dX15_lessonsUntilMeant_38 rfl (lv_at hl 0 rfl) ?_
      refine lv_aload_n C0.hx C0.hb dX15_lessonsUntilMeant_39 rfl (lv_at hl 0 rfl) ?_
      refine gf_X15_18 C0 hW (C0.mem (i := 120) (Nat.le_of_ble_eq_true rfl)) k_120 tf_X15_52 dX15_lessonsUntilMeant_40 ?_
      refine lv_iconst (v := (-1 : Int32)) C0.hx C0.hb dX15_lessonsUntilMeant_43 (by decide) ?_
      obtain ⟨q6, hq6, h⟩ := Option.bind_eq_some_iff.mp h
      refine g_calli hW (g_runV (As := [.ref (g_ad G (156)), .int ((-1 : Int32))]) (rest := []) C0 hW (c_X15_meant k_156 hq6) (g_cwOf (n := 2) tc_X15_meant tn_X15 md_X15_meant (by decide) (by omega)) tm_X15_310 ti_X15_meant ts_X15_meant (C0.mem (i := 120) (Nat.le_of_ble_eq_true rfl)) (g_c12 k_120) rfl rfl hl.1 rfl (Nat.le_of_ble_eq_true rfl) dX15_lessonsUntilMeant_44) (fun H locs hW => ?_)
      refine lv_iload_n C0.hx C0.hb dX15_lessonsUntilMeant_47 rfl (lv_at hl 1 rfl) ?_
      refine lv_icmp_ne (tgt := 53) C0.hx C0.hb dX15_lessonsUntilMeant_48 (by decide) (fun hc7 => ?_) (fun hc7 => ?_)
      · replace h := (if_neg hc7).symm.trans h
        refine lv_aload_n C0.hx C0.hb dX15_lessonsUntilMeant_53 rfl (lv_at hl 0 rfl) ?_
        refine lv_aload_n C0.hx C0.hb dX15_lessonsUntilMeant_54 rfl (lv_at hl 0 rfl) ?_
        refine gf_X15_18 C0 hW (C0.mem (i := 120) (Nat.le_of_ble_eq_true rfl)) k_120 tf_X15_52 dX15_lessonsUntilMeant_55 ?_
        obtain ⟨q8, hq8, h⟩ := Option.bind_eq_some_iff.mp h
        refine g_calli hW (g_runV (As := [.ref (g_ad G (156))]) (rest := []) C0 hW (c_X15_lesson k_156 hq8) (g_cwOf (n := 1) tc_X15_lesson tn_X15 md_X15_lesson (by decide) (by omega)) tm_X15_356 ti_X15_lesson ts_X15_lesson (C0.mem (i := 120) (Nat.le_of_ble_eq_true rfl)) (g_c12 k_120) rfl rfl hl.1 rfl (Nat.le_of_ble_eq_true rfl) dX15_lessonsUntilMeant_58) (fun H locs hW => ?_)
        refine lv_pop C0.hx C0.hb dX15_lessonsUntilMeant_61 rfl ?_
        refine lv_iinc (v := l2 + (1 : Int32)) (lv' := [(2, .int (l2 + (1 : Int32))), (0, .ref (g_ad G (120))), (1, .int (l1))]) C0.hx C0.hb dX15_lessonsUntilMeant_62 hl (k := 2) rfl rfl (by decide) rfl (fun ls hl => ?_)
        refine lv_goto (tgt := 32) C0.hx C0.hb dX15_lessonsUntilMeant_65 (by decide) ?_
        exact ih _ _ _ _ _ _ h hW (lv_sub hl [1, 2, 0] rfl)
      · replace h := (if_pos hc7).symm.trans h
        refine lv_iload_n C0.hx C0.hb dX15_lessonsUntilMeant_51 rfl (lv_at hl 2 rfl) ?_
        obtain rfl := Option.some.inj h
        exact g_iret C0 hW rfl rfl rfl dX15_lessonsUntilMeant_52
set_option maxRecDepth 100000 in
set_option maxHeartbeats 4000000 in
theorem c_X15_lessonsUntilMeant {l : Launch} {G : GL} {ids : List Nat} {x : CS} {o : Nat → Int32} {y : MS} {p1 : Int32} {q : Int32 × MS}    (h : f_X15_lessonsUntilMeant p1 y = some q) : Met l yX15_lessonsUntilMeant (.code yX15_lessonsUntilMeant cX15_lessonsUntilMeant 3 (Option.some Jvm.ClassFile.FieldType.int) :: gT) (g_rm 9 0 0) (va_Pc [.ref (g_ad G (120)), .int (p1)] (g_P G ids (x, y, o))) (g_Qi G ids q.1 (x, q.2, o)) 0 0 (g_A G) := by
  unfold f_X15_lessonsUntilMeant at h
  refine g_entry (by decide) (Nat.le_of_ble_eq_true rfl) (fun p e s m args below meth c ls C0 hl hW _ => ?_)
  have hl : lv_has ls 3 [(0, .ref (g_ad G (120))), (1, .int (p1))] := hl
  refine lv_aload_n C0.hx C0.hb dX15_lessonsUntilMeant_0 rfl (lv_at hl 0 rfl) ?_
  refine lv_iconst (v := (0 : Int32)) C0.hx C0.hb dX15_lessonsUntilMeant_1 (by decide) ?_
  refine gp_X15_0 C0 hW (C0.mem (i := 120) (Nat.le_of_ble_eq_true rfl)) k_120 tf_X15_62 dX15_lessonsUntilMeant_2 (fun H locs hW => ?_)
  refine lv_aload_n C0.hx C0.hb dX15_lessonsUntilMeant_5 rfl (lv_at hl 0 rfl) ?_
  refine lv_iload_n C0.hx C0.hb dX15_lessonsUntilMeant_6 rfl (lv_at hl 1 rfl) ?_
  obtain ⟨q1, hq1, h⟩ := Option.bind_eq_some_iff.mp h
  refine g_calli hW (g_runV (As := [.int (p1)]) (rest := []) C0 hW (c_X15_isTold hq1) (g_cwOf (n := 1) tc_X15_isTold tn_X15 md_X15_isTold (by decide) (by omega)) tm_X15_341 ti_X15_isTold ts_X15_isTold (C0.mem (i := 120) (Nat.le_of_ble_eq_true rfl)) (g_c12 k_120) rfl rfl hl.1 rfl (Nat.le_of_ble_eq_true rfl) dX15_lessonsUntilMeant_7) (fun H locs hW => ?_)
  refine lv_if_ne (tgt := 19) C0.hx C0.hb dX15_lessonsUntilMeant_10 (by decide) (fun hc2 => ?_) (fun hc2 => ?_)
  · replace h := (if_neg hc2).symm.trans h
    refine lv_aload_n C0.hx C0.hb dX15_lessonsUntilMeant_19 rfl (lv_at hl 0 rfl) ?_
    refine gf_X15_18 C0 hW (C0.mem (i := 120) (Nat.le_of_ble_eq_true rfl)) k_120 tf_X15_52 dX15_lessonsUntilMeant_20 ?_
    refine lv_aload_n C0.hx C0.hb dX15_lessonsUntilMeant_23 rfl (lv_at hl 0 rfl) ?_
    refine gf_X15_17 C0 hW (C0.mem (i := 120) (Nat.le_of_ble_eq_true rfl)) k_120 tf_X15_48 dX15_lessonsUntilMeant_24 ?_
    obtain ⟨q3, hq3, h⟩ := Option.bind_eq_some_iff.mp h
    refine g_callv hW (g_runV (As := [.ref (g_ad G (152))]) (rest := []) C0 hW (c_X13_become k_156 k_152 hq3) (g_cwOf (n := 1) tc_X13_become tn_X13 md_X13_become (by decide) (by omega)) tm_X15_359 ti_X13_become ts_X13_become (C0.mem (i := 156) (Nat.le_of_ble_eq_true rfl)) (g_c14 k_156) rfl rfl hl.1 rfl (Nat.le_of_ble_eq_true rfl) dX15_lessonsUntilMeant_27) (fun H locs hW => ?_)
    refine lv_iconst (v := (0 : Int32)) C0.hx C0.hb dX15_lessonsUntilMeant_30 (by decide) ?_
    refine lv_istore_n (lv' := [(2, .int ((0 : Int32))), (0, .ref (g_ad G (120))), (1, .int (p1))]) C0.hx C0.hb dX15_lessonsUntilMeant_31 rfl hl (by decide) rfl (fun ls hl => ?_)
    exact w_X15_lessonsUntilMeant_32 C0 g_fuel _ _ _ _ _ _ h hW (lv_sub hl [1, 2, 0] rfl)
  · replace h := (if_pos hc2).symm.trans h
    refine lv_aload_n C0.hx C0.hb dX15_lessonsUntilMeant_13 rfl (lv_at hl 0 rfl) ?_
    refine lv_iconst (v := (1 : Int32)) C0.hx C0.hb dX15_lessonsUntilMeant_14 (by decide) ?_
    obtain ⟨q4, hq4, h⟩ := Option.bind_eq_some_iff.mp h
    refine g_calli hW (g_runV (As := [.int ((1 : Int32))]) (rest := []) C0 hW (c_X15_no hq4) (g_cwOf (n := 1) tc_X15_no tn_X15 md_X15_no (by decide) (by omega)) tm_X15_253 ti_X15_no ts_X15_no (C0.mem (i := 120) (Nat.le_of_ble_eq_true rfl)) (g_c12 k_120) rfl rfl hl.1 rfl (Nat.le_of_ble_eq_true rfl) dX15_lessonsUntilMeant_15) (fun H locs hW => ?_)
    obtain rfl := Option.some.inj h
    exact g_iret C0 hW rfl rfl rfl dX15_lessonsUntilMeant_18
set_option maxRecDepth 100000 in
set_option maxHeartbeats 4000000 in
theorem w_X15_bestShift_58 {p : Program} {l : Launch} {e : Env} {s : State} {m : MethodId} {args : Array Value} {below : List Frame} {meth : Method} {c : Code} {G : GL} {ids : List Nat} {x : CS} {o : Nat → Int32}  {q : Int32 × MS} {k39 : Int32 → Int32 → Int32 → Int32 → MS → Option (Int32 × MS)} {k49 : Int32 → Int32 → Int32 → Int32 → Int32 → MS → Option (Int32 × MS)}   (C0 : g_X G ids p s m args meth c cX15_bestShift 7 RX15 (Option.some Jvm.ClassFile.FieldType.int)) (kt39 : ∀ (l1 : Int32) (l2 : Int32) (l3 : Int32) (l4 : Int32) (y : MS) (H : Heap) (locs : List Loc) (ls : Array Slot),  k39 l1 l2 l3 l4 y = some q → g_W G ids (x, y, o) s.heap H locs → lv_has ls 7 [(0, .ref (g_ad G (120))), (1, .int (l1)), (2, .int (l2)), (3, .int (l3)), (4, .int (l4))] → W p l e (g_rm 5 0 0) s m args below meth c H locs 0 0 (MQ below (g_Qi G ids q.1 (x, q.2, o)) args s 0 0 (g_A G)) (F0 m 39 ls [])) (kt49 : ∀ (l1 : Int32) (l2 : Int32) (l3 : Int32) (l4 : Int32) (l5 : Int32) (y : MS) (H : Heap) (locs : List Loc) (ls : Array Slot),  k49 l1 l2 l3 l4 l5 y = some q → g_W G ids (x, y, o) s.heap H locs → lv_has ls 7 [(0, .ref (g_ad G (120))), (1, .int (l1)), (2, .int (l2)), (3, .int (l3)), (4, .int (l4)), (5, .int (l5))] → W p l e (g_rm 5 0 0) s m args below meth c H locs 0 0 (MQ below (g_Qi G ids q.1 (x, q.2, o)) args s 0 0 (g_A G)) (F0 m 49 ls [])) : ∀ (n : Nat) (l1 : Int32) (l2 : Int32) (l3 : Int32) (l4 : Int32) (l5 : Int32) (l6 : Int32) (y : MS) (H : Heap) (locs : List Loc) (ls : Array Slot),  f_X15_bestShift_58 k39 k49 n l1 l2 l3 l4 l5 l6 y = some q → g_W G ids (x, y, o) s.heap H locs → lv_has ls 7 [(0, .ref (g_ad G (120))), (1, .int (l1)), (2, .int (l2)), (3, .int (l3)), (4, .int (l4)), (5, .int (l5)), (6, .int (l6))] → W p l e (g_rm 5 0 0) s m args below meth c H locs 0 0 (MQ below (g_Qi G ids q.1 (x, q.2, o)) args s 0 0 (g_A G)) (F0 m 58 ls []) := by
  intro n
  induction n with
  | zero =>
    intro l1 l2 l3 l4 l5 l6 y H locs ls h hW hl
    exact absurd h (by simp [f_X15_bestShift_58])
  | succ n ih =>
    intro l1 l2 l3 l4 l5 l6 y H locs ls h hW hl
    unfold f_X15_bestShift_58 at h
    refine lv_iload C0.hx C0.hb dX15_bestShift_58 (lv_at hl 6 rfl) ?_
    refine lv_aload_n C0.hx C0.hb dX15_bestShift_60 rfl (lv_at hl 0 rfl) ?_
    refine gf_X15_17 C0 hW (C0.mem (i := 120) (Nat.le_of_ble_eq_true rfl)) k_120 tf_X15_48 dX15_bestShift_61 ?_
    refine gfN_X13_0 C0 hW (C0.mem (i := 152) (Nat.le_of_ble_eq_true rfl)) k_152 tfN_X15_270 dX15_bestShift_64 ?_
    refine lv_bipush (v := (8 : Int32)) C0.hx C0.hb dX15_bestShift_67 (by decide) ?_
    obtain ⟨hb7, h⟩ := g_if h
    refine ga_33 C0 hW (C0.mem (i := 153) (Nat.le_of_ble_eq_true rfl)) k_153 hb7 dX15_bestShift_69 ?_
    refine lv_icmp_ge (tgt := 115) C0.hx C0.hb dX15_bestShift_70 (by decide) (fun hc8 => ?_) (fun hc8 => ?_)
    · replace h := (if_pos hc8).symm.trans h
      refine lv_aload_n C0.hx C0.hb dX15_bestShift_115 rfl (lv_at hl 0 rfl) ?_
      refine lv_aload_n C0.hx C0.hb dX15_bestShift_116 rfl (lv_at hl 0 rfl) ?_
      refine gf_X15_17 C0 hW (C0.mem (i := 120) (Nat.le_of_ble_eq_true rfl)) k_120 tf_X15_48 dX15_bestShift_117 ?_
      refine lv_iload_n C0.hx C0.hb dX15_bestShift_120 rfl (lv_at hl 1 rfl) ?_
      refine lv_bipush (v := (9 : Int32)) C0.hx C0.hb dX15_bestShift_121 (by decide) ?_
      obtain ⟨q9, hq9, h⟩ := Option.bind_eq_some_iff.mp h
      refine g_calli hW (g_runV (As := [.ref (g_ad G (152)), .int (l1), .int ((9 : Int32))]) (rest := []) C0 hW (c_X15_distance k_152 hq9) (g_cwOf (n := 3) tc_X15_distance tn_X15 md_X15_distance (by decide) (by omega)) tm_X15_296 ti_X15_distance ts_X15_distance (C0.mem (i := 120) (Nat.le_of_ble_eq_true rfl)) (g_c12 k_120) rfl rfl hl.1 rfl (Nat.le_of_ble_eq_true rfl) dX15_bestShift_123) (fun H locs hW => ?_)
      refine lv_istore (lv' := [(6, .int (q9.1)), (0, .ref (g_ad G (120))), (1, .int (l1)), (2, .int (l2)), (3, .int (l3)), (4, .int (l4)), (5, .int (l5))]) C0.hx C0.hb dX15_bestShift_126 hl (by decide) rfl (fun ls hl => ?_)
      refine lv_iload C0.hx C0.hb dX15_bestShift_128 (lv_at hl 0 rfl) ?_
      refine lv_iload_n C0.hx C0.hb dX15_bestShift_130 rfl (lv_at hl 4 rfl) ?_
      refine lv_icmp_lt (tgt := 137) C0.hx C0.hb dX15_bestShift_131 (by decide) (fun hc10 => ?_) (fun hc10 => ?_)
      · replace h := (if_pos hc10).symm.trans h
        refine lv_iload C0.hx C0.hb dX15_bestShift_137 (lv_at hl 0 rfl) ?_
        refine lv_istore_n (lv' := [(3, .int (q9.1)), (6, .int (q9.1)), (0, .ref (g_ad G (120))), (1, .int (l1)), (2, .int (l2)), (4, .int (l4)), (5, .int (l5))]) C0.hx C0.hb dX15_bestShift_139 rfl hl (by decide) rfl (fun ls hl => ?_)
        refine lv_iload C0.hx C0.hb dX15_bestShift_140 (lv_at hl 6 rfl) ?_
        refine lv_iload C0.hx C0.hb dX15_bestShift_142 (lv_at hl 5 rfl) ?_
        refine lv_imul C0.hx C0.hb dX15_bestShift_144 ?_
        refine lv_istore_n (lv' := [(2, .int (l5 * l4)), (3, .int (q9.1)), (6, .int (q9.1)), (0, .ref (g_ad G (120))), (1, .int (l1)), (4, .int (l4)), (5, .int (l5))]) C0.hx C0.hb dX15_bestShift_145 rfl hl (by decide) rfl (fun ls hl => ?_)
        refine lv_iinc (v := l5 + (-2 : Int32)) (lv' := [(5, .int (l5 + (-2 : Int32))), (2, .int (l5 * l4)), (3, .int (q9.1)), (6, .int (q9.1)), (0, .ref (g_ad G (120))), (1, .int (l1)), (4, .int (l4))]) C0.hx C0.hb dX15_bestShift_146 hl (k := 6) rfl rfl (by decide) rfl (fun ls hl => ?_)
        refine lv_goto (tgt := 49) C0.hx C0.hb dX15_bestShift_149 (by decide) ?_
        exact kt49 _ _ _ _ _ _ _ _ _ h hW (lv_sub hl [4, 5, 1, 2, 6, 0] rfl)
      · replace h := (if_neg hc10).symm.trans h
        refine lv_goto (tgt := 146) C0.hx C0.hb dX15_bestShift_134 (by decide) ?_
        refine lv_iinc (v := l5 + (-2 : Int32)) (lv' := [(5, .int (l5 + (-2 : Int32))), (6, .int (q9.1)), (0, .ref (g_ad G (120))), (1, .int (l1)), (2, .int (l2)), (3, .int (l3)), (4, .int (l4))]) C0.hx C0.hb dX15_bestShift_146 hl (k := 6) rfl rfl (by decide) rfl (fun ls hl => ?_)
        refine lv_goto (tgt := 49) C0.hx C0.hb dX15_bestShift_149 (by decide) ?_
        exact kt49 _ _ _ _ _ _ _ _ _ h hW (lv_sub hl [2, 3, 4, 5, 6, 0] rfl)
    · replace h := (if_neg hc8).symm.trans h
      refine lv_aload_n C0.hx C0.hb dX15_bestShift_73 rfl (lv_at hl 0 rfl) ?_
      refine gf_X15_17 C0 hW (C0.mem (i := 120) (Nat.le_of_ble_eq_true rfl)) k_120 tf_X15_48 dX15_bestShift_74 ?_
      refine gfN_X13_1 C0 hW (C0.mem (i := 152) (Nat.le_of_ble_eq_true rfl)) k_152 tfN_X15_271 dX15_bestShift_77 ?_
      refine lv_sipush (v := (216 : Int32)) C0.hx C0.hb dX15_bestShift_80 (by decide) ?_
      refine lv_iload C0.hx C0.hb dX15_bestShift_83 (lv_at hl 6 rfl) ?_
      refine lv_iadd C0.hx C0.hb dX15_bestShift_85 ?_
      refine lv_aload_n C0.hx C0.hb dX15_bestShift_86 rfl (lv_at hl 0 rfl) ?_
      refine gf_X15_17 C0 hW (C0.mem (i := 120) (Nat.le_of_ble_eq_true rfl)) k_120 tf_X15_48 dX15_bestShift_87 ?_
      refine gfN_X13_1 C0 hW (C0.mem (i := 152) (Nat.le_of_ble_eq_true rfl)) k_152 tfN_X15_271 dX15_bestShift_90 ?_
      refine lv_sipush (v := (192 : Int32)) C0.hx C0.hb dX15_bestShift_93 (by decide) ?_
      refine lv_iload C0.hx C0.hb dX15_bestShift_96 (lv_at hl 6 rfl) ?_
      refine lv_iadd C0.hx C0.hb dX15_bestShift_98 ?_
      obtain ⟨hb11, h⟩ := g_if h
      refine ga_34 C0 hW (C0.mem (i := 154) (Nat.le_of_ble_eq_true rfl)) k_154 hb11 dX15_bestShift_99 ?_
      refine lv_iload C0.hx C0.hb dX15_bestShift_100 (lv_at hl 5 rfl) ?_
      refine lv_iload C0.hx C0.hb dX15_bestShift_102 (lv_at hl 4 rfl) ?_
      refine lv_imul C0.hx C0.hb dX15_bestShift_104 ?_
      obtain ⟨q12, hq12, h⟩ := Option.bind_eq_some_iff.mp h
      refine g_calli hW (g_runS (As := [.int (y 154 ((192 : Int32) + l6).toNatClampNeg), .int (l5 * l4)]) (rest := [.int ((216 : Int32) + l6), .ref (g_ad G (154))]) C0 hW (c_X15_held hq12) (g_cwOf (n := 2) tc_X15_held tn_X15 md_X15_held (by decide) (by omega)) tm_X15_324 tz_X15_held rfl hl.1 rfl (Nat.le_of_ble_eq_true rfl) dX15_bestShift_105) (fun H locs hW => ?_)
      obtain ⟨hb13, h⟩ := g_if h
      refine gs_34 C0 hW (C0.mem (i := 154) (Nat.le_of_ble_eq_true rfl)) k_154 hb13 dX15_bestShift_108 (fun H locs hW => ?_)
      refine lv_iinc (v := l6 + (1 : Int32)) (lv' := [(6, .int (l6 + (1 : Int32))), (0, .ref (g_ad G (120))), (1, .int (l1)), (2, .int (l2)), (3, .int (l3)), (4, .int (l4)), (5, .int (l5))]) C0.hx C0.hb dX15_bestShift_109 hl (k := 6) rfl rfl (by decide) rfl (fun ls hl => ?_)
      refine lv_goto (tgt := 58) C0.hx C0.hb dX15_bestShift_112 (by decide) ?_
      exact ih _ _ _ _ _ _ _ _ _ _ h hW (lv_sub hl [1, 2, 3, 4, 5, 6, 0] rfl)
set_option maxRecDepth 100000 in
set_option maxHeartbeats 4000000 in
theorem w_X15_bestShift_49 {p : Program} {l : Launch} {e : Env} {s : State} {m : MethodId} {args : Array Value} {below : List Frame} {meth : Method} {c : Code} {G : GL} {ids : List Nat} {x : CS} {o : Nat → Int32}  {q : Int32 × MS} {k39 : Int32 → Int32 → Int32 → Int32 → MS → Option (Int32 × MS)}   (C0 : g_X G ids p s m args meth c cX15_bestShift 7 RX15 (Option.some Jvm.ClassFile.FieldType.int)) (kt39 : ∀ (l1 : Int32) (l2 : Int32) (l3 : Int32) (l4 : Int32) (y : MS) (H : Heap) (locs : List Loc) (ls : Array Slot),  k39 l1 l2 l3 l4 y = some q → g_W G ids (x, y, o) s.heap H locs → lv_has ls 7 [(0, .ref (g_ad G (120))), (1, .int (l1)), (2, .int (l2)), (3, .int (l3)), (4, .int (l4))] → W p l e (g_rm 5 0 0) s m args below meth c H locs 0 0 (MQ below (g_Qi G ids q.1 (x, q.2, o)) args s 0 0 (g_A G)) (F0 m 39 ls [])) : ∀ (n : Nat) (l1 : Int32) (l2 : Int32) (l3 : Int32) (l4 : Int32) (l5 : Int32) (y : MS) (H : Heap) (locs : List Loc) (ls : Array Slot),  f_X15_bestShift_49 k39 n l1 l2 l3 l4 l5 y = some q → g_W G ids (x, y, o) s.heap H locs → lv_has ls 7 [(0, .ref (g_ad G (120))), (1, .int (l1)), (2, .int (l2)), (3, .int (l3)), (4, .int (l4)), (5, .int (l5))] → W p l e (g_rm 5 0 0) s m args below meth c H locs 0 0 (MQ below (g_Qi G ids q.1 (x, q.2, o)) args s 0 0 (g_A G)) (F0 m 49 ls []) := by
  intro n
  induction n with
  | zero =>
    intro l1 l2 l3 l4 l5 y H locs ls h hW hl
    exact absurd h (by simp [f_X15_bestShift_49])
  | succ n ih =>
    intro l1 l2 l3 l4 l5 y H locs ls h hW hl
    unfold f_X15_bestShift_49 at h
    refine lv_iload C0.hx C0.hb dX15_bestShift_49 (lv_at hl 5 rfl) ?_
    refine lv_iconst (v := (-1 : Int32)) C0.hx C0.hb dX15_bestShift_51 (by decide) ?_
    refine lv_icmp_lt (tgt := 152) C0.hx C0.hb dX15_bestShift_52 (by decide) (fun hc6 => ?_) (fun hc6 => ?_)
    · replace h := (if_pos hc6).symm.trans h
      refine lv_iinc (v := l4 + (1 : Int32)) (lv' := [(4, .int (l4 + (1 : Int32))), (0, .ref (g_ad G (120))), (1, .int (l1)), (2, .int (l2)), (3, .int (l3)), (5, .int (l5))]) C0.hx C0.hb dX15_bestShift_152 hl (k := 4) rfl rfl (by decide) rfl (fun ls hl => ?_)
      refine lv_goto (tgt := 39) C0.hx C0.hb dX15_bestShift_155 (by decide) ?_
      exact kt39 _ _ _ _ _ _ _ _ h hW (lv_sub hl [1, 2, 3, 4, 0] rfl)
    · replace h := (if_neg hc6).symm.trans h
      refine lv_iconst (v := (0 : Int32)) C0.hx C0.hb dX15_bestShift_55 (by decide) ?_
      refine lv_istore (lv' := [(6, .int ((0 : Int32))), (0, .ref (g_ad G (120))), (1, .int (l1)), (2, .int (l2)), (3, .int (l3)), (4, .int (l4)), (5, .int (l5))]) C0.hx C0.hb dX15_bestShift_56 hl (by decide) rfl (fun ls hl => ?_)
      exact w_X15_bestShift_58 C0 kt39 ih g_fuel _ _ _ _ _ _ _ _ _ _ h hW (lv_sub hl [1, 2, 3, 4, 5, 6, 0] rfl)
set_option maxRecDepth 100000 in
set_option maxHeartbeats 4000000 in
theorem w_X15_bestShift_39 {p : Program} {l : Launch} {e : Env} {s : State} {m : MethodId} {args : Array Value} {below : List Frame} {meth : Method} {c : Code} {G : GL} {ids : List Nat} {x : CS} {o : Nat → Int32}  {q : Int32 × MS}   (C0 : g_X G ids p s m args meth c cX15_bestShift 7 RX15 (Option.some Jvm.ClassFile.FieldType.int))  : ∀ (n : Nat) (l1 : Int32) (l2 : Int32) (l3 : Int32) (l4 : Int32) (y : MS) (H : Heap) (locs : List Loc) (ls : Array Slot),  f_X15_bestShift_39 n l1 l2 l3 l4 y = some q → g_W G ids (x, y, o) s.heap H locs → lv_has ls 7 [(0, .ref (g_ad G (120))), (1, .int (l1)), (2, .int (l2)), (3, .int (l3)), (4, .int (l4))] → W p l e (g_rm 5 0 0) s m args below meth c H locs 0 0 (MQ below (g_Qi G ids q.1 (x, q.2, o)) args s 0 0 (g_A G)) (F0 m 39 ls []) := by
  intro n
  induction n with
  | zero =>
    intro l1 l2 l3 l4 y H locs ls h hW hl
    exact absurd h (by simp [f_X15_bestShift_39])
  | succ n ih =>
    intro l1 l2 l3 l4 y H locs ls h hW hl
    unfold f_X15_bestShift_39 at h
    refine lv_iload C0.hx C0.hb dX15_bestShift_39 (lv_at hl 4 rfl) ?_
    refine lv_bipush (v := (39 : Int32)) C0.hx C0.hb dX15_bestShift_41 (by decide) ?_
    refine lv_icmp_gt (tgt := 158) C0.hx C0.hb dX15_bestShift_43 (by decide) (fun hc5 => ?_) (fun hc5 => ?_)
    · replace h := (if_pos hc5).symm.trans h
      refine lv_iload_n C0.hx C0.hb dX15_bestShift_158 rfl (lv_at hl 2 rfl) ?_
      obtain rfl := Option.some.inj h
      exact g_iret C0 hW rfl rfl rfl dX15_bestShift_159
    · replace h := (if_neg hc5).symm.trans h
      refine lv_iconst (v := (1 : Int32)) C0.hx C0.hb dX15_bestShift_46 (by decide) ?_
      refine lv_istore (lv' := [(5, .int ((1 : Int32))), (0, .ref (g_ad G (120))), (1, .int (l1)), (2, .int (l2)), (3, .int (l3)), (4, .int (l4))]) C0.hx C0.hb dX15_bestShift_47 hl (by decide) rfl (fun ls hl => ?_)
      exact w_X15_bestShift_49 C0 ih g_fuel _ _ _ _ _ _ _ _ _ h hW (lv_sub hl [1, 2, 3, 4, 5, 0] rfl)
set_option maxRecDepth 100000 in
set_option maxHeartbeats 4000000 in
theorem c_X15_bestShift {l : Launch} {G : GL} {ids : List Nat} {x : CS} {o : Nat → Int32} {y : MS} {p1 : Int32} {q : Int32 × MS}    (h : f_X15_bestShift p1 y = some q) : Met l yX15_bestShift (.code yX15_bestShift cX15_bestShift 7 (Option.some Jvm.ClassFile.FieldType.int) :: gT) (g_rm 5 0 0) (va_Pc [.ref (g_ad G (120)), .int (p1)] (g_P G ids (x, y, o))) (g_Qi G ids q.1 (x, q.2, o)) 0 0 (g_A G) := by
  unfold f_X15_bestShift at h
  refine g_entry (by decide) (Nat.le_of_ble_eq_true rfl) (fun p e s m args below meth c ls C0 hl hW _ => ?_)
  have hl : lv_has ls 7 [(0, .ref (g_ad G (120))), (1, .int (p1))] := hl
  refine lv_aload_n C0.hx C0.hb dX15_bestShift_0 rfl (lv_at hl 0 rfl) ?_
  refine lv_iload_n C0.hx C0.hb dX15_bestShift_1 rfl (lv_at hl 1 rfl) ?_
  obtain ⟨q1, hq1, h⟩ := Option.bind_eq_some_iff.mp h
  refine g_calli hW (g_runV (As := [.int (p1)]) (rest := []) C0 hW (c_X15_isHeard hq1) (g_cwOf (n := 1) tc_X15_isHeard tn_X15 md_X15_isHeard (by decide) (by omega)) tm_X15_353 ti_X15_isHeard ts_X15_isHeard (C0.mem (i := 120) (Nat.le_of_ble_eq_true rfl)) (g_c12 k_120) rfl rfl hl.1 rfl (Nat.le_of_ble_eq_true rfl) dX15_bestShift_2) (fun H locs hW => ?_)
  refine lv_if_ne (tgt := 10) C0.hx C0.hb dX15_bestShift_5 (by decide) (fun hc2 => ?_) (fun hc2 => ?_)
  · replace h := (if_neg hc2).symm.trans h
    refine lv_iconst (v := (0 : Int32)) C0.hx C0.hb dX15_bestShift_10 (by decide) ?_
    refine lv_istore_n (lv' := [(2, .int ((0 : Int32))), (0, .ref (g_ad G (120))), (1, .int (p1))]) C0.hx C0.hb dX15_bestShift_11 rfl hl (by decide) rfl (fun ls hl => ?_)
    refine lv_ldcw C0.hx C0.hb C0.hown (C0.hts _ tq_X15_284) dX15_bestShift_12 ?_
    refine lv_istore_n (lv' := [(3, .int ((536870912 : Int32))), (2, .int ((0 : Int32))), (0, .ref (g_ad G (120))), (1, .int (p1))]) C0.hx C0.hb dX15_bestShift_15 rfl hl (by decide) rfl (fun ls hl => ?_)
    refine lv_aload_n C0.hx C0.hb dX15_bestShift_16 rfl (lv_at hl 2 rfl) ?_
    refine gf_X15_17 C0 hW (C0.mem (i := 120) (Nat.le_of_ble_eq_true rfl)) k_120 tf_X15_48 dX15_bestShift_17 ?_
    refine gfN_X13_0 C0 hW (C0.mem (i := 152) (Nat.le_of_ble_eq_true rfl)) k_152 tfN_X15_270 dX15_bestShift_20 ?_
    refine lv_bipush (v := (9 : Int32)) C0.hx C0.hb dX15_bestShift_23 (by decide) ?_
    refine lv_aload_n C0.hx C0.hb dX15_bestShift_25 rfl (lv_at hl 2 rfl) ?_
    refine gf_X15_17 C0 hW (C0.mem (i := 120) (Nat.le_of_ble_eq_true rfl)) k_120 tf_X15_48 dX15_bestShift_26 ?_
    refine gfN_X13_0 C0 hW (C0.mem (i := 152) (Nat.le_of_ble_eq_true rfl)) k_152 tfN_X15_270 dX15_bestShift_29 ?_
    refine lv_bipush (v := (8 : Int32)) C0.hx C0.hb dX15_bestShift_32 (by decide) ?_
    obtain ⟨hb3, h⟩ := g_if h
    refine ga_33 C0 hW (C0.mem (i := 153) (Nat.le_of_ble_eq_true rfl)) k_153 hb3 dX15_bestShift_34 ?_
    obtain ⟨hb4, h⟩ := g_if h
    refine gs_33 C0 hW (C0.mem (i := 153) (Nat.le_of_ble_eq_true rfl)) k_153 hb4 dX15_bestShift_35 (fun H locs hW => ?_)
    refine lv_iconst (v := (0 : Int32)) C0.hx C0.hb dX15_bestShift_36 (by decide) ?_
    refine lv_istore (lv' := [(4, .int ((0 : Int32))), (3, .int ((536870912 : Int32))), (2, .int ((0 : Int32))), (0, .ref (g_ad G (120))), (1, .int (p1))]) C0.hx C0.hb dX15_bestShift_37 hl (by decide) rfl (fun ls hl => ?_)
    exact w_X15_bestShift_39 C0 g_fuel _ _ _ _ _ _ _ _ h hW (lv_sub hl [3, 4, 2, 1, 0] rfl)
  · replace h := (if_pos hc2).symm.trans h
    refine lv_iconst (v := (0 : Int32)) C0.hx C0.hb dX15_bestShift_8 (by decide) ?_
    obtain rfl := Option.some.inj h
    exact g_iret C0 hW rfl rfl rfl dX15_bestShift_9
set_option maxRecDepth 100000 in
set_option maxHeartbeats 4000000 in
theorem w_X15_meanLength_9 {p : Program} {l : Launch} {e : Env} {s : State} {m : MethodId} {args : Array Value} {below : List Frame} {meth : Method} {c : Code} {G : GL} {ids : List Nat} {x : CS} {o : Nat → Int32}  {q : UInt64 × MS}   (C0 : g_X G ids p s m args meth c cX15_meanLength 3 RX15 (Option.some Jvm.ClassFile.FieldType.double))  : ∀ (n : Nat) (l1 : Int32) (l2 : Int32) (y : MS) (H : Heap) (locs : List Loc) (ls : Array Slot),  f_X15_meanLength_9 n l1 l2 y = some q → g_W G ids (x, y, o) s.heap H locs → lv_has ls 3 [(0, .ref (g_ad G (120))), (1, .int (l1)), (2, .int (l2))] → W p l e (g_rm 0 0 0) s m args below meth c H locs 0 0 (MQ below (g_Qd G ids q.1 (x, q.2, o)) args s 0 0 (g_A G)) (F0 m 9 ls []) := by
  intro n
  induction n with
  | zero =>
    intro l1 l2 y H locs ls h hW hl
    exact absurd h (by simp [f_X15_meanLength_9])
  | succ n ih =>
    intro l1 l2 y H locs ls h hW hl
    unfold f_X15_meanLength_9 at h
    refine lv_iload_n C0.hx C0.hb dX15_meanLength_9 rfl (lv_at hl 2 rfl) ?_
    refine lv_aload_n C0.hx C0.hb dX15_meanLength_10 rfl (lv_at hl 0 rfl) ?_
    refine gf_X15_14 C0 hW (C0.mem (i := 120) (Nat.le_of_ble_eq_true rfl)) k_120 tf_X15_35 dX15_meanLength_11 ?_
    refine gfN_X14_2 C0 hW (C0.mem (i := 127) (Nat.le_of_ble_eq_true rfl)) k_127 tfN_X15_147 dX15_meanLength_14 ?_
    refine lv_icmp_ge (tgt := 38) C0.hx C0.hb dX15_meanLength_17 (by decide) (fun hc1 => ?_) (fun hc1 => ?_)
    · replace h := (if_pos hc1).symm.trans h
      refine lv_aload_n C0.hx C0.hb dX15_meanLength_38 rfl (lv_at hl 0 rfl) ?_
      refine gf_X15_14 C0 hW (C0.mem (i := 120) (Nat.le_of_ble_eq_true rfl)) k_120 tf_X15_35 dX15_meanLength_39 ?_
      refine gfN_X14_2 C0 hW (C0.mem (i := 127) (Nat.le_of_ble_eq_true rfl)) k_127 tfN_X15_147 dX15_meanLength_42 ?_
      refine lv_if_ne (tgt := 52) C0.hx C0.hb dX15_meanLength_45 (by decide) (fun hc2 => ?_) (fun hc2 => ?_)
      · replace h := (if_neg hc2).symm.trans h
        refine lv_iload_n C0.hx C0.hb dX15_meanLength_52 rfl (lv_at hl 1 rfl) ?_
        refine lv_i2d C0.hx C0.hb dX15_meanLength_53 ?_
        refine lv_aload_n C0.hx C0.hb dX15_meanLength_54 rfl (lv_at hl 0 rfl) ?_
        refine gf_X15_14 C0 hW (C0.mem (i := 120) (Nat.le_of_ble_eq_true rfl)) k_120 tf_X15_35 dX15_meanLength_55 ?_
        refine gfN_X14_2 C0 hW (C0.mem (i := 127) (Nat.le_of_ble_eq_true rfl)) k_127 tfN_X15_147 dX15_meanLength_58 ?_
        refine lv_i2d C0.hx C0.hb dX15_meanLength_61 ?_
        obtain ⟨hn3, h⟩ := g_if h
        refine lv_ddiv C0.hx C0.hb dX15_meanLength_62 (g_nanv hn3) ?_
        obtain rfl := Option.some.inj h
        exact g_dret C0 hW rfl rfl dX15_meanLength_63
      · replace h := (if_pos hc2).symm.trans h
        refine lv_dconst0 C0.hx C0.hb dX15_meanLength_48 ?_
        refine lv_goto (tgt := 63) C0.hx C0.hb dX15_meanLength_49 (by decide) ?_
        obtain rfl := Option.some.inj h
        exact g_dret C0 hW rfl rfl dX15_meanLength_63
    · replace h := (if_neg hc1).symm.trans h
      refine lv_iload_n C0.hx C0.hb dX15_meanLength_20 rfl (lv_at hl 1 rfl) ?_
      refine lv_aload_n C0.hx C0.hb dX15_meanLength_21 rfl (lv_at hl 0 rfl) ?_
      refine gf_X15_17 C0 hW (C0.mem (i := 120) (Nat.le_of_ble_eq_true rfl)) k_120 tf_X15_48 dX15_meanLength_22 ?_
      refine gfN_X13_0 C0 hW (C0.mem (i := 152) (Nat.le_of_ble_eq_true rfl)) k_152 tfN_X15_270 dX15_meanLength_25 ?_
      refine lv_iload_n C0.hx C0.hb dX15_meanLength_28 rfl (lv_at hl 2 rfl) ?_
      obtain ⟨hb4, h⟩ := g_if h
      refine ga_33 C0 hW (C0.mem (i := 153) (Nat.le_of_ble_eq_true rfl)) k_153 hb4 dX15_meanLength_29 ?_
      refine lv_iadd C0.hx C0.hb dX15_meanLength_30 ?_
      refine lv_istore_n (lv' := [(1, .int (l1 + (y 153 l2.toNatClampNeg))), (0, .ref (g_ad G (120))), (2, .int (l2))]) C0.hx C0.hb dX15_meanLength_31 rfl hl (by decide) rfl (fun ls hl => ?_)
      refine lv_iinc (v := l2 + (1 : Int32)) (lv' := [(2, .int (l2 + (1 : Int32))), (1, .int (l1 + (y 153 l2.toNatClampNeg))), (0, .ref (g_ad G (120)))]) C0.hx C0.hb dX15_meanLength_32 hl (k := 2) rfl rfl (by decide) rfl (fun ls hl => ?_)
      refine lv_goto (tgt := 9) C0.hx C0.hb dX15_meanLength_35 (by decide) ?_
      exact ih _ _ _ _ _ _ h hW (lv_sub hl [2, 1, 0] rfl)
set_option maxRecDepth 100000 in
set_option maxHeartbeats 4000000 in
theorem c_X15_meanLength {l : Launch} {G : GL} {ids : List Nat} {x : CS} {o : Nat → Int32} {y : MS}  {q : UInt64 × MS}    (h : f_X15_meanLength y = some q) : Met l yX15_meanLength (.code yX15_meanLength cX15_meanLength 3 (Option.some Jvm.ClassFile.FieldType.double) :: gT) (g_rm 0 0 0) (va_Pc [.ref (g_ad G (120))] (g_P G ids (x, y, o))) (g_Qd G ids q.1 (x, q.2, o)) 0 0 (g_A G) := by
  unfold f_X15_meanLength at h
  refine g_entry (by decide) (Nat.le_of_ble_eq_true rfl) (fun p e s m args below meth c ls C0 hl hW _ => ?_)
  have hl : lv_has ls 3 [(0, .ref (g_ad G (120)))] := hl
  refine lv_aload_n C0.hx C0.hb dX15_meanLength_0 rfl (lv_at hl 0 rfl) ?_
  refine lv_iconst (v := (0 : Int32)) C0.hx C0.hb dX15_meanLength_1 (by decide) ?_
  refine gp_X15_0 C0 hW (C0.mem (i := 120) (Nat.le_of_ble_eq_true rfl)) k_120 tf_X15_62 dX15_meanLength_2 (fun H locs hW => ?_)
  refine lv_iconst (v := (0 : Int32)) C0.hx C0.hb dX15_meanLength_5 (by decide) ?_
  refine lv_istore_n (lv' := [(1, .int ((0 : Int32))), (0, .ref (g_ad G (120)))]) C0.hx C0.hb dX15_meanLength_6 rfl hl (by decide) rfl (fun ls hl => ?_)
  refine lv_iconst (v := (0 : Int32)) C0.hx C0.hb dX15_meanLength_7 (by decide) ?_
  refine lv_istore_n (lv' := [(2, .int ((0 : Int32))), (1, .int ((0 : Int32))), (0, .ref (g_ad G (120)))]) C0.hx C0.hb dX15_meanLength_8 rfl hl (by decide) rfl (fun ls hl => ?_)
  exact w_X15_meanLength_9 C0 g_fuel _ _ _ _ _ _ h hW (lv_sub hl [2, 1, 0] rfl)
