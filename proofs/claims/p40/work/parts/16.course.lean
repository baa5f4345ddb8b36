set_option maxRecDepth 100000 in
set_option maxHeartbeats 4000000 in
theorem c_X1_meantOf {l : Launch} {G : GL} {ids : List Nat} {y : MS} {o : Nat → Int32} {x : CS} {p1 : Nat} {q : Int32}   (hk_p1 : kd p1 = 9) (h : f_X1_meantOf p1 x = some q) : Met l yX1_meantOf (.code yX1_meantOf cX1_meantOf 2 (Option.some Jvm.ClassFile.FieldType.int) :: gT) (g_rm 2 0 0) (va_Pc [.ref (g_ad G (18)), .ref (g_ad G (p1))] (g_P G ids (x, y, o))) (g_Qi G ids q (x, y, o)) 0 0 (g_A G) := by
  unfold f_X1_meantOf at h
  refine g_entry (by decide) (Nat.le_of_ble_eq_true rfl) (fun p e s m args below meth c ls C0 hl hW _ => ?_)
  have hl : lv_has ls 2 [(0, .ref (g_ad G (18))), (1, .ref (g_ad G (p1)))] := hl
  refine lv_aload_n C0.hx C0.hb dX1_meantOf_0 rfl (lv_at hl 0 rfl) ?_
  refine gf_X1_0 C0 hW (C0.mem (i := 18) (Nat.le_of_ble_eq_true rfl)) k_18 tf_X1_19 dX1_meantOf_1 ?_
  refine gfN_X3_1 C0 hW (C0.mem (i := 14) (Nat.le_of_ble_eq_true rfl)) k_14 tfN_X1_27 dX1_meantOf_4 ?_
  refine lv_if_ne (tgt := 14) C0.hx C0.hb dX1_meantOf_7 (by decide) (fun hc1 => ?_) (fun hc1 => ?_)
  · replace h := (if_neg hc1).symm.trans h
    refine lv_aload_n C0.hx C0.hb dX1_meantOf_14 rfl (lv_at hl 1 rfl) ?_
    refine lv_iconst (v := (-1 : Int32)) C0.hx C0.hb dX1_meantOf_15 (by decide) ?_
    obtain ⟨q2, hq2, h⟩ := Option.bind_eq_some_iff.mp h
    refine g_calli hW (g_runV (As := [.int ((-1 : Int32))]) (rest := []) C0 hW (c_X9_closestKept hk_p1 hq2) (g_cwOf (n := 1) tc_X9_closestKept tn_X9 md_X9_closestKept (by decide) (by omega)) tm_X1_32 ti_X9_closestKept ts_X9_closestKept (C0.mem (kl9 hk_p1)) (g_c9 hk_p1) rfl rfl hl.1 rfl (Nat.le_of_ble_eq_true rfl) dX1_meantOf_16) (fun H locs hW => ?_)
    obtain rfl := Option.some.inj h
    exact g_iret C0 hW rfl rfl rfl dX1_meantOf_19
  · replace h := (if_pos hc1).symm.trans h
    refine lv_iconst (v := (-1 : Int32)) C0.hx C0.hb dX1_meantOf_10 (by decide) ?_
    refine lv_goto (tgt := 19) C0.hx C0.hb dX1_meantOf_11 (by decide) ?_
    obtain rfl := Option.some.inj h
    exact g_iret C0 hW rfl rfl rfl dX1_meantOf_19
set_option maxRecDepth 100000 in
set_option maxHeartbeats 4000000 in
theorem c_X1_measure {l : Launch} {G : GL} {ids : List Nat} {y : MS} {o : Nat → Int32} {x : CS} {p1 : Nat} {p2 : Nat} {q : CS}   (hk_p1 : kd p1 = 7) (hk_p2 : kd p2 = 10) (h : f_X1_measure p1 p2 x = some q) : Met l yX1_measure (.code yX1_measure cX1_measure 3 (Option.none : Option Jvm.ClassFile.FieldType) :: gT) (g_rm 3 0 0) (va_Pc [.ref (g_ad G (18)), .ref (g_ad G (p1)), .ref (g_ad G (p2))] (g_P G ids (x, y, o))) (g_Qv G ids (q, y, o)) 0 0 (g_A G) := by
  unfold f_X1_measure at h
  refine g_entry (by decide) (Nat.le_of_ble_eq_true rfl) (fun p e s m args below meth c ls C0 hl hW _ => ?_)
  have hl : lv_has ls 3 [(0, .ref (g_ad G (18))), (1, .ref (g_ad G (p1))), (2, .ref (g_ad G (p2)))] := hl
  refine lv_aload_n C0.hx C0.hb dX1_measure_0 rfl (lv_at hl 2 rfl) ?_
  refine lv_aload_n C0.hx C0.hb dX1_measure_1 rfl (lv_at hl 0 rfl) ?_
  refine gf_X1_0 C0 hW (C0.mem (i := 18) (Nat.le_of_ble_eq_true rfl)) k_18 tf_X1_19 dX1_measure_2 ?_
  refine gfN_X3_1 C0 hW (C0.mem (i := 14) (Nat.le_of_ble_eq_true rfl)) k_14 tfN_X1_27 dX1_measure_5 ?_
  refine lv_if_ne (tgt := 17) C0.hx C0.hb dX1_measure_8 (by decide) (fun hc1 => ?_) (fun hc1 => ?_)
  · replace h := (if_neg hc1).symm.trans h
    refine lv_aload_n C0.hx C0.hb dX1_measure_17 rfl (lv_at hl 0 rfl) ?_
    refine gf_X1_1 C0 hW (C0.mem (i := 18) (Nat.le_of_ble_eq_true rfl)) k_18 tf_X1_23 dX1_measure_18 ?_
    refine lv_aload_n C0.hx C0.hb dX1_measure_21 rfl (lv_at hl 2 rfl) ?_
    refine gfN_X11_0 C0 hW (C0.mem (kl10 hk_p2)) hk_p2 tfN_X1_49 dX1_measure_22 ?_
    refine lv_aload_n C0.hx C0.hb dX1_measure_25 rfl (lv_at hl 0 rfl) ?_
    refine gf_X1_0 C0 hW (C0.mem (i := 18) (Nat.le_of_ble_eq_true rfl)) k_18 tf_X1_19 dX1_measure_26 ?_
    refine lv_aload_n C0.hx C0.hb dX1_measure_29 rfl (lv_at hl 1 rfl) ?_
    refine gfN_X5_6 C0 hW (C0.mem (kl7 hk_p1)) hk_p1 tfN_X1_54 dX1_measure_30 ?_
    obtain ⟨q2, hq2, h⟩ := Option.bind_eq_some_iff.mp h
    refine g_calli hW (g_runV (As := [.ref (g_ad G (p2 + 1)), .ref (g_ad G (14)), .int (x.1 p1 6)]) (rest := [.ref (g_ad G (p2))]) C0 hW (c_X10_distance (ko10_0 hk_p2) k_14 hq2) (g_cwOf (n := 3) tc_X10_distance tn_X10 md_X10_distance (by decide) (by omega)) tm_X1_59 ti_X10_distance ts_X10_distance (C0.mem (i := 8) (Nat.le_of_ble_eq_true rfl)) (g_c4 k_8) rfl rfl hl.1 rfl (Nat.le_of_ble_eq_true rfl) dX1_measure_33) (fun H locs hW => ?_)
    refine gpN_X11_2 C0 hW (C0.mem (kl10 hk_p2)) hk_p2 tfN_X1_65 dX1_measure_36 (fun H locs hW => ?_)
    obtain rfl := Option.some.inj h
    exact g_vret C0 hW rfl dX1_measure_39
  · replace h := (if_pos hc1).symm.trans h
    refine lv_sipush (v := (999 : Int32)) C0.hx C0.hb dX1_measure_11 (by decide) ?_
    refine lv_goto (tgt := 36) C0.hx C0.hb dX1_measure_14 (by decide) ?_
    refine gpN_X11_2 C0 hW (C0.mem (kl10 hk_p2)) hk_p2 tfN_X1_65 dX1_measure_36 (fun H locs hW => ?_)
    obtain rfl := Option.some.inj h
    exact g_vret C0 hW rfl dX1_measure_39
set_option maxRecDepth 100000 in
set_option maxHeartbeats 4000000 in
theorem w_X1_measureAll_2 {p : Program} {l : Launch} {e : Env} {s : State} {m : MethodId} {args : Array Value} {below : List Frame} {meth : Method} {c : Code} {G : GL} {ids : List Nat} {y : MS} {o : Nat → Int32}  {q : CS}   (C0 : g_X G ids p s m args meth c cX1_measureAll 4 RX1 (Option.none : Option Jvm.ClassFile.FieldType))  : ∀ (n : Nat) (l1 : Nat) (l2 : Nat) (l3 : Int32) (x : CS) (H : Heap) (locs : List Loc) (ls : Array Slot), kd l1 = 7 → kd l2 = 9 → f_X1_measureAll_2 n l1 l2 l3 x = some q → g_W G ids (x, y, o) s.heap H locs → lv_has ls 4 [(0, .ref (g_ad G (18))), (1, .ref (g_ad G (l1))), (2, .ref (g_ad G (l2))), (3, .int (l3))] → W p l e (g_rm 4 0 0) s m args below meth c H locs 0 0 (MQ below (g_Qv G ids (q, y, o)) args s 0 0 (g_A G)) (F0 m 2 ls []) := by
  intro n
  induction n with
  | zero =>
    intro l1 l2 l3 x H locs ls hk_l1 hk_l2 h hW hl
    exact absurd h (by simp [f_X1_measureAll_2])
  | succ n ih =>
    intro l1 l2 l3 x H locs ls hk_l1 hk_l2 h hW hl
    unfold f_X1_measureAll_2 at h
    refine lv_iload_n C0.hx C0.hb dX1_measureAll_2 rfl (lv_at hl 3 rfl) ?_
    refine lv_aload_n C0.hx C0.hb dX1_measureAll_3 rfl (lv_at hl 2 rfl) ?_
    refine gfN_X9_2 C0 hW (C0.mem (kl9 hk_l2)) hk_l2 tfN_X1_38 dX1_measureAll_4 ?_
    refine lv_icmp_ge (tgt := 26) C0.hx C0.hb dX1_measureAll_7 (by decide) (fun hc1 => ?_) (fun hc1 => ?_)
    · replace h := (if_pos hc1).symm.trans h
      obtain rfl := Option.some.inj h
      exact g_vret C0 hW rfl dX1_measureAll_26
    · replace h := (if_neg hc1).symm.trans h
      refine lv_aload_n C0.hx C0.hb dX1_measureAll_10 rfl (lv_at hl 0 rfl) ?_
      refine lv_aload_n C0.hx C0.hb dX1_measureAll_11 rfl (lv_at hl 1 rfl) ?_
      refine lv_aload_n C0.hx C0.hb dX1_measureAll_12 rfl (lv_at hl 2 rfl) ?_
      refine lv_iload_n C0.hx C0.hb dX1_measureAll_13 rfl (lv_at hl 3 rfl) ?_
      obtain ⟨q2, hq2, h⟩ := Option.bind_eq_some_iff.mp h
      obtain ⟨hk3, h⟩ := g_if h
      refine g_callr hW (g_runV (As := [.int (l3)]) (rest := [.ref (g_ad G (l1)), .ref (g_ad G (18))]) C0 hW (c_X9_word hk_l2 hq2) (g_cwOf (n := 1) tc_X9_word tn_X9 md_X9_word (by decide) (by omega)) tm_X1_41 ti_X9_word ts_X9_word (C0.mem (kl9 hk_l2)) (g_c9 hk_l2) rfl rfl hl.1 rfl (Nat.le_of_ble_eq_true rfl) dX1_measureAll_14) (fun H locs hW => ?_)
      obtain ⟨q4, hq4, h⟩ := Option.bind_eq_some_iff.mp h
      refine g_callv hW (g_runV (As := [.ref (g_ad G (l1)), .ref (g_ad G (q2))]) (rest := []) C0 hW (c_X1_measure hk_l1 hk3 hq4) (g_cwOf (n := 2) tc_X1_measure tn_X1 md_X1_measure (by decide) (by omega)) tm_X1_45 ti_X1_measure ts_X1_measure (C0.mem (i := 18) (Nat.le_of_ble_eq_true rfl)) (g_c6 k_18) rfl rfl hl.1 rfl (Nat.le_of_ble_eq_true rfl) dX1_measureAll_17) (fun H locs hW => ?_)
      refine lv_iinc (v := l3 + (1 : Int32)) (lv' := [(3, .int (l3 + (1 : Int32))), (0, .ref (g_ad G (18))), (1, .ref (g_ad G (l1))), (2, .ref (g_ad G (l2)))]) C0.hx C0.hb dX1_measureAll_20 hl (k := 3) rfl rfl (by decide) rfl (fun ls hl => ?_)
      refine lv_goto (tgt := 2) C0.hx C0.hb dX1_measureAll_23 (by decide) ?_
      exact ih _ _ _ _ _ _ _ hk_l1 hk_l2 h hW (lv_sub hl [1, 2, 3, 0] rfl)
set_option maxRecDepth 100000 in
set_option maxHeartbeats 4000000 in
theorem c_X1_measureAll {l : Launch} {G : GL} {ids : List Nat} {y : MS} {o : Nat → Int32} {x : CS} {p1 : Nat} {p2 : Nat} {q : CS}   (hk_p1 : kd p1 = 7) (hk_p2 : kd p2 = 9) (h : f_X1_measureAll p1 p2 x = some q) : Met l yX1_measureAll (.code yX1_measureAll cX1_measureAll 4 (Option.none : Option Jvm.ClassFile.FieldType) :: gT) (g_rm 4 0 0) (va_Pc [.ref (g_ad G (18)), .ref (g_ad G (p1)), .ref (g_ad G (p2))] (g_P G ids (x, y, o))) (g_Qv G ids (q, y, o)) 0 0 (g_A G) := by
  unfold f_X1_measureAll at h
  refine g_entry (by decide) (Nat.le_of_ble_eq_true rfl) (fun p e s m args below meth c ls C0 hl hW _ => ?_)
  have hl : lv_has ls 4 [(0, .ref (g_ad G (18))), (1, .ref (g_ad G (p1))), (2, .ref (g_ad G (p2)))] := hl
  refine lv_iconst (v := (0 : Int32)) C0.hx C0.hb dX1_measureAll_0 (by decide) ?_
  refine lv_istore_n (lv' := [(3, .int ((0 : Int32))), (0, .ref (g_ad G (18))), (1, .ref (g_ad G (p1))), (2, .ref (g_ad G (p2)))]) C0.hx C0.hb dX1_measureAll_1 rfl hl (by decide) rfl (fun ls hl => ?_)
  exact w_X1_measureAll_2 C0 g_fuel _ _ _ _ _ _ _ hk_p1 hk_p2 h hW (lv_sub hl [1, 2, 3, 0] rfl)
set_option maxRecDepth 100000 in
set_option maxHeartbeats 4000000 in
theorem c_X1_pop {l : Launch} {G : GL} {ids : List Nat} {y : MS} {o : Nat → Int32} {x : CS}  {q : Int32 × CS}    (h : f_X1_pop x = some q) : Met l yX1_pop (.code yX1_pop cX1_pop 1 (Option.some Jvm.ClassFile.FieldType.int) :: gT) (g_rm 0 0 0) (va_Pc [.ref (g_ad G (18))] (g_P G ids (x, y, o))) (g_Qi G ids q.1 (q.2, y, o)) 0 0 (g_A G) := by
  unfold f_X1_pop at h
  refine g_entry (by decide) (Nat.le_of_ble_eq_true rfl) (fun p e s m args below meth c ls C0 hl hW _ => ?_)
  have hl : lv_has ls 1 [(0, .ref (g_ad G (18)))] := hl
  refine lv_aload_n C0.hx C0.hb dX1_pop_0 rfl (lv_at hl 0 rfl) ?_
  refine gf_X1_3 C0 hW (C0.mem (i := 18) (Nat.le_of_ble_eq_true rfl)) k_18 tf_X1_15 dX1_pop_1 ?_
  refine lv_iconst (v := (1 : Int32)) C0.hx C0.hb dX1_pop_4 (by decide) ?_
  refine lv_icmp_lt (tgt := 20) C0.hx C0.hb dX1_pop_5 (by decide) (fun hc1 => ?_) (fun hc1 => ?_)
  · replace h := (if_pos hc1).symm.trans h
    refine lv_iconst (v := (0 : Int32)) C0.hx C0.hb dX1_pop_20 (by decide) ?_
    obtain rfl := Option.some.inj h
    exact g_iret C0 hW rfl rfl rfl dX1_pop_21
  · replace h := (if_neg hc1).symm.trans h
    refine lv_aload_n C0.hx C0.hb dX1_pop_8 rfl (lv_at hl 0 rfl) ?_
    refine gf_X1_3 C0 hW (C0.mem (i := 18) (Nat.le_of_ble_eq_true rfl)) k_18 tf_X1_15 dX1_pop_9 ?_
    refine lv_aload_n C0.hx C0.hb dX1_pop_12 rfl (lv_at hl 0 rfl) ?_
    refine gf_X1_2 C0 hW (C0.mem (i := 18) (Nat.le_of_ble_eq_true rfl)) k_18 tf_X1_9 dX1_pop_13 ?_
    refine gl_25 C0 hW (C0.mem (i := 19) (Nat.le_of_ble_eq_true rfl)) k_19 dX1_pop_16 ?_
    refine lv_icmp_le (tgt := 22) C0.hx C0.hb dX1_pop_17 (by decide) (fun hc2 => ?_) (fun hc2 => ?_)
    · replace h := (if_pos hc2).symm.trans h
      refine lv_aload_n C0.hx C0.hb dX1_pop_22 rfl (lv_at hl 0 rfl) ?_
      refine lv_dup C0.hx C0.hb dX1_pop_23 rfl ?_
      refine gf_X1_3 C0 hW (C0.mem (i := 18) (Nat.le_of_ble_eq_true rfl)) k_18 tf_X1_15 dX1_pop_24 ?_
      refine lv_iconst (v := (1 : Int32)) C0.hx C0.hb dX1_pop_27 (by decide) ?_
      refine lv_isub C0.hx C0.hb dX1_pop_28 ?_
      refine gp_X1_3 C0 hW (C0.mem (i := 18) (Nat.le_of_ble_eq_true rfl)) k_18 tf_X1_15 dX1_pop_29 (fun H locs hW => ?_)
      refine lv_aload_n C0.hx C0.hb dX1_pop_32 rfl (lv_at hl 0 rfl) ?_
      refine gf_X1_2 C0 hW (C0.mem (i := 18) (Nat.le_of_ble_eq_true rfl)) k_18 tf_X1_9 dX1_pop_33 ?_
      refine lv_aload_n C0.hx C0.hb dX1_pop_36 rfl (lv_at hl 0 rfl) ?_
      refine gf_X1_3 C0 hW (C0.mem (i := 18) (Nat.le_of_ble_eq_true rfl)) k_18 tf_X1_15 dX1_pop_37 ?_
      obtain ⟨hb3, h⟩ := g_if h
      refine ga_25 C0 hW (C0.mem (i := 19) (Nat.le_of_ble_eq_true rfl)) k_19 hb3 dX1_pop_40 ?_
      obtain rfl := Option.some.inj h
      exact g_iret C0 hW rfl rfl rfl dX1_pop_41
    · replace h := (if_neg hc2).symm.trans h
      refine lv_iconst (v := (0 : Int32)) C0.hx C0.hb dX1_pop_20 (by decide) ?_
      obtain rfl := Option.some.inj h
      exact g_iret C0 hW rfl rfl rfl dX1_pop_21
set_option maxRecDepth 100000 in
set_option maxHeartbeats 4000000 in
theorem c_X1_push {l : Launch} {G : GL} {ids : List Nat} {y : MS} {o : Nat → Int32} {x : CS} {p1 : Int32} {q : CS}    (h : f_X1_push p1 x = some q) : Met l yX1_push (.code yX1_push cX1_push 2 (Option.none : Option Jvm.ClassFile.FieldType) :: gT) (g_rm 0 0 0) (va_Pc [.ref (g_ad G (18)), .int (p1)] (g_P G ids (x, y, o))) (g_Qv G ids (q, y, o)) 0 0 (g_A G) := by
  unfold f_X1_push at h
  refine g_entry (by decide) (Nat.le_of_ble_eq_true rfl) (fun p e s m args below meth c ls C0 hl hW _ => ?_)
  have hl : lv_has ls 2 [(0, .ref (g_ad G (18))), (1, .int (p1))] := hl
  refine lv_aload_n C0.hx C0.hb dX1_push_0 rfl (lv_at hl 0 rfl) ?_
  refine gf_X1_3 C0 hW (C0.mem (i := 18) (Nat.le_of_ble_eq_true rfl)) k_18 tf_X1_15 dX1_push_1 ?_
  refine lv_if_lt (tgt := 39) C0.hx C0.hb dX1_push_4 (by decide) (fun hc1 => ?_) (fun hc1 => ?_)
  · replace h := (if_pos hc1).symm.trans h
    obtain rfl := Option.some.inj h
    exact g_vret C0 hW rfl dX1_push_39
  · replace h := (if_neg hc1).symm.trans h
    refine lv_aload_n C0.hx C0.hb dX1_push_7 rfl (lv_at hl 0 rfl) ?_
    refine gf_X1_3 C0 hW (C0.mem (i := 18) (Nat.le_of_ble_eq_true rfl)) k_18 tf_X1_15 dX1_push_8 ?_
    refine lv_aload_n C0.hx C0.hb dX1_push_11 rfl (lv_at hl 0 rfl) ?_
    refine gf_X1_2 C0 hW (C0.mem (i := 18) (Nat.le_of_ble_eq_true rfl)) k_18 tf_X1_9 dX1_push_12 ?_
    refine gl_25 C0 hW (C0.mem (i := 19) (Nat.le_of_ble_eq_true rfl)) k_19 dX1_push_15 ?_
    refine lv_icmp_ge (tgt := 39) C0.hx C0.hb dX1_push_16 (by decide) (fun hc2 => ?_) (fun hc2 => ?_)
    · replace h := (if_pos hc2).symm.trans h
      obtain rfl := Option.some.inj h
      exact g_vret C0 hW rfl dX1_push_39
    · replace h := (if_neg hc2).symm.trans h
      refine lv_aload_n C0.hx C0.hb dX1_push_19 rfl (lv_at hl 0 rfl) ?_
      refine gf_X1_2 C0 hW (C0.mem (i := 18) (Nat.le_of_ble_eq_true rfl)) k_18 tf_X1_9 dX1_push_20 ?_
      refine lv_aload_n C0.hx C0.hb dX1_push_23 rfl (lv_at hl 0 rfl) ?_
      refine gf_X1_3 C0 hW (C0.mem (i := 18) (Nat.le_of_ble_eq_true rfl)) k_18 tf_X1_15 dX1_push_24 ?_
      refine lv_iload_n C0.hx C0.hb dX1_push_27 rfl (lv_at hl 1 rfl) ?_
      obtain ⟨hb3, h⟩ := g_if h
      refine gs_25 C0 hW (C0.mem (i := 19) (Nat.le_of_ble_eq_true rfl)) k_19 hb3 dX1_push_28 (fun H locs hW => ?_)
      refine lv_aload_n C0.hx C0.hb dX1_push_29 rfl (lv_at hl 0 rfl) ?_
      refine lv_dup C0.hx C0.hb dX1_push_30 rfl ?_
      refine gf_X1_3 C0 hW (C0.mem (i := 18) (Nat.le_of_ble_eq_true rfl)) k_18 tf_X1_15 dX1_push_31 ?_
      refine lv_iconst (v := (1 : Int32)) C0.hx C0.hb dX1_push_34 (by decide) ?_
      refine lv_iadd C0.hx C0.hb dX1_push_35 ?_
      refine gp_X1_3 C0 hW (C0.mem (i := 18) (Nat.le_of_ble_eq_true rfl)) k_18 tf_X1_15 dX1_push_36 (fun H locs hW => ?_)
      obtain rfl := Option.some.inj h
      exact g_vret C0 hW rfl dX1_push_39
set_option maxRecDepth 100000 in
set_option maxHeartbeats 4000000 in
theorem c_X1_isJoin {l : Launch} {G : GL} {ids : List Nat} {y : MS} {o : Nat → Int32} {x : CS} {p1 : Nat} {q : Int32}    (h : f_X1_isJoin p1 x = some q) : Met l yX1_isJoin (.code yX1_isJoin cX1_isJoin 1 (Option.some Jvm.ClassFile.FieldType.boolean) :: gT) (g_rm 1 0 0) (va_Pc [.ref (g_sg G (p1))] (g_P G ids (x, y, o))) (g_Qi G ids q (x, y, o)) 0 0 (g_A G) := by
  unfold f_X1_isJoin at h
  refine g_entry (by decide) (Nat.le_of_ble_eq_true rfl) (fun p e s m args below meth c ls C0 hl hW _ => ?_)
  have hl : lv_has ls 1 [(0, .ref (g_sg G (p1)))] := hl
  refine g_SM C0 hW tf_X1_155 dX1_isJoin_0 ?_
  refine lv_aload_n C0.hx C0.hb dX1_isJoin_3 rfl (lv_at hl 0 rfl) ?_
  obtain ⟨hs1, h⟩ := g_if h
  refine g_runO (k1 := 0) (k2 := 1) rfl (by omega) ⟨rfl, rfl⟩ C0 hW hs1 tm_X1_160 hl.1 (Nat.le_of_ble_eq_true rfl) dX1_isJoin_4 (fun H locs hW => ?_)
  obtain ⟨hb2, h⟩ := g_if h
  refine g_SMat C0 hW hb2 dX1_isJoin_7 ?_
  by_cases hc3 : (g_sm.getD (nI p1).toNatClampNeg 0) = (7 : Int32)
  · replace h := (if_pos hc3).symm.trans h
    refine lv_tableIn (tgt := 76) C0.hx C0.hb dX1_isJoin_8 (by rw [hc3]; decide) (by rw [hc3]; decide) (by rw [hc3]; rfl) (by decide) ?_
    refine lv_iconst (v := (1 : Int32)) C0.hx C0.hb dX1_isJoin_76 (by decide) ?_
    obtain rfl := Option.some.inj h
    exact g_iret C0 hW rfl (g_bool (Or.inr rfl)).1 rfl dX1_isJoin_77
  · replace h := (if_neg hc3).symm.trans h
    by_cases hc4 : (g_sm.getD (nI p1).toNatClampNeg 0) = (8 : Int32)
    · replace h := (if_pos hc4).symm.trans h
      refine lv_tableIn (tgt := 76) C0.hx C0.hb dX1_isJoin_8 (by rw [hc4]; decide) (by rw [hc4]; decide) (by rw [hc4]; rfl) (by decide) ?_
      refine lv_iconst (v := (1 : Int32)) C0.hx C0.hb dX1_isJoin_76 (by decide) ?_
      obtain rfl := Option.some.inj h
      exact g_iret C0 hW rfl (g_bool (Or.inr rfl)).1 rfl dX1_isJoin_77
    · replace h := (if_neg hc4).symm.trans h
      by_cases hc5 : (g_sm.getD (nI p1).toNatClampNeg 0) = (9 : Int32)
      · replace h := (if_pos hc5).symm.trans h
        refine lv_tableIn (tgt := 76) C0.hx C0.hb dX1_isJoin_8 (by rw [hc5]; decide) (by rw [hc5]; decide) (by rw [hc5]; rfl) (by decide) ?_
        refine lv_iconst (v := (1 : Int32)) C0.hx C0.hb dX1_isJoin_76 (by decide) ?_
        obtain rfl := Option.some.inj h
        exact g_iret C0 hW rfl (g_bool (Or.inr rfl)).1 rfl dX1_isJoin_77
      · replace h := (if_neg hc5).symm.trans h
        by_cases hc6 : (g_sm.getD (nI p1).toNatClampNeg 0) = (10 : Int32)
        · replace h := (if_pos hc6).symm.trans h
          refine lv_tableIn (tgt := 76) C0.hx C0.hb dX1_isJoin_8 (by rw [hc6]; decide) (by rw [hc6]; decide) (by rw [hc6]; rfl) (by decide) ?_
          refine lv_iconst (v := (1 : Int32)) C0.hx C0.hb dX1_isJoin_76 (by decide) ?_
          obtain rfl := Option.some.inj h
          exact g_iret C0 hW rfl (g_bool (Or.inr rfl)).1 rfl dX1_isJoin_77
        · replace h := (if_neg hc6).symm.trans h
          by_cases hc7 : (g_sm.getD (nI p1).toNatClampNeg 0) = (11 : Int32)
          · replace h := (if_pos hc7).symm.trans h
            refine lv_tableIn (tgt := 76) C0.hx C0.hb dX1_isJoin_8 (by rw [hc7]; decide) (by rw [hc7]; decide) (by rw [hc7]; rfl) (by decide) ?_
            refine lv_iconst (v := (1 : Int32)) C0.hx C0.hb dX1_isJoin_76 (by decide) ?_
            obtain rfl := Option.some.inj h
            exact g_iret C0 hW rfl (g_bool (Or.inr rfl)).1 rfl dX1_isJoin_77
          · replace h := (if_neg hc7).symm.trans h
            by_cases hc8 : (g_sm.getD (nI p1).toNatClampNeg 0) = (12 : Int32)
            · replace h := (if_pos hc8).symm.trans h
              refine lv_tableIn (tgt := 76) C0.hx C0.hb dX1_isJoin_8 (by rw [hc8]; decide) (by rw [hc8]; decide) (by rw [hc8]; rfl) (by decide) ?_
              refine lv_iconst (v := (1 : Int32)) C0.hx C0.hb dX1_isJoin_76 (by decide) ?_
              obtain rfl := Option.some.inj h
              exact g_iret C0 hW rfl (g_bool (Or.inr rfl)).1 rfl dX1_isJoin_77
            · replace h := (if_neg hc8).symm.trans h
              by_cases hc9 : (g_sm.getD (nI p1).toNatClampNeg 0) = (13 : Int32)
              · replace h := (if_pos hc9).symm.trans h
                refine lv_tableIn (tgt := 76) C0.hx C0.hb dX1_isJoin_8 (by rw [hc9]; decide) (by rw [hc9]; decide) (by rw [hc9]; rfl) (by decide) ?_
                refine lv_iconst (v := (1 : Int32)) C0.hx C0.hb dX1_isJoin_76 (by decide) ?_
                obtain rfl := Option.some.inj h
                exact g_iret C0 hW rfl (g_bool (Or.inr rfl)).1 rfl dX1_isJoin_77
              · replace h := (if_neg hc9).symm.trans h
                by_cases hc10 : (g_sm.getD (nI p1).toNatClampNeg 0) = (14 : Int32)
                · replace h := (if_pos hc10).symm.trans h
                  refine lv_tableIn (tgt := 76) C0.hx C0.hb dX1_isJoin_8 (by rw [hc10]; decide) (by rw [hc10]; decide) (by rw [hc10]; rfl) (by decide) ?_
                  refine lv_iconst (v := (1 : Int32)) C0.hx C0.hb dX1_isJoin_76 (by decide) ?_
                  obtain rfl := Option.some.inj h
                  exact g_iret C0 hW rfl (g_bool (Or.inr rfl)).1 rfl dX1_isJoin_77
                · replace h := (if_neg hc10).symm.trans h
                  by_cases hc11 : (g_sm.getD (nI p1).toNatClampNeg 0) = (15 : Int32)
                  · replace h := (if_pos hc11).symm.trans h
                    refine lv_tableIn (tgt := 76) C0.hx C0.hb dX1_isJoin_8 (by rw [hc11]; decide) (by rw [hc11]; decide) (by rw [hc11]; rfl) (by decide) ?_
                    refine lv_iconst (v := (1 : Int32)) C0.hx C0.hb dX1_isJoin_76 (by decide) ?_
                    obtain rfl := Option.some.inj h
                    exact g_iret C0 hW rfl (g_bool (Or.inr rfl)).1 rfl dX1_isJoin_77
                  · replace h := (if_neg hc11).symm.trans h
                    by_cases hc12 : (g_sm.getD (nI p1).toNatClampNeg 0) = (16 : Int32)
                    · replace h := (if_pos hc12).symm.trans h
                      refine lv_tableIn (tgt := 76) C0.hx C0.hb dX1_isJoin_8 (by rw [hc12]; decide) (by rw [hc12]; decide) (by rw [hc12]; rfl) (by decide) ?_
                      refine lv_iconst (v := (1 : Int32)) C0.hx C0.hb dX1_isJoin_76 (by decide) ?_
                      obtain rfl := Option.some.inj h
                      exact g_iret C0 hW rfl (g_bool (Or.inr rfl)).1 rfl dX1_isJoin_77
                    · replace h := (if_neg hc12).symm.trans h
                      by_cases hc13 : (g_sm.getD (nI p1).toNatClampNeg 0) = (17 : Int32)
                      · replace h := (if_pos hc13).symm.trans h
                        refine lv_tableIn (tgt := 76) C0.hx C0.hb dX1_isJoin_8 (by rw [hc13]; decide) (by rw [hc13]; decide) (by rw [hc13]; rfl) (by decide) ?_
                        refine lv_iconst (v := (1 : Int32)) C0.hx C0.hb dX1_isJoin_76 (by decide) ?_
                        obtain rfl := Option.some.inj h
                        exact g_iret C0 hW rfl (g_bool (Or.inr rfl)).1 rfl dX1_isJoin_77
                      · replace h := (if_neg hc13).symm.trans h
                        by_cases hc14 : (g_sm.getD (nI p1).toNatClampNeg 0) = (18 : Int32)
                        · replace h := (if_pos hc14).symm.trans h
                          refine lv_tableIn (tgt := 76) C0.hx C0.hb dX1_isJoin_8 (by rw [hc14]; decide) (by rw [hc14]; decide) (by rw [hc14]; rfl) (by decide) ?_
                          refine lv_iconst (v := (1 : Int32)) C0.hx C0.hb dX1_isJoin_76 (by decide) ?_
                          obtain rfl := Option.some.inj h
                          exact g_iret C0 hW rfl (g_bool (Or.inr rfl)).1 rfl dX1_isJoin_77
                        · replace h := (if_neg hc14).symm.trans h
                          by_cases hc15 : (g_sm.getD (nI p1).toNatClampNeg 0) = (19 : Int32)
                          · replace h := (if_pos hc15).symm.trans h
                            refine lv_tableIn (tgt := 76) C0.hx C0.hb dX1_isJoin_8 (by rw [hc15]; decide) (by rw [hc15]; decide) (by rw [hc15]; rfl) (by decide) ?_
                            refine lv_iconst (v := (1 : Int32)) C0.hx C0.hb dX1_isJoin_76 (by decide) ?_
                            obtain rfl := Option.some.inj h
                            exact g_iret C0 hW rfl (g_bool (Or.inr rfl)).1 rfl dX1_isJoin_77
                          · replace h := (if_neg hc15).symm.trans h
                            refine lv_tableOut (tgt := 78) C0.hx C0.hb dX1_isJoin_8 (g_sw_X1_isJoin_8 hc3 hc4 hc5 hc6 hc7 hc8 hc9 hc10 hc11 hc12 hc13 hc14 hc15) (by decide) ?_
                            refine lv_iconst (v := (0 : Int32)) C0.hx C0.hb dX1_isJoin_78 (by decide) ?_
                            obtain rfl := Option.some.inj h
                            exact g_iret C0 hW rfl (g_bool (Or.inl rfl)).1 rfl dX1_isJoin_79
set_option maxRecDepth 100000 in
set_option maxHeartbeats 4000000 in
theorem c_X1_compares {l : Launch} {G : GL} {ids : List Nat} {y : MS} {o : Nat → Int32} {x : CS} {p1 : Nat} {p2 : Int32} {p3 : Int32} {q : Int32}    (h : f_X1_compares p1 p2 p3 x = some q) : Met l yX1_compares (.code yX1_compares cX1_compares 3 (Option.some Jvm.ClassFile.FieldType.boolean) :: gT) (g_rm 1 0 0) (va_Pc [.ref (g_sg G (p1)), .int (p2), .int (p3)] (g_P G ids (x, y, o))) (g_Qi G ids q (x, y, o)) 0 0 (g_A G) := by
  unfold f_X1_compares at h
  refine g_entry (by decide) (Nat.le_of_ble_eq_true rfl) (fun p e s m args below meth c ls C0 hl hW _ => ?_)
  have hl : lv_has ls 3 [(0, .ref (g_sg G (p1))), (1, .int (p2)), (2, .int (p3))] := hl
  refine g_SM C0 hW tf_X1_155 dX1_compares_0 ?_
  refine lv_aload_n C0.hx C0.hb dX1_compares_3 rfl (lv_at hl 0 rfl) ?_
  obtain ⟨hs1, h⟩ := g_if h
  refine g_runO (k1 := 0) (k2 := 1) rfl (by omega) ⟨rfl, rfl⟩ C0 hW hs1 tm_X1_160 hl.1 (Nat.le_of_ble_eq_true rfl) dX1_compares_4 (fun H locs hW => ?_)
  obtain ⟨hb2, h⟩ := g_if h
  refine g_SMat C0 hW hb2 dX1_compares_7 ?_
  by_cases hc3 : (g_sm.getD (nI p1).toNatClampNeg 0) = (15 : Int32)
  · replace h := (if_pos hc3).symm.trans h
    refine lv_tableIn (tgt := 44) C0.hx C0.hb dX1_compares_8 (by rw [hc3]; decide) (by rw [hc3]; decide) (by rw [hc3]; rfl) (by decide) ?_
    refine lv_iload_n C0.hx C0.hb dX1_compares_44 rfl (lv_at hl 1 rfl) ?_
    refine lv_iload_n C0.hx C0.hb dX1_compares_45 rfl (lv_at hl 2 rfl) ?_
    refine lv_icmp_ge (tgt := 53) C0.hx C0.hb dX1_compares_46 (by decide) (fun hc13 => ?_) (fun hc13 => ?_)
    · replace h := (if_pos hc13).symm.trans h
      refine lv_iconst (v := (0 : Int32)) C0.hx C0.hb dX1_compares_53 (by decide) ?_
      obtain rfl := Option.some.inj h
      exact g_iret C0 hW rfl (g_bool (Or.inl rfl)).1 rfl dX1_compares_54
    · replace h := (if_neg hc13).symm.trans h
      refine lv_iconst (v := (1 : Int32)) C0.hx C0.hb dX1_compares_49 (by decide) ?_
      refine lv_goto (tgt := 54) C0.hx C0.hb dX1_compares_50 (by decide) ?_
      obtain rfl := Option.some.inj h
      exact g_iret C0 hW rfl (g_bool (Or.inr rfl)).1 rfl dX1_compares_54
  · replace h := (if_neg hc3).symm.trans h
    by_cases hc4 : (g_sm.getD (nI p1).toNatClampNeg 0) = (16 : Int32)
    · replace h := (if_pos hc4).symm.trans h
      refine lv_tableIn (tgt := 55) C0.hx C0.hb dX1_compares_8 (by rw [hc4]; decide) (by rw [hc4]; decide) (by rw [hc4]; rfl) (by decide) ?_
      refine lv_iload_n C0.hx C0.hb dX1_compares_55 rfl (lv_at hl 1 rfl) ?_
      refine lv_iload_n C0.hx C0.hb dX1_compares_56 rfl (lv_at hl 2 rfl) ?_
      refine lv_icmp_le (tgt := 64) C0.hx C0.hb dX1_compares_57 (by decide) (fun hc12 => ?_) (fun hc12 => ?_)
      · replace h := (if_pos hc12).symm.trans h
        refine lv_iconst (v := (0 : Int32)) C0.hx C0.hb dX1_compares_64 (by decide) ?_
        obtain rfl := Option.some.inj h
        exact g_iret C0 hW rfl (g_bool (Or.inl rfl)).1 rfl dX1_compares_65
      · replace h := (if_neg hc12).symm.trans h
        refine lv_iconst (v := (1 : Int32)) C0.hx C0.hb dX1_compares_60 (by decide) ?_
        refine lv_goto (tgt := 65) C0.hx C0.hb dX1_compares_61 (by decide) ?_
        obtain rfl := Option.some.inj h
        exact g_iret C0 hW rfl (g_bool (Or.inr rfl)).1 rfl dX1_compares_65
    · replace h := (if_neg hc4).symm.trans h
      by_cases hc5 : (g_sm.getD (nI p1).toNatClampNeg 0) = (17 : Int32)
      · replace h := (if_pos hc5).symm.trans h
        refine lv_tableIn (tgt := 88) C0.hx C0.hb dX1_compares_8 (by rw [hc5]; decide) (by rw [hc5]; decide) (by rw [hc5]; rfl) (by decide) ?_
        refine lv_iload_n C0.hx C0.hb dX1_compares_88 rfl (lv_at hl 1 rfl) ?_
        refine lv_iload_n C0.hx C0.hb dX1_compares_89 rfl (lv_at hl 2 rfl) ?_
        refine lv_icmp_ne (tgt := 97) C0.hx C0.hb dX1_compares_90 (by decide) (fun hc11 => ?_) (fun hc11 => ?_)
        · replace h := (if_neg hc11).symm.trans h
          refine lv_iconst (v := (0 : Int32)) C0.hx C0.hb dX1_compares_97 (by decide) ?_
          obtain rfl := Option.some.inj h
          exact g_iret C0 hW rfl (g_bool (Or.inl rfl)).1 rfl dX1_compares_98
        · replace h := (if_pos hc11).symm.trans h
          refine lv_iconst (v := (1 : Int32)) C0.hx C0.hb dX1_compares_93 (by decide) ?_
          refine lv_goto (tgt := 98) C0.hx C0.hb dX1_compares_94 (by decide) ?_
          obtain rfl := Option.some.inj h
          exact g_iret C0 hW rfl (g_bool (Or.inr rfl)).1 rfl dX1_compares_98
      · replace h := (if_neg hc5).symm.trans h
        by_cases hc6 : (g_sm.getD (nI p1).toNatClampNeg 0) = (18 : Int32)
        · replace h := (if_pos hc6).symm.trans h
          refine lv_tableIn (tgt := 66) C0.hx C0.hb dX1_compares_8 (by rw [hc6]; decide) (by rw [hc6]; decide) (by rw [hc6]; rfl) (by decide) ?_
          refine lv_iload_n C0.hx C0.hb dX1_compares_66 rfl (lv_at hl 1 rfl) ?_
          refine lv_iload_n C0.hx C0.hb dX1_compares_67 rfl (lv_at hl 2 rfl) ?_
          refine lv_icmp_gt (tgt := 75) C0.hx C0.hb dX1_compares_68 (by decide) (fun hc10 => ?_) (fun hc10 => ?_)
          · replace h := (if_pos hc10).symm.trans h
            refine lv_iconst (v := (0 : Int32)) C0.hx C0.hb dX1_compares_75 (by decide) ?_
            obtain rfl := Option.some.inj h
            exact g_iret C0 hW rfl (g_bool (Or.inl rfl)).1 rfl dX1_compares_76
          · replace h := (if_neg hc10).symm.trans h
            refine lv_iconst (v := (1 : Int32)) C0.hx C0.hb dX1_compares_71 (by decide) ?_
            refine lv_goto (tgt := 76) C0.hx C0.hb dX1_compares_72 (by decide) ?_
            obtain rfl := Option.some.inj h
            exact g_iret C0 hW rfl (g_bool (Or.inr rfl)).1 rfl dX1_compares_76
        · replace h := (if_neg hc6).symm.trans h
          by_cases hc7 : (g_sm.getD (nI p1).toNatClampNeg 0) = (19 : Int32)
          · replace h := (if_pos hc7).symm.trans h
            refine lv_tableIn (tgt := 77) C0.hx C0.hb dX1_compares_8 (by rw [hc7]; decide) (by rw [hc7]; decide) (by rw [hc7]; rfl) (by decide) ?_
            refine lv_iload_n C0.hx C0.hb dX1_compares_77 rfl (lv_at hl 1 rfl) ?_
            refine lv_iload_n C0.hx C0.hb dX1_compares_78 rfl (lv_at hl 2 rfl) ?_
            refine lv_icmp_lt (tgt := 86) C0.hx C0.hb dX1_compares_79 (by decide) (fun hc9 => ?_) (fun hc9 => ?_)
            · replace h := (if_pos hc9).symm.trans h
              refine lv_iconst (v := (0 : Int32)) C0.hx C0.hb dX1_compares_86 (by decide) ?_
              obtain rfl := Option.some.inj h
              exact g_iret C0 hW rfl (g_bool (Or.inl rfl)).1 rfl dX1_compares_87
            · replace h := (if_neg hc9).symm.trans h
              refine lv_iconst (v := (1 : Int32)) C0.hx C0.hb dX1_compares_82 (by decide) ?_
              refine lv_goto (tgt := 87) C0.hx C0.hb dX1_compares_83 (by decide) ?_
              obtain rfl := Option.some.inj h
              exact g_iret C0 hW rfl (g_bool (Or.inr rfl)).1 rfl dX1_compares_87
          · replace h := (if_neg hc7).symm.trans h
            refine lv_tableOut (tgt := 88) C0.hx C0.hb dX1_compares_8 (g_sw_X1_compares_8 hc3 hc4 hc5 hc6 hc7) (by decide) ?_
            refine lv_iload_n C0.hx C0.hb dX1_compares_88 rfl (lv_at hl 1 rfl) ?_
            refine lv_iload_n C0.hx C0.hb dX1_compares_89 rfl (lv_at hl 2 rfl) ?_
            refine lv_icmp_ne (tgt := 97) C0.hx C0.hb dX1_compares_90 (by decide) (fun hc8 => ?_) (fun hc8 => ?_)
            · replace h := (if_neg hc8).symm.trans h
              refine lv_iconst (v := (0 : Int32)) C0.hx C0.hb dX1_compares_97 (by decide) ?_
              obtain rfl := Option.some.inj h
              exact g_iret C0 hW rfl (g_bool (Or.inl rfl)).1 rfl dX1_compares_98
            · replace h := (if_pos hc8).symm.trans h
              refine lv_iconst (v := (1 : Int32)) C0.hx C0.hb dX1_compares_93 (by decide) ?_
              refine lv_goto (tgt := 98) C0.hx C0.hb dX1_compares_94 (by decide) ?_
              obtain rfl := Option.some.inj h
              exact g_iret C0 hW rfl (g_bool (Or.inr rfl)).1 rfl dX1_compares_98
set_option maxRecDepth 100000 in
set_option maxHeartbeats 4000000 in
theorem c_X1_join {l : Launch} {G : GL} {ids : List Nat} {y : MS} {o : Nat → Int32} {x : CS} {p1 : Nat} {p2 : Int32} {p3 : Int32} {q : Int32}    (h : f_X1_join p1 p2 p3 x = some q) : Met l yX1_join (.code yX1_join cX1_join 3 (Option.some Jvm.ClassFile.FieldType.int) :: gT) (g_rm 2 0 0) (va_Pc [.ref (g_sg G (p1)), .int (p2), .int (p3)] (g_P G ids (x, y, o))) (g_Qi G ids q (x, y, o)) 0 0 (g_A G) := by
  unfold f_X1_join at h
  refine g_entry (by decide) (Nat.le_of_ble_eq_true rfl) (fun p e s m args below meth c ls C0 hl hW _ => ?_)
  have hl : lv_has ls 3 [(0, .ref (g_sg G (p1))), (1, .int (p2)), (2, .int (p3))] := hl
  refine g_SM C0 hW tf_X1_155 dX1_join_0 ?_
  refine lv_aload_n C0.hx C0.hb dX1_join_3 rfl (lv_at hl 0 rfl) ?_
  obtain ⟨hs1, h⟩ := g_if h
  refine g_runO (k1 := 0) (k2 := 2) rfl (by omega) ⟨rfl, rfl⟩ C0 hW hs1 tm_X1_160 hl.1 (Nat.le_of_ble_eq_true rfl) dX1_join_4 (fun H locs hW => ?_)
  obtain ⟨hb2, h⟩ := g_if h
  refine g_SMat C0 hW hb2 dX1_join_7 ?_
  by_cases hc3 : (g_sm.getD (nI p1).toNatClampNeg 0) = (7 : Int32)
  · replace h := (if_pos hc3).symm.trans h
    refine lv_tableIn (tgt := 56) C0.hx C0.hb dX1_join_8 (by rw [hc3]; decide) (by rw [hc3]; decide) (by rw [hc3]; rfl) (by decide) ?_
    refine lv_iload_n C0.hx C0.hb dX1_join_56 rfl (lv_at hl 1 rfl) ?_
    refine lv_iload_n C0.hx C0.hb dX1_join_57 rfl (lv_at hl 2 rfl) ?_
    refine lv_iand C0.hx C0.hb dX1_join_58 ?_
    obtain rfl := Option.some.inj h
    exact g_iret C0 hW rfl rfl rfl dX1_join_59
  · replace h := (if_neg hc3).symm.trans h
    by_cases hc4 : (g_sm.getD (nI p1).toNatClampNeg 0) = (8 : Int32)
    · replace h := (if_pos hc4).symm.trans h
      refine lv_tableIn (tgt := 60) C0.hx C0.hb dX1_join_8 (by rw [hc4]; decide) (by rw [hc4]; decide) (by rw [hc4]; rfl) (by decide) ?_
      refine lv_iload_n C0.hx C0.hb dX1_join_60 rfl (lv_at hl 1 rfl) ?_
      refine lv_iload_n C0.hx C0.hb dX1_join_61 rfl (lv_at hl 2 rfl) ?_
      refine lv_ior C0.hx C0.hb dX1_join_62 ?_
      obtain rfl := Option.some.inj h
      exact g_iret C0 hW rfl rfl rfl dX1_join_63
    · replace h := (if_neg hc4).symm.trans h
      by_cases hc5 : (g_sm.getD (nI p1).toNatClampNeg 0) = (9 : Int32)
      · replace h := (if_pos hc5).symm.trans h
        refine lv_tableIn (tgt := 64) C0.hx C0.hb dX1_join_8 (by rw [hc5]; decide) (by rw [hc5]; decide) (by rw [hc5]; rfl) (by decide) ?_
        refine lv_iload_n C0.hx C0.hb dX1_join_64 rfl (lv_at hl 1 rfl) ?_
        refine lv_iload_n C0.hx C0.hb dX1_join_65 rfl (lv_at hl 2 rfl) ?_
        refine g_minR C0 hl.1 (Nat.le_of_ble_eq_true rfl) (by omega) tm_X1_170 (by decide) (by decide) dX1_join_66 ?_
        obtain rfl := Option.some.inj h
        exact g_iret C0 hW rfl rfl rfl dX1_join_69
      · replace h := (if_neg hc5).symm.trans h
        by_cases hc6 : (g_sm.getD (nI p1).toNatClampNeg 0) = (10 : Int32)
        · replace h := (if_pos hc6).symm.trans h
          refine lv_tableIn (tgt := 70) C0.hx C0.hb dX1_join_8 (by rw [hc6]; decide) (by rw [hc6]; decide) (by rw [hc6]; rfl) (by decide) ?_
          refine lv_iload_n C0.hx C0.hb dX1_join_70 rfl (lv_at hl 1 rfl) ?_
          refine lv_iload_n C0.hx C0.hb dX1_join_71 rfl (lv_at hl 2 rfl) ?_
          refine g_maxR C0 hl.1 (Nat.le_of_ble_eq_true rfl) (by omega) tm_X1_176 (by decide) (by decide) dX1_join_72 ?_
          obtain rfl := Option.some.inj h
          exact g_iret C0 hW rfl rfl rfl dX1_join_75
        · replace h := (if_neg hc6).symm.trans h
          by_cases hc7 : (g_sm.getD (nI p1).toNatClampNeg 0) = (11 : Int32)
          · replace h := (if_pos hc7).symm.trans h
            refine lv_tableIn (tgt := 76) C0.hx C0.hb dX1_join_8 (by rw [hc7]; decide) (by rw [hc7]; decide) (by rw [hc7]; rfl) (by decide) ?_
            refine lv_iload_n C0.hx C0.hb dX1_join_76 rfl (lv_at hl 1 rfl) ?_
            refine lv_iload_n C0.hx C0.hb dX1_join_77 rfl (lv_at hl 2 rfl) ?_
            refine lv_iadd C0.hx C0.hb dX1_join_78 ?_
            obtain rfl := Option.some.inj h
            exact g_iret C0 hW rfl rfl rfl dX1_join_79
          · replace h := (if_neg hc7).symm.trans h
            by_cases hc8 : (g_sm.getD (nI p1).toNatClampNeg 0) = (12 : Int32)
            · replace h := (if_pos hc8).symm.trans h
              refine lv_tableIn (tgt := 80) C0.hx C0.hb dX1_join_8 (by rw [hc8]; decide) (by rw [hc8]; decide) (by rw [hc8]; rfl) (by decide) ?_
              refine lv_iload_n C0.hx C0.hb dX1_join_80 rfl (lv_at hl 1 rfl) ?_
              refine lv_iload_n C0.hx C0.hb dX1_join_81 rfl (lv_at hl 2 rfl) ?_
              refine lv_isub C0.hx C0.hb dX1_join_82 ?_
              obtain rfl := Option.some.inj h
              exact g_iret C0 hW rfl rfl rfl dX1_join_83
            · replace h := (if_neg hc8).symm.trans h
              by_cases hc9 : (g_sm.getD (nI p1).toNatClampNeg 0) = (13 : Int32)
              · replace h := (if_pos hc9).symm.trans h
                refine lv_tableIn (tgt := 84) C0.hx C0.hb dX1_join_8 (by rw [hc9]; decide) (by rw [hc9]; decide) (by rw [hc9]; rfl) (by decide) ?_
                refine lv_iload_n C0.hx C0.hb dX1_join_84 rfl (lv_at hl 1 rfl) ?_
                refine lv_iload_n C0.hx C0.hb dX1_join_85 rfl (lv_at hl 2 rfl) ?_
                refine lv_imul C0.hx C0.hb dX1_join_86 ?_
                obtain rfl := Option.some.inj h
                exact g_iret C0 hW rfl rfl rfl dX1_join_87
              · replace h := (if_neg hc9).symm.trans h
                by_cases hc10 : (g_sm.getD (nI p1).toNatClampNeg 0) = (14 : Int32)
                · replace h := (if_pos hc10).symm.trans h
                  refine lv_tableIn (tgt := 88) C0.hx C0.hb dX1_join_8 (by rw [hc10]; decide) (by rw [hc10]; decide) (by rw [hc10]; rfl) (by decide) ?_
                  refine lv_iload_n C0.hx C0.hb dX1_join_88 rfl (lv_at hl 1 rfl) ?_
                  refine lv_iload_n C0.hx C0.hb dX1_join_89 rfl (lv_at hl 2 rfl) ?_
                  obtain ⟨q13, hq13, h⟩ := Option.bind_eq_some_iff.mp h
                  refine g_calli hW (g_runSN (As := [.int (p2), .int (p3)]) (rest := []) C0 hW (c_X12_quotient hq13) (g_cwOf (n := 2) tc_X12_quotient tn_X12 md_X12_quotient (by decide) (by omega)) tmN_X1_179 tz_X12_quotient rfl hl.1 rfl (Nat.le_of_ble_eq_true rfl) dX1_join_90) (fun H locs hW => ?_)
                  obtain rfl := Option.some.inj h
                  exact g_iret C0 hW rfl rfl rfl dX1_join_93
                · replace h := (if_neg hc10).symm.trans h
                  refine lv_tableOut (tgt := 94) C0.hx C0.hb dX1_join_8 (g_sw_X1_join_8 hc3 hc4 hc5 hc6 hc7 hc8 hc9 hc10) (by decide) ?_
                  refine lv_aload_n C0.hx C0.hb dX1_join_94 rfl (lv_at hl 0 rfl) ?_
                  refine lv_iload_n C0.hx C0.hb dX1_join_95 rfl (lv_at hl 1 rfl) ?_
                  refine lv_iload_n C0.hx C0.hb dX1_join_96 rfl (lv_at hl 2 rfl) ?_
                  obtain ⟨q11, hq11, h⟩ := Option.bind_eq_some_iff.mp h
                  refine g_calli hW (g_runS (As := [.ref (g_sg G (p1)), .int (p2), .int (p3)]) (rest := []) C0 hW (c_X1_compares hq11) (g_cwOf (n := 3) tc_X1_compares tn_X1 md_X1_compares (by decide) (by omega)) tm_X1_182 tz_X1_compares rfl hl.1 rfl (Nat.le_of_ble_eq_true rfl) dX1_join_97) (fun H locs hW => ?_)
                  refine lv_if_eq (tgt := 107) C0.hx C0.hb dX1_join_100 (by decide) (fun hc12 => ?_) (fun hc12 => ?_)
                  · replace h := (if_pos hc12).symm.trans h
                    refine lv_iconst (v := (0 : Int32)) C0.hx C0.hb dX1_join_107 (by decide) ?_
                    obtain rfl := Option.some.inj h
                    exact g_iret C0 hW rfl rfl rfl dX1_join_108
                  · replace h := (if_neg hc12).symm.trans h
                    refine lv_iconst (v := (1 : Int32)) C0.hx C0.hb dX1_join_103 (by decide) ?_
                    refine lv_goto (tgt := 108) C0.hx C0.hb dX1_join_104 (by decide) ?_
                    obtain rfl := Option.some.inj h
                    exact g_iret C0 hW rfl rfl rfl dX1_join_108
set_option maxRecDepth 100000 in
set_option maxHeartbeats 4000000 in
theorem c_X1_found {l : Launch} {G : GL} {ids : List Nat} {y : MS} {o : Nat → Int32} {x : CS} {p1 : Nat} {p2 : Nat} {p3 : Int32} {q : Int32}   (hk_p1 : kd p1 = 9) (h : f_X1_found p1 p2 p3 x = some q) : Met l yX1_found (.code yX1_found cX1_found 4 (Option.some Jvm.ClassFile.FieldType.int) :: gT) (g_rm 3 0 0) (va_Pc [.ref (g_ad G (18)), .ref (g_ad G (p1)), .ref (g_sg G (p2)), .int (p3)] (g_P G ids (x, y, o))) (g_Qi G ids q (x, y, o)) 0 0 (g_A G) := by
  unfold f_X1_found at h
  refine g_entry (by decide) (Nat.le_of_ble_eq_true rfl) (fun p e s m args below meth c ls C0 hl hW _ => ?_)
  have hl : lv_has ls 4 [(0, .ref (g_ad G (18))), (1, .ref (g_ad G (p1))), (2, .ref (g_sg G (p2))), (3, .int (p3))] := hl
  refine g_SM C0 hW tf_X1_155 dX1_found_0 ?_
  refine lv_aload_n C0.hx C0.hb dX1_found_3 rfl (lv_at hl 2 rfl) ?_
  obtain ⟨hs1, h⟩ := g_if h
  refine g_runO (k1 := 0) (k2 := 3) rfl (by omega) ⟨rfl, rfl⟩ C0 hW hs1 tm_X1_160 hl.1 (Nat.le_of_ble_eq_true rfl) dX1_found_4 (fun H locs hW => ?_)
  obtain ⟨hb2, h⟩ := g_if h
  refine g_SMat C0 hW hb2 dX1_found_7 ?_
  by_cases hc3 : (g_sm.getD (nI p2).toNatClampNeg 0) = (1 : Int32)
  · replace h := (if_pos hc3).symm.trans h
    refine lv_tableIn (tgt := 48) C0.hx C0.hb dX1_found_8 (by rw [hc3]; decide) (by rw [hc3]; decide) (by rw [hc3]; rfl) (by decide) ?_
    refine lv_aload_n C0.hx C0.hb dX1_found_48 rfl (lv_at hl 1 rfl) ?_
    refine gfN_X9_3 C0 hW (C0.mem (kl9 hk_p1)) hk_p1 tfN_X1_79 dX1_found_49 ?_
    obtain rfl := Option.some.inj h
    exact g_iret C0 hW rfl rfl rfl dX1_found_52
  · replace h := (if_neg hc3).symm.trans h
    by_cases hc4 : (g_sm.getD (nI p2).toNatClampNeg 0) = (2 : Int32)
    · replace h := (if_pos hc4).symm.trans h
      refine lv_tableIn (tgt := 53) C0.hx C0.hb dX1_found_8 (by rw [hc4]; decide) (by rw [hc4]; decide) (by rw [hc4]; rfl) (by decide) ?_
      refine lv_aload_n C0.hx C0.hb dX1_found_53 rfl (lv_at hl 1 rfl) ?_
      obtain ⟨q18, hq18, h⟩ := Option.bind_eq_some_iff.mp h
      refine g_calli hW (g_runV (As := []) (rest := []) C0 hW (c_X9_countKept hk_p1 hq18) (g_cwOf (n := 0) tc_X9_countKept tn_X9 md_X9_countKept (by decide) (by omega)) tm_X1_163 ti_X9_countKept ts_X9_countKept (C0.mem (kl9 hk_p1)) (g_c9 hk_p1) rfl rfl hl.1 rfl (Nat.le_of_ble_eq_true rfl) dX1_found_54) (fun H locs hW => ?_)
      obtain rfl := Option.some.inj h
      exact g_iret C0 hW rfl rfl rfl dX1_found_57
    · replace h := (if_neg hc4).symm.trans h
      by_cases hc5 : (g_sm.getD (nI p2).toNatClampNeg 0) = (3 : Int32)
      · replace h := (if_pos hc5).symm.trans h
        refine lv_tableIn (tgt := 58) C0.hx C0.hb dX1_found_8 (by rw [hc5]; decide) (by rw [hc5]; decide) (by rw [hc5]; rfl) (by decide) ?_
        refine lv_aload_n C0.hx C0.hb dX1_found_58 rfl (lv_at hl 1 rfl) ?_
        refine lv_iload_n C0.hx C0.hb dX1_found_59 rfl (lv_at hl 3 rfl) ?_
        obtain ⟨q16, hq16, h⟩ := Option.bind_eq_some_iff.mp h
        obtain ⟨hk17, h⟩ := g_if h
        refine g_callr hW (g_runV (As := [.int (p3)]) (rest := []) C0 hW (c_X9_word hk_p1 hq16) (g_cwOf (n := 1) tc_X9_word tn_X9 md_X9_word (by decide) (by omega)) tm_X1_41 ti_X9_word ts_X9_word (C0.mem (kl9 hk_p1)) (g_c9 hk_p1) rfl rfl hl.1 rfl (Nat.le_of_ble_eq_true rfl) dX1_found_60) (fun H locs hW => ?_)
        refine gfN_X11_2 C0 hW (C0.mem (kl10 hk17)) hk17 tfN_X1_65 dX1_found_63 ?_
        obtain rfl := Option.some.inj h
        exact g_iret C0 hW rfl rfl rfl dX1_found_66
      · replace h := (if_neg hc5).symm.trans h
        by_cases hc6 : (g_sm.getD (nI p2).toNatClampNeg 0) = (4 : Int32)
        · replace h := (if_pos hc6).symm.trans h
          refine lv_tableIn (tgt := 67) C0.hx C0.hb dX1_found_8 (by rw [hc6]; decide) (by rw [hc6]; decide) (by rw [hc6]; rfl) (by decide) ?_
          refine lv_aload_n C0.hx C0.hb dX1_found_67 rfl (lv_at hl 1 rfl) ?_
          refine lv_iload_n C0.hx C0.hb dX1_found_68 rfl (lv_at hl 3 rfl) ?_
          obtain ⟨q14, hq14, h⟩ := Option.bind_eq_some_iff.mp h
          obtain ⟨hk15, h⟩ := g_if h
          refine g_callr hW (g_runV (As := [.int (p3)]) (rest := []) C0 hW (c_X9_word hk_p1 hq14) (g_cwOf (n := 1) tc_X9_word tn_X9 md_X9_word (by decide) (by omega)) tm_X1_41 ti_X9_word ts_X9_word (C0.mem (kl9 hk_p1)) (g_c9 hk_p1) rfl rfl hl.1 rfl (Nat.le_of_ble_eq_true rfl) dX1_found_69) (fun H locs hW => ?_)
          refine gfN_X11_0 C0 hW (C0.mem (kl10 hk15)) hk15 tfN_X1_49 dX1_found_72 ?_
          refine gfN_X3_1 C0 hW (C0.mem (kl5 (ko10_0 hk15))) (ko10_0 hk15) tfN_X1_27 dX1_found_75 ?_
          obtain rfl := Option.some.inj h
          exact g_iret C0 hW rfl rfl rfl dX1_found_78
        · replace h := (if_neg hc6).symm.trans h
          by_cases hc7 : (g_sm.getD (nI p2).toNatClampNeg 0) = (5 : Int32)
          · replace h := (if_pos hc7).symm.trans h
            refine lv_tableIn (tgt := 79) C0.hx C0.hb dX1_found_8 (by rw [hc7]; decide) (by rw [hc7]; decide) (by rw [hc7]; rfl) (by decide) ?_
            refine lv_aload_n C0.hx C0.hb dX1_found_79 rfl (lv_at hl 0 rfl) ?_
            refine lv_aload_n C0.hx C0.hb dX1_found_80 rfl (lv_at hl 1 rfl) ?_
            obtain ⟨q12, hq12, h⟩ := Option.bind_eq_some_iff.mp h
            refine g_calli hW (g_runV (As := [.ref (g_ad G (p1))]) (rest := []) C0 hW (c_X1_meantOf hk_p1 hq12) (g_cwOf (n := 1) tc_X1_meantOf tn_X1 md_X1_meantOf (by decide) (by omega)) tm_X1_166 ti_X1_meantOf ts_X1_meantOf (C0.mem (i := 18) (Nat.le_of_ble_eq_true rfl)) (g_c6 k_18) rfl rfl hl.1 rfl (Nat.le_of_ble_eq_true rfl) dX1_found_81) (fun H locs hW => ?_)
            refine lv_iload_n C0.hx C0.hb dX1_found_84 rfl (lv_at hl 3 rfl) ?_
            refine lv_icmp_ne (tgt := 92) C0.hx C0.hb dX1_found_85 (by decide) (fun hc13 => ?_) (fun hc13 => ?_)
            · replace h := (if_neg hc13).symm.trans h
              refine lv_iconst (v := (0 : Int32)) C0.hx C0.hb dX1_found_92 (by decide) ?_
              obtain rfl := Option.some.inj h
              exact g_iret C0 hW rfl rfl rfl dX1_found_93
            · replace h := (if_pos hc13).symm.trans h
              refine lv_iconst (v := (1 : Int32)) C0.hx C0.hb dX1_found_88 (by decide) ?_
              refine lv_goto (tgt := 93) C0.hx C0.hb dX1_found_89 (by decide) ?_
              obtain rfl := Option.some.inj h
              exact g_iret C0 hW rfl rfl rfl dX1_found_93
          · replace h := (if_neg hc7).symm.trans h
            by_cases hc8 : (g_sm.getD (nI p2).toNatClampNeg 0) = (6 : Int32)
            · replace h := (if_pos hc8).symm.trans h
              refine lv_tableIn (tgt := 94) C0.hx C0.hb dX1_found_8 (by rw [hc8]; decide) (by rw [hc8]; decide) (by rw [hc8]; rfl) (by decide) ?_
              refine lv_aload_n C0.hx C0.hb dX1_found_94 rfl (lv_at hl 1 rfl) ?_
              refine lv_iload_n C0.hx C0.hb dX1_found_95 rfl (lv_at hl 3 rfl) ?_
              obtain ⟨q9, hq9, h⟩ := Option.bind_eq_some_iff.mp h
              obtain ⟨hk10, h⟩ := g_if h
              refine g_callr hW (g_runV (As := [.int (p3)]) (rest := []) C0 hW (c_X9_word hk_p1 hq9) (g_cwOf (n := 1) tc_X9_word tn_X9 md_X9_word (by decide) (by omega)) tm_X1_41 ti_X9_word ts_X9_word (C0.mem (kl9 hk_p1)) (g_c9 hk_p1) rfl rfl hl.1 rfl (Nat.le_of_ble_eq_true rfl) dX1_found_96) (fun H locs hW => ?_)
              refine gfN_X11_1 C0 hW (C0.mem (kl10 hk10)) hk10 tfN_X1_118 dX1_found_99 ?_
              refine lv_if_eq (tgt := 109) C0.hx C0.hb dX1_found_102 (by decide) (fun hc11 => ?_) (fun hc11 => ?_)
              · replace h := (if_pos hc11).symm.trans h
                refine lv_iconst (v := (0 : Int32)) C0.hx C0.hb dX1_found_109 (by decide) ?_
                obtain rfl := Option.some.inj h
                exact g_iret C0 hW rfl rfl rfl dX1_found_110
              · replace h := (if_neg hc11).symm.trans h
                refine lv_iconst (v := (1 : Int32)) C0.hx C0.hb dX1_found_105 (by decide) ?_
                refine lv_goto (tgt := 110) C0.hx C0.hb dX1_found_106 (by decide) ?_
                obtain rfl := Option.some.inj h
                exact g_iret C0 hW rfl rfl rfl dX1_found_110
            · replace h := (if_neg hc8).symm.trans h
              refine lv_tableOut (tgt := 111) C0.hx C0.hb dX1_found_8 (g_sw_X1_found_8 hc3 hc4 hc5 hc6 hc7 hc8) (by decide) ?_
              refine lv_iload_n C0.hx C0.hb dX1_found_111 rfl (lv_at hl 3 rfl) ?_
              obtain rfl := Option.some.inj h
              exact g_iret C0 hW rfl rfl rfl dX1_found_112
set_option maxRecDepth 100000 in
set_option maxHeartbeats 4000000 in
theorem w_X1_reckon_64 {p : Program} {l : Launch} {e : Env} {s : State} {m : MethodId} {args : Array Value} {below : List Frame} {meth : Method} {c : Code} {G : GL} {ids : List Nat} {y : MS} {o : Nat → Int32}  {q : Int32 × CS} {k8 : Nat → Nat → Int32 → Int32 → CS → Option (Int32 × CS)}   (C0 : g_X G ids p s m args meth c cX1_reckon 9 RX1 (Option.some Jvm.ClassFile.FieldType.int)) (kt8 : ∀ (l1 : Nat) (l2 : Nat) (l4 : Int32) (l5 : Int32) (x : CS) (H : Heap) (locs : List Loc) (ls : Array Slot), kd l1 = 7 → kd l2 = 9 → k8 l1 l2 l4 l5 x = some q → g_W G ids (x, y, o) s.heap H locs → lv_has ls 9 [(0, .ref (g_ad G (18))), (1, .ref (g_ad G (l1))), (2, .ref (g_ad G (l2))), (4, .int (l4)), (5, .int (l5))] → W p l e (g_rm 4 0 0) s m args below meth c H locs 0 0 (MQ below (g_Qi G ids q.1 (q.2, y, o)) args s 0 0 (g_A G)) (F0 m 8 ls [])) : ∀  (l1 : Nat) (l2 : Nat) (l4 : Int32) (l5 : Int32) (s0 : Int32) (x : CS) (H : Heap) (locs : List Loc) (ls : Array Slot), kd l1 = 7 → kd l2 = 9 → f_X1_reckon_64 k8 l1 l2 l4 l5 s0 x = some q → g_W G ids (x, y, o) s.heap H locs → lv_has ls 9 [(0, .ref (g_ad G (18))), (1, .ref (g_ad G (l1))), (2, .ref (g_ad G (l2))), (4, .int (l4)), (5, .int (l5))] → W p l e (g_rm 4 0 0) s m args below meth c H locs 0 0 (MQ below (g_Qi G ids q.1 (q.2, y, o)) args s 0 0 (g_A G)) (F0 m 64 ls [.int (s0), .ref (g_ad G (18))]) := by
  intro l1 l2 l4 l5 s0 x H locs ls hk_l1 hk_l2 h hW hl
  unfold f_X1_reckon_64 at h
  obtain ⟨q19, hq19, h⟩ := Option.bind_eq_some_iff.mp h
  refine g_callv hW (g_runV (As := [.int (s0)]) (rest := []) C0 hW (c_X1_push hq19) (g_cwOf (n := 1) tc_X1_push tn_X1 md_X1_push (by decide) (by omega)) tm_X1_133 ti_X1_push ts_X1_push (C0.mem (i := 18) (Nat.le_of_ble_eq_true rfl)) (g_c6 k_18) rfl rfl hl.1 rfl (Nat.le_of_ble_eq_true rfl) dX1_reckon_64) (fun H locs hW => ?_)
  refine lv_goto (tgt := 123) C0.hx C0.hb dX1_reckon_67 (by decide) ?_
  refine lv_iinc (v := l5 + (1 : Int32)) (lv' := [(5, .int (l5 + (1 : Int32))), (0, .ref (g_ad G (18))), (1, .ref (g_ad G (l1))), (2, .ref (g_ad G (l2))), (4, .int (l4))]) C0.hx C0.hb dX1_reckon_123 hl (k := 4) rfl rfl (by decide) rfl (fun ls hl => ?_)
  refine lv_goto (tgt := 8) C0.hx C0.hb dX1_reckon_126 (by decide) ?_
  exact kt8 _ _ _ _ _ _ _ _ hk_l1 hk_l2 h hW (lv_sub hl [1, 2, 3, 4, 0] rfl)
set_option maxRecDepth 100000 in
set_option maxHeartbeats 4000000 in
theorem w_X1_reckon_8 {p : Program} {l : Launch} {e : Env} {s : State} {m : MethodId} {args : Array Value} {below : List Frame} {meth : Method} {c : Code} {G : GL} {ids : List Nat} {y : MS} {o : Nat → Int32}  {q : Int32 × CS}   (C0 : g_X G ids p s m args meth c cX1_reckon 9 RX1 (Option.some Jvm.ClassFile.FieldType.int))  : ∀ (n : Nat) (l1 : Nat) (l2 : Nat) (l4 : Int32) (l5 : Int32) (x : CS) (H : Heap) (locs : List Loc) (ls : Array Slot), kd l1 = 7 → kd l2 = 9 → f_X1_reckon_8 n l1 l2 l4 l5 x = some q → g_W G ids (x, y, o) s.heap H locs → lv_has ls 9 [(0, .ref (g_ad G (18))), (1, .ref (g_ad G (l1))), (2, .ref (g_ad G (l2))), (4, .int (l4)), (5, .int (l5))] → W p l e (g_rm 4 0 0) s m args below meth c H locs 0 0 (MQ below (g_Qi G ids q.1 (q.2, y, o)) args s 0 0 (g_A G)) (F0 m 8 ls []) := by
  intro n
  induction n with
  | zero =>
    intro l1 l2 l4 l5 x H locs ls hk_l1 hk_l2 h hW hl
    exact absurd h (by simp [f_X1_reckon_8])
  | succ n ih =>
    intro l1 l2 l4 l5 x H locs ls hk_l1 hk_l2 h hW hl
    unfold f_X1_reckon_8 at h
    refine lv_iload C0.hx C0.hb dX1_reckon_8 (lv_at hl 4 rfl) ?_
    refine lv_iload C0.hx C0.hb dX1_reckon_10 (lv_at hl 3 rfl) ?_
    refine lv_icmp_ge (tgt := 129) C0.hx C0.hb dX1_reckon_12 (by decide) (fun hc1 => ?_) (fun hc1 => ?_)
    · replace h := (if_pos hc1).symm.trans h
      refine lv_aload_n C0.hx C0.hb dX1_reckon_129 rfl (lv_at hl 0 rfl) ?_
      obtain ⟨q2, hq2, h⟩ := Option.bind_eq_some_iff.mp h
      refine g_calli hW (g_runV (As := []) (rest := []) C0 hW (c_X1_pop hq2) (g_cwOf (n := 0) tc_X1_pop tn_X1 md_X1_pop (by decide) (by omega)) tm_X1_129 ti_X1_pop ts_X1_pop (C0.mem (i := 18) (Nat.le_of_ble_eq_true rfl)) (g_c6 k_18) rfl rfl hl.1 rfl (Nat.le_of_ble_eq_true rfl) dX1_reckon_130) (fun H locs hW => ?_)
      obtain rfl := Option.some.inj h
      exact g_iret C0 hW rfl rfl rfl dX1_reckon_133
    · replace h := (if_neg hc1).symm.trans h
      refine lv_aload_n C0.hx C0.hb dX1_reckon_15 rfl (lv_at hl 1 rfl) ?_
      refine lv_iload C0.hx C0.hb dX1_reckon_16 (lv_at hl 4 rfl) ?_
      obtain ⟨q3, hq3, h⟩ := Option.bind_eq_some_iff.mp h
      refine g_callr hW (g_runV (As := [.int (l5)]) (rest := []) C0 hW (c_X5_sign hk_l1 hq3) (g_cwOf (n := 1) tc_X5_sign tn_X5 md_X5_sign (by decide) (by omega)) tm_X1_122 ti_X5_sign ts_X5_sign (C0.mem (kl7 hk_l1)) (g_c7 hk_l1) rfl rfl hl.1 rfl (Nat.le_of_ble_eq_true rfl) dX1_reckon_18) (fun H locs hW => ?_)
      refine lv_astore (lv' := [(6, .ref (g_sg G (q3))), (0, .ref (g_ad G (18))), (1, .ref (g_ad G (l1))), (2, .ref (g_ad G (l2))), (4, .int (l4)), (5, .int (l5))]) C0.hx C0.hb dX1_reckon_21 hl (by decide) rfl (fun ls hl => ?_)
      refine lv_aload C0.hx C0.hb dX1_reckon_23 (lv_at hl 0 rfl) ?_
      refine g_sign C0 hW 43 (by decide) tf_X1_126 dX1_reckon_25 ?_
      refine g_acmp_ne (tgt := 43) C0 dX1_reckon_28 (by decide) (fun hc4 => ?_) (fun hc4 => ?_)
      · replace h := (if_neg hc4).symm.trans h
        refine lv_aload C0.hx C0.hb dX1_reckon_43 (lv_at hl 0 rfl) ?_
        refine g_sign C0 hW 21 (by decide) tf_X1_137 dX1_reckon_45 ?_
        refine g_acmp_ne (tgt := 70) C0 dX1_reckon_48 (by decide) (fun hc5 => ?_) (fun hc5 => ?_)
        · replace h := (if_neg hc5).symm.trans h
          refine lv_aload C0.hx C0.hb dX1_reckon_70 (lv_at hl 0 rfl) ?_
          obtain ⟨q6, hq6, h⟩ := Option.bind_eq_some_iff.mp h
          refine g_calli hW (g_runS (As := [.ref (g_sg G (q3))]) (rest := []) C0 hW (c_X1_isJoin hq6) (g_cwOf (n := 1) tc_X1_isJoin tn_X1 md_X1_isJoin (by decide) (by omega)) tm_X1_140 tz_X1_isJoin rfl hl.1 rfl (Nat.le_of_ble_eq_true rfl) dX1_reckon_72) (fun H locs hW => ?_)
          refine lv_if_eq (tgt := 106) C0.hx C0.hb dX1_reckon_75 (by decide) (fun hc7 => ?_) (fun hc7 => ?_)
          · replace h := (if_pos hc7).symm.trans h
            refine lv_aload_n C0.hx C0.hb dX1_reckon_106 rfl (lv_at hl 1 rfl) ?_
            refine lv_aload_n C0.hx C0.hb dX1_reckon_107 rfl (lv_at hl 1 rfl) ?_
            refine lv_aload_n C0.hx C0.hb dX1_reckon_108 rfl (lv_at hl 3 rfl) ?_
            refine lv_aload C0.hx C0.hb dX1_reckon_109 (lv_at hl 0 rfl) ?_
            refine lv_aload_n C0.hx C0.hb dX1_reckon_111 rfl (lv_at hl 2 rfl) ?_
            refine lv_iload C0.hx C0.hb dX1_reckon_112 (lv_at hl 5 rfl) ?_
            obtain ⟨q8, hq8, h⟩ := Option.bind_eq_some_iff.mp h
            refine g_calli hW (g_runV (As := [.int (l5)]) (rest := [.ref (g_sg G (q3)), .ref (g_ad G (l2)), .ref (g_ad G (18)), .ref (g_ad G (18))]) C0 hW (c_X5_value hk_l1 hq8) (g_cwOf (n := 1) tc_X5_value tn_X5 md_X5_value (by decide) (by omega)) tm_X1_148 ti_X5_value ts_X5_value (C0.mem (kl7 hk_l1)) (g_c7 hk_l1) rfl rfl hl.1 rfl (Nat.le_of_ble_eq_true rfl) dX1_reckon_114) (fun H locs hW => ?_)
            obtain ⟨q9, hq9, h⟩ := Option.bind_eq_some_iff.mp h
            refine g_calli hW (g_runV (As := [.ref (g_ad G (l2)), .ref (g_sg G (q3)), .int (q8)]) (rest := [.ref (g_ad G (18))]) C0 hW (c_X1_found hk_l2 hq9) (g_cwOf (n := 3) tc_X1_found tn_X1 md_X1_found (by decide) (by omega)) tm_X1_151 ti_X1_found ts_X1_found (C0.mem (i := 18) (Nat.le_of_ble_eq_true rfl)) (g_c6 k_18) rfl rfl hl.1 rfl (Nat.le_of_ble_eq_true rfl) dX1_reckon_117) (fun H locs hW => ?_)
            obtain ⟨q10, hq10, h⟩ := Option.bind_eq_some_iff.mp h
            refine g_callv hW (g_runV (As := [.int (q9)]) (rest := []) C0 hW (c_X1_push hq10) (g_cwOf (n := 1) tc_X1_push tn_X1 md_X1_push (by decide) (by omega)) tm_X1_133 ti_X1_push ts_X1_push (C0.mem (i := 18) (Nat.le_of_ble_eq_true rfl)) (g_c6 k_18) rfl rfl hl.1 rfl (Nat.le_of_ble_eq_true rfl) dX1_reckon_120) (fun H locs hW => ?_)
            refine lv_iinc (v := l5 + (1 : Int32)) (lv' := [(5, .int (l5 + (1 : Int32))), (6, .ref (g_sg G (q3))), (0, .ref (g_ad G (18))), (1, .ref (g_ad G (l1))), (2, .ref (g_ad G (l2))), (4, .int (l4))]) C0.hx C0.hb dX1_reckon_123 hl (k := 5) rfl rfl (by decide) rfl (fun ls hl => ?_)
            refine lv_goto (tgt := 8) C0.hx C0.hb dX1_reckon_126 (by decide) ?_
            exact ih _ _ _ _ _ _ _ _ hk_l1 hk_l2 h hW (lv_sub hl [2, 3, 4, 5, 0] rfl)
          · replace h := (if_neg hc7).symm.trans h
            refine lv_aload_n C0.hx C0.hb dX1_reckon_78 rfl (lv_at hl 1 rfl) ?_
            obtain ⟨q11, hq11, h⟩ := Option.bind_eq_some_iff.mp h
            refine g_calli hW (g_runV (As := []) (rest := []) C0 hW (c_X1_pop hq11) (g_cwOf (n := 0) tc_X1_pop tn_X1 md_X1_pop (by decide) (by omega)) tm_X1_129 ti_X1_pop ts_X1_pop (C0.mem (i := 18) (Nat.le_of_ble_eq_true rfl)) (g_c6 k_18) rfl rfl hl.1 rfl (Nat.le_of_ble_eq_true rfl) dX1_reckon_79) (fun H locs hW => ?_)
            refine lv_istore (lv' := [(7, .int (q11.1)), (6, .ref (g_sg G (q3))), (0, .ref (g_ad G (18))), (1, .ref (g_ad G (l1))), (2, .ref (g_ad G (l2))), (4, .int (l4)), (5, .int (l5))]) C0.hx C0.hb dX1_reckon_82 hl (by decide) rfl (fun ls hl => ?_)
            refine lv_aload_n C0.hx C0.hb dX1_reckon_84 rfl (lv_at hl 2 rfl) ?_
            obtain ⟨q12, hq12, h⟩ := Option.bind_eq_some_iff.mp h
            refine g_calli hW (g_runV (As := []) (rest := []) C0 hW (c_X1_pop hq12) (g_cwOf (n := 0) tc_X1_pop tn_X1 md_X1_pop (by decide) (by omega)) tm_X1_129 ti_X1_pop ts_X1_pop (C0.mem (i := 18) (Nat.le_of_ble_eq_true rfl)) (g_c6 k_18) rfl rfl hl.1 rfl (Nat.le_of_ble_eq_true rfl) dX1_reckon_85) (fun H locs hW => ?_)
            refine lv_istore (lv' := [(8, .int (q12.1)), (7, .int (q11.1)), (6, .ref (g_sg G (q3))), (0, .ref (g_ad G (18))), (1, .ref (g_ad G (l1))), (2, .ref (g_ad G (l2))), (4, .int (l4)), (5, .int (l5))]) C0.hx C0.hb dX1_reckon_88 hl (by decide) rfl (fun ls hl => ?_)
            refine lv_aload_n C0.hx C0.hb dX1_reckon_90 rfl (lv_at hl 3 rfl) ?_
            refine lv_aload C0.hx C0.hb dX1_reckon_91 (lv_at hl 2 rfl) ?_
            refine lv_iload C0.hx C0.hb dX1_reckon_93 (lv_at hl 0 rfl) ?_
            refine lv_iload C0.hx C0.hb dX1_reckon_95 (lv_at hl 1 rfl) ?_
            obtain ⟨q13, hq13, h⟩ := Option.bind_eq_some_iff.mp h
            refine g_calli hW (g_runS (As := [.ref (g_sg G (q3)), .int (q12.1), .int (q11.1)]) (rest := [.ref (g_ad G (18))]) C0 hW (c_X1_join hq13) (g_cwOf (n := 3) tc_X1_join tn_X1 md_X1_join (by decide) (by omega)) tm_X1_144 tz_X1_join rfl hl.1 rfl (Nat.le_of_ble_eq_true rfl) dX1_reckon_97) (fun H locs hW => ?_)
            obtain ⟨q14, hq14, h⟩ := Option.bind_eq_some_iff.mp h
            refine g_callv hW (g_runV (As := [.int (q13)]) (rest := []) C0 hW (c_X1_push hq14) (g_cwOf (n := 1) tc_X1_push tn_X1 md_X1_push (by decide) (by omega)) tm_X1_133 ti_X1_push ts_X1_push (C0.mem (i := 18) (Nat.le_of_ble_eq_true rfl)) (g_c6 k_18) rfl rfl hl.1 rfl (Nat.le_of_ble_eq_true rfl) dX1_reckon_100) (fun H locs hW => ?_)
            refine lv_goto (tgt := 123) C0.hx C0.hb dX1_reckon_103 (by decide) ?_
            refine lv_iinc (v := l5 + (1 : Int32)) (lv' := [(5, .int (l5 + (1 : Int32))), (8, .int (q12.1)), (7, .int (q11.1)), (6, .ref (g_sg G (q3))), (0, .ref (g_ad G (18))), (1, .ref (g_ad G (l1))), (2, .ref (g_ad G (l2))), (4, .int (l4))]) C0.hx C0.hb dX1_reckon_123 hl (k := 7) rfl rfl (by decide) rfl (fun ls hl => ?_)
            refine lv_goto (tgt := 8) C0.hx C0.hb dX1_reckon_126 (by decide) ?_
            exact ih _ _ _ _ _ _ _ _ hk_l1 hk_l2 h hW (lv_sub hl [4, 5, 6, 7, 0] rfl)
        · replace h := (if_pos hc5).symm.trans h
          refine lv_aload_n C0.hx C0.hb dX1_reckon_51 rfl (lv_at hl 1 rfl) ?_
          refine lv_aload_n C0.hx C0.hb dX1_reckon_52 rfl (lv_at hl 1 rfl) ?_
          obtain ⟨q15, hq15, h⟩ := Option.bind_eq_some_iff.mp h
          refine g_calli hW (g_runV (As := []) (rest := [.ref (g_ad G (18))]) C0 hW (c_X1_pop hq15) (g_cwOf (n := 0) tc_X1_pop tn_X1 md_X1_pop (by decide) (by omega)) tm_X1_129 ti_X1_pop ts_X1_pop (C0.mem (i := 18) (Nat.le_of_ble_eq_true rfl)) (g_c6 k_18) rfl rfl hl.1 rfl (Nat.le_of_ble_eq_true rfl) dX1_reckon_53) (fun H locs hW => ?_)
          refine lv_if_ne (tgt := 63) C0.hx C0.hb dX1_reckon_56 (by decide) (fun hc16 => ?_) (fun hc16 => ?_)
          · replace h := (if_neg hc16).symm.trans h
            refine lv_iconst (v := (0 : Int32)) C0.hx C0.hb dX1_reckon_63 (by decide) ?_
            exact w_X1_reckon_64 C0 ih _ _ _ _ _ _ _ _ _ hk_l1 hk_l2 h hW (lv_sub hl [1, 2, 3, 4, 5] rfl)
          · replace h := (if_pos hc16).symm.trans h
            refine lv_iconst (v := (1 : Int32)) C0.hx C0.hb dX1_reckon_59 (by decide) ?_
            refine lv_goto (tgt := 64) C0.hx C0.hb dX1_reckon_60 (by decide) ?_
            exact w_X1_reckon_64 C0 ih _ _ _ _ _ _ _ _ _ hk_l1 hk_l2 h hW (lv_sub hl [1, 2, 3, 4, 5] rfl)
      · replace h := (if_pos hc4).symm.trans h
        refine lv_aload_n C0.hx C0.hb dX1_reckon_31 rfl (lv_at hl 1 rfl) ?_
        refine lv_aload_n C0.hx C0.hb dX1_reckon_32 rfl (lv_at hl 1 rfl) ?_
        obtain ⟨q17, hq17, h⟩ := Option.bind_eq_some_iff.mp h
        refine g_calli hW (g_runV (As := []) (rest := [.ref (g_ad G (18))]) C0 hW (c_X1_pop hq17) (g_cwOf (n := 0) tc_X1_pop tn_X1 md_X1_pop (by decide) (by omega)) tm_X1_129 ti_X1_pop ts_X1_pop (C0.mem (i := 18) (Nat.le_of_ble_eq_true rfl)) (g_c6 k_18) rfl rfl hl.1 rfl (Nat.le_of_ble_eq_true rfl) dX1_reckon_33) (fun H locs hW => ?_)
        refine lv_ineg C0.hx C0.hb dX1_reckon_36 ?_
        obtain ⟨q18, hq18, h⟩ := Option.bind_eq_some_iff.mp h
        refine g_callv hW (g_runV (As := [.int (-q17.1)]) (rest := []) C0 hW (c_X1_push hq18) (g_cwOf (n := 1) tc_X1_push tn_X1 md_X1_push (by decide) (by omega)) tm_X1_133 ti_X1_push ts_X1_push (C0.mem (i := 18) (Nat.le_of_ble_eq_true rfl)) (g_c6 k_18) rfl rfl hl.1 rfl (Nat.le_of_ble_eq_true rfl) dX1_reckon_37) (fun H locs hW => ?_)
        refine lv_goto (tgt := 123) C0.hx C0.hb dX1_reckon_40 (by decide) ?_
        refine lv_iinc (v := l5 + (1 : Int32)) (lv' := [(5, .int (l5 + (1 : Int32))), (6, .ref (g_sg G (q3))), (0, .ref (g_ad G (18))), (1, .ref (g_ad G (l1))), (2, .ref (g_ad G (l2))), (4, .int (l4))]) C0.hx C0.hb dX1_reckon_123 hl (k := 5) rfl rfl (by decide) rfl (fun ls hl => ?_)
        refine lv_goto (tgt := 8) C0.hx C0.hb dX1_reckon_126 (by decide) ?_
        exact ih _ _ _ _ _ _ _ _ hk_l1 hk_l2 h hW (lv_sub hl [2, 3, 4, 5, 0] rfl)
set_option maxRecDepth 100000 in
set_option maxHeartbeats 4000000 in
theorem c_X1_reckon {l : Launch} {G : GL} {ids : List Nat} {y : MS} {o : Nat → Int32} {x : CS} {p1 : Nat} {p2 : Nat} {p3 : Int32} {p4 : Int32} {q : Int32 × CS}   (hk_p1 : kd p1 = 7) (hk_p2 : kd p2 = 9) (h : f_X1_reckon p1 p2 p3 p4 x = some q) : Met l yX1_reckon (.code yX1_reckon cX1_reckon 9 (Option.some Jvm.ClassFile.FieldType.int) :: gT) (g_rm 4 0 0) (va_Pc [.ref (g_ad G (18)), .ref (g_ad G (p1)), .ref (g_ad G (p2)), .int (p3), .int (p4)] (g_P G ids (x, y, o))) (g_Qi G ids q.1 (q.2, y, o)) 0 0 (g_A G) := by
  unfold f_X1_reckon at h
  refine g_entry (by decide) (Nat.le_of_ble_eq_true rfl) (fun p e s m args below meth c ls C0 hl hW _ => ?_)
  have hl : lv_has ls 9 [(0, .ref (g_ad G (18))), (1, .ref (g_ad G (p1))), (2, .ref (g_ad G (p2))), (3, .int (p3)), (4, .int (p4))] := hl
  refine lv_aload_n C0.hx C0.hb dX1_reckon_0 rfl (lv_at hl 0 rfl) ?_
  refine lv_iconst (v := (0 : Int32)) C0.hx C0.hb dX1_reckon_1 (by decide) ?_
  refine gp_X1_3 C0 hW (C0.mem (i := 18) (Nat.le_of_ble_eq_true rfl)) k_18 tf_X1_15 dX1_reckon_2 (fun H locs hW => ?_)
  refine lv_iload_n C0.hx C0.hb dX1_reckon_5 rfl (lv_at hl 3 rfl) ?_
  refine lv_istore (lv' := [(5, .int (p3)), (0, .ref (g_ad G (18))), (1, .ref (g_ad G (p1))), (2, .ref (g_ad G (p2))), (3, .int (p3)), (4, .int (p4))]) C0.hx C0.hb dX1_reckon_6 hl (by decide) rfl (fun ls hl => ?_)
  exact w_X1_reckon_8 C0 g_fuel _ _ _ _ _ _ _ _ hk_p1 hk_p2 h hW (lv_sub hl [1, 2, 3, 5, 0] rfl)
set_option maxRecDepth 100000 in
set_option maxHeartbeats 4000000 in
theorem c_X1_holds {l : Launch} {G : GL} {ids : List Nat} {y : MS} {o : Nat → Int32} {x : CS} {p1 : Nat} {p2 : Nat} {p3 : Nat} {q : Int32 × CS}   (hk_p1 : kd p1 = 7) (hk_p2 : kd p2 = 9) (hk_p3 : kd p3 = 8) (h : f_X1_holds p1 p2 p3 x = some q) : Met l yX1_holds (.code yX1_holds cX1_holds 4 (Option.some Jvm.ClassFile.FieldType.boolean) :: gT) (g_rm 5 0 0) (va_Pc [.ref (g_ad G (18)), .ref (g_ad G (p1)), .ref (g_ad G (p2)), .ref (g_ad G (p3))] (g_P G ids (x, y, o))) (g_Qi G ids q.1 (q.2, y, o)) 0 0 (g_A G) := by
  unfold f_X1_holds at h
  refine g_entry (by decide) (Nat.le_of_ble_eq_true rfl) (fun p e s m args below meth c ls C0 hl hW _ => ?_)
  have hl : lv_has ls 4 [(0, .ref (g_ad G (18))), (1, .ref (g_ad G (p1))), (2, .ref (g_ad G (p2))), (3, .ref (g_ad G (p3)))] := hl
  refine lv_aload_n C0.hx C0.hb dX1_holds_0 rfl (lv_at hl 3 rfl) ?_
  refine gfN_X4_3 C0 hW (C0.mem (kl8 hk_p3)) hk_p3 tfN_X1_85 dX1_holds_1 ?_
  refine lv_aload_n C0.hx C0.hb dX1_holds_4 rfl (lv_at hl 3 rfl) ?_
  refine gfN_X4_4 C0 hW (C0.mem (kl8 hk_p3)) hk_p3 tfN_X1_90 dX1_holds_5 ?_
  refine lv_icmp_eq (tgt := 28) C0.hx C0.hb dX1_holds_8 (by decide) (fun hc1 => ?_) (fun hc1 => ?_)
  · replace h := (if_pos hc1).symm.trans h
    refine lv_iconst (v := (1 : Int32)) C0.hx C0.hb dX1_holds_28 (by decide) ?_
    refine lv_goto (tgt := 33) C0.hx C0.hb dX1_holds_29 (by decide) ?_
    obtain rfl := Option.some.inj h
    exact g_iret C0 hW rfl (g_bool (Or.inr rfl)).1 rfl dX1_holds_33
  · replace h := (if_neg hc1).symm.trans h
    refine lv_aload_n C0.hx C0.hb dX1_holds_11 rfl (lv_at hl 0 rfl) ?_
    refine lv_aload_n C0.hx C0.hb dX1_holds_12 rfl (lv_at hl 1 rfl) ?_
    refine lv_aload_n C0.hx C0.hb dX1_holds_13 rfl (lv_at hl 2 rfl) ?_
    refine lv_aload_n C0.hx C0.hb dX1_holds_14 rfl (lv_at hl 3 rfl) ?_
    refine gfN_X4_3 C0 hW (C0.mem (kl8 hk_p3)) hk_p3 tfN_X1_85 dX1_holds_15 ?_
    refine lv_aload_n C0.hx C0.hb dX1_holds_18 rfl (lv_at hl 3 rfl) ?_
    refine gfN_X4_4 C0 hW (C0.mem (kl8 hk_p3)) hk_p3 tfN_X1_90 dX1_holds_19 ?_
    obtain ⟨q2, hq2, h⟩ := Option.bind_eq_some_iff.mp h
    refine g_calli hW (g_runV (As := [.ref (g_ad G (p1)), .ref (g_ad G (p2)), .int (x.1 p3 3), .int (x.1 p3 4)]) (rest := []) C0 hW (c_X1_reckon hk_p1 hk_p2 hq2) (g_cwOf (n := 4) tc_X1_reckon tn_X1 md_X1_reckon (by decide) (by omega)) tm_X1_93 ti_X1_reckon ts_X1_reckon (C0.mem (i := 18) (Nat.le_of_ble_eq_true rfl)) (g_c6 k_18) rfl rfl hl.1 rfl (Nat.le_of_ble_eq_true rfl) dX1_holds_22) (fun H locs hW => ?_)
    refine lv_if_eq (tgt := 32) C0.hx C0.hb dX1_holds_25 (by decide) (fun hc3 => ?_) (fun hc3 => ?_)
    · replace h := (if_pos hc3).symm.trans h
      refine lv_iconst (v := (0 : Int32)) C0.hx C0.hb dX1_holds_32 (by decide) ?_
      obtain rfl := Option.some.inj h
      exact g_iret C0 hW rfl (g_bool (Or.inl rfl)).1 rfl dX1_holds_33
    · replace h := (if_neg hc3).symm.trans h
      refine lv_iconst (v := (1 : Int32)) C0.hx C0.hb dX1_holds_28 (by decide) ?_
      refine lv_goto (tgt := 33) C0.hx C0.hb dX1_holds_29 (by decide) ?_
      obtain rfl := Option.some.inj h
      exact g_iret C0 hW rfl (g_bool (Or.inr rfl)).1 rfl dX1_holds_33
set_option maxRecDepth 100000 in
set_option maxHeartbeats 4000000 in
theorem w_X1_changes_74 {p : Program} {l : Launch} {e : Env} {s : State} {m : MethodId} {args : Array Value} {below : List Frame} {meth : Method} {c : Code} {G : GL} {ids : List Nat} {y : MS} {o : Nat → Int32}  {q : Int32 × CS}   (C0 : g_X G ids p s m args meth c cX1_changes 7 RX1 (Option.some Jvm.ClassFile.FieldType.boolean))  : ∀  (l4 : Nat) (s0 : Int32) (x : CS) (H : Heap) (locs : List Loc) (ls : Array Slot), kd l4 = 10 → f_X1_changes_74 l4 s0 x = some q → g_W G ids (x, y, o) s.heap H locs → lv_has ls 7 [(4, .ref (g_ad G (l4)))] → W p l e (g_rm 5 0 0) s m args below meth c H locs 0 0 (MQ below (g_Qi G ids q.1 (q.2, y, o)) args s 0 0 (g_A G)) (F0 m 74 ls [.int (s0)]) := by
  intro l4 s0 x H locs ls hk_l4 h hW hl
  unfold f_X1_changes_74 at h
  refine lv_istore (lv' := [(5, .int (s0)), (4, .ref (g_ad G (l4)))]) C0.hx C0.hb dX1_changes_74 hl (by decide) rfl (fun ls hl => ?_)
  refine lv_aload C0.hx C0.hb dX1_changes_76 (lv_at hl 1 rfl) ?_
  refine gfN_X11_1 C0 hW (C0.mem (kl10 hk_l4)) hk_l4 tfN_X1_118 dX1_changes_78 ?_
  refine lv_iload C0.hx C0.hb dX1_changes_81 (lv_at hl 0 rfl) ?_
  refine lv_icmp_eq (tgt := 90) C0.hx C0.hb dX1_changes_83 (by decide) (fun hc11 => ?_) (fun hc11 => ?_)
  · replace h := (if_pos hc11).symm.trans h
    refine lv_iconst (v := (0 : Int32)) C0.hx C0.hb dX1_changes_90 (by decide) ?_
    refine lv_istore (lv' := [(6, .int ((0 : Int32))), (5, .int (s0)), (4, .ref (g_ad G (l4)))]) C0.hx C0.hb dX1_changes_91 hl (by decide) rfl (fun ls hl => ?_)
    refine lv_aload C0.hx C0.hb dX1_changes_93 (lv_at hl 2 rfl) ?_
    refine lv_iload C0.hx C0.hb dX1_changes_95 (lv_at hl 1 rfl) ?_
    obtain ⟨hb12, h⟩ := g_if h
    refine gpN_X11_1 C0 hW hb12 (C0.mem (kl10 hk_l4)) hk_l4 tfN_X1_118 dX1_changes_97 (fun H locs hW => ?_)
    refine lv_iload C0.hx C0.hb dX1_changes_100 (lv_at hl 0 rfl) ?_
    obtain rfl := Option.some.inj h
    exact g_iret C0 hW rfl (g_bool (Or.inl rfl)).1 rfl dX1_changes_102
  · replace h := (if_neg hc11).symm.trans h
    refine lv_iconst (v := (1 : Int32)) C0.hx C0.hb dX1_changes_86 (by decide) ?_
    refine lv_goto (tgt := 91) C0.hx C0.hb dX1_changes_87 (by decide) ?_
    refine lv_istore (lv' := [(6, .int ((1 : Int32))), (5, .int (s0)), (4, .ref (g_ad G (l4)))]) C0.hx C0.hb dX1_changes_91 hl (by decide) rfl (fun ls hl => ?_)
    refine lv_aload C0.hx C0.hb dX1_changes_93 (lv_at hl 2 rfl) ?_
    refine lv_iload C0.hx C0.hb dX1_changes_95 (lv_at hl 1 rfl) ?_
    obtain ⟨hb13, h⟩ := g_if h
    refine gpN_X11_1 C0 hW hb13 (C0.mem (kl10 hk_l4)) hk_l4 tfN_X1_118 dX1_changes_97 (fun H locs hW => ?_)
    refine lv_iload C0.hx C0.hb dX1_changes_100 (lv_at hl 0 rfl) ?_
    obtain rfl := Option.some.inj h
    exact g_iret C0 hW rfl (g_bool (Or.inr rfl)).1 rfl dX1_changes_102
set_option maxRecDepth 100000 in
set_option maxHeartbeats 4000000 in
theorem c_X1_changes {l : Launch} {G : GL} {ids : List Nat} {y : MS} {o : Nat → Int32} {x : CS} {p1 : Nat} {p2 : Nat} {p3 : Nat} {q : Int32 × CS}   (hk_p1 : kd p1 = 7) (hk_p2 : kd p2 = 9) (hk_p3 : kd p3 = 8) (h : f_X1_changes p1 p2 p3 x = some q) : Met l yX1_changes (.code yX1_changes cX1_changes 7 (Option.some Jvm.ClassFile.FieldType.boolean) :: gT) (g_rm 5 0 0) (va_Pc [.ref (g_ad G (18)), .ref (g_ad G (p1)), .ref (g_ad G (p2)), .ref (g_ad G (p3))] (g_P G ids (x, y, o))) (g_Qi G ids q.1 (q.2, y, o)) 0 0 (g_A G) := by
  unfold f_X1_changes at h
  refine g_entry (by decide) (Nat.le_of_ble_eq_true rfl) (fun p e s m args below meth c ls C0 hl hW _ => ?_)
  have hl : lv_has ls 7 [(0, .ref (g_ad G (18))), (1, .ref (g_ad G (p1))), (2, .ref (g_ad G (p2))), (3, .ref (g_ad G (p3)))] := hl
  refine lv_aload_n C0.hx C0.hb dX1_changes_0 rfl (lv_at hl 2 rfl) ?_
  refine lv_aload_n C0.hx C0.hb dX1_changes_1 rfl (lv_at hl 3 rfl) ?_
  refine gfN_X4_1 C0 hW (C0.mem (kl8 hk_p3)) hk_p3 tfN_X1_97 dX1_changes_2 ?_
  obtain ⟨q1, hq1, h⟩ := Option.bind_eq_some_iff.mp h
  obtain ⟨hk2, h⟩ := g_if h
  refine g_callr hW (g_runV (As := [.int (x.1 p3 1)]) (rest := []) C0 hW (c_X9_word hk_p2 hq1) (g_cwOf (n := 1) tc_X9_word tn_X9 md_X9_word (by decide) (by omega)) tm_X1_41 ti_X9_word ts_X9_word (C0.mem (kl9 hk_p2)) (g_c9 hk_p2) rfl rfl hl.1 rfl (Nat.le_of_ble_eq_true rfl) dX1_changes_5) (fun H locs hW => ?_)
  refine lv_astore (lv' := [(4, .ref (g_ad G (q1))), (0, .ref (g_ad G (18))), (1, .ref (g_ad G (p1))), (2, .ref (g_ad G (p2))), (3, .ref (g_ad G (p3)))]) C0.hx C0.hb dX1_changes_8 hl (by decide) rfl (fun ls hl => ?_)
  refine lv_aload_n C0.hx C0.hb dX1_changes_10 rfl (lv_at hl 4 rfl) ?_
  refine gfN_X4_0 C0 hW (C0.mem (kl8 hk_p3)) hk_p3 tfN_X1_99 dX1_changes_11 ?_
  refine g_sign C0 hW 11 (by decide) tf_X1_103 dX1_changes_14 ?_
  refine g_acmp_ne (tgt := 59) C0 dX1_changes_17 (by decide) (fun hc3 => ?_) (fun hc3 => ?_)
  · replace h := (if_neg hc3).symm.trans h
    refine lv_aload_n C0.hx C0.hb dX1_changes_59 rfl (lv_at hl 4 rfl) ?_
    refine gfN_X4_0 C0 hW (C0.mem (kl8 hk_p3)) hk_p3 tfN_X1_99 dX1_changes_60 ?_
    refine g_sign C0 hW 9 (by decide) tf_X1_115 dX1_changes_63 ?_
    refine g_acmp_ne (tgt := 73) C0 dX1_changes_66 (by decide) (fun hc4 => ?_) (fun hc4 => ?_)
    · replace h := (if_neg hc4).symm.trans h
      refine lv_iconst (v := (0 : Int32)) C0.hx C0.hb dX1_changes_73 (by decide) ?_
      exact w_X1_changes_74 C0 _ _ _ _ _ _ hk2 h hW (lv_sub hl [0] rfl)
    · replace h := (if_pos hc4).symm.trans h
      refine lv_iconst (v := (1 : Int32)) C0.hx C0.hb dX1_changes_69 (by decide) ?_
      refine lv_goto (tgt := 74) C0.hx C0.hb dX1_changes_70 (by decide) ?_
      exact w_X1_changes_74 C0 _ _ _ _ _ _ hk2 h hW (lv_sub hl [0] rfl)
  · replace h := (if_pos hc3).symm.trans h
    refine lv_aload C0.hx C0.hb dX1_changes_20 (lv_at hl 0 rfl) ?_
    refine gfN_X11_0 C0 hW (C0.mem (kl10 hk2)) hk2 tfN_X1_49 dX1_changes_22 ?_
    refine lv_aload_n C0.hx C0.hb dX1_changes_25 rfl (lv_at hl 1 rfl) ?_
    refine lv_aload_n C0.hx C0.hb dX1_changes_26 rfl (lv_at hl 2 rfl) ?_
    refine lv_aload_n C0.hx C0.hb dX1_changes_27 rfl (lv_at hl 3 rfl) ?_
    refine lv_aload_n C0.hx C0.hb dX1_changes_28 rfl (lv_at hl 4 rfl) ?_
    refine gfN_X4_2 C0 hW (C0.mem (kl8 hk_p3)) hk_p3 tfN_X1_108 dX1_changes_29 ?_
    refine lv_aload_n C0.hx C0.hb dX1_changes_32 rfl (lv_at hl 4 rfl) ?_
    refine gfN_X4_3 C0 hW (C0.mem (kl8 hk_p3)) hk_p3 tfN_X1_85 dX1_changes_33 ?_
    obtain ⟨q5, hq5, h⟩ := Option.bind_eq_some_iff.mp h
    refine g_calli hW (g_runV (As := [.ref (g_ad G (p1)), .ref (g_ad G (p2)), .int (x.1 p3 2), .int (x.1 p3 3)]) (rest := [.ref (g_ad G (q1 + 1))]) C0 hW (c_X1_reckon hk_p1 hk_p2 hq5) (g_cwOf (n := 4) tc_X1_reckon tn_X1 md_X1_reckon (by decide) (by omega)) tm_X1_93 ti_X1_reckon ts_X1_reckon (C0.mem (i := 18) (Nat.le_of_ble_eq_true rfl)) (g_c6 k_18) rfl rfl hl.1 rfl (Nat.le_of_ble_eq_true rfl) dX1_changes_36) (fun H locs hW => ?_)
    obtain ⟨q6, hq6, h⟩ := Option.bind_eq_some_iff.mp h
    refine g_calli hW (g_runV (As := [.int (q5.1)]) (rest := []) C0 hW (c_X3_shift (ko10_0 hk2) hq6) (g_cwOf (n := 1) tc_X3_shift tn_X3 md_X3_shift (by decide) (by omega)) tm_X1_111 ti_X3_shift ts_X3_shift (C0.mem (kl5 (ko10_0 hk2))) (g_c5 (ko10_0 hk2)) rfl rfl hl.1 rfl (Nat.le_of_ble_eq_true rfl) dX1_changes_39) (fun H locs hW => ?_)
    refine lv_istore (lv' := [(5, .int (q6.1)), (4, .ref (g_ad G (q1))), (0, .ref (g_ad G (18))), (1, .ref (g_ad G (p1))), (2, .ref (g_ad G (p2))), (3, .ref (g_ad G (p3)))]) C0.hx C0.hb dX1_changes_42 hl (by decide) rfl (fun ls hl => ?_)
    refine lv_iload C0.hx C0.hb dX1_changes_44 (lv_at hl 0 rfl) ?_
    refine lv_if_eq (tgt := 56) C0.hx C0.hb dX1_changes_46 (by decide) (fun hc7 => ?_) (fun hc7 => ?_)
    · replace h := (if_pos hc7).symm.trans h
      refine lv_iload C0.hx C0.hb dX1_changes_56 (lv_at hl 0 rfl) ?_
      obtain ⟨hb8, h⟩ := g_if h
      obtain rfl := Option.some.inj h
      exact g_iret C0 hW rfl (g_bool hb8).1 rfl dX1_changes_58
    · replace h := (if_neg hc7).symm.trans h
      refine lv_aload_n C0.hx C0.hb dX1_changes_49 rfl (lv_at hl 2 rfl) ?_
      refine lv_aload_n C0.hx C0.hb dX1_changes_50 rfl (lv_at hl 3 rfl) ?_
      refine lv_aload C0.hx C0.hb dX1_changes_51 (lv_at hl 1 rfl) ?_
      obtain ⟨q9, hq9, h⟩ := Option.bind_eq_some_iff.mp h
      refine g_callv hW (g_runV (As := [.ref (g_ad G (p1)), .ref (g_ad G (q1))]) (rest := []) C0 hW (c_X1_measure hk_p1 hk2 hq9) (g_cwOf (n := 2) tc_X1_measure tn_X1 md_X1_measure (by decide) (by omega)) tm_X1_45 ti_X1_measure ts_X1_measure (C0.mem (i := 18) (Nat.le_of_ble_eq_true rfl)) (g_c6 k_18) rfl rfl hl.1 rfl (Nat.le_of_ble_eq_true rfl) dX1_changes_53) (fun H locs hW => ?_)
      refine lv_iload C0.hx C0.hb dX1_changes_56 (lv_at hl 0 rfl) ?_
      obtain ⟨hb10, h⟩ := g_if h
      obtain rfl := Option.some.inj h
      exact g_iret C0 hW rfl (g_bool hb10).1 rfl dX1_changes_58
set_option maxRecDepth 100000 in
set_option maxHeartbeats 4000000 in
theorem w_X1_passOne_5 {p : Program} {l : Launch} {e : Env} {s : State} {m : MethodId} {args : Array Value} {below : List Frame} {meth : Method} {c : Code} {G : GL} {ids : List Nat} {y : MS} {o : Nat → Int32}  {q : Int32 × CS}   (C0 : g_X G ids p s m args meth c cX1_passOne 6 RX1 (Option.some Jvm.ClassFile.FieldType.int))  : ∀ (n : Nat) (l1 : Nat) (l2 : Nat) (l3 : Int32) (l4 : Int32) (x : CS) (H : Heap) (locs : List Loc) (ls : Array Slot), kd l1 = 7 → kd l2 = 9 → f_X1_passOne_5 n l1 l2 l3 l4 x = some q → g_W G ids (x, y, o) s.heap H locs → lv_has ls 6 [(0, .ref (g_ad G (18))), (1, .ref (g_ad G (l1))), (2, .ref (g_ad G (l2))), (3, .int (l3)), (4, .int (l4))] → W p l e (g_rm 6 0 0) s m args below meth c H locs 0 0 (MQ below (g_Qi G ids q.1 (q.2, y, o)) args s 0 0 (g_A G)) (F0 m 5 ls []) := by
  intro n
  induction n with
  | zero =>
    intro l1 l2 l3 l4 x H locs ls hk_l1 hk_l2 h hW hl
    exact absurd h (by simp [f_X1_passOne_5])
  | succ n ih =>
    intro l1 l2 l3 l4 x H locs ls hk_l1 hk_l2 h hW hl
    unfold f_X1_passOne_5 at h
    refine lv_iload C0.hx C0.hb dX1_passOne_5 (lv_at hl 4 rfl) ?_
    refine lv_aload_n C0.hx C0.hb dX1_passOne_7 rfl (lv_at hl 1 rfl) ?_
    refine gfN_X5_4 C0 hW (C0.mem (kl7 hk_l1)) hk_l1 tfN_X1_67 dX1_passOne_8 ?_
    refine lv_icmp_ge (tgt := 53) C0.hx C0.hb dX1_passOne_11 (by decide) (fun hc1 => ?_) (fun hc1 => ?_)
    · replace h := (if_pos hc1).symm.trans h
      refine lv_aload_n C0.hx C0.hb dX1_passOne_53 rfl (lv_at hl 2 rfl) ?_
      refine lv_dup C0.hx C0.hb dX1_passOne_54 rfl ?_
      refine gfN_X9_3 C0 hW (C0.mem (kl9 hk_l2)) hk_l2 tfN_X1_79 dX1_passOne_55 ?_
      refine lv_iconst (v := (1 : Int32)) C0.hx C0.hb dX1_passOne_58 (by decide) ?_
      refine lv_iadd C0.hx C0.hb dX1_passOne_59 ?_
      refine gpN_X9_3 C0 hW (C0.mem (kl9 hk_l2)) hk_l2 tfN_X1_79 dX1_passOne_60 (fun H locs hW => ?_)
      refine lv_aload_n C0.hx C0.hb dX1_passOne_63 rfl (lv_at hl 2 rfl) ?_
      refine lv_dup C0.hx C0.hb dX1_passOne_64 rfl ?_
      refine gfN_X9_4 C0 hW (C0.mem (kl9 hk_l2)) hk_l2 tfN_X1_82 dX1_passOne_65 ?_
      refine lv_iload_n C0.hx C0.hb dX1_passOne_68 rfl (lv_at hl 3 rfl) ?_
      refine lv_iadd C0.hx C0.hb dX1_passOne_69 ?_
      refine gpN_X9_4 C0 hW (C0.mem (kl9 hk_l2)) hk_l2 tfN_X1_82 dX1_passOne_70 (fun H locs hW => ?_)
      refine lv_iload_n C0.hx C0.hb dX1_passOne_73 rfl (lv_at hl 3 rfl) ?_
      obtain rfl := Option.some.inj h
      exact g_iret C0 hW rfl rfl rfl dX1_passOne_74
    · replace h := (if_neg hc1).symm.trans h
      refine lv_aload_n C0.hx C0.hb dX1_passOne_14 rfl (lv_at hl 1 rfl) ?_
      refine lv_iload C0.hx C0.hb dX1_passOne_15 (lv_at hl 4 rfl) ?_
      obtain ⟨q2, hq2, h⟩ := Option.bind_eq_some_iff.mp h
      obtain ⟨hk3, h⟩ := g_if h
      refine g_callr hW (g_runV (As := [.int (l4)]) (rest := []) C0 hW (c_X5_rule hk_l1 hq2) (g_cwOf (n := 1) tc_X5_rule tn_X5 md_X5_rule (by decide) (by omega)) tm_X1_68 ti_X5_rule ts_X5_rule (C0.mem (kl7 hk_l1)) (g_c7 hk_l1) rfl rfl hl.1 rfl (Nat.le_of_ble_eq_true rfl) dX1_passOne_17) (fun H locs hW => ?_)
      refine lv_astore (lv' := [(5, .ref (g_ad G (q2))), (0, .ref (g_ad G (18))), (1, .ref (g_ad G (l1))), (2, .ref (g_ad G (l2))), (3, .int (l3)), (4, .int (l4))]) C0.hx C0.hb dX1_passOne_20 hl (by decide) rfl (fun ls hl => ?_)
      refine lv_aload_n C0.hx C0.hb dX1_passOne_22 rfl (lv_at hl 1 rfl) ?_
      refine lv_aload_n C0.hx C0.hb dX1_passOne_23 rfl (lv_at hl 2 rfl) ?_
      refine lv_aload_n C0.hx C0.hb dX1_passOne_24 rfl (lv_at hl 3 rfl) ?_
      refine lv_aload C0.hx C0.hb dX1_passOne_25 (lv_at hl 0 rfl) ?_
      obtain ⟨q4, hq4, h⟩ := Option.bind_eq_some_iff.mp h
      refine g_calli hW (g_runV (As := [.ref (g_ad G (l1)), .ref (g_ad G (l2)), .ref (g_ad G (q2))]) (rest := []) C0 hW (c_X1_holds hk_l1 hk_l2 hk3 hq4) (g_cwOf (n := 3) tc_X1_holds tn_X1 md_X1_holds (by decide) (by omega)) tm_X1_72 ti_X1_holds ts_X1_holds (C0.mem (i := 18) (Nat.le_of_ble_eq_true rfl)) (g_c6 k_18) rfl rfl hl.1 rfl (Nat.le_of_ble_eq_true rfl) dX1_passOne_27) (fun H locs hW => ?_)
      refine lv_if_eq (tgt := 47) C0.hx C0.hb dX1_passOne_30 (by decide) (fun hc5 => ?_) (fun hc5 => ?_)
      · replace h := (if_pos hc5).symm.trans h
        refine lv_iinc (v := l4 + (1 : Int32)) (lv' := [(4, .int (l4 + (1 : Int32))), (5, .ref (g_ad G (q2))), (0, .ref (g_ad G (18))), (1, .ref (g_ad G (l1))), (2, .ref (g_ad G (l2))), (3, .int (l3))]) C0.hx C0.hb dX1_passOne_47 hl (k := 5) rfl rfl (by decide) rfl (fun ls hl => ?_)
        refine lv_goto (tgt := 5) C0.hx C0.hb dX1_passOne_50 (by decide) ?_
        exact ih _ _ _ _ _ _ _ _ hk_l1 hk_l2 h hW (lv_sub hl [2, 3, 4, 5, 0] rfl)
      · replace h := (if_neg hc5).symm.trans h
        refine lv_aload_n C0.hx C0.hb dX1_passOne_33 rfl (lv_at hl 1 rfl) ?_
        refine lv_aload_n C0.hx C0.hb dX1_passOne_34 rfl (lv_at hl 2 rfl) ?_
        refine lv_aload_n C0.hx C0.hb dX1_passOne_35 rfl (lv_at hl 3 rfl) ?_
        refine lv_aload C0.hx C0.hb dX1_passOne_36 (lv_at hl 0 rfl) ?_
        obtain ⟨q6, hq6, h⟩ := Option.bind_eq_some_iff.mp h
        refine g_calli hW (g_runV (As := [.ref (g_ad G (l1)), .ref (g_ad G (l2)), .ref (g_ad G (q2))]) (rest := []) C0 hW (c_X1_changes hk_l1 hk_l2 hk3 hq6) (g_cwOf (n := 3) tc_X1_changes tn_X1 md_X1_changes (by decide) (by omega)) tm_X1_76 ti_X1_changes ts_X1_changes (C0.mem (i := 18) (Nat.le_of_ble_eq_true rfl)) (g_c6 k_18) rfl rfl hl.1 rfl (Nat.le_of_ble_eq_true rfl) dX1_passOne_38) (fun H locs hW => ?_)
        refine lv_if_eq (tgt := 47) C0.hx C0.hb dX1_passOne_41 (by decide) (fun hc7 => ?_) (fun hc7 => ?_)
        · replace h := (if_pos hc7).symm.trans h
          refine lv_iinc (v := l4 + (1 : Int32)) (lv' := [(4, .int (l4 + (1 : Int32))), (5, .ref (g_ad G (q2))), (0, .ref (g_ad G (18))), (1, .ref (g_ad G (l1))), (2, .ref (g_ad G (l2))), (3, .int (l3))]) C0.hx C0.hb dX1_passOne_47 hl (k := 5) rfl rfl (by decide) rfl (fun ls hl => ?_)
          refine lv_goto (tgt := 5) C0.hx C0.hb dX1_passOne_50 (by decide) ?_
          exact ih _ _ _ _ _ _ _ _ hk_l1 hk_l2 h hW (lv_sub hl [2, 3, 4, 5, 0] rfl)
        · replace h := (if_neg hc7).symm.trans h
          refine lv_iinc (v := l3 + (1 : Int32)) (lv' := [(3, .int (l3 + (1 : Int32))), (5, .ref (g_ad G (q2))), (0, .ref (g_ad G (18))), (1, .ref (g_ad G (l1))), (2, .ref (g_ad G (l2))), (4, .int (l4))]) C0.hx C0.hb dX1_passOne_44 hl (k := 4) rfl rfl (by decide) rfl (fun ls hl => ?_)
          refine lv_iinc (v := l4 + (1 : Int32)) (lv' := [(4, .int (l4 + (1 : Int32))), (3, .int (l3 + (1 : Int32))), (5, .ref (g_ad G (q2))), (0, .ref (g_ad G (18))), (1, .ref (g_ad G (l1))), (2, .ref (g_ad G (l2)))]) C0.hx C0.hb dX1_passOne_47 hl (k := 5) rfl rfl (by decide) rfl (fun ls hl => ?_)
          refine lv_goto (tgt := 5) C0.hx C0.hb dX1_passOne_50 (by decide) ?_
          exact ih _ _ _ _ _ _ _ _ hk_l1 hk_l2 h hW (lv_sub hl [3, 4, 5, 1, 0] rfl)
set_option maxRecDepth 100000 in
set_option maxHeartbeats 4000000 in
theorem c_X1_passOne {l : Launch} {G : GL} {ids : List Nat} {y : MS} {o : Nat → Int32} {x : CS} {p1 : Nat} {p2 : Nat} {q : Int32 × CS}   (hk_p1 : kd p1 = 7) (hk_p2 : kd p2 = 9) (h : f_X1_passOne p1 p2 x = some q) : Met l yX1_passOne (.code yX1_passOne cX1_passOne 6 (Option.some Jvm.ClassFile.FieldType.int) :: gT) (g_rm 6 0 0) (va_Pc [.ref (g_ad G (18)), .ref (g_ad G (p1)), .ref (g_ad G (p2))] (g_P G ids (x, y, o))) (g_Qi G ids q.1 (q.2, y, o)) 0 0 (g_A G) := by
  unfold f_X1_passOne at h
  refine g_entry (by decide) (Nat.le_of_ble_eq_true rfl) (fun p e s m args below meth c ls C0 hl hW _ => ?_)
  have hl : lv_has ls 6 [(0, .ref (g_ad G (18))), (1, .ref (g_ad G (p1))), (2, .ref (g_ad G (p2)))] := hl
  refine lv_iconst (v := (0 : Int32)) C0.hx C0.hb dX1_passOne_0 (by decide) ?_
  refine lv_istore_n (lv' := [(3, .int ((0 : Int32))), (0, .ref (g_ad G (18))), (1, .ref (g_ad G (p1))), (2, .ref (g_ad G (p2)))]) C0.hx C0.hb dX1_passOne_1 rfl hl (by decide) rfl (fun ls hl => ?_)
  refine lv_iconst (v := (0 : Int32)) C0.hx C0.hb dX1_passOne_2 (by decide) ?_
  refine lv_istore (lv' := [(4, .int ((0 : Int32))), (3, .int ((0 : Int32))), (0, .ref (g_ad G (18))), (1, .ref (g_ad G (p1))), (2, .ref (g_ad G (p2)))]) C0.hx C0.hb dX1_passOne_3 hl (by decide) rfl (fun ls hl => ?_)
  exact w_X1_passOne_5 C0 g_fuel _ _ _ _ _ _ _ _ hk_p1 hk_p2 h hW (lv_sub hl [2, 3, 4, 1, 0] rfl)
