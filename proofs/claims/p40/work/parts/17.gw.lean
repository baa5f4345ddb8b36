set_option maxRecDepth 100000 in
set_option maxHeartbeats 4000000 in
theorem c_X12_feed {l : Launch} {G : GL} {ids : List Nat} {y : MS} {o : Nat → Int32} {x : CS} {p1 : Int32} {p2 : Int32} {p3 : Int32} {p4 : Int32} {p5 : Int32} {q : Int32 × CS}    (h : f_X12_feed p1 p2 p3 p4 p5 x = some q) : Met l yX12_feed (.code yX12_feed cX12_feed 6 (Option.some Jvm.ClassFile.FieldType.int) :: gT) (g_rm 6 0 0) (va_Pc [.ref (g_ad G (0)), .int (p1), .int (p2), .int (p3), .int (p4), .int (p5)] (g_P G ids (x, y, o))) (g_Qi G ids q.1 (q.2, y, o)) 0 0 (g_A G) := by
  unfold f_X12_feed at h
  refine g_entry (by decide) (Nat.le_of_ble_eq_true rfl) (fun p e s m args below meth c ls C0 hl hW _ => ?_)
  have hl : lv_has ls 6 [(0, .ref (g_ad G (0))), (1, .int (p1)), (2, .int (p2)), (3, .int (p3)), (4, .int (p4)), (5, .int (p5))] := hl
  refine lv_aload_n C0.hx C0.hb dX12_feed_0 rfl (lv_at hl 0 rfl) ?_
  refine gf_X12_0 C0 hW (C0.mem (i := 0) (Nat.le_of_ble_eq_true rfl)) k_0 tf_X12_10 dX12_feed_1 ?_
  refine gfN_X7_1 C0 hW (C0.mem (i := 1) (Nat.le_of_ble_eq_true rfl)) k_1 tfN_X12_75 dX12_feed_4 ?_
  refine lv_sipush (v := (1980 : Int32)) C0.hx C0.hb dX12_feed_7 (by decide) ?_
  refine lv_icmp_le (tgt := 23) C0.hx C0.hb dX12_feed_10 (by decide) (fun hc1 => ?_) (fun hc1 => ?_)
  · replace h := (if_pos hc1).symm.trans h
    refine lv_aload_n C0.hx C0.hb dX12_feed_23 rfl (lv_at hl 0 rfl) ?_
    refine gf_X12_0 C0 hW (C0.mem (i := 0) (Nat.le_of_ble_eq_true rfl)) k_0 tf_X12_10 dX12_feed_24 ?_
    refine lv_iload_n C0.hx C0.hb dX12_feed_27 rfl (lv_at hl 1 rfl) ?_
    obtain ⟨q2, hq2, h⟩ := Option.bind_eq_some_iff.mp h
    refine g_callv hW (g_runV (As := [.int (p1)]) (rest := []) C0 hW (c_X7_append hq2) (g_cwOf (n := 1) tc_X7_append tn_X7 md_X7_append (by decide) (by omega)) tm_X12_85 ti_X7_append ts_X7_append (C0.mem (i := 1) (Nat.le_of_ble_eq_true rfl)) (g_c2 k_1) rfl rfl hl.1 rfl (Nat.le_of_ble_eq_true rfl) dX12_feed_28) (fun H locs hW => ?_)
    refine lv_aload_n C0.hx C0.hb dX12_feed_31 rfl (lv_at hl 0 rfl) ?_
    refine gf_X12_0 C0 hW (C0.mem (i := 0) (Nat.le_of_ble_eq_true rfl)) k_0 tf_X12_10 dX12_feed_32 ?_
    refine lv_iload_n C0.hx C0.hb dX12_feed_35 rfl (lv_at hl 2 rfl) ?_
    obtain ⟨q3, hq3, h⟩ := Option.bind_eq_some_iff.mp h
    refine g_callv hW (g_runV (As := [.int (p2)]) (rest := []) C0 hW (c_X7_append hq3) (g_cwOf (n := 1) tc_X7_append tn_X7 md_X7_append (by decide) (by omega)) tm_X12_85 ti_X7_append ts_X7_append (C0.mem (i := 1) (Nat.le_of_ble_eq_true rfl)) (g_c2 k_1) rfl rfl hl.1 rfl (Nat.le_of_ble_eq_true rfl) dX12_feed_36) (fun H locs hW => ?_)
    refine lv_aload_n C0.hx C0.hb dX12_feed_39 rfl (lv_at hl 0 rfl) ?_
    refine gf_X12_0 C0 hW (C0.mem (i := 0) (Nat.le_of_ble_eq_true rfl)) k_0 tf_X12_10 dX12_feed_40 ?_
    refine lv_iload_n C0.hx C0.hb dX12_feed_43 rfl (lv_at hl 3 rfl) ?_
    obtain ⟨q4, hq4, h⟩ := Option.bind_eq_some_iff.mp h
    refine g_callv hW (g_runV (As := [.int (p3)]) (rest := []) C0 hW (c_X7_append hq4) (g_cwOf (n := 1) tc_X7_append tn_X7 md_X7_append (by decide) (by omega)) tm_X12_85 ti_X7_append ts_X7_append (C0.mem (i := 1) (Nat.le_of_ble_eq_true rfl)) (g_c2 k_1) rfl rfl hl.1 rfl (Nat.le_of_ble_eq_true rfl) dX12_feed_44) (fun H locs hW => ?_)
    refine lv_aload_n C0.hx C0.hb dX12_feed_47 rfl (lv_at hl 0 rfl) ?_
    refine gf_X12_0 C0 hW (C0.mem (i := 0) (Nat.le_of_ble_eq_true rfl)) k_0 tf_X12_10 dX12_feed_48 ?_
    refine lv_iload C0.hx C0.hb dX12_feed_51 (lv_at hl 4 rfl) ?_
    obtain ⟨q5, hq5, h⟩ := Option.bind_eq_some_iff.mp h
    refine g_callv hW (g_runV (As := [.int (p4)]) (rest := []) C0 hW (c_X7_append hq5) (g_cwOf (n := 1) tc_X7_append tn_X7 md_X7_append (by decide) (by omega)) tm_X12_85 ti_X7_append ts_X7_append (C0.mem (i := 1) (Nat.le_of_ble_eq_true rfl)) (g_c2 k_1) rfl rfl hl.1 rfl (Nat.le_of_ble_eq_true rfl) dX12_feed_53) (fun H locs hW => ?_)
    refine lv_aload_n C0.hx C0.hb dX12_feed_56 rfl (lv_at hl 0 rfl) ?_
    refine gf_X12_0 C0 hW (C0.mem (i := 0) (Nat.le_of_ble_eq_true rfl)) k_0 tf_X12_10 dX12_feed_57 ?_
    refine lv_iload C0.hx C0.hb dX12_feed_60 (lv_at hl 5 rfl) ?_
    obtain ⟨q6, hq6, h⟩ := Option.bind_eq_some_iff.mp h
    refine g_callv hW (g_runV (As := [.int (p5)]) (rest := []) C0 hW (c_X7_append hq6) (g_cwOf (n := 1) tc_X7_append tn_X7 md_X7_append (by decide) (by omega)) tm_X12_85 ti_X7_append ts_X7_append (C0.mem (i := 1) (Nat.le_of_ble_eq_true rfl)) (g_c2 k_1) rfl rfl hl.1 rfl (Nat.le_of_ble_eq_true rfl) dX12_feed_62) (fun H locs hW => ?_)
    refine lv_aload_n C0.hx C0.hb dX12_feed_65 rfl (lv_at hl 0 rfl) ?_
    refine gf_X12_0 C0 hW (C0.mem (i := 0) (Nat.le_of_ble_eq_true rfl)) k_0 tf_X12_10 dX12_feed_66 ?_
    refine gfN_X7_1 C0 hW (C0.mem (i := 1) (Nat.le_of_ble_eq_true rfl)) k_1 tfN_X12_75 dX12_feed_69 ?_
    obtain rfl := Option.some.inj h
    exact g_iret C0 hW rfl rfl rfl dX12_feed_72
  · replace h := (if_neg hc1).symm.trans h
    cases h
set_option maxRecDepth 100000 in
set_option maxHeartbeats 4000000 in
theorem w_X12_trim_15 {p : Program} {l : Launch} {e : Env} {s : State} {m : MethodId} {args : Array Value} {below : List Frame} {meth : Method} {c : Code} {G : GL} {ids : List Nat} {y : MS} {o : Nat → Int32}  {q : Int32 × CS}   (C0 : g_X G ids p s m args meth c cX12_trim 2 RX12 (Option.some Jvm.ClassFile.FieldType.int))  : ∀   (x : CS) (H : Heap) (locs : List Loc) (ls : Array Slot),  f_X12_trim_15 x = some q → g_W G ids (x, y, o) s.heap H locs → lv_has ls 2 [] → W p l e (g_rm 6 0 0) s m args below meth c H locs 0 0 (MQ below (g_Qi G ids q.1 (q.2, y, o)) args s 0 0 (g_A G)) (F0 m 15 ls []) := by
  intro x H locs ls h hW hl
  unfold f_X12_trim_15 at h
  cases h
set_option maxRecDepth 100000 in
set_option maxHeartbeats 4000000 in
theorem c_X12_trim {l : Launch} {G : GL} {ids : List Nat} {y : MS} {o : Nat → Int32} {x : CS} {p1 : Int32} {q : Int32 × CS}    (h : f_X12_trim p1 x = some q) : Met l yX12_trim (.code yX12_trim cX12_trim 2 (Option.some Jvm.ClassFile.FieldType.int) :: gT) (g_rm 6 0 0) (va_Pc [.ref (g_ad G (0)), .int (p1)] (g_P G ids (x, y, o))) (g_Qi G ids q.1 (q.2, y, o)) 0 0 (g_A G) := by
  unfold f_X12_trim at h
  refine g_entry (by decide) (Nat.le_of_ble_eq_true rfl) (fun p e s m args below meth c ls C0 hl hW _ => ?_)
  have hl : lv_has ls 2 [(0, .ref (g_ad G (0))), (1, .int (p1))] := hl
  refine lv_iload_n C0.hx C0.hb dX12_trim_0 rfl (lv_at hl 1 rfl) ?_
  refine lv_if_lt (tgt := 15) C0.hx C0.hb dX12_trim_1 (by decide) (fun hc1 => ?_) (fun hc1 => ?_)
  · replace h := (if_pos hc1).symm.trans h
    exact w_X12_trim_15 C0 _ _ _ _ h hW (lv_sub hl [] rfl)
  · replace h := (if_neg hc1).symm.trans h
    refine lv_iload_n C0.hx C0.hb dX12_trim_4 rfl (lv_at hl 1 rfl) ?_
    refine lv_aload_n C0.hx C0.hb dX12_trim_5 rfl (lv_at hl 0 rfl) ?_
    refine gf_X12_0 C0 hW (C0.mem (i := 0) (Nat.le_of_ble_eq_true rfl)) k_0 tf_X12_10 dX12_trim_6 ?_
    refine gfN_X7_1 C0 hW (C0.mem (i := 1) (Nat.le_of_ble_eq_true rfl)) k_1 tfN_X12_75 dX12_trim_9 ?_
    refine lv_icmp_le (tgt := 25) C0.hx C0.hb dX12_trim_12 (by decide) (fun hc2 => ?_) (fun hc2 => ?_)
    · replace h := (if_pos hc2).symm.trans h
      refine lv_aload_n C0.hx C0.hb dX12_trim_25 rfl (lv_at hl 0 rfl) ?_
      refine gf_X12_0 C0 hW (C0.mem (i := 0) (Nat.le_of_ble_eq_true rfl)) k_0 tf_X12_10 dX12_trim_26 ?_
      refine lv_iload_n C0.hx C0.hb dX12_trim_29 rfl (lv_at hl 1 rfl) ?_
      refine gpN_X7_1 C0 hW (C0.mem (i := 1) (Nat.le_of_ble_eq_true rfl)) k_1 tfN_X12_75 dX12_trim_30 (fun H locs hW => ?_)
      refine lv_iload_n C0.hx C0.hb dX12_trim_33 rfl (lv_at hl 1 rfl) ?_
      obtain rfl := Option.some.inj h
      exact g_iret C0 hW rfl rfl rfl dX12_trim_34
    · replace h := (if_neg hc2).symm.trans h
      exact w_X12_trim_15 C0 _ _ _ _ h hW (lv_sub hl [] rfl)
set_option maxRecDepth 100000 in
set_option maxHeartbeats 4000000 in
theorem c_X12_words {l : Launch} {G : GL} {ids : List Nat} {y : MS} {o : Nat → Int32} {x : CS}  {q : Int32}    (h : f_X12_words x = some q) : Met l yX12_words (.code yX12_words cX12_words 1 (Option.some Jvm.ClassFile.FieldType.int) :: gT) (g_rm 0 0 0) (va_Pc [.ref (g_ad G (0))] (g_P G ids (x, y, o))) (g_Qi G ids q (x, y, o)) 0 0 (g_A G) := by
  unfold f_X12_words at h
  refine g_entry (by decide) (Nat.le_of_ble_eq_true rfl) (fun p e s m args below meth c ls C0 hl hW _ => ?_)
  have hl : lv_has ls 1 [(0, .ref (g_ad G (0)))] := hl
  refine lv_aload_n C0.hx C0.hb dX12_words_0 rfl (lv_at hl 0 rfl) ?_
  obtain ⟨hk1, h⟩ := g_if h
  refine gf_X12_7 C0 hW (C0.mem (i := 0) (Nat.le_of_ble_eq_true rfl)) k_0 tf_X12_61 dX12_words_1 ?_
  refine gfN_X9_2 C0 hW (C0.mem (kl9 hk1)) hk1 tfN_X12_114 dX12_words_4 ?_
  obtain rfl := Option.some.inj h
  exact g_iret C0 hW rfl rfl rfl dX12_words_7
set_option maxRecDepth 100000 in
set_option maxHeartbeats 4000000 in
theorem c_X12_keptWords {l : Launch} {G : GL} {ids : List Nat} {y : MS} {o : Nat → Int32} {x : CS}  {q : Int32}    (h : f_X12_keptWords x = some q) : Met l yX12_keptWords (.code yX12_keptWords cX12_keptWords 1 (Option.some Jvm.ClassFile.FieldType.int) :: gT) (g_rm 2 0 0) (va_Pc [.ref (g_ad G (0))] (g_P G ids (x, y, o))) (g_Qi G ids q (x, y, o)) 0 0 (g_A G) := by
  unfold f_X12_keptWords at h
  refine g_entry (by decide) (Nat.le_of_ble_eq_true rfl) (fun p e s m args below meth c ls C0 hl hW _ => ?_)
  have hl : lv_has ls 1 [(0, .ref (g_ad G (0)))] := hl
  refine lv_aload_n C0.hx C0.hb dX12_keptWords_0 rfl (lv_at hl 0 rfl) ?_
  obtain ⟨hk1, h⟩ := g_if h
  refine gf_X12_7 C0 hW (C0.mem (i := 0) (Nat.le_of_ble_eq_true rfl)) k_0 tf_X12_61 dX12_keptWords_1 ?_
  obtain ⟨q2, hq2, h⟩ := Option.bind_eq_some_iff.mp h
  refine g_calli hW (g_runV (As := []) (rest := []) C0 hW (c_X9_countKept hk1 hq2) (g_cwOf (n := 0) tc_X9_countKept tn_X9 md_X9_countKept (by decide) (by omega)) tm_X12_117 ti_X9_countKept ts_X9_countKept (C0.mem (kl9 hk1)) (g_c9 hk1) rfl rfl hl.1 rfl (Nat.le_of_ble_eq_true rfl) dX12_keptWords_4) (fun H locs hW => ?_)
  obtain rfl := Option.some.inj h
  exact g_iret C0 hW rfl rfl rfl dX12_keptWords_7
set_option maxRecDepth 100000 in
set_option maxHeartbeats 4000000 in
theorem c_X12_rules {l : Launch} {G : GL} {ids : List Nat} {y : MS} {o : Nat → Int32} {x : CS}  {q : Int32}    (h : f_X12_rules x = some q) : Met l yX12_rules (.code yX12_rules cX12_rules 1 (Option.some Jvm.ClassFile.FieldType.int) :: gT) (g_rm 0 0 0) (va_Pc [.ref (g_ad G (0))] (g_P G ids (x, y, o))) (g_Qi G ids q (x, y, o)) 0 0 (g_A G) := by
  unfold f_X12_rules at h
  refine g_entry (by decide) (Nat.le_of_ble_eq_true rfl) (fun p e s m args below meth c ls C0 hl hW _ => ?_)
  have hl : lv_has ls 1 [(0, .ref (g_ad G (0)))] := hl
  refine lv_aload_n C0.hx C0.hb dX12_rules_0 rfl (lv_at hl 0 rfl) ?_
  obtain ⟨hk1, h⟩ := g_if h
  refine gf_X12_6 C0 hW (C0.mem (i := 0) (Nat.le_of_ble_eq_true rfl)) k_0 tf_X12_54 dX12_rules_1 ?_
  refine gfN_X5_4 C0 hW (C0.mem (kl7 hk1)) hk1 tfN_X12_121 dX12_rules_4 ?_
  obtain rfl := Option.some.inj h
  exact g_iret C0 hW rfl rfl rfl dX12_rules_7
set_option maxRecDepth 100000 in
set_option maxHeartbeats 4000000 in
theorem c_X12_lessons {l : Launch} {G : GL} {ids : List Nat} {y : MS} {o : Nat → Int32} {x : CS}  {q : Int32}    (h : f_X12_lessons x = some q) : Met l yX12_lessons (.code yX12_lessons cX12_lessons 1 (Option.some Jvm.ClassFile.FieldType.int) :: gT) (g_rm 0 0 0) (va_Pc [.ref (g_ad G (0))] (g_P G ids (x, y, o))) (g_Qi G ids q (x, y, o)) 0 0 (g_A G) := by
  unfold f_X12_lessons at h
  refine g_entry (by decide) (Nat.le_of_ble_eq_true rfl) (fun p e s m args below meth c ls C0 hl hW _ => ?_)
  have hl : lv_has ls 1 [(0, .ref (g_ad G (0)))] := hl
  refine lv_aload_n C0.hx C0.hb dX12_lessons_0 rfl (lv_at hl 0 rfl) ?_
  obtain ⟨hk1, h⟩ := g_if h
  refine gf_X12_7 C0 hW (C0.mem (i := 0) (Nat.le_of_ble_eq_true rfl)) k_0 tf_X12_61 dX12_lessons_1 ?_
  refine gfN_X9_3 C0 hW (C0.mem (kl9 hk1)) hk1 tfN_X12_122 dX12_lessons_4 ?_
  obtain rfl := Option.some.inj h
  exact g_iret C0 hW rfl rfl rfl dX12_lessons_7
set_option maxRecDepth 100000 in
set_option maxHeartbeats 4000000 in
theorem c_X12_rulesCarriedOut {l : Launch} {G : GL} {ids : List Nat} {y : MS} {o : Nat → Int32} {x : CS}  {q : Int32}    (h : f_X12_rulesCarriedOut x = some q) : Met l yX12_rulesCarriedOut (.code yX12_rulesCarriedOut cX12_rulesCarriedOut 1 (Option.some Jvm.ClassFile.FieldType.int) :: gT) (g_rm 0 0 0) (va_Pc [.ref (g_ad G (0))] (g_P G ids (x, y, o))) (g_Qi G ids q (x, y, o)) 0 0 (g_A G) := by
  unfold f_X12_rulesCarriedOut at h
  refine g_entry (by decide) (Nat.le_of_ble_eq_true rfl) (fun p e s m args below meth c ls C0 hl hW _ => ?_)
  have hl : lv_has ls 1 [(0, .ref (g_ad G (0)))] := hl
  refine lv_aload_n C0.hx C0.hb dX12_rulesCarriedOut_0 rfl (lv_at hl 0 rfl) ?_
  obtain ⟨hk1, h⟩ := g_if h
  refine gf_X12_7 C0 hW (C0.mem (i := 0) (Nat.le_of_ble_eq_true rfl)) k_0 tf_X12_61 dX12_rulesCarriedOut_1 ?_
  refine gfN_X9_4 C0 hW (C0.mem (kl9 hk1)) hk1 tfN_X12_125 dX12_rulesCarriedOut_4 ?_
  obtain rfl := Option.some.inj h
  exact g_iret C0 hW rfl rfl rfl dX12_rulesCarriedOut_7
set_option maxRecDepth 100000 in
set_option maxHeartbeats 4000000 in
theorem c_X12_heardBeats {l : Launch} {G : GL} {ids : List Nat} {y : MS} {o : Nat → Int32} {x : CS}  {q : Int32}    (h : f_X12_heardBeats x = some q) : Met l yX12_heardBeats (.code yX12_heardBeats cX12_heardBeats 1 (Option.some Jvm.ClassFile.FieldType.int) :: gT) (g_rm 0 0 0) (va_Pc [.ref (g_ad G (0))] (g_P G ids (x, y, o))) (g_Qi G ids q (x, y, o)) 0 0 (g_A G) := by
  unfold f_X12_heardBeats at h
  refine g_entry (by decide) (Nat.le_of_ble_eq_true rfl) (fun p e s m args below meth c ls C0 hl hW _ => ?_)
  have hl : lv_has ls 1 [(0, .ref (g_ad G (0)))] := hl
  refine lv_aload_n C0.hx C0.hb dX12_heardBeats_0 rfl (lv_at hl 0 rfl) ?_
  refine gf_X12_3 C0 hW (C0.mem (i := 0) (Nat.le_of_ble_eq_true rfl)) k_0 tf_X12_35 dX12_heardBeats_1 ?_
  refine gfN_X3_1 C0 hW (C0.mem (i := 14) (Nat.le_of_ble_eq_true rfl)) k_14 tfN_X12_128 dX12_heardBeats_4 ?_
  obtain rfl := Option.some.inj h
  exact g_iret C0 hW rfl rfl rfl dX12_heardBeats_7
set_option maxRecDepth 100000 in
set_option maxHeartbeats 4000000 in
theorem w_X12_requireWord_15 {p : Program} {l : Launch} {e : Env} {s : State} {m : MethodId} {args : Array Value} {below : List Frame} {meth : Method} {c : Code} {G : GL} {ids : List Nat} {y : MS} {o : Nat → Int32} {x : CS} {q : Unit}   (C0 : g_X G ids p s m args meth c cX12_requireWord 2 RX12 (Option.none : Option Jvm.ClassFile.FieldType))  : ∀    (H : Heap) (locs : List Loc) (ls : Array Slot),  f_X12_requireWord_15 x = some q → g_W G ids (x, y, o) s.heap H locs → lv_has ls 2 [] → W p l e (g_rm 6 0 0) s m args below meth c H locs 0 0 (MQ below (g_Qv G ids (x, y, o)) args s 0 0 (g_A G)) (F0 m 15 ls []) := by
  intro H locs ls h hW hl
  unfold f_X12_requireWord_15 at h
  cases h
set_option maxRecDepth 100000 in
set_option maxHeartbeats 4000000 in
theorem c_X12_requireWord {l : Launch} {G : GL} {ids : List Nat} {y : MS} {o : Nat → Int32} {x : CS} {p1 : Int32} {q : Unit}    (h : f_X12_requireWord p1 x = some q) : Met l yX12_requireWord (.code yX12_requireWord cX12_requireWord 2 (Option.none : Option Jvm.ClassFile.FieldType) :: gT) (g_rm 6 0 0) (va_Pc [.ref (g_ad G (0)), .int (p1)] (g_P G ids (x, y, o))) (g_Qv G ids (x, y, o)) 0 0 (g_A G) := by
  unfold f_X12_requireWord at h
  refine g_entry (by decide) (Nat.le_of_ble_eq_true rfl) (fun p e s m args below meth c ls C0 hl hW _ => ?_)
  have hl : lv_has ls 2 [(0, .ref (g_ad G (0))), (1, .int (p1))] := hl
  refine lv_iload_n C0.hx C0.hb dX12_requireWord_0 rfl (lv_at hl 1 rfl) ?_
  refine lv_if_lt (tgt := 15) C0.hx C0.hb dX12_requireWord_1 (by decide) (fun hc1 => ?_) (fun hc1 => ?_)
  · replace h := (if_pos hc1).symm.trans h
    exact w_X12_requireWord_15 C0 _ _ _ h hW (lv_sub hl [] rfl)
  · replace h := (if_neg hc1).symm.trans h
    refine lv_iload_n C0.hx C0.hb dX12_requireWord_4 rfl (lv_at hl 1 rfl) ?_
    refine lv_aload_n C0.hx C0.hb dX12_requireWord_5 rfl (lv_at hl 0 rfl) ?_
    obtain ⟨hk2, h⟩ := g_if h
    refine gf_X12_7 C0 hW (C0.mem (i := 0) (Nat.le_of_ble_eq_true rfl)) k_0 tf_X12_61 dX12_requireWord_6 ?_
    refine gfN_X9_2 C0 hW (C0.mem (kl9 hk2)) hk2 tfN_X12_114 dX12_requireWord_9 ?_
    refine lv_icmp_lt (tgt := 25) C0.hx C0.hb dX12_requireWord_12 (by decide) (fun hc3 => ?_) (fun hc3 => ?_)
    · replace h := (if_pos hc3).symm.trans h
      obtain rfl := Option.some.inj h
      exact g_vret C0 hW rfl dX12_requireWord_25
    · replace h := (if_neg hc3).symm.trans h
      exact w_X12_requireWord_15 C0 _ _ _ h hW (lv_sub hl [] rfl)
set_option maxRecDepth 100000 in
set_option maxHeartbeats 4000000 in
theorem c_X12_rowOf {l : Launch} {G : GL} {ids : List Nat} {y : MS} {o : Nat → Int32} {x : CS} {p1 : Int32} {q : Nat}    (h : f_X12_rowOf p1 x = some q) : Met l yX12_rowOf (.code yX12_rowOf cX12_rowOf 2 (Option.some (Jvm.ClassFile.FieldType.object "GlideWhistles$Row")) :: gT) (g_rm 1 0 0) (va_Pc [.ref (g_ad G (0)), .int (p1)] (g_P G ids (x, y, o))) (g_Qr G ids (g_ad G q) (x, y, o)) 0 0 (g_A G) := by
  unfold f_X12_rowOf at h
  refine g_entry (by decide) (Nat.le_of_ble_eq_true rfl) (fun p e s m args below meth c ls C0 hl hW _ => ?_)
  have hl : lv_has ls 2 [(0, .ref (g_ad G (0))), (1, .int (p1))] := hl
  refine lv_aload_n C0.hx C0.hb dX12_rowOf_0 rfl (lv_at hl 0 rfl) ?_
  obtain ⟨hk1, h⟩ := g_if h
  refine gf_X12_7 C0 hW (C0.mem (i := 0) (Nat.le_of_ble_eq_true rfl)) k_0 tf_X12_61 dX12_rowOf_1 ?_
  refine lv_iload_n C0.hx C0.hb dX12_rowOf_4 rfl (lv_at hl 1 rfl) ?_
  obtain ⟨q2, hq2, h⟩ := Option.bind_eq_some_iff.mp h
  obtain ⟨hk3, h⟩ := g_if h
  refine g_callr hW (g_runV (As := [.int (p1)]) (rest := []) C0 hW (c_X9_word hk1 hq2) (g_cwOf (n := 1) tc_X9_word tn_X9 md_X9_word (by decide) (by omega)) tm_X12_147 ti_X9_word ts_X9_word (C0.mem (kl9 hk1)) (g_c9 hk1) rfl rfl hl.1 rfl (Nat.le_of_ble_eq_true rfl) dX12_rowOf_5) (fun H locs hW => ?_)
  refine gfN_X11_0 C0 hW (C0.mem (kl10 hk3)) hk3 tfN_X12_258 dX12_rowOf_8 ?_
  obtain rfl := Option.some.inj h
  exact g_aret C0 hW rfl rfl dX12_rowOf_11
set_option maxRecDepth 100000 in
set_option maxHeartbeats 4000000 in
theorem c_X12_lengthOf {l : Launch} {G : GL} {ids : List Nat} {y : MS} {o : Nat → Int32} {x : CS} {p1 : Int32} {q : Int32}    (h : f_X12_lengthOf p1 x = some q) : Met l yX12_lengthOf (.code yX12_lengthOf cX12_lengthOf 2 (Option.some Jvm.ClassFile.FieldType.int) :: gT) (g_rm 7 0 0) (va_Pc [.ref (g_ad G (0)), .int (p1)] (g_P G ids (x, y, o))) (g_Qi G ids q (x, y, o)) 0 0 (g_A G) := by
  unfold f_X12_lengthOf at h
  refine g_entry (by decide) (Nat.le_of_ble_eq_true rfl) (fun p e s m args below meth c ls C0 hl hW _ => ?_)
  have hl : lv_has ls 2 [(0, .ref (g_ad G (0))), (1, .int (p1))] := hl
  refine lv_aload_n C0.hx C0.hb dX12_lengthOf_0 rfl (lv_at hl 0 rfl) ?_
  refine lv_iload_n C0.hx C0.hb dX12_lengthOf_1 rfl (lv_at hl 1 rfl) ?_
  obtain ⟨q1, hq1, h⟩ := Option.bind_eq_some_iff.mp h
  refine g_callv hW (g_runV (As := [.int (p1)]) (rest := []) C0 hW (c_X12_requireWord hq1) (g_cwOf (n := 1) tc_X12_requireWord tn_X12 md_X12_requireWord (by decide) (by omega)) tm_X12_129 ti_X12_requireWord ts_X12_requireWord (C0.mem (i := 0) (Nat.le_of_ble_eq_true rfl)) (g_c1 k_0) rfl rfl hl.1 rfl (Nat.le_of_ble_eq_true rfl) dX12_lengthOf_2) (fun H locs hW => ?_)
  refine lv_aload_n C0.hx C0.hb dX12_lengthOf_5 rfl (lv_at hl 0 rfl) ?_
  refine lv_iload_n C0.hx C0.hb dX12_lengthOf_6 rfl (lv_at hl 1 rfl) ?_
  obtain ⟨q2, hq2, h⟩ := Option.bind_eq_some_iff.mp h
  obtain ⟨hk3, h⟩ := g_if h
  refine g_callr hW (g_runV (As := [.int (p1)]) (rest := []) C0 hW (c_X12_rowOf hq2) (g_cwOf (n := 1) tc_X12_rowOf tn_X12 md_X12_rowOf (by decide) (by omega)) tm_X12_132 ti_X12_rowOf ts_X12_rowOf (C0.mem (i := 0) (Nat.le_of_ble_eq_true rfl)) (g_c1 k_0) rfl rfl hl.1 rfl (Nat.le_of_ble_eq_true rfl) dX12_lengthOf_7) (fun H locs hW => ?_)
  refine gfN_X3_1 C0 hW (C0.mem (kl5 hk3)) hk3 tfN_X12_128 dX12_lengthOf_10 ?_
  obtain rfl := Option.some.inj h
  exact g_iret C0 hW rfl rfl rfl dX12_lengthOf_13
set_option maxRecDepth 100000 in
set_option maxHeartbeats 4000000 in
theorem w_X12_requireBeat_12 {p : Program} {l : Launch} {e : Env} {s : State} {m : MethodId} {args : Array Value} {below : List Frame} {meth : Method} {c : Code} {G : GL} {ids : List Nat} {y : MS} {o : Nat → Int32} {x : CS} {q : Unit}   (C0 : g_X G ids p s m args meth c cX12_requireBeat 2 RX12 (Option.none : Option Jvm.ClassFile.FieldType))  : ∀    (H : Heap) (locs : List Loc) (ls : Array Slot),  f_X12_requireBeat_12 x = some q → g_W G ids (x, y, o) s.heap H locs → lv_has ls 2 [] → W p l e (g_rm 6 0 0) s m args below meth c H locs 0 0 (MQ below (g_Qv G ids (x, y, o)) args s 0 0 (g_A G)) (F0 m 12 ls []) := by
  intro H locs ls h hW hl
  unfold f_X12_requireBeat_12 at h
  cases h
set_option maxRecDepth 100000 in
set_option maxHeartbeats 4000000 in
theorem c_X12_requireBeat {l : Launch} {G : GL} {ids : List Nat} {y : MS} {o : Nat → Int32} {x : CS} {p1 : Nat} {p2 : Int32} {q : Unit}   (hk_p1 : kd p1 = 5) (h : f_X12_requireBeat p1 p2 x = some q) : Met l yX12_requireBeat (.code yX12_requireBeat cX12_requireBeat 2 (Option.none : Option Jvm.ClassFile.FieldType) :: gT) (g_rm 6 0 0) (va_Pc [.ref (g_ad G (p1)), .int (p2)] (g_P G ids (x, y, o))) (g_Qv G ids (x, y, o)) 0 0 (g_A G) := by
  unfold f_X12_requireBeat at h
  refine g_entry (by decide) (Nat.le_of_ble_eq_true rfl) (fun p e s m args below meth c ls C0 hl hW _ => ?_)
  have hl : lv_has ls 2 [(0, .ref (g_ad G (p1))), (1, .int (p2))] := hl
  refine lv_iload_n C0.hx C0.hb dX12_requireBeat_0 rfl (lv_at hl 1 rfl) ?_
  refine lv_if_lt (tgt := 12) C0.hx C0.hb dX12_requireBeat_1 (by decide) (fun hc1 => ?_) (fun hc1 => ?_)
  · replace h := (if_pos hc1).symm.trans h
    exact w_X12_requireBeat_12 C0 _ _ _ h hW (lv_sub hl [] rfl)
  · replace h := (if_neg hc1).symm.trans h
    refine lv_iload_n C0.hx C0.hb dX12_requireBeat_4 rfl (lv_at hl 1 rfl) ?_
    refine lv_aload_n C0.hx C0.hb dX12_requireBeat_5 rfl (lv_at hl 0 rfl) ?_
    refine gfN_X3_1 C0 hW (C0.mem (kl5 hk_p1)) hk_p1 tfN_X12_128 dX12_requireBeat_6 ?_
    refine lv_icmp_lt (tgt := 22) C0.hx C0.hb dX12_requireBeat_9 (by decide) (fun hc2 => ?_) (fun hc2 => ?_)
    · replace h := (if_pos hc2).symm.trans h
      obtain rfl := Option.some.inj h
      exact g_vret C0 hW rfl dX12_requireBeat_22
    · replace h := (if_neg hc2).symm.trans h
      exact w_X12_requireBeat_12 C0 _ _ _ h hW (lv_sub hl [] rfl)
set_option maxRecDepth 100000 in
set_option maxHeartbeats 4000000 in
theorem c_X12_pitchAt {l : Launch} {G : GL} {ids : List Nat} {y : MS} {o : Nat → Int32} {x : CS} {p1 : Int32} {p2 : Int32} {q : Int32}    (h : f_X12_pitchAt p1 p2 x = some q) : Met l yX12_pitchAt (.code yX12_pitchAt cX12_pitchAt 3 (Option.some Jvm.ClassFile.FieldType.int) :: gT) (g_rm 7 0 0) (va_Pc [.ref (g_ad G (0)), .int (p1), .int (p2)] (g_P G ids (x, y, o))) (g_Qi G ids q (x, y, o)) 0 0 (g_A G) := by
  unfold f_X12_pitchAt at h
  refine g_entry (by decide) (Nat.le_of_ble_eq_true rfl) (fun p e s m args below meth c ls C0 hl hW _ => ?_)
  have hl : lv_has ls 3 [(0, .ref (g_ad G (0))), (1, .int (p1)), (2, .int (p2))] := hl
  refine lv_aload_n C0.hx C0.hb dX12_pitchAt_0 rfl (lv_at hl 0 rfl) ?_
  refine lv_iload_n C0.hx C0.hb dX12_pitchAt_1 rfl (lv_at hl 1 rfl) ?_
  obtain ⟨q1, hq1, h⟩ := Option.bind_eq_some_iff.mp h
  refine g_callv hW (g_runV (As := [.int (p1)]) (rest := []) C0 hW (c_X12_requireWord hq1) (g_cwOf (n := 1) tc_X12_requireWord tn_X12 md_X12_requireWord (by decide) (by omega)) tm_X12_129 ti_X12_requireWord ts_X12_requireWord (C0.mem (i := 0) (Nat.le_of_ble_eq_true rfl)) (g_c1 k_0) rfl rfl hl.1 rfl (Nat.le_of_ble_eq_true rfl) dX12_pitchAt_2) (fun H locs hW => ?_)
  refine lv_aload_n C0.hx C0.hb dX12_pitchAt_5 rfl (lv_at hl 0 rfl) ?_
  refine lv_iload_n C0.hx C0.hb dX12_pitchAt_6 rfl (lv_at hl 1 rfl) ?_
  obtain ⟨q2, hq2, h⟩ := Option.bind_eq_some_iff.mp h
  obtain ⟨hk3, h⟩ := g_if h
  refine g_callr hW (g_runV (As := [.int (p1)]) (rest := []) C0 hW (c_X12_rowOf hq2) (g_cwOf (n := 1) tc_X12_rowOf tn_X12 md_X12_rowOf (by decide) (by omega)) tm_X12_132 ti_X12_rowOf ts_X12_rowOf (C0.mem (i := 0) (Nat.le_of_ble_eq_true rfl)) (g_c1 k_0) rfl rfl hl.1 rfl (Nat.le_of_ble_eq_true rfl) dX12_pitchAt_7) (fun H locs hW => ?_)
  refine lv_iload_n C0.hx C0.hb dX12_pitchAt_10 rfl (lv_at hl 2 rfl) ?_
  obtain ⟨q4, hq4, h⟩ := Option.bind_eq_some_iff.mp h
  refine g_callv hW (g_runS (As := [.ref (g_ad G (q2)), .int (p2)]) (rest := []) C0 hW (c_X12_requireBeat hk3 hq4) (g_cwOf (n := 2) tc_X12_requireBeat tn_X12 md_X12_requireBeat (by decide) (by omega)) tm_X12_136 tz_X12_requireBeat rfl hl.1 rfl (Nat.le_of_ble_eq_true rfl) dX12_pitchAt_11) (fun H locs hW => ?_)
  refine lv_aload_n C0.hx C0.hb dX12_pitchAt_14 rfl (lv_at hl 0 rfl) ?_
  refine lv_iload_n C0.hx C0.hb dX12_pitchAt_15 rfl (lv_at hl 1 rfl) ?_
  obtain ⟨q5, hq5, h⟩ := Option.bind_eq_some_iff.mp h
  obtain ⟨hk6, h⟩ := g_if h
  refine g_callr hW (g_runV (As := [.int (p1)]) (rest := []) C0 hW (c_X12_rowOf hq5) (g_cwOf (n := 1) tc_X12_rowOf tn_X12 md_X12_rowOf (by decide) (by omega)) tm_X12_132 ti_X12_rowOf ts_X12_rowOf (C0.mem (i := 0) (Nat.le_of_ble_eq_true rfl)) (g_c1 k_0) rfl rfl hl.1 rfl (Nat.le_of_ble_eq_true rfl) dX12_pitchAt_16) (fun H locs hW => ?_)
  refine lv_iload_n C0.hx C0.hb dX12_pitchAt_19 rfl (lv_at hl 2 rfl) ?_
  obtain ⟨q7, hq7, h⟩ := Option.bind_eq_some_iff.mp h
  refine g_calli hW (g_runV (As := [.int (p2)]) (rest := []) C0 hW (c_X3_pitch hk6 hq7) (g_cwOf (n := 1) tc_X3_pitch tn_X3 md_X3_pitch (by decide) (by omega)) tm_X12_140 ti_X3_pitch ts_X3_pitch (C0.mem (kl5 hk6)) (g_c5 hk6) rfl rfl hl.1 rfl (Nat.le_of_ble_eq_true rfl) dX12_pitchAt_20) (fun H locs hW => ?_)
  obtain rfl := Option.some.inj h
  exact g_iret C0 hW rfl rfl rfl dX12_pitchAt_23
set_option maxRecDepth 100000 in
set_option maxHeartbeats 4000000 in
theorem c_X12_contourAt {l : Launch} {G : GL} {ids : List Nat} {y : MS} {o : Nat → Int32} {x : CS} {p1 : Int32} {p2 : Int32} {q : Int32}    (h : f_X12_contourAt p1 p2 x = some q) : Met l yX12_contourAt (.code yX12_contourAt cX12_contourAt 3 (Option.some Jvm.ClassFile.FieldType.int) :: gT) (g_rm 7 0 0) (va_Pc [.ref (g_ad G (0)), .int (p1), .int (p2)] (g_P G ids (x, y, o))) (g_Qi G ids q (x, y, o)) 0 0 (g_A G) := by
  unfold f_X12_contourAt at h
  refine g_entry (by decide) (Nat.le_of_ble_eq_true rfl) (fun p e s m args below meth c ls C0 hl hW _ => ?_)
  have hl : lv_has ls 3 [(0, .ref (g_ad G (0))), (1, .int (p1)), (2, .int (p2))] := hl
  refine lv_aload_n C0.hx C0.hb dX12_contourAt_0 rfl (lv_at hl 0 rfl) ?_
  refine lv_iload_n C0.hx C0.hb dX12_contourAt_1 rfl (lv_at hl 1 rfl) ?_
  obtain ⟨q1, hq1, h⟩ := Option.bind_eq_some_iff.mp h
  refine g_callv hW (g_runV (As := [.int (p1)]) (rest := []) C0 hW (c_X12_requireWord hq1) (g_cwOf (n := 1) tc_X12_requireWord tn_X12 md_X12_requireWord (by decide) (by omega)) tm_X12_129 ti_X12_requireWord ts_X12_requireWord (C0.mem (i := 0) (Nat.le_of_ble_eq_true rfl)) (g_c1 k_0) rfl rfl hl.1 rfl (Nat.le_of_ble_eq_true rfl) dX12_contourAt_2) (fun H locs hW => ?_)
  refine lv_aload_n C0.hx C0.hb dX12_contourAt_5 rfl (lv_at hl 0 rfl) ?_
  refine lv_iload_n C0.hx C0.hb dX12_contourAt_6 rfl (lv_at hl 1 rfl) ?_
  obtain ⟨q2, hq2, h⟩ := Option.bind_eq_some_iff.mp h
  obtain ⟨hk3, h⟩ := g_if h
  refine g_callr hW (g_runV (As := [.int (p1)]) (rest := []) C0 hW (c_X12_rowOf hq2) (g_cwOf (n := 1) tc_X12_rowOf tn_X12 md_X12_rowOf (by decide) (by omega)) tm_X12_132 ti_X12_rowOf ts_X12_rowOf (C0.mem (i := 0) (Nat.le_of_ble_eq_true rfl)) (g_c1 k_0) rfl rfl hl.1 rfl (Nat.le_of_ble_eq_true rfl) dX12_contourAt_7) (fun H locs hW => ?_)
  refine lv_iload_n C0.hx C0.hb dX12_contourAt_10 rfl (lv_at hl 2 rfl) ?_
  obtain ⟨q4, hq4, h⟩ := Option.bind_eq_some_iff.mp h
  refine g_callv hW (g_runS (As := [.ref (g_ad G (q2)), .int (p2)]) (rest := []) C0 hW (c_X12_requireBeat hk3 hq4) (g_cwOf (n := 2) tc_X12_requireBeat tn_X12 md_X12_requireBeat (by decide) (by omega)) tm_X12_136 tz_X12_requireBeat rfl hl.1 rfl (Nat.le_of_ble_eq_true rfl) dX12_contourAt_11) (fun H locs hW => ?_)
  refine lv_aload_n C0.hx C0.hb dX12_contourAt_14 rfl (lv_at hl 0 rfl) ?_
  refine lv_iload_n C0.hx C0.hb dX12_contourAt_15 rfl (lv_at hl 1 rfl) ?_
  obtain ⟨q5, hq5, h⟩ := Option.bind_eq_some_iff.mp h
  obtain ⟨hk6, h⟩ := g_if h
  refine g_callr hW (g_runV (As := [.int (p1)]) (rest := []) C0 hW (c_X12_rowOf hq5) (g_cwOf (n := 1) tc_X12_rowOf tn_X12 md_X12_rowOf (by decide) (by omega)) tm_X12_132 ti_X12_rowOf ts_X12_rowOf (C0.mem (i := 0) (Nat.le_of_ble_eq_true rfl)) (g_c1 k_0) rfl rfl hl.1 rfl (Nat.le_of_ble_eq_true rfl) dX12_contourAt_16) (fun H locs hW => ?_)
  refine lv_iload_n C0.hx C0.hb dX12_contourAt_19 rfl (lv_at hl 2 rfl) ?_
  obtain ⟨q7, hq7, h⟩ := Option.bind_eq_some_iff.mp h
  refine g_calli hW (g_runV (As := [.int (p2)]) (rest := []) C0 hW (c_X3_contour hk6 hq7) (g_cwOf (n := 1) tc_X3_contour tn_X3 md_X3_contour (by decide) (by omega)) tm_X12_144 ti_X3_contour ts_X3_contour (C0.mem (kl5 hk6)) (g_c5 hk6) rfl rfl hl.1 rfl (Nat.le_of_ble_eq_true rfl) dX12_contourAt_20) (fun H locs hW => ?_)
  obtain rfl := Option.some.inj h
  exact g_iret C0 hW rfl rfl rfl dX12_contourAt_23
set_option maxRecDepth 100000 in
set_option maxHeartbeats 4000000 in
theorem c_X12_isPruned {l : Launch} {G : GL} {ids : List Nat} {y : MS} {o : Nat → Int32} {x : CS} {p1 : Int32} {q : Int32}    (h : f_X12_isPruned p1 x = some q) : Met l yX12_isPruned (.code yX12_isPruned cX12_isPruned 2 (Option.some Jvm.ClassFile.FieldType.boolean) :: gT) (g_rm 7 0 0) (va_Pc [.ref (g_ad G (0)), .int (p1)] (g_P G ids (x, y, o))) (g_Qi G ids q (x, y, o)) 0 0 (g_A G) := by
  unfold f_X12_isPruned at h
  refine g_entry (by decide) (Nat.le_of_ble_eq_true rfl) (fun p e s m args below meth c ls C0 hl hW _ => ?_)
  have hl : lv_has ls 2 [(0, .ref (g_ad G (0))), (1, .int (p1))] := hl
  refine lv_aload_n C0.hx C0.hb dX12_isPruned_0 rfl (lv_at hl 0 rfl) ?_
  refine lv_iload_n C0.hx C0.hb dX12_isPruned_1 rfl (lv_at hl 1 rfl) ?_
  obtain ⟨q1, hq1, h⟩ := Option.bind_eq_some_iff.mp h
  refine g_callv hW (g_runV (As := [.int (p1)]) (rest := []) C0 hW (c_X12_requireWord hq1) (g_cwOf (n := 1) tc_X12_requireWord tn_X12 md_X12_requireWord (by decide) (by omega)) tm_X12_129 ti_X12_requireWord ts_X12_requireWord (C0.mem (i := 0) (Nat.le_of_ble_eq_true rfl)) (g_c1 k_0) rfl rfl hl.1 rfl (Nat.le_of_ble_eq_true rfl) dX12_isPruned_2) (fun H locs hW => ?_)
  refine lv_aload_n C0.hx C0.hb dX12_isPruned_5 rfl (lv_at hl 0 rfl) ?_
  obtain ⟨hk2, h⟩ := g_if h
  refine gf_X12_7 C0 hW (C0.mem (i := 0) (Nat.le_of_ble_eq_true rfl)) k_0 tf_X12_61 dX12_isPruned_6 ?_
  refine lv_iload_n C0.hx C0.hb dX12_isPruned_9 rfl (lv_at hl 1 rfl) ?_
  obtain ⟨q3, hq3, h⟩ := Option.bind_eq_some_iff.mp h
  obtain ⟨hk4, h⟩ := g_if h
  refine g_callr hW (g_runV (As := [.int (p1)]) (rest := []) C0 hW (c_X9_word hk2 hq3) (g_cwOf (n := 1) tc_X9_word tn_X9 md_X9_word (by decide) (by omega)) tm_X12_147 ti_X9_word ts_X9_word (C0.mem (kl9 hk2)) (g_c9 hk2) rfl rfl hl.1 rfl (Nat.le_of_ble_eq_true rfl) dX12_isPruned_10) (fun H locs hW => ?_)
  refine gfN_X11_1 C0 hW (C0.mem (kl10 hk4)) hk4 tfN_X12_151 dX12_isPruned_13 ?_
  obtain ⟨hb5, h⟩ := g_if h
  obtain rfl := Option.some.inj h
  exact g_iret C0 hW rfl (g_bool hb5).1 rfl dX12_isPruned_16
set_option maxRecDepth 100000 in
set_option maxHeartbeats 4000000 in
theorem c_X12_silentBeats {l : Launch} {G : GL} {ids : List Nat} {y : MS} {o : Nat → Int32} {x : CS} {p1 : Int32} {q : Int32}    (h : f_X12_silentBeats p1 x = some q) : Met l yX12_silentBeats (.code yX12_silentBeats cX12_silentBeats 2 (Option.some Jvm.ClassFile.FieldType.int) :: gT) (g_rm 7 0 0) (va_Pc [.ref (g_ad G (0)), .int (p1)] (g_P G ids (x, y, o))) (g_Qi G ids q (x, y, o)) 0 0 (g_A G) := by
  unfold f_X12_silentBeats at h
  refine g_entry (by decide) (Nat.le_of_ble_eq_true rfl) (fun p e s m args below meth c ls C0 hl hW _ => ?_)
  have hl : lv_has ls 2 [(0, .ref (g_ad G (0))), (1, .int (p1))] := hl
  refine lv_aload_n C0.hx C0.hb dX12_silentBeats_0 rfl (lv_at hl 0 rfl) ?_
  refine lv_iload_n C0.hx C0.hb dX12_silentBeats_1 rfl (lv_at hl 1 rfl) ?_
  obtain ⟨q1, hq1, h⟩ := Option.bind_eq_some_iff.mp h
  refine g_callv hW (g_runV (As := [.int (p1)]) (rest := []) C0 hW (c_X12_requireWord hq1) (g_cwOf (n := 1) tc_X12_requireWord tn_X12 md_X12_requireWord (by decide) (by omega)) tm_X12_129 ti_X12_requireWord ts_X12_requireWord (C0.mem (i := 0) (Nat.le_of_ble_eq_true rfl)) (g_c1 k_0) rfl rfl hl.1 rfl (Nat.le_of_ble_eq_true rfl) dX12_silentBeats_2) (fun H locs hW => ?_)
  refine lv_aload_n C0.hx C0.hb dX12_silentBeats_5 rfl (lv_at hl 0 rfl) ?_
  refine lv_iload_n C0.hx C0.hb dX12_silentBeats_6 rfl (lv_at hl 1 rfl) ?_
  obtain ⟨q2, hq2, h⟩ := Option.bind_eq_some_iff.mp h
  obtain ⟨hk3, h⟩ := g_if h
  refine g_callr hW (g_runV (As := [.int (p1)]) (rest := []) C0 hW (c_X12_rowOf hq2) (g_cwOf (n := 1) tc_X12_rowOf tn_X12 md_X12_rowOf (by decide) (by omega)) tm_X12_132 ti_X12_rowOf ts_X12_rowOf (C0.mem (i := 0) (Nat.le_of_ble_eq_true rfl)) (g_c1 k_0) rfl rfl hl.1 rfl (Nat.le_of_ble_eq_true rfl) dX12_silentBeats_7) (fun H locs hW => ?_)
  obtain ⟨q4, hq4, h⟩ := Option.bind_eq_some_iff.mp h
  refine g_calli hW (g_runV (As := []) (rest := []) C0 hW (c_X3_countSilent hk3 hq4) (g_cwOf (n := 0) tc_X3_countSilent tn_X3 md_X3_countSilent (by decide) (by omega)) tm_X12_157 ti_X3_countSilent ts_X3_countSilent (C0.mem (kl5 hk3)) (g_c5 hk3) rfl rfl hl.1 rfl (Nat.le_of_ble_eq_true rfl) dX12_silentBeats_10) (fun H locs hW => ?_)
  obtain rfl := Option.some.inj h
  exact g_iret C0 hW rfl rfl rfl dX12_silentBeats_13
set_option maxRecDepth 100000 in
set_option maxHeartbeats 4000000 in
theorem c_X12_wordsApart {l : Launch} {G : GL} {ids : List Nat} {y : MS} {o : Nat → Int32} {x : CS} {p1 : Int32} {p2 : Int32} {q : Int32 × CS}    (h : f_X12_wordsApart p1 p2 x = some q) : Met l yX12_wordsApart (.code yX12_wordsApart cX12_wordsApart 3 (Option.some Jvm.ClassFile.FieldType.int) :: gT) (g_rm 3 0 0) (va_Pc [.ref (g_ad G (0)), .int (p1), .int (p2)] (g_P G ids (x, y, o))) (g_Qi G ids q.1 (q.2, y, o)) 0 0 (g_A G) := by
  unfold f_X12_wordsApart at h
  refine g_entry (by decide) (Nat.le_of_ble_eq_true rfl) (fun p e s m args below meth c ls C0 hl hW _ => ?_)
  have hl : lv_has ls 3 [(0, .ref (g_ad G (0))), (1, .int (p1)), (2, .int (p2))] := hl
  refine lv_aload_n C0.hx C0.hb dX12_wordsApart_0 rfl (lv_at hl 0 rfl) ?_
  refine gf_X12_2 C0 hW (C0.mem (i := 0) (Nat.le_of_ble_eq_true rfl)) k_0 tf_X12_28 dX12_wordsApart_1 ?_
  refine lv_aload_n C0.hx C0.hb dX12_wordsApart_4 rfl (lv_at hl 0 rfl) ?_
  refine lv_iload_n C0.hx C0.hb dX12_wordsApart_5 rfl (lv_at hl 1 rfl) ?_
  obtain ⟨q1, hq1, h⟩ := Option.bind_eq_some_iff.mp h
  obtain ⟨hk2, h⟩ := g_if h
  refine g_callr hW (g_runV (As := [.int (p1)]) (rest := [.ref (g_ad G (8))]) C0 hW (c_X12_rowOf hq1) (g_cwOf (n := 1) tc_X12_rowOf tn_X12 md_X12_rowOf (by decide) (by omega)) tm_X12_132 ti_X12_rowOf ts_X12_rowOf (C0.mem (i := 0) (Nat.le_of_ble_eq_true rfl)) (g_c1 k_0) rfl rfl hl.1 rfl (Nat.le_of_ble_eq_true rfl) dX12_wordsApart_6) (fun H locs hW => ?_)
  refine lv_aload_n C0.hx C0.hb dX12_wordsApart_9 rfl (lv_at hl 0 rfl) ?_
  refine lv_iload_n C0.hx C0.hb dX12_wordsApart_10 rfl (lv_at hl 2 rfl) ?_
  obtain ⟨q3, hq3, h⟩ := Option.bind_eq_some_iff.mp h
  obtain ⟨hk4, h⟩ := g_if h
  refine g_callr hW (g_runV (As := [.int (p2)]) (rest := [.ref (g_ad G (q1)), .ref (g_ad G (8))]) C0 hW (c_X12_rowOf hq3) (g_cwOf (n := 1) tc_X12_rowOf tn_X12 md_X12_rowOf (by decide) (by omega)) tm_X12_132 ti_X12_rowOf ts_X12_rowOf (C0.mem (i := 0) (Nat.le_of_ble_eq_true rfl)) (g_c1 k_0) rfl rfl hl.1 rfl (Nat.le_of_ble_eq_true rfl) dX12_wordsApart_11) (fun H locs hW => ?_)
  refine lv_aload_n C0.hx C0.hb dX12_wordsApart_14 rfl (lv_at hl 0 rfl) ?_
  obtain ⟨hk5, h⟩ := g_if h
  refine gf_X12_6 C0 hW (C0.mem (i := 0) (Nat.le_of_ble_eq_true rfl)) k_0 tf_X12_54 dX12_wordsApart_15 ?_
  refine gfN_X5_6 C0 hW (C0.mem (kl7 hk5)) hk5 tfN_X12_164 dX12_wordsApart_18 ?_
  obtain ⟨q6, hq6, h⟩ := Option.bind_eq_some_iff.mp h
  refine g_calli hW (g_runV (As := [.ref (g_ad G (q1)), .ref (g_ad G (q3)), .int (x.1 (x.2 0 6) 6)]) (rest := []) C0 hW (c_X10_distance hk2 hk4 hq6) (g_cwOf (n := 3) tc_X10_distance tn_X10 md_X10_distance (by decide) (by omega)) tm_X12_261 ti_X10_distance ts_X10_distance (C0.mem (i := 8) (Nat.le_of_ble_eq_true rfl)) (g_c4 k_8) rfl rfl hl.1 rfl (Nat.le_of_ble_eq_true rfl) dX12_wordsApart_21) (fun H locs hW => ?_)
  obtain rfl := Option.some.inj h
  exact g_iret C0 hW rfl rfl rfl dX12_wordsApart_24
set_option maxRecDepth 100000 in
set_option maxHeartbeats 4000000 in
theorem c_X12_distanceBetween {l : Launch} {G : GL} {ids : List Nat} {y : MS} {o : Nat → Int32} {x : CS} {p1 : Int32} {p2 : Int32} {q : Int32 × CS}    (h : f_X12_distanceBetween p1 p2 x = some q) : Met l yX12_distanceBetween (.code yX12_distanceBetween cX12_distanceBetween 3 (Option.some Jvm.ClassFile.FieldType.int) :: gT) (g_rm 7 0 0) (va_Pc [.ref (g_ad G (0)), .int (p1), .int (p2)] (g_P G ids (x, y, o))) (g_Qi G ids q.1 (q.2, y, o)) 0 0 (g_A G) := by
  unfold f_X12_distanceBetween at h
  refine g_entry (by decide) (Nat.le_of_ble_eq_true rfl) (fun p e s m args below meth c ls C0 hl hW _ => ?_)
  have hl : lv_has ls 3 [(0, .ref (g_ad G (0))), (1, .int (p1)), (2, .int (p2))] := hl
  refine lv_aload_n C0.hx C0.hb dX12_distanceBetween_0 rfl (lv_at hl 0 rfl) ?_
  refine lv_iload_n C0.hx C0.hb dX12_distanceBetween_1 rfl (lv_at hl 1 rfl) ?_
  obtain ⟨q1, hq1, h⟩ := Option.bind_eq_some_iff.mp h
  refine g_callv hW (g_runV (As := [.int (p1)]) (rest := []) C0 hW (c_X12_requireWord hq1) (g_cwOf (n := 1) tc_X12_requireWord tn_X12 md_X12_requireWord (by decide) (by omega)) tm_X12_129 ti_X12_requireWord ts_X12_requireWord (C0.mem (i := 0) (Nat.le_of_ble_eq_true rfl)) (g_c1 k_0) rfl rfl hl.1 rfl (Nat.le_of_ble_eq_true rfl) dX12_distanceBetween_2) (fun H locs hW => ?_)
  refine lv_aload_n C0.hx C0.hb dX12_distanceBetween_5 rfl (lv_at hl 0 rfl) ?_
  refine lv_iload_n C0.hx C0.hb dX12_distanceBetween_6 rfl (lv_at hl 2 rfl) ?_
  obtain ⟨q2, hq2, h⟩ := Option.bind_eq_some_iff.mp h
  refine g_callv hW (g_runV (As := [.int (p2)]) (rest := []) C0 hW (c_X12_requireWord hq2) (g_cwOf (n := 1) tc_X12_requireWord tn_X12 md_X12_requireWord (by decide) (by omega)) tm_X12_129 ti_X12_requireWord ts_X12_requireWord (C0.mem (i := 0) (Nat.le_of_ble_eq_true rfl)) (g_c1 k_0) rfl rfl hl.1 rfl (Nat.le_of_ble_eq_true rfl) dX12_distanceBetween_7) (fun H locs hW => ?_)
  refine lv_aload_n C0.hx C0.hb dX12_distanceBetween_10 rfl (lv_at hl 0 rfl) ?_
  refine lv_iload_n C0.hx C0.hb dX12_distanceBetween_11 rfl (lv_at hl 1 rfl) ?_
  refine lv_iload_n C0.hx C0.hb dX12_distanceBetween_12 rfl (lv_at hl 2 rfl) ?_
  obtain ⟨q3, hq3, h⟩ := Option.bind_eq_some_iff.mp h
  refine g_calli hW (g_runV (As := [.int (p1), .int (p2)]) (rest := []) C0 hW (c_X12_wordsApart hq3) (g_cwOf (n := 2) tc_X12_wordsApart tn_X12 md_X12_wordsApart (by decide) (by omega)) tm_X12_160 ti_X12_wordsApart ts_X12_wordsApart (C0.mem (i := 0) (Nat.le_of_ble_eq_true rfl)) (g_c1 k_0) rfl rfl hl.1 rfl (Nat.le_of_ble_eq_true rfl) dX12_distanceBetween_13) (fun H locs hW => ?_)
  obtain rfl := Option.some.inj h
  exact g_iret C0 hW rfl rfl rfl dX12_distanceBetween_16
set_option maxRecDepth 100000 in
set_option maxHeartbeats 4000000 in
theorem c_X12_contourBetween {l : Launch} {G : GL} {ids : List Nat} {y : MS} {o : Nat → Int32} {x : CS} {p1 : Int32} {p2 : Int32} {q : Int32 × CS}    (h : f_X12_contourBetween p1 p2 x = some q) : Met l yX12_contourBetween (.code yX12_contourBetween cX12_contourBetween 3 (Option.some Jvm.ClassFile.FieldType.int) :: gT) (g_rm 7 0 0) (va_Pc [.ref (g_ad G (0)), .int (p1), .int (p2)] (g_P G ids (x, y, o))) (g_Qi G ids q.1 (q.2, y, o)) 0 0 (g_A G) := by
  unfold f_X12_contourBetween at h
  refine g_entry (by decide) (Nat.le_of_ble_eq_true rfl) (fun p e s m args below meth c ls C0 hl hW _ => ?_)
  have hl : lv_has ls 3 [(0, .ref (g_ad G (0))), (1, .int (p1)), (2, .int (p2))] := hl
  refine lv_aload_n C0.hx C0.hb dX12_contourBetween_0 rfl (lv_at hl 0 rfl) ?_
  refine lv_iload_n C0.hx C0.hb dX12_contourBetween_1 rfl (lv_at hl 1 rfl) ?_
  obtain ⟨q1, hq1, h⟩ := Option.bind_eq_some_iff.mp h
  refine g_callv hW (g_runV (As := [.int (p1)]) (rest := []) C0 hW (c_X12_requireWord hq1) (g_cwOf (n := 1) tc_X12_requireWord tn_X12 md_X12_requireWord (by decide) (by omega)) tm_X12_129 ti_X12_requireWord ts_X12_requireWord (C0.mem (i := 0) (Nat.le_of_ble_eq_true rfl)) (g_c1 k_0) rfl rfl hl.1 rfl (Nat.le_of_ble_eq_true rfl) dX12_contourBetween_2) (fun H locs hW => ?_)
  refine lv_aload_n C0.hx C0.hb dX12_contourBetween_5 rfl (lv_at hl 0 rfl) ?_
  refine lv_iload_n C0.hx C0.hb dX12_contourBetween_6 rfl (lv_at hl 2 rfl) ?_
  obtain ⟨q2, hq2, h⟩ := Option.bind_eq_some_iff.mp h
  refine g_callv hW (g_runV (As := [.int (p2)]) (rest := []) C0 hW (c_X12_requireWord hq2) (g_cwOf (n := 1) tc_X12_requireWord tn_X12 md_X12_requireWord (by decide) (by omega)) tm_X12_129 ti_X12_requireWord ts_X12_requireWord (C0.mem (i := 0) (Nat.le_of_ble_eq_true rfl)) (g_c1 k_0) rfl rfl hl.1 rfl (Nat.le_of_ble_eq_true rfl) dX12_contourBetween_7) (fun H locs hW => ?_)
  refine lv_aload_n C0.hx C0.hb dX12_contourBetween_10 rfl (lv_at hl 0 rfl) ?_
  refine gf_X12_2 C0 hW (C0.mem (i := 0) (Nat.le_of_ble_eq_true rfl)) k_0 tf_X12_28 dX12_contourBetween_11 ?_
  refine lv_aload_n C0.hx C0.hb dX12_contourBetween_14 rfl (lv_at hl 0 rfl) ?_
  refine lv_iload_n C0.hx C0.hb dX12_contourBetween_15 rfl (lv_at hl 1 rfl) ?_
  obtain ⟨q3, hq3, h⟩ := Option.bind_eq_some_iff.mp h
  obtain ⟨hk4, h⟩ := g_if h
  refine g_callr hW (g_runV (As := [.int (p1)]) (rest := [.ref (g_ad G (8))]) C0 hW (c_X12_rowOf hq3) (g_cwOf (n := 1) tc_X12_rowOf tn_X12 md_X12_rowOf (by decide) (by omega)) tm_X12_132 ti_X12_rowOf ts_X12_rowOf (C0.mem (i := 0) (Nat.le_of_ble_eq_true rfl)) (g_c1 k_0) rfl rfl hl.1 rfl (Nat.le_of_ble_eq_true rfl) dX12_contourBetween_16) (fun H locs hW => ?_)
  refine lv_aload_n C0.hx C0.hb dX12_contourBetween_19 rfl (lv_at hl 0 rfl) ?_
  refine lv_iload_n C0.hx C0.hb dX12_contourBetween_20 rfl (lv_at hl 2 rfl) ?_
  obtain ⟨q5, hq5, h⟩ := Option.bind_eq_some_iff.mp h
  obtain ⟨hk6, h⟩ := g_if h
  refine g_callr hW (g_runV (As := [.int (p2)]) (rest := [.ref (g_ad G (q3)), .ref (g_ad G (8))]) C0 hW (c_X12_rowOf hq5) (g_cwOf (n := 1) tc_X12_rowOf tn_X12 md_X12_rowOf (by decide) (by omega)) tm_X12_132 ti_X12_rowOf ts_X12_rowOf (C0.mem (i := 0) (Nat.le_of_ble_eq_true rfl)) (g_c1 k_0) rfl rfl hl.1 rfl (Nat.le_of_ble_eq_true rfl) dX12_contourBetween_21) (fun H locs hW => ?_)
  refine lv_aload_n C0.hx C0.hb dX12_contourBetween_24 rfl (lv_at hl 0 rfl) ?_
  obtain ⟨hk7, h⟩ := g_if h
  refine gf_X12_6 C0 hW (C0.mem (i := 0) (Nat.le_of_ble_eq_true rfl)) k_0 tf_X12_54 dX12_contourBetween_25 ?_
  refine gfN_X5_6 C0 hW (C0.mem (kl7 hk7)) hk7 tfN_X12_164 dX12_contourBetween_28 ?_
  obtain ⟨q8, hq8, h⟩ := Option.bind_eq_some_iff.mp h
  refine g_calli hW (g_runV (As := [.ref (g_ad G (q3)), .ref (g_ad G (q5)), .int (x.1 (x.2 0 6) 6)]) (rest := []) C0 hW (c_X10_contourDistance hk4 hk6 hq8) (g_cwOf (n := 3) tc_X10_contourDistance tn_X10 md_X10_contourDistance (by decide) (by omega)) tm_X12_167 ti_X10_contourDistance ts_X10_contourDistance (C0.mem (i := 8) (Nat.le_of_ble_eq_true rfl)) (g_c4 k_8) rfl rfl hl.1 rfl (Nat.le_of_ble_eq_true rfl) dX12_contourBetween_31) (fun H locs hW => ?_)
  obtain rfl := Option.some.inj h
  exact g_iret C0 hW rfl rfl rfl dX12_contourBetween_34
set_option maxRecDepth 100000 in
set_option maxHeartbeats 4000000 in
theorem c_X12_nearEachOther {l : Launch} {G : GL} {ids : List Nat} {y : MS} {o : Nat → Int32} {x : CS} {p1 : Int32} {p2 : Int32} {q : Int32 × CS}    (h : f_X12_nearEachOther p1 p2 x = some q) : Met l yX12_nearEachOther (.code yX12_nearEachOther cX12_nearEachOther 4 (Option.some Jvm.ClassFile.FieldType.boolean) :: gT) (g_rm 4 0 0) (va_Pc [.ref (g_ad G (0)), .int (p1), .int (p2)] (g_P G ids (x, y, o))) (g_Qi G ids q.1 (q.2, y, o)) 0 0 (g_A G) := by
  unfold f_X12_nearEachOther at h
  refine g_entry (by decide) (Nat.le_of_ble_eq_true rfl) (fun p e s m args below meth c ls C0 hl hW _ => ?_)
  have hl : lv_has ls 4 [(0, .ref (g_ad G (0))), (1, .int (p1)), (2, .int (p2))] := hl
  refine lv_aload_n C0.hx C0.hb dX12_nearEachOther_0 rfl (lv_at hl 0 rfl) ?_
  refine lv_iload_n C0.hx C0.hb dX12_nearEachOther_1 rfl (lv_at hl 1 rfl) ?_
  obtain ⟨q1, hq1, h⟩ := Option.bind_eq_some_iff.mp h
  obtain ⟨hk2, h⟩ := g_if h
  refine g_callr hW (g_runV (As := [.int (p1)]) (rest := []) C0 hW (c_X12_rowOf hq1) (g_cwOf (n := 1) tc_X12_rowOf tn_X12 md_X12_rowOf (by decide) (by omega)) tm_X12_132 ti_X12_rowOf ts_X12_rowOf (C0.mem (i := 0) (Nat.le_of_ble_eq_true rfl)) (g_c1 k_0) rfl rfl hl.1 rfl (Nat.le_of_ble_eq_true rfl) dX12_nearEachOther_2) (fun H locs hW => ?_)
  refine gfN_X3_1 C0 hW (C0.mem (kl5 hk2)) hk2 tfN_X12_128 dX12_nearEachOther_5 ?_
  refine lv_aload_n C0.hx C0.hb dX12_nearEachOther_8 rfl (lv_at hl 0 rfl) ?_
  refine lv_iload_n C0.hx C0.hb dX12_nearEachOther_9 rfl (lv_at hl 2 rfl) ?_
  obtain ⟨q3, hq3, h⟩ := Option.bind_eq_some_iff.mp h
  obtain ⟨hk4, h⟩ := g_if h
  refine g_callr hW (g_runV (As := [.int (p2)]) (rest := [.int (x.1 q1 1)]) C0 hW (c_X12_rowOf hq3) (g_cwOf (n := 1) tc_X12_rowOf tn_X12 md_X12_rowOf (by decide) (by omega)) tm_X12_132 ti_X12_rowOf ts_X12_rowOf (C0.mem (i := 0) (Nat.le_of_ble_eq_true rfl)) (g_c1 k_0) rfl rfl hl.1 rfl (Nat.le_of_ble_eq_true rfl) dX12_nearEachOther_10) (fun H locs hW => ?_)
  refine gfN_X3_1 C0 hW (C0.mem (kl5 hk4)) hk4 tfN_X12_128 dX12_nearEachOther_13 ?_
  refine g_maxR C0 hl.1 (Nat.le_of_ble_eq_true rfl) (by omega) tm_X12_263 (by decide) (by decide) dX12_nearEachOther_16 ?_
  refine lv_istore_n (lv' := [(3, .int (g_max (x.1 q1 1) (x.1 q3 1))), (0, .ref (g_ad G (0))), (1, .int (p1)), (2, .int (p2))]) C0.hx C0.hb dX12_nearEachOther_19 rfl hl (by decide) rfl (fun ls hl => ?_)
  refine lv_iload_n C0.hx C0.hb dX12_nearEachOther_20 rfl (lv_at hl 2 rfl) ?_
  refine lv_iload_n C0.hx C0.hb dX12_nearEachOther_21 rfl (lv_at hl 3 rfl) ?_
  refine lv_icmp_eq (tgt := 49) C0.hx C0.hb dX12_nearEachOther_22 (by decide) (fun hc5 => ?_) (fun hc5 => ?_)
  · replace h := (if_pos hc5).symm.trans h
    refine lv_iconst (v := (0 : Int32)) C0.hx C0.hb dX12_nearEachOther_49 (by decide) ?_
    obtain rfl := Option.some.inj h
    exact g_iret C0 hW rfl (g_bool (Or.inl rfl)).1 rfl dX12_nearEachOther_50
  · replace h := (if_neg hc5).symm.trans h
    refine lv_aload_n C0.hx C0.hb dX12_nearEachOther_25 rfl (lv_at hl 1 rfl) ?_
    refine lv_iload_n C0.hx C0.hb dX12_nearEachOther_26 rfl (lv_at hl 2 rfl) ?_
    refine lv_iload_n C0.hx C0.hb dX12_nearEachOther_27 rfl (lv_at hl 3 rfl) ?_
    obtain ⟨q6, hq6, h⟩ := Option.bind_eq_some_iff.mp h
    refine g_calli hW (g_runV (As := [.int (p1), .int (p2)]) (rest := []) C0 hW (c_X12_wordsApart hq6) (g_cwOf (n := 2) tc_X12_wordsApart tn_X12 md_X12_wordsApart (by decide) (by omega)) tm_X12_160 ti_X12_wordsApart ts_X12_wordsApart (C0.mem (i := 0) (Nat.le_of_ble_eq_true rfl)) (g_c1 k_0) rfl rfl hl.1 rfl (Nat.le_of_ble_eq_true rfl) dX12_nearEachOther_28) (fun H locs hW => ?_)
    refine lv_aload_n C0.hx C0.hb dX12_nearEachOther_31 rfl (lv_at hl 1 rfl) ?_
    obtain ⟨hk7, h⟩ := g_if h
    refine gf_X12_6 C0 hW (C0.mem (i := 0) (Nat.le_of_ble_eq_true rfl)) k_0 tf_X12_54 dX12_nearEachOther_32 ?_
    refine gfN_X5_7 C0 hW (C0.mem (kl7 hk7)) hk7 tfN_X12_268 dX12_nearEachOther_35 ?_
    refine lv_iload_n C0.hx C0.hb dX12_nearEachOther_38 rfl (lv_at hl 0 rfl) ?_
    refine lv_imul C0.hx C0.hb dX12_nearEachOther_39 ?_
    refine lv_iconst (v := (4 : Int32)) C0.hx C0.hb dX12_nearEachOther_40 (by decide) ?_
    refine lv_idiv C0.hx C0.hb dX12_nearEachOther_41 (by decide) ?_
    refine lv_icmp_ge (tgt := 49) C0.hx C0.hb dX12_nearEachOther_42 (by decide) (fun hc8 => ?_) (fun hc8 => ?_)
    · replace h := (if_pos hc8).symm.trans h
      refine lv_iconst (v := (0 : Int32)) C0.hx C0.hb dX12_nearEachOther_49 (by decide) ?_
      obtain rfl := Option.some.inj h
      exact g_iret C0 hW rfl (g_bool (Or.inl rfl)).1 rfl dX12_nearEachOther_50
    · replace h := (if_neg hc8).symm.trans h
      refine lv_iconst (v := (1 : Int32)) C0.hx C0.hb dX12_nearEachOther_45 (by decide) ?_
      refine lv_goto (tgt := 50) C0.hx C0.hb dX12_nearEachOther_46 (by decide) ?_
      obtain rfl := Option.some.inj h
      exact g_iret C0 hW rfl (g_bool (Or.inr rfl)).1 rfl dX12_nearEachOther_50
set_option maxRecDepth 100000 in
set_option maxHeartbeats 4000000 in
theorem c_X12_areNear {l : Launch} {G : GL} {ids : List Nat} {y : MS} {o : Nat → Int32} {x : CS} {p1 : Int32} {p2 : Int32} {q : Int32 × CS}    (h : f_X12_areNear p1 p2 x = some q) : Met l yX12_areNear (.code yX12_areNear cX12_areNear 3 (Option.some Jvm.ClassFile.FieldType.boolean) :: gT) (g_rm 7 0 0) (va_Pc [.ref (g_ad G (0)), .int (p1), .int (p2)] (g_P G ids (x, y, o))) (g_Qi G ids q.1 (q.2, y, o)) 0 0 (g_A G) := by
  unfold f_X12_areNear at h
  refine g_entry (by decide) (Nat.le_of_ble_eq_true rfl) (fun p e s m args below meth c ls C0 hl hW _ => ?_)
  have hl : lv_has ls 3 [(0, .ref (g_ad G (0))), (1, .int (p1)), (2, .int (p2))] := hl
  refine lv_aload_n C0.hx C0.hb dX12_areNear_0 rfl (lv_at hl 0 rfl) ?_
  refine lv_iload_n C0.hx C0.hb dX12_areNear_1 rfl (lv_at hl 1 rfl) ?_
  obtain ⟨q1, hq1, h⟩ := Option.bind_eq_some_iff.mp h
  refine g_callv hW (g_runV (As := [.int (p1)]) (rest := []) C0 hW (c_X12_requireWord hq1) (g_cwOf (n := 1) tc_X12_requireWord tn_X12 md_X12_requireWord (by decide) (by omega)) tm_X12_129 ti_X12_requireWord ts_X12_requireWord (C0.mem (i := 0) (Nat.le_of_ble_eq_true rfl)) (g_c1 k_0) rfl rfl hl.1 rfl (Nat.le_of_ble_eq_true rfl) dX12_areNear_2) (fun H locs hW => ?_)
  refine lv_aload_n C0.hx C0.hb dX12_areNear_5 rfl (lv_at hl 0 rfl) ?_
  refine lv_iload_n C0.hx C0.hb dX12_areNear_6 rfl (lv_at hl 2 rfl) ?_
  obtain ⟨q2, hq2, h⟩ := Option.bind_eq_some_iff.mp h
  refine g_callv hW (g_runV (As := [.int (p2)]) (rest := []) C0 hW (c_X12_requireWord hq2) (g_cwOf (n := 1) tc_X12_requireWord tn_X12 md_X12_requireWord (by decide) (by omega)) tm_X12_129 ti_X12_requireWord ts_X12_requireWord (C0.mem (i := 0) (Nat.le_of_ble_eq_true rfl)) (g_c1 k_0) rfl rfl hl.1 rfl (Nat.le_of_ble_eq_true rfl) dX12_areNear_7) (fun H locs hW => ?_)
  refine lv_aload_n C0.hx C0.hb dX12_areNear_10 rfl (lv_at hl 0 rfl) ?_
  refine lv_iload_n C0.hx C0.hb dX12_areNear_11 rfl (lv_at hl 1 rfl) ?_
  refine lv_iload_n C0.hx C0.hb dX12_areNear_12 rfl (lv_at hl 2 rfl) ?_
  obtain ⟨q3, hq3, h⟩ := Option.bind_eq_some_iff.mp h
  refine g_calli hW (g_runV (As := [.int (p1), .int (p2)]) (rest := []) C0 hW (c_X12_nearEachOther hq3) (g_cwOf (n := 2) tc_X12_nearEachOther tn_X12 md_X12_nearEachOther (by decide) (by omega)) tm_X12_171 ti_X12_nearEachOther ts_X12_nearEachOther (C0.mem (i := 0) (Nat.le_of_ble_eq_true rfl)) (g_c1 k_0) rfl rfl hl.1 rfl (Nat.le_of_ble_eq_true rfl) dX12_areNear_13) (fun H locs hW => ?_)
  obtain ⟨hb4, h⟩ := g_if h
  obtain rfl := Option.some.inj h
  exact g_iret C0 hW rfl (g_bool hb4).1 rfl dX12_areNear_16
set_option maxRecDepth 100000 in
set_option maxHeartbeats 4000000 in
theorem w_X12_nearestTo_33 {p : Program} {l : Launch} {e : Env} {s : State} {m : MethodId} {args : Array Value} {below : List Frame} {meth : Method} {c : Code} {G : GL} {ids : List Nat} {y : MS} {o : Nat → Int32}  {q : Int32 × CS}   (C0 : g_X G ids p s m args meth c cX12_nearestTo 6 RX12 (Option.some Jvm.ClassFile.FieldType.int))  : ∀ (n : Nat) (l1 : Int32) (l2 : Int32) (l3 : Int32) (l4 : Int32) (x : CS) (H : Heap) (locs : List Loc) (ls : Array Slot),  f_X12_nearestTo_33 n l1 l2 l3 l4 x = some q → g_W G ids (x, y, o) s.heap H locs → lv_has ls 6 [(0, .ref (g_ad G (0))), (1, .int (l1)), (2, .int (l2)), (3, .int (l3)), (4, .int (l4))] → W p l e (g_rm 7 0 0) s m args below meth c H locs 0 0 (MQ below (g_Qi G ids q.1 (q.2, y, o)) args s 0 0 (g_A G)) (F0 m 33 ls []) := by
  intro n
  induction n with
  | zero =>
    intro l1 l2 l3 l4 x H locs ls h hW hl
    exact absurd h (by simp [f_X12_nearestTo_33])
  | succ n ih =>
    intro l1 l2 l3 l4 x H locs ls h hW hl
    unfold f_X12_nearestTo_33 at h
    refine lv_iload C0.hx C0.hb dX12_nearestTo_33 (lv_at hl 4 rfl) ?_
    refine lv_aload_n C0.hx C0.hb dX12_nearestTo_35 rfl (lv_at hl 0 rfl) ?_
    obtain ⟨hk4, h⟩ := g_if h
    refine gf_X12_7 C0 hW (C0.mem (i := 0) (Nat.le_of_ble_eq_true rfl)) k_0 tf_X12_61 dX12_nearestTo_36 ?_
    refine gfN_X9_2 C0 hW (C0.mem (kl9 hk4)) hk4 tfN_X12_114 dX12_nearestTo_39 ?_
    refine lv_icmp_ge (tgt := 83) C0.hx C0.hb dX12_nearestTo_42 (by decide) (fun hc5 => ?_) (fun hc5 => ?_)
    · replace h := (if_pos hc5).symm.trans h
      refine lv_iload_n C0.hx C0.hb dX12_nearestTo_83 rfl (lv_at hl 2 rfl) ?_
      obtain rfl := Option.some.inj h
      exact g_iret C0 hW rfl rfl rfl dX12_nearestTo_84
    · replace h := (if_neg hc5).symm.trans h
      refine lv_iload C0.hx C0.hb dX12_nearestTo_45 (lv_at hl 4 rfl) ?_
      refine lv_iload_n C0.hx C0.hb dX12_nearestTo_47 rfl (lv_at hl 1 rfl) ?_
      refine lv_icmp_eq (tgt := 77) C0.hx C0.hb dX12_nearestTo_48 (by decide) (fun hc6 => ?_) (fun hc6 => ?_)
      · replace h := (if_pos hc6).symm.trans h
        refine lv_iinc (v := l4 + (1 : Int32)) (lv' := [(4, .int (l4 + (1 : Int32))), (0, .ref (g_ad G (0))), (1, .int (l1)), (2, .int (l2)), (3, .int (l3))]) C0.hx C0.hb dX12_nearestTo_77 hl (k := 4) rfl rfl (by decide) rfl (fun ls hl => ?_)
        refine lv_goto (tgt := 33) C0.hx C0.hb dX12_nearestTo_80 (by decide) ?_
        exact ih _ _ _ _ _ _ _ _ h hW (lv_sub hl [1, 2, 3, 4, 0] rfl)
      · replace h := (if_neg hc6).symm.trans h
        refine lv_aload_n C0.hx C0.hb dX12_nearestTo_51 rfl (lv_at hl 0 rfl) ?_
        refine lv_iload_n C0.hx C0.hb dX12_nearestTo_52 rfl (lv_at hl 1 rfl) ?_
        refine lv_iload C0.hx C0.hb dX12_nearestTo_53 (lv_at hl 4 rfl) ?_
        obtain ⟨q7, hq7, h⟩ := Option.bind_eq_some_iff.mp h
        refine g_calli hW (g_runV (As := [.int (l1), .int (l4)]) (rest := []) C0 hW (c_X12_wordsApart hq7) (g_cwOf (n := 2) tc_X12_wordsApart tn_X12 md_X12_wordsApart (by decide) (by omega)) tm_X12_160 ti_X12_wordsApart ts_X12_wordsApart (C0.mem (i := 0) (Nat.le_of_ble_eq_true rfl)) (g_c1 k_0) rfl rfl hl.1 rfl (Nat.le_of_ble_eq_true rfl) dX12_nearestTo_55) (fun H locs hW => ?_)
        refine lv_istore (lv' := [(5, .int (q7.1)), (0, .ref (g_ad G (0))), (1, .int (l1)), (2, .int (l2)), (3, .int (l3)), (4, .int (l4))]) C0.hx C0.hb dX12_nearestTo_58 hl (by decide) rfl (fun ls hl => ?_)
        refine lv_iload_n C0.hx C0.hb dX12_nearestTo_60 rfl (lv_at hl 3 rfl) ?_
        refine lv_iconst (v := (-1 : Int32)) C0.hx C0.hb dX12_nearestTo_61 (by decide) ?_
        refine lv_icmp_eq (tgt := 71) C0.hx C0.hb dX12_nearestTo_62 (by decide) (fun hc8 => ?_) (fun hc8 => ?_)
        · replace h := (if_pos hc8).symm.trans h
          refine lv_iload C0.hx C0.hb dX12_nearestTo_71 (lv_at hl 5 rfl) ?_
          refine lv_istore_n (lv' := [(2, .int (l4)), (5, .int (q7.1)), (0, .ref (g_ad G (0))), (1, .int (l1)), (3, .int (l3)), (4, .int (l4))]) C0.hx C0.hb dX12_nearestTo_73 rfl hl (by decide) rfl (fun ls hl => ?_)
          refine lv_iload C0.hx C0.hb dX12_nearestTo_74 (lv_at hl 1 rfl) ?_
          refine lv_istore_n (lv' := [(3, .int (q7.1)), (2, .int (l4)), (5, .int (q7.1)), (0, .ref (g_ad G (0))), (1, .int (l1)), (4, .int (l4))]) C0.hx C0.hb dX12_nearestTo_76 rfl hl (by decide) rfl (fun ls hl => ?_)
          refine lv_iinc (v := l4 + (1 : Int32)) (lv' := [(4, .int (l4 + (1 : Int32))), (3, .int (q7.1)), (2, .int (l4)), (5, .int (q7.1)), (0, .ref (g_ad G (0))), (1, .int (l1))]) C0.hx C0.hb dX12_nearestTo_77 hl (k := 5) rfl rfl (by decide) rfl (fun ls hl => ?_)
          refine lv_goto (tgt := 33) C0.hx C0.hb dX12_nearestTo_80 (by decide) ?_
          exact ih _ _ _ _ _ _ _ _ h hW (lv_sub hl [4, 5, 2, 1, 0] rfl)
        · replace h := (if_neg hc8).symm.trans h
          refine lv_iload C0.hx C0.hb dX12_nearestTo_65 (lv_at hl 0 rfl) ?_
          refine lv_iload_n C0.hx C0.hb dX12_nearestTo_67 rfl (lv_at hl 4 rfl) ?_
          refine lv_icmp_ge (tgt := 77) C0.hx C0.hb dX12_nearestTo_68 (by decide) (fun hc9 => ?_) (fun hc9 => ?_)
          · replace h := (if_pos hc9).symm.trans h
            refine lv_iinc (v := l4 + (1 : Int32)) (lv' := [(4, .int (l4 + (1 : Int32))), (5, .int (q7.1)), (0, .ref (g_ad G (0))), (1, .int (l1)), (2, .int (l2)), (3, .int (l3))]) C0.hx C0.hb dX12_nearestTo_77 hl (k := 5) rfl rfl (by decide) rfl (fun ls hl => ?_)
            refine lv_goto (tgt := 33) C0.hx C0.hb dX12_nearestTo_80 (by decide) ?_
            exact ih _ _ _ _ _ _ _ _ h hW (lv_sub hl [2, 3, 4, 5, 0] rfl)
          · replace h := (if_neg hc9).symm.trans h
            refine lv_iload C0.hx C0.hb dX12_nearestTo_71 (lv_at hl 5 rfl) ?_
            refine lv_istore_n (lv' := [(2, .int (l4)), (5, .int (q7.1)), (0, .ref (g_ad G (0))), (1, .int (l1)), (3, .int (l3)), (4, .int (l4))]) C0.hx C0.hb dX12_nearestTo_73 rfl hl (by decide) rfl (fun ls hl => ?_)
            refine lv_iload C0.hx C0.hb dX12_nearestTo_74 (lv_at hl 1 rfl) ?_
            refine lv_istore_n (lv' := [(3, .int (q7.1)), (2, .int (l4)), (5, .int (q7.1)), (0, .ref (g_ad G (0))), (1, .int (l1)), (4, .int (l4))]) C0.hx C0.hb dX12_nearestTo_76 rfl hl (by decide) rfl (fun ls hl => ?_)
            refine lv_iinc (v := l4 + (1 : Int32)) (lv' := [(4, .int (l4 + (1 : Int32))), (3, .int (q7.1)), (2, .int (l4)), (5, .int (q7.1)), (0, .ref (g_ad G (0))), (1, .int (l1))]) C0.hx C0.hb dX12_nearestTo_77 hl (k := 5) rfl rfl (by decide) rfl (fun ls hl => ?_)
            refine lv_goto (tgt := 33) C0.hx C0.hb dX12_nearestTo_80 (by decide) ?_
            exact ih _ _ _ _ _ _ _ _ h hW (lv_sub hl [4, 5, 2, 1, 0] rfl)
set_option maxRecDepth 100000 in
set_option maxHeartbeats 4000000 in
theorem c_X12_nearestTo {l : Launch} {G : GL} {ids : List Nat} {y : MS} {o : Nat → Int32} {x : CS} {p1 : Int32} {q : Int32 × CS}    (h : f_X12_nearestTo p1 x = some q) : Met l yX12_nearestTo (.code yX12_nearestTo cX12_nearestTo 6 (Option.some Jvm.ClassFile.FieldType.int) :: gT) (g_rm 7 0 0) (va_Pc [.ref (g_ad G (0)), .int (p1)] (g_P G ids (x, y, o))) (g_Qi G ids q.1 (q.2, y, o)) 0 0 (g_A G) := by
  unfold f_X12_nearestTo at h
  refine g_entry (by decide) (Nat.le_of_ble_eq_true rfl) (fun p e s m args below meth c ls C0 hl hW _ => ?_)
  have hl : lv_has ls 6 [(0, .ref (g_ad G (0))), (1, .int (p1))] := hl
  refine lv_aload_n C0.hx C0.hb dX12_nearestTo_0 rfl (lv_at hl 0 rfl) ?_
  refine lv_iload_n C0.hx C0.hb dX12_nearestTo_1 rfl (lv_at hl 1 rfl) ?_
  obtain ⟨q1, hq1, h⟩ := Option.bind_eq_some_iff.mp h
  refine g_callv hW (g_runV (As := [.int (p1)]) (rest := []) C0 hW (c_X12_requireWord hq1) (g_cwOf (n := 1) tc_X12_requireWord tn_X12 md_X12_requireWord (by decide) (by omega)) tm_X12_129 ti_X12_requireWord ts_X12_requireWord (C0.mem (i := 0) (Nat.le_of_ble_eq_true rfl)) (g_c1 k_0) rfl rfl hl.1 rfl (Nat.le_of_ble_eq_true rfl) dX12_nearestTo_2) (fun H locs hW => ?_)
  refine lv_aload_n C0.hx C0.hb dX12_nearestTo_5 rfl (lv_at hl 0 rfl) ?_
  obtain ⟨hk2, h⟩ := g_if h
  refine gf_X12_7 C0 hW (C0.mem (i := 0) (Nat.le_of_ble_eq_true rfl)) k_0 tf_X12_61 dX12_nearestTo_6 ?_
  refine gfN_X9_2 C0 hW (C0.mem (kl9 hk2)) hk2 tfN_X12_114 dX12_nearestTo_9 ?_
  refine lv_iconst (v := (2 : Int32)) C0.hx C0.hb dX12_nearestTo_12 (by decide) ?_
  refine lv_icmp_ge (tgt := 26) C0.hx C0.hb dX12_nearestTo_13 (by decide) (fun hc3 => ?_) (fun hc3 => ?_)
  · replace h := (if_pos hc3).symm.trans h
    refine lv_iconst (v := (-1 : Int32)) C0.hx C0.hb dX12_nearestTo_26 (by decide) ?_
    refine lv_istore_n (lv' := [(2, .int ((-1 : Int32))), (0, .ref (g_ad G (0))), (1, .int (p1))]) C0.hx C0.hb dX12_nearestTo_27 rfl hl (by decide) rfl (fun ls hl => ?_)
    refine lv_iconst (v := (0 : Int32)) C0.hx C0.hb dX12_nearestTo_28 (by decide) ?_
    refine lv_istore_n (lv' := [(3, .int ((0 : Int32))), (2, .int ((-1 : Int32))), (0, .ref (g_ad G (0))), (1, .int (p1))]) C0.hx C0.hb dX12_nearestTo_29 rfl hl (by decide) rfl (fun ls hl => ?_)
    refine lv_iconst (v := (0 : Int32)) C0.hx C0.hb dX12_nearestTo_30 (by decide) ?_
    refine lv_istore (lv' := [(4, .int ((0 : Int32))), (3, .int ((0 : Int32))), (2, .int ((-1 : Int32))), (0, .ref (g_ad G (0))), (1, .int (p1))]) C0.hx C0.hb dX12_nearestTo_31 hl (by decide) rfl (fun ls hl => ?_)
    exact w_X12_nearestTo_33 C0 g_fuel _ _ _ _ _ _ _ _ h hW (lv_sub hl [3, 4, 2, 1, 0] rfl)
  · replace h := (if_neg hc3).symm.trans h
    cases h
set_option maxRecDepth 100000 in
set_option maxHeartbeats 4000000 in
theorem w_X12_needless_18 {p : Program} {l : Launch} {e : Env} {s : State} {m : MethodId} {args : Array Value} {below : List Frame} {meth : Method} {c : Code} {G : GL} {ids : List Nat} {y : MS} {o : Nat → Int32}  {q : Int32 × CS}   (C0 : g_X G ids p s m args meth c cX12_needless 3 RX12 (Option.some Jvm.ClassFile.FieldType.boolean))  : ∀ (n : Nat) (l1 : Int32) (l2 : Int32) (x : CS) (H : Heap) (locs : List Loc) (ls : Array Slot),  f_X12_needless_18 n l1 l2 x = some q → g_W G ids (x, y, o) s.heap H locs → lv_has ls 3 [(0, .ref (g_ad G (0))), (1, .int (l1)), (2, .int (l2))] → W p l e (g_rm 5 0 0) s m args below meth c H locs 0 0 (MQ below (g_Qi G ids q.1 (q.2, y, o)) args s 0 0 (g_A G)) (F0 m 18 ls []) := by
  intro n
  induction n with
  | zero =>
    intro l1 l2 x H locs ls h hW hl
    exact absurd h (by simp [f_X12_needless_18])
  | succ n ih =>
    intro l1 l2 x H locs ls h hW hl
    unfold f_X12_needless_18 at h
    refine lv_iload_n C0.hx C0.hb dX12_needless_18 rfl (lv_at hl 2 rfl) ?_
    refine lv_iload_n C0.hx C0.hb dX12_needless_19 rfl (lv_at hl 1 rfl) ?_
    refine lv_icmp_ge (tgt := 54) C0.hx C0.hb dX12_needless_20 (by decide) (fun hc5 => ?_) (fun hc5 => ?_)
    · replace h := (if_pos hc5).symm.trans h
      refine lv_iconst (v := (0 : Int32)) C0.hx C0.hb dX12_needless_54 (by decide) ?_
      obtain rfl := Option.some.inj h
      exact g_iret C0 hW rfl (g_bool (Or.inl rfl)).1 rfl dX12_needless_55
    · replace h := (if_neg hc5).symm.trans h
      refine lv_aload_n C0.hx C0.hb dX12_needless_23 rfl (lv_at hl 0 rfl) ?_
      obtain ⟨hk6, h⟩ := g_if h
      refine gf_X12_7 C0 hW (C0.mem (i := 0) (Nat.le_of_ble_eq_true rfl)) k_0 tf_X12_61 dX12_needless_24 ?_
      refine lv_iload_n C0.hx C0.hb dX12_needless_27 rfl (lv_at hl 2 rfl) ?_
      obtain ⟨q7, hq7, h⟩ := Option.bind_eq_some_iff.mp h
      obtain ⟨hk8, h⟩ := g_if h
      refine g_callr hW (g_runV (As := [.int (l2)]) (rest := []) C0 hW (c_X9_word hk6 hq7) (g_cwOf (n := 1) tc_X9_word tn_X9 md_X9_word (by decide) (by omega)) tm_X12_147 ti_X9_word ts_X9_word (C0.mem (kl9 hk6)) (g_c9 hk6) rfl rfl hl.1 rfl (Nat.le_of_ble_eq_true rfl) dX12_needless_28) (fun H locs hW => ?_)
      refine gfN_X11_1 C0 hW (C0.mem (kl10 hk8)) hk8 tfN_X12_151 dX12_needless_31 ?_
      refine lv_if_ne (tgt := 48) C0.hx C0.hb dX12_needless_34 (by decide) (fun hc9 => ?_) (fun hc9 => ?_)
      · replace h := (if_neg hc9).symm.trans h
        refine lv_iinc (v := l2 + (1 : Int32)) (lv' := [(2, .int (l2 + (1 : Int32))), (0, .ref (g_ad G (0))), (1, .int (l1))]) C0.hx C0.hb dX12_needless_48 hl (k := 2) rfl rfl (by decide) rfl (fun ls hl => ?_)
        refine lv_goto (tgt := 18) C0.hx C0.hb dX12_needless_51 (by decide) ?_
        exact ih _ _ _ _ _ _ h hW (lv_sub hl [1, 2, 0] rfl)
      · replace h := (if_pos hc9).symm.trans h
        refine lv_aload_n C0.hx C0.hb dX12_needless_37 rfl (lv_at hl 0 rfl) ?_
        refine lv_iload_n C0.hx C0.hb dX12_needless_38 rfl (lv_at hl 2 rfl) ?_
        refine lv_iload_n C0.hx C0.hb dX12_needless_39 rfl (lv_at hl 1 rfl) ?_
        obtain ⟨q10, hq10, h⟩ := Option.bind_eq_some_iff.mp h
        refine g_calli hW (g_runV (As := [.int (l2), .int (l1)]) (rest := []) C0 hW (c_X12_nearEachOther hq10) (g_cwOf (n := 2) tc_X12_nearEachOther tn_X12 md_X12_nearEachOther (by decide) (by omega)) tm_X12_171 ti_X12_nearEachOther ts_X12_nearEachOther (C0.mem (i := 0) (Nat.le_of_ble_eq_true rfl)) (g_c1 k_0) rfl rfl hl.1 rfl (Nat.le_of_ble_eq_true rfl) dX12_needless_40) (fun H locs hW => ?_)
        refine lv_if_eq (tgt := 48) C0.hx C0.hb dX12_needless_43 (by decide) (fun hc11 => ?_) (fun hc11 => ?_)
        · replace h := (if_pos hc11).symm.trans h
          refine lv_iinc (v := l2 + (1 : Int32)) (lv' := [(2, .int (l2 + (1 : Int32))), (0, .ref (g_ad G (0))), (1, .int (l1))]) C0.hx C0.hb dX12_needless_48 hl (k := 2) rfl rfl (by decide) rfl (fun ls hl => ?_)
          refine lv_goto (tgt := 18) C0.hx C0.hb dX12_needless_51 (by decide) ?_
          exact ih _ _ _ _ _ _ h hW (lv_sub hl [1, 2, 0] rfl)
        · replace h := (if_neg hc11).symm.trans h
          refine lv_iconst (v := (1 : Int32)) C0.hx C0.hb dX12_needless_46 (by decide) ?_
          obtain rfl := Option.some.inj h
          exact g_iret C0 hW rfl (g_bool (Or.inr rfl)).1 rfl dX12_needless_47
set_option maxRecDepth 100000 in
set_option maxHeartbeats 4000000 in
theorem c_X12_needless {l : Launch} {G : GL} {ids : List Nat} {y : MS} {o : Nat → Int32} {x : CS} {p1 : Int32} {q : Int32 × CS}    (h : f_X12_needless p1 x = some q) : Met l yX12_needless (.code yX12_needless cX12_needless 3 (Option.some Jvm.ClassFile.FieldType.boolean) :: gT) (g_rm 5 0 0) (va_Pc [.ref (g_ad G (0)), .int (p1)] (g_P G ids (x, y, o))) (g_Qi G ids q.1 (q.2, y, o)) 0 0 (g_A G) := by
  unfold f_X12_needless at h
  refine g_entry (by decide) (Nat.le_of_ble_eq_true rfl) (fun p e s m args below meth c ls C0 hl hW _ => ?_)
  have hl : lv_has ls 3 [(0, .ref (g_ad G (0))), (1, .int (p1))] := hl
  refine lv_aload_n C0.hx C0.hb dX12_needless_0 rfl (lv_at hl 0 rfl) ?_
  obtain ⟨hk1, h⟩ := g_if h
  refine gf_X12_7 C0 hW (C0.mem (i := 0) (Nat.le_of_ble_eq_true rfl)) k_0 tf_X12_61 dX12_needless_1 ?_
  refine lv_iload_n C0.hx C0.hb dX12_needless_4 rfl (lv_at hl 1 rfl) ?_
  obtain ⟨q2, hq2, h⟩ := Option.bind_eq_some_iff.mp h
  obtain ⟨hk3, h⟩ := g_if h
  refine g_callr hW (g_runV (As := [.int (p1)]) (rest := []) C0 hW (c_X9_word hk1 hq2) (g_cwOf (n := 1) tc_X9_word tn_X9 md_X9_word (by decide) (by omega)) tm_X12_147 ti_X9_word ts_X9_word (C0.mem (kl9 hk1)) (g_c9 hk1) rfl rfl hl.1 rfl (Nat.le_of_ble_eq_true rfl) dX12_needless_5) (fun H locs hW => ?_)
  refine gfN_X11_1 C0 hW (C0.mem (kl10 hk3)) hk3 tfN_X12_151 dX12_needless_8 ?_
  refine lv_if_eq (tgt := 16) C0.hx C0.hb dX12_needless_11 (by decide) (fun hc4 => ?_) (fun hc4 => ?_)
  · replace h := (if_pos hc4).symm.trans h
    refine lv_iconst (v := (0 : Int32)) C0.hx C0.hb dX12_needless_16 (by decide) ?_
    refine lv_istore_n (lv' := [(2, .int ((0 : Int32))), (0, .ref (g_ad G (0))), (1, .int (p1))]) C0.hx C0.hb dX12_needless_17 rfl hl (by decide) rfl (fun ls hl => ?_)
    exact w_X12_needless_18 C0 g_fuel _ _ _ _ _ _ h hW (lv_sub hl [1, 2, 0] rfl)
  · replace h := (if_neg hc4).symm.trans h
    refine lv_iconst (v := (0 : Int32)) C0.hx C0.hb dX12_needless_14 (by decide) ?_
    obtain rfl := Option.some.inj h
    exact g_iret C0 hW rfl (g_bool (Or.inl rfl)).1 rfl dX12_needless_15
set_option maxRecDepth 100000 in
set_option maxHeartbeats 4000000 in
theorem c_X12_isNeedless {l : Launch} {G : GL} {ids : List Nat} {y : MS} {o : Nat → Int32} {x : CS} {p1 : Int32} {q : Int32 × CS}    (h : f_X12_isNeedless p1 x = some q) : Met l yX12_isNeedless (.code yX12_isNeedless cX12_isNeedless 2 (Option.some Jvm.ClassFile.FieldType.boolean) :: gT) (g_rm 7 0 0) (va_Pc [.ref (g_ad G (0)), .int (p1)] (g_P G ids (x, y, o))) (g_Qi G ids q.1 (q.2, y, o)) 0 0 (g_A G) := by
  unfold f_X12_isNeedless at h
  refine g_entry (by decide) (Nat.le_of_ble_eq_true rfl) (fun p e s m args below meth c ls C0 hl hW _ => ?_)
  have hl : lv_has ls 2 [(0, .ref (g_ad G (0))), (1, .int (p1))] := hl
  refine lv_aload_n C0.hx C0.hb dX12_isNeedless_0 rfl (lv_at hl 0 rfl) ?_
  refine lv_iload_n C0.hx C0.hb dX12_isNeedless_1 rfl (lv_at hl 1 rfl) ?_
  obtain ⟨q1, hq1, h⟩ := Option.bind_eq_some_iff.mp h
  refine g_callv hW (g_runV (As := [.int (p1)]) (rest := []) C0 hW (c_X12_requireWord hq1) (g_cwOf (n := 1) tc_X12_requireWord tn_X12 md_X12_requireWord (by decide) (by omega)) tm_X12_129 ti_X12_requireWord ts_X12_requireWord (C0.mem (i := 0) (Nat.le_of_ble_eq_true rfl)) (g_c1 k_0) rfl rfl hl.1 rfl (Nat.le_of_ble_eq_true rfl) dX12_isNeedless_2) (fun H locs hW => ?_)
  refine lv_aload_n C0.hx C0.hb dX12_isNeedless_5 rfl (lv_at hl 0 rfl) ?_
  refine lv_iload_n C0.hx C0.hb dX12_isNeedless_6 rfl (lv_at hl 1 rfl) ?_
  obtain ⟨q2, hq2, h⟩ := Option.bind_eq_some_iff.mp h
  refine g_calli hW (g_runV (As := [.int (p1)]) (rest := []) C0 hW (c_X12_needless hq2) (g_cwOf (n := 1) tc_X12_needless tn_X12 md_X12_needless (by decide) (by omega)) tm_X12_177 ti_X12_needless ts_X12_needless (C0.mem (i := 0) (Nat.le_of_ble_eq_true rfl)) (g_c1 k_0) rfl rfl hl.1 rfl (Nat.le_of_ble_eq_true rfl) dX12_isNeedless_7) (fun H locs hW => ?_)
  obtain ⟨hb3, h⟩ := g_if h
  obtain rfl := Option.some.inj h
  exact g_iret C0 hW rfl (g_bool hb3).1 rfl dX12_isNeedless_10
set_option maxRecDepth 100000 in
set_option maxHeartbeats 4000000 in
theorem c_X12_heardPitch {l : Launch} {G : GL} {ids : List Nat} {y : MS} {o : Nat → Int32} {x : CS} {p1 : Int32} {q : Int32}    (h : f_X12_heardPitch p1 x = some q) : Met l yX12_heardPitch (.code yX12_heardPitch cX12_heardPitch 2 (Option.some Jvm.ClassFile.FieldType.int) :: gT) (g_rm 7 0 0) (va_Pc [.ref (g_ad G (0)), .int (p1)] (g_P G ids (x, y, o))) (g_Qi G ids q (x, y, o)) 0 0 (g_A G) := by
  unfold f_X12_heardPitch at h
  refine g_entry (by decide) (Nat.le_of_ble_eq_true rfl) (fun p e s m args below meth c ls C0 hl hW _ => ?_)
  have hl : lv_has ls 2 [(0, .ref (g_ad G (0))), (1, .int (p1))] := hl
  refine lv_aload_n C0.hx C0.hb dX12_heardPitch_0 rfl (lv_at hl 0 rfl) ?_
  refine gf_X12_3 C0 hW (C0.mem (i := 0) (Nat.le_of_ble_eq_true rfl)) k_0 tf_X12_35 dX12_heardPitch_1 ?_
  refine lv_iload_n C0.hx C0.hb dX12_heardPitch_4 rfl (lv_at hl 1 rfl) ?_
  obtain ⟨q1, hq1, h⟩ := Option.bind_eq_some_iff.mp h
  refine g_callv hW (g_runS (As := [.ref (g_ad G (14)), .int (p1)]) (rest := []) C0 hW (c_X12_requireBeat k_14 hq1) (g_cwOf (n := 2) tc_X12_requireBeat tn_X12 md_X12_requireBeat (by decide) (by omega)) tm_X12_136 tz_X12_requireBeat rfl hl.1 rfl (Nat.le_of_ble_eq_true rfl) dX12_heardPitch_5) (fun H locs hW => ?_)
  refine lv_aload_n C0.hx C0.hb dX12_heardPitch_8 rfl (lv_at hl 0 rfl) ?_
  refine gf_X12_3 C0 hW (C0.mem (i := 0) (Nat.le_of_ble_eq_true rfl)) k_0 tf_X12_35 dX12_heardPitch_9 ?_
  refine lv_iload_n C0.hx C0.hb dX12_heardPitch_12 rfl (lv_at hl 1 rfl) ?_
  obtain ⟨q2, hq2, h⟩ := Option.bind_eq_some_iff.mp h
  refine g_calli hW (g_runV (As := [.int (p1)]) (rest := []) C0 hW (c_X3_pitch k_14 hq2) (g_cwOf (n := 1) tc_X3_pitch tn_X3 md_X3_pitch (by decide) (by omega)) tm_X12_140 ti_X3_pitch ts_X3_pitch (C0.mem (i := 14) (Nat.le_of_ble_eq_true rfl)) (g_c5 k_14) rfl rfl hl.1 rfl (Nat.le_of_ble_eq_true rfl) dX12_heardPitch_13) (fun H locs hW => ?_)
  obtain rfl := Option.some.inj h
  exact g_iret C0 hW rfl rfl rfl dX12_heardPitch_16
set_option maxRecDepth 100000 in
set_option maxHeartbeats 4000000 in
theorem c_X12_requireSomeHeard {l : Launch} {G : GL} {ids : List Nat} {y : MS} {o : Nat → Int32} {x : CS}  {q : Unit}    (h : f_X12_requireSomeHeard x = some q) : Met l yX12_requireSomeHeard (.code yX12_requireSomeHeard cX12_requireSomeHeard 1 (Option.none : Option Jvm.ClassFile.FieldType) :: gT) (g_rm 6 0 0) (va_Pc [.ref (g_ad G (0))] (g_P G ids (x, y, o))) (g_Qv G ids (x, y, o)) 0 0 (g_A G) := by
  unfold f_X12_requireSomeHeard at h
  refine g_entry (by decide) (Nat.le_of_ble_eq_true rfl) (fun p e s m args below meth c ls C0 hl hW _ => ?_)
  have hl : lv_has ls 1 [(0, .ref (g_ad G (0)))] := hl
  refine lv_aload_n C0.hx C0.hb dX12_requireSomeHeard_0 rfl (lv_at hl 0 rfl) ?_
  refine gf_X12_3 C0 hW (C0.mem (i := 0) (Nat.le_of_ble_eq_true rfl)) k_0 tf_X12_35 dX12_requireSomeHeard_1 ?_
  refine gfN_X3_1 C0 hW (C0.mem (i := 14) (Nat.le_of_ble_eq_true rfl)) k_14 tfN_X12_128 dX12_requireSomeHeard_4 ?_
  refine lv_if_ne (tgt := 20) C0.hx C0.hb dX12_requireSomeHeard_7 (by decide) (fun hc1 => ?_) (fun hc1 => ?_)
  · replace h := (if_neg hc1).symm.trans h
    obtain rfl := Option.some.inj h
    exact g_vret C0 hW rfl dX12_requireSomeHeard_20
  · replace h := (if_pos hc1).symm.trans h
    cases h
set_option maxRecDepth 100000 in
set_option maxHeartbeats 4000000 in
theorem c_X12_distanceTo {l : Launch} {G : GL} {ids : List Nat} {y : MS} {o : Nat → Int32} {x : CS} {p1 : Int32} {q : Int32}    (h : f_X12_distanceTo p1 x = some q) : Met l yX12_distanceTo (.code yX12_distanceTo cX12_distanceTo 2 (Option.some Jvm.ClassFile.FieldType.int) :: gT) (g_rm 7 0 0) (va_Pc [.ref (g_ad G (0)), .int (p1)] (g_P G ids (x, y, o))) (g_Qi G ids q (x, y, o)) 0 0 (g_A G) := by
  unfold f_X12_distanceTo at h
  refine g_entry (by decide) (Nat.le_of_ble_eq_true rfl) (fun p e s m args below meth c ls C0 hl hW _ => ?_)
  have hl : lv_has ls 2 [(0, .ref (g_ad G (0))), (1, .int (p1))] := hl
  refine lv_aload_n C0.hx C0.hb dX12_distanceTo_0 rfl (lv_at hl 0 rfl) ?_
  refine lv_iload_n C0.hx C0.hb dX12_distanceTo_1 rfl (lv_at hl 1 rfl) ?_
  obtain ⟨q1, hq1, h⟩ := Option.bind_eq_some_iff.mp h
  refine g_callv hW (g_runV (As := [.int (p1)]) (rest := []) C0 hW (c_X12_requireWord hq1) (g_cwOf (n := 1) tc_X12_requireWord tn_X12 md_X12_requireWord (by decide) (by omega)) tm_X12_129 ti_X12_requireWord ts_X12_requireWord (C0.mem (i := 0) (Nat.le_of_ble_eq_true rfl)) (g_c1 k_0) rfl rfl hl.1 rfl (Nat.le_of_ble_eq_true rfl) dX12_distanceTo_2) (fun H locs hW => ?_)
  refine lv_aload_n C0.hx C0.hb dX12_distanceTo_5 rfl (lv_at hl 0 rfl) ?_
  obtain ⟨q2, hq2, h⟩ := Option.bind_eq_some_iff.mp h
  refine g_callv hW (g_runV (As := []) (rest := []) C0 hW (c_X12_requireSomeHeard hq2) (g_cwOf (n := 0) tc_X12_requireSomeHeard tn_X12 md_X12_requireSomeHeard (by decide) (by omega)) tm_X12_181 ti_X12_requireSomeHeard ts_X12_requireSomeHeard (C0.mem (i := 0) (Nat.le_of_ble_eq_true rfl)) (g_c1 k_0) rfl rfl hl.1 rfl (Nat.le_of_ble_eq_true rfl) dX12_distanceTo_6) (fun H locs hW => ?_)
  refine lv_aload_n C0.hx C0.hb dX12_distanceTo_9 rfl (lv_at hl 0 rfl) ?_
  obtain ⟨hk3, h⟩ := g_if h
  refine gf_X12_7 C0 hW (C0.mem (i := 0) (Nat.le_of_ble_eq_true rfl)) k_0 tf_X12_61 dX12_distanceTo_10 ?_
  refine lv_iload_n C0.hx C0.hb dX12_distanceTo_13 rfl (lv_at hl 1 rfl) ?_
  obtain ⟨q4, hq4, h⟩ := Option.bind_eq_some_iff.mp h
  obtain ⟨hk5, h⟩ := g_if h
  refine g_callr hW (g_runV (As := [.int (p1)]) (rest := []) C0 hW (c_X9_word hk3 hq4) (g_cwOf (n := 1) tc_X9_word tn_X9 md_X9_word (by decide) (by omega)) tm_X12_147 ti_X9_word ts_X9_word (C0.mem (kl9 hk3)) (g_c9 hk3) rfl rfl hl.1 rfl (Nat.le_of_ble_eq_true rfl) dX12_distanceTo_14) (fun H locs hW => ?_)
  refine gfN_X11_2 C0 hW (C0.mem (kl10 hk5)) hk5 tfN_X12_184 dX12_distanceTo_17 ?_
  obtain rfl := Option.some.inj h
  exact g_iret C0 hW rfl rfl rfl dX12_distanceTo_20
set_option maxRecDepth 100000 in
set_option maxHeartbeats 4000000 in
theorem c_X12_contourTo {l : Launch} {G : GL} {ids : List Nat} {y : MS} {o : Nat → Int32} {x : CS} {p1 : Int32} {q : Int32 × CS}    (h : f_X12_contourTo p1 x = some q) : Met l yX12_contourTo (.code yX12_contourTo cX12_contourTo 2 (Option.some Jvm.ClassFile.FieldType.int) :: gT) (g_rm 7 0 0) (va_Pc [.ref (g_ad G (0)), .int (p1)] (g_P G ids (x, y, o))) (g_Qi G ids q.1 (q.2, y, o)) 0 0 (g_A G) := by
  unfold f_X12_contourTo at h
  refine g_entry (by decide) (Nat.le_of_ble_eq_true rfl) (fun p e s m args below meth c ls C0 hl hW _ => ?_)
  have hl : lv_has ls 2 [(0, .ref (g_ad G (0))), (1, .int (p1))] := hl
  refine lv_aload_n C0.hx C0.hb dX12_contourTo_0 rfl (lv_at hl 0 rfl) ?_
  refine lv_iload_n C0.hx C0.hb dX12_contourTo_1 rfl (lv_at hl 1 rfl) ?_
  obtain ⟨q1, hq1, h⟩ := Option.bind_eq_some_iff.mp h
  refine g_callv hW (g_runV (As := [.int (p1)]) (rest := []) C0 hW (c_X12_requireWord hq1) (g_cwOf (n := 1) tc_X12_requireWord tn_X12 md_X12_requireWord (by decide) (by omega)) tm_X12_129 ti_X12_requireWord ts_X12_requireWord (C0.mem (i := 0) (Nat.le_of_ble_eq_true rfl)) (g_c1 k_0) rfl rfl hl.1 rfl (Nat.le_of_ble_eq_true rfl) dX12_contourTo_2) (fun H locs hW => ?_)
  refine lv_aload_n C0.hx C0.hb dX12_contourTo_5 rfl (lv_at hl 0 rfl) ?_
  obtain ⟨q2, hq2, h⟩ := Option.bind_eq_some_iff.mp h
  refine g_callv hW (g_runV (As := []) (rest := []) C0 hW (c_X12_requireSomeHeard hq2) (g_cwOf (n := 0) tc_X12_requireSomeHeard tn_X12 md_X12_requireSomeHeard (by decide) (by omega)) tm_X12_181 ti_X12_requireSomeHeard ts_X12_requireSomeHeard (C0.mem (i := 0) (Nat.le_of_ble_eq_true rfl)) (g_c1 k_0) rfl rfl hl.1 rfl (Nat.le_of_ble_eq_true rfl) dX12_contourTo_6) (fun H locs hW => ?_)
  refine lv_aload_n C0.hx C0.hb dX12_contourTo_9 rfl (lv_at hl 0 rfl) ?_
  refine gf_X12_2 C0 hW (C0.mem (i := 0) (Nat.le_of_ble_eq_true rfl)) k_0 tf_X12_28 dX12_contourTo_10 ?_
  refine lv_aload_n C0.hx C0.hb dX12_contourTo_13 rfl (lv_at hl 0 rfl) ?_
  refine lv_iload_n C0.hx C0.hb dX12_contourTo_14 rfl (lv_at hl 1 rfl) ?_
  obtain ⟨q3, hq3, h⟩ := Option.bind_eq_some_iff.mp h
  obtain ⟨hk4, h⟩ := g_if h
  refine g_callr hW (g_runV (As := [.int (p1)]) (rest := [.ref (g_ad G (8))]) C0 hW (c_X12_rowOf hq3) (g_cwOf (n := 1) tc_X12_rowOf tn_X12 md_X12_rowOf (by decide) (by omega)) tm_X12_132 ti_X12_rowOf ts_X12_rowOf (C0.mem (i := 0) (Nat.le_of_ble_eq_true rfl)) (g_c1 k_0) rfl rfl hl.1 rfl (Nat.le_of_ble_eq_true rfl) dX12_contourTo_15) (fun H locs hW => ?_)
  refine lv_aload_n C0.hx C0.hb dX12_contourTo_18 rfl (lv_at hl 0 rfl) ?_
  refine gf_X12_3 C0 hW (C0.mem (i := 0) (Nat.le_of_ble_eq_true rfl)) k_0 tf_X12_35 dX12_contourTo_19 ?_
  refine lv_aload_n C0.hx C0.hb dX12_contourTo_22 rfl (lv_at hl 0 rfl) ?_
  obtain ⟨hk5, h⟩ := g_if h
  refine gf_X12_6 C0 hW (C0.mem (i := 0) (Nat.le_of_ble_eq_true rfl)) k_0 tf_X12_54 dX12_contourTo_23 ?_
  refine gfN_X5_6 C0 hW (C0.mem (kl7 hk5)) hk5 tfN_X12_164 dX12_contourTo_26 ?_
  obtain ⟨q6, hq6, h⟩ := Option.bind_eq_some_iff.mp h
  refine g_calli hW (g_runV (As := [.ref (g_ad G (q3)), .ref (g_ad G (14)), .int (x.1 (x.2 0 6) 6)]) (rest := []) C0 hW (c_X10_contourDistance hk4 k_14 hq6) (g_cwOf (n := 3) tc_X10_contourDistance tn_X10 md_X10_contourDistance (by decide) (by omega)) tm_X12_167 ti_X10_contourDistance ts_X10_contourDistance (C0.mem (i := 8) (Nat.le_of_ble_eq_true rfl)) (g_c4 k_8) rfl rfl hl.1 rfl (Nat.le_of_ble_eq_true rfl) dX12_contourTo_29) (fun H locs hW => ?_)
  obtain rfl := Option.some.inj h
  exact g_iret C0 hW rfl rfl rfl dX12_contourTo_32
set_option maxRecDepth 100000 in
set_option maxHeartbeats 4000000 in
theorem c_X12_stepsTo {l : Launch} {G : GL} {ids : List Nat} {y : MS} {o : Nat → Int32} {x : CS} {p1 : Int32} {q : Int32 × CS}    (h : f_X12_stepsTo p1 x = some q) : Met l yX12_stepsTo (.code yX12_stepsTo cX12_stepsTo 2 (Option.some Jvm.ClassFile.FieldType.int) :: gT) (g_rm 7 0 0) (va_Pc [.ref (g_ad G (0)), .int (p1)] (g_P G ids (x, y, o))) (g_Qi G ids q.1 (q.2, y, o)) 0 0 (g_A G) := by
  unfold f_X12_stepsTo at h
  refine g_entry (by decide) (Nat.le_of_ble_eq_true rfl) (fun p e s m args below meth c ls C0 hl hW _ => ?_)
  have hl : lv_has ls 2 [(0, .ref (g_ad G (0))), (1, .int (p1))] := hl
  refine lv_aload_n C0.hx C0.hb dX12_stepsTo_0 rfl (lv_at hl 0 rfl) ?_
  refine lv_iload_n C0.hx C0.hb dX12_stepsTo_1 rfl (lv_at hl 1 rfl) ?_
  obtain ⟨q1, hq1, h⟩ := Option.bind_eq_some_iff.mp h
  refine g_callv hW (g_runV (As := [.int (p1)]) (rest := []) C0 hW (c_X12_requireWord hq1) (g_cwOf (n := 1) tc_X12_requireWord tn_X12 md_X12_requireWord (by decide) (by omega)) tm_X12_129 ti_X12_requireWord ts_X12_requireWord (C0.mem (i := 0) (Nat.le_of_ble_eq_true rfl)) (g_c1 k_0) rfl rfl hl.1 rfl (Nat.le_of_ble_eq_true rfl) dX12_stepsTo_2) (fun H locs hW => ?_)
  refine lv_aload_n C0.hx C0.hb dX12_stepsTo_5 rfl (lv_at hl 0 rfl) ?_
  obtain ⟨q2, hq2, h⟩ := Option.bind_eq_some_iff.mp h
  refine g_callv hW (g_runV (As := []) (rest := []) C0 hW (c_X12_requireSomeHeard hq2) (g_cwOf (n := 0) tc_X12_requireSomeHeard tn_X12 md_X12_requireSomeHeard (by decide) (by omega)) tm_X12_181 ti_X12_requireSomeHeard ts_X12_requireSomeHeard (C0.mem (i := 0) (Nat.le_of_ble_eq_true rfl)) (g_c1 k_0) rfl rfl hl.1 rfl (Nat.le_of_ble_eq_true rfl) dX12_stepsTo_6) (fun H locs hW => ?_)
  refine lv_aload_n C0.hx C0.hb dX12_stepsTo_9 rfl (lv_at hl 0 rfl) ?_
  refine gf_X12_2 C0 hW (C0.mem (i := 0) (Nat.le_of_ble_eq_true rfl)) k_0 tf_X12_28 dX12_stepsTo_10 ?_
  refine lv_aload_n C0.hx C0.hb dX12_stepsTo_13 rfl (lv_at hl 0 rfl) ?_
  refine lv_iload_n C0.hx C0.hb dX12_stepsTo_14 rfl (lv_at hl 1 rfl) ?_
  obtain ⟨q3, hq3, h⟩ := Option.bind_eq_some_iff.mp h
  obtain ⟨hk4, h⟩ := g_if h
  refine g_callr hW (g_runV (As := [.int (p1)]) (rest := [.ref (g_ad G (8))]) C0 hW (c_X12_rowOf hq3) (g_cwOf (n := 1) tc_X12_rowOf tn_X12 md_X12_rowOf (by decide) (by omega)) tm_X12_132 ti_X12_rowOf ts_X12_rowOf (C0.mem (i := 0) (Nat.le_of_ble_eq_true rfl)) (g_c1 k_0) rfl rfl hl.1 rfl (Nat.le_of_ble_eq_true rfl) dX12_stepsTo_15) (fun H locs hW => ?_)
  refine lv_aload_n C0.hx C0.hb dX12_stepsTo_18 rfl (lv_at hl 0 rfl) ?_
  refine gf_X12_3 C0 hW (C0.mem (i := 0) (Nat.le_of_ble_eq_true rfl)) k_0 tf_X12_35 dX12_stepsTo_19 ?_
  refine lv_aload_n C0.hx C0.hb dX12_stepsTo_22 rfl (lv_at hl 0 rfl) ?_
  obtain ⟨hk5, h⟩ := g_if h
  refine gf_X12_6 C0 hW (C0.mem (i := 0) (Nat.le_of_ble_eq_true rfl)) k_0 tf_X12_54 dX12_stepsTo_23 ?_
  refine gfN_X5_6 C0 hW (C0.mem (kl7 hk5)) hk5 tfN_X12_164 dX12_stepsTo_26 ?_
  obtain ⟨q6, hq6, h⟩ := Option.bind_eq_some_iff.mp h
  refine g_calli hW (g_runV (As := [.ref (g_ad G (q3)), .ref (g_ad G (14)), .int (x.1 (x.2 0 6) 6)]) (rest := []) C0 hW (c_X10_fewestSteps hk4 k_14 hq6) (g_cwOf (n := 3) tc_X10_fewestSteps tn_X10 md_X10_fewestSteps (by decide) (by omega)) tm_X12_187 ti_X10_fewestSteps ts_X10_fewestSteps (C0.mem (i := 8) (Nat.le_of_ble_eq_true rfl)) (g_c4 k_8) rfl rfl hl.1 rfl (Nat.le_of_ble_eq_true rfl) dX12_stepsTo_29) (fun H locs hW => ?_)
  obtain rfl := Option.some.inj h
  exact g_iret C0 hW rfl rfl rfl dX12_stepsTo_32
set_option maxRecDepth 100000 in
set_option maxHeartbeats 4000000 in
theorem c_X12_requireMeant {l : Launch} {G : GL} {ids : List Nat} {y : MS} {o : Nat → Int32} {x : CS} {p1 : Int32} {q : Unit}    (h : f_X12_requireMeant p1 = some q) : Met l yX12_requireMeant (.code yX12_requireMeant cX12_requireMeant 1 (Option.none : Option Jvm.ClassFile.FieldType) :: gT) (g_rm 6 0 0) (va_Pc [.int (p1)] (g_P G ids (x, y, o))) (g_Qv G ids (x, y, o)) 0 0 (g_A G) := by
  unfold f_X12_requireMeant at h
  refine g_entry (by decide) (Nat.le_of_ble_eq_true rfl) (fun p e s m args below meth c ls C0 hl hW _ => ?_)
  have hl : lv_has ls 1 [(0, .int (p1))] := hl
  refine lv_iload_n C0.hx C0.hb dX12_requireMeant_0 rfl (lv_at hl 0 rfl) ?_
  refine lv_iconst (v := (-1 : Int32)) C0.hx C0.hb dX12_requireMeant_1 (by decide) ?_
  refine lv_icmp_ne (tgt := 15) C0.hx C0.hb dX12_requireMeant_2 (by decide) (fun hc1 => ?_) (fun hc1 => ?_)
  · replace h := (if_neg hc1).symm.trans h
    obtain rfl := Option.some.inj h
    exact g_vret C0 hW rfl dX12_requireMeant_15
  · replace h := (if_pos hc1).symm.trans h
    cases h
set_option maxRecDepth 100000 in
set_option maxHeartbeats 4000000 in
theorem c_X12_meantWord {l : Launch} {G : GL} {ids : List Nat} {y : MS} {o : Nat → Int32} {x : CS}  {q : Int32}    (h : f_X12_meantWord x = some q) : Met l yX12_meantWord (.code yX12_meantWord cX12_meantWord 2 (Option.some Jvm.ClassFile.FieldType.int) :: gT) (g_rm 7 0 0) (va_Pc [.ref (g_ad G (0))] (g_P G ids (x, y, o))) (g_Qi G ids q (x, y, o)) 0 0 (g_A G) := by
  unfold f_X12_meantWord at h
  refine g_entry (by decide) (Nat.le_of_ble_eq_true rfl) (fun p e s m args below meth c ls C0 hl hW _ => ?_)
  have hl : lv_has ls 2 [(0, .ref (g_ad G (0)))] := hl
  refine lv_aload_n C0.hx C0.hb dX12_meantWord_0 rfl (lv_at hl 0 rfl) ?_
  refine gf_X12_5 C0 hW (C0.mem (i := 0) (Nat.le_of_ble_eq_true rfl)) k_0 tf_X12_47 dX12_meantWord_1 ?_
  refine lv_aload_n C0.hx C0.hb dX12_meantWord_4 rfl (lv_at hl 0 rfl) ?_
  obtain ⟨hk1, h⟩ := g_if h
  refine gf_X12_7 C0 hW (C0.mem (i := 0) (Nat.le_of_ble_eq_true rfl)) k_0 tf_X12_61 dX12_meantWord_5 ?_
  obtain ⟨q2, hq2, h⟩ := Option.bind_eq_some_iff.mp h
  refine g_calli hW (g_runV (As := [.ref (g_ad G (x.2 0 7))]) (rest := []) C0 hW (c_X1_meantOf hk1 hq2) (g_cwOf (n := 1) tc_X1_meantOf tn_X1 md_X1_meantOf (by decide) (by omega)) tm_X12_190 ti_X1_meantOf ts_X1_meantOf (C0.mem (i := 18) (Nat.le_of_ble_eq_true rfl)) (g_c6 k_18) rfl rfl hl.1 rfl (Nat.le_of_ble_eq_true rfl) dX12_meantWord_8) (fun H locs hW => ?_)
  refine lv_istore_n (lv' := [(1, .int (q2)), (0, .ref (g_ad G (0)))]) C0.hx C0.hb dX12_meantWord_11 rfl hl (by decide) rfl (fun ls hl => ?_)
  refine lv_iload_n C0.hx C0.hb dX12_meantWord_12 rfl (lv_at hl 0 rfl) ?_
  obtain ⟨q3, hq3, h⟩ := Option.bind_eq_some_iff.mp h
  refine g_callv hW (g_runS (As := [.int (q2)]) (rest := []) C0 hW (c_X12_requireMeant hq3) (g_cwOf (n := 1) tc_X12_requireMeant tn_X12 md_X12_requireMeant (by decide) (by omega)) tm_X12_194 tz_X12_requireMeant rfl hl.1 rfl (Nat.le_of_ble_eq_true rfl) dX12_meantWord_13) (fun H locs hW => ?_)
  refine lv_iload_n C0.hx C0.hb dX12_meantWord_16 rfl (lv_at hl 0 rfl) ?_
  obtain rfl := Option.some.inj h
  exact g_iret C0 hW rfl rfl rfl dX12_meantWord_17
set_option maxRecDepth 100000 in
set_option maxHeartbeats 4000000 in
theorem c_X12_surety {l : Launch} {G : GL} {ids : List Nat} {y : MS} {o : Nat → Int32} {x : CS}  {q : Int32}    (h : f_X12_surety x = some q) : Met l yX12_surety (.code yX12_surety cX12_surety 3 (Option.some Jvm.ClassFile.FieldType.int) :: gT) (g_rm 7 0 0) (va_Pc [.ref (g_ad G (0))] (g_P G ids (x, y, o))) (g_Qi G ids q (x, y, o)) 0 0 (g_A G) := by
  unfold f_X12_surety at h
  refine g_entry (by decide) (Nat.le_of_ble_eq_true rfl) (fun p e s m args below meth c ls C0 hl hW _ => ?_)
  have hl : lv_has ls 3 [(0, .ref (g_ad G (0)))] := hl
  refine lv_aload_n C0.hx C0.hb dX12_surety_0 rfl (lv_at hl 0 rfl) ?_
  refine gf_X12_5 C0 hW (C0.mem (i := 0) (Nat.le_of_ble_eq_true rfl)) k_0 tf_X12_47 dX12_surety_1 ?_
  refine lv_aload_n C0.hx C0.hb dX12_surety_4 rfl (lv_at hl 0 rfl) ?_
  obtain ⟨hk1, h⟩ := g_if h
  refine gf_X12_7 C0 hW (C0.mem (i := 0) (Nat.le_of_ble_eq_true rfl)) k_0 tf_X12_61 dX12_surety_5 ?_
  obtain ⟨q2, hq2, h⟩ := Option.bind_eq_some_iff.mp h
  refine g_calli hW (g_runV (As := [.ref (g_ad G (x.2 0 7))]) (rest := []) C0 hW (c_X1_meantOf hk1 hq2) (g_cwOf (n := 1) tc_X1_meantOf tn_X1 md_X1_meantOf (by decide) (by omega)) tm_X12_190 ti_X1_meantOf ts_X1_meantOf (C0.mem (i := 18) (Nat.le_of_ble_eq_true rfl)) (g_c6 k_18) rfl rfl hl.1 rfl (Nat.le_of_ble_eq_true rfl) dX12_surety_8) (fun H locs hW => ?_)
  refine lv_istore_n (lv' := [(1, .int (q2)), (0, .ref (g_ad G (0)))]) C0.hx C0.hb dX12_surety_11 rfl hl (by decide) rfl (fun ls hl => ?_)
  refine lv_iload_n C0.hx C0.hb dX12_surety_12 rfl (lv_at hl 0 rfl) ?_
  obtain ⟨q3, hq3, h⟩ := Option.bind_eq_some_iff.mp h
  refine g_callv hW (g_runS (As := [.int (q2)]) (rest := []) C0 hW (c_X12_requireMeant hq3) (g_cwOf (n := 1) tc_X12_requireMeant tn_X12 md_X12_requireMeant (by decide) (by omega)) tm_X12_194 tz_X12_requireMeant rfl hl.1 rfl (Nat.le_of_ble_eq_true rfl) dX12_surety_13) (fun H locs hW => ?_)
  refine lv_aload_n C0.hx C0.hb dX12_surety_16 rfl (lv_at hl 1 rfl) ?_
  refine gf_X12_7 C0 hW (C0.mem (i := 0) (Nat.le_of_ble_eq_true rfl)) k_0 tf_X12_61 dX12_surety_17 ?_
  refine lv_iload_n C0.hx C0.hb dX12_surety_20 rfl (lv_at hl 0 rfl) ?_
  obtain ⟨q4, hq4, h⟩ := Option.bind_eq_some_iff.mp h
  refine g_calli hW (g_runV (As := [.int (q2)]) (rest := []) C0 hW (c_X9_closestKept hk1 hq4) (g_cwOf (n := 1) tc_X9_closestKept tn_X9 md_X9_closestKept (by decide) (by omega)) tm_X12_197 ti_X9_closestKept ts_X9_closestKept (C0.mem (kl9 hk1)) (g_c9 hk1) rfl rfl hl.1 rfl (Nat.le_of_ble_eq_true rfl) dX12_surety_21) (fun H locs hW => ?_)
  refine lv_istore_n (lv' := [(2, .int (q4)), (1, .int (q2)), (0, .ref (g_ad G (0)))]) C0.hx C0.hb dX12_surety_24 rfl hl (by decide) rfl (fun ls hl => ?_)
  refine lv_iload_n C0.hx C0.hb dX12_surety_25 rfl (lv_at hl 0 rfl) ?_
  refine lv_iconst (v := (-1 : Int32)) C0.hx C0.hb dX12_surety_26 (by decide) ?_
  refine lv_icmp_ne (tgt := 32) C0.hx C0.hb dX12_surety_27 (by decide) (fun hc5 => ?_) (fun hc5 => ?_)
  · replace h := (if_neg hc5).symm.trans h
    refine lv_aload_n C0.hx C0.hb dX12_surety_32 rfl (lv_at hl 2 rfl) ?_
    refine gf_X12_7 C0 hW (C0.mem (i := 0) (Nat.le_of_ble_eq_true rfl)) k_0 tf_X12_61 dX12_surety_33 ?_
    refine lv_iload_n C0.hx C0.hb dX12_surety_36 rfl (lv_at hl 0 rfl) ?_
    obtain ⟨q6, hq6, h⟩ := Option.bind_eq_some_iff.mp h
    obtain ⟨hk7, h⟩ := g_if h
    refine g_callr hW (g_runV (As := [.int (q4)]) (rest := []) C0 hW (c_X9_word hk1 hq6) (g_cwOf (n := 1) tc_X9_word tn_X9 md_X9_word (by decide) (by omega)) tm_X12_147 ti_X9_word ts_X9_word (C0.mem (kl9 hk1)) (g_c9 hk1) rfl rfl hl.1 rfl (Nat.le_of_ble_eq_true rfl) dX12_surety_37) (fun H locs hW => ?_)
    refine gfN_X11_2 C0 hW (C0.mem (kl10 hk7)) hk7 tfN_X12_184 dX12_surety_40 ?_
    refine lv_aload_n C0.hx C0.hb dX12_surety_43 rfl (lv_at hl 2 rfl) ?_
    refine gf_X12_7 C0 hW (C0.mem (i := 0) (Nat.le_of_ble_eq_true rfl)) k_0 tf_X12_61 dX12_surety_44 ?_
    refine lv_iload_n C0.hx C0.hb dX12_surety_47 rfl (lv_at hl 1 rfl) ?_
    obtain ⟨q8, hq8, h⟩ := Option.bind_eq_some_iff.mp h
    obtain ⟨hk9, h⟩ := g_if h
    refine g_callr hW (g_runV (As := [.int (q2)]) (rest := [.int (x.1 q6 2)]) C0 hW (c_X9_word hk1 hq8) (g_cwOf (n := 1) tc_X9_word tn_X9 md_X9_word (by decide) (by omega)) tm_X12_147 ti_X9_word ts_X9_word (C0.mem (kl9 hk1)) (g_c9 hk1) rfl rfl hl.1 rfl (Nat.le_of_ble_eq_true rfl) dX12_surety_48) (fun H locs hW => ?_)
    refine gfN_X11_2 C0 hW (C0.mem (kl10 hk9)) hk9 tfN_X12_184 dX12_surety_51 ?_
    refine lv_isub C0.hx C0.hb dX12_surety_54 ?_
    obtain rfl := Option.some.inj h
    exact g_iret C0 hW rfl rfl rfl dX12_surety_55
  · replace h := (if_pos hc5).symm.trans h
    refine lv_iconst (v := (-1 : Int32)) C0.hx C0.hb dX12_surety_30 (by decide) ?_
    obtain rfl := Option.some.inj h
    exact g_iret C0 hW rfl rfl rfl dX12_surety_31
set_option maxRecDepth 100000 in
set_option maxHeartbeats 4000000 in
theorem w_X12_hear_10 {p : Program} {l : Launch} {e : Env} {s : State} {m : MethodId} {args : Array Value} {below : List Frame} {meth : Method} {c : Code} {G : GL} {ids : List Nat} {y : MS} {o : Nat → Int32}  {q : Int32 × CS}   (C0 : g_X G ids p s m args meth c cX12_hear 2 RX12 (Option.some Jvm.ClassFile.FieldType.int))  : ∀   (x : CS) (H : Heap) (locs : List Loc) (ls : Array Slot),  f_X12_hear_10 x = some q → g_W G ids (x, y, o) s.heap H locs → lv_has ls 2 [] → W p l e (g_rm 6 0 0) s m args below meth c H locs 0 0 (MQ below (g_Qi G ids q.1 (q.2, y, o)) args s 0 0 (g_A G)) (F0 m 10 ls []) := by
  intro x H locs ls h hW hl
  unfold f_X12_hear_10 at h
  cases h
set_option maxRecDepth 100000 in
set_option maxHeartbeats 4000000 in
theorem c_X12_hear {l : Launch} {G : GL} {ids : List Nat} {y : MS} {o : Nat → Int32} {x : CS} {p1 : Int32} {q : Int32 × CS}    (h : f_X12_hear p1 x = some q) : Met l yX12_hear (.code yX12_hear cX12_hear 2 (Option.some Jvm.ClassFile.FieldType.int) :: gT) (g_rm 6 0 0) (va_Pc [.ref (g_ad G (0)), .int (p1)] (g_P G ids (x, y, o))) (g_Qi G ids q.1 (q.2, y, o)) 0 0 (g_A G) := by
  unfold f_X12_hear at h
  refine g_entry (by decide) (Nat.le_of_ble_eq_true rfl) (fun p e s m args below meth c ls C0 hl hW _ => ?_)
  have hl : lv_has ls 2 [(0, .ref (g_ad G (0))), (1, .int (p1))] := hl
  refine lv_iload_n C0.hx C0.hb dX12_hear_0 rfl (lv_at hl 1 rfl) ?_
  refine lv_if_lt (tgt := 10) C0.hx C0.hb dX12_hear_1 (by decide) (fun hc1 => ?_) (fun hc1 => ?_)
  · replace h := (if_pos hc1).symm.trans h
    exact w_X12_hear_10 C0 _ _ _ _ h hW (lv_sub hl [] rfl)
  · replace h := (if_neg hc1).symm.trans h
    refine lv_iload_n C0.hx C0.hb dX12_hear_4 rfl (lv_at hl 1 rfl) ?_
    refine lv_bipush (v := (40 : Int32)) C0.hx C0.hb dX12_hear_5 (by decide) ?_
    refine lv_icmp_le (tgt := 20) C0.hx C0.hb dX12_hear_7 (by decide) (fun hc2 => ?_) (fun hc2 => ?_)
    · replace h := (if_pos hc2).symm.trans h
      refine lv_aload_n C0.hx C0.hb dX12_hear_20 rfl (lv_at hl 0 rfl) ?_
      refine gf_X12_3 C0 hW (C0.mem (i := 0) (Nat.le_of_ble_eq_true rfl)) k_0 tf_X12_35 dX12_hear_21 ?_
      refine gfN_X3_1 C0 hW (C0.mem (i := 14) (Nat.le_of_ble_eq_true rfl)) k_14 tfN_X12_128 dX12_hear_24 ?_
      refine lv_bipush (v := (24 : Int32)) C0.hx C0.hb dX12_hear_27 (by decide) ?_
      refine lv_icmp_lt (tgt := 42) C0.hx C0.hb dX12_hear_29 (by decide) (fun hc3 => ?_) (fun hc3 => ?_)
      · replace h := (if_pos hc3).symm.trans h
        refine lv_aload_n C0.hx C0.hb dX12_hear_42 rfl (lv_at hl 0 rfl) ?_
        refine gf_X12_3 C0 hW (C0.mem (i := 0) (Nat.le_of_ble_eq_true rfl)) k_0 tf_X12_35 dX12_hear_43 ?_
        refine lv_iload_n C0.hx C0.hb dX12_hear_46 rfl (lv_at hl 1 rfl) ?_
        obtain ⟨q4, hq4, h⟩ := Option.bind_eq_some_iff.mp h
        refine g_callv hW (g_runV (As := [.int (p1)]) (rest := []) C0 hW (c_X3_add k_14 hq4) (g_cwOf (n := 1) tc_X3_add tn_X3 md_X3_add (by decide) (by omega)) tm_X12_204 ti_X3_add ts_X3_add (C0.mem (i := 14) (Nat.le_of_ble_eq_true rfl)) (g_c5 k_14) rfl rfl hl.1 rfl (Nat.le_of_ble_eq_true rfl) dX12_hear_47) (fun H locs hW => ?_)
        refine lv_aload_n C0.hx C0.hb dX12_hear_50 rfl (lv_at hl 0 rfl) ?_
        refine gf_X12_5 C0 hW (C0.mem (i := 0) (Nat.le_of_ble_eq_true rfl)) k_0 tf_X12_47 dX12_hear_51 ?_
        refine lv_aload_n C0.hx C0.hb dX12_hear_54 rfl (lv_at hl 0 rfl) ?_
        obtain ⟨hk5, h⟩ := g_if h
        refine gf_X12_6 C0 hW (C0.mem (i := 0) (Nat.le_of_ble_eq_true rfl)) k_0 tf_X12_54 dX12_hear_55 ?_
        refine lv_aload_n C0.hx C0.hb dX12_hear_58 rfl (lv_at hl 0 rfl) ?_
        obtain ⟨hk6, h⟩ := g_if h
        refine gf_X12_7 C0 hW (C0.mem (i := 0) (Nat.le_of_ble_eq_true rfl)) k_0 tf_X12_61 dX12_hear_59 ?_
        obtain ⟨q7, hq7, h⟩ := Option.bind_eq_some_iff.mp h
        refine g_callv hW (g_runV (As := [.ref (g_ad G (q4.2 0 6)), .ref (g_ad G (q4.2 0 7))]) (rest := []) C0 hW (c_X1_measureAll hk5 hk6 hq7) (g_cwOf (n := 2) tc_X1_measureAll tn_X1 md_X1_measureAll (by decide) (by omega)) tm_X12_207 ti_X1_measureAll ts_X1_measureAll (C0.mem (i := 18) (Nat.le_of_ble_eq_true rfl)) (g_c6 k_18) rfl rfl hl.1 rfl (Nat.le_of_ble_eq_true rfl) dX12_hear_62) (fun H locs hW => ?_)
        refine lv_aload_n C0.hx C0.hb dX12_hear_65 rfl (lv_at hl 0 rfl) ?_
        refine gf_X12_3 C0 hW (C0.mem (i := 0) (Nat.le_of_ble_eq_true rfl)) k_0 tf_X12_35 dX12_hear_66 ?_
        refine gfN_X3_1 C0 hW (C0.mem (i := 14) (Nat.le_of_ble_eq_true rfl)) k_14 tfN_X12_128 dX12_hear_69 ?_
        obtain rfl := Option.some.inj h
        exact g_iret C0 hW rfl rfl rfl dX12_hear_72
      · replace h := (if_neg hc3).symm.trans h
        cases h
    · replace h := (if_neg hc2).symm.trans h
      exact w_X12_hear_10 C0 _ _ _ _ h hW (lv_sub hl [] rfl)
set_option maxRecDepth 100000 in
set_option maxHeartbeats 4000000 in
theorem w_X12_hearWord_17 {p : Program} {l : Launch} {e : Env} {s : State} {m : MethodId} {args : Array Value} {below : List Frame} {meth : Method} {c : Code} {G : GL} {ids : List Nat} {y : MS} {o : Nat → Int32}  {q : Int32 × CS}   (C0 : g_X G ids p s m args meth c cX12_hearWord 3 RX12 (Option.some Jvm.ClassFile.FieldType.int))  : ∀   (x : CS) (H : Heap) (locs : List Loc) (ls : Array Slot),  f_X12_hearWord_17 x = some q → g_W G ids (x, y, o) s.heap H locs → lv_has ls 3 [] → W p l e (g_rm 7 0 0) s m args below meth c H locs 0 0 (MQ below (g_Qi G ids q.1 (q.2, y, o)) args s 0 0 (g_A G)) (F0 m 17 ls []) := by
  intro x H locs ls h hW hl
  unfold f_X12_hearWord_17 at h
  cases h
set_option maxRecDepth 100000 in
set_option maxHeartbeats 4000000 in
theorem c_X12_hearWord {l : Launch} {G : GL} {ids : List Nat} {y : MS} {o : Nat → Int32} {x : CS} {p1 : Int32} {p2 : Int32} {q : Int32 × CS}    (h : f_X12_hearWord p1 p2 x = some q) : Met l yX12_hearWord (.code yX12_hearWord cX12_hearWord 3 (Option.some Jvm.ClassFile.FieldType.int) :: gT) (g_rm 7 0 0) (va_Pc [.ref (g_ad G (0)), .int (p1), .int (p2)] (g_P G ids (x, y, o))) (g_Qi G ids q.1 (q.2, y, o)) 0 0 (g_A G) := by
  unfold f_X12_hearWord at h
  refine g_entry (by decide) (Nat.le_of_ble_eq_true rfl) (fun p e s m args below meth c ls C0 hl hW _ => ?_)
  have hl : lv_has ls 3 [(0, .ref (g_ad G (0))), (1, .int (p1)), (2, .int (p2))] := hl
  refine lv_aload_n C0.hx C0.hb dX12_hearWord_0 rfl (lv_at hl 0 rfl) ?_
  refine lv_iload_n C0.hx C0.hb dX12_hearWord_1 rfl (lv_at hl 1 rfl) ?_
  obtain ⟨q1, hq1, h⟩ := Option.bind_eq_some_iff.mp h
  refine g_callv hW (g_runV (As := [.int (p1)]) (rest := []) C0 hW (c_X12_requireWord hq1) (g_cwOf (n := 1) tc_X12_requireWord tn_X12 md_X12_requireWord (by decide) (by omega)) tm_X12_129 ti_X12_requireWord ts_X12_requireWord (C0.mem (i := 0) (Nat.le_of_ble_eq_true rfl)) (g_c1 k_0) rfl rfl hl.1 rfl (Nat.le_of_ble_eq_true rfl) dX12_hearWord_2) (fun H locs hW => ?_)
  refine lv_iload_n C0.hx C0.hb dX12_hearWord_5 rfl (lv_at hl 2 rfl) ?_
  refine lv_bipush (v := (-39 : Int32)) C0.hx C0.hb dX12_hearWord_6 (by decide) ?_
  refine lv_icmp_lt (tgt := 17) C0.hx C0.hb dX12_hearWord_8 (by decide) (fun hc2 => ?_) (fun hc2 => ?_)
  · replace h := (if_pos hc2).symm.trans h
    exact w_X12_hearWord_17 C0 _ _ _ _ h hW (lv_sub hl [] rfl)
  · replace h := (if_neg hc2).symm.trans h
    refine lv_iload_n C0.hx C0.hb dX12_hearWord_11 rfl (lv_at hl 2 rfl) ?_
    refine lv_bipush (v := (39 : Int32)) C0.hx C0.hb dX12_hearWord_12 (by decide) ?_
    refine lv_icmp_le (tgt := 27) C0.hx C0.hb dX12_hearWord_14 (by decide) (fun hc3 => ?_) (fun hc3 => ?_)
    · replace h := (if_pos hc3).symm.trans h
      refine lv_aload_n C0.hx C0.hb dX12_hearWord_27 rfl (lv_at hl 0 rfl) ?_
      refine gf_X12_3 C0 hW (C0.mem (i := 0) (Nat.le_of_ble_eq_true rfl)) k_0 tf_X12_35 dX12_hearWord_28 ?_
      refine lv_aload_n C0.hx C0.hb dX12_hearWord_31 rfl (lv_at hl 0 rfl) ?_
      refine lv_iload_n C0.hx C0.hb dX12_hearWord_32 rfl (lv_at hl 1 rfl) ?_
      obtain ⟨q4, hq4, h⟩ := Option.bind_eq_some_iff.mp h
      obtain ⟨hk5, h⟩ := g_if h
      refine g_callr hW (g_runV (As := [.int (p1)]) (rest := [.ref (g_ad G (14))]) C0 hW (c_X12_rowOf hq4) (g_cwOf (n := 1) tc_X12_rowOf tn_X12 md_X12_rowOf (by decide) (by omega)) tm_X12_132 ti_X12_rowOf ts_X12_rowOf (C0.mem (i := 0) (Nat.le_of_ble_eq_true rfl)) (g_c1 k_0) rfl rfl hl.1 rfl (Nat.le_of_ble_eq_true rfl) dX12_hearWord_33) (fun H locs hW => ?_)
      obtain ⟨q6, hq6, h⟩ := Option.bind_eq_some_iff.mp h
      refine g_callv hW (g_runV (As := [.ref (g_ad G (q4))]) (rest := []) C0 hW (c_X3_copyFrom k_14 hk5 hq6) (g_cwOf (n := 1) tc_X3_copyFrom tn_X3 md_X3_copyFrom (by decide) (by omega)) tm_X12_213 ti_X3_copyFrom ts_X3_copyFrom (C0.mem (i := 14) (Nat.le_of_ble_eq_true rfl)) (g_c5 k_14) rfl rfl hl.1 rfl (Nat.le_of_ble_eq_true rfl) dX12_hearWord_36) (fun H locs hW => ?_)
      refine lv_aload_n C0.hx C0.hb dX12_hearWord_39 rfl (lv_at hl 0 rfl) ?_
      refine gf_X12_3 C0 hW (C0.mem (i := 0) (Nat.le_of_ble_eq_true rfl)) k_0 tf_X12_35 dX12_hearWord_40 ?_
      refine lv_iload_n C0.hx C0.hb dX12_hearWord_43 rfl (lv_at hl 2 rfl) ?_
      obtain ⟨q7, hq7, h⟩ := Option.bind_eq_some_iff.mp h
      refine g_calli hW (g_runV (As := [.int (p2)]) (rest := []) C0 hW (c_X3_shift k_14 hq7) (g_cwOf (n := 1) tc_X3_shift tn_X3 md_X3_shift (by decide) (by omega)) tm_X12_217 ti_X3_shift ts_X3_shift (C0.mem (i := 14) (Nat.le_of_ble_eq_true rfl)) (g_c5 k_14) rfl rfl hl.1 rfl (Nat.le_of_ble_eq_true rfl) dX12_hearWord_44) (fun H locs hW => ?_)
      refine lv_pop C0.hx C0.hb dX12_hearWord_47 rfl ?_
      refine lv_aload_n C0.hx C0.hb dX12_hearWord_48 rfl (lv_at hl 0 rfl) ?_
      refine gf_X12_5 C0 hW (C0.mem (i := 0) (Nat.le_of_ble_eq_true rfl)) k_0 tf_X12_47 dX12_hearWord_49 ?_
      refine lv_aload_n C0.hx C0.hb dX12_hearWord_52 rfl (lv_at hl 0 rfl) ?_
      obtain ⟨hk8, h⟩ := g_if h
      refine gf_X12_6 C0 hW (C0.mem (i := 0) (Nat.le_of_ble_eq_true rfl)) k_0 tf_X12_54 dX12_hearWord_53 ?_
      refine lv_aload_n C0.hx C0.hb dX12_hearWord_56 rfl (lv_at hl 0 rfl) ?_
      obtain ⟨hk9, h⟩ := g_if h
      refine gf_X12_7 C0 hW (C0.mem (i := 0) (Nat.le_of_ble_eq_true rfl)) k_0 tf_X12_61 dX12_hearWord_57 ?_
      obtain ⟨q10, hq10, h⟩ := Option.bind_eq_some_iff.mp h
      refine g_callv hW (g_runV (As := [.ref (g_ad G (q7.2.2 0 6)), .ref (g_ad G (q7.2.2 0 7))]) (rest := []) C0 hW (c_X1_measureAll hk8 hk9 hq10) (g_cwOf (n := 2) tc_X1_measureAll tn_X1 md_X1_measureAll (by decide) (by omega)) tm_X12_207 ti_X1_measureAll ts_X1_measureAll (C0.mem (i := 18) (Nat.le_of_ble_eq_true rfl)) (g_c6 k_18) rfl rfl hl.1 rfl (Nat.le_of_ble_eq_true rfl) dX12_hearWord_60) (fun H locs hW => ?_)
      refine lv_aload_n C0.hx C0.hb dX12_hearWord_63 rfl (lv_at hl 0 rfl) ?_
      refine gf_X12_3 C0 hW (C0.mem (i := 0) (Nat.le_of_ble_eq_true rfl)) k_0 tf_X12_35 dX12_hearWord_64 ?_
      refine gfN_X3_1 C0 hW (C0.mem (i := 14) (Nat.le_of_ble_eq_true rfl)) k_14 tfN_X12_128 dX12_hearWord_67 ?_
      obtain rfl := Option.some.inj h
      exact g_iret C0 hW rfl rfl rfl dX12_hearWord_70
    · replace h := (if_neg hc3).symm.trans h
      exact w_X12_hearWord_17 C0 _ _ _ _ h hW (lv_sub hl [] rfl)
set_option maxRecDepth 100000 in
set_option maxHeartbeats 4000000 in
theorem c_X12_forget {l : Launch} {G : GL} {ids : List Nat} {y : MS} {o : Nat → Int32} {x : CS}  {q : Int32 × CS}    (h : f_X12_forget x = some q) : Met l yX12_forget (.code yX12_forget cX12_forget 2 (Option.some Jvm.ClassFile.FieldType.int) :: gT) (g_rm 5 0 0) (va_Pc [.ref (g_ad G (0))] (g_P G ids (x, y, o))) (g_Qi G ids q.1 (q.2, y, o)) 0 0 (g_A G) := by
  unfold f_X12_forget at h
  refine g_entry (by decide) (Nat.le_of_ble_eq_true rfl) (fun p e s m args below meth c ls C0 hl hW _ => ?_)
  have hl : lv_has ls 2 [(0, .ref (g_ad G (0)))] := hl
  refine lv_aload_n C0.hx C0.hb dX12_forget_0 rfl (lv_at hl 0 rfl) ?_
  refine gf_X12_3 C0 hW (C0.mem (i := 0) (Nat.le_of_ble_eq_true rfl)) k_0 tf_X12_35 dX12_forget_1 ?_
  refine gfN_X3_1 C0 hW (C0.mem (i := 14) (Nat.le_of_ble_eq_true rfl)) k_14 tfN_X12_128 dX12_forget_4 ?_
  refine lv_istore_n (lv' := [(1, .int (x.1 14 1)), (0, .ref (g_ad G (0)))]) C0.hx C0.hb dX12_forget_7 rfl hl (by decide) rfl (fun ls hl => ?_)
  refine lv_aload_n C0.hx C0.hb dX12_forget_8 rfl (lv_at hl 1 rfl) ?_
  refine gf_X12_3 C0 hW (C0.mem (i := 0) (Nat.le_of_ble_eq_true rfl)) k_0 tf_X12_35 dX12_forget_9 ?_
  refine lv_iconst (v := (0 : Int32)) C0.hx C0.hb dX12_forget_12 (by decide) ?_
  refine gpN_X3_1 C0 hW (C0.mem (i := 14) (Nat.le_of_ble_eq_true rfl)) k_14 tfN_X12_128 dX12_forget_13 (fun H locs hW => ?_)
  refine lv_aload_n C0.hx C0.hb dX12_forget_16 rfl (lv_at hl 1 rfl) ?_
  refine gf_X12_5 C0 hW (C0.mem (i := 0) (Nat.le_of_ble_eq_true rfl)) k_0 tf_X12_47 dX12_forget_17 ?_
  refine lv_aload_n C0.hx C0.hb dX12_forget_20 rfl (lv_at hl 1 rfl) ?_
  obtain ⟨hk1, h⟩ := g_if h
  refine gf_X12_6 C0 hW (C0.mem (i := 0) (Nat.le_of_ble_eq_true rfl)) k_0 tf_X12_54 dX12_forget_21 ?_
  refine lv_aload_n C0.hx C0.hb dX12_forget_24 rfl (lv_at hl 1 rfl) ?_
  obtain ⟨hk2, h⟩ := g_if h
  refine gf_X12_7 C0 hW (C0.mem (i := 0) (Nat.le_of_ble_eq_true rfl)) k_0 tf_X12_61 dX12_forget_25 ?_
  obtain ⟨q3, hq3, h⟩ := Option.bind_eq_some_iff.mp h
  refine g_callv hW (g_runV (As := [.ref (g_ad G ((g_wi x 14 1 (0 : Int32)).2 0 6)), .ref (g_ad G ((g_wi x 14 1 (0 : Int32)).2 0 7))]) (rest := []) C0 hW (c_X1_measureAll hk1 hk2 hq3) (g_cwOf (n := 2) tc_X1_measureAll tn_X1 md_X1_measureAll (by decide) (by omega)) tm_X12_207 ti_X1_measureAll ts_X1_measureAll (C0.mem (i := 18) (Nat.le_of_ble_eq_true rfl)) (g_c6 k_18) rfl rfl hl.1 rfl (Nat.le_of_ble_eq_true rfl) dX12_forget_28) (fun H locs hW => ?_)
  refine lv_iload_n C0.hx C0.hb dX12_forget_31 rfl (lv_at hl 0 rfl) ?_
  obtain rfl := Option.some.inj h
  exact g_iret C0 hW rfl rfl rfl dX12_forget_32
set_option maxRecDepth 100000 in
set_option maxHeartbeats 4000000 in
theorem c_X12_turnPruned {l : Launch} {G : GL} {ids : List Nat} {y : MS} {o : Nat → Int32} {x : CS} {p1 : Int32} {q : Int32 × CS}    (h : f_X12_turnPruned p1 x = some q) : Met l yX12_turnPruned (.code yX12_turnPruned cX12_turnPruned 3 (Option.some Jvm.ClassFile.FieldType.boolean) :: gT) (g_rm 7 0 0) (va_Pc [.ref (g_ad G (0)), .int (p1)] (g_P G ids (x, y, o))) (g_Qi G ids q.1 (q.2, y, o)) 0 0 (g_A G) := by
  unfold f_X12_turnPruned at h
  refine g_entry (by decide) (Nat.le_of_ble_eq_true rfl) (fun p e s m args below meth c ls C0 hl hW _ => ?_)
  have hl : lv_has ls 3 [(0, .ref (g_ad G (0))), (1, .int (p1))] := hl
  refine lv_aload_n C0.hx C0.hb dX12_turnPruned_0 rfl (lv_at hl 0 rfl) ?_
  refine lv_iload_n C0.hx C0.hb dX12_turnPruned_1 rfl (lv_at hl 1 rfl) ?_
  obtain ⟨q1, hq1, h⟩ := Option.bind_eq_some_iff.mp h
  refine g_callv hW (g_runV (As := [.int (p1)]) (rest := []) C0 hW (c_X12_requireWord hq1) (g_cwOf (n := 1) tc_X12_requireWord tn_X12 md_X12_requireWord (by decide) (by omega)) tm_X12_129 ti_X12_requireWord ts_X12_requireWord (C0.mem (i := 0) (Nat.le_of_ble_eq_true rfl)) (g_c1 k_0) rfl rfl hl.1 rfl (Nat.le_of_ble_eq_true rfl) dX12_turnPruned_2) (fun H locs hW => ?_)
  refine lv_aload_n C0.hx C0.hb dX12_turnPruned_5 rfl (lv_at hl 0 rfl) ?_
  obtain ⟨hk2, h⟩ := g_if h
  refine gf_X12_7 C0 hW (C0.mem (i := 0) (Nat.le_of_ble_eq_true rfl)) k_0 tf_X12_61 dX12_turnPruned_6 ?_
  refine lv_iload_n C0.hx C0.hb dX12_turnPruned_9 rfl (lv_at hl 1 rfl) ?_
  obtain ⟨q3, hq3, h⟩ := Option.bind_eq_some_iff.mp h
  obtain ⟨hk4, h⟩ := g_if h
  refine g_callr hW (g_runV (As := [.int (p1)]) (rest := []) C0 hW (c_X9_word hk2 hq3) (g_cwOf (n := 1) tc_X9_word tn_X9 md_X9_word (by decide) (by omega)) tm_X12_147 ti_X9_word ts_X9_word (C0.mem (kl9 hk2)) (g_c9 hk2) rfl rfl hl.1 rfl (Nat.le_of_ble_eq_true rfl) dX12_turnPruned_10) (fun H locs hW => ?_)
  refine lv_astore_n (lv' := [(2, .ref (g_ad G (q3))), (0, .ref (g_ad G (0))), (1, .int (p1))]) C0.hx C0.hb dX12_turnPruned_13 rfl hl (by decide) rfl (fun ls hl => ?_)
  refine lv_aload_n C0.hx C0.hb dX12_turnPruned_14 rfl (lv_at hl 0 rfl) ?_
  refine lv_aload_n C0.hx C0.hb dX12_turnPruned_15 rfl (lv_at hl 0 rfl) ?_
  refine gfN_X11_1 C0 hW (C0.mem (kl10 hk4)) hk4 tfN_X12_151 dX12_turnPruned_16 ?_
  refine lv_if_ne (tgt := 26) C0.hx C0.hb dX12_turnPruned_19 (by decide) (fun hc5 => ?_) (fun hc5 => ?_)
  · replace h := (if_neg hc5).symm.trans h
    refine lv_iconst (v := (0 : Int32)) C0.hx C0.hb dX12_turnPruned_26 (by decide) ?_
    refine gpN_X11_1 C0 hW (Or.inl rfl) (C0.mem (kl10 hk4)) hk4 tfN_X12_151 dX12_turnPruned_27 (fun H locs hW => ?_)
    refine lv_aload_n C0.hx C0.hb dX12_turnPruned_30 rfl (lv_at hl 0 rfl) ?_
    refine gfN_X11_1 C0 hW (C0.mem (kl10 hk4)) hk4 tfN_X12_151 dX12_turnPruned_31 ?_
    obtain ⟨hb6, h⟩ := g_if h
    obtain rfl := Option.some.inj h
    exact g_iret C0 hW rfl (g_bool hb6).1 rfl dX12_turnPruned_34
  · replace h := (if_pos hc5).symm.trans h
    refine lv_iconst (v := (1 : Int32)) C0.hx C0.hb dX12_turnPruned_22 (by decide) ?_
    refine lv_goto (tgt := 27) C0.hx C0.hb dX12_turnPruned_23 (by decide) ?_
    refine gpN_X11_1 C0 hW (Or.inr rfl) (C0.mem (kl10 hk4)) hk4 tfN_X12_151 dX12_turnPruned_27 (fun H locs hW => ?_)
    refine lv_aload_n C0.hx C0.hb dX12_turnPruned_30 rfl (lv_at hl 0 rfl) ?_
    refine gfN_X11_1 C0 hW (C0.mem (kl10 hk4)) hk4 tfN_X12_151 dX12_turnPruned_31 ?_
    obtain ⟨hb7, h⟩ := g_if h
    obtain rfl := Option.some.inj h
    exact g_iret C0 hW rfl (g_bool hb7).1 rfl dX12_turnPruned_34
set_option maxRecDepth 100000 in
set_option maxHeartbeats 4000000 in
theorem w_X12_pruneNeedless_4 {p : Program} {l : Launch} {e : Env} {s : State} {m : MethodId} {args : Array Value} {below : List Frame} {meth : Method} {c : Code} {G : GL} {ids : List Nat} {y : MS} {o : Nat → Int32}  {q : Int32 × CS}   (C0 : g_X G ids p s m args meth c cX12_pruneNeedless 3 RX12 (Option.some Jvm.ClassFile.FieldType.int))  : ∀ (n : Nat) (l1 : Int32) (l2 : Int32) (x : CS) (H : Heap) (locs : List Loc) (ls : Array Slot),  f_X12_pruneNeedless_4 n l1 l2 x = some q → g_W G ids (x, y, o) s.heap H locs → lv_has ls 3 [(0, .ref (g_ad G (0))), (1, .int (l1)), (2, .int (l2))] → W p l e (g_rm 6 0 0) s m args below meth c H locs 0 0 (MQ below (g_Qi G ids q.1 (q.2, y, o)) args s 0 0 (g_A G)) (F0 m 4 ls []) := by
  intro n
  induction n with
  | zero =>
    intro l1 l2 x H locs ls h hW hl
    exact absurd h (by simp [f_X12_pruneNeedless_4])
  | succ n ih =>
    intro l1 l2 x H locs ls h hW hl
    unfold f_X12_pruneNeedless_4 at h
    refine lv_iload_n C0.hx C0.hb dX12_pruneNeedless_4 rfl (lv_at hl 2 rfl) ?_
    refine lv_aload_n C0.hx C0.hb dX12_pruneNeedless_5 rfl (lv_at hl 0 rfl) ?_
    obtain ⟨hk1, h⟩ := g_if h
    refine gf_X12_7 C0 hW (C0.mem (i := 0) (Nat.le_of_ble_eq_true rfl)) k_0 tf_X12_61 dX12_pruneNeedless_6 ?_
    refine gfN_X9_2 C0 hW (C0.mem (kl9 hk1)) hk1 tfN_X12_114 dX12_pruneNeedless_9 ?_
    refine lv_icmp_ge (tgt := 44) C0.hx C0.hb dX12_pruneNeedless_12 (by decide) (fun hc2 => ?_) (fun hc2 => ?_)
    · replace h := (if_pos hc2).symm.trans h
      refine lv_iload_n C0.hx C0.hb dX12_pruneNeedless_44 rfl (lv_at hl 1 rfl) ?_
      obtain rfl := Option.some.inj h
      exact g_iret C0 hW rfl rfl rfl dX12_pruneNeedless_45
    · replace h := (if_neg hc2).symm.trans h
      refine lv_aload_n C0.hx C0.hb dX12_pruneNeedless_15 rfl (lv_at hl 0 rfl) ?_
      refine lv_iload_n C0.hx C0.hb dX12_pruneNeedless_16 rfl (lv_at hl 2 rfl) ?_
      obtain ⟨q3, hq3, h⟩ := Option.bind_eq_some_iff.mp h
      refine g_calli hW (g_runV (As := [.int (l2)]) (rest := []) C0 hW (c_X12_needless hq3) (g_cwOf (n := 1) tc_X12_needless tn_X12 md_X12_needless (by decide) (by omega)) tm_X12_177 ti_X12_needless ts_X12_needless (C0.mem (i := 0) (Nat.le_of_ble_eq_true rfl)) (g_c1 k_0) rfl rfl hl.1 rfl (Nat.le_of_ble_eq_true rfl) dX12_pruneNeedless_17) (fun H locs hW => ?_)
      refine lv_if_eq (tgt := 38) C0.hx C0.hb dX12_pruneNeedless_20 (by decide) (fun hc4 => ?_) (fun hc4 => ?_)
      · replace h := (if_pos hc4).symm.trans h
        refine lv_iinc (v := l2 + (1 : Int32)) (lv' := [(2, .int (l2 + (1 : Int32))), (0, .ref (g_ad G (0))), (1, .int (l1))]) C0.hx C0.hb dX12_pruneNeedless_38 hl (k := 2) rfl rfl (by decide) rfl (fun ls hl => ?_)
        refine lv_goto (tgt := 4) C0.hx C0.hb dX12_pruneNeedless_41 (by decide) ?_
        exact ih _ _ _ _ _ _ h hW (lv_sub hl [1, 2, 0] rfl)
      · replace h := (if_neg hc4).symm.trans h
        refine lv_aload_n C0.hx C0.hb dX12_pruneNeedless_23 rfl (lv_at hl 0 rfl) ?_
        obtain ⟨hk5, h⟩ := g_if h
        refine gf_X12_7 C0 hW (C0.mem (i := 0) (Nat.le_of_ble_eq_true rfl)) k_0 tf_X12_61 dX12_pruneNeedless_24 ?_
        refine lv_iload_n C0.hx C0.hb dX12_pruneNeedless_27 rfl (lv_at hl 2 rfl) ?_
        obtain ⟨q6, hq6, h⟩ := Option.bind_eq_some_iff.mp h
        obtain ⟨hk7, h⟩ := g_if h
        refine g_callr hW (g_runV (As := [.int (l2)]) (rest := []) C0 hW (c_X9_word hk5 hq6) (g_cwOf (n := 1) tc_X9_word tn_X9 md_X9_word (by decide) (by omega)) tm_X12_147 ti_X9_word ts_X9_word (C0.mem (kl9 hk5)) (g_c9 hk5) rfl rfl hl.1 rfl (Nat.le_of_ble_eq_true rfl) dX12_pruneNeedless_28) (fun H locs hW => ?_)
        refine lv_iconst (v := (1 : Int32)) C0.hx C0.hb dX12_pruneNeedless_31 (by decide) ?_
        refine gpN_X11_1 C0 hW (Or.inr rfl) (C0.mem (kl10 hk7)) hk7 tfN_X12_151 dX12_pruneNeedless_32 (fun H locs hW => ?_)
        refine lv_iinc (v := l1 + (1 : Int32)) (lv' := [(1, .int (l1 + (1 : Int32))), (0, .ref (g_ad G (0))), (2, .int (l2))]) C0.hx C0.hb dX12_pruneNeedless_35 hl (k := 1) rfl rfl (by decide) rfl (fun ls hl => ?_)
        refine lv_iinc (v := l2 + (1 : Int32)) (lv' := [(2, .int (l2 + (1 : Int32))), (1, .int (l1 + (1 : Int32))), (0, .ref (g_ad G (0)))]) C0.hx C0.hb dX12_pruneNeedless_38 hl (k := 2) rfl rfl (by decide) rfl (fun ls hl => ?_)
        refine lv_goto (tgt := 4) C0.hx C0.hb dX12_pruneNeedless_41 (by decide) ?_
        exact ih _ _ _ _ _ _ h hW (lv_sub hl [2, 1, 0] rfl)
set_option maxRecDepth 100000 in
set_option maxHeartbeats 4000000 in
theorem c_X12_pruneNeedless {l : Launch} {G : GL} {ids : List Nat} {y : MS} {o : Nat → Int32} {x : CS}  {q : Int32 × CS}    (h : f_X12_pruneNeedless x = some q) : Met l yX12_pruneNeedless (.code yX12_pruneNeedless cX12_pruneNeedless 3 (Option.some Jvm.ClassFile.FieldType.int) :: gT) (g_rm 6 0 0) (va_Pc [.ref (g_ad G (0))] (g_P G ids (x, y, o))) (g_Qi G ids q.1 (q.2, y, o)) 0 0 (g_A G) := by
  unfold f_X12_pruneNeedless at h
  refine g_entry (by decide) (Nat.le_of_ble_eq_true rfl) (fun p e s m args below meth c ls C0 hl hW _ => ?_)
  have hl : lv_has ls 3 [(0, .ref (g_ad G (0)))] := hl
  refine lv_iconst (v := (0 : Int32)) C0.hx C0.hb dX12_pruneNeedless_0 (by decide) ?_
  refine lv_istore_n (lv' := [(1, .int ((0 : Int32))), (0, .ref (g_ad G (0)))]) C0.hx C0.hb dX12_pruneNeedless_1 rfl hl (by decide) rfl (fun ls hl => ?_)
  refine lv_iconst (v := (0 : Int32)) C0.hx C0.hb dX12_pruneNeedless_2 (by decide) ?_
  refine lv_istore_n (lv' := [(2, .int ((0 : Int32))), (1, .int ((0 : Int32))), (0, .ref (g_ad G (0)))]) C0.hx C0.hb dX12_pruneNeedless_3 rfl hl (by decide) rfl (fun ls hl => ?_)
  exact w_X12_pruneNeedless_4 C0 g_fuel _ _ _ _ _ _ h hW (lv_sub hl [2, 1, 0] rfl)
set_option maxRecDepth 100000 in
set_option maxHeartbeats 4000000 in
theorem w_X12_requireLessons_11 {p : Program} {l : Launch} {e : Env} {s : State} {m : MethodId} {args : Array Value} {below : List Frame} {meth : Method} {c : Code} {G : GL} {ids : List Nat} {y : MS} {o : Nat → Int32} {x : CS} {q : Unit}   (C0 : g_X G ids p s m args meth c cX12_requireLessons 1 RX12 (Option.none : Option Jvm.ClassFile.FieldType))  : ∀    (H : Heap) (locs : List Loc) (ls : Array Slot),  f_X12_requireLessons_11 = some q → g_W G ids (x, y, o) s.heap H locs → lv_has ls 1 [] → W p l e (g_rm 6 0 0) s m args below meth c H locs 0 0 (MQ below (g_Qv G ids (x, y, o)) args s 0 0 (g_A G)) (F0 m 11 ls []) := by
  intro H locs ls h hW hl
  unfold f_X12_requireLessons_11 at h
  cases h
set_option maxRecDepth 100000 in
set_option maxHeartbeats 4000000 in
theorem c_X12_requireLessons {l : Launch} {G : GL} {ids : List Nat} {y : MS} {o : Nat → Int32} {x : CS} {p1 : Int32} {q : Unit}    (h : f_X12_requireLessons p1 = some q) : Met l yX12_requireLessons (.code yX12_requireLessons cX12_requireLessons 1 (Option.none : Option Jvm.ClassFile.FieldType) :: gT) (g_rm 6 0 0) (va_Pc [.int (p1)] (g_P G ids (x, y, o))) (g_Qv G ids (x, y, o)) 0 0 (g_A G) := by
  unfold f_X12_requireLessons at h
  refine g_entry (by decide) (Nat.le_of_ble_eq_true rfl) (fun p e s m args below meth c ls C0 hl hW _ => ?_)
  have hl : lv_has ls 1 [(0, .int (p1))] := hl
  refine lv_iload_n C0.hx C0.hb dX12_requireLessons_0 rfl (lv_at hl 0 rfl) ?_
  refine lv_iconst (v := (1 : Int32)) C0.hx C0.hb dX12_requireLessons_1 (by decide) ?_
  refine lv_icmp_lt (tgt := 11) C0.hx C0.hb dX12_requireLessons_2 (by decide) (fun hc1 => ?_) (fun hc1 => ?_)
  · replace h := (if_pos hc1).symm.trans h
    exact w_X12_requireLessons_11 C0 _ _ _ h hW (lv_sub hl [] rfl)
  · replace h := (if_neg hc1).symm.trans h
    refine lv_iload_n C0.hx C0.hb dX12_requireLessons_5 rfl (lv_at hl 0 rfl) ?_
    refine lv_bipush (v := (20 : Int32)) C0.hx C0.hb dX12_requireLessons_6 (by decide) ?_
    refine lv_icmp_le (tgt := 22) C0.hx C0.hb dX12_requireLessons_8 (by decide) (fun hc2 => ?_) (fun hc2 => ?_)
    · replace h := (if_pos hc2).symm.trans h
      obtain rfl := Option.some.inj h
      exact g_vret C0 hW rfl dX12_requireLessons_22
    · replace h := (if_neg hc2).symm.trans h
      exact w_X12_requireLessons_11 C0 _ _ _ h hW (lv_sub hl [] rfl)
set_option maxRecDepth 100000 in
set_option maxHeartbeats 4000000 in
theorem w_X12_passLessons_8 {p : Program} {l : Launch} {e : Env} {s : State} {m : MethodId} {args : Array Value} {below : List Frame} {meth : Method} {c : Code} {G : GL} {ids : List Nat} {y : MS} {o : Nat → Int32}  {q : Int32 × CS}   (C0 : g_X G ids p s m args meth c cX12_passLessons 4 RX12 (Option.some Jvm.ClassFile.FieldType.int))  : ∀ (n : Nat) (l1 : Int32) (l2 : Int32) (l3 : Int32) (x : CS) (H : Heap) (locs : List Loc) (ls : Array Slot),  f_X12_passLessons_8 n l1 l2 l3 x = some q → g_W G ids (x, y, o) s.heap H locs → lv_has ls 4 [(0, .ref (g_ad G (0))), (1, .int (l1)), (2, .int (l2)), (3, .int (l3))] → W p l e (g_rm 7 0 0) s m args below meth c H locs 0 0 (MQ below (g_Qi G ids q.1 (q.2, y, o)) args s 0 0 (g_A G)) (F0 m 8 ls []) := by
  intro n
  induction n with
  | zero =>
    intro l1 l2 l3 x H locs ls h hW hl
    exact absurd h (by simp [f_X12_passLessons_8])
  | succ n ih =>
    intro l1 l2 l3 x H locs ls h hW hl
    unfold f_X12_passLessons_8 at h
    refine lv_iload_n C0.hx C0.hb dX12_passLessons_8 rfl (lv_at hl 3 rfl) ?_
    refine lv_iload_n C0.hx C0.hb dX12_passLessons_9 rfl (lv_at hl 1 rfl) ?_
    refine lv_icmp_ge (tgt := 37) C0.hx C0.hb dX12_passLessons_10 (by decide) (fun hc2 => ?_) (fun hc2 => ?_)
    · replace h := (if_pos hc2).symm.trans h
      refine lv_iload_n C0.hx C0.hb dX12_passLessons_37 rfl (lv_at hl 2 rfl) ?_
      obtain rfl := Option.some.inj h
      exact g_iret C0 hW rfl rfl rfl dX12_passLessons_38
    · replace h := (if_neg hc2).symm.trans h
      refine lv_iload_n C0.hx C0.hb dX12_passLessons_13 rfl (lv_at hl 2 rfl) ?_
      refine lv_aload_n C0.hx C0.hb dX12_passLessons_14 rfl (lv_at hl 0 rfl) ?_
      refine gf_X12_5 C0 hW (C0.mem (i := 0) (Nat.le_of_ble_eq_true rfl)) k_0 tf_X12_47 dX12_passLessons_15 ?_
      refine lv_aload_n C0.hx C0.hb dX12_passLessons_18 rfl (lv_at hl 0 rfl) ?_
      obtain ⟨hk3, h⟩ := g_if h
      refine gf_X12_6 C0 hW (C0.mem (i := 0) (Nat.le_of_ble_eq_true rfl)) k_0 tf_X12_54 dX12_passLessons_19 ?_
      refine lv_aload_n C0.hx C0.hb dX12_passLessons_22 rfl (lv_at hl 0 rfl) ?_
      obtain ⟨hk4, h⟩ := g_if h
      refine gf_X12_7 C0 hW (C0.mem (i := 0) (Nat.le_of_ble_eq_true rfl)) k_0 tf_X12_61 dX12_passLessons_23 ?_
      obtain ⟨q5, hq5, h⟩ := Option.bind_eq_some_iff.mp h
      refine g_calli hW (g_runV (As := [.ref (g_ad G (x.2 0 6)), .ref (g_ad G (x.2 0 7))]) (rest := [.int (l2)]) C0 hW (c_X1_passOne hk3 hk4 hq5) (g_cwOf (n := 2) tc_X1_passOne tn_X1 md_X1_passOne (by decide) (by omega)) tm_X12_223 ti_X1_passOne ts_X1_passOne (C0.mem (i := 18) (Nat.le_of_ble_eq_true rfl)) (g_c6 k_18) rfl rfl hl.1 rfl (Nat.le_of_ble_eq_true rfl) dX12_passLessons_26) (fun H locs hW => ?_)
      refine lv_iadd C0.hx C0.hb dX12_passLessons_29 ?_
      refine lv_istore_n (lv' := [(2, .int (l2 + q5.1)), (0, .ref (g_ad G (0))), (1, .int (l1)), (3, .int (l3))]) C0.hx C0.hb dX12_passLessons_30 rfl hl (by decide) rfl (fun ls hl => ?_)
      refine lv_iinc (v := l3 + (1 : Int32)) (lv' := [(3, .int (l3 + (1 : Int32))), (2, .int (l2 + q5.1)), (0, .ref (g_ad G (0))), (1, .int (l1))]) C0.hx C0.hb dX12_passLessons_31 hl (k := 3) rfl rfl (by decide) rfl (fun ls hl => ?_)
      refine lv_goto (tgt := 8) C0.hx C0.hb dX12_passLessons_34 (by decide) ?_
      exact ih _ _ _ _ _ _ _ h hW (lv_sub hl [2, 3, 1, 0] rfl)
set_option maxRecDepth 100000 in
set_option maxHeartbeats 4000000 in
theorem c_X12_passLessons {l : Launch} {G : GL} {ids : List Nat} {y : MS} {o : Nat → Int32} {x : CS} {p1 : Int32} {q : Int32 × CS}    (h : f_X12_passLessons p1 x = some q) : Met l yX12_passLessons (.code yX12_passLessons cX12_passLessons 4 (Option.some Jvm.ClassFile.FieldType.int) :: gT) (g_rm 7 0 0) (va_Pc [.ref (g_ad G (0)), .int (p1)] (g_P G ids (x, y, o))) (g_Qi G ids q.1 (q.2, y, o)) 0 0 (g_A G) := by
  unfold f_X12_passLessons at h
  refine g_entry (by decide) (Nat.le_of_ble_eq_true rfl) (fun p e s m args below meth c ls C0 hl hW _ => ?_)
  have hl : lv_has ls 4 [(0, .ref (g_ad G (0))), (1, .int (p1))] := hl
  refine lv_iload_n C0.hx C0.hb dX12_passLessons_0 rfl (lv_at hl 1 rfl) ?_
  obtain ⟨q1, hq1, h⟩ := Option.bind_eq_some_iff.mp h
  refine g_callv hW (g_runS (As := [.int (p1)]) (rest := []) C0 hW (c_X12_requireLessons hq1) (g_cwOf (n := 1) tc_X12_requireLessons tn_X12 md_X12_requireLessons (by decide) (by omega)) tm_X12_220 tz_X12_requireLessons rfl hl.1 rfl (Nat.le_of_ble_eq_true rfl) dX12_passLessons_1) (fun H locs hW => ?_)
  refine lv_iconst (v := (0 : Int32)) C0.hx C0.hb dX12_passLessons_4 (by decide) ?_
  refine lv_istore_n (lv' := [(2, .int ((0 : Int32))), (0, .ref (g_ad G (0))), (1, .int (p1))]) C0.hx C0.hb dX12_passLessons_5 rfl hl (by decide) rfl (fun ls hl => ?_)
  refine lv_iconst (v := (0 : Int32)) C0.hx C0.hb dX12_passLessons_6 (by decide) ?_
  refine lv_istore_n (lv' := [(3, .int ((0 : Int32))), (2, .int ((0 : Int32))), (0, .ref (g_ad G (0))), (1, .int (p1))]) C0.hx C0.hb dX12_passLessons_7 rfl hl (by decide) rfl (fun ls hl => ?_)
  exact w_X12_passLessons_8 C0 g_fuel _ _ _ _ _ _ _ h hW (lv_sub hl [2, 3, 1, 0] rfl)
set_option maxRecDepth 100000 in
set_option maxHeartbeats 4000000 in
theorem w_X12_keptAfter_17 {p : Program} {l : Launch} {e : Env} {s : State} {m : MethodId} {args : Array Value} {below : List Frame} {meth : Method} {c : Code} {G : GL} {ids : List Nat} {y : MS} {o : Nat → Int32}  {q : Int32 × CS}   (C0 : g_X G ids p s m args meth c cX12_keptAfter 3 RX12 (Option.some Jvm.ClassFile.FieldType.int))  : ∀ (n : Nat) (l1 : Int32) (l2 : Int32) (x : CS) (H : Heap) (locs : List Loc) (ls : Array Slot),  f_X12_keptAfter_17 n l1 l2 x = some q → g_W G ids (x, y, o) s.heap H locs → lv_has ls 3 [(0, .ref (g_ad G (0))), (1, .int (l1)), (2, .int (l2))] → W p l e (g_rm 7 0 0) s m args below meth c H locs 0 0 (MQ below (g_Qi G ids q.1 (q.2, y, o)) args s 0 0 (g_A G)) (F0 m 17 ls []) := by
  intro n
  induction n with
  | zero =>
    intro l1 l2 x H locs ls h hW hl
    exact absurd h (by simp [f_X12_keptAfter_17])
  | succ n ih =>
    intro l1 l2 x H locs ls h hW hl
    unfold f_X12_keptAfter_17 at h
    refine lv_iload_n C0.hx C0.hb dX12_keptAfter_17 rfl (lv_at hl 2 rfl) ?_
    refine lv_iload_n C0.hx C0.hb dX12_keptAfter_18 rfl (lv_at hl 1 rfl) ?_
    refine lv_icmp_ge (tgt := 44) C0.hx C0.hb dX12_keptAfter_19 (by decide) (fun hc5 => ?_) (fun hc5 => ?_)
    · replace h := (if_pos hc5).symm.trans h
      refine lv_aload_n C0.hx C0.hb dX12_keptAfter_44 rfl (lv_at hl 0 rfl) ?_
      obtain ⟨hk6, h⟩ := g_if h
      refine gf_X12_9 C0 hW (C0.mem (i := 0) (Nat.le_of_ble_eq_true rfl)) k_0 tf_X12_68 dX12_keptAfter_45 ?_
      obtain ⟨q7, hq7, h⟩ := Option.bind_eq_some_iff.mp h
      refine g_calli hW (g_runV (As := []) (rest := []) C0 hW (c_X9_countKept hk6 hq7) (g_cwOf (n := 0) tc_X9_countKept tn_X9 md_X9_countKept (by decide) (by omega)) tm_X12_117 ti_X9_countKept ts_X9_countKept (C0.mem (kl9 hk6)) (g_c9 hk6) rfl rfl hl.1 rfl (Nat.le_of_ble_eq_true rfl) dX12_keptAfter_48) (fun H locs hW => ?_)
      obtain rfl := Option.some.inj h
      exact g_iret C0 hW rfl rfl rfl dX12_keptAfter_51
    · replace h := (if_neg hc5).symm.trans h
      refine lv_aload_n C0.hx C0.hb dX12_keptAfter_22 rfl (lv_at hl 0 rfl) ?_
      refine gf_X12_5 C0 hW (C0.mem (i := 0) (Nat.le_of_ble_eq_true rfl)) k_0 tf_X12_47 dX12_keptAfter_23 ?_
      refine lv_aload_n C0.hx C0.hb dX12_keptAfter_26 rfl (lv_at hl 0 rfl) ?_
      obtain ⟨hk8, h⟩ := g_if h
      refine gf_X12_6 C0 hW (C0.mem (i := 0) (Nat.le_of_ble_eq_true rfl)) k_0 tf_X12_54 dX12_keptAfter_27 ?_
      refine lv_aload_n C0.hx C0.hb dX12_keptAfter_30 rfl (lv_at hl 0 rfl) ?_
      obtain ⟨hk9, h⟩ := g_if h
      refine gf_X12_9 C0 hW (C0.mem (i := 0) (Nat.le_of_ble_eq_true rfl)) k_0 tf_X12_68 dX12_keptAfter_31 ?_
      obtain ⟨q10, hq10, h⟩ := Option.bind_eq_some_iff.mp h
      refine g_calli hW (g_runV (As := [.ref (g_ad G (x.2 0 6)), .ref (g_ad G (x.2 0 9))]) (rest := []) C0 hW (c_X1_passOne hk8 hk9 hq10) (g_cwOf (n := 2) tc_X1_passOne tn_X1 md_X1_passOne (by decide) (by omega)) tm_X12_223 ti_X1_passOne ts_X1_passOne (C0.mem (i := 18) (Nat.le_of_ble_eq_true rfl)) (g_c6 k_18) rfl rfl hl.1 rfl (Nat.le_of_ble_eq_true rfl) dX12_keptAfter_34) (fun H locs hW => ?_)
      refine lv_pop C0.hx C0.hb dX12_keptAfter_37 rfl ?_
      refine lv_iinc (v := l2 + (1 : Int32)) (lv' := [(2, .int (l2 + (1 : Int32))), (0, .ref (g_ad G (0))), (1, .int (l1))]) C0.hx C0.hb dX12_keptAfter_38 hl (k := 2) rfl rfl (by decide) rfl (fun ls hl => ?_)
      refine lv_goto (tgt := 17) C0.hx C0.hb dX12_keptAfter_41 (by decide) ?_
      exact ih _ _ _ _ _ _ h hW (lv_sub hl [1, 2, 0] rfl)
set_option maxRecDepth 100000 in
set_option maxHeartbeats 4000000 in
theorem c_X12_keptAfter {l : Launch} {G : GL} {ids : List Nat} {y : MS} {o : Nat → Int32} {x : CS} {p1 : Int32} {q : Int32 × CS}    (h : f_X12_keptAfter p1 x = some q) : Met l yX12_keptAfter (.code yX12_keptAfter cX12_keptAfter 3 (Option.some Jvm.ClassFile.FieldType.int) :: gT) (g_rm 7 0 0) (va_Pc [.ref (g_ad G (0)), .int (p1)] (g_P G ids (x, y, o))) (g_Qi G ids q.1 (q.2, y, o)) 0 0 (g_A G) := by
  unfold f_X12_keptAfter at h
  refine g_entry (by decide) (Nat.le_of_ble_eq_true rfl) (fun p e s m args below meth c ls C0 hl hW _ => ?_)
  have hl : lv_has ls 3 [(0, .ref (g_ad G (0))), (1, .int (p1))] := hl
  refine lv_iload_n C0.hx C0.hb dX12_keptAfter_0 rfl (lv_at hl 1 rfl) ?_
  obtain ⟨q1, hq1, h⟩ := Option.bind_eq_some_iff.mp h
  refine g_callv hW (g_runS (As := [.int (p1)]) (rest := []) C0 hW (c_X12_requireLessons hq1) (g_cwOf (n := 1) tc_X12_requireLessons tn_X12 md_X12_requireLessons (by decide) (by omega)) tm_X12_220 tz_X12_requireLessons rfl hl.1 rfl (Nat.le_of_ble_eq_true rfl) dX12_keptAfter_1) (fun H locs hW => ?_)
  refine lv_aload_n C0.hx C0.hb dX12_keptAfter_4 rfl (lv_at hl 0 rfl) ?_
  obtain ⟨hk2, h⟩ := g_if h
  refine gf_X12_9 C0 hW (C0.mem (i := 0) (Nat.le_of_ble_eq_true rfl)) k_0 tf_X12_68 dX12_keptAfter_5 ?_
  refine lv_aload_n C0.hx C0.hb dX12_keptAfter_8 rfl (lv_at hl 0 rfl) ?_
  obtain ⟨hk3, h⟩ := g_if h
  refine gf_X12_7 C0 hW (C0.mem (i := 0) (Nat.le_of_ble_eq_true rfl)) k_0 tf_X12_61 dX12_keptAfter_9 ?_
  obtain ⟨q4, hq4, h⟩ := Option.bind_eq_some_iff.mp h
  refine g_callv hW (g_runV (As := [.ref (g_ad G (x.2 0 7))]) (rest := []) C0 hW (c_X9_copyFrom hk2 hk3 hq4) (g_cwOf (n := 1) tc_X9_copyFrom tn_X9 md_X9_copyFrom (by decide) (by omega)) tm_X12_227 ti_X9_copyFrom ts_X9_copyFrom (C0.mem (kl9 hk2)) (g_c9 hk2) rfl rfl hl.1 rfl (Nat.le_of_ble_eq_true rfl) dX12_keptAfter_12) (fun H locs hW => ?_)
  refine lv_iconst (v := (0 : Int32)) C0.hx C0.hb dX12_keptAfter_15 (by decide) ?_
  refine lv_istore_n (lv' := [(2, .int ((0 : Int32))), (0, .ref (g_ad G (0))), (1, .int (p1))]) C0.hx C0.hb dX12_keptAfter_16 rfl hl (by decide) rfl (fun ls hl => ?_)
  exact w_X12_keptAfter_17 C0 g_fuel _ _ _ _ _ _ h hW (lv_sub hl [1, 2, 0] rfl)
set_option maxRecDepth 100000 in
set_option maxHeartbeats 4000000 in
theorem w_X12_lessonsUntilMeant_18 {p : Program} {l : Launch} {e : Env} {s : State} {m : MethodId} {args : Array Value} {below : List Frame} {meth : Method} {c : Code} {G : GL} {ids : List Nat} {y : MS} {o : Nat → Int32}  {q : Int32 × CS}   (C0 : g_X G ids p s m args meth c cX12_lessonsUntilMeant 3 RX12 (Option.some Jvm.ClassFile.FieldType.int))  : ∀ (n : Nat) (l1 : Int32) (l2 : Int32) (x : CS) (H : Heap) (locs : List Loc) (ls : Array Slot),  f_X12_lessonsUntilMeant_18 n l1 l2 x = some q → g_W G ids (x, y, o) s.heap H locs → lv_has ls 3 [(0, .ref (g_ad G (0))), (1, .int (l1)), (2, .int (l2))] → W p l e (g_rm 7 0 0) s m args below meth c H locs 0 0 (MQ below (g_Qi G ids q.1 (q.2, y, o)) args s 0 0 (g_A G)) (F0 m 18 ls []) := by
  intro n
  induction n with
  | zero =>
    intro l1 l2 x H locs ls h hW hl
    exact absurd h (by simp [f_X12_lessonsUntilMeant_18])
  | succ n ih =>
    intro l1 l2 x H locs ls h hW hl
    unfold f_X12_lessonsUntilMeant_18 at h
    refine lv_iload_n C0.hx C0.hb dX12_lessonsUntilMeant_18 rfl (lv_at hl 2 rfl) ?_
    refine lv_bipush (v := (20 : Int32)) C0.hx C0.hb dX12_lessonsUntilMeant_19 (by decide) ?_
    refine lv_icmp_gt (tgt := 63) C0.hx C0.hb dX12_lessonsUntilMeant_21 (by decide) (fun hc5 => ?_) (fun hc5 => ?_)
    · replace h := (if_pos hc5).symm.trans h
      refine lv_iconst (v := (-1 : Int32)) C0.hx C0.hb dX12_lessonsUntilMeant_63 (by decide) ?_
      obtain rfl := Option.some.inj h
      exact g_iret C0 hW rfl rfl rfl dX12_lessonsUntilMeant_64
    · replace h := (if_neg hc5).symm.trans h
      refine lv_aload_n C0.hx C0.hb dX12_lessonsUntilMeant_24 rfl (lv_at hl 0 rfl) ?_
      refine gf_X12_5 C0 hW (C0.mem (i := 0) (Nat.le_of_ble_eq_true rfl)) k_0 tf_X12_47 dX12_lessonsUntilMeant_25 ?_
      refine lv_aload_n C0.hx C0.hb dX12_lessonsUntilMeant_28 rfl (lv_at hl 0 rfl) ?_
      obtain ⟨hk6, h⟩ := g_if h
      refine gf_X12_9 C0 hW (C0.mem (i := 0) (Nat.le_of_ble_eq_true rfl)) k_0 tf_X12_68 dX12_lessonsUntilMeant_29 ?_
      obtain ⟨q7, hq7, h⟩ := Option.bind_eq_some_iff.mp h
      refine g_calli hW (g_runV (As := [.ref (g_ad G (x.2 0 9))]) (rest := []) C0 hW (c_X1_meantOf hk6 hq7) (g_cwOf (n := 1) tc_X1_meantOf tn_X1 md_X1_meantOf (by decide) (by omega)) tm_X12_190 ti_X1_meantOf ts_X1_meantOf (C0.mem (i := 18) (Nat.le_of_ble_eq_true rfl)) (g_c6 k_18) rfl rfl hl.1 rfl (Nat.le_of_ble_eq_true rfl) dX12_lessonsUntilMeant_32) (fun H locs hW => ?_)
      refine lv_iload_n C0.hx C0.hb dX12_lessonsUntilMeant_35 rfl (lv_at hl 1 rfl) ?_
      refine lv_icmp_ne (tgt := 41) C0.hx C0.hb dX12_lessonsUntilMeant_36 (by decide) (fun hc8 => ?_) (fun hc8 => ?_)
      · replace h := (if_neg hc8).symm.trans h
        refine lv_aload_n C0.hx C0.hb dX12_lessonsUntilMeant_41 rfl (lv_at hl 0 rfl) ?_
        refine gf_X12_5 C0 hW (C0.mem (i := 0) (Nat.le_of_ble_eq_true rfl)) k_0 tf_X12_47 dX12_lessonsUntilMeant_42 ?_
        refine lv_aload_n C0.hx C0.hb dX12_lessonsUntilMeant_45 rfl (lv_at hl 0 rfl) ?_
        obtain ⟨hk9, h⟩ := g_if h
        refine gf_X12_6 C0 hW (C0.mem (i := 0) (Nat.le_of_ble_eq_true rfl)) k_0 tf_X12_54 dX12_lessonsUntilMeant_46 ?_
        refine lv_aload_n C0.hx C0.hb dX12_lessonsUntilMeant_49 rfl (lv_at hl 0 rfl) ?_
        refine gf_X12_9 C0 hW (C0.mem (i := 0) (Nat.le_of_ble_eq_true rfl)) k_0 tf_X12_68 dX12_lessonsUntilMeant_50 ?_
        obtain ⟨q10, hq10, h⟩ := Option.bind_eq_some_iff.mp h
        refine g_calli hW (g_runV (As := [.ref (g_ad G (x.2 0 6)), .ref (g_ad G (x.2 0 9))]) (rest := []) C0 hW (c_X1_passOne hk9 hk6 hq10) (g_cwOf (n := 2) tc_X1_passOne tn_X1 md_X1_passOne (by decide) (by omega)) tm_X12_223 ti_X1_passOne ts_X1_passOne (C0.mem (i := 18) (Nat.le_of_ble_eq_true rfl)) (g_c6 k_18) rfl rfl hl.1 rfl (Nat.le_of_ble_eq_true rfl) dX12_lessonsUntilMeant_53) (fun H locs hW => ?_)
        refine lv_pop C0.hx C0.hb dX12_lessonsUntilMeant_56 rfl ?_
        refine lv_iinc (v := l2 + (1 : Int32)) (lv' := [(2, .int (l2 + (1 : Int32))), (0, .ref (g_ad G (0))), (1, .int (l1))]) C0.hx C0.hb dX12_lessonsUntilMeant_57 hl (k := 2) rfl rfl (by decide) rfl (fun ls hl => ?_)
        refine lv_goto (tgt := 18) C0.hx C0.hb dX12_lessonsUntilMeant_60 (by decide) ?_
        exact ih _ _ _ _ _ _ h hW (lv_sub hl [1, 2, 0] rfl)
      · replace h := (if_pos hc8).symm.trans h
        refine lv_iload_n C0.hx C0.hb dX12_lessonsUntilMeant_39 rfl (lv_at hl 2 rfl) ?_
        obtain rfl := Option.some.inj h
        exact g_iret C0 hW rfl rfl rfl dX12_lessonsUntilMeant_40
set_option maxRecDepth 100000 in
set_option maxHeartbeats 4000000 in
theorem c_X12_lessonsUntilMeant {l : Launch} {G : GL} {ids : List Nat} {y : MS} {o : Nat → Int32} {x : CS} {p1 : Int32} {q : Int32 × CS}    (h : f_X12_lessonsUntilMeant p1 x = some q) : Met l yX12_lessonsUntilMeant (.code yX12_lessonsUntilMeant cX12_lessonsUntilMeant 3 (Option.some Jvm.ClassFile.FieldType.int) :: gT) (g_rm 7 0 0) (va_Pc [.ref (g_ad G (0)), .int (p1)] (g_P G ids (x, y, o))) (g_Qi G ids q.1 (q.2, y, o)) 0 0 (g_A G) := by
  unfold f_X12_lessonsUntilMeant at h
  refine g_entry (by decide) (Nat.le_of_ble_eq_true rfl) (fun p e s m args below meth c ls C0 hl hW _ => ?_)
  have hl : lv_has ls 3 [(0, .ref (g_ad G (0))), (1, .int (p1))] := hl
  refine lv_aload_n C0.hx C0.hb dX12_lessonsUntilMeant_0 rfl (lv_at hl 0 rfl) ?_
  refine lv_iload_n C0.hx C0.hb dX12_lessonsUntilMeant_1 rfl (lv_at hl 1 rfl) ?_
  obtain ⟨q1, hq1, h⟩ := Option.bind_eq_some_iff.mp h
  refine g_callv hW (g_runV (As := [.int (p1)]) (rest := []) C0 hW (c_X12_requireWord hq1) (g_cwOf (n := 1) tc_X12_requireWord tn_X12 md_X12_requireWord (by decide) (by omega)) tm_X12_129 ti_X12_requireWord ts_X12_requireWord (C0.mem (i := 0) (Nat.le_of_ble_eq_true rfl)) (g_c1 k_0) rfl rfl hl.1 rfl (Nat.le_of_ble_eq_true rfl) dX12_lessonsUntilMeant_2) (fun H locs hW => ?_)
  refine lv_aload_n C0.hx C0.hb dX12_lessonsUntilMeant_5 rfl (lv_at hl 0 rfl) ?_
  obtain ⟨hk2, h⟩ := g_if h
  refine gf_X12_9 C0 hW (C0.mem (i := 0) (Nat.le_of_ble_eq_true rfl)) k_0 tf_X12_68 dX12_lessonsUntilMeant_6 ?_
  refine lv_aload_n C0.hx C0.hb dX12_lessonsUntilMeant_9 rfl (lv_at hl 0 rfl) ?_
  obtain ⟨hk3, h⟩ := g_if h
  refine gf_X12_7 C0 hW (C0.mem (i := 0) (Nat.le_of_ble_eq_true rfl)) k_0 tf_X12_61 dX12_lessonsUntilMeant_10 ?_
  obtain ⟨q4, hq4, h⟩ := Option.bind_eq_some_iff.mp h
  refine g_callv hW (g_runV (As := [.ref (g_ad G (x.2 0 7))]) (rest := []) C0 hW (c_X9_copyFrom hk2 hk3 hq4) (g_cwOf (n := 1) tc_X9_copyFrom tn_X9 md_X9_copyFrom (by decide) (by omega)) tm_X12_227 ti_X9_copyFrom ts_X9_copyFrom (C0.mem (kl9 hk2)) (g_c9 hk2) rfl rfl hl.1 rfl (Nat.le_of_ble_eq_true rfl) dX12_lessonsUntilMeant_13) (fun H locs hW => ?_)
  refine lv_iconst (v := (0 : Int32)) C0.hx C0.hb dX12_lessonsUntilMeant_16 (by decide) ?_
  refine lv_istore_n (lv' := [(2, .int ((0 : Int32))), (0, .ref (g_ad G (0))), (1, .int (p1))]) C0.hx C0.hb dX12_lessonsUntilMeant_17 rfl hl (by decide) rfl (fun ls hl => ?_)
  exact w_X12_lessonsUntilMeant_18 C0 g_fuel _ _ _ _ _ _ h hW (lv_sub hl [1, 2, 0] rfl)
set_option maxRecDepth 100000 in
set_option maxHeartbeats 4000000 in
theorem c_X12_distanceIfShifted {l : Launch} {G : GL} {ids : List Nat} {y : MS} {o : Nat → Int32} {x : CS} {p1 : Int32} {p2 : Int32} {q : Int32 × CS}    (h : f_X12_distanceIfShifted p1 p2 x = some q) : Met l yX12_distanceIfShifted (.code yX12_distanceIfShifted cX12_distanceIfShifted 3 (Option.some Jvm.ClassFile.FieldType.int) :: gT) (g_rm 3 0 0) (va_Pc [.ref (g_ad G (0)), .int (p1), .int (p2)] (g_P G ids (x, y, o))) (g_Qi G ids q.1 (q.2, y, o)) 0 0 (g_A G) := by
  unfold f_X12_distanceIfShifted at h
  refine g_entry (by decide) (Nat.le_of_ble_eq_true rfl) (fun p e s m args below meth c ls C0 hl hW _ => ?_)
  have hl : lv_has ls 3 [(0, .ref (g_ad G (0))), (1, .int (p1)), (2, .int (p2))] := hl
  refine lv_aload_n C0.hx C0.hb dX12_distanceIfShifted_0 rfl (lv_at hl 0 rfl) ?_
  refine gf_X12_4 C0 hW (C0.mem (i := 0) (Nat.le_of_ble_eq_true rfl)) k_0 tf_X12_39 dX12_distanceIfShifted_1 ?_
  refine lv_aload_n C0.hx C0.hb dX12_distanceIfShifted_4 rfl (lv_at hl 0 rfl) ?_
  refine gf_X12_3 C0 hW (C0.mem (i := 0) (Nat.le_of_ble_eq_true rfl)) k_0 tf_X12_35 dX12_distanceIfShifted_5 ?_
  obtain ⟨q1, hq1, h⟩ := Option.bind_eq_some_iff.mp h
  refine g_callv hW (g_runV (As := [.ref (g_ad G (14))]) (rest := []) C0 hW (c_X3_copyFrom k_16 k_14 hq1) (g_cwOf (n := 1) tc_X3_copyFrom tn_X3 md_X3_copyFrom (by decide) (by omega)) tm_X12_213 ti_X3_copyFrom ts_X3_copyFrom (C0.mem (i := 16) (Nat.le_of_ble_eq_true rfl)) (g_c5 k_16) rfl rfl hl.1 rfl (Nat.le_of_ble_eq_true rfl) dX12_distanceIfShifted_8) (fun H locs hW => ?_)
  refine lv_aload_n C0.hx C0.hb dX12_distanceIfShifted_11 rfl (lv_at hl 0 rfl) ?_
  refine gf_X12_4 C0 hW (C0.mem (i := 0) (Nat.le_of_ble_eq_true rfl)) k_0 tf_X12_39 dX12_distanceIfShifted_12 ?_
  refine lv_iload_n C0.hx C0.hb dX12_distanceIfShifted_15 rfl (lv_at hl 2 rfl) ?_
  obtain ⟨q2, hq2, h⟩ := Option.bind_eq_some_iff.mp h
  refine g_calli hW (g_runV (As := [.int (p2)]) (rest := []) C0 hW (c_X3_shift k_16 hq2) (g_cwOf (n := 1) tc_X3_shift tn_X3 md_X3_shift (by decide) (by omega)) tm_X12_217 ti_X3_shift ts_X3_shift (C0.mem (i := 16) (Nat.le_of_ble_eq_true rfl)) (g_c5 k_16) rfl rfl hl.1 rfl (Nat.le_of_ble_eq_true rfl) dX12_distanceIfShifted_16) (fun H locs hW => ?_)
  refine lv_pop C0.hx C0.hb dX12_distanceIfShifted_19 rfl ?_
  refine lv_aload_n C0.hx C0.hb dX12_distanceIfShifted_20 rfl (lv_at hl 0 rfl) ?_
  refine gf_X12_2 C0 hW (C0.mem (i := 0) (Nat.le_of_ble_eq_true rfl)) k_0 tf_X12_28 dX12_distanceIfShifted_21 ?_
  refine lv_aload_n C0.hx C0.hb dX12_distanceIfShifted_24 rfl (lv_at hl 0 rfl) ?_
  refine lv_iload_n C0.hx C0.hb dX12_distanceIfShifted_25 rfl (lv_at hl 1 rfl) ?_
  obtain ⟨q3, hq3, h⟩ := Option.bind_eq_some_iff.mp h
  obtain ⟨hk4, h⟩ := g_if h
  refine g_callr hW (g_runV (As := [.int (p1)]) (rest := [.ref (g_ad G (8))]) C0 hW (c_X12_rowOf hq3) (g_cwOf (n := 1) tc_X12_rowOf tn_X12 md_X12_rowOf (by decide) (by omega)) tm_X12_132 ti_X12_rowOf ts_X12_rowOf (C0.mem (i := 0) (Nat.le_of_ble_eq_true rfl)) (g_c1 k_0) rfl rfl hl.1 rfl (Nat.le_of_ble_eq_true rfl) dX12_distanceIfShifted_26) (fun H locs hW => ?_)
  refine lv_aload_n C0.hx C0.hb dX12_distanceIfShifted_29 rfl (lv_at hl 0 rfl) ?_
  refine gf_X12_4 C0 hW (C0.mem (i := 0) (Nat.le_of_ble_eq_true rfl)) k_0 tf_X12_39 dX12_distanceIfShifted_30 ?_
  refine lv_aload_n C0.hx C0.hb dX12_distanceIfShifted_33 rfl (lv_at hl 0 rfl) ?_
  obtain ⟨hk5, h⟩ := g_if h
  refine gf_X12_6 C0 hW (C0.mem (i := 0) (Nat.le_of_ble_eq_true rfl)) k_0 tf_X12_54 dX12_distanceIfShifted_34 ?_
  refine gfN_X5_6 C0 hW (C0.mem (kl7 hk5)) hk5 tfN_X12_164 dX12_distanceIfShifted_37 ?_
  obtain ⟨q6, hq6, h⟩ := Option.bind_eq_some_iff.mp h
  refine g_calli hW (g_runV (As := [.ref (g_ad G (q3)), .ref (g_ad G (16)), .int (q2.2.1 (q2.2.2 0 6) 6)]) (rest := []) C0 hW (c_X10_distance hk4 k_16 hq6) (g_cwOf (n := 3) tc_X10_distance tn_X10 md_X10_distance (by decide) (by omega)) tm_X12_261 ti_X10_distance ts_X10_distance (C0.mem (i := 8) (Nat.le_of_ble_eq_true rfl)) (g_c4 k_8) rfl rfl hl.1 rfl (Nat.le_of_ble_eq_true rfl) dX12_distanceIfShifted_40) (fun H locs hW => ?_)
  obtain rfl := Option.some.inj h
  exact g_iret C0 hW rfl rfl rfl dX12_distanceIfShifted_43
set_option maxRecDepth 100000 in
set_option maxHeartbeats 4000000 in
theorem w_X12_bestShift_49 {p : Program} {l : Launch} {e : Env} {s : State} {m : MethodId} {args : Array Value} {below : List Frame} {meth : Method} {c : Code} {G : GL} {ids : List Nat} {y : MS} {o : Nat → Int32}  {q : Int32 × CS} {k21 : Int32 → Int32 → Int32 → Int32 → CS → Option (Int32 × CS)}   (C0 : g_X G ids p s m args meth c cX12_bestShift 7 RX12 (Option.some Jvm.ClassFile.FieldType.int)) (kt21 : ∀ (l1 : Int32) (l2 : Int32) (l3 : Int32) (l4 : Int32) (x : CS) (H : Heap) (locs : List Loc) (ls : Array Slot),  k21 l1 l2 l3 l4 x = some q → g_W G ids (x, y, o) s.heap H locs → lv_has ls 7 [(0, .ref (g_ad G (0))), (1, .int (l1)), (2, .int (l2)), (3, .int (l3)), (4, .int (l4))] → W p l e (g_rm 7 0 0) s m args below meth c H locs 0 0 (MQ below (g_Qi G ids q.1 (q.2, y, o)) args s 0 0 (g_A G)) (F0 m 21 ls [])) : ∀  (l1 : Int32) (l2 : Int32) (l3 : Int32) (l4 : Int32) (x : CS) (H : Heap) (locs : List Loc) (ls : Array Slot),  f_X12_bestShift_49 k21 l1 l2 l3 l4 x = some q → g_W G ids (x, y, o) s.heap H locs → lv_has ls 7 [(0, .ref (g_ad G (0))), (1, .int (l1)), (2, .int (l2)), (3, .int (l3)), (4, .int (l4))] → W p l e (g_rm 7 0 0) s m args below meth c H locs 0 0 (MQ below (g_Qi G ids q.1 (q.2, y, o)) args s 0 0 (g_A G)) (F0 m 49 ls []) := by
  intro l1 l2 l3 l4 x H locs ls h hW hl
  unfold f_X12_bestShift_49 at h
  refine lv_aload_n C0.hx C0.hb dX12_bestShift_49 rfl (lv_at hl 0 rfl) ?_
  refine lv_iload_n C0.hx C0.hb dX12_bestShift_50 rfl (lv_at hl 1 rfl) ?_
  refine lv_iload C0.hx C0.hb dX12_bestShift_51 (lv_at hl 4 rfl) ?_
  refine lv_ineg C0.hx C0.hb dX12_bestShift_53 ?_
  obtain ⟨q7, hq7, h⟩ := Option.bind_eq_some_iff.mp h
  refine g_calli hW (g_runV (As := [.int (l1), .int (-l4)]) (rest := []) C0 hW (c_X12_distanceIfShifted hq7) (g_cwOf (n := 2) tc_X12_distanceIfShifted tn_X12 md_X12_distanceIfShifted (by decide) (by omega)) tm_X12_230 ti_X12_distanceIfShifted ts_X12_distanceIfShifted (C0.mem (i := 0) (Nat.le_of_ble_eq_true rfl)) (g_c1 k_0) rfl rfl hl.1 rfl (Nat.le_of_ble_eq_true rfl) dX12_bestShift_54) (fun H locs hW => ?_)
  refine lv_istore (lv' := [(6, .int (q7.1)), (0, .ref (g_ad G (0))), (1, .int (l1)), (2, .int (l2)), (3, .int (l3)), (4, .int (l4))]) C0.hx C0.hb dX12_bestShift_57 hl (by decide) rfl (fun ls hl => ?_)
  refine lv_iload C0.hx C0.hb dX12_bestShift_59 (lv_at hl 0 rfl) ?_
  refine lv_iload_n C0.hx C0.hb dX12_bestShift_61 rfl (lv_at hl 4 rfl) ?_
  refine lv_icmp_ge (tgt := 72) C0.hx C0.hb dX12_bestShift_62 (by decide) (fun hc8 => ?_) (fun hc8 => ?_)
  · replace h := (if_pos hc8).symm.trans h
    refine lv_iinc (v := l4 + (1 : Int32)) (lv' := [(4, .int (l4 + (1 : Int32))), (6, .int (q7.1)), (0, .ref (g_ad G (0))), (1, .int (l1)), (2, .int (l2)), (3, .int (l3))]) C0.hx C0.hb dX12_bestShift_72 hl (k := 5) rfl rfl (by decide) rfl (fun ls hl => ?_)
    refine lv_goto (tgt := 21) C0.hx C0.hb dX12_bestShift_75 (by decide) ?_
    exact kt21 _ _ _ _ _ _ _ _ h hW (lv_sub hl [2, 3, 4, 5, 0] rfl)
  · replace h := (if_neg hc8).symm.trans h
    refine lv_iload C0.hx C0.hb dX12_bestShift_65 (lv_at hl 5 rfl) ?_
    refine lv_ineg C0.hx C0.hb dX12_bestShift_67 ?_
    refine lv_istore_n (lv' := [(2, .int (-l4)), (6, .int (q7.1)), (0, .ref (g_ad G (0))), (1, .int (l1)), (3, .int (l3)), (4, .int (l4))]) C0.hx C0.hb dX12_bestShift_68 rfl hl (by decide) rfl (fun ls hl => ?_)
    refine lv_iload C0.hx C0.hb dX12_bestShift_69 (lv_at hl 1 rfl) ?_
    refine lv_istore_n (lv' := [(3, .int (q7.1)), (2, .int (-l4)), (6, .int (q7.1)), (0, .ref (g_ad G (0))), (1, .int (l1)), (4, .int (l4))]) C0.hx C0.hb dX12_bestShift_71 rfl hl (by decide) rfl (fun ls hl => ?_)
    refine lv_iinc (v := l4 + (1 : Int32)) (lv' := [(4, .int (l4 + (1 : Int32))), (3, .int (q7.1)), (2, .int (-l4)), (6, .int (q7.1)), (0, .ref (g_ad G (0))), (1, .int (l1))]) C0.hx C0.hb dX12_bestShift_72 hl (k := 5) rfl rfl (by decide) rfl (fun ls hl => ?_)
    refine lv_goto (tgt := 21) C0.hx C0.hb dX12_bestShift_75 (by decide) ?_
    exact kt21 _ _ _ _ _ _ _ _ h hW (lv_sub hl [4, 5, 2, 1, 0] rfl)
set_option maxRecDepth 100000 in
set_option maxHeartbeats 4000000 in
theorem w_X12_bestShift_21 {p : Program} {l : Launch} {e : Env} {s : State} {m : MethodId} {args : Array Value} {below : List Frame} {meth : Method} {c : Code} {G : GL} {ids : List Nat} {y : MS} {o : Nat → Int32}  {q : Int32 × CS}   (C0 : g_X G ids p s m args meth c cX12_bestShift 7 RX12 (Option.some Jvm.ClassFile.FieldType.int))  : ∀ (n : Nat) (l1 : Int32) (l2 : Int32) (l3 : Int32) (l4 : Int32) (x : CS) (H : Heap) (locs : List Loc) (ls : Array Slot),  f_X12_bestShift_21 n l1 l2 l3 l4 x = some q → g_W G ids (x, y, o) s.heap H locs → lv_has ls 7 [(0, .ref (g_ad G (0))), (1, .int (l1)), (2, .int (l2)), (3, .int (l3)), (4, .int (l4))] → W p l e (g_rm 7 0 0) s m args below meth c H locs 0 0 (MQ below (g_Qi G ids q.1 (q.2, y, o)) args s 0 0 (g_A G)) (F0 m 21 ls []) := by
  intro n
  induction n with
  | zero =>
    intro l1 l2 l3 l4 x H locs ls h hW hl
    exact absurd h (by simp [f_X12_bestShift_21])
  | succ n ih =>
    intro l1 l2 l3 l4 x H locs ls h hW hl
    unfold f_X12_bestShift_21 at h
    refine lv_iload C0.hx C0.hb dX12_bestShift_21 (lv_at hl 4 rfl) ?_
    refine lv_bipush (v := (39 : Int32)) C0.hx C0.hb dX12_bestShift_23 (by decide) ?_
    refine lv_icmp_gt (tgt := 78) C0.hx C0.hb dX12_bestShift_25 (by decide) (fun hc4 => ?_) (fun hc4 => ?_)
    · replace h := (if_pos hc4).symm.trans h
      refine lv_iload_n C0.hx C0.hb dX12_bestShift_78 rfl (lv_at hl 2 rfl) ?_
      obtain rfl := Option.some.inj h
      exact g_iret C0 hW rfl rfl rfl dX12_bestShift_79
    · replace h := (if_neg hc4).symm.trans h
      refine lv_aload_n C0.hx C0.hb dX12_bestShift_28 rfl (lv_at hl 0 rfl) ?_
      refine lv_iload_n C0.hx C0.hb dX12_bestShift_29 rfl (lv_at hl 1 rfl) ?_
      refine lv_iload C0.hx C0.hb dX12_bestShift_30 (lv_at hl 4 rfl) ?_
      obtain ⟨q5, hq5, h⟩ := Option.bind_eq_some_iff.mp h
      refine g_calli hW (g_runV (As := [.int (l1), .int (l4)]) (rest := []) C0 hW (c_X12_distanceIfShifted hq5) (g_cwOf (n := 2) tc_X12_distanceIfShifted tn_X12 md_X12_distanceIfShifted (by decide) (by omega)) tm_X12_230 ti_X12_distanceIfShifted ts_X12_distanceIfShifted (C0.mem (i := 0) (Nat.le_of_ble_eq_true rfl)) (g_c1 k_0) rfl rfl hl.1 rfl (Nat.le_of_ble_eq_true rfl) dX12_bestShift_32) (fun H locs hW => ?_)
      refine lv_istore (lv' := [(5, .int (q5.1)), (0, .ref (g_ad G (0))), (1, .int (l1)), (2, .int (l2)), (3, .int (l3)), (4, .int (l4))]) C0.hx C0.hb dX12_bestShift_35 hl (by decide) rfl (fun ls hl => ?_)
      refine lv_iload C0.hx C0.hb dX12_bestShift_37 (lv_at hl 0 rfl) ?_
      refine lv_iload_n C0.hx C0.hb dX12_bestShift_39 rfl (lv_at hl 4 rfl) ?_
      refine lv_icmp_ge (tgt := 49) C0.hx C0.hb dX12_bestShift_40 (by decide) (fun hc6 => ?_) (fun hc6 => ?_)
      · replace h := (if_pos hc6).symm.trans h
        exact w_X12_bestShift_49 C0 ih _ _ _ _ _ _ _ _ h hW (lv_sub hl [1, 2, 3, 4, 5] rfl)
      · replace h := (if_neg hc6).symm.trans h
        refine lv_iload C0.hx C0.hb dX12_bestShift_43 (lv_at hl 5 rfl) ?_
        refine lv_istore_n (lv' := [(2, .int (l4)), (5, .int (q5.1)), (0, .ref (g_ad G (0))), (1, .int (l1)), (3, .int (l3)), (4, .int (l4))]) C0.hx C0.hb dX12_bestShift_45 rfl hl (by decide) rfl (fun ls hl => ?_)
        refine lv_iload C0.hx C0.hb dX12_bestShift_46 (lv_at hl 1 rfl) ?_
        refine lv_istore_n (lv' := [(3, .int (q5.1)), (2, .int (l4)), (5, .int (q5.1)), (0, .ref (g_ad G (0))), (1, .int (l1)), (4, .int (l4))]) C0.hx C0.hb dX12_bestShift_48 rfl hl (by decide) rfl (fun ls hl => ?_)
        exact w_X12_bestShift_49 C0 ih _ _ _ _ _ _ _ _ h hW (lv_sub hl [3, 4, 1, 0, 5] rfl)
set_option maxRecDepth 100000 in
set_option maxHeartbeats 4000000 in
theorem c_X12_bestShift {l : Launch} {G : GL} {ids : List Nat} {y : MS} {o : Nat → Int32} {x : CS} {p1 : Int32} {q : Int32 × CS}    (h : f_X12_bestShift p1 x = some q) : Met l yX12_bestShift (.code yX12_bestShift cX12_bestShift 7 (Option.some Jvm.ClassFile.FieldType.int) :: gT) (g_rm 7 0 0) (va_Pc [.ref (g_ad G (0)), .int (p1)] (g_P G ids (x, y, o))) (g_Qi G ids q.1 (q.2, y, o)) 0 0 (g_A G) := by
  unfold f_X12_bestShift at h
  refine g_entry (by decide) (Nat.le_of_ble_eq_true rfl) (fun p e s m args below meth c ls C0 hl hW _ => ?_)
  have hl : lv_has ls 7 [(0, .ref (g_ad G (0))), (1, .int (p1))] := hl
  refine lv_aload_n C0.hx C0.hb dX12_bestShift_0 rfl (lv_at hl 0 rfl) ?_
  refine lv_iload_n C0.hx C0.hb dX12_bestShift_1 rfl (lv_at hl 1 rfl) ?_
  obtain ⟨q1, hq1, h⟩ := Option.bind_eq_some_iff.mp h
  refine g_callv hW (g_runV (As := [.int (p1)]) (rest := []) C0 hW (c_X12_requireWord hq1) (g_cwOf (n := 1) tc_X12_requireWord tn_X12 md_X12_requireWord (by decide) (by omega)) tm_X12_129 ti_X12_requireWord ts_X12_requireWord (C0.mem (i := 0) (Nat.le_of_ble_eq_true rfl)) (g_c1 k_0) rfl rfl hl.1 rfl (Nat.le_of_ble_eq_true rfl) dX12_bestShift_2) (fun H locs hW => ?_)
  refine lv_aload_n C0.hx C0.hb dX12_bestShift_5 rfl (lv_at hl 0 rfl) ?_
  obtain ⟨q2, hq2, h⟩ := Option.bind_eq_some_iff.mp h
  refine g_callv hW (g_runV (As := []) (rest := []) C0 hW (c_X12_requireSomeHeard hq2) (g_cwOf (n := 0) tc_X12_requireSomeHeard tn_X12 md_X12_requireSomeHeard (by decide) (by omega)) tm_X12_181 ti_X12_requireSomeHeard ts_X12_requireSomeHeard (C0.mem (i := 0) (Nat.le_of_ble_eq_true rfl)) (g_c1 k_0) rfl rfl hl.1 rfl (Nat.le_of_ble_eq_true rfl) dX12_bestShift_6) (fun H locs hW => ?_)
  refine lv_iconst (v := (0 : Int32)) C0.hx C0.hb dX12_bestShift_9 (by decide) ?_
  refine lv_istore_n (lv' := [(2, .int ((0 : Int32))), (0, .ref (g_ad G (0))), (1, .int (p1))]) C0.hx C0.hb dX12_bestShift_10 rfl hl (by decide) rfl (fun ls hl => ?_)
  refine lv_aload_n C0.hx C0.hb dX12_bestShift_11 rfl (lv_at hl 1 rfl) ?_
  refine lv_iload_n C0.hx C0.hb dX12_bestShift_12 rfl (lv_at hl 2 rfl) ?_
  refine lv_iconst (v := (0 : Int32)) C0.hx C0.hb dX12_bestShift_13 (by decide) ?_
  obtain ⟨q3, hq3, h⟩ := Option.bind_eq_some_iff.mp h
  refine g_calli hW (g_runV (As := [.int (p1), .int ((0 : Int32))]) (rest := []) C0 hW (c_X12_distanceIfShifted hq3) (g_cwOf (n := 2) tc_X12_distanceIfShifted tn_X12 md_X12_distanceIfShifted (by decide) (by omega)) tm_X12_230 ti_X12_distanceIfShifted ts_X12_distanceIfShifted (C0.mem (i := 0) (Nat.le_of_ble_eq_true rfl)) (g_c1 k_0) rfl rfl hl.1 rfl (Nat.le_of_ble_eq_true rfl) dX12_bestShift_14) (fun H locs hW => ?_)
  refine lv_istore_n (lv' := [(3, .int (q3.1)), (2, .int ((0 : Int32))), (0, .ref (g_ad G (0))), (1, .int (p1))]) C0.hx C0.hb dX12_bestShift_17 rfl hl (by decide) rfl (fun ls hl => ?_)
  refine lv_iconst (v := (1 : Int32)) C0.hx C0.hb dX12_bestShift_18 (by decide) ?_
  refine lv_istore (lv' := [(4, .int ((1 : Int32))), (3, .int (q3.1)), (2, .int ((0 : Int32))), (0, .ref (g_ad G (0))), (1, .int (p1))]) C0.hx C0.hb dX12_bestShift_19 hl (by decide) rfl (fun ls hl => ?_)
  exact w_X12_bestShift_21 C0 g_fuel _ _ _ _ _ _ _ _ h hW (lv_sub hl [3, 4, 2, 1, 0] rfl)
set_option maxRecDepth 100000 in
set_option maxHeartbeats 4000000 in
theorem w_X12_meanLength_16 {p : Program} {l : Launch} {e : Env} {s : State} {m : MethodId} {args : Array Value} {below : List Frame} {meth : Method} {c : Code} {G : GL} {ids : List Nat} {y : MS} {o : Nat → Int32} {x : CS} {q : UInt64}   (C0 : g_X G ids p s m args meth c cX12_meanLength 3 RX12 (Option.some Jvm.ClassFile.FieldType.double))  : ∀ (n : Nat) (l1 : Int32) (l2 : Int32)  (H : Heap) (locs : List Loc) (ls : Array Slot),  f_X12_meanLength_16 x n l1 l2 = some q → g_W G ids (x, y, o) s.heap H locs → lv_has ls 3 [(0, .ref (g_ad G (0))), (1, .int (l1)), (2, .int (l2))] → W p l e (g_rm 2 0 0) s m args below meth c H locs 0 0 (MQ below (g_Qd G ids q (x, y, o)) args s 0 0 (g_A G)) (F0 m 16 ls []) := by
  intro n
  induction n with
  | zero =>
    intro l1 l2 H locs ls h hW hl
    exact absurd h (by simp [f_X12_meanLength_16])
  | succ n ih =>
    intro l1 l2 H locs ls h hW hl
    unfold f_X12_meanLength_16 at h
    refine lv_iload_n C0.hx C0.hb dX12_meanLength_16 rfl (lv_at hl 2 rfl) ?_
    refine lv_aload_n C0.hx C0.hb dX12_meanLength_17 rfl (lv_at hl 0 rfl) ?_
    obtain ⟨hk3, h⟩ := g_if h
    refine gf_X12_7 C0 hW (C0.mem (i := 0) (Nat.le_of_ble_eq_true rfl)) k_0 tf_X12_61 dX12_meanLength_18 ?_
    refine gfN_X9_2 C0 hW (C0.mem (kl9 hk3)) hk3 tfN_X12_114 dX12_meanLength_21 ?_
    refine lv_icmp_ge (tgt := 44) C0.hx C0.hb dX12_meanLength_24 (by decide) (fun hc4 => ?_) (fun hc4 => ?_)
    · replace h := (if_pos hc4).symm.trans h
      refine lv_iload_n C0.hx C0.hb dX12_meanLength_44 rfl (lv_at hl 1 rfl) ?_
      refine lv_i2d C0.hx C0.hb dX12_meanLength_45 ?_
      refine lv_aload_n C0.hx C0.hb dX12_meanLength_46 rfl (lv_at hl 0 rfl) ?_
      refine gf_X12_7 C0 hW (C0.mem (i := 0) (Nat.le_of_ble_eq_true rfl)) k_0 tf_X12_61 dX12_meanLength_47 ?_
      refine gfN_X9_2 C0 hW (C0.mem (kl9 hk3)) hk3 tfN_X12_114 dX12_meanLength_50 ?_
      refine lv_i2d C0.hx C0.hb dX12_meanLength_53 ?_
      obtain ⟨hn5, h⟩ := g_if h
      refine lv_ddiv C0.hx C0.hb dX12_meanLength_54 (g_nanv hn5) ?_
      obtain rfl := Option.some.inj h
      exact g_dret C0 hW rfl rfl dX12_meanLength_55
    · replace h := (if_neg hc4).symm.trans h
      refine lv_iload_n C0.hx C0.hb dX12_meanLength_27 rfl (lv_at hl 1 rfl) ?_
      refine lv_aload_n C0.hx C0.hb dX12_meanLength_28 rfl (lv_at hl 0 rfl) ?_
      refine lv_iload_n C0.hx C0.hb dX12_meanLength_29 rfl (lv_at hl 2 rfl) ?_
      obtain ⟨q6, hq6, h⟩ := Option.bind_eq_some_iff.mp h
      obtain ⟨hk7, h⟩ := g_if h
      refine g_callr hW (g_runV (As := [.int (l2)]) (rest := [.int (l1)]) C0 hW (c_X12_rowOf hq6) (g_cwOf (n := 1) tc_X12_rowOf tn_X12 md_X12_rowOf (by decide) (by omega)) tm_X12_132 ti_X12_rowOf ts_X12_rowOf (C0.mem (i := 0) (Nat.le_of_ble_eq_true rfl)) (g_c1 k_0) rfl rfl hl.1 rfl (Nat.le_of_ble_eq_true rfl) dX12_meanLength_30) (fun H locs hW => ?_)
      refine gfN_X3_1 C0 hW (C0.mem (kl5 hk7)) hk7 tfN_X12_128 dX12_meanLength_33 ?_
      refine lv_iadd C0.hx C0.hb dX12_meanLength_36 ?_
      refine lv_istore_n (lv' := [(1, .int (l1 + (x.1 q6 1))), (0, .ref (g_ad G (0))), (2, .int (l2))]) C0.hx C0.hb dX12_meanLength_37 rfl hl (by decide) rfl (fun ls hl => ?_)
      refine lv_iinc (v := l2 + (1 : Int32)) (lv' := [(2, .int (l2 + (1 : Int32))), (1, .int (l1 + (x.1 q6 1))), (0, .ref (g_ad G (0)))]) C0.hx C0.hb dX12_meanLength_38 hl (k := 2) rfl rfl (by decide) rfl (fun ls hl => ?_)
      refine lv_goto (tgt := 16) C0.hx C0.hb dX12_meanLength_41 (by decide) ?_
      exact ih _ _ _ _ _ h hW (lv_sub hl [2, 1, 0] rfl)
set_option maxRecDepth 100000 in
set_option maxHeartbeats 4000000 in
theorem c_X12_meanLength {l : Launch} {G : GL} {ids : List Nat} {y : MS} {o : Nat → Int32} {x : CS}  {q : UInt64}    (h : f_X12_meanLength x = some q) : Met l yX12_meanLength (.code yX12_meanLength cX12_meanLength 3 (Option.some Jvm.ClassFile.FieldType.double) :: gT) (g_rm 2 0 0) (va_Pc [.ref (g_ad G (0))] (g_P G ids (x, y, o))) (g_Qd G ids q (x, y, o)) 0 0 (g_A G) := by
  unfold f_X12_meanLength at h
  refine g_entry (by decide) (Nat.le_of_ble_eq_true rfl) (fun p e s m args below meth c ls C0 hl hW _ => ?_)
  have hl : lv_has ls 3 [(0, .ref (g_ad G (0)))] := hl
  refine lv_aload_n C0.hx C0.hb dX12_meanLength_0 rfl (lv_at hl 0 rfl) ?_
  obtain ⟨hk1, h⟩ := g_if h
  refine gf_X12_7 C0 hW (C0.mem (i := 0) (Nat.le_of_ble_eq_true rfl)) k_0 tf_X12_61 dX12_meanLength_1 ?_
  refine gfN_X9_2 C0 hW (C0.mem (kl9 hk1)) hk1 tfN_X12_114 dX12_meanLength_4 ?_
  refine lv_if_ne (tgt := 12) C0.hx C0.hb dX12_meanLength_7 (by decide) (fun hc2 => ?_) (fun hc2 => ?_)
  · replace h := (if_neg hc2).symm.trans h
    refine lv_iconst (v := (0 : Int32)) C0.hx C0.hb dX12_meanLength_12 (by decide) ?_
    refine lv_istore_n (lv' := [(1, .int ((0 : Int32))), (0, .ref (g_ad G (0)))]) C0.hx C0.hb dX12_meanLength_13 rfl hl (by decide) rfl (fun ls hl => ?_)
    refine lv_iconst (v := (0 : Int32)) C0.hx C0.hb dX12_meanLength_14 (by decide) ?_
    refine lv_istore_n (lv' := [(2, .int ((0 : Int32))), (1, .int ((0 : Int32))), (0, .ref (g_ad G (0)))]) C0.hx C0.hb dX12_meanLength_15 rfl hl (by decide) rfl (fun ls hl => ?_)
    exact w_X12_meanLength_16 C0 g_fuel _ _ _ _ _ h hW (lv_sub hl [2, 1, 0] rfl)
  · replace h := (if_pos hc2).symm.trans h
    refine lv_dconst0 C0.hx C0.hb dX12_meanLength_10 ?_
    obtain rfl := Option.some.inj h
    exact g_dret C0 hW rfl rfl dX12_meanLength_11
set_option maxRecDepth 100000 in
set_option maxHeartbeats 4000000 in
theorem w_X12_digestOfRow_5 {p : Program} {l : Launch} {e : Env} {s : State} {m : MethodId} {args : Array Value} {below : List Frame} {meth : Method} {c : Code} {G : GL} {ids : List Nat} {y : MS} {o : Nat → Int32} {x : CS} {q : Int64}   (C0 : g_X G ids p s m args meth c cX12_digestOfRow 6 RX12 (Option.some Jvm.ClassFile.FieldType.long))  : ∀ (n : Nat) (l2 : Nat) (l3 : Int64) (l5 : Int32)  (H : Heap) (locs : List Loc) (ls : Array Slot), kd l2 = 5 → f_X12_digestOfRow_5 x n l2 l3 l5 = some q → g_W G ids (x, y, o) s.heap H locs → lv_has ls 6 [(2, .ref (g_ad G (l2))), (3, .long (l3)), (5, .int (l5))] → W p l e (g_rm 1 0 0) s m args below meth c H locs 0 0 (MQ below (g_Ql G ids q (x, y, o)) args s 0 0 (g_A G)) (F0 m 5 ls []) := by
  intro n
  induction n with
  | zero =>
    intro l2 l3 l5 H locs ls hk_l2 h hW hl
    exact absurd h (by simp [f_X12_digestOfRow_5])
  | succ n ih =>
    intro l2 l3 l5 H locs ls hk_l2 h hW hl
    unfold f_X12_digestOfRow_5 at h
    refine lv_iload C0.hx C0.hb dX12_digestOfRow_5 (lv_at hl 2 rfl) ?_
    refine lv_aload_n C0.hx C0.hb dX12_digestOfRow_7 rfl (lv_at hl 0 rfl) ?_
    refine gfN_X3_1 C0 hW (C0.mem (kl5 hk_l2)) hk_l2 tfN_X12_128 dX12_digestOfRow_8 ?_
    refine lv_icmp_ge (tgt := 34) C0.hx C0.hb dX12_digestOfRow_11 (by decide) (fun hc1 => ?_) (fun hc1 => ?_)
    · replace h := (if_pos hc1).symm.trans h
      refine lv_lload_n C0.hx C0.hb dX12_digestOfRow_34 rfl (lv_at hl 1 rfl) ?_
      obtain rfl := Option.some.inj h
      exact g_lret C0 hW rfl rfl dX12_digestOfRow_35
    · replace h := (if_neg hc1).symm.trans h
      refine lv_lload_n C0.hx C0.hb dX12_digestOfRow_14 rfl (lv_at hl 1 rfl) ?_
      refine lv_ldc2 C0.hx C0.hb C0.hown (C0.hts _ tq_X12_235) dX12_digestOfRow_15 ?_
      refine lv_lmul C0.hx C0.hb dX12_digestOfRow_18 ?_
      refine lv_aload_n C0.hx C0.hb dX12_digestOfRow_19 rfl (lv_at hl 0 rfl) ?_
      refine lv_iload C0.hx C0.hb dX12_digestOfRow_20 (lv_at hl 2 rfl) ?_
      obtain ⟨q2, hq2, h⟩ := Option.bind_eq_some_iff.mp h
      refine g_calli hW (g_runV (As := [.int (l5)]) (rest := [.long (l3 * (31 : Int64))]) C0 hW (c_X3_pitch hk_l2 hq2) (g_cwOf (n := 1) tc_X3_pitch tn_X3 md_X3_pitch (by decide) (by omega)) tm_X12_140 ti_X3_pitch ts_X3_pitch (C0.mem (kl5 hk_l2)) (g_c5 hk_l2) rfl rfl hl.1 rfl (Nat.le_of_ble_eq_true rfl) dX12_digestOfRow_22) (fun H locs hW => ?_)
      refine lv_i2l C0.hx C0.hb dX12_digestOfRow_25 rfl ?_
      refine lv_ladd C0.hx C0.hb dX12_digestOfRow_26 ?_
      refine lv_lstore_n (lv' := [(3, .long ((l3 * (31 : Int64)) + q2.toInt64)), (2, .ref (g_ad G (l2))), (5, .int (l5))]) C0.hx C0.hb dX12_digestOfRow_27 rfl hl (by decide) rfl (fun ls hl => ?_)
      refine lv_iinc (v := l5 + (1 : Int32)) (lv' := [(5, .int (l5 + (1 : Int32))), (3, .long ((l3 * (31 : Int64)) + q2.toInt64)), (2, .ref (g_ad G (l2)))]) C0.hx C0.hb dX12_digestOfRow_28 hl (k := 2) rfl rfl (by decide) rfl (fun ls hl => ?_)
      refine lv_goto (tgt := 5) C0.hx C0.hb dX12_digestOfRow_31 (by decide) ?_
      exact ih _ _ _ _ _ _ hk_l2 h hW (lv_sub hl [2, 1, 0] rfl)
set_option maxRecDepth 100000 in
set_option maxHeartbeats 4000000 in
theorem c_X12_digestOfRow {l : Launch} {G : GL} {ids : List Nat} {y : MS} {o : Nat → Int32} {x : CS} {p1 : Int64} {p2 : Nat} {q : Int64}   (hk_p2 : kd p2 = 5) (h : f_X12_digestOfRow p1 p2 x = some q) : Met l yX12_digestOfRow (.code yX12_digestOfRow cX12_digestOfRow 6 (Option.some Jvm.ClassFile.FieldType.long) :: gT) (g_rm 1 0 0) (va_Pc [.long (p1), .ref (g_ad G (p2))] (g_P G ids (x, y, o))) (g_Ql G ids q (x, y, o)) 0 0 (g_A G) := by
  unfold f_X12_digestOfRow at h
  refine g_entry (by decide) (Nat.le_of_ble_eq_true rfl) (fun p e s m args below meth c ls C0 hl hW _ => ?_)
  have hl : lv_has ls 6 [(0, .long (p1)), (2, .ref (g_ad G (p2)))] := hl
  refine lv_lload_n C0.hx C0.hb dX12_digestOfRow_0 rfl (lv_at hl 0 rfl) ?_
  refine lv_lstore_n (lv' := [(3, .long (p1)), (0, .long (p1)), (2, .ref (g_ad G (p2)))]) C0.hx C0.hb dX12_digestOfRow_1 rfl hl (by decide) rfl (fun ls hl => ?_)
  refine lv_iconst (v := (0 : Int32)) C0.hx C0.hb dX12_digestOfRow_2 (by decide) ?_
  refine lv_istore (lv' := [(5, .int ((0 : Int32))), (3, .long (p1)), (0, .long (p1)), (2, .ref (g_ad G (p2)))]) C0.hx C0.hb dX12_digestOfRow_3 hl (by decide) rfl (fun ls hl => ?_)
  exact w_X12_digestOfRow_5 C0 g_fuel _ _ _ _ _ _ hk_p2 h hW (lv_sub hl [3, 1, 0] rfl)
set_option maxRecDepth 100000 in
set_option maxHeartbeats 4000000 in
theorem w_X12_digestOfWord_88 {p : Program} {l : Launch} {e : Env} {s : State} {m : MethodId} {args : Array Value} {below : List Frame} {meth : Method} {c : Code} {G : GL} {ids : List Nat} {y : MS} {o : Nat → Int32}  {q : Int64 × CS}   (C0 : g_X G ids p s m args meth c cX12_digestOfWord 7 RX12 (Option.some Jvm.ClassFile.FieldType.long))  : ∀ (n : Nat) (l3 : Int32) (l4 : Int64) (l6 : Int32) (x : CS) (H : Heap) (locs : List Loc) (ls : Array Slot),  f_X12_digestOfWord_88 n l3 l4 l6 x = some q → g_W G ids (x, y, o) s.heap H locs → lv_has ls 7 [(0, .ref (g_ad G (0))), (3, .int (l3)), (4, .long (l4)), (6, .int (l6))] → W p l e (g_rm 6 0 0) s m args below meth c H locs 0 0 (MQ below (g_Ql G ids q.1 (q.2, y, o)) args s 0 0 (g_A G)) (F0 m 88 ls []) := by
  intro n
  induction n with
  | zero =>
    intro l3 l4 l6 x H locs ls h hW hl
    exact absurd h (by simp [f_X12_digestOfWord_88])
  | succ n ih =>
    intro l3 l4 l6 x H locs ls h hW hl
    unfold f_X12_digestOfWord_88 at h
    refine lv_iload C0.hx C0.hb dX12_digestOfWord_88 (lv_at hl 3 rfl) ?_
    refine lv_aload_n C0.hx C0.hb dX12_digestOfWord_90 rfl (lv_at hl 0 rfl) ?_
    obtain ⟨hk12, h⟩ := g_if h
    refine gf_X12_7 C0 hW (C0.mem (i := 0) (Nat.le_of_ble_eq_true rfl)) k_0 tf_X12_61 dX12_digestOfWord_91 ?_
    refine gfN_X9_2 C0 hW (C0.mem (kl9 hk12)) hk12 tfN_X12_114 dX12_digestOfWord_94 ?_
    refine lv_icmp_ge (tgt := 123) C0.hx C0.hb dX12_digestOfWord_97 (by decide) (fun hc13 => ?_) (fun hc13 => ?_)
    · replace h := (if_pos hc13).symm.trans h
      refine lv_lload C0.hx C0.hb dX12_digestOfWord_123 (lv_at hl 2 rfl) ?_
      obtain rfl := Option.some.inj h
      exact g_lret C0 hW rfl rfl dX12_digestOfWord_125
    · replace h := (if_neg hc13).symm.trans h
      refine lv_lload C0.hx C0.hb dX12_digestOfWord_100 (lv_at hl 2 rfl) ?_
      refine lv_ldc2 C0.hx C0.hb C0.hown (C0.hts _ tq_X12_235) dX12_digestOfWord_102 ?_
      refine lv_lmul C0.hx C0.hb dX12_digestOfWord_105 ?_
      refine lv_aload_n C0.hx C0.hb dX12_digestOfWord_106 rfl (lv_at hl 0 rfl) ?_
      refine lv_iload_n C0.hx C0.hb dX12_digestOfWord_107 rfl (lv_at hl 1 rfl) ?_
      refine lv_iload C0.hx C0.hb dX12_digestOfWord_108 (lv_at hl 3 rfl) ?_
      obtain ⟨q14, hq14, h⟩ := Option.bind_eq_some_iff.mp h
      refine g_calli hW (g_runV (As := [.int (l3), .int (l6)]) (rest := [.long (l4 * (31 : Int64))]) C0 hW (c_X12_wordsApart hq14) (g_cwOf (n := 2) tc_X12_wordsApart tn_X12 md_X12_wordsApart (by decide) (by omega)) tm_X12_160 ti_X12_wordsApart ts_X12_wordsApart (C0.mem (i := 0) (Nat.le_of_ble_eq_true rfl)) (g_c1 k_0) rfl rfl hl.1 rfl (Nat.le_of_ble_eq_true rfl) dX12_digestOfWord_110) (fun H locs hW => ?_)
      refine lv_i2l C0.hx C0.hb dX12_digestOfWord_113 rfl ?_
      refine lv_ladd C0.hx C0.hb dX12_digestOfWord_114 ?_
      refine lv_lstore (lv' := [(4, .long ((l4 * (31 : Int64)) + q14.1.toInt64)), (0, .ref (g_ad G (0))), (3, .int (l3)), (6, .int (l6))]) C0.hx C0.hb dX12_digestOfWord_115 hl (by decide) rfl (fun ls hl => ?_)
      refine lv_iinc (v := l6 + (1 : Int32)) (lv' := [(6, .int (l6 + (1 : Int32))), (4, .long ((l4 * (31 : Int64)) + q14.1.toInt64)), (0, .ref (g_ad G (0))), (3, .int (l3))]) C0.hx C0.hb dX12_digestOfWord_117 hl (k := 3) rfl rfl (by decide) rfl (fun ls hl => ?_)
      refine lv_goto (tgt := 88) C0.hx C0.hb dX12_digestOfWord_120 (by decide) ?_
      exact ih _ _ _ _ _ _ _ h hW (lv_sub hl [2, 3, 1, 0] rfl)
set_option maxRecDepth 100000 in
set_option maxHeartbeats 4000000 in
theorem w_X12_digestOfWord_69 {p : Program} {l : Launch} {e : Env} {s : State} {m : MethodId} {args : Array Value} {below : List Frame} {meth : Method} {c : Code} {G : GL} {ids : List Nat} {y : MS} {o : Nat → Int32}  {q : Int64 × CS}   (C0 : g_X G ids p s m args meth c cX12_digestOfWord 7 RX12 (Option.some Jvm.ClassFile.FieldType.long))  : ∀  (l3 : Int32) (s0 : Int32) (s1 : Int64) (x : CS) (H : Heap) (locs : List Loc) (ls : Array Slot),  f_X12_digestOfWord_69 l3 s0 s1 x = some q → g_W G ids (x, y, o) s.heap H locs → lv_has ls 7 [(0, .ref (g_ad G (0))), (3, .int (l3))] → W p l e (g_rm 6 0 0) s m args below meth c H locs 0 0 (MQ below (g_Ql G ids q.1 (q.2, y, o)) args s 0 0 (g_A G)) (F0 m 69 ls [.int (s0), .long (s1)]) := by
  intro l3 s0 s1 x H locs ls h hW hl
  unfold f_X12_digestOfWord_69 at h
  refine lv_i2l C0.hx C0.hb dX12_digestOfWord_69 rfl ?_
  refine lv_ladd C0.hx C0.hb dX12_digestOfWord_70 ?_
  refine lv_lstore (lv' := [(4, .long (s1 + s0.toInt64)), (0, .ref (g_ad G (0))), (3, .int (l3))]) C0.hx C0.hb dX12_digestOfWord_71 hl (by decide) rfl (fun ls hl => ?_)
  refine lv_lload C0.hx C0.hb dX12_digestOfWord_73 (lv_at hl 0 rfl) ?_
  refine lv_aload_n C0.hx C0.hb dX12_digestOfWord_75 rfl (lv_at hl 1 rfl) ?_
  refine lv_iload_n C0.hx C0.hb dX12_digestOfWord_76 rfl (lv_at hl 2 rfl) ?_
  obtain ⟨q9, hq9, h⟩ := Option.bind_eq_some_iff.mp h
  obtain ⟨hk10, h⟩ := g_if h
  refine g_callr hW (g_runV (As := [.int (l3)]) (rest := [.long (s1 + s0.toInt64)]) C0 hW (c_X12_rowOf hq9) (g_cwOf (n := 1) tc_X12_rowOf tn_X12 md_X12_rowOf (by decide) (by omega)) tm_X12_132 ti_X12_rowOf ts_X12_rowOf (C0.mem (i := 0) (Nat.le_of_ble_eq_true rfl)) (g_c1 k_0) rfl rfl hl.1 rfl (Nat.le_of_ble_eq_true rfl) dX12_digestOfWord_77) (fun H locs hW => ?_)
  obtain ⟨q11, hq11, h⟩ := Option.bind_eq_some_iff.mp h
  refine g_calll hW (g_runS (As := [.long (s1 + s0.toInt64), .ref (g_ad G (q9))]) (rest := []) C0 hW (c_X12_digestOfRow hk10 hq11) (g_cwOf (n := 2) tc_X12_digestOfRow tn_X12 md_X12_digestOfRow (by decide) (by omega)) tm_X12_241 tz_X12_digestOfRow rfl hl.1 rfl (Nat.le_of_ble_eq_true rfl) dX12_digestOfWord_80) (fun H locs hW => ?_)
  refine lv_lstore (lv' := [(4, .long (q11)), (0, .ref (g_ad G (0))), (3, .int (l3))]) C0.hx C0.hb dX12_digestOfWord_83 hl (by decide) rfl (fun ls hl => ?_)
  refine lv_iconst (v := (0 : Int32)) C0.hx C0.hb dX12_digestOfWord_85 (by decide) ?_
  refine lv_istore (lv' := [(6, .int ((0 : Int32))), (4, .long (q11)), (0, .ref (g_ad G (0))), (3, .int (l3))]) C0.hx C0.hb dX12_digestOfWord_86 hl (by decide) rfl (fun ls hl => ?_)
  exact w_X12_digestOfWord_88 C0 g_fuel _ _ _ _ _ _ _ h hW (lv_sub hl [2, 3, 1, 0] rfl)
set_option maxRecDepth 100000 in
set_option maxHeartbeats 4000000 in
theorem w_X12_digestOfWord_46 {p : Program} {l : Launch} {e : Env} {s : State} {m : MethodId} {args : Array Value} {below : List Frame} {meth : Method} {c : Code} {G : GL} {ids : List Nat} {y : MS} {o : Nat → Int32}  {q : Int64 × CS}   (C0 : g_X G ids p s m args meth c cX12_digestOfWord 7 RX12 (Option.some Jvm.ClassFile.FieldType.long))  : ∀  (l3 : Int32) (s0 : Int32) (s1 : Int64) (x : CS) (H : Heap) (locs : List Loc) (ls : Array Slot),  f_X12_digestOfWord_46 l3 s0 s1 x = some q → g_W G ids (x, y, o) s.heap H locs → lv_has ls 7 [(0, .ref (g_ad G (0))), (3, .int (l3))] → W p l e (g_rm 6 0 0) s m args below meth c H locs 0 0 (MQ below (g_Ql G ids q.1 (q.2, y, o)) args s 0 0 (g_A G)) (F0 m 46 ls [.int (s0), .long (s1)]) := by
  intro l3 s0 s1 x H locs ls h hW hl
  unfold f_X12_digestOfWord_46 at h
  refine lv_i2l C0.hx C0.hb dX12_digestOfWord_46 rfl ?_
  refine lv_ladd C0.hx C0.hb dX12_digestOfWord_47 ?_
  refine lv_lstore (lv' := [(4, .long (s1 + s0.toInt64)), (0, .ref (g_ad G (0))), (3, .int (l3))]) C0.hx C0.hb dX12_digestOfWord_48 hl (by decide) rfl (fun ls hl => ?_)
  refine lv_lload C0.hx C0.hb dX12_digestOfWord_50 (lv_at hl 0 rfl) ?_
  refine lv_ldc2 C0.hx C0.hb C0.hown (C0.hts _ tq_X12_235) dX12_digestOfWord_52 ?_
  refine lv_lmul C0.hx C0.hb dX12_digestOfWord_55 ?_
  refine lv_aload_n C0.hx C0.hb dX12_digestOfWord_56 rfl (lv_at hl 1 rfl) ?_
  refine lv_iload_n C0.hx C0.hb dX12_digestOfWord_57 rfl (lv_at hl 2 rfl) ?_
  obtain ⟨q7, hq7, h⟩ := Option.bind_eq_some_iff.mp h
  refine g_calli hW (g_runV (As := [.int (l3)]) (rest := [.long ((s1 + s0.toInt64) * (31 : Int64))]) C0 hW (c_X12_needless hq7) (g_cwOf (n := 1) tc_X12_needless tn_X12 md_X12_needless (by decide) (by omega)) tm_X12_177 ti_X12_needless ts_X12_needless (C0.mem (i := 0) (Nat.le_of_ble_eq_true rfl)) (g_c1 k_0) rfl rfl hl.1 rfl (Nat.le_of_ble_eq_true rfl) dX12_digestOfWord_58) (fun H locs hW => ?_)
  refine lv_if_eq (tgt := 68) C0.hx C0.hb dX12_digestOfWord_61 (by decide) (fun hc8 => ?_) (fun hc8 => ?_)
  · replace h := (if_pos hc8).symm.trans h
    refine lv_iconst (v := (0 : Int32)) C0.hx C0.hb dX12_digestOfWord_68 (by decide) ?_
    exact w_X12_digestOfWord_69 C0 _ _ _ _ _ _ _ h hW (lv_sub hl [1, 2] rfl)
  · replace h := (if_neg hc8).symm.trans h
    refine lv_iconst (v := (1 : Int32)) C0.hx C0.hb dX12_digestOfWord_64 (by decide) ?_
    refine lv_goto (tgt := 69) C0.hx C0.hb dX12_digestOfWord_65 (by decide) ?_
    exact w_X12_digestOfWord_69 C0 _ _ _ _ _ _ _ h hW (lv_sub hl [1, 2] rfl)
set_option maxRecDepth 100000 in
set_option maxHeartbeats 4000000 in
theorem c_X12_digestOfWord {l : Launch} {G : GL} {ids : List Nat} {y : MS} {o : Nat → Int32} {x : CS} {p1 : Int64} {p2 : Int32} {q : Int64 × CS}    (h : f_X12_digestOfWord p1 p2 x = some q) : Met l yX12_digestOfWord (.code yX12_digestOfWord cX12_digestOfWord 7 (Option.some Jvm.ClassFile.FieldType.long) :: gT) (g_rm 6 0 0) (va_Pc [.ref (g_ad G (0)), .long (p1), .int (p2)] (g_P G ids (x, y, o))) (g_Ql G ids q.1 (q.2, y, o)) 0 0 (g_A G) := by
  unfold f_X12_digestOfWord at h
  refine g_entry (by decide) (Nat.le_of_ble_eq_true rfl) (fun p e s m args below meth c ls C0 hl hW _ => ?_)
  have hl : lv_has ls 7 [(0, .ref (g_ad G (0))), (1, .long (p1)), (3, .int (p2))] := hl
  refine lv_lload_n C0.hx C0.hb dX12_digestOfWord_0 rfl (lv_at hl 1 rfl) ?_
  refine lv_lstore (lv' := [(4, .long (p1)), (0, .ref (g_ad G (0))), (1, .long (p1)), (3, .int (p2))]) C0.hx C0.hb dX12_digestOfWord_1 hl (by decide) rfl (fun ls hl => ?_)
  refine lv_lload C0.hx C0.hb dX12_digestOfWord_3 (lv_at hl 0 rfl) ?_
  refine lv_ldc2 C0.hx C0.hb C0.hown (C0.hts _ tq_X12_235) dX12_digestOfWord_5 ?_
  refine lv_lmul C0.hx C0.hb dX12_digestOfWord_8 ?_
  refine lv_aload_n C0.hx C0.hb dX12_digestOfWord_9 rfl (lv_at hl 1 rfl) ?_
  refine lv_iload_n C0.hx C0.hb dX12_digestOfWord_10 rfl (lv_at hl 3 rfl) ?_
  obtain ⟨q1, hq1, h⟩ := Option.bind_eq_some_iff.mp h
  obtain ⟨hk2, h⟩ := g_if h
  refine g_callr hW (g_runV (As := [.int (p2)]) (rest := [.long (p1 * (31 : Int64))]) C0 hW (c_X12_rowOf hq1) (g_cwOf (n := 1) tc_X12_rowOf tn_X12 md_X12_rowOf (by decide) (by omega)) tm_X12_132 ti_X12_rowOf ts_X12_rowOf (C0.mem (i := 0) (Nat.le_of_ble_eq_true rfl)) (g_c1 k_0) rfl rfl hl.1 rfl (Nat.le_of_ble_eq_true rfl) dX12_digestOfWord_11) (fun H locs hW => ?_)
  refine gfN_X3_1 C0 hW (C0.mem (kl5 hk2)) hk2 tfN_X12_128 dX12_digestOfWord_14 ?_
  refine lv_i2l C0.hx C0.hb dX12_digestOfWord_17 rfl ?_
  refine lv_ladd C0.hx C0.hb dX12_digestOfWord_18 ?_
  refine lv_lstore (lv' := [(4, .long ((p1 * (31 : Int64)) + ((x.1 q1 1).toInt64))), (0, .ref (g_ad G (0))), (1, .long (p1)), (3, .int (p2))]) C0.hx C0.hb dX12_digestOfWord_19 hl (by decide) rfl (fun ls hl => ?_)
  refine lv_lload C0.hx C0.hb dX12_digestOfWord_21 (lv_at hl 0 rfl) ?_
  refine lv_ldc2 C0.hx C0.hb C0.hown (C0.hts _ tq_X12_235) dX12_digestOfWord_23 ?_
  refine lv_lmul C0.hx C0.hb dX12_digestOfWord_26 ?_
  refine lv_aload_n C0.hx C0.hb dX12_digestOfWord_27 rfl (lv_at hl 1 rfl) ?_
  obtain ⟨hk3, h⟩ := g_if h
  refine gf_X12_7 C0 hW (C0.mem (i := 0) (Nat.le_of_ble_eq_true rfl)) k_0 tf_X12_61 dX12_digestOfWord_28 ?_
  refine lv_iload_n C0.hx C0.hb dX12_digestOfWord_31 rfl (lv_at hl 3 rfl) ?_
  obtain ⟨q4, hq4, h⟩ := Option.bind_eq_some_iff.mp h
  obtain ⟨hk5, h⟩ := g_if h
  refine g_callr hW (g_runV (As := [.int (p2)]) (rest := [.long (((p1 * (31 : Int64)) + ((x.1 q1 1).toInt64)) * (31 : Int64))]) C0 hW (c_X9_word hk3 hq4) (g_cwOf (n := 1) tc_X9_word tn_X9 md_X9_word (by decide) (by omega)) tm_X12_147 ti_X9_word ts_X9_word (C0.mem (kl9 hk3)) (g_c9 hk3) rfl rfl hl.1 rfl (Nat.le_of_ble_eq_true rfl) dX12_digestOfWord_32) (fun H locs hW => ?_)
  refine gfN_X11_1 C0 hW (C0.mem (kl10 hk5)) hk5 tfN_X12_151 dX12_digestOfWord_35 ?_
  refine lv_if_eq (tgt := 45) C0.hx C0.hb dX12_digestOfWord_38 (by decide) (fun hc6 => ?_) (fun hc6 => ?_)
  · replace h := (if_pos hc6).symm.trans h
    refine lv_iconst (v := (0 : Int32)) C0.hx C0.hb dX12_digestOfWord_45 (by decide) ?_
    exact w_X12_digestOfWord_46 C0 _ _ _ _ _ _ _ h hW (lv_sub hl [1, 3] rfl)
  · replace h := (if_neg hc6).symm.trans h
    refine lv_iconst (v := (1 : Int32)) C0.hx C0.hb dX12_digestOfWord_41 (by decide) ?_
    refine lv_goto (tgt := 46) C0.hx C0.hb dX12_digestOfWord_42 (by decide) ?_
    exact w_X12_digestOfWord_46 C0 _ _ _ _ _ _ _ h hW (lv_sub hl [1, 3] rfl)
set_option maxRecDepth 100000 in
set_option maxHeartbeats 4000000 in
theorem w_X12_digest_115 {p : Program} {l : Launch} {e : Env} {s : State} {m : MethodId} {args : Array Value} {below : List Frame} {meth : Method} {c : Code} {G : GL} {ids : List Nat} {y : MS} {o : Nat → Int32}  {q : Int64 × CS}   (C0 : g_X G ids p s m args meth c cX12_digest 4 RX12 (Option.some Jvm.ClassFile.FieldType.long))  : ∀ (n : Nat) (l1 : Int64) (l3 : Int32) (x : CS) (H : Heap) (locs : List Loc) (ls : Array Slot),  f_X12_digest_115 n l1 l3 x = some q → g_W G ids (x, y, o) s.heap H locs → lv_has ls 4 [(0, .ref (g_ad G (0))), (1, .long (l1)), (3, .int (l3))] → W p l e (g_rm 7 0 0) s m args below meth c H locs 0 0 (MQ below (g_Ql G ids q.1 (q.2, y, o)) args s 0 0 (g_A G)) (F0 m 115 ls []) := by
  intro n
  induction n with
  | zero =>
    intro l1 l3 x H locs ls h hW hl
    exact absurd h (by simp [f_X12_digest_115])
  | succ n ih =>
    intro l1 l3 x H locs ls h hW hl
    unfold f_X12_digest_115 at h
    refine lv_iload_n C0.hx C0.hb dX12_digest_115 rfl (lv_at hl 2 rfl) ?_
    refine lv_aload_n C0.hx C0.hb dX12_digest_116 rfl (lv_at hl 0 rfl) ?_
    obtain ⟨hk5, h⟩ := g_if h
    refine gf_X12_7 C0 hW (C0.mem (i := 0) (Nat.le_of_ble_eq_true rfl)) k_0 tf_X12_61 dX12_digest_117 ?_
    refine gfN_X9_2 C0 hW (C0.mem (kl9 hk5)) hk5 tfN_X12_114 dX12_digest_120 ?_
    refine lv_icmp_ge (tgt := 139) C0.hx C0.hb dX12_digest_123 (by decide) (fun hc6 => ?_) (fun hc6 => ?_)
    · replace h := (if_pos hc6).symm.trans h
      refine lv_lload_n C0.hx C0.hb dX12_digest_139 rfl (lv_at hl 1 rfl) ?_
      refine lv_aload_n C0.hx C0.hb dX12_digest_140 rfl (lv_at hl 0 rfl) ?_
      refine gf_X12_3 C0 hW (C0.mem (i := 0) (Nat.le_of_ble_eq_true rfl)) k_0 tf_X12_35 dX12_digest_141 ?_
      obtain ⟨q7, hq7, h⟩ := Option.bind_eq_some_iff.mp h
      refine g_calll hW (g_runS (As := [.long (l1), .ref (g_ad G (14))]) (rest := []) C0 hW (c_X12_digestOfRow k_14 hq7) (g_cwOf (n := 2) tc_X12_digestOfRow tn_X12 md_X12_digestOfRow (by decide) (by omega)) tm_X12_241 tz_X12_digestOfRow rfl hl.1 rfl (Nat.le_of_ble_eq_true rfl) dX12_digest_144) (fun H locs hW => ?_)
      obtain rfl := Option.some.inj h
      exact g_lret C0 hW rfl rfl dX12_digest_147
    · replace h := (if_neg hc6).symm.trans h
      refine lv_aload_n C0.hx C0.hb dX12_digest_126 rfl (lv_at hl 0 rfl) ?_
      refine lv_lload_n C0.hx C0.hb dX12_digest_127 rfl (lv_at hl 1 rfl) ?_
      refine lv_iload_n C0.hx C0.hb dX12_digest_128 rfl (lv_at hl 2 rfl) ?_
      obtain ⟨q8, hq8, h⟩ := Option.bind_eq_some_iff.mp h
      refine g_calll hW (g_runV (As := [.long (l1), .int (l3)]) (rest := []) C0 hW (c_X12_digestOfWord hq8) (g_cwOf (n := 2) tc_X12_digestOfWord tn_X12 md_X12_digestOfWord (by decide) (by omega)) tm_X12_237 ti_X12_digestOfWord ts_X12_digestOfWord (C0.mem (i := 0) (Nat.le_of_ble_eq_true rfl)) (g_c1 k_0) rfl rfl hl.1 rfl (Nat.le_of_ble_eq_true rfl) dX12_digest_129) (fun H locs hW => ?_)
      refine lv_lstore_n (lv' := [(1, .long (q8.1)), (0, .ref (g_ad G (0))), (3, .int (l3))]) C0.hx C0.hb dX12_digest_132 rfl hl (by decide) rfl (fun ls hl => ?_)
      refine lv_iinc (v := l3 + (1 : Int32)) (lv' := [(3, .int (l3 + (1 : Int32))), (1, .long (q8.1)), (0, .ref (g_ad G (0)))]) C0.hx C0.hb dX12_digest_133 hl (k := 2) rfl rfl (by decide) rfl (fun ls hl => ?_)
      refine lv_goto (tgt := 115) C0.hx C0.hb dX12_digest_136 (by decide) ?_
      exact ih _ _ _ _ _ _ h hW (lv_sub hl [2, 1, 0] rfl)
set_option maxRecDepth 100000 in
set_option maxHeartbeats 4000000 in
theorem c_X12_digest {l : Launch} {G : GL} {ids : List Nat} {y : MS} {o : Nat → Int32} {x : CS}  {q : Int64 × CS}    (h : f_X12_digest x = some q) : Met l yX12_digest (.code yX12_digest cX12_digest 4 (Option.some Jvm.ClassFile.FieldType.long) :: gT) (g_rm 7 0 0) (va_Pc [.ref (g_ad G (0))] (g_P G ids (x, y, o))) (g_Ql G ids q.1 (q.2, y, o)) 0 0 (g_A G) := by
  unfold f_X12_digest at h
  refine g_entry (by decide) (Nat.le_of_ble_eq_true rfl) (fun p e s m args below meth c ls C0 hl hW _ => ?_)
  have hl : lv_has ls 4 [(0, .ref (g_ad G (0)))] := hl
  refine lv_ldc2 C0.hx C0.hb C0.hown (C0.hts _ tq_X12_233) dX12_digest_0 ?_
  refine lv_lstore_n (lv' := [(1, .long ((1019 : Int64))), (0, .ref (g_ad G (0)))]) C0.hx C0.hb dX12_digest_3 rfl hl (by decide) rfl (fun ls hl => ?_)
  refine lv_lload_n C0.hx C0.hb dX12_digest_4 rfl (lv_at hl 0 rfl) ?_
  refine lv_ldc2 C0.hx C0.hb C0.hown (C0.hts _ tq_X12_235) dX12_digest_5 ?_
  refine lv_lmul C0.hx C0.hb dX12_digest_8 ?_
  refine lv_aload_n C0.hx C0.hb dX12_digest_9 rfl (lv_at hl 1 rfl) ?_
  obtain ⟨hk1, h⟩ := g_if h
  refine gf_X12_7 C0 hW (C0.mem (i := 0) (Nat.le_of_ble_eq_true rfl)) k_0 tf_X12_61 dX12_digest_10 ?_
  refine gfN_X9_2 C0 hW (C0.mem (kl9 hk1)) hk1 tfN_X12_114 dX12_digest_13 ?_
  refine lv_i2l C0.hx C0.hb dX12_digest_16 rfl ?_
  refine lv_ladd C0.hx C0.hb dX12_digest_17 ?_
  refine lv_lstore_n (lv' := [(1, .long (((1019 : Int64) * (31 : Int64)) + ((x.1 (x.2 0 7) 2).toInt64))), (0, .ref (g_ad G (0)))]) C0.hx C0.hb dX12_digest_18 rfl hl (by decide) rfl (fun ls hl => ?_)
  refine lv_lload_n C0.hx C0.hb dX12_digest_19 rfl (lv_at hl 0 rfl) ?_
  refine lv_ldc2 C0.hx C0.hb C0.hown (C0.hts _ tq_X12_235) dX12_digest_20 ?_
  refine lv_lmul C0.hx C0.hb dX12_digest_23 ?_
  refine lv_aload_n C0.hx C0.hb dX12_digest_24 rfl (lv_at hl 1 rfl) ?_
  refine gf_X12_7 C0 hW (C0.mem (i := 0) (Nat.le_of_ble_eq_true rfl)) k_0 tf_X12_61 dX12_digest_25 ?_
  obtain ⟨q2, hq2, h⟩ := Option.bind_eq_some_iff.mp h
  refine g_calli hW (g_runV (As := []) (rest := [.long ((((1019 : Int64) * (31 : Int64)) + ((x.1 (x.2 0 7) 2).toInt64)) * (31 : Int64))]) C0 hW (c_X9_countKept hk1 hq2) (g_cwOf (n := 0) tc_X9_countKept tn_X9 md_X9_countKept (by decide) (by omega)) tm_X12_117 ti_X9_countKept ts_X9_countKept (C0.mem (kl9 hk1)) (g_c9 hk1) rfl rfl hl.1 rfl (Nat.le_of_ble_eq_true rfl) dX12_digest_28) (fun H locs hW => ?_)
  refine lv_i2l C0.hx C0.hb dX12_digest_31 rfl ?_
  refine lv_ladd C0.hx C0.hb dX12_digest_32 ?_
  refine lv_lstore_n (lv' := [(1, .long (((((1019 : Int64) * (31 : Int64)) + ((x.1 (x.2 0 7) 2).toInt64)) * (31 : Int64)) + q2.toInt64)), (0, .ref (g_ad G (0)))]) C0.hx C0.hb dX12_digest_33 rfl hl (by decide) rfl (fun ls hl => ?_)
  refine lv_lload_n C0.hx C0.hb dX12_digest_34 rfl (lv_at hl 0 rfl) ?_
  refine lv_ldc2 C0.hx C0.hb C0.hown (C0.hts _ tq_X12_235) dX12_digest_35 ?_
  refine lv_lmul C0.hx C0.hb dX12_digest_38 ?_
  refine lv_aload_n C0.hx C0.hb dX12_digest_39 rfl (lv_at hl 1 rfl) ?_
  obtain ⟨hk3, h⟩ := g_if h
  refine gf_X12_6 C0 hW (C0.mem (i := 0) (Nat.le_of_ble_eq_true rfl)) k_0 tf_X12_54 dX12_digest_40 ?_
  refine gfN_X5_4 C0 hW (C0.mem (kl7 hk3)) hk3 tfN_X12_121 dX12_digest_43 ?_
  refine lv_i2l C0.hx C0.hb dX12_digest_46 rfl ?_
  refine lv_ladd C0.hx C0.hb dX12_digest_47 ?_
  refine lv_lstore_n (lv' := [(1, .long (((((((1019 : Int64) * (31 : Int64)) + ((x.1 (x.2 0 7) 2).toInt64)) * (31 : Int64)) + q2.toInt64) * (31 : Int64)) + ((x.1 (x.2 0 6) 4).toInt64))), (0, .ref (g_ad G (0)))]) C0.hx C0.hb dX12_digest_48 rfl hl (by decide) rfl (fun ls hl => ?_)
  refine lv_lload_n C0.hx C0.hb dX12_digest_49 rfl (lv_at hl 0 rfl) ?_
  refine lv_ldc2 C0.hx C0.hb C0.hown (C0.hts _ tq_X12_235) dX12_digest_50 ?_
  refine lv_lmul C0.hx C0.hb dX12_digest_53 ?_
  refine lv_aload_n C0.hx C0.hb dX12_digest_54 rfl (lv_at hl 1 rfl) ?_
  refine gf_X12_7 C0 hW (C0.mem (i := 0) (Nat.le_of_ble_eq_true rfl)) k_0 tf_X12_61 dX12_digest_55 ?_
  refine gfN_X9_3 C0 hW (C0.mem (kl9 hk1)) hk1 tfN_X12_122 dX12_digest_58 ?_
  refine lv_i2l C0.hx C0.hb dX12_digest_61 rfl ?_
  refine lv_ladd C0.hx C0.hb dX12_digest_62 ?_
  refine lv_lstore_n (lv' := [(1, .long (((((((((1019 : Int64) * (31 : Int64)) + ((x.1 (x.2 0 7) 2).toInt64)) * (31 : Int64)) + q2.toInt64) * (31 : Int64)) + ((x.1 (x.2 0 6) 4).toInt64)) * (31 : Int64)) + ((x.1 (x.2 0 7) 3).toInt64))), (0, .ref (g_ad G (0)))]) C0.hx C0.hb dX12_digest_63 rfl hl (by decide) rfl (fun ls hl => ?_)
  refine lv_lload_n C0.hx C0.hb dX12_digest_64 rfl (lv_at hl 0 rfl) ?_
  refine lv_ldc2 C0.hx C0.hb C0.hown (C0.hts _ tq_X12_235) dX12_digest_65 ?_
  refine lv_lmul C0.hx C0.hb dX12_digest_68 ?_
  refine lv_aload_n C0.hx C0.hb dX12_digest_69 rfl (lv_at hl 1 rfl) ?_
  refine gf_X12_7 C0 hW (C0.mem (i := 0) (Nat.le_of_ble_eq_true rfl)) k_0 tf_X12_61 dX12_digest_70 ?_
  refine gfN_X9_4 C0 hW (C0.mem (kl9 hk1)) hk1 tfN_X12_125 dX12_digest_73 ?_
  refine lv_i2l C0.hx C0.hb dX12_digest_76 rfl ?_
  refine lv_ladd C0.hx C0.hb dX12_digest_77 ?_
  refine lv_lstore_n (lv' := [(1, .long (((((((((((1019 : Int64) * (31 : Int64)) + ((x.1 (x.2 0 7) 2).toInt64)) * (31 : Int64)) + q2.toInt64) * (31 : Int64)) + ((x.1 (x.2 0 6) 4).toInt64)) * (31 : Int64)) + ((x.1 (x.2 0 7) 3).toInt64)) * (31 : Int64)) + ((x.1 (x.2 0 7) 4).toInt64))), (0, .ref (g_ad G (0)))]) C0.hx C0.hb dX12_digest_78 rfl hl (by decide) rfl (fun ls hl => ?_)
  refine lv_lload_n C0.hx C0.hb dX12_digest_79 rfl (lv_at hl 0 rfl) ?_
  refine lv_ldc2 C0.hx C0.hb C0.hown (C0.hts _ tq_X12_235) dX12_digest_80 ?_
  refine lv_lmul C0.hx C0.hb dX12_digest_83 ?_
  refine lv_aload_n C0.hx C0.hb dX12_digest_84 rfl (lv_at hl 1 rfl) ?_
  refine gf_X12_3 C0 hW (C0.mem (i := 0) (Nat.le_of_ble_eq_true rfl)) k_0 tf_X12_35 dX12_digest_85 ?_
  refine gfN_X3_1 C0 hW (C0.mem (i := 14) (Nat.le_of_ble_eq_true rfl)) k_14 tfN_X12_128 dX12_digest_88 ?_
  refine lv_i2l C0.hx C0.hb dX12_digest_91 rfl ?_
  refine lv_ladd C0.hx C0.hb dX12_digest_92 ?_
  refine lv_lstore_n (lv' := [(1, .long (((((((((((((1019 : Int64) * (31 : Int64)) + ((x.1 (x.2 0 7) 2).toInt64)) * (31 : Int64)) + q2.toInt64) * (31 : Int64)) + ((x.1 (x.2 0 6) 4).toInt64)) * (31 : Int64)) + ((x.1 (x.2 0 7) 3).toInt64)) * (31 : Int64)) + ((x.1 (x.2 0 7) 4).toInt64)) * (31 : Int64)) + ((x.1 14 1).toInt64))), (0, .ref (g_ad G (0)))]) C0.hx C0.hb dX12_digest_93 rfl hl (by decide) rfl (fun ls hl => ?_)
  refine lv_lload_n C0.hx C0.hb dX12_digest_94 rfl (lv_at hl 0 rfl) ?_
  refine lv_ldc2 C0.hx C0.hb C0.hown (C0.hts _ tq_X12_235) dX12_digest_95 ?_
  refine lv_lmul C0.hx C0.hb dX12_digest_98 ?_
  refine lv_aload_n C0.hx C0.hb dX12_digest_99 rfl (lv_at hl 1 rfl) ?_
  refine gf_X12_5 C0 hW (C0.mem (i := 0) (Nat.le_of_ble_eq_true rfl)) k_0 tf_X12_47 dX12_digest_100 ?_
  refine lv_aload_n C0.hx C0.hb dX12_digest_103 rfl (lv_at hl 1 rfl) ?_
  refine gf_X12_7 C0 hW (C0.mem (i := 0) (Nat.le_of_ble_eq_true rfl)) k_0 tf_X12_61 dX12_digest_104 ?_
  obtain ⟨q4, hq4, h⟩ := Option.bind_eq_some_iff.mp h
  refine g_calli hW (g_runV (As := [.ref (g_ad G (x.2 0 7))]) (rest := [.long ((((((((((((((1019 : Int64) * (31 : Int64)) + ((x.1 (x.2 0 7) 2).toInt64)) * (31 : Int64)) + q2.toInt64) * (31 : Int64)) + ((x.1 (x.2 0 6) 4).toInt64)) * (31 : Int64)) + ((x.1 (x.2 0 7) 3).toInt64)) * (31 : Int64)) + ((x.1 (x.2 0 7) 4).toInt64)) * (31 : Int64)) + ((x.1 14 1).toInt64)) * (31 : Int64))]) C0 hW (c_X1_meantOf hk1 hq4) (g_cwOf (n := 1) tc_X1_meantOf tn_X1 md_X1_meantOf (by decide) (by omega)) tm_X12_190 ti_X1_meantOf ts_X1_meantOf (C0.mem (i := 18) (Nat.le_of_ble_eq_true rfl)) (g_c6 k_18) rfl rfl hl.1 rfl (Nat.le_of_ble_eq_true rfl) dX12_digest_107) (fun H locs hW => ?_)
  refine lv_i2l C0.hx C0.hb dX12_digest_110 rfl ?_
  refine lv_ladd C0.hx C0.hb dX12_digest_111 ?_
  refine lv_lstore_n (lv' := [(1, .long (((((((((((((((1019 : Int64) * (31 : Int64)) + ((x.1 (x.2 0 7) 2).toInt64)) * (31 : Int64)) + q2.toInt64) * (31 : Int64)) + ((x.1 (x.2 0 6) 4).toInt64)) * (31 : Int64)) + ((x.1 (x.2 0 7) 3).toInt64)) * (31 : Int64)) + ((x.1 (x.2 0 7) 4).toInt64)) * (31 : Int64)) + ((x.1 14 1).toInt64)) * (31 : Int64)) + q4.toInt64)), (0, .ref (g_ad G (0)))]) C0.hx C0.hb dX12_digest_112 rfl hl (by decide) rfl (fun ls hl => ?_)
  refine lv_iconst (v := (0 : Int32)) C0.hx C0.hb dX12_digest_113 (by decide) ?_
  refine lv_istore_n (lv' := [(3, .int ((0 : Int32))), (1, .long (((((((((((((((1019 : Int64) * (31 : Int64)) + ((x.1 (x.2 0 7) 2).toInt64)) * (31 : Int64)) + q2.toInt64) * (31 : Int64)) + ((x.1 (x.2 0 6) 4).toInt64)) * (31 : Int64)) + ((x.1 (x.2 0 7) 3).toInt64)) * (31 : Int64)) + ((x.1 (x.2 0 7) 4).toInt64)) * (31 : Int64)) + ((x.1 14 1).toInt64)) * (31 : Int64)) + q4.toInt64)), (0, .ref (g_ad G (0)))]) C0.hx C0.hb dX12_digest_114 rfl hl (by decide) rfl (fun ls hl => ?_)
  exact w_X12_digest_115 C0 g_fuel _ _ _ _ _ _ h hW (lv_sub hl [2, 1, 0] rfl)
set_option maxRecDepth 100000 in
set_option maxHeartbeats 4000000 in
theorem c_X12_beginAnew {l : Launch} {G : GL} {ids : List Nat} {y : MS} {o : Nat → Int32} {x : CS}  {q : CS}    (h : f_X12_beginAnew x = some q) : Met l yX12_beginAnew (.code yX12_beginAnew cX12_beginAnew 3 (Option.none : Option Jvm.ClassFile.FieldType) :: gT) (g_rm 0 0 0) (va_Pc [.ref (g_ad G (0))] (g_P G ids (x, y, o))) (g_Qv G ids (q, y, o)) 0 0 (g_A G) := by
  unfold f_X12_beginAnew at h
  refine g_entry (by decide) (Nat.le_of_ble_eq_true rfl) (fun p e s m args below meth c ls C0 hl hW _ => ?_)
  have hl : lv_has ls 3 [(0, .ref (g_ad G (0)))] := hl
  refine lv_aload_n C0.hx C0.hb dX12_beginAnew_0 rfl (lv_at hl 0 rfl) ?_
  obtain ⟨hk1, h⟩ := g_if h
  refine gf_X12_6 C0 hW (C0.mem (i := 0) (Nat.le_of_ble_eq_true rfl)) k_0 tf_X12_54 dX12_beginAnew_1 ?_
  refine lv_astore_n (lv' := [(1, .ref (g_ad G (x.2 0 6))), (0, .ref (g_ad G (0)))]) C0.hx C0.hb dX12_beginAnew_4 rfl hl (by decide) rfl (fun ls hl => ?_)
  refine lv_aload_n C0.hx C0.hb dX12_beginAnew_5 rfl (lv_at hl 1 rfl) ?_
  refine lv_aload_n C0.hx C0.hb dX12_beginAnew_6 rfl (lv_at hl 1 rfl) ?_
  obtain ⟨hk2, h⟩ := g_if h
  refine gf_X12_8 C0 hW (C0.mem (i := 0) (Nat.le_of_ble_eq_true rfl)) k_0 tf_X12_65 dX12_beginAnew_7 ?_
  refine gp_X12_6 C0 hW (C0.mem (i := 0) (Nat.le_of_ble_eq_true rfl)) k_0 tf_X12_54 dX12_beginAnew_10 (fun H locs hW => ?_)
  refine lv_aload_n C0.hx C0.hb dX12_beginAnew_13 rfl (lv_at hl 1 rfl) ?_
  refine lv_aload_n C0.hx C0.hb dX12_beginAnew_14 rfl (lv_at hl 0 rfl) ?_
  refine gp_X12_8 C0 hW (C0.mem (i := 0) (Nat.le_of_ble_eq_true rfl)) k_0 tf_X12_65 dX12_beginAnew_15 (fun H locs hW => ?_)
  refine lv_aload_n C0.hx C0.hb dX12_beginAnew_18 rfl (lv_at hl 1 rfl) ?_
  obtain ⟨hk3, h⟩ := g_if h
  refine gf_X12_7 C0 hW (C0.mem (i := 0) (Nat.le_of_ble_eq_true rfl)) k_0 tf_X12_61 dX12_beginAnew_19 ?_
  refine lv_astore_n (lv' := [(2, .ref (g_ad G ((g_wr (g_wr x 0 6 (x.2 0 8)) 0 8 (x.2 0 6)).2 0 7))), (1, .ref (g_ad G (x.2 0 6))), (0, .ref (g_ad G (0)))]) C0.hx C0.hb dX12_beginAnew_22 rfl hl (by decide) rfl (fun ls hl => ?_)
  refine lv_aload_n C0.hx C0.hb dX12_beginAnew_23 rfl (lv_at hl 2 rfl) ?_
  refine lv_aload_n C0.hx C0.hb dX12_beginAnew_24 rfl (lv_at hl 2 rfl) ?_
  obtain ⟨hk4, h⟩ := g_if h
  refine gf_X12_9 C0 hW (C0.mem (i := 0) (Nat.le_of_ble_eq_true rfl)) k_0 tf_X12_68 dX12_beginAnew_25 ?_
  refine gp_X12_7 C0 hW (C0.mem (i := 0) (Nat.le_of_ble_eq_true rfl)) k_0 tf_X12_61 dX12_beginAnew_28 (fun H locs hW => ?_)
  refine lv_aload_n C0.hx C0.hb dX12_beginAnew_31 rfl (lv_at hl 2 rfl) ?_
  refine lv_aload_n C0.hx C0.hb dX12_beginAnew_32 rfl (lv_at hl 0 rfl) ?_
  refine gp_X12_9 C0 hW (C0.mem (i := 0) (Nat.le_of_ble_eq_true rfl)) k_0 tf_X12_68 dX12_beginAnew_33 (fun H locs hW => ?_)
  refine lv_aload_n C0.hx C0.hb dX12_beginAnew_36 rfl (lv_at hl 2 rfl) ?_
  refine gf_X12_3 C0 hW (C0.mem (i := 0) (Nat.le_of_ble_eq_true rfl)) k_0 tf_X12_35 dX12_beginAnew_37 ?_
  refine lv_iconst (v := (0 : Int32)) C0.hx C0.hb dX12_beginAnew_40 (by decide) ?_
  refine gpN_X3_1 C0 hW (C0.mem (i := 14) (Nat.le_of_ble_eq_true rfl)) k_14 tfN_X12_128 dX12_beginAnew_41 (fun H locs hW => ?_)
  obtain rfl := Option.some.inj h
  exact g_vret C0 hW rfl dX12_beginAnew_44
