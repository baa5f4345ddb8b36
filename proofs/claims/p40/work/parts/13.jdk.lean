set_option maxRecDepth 100000 in
set_option maxHeartbeats 4000000 in
theorem c_J0_coder_7d493 {l : Launch} {G : GL} {ids : List Nat} {x : CS} {y : MS} {o : Nat → Int32}  {t : Nat} {q : Int32}    (h : f_J0_coder_7d493 t = some q) : Met l yJ0_coder_7d493 (.code yJ0_coder_7d493 cJ0_coder_7d493 1 (Option.some Jvm.ClassFile.FieldType.byte) :: gT) (g_rm 0 0 0) (va_Pc [.ref (g_sK G (t))] (g_P G ids (x, y, o))) (g_Qi G ids q (x, y, o)) 0 0 (g_A G) := by
  unfold f_J0_coder_7d493 at h
  refine g_entry (by decide) (Nat.le_of_ble_eq_true rfl) (fun p e s m args below meth c ls C0 hl hW _ => ?_)
  have hl : lv_has ls 1 [(0, .ref (g_sK G (t)))] := hl
  refine g_compact C0 hW tf_J0_38 dJ0_coder_7d493_0 ?_
  refine lv_if_eq (tgt := 13) C0.hx C0.hb dJ0_coder_7d493_3 (by decide) (fun hc1 => ?_) (fun hc1 => ?_)
  · replace h := (if_pos hc1).symm.trans h
    refine lv_iconst (v := (1 : Int32)) C0.hx C0.hb dJ0_coder_7d493_13 (by decide) ?_
    obtain rfl := Option.some.inj h
    exact g_iret C0 hW rfl (by decide) rfl dJ0_coder_7d493_14
  · replace h := (if_neg hc1).symm.trans h
    refine lv_aload_n C0.hx C0.hb dJ0_coder_7d493_6 rfl (lv_at hl 0 rfl) ?_
    obtain ⟨hs2, h⟩ := g_if h
    refine g_scod C0 hW hs2 tf_J0_15 dJ0_coder_7d493_7 ?_
    refine lv_goto (tgt := 14) C0.hx C0.hb dJ0_coder_7d493_10 (by decide) ?_
    obtain rfl := Option.some.inj h
    exact g_iret C0 hW rfl (by decide) rfl dJ0_coder_7d493_14
set_option maxRecDepth 100000 in
set_option maxHeartbeats 4000000 in
theorem c_J0_length_8abf5 {l : Launch} {G : GL} {ids : List Nat} {x : CS} {y : MS} {o : Nat → Int32}  {t : Nat} {q : Int32}    (h : f_J0_length_8abf5 t = some q) : Met l yJ0_length_8abf5 (.code yJ0_length_8abf5 cJ0_length_8abf5 1 (Option.some Jvm.ClassFile.FieldType.int) :: gT) (g_rm 1 0 0) (va_Pc [.ref (g_sK G (t))] (g_P G ids (x, y, o))) (g_Qi G ids q (x, y, o)) 0 0 (g_A G) := by
  unfold f_J0_length_8abf5 at h
  refine g_entry (by decide) (Nat.le_of_ble_eq_true rfl) (fun p e s m args below meth c ls C0 hl hW _ => ?_)
  have hl : lv_has ls 1 [(0, .ref (g_sK G (t)))] := hl
  refine lv_aload_n C0.hx C0.hb dJ0_length_8abf5_0 rfl (lv_at hl 0 rfl) ?_
  obtain ⟨hs1, h⟩ := g_if h
  refine g_sval C0 hW hs1 tf_J0_9 dJ0_length_8abf5_1 ?_
  obtain ⟨hs2, h⟩ := g_if h
  refine g_slen C0 hW hs2 dJ0_length_8abf5_4 ?_
  refine lv_aload_n C0.hx C0.hb dJ0_length_8abf5_5 rfl (lv_at hl 0 rfl) ?_
  obtain ⟨hs4, h⟩ := g_if h
  obtain ⟨q3, hq3, h⟩ := Option.bind_eq_some_iff.mp h
  refine g_calli hW (g_runR (As := []) (rest := [.int (nI (g_len.getD t 0))]) C0 hW (c_J0_coder_7d493 hq3) (g_cwOf (n := 0) tc_J0_coder_7d493 tn_J0 md_J0_coder_7d493 (by decide) (by omega)) tm_J0_335 ti_J0_coder_7d493 ts_J0_coder_7d493 (g_srecv C0 hW hs4) rfl hl.1 rfl (Nat.le_of_ble_eq_true rfl) dJ0_length_8abf5_6) (fun H locs hW => ?_)
  refine lv_ishr C0.hx C0.hb dJ0_length_8abf5_9 ?_
  obtain rfl := Option.some.inj h
  exact g_iret C0 hW rfl rfl rfl dJ0_length_8abf5_10
set_option maxRecDepth 100000 in
set_option maxHeartbeats 4000000 in
theorem c_J0_isLatin1_aae02 {l : Launch} {G : GL} {ids : List Nat} {x : CS} {y : MS} {o : Nat → Int32}  {t : Nat} {q : Int32}    (h : f_J0_isLatin1_aae02 t = some q) : Met l yJ0_isLatin1_aae02 (.code yJ0_isLatin1_aae02 cJ0_isLatin1_aae02 1 (Option.some Jvm.ClassFile.FieldType.boolean) :: gT) (g_rm 0 0 0) (va_Pc [.ref (g_sK G (t))] (g_P G ids (x, y, o))) (g_Qi G ids q (x, y, o)) 0 0 (g_A G) := by
  unfold f_J0_isLatin1_aae02 at h
  refine g_entry (by decide) (Nat.le_of_ble_eq_true rfl) (fun p e s m args below meth c ls C0 hl hW _ => ?_)
  have hl : lv_has ls 1 [(0, .ref (g_sK G (t)))] := hl
  refine g_compact C0 hW tf_J0_38 dJ0_isLatin1_aae02_0 ?_
  refine lv_if_eq (tgt := 17) C0.hx C0.hb dJ0_isLatin1_aae02_3 (by decide) (fun hc1 => ?_) (fun hc1 => ?_)
  · replace h := (if_pos hc1).symm.trans h
    refine lv_iconst (v := (0 : Int32)) C0.hx C0.hb dJ0_isLatin1_aae02_17 (by decide) ?_
    obtain rfl := Option.some.inj h
    exact g_iret C0 hW rfl (g_bool (Or.inl rfl)).1 rfl dJ0_isLatin1_aae02_18
  · replace h := (if_neg hc1).symm.trans h
    refine lv_aload_n C0.hx C0.hb dJ0_isLatin1_aae02_6 rfl (lv_at hl 0 rfl) ?_
    obtain ⟨hs2, h⟩ := g_if h
    refine g_scod C0 hW hs2 tf_J0_15 dJ0_isLatin1_aae02_7 ?_
    refine lv_if_ne (tgt := 17) C0.hx C0.hb dJ0_isLatin1_aae02_10 (by decide) (fun hc3 => ?_) (fun hc3 => ?_)
    · replace h := (if_neg hc3).symm.trans h
      refine lv_iconst (v := (0 : Int32)) C0.hx C0.hb dJ0_isLatin1_aae02_17 (by decide) ?_
      obtain rfl := Option.some.inj h
      exact g_iret C0 hW rfl (g_bool (Or.inl rfl)).1 rfl dJ0_isLatin1_aae02_18
    · replace h := (if_pos hc3).symm.trans h
      refine lv_iconst (v := (1 : Int32)) C0.hx C0.hb dJ0_isLatin1_aae02_13 (by decide) ?_
      refine lv_goto (tgt := 18) C0.hx C0.hb dJ0_isLatin1_aae02_14 (by decide) ?_
      obtain rfl := Option.some.inj h
      exact g_iret C0 hW rfl (g_bool (Or.inr rfl)).1 rfl dJ0_isLatin1_aae02_18
set_option maxRecDepth 100000 in
set_option maxHeartbeats 4000000 in
theorem c_J1_charAt_3b067 {l : Launch} {G : GL} {ids : List Nat} {x : CS} {y : MS} {o : Nat → Int32}  {p1 : Nat} {p2 : Int32} {q : Int32}    (h : f_J1_charAt_3b067 p1 p2 = some q) : Met l yJ1_charAt_3b067 (.code yJ1_charAt_3b067 cJ1_charAt_3b067 2 (Option.some Jvm.ClassFile.FieldType.char) :: gT) (g_rm 8 0 0) (va_Pc [.ref (g_sV G (p1)), .int (p2)] (g_P G ids (x, y, o))) (g_Qi G ids q (x, y, o)) 0 0 (g_A G) := by
  unfold f_J1_charAt_3b067 at h
  refine g_entry (by decide) (Nat.le_of_ble_eq_true rfl) (fun p e s m args below meth c ls C0 hl hW _ => ?_)
  have hl : lv_has ls 2 [(0, .ref (g_sV G (p1))), (1, .int (p2))] := hl
  refine lv_iload_n C0.hx C0.hb dJ1_charAt_3b067_0 rfl (lv_at hl 1 rfl) ?_
  refine lv_aload_n C0.hx C0.hb dJ1_charAt_3b067_1 rfl (lv_at hl 0 rfl) ?_
  obtain ⟨hs1, h⟩ := g_if h
  refine g_slen C0 hW hs1 dJ1_charAt_3b067_2 ?_
  obtain ⟨hn2, h⟩ := g_if h
  obtain ⟨hn3, h⟩ := g_if h
  refine g_callv hW (g_runS (As := [.int (p2), .int (nI (g_len.getD p1 0))]) (rest := []) C0 hW (c_J0_checkIndex_df160 hn2 hn3) (g_cwOf (n := 2) tc_J0_checkIndex_df160 tn_J0 md_J0_checkIndex_df160 (by decide) (by omega)) tm_J1_9 tz_J0_checkIndex_df160 rfl hl.1 rfl (Nat.le_of_ble_eq_true rfl) dJ1_charAt_3b067_3) (fun H locs hW => ?_)
  refine lv_aload_n C0.hx C0.hb dJ1_charAt_3b067_6 rfl (lv_at hl 0 rfl) ?_
  refine lv_iload_n C0.hx C0.hb dJ1_charAt_3b067_7 rfl (lv_at hl 1 rfl) ?_
  obtain ⟨hs5, h⟩ := g_if h
  obtain ⟨hb4, h⟩ := g_if h
  refine g_sat C0 hW hs5 hb4 dJ1_charAt_3b067_8 ?_
  refine lv_sipush (v := (255 : Int32)) C0.hx C0.hb dJ1_charAt_3b067_9 (by decide) ?_
  refine lv_iand C0.hx C0.hb dJ1_charAt_3b067_12 ?_
  refine lv_i2c C0.hx C0.hb dJ1_charAt_3b067_13 rfl ?_
  obtain rfl := Option.some.inj h
  exact g_iret C0 hW rfl (pk_nc _) rfl dJ1_charAt_3b067_14
set_option maxRecDepth 100000 in
set_option maxHeartbeats 4000000 in
theorem c_J0_charAt_5068e {l : Launch} {G : GL} {ids : List Nat} {x : CS} {y : MS} {o : Nat → Int32}  {t : Nat} {p1 : Int32} {q : Int32}    (h : f_J0_charAt_5068e t p1 = some q) : Met l yJ0_charAt_5068e (.code yJ0_charAt_5068e cJ0_charAt_5068e 2 (Option.some Jvm.ClassFile.FieldType.char) :: gT) (g_rm 10 0 0) (va_Pc [.ref (g_sK G (t)), .int (p1)] (g_P G ids (x, y, o))) (g_Qi G ids q (x, y, o)) 0 0 (g_A G) := by
  unfold f_J0_charAt_5068e at h
  refine g_entry (by decide) (Nat.le_of_ble_eq_true rfl) (fun p e s m args below meth c ls C0 hl hW _ => ?_)
  have hl : lv_has ls 2 [(0, .ref (g_sK G (t))), (1, .int (p1))] := hl
  refine lv_aload_n C0.hx C0.hb dJ0_charAt_5068e_0 rfl (lv_at hl 0 rfl) ?_
  obtain ⟨hs7, h⟩ := g_if h
  obtain ⟨q1, hq1, h⟩ := Option.bind_eq_some_iff.mp h
  refine g_calli hW (g_runR (As := []) (rest := []) C0 hW (c_J0_isLatin1_aae02 hq1) (g_cwOf (n := 0) tc_J0_isLatin1_aae02 tn_J0 md_J0_isLatin1_aae02 (by decide) (by omega)) tm_J0_492 ti_J0_isLatin1_aae02 ts_J0_isLatin1_aae02 (g_srecv C0 hW hs7) rfl hl.1 rfl (Nat.le_of_ble_eq_true rfl) dJ0_charAt_5068e_1) (fun H locs hW => ?_)
  refine lv_if_eq (tgt := 16) C0.hx C0.hb dJ0_charAt_5068e_4 (by decide) (fun hc2 => ?_) (fun hc2 => ?_)
  · replace h := (if_pos hc2).symm.trans h
    refine lv_aload_n C0.hx C0.hb dJ0_charAt_5068e_16 rfl (lv_at hl 0 rfl) ?_
    obtain ⟨hs3, h⟩ := g_if h
    refine g_sval C0 hW hs3 tf_J0_9 dJ0_charAt_5068e_17 ?_
    refine lv_iload_n C0.hx C0.hb dJ0_charAt_5068e_20 rfl (lv_at hl 1 rfl) ?_
    cases h
  · replace h := (if_neg hc2).symm.trans h
    refine lv_aload_n C0.hx C0.hb dJ0_charAt_5068e_7 rfl (lv_at hl 0 rfl) ?_
    obtain ⟨hs4, h⟩ := g_if h
    refine g_sval C0 hW hs4 tf_J0_9 dJ0_charAt_5068e_8 ?_
    refine lv_iload_n C0.hx C0.hb dJ0_charAt_5068e_11 rfl (lv_at hl 1 rfl) ?_
    obtain ⟨q5, hq5, h⟩ := Option.bind_eq_some_iff.mp h
    refine g_calli hW (g_runS (As := [.ref (g_sV G (t)), .int (p1)]) (rest := []) C0 hW (c_J1_charAt_3b067 hq5) (g_cwOf (n := 2) tc_J1_charAt_3b067 tn_J1 md_J1_charAt_3b067 (by decide) (by omega)) tm_J0_495 tz_J1_charAt_3b067 rfl hl.1 rfl (Nat.le_of_ble_eq_true rfl) dJ0_charAt_5068e_12) (fun H locs hW => ?_)
    obtain ⟨hn6, h⟩ := g_if h
    obtain rfl := Option.some.inj h
    exact g_iret C0 hW rfl hn6 rfl dJ0_charAt_5068e_15
