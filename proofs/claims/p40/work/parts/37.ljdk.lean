theorem cy_J6_stringSize_0f7a4 : h_cy yJ6_stringSize_0f7a4 cJ6_stringSize_0f7a4 4 1 (Option.some Jvm.ClassFile.FieldType.int) := ⟨tc_J6_stringSize_0f7a4, tn_J6, md_J6_stringSize_0f7a4, by decide⟩
theorem cy_J6_getChars_ba4f3 : h_cy yJ6_getChars_ba4f3 cJ6_getChars_ba4f3 7 3 (Option.some Jvm.ClassFile.FieldType.int) := ⟨tc_J6_getChars_ba4f3, tn_J6, md_J6_getChars_ba4f3, by decide⟩
theorem cy_J6_compare_7cf53 : h_cy yJ6_compare_7cf53 cJ6_compare_7cf53 2 2 (Option.some Jvm.ClassFile.FieldType.int) := ⟨tc_J6_compare_7cf53, tn_J6, md_J6_compare_7cf53, by decide⟩
theorem cy_J8_newLength_cabcc : h_cy yJ8_newLength_cabcc cJ8_newLength_cabcc 4 3 (Option.some Jvm.ClassFile.FieldType.int) := ⟨tc_J8_newLength_cabcc, tn_J8, md_J8_newLength_cabcc, by decide⟩
theorem cy_J7_checkLength_df160 : h_cy yJ7_checkLength_df160 cJ7_checkLength_df160 2 2 (Option.none : Option Jvm.ClassFile.FieldType) := ⟨tc_J7_checkLength_df160, tn_J7, md_J7_checkLength_df160, by decide⟩
theorem cy_J7_copyOf_9075b : h_cy yJ7_copyOf_9075b cJ7_copyOf_9075b 3 2 (Option.some (Jvm.ClassFile.FieldType.array Jvm.ClassFile.FieldType.byte)) := ⟨tc_J7_copyOf_9075b, tn_J7, md_J7_copyOf_9075b, by decide⟩
theorem cy_J7_copyOfRangeByte_39247 : h_cy yJ7_copyOfRangeByte_39247 cJ7_copyOfRangeByte_39247 5 3 (Option.some (Jvm.ClassFile.FieldType.array Jvm.ClassFile.FieldType.byte)) := ⟨tc_J7_copyOfRangeByte_39247, tn_J7, md_J7_copyOfRangeByte_39247, by decide⟩
theorem cy_J7_copyOfRange_39247 : h_cy yJ7_copyOfRange_39247 cJ7_copyOfRange_39247 3 3 (Option.some (Jvm.ClassFile.FieldType.array Jvm.ClassFile.FieldType.byte)) := ⟨tc_J7_copyOfRange_39247, tn_J7, md_J7_copyOfRange_39247, by decide⟩
theorem cy_J0_coder_7d493 : h_cy yJ0_coder_7d493 cJ0_coder_7d493 1 0 (Option.some Jvm.ClassFile.FieldType.byte) := ⟨tc_J0_coder_7d493, tn_J0, md_J0_coder_7d493, by decide⟩
theorem cy_J0_getBytes_840e7 : h_cy yJ0_getBytes_840e7 cJ0_getBytes_840e7 4 3 (Option.none : Option Jvm.ClassFile.FieldType) := ⟨tc_J0_getBytes_840e7, tn_J0, md_J0_getBytes_840e7, by decide⟩
theorem cy_J5_init_d00df : h_cy yJ5_init_d00df cJ5_init_d00df 2 1 (Option.none : Option Jvm.ClassFile.FieldType) := ⟨tc_J5_init_d00df, tn_J5, md_J5_init_d00df, by decide⟩
theorem cy_J5_length_8abf5 : h_cy yJ5_length_8abf5 cJ5_length_8abf5 1 0 (Option.some Jvm.ClassFile.FieldType.int) := ⟨tc_J5_length_8abf5, tn_J5, md_J5_length_8abf5, by decide⟩
theorem cy_J5_newCapacity_0f7a4 : h_cy yJ5_newCapacity_0f7a4 cJ5_newCapacity_0f7a4 6 1 (Option.some Jvm.ClassFile.FieldType.int) := ⟨tc_J5_newCapacity_0f7a4, tn_J5, md_J5_newCapacity_0f7a4, by decide⟩
theorem cy_J5_ensureCapacityInternal_d00df : h_cy yJ5_ensureCapacityInternal_d00df cJ5_ensureCapacityInternal_d00df 3 1 (Option.none : Option Jvm.ClassFile.FieldType) := ⟨tc_J5_ensureCapacityInternal_d00df, tn_J5, md_J5_ensureCapacityInternal_d00df, by decide⟩
theorem cy_J0_length_8abf5 : h_cy yJ0_length_8abf5 cJ0_length_8abf5 1 0 (Option.some Jvm.ClassFile.FieldType.int) := ⟨tc_J0_length_8abf5, tn_J0, md_J0_length_8abf5, by decide⟩
theorem cy_J5_inflateIfNeededFor_a7421 : h_cy yJ5_inflateIfNeededFor_a7421 cJ5_inflateIfNeededFor_a7421 2 1 (Option.none : Option Jvm.ClassFile.FieldType) := ⟨tc_J5_inflateIfNeededFor_a7421, tn_J5, md_J5_inflateIfNeededFor_a7421, by decide⟩
theorem cy_J5_putStringAt_47b60 : h_cy yJ5_putStringAt_47b60 cJ5_putStringAt_47b60 3 2 (Option.none : Option Jvm.ClassFile.FieldType) := ⟨tc_J5_putStringAt_47b60, tn_J5, md_J5_putStringAt_47b60, by decide⟩
theorem cy_J5_append_cf1ce : h_cy yJ5_append_cf1ce cJ5_append_cf1ce 3 1 (Option.some (Jvm.ClassFile.FieldType.object "java/lang/AbstractStringBuilder")) := ⟨tc_J5_append_cf1ce, tn_J5, md_J5_append_cf1ce, by decide⟩
theorem cy_J5_isLatin1_aae02 : h_cy yJ5_isLatin1_aae02 cJ5_isLatin1_aae02 1 0 (Option.some Jvm.ClassFile.FieldType.boolean) := ⟨tc_J5_isLatin1_aae02, tn_J5, md_J5_isLatin1_aae02, by decide⟩
theorem cy_J5_append_c97b9 : h_cy yJ5_append_c97b9 cJ5_append_c97b9 4 1 (Option.some (Jvm.ClassFile.FieldType.object "java/lang/AbstractStringBuilder")) := ⟨tc_J5_append_c97b9, tn_J5, md_J5_append_c97b9, by decide⟩
theorem cy_J5_getValue_6d5f1 : h_cy yJ5_getValue_6d5f1 cJ5_getValue_6d5f1 1 0 (Option.some (Jvm.ClassFile.FieldType.array Jvm.ClassFile.FieldType.byte)) := ⟨tc_J5_getValue_6d5f1, tn_J5, md_J5_getValue_6d5f1, by decide⟩
theorem cy_J4_length_8abf5 : h_cy yJ4_length_8abf5 cJ4_length_8abf5 1 0 (Option.some Jvm.ClassFile.FieldType.int) := ⟨tc_J4_length_8abf5, tn_J4, md_J4_length_8abf5, by decide⟩
theorem cy_J0_init_db425 : h_cy yJ0_init_db425 cJ0_init_db425 5 2 (Option.none : Option Jvm.ClassFile.FieldType) := ⟨tc_J0_init_db425, tn_J0, md_J0_init_db425, by decide⟩
theorem cy_J0_init_81219 : h_cy yJ0_init_81219 cJ0_init_81219 2 1 (Option.none : Option Jvm.ClassFile.FieldType) := ⟨tc_J0_init_81219, tn_J0, md_J0_init_81219, by decide⟩
theorem cy_J4_init_da8c8 : h_cy yJ4_init_da8c8 cJ4_init_da8c8 1 0 (Option.none : Option Jvm.ClassFile.FieldType) := ⟨tc_J4_init_da8c8, tn_J4, md_J4_init_da8c8, by decide⟩
theorem cy_J4_append_15ec4 : h_cy yJ4_append_15ec4 cJ4_append_15ec4 2 1 (Option.some (Jvm.ClassFile.FieldType.object "java/lang/StringBuilder")) := ⟨tc_J4_append_15ec4, tn_J4, md_J4_append_15ec4, by decide⟩
theorem cy_J4_append_bf812 : h_cy yJ4_append_bf812 cJ4_append_bf812 2 1 (Option.some (Jvm.ClassFile.FieldType.object "java/lang/StringBuilder")) := ⟨tc_J4_append_bf812, tn_J4, md_J4_append_bf812, by decide⟩
theorem cy_J4_toString_0e30d : h_cy yJ4_toString_0e30d cJ4_toString_0e30d 1 0 (Option.some (Jvm.ClassFile.FieldType.object "java/lang/String")) := ⟨tc_J4_toString_0e30d, tn_J4, md_J4_toString_0e30d, by decide⟩
theorem cy_J0_isLatin1_aae02 : h_cy yJ0_isLatin1_aae02 cJ0_isLatin1_aae02 1 0 (Option.some Jvm.ClassFile.FieldType.boolean) := ⟨tc_J0_isLatin1_aae02, tn_J0, md_J0_isLatin1_aae02, by decide⟩
theorem cy_J1_charAt_3b067 : h_cy yJ1_charAt_3b067 cJ1_charAt_3b067 2 2 (Option.some Jvm.ClassFile.FieldType.char) := ⟨tc_J1_charAt_3b067, tn_J1, md_J1_charAt_3b067, by decide⟩
theorem cy_J0_charAt_5068e : h_cy yJ0_charAt_5068e cJ0_charAt_5068e 2 1 (Option.some Jvm.ClassFile.FieldType.char) := ⟨tc_J0_charAt_5068e, tn_J0, md_J0_charAt_5068e, by decide⟩
theorem cy_X13_init : h_cy yX13_init cX13_init 2 1 (Option.none : Option Jvm.ClassFile.FieldType) := ⟨tc_X13_init, tn_X13, md_X13_init, by decide⟩
theorem cy_L_below : h_cy yL_below cL_below 2 2 (Option.some Jvm.ClassFile.FieldType.int) := ⟨tc_L_below, tn_L, md_L_below, by decide⟩
theorem cy_X13_next : h_cy yX13_next cX13_next 2 1 (Option.some Jvm.ClassFile.FieldType.int) := ⟨tc_X13_next, tn_X13, md_X13_next, by decide⟩
theorem cy_X14_init : h_cy yX14_init cX14_init 5 4 (Option.none : Option Jvm.ClassFile.FieldType) := ⟨tc_X14_init, tn_X14, md_X14_init, by decide⟩
theorem cy_X14_sum : h_cy yX14_sum cX14_sum 5 3 (Option.some (Jvm.ClassFile.FieldType.object "GlideWhistlesLaw$Node")) := ⟨tc_X14_sum, tn_X14, md_X14_sum, by decide⟩
theorem cy_X14_test : h_cy yX14_test cX14_test 5 3 (Option.some (Jvm.ClassFile.FieldType.object "GlideWhistlesLaw$Node")) := ⟨tc_X14_test, tn_X14, md_X14_test, by decide⟩
theorem cy_X14_text : h_cy yX14_text cX14_text 1 0 (Option.some (Jvm.ClassFile.FieldType.object "java/lang/String")) := ⟨tc_X14_text, tn_X14, md_X14_text, by decide⟩
theorem cy_X16_kept : h_cy yX16_kept cX16_kept 6 0 (Option.some Jvm.ClassFile.FieldType.int) := ⟨tc_X16_kept, tn_X16, md_X16_kept, by decide⟩
theorem cy_X16_contour : h_cy yX16_contour cX16_contour 2 2 (Option.some Jvm.ClassFile.FieldType.int) := ⟨tc_X16_contour, tn_X16, md_X16_contour, by decide⟩
theorem cy_X16_apart : h_cy yX16_apart cX16_apart 2 2 (Option.some Jvm.ClassFile.FieldType.int) := ⟨tc_X16_apart, tn_X16, md_X16_apart, by decide⟩
theorem cy_X16_way : h_cy yX16_way cX16_way 16 3 (Option.some Jvm.ClassFile.FieldType.int) := ⟨tc_X16_way, tn_X16, md_X16_way, by decide⟩
theorem cy_X16_far : h_cy yX16_far cX16_far 3 2 (Option.some Jvm.ClassFile.FieldType.int) := ⟨tc_X16_far, tn_X16, md_X16_far, by decide⟩
theorem cy_X16_meant : h_cy yX16_meant cX16_meant 6 1 (Option.some Jvm.ClassFile.FieldType.int) := ⟨tc_X16_meant, tn_X16, md_X16_meant, by decide⟩
theorem cy_X14_both : h_cy yX14_both cX14_both 3 3 (Option.some Jvm.ClassFile.FieldType.int) := ⟨tc_X14_both, tn_X14, md_X14_both, by decide⟩
theorem cy_X14_value : h_cy yX14_value cX14_value 2 1 (Option.some Jvm.ClassFile.FieldType.int) := ⟨tc_X14_value, tn_X14, md_X14_value, by decide⟩
theorem cy_X15_init : h_cy yX15_init cX15_init 4 2 (Option.none : Option Jvm.ClassFile.FieldType) := ⟨tc_X15_init, tn_X15, md_X15_init, by decide⟩
theorem cy_X15_text : h_cy yX15_text cX15_text 1 0 (Option.some (Jvm.ClassFile.FieldType.object "java/lang/String")) := ⟨tc_X15_text, tn_X15, md_X15_text, by decide⟩
theorem cy_X16_shifted : h_cy yX16_shifted cX16_shifted 7 2 (Option.some (Jvm.ClassFile.FieldType.array Jvm.ClassFile.FieldType.int)) := ⟨tc_X16_shifted, tn_X16, md_X16_shifted, by decide⟩
theorem cy_X15_isDone : h_cy yX15_isDone cX15_isDone 5 1 (Option.some Jvm.ClassFile.FieldType.boolean) := ⟨tc_X15_isDone, tn_X15, md_X15_isDone, by decide⟩
theorem cy_X16_init : h_cy yX16_init cX16_init 3 2 (Option.none : Option Jvm.ClassFile.FieldType) := ⟨tc_X16_init, tn_X16, md_X16_init, by decide⟩
theorem cy_X16_near : h_cy yX16_near cX16_near 4 2 (Option.some Jvm.ClassFile.FieldType.boolean) := ⟨tc_X16_near, tn_X16, md_X16_near, by decide⟩
theorem cy_X16_needless : h_cy yX16_needless cX16_needless 3 1 (Option.some Jvm.ClassFile.FieldType.boolean) := ⟨tc_X16_needless, tn_X16, md_X16_needless, by decide⟩
theorem cy_X16_pass : h_cy yX16_pass cX16_pass 6 0 (Option.some Jvm.ClassFile.FieldType.int) := ⟨tc_X16_pass, tn_X16, md_X16_pass, by decide⟩
theorem cy_X16_pass_ : h_cy yX16_pass_ cX16_pass_ 4 1 (Option.some Jvm.ClassFile.FieldType.int) := ⟨tc_X16_pass_, tn_X16, md_X16_pass_, by decide⟩
theorem cy_X16_isSame : h_cy yX16_isSame cX16_isSame 7 1 (Option.some Jvm.ClassFile.FieldType.boolean) := ⟨tc_X16_isSame, tn_X16, md_X16_isSame, by decide⟩
theorem cy_L_cell : h_cy yL_cell cL_cell 2 2 (Option.some Jvm.ClassFile.FieldType.int) := ⟨tc_L_cell, tn_L, md_L_cell, by decide⟩
theorem cy_L_taught : h_cy yL_taught cL_taught 6 2 (Option.some Jvm.ClassFile.FieldType.int) := ⟨tc_L_taught, tn_L, md_L_taught, by decide⟩
theorem cy_L_drawn : h_cy yL_drawn cL_drawn 16 4 (Option.some (Jvm.ClassFile.FieldType.object "GlideWhistlesLaw$Talk")) := ⟨tc_L_drawn, tn_L, md_L_drawn, by decide⟩



theorem g_sw_X14_text_4 {v : Int32} (h0 : ¬ v = (0 : Int32)) (h1 : ¬ v = (1 : Int32)) (h2 : ¬ v = (2 : Int32)) (h3 : ¬ v = (3 : Int32)) (h4 : ¬ v = (4 : Int32)) (h5 : ¬ v = (5 : Int32)) (h6 : ¬ v = (6 : Int32)) (h7 : ¬ v = (7 : Int32)) (h8 : ¬ v = (8 : Int32)) (h9 : ¬ v = (9 : Int32)) (h10 : ¬ v = (10 : Int32)) (h11 : ¬ v = (11 : Int32)) (h12 : ¬ v = (12 : Int32)) (h13 : ¬ v = (13 : Int32)) (h14 : ¬ v = (14 : Int32)) (h15 : ¬ v = (15 : Int32)) (h16 : ¬ v = (16 : Int32)) (h17 : ¬ v = (17 : Int32)) (h18 : ¬ v = (18 : Int32)) (h19 : ¬ v = (19 : Int32)) (h20 : ¬ v = (20 : Int32)) (h21 : ¬ v = (21 : Int32)) : v.toInt < 0 ∨ 21 < v.toInt := by
  have e0 := g_ne h0 (n := 0) (by decide)
  have e1 := g_ne h1 (n := 1) (by decide)
  have e2 := g_ne h2 (n := 2) (by decide)
  have e3 := g_ne h3 (n := 3) (by decide)
  have e4 := g_ne h4 (n := 4) (by decide)
  have e5 := g_ne h5 (n := 5) (by decide)
  have e6 := g_ne h6 (n := 6) (by decide)
  have e7 := g_ne h7 (n := 7) (by decide)
  have e8 := g_ne h8 (n := 8) (by decide)
  have e9 := g_ne h9 (n := 9) (by decide)
  have e10 := g_ne h10 (n := 10) (by decide)
  have e11 := g_ne h11 (n := 11) (by decide)
  have e12 := g_ne h12 (n := 12) (by decide)
  have e13 := g_ne h13 (n := 13) (by decide)
  have e14 := g_ne h14 (n := 14) (by decide)
  have e15 := g_ne h15 (n := 15) (by decide)
  have e16 := g_ne h16 (n := 16) (by decide)
  have e17 := g_ne h17 (n := 17) (by decide)
  have e18 := g_ne h18 (n := 18) (by decide)
  have e19 := g_ne h19 (n := 19) (by decide)
  have e20 := g_ne h20 (n := 20) (by decide)
  have e21 := g_ne h21 (n := 21) (by decide)
  omega
theorem g_sw_X14_both_1 {v : Int32} (h0 : ¬ v = (6 : Int32)) (h1 : ¬ v = (7 : Int32)) (h2 : ¬ v = (8 : Int32)) (h3 : ¬ v = (9 : Int32)) (h4 : ¬ v = (10 : Int32)) (h5 : ¬ v = (11 : Int32)) (h6 : ¬ v = (12 : Int32)) (h7 : ¬ v = (13 : Int32)) (h8 : ¬ v = (14 : Int32)) (h9 : ¬ v = (15 : Int32)) (h10 : ¬ v = (16 : Int32)) (h11 : ¬ v = (17 : Int32)) (h12 : ¬ v = (18 : Int32)) (h13 : ¬ v = (19 : Int32)) (h14 : ¬ v = (20 : Int32)) (h15 : ¬ v = (21 : Int32)) : v.toInt < 6 ∨ 21 < v.toInt := by
  have e0 := g_ne h0 (n := 6) (by decide)
  have e1 := g_ne h1 (n := 7) (by decide)
  have e2 := g_ne h2 (n := 8) (by decide)
  have e3 := g_ne h3 (n := 9) (by decide)
  have e4 := g_ne h4 (n := 10) (by decide)
  have e5 := g_ne h5 (n := 11) (by decide)
  have e6 := g_ne h6 (n := 12) (by decide)
  have e7 := g_ne h7 (n := 13) (by decide)
  have e8 := g_ne h8 (n := 14) (by decide)
  have e9 := g_ne h9 (n := 15) (by decide)
  have e10 := g_ne h10 (n := 16) (by decide)
  have e11 := g_ne h11 (n := 17) (by decide)
  have e12 := g_ne h12 (n := 18) (by decide)
  have e13 := g_ne h13 (n := 19) (by decide)
  have e14 := g_ne h14 (n := 20) (by decide)
  have e15 := g_ne h15 (n := 21) (by decide)
  omega
theorem g_sw_X14_value_4 {v : Int32} (h0 : ¬ v = (0 : Int32)) (h1 : ¬ v = (1 : Int32)) (h2 : ¬ v = (2 : Int32)) (h3 : ¬ v = (3 : Int32)) (h4 : ¬ v = (4 : Int32)) (h5 : ¬ v = (5 : Int32)) (h6 : ¬ v = (6 : Int32)) (h7 : ¬ v = (7 : Int32)) (h8 : ¬ v = (8 : Int32)) (h9 : ¬ v = (9 : Int32)) (h10 : ¬ v = (10 : Int32)) (h11 : ¬ v = (11 : Int32)) (h12 : ¬ v = (12 : Int32)) (h13 : ¬ v = (13 : Int32)) (h14 : ¬ v = (14 : Int32)) (h15 : ¬ v = (15 : Int32)) (h16 : ¬ v = (16 : Int32)) (h17 : ¬ v = (17 : Int32)) (h18 : ¬ v = (18 : Int32)) (h19 : ¬ v = (19 : Int32)) : v.toInt < 0 ∨ 19 < v.toInt := by
  have e0 := g_ne h0 (n := 0) (by decide)
  have e1 := g_ne h1 (n := 1) (by decide)
  have e2 := g_ne h2 (n := 2) (by decide)
  have e3 := g_ne h3 (n := 3) (by decide)
  have e4 := g_ne h4 (n := 4) (by decide)
  have e5 := g_ne h5 (n := 5) (by decide)
  have e6 := g_ne h6 (n := 6) (by decide)
  have e7 := g_ne h7 (n := 7) (by decide)
  have e8 := g_ne h8 (n := 8) (by decide)
  have e9 := g_ne h9 (n := 9) (by decide)
  have e10 := g_ne h10 (n := 10) (by decide)
  have e11 := g_ne h11 (n := 11) (by decide)
  have e12 := g_ne h12 (n := 12) (by decide)
  have e13 := g_ne h13 (n := 13) (by decide)
  have e14 := g_ne h14 (n := 14) (by decide)
  have e15 := g_ne h15 (n := 15) (by decide)
  have e16 := g_ne h16 (n := 16) (by decide)
  have e17 := g_ne h17 (n := 17) (by decide)
  have e18 := g_ne h18 (n := 18) (by decide)
  have e19 := g_ne h19 (n := 19) (by decide)
  omega
set_option maxRecDepth 100000 in
set_option maxHeartbeats 4000000 in
theorem w_l_J6_stringSize_0f7a4_16 {p : Program} {l : Launch} {e : Env} {s : State} {m : MethodId} {args : Array Value} {below : List Frame} {meth : Method} {c : Code} {G : GL} {o : Nat → Int32} {y : MS} {x : CS} {q : Int32}  (C0 : g_X G (List.range 120) p s m args meth c cJ6_stringSize_0f7a4 4 RJ6 (Option.some Jvm.ClassFile.FieldType.int))  : ∀ (n : Nat) (l0 : Int32) (l1 : Int32) (l2 : Int32) (l3 : Int32) (H : Heap) (locs : List Loc) (ls : Array Slot), f_l_J6_stringSize_0f7a4_16 n l0 l1 l2 l3 = some q → h_W G y (x, y, o) s.heap H locs → lv_has ls 4 [(0, .int (l0)), (1, .int (l1)), (2, .int (l2)), (3, .int (l3))] → W p l e (h_lv 1 y) s m args below meth c H locs (h_nx y - h_nx y) (h_sl y - h_sl y) (MQ below (h_Qi G y q (x, y, o)) args s (h_nx y - h_nx y) (h_sl y - h_sl y) (g_A G)) (F0 m 16 ls []) := by
  intro n
  induction n with
  | zero =>
    intro l0 l1 l2 l3 H locs ls h hW hl
    exact absurd h (by simp [f_l_J6_stringSize_0f7a4_16])
  | succ n ih =>
    intro l0 l1 l2 l3 H locs ls h hW hl
    unfold f_l_J6_stringSize_0f7a4_16 at h
    refine lv_iload_n C0.hx C0.hb dJ6_stringSize_0f7a4_16 rfl (lv_at hl 3 rfl) ?_
    refine lv_bipush (v := (10 : Int32)) C0.hx C0.hb dJ6_stringSize_0f7a4_17 (by decide) ?_
    refine lv_icmp_ge (tgt := 42) C0.hx C0.hb dJ6_stringSize_0f7a4_19 (by decide) (fun hc2 => ?_) (fun hc2 => ?_)
    · replace h := (if_pos hc2).symm.trans h
      refine lv_bipush (v := (10 : Int32)) C0.hx C0.hb dJ6_stringSize_0f7a4_42 (by decide) ?_
      refine lv_iload_n C0.hx C0.hb dJ6_stringSize_0f7a4_44 rfl (lv_at hl 1 rfl) ?_
      refine lv_iadd C0.hx C0.hb dJ6_stringSize_0f7a4_45 ?_
      obtain rfl := Option.some.inj h
      exact h_iret C0 hW rfl rfl dJ6_stringSize_0f7a4_46
    · replace h := (if_neg hc2).symm.trans h
      refine lv_iload_n C0.hx C0.hb dJ6_stringSize_0f7a4_22 rfl (lv_at hl 0 rfl) ?_
      refine lv_iload_n C0.hx C0.hb dJ6_stringSize_0f7a4_23 rfl (lv_at hl 2 rfl) ?_
      refine lv_icmp_le (tgt := 31) C0.hx C0.hb dJ6_stringSize_0f7a4_24 (by decide) (fun hc3 => ?_) (fun hc3 => ?_)
      · replace h := (if_pos hc3).symm.trans h
        refine lv_bipush (v := (10 : Int32)) C0.hx C0.hb dJ6_stringSize_0f7a4_31 (by decide) ?_
        refine lv_iload_n C0.hx C0.hb dJ6_stringSize_0f7a4_33 rfl (lv_at hl 2 rfl) ?_
        refine lv_imul C0.hx C0.hb dJ6_stringSize_0f7a4_34 ?_
        refine lv_istore_n (lv' := [(2, .int ((10 : Int32) * l2)), (0, .int (l0)), (1, .int (l1)), (3, .int (l3))]) C0.hx C0.hb dJ6_stringSize_0f7a4_35 rfl hl (by decide) rfl (fun ls hl => ?_)
        refine lv_iinc (v := l3 + (1 : Int32)) (lv' := [(3, .int (l3 + (1 : Int32))), (2, .int ((10 : Int32) * l2)), (0, .int (l0)), (1, .int (l1))]) C0.hx C0.hb dJ6_stringSize_0f7a4_36 hl (k := 3) rfl rfl (by decide) rfl (fun ls hl => ?_)
        refine lv_goto (tgt := 16) C0.hx C0.hb dJ6_stringSize_0f7a4_39 (by decide) ?_
        have hz := ih _ _ _ _ _ _ _ h hW (lv_sub hl [2, 3, 1, 0] rfl)
        exact hz
      · replace h := (if_neg hc3).symm.trans h
        refine lv_iload_n C0.hx C0.hb dJ6_stringSize_0f7a4_27 rfl (lv_at hl 3 rfl) ?_
        refine lv_iload_n C0.hx C0.hb dJ6_stringSize_0f7a4_28 rfl (lv_at hl 1 rfl) ?_
        refine lv_iadd C0.hx C0.hb dJ6_stringSize_0f7a4_29 ?_
        obtain rfl := Option.some.inj h
        exact h_iret C0 hW rfl rfl dJ6_stringSize_0f7a4_30
set_option maxRecDepth 100000 in
set_option maxHeartbeats 4000000 in
theorem c_l_J6_stringSize_0f7a4 {l : Launch} {G : GL} {o : Nat → Int32} {x : CS} {y : MS} {p1 : Int32} {q : Int32} (h : f_l_J6_stringSize_0f7a4 p1 = some q) : Met l yJ6_stringSize_0f7a4 (.code yJ6_stringSize_0f7a4 cJ6_stringSize_0f7a4 4 (Option.some Jvm.ClassFile.FieldType.int) :: gT) (h_lv 1 y) (va_Pc [.int (p1)] (h_P G (x, y, o))) (h_Qi G y q (x, y, o)) (h_nx y - h_nx y) (h_sl y - h_sl y) (g_A G) := by
  unfold f_l_J6_stringSize_0f7a4 at h
  refine h_entry (by decide) (Nat.le_of_ble_eq_true rfl) (fun p e s m args below meth c ls C0 hl hW hin_ => ?_)
  have hl : lv_has ls 4 [(0, .int (p1))] := hl
  refine lv_iconst (v := (1 : Int32)) C0.hx C0.hb dJ6_stringSize_0f7a4_0 (by decide) ?_
  refine lv_istore_n (lv' := [(1, .int ((1 : Int32))), (0, .int (p1))]) C0.hx C0.hb dJ6_stringSize_0f7a4_1 rfl hl (by decide) rfl (fun ls hl => ?_)
  refine lv_iload_n C0.hx C0.hb dJ6_stringSize_0f7a4_2 rfl (lv_at hl 1 rfl) ?_
  refine lv_if_lt (tgt := 11) C0.hx C0.hb dJ6_stringSize_0f7a4_3 (by decide) (fun hc1 => ?_) (fun hc1 => ?_)
  · replace h := (if_pos hc1).symm.trans h
    refine lv_bipush (v := (-10 : Int32)) C0.hx C0.hb dJ6_stringSize_0f7a4_11 (by decide) ?_
    refine lv_istore_n (lv' := [(2, .int ((-10 : Int32))), (1, .int ((1 : Int32))), (0, .int (p1))]) C0.hx C0.hb dJ6_stringSize_0f7a4_13 rfl hl (by decide) rfl (fun ls hl => ?_)
    refine lv_iconst (v := (1 : Int32)) C0.hx C0.hb dJ6_stringSize_0f7a4_14 (by decide) ?_
    refine lv_istore_n (lv' := [(3, .int ((1 : Int32))), (2, .int ((-10 : Int32))), (1, .int ((1 : Int32))), (0, .int (p1))]) C0.hx C0.hb dJ6_stringSize_0f7a4_15 rfl hl (by decide) rfl (fun ls hl => ?_)
    have hz := w_l_J6_stringSize_0f7a4_16 (l := l) (e := e) (below := below) C0 g_fuel _ _ _ _ _ _ _ h hW (lv_sub hl [3, 2, 1, 0] rfl)
    exact hz
  · replace h := (if_neg hc1).symm.trans h
    refine lv_iconst (v := (0 : Int32)) C0.hx C0.hb dJ6_stringSize_0f7a4_6 (by decide) ?_
    refine lv_istore_n (lv' := [(1, .int ((0 : Int32))), (0, .int (p1))]) C0.hx C0.hb dJ6_stringSize_0f7a4_7 rfl hl (by decide) rfl (fun ls hl => ?_)
    refine lv_iload_n C0.hx C0.hb dJ6_stringSize_0f7a4_8 rfl (lv_at hl 1 rfl) ?_
    refine lv_ineg C0.hx C0.hb dJ6_stringSize_0f7a4_9 ?_
    refine lv_istore_n (lv' := [(0, .int (-p1)), (1, .int ((0 : Int32)))]) C0.hx C0.hb dJ6_stringSize_0f7a4_10 rfl hl (by decide) rfl (fun ls hl => ?_)
    refine lv_bipush (v := (-10 : Int32)) C0.hx C0.hb dJ6_stringSize_0f7a4_11 (by decide) ?_
    refine lv_istore_n (lv' := [(2, .int ((-10 : Int32))), (0, .int (-p1)), (1, .int ((0 : Int32)))]) C0.hx C0.hb dJ6_stringSize_0f7a4_13 rfl hl (by decide) rfl (fun ls hl => ?_)
    refine lv_iconst (v := (1 : Int32)) C0.hx C0.hb dJ6_stringSize_0f7a4_14 (by decide) ?_
    refine lv_istore_n (lv' := [(3, .int ((1 : Int32))), (2, .int ((-10 : Int32))), (0, .int (-p1)), (1, .int ((0 : Int32)))]) C0.hx C0.hb dJ6_stringSize_0f7a4_15 rfl hl (by decide) rfl (fun ls hl => ?_)
    have hz := w_l_J6_stringSize_0f7a4_16 (l := l) (e := e) (below := below) C0 g_fuel _ _ _ _ _ _ _ h hW (lv_sub hl [2, 3, 1, 0] rfl)
    exact hz
set_option maxRecDepth 100000 in
set_option maxHeartbeats 4000000 in
theorem w_l_J6_getChars_ba4f3_104 {p : Program} {l : Launch} {e : Env} {s : State} {m : MethodId} {args : Array Value} {below : List Frame} {meth : Method} {c : Code} {G : GL} {o : Nat → Int32} {y0 : MS} {x : CS} {q : Int32 × MS}  (C0 : g_X G (List.range 120) p s m args meth c cJ6_getChars_ba4f3 7 RJ6 (Option.some Jvm.ClassFile.FieldType.int))  : ∀  (l2 : Nat) (l5 : Int32) (l6 : Int32) (y : MS) (H : Heap) (locs : List Loc) (ls : Array Slot), f_l_J6_getChars_ba4f3_104 l2 l5 l6 y = some q → h_W G y0 (x, y, o) s.heap H locs → lv_has ls 7 [(2, .ref (g_va G (l2))), (5, .int (l5)), (6, .int (l6))] → W p l e (h_lv 1 y0) s m args below meth c H locs (h_nx y - h_nx y0) (h_sl y - h_sl y0) (MQ below (h_Qi G y0 q.1 (x, q.2, o)) args s (h_nx q.2 - h_nx y0) (h_sl q.2 - h_sl y0) (g_A G)) (F0 m 104 ls []) := by
  intro l2 l5 l6 y H locs ls h hW hl
  unfold f_l_J6_getChars_ba4f3_104 at h
  refine lv_iload C0.hx C0.hb dJ6_getChars_ba4f3_104 (lv_at hl 2 rfl) ?_
  refine lv_if_eq (tgt := 118) C0.hx C0.hb dJ6_getChars_ba4f3_106 (by decide) (fun hc15 => ?_) (fun hc15 => ?_)
  · replace h := (if_pos hc15).symm.trans h
    refine lv_iload C0.hx C0.hb dJ6_getChars_ba4f3_118 (lv_at hl 1 rfl) ?_
    obtain rfl := Option.some.inj h
    exact h_iret C0 hW rfl rfl dJ6_getChars_ba4f3_120
  · replace h := (if_neg hc15).symm.trans h
    refine lv_aload_n C0.hx C0.hb dJ6_getChars_ba4f3_109 rfl (lv_at hl 0 rfl) ?_
    refine lv_iinc (v := l5 + (-1 : Int32)) (lv' := [(5, .int (l5 + (-1 : Int32))), (2, .ref (g_va G (l2))), (6, .int (l6))]) C0.hx C0.hb dJ6_getChars_ba4f3_110 hl (k := 1) rfl rfl (by decide) rfl (fun ls hl => ?_)
    refine lv_iload C0.hx C0.hb dJ6_getChars_ba4f3_113 (lv_at hl 0 rfl) ?_
    refine lv_bipush (v := (45 : Int32)) C0.hx C0.hb dJ6_getChars_ba4f3_115 (by decide) ?_
    obtain ⟨hk16, h⟩ := g_if h
    obtain ⟨hn17, h⟩ := g_if h
    refine hs_61v C0 hW hk16 hn17 dJ6_getChars_ba4f3_117 (fun H locs hW => ?_)
    refine h_fwi hW ?_
    refine lv_iload C0.hx C0.hb dJ6_getChars_ba4f3_118 (lv_at hl 0 rfl) ?_
    obtain rfl := Option.some.inj h
    exact h_iret C0 hW rfl rfl dJ6_getChars_ba4f3_120
set_option maxRecDepth 100000 in
set_option maxHeartbeats 4000000 in
theorem w_l_J6_getChars_ba4f3_22 {p : Program} {l : Launch} {e : Env} {s : State} {m : MethodId} {args : Array Value} {below : List Frame} {meth : Method} {c : Code} {G : GL} {o : Nat → Int32} {y0 : MS} {x : CS} {q : Int32 × MS}  (C0 : g_X G (List.range 120) p s m args meth c cJ6_getChars_ba4f3 7 RJ6 (Option.some Jvm.ClassFile.FieldType.int))  : ∀ (n : Nat) (l0 : Int32) (l2 : Nat) (l5 : Int32) (l6 : Int32) (y : MS) (H : Heap) (locs : List Loc) (ls : Array Slot), f_l_J6_getChars_ba4f3_22 n l0 l2 l5 l6 y = some q → h_W G y0 (x, y, o) s.heap H locs → lv_has ls 7 [(0, .int (l0)), (2, .ref (g_va G (l2))), (5, .int (l5)), (6, .int (l6))] → W p l e (h_lv 1 y0) s m args below meth c H locs (h_nx y - h_nx y0) (h_sl y - h_sl y0) (MQ below (h_Qi G y0 q.1 (x, q.2, o)) args s (h_nx q.2 - h_nx y0) (h_sl q.2 - h_sl y0) (g_A G)) (F0 m 22 ls []) := by
  intro n
  induction n with
  | zero =>
    intro l0 l2 l5 l6 y H locs ls h hW hl
    exact absurd h (by simp [f_l_J6_getChars_ba4f3_22])
  | succ n ih =>
    intro l0 l2 l5 l6 y H locs ls h hW hl
    unfold f_l_J6_getChars_ba4f3_22 at h
    refine lv_iload_n C0.hx C0.hb dJ6_getChars_ba4f3_22 rfl (lv_at hl 0 rfl) ?_
    refine lv_bipush (v := (-100 : Int32)) C0.hx C0.hb dJ6_getChars_ba4f3_23 (by decide) ?_
    refine lv_icmp_gt (tgt := 72) C0.hx C0.hb dJ6_getChars_ba4f3_25 (by decide) (fun hc3 => ?_) (fun hc3 => ?_)
    · replace h := (if_pos hc3).symm.trans h
      refine lv_aload_n C0.hx C0.hb dJ6_getChars_ba4f3_72 rfl (lv_at hl 1 rfl) ?_
      refine lv_iinc (v := l5 + (-1 : Int32)) (lv' := [(5, .int (l5 + (-1 : Int32))), (0, .int (l0)), (2, .ref (g_va G (l2))), (6, .int (l6))]) C0.hx C0.hb dJ6_getChars_ba4f3_73 hl (k := 2) rfl rfl (by decide) rfl (fun ls hl => ?_)
      refine lv_iload C0.hx C0.hb dJ6_getChars_ba4f3_76 (lv_at hl 0 rfl) ?_
      refine h_D1 C0 hW tf_J6_83 dJ6_getChars_ba4f3_78 ?_
      refine lv_iload_n C0.hx C0.hb dJ6_getChars_ba4f3_81 rfl (lv_at hl 1 rfl) ?_
      refine lv_ineg C0.hx C0.hb dJ6_getChars_ba4f3_82 ?_
      obtain ⟨hn4, h⟩ := g_if h
      refine h_D1at C0 hW hn4 dJ6_getChars_ba4f3_83 ?_
      obtain ⟨hk5, h⟩ := g_if h
      obtain ⟨hn6, h⟩ := g_if h
      refine hs_61v C0 hW hk5 hn6 dJ6_getChars_ba4f3_84 (fun H locs hW => ?_)
      refine h_fwi hW ?_
      refine lv_iload_n C0.hx C0.hb dJ6_getChars_ba4f3_85 rfl (lv_at hl 1 rfl) ?_
      refine lv_bipush (v := (-9 : Int32)) C0.hx C0.hb dJ6_getChars_ba4f3_86 (by decide) ?_
      refine lv_icmp_ge (tgt := 104) C0.hx C0.hb dJ6_getChars_ba4f3_88 (by decide) (fun hc7 => ?_) (fun hc7 => ?_)
      · replace h := (if_pos hc7).symm.trans h
        have hz := w_l_J6_getChars_ba4f3_104 (l := l) (e := e) (below := below) C0 _ _ _ _ _ _ _ h hW (lv_sub hl [2, 0, 3] rfl)
        exact hz
      · replace h := (if_neg hc7).symm.trans h
        refine lv_aload_n C0.hx C0.hb dJ6_getChars_ba4f3_91 rfl (lv_at hl 2 rfl) ?_
        refine lv_iinc (v := (l5 + (-1 : Int32)) + (-1 : Int32)) (lv' := [(5, .int ((l5 + (-1 : Int32)) + (-1 : Int32))), (0, .int (l0)), (2, .ref (g_va G (l2))), (6, .int (l6))]) C0.hx C0.hb dJ6_getChars_ba4f3_92 hl (k := 0) rfl rfl (by decide) rfl (fun ls hl => ?_)
        refine lv_iload C0.hx C0.hb dJ6_getChars_ba4f3_95 (lv_at hl 0 rfl) ?_
        refine h_D2 C0 hW tf_J6_87 dJ6_getChars_ba4f3_97 ?_
        refine lv_iload_n C0.hx C0.hb dJ6_getChars_ba4f3_100 rfl (lv_at hl 1 rfl) ?_
        refine lv_ineg C0.hx C0.hb dJ6_getChars_ba4f3_101 ?_
        obtain ⟨hn8, h⟩ := g_if h
        refine h_D2at C0 hW hn8 dJ6_getChars_ba4f3_102 ?_
        obtain ⟨hn9, h⟩ := g_if h
        refine hs_61v C0 hW hk5 hn9 dJ6_getChars_ba4f3_103 (fun H locs hW => ?_)
        refine h_fwi hW ?_
        have hz := w_l_J6_getChars_ba4f3_104 (l := l) (e := e) (below := below) C0 _ _ _ _ _ _ _ h hW (lv_sub hl [2, 0, 3] rfl)
        exact hz
    · replace h := (if_neg hc3).symm.trans h
      refine lv_iload_n C0.hx C0.hb dJ6_getChars_ba4f3_28 rfl (lv_at hl 0 rfl) ?_
      refine lv_bipush (v := (100 : Int32)) C0.hx C0.hb dJ6_getChars_ba4f3_29 (by decide) ?_
      refine lv_idiv C0.hx C0.hb dJ6_getChars_ba4f3_31 (by decide) ?_
      refine lv_istore_n (lv' := [(3, .int (l0 / (100 : Int32))), (0, .int (l0)), (2, .ref (g_va G (l2))), (5, .int (l5)), (6, .int (l6))]) C0.hx C0.hb dJ6_getChars_ba4f3_32 rfl hl (by decide) rfl (fun ls hl => ?_)
      refine lv_iload_n C0.hx C0.hb dJ6_getChars_ba4f3_33 rfl (lv_at hl 0 rfl) ?_
      refine lv_bipush (v := (100 : Int32)) C0.hx C0.hb dJ6_getChars_ba4f3_34 (by decide) ?_
      refine lv_imul C0.hx C0.hb dJ6_getChars_ba4f3_36 ?_
      refine lv_iload_n C0.hx C0.hb dJ6_getChars_ba4f3_37 rfl (lv_at hl 1 rfl) ?_
      refine lv_isub C0.hx C0.hb dJ6_getChars_ba4f3_38 ?_
      refine lv_istore (lv' := [(4, .int (((l0 / (100 : Int32)) * (100 : Int32)) - l0)), (3, .int (l0 / (100 : Int32))), (0, .int (l0)), (2, .ref (g_va G (l2))), (5, .int (l5)), (6, .int (l6))]) C0.hx C0.hb dJ6_getChars_ba4f3_39 hl (by decide) rfl (fun ls hl => ?_)
      refine lv_iload_n C0.hx C0.hb dJ6_getChars_ba4f3_41 rfl (lv_at hl 1 rfl) ?_
      refine lv_istore_n (lv' := [(0, .int (l0 / (100 : Int32))), (4, .int (((l0 / (100 : Int32)) * (100 : Int32)) - l0)), (3, .int (l0 / (100 : Int32))), (2, .ref (g_va G (l2))), (5, .int (l5)), (6, .int (l6))]) C0.hx C0.hb dJ6_getChars_ba4f3_42 rfl hl (by decide) rfl (fun ls hl => ?_)
      refine lv_aload_n C0.hx C0.hb dJ6_getChars_ba4f3_43 rfl (lv_at hl 3 rfl) ?_
      refine lv_iinc (v := l5 + (-1 : Int32)) (lv' := [(5, .int (l5 + (-1 : Int32))), (0, .int (l0 / (100 : Int32))), (4, .int (((l0 / (100 : Int32)) * (100 : Int32)) - l0)), (3, .int (l0 / (100 : Int32))), (2, .ref (g_va G (l2))), (6, .int (l6))]) C0.hx C0.hb dJ6_getChars_ba4f3_44 hl (k := 4) rfl rfl (by decide) rfl (fun ls hl => ?_)
      refine lv_iload C0.hx C0.hb dJ6_getChars_ba4f3_47 (lv_at hl 0 rfl) ?_
      refine h_D1 C0 hW tf_J6_83 dJ6_getChars_ba4f3_49 ?_
      refine lv_iload C0.hx C0.hb dJ6_getChars_ba4f3_52 (lv_at hl 2 rfl) ?_
      obtain ⟨hn10, h⟩ := g_if h
      refine h_D1at C0 hW hn10 dJ6_getChars_ba4f3_54 ?_
      obtain ⟨hk11, h⟩ := g_if h
      obtain ⟨hn12, h⟩ := g_if h
      refine hs_61v C0 hW hk11 hn12 dJ6_getChars_ba4f3_55 (fun H locs hW => ?_)
      refine h_fwi hW ?_
      refine lv_aload_n C0.hx C0.hb dJ6_getChars_ba4f3_56 rfl (lv_at hl 4 rfl) ?_
      refine lv_iinc (v := (l5 + (-1 : Int32)) + (-1 : Int32)) (lv' := [(5, .int ((l5 + (-1 : Int32)) + (-1 : Int32))), (0, .int (l0 / (100 : Int32))), (4, .int (((l0 / (100 : Int32)) * (100 : Int32)) - l0)), (3, .int (l0 / (100 : Int32))), (2, .ref (g_va G (l2))), (6, .int (l6))]) C0.hx C0.hb dJ6_getChars_ba4f3_57 hl (k := 0) rfl rfl (by decide) rfl (fun ls hl => ?_)
      refine lv_iload C0.hx C0.hb dJ6_getChars_ba4f3_60 (lv_at hl 0 rfl) ?_
      refine h_D2 C0 hW tf_J6_87 dJ6_getChars_ba4f3_62 ?_
      refine lv_iload C0.hx C0.hb dJ6_getChars_ba4f3_65 (lv_at hl 2 rfl) ?_
      obtain ⟨hn13, h⟩ := g_if h
      refine h_D2at C0 hW hn13 dJ6_getChars_ba4f3_67 ?_
      obtain ⟨hn14, h⟩ := g_if h
      refine hs_61v C0 hW hk11 hn14 dJ6_getChars_ba4f3_68 (fun H locs hW => ?_)
      refine h_fwi hW ?_
      refine lv_goto (tgt := 22) C0.hx C0.hb dJ6_getChars_ba4f3_69 (by decide) ?_
      have hz := ih _ _ _ _ _ _ _ _ h hW (lv_sub hl [1, 4, 0, 5] rfl)
      exact hz
set_option maxRecDepth 100000 in
set_option maxHeartbeats 4000000 in
theorem w_l_J6_getChars_ba4f3_12 {p : Program} {l : Launch} {e : Env} {s : State} {m : MethodId} {args : Array Value} {below : List Frame} {meth : Method} {c : Code} {G : GL} {o : Nat → Int32} {y0 : MS} {x : CS} {q : Int32 × MS}  (C0 : g_X G (List.range 120) p s m args meth c cJ6_getChars_ba4f3 7 RJ6 (Option.some Jvm.ClassFile.FieldType.int))  : ∀  (l0 : Int32) (l2 : Nat) (l5 : Int32) (s0 : Int32) (y : MS) (H : Heap) (locs : List Loc) (ls : Array Slot), f_l_J6_getChars_ba4f3_12 l0 l2 l5 s0 y = some q → h_W G y0 (x, y, o) s.heap H locs → lv_has ls 7 [(0, .int (l0)), (2, .ref (g_va G (l2))), (5, .int (l5))] → W p l e (h_lv 1 y0) s m args below meth c H locs (h_nx y - h_nx y0) (h_sl y - h_sl y0) (MQ below (h_Qi G y0 q.1 (x, q.2, o)) args s (h_nx q.2 - h_nx y0) (h_sl q.2 - h_sl y0) (g_A G)) (F0 m 12 ls [.int (s0)]) := by
  intro l0 l2 l5 s0 y H locs ls h hW hl
  unfold f_l_J6_getChars_ba4f3_12 at h
  refine lv_istore (lv' := [(6, .int (s0)), (0, .int (l0)), (2, .ref (g_va G (l2))), (5, .int (l5))]) C0.hx C0.hb dJ6_getChars_ba4f3_12 hl (by decide) rfl (fun ls hl => ?_)
  refine lv_iload C0.hx C0.hb dJ6_getChars_ba4f3_14 (lv_at hl 0 rfl) ?_
  refine lv_if_ne (tgt := 22) C0.hx C0.hb dJ6_getChars_ba4f3_16 (by decide) (fun hc2 => ?_) (fun hc2 => ?_)
  · replace h := (if_neg hc2).symm.trans h
    have hz := w_l_J6_getChars_ba4f3_22 (l := l) (e := e) (below := below) C0 g_fuel _ _ _ _ _ _ _ _ h hW (lv_sub hl [1, 2, 3, 0] rfl)
    exact hz
  · replace h := (if_pos hc2).symm.trans h
    refine lv_iload_n C0.hx C0.hb dJ6_getChars_ba4f3_19 rfl (lv_at hl 1 rfl) ?_
    refine lv_ineg C0.hx C0.hb dJ6_getChars_ba4f3_20 ?_
    refine lv_istore_n (lv' := [(0, .int (-l0)), (6, .int (s0)), (2, .ref (g_va G (l2))), (5, .int (l5))]) C0.hx C0.hb dJ6_getChars_ba4f3_21 rfl hl (by decide) rfl (fun ls hl => ?_)
    have hz := w_l_J6_getChars_ba4f3_22 (l := l) (e := e) (below := below) C0 g_fuel _ _ _ _ _ _ _ _ h hW (lv_sub hl [0, 2, 3, 1] rfl)
    exact hz
set_option maxRecDepth 100000 in
set_option maxHeartbeats 4000000 in
theorem c_l_J6_getChars_ba4f3 {l : Launch} {G : GL} {o : Nat → Int32} {x : CS} {y : MS} {p1 : Int32} {p2 : Int32} {p3 : Nat} {q : Int32 × MS} (h : f_l_J6_getChars_ba4f3 p1 p2 p3 y = some q) : Met l yJ6_getChars_ba4f3 (.code yJ6_getChars_ba4f3 cJ6_getChars_ba4f3 7 (Option.some Jvm.ClassFile.FieldType.int) :: gT) (h_lv 1 y) (va_Pc [.int (p1), .int (p2), .ref (g_va G (p3))] (h_P G (x, y, o))) (h_Qi G y q.1 (x, q.2, o)) (h_nx q.2 - h_nx y) (h_sl q.2 - h_sl y) (g_A G) := by
  unfold f_l_J6_getChars_ba4f3 at h
  refine h_entry (by decide) (Nat.le_of_ble_eq_true rfl) (fun p e s m args below meth c ls C0 hl hW hin_ => ?_)
  have hl : lv_has ls 7 [(0, .int (p1)), (1, .int (p2)), (2, .ref (g_va G (p3)))] := hl
  refine lv_iload_n C0.hx C0.hb dJ6_getChars_ba4f3_0 rfl (lv_at hl 1 rfl) ?_
  refine lv_istore (lv' := [(5, .int (p2)), (0, .int (p1)), (1, .int (p2)), (2, .ref (g_va G (p3)))]) C0.hx C0.hb dJ6_getChars_ba4f3_1 hl (by decide) rfl (fun ls hl => ?_)
  refine lv_iload_n C0.hx C0.hb dJ6_getChars_ba4f3_3 rfl (lv_at hl 1 rfl) ?_
  refine lv_if_ge (tgt := 11) C0.hx C0.hb dJ6_getChars_ba4f3_4 (by decide) (fun hc1 => ?_) (fun hc1 => ?_)
  · replace h := (if_pos hc1).symm.trans h
    refine lv_iconst (v := (0 : Int32)) C0.hx C0.hb dJ6_getChars_ba4f3_11 (by decide) ?_
    have hz := w_l_J6_getChars_ba4f3_12 (l := l) (e := e) (below := below) C0 _ _ _ _ _ _ _ _ h hW (lv_sub hl [1, 3, 0] rfl)
    exact hz
  · replace h := (if_neg hc1).symm.trans h
    refine lv_iconst (v := (1 : Int32)) C0.hx C0.hb dJ6_getChars_ba4f3_7 (by decide) ?_
    refine lv_goto (tgt := 12) C0.hx C0.hb dJ6_getChars_ba4f3_8 (by decide) ?_
    have hz := w_l_J6_getChars_ba4f3_12 (l := l) (e := e) (below := below) C0 _ _ _ _ _ _ _ _ h hW (lv_sub hl [1, 3, 0] rfl)
    exact hz
set_option maxRecDepth 100000 in
set_option maxHeartbeats 4000000 in
theorem c_l_J6_compare_7cf53 {l : Launch} {G : GL} {o : Nat → Int32} {x : CS} {y : MS} {p1 : Int32} {p2 : Int32} {q : Int32} (h : f_l_J6_compare_7cf53 p1 p2 = some q) : Met l yJ6_compare_7cf53 (.code yJ6_compare_7cf53 cJ6_compare_7cf53 2 (Option.some Jvm.ClassFile.FieldType.int) :: gT) (h_lv 1 y) (va_Pc [.int (p1), .int (p2)] (h_P G (x, y, o))) (h_Qi G y q (x, y, o)) (h_nx y - h_nx y) (h_sl y - h_sl y) (g_A G) := by
  unfold f_l_J6_compare_7cf53 at h
  refine h_entry (by decide) (Nat.le_of_ble_eq_true rfl) (fun p e s m args below meth c ls C0 hl hW hin_ => ?_)
  have hl : lv_has ls 2 [(0, .int (p1)), (1, .int (p2))] := hl
  refine lv_iload_n C0.hx C0.hb dJ6_compare_7cf53_0 rfl (lv_at hl 0 rfl) ?_
  refine lv_iload_n C0.hx C0.hb dJ6_compare_7cf53_1 rfl (lv_at hl 1 rfl) ?_
  refine lv_icmp_ge (tgt := 9) C0.hx C0.hb dJ6_compare_7cf53_2 (by decide) (fun hc1 => ?_) (fun hc1 => ?_)
  · replace h := (if_pos hc1).symm.trans h
    refine lv_iload_n C0.hx C0.hb dJ6_compare_7cf53_9 rfl (lv_at hl 0 rfl) ?_
    refine lv_iload_n C0.hx C0.hb dJ6_compare_7cf53_10 rfl (lv_at hl 1 rfl) ?_
    refine lv_icmp_ne (tgt := 18) C0.hx C0.hb dJ6_compare_7cf53_11 (by decide) (fun hc2 => ?_) (fun hc2 => ?_)
    · replace h := (if_neg hc2).symm.trans h
      refine lv_iconst (v := (1 : Int32)) C0.hx C0.hb dJ6_compare_7cf53_18 (by decide) ?_
      obtain rfl := Option.some.inj h
      exact h_iret C0 hW rfl rfl dJ6_compare_7cf53_19
    · replace h := (if_pos hc2).symm.trans h
      refine lv_iconst (v := (0 : Int32)) C0.hx C0.hb dJ6_compare_7cf53_14 (by decide) ?_
      refine lv_goto (tgt := 19) C0.hx C0.hb dJ6_compare_7cf53_15 (by decide) ?_
      obtain rfl := Option.some.inj h
      exact h_iret C0 hW rfl rfl dJ6_compare_7cf53_19
  · replace h := (if_neg hc1).symm.trans h
    refine lv_iconst (v := (-1 : Int32)) C0.hx C0.hb dJ6_compare_7cf53_5 (by decide) ?_
    refine lv_goto (tgt := 19) C0.hx C0.hb dJ6_compare_7cf53_6 (by decide) ?_
    obtain rfl := Option.some.inj h
    exact h_iret C0 hW rfl rfl dJ6_compare_7cf53_19
set_option maxRecDepth 100000 in
set_option maxHeartbeats 4000000 in
theorem w_l_J8_newLength_cabcc_21 {p : Program} {l : Launch} {e : Env} {s : State} {m : MethodId} {args : Array Value} {below : List Frame} {meth : Method} {c : Code} {G : GL} {o : Nat → Int32} {y : MS} {x : CS} {q : Int32}  (C0 : g_X G (List.range 120) p s m args meth c cJ8_newLength_cabcc 4 RJ8 (Option.some Jvm.ClassFile.FieldType.int))  : ∀  (l0 : Int32) (l1 : Int32) (H : Heap) (locs : List Loc) (ls : Array Slot), f_l_J8_newLength_cabcc_21 l0 l1 = some q → h_W G y (x, y, o) s.heap H locs → lv_has ls 4 [(0, .int (l0)), (1, .int (l1))] → W p l e (h_lv 2 y) s m args below meth c H locs (h_nx y - h_nx y) (h_sl y - h_sl y) (MQ below (h_Qi G y q (x, y, o)) args s (h_nx y - h_nx y) (h_sl y - h_sl y) (g_A G)) (F0 m 21 ls []) := by
  intro l0 l1 H locs ls h hW hl
  unfold f_l_J8_newLength_cabcc_21 at h
  refine lv_iload_n C0.hx C0.hb dJ8_newLength_cabcc_21 rfl (lv_at hl 0 rfl) ?_
  refine lv_iload_n C0.hx C0.hb dJ8_newLength_cabcc_22 rfl (lv_at hl 1 rfl) ?_
  cases h
set_option maxRecDepth 100000 in
set_option maxHeartbeats 4000000 in
theorem c_l_J8_newLength_cabcc {l : Launch} {G : GL} {o : Nat → Int32} {x : CS} {y : MS} {p1 : Int32} {p2 : Int32} {p3 : Int32} {q : Int32} (h : f_l_J8_newLength_cabcc p1 p2 p3 = some q) : Met l yJ8_newLength_cabcc (.code yJ8_newLength_cabcc cJ8_newLength_cabcc 4 (Option.some Jvm.ClassFile.FieldType.int) :: gT) (h_lv 2 y) (va_Pc [.int (p1), .int (p2), .int (p3)] (h_P G (x, y, o))) (h_Qi G y q (x, y, o)) (h_nx y - h_nx y) (h_sl y - h_sl y) (g_A G) := by
  unfold f_l_J8_newLength_cabcc at h
  refine h_entry (by decide) (Nat.le_of_ble_eq_true rfl) (fun p e s m args below meth c ls C0 hl hW hin_ => ?_)
  have hl : lv_has ls 4 [(0, .int (p1)), (1, .int (p2)), (2, .int (p3))] := hl
  refine lv_iload_n C0.hx C0.hb dJ8_newLength_cabcc_0 rfl (lv_at hl 0 rfl) ?_
  refine lv_iload_n C0.hx C0.hb dJ8_newLength_cabcc_1 rfl (lv_at hl 1 rfl) ?_
  refine lv_iload_n C0.hx C0.hb dJ8_newLength_cabcc_2 rfl (lv_at hl 2 rfl) ?_
  refine h_maxR C0 hW hl.1 (by show 1 ≤ 2; omega) (Nat.le_of_ble_eq_true rfl) tm_J8_194 dJ8_newLength_cabcc_3 ?_
  refine lv_iadd C0.hx C0.hb dJ8_newLength_cabcc_6 ?_
  refine lv_istore_n (lv' := [(3, .int (p1 + (g_max p2 p3))), (0, .int (p1)), (1, .int (p2)), (2, .int (p3))]) C0.hx C0.hb dJ8_newLength_cabcc_7 rfl hl (by decide) rfl (fun ls hl => ?_)
  refine lv_iconst (v := (0 : Int32)) C0.hx C0.hb dJ8_newLength_cabcc_8 (by decide) ?_
  refine lv_iload_n C0.hx C0.hb dJ8_newLength_cabcc_9 rfl (lv_at hl 0 rfl) ?_
  refine lv_icmp_ge (tgt := 21) C0.hx C0.hb dJ8_newLength_cabcc_10 (by decide) (fun hc1 => ?_) (fun hc1 => ?_)
  · replace h := (if_pos hc1).symm.trans h
    have hz := w_l_J8_newLength_cabcc_21 (l := l) (e := e) (below := below) C0 _ _ _ _ _ h hW (lv_sub hl [1, 2] rfl)
    exact hz
  · replace h := (if_neg hc1).symm.trans h
    refine lv_iload_n C0.hx C0.hb dJ8_newLength_cabcc_13 rfl (lv_at hl 0 rfl) ?_
    refine lv_ldc C0.hx C0.hb C0.hown (C0.hts _ tq_J8_200) dJ8_newLength_cabcc_14 ?_
    refine lv_icmp_gt (tgt := 21) C0.hx C0.hb dJ8_newLength_cabcc_16 (by decide) (fun hc2 => ?_) (fun hc2 => ?_)
    · replace h := (if_pos hc2).symm.trans h
      have hz := w_l_J8_newLength_cabcc_21 (l := l) (e := e) (below := below) C0 _ _ _ _ _ h hW (lv_sub hl [1, 2] rfl)
      exact hz
    · replace h := (if_neg hc2).symm.trans h
      refine lv_iload_n C0.hx C0.hb dJ8_newLength_cabcc_19 rfl (lv_at hl 0 rfl) ?_
      obtain rfl := Option.some.inj h
      exact h_iret C0 hW rfl rfl dJ8_newLength_cabcc_20
set_option maxRecDepth 100000 in
set_option maxHeartbeats 4000000 in
theorem c_l_J7_checkLength_df160 {l : Launch} {G : GL} {o : Nat → Int32} {x : CS} {y : MS} {p1 : Int32} {p2 : Int32} {q : Unit} (h : f_l_J7_checkLength_df160 p1 p2 = some q) : Met l yJ7_checkLength_df160 (.code yJ7_checkLength_df160 cJ7_checkLength_df160 2 (Option.none : Option Jvm.ClassFile.FieldType) :: gT) (h_lv 1 y) (va_Pc [.int (p1), .int (p2)] (h_P G (x, y, o))) (h_Qv G y (x, y, o)) (h_nx y - h_nx y) (h_sl y - h_sl y) (g_A G) := by
  unfold f_l_J7_checkLength_df160 at h
  refine h_entry (by decide) (Nat.le_of_ble_eq_true rfl) (fun p e s m args below meth c ls C0 hl hW hin_ => ?_)
  have hl : lv_has ls 2 [(0, .int (p1)), (1, .int (p2))] := hl
  refine lv_iload_n C0.hx C0.hb dJ7_checkLength_df160_0 rfl (lv_at hl 1 rfl) ?_
  refine lv_iload_n C0.hx C0.hb dJ7_checkLength_df160_1 rfl (lv_at hl 0 rfl) ?_
  refine lv_icmp_ge (tgt := 37) C0.hx C0.hb dJ7_checkLength_df160_2 (by decide) (fun hc1 => ?_) (fun hc1 => ?_)
  · replace h := (if_pos hc1).symm.trans h
    obtain rfl := Option.some.inj h
    exact h_vret C0 hW rfl dJ7_checkLength_df160_37
  · replace h := (if_neg hc1).symm.trans h
    cases h
set_option maxRecDepth 100000 in
set_option maxHeartbeats 4000000 in
theorem c_l_J7_copyOf_9075b {l : Launch} {G : GL} {o : Nat → Int32} {x : CS} {y : MS} {p1 : Nat} {p2 : Int32} {q : Nat × MS} (h : f_l_J7_copyOf_9075b p1 p2 y = some q) : Met l yJ7_copyOf_9075b (.code yJ7_copyOf_9075b cJ7_copyOf_9075b 3 (Option.some (Jvm.ClassFile.FieldType.array Jvm.ClassFile.FieldType.byte)) :: gT) (h_lv 2 y) (va_Pc [.ref (g_va G (p1)), .int (p2)] (h_P G (x, y, o))) (h_Qr G y (.ref (g_va G (q.1))) (x, q.2, o)) (h_nx q.2 - h_nx y) (h_sl q.2 - h_sl y) (g_A G) := by
  unfold f_l_J7_copyOf_9075b at h
  refine h_entry (by decide) (Nat.le_of_ble_eq_true rfl) (fun p e s m args below meth c ls C0 hl hW hin_ => ?_)
  have hl : lv_has ls 3 [(0, .ref (g_va G (p1))), (1, .int (p2))] := hl
  refine lv_iload_n C0.hx C0.hb dJ7_copyOf_9075b_0 rfl (lv_at hl 1 rfl) ?_
  refine lv_aload_n C0.hx C0.hb dJ7_copyOf_9075b_1 rfl (lv_at hl 0 rfl) ?_
  obtain ⟨hn1, h⟩ := g_if h
  refine h_vlen C0 hW hn1 dJ7_copyOf_9075b_2 ?_
  refine lv_icmp_ne (tgt := 14) C0.hx C0.hb dJ7_copyOf_9075b_3 (by decide) (fun hc2 => ?_) (fun hc2 => ?_)
  · replace h := (if_neg hc2).symm.trans h
    refine lv_iload_n C0.hx C0.hb dJ7_copyOf_9075b_14 rfl (lv_at hl 1 rfl) ?_
    obtain ⟨hn3, h⟩ := g_if h
    obtain ⟨hn4, h⟩ := g_if h
    refine hn_61v C0 hW hn3 hn4 dJ7_copyOf_9075b_15 (fun H hW => ?_)
    refine lv_astore_n (lv' := [(2, .ref (g_va G (h_nx y))), (0, .ref (g_va G (p1))), (1, .int (p2))]) C0.hx C0.hb dJ7_copyOf_9075b_17 rfl hl (by decide) rfl (fun ls hl => ?_)
    refine lv_aload_n C0.hx C0.hb dJ7_copyOf_9075b_18 rfl (lv_at hl 1 rfl) ?_
    refine lv_iconst (v := (0 : Int32)) C0.hx C0.hb dJ7_copyOf_9075b_19 (by decide) ?_
    refine lv_aload_n C0.hx C0.hb dJ7_copyOf_9075b_20 rfl (lv_at hl 0 rfl) ?_
    refine lv_iconst (v := (0 : Int32)) C0.hx C0.hb dJ7_copyOf_9075b_21 (by decide) ?_
    refine lv_aload_n C0.hx C0.hb dJ7_copyOf_9075b_22 rfl (lv_at hl 1 rfl) ?_
    obtain ⟨hn5, h⟩ := g_if h
    refine h_vlen C0 hW hn5 dJ7_copyOf_9075b_23 ?_
    refine lv_iload_n C0.hx C0.hb dJ7_copyOf_9075b_24 rfl (lv_at hl 2 rfl) ?_
    refine h_minR C0 hW hl.1 (by show 1 ≤ 2; omega) (Nat.le_of_ble_eq_true rfl) tm_J7_304 dJ7_copyOf_9075b_25 ?_
    obtain ⟨hk6, h⟩ := g_if h
    obtain ⟨hn7, h⟩ := g_if h
    obtain ⟨hn8, h⟩ := g_if h
    obtain ⟨hn9, h⟩ := g_if h
    refine h_acopy C0 hW hk6 hn7 hn8 hn9 hl.1 (by show 1 ≤ 2; omega) (Nat.le_of_ble_eq_true rfl) tm_J7_150 dJ7_copyOf_9075b_28 (fun H locs hW => ?_)
    refine h_fwa hW ?_
    refine lv_aload_n C0.hx C0.hb dJ7_copyOf_9075b_31 rfl (lv_at hl 0 rfl) ?_
    obtain rfl := Option.some.inj h
    exact h_aretA C0 hW rfl rfl dJ7_copyOf_9075b_32
  · replace h := (if_pos hc2).symm.trans h
    refine lv_aload_n C0.hx C0.hb dJ7_copyOf_9075b_6 rfl (lv_at hl 0 rfl) ?_
    obtain ⟨hk10, h⟩ := g_if h
    obtain ⟨hn11, h⟩ := g_if h
    obtain ⟨hn12, h⟩ := g_if h
    refine hcl_61v C0 hW hk10 hn11 hn12 (by show 1 ≤ 2; omega) (Nat.le_of_ble_eq_true rfl) hl.1 tm_J7_310 ti_java_lang_Object_clone tsB_clone dJ7_copyOf_9075b_7 (fun H hW => ?_)
    obtain ⟨hn13, h⟩ := g_if h
    refine hca_61v C0 hW hn13 tl_J7_311 dJ7_copyOf_9075b_10 ?_
    obtain rfl := Option.some.inj h
    exact h_aretA C0 hW rfl rfl dJ7_copyOf_9075b_13
set_option maxRecDepth 100000 in
set_option maxHeartbeats 4000000 in
theorem c_l_J7_copyOfRangeByte_39247 {l : Launch} {G : GL} {o : Nat → Int32} {x : CS} {y : MS} {p1 : Nat} {p2 : Int32} {p3 : Int32} {q : Nat × MS} (h : f_l_J7_copyOfRangeByte_39247 p1 p2 p3 y = some q) : Met l yJ7_copyOfRangeByte_39247 (.code yJ7_copyOfRangeByte_39247 cJ7_copyOfRangeByte_39247 5 (Option.some (Jvm.ClassFile.FieldType.array Jvm.ClassFile.FieldType.byte)) :: gT) (h_lv 2 y) (va_Pc [.ref (g_va G (p1)), .int (p2), .int (p3)] (h_P G (x, y, o))) (h_Qr G y (.ref (g_va G (q.1))) (x, q.2, o)) (h_nx q.2 - h_nx y) (h_sl q.2 - h_sl y) (g_A G) := by
  unfold f_l_J7_copyOfRangeByte_39247 at h
  refine h_entry (by decide) (Nat.le_of_ble_eq_true rfl) (fun p e s m args below meth c ls C0 hl hW hin_ => ?_)
  have hl : lv_has ls 5 [(0, .ref (g_va G (p1))), (1, .int (p2)), (2, .int (p3))] := hl
  refine lv_iload_n C0.hx C0.hb dJ7_copyOfRangeByte_39247_0 rfl (lv_at hl 1 rfl) ?_
  refine lv_iload_n C0.hx C0.hb dJ7_copyOfRangeByte_39247_1 rfl (lv_at hl 2 rfl) ?_
  obtain ⟨q1, hq1, h⟩ := Option.bind_eq_some_iff.mp h
  refine h_callv hW (h_runS (As := [.int (p2), .int (p3)]) (rest := []) C0 hW (c_l_J7_checkLength_df160 hq1) cy_J7_checkLength_df160 (by omega) tm_J7_343 tz_J7_checkLength_df160 rfl hl.1 rfl (Nat.le_of_ble_eq_true rfl) dJ7_copyOfRangeByte_39247_2) (fun H locs hW => ?_)
  refine lv_iload_n C0.hx C0.hb dJ7_copyOfRangeByte_39247_5 rfl (lv_at hl 2 rfl) ?_
  refine lv_iload_n C0.hx C0.hb dJ7_copyOfRangeByte_39247_6 rfl (lv_at hl 1 rfl) ?_
  refine lv_isub C0.hx C0.hb dJ7_copyOfRangeByte_39247_7 ?_
  refine lv_istore_n (lv' := [(3, .int (p3 - p2)), (0, .ref (g_va G (p1))), (1, .int (p2)), (2, .int (p3))]) C0.hx C0.hb dJ7_copyOfRangeByte_39247_8 rfl hl (by decide) rfl (fun ls hl => ?_)
  refine lv_iload_n C0.hx C0.hb dJ7_copyOfRangeByte_39247_9 rfl (lv_at hl 0 rfl) ?_
  obtain ⟨hn2, h⟩ := g_if h
  obtain ⟨hn3, h⟩ := g_if h
  refine hn_61v C0 hW hn2 hn3 dJ7_copyOfRangeByte_39247_10 (fun H hW => ?_)
  refine lv_astore (lv' := [(4, .ref (g_va G (h_nx y))), (3, .int (p3 - p2)), (0, .ref (g_va G (p1))), (1, .int (p2)), (2, .int (p3))]) C0.hx C0.hb dJ7_copyOfRangeByte_39247_12 hl (by decide) rfl (fun ls hl => ?_)
  refine lv_aload_n C0.hx C0.hb dJ7_copyOfRangeByte_39247_14 rfl (lv_at hl 2 rfl) ?_
  refine lv_iload_n C0.hx C0.hb dJ7_copyOfRangeByte_39247_15 rfl (lv_at hl 3 rfl) ?_
  refine lv_aload C0.hx C0.hb dJ7_copyOfRangeByte_39247_16 (lv_at hl 0 rfl) ?_
  refine lv_iconst (v := (0 : Int32)) C0.hx C0.hb dJ7_copyOfRangeByte_39247_18 (by decide) ?_
  refine lv_aload_n C0.hx C0.hb dJ7_copyOfRangeByte_39247_19 rfl (lv_at hl 2 rfl) ?_
  obtain ⟨hn4, h⟩ := g_if h
  refine h_vlen C0 hW hn4 dJ7_copyOfRangeByte_39247_20 ?_
  refine lv_iload_n C0.hx C0.hb dJ7_copyOfRangeByte_39247_21 rfl (lv_at hl 3 rfl) ?_
  refine lv_isub C0.hx C0.hb dJ7_copyOfRangeByte_39247_22 ?_
  refine lv_iload_n C0.hx C0.hb dJ7_copyOfRangeByte_39247_23 rfl (lv_at hl 1 rfl) ?_
  refine h_minR C0 hW hl.1 (by show 1 ≤ 2; omega) (Nat.le_of_ble_eq_true rfl) tm_J7_304 dJ7_copyOfRangeByte_39247_24 ?_
  obtain ⟨hk5, h⟩ := g_if h
  obtain ⟨hn6, h⟩ := g_if h
  obtain ⟨hn7, h⟩ := g_if h
  obtain ⟨hn8, h⟩ := g_if h
  refine h_acopy C0 hW hk5 hn6 hn7 hn8 hl.1 (by show 1 ≤ 2; omega) (Nat.le_of_ble_eq_true rfl) tm_J7_150 dJ7_copyOfRangeByte_39247_27 (fun H locs hW => ?_)
  refine h_fwa hW ?_
  refine lv_aload C0.hx C0.hb dJ7_copyOfRangeByte_39247_30 (lv_at hl 0 rfl) ?_
  obtain rfl := Option.some.inj h
  exact h_aretA C0 hW rfl rfl dJ7_copyOfRangeByte_39247_32
set_option maxRecDepth 100000 in
set_option maxHeartbeats 4000000 in
theorem w_l_J7_copyOfRange_39247_10 {p : Program} {l : Launch} {e : Env} {s : State} {m : MethodId} {args : Array Value} {below : List Frame} {meth : Method} {c : Code} {G : GL} {o : Nat → Int32} {y0 : MS} {x : CS} {q : Nat × MS}  (C0 : g_X G (List.range 120) p s m args meth c cJ7_copyOfRange_39247 3 RJ7 (Option.some (Jvm.ClassFile.FieldType.array Jvm.ClassFile.FieldType.byte)))  : ∀  (l0 : Nat) (l1 : Int32) (l2 : Int32) (y : MS) (H : Heap) (locs : List Loc) (ls : Array Slot), f_l_J7_copyOfRange_39247_10 l0 l1 l2 y = some q → h_W G y0 (x, y, o) s.heap H locs → lv_has ls 3 [(0, .ref (g_va G (l0))), (1, .int (l1)), (2, .int (l2))] → W p l e (h_lv 3 y0) s m args below meth c H locs (h_nx y - h_nx y0) (h_sl y - h_sl y0) (MQ below (h_Qr G y0 (.ref (g_va G (q.1))) (x, q.2, o)) args s (h_nx q.2 - h_nx y0) (h_sl q.2 - h_sl y0) (g_A G)) (F0 m 10 ls []) := by
  intro l0 l1 l2 y H locs ls h hW hl
  unfold f_l_J7_copyOfRange_39247_10 at h
  refine lv_aload_n C0.hx C0.hb dJ7_copyOfRange_39247_10 rfl (lv_at hl 0 rfl) ?_
  refine lv_iload_n C0.hx C0.hb dJ7_copyOfRange_39247_11 rfl (lv_at hl 1 rfl) ?_
  refine lv_iload_n C0.hx C0.hb dJ7_copyOfRange_39247_12 rfl (lv_at hl 2 rfl) ?_
  obtain ⟨q8, hq8, h⟩ := Option.bind_eq_some_iff.mp h
  refine h_callr hW (h_runS (As := [.ref (g_va G (l0)), .int (l1), .int (l2)]) (rest := []) C0 hW (c_l_J7_copyOfRangeByte_39247 hq8) cy_J7_copyOfRangeByte_39247 (by omega) tm_J7_339 tz_J7_copyOfRangeByte_39247 rfl hl.1 rfl (Nat.le_of_ble_eq_true rfl) dJ7_copyOfRange_39247_13) (fun H locs hW => ?_)
  obtain rfl := Option.some.inj h
  exact h_aretA C0 hW rfl rfl dJ7_copyOfRange_39247_16
set_option maxRecDepth 100000 in
set_option maxHeartbeats 4000000 in
theorem c_l_J7_copyOfRange_39247 {l : Launch} {G : GL} {o : Nat → Int32} {x : CS} {y : MS} {p1 : Nat} {p2 : Int32} {p3 : Int32} {q : Nat × MS} (h : f_l_J7_copyOfRange_39247 p1 p2 p3 y = some q) : Met l yJ7_copyOfRange_39247 (.code yJ7_copyOfRange_39247 cJ7_copyOfRange_39247 3 (Option.some (Jvm.ClassFile.FieldType.array Jvm.ClassFile.FieldType.byte)) :: gT) (h_lv 3 y) (va_Pc [.ref (g_va G (p1)), .int (p2), .int (p3)] (h_P G (x, y, o))) (h_Qr G y (.ref (g_va G (q.1))) (x, q.2, o)) (h_nx q.2 - h_nx y) (h_sl q.2 - h_sl y) (g_A G) := by
  unfold f_l_J7_copyOfRange_39247 at h
  refine h_entry (by decide) (Nat.le_of_ble_eq_true rfl) (fun p e s m args below meth c ls C0 hl hW hin_ => ?_)
  have hl : lv_has ls 3 [(0, .ref (g_va G (p1))), (1, .int (p2)), (2, .int (p3))] := hl
  refine lv_iload_n C0.hx C0.hb dJ7_copyOfRange_39247_0 rfl (lv_at hl 1 rfl) ?_
  refine lv_if_ne (tgt := 10) C0.hx C0.hb dJ7_copyOfRange_39247_1 (by decide) (fun hc1 => ?_) (fun hc1 => ?_)
  · replace h := (if_neg hc1).symm.trans h
    have hz := w_l_J7_copyOfRange_39247_10 (l := l) (e := e) (below := below) C0 _ _ _ _ _ _ _ h hW (lv_sub hl [0, 1, 2] rfl)
    exact hz
  · replace h := (if_pos hc1).symm.trans h
    refine lv_iload_n C0.hx C0.hb dJ7_copyOfRange_39247_4 rfl (lv_at hl 2 rfl) ?_
    refine lv_aload_n C0.hx C0.hb dJ7_copyOfRange_39247_5 rfl (lv_at hl 0 rfl) ?_
    obtain ⟨hn2, h⟩ := g_if h
    refine h_vlen C0 hW hn2 dJ7_copyOfRange_39247_6 ?_
    refine lv_icmp_eq (tgt := 17) C0.hx C0.hb dJ7_copyOfRange_39247_7 (by decide) (fun hc3 => ?_) (fun hc3 => ?_)
    · replace h := (if_pos hc3).symm.trans h
      refine lv_aload_n C0.hx C0.hb dJ7_copyOfRange_39247_17 rfl (lv_at hl 0 rfl) ?_
      obtain ⟨hk4, h⟩ := g_if h
      obtain ⟨hn5, h⟩ := g_if h
      obtain ⟨hn6, h⟩ := g_if h
      refine hcl_61v C0 hW hk4 hn5 hn6 (by show 1 ≤ 3; omega) (Nat.le_of_ble_eq_true rfl) hl.1 tm_J7_310 ti_java_lang_Object_clone tsB_clone dJ7_copyOfRange_39247_18 (fun H hW => ?_)
      obtain ⟨hn7, h⟩ := g_if h
      refine hca_61v C0 hW hn7 tl_J7_311 dJ7_copyOfRange_39247_21 ?_
      obtain rfl := Option.some.inj h
      exact h_aretA C0 hW rfl rfl dJ7_copyOfRange_39247_24
    · replace h := (if_neg hc3).symm.trans h
      have hz := w_l_J7_copyOfRange_39247_10 (l := l) (e := e) (below := below) C0 _ _ _ _ _ _ _ h hW (lv_sub hl [0, 1, 2] rfl)
      exact hz
set_option maxRecDepth 100000 in
set_option maxHeartbeats 4000000 in
theorem c_l_J0_coder_7d493 {l : Launch} {G : GL} {o : Nat → Int32} {x : CS} {y : MS} {t : Nat} {q : Int32} (h : f_l_J0_coder_7d493 t y = some q) : Met l yJ0_coder_7d493 (.code yJ0_coder_7d493 cJ0_coder_7d493 1 (Option.some Jvm.ClassFile.FieldType.byte) :: gT) (h_lv 1 y) (va_Pc [.ref (g_sa G (t))] (h_P G (x, y, o))) (h_Qi G y q (x, y, o)) (h_nx y - h_nx y) (h_sl y - h_sl y) (g_A G) := by
  unfold f_l_J0_coder_7d493 at h
  refine h_entry (by decide) (Nat.le_of_ble_eq_true rfl) (fun p e s m args below meth c ls C0 hl hW hin_ => ?_)
  have hl : lv_has ls 1 [(0, .ref (g_sa G (t)))] := hl
  refine g_compact (h_up C0 _) hW.1 tf_J0_38 dJ0_coder_7d493_0 ?_
  refine lv_if_eq (tgt := 13) C0.hx C0.hb dJ0_coder_7d493_3 (by decide) (fun hc1 => ?_) (fun hc1 => ?_)
  · replace h := (if_pos hc1).symm.trans h
    refine lv_iconst (v := (1 : Int32)) C0.hx C0.hb dJ0_coder_7d493_13 (by decide) ?_
    obtain ⟨hn2, h⟩ := g_if h
    obtain rfl := Option.some.inj h
    exact h_iret C0 hW rfl hn2 dJ0_coder_7d493_14
  · replace h := (if_neg hc1).symm.trans h
    refine lv_aload_n C0.hx C0.hb dJ0_coder_7d493_6 rfl (lv_at hl 0 rfl) ?_
    obtain ⟨hn3, h⟩ := g_if h
    refine h_scod C0 hW hn3 tf_J0_15 dJ0_coder_7d493_7 ?_
    refine lv_goto (tgt := 14) C0.hx C0.hb dJ0_coder_7d493_10 (by decide) ?_
    obtain ⟨hn4, h⟩ := g_if h
    obtain rfl := Option.some.inj h
    exact h_iret C0 hW rfl hn4 dJ0_coder_7d493_14
set_option maxRecDepth 100000 in
set_option maxHeartbeats 4000000 in
theorem c_l_J0_getBytes_840e7 {l : Launch} {G : GL} {o : Nat → Int32} {x : CS} {y : MS} {t : Nat} {p1 : Nat} {p2 : Int32} {p3 : Int32} {q : MS} (h : f_l_J0_getBytes_840e7 t p1 p2 p3 y = some q) : Met l yJ0_getBytes_840e7 (.code yJ0_getBytes_840e7 cJ0_getBytes_840e7 4 (Option.none : Option Jvm.ClassFile.FieldType) :: gT) (h_lv 2 y) (va_Pc [.ref (g_sa G (t)), .ref (g_va G (p1)), .int (p2), .int (p3)] (h_P G (x, y, o))) (h_Qv G y (x, q, o)) (h_nx q - h_nx y) (h_sl q - h_sl y) (g_A G) := by
  unfold f_l_J0_getBytes_840e7 at h
  refine h_entry (by decide) (Nat.le_of_ble_eq_true rfl) (fun p e s m args below meth c ls C0 hl hW hin_ => ?_)
  have hl : lv_has ls 4 [(0, .ref (g_sa G (t))), (1, .ref (g_va G (p1))), (2, .int (p2)), (3, .int (p3))] := hl
  refine lv_aload_n C0.hx C0.hb dJ0_getBytes_840e7_0 rfl (lv_at hl 0 rfl) ?_
  obtain ⟨hn1, h⟩ := g_if h
  obtain ⟨q2, hq2, h⟩ := Option.bind_eq_some_iff.mp h
  refine h_calli hW (h_runV (As := []) (rest := []) C0 hW rfl (h_srecv C0 hW hn1) (c_l_J0_coder_7d493 hq2) cy_J0_coder_7d493 (by omega) tm_J0_335 ti_J0_coder_7d493 ts_J0_coder_7d493 rfl hl.1 rfl (Nat.le_of_ble_eq_true rfl) dJ0_getBytes_840e7_1) (fun H locs hW => ?_)
  refine lv_iload_n C0.hx C0.hb dJ0_getBytes_840e7_4 rfl (lv_at hl 3 rfl) ?_
  refine lv_icmp_ne (tgt := 28) C0.hx C0.hb dJ0_getBytes_840e7_5 (by decide) (fun hc3 => ?_) (fun hc3 => ?_)
  · replace h := (if_neg hc3).symm.trans h
    refine lv_aload_n C0.hx C0.hb dJ0_getBytes_840e7_28 rfl (lv_at hl 0 rfl) ?_
    obtain ⟨hn4, h⟩ := g_if h
    refine h_sval C0 hW hn4 tf_J0_9 dJ0_getBytes_840e7_29 ?_
    refine lv_iconst (v := (0 : Int32)) C0.hx C0.hb dJ0_getBytes_840e7_32 (by decide) ?_
    refine lv_aload_n C0.hx C0.hb dJ0_getBytes_840e7_33 rfl (lv_at hl 1 rfl) ?_
    refine lv_iload_n C0.hx C0.hb dJ0_getBytes_840e7_34 rfl (lv_at hl 2 rfl) ?_
    refine lv_aload_n C0.hx C0.hb dJ0_getBytes_840e7_35 rfl (lv_at hl 0 rfl) ?_
    obtain ⟨hn5, h⟩ := g_if h
    refine h_sval C0 hW hn5 tf_J0_9 dJ0_getBytes_840e7_36 ?_
    obtain ⟨hn6, h⟩ := g_if h
    refine h_vlen C0 hW hn6 dJ0_getBytes_840e7_39 ?_
    cases h
  · replace h := (if_pos hc3).symm.trans h
    refine lv_aload_n C0.hx C0.hb dJ0_getBytes_840e7_8 rfl (lv_at hl 0 rfl) ?_
    obtain ⟨hn7, h⟩ := g_if h
    refine h_sval C0 hW hn7 tf_J0_9 dJ0_getBytes_840e7_9 ?_
    refine lv_iconst (v := (0 : Int32)) C0.hx C0.hb dJ0_getBytes_840e7_12 (by decide) ?_
    refine lv_aload_n C0.hx C0.hb dJ0_getBytes_840e7_13 rfl (lv_at hl 1 rfl) ?_
    refine lv_iload_n C0.hx C0.hb dJ0_getBytes_840e7_14 rfl (lv_at hl 2 rfl) ?_
    refine lv_iload_n C0.hx C0.hb dJ0_getBytes_840e7_15 rfl (lv_at hl 3 rfl) ?_
    refine lv_ishl C0.hx C0.hb dJ0_getBytes_840e7_16 ?_
    refine lv_aload_n C0.hx C0.hb dJ0_getBytes_840e7_17 rfl (lv_at hl 0 rfl) ?_
    obtain ⟨hn8, h⟩ := g_if h
    refine h_sval C0 hW hn8 tf_J0_9 dJ0_getBytes_840e7_18 ?_
    obtain ⟨hn9, h⟩ := g_if h
    refine h_vlen C0 hW hn9 dJ0_getBytes_840e7_21 ?_
    obtain ⟨hk10, h⟩ := g_if h
    obtain ⟨hn11, h⟩ := g_if h
    obtain ⟨hn12, h⟩ := g_if h
    obtain ⟨hn13, h⟩ := g_if h
    refine h_acopy C0 hW hk10 hn11 hn12 hn13 hl.1 (by show 1 ≤ 2; omega) (Nat.le_of_ble_eq_true rfl) tm_J0_212 dJ0_getBytes_840e7_22 (fun H locs hW => ?_)
    refine h_fwa hW ?_
    refine lv_goto (tgt := 43) C0.hx C0.hb dJ0_getBytes_840e7_25 (by decide) ?_
    obtain rfl := Option.some.inj h
    exact h_vret C0 hW rfl dJ0_getBytes_840e7_43
set_option maxRecDepth 100000 in
set_option maxHeartbeats 4000000 in
theorem c_l_J5_init_d00df {l : Launch} {G : GL} {o : Nat → Int32} {x : CS} {y : MS} {t : Nat} {p1 : Int32} {q : MS} (h : f_l_J5_init_d00df t p1 y = some q) : Met l yJ5_init_d00df (.code yJ5_init_d00df cJ5_init_d00df 2 (Option.none : Option Jvm.ClassFile.FieldType) :: gT) (h_lv 1 y) (va_Pc [g_rf G (t), .int (p1)] (h_P G (x, y, o))) (h_Qv G y (x, q, o)) (h_nx q - h_nx y) (h_sl q - h_sl y) (g_A G) := by
  unfold f_l_J5_init_d00df at h
  refine h_entry (by decide) (by simp [lg_sl, g_catQ, h_ki, h_kr, h_kn, h_kl, h_kd]) (fun p e s m args below meth c ls C0 hl hW hin_ => ?_)
  have hl : lv_has ls 2 [(0, g_rf G (t)), (1, .int (p1))] := by simpa [lv_args, g_catQ, h_ki, h_kr, h_kn, h_kl, h_kd] using hl
  refine h_aload_n C0.hx C0.hb dJ5_init_d00df_0 rfl (lv_at hl 0 rfl) ?_
  obtain ⟨hk1, h⟩ := g_if h
  refine h_objInit C0 hW (h_ne hk1 (by decide)) tm_J5_3 hl.1 (by show 1 ≤ 1; omega) (Nat.le_of_ble_eq_true rfl) dJ5_init_d00df_1 ?_
  refine g_compact (h_up C0 _) hW.1 tf_J5_18 dJ5_init_d00df_4 ?_
  refine lv_if_eq (tgt := 25) C0.hx C0.hb dJ5_init_d00df_7 (by decide) (fun hc2 => ?_) (fun hc2 => ?_)
  · replace h := (if_pos hc2).symm.trans h
    refine h_aload_n C0.hx C0.hb dJ5_init_d00df_25 rfl (lv_at hl 0 rfl) ?_
    refine lv_iload_n C0.hx C0.hb dJ5_init_d00df_26 rfl (lv_at hl 1 rfl) ?_
    cases h
  · replace h := (if_neg hc2).symm.trans h
    refine h_aload_n C0.hx C0.hb dJ5_init_d00df_10 rfl (lv_at hl 0 rfl) ?_
    refine lv_iload_n C0.hx C0.hb dJ5_init_d00df_11 rfl (lv_at hl 1 rfl) ?_
    obtain ⟨hn3, h⟩ := g_if h
    obtain ⟨hn4, h⟩ := g_if h
    refine hn_61v C0 hW hn3 hn4 dJ5_init_d00df_12 (fun H hW => ?_)
    obtain ⟨hk5, h⟩ := g_if h
    obtain ⟨hk6, h⟩ := g_if h
    refine hpv_J4 C0 hW hk6 hk5 tf_J5_15 dJ5_init_d00df_14 (fun H locs hW => ?_)
    refine h_fwr hW ?_
    refine h_aload_n C0.hx C0.hb dJ5_init_d00df_17 rfl (lv_at hl 0 rfl) ?_
    refine lv_iconst (v := (0 : Int32)) C0.hx C0.hb dJ5_init_d00df_18 (by decide) ?_
    obtain ⟨hn7, h⟩ := g_if h
    refine hp_J4_1 C0 hW hn7 hk5 tf_J5_22 dJ5_init_d00df_19 (fun H locs hW => ?_)
    refine h_fwi hW ?_
    refine lv_goto (tgt := 38) C0.hx C0.hb dJ5_init_d00df_22 (by decide) ?_
    obtain rfl := Option.some.inj h
    exact h_vret C0 hW rfl dJ5_init_d00df_38
set_option maxRecDepth 100000 in
set_option maxHeartbeats 4000000 in
theorem c_l_J5_length_8abf5 {l : Launch} {G : GL} {o : Nat → Int32} {x : CS} {y : MS} {t : Nat} {q : Int32} (h : f_l_J5_length_8abf5 t y = some q) : Met l yJ5_length_8abf5 (.code yJ5_length_8abf5 cJ5_length_8abf5 1 (Option.some Jvm.ClassFile.FieldType.int) :: gT) (h_lv 1 y) (va_Pc [g_rf G (t)] (h_P G (x, y, o))) (h_Qi G y q (x, y, o)) (h_nx y - h_nx y) (h_sl y - h_sl y) (g_A G) := by
  unfold f_l_J5_length_8abf5 at h
  refine h_entry (by decide) (by simp [lg_sl, g_catQ, h_ki, h_kr, h_kn, h_kl, h_kd]) (fun p e s m args below meth c ls C0 hl hW hin_ => ?_)
  have hl : lv_has ls 1 [(0, g_rf G (t))] := by simpa [lv_args, g_catQ, h_ki, h_kr, h_kn, h_kl, h_kd] using hl
  refine h_aload_n C0.hx C0.hb dJ5_length_8abf5_0 rfl (lv_at hl 0 rfl) ?_
  obtain ⟨hk1, h⟩ := g_if h
  refine hf_J4_3 C0 hW hk1 tf_J5_79 dJ5_length_8abf5_1 ?_
  obtain rfl := Option.some.inj h
  exact h_iret C0 hW rfl rfl dJ5_length_8abf5_4
set_option maxRecDepth 100000 in
set_option maxHeartbeats 4000000 in
theorem c_l_J5_newCapacity_0f7a4 {l : Launch} {G : GL} {o : Nat → Int32} {x : CS} {y : MS} {t : Nat} {p1 : Int32} {q : Int32} (h : f_l_J5_newCapacity_0f7a4 t p1 y = some q) : Met l yJ5_newCapacity_0f7a4 (.code yJ5_newCapacity_0f7a4 cJ5_newCapacity_0f7a4 6 (Option.some Jvm.ClassFile.FieldType.int) :: gT) (h_lv 3 y) (va_Pc [g_rf G (t), .int (p1)] (h_P G (x, y, o))) (h_Qi G y q (x, y, o)) (h_nx y - h_nx y) (h_sl y - h_sl y) (g_A G) := by
  unfold f_l_J5_newCapacity_0f7a4 at h
  refine h_entry (by decide) (by simp [lg_sl, g_catQ, h_ki, h_kr, h_kn, h_kl, h_kd]) (fun p e s m args below meth c ls C0 hl hW hin_ => ?_)
  have hl : lv_has ls 6 [(0, g_rf G (t)), (1, .int (p1))] := by simpa [lv_args, g_catQ, h_ki, h_kr, h_kn, h_kl, h_kd] using hl
  refine h_aload_n C0.hx C0.hb dJ5_newCapacity_0f7a4_0 rfl (lv_at hl 0 rfl) ?_
  obtain ⟨hk1, h⟩ := g_if h
  obtain ⟨hk2, h⟩ := g_if h
  refine hfv_J4 C0 hW hk1 hk2 tf_J5_15 dJ5_newCapacity_0f7a4_1 ?_
  obtain ⟨hn3, h⟩ := g_if h
  refine h_vlen C0 hW hn3 dJ5_newCapacity_0f7a4_4 ?_
  refine lv_istore_n (lv' := [(2, .int (nI (h_vn y (h_R y t 0)))), (0, g_rf G (t)), (1, .int (p1))]) C0.hx C0.hb dJ5_newCapacity_0f7a4_5 rfl hl (by decide) rfl (fun ls hl => ?_)
  refine lv_iload_n C0.hx C0.hb dJ5_newCapacity_0f7a4_6 rfl (lv_at hl 2 rfl) ?_
  refine h_aload_n C0.hx C0.hb dJ5_newCapacity_0f7a4_7 rfl (lv_at hl 1 rfl) ?_
  refine hf_J4_1 C0 hW hk1 tf_J5_22 dJ5_newCapacity_0f7a4_8 ?_
  refine lv_ishl C0.hx C0.hb dJ5_newCapacity_0f7a4_11 ?_
  refine lv_istore_n (lv' := [(3, .int (p1 <<< ((h_I y t 1) &&& 31))), (2, .int (nI (h_vn y (h_R y t 0)))), (0, g_rf G (t)), (1, .int (p1))]) C0.hx C0.hb dJ5_newCapacity_0f7a4_12 rfl hl (by decide) rfl (fun ls hl => ?_)
  refine lv_iload_n C0.hx C0.hb dJ5_newCapacity_0f7a4_13 rfl (lv_at hl 0 rfl) ?_
  refine lv_iload_n C0.hx C0.hb dJ5_newCapacity_0f7a4_14 rfl (lv_at hl 1 rfl) ?_
  refine lv_isub C0.hx C0.hb dJ5_newCapacity_0f7a4_15 ?_
  refine lv_istore (lv' := [(4, .int ((p1 <<< ((h_I y t 1) &&& 31)) - (nI (h_vn y (h_R y t 0))))), (3, .int (p1 <<< ((h_I y t 1) &&& 31))), (2, .int (nI (h_vn y (h_R y t 0)))), (0, g_rf G (t)), (1, .int (p1))]) C0.hx C0.hb dJ5_newCapacity_0f7a4_16 hl (by decide) rfl (fun ls hl => ?_)
  refine lv_iload_n C0.hx C0.hb dJ5_newCapacity_0f7a4_18 rfl (lv_at hl 2 rfl) ?_
  refine lv_iload C0.hx C0.hb dJ5_newCapacity_0f7a4_19 (lv_at hl 0 rfl) ?_
  refine lv_iload_n C0.hx C0.hb dJ5_newCapacity_0f7a4_21 rfl (lv_at hl 2 rfl) ?_
  refine lv_iconst (v := (2 : Int32)) C0.hx C0.hb dJ5_newCapacity_0f7a4_22 (by decide) ?_
  refine h_aload_n C0.hx C0.hb dJ5_newCapacity_0f7a4_23 rfl (lv_at hl 3 rfl) ?_
  refine hf_J4_1 C0 hW hk1 tf_J5_22 dJ5_newCapacity_0f7a4_24 ?_
  refine lv_ishl C0.hx C0.hb dJ5_newCapacity_0f7a4_27 ?_
  refine lv_iadd C0.hx C0.hb dJ5_newCapacity_0f7a4_28 ?_
  obtain ⟨q4, hq4, h⟩ := Option.bind_eq_some_iff.mp h
  refine h_calli hW (h_runS (As := [.int (nI (h_vn y (h_R y t 0))), .int ((p1 <<< ((h_I y t 1) &&& 31)) - (nI (h_vn y (h_R y t 0)))), .int ((nI (h_vn y (h_R y t 0))) + ((2 : Int32) <<< ((h_I y t 1) &&& 31)))]) (rest := []) C0 hW (c_l_J8_newLength_cabcc hq4) cy_J8_newLength_cabcc (by omega) tm_J5_114 tz_J8_newLength_cabcc rfl hl.1 rfl (Nat.le_of_ble_eq_true rfl) dJ5_newCapacity_0f7a4_29) (fun H locs hW => ?_)
  refine lv_istore (lv' := [(5, .int (q4)), (4, .int ((p1 <<< ((h_I y t 1) &&& 31)) - (nI (h_vn y (h_R y t 0))))), (3, .int (p1 <<< ((h_I y t 1) &&& 31))), (2, .int (nI (h_vn y (h_R y t 0)))), (0, g_rf G (t)), (1, .int (p1))]) C0.hx C0.hb dJ5_newCapacity_0f7a4_32 hl (by decide) rfl (fun ls hl => ?_)
  refine lv_iload C0.hx C0.hb dJ5_newCapacity_0f7a4_34 (lv_at hl 0 rfl) ?_
  refine lv_ldc C0.hx C0.hb C0.hown (C0.hts _ tq_J5_39) dJ5_newCapacity_0f7a4_36 ?_
  refine lv_icmp_ne (tgt := 51) C0.hx C0.hb dJ5_newCapacity_0f7a4_38 (by decide) (fun hc5 => ?_) (fun hc5 => ?_)
  · replace h := (if_neg hc5).symm.trans h
    refine lv_iload C0.hx C0.hb dJ5_newCapacity_0f7a4_51 (lv_at hl 0 rfl) ?_
    refine h_aload_n C0.hx C0.hb dJ5_newCapacity_0f7a4_53 rfl (lv_at hl 4 rfl) ?_
    refine hf_J4_1 C0 hW hk1 tf_J5_22 dJ5_newCapacity_0f7a4_54 ?_
    refine lv_ishr C0.hx C0.hb dJ5_newCapacity_0f7a4_57 ?_
    obtain rfl := Option.some.inj h
    exact h_iret C0 hW rfl rfl dJ5_newCapacity_0f7a4_58
  · replace h := (if_pos hc5).symm.trans h
    cases h
set_option maxRecDepth 100000 in
set_option maxHeartbeats 4000000 in
theorem c_l_J5_ensureCapacityInternal_d00df {l : Launch} {G : GL} {o : Nat → Int32} {x : CS} {y : MS} {t : Nat} {p1 : Int32} {q : MS} (h : f_l_J5_ensureCapacityInternal_d00df t p1 y = some q) : Met l yJ5_ensureCapacityInternal_d00df (.code yJ5_ensureCapacityInternal_d00df cJ5_ensureCapacityInternal_d00df 3 (Option.none : Option Jvm.ClassFile.FieldType) :: gT) (h_lv 4 y) (va_Pc [g_rf G (t), .int (p1)] (h_P G (x, y, o))) (h_Qv G y (x, q, o)) (h_nx q - h_nx y) (h_sl q - h_sl y) (g_A G) := by
  unfold f_l_J5_ensureCapacityInternal_d00df at h
  refine h_entry (by decide) (by simp [lg_sl, g_catQ, h_ki, h_kr, h_kn, h_kl, h_kd]) (fun p e s m args below meth c ls C0 hl hW hin_ => ?_)
  have hl : lv_has ls 3 [(0, g_rf G (t)), (1, .int (p1))] := by simpa [lv_args, g_catQ, h_ki, h_kr, h_kn, h_kl, h_kd] using hl
  refine h_aload_n C0.hx C0.hb dJ5_ensureCapacityInternal_d00df_0 rfl (lv_at hl 0 rfl) ?_
  obtain ⟨hk1, h⟩ := g_if h
  obtain ⟨hk2, h⟩ := g_if h
  refine hfv_J4 C0 hW hk1 hk2 tf_J5_15 dJ5_ensureCapacityInternal_d00df_1 ?_
  obtain ⟨hn3, h⟩ := g_if h
  refine h_vlen C0 hW hn3 dJ5_ensureCapacityInternal_d00df_4 ?_
  refine h_aload_n C0.hx C0.hb dJ5_ensureCapacityInternal_d00df_5 rfl (lv_at hl 0 rfl) ?_
  refine hf_J4_1 C0 hW hk1 tf_J5_22 dJ5_ensureCapacityInternal_d00df_6 ?_
  refine lv_ishr C0.hx C0.hb dJ5_ensureCapacityInternal_d00df_9 ?_
  refine lv_istore_n (lv' := [(2, .int ((nI (h_vn y (h_R y t 0))) >>> ((h_I y t 1) &&& 31))), (0, g_rf G (t)), (1, .int (p1))]) C0.hx C0.hb dJ5_ensureCapacityInternal_d00df_10 rfl hl (by decide) rfl (fun ls hl => ?_)
  refine lv_iload_n C0.hx C0.hb dJ5_ensureCapacityInternal_d00df_11 rfl (lv_at hl 2 rfl) ?_
  refine lv_iload_n C0.hx C0.hb dJ5_ensureCapacityInternal_d00df_12 rfl (lv_at hl 0 rfl) ?_
  refine lv_isub C0.hx C0.hb dJ5_ensureCapacityInternal_d00df_13 ?_
  refine lv_if_le (tgt := 38) C0.hx C0.hb dJ5_ensureCapacityInternal_d00df_14 (by decide) (fun hc4 => ?_) (fun hc4 => ?_)
  · replace h := (if_pos hc4).symm.trans h
    obtain rfl := Option.some.inj h
    exact h_vret C0 hW rfl dJ5_ensureCapacityInternal_d00df_38
  · replace h := (if_neg hc4).symm.trans h
    refine h_aload_n C0.hx C0.hb dJ5_ensureCapacityInternal_d00df_17 rfl (lv_at hl 1 rfl) ?_
    refine h_aload_n C0.hx C0.hb dJ5_ensureCapacityInternal_d00df_18 rfl (lv_at hl 1 rfl) ?_
    refine hfv_J4 C0 hW hk1 hk2 tf_J5_15 dJ5_ensureCapacityInternal_d00df_19 ?_
    refine h_aload_n C0.hx C0.hb dJ5_ensureCapacityInternal_d00df_22 rfl (lv_at hl 1 rfl) ?_
    refine lv_iload_n C0.hx C0.hb dJ5_ensureCapacityInternal_d00df_23 rfl (lv_at hl 2 rfl) ?_
    obtain ⟨q5, hq5, h⟩ := Option.bind_eq_some_iff.mp h
    refine h_calli hW (h_runU (xn := yJ5_newCapacity_0f7a4) (As := [.int (p1)]) (rest := [.ref (g_va G (h_R y t 0)), g_rf G (t)]) C0 hW hk1 (c_l_J5_newCapacity_0f7a4 hq5) cy_J5_newCapacity_0f7a4 rfl (by omega) tm_J5_104 ti_J5_newCapacity_0f7a4 tc_J5_newCapacity_0f7a4 ti_J5_newCapacity_0f7a4 tsm_J5_newCapacity_0f7a4 (h_sl_J5_newCapacity_0f7a4 C0) rfl hl.1 rfl (by simp [g_catQ, h_ki, h_kr, h_kn, h_kl, h_kd]) dJ5_ensureCapacityInternal_d00df_24) (fun H locs hW => ?_)
    refine h_aload_n C0.hx C0.hb dJ5_ensureCapacityInternal_d00df_27 rfl (lv_at hl 1 rfl) ?_
    refine hf_J4_1 C0 hW hk1 tf_J5_22 dJ5_ensureCapacityInternal_d00df_28 ?_
    refine lv_ishl C0.hx C0.hb dJ5_ensureCapacityInternal_d00df_31 ?_
    obtain ⟨q6, hq6, h⟩ := Option.bind_eq_some_iff.mp h
    refine h_callr hW (h_runS (As := [.ref (g_va G (h_R y t 0)), .int (q5 <<< ((h_I y t 1) &&& 31))]) (rest := [g_rf G (t)]) C0 hW (c_l_J7_copyOf_9075b hq6) cy_J7_copyOf_9075b (by omega) tm_J5_108 tz_J7_copyOf_9075b rfl hl.1 rfl (by simp [g_catQ, h_ki, h_kr, h_kn, h_kl, h_kd]) dJ5_ensureCapacityInternal_d00df_32) (fun H locs hW => ?_)
    obtain ⟨hk7, h⟩ := g_if h
    obtain ⟨hk8, h⟩ := g_if h
    refine hpv_J4 C0 hW hk8 hk7 tf_J5_15 dJ5_ensureCapacityInternal_d00df_35 (fun H locs hW => ?_)
    refine h_fwr hW ?_
    obtain rfl := Option.some.inj h
    exact h_vret C0 hW rfl dJ5_ensureCapacityInternal_d00df_38
set_option maxRecDepth 100000 in
set_option maxHeartbeats 4000000 in
theorem c_l_J0_length_8abf5 {l : Launch} {G : GL} {o : Nat → Int32} {x : CS} {y : MS} {t : Nat} {q : Int32} (h : f_l_J0_length_8abf5 t y = some q) : Met l yJ0_length_8abf5 (.code yJ0_length_8abf5 cJ0_length_8abf5 1 (Option.some Jvm.ClassFile.FieldType.int) :: gT) (h_lv 2 y) (va_Pc [.ref (g_sa G (t))] (h_P G (x, y, o))) (h_Qi G y q (x, y, o)) (h_nx y - h_nx y) (h_sl y - h_sl y) (g_A G) := by
  unfold f_l_J0_length_8abf5 at h
  refine h_entry (by decide) (Nat.le_of_ble_eq_true rfl) (fun p e s m args below meth c ls C0 hl hW hin_ => ?_)
  have hl : lv_has ls 1 [(0, .ref (g_sa G (t)))] := hl
  refine lv_aload_n C0.hx C0.hb dJ0_length_8abf5_0 rfl (lv_at hl 0 rfl) ?_
  obtain ⟨hn1, h⟩ := g_if h
  refine h_sval C0 hW hn1 tf_J0_9 dJ0_length_8abf5_1 ?_
  obtain ⟨hn2, h⟩ := g_if h
  refine h_vlen C0 hW hn2 dJ0_length_8abf5_4 ?_
  refine lv_aload_n C0.hx C0.hb dJ0_length_8abf5_5 rfl (lv_at hl 0 rfl) ?_
  obtain ⟨hn3, h⟩ := g_if h
  obtain ⟨q4, hq4, h⟩ := Option.bind_eq_some_iff.mp h
  refine h_calli hW (h_runV (As := []) (rest := [.int (nI (h_vn y (h_sv y t)))]) C0 hW rfl (h_srecv C0 hW hn3) (c_l_J0_coder_7d493 hq4) cy_J0_coder_7d493 (by omega) tm_J0_335 ti_J0_coder_7d493 ts_J0_coder_7d493 rfl hl.1 rfl (Nat.le_of_ble_eq_true rfl) dJ0_length_8abf5_6) (fun H locs hW => ?_)
  refine lv_ishr C0.hx C0.hb dJ0_length_8abf5_9 ?_
  obtain rfl := Option.some.inj h
  exact h_iret C0 hW rfl rfl dJ0_length_8abf5_10
set_option maxRecDepth 100000 in
set_option maxHeartbeats 4000000 in
theorem c_l_J5_inflateIfNeededFor_a7421 {l : Launch} {G : GL} {o : Nat → Int32} {x : CS} {y : MS} {t : Nat} {p1 : Nat} {q : Unit} (h : f_l_J5_inflateIfNeededFor_a7421 t p1 y = some q) : Met l yJ5_inflateIfNeededFor_a7421 (.code yJ5_inflateIfNeededFor_a7421 cJ5_inflateIfNeededFor_a7421 2 (Option.none : Option Jvm.ClassFile.FieldType) :: gT) (h_lv 2 y) (va_Pc [g_rf G (t), .ref (g_sa G (p1))] (h_P G (x, y, o))) (h_Qv G y (x, y, o)) (h_nx y - h_nx y) (h_sl y - h_sl y) (g_A G) := by
  unfold f_l_J5_inflateIfNeededFor_a7421 at h
  refine h_entry (by decide) (by simp [lg_sl, g_catQ, h_ki, h_kr, h_kn, h_kl, h_kd]) (fun p e s m args below meth c ls C0 hl hW hin_ => ?_)
  have hl : lv_has ls 2 [(0, g_rf G (t)), (1, .ref (g_sa G (p1)))] := by simpa [lv_args, g_catQ, h_ki, h_kr, h_kn, h_kl, h_kd] using hl
  refine g_compact (h_up C0 _) hW.1 tf_J5_18 dJ5_inflateIfNeededFor_a7421_0 ?_
  refine lv_if_eq (tgt := 21) C0.hx C0.hb dJ5_inflateIfNeededFor_a7421_3 (by decide) (fun hc1 => ?_) (fun hc1 => ?_)
  · replace h := (if_pos hc1).symm.trans h
    obtain rfl := Option.some.inj h
    exact h_vret C0 hW rfl dJ5_inflateIfNeededFor_a7421_21
  · replace h := (if_neg hc1).symm.trans h
    refine h_aload_n C0.hx C0.hb dJ5_inflateIfNeededFor_a7421_6 rfl (lv_at hl 0 rfl) ?_
    obtain ⟨hk2, h⟩ := g_if h
    refine hf_J4_1 C0 hW hk2 tf_J5_22 dJ5_inflateIfNeededFor_a7421_7 ?_
    refine lv_aload_n C0.hx C0.hb dJ5_inflateIfNeededFor_a7421_10 rfl (lv_at hl 1 rfl) ?_
    obtain ⟨hn3, h⟩ := g_if h
    obtain ⟨q4, hq4, h⟩ := Option.bind_eq_some_iff.mp h
    refine h_calli hW (h_runV (As := []) (rest := [.int (h_I y t 1)]) C0 hW rfl (h_srecv C0 hW hn3) (c_l_J0_coder_7d493 hq4) cy_J0_coder_7d493 (by omega) tm_J5_40 ti_J0_coder_7d493 ts_J0_coder_7d493 rfl hl.1 rfl (Nat.le_of_ble_eq_true rfl) dJ5_inflateIfNeededFor_a7421_11) (fun H locs hW => ?_)
    refine lv_icmp_eq (tgt := 21) C0.hx C0.hb dJ5_inflateIfNeededFor_a7421_14 (by decide) (fun hc5 => ?_) (fun hc5 => ?_)
    · replace h := (if_pos hc5).symm.trans h
      obtain rfl := Option.some.inj h
      exact h_vret C0 hW rfl dJ5_inflateIfNeededFor_a7421_21
    · replace h := (if_neg hc5).symm.trans h
      refine h_aload_n C0.hx C0.hb dJ5_inflateIfNeededFor_a7421_17 rfl (lv_at hl 0 rfl) ?_
      cases h
set_option maxRecDepth 100000 in
set_option maxHeartbeats 4000000 in
theorem c_l_J5_putStringAt_47b60 {l : Launch} {G : GL} {o : Nat → Int32} {x : CS} {y : MS} {t : Nat} {p1 : Int32} {p2 : Nat} {q : MS} (h : f_l_J5_putStringAt_47b60 t p1 p2 y = some q) : Met l yJ5_putStringAt_47b60 (.code yJ5_putStringAt_47b60 cJ5_putStringAt_47b60 3 (Option.none : Option Jvm.ClassFile.FieldType) :: gT) (h_lv 3 y) (va_Pc [g_rf G (t), .int (p1), .ref (g_sa G (p2))] (h_P G (x, y, o))) (h_Qv G y (x, q, o)) (h_nx q - h_nx y) (h_sl q - h_sl y) (g_A G) := by
  unfold f_l_J5_putStringAt_47b60 at h
  refine h_entry (by decide) (by simp [lg_sl, g_catQ, h_ki, h_kr, h_kn, h_kl, h_kd]) (fun p e s m args below meth c ls C0 hl hW hin_ => ?_)
  have hl : lv_has ls 3 [(0, g_rf G (t)), (1, .int (p1)), (2, .ref (g_sa G (p2)))] := by simpa [lv_args, g_catQ, h_ki, h_kr, h_kn, h_kl, h_kd] using hl
  refine h_aload_n C0.hx C0.hb dJ5_putStringAt_47b60_0 rfl (lv_at hl 0 rfl) ?_
  refine lv_aload_n C0.hx C0.hb dJ5_putStringAt_47b60_1 rfl (lv_at hl 2 rfl) ?_
  obtain ⟨hk1, h⟩ := g_if h
  obtain ⟨q2, hq2, h⟩ := Option.bind_eq_some_iff.mp h
  refine h_callv hW (h_runU (xn := yJ5_inflateIfNeededFor_a7421) (As := [.ref (g_sa G (p2))]) (rest := []) C0 hW hk1 (c_l_J5_inflateIfNeededFor_a7421 hq2) cy_J5_inflateIfNeededFor_a7421 rfl (by omega) tm_J5_397 ti_J5_inflateIfNeededFor_a7421 tc_J5_inflateIfNeededFor_a7421 ti_J5_inflateIfNeededFor_a7421 tsm_J5_inflateIfNeededFor_a7421 (h_sl_J5_inflateIfNeededFor_a7421 C0) rfl hl.1 rfl (Nat.le_of_ble_eq_true rfl) dJ5_putStringAt_47b60_2) (fun H locs hW => ?_)
  refine lv_aload_n C0.hx C0.hb dJ5_putStringAt_47b60_5 rfl (lv_at hl 2 rfl) ?_
  refine h_aload_n C0.hx C0.hb dJ5_putStringAt_47b60_6 rfl (lv_at hl 0 rfl) ?_
  obtain ⟨hk3, h⟩ := g_if h
  obtain ⟨hk4, h⟩ := g_if h
  refine hfv_J4 C0 hW hk3 hk4 tf_J5_15 dJ5_putStringAt_47b60_7 ?_
  refine lv_iload_n C0.hx C0.hb dJ5_putStringAt_47b60_10 rfl (lv_at hl 1 rfl) ?_
  refine h_aload_n C0.hx C0.hb dJ5_putStringAt_47b60_11 rfl (lv_at hl 0 rfl) ?_
  refine hf_J4_1 C0 hW hk3 tf_J5_22 dJ5_putStringAt_47b60_12 ?_
  obtain ⟨hn5, h⟩ := g_if h
  obtain ⟨q6, hq6, h⟩ := Option.bind_eq_some_iff.mp h
  refine h_callv hW (h_runV (As := [.ref (g_va G (h_R y t 0)), .int (p1), .int (h_I y t 1)]) (rest := []) C0 hW rfl (h_srecv C0 hW hn5) (c_l_J0_getBytes_840e7 hq6) cy_J0_getBytes_840e7 (by omega) tm_J5_399 ti_J0_getBytes_840e7 ts_J0_getBytes_840e7 rfl hl.1 rfl (Nat.le_of_ble_eq_true rfl) dJ5_putStringAt_47b60_15) (fun H locs hW => ?_)
  obtain rfl := Option.some.inj h
  exact h_vret C0 hW rfl dJ5_putStringAt_47b60_18
set_option maxRecDepth 100000 in
set_option maxHeartbeats 4000000 in
theorem c_l_J5_append_cf1ce {l : Launch} {G : GL} {o : Nat → Int32} {x : CS} {y : MS} {t : Nat} {p1 : Nat} {q : Nat × MS} (h : f_l_J5_append_cf1ce t p1 y = some q) : Met l yJ5_append_cf1ce (.code yJ5_append_cf1ce cJ5_append_cf1ce 3 (Option.some (Jvm.ClassFile.FieldType.object "java/lang/AbstractStringBuilder")) :: gT) (h_lv 5 y) (va_Pc [g_rf G (t), .ref (g_sa G (p1))] (h_P G (x, y, o))) (h_Qr G y (g_rf G (q.1)) (x, q.2, o)) (h_nx q.2 - h_nx y) (h_sl q.2 - h_sl y) (g_A G) := by
  unfold f_l_J5_append_cf1ce at h
  refine h_entry (by decide) (by simp [lg_sl, g_catQ, h_ki, h_kr, h_kn, h_kl, h_kd]) (fun p e s m args below meth c ls C0 hl hW hin_ => ?_)
  have hl : lv_has ls 3 [(0, g_rf G (t)), (1, .ref (g_sa G (p1)))] := by simpa [lv_args, g_catQ, h_ki, h_kr, h_kn, h_kl, h_kd] using hl
  refine lv_aload_n C0.hx C0.hb dJ5_append_cf1ce_0 rfl (lv_at hl 1 rfl) ?_
  refine lv_ifnonnull (tgt := 9) C0.hx C0.hb dJ5_append_cf1ce_1 (by decide) ?_
  refine lv_aload_n C0.hx C0.hb dJ5_append_cf1ce_9 rfl (lv_at hl 1 rfl) ?_
  obtain ⟨hn1, h⟩ := g_if h
  obtain ⟨q2, hq2, h⟩ := Option.bind_eq_some_iff.mp h
  refine h_calli hW (h_runV (As := []) (rest := []) C0 hW rfl (h_srecv C0 hW hn1) (c_l_J0_length_8abf5 hq2) cy_J0_length_8abf5 (by omega) tm_J5_32 ti_J0_length_8abf5 ts_J0_length_8abf5 rfl hl.1 rfl (Nat.le_of_ble_eq_true rfl) dJ5_append_cf1ce_10) (fun H locs hW => ?_)
  refine lv_istore_n (lv' := [(2, .int (q2)), (0, g_rf G (t)), (1, .ref (g_sa G (p1)))]) C0.hx C0.hb dJ5_append_cf1ce_13 rfl hl (by decide) rfl (fun ls hl => ?_)
  refine h_aload_n C0.hx C0.hb dJ5_append_cf1ce_14 rfl (lv_at hl 1 rfl) ?_
  refine h_aload_n C0.hx C0.hb dJ5_append_cf1ce_15 rfl (lv_at hl 1 rfl) ?_
  obtain ⟨hk3, h⟩ := g_if h
  refine hf_J4_3 C0 hW hk3 tf_J5_79 dJ5_append_cf1ce_16 ?_
  refine lv_iload_n C0.hx C0.hb dJ5_append_cf1ce_19 rfl (lv_at hl 0 rfl) ?_
  refine lv_iadd C0.hx C0.hb dJ5_append_cf1ce_20 ?_
  obtain ⟨q4, hq4, h⟩ := Option.bind_eq_some_iff.mp h
  refine h_callv hW (h_runU (xn := yJ5_ensureCapacityInternal_d00df) (As := [.int ((h_I y t 3) + q2)]) (rest := []) C0 hW hk3 (c_l_J5_ensureCapacityInternal_d00df hq4) cy_J5_ensureCapacityInternal_d00df rfl (by omega) tm_J5_100 ti_J5_ensureCapacityInternal_d00df tc_J5_ensureCapacityInternal_d00df ti_J5_ensureCapacityInternal_d00df tsm_J5_ensureCapacityInternal_d00df (h_sl_J5_ensureCapacityInternal_d00df C0) rfl hl.1 rfl (Nat.le_of_ble_eq_true rfl) dJ5_append_cf1ce_21) (fun H locs hW => ?_)
  refine h_aload_n C0.hx C0.hb dJ5_append_cf1ce_24 rfl (lv_at hl 1 rfl) ?_
  refine h_aload_n C0.hx C0.hb dJ5_append_cf1ce_25 rfl (lv_at hl 1 rfl) ?_
  obtain ⟨hk5, h⟩ := g_if h
  refine hf_J4_3 C0 hW hk5 tf_J5_79 dJ5_append_cf1ce_26 ?_
  refine lv_aload_n C0.hx C0.hb dJ5_append_cf1ce_29 rfl (lv_at hl 2 rfl) ?_
  obtain ⟨q6, hq6, h⟩ := Option.bind_eq_some_iff.mp h
  refine h_callv hW (h_runU (xn := yJ5_putStringAt_47b60) (As := [.int (h_I q4 t 3), .ref (g_sa G (p1))]) (rest := []) C0 hW hk5 (c_l_J5_putStringAt_47b60 hq6) cy_J5_putStringAt_47b60 rfl (by omega) tm_J5_208 ti_J5_putStringAt_47b60 tc_J5_putStringAt_47b60 ti_J5_putStringAt_47b60 tsm_J5_putStringAt_47b60 (h_sl_J5_putStringAt_47b60 C0) rfl hl.1 rfl (Nat.le_of_ble_eq_true rfl) dJ5_append_cf1ce_30) (fun H locs hW => ?_)
  refine h_aload_n C0.hx C0.hb dJ5_append_cf1ce_33 rfl (lv_at hl 1 rfl) ?_
  refine lv_dup C0.hx C0.hb dJ5_append_cf1ce_34 g_catQ ?_
  obtain ⟨hk7, h⟩ := g_if h
  refine hf_J4_3 C0 hW hk7 tf_J5_79 dJ5_append_cf1ce_35 ?_
  refine lv_iload_n C0.hx C0.hb dJ5_append_cf1ce_38 rfl (lv_at hl 0 rfl) ?_
  refine lv_iadd C0.hx C0.hb dJ5_append_cf1ce_39 ?_
  refine hp_J4_3 C0 hW hk7 tf_J5_79 dJ5_append_cf1ce_40 (fun H locs hW => ?_)
  refine h_fwi hW ?_
  refine h_aload_n C0.hx C0.hb dJ5_append_cf1ce_43 rfl (lv_at hl 1 rfl) ?_
  obtain rfl := Option.some.inj h
  exact h_aretC C0 hW (hW.rf (h_ne hk7 (by decide))) rfl dJ5_append_cf1ce_44
set_option maxRecDepth 100000 in
set_option maxHeartbeats 4000000 in
theorem c_l_J5_isLatin1_aae02 {l : Launch} {G : GL} {o : Nat → Int32} {x : CS} {y : MS} {t : Nat} {q : Int32} (h : f_l_J5_isLatin1_aae02 t y = some q) : Met l yJ5_isLatin1_aae02 (.code yJ5_isLatin1_aae02 cJ5_isLatin1_aae02 1 (Option.some Jvm.ClassFile.FieldType.boolean) :: gT) (h_lv 1 y) (va_Pc [g_rf G (t)] (h_P G (x, y, o))) (h_Qi G y q (x, y, o)) (h_nx y - h_nx y) (h_sl y - h_sl y) (g_A G) := by
  unfold f_l_J5_isLatin1_aae02 at h
  refine h_entry (by decide) (by simp [lg_sl, g_catQ, h_ki, h_kr, h_kn, h_kl, h_kd]) (fun p e s m args below meth c ls C0 hl hW hin_ => ?_)
  have hl : lv_has ls 1 [(0, g_rf G (t))] := by simpa [lv_args, g_catQ, h_ki, h_kr, h_kn, h_kl, h_kd] using hl
  refine g_compact (h_up C0 _) hW.1 tf_J5_18 dJ5_isLatin1_aae02_0 ?_
  refine lv_if_eq (tgt := 17) C0.hx C0.hb dJ5_isLatin1_aae02_3 (by decide) (fun hc1 => ?_) (fun hc1 => ?_)
  · replace h := (if_pos hc1).symm.trans h
    refine lv_iconst (v := (0 : Int32)) C0.hx C0.hb dJ5_isLatin1_aae02_17 (by decide) ?_
    obtain rfl := Option.some.inj h
    exact h_iret C0 hW rfl (g_bool (Or.inl rfl)).1 dJ5_isLatin1_aae02_18
  · replace h := (if_neg hc1).symm.trans h
    refine h_aload_n C0.hx C0.hb dJ5_isLatin1_aae02_6 rfl (lv_at hl 0 rfl) ?_
    obtain ⟨hk2, h⟩ := g_if h
    refine hf_J4_1 C0 hW hk2 tf_J5_22 dJ5_isLatin1_aae02_7 ?_
    refine lv_if_ne (tgt := 17) C0.hx C0.hb dJ5_isLatin1_aae02_10 (by decide) (fun hc3 => ?_) (fun hc3 => ?_)
    · replace h := (if_neg hc3).symm.trans h
      refine lv_iconst (v := (0 : Int32)) C0.hx C0.hb dJ5_isLatin1_aae02_17 (by decide) ?_
      obtain rfl := Option.some.inj h
      exact h_iret C0 hW rfl (g_bool (Or.inl rfl)).1 dJ5_isLatin1_aae02_18
    · replace h := (if_pos hc3).symm.trans h
      refine lv_iconst (v := (1 : Int32)) C0.hx C0.hb dJ5_isLatin1_aae02_13 (by decide) ?_
      refine lv_goto (tgt := 18) C0.hx C0.hb dJ5_isLatin1_aae02_14 (by decide) ?_
      obtain rfl := Option.some.inj h
      exact h_iret C0 hW rfl (g_bool (Or.inr rfl)).1 dJ5_isLatin1_aae02_18
set_option maxRecDepth 100000 in
set_option maxHeartbeats 4000000 in
theorem c_l_J5_append_c97b9 {l : Launch} {G : GL} {o : Nat → Int32} {x : CS} {y : MS} {t : Nat} {p1 : Int32} {q : Nat × MS} (h : f_l_J5_append_c97b9 t p1 y = some q) : Met l yJ5_append_c97b9 (.code yJ5_append_c97b9 cJ5_append_c97b9 4 (Option.some (Jvm.ClassFile.FieldType.object "java/lang/AbstractStringBuilder")) :: gT) (h_lv 5 y) (va_Pc [g_rf G (t), .int (p1)] (h_P G (x, y, o))) (h_Qr G y (g_rf G (q.1)) (x, q.2, o)) (h_nx q.2 - h_nx y) (h_sl q.2 - h_sl y) (g_A G) := by
  unfold f_l_J5_append_c97b9 at h
  refine h_entry (by decide) (by simp [lg_sl, g_catQ, h_ki, h_kr, h_kn, h_kl, h_kd]) (fun p e s m args below meth c ls C0 hl hW hin_ => ?_)
  have hl : lv_has ls 4 [(0, g_rf G (t)), (1, .int (p1))] := by simpa [lv_args, g_catQ, h_ki, h_kr, h_kn, h_kl, h_kd] using hl
  refine h_aload_n C0.hx C0.hb dJ5_append_c97b9_0 rfl (lv_at hl 0 rfl) ?_
  obtain ⟨hk1, h⟩ := g_if h
  refine hf_J4_3 C0 hW hk1 tf_J5_79 dJ5_append_c97b9_1 ?_
  refine lv_istore_n (lv' := [(2, .int (h_I y t 3)), (0, g_rf G (t)), (1, .int (p1))]) C0.hx C0.hb dJ5_append_c97b9_4 rfl hl (by decide) rfl (fun ls hl => ?_)
  refine lv_iload_n C0.hx C0.hb dJ5_append_c97b9_5 rfl (lv_at hl 0 rfl) ?_
  refine lv_iload_n C0.hx C0.hb dJ5_append_c97b9_6 rfl (lv_at hl 2 rfl) ?_
  obtain ⟨q2, hq2, h⟩ := Option.bind_eq_some_iff.mp h
  refine h_calli hW (h_runS (As := [.int (p1)]) (rest := [.int (h_I y t 3)]) C0 hW (c_l_J6_stringSize_0f7a4 hq2) cy_J6_stringSize_0f7a4 (by omega) tm_J5_245 tz_J6_stringSize_0f7a4 rfl hl.1 rfl (Nat.le_of_ble_eq_true rfl) dJ5_append_c97b9_7) (fun H locs hW => ?_)
  refine lv_iadd C0.hx C0.hb dJ5_append_c97b9_10 ?_
  refine lv_istore_n (lv' := [(3, .int ((h_I y t 3) + q2)), (2, .int (h_I y t 3)), (0, g_rf G (t)), (1, .int (p1))]) C0.hx C0.hb dJ5_append_c97b9_11 rfl hl (by decide) rfl (fun ls hl => ?_)
  refine h_aload_n C0.hx C0.hb dJ5_append_c97b9_12 rfl (lv_at hl 2 rfl) ?_
  refine lv_iload_n C0.hx C0.hb dJ5_append_c97b9_13 rfl (lv_at hl 0 rfl) ?_
  obtain ⟨q3, hq3, h⟩ := Option.bind_eq_some_iff.mp h
  refine h_callv hW (h_runU (xn := yJ5_ensureCapacityInternal_d00df) (As := [.int ((h_I y t 3) + q2)]) (rest := []) C0 hW hk1 (c_l_J5_ensureCapacityInternal_d00df hq3) cy_J5_ensureCapacityInternal_d00df rfl (by omega) tm_J5_100 ti_J5_ensureCapacityInternal_d00df tc_J5_ensureCapacityInternal_d00df ti_J5_ensureCapacityInternal_d00df tsm_J5_ensureCapacityInternal_d00df (h_sl_J5_ensureCapacityInternal_d00df C0) rfl hl.1 rfl (Nat.le_of_ble_eq_true rfl) dJ5_append_c97b9_14) (fun H locs hW => ?_)
  refine h_aload_n C0.hx C0.hb dJ5_append_c97b9_17 rfl (lv_at hl 2 rfl) ?_
  obtain ⟨hk4, h⟩ := g_if h
  obtain ⟨q5, hq5, h⟩ := Option.bind_eq_some_iff.mp h
  refine h_calli hW (h_runU (xn := yJ5_isLatin1_aae02) (As := []) (rest := []) C0 hW hk4 (c_l_J5_isLatin1_aae02 hq5) cy_J5_isLatin1_aae02 rfl (by omega) tm_J5_83 ti_J5_isLatin1_aae02 tc_J5_isLatin1_aae02 ti_J5_isLatin1_aae02 tsm_J5_isLatin1_aae02 (h_sl_J5_isLatin1_aae02 C0) rfl hl.1 rfl (Nat.le_of_ble_eq_true rfl) dJ5_append_c97b9_18) (fun H locs hW => ?_)
  refine lv_if_eq (tgt := 37) C0.hx C0.hb dJ5_append_c97b9_21 (by decide) (fun hc6 => ?_) (fun hc6 => ?_)
  · replace h := (if_pos hc6).symm.trans h
    refine lv_iload_n C0.hx C0.hb dJ5_append_c97b9_37 rfl (lv_at hl 3 rfl) ?_
    refine lv_iload_n C0.hx C0.hb dJ5_append_c97b9_38 rfl (lv_at hl 1 rfl) ?_
    refine lv_iload_n C0.hx C0.hb dJ5_append_c97b9_39 rfl (lv_at hl 0 rfl) ?_
    refine h_aload_n C0.hx C0.hb dJ5_append_c97b9_40 rfl (lv_at hl 2 rfl) ?_
    obtain ⟨hk7, h⟩ := g_if h
    obtain ⟨hk8, h⟩ := g_if h
    refine hfv_J4 C0 hW hk7 hk8 tf_J5_15 dJ5_append_c97b9_41 ?_
    cases h
  · replace h := (if_neg hc6).symm.trans h
    refine lv_iload_n C0.hx C0.hb dJ5_append_c97b9_24 rfl (lv_at hl 3 rfl) ?_
    refine lv_iload_n C0.hx C0.hb dJ5_append_c97b9_25 rfl (lv_at hl 0 rfl) ?_
    refine h_aload_n C0.hx C0.hb dJ5_append_c97b9_26 rfl (lv_at hl 2 rfl) ?_
    obtain ⟨hk9, h⟩ := g_if h
    obtain ⟨hk10, h⟩ := g_if h
    refine hfv_J4 C0 hW hk9 hk10 tf_J5_15 dJ5_append_c97b9_27 ?_
    obtain ⟨q11, hq11, h⟩ := Option.bind_eq_some_iff.mp h
    refine h_calli hW (h_runS (As := [.int (p1), .int ((h_I y t 3) + q2), .ref (g_va G (h_R q3 t 0))]) (rest := []) C0 hW (c_l_J6_getChars_ba4f3 hq11) cy_J6_getChars_ba4f3 (by omega) tm_J5_248 tz_J6_getChars_ba4f3 rfl hl.1 rfl (Nat.le_of_ble_eq_true rfl) dJ5_append_c97b9_30) (fun H locs hW => ?_)
    refine lv_pop C0.hx C0.hb dJ5_append_c97b9_33 rfl ?_
    refine lv_goto (tgt := 48) C0.hx C0.hb dJ5_append_c97b9_34 (by decide) ?_
    refine h_aload_n C0.hx C0.hb dJ5_append_c97b9_48 rfl (lv_at hl 2 rfl) ?_
    refine lv_iload_n C0.hx C0.hb dJ5_append_c97b9_49 rfl (lv_at hl 0 rfl) ?_
    obtain ⟨hk12, h⟩ := g_if h
    refine hp_J4_3 C0 hW hk12 tf_J5_79 dJ5_append_c97b9_50 (fun H locs hW => ?_)
    refine h_fwi hW ?_
    refine h_aload_n C0.hx C0.hb dJ5_append_c97b9_53 rfl (lv_at hl 2 rfl) ?_
    obtain rfl := Option.some.inj h
    exact h_aretC C0 hW (hW.rf (h_ne hk12 (by decide))) rfl dJ5_append_c97b9_54
set_option maxRecDepth 100000 in
set_option maxHeartbeats 4000000 in
theorem c_l_J5_getValue_6d5f1 {l : Launch} {G : GL} {o : Nat → Int32} {x : CS} {y : MS} {t : Nat} {q : Nat} (h : f_l_J5_getValue_6d5f1 t y = some q) : Met l yJ5_getValue_6d5f1 (.code yJ5_getValue_6d5f1 cJ5_getValue_6d5f1 1 (Option.some (Jvm.ClassFile.FieldType.array Jvm.ClassFile.FieldType.byte)) :: gT) (h_lv 1 y) (va_Pc [g_rf G (t)] (h_P G (x, y, o))) (h_Qr G y (.ref (g_va G (q))) (x, y, o)) (h_nx y - h_nx y) (h_sl y - h_sl y) (g_A G) := by
  unfold f_l_J5_getValue_6d5f1 at h
  refine h_entry (by decide) (by simp [lg_sl, g_catQ, h_ki, h_kr, h_kn, h_kl, h_kd]) (fun p e s m args below meth c ls C0 hl hW hin_ => ?_)
  have hl : lv_has ls 1 [(0, g_rf G (t))] := by simpa [lv_args, g_catQ, h_ki, h_kr, h_kn, h_kl, h_kd] using hl
  refine h_aload_n C0.hx C0.hb dJ5_getValue_6d5f1_0 rfl (lv_at hl 0 rfl) ?_
  obtain ⟨hk1, h⟩ := g_if h
  obtain ⟨hk2, h⟩ := g_if h
  refine hfv_J4 C0 hW hk1 hk2 tf_J5_15 dJ5_getValue_6d5f1_1 ?_
  obtain rfl := Option.some.inj h
  exact h_aretA C0 hW rfl rfl dJ5_getValue_6d5f1_4
set_option maxRecDepth 100000 in
set_option maxHeartbeats 4000000 in
theorem c_l_J4_length_8abf5 {l : Launch} {G : GL} {o : Nat → Int32} {x : CS} {y : MS} {t : Nat} {q : Int32} (h : f_l_J4_length_8abf5 t y = some q) : Met l yJ4_length_8abf5 (.code yJ4_length_8abf5 cJ4_length_8abf5 1 (Option.some Jvm.ClassFile.FieldType.int) :: gT) (h_lv 2 y) (va_Pc [g_rf G (t)] (h_P G (x, y, o))) (h_Qi G y q (x, y, o)) (h_nx y - h_nx y) (h_sl y - h_sl y) (g_A G) := by
  unfold f_l_J4_length_8abf5 at h
  refine h_entry (by decide) (by simp [lg_sl, g_catQ, h_ki, h_kr, h_kn, h_kl, h_kd]) (fun p e s m args below meth c ls C0 hl hW hin_ => ?_)
  have hl : lv_has ls 1 [(0, g_rf G (t))] := by simpa [lv_args, g_catQ, h_ki, h_kr, h_kn, h_kl, h_kd] using hl
  refine h_aload_n C0.hx C0.hb dJ4_length_8abf5_0 rfl (lv_at hl 0 rfl) ?_
  obtain ⟨hk1, h⟩ := g_if h
  obtain ⟨q2, hq2, h⟩ := Option.bind_eq_some_iff.mp h
  refine h_calli hW (h_runSU (As := []) (rest := []) C0 hW hk1 (c_l_J5_length_8abf5 hq2) cy_J5_length_8abf5 (by omega) tm_J4_343 ti_J5_length_8abf5 tsm_J5_length_8abf5 ⟨rfl, by decide⟩ rfl hl.1 rfl (Nat.le_of_ble_eq_true rfl) dJ4_length_8abf5_1) (fun H locs hW => ?_)
  obtain rfl := Option.some.inj h
  exact h_iret C0 hW rfl rfl dJ4_length_8abf5_4
set_option maxRecDepth 100000 in
set_option maxHeartbeats 4000000 in
theorem w_l_J0_init_db425_79 {p : Program} {l : Launch} {e : Env} {s : State} {m : MethodId} {args : Array Value} {below : List Frame} {meth : Method} {c : Code} {G : GL} {o : Nat → Int32} {y0 : MS} {x : CS} {q : MS} (hin_ : "<init>" = "<init>" → meth.name = "<init>") (C0 : g_X G (List.range 120) p s m args meth c cJ0_init_db425 5 RJ0 (Option.none : Option Jvm.ClassFile.FieldType))  : ∀  (l0 : Nat) (l3 : Nat) (l4 : Int32) (y : MS) (H : Heap) (locs : List Loc) (ls : Array Slot), f_l_J0_init_db425_79 l0 l3 l4 y = some q → h_W G y0 (x, y, o) s.heap H locs → lv_has ls 5 [(0, g_rf G (l0)), (3, .ref (g_va G (l3))), (4, .int (l4))] → W p l e (h_lv 4 y0) s m args below meth c H locs (h_nx y - h_nx y0) (h_sl y - h_sl y0) (MQ below (h_Qv G y0 (x, q, o)) args s (h_nx q - h_nx y0) (h_sl q - h_sl y0) (g_A G)) (F0 m 79 ls []) := by
  intro l0 l3 l4 y H locs ls h hW hl
  unfold f_l_J0_init_db425_79 at h
  refine h_aload_n C0.hx C0.hb dJ0_init_db425_79 rfl (lv_at hl 0 rfl) ?_
  refine lv_iconst (v := (1 : Int32)) C0.hx C0.hb dJ0_init_db425_80 (by decide) ?_
  obtain ⟨hk16, h⟩ := g_if h
  obtain ⟨hn17, h⟩ := g_if h
  refine hp_J0_1 C0 hW hn17 hk16 tf_J0_15 (hin_ rfl) rfl dJ0_init_db425_81 (fun H locs hW => ?_)
  refine h_fwi hW ?_
  refine h_aload_n C0.hx C0.hb dJ0_init_db425_84 rfl (lv_at hl 0 rfl) ?_
  refine lv_aload_n C0.hx C0.hb dJ0_init_db425_85 rfl (lv_at hl 1 rfl) ?_
  refine lv_iconst (v := (0 : Int32)) C0.hx C0.hb dJ0_init_db425_86 (by decide) ?_
  refine lv_iload C0.hx C0.hb dJ0_init_db425_87 (lv_at hl 2 rfl) ?_
  refine lv_iconst (v := (1 : Int32)) C0.hx C0.hb dJ0_init_db425_89 (by decide) ?_
  refine lv_ishl C0.hx C0.hb dJ0_init_db425_90 ?_
  obtain ⟨q18, hq18, h⟩ := Option.bind_eq_some_iff.mp h
  refine h_callr hW (h_runS (As := [.ref (g_va G (l3)), .int ((0 : Int32)), .int (l4 <<< ((1 : Int32) &&& 31))]) (rest := [g_rf G (l0)]) C0 hW (c_l_J7_copyOfRange_39247 hq18) cy_J7_copyOfRange_39247 (by omega) tm_J0_54 tz_J7_copyOfRange_39247 rfl hl.1 rfl (by simp [g_catQ, h_ki, h_kr, h_kn, h_kl, h_kd]) dJ0_init_db425_91) (fun H locs hW => ?_)
  obtain ⟨hk19, h⟩ := g_if h
  obtain ⟨hk20, h⟩ := g_if h
  refine hpv_J0 C0 hW hk20 hk19 tf_J0_9 (hin_ rfl) rfl dJ0_init_db425_94 (fun H locs hW => ?_)
  refine h_fwr hW ?_
  obtain rfl := Option.some.inj h
  exact h_vret C0 hW rfl dJ0_init_db425_97
set_option maxRecDepth 100000 in
set_option maxHeartbeats 4000000 in
theorem c_l_J0_init_db425 {l : Launch} {G : GL} {o : Nat → Int32} {x : CS} {y : MS} {t : Nat} {p1 : Nat} {p2 : Nat} {q : MS} (h : f_l_J0_init_db425 t p1 p2 y = some q) : Met l yJ0_init_db425 (.code yJ0_init_db425 cJ0_init_db425 5 (Option.none : Option Jvm.ClassFile.FieldType) :: gT) (h_lv 4 y) (va_Pc [g_rf G (t), g_rf G (p1), g_rf G (p2)] (h_P G (x, y, o))) (h_Qv G y (x, q, o)) (h_nx q - h_nx y) (h_sl q - h_sl y) (g_A G) := by
  unfold f_l_J0_init_db425 at h
  refine h_entry (by decide) (by simp [lg_sl, g_catQ, h_ki, h_kr, h_kn, h_kl, h_kd]) (fun p e s m args below meth c ls C0 hl hW hin_ => ?_)
  have hl : lv_has ls 5 [(0, g_rf G (t)), (1, g_rf G (p1)), (2, g_rf G (p2))] := by simpa [lv_args, g_catQ, h_ki, h_kr, h_kn, h_kl, h_kd] using hl
  refine h_aload_n C0.hx C0.hb dJ0_init_db425_0 rfl (lv_at hl 0 rfl) ?_
  obtain ⟨hk1, h⟩ := g_if h
  refine h_objInit C0 hW (h_ne hk1 (by decide)) tm_J0_1 hl.1 (by show 1 ≤ 4; omega) (Nat.le_of_ble_eq_true rfl) dJ0_init_db425_1 ?_
  refine h_aload_n C0.hx C0.hb dJ0_init_db425_4 rfl (lv_at hl 1 rfl) ?_
  obtain ⟨hk2, h⟩ := g_if h
  obtain ⟨q3, hq3, h⟩ := Option.bind_eq_some_iff.mp h
  refine h_callr hW (h_runU (xn := yJ5_getValue_6d5f1) (As := []) (rest := []) C0 hW hk2 (c_l_J5_getValue_6d5f1 hq3) cy_J5_getValue_6d5f1 rfl (by omega) tm_J0_552 ti_J5_getValue_6d5f1 tc_J5_getValue_6d5f1 ti_J5_getValue_6d5f1 tsm_J5_getValue_6d5f1 (h_sl_J5_getValue_6d5f1 C0) rfl hl.1 rfl (Nat.le_of_ble_eq_true rfl) dJ0_init_db425_5) (fun H locs hW => ?_)
  refine lv_astore_n (i := 3) (lv' := [(3, .ref (g_va G (q3))), (0, g_rf G (t)), (1, g_rf G (p1)), (2, g_rf G (p2))]) C0.hx C0.hb dJ0_init_db425_8 rfl hl (by decide) (by simp [g_catQ]) (fun ls hl => ?_)
  refine h_aload_n C0.hx C0.hb dJ0_init_db425_9 rfl (lv_at hl 2 rfl) ?_
  obtain ⟨hk4, h⟩ := g_if h
  obtain ⟨q5, hq5, h⟩ := Option.bind_eq_some_iff.mp h
  refine h_calli hW (h_runU (xn := yJ5_length_8abf5) (As := []) (rest := []) C0 hW hk4 (c_l_J4_length_8abf5 hq5) cy_J4_length_8abf5 rfl (by omega) tm_J0_549 ti_J5_length_8abf5 tc_J5_length_8abf5 ti_J4_length_8abf5 tsm_J5_length_8abf5 (h_sl_J5_length_8abf5 C0) rfl hl.1 rfl (Nat.le_of_ble_eq_true rfl) dJ0_init_db425_10) (fun H locs hW => ?_)
  refine lv_istore (lv' := [(4, .int (q5)), (3, .ref (g_va G (q3))), (0, g_rf G (t)), (1, g_rf G (p1)), (2, g_rf G (p2))]) C0.hx C0.hb dJ0_init_db425_13 hl (by decide) rfl (fun ls hl => ?_)
  refine h_aload_n C0.hx C0.hb dJ0_init_db425_15 rfl (lv_at hl 3 rfl) ?_
  obtain ⟨hk6, h⟩ := g_if h
  obtain ⟨q7, hq7, h⟩ := Option.bind_eq_some_iff.mp h
  refine h_calli hW (h_runU (xn := yJ5_isLatin1_aae02) (As := []) (rest := []) C0 hW hk6 (c_l_J5_isLatin1_aae02 hq7) cy_J5_isLatin1_aae02 rfl (by omega) tm_J0_1047 ti_J5_isLatin1_aae02 tc_J5_isLatin1_aae02 ti_J5_isLatin1_aae02 tsm_J5_isLatin1_aae02 (h_sl_J5_isLatin1_aae02 C0) rfl hl.1 rfl (Nat.le_of_ble_eq_true rfl) dJ0_init_db425_16) (fun H locs hW => ?_)
  refine lv_if_eq (tgt := 41) C0.hx C0.hb dJ0_init_db425_19 (by decide) (fun hc8 => ?_) (fun hc8 => ?_)
  · replace h := (if_pos hc8).symm.trans h
    refine g_compact (h_up C0 _) hW.1 tf_J0_38 dJ0_init_db425_41 ?_
    refine lv_if_eq (tgt := 79) C0.hx C0.hb dJ0_init_db425_44 (by decide) (fun hc9 => ?_) (fun hc9 => ?_)
    · replace h := (if_pos hc9).symm.trans h
      have hz := w_l_J0_init_db425_79 (l := l) (e := e) (below := below) hin_ C0 _ _ _ _ _ _ _ h hW (lv_sub hl [2, 1, 0] rfl)
      exact hz
    · replace h := (if_neg hc9).symm.trans h
      refine h_aload_n C0.hx C0.hb dJ0_init_db425_47 rfl (lv_at hl 3 rfl) ?_
      obtain ⟨hk10, h⟩ := g_if h
      refine hf_J4_2 C0 hW hk10 tf_J0_1048 dJ0_init_db425_48 ?_
      refine lv_if_eq (tgt := 79) C0.hx C0.hb dJ0_init_db425_51 (by decide) (fun hc11 => ?_) (fun hc11 => ?_)
      · replace h := (if_pos hc11).symm.trans h
        have hz := w_l_J0_init_db425_79 (l := l) (e := e) (below := below) hin_ C0 _ _ _ _ _ _ _ h hW (lv_sub hl [2, 1, 0] rfl)
        exact hz
      · replace h := (if_neg hc11).symm.trans h
        refine h_aload_n C0.hx C0.hb dJ0_init_db425_54 rfl (lv_at hl 2 rfl) ?_
        refine lv_aload_n C0.hx C0.hb dJ0_init_db425_55 rfl (lv_at hl 1 rfl) ?_
        refine lv_iconst (v := (0 : Int32)) C0.hx C0.hb dJ0_init_db425_56 (by decide) ?_
        refine lv_iload C0.hx C0.hb dJ0_init_db425_57 (lv_at hl 0 rfl) ?_
        cases h
  · replace h := (if_neg hc8).symm.trans h
    refine h_aload_n C0.hx C0.hb dJ0_init_db425_22 rfl (lv_at hl 2 rfl) ?_
    refine lv_iconst (v := (0 : Int32)) C0.hx C0.hb dJ0_init_db425_23 (by decide) ?_
    obtain ⟨hn12, h⟩ := g_if h
    refine hp_J0_1 C0 hW hn12 hk1 tf_J0_15 (hin_ rfl) rfl dJ0_init_db425_24 (fun H locs hW => ?_)
    refine h_fwi hW ?_
    refine h_aload_n C0.hx C0.hb dJ0_init_db425_27 rfl (lv_at hl 2 rfl) ?_
    refine lv_aload_n C0.hx C0.hb dJ0_init_db425_28 rfl (lv_at hl 1 rfl) ?_
    refine lv_iconst (v := (0 : Int32)) C0.hx C0.hb dJ0_init_db425_29 (by decide) ?_
    refine lv_iload C0.hx C0.hb dJ0_init_db425_30 (lv_at hl 0 rfl) ?_
    obtain ⟨q13, hq13, h⟩ := Option.bind_eq_some_iff.mp h
    refine h_callr hW (h_runS (As := [.ref (g_va G (q3)), .int ((0 : Int32)), .int (q5)]) (rest := [g_rf G (t)]) C0 hW (c_l_J7_copyOfRange_39247 hq13) cy_J7_copyOfRange_39247 (by omega) tm_J0_54 tz_J7_copyOfRange_39247 rfl hl.1 rfl (by simp [g_catQ, h_ki, h_kr, h_kn, h_kl, h_kd]) dJ0_init_db425_32) (fun H locs hW => ?_)
    obtain ⟨hk14, h⟩ := g_if h
    obtain ⟨hk15, h⟩ := g_if h
    refine hpv_J0 C0 hW hk15 hk14 tf_J0_9 (hin_ rfl) rfl dJ0_init_db425_35 (fun H locs hW => ?_)
    refine h_fwr hW ?_
    refine lv_goto (tgt := 97) C0.hx C0.hb dJ0_init_db425_38 (by decide) ?_
    obtain rfl := Option.some.inj h
    exact h_vret C0 hW rfl dJ0_init_db425_97
set_option maxRecDepth 100000 in
set_option maxHeartbeats 4000000 in
theorem c_l_J0_init_81219 {l : Launch} {G : GL} {o : Nat → Int32} {x : CS} {y : MS} {t : Nat} {p1 : Nat} {q : MS} (h : f_l_J0_init_81219 t p1 y = some q) : Met l yJ0_init_81219 (.code yJ0_init_81219 cJ0_init_81219 2 (Option.none : Option Jvm.ClassFile.FieldType) :: gT) (h_lv 5 y) (va_Pc [g_rf G (t), g_rf G (p1)] (h_P G (x, y, o))) (h_Qv G y (x, q, o)) (h_nx q - h_nx y) (h_sl q - h_sl y) (g_A G) := by
  unfold f_l_J0_init_81219 at h
  refine h_entry (by decide) (by simp [lg_sl, g_catQ, h_ki, h_kr, h_kn, h_kl, h_kd]) (fun p e s m args below meth c ls C0 hl hW hin_ => ?_)
  have hl : lv_has ls 2 [(0, g_rf G (t)), (1, g_rf G (p1))] := by simpa [lv_args, g_catQ, h_ki, h_kr, h_kn, h_kl, h_kd] using hl
  refine h_aload_n C0.hx C0.hb dJ0_init_81219_0 rfl (lv_at hl 0 rfl) ?_
  refine h_aload_n C0.hx C0.hb dJ0_init_81219_1 rfl (lv_at hl 1 rfl) ?_
  refine h_null (G := G) C0.hx C0.hb dJ0_init_81219_2 ?_
  obtain ⟨hk1, h⟩ := g_if h
  obtain ⟨q2, hq2, h⟩ := Option.bind_eq_some_iff.mp h
  refine h_callv hW (h_runI (As := [g_rf G (p1), g_rf G (0)]) (rest := []) C0 hW (hW.rf (h_ne hk1 (by decide))) (c_l_J0_init_db425 hq2) cy_J0_init_db425 (by omega) tm_J0_489 ti_J0_init_db425 rfl rfl hl.1 rfl (Nat.le_of_ble_eq_true rfl) dJ0_init_81219_3) (fun H locs hW => ?_)
  obtain rfl := Option.some.inj h
  exact h_vret C0 hW rfl dJ0_init_81219_6
set_option maxRecDepth 100000 in
set_option maxHeartbeats 4000000 in
theorem c_l_J4_init_da8c8 {l : Launch} {G : GL} {o : Nat → Int32} {x : CS} {y : MS} {t : Nat} {q : MS} (h : f_l_J4_init_da8c8 t y = some q) : Met l yJ4_init_da8c8 (.code yJ4_init_da8c8 cJ4_init_da8c8 1 (Option.none : Option Jvm.ClassFile.FieldType) :: gT) (h_lv 2 y) (va_Pc [g_rf G (t)] (h_P G (x, y, o))) (h_Qv G y (x, q, o)) (h_nx q - h_nx y) (h_sl q - h_sl y) (g_A G) := by
  unfold f_l_J4_init_da8c8 at h
  refine h_entry (by decide) (by simp [lg_sl, g_catQ, h_ki, h_kr, h_kn, h_kl, h_kd]) (fun p e s m args below meth c ls C0 hl hW hin_ => ?_)
  have hl : lv_has ls 1 [(0, g_rf G (t))] := by simpa [lv_args, g_catQ, h_ki, h_kr, h_kn, h_kl, h_kd] using hl
  refine h_aload_n C0.hx C0.hb dJ4_init_da8c8_0 rfl (lv_at hl 0 rfl) ?_
  refine lv_bipush (v := (16 : Int32)) C0.hx C0.hb dJ4_init_da8c8_1 (by decide) ?_
  obtain ⟨hk1, h⟩ := g_if h
  obtain ⟨q2, hq2, h⟩ := Option.bind_eq_some_iff.mp h
  refine h_callv hW (h_runI (As := [.int ((16 : Int32))]) (rest := []) C0 hW (hW.rf (h_ne hk1 (by decide))) (c_l_J5_init_d00df hq2) cy_J5_init_d00df (by omega) tm_J4_1 ti_J5_init_d00df rfl rfl hl.1 rfl (Nat.le_of_ble_eq_true rfl) dJ4_init_da8c8_3) (fun H locs hW => ?_)
  obtain rfl := Option.some.inj h
  exact h_vret C0 hW rfl dJ4_init_da8c8_6
set_option maxRecDepth 100000 in
set_option maxHeartbeats 4000000 in
theorem c_l_J4_append_15ec4 {l : Launch} {G : GL} {o : Nat → Int32} {x : CS} {y : MS} {t : Nat} {p1 : Nat} {q : Nat × MS} (h : f_l_J4_append_15ec4 t p1 y = some q) : Met l yJ4_append_15ec4 (.code yJ4_append_15ec4 cJ4_append_15ec4 2 (Option.some (Jvm.ClassFile.FieldType.object "java/lang/StringBuilder")) :: gT) (h_lv 6 y) (va_Pc [g_rf G (t), .ref (g_sa G (p1))] (h_P G (x, y, o))) (h_Qr G y (g_rf G (q.1)) (x, q.2, o)) (h_nx q.2 - h_nx y) (h_sl q.2 - h_sl y) (g_A G) := by
  unfold f_l_J4_append_15ec4 at h
  refine h_entry (by decide) (by simp [lg_sl, g_catQ, h_ki, h_kr, h_kn, h_kl, h_kd]) (fun p e s m args below meth c ls C0 hl hW hin_ => ?_)
  have hl : lv_has ls 2 [(0, g_rf G (t)), (1, .ref (g_sa G (p1)))] := by simpa [lv_args, g_catQ, h_ki, h_kr, h_kn, h_kl, h_kd] using hl
  refine h_aload_n C0.hx C0.hb dJ4_append_15ec4_0 rfl (lv_at hl 0 rfl) ?_
  refine lv_aload_n C0.hx C0.hb dJ4_append_15ec4_1 rfl (lv_at hl 1 rfl) ?_
  obtain ⟨hk1, h⟩ := g_if h
  obtain ⟨q2, hq2, h⟩ := Option.bind_eq_some_iff.mp h
  refine h_callr hW (h_runSU (As := [.ref (g_sa G (p1))]) (rest := []) C0 hW hk1 (c_l_J5_append_cf1ce hq2) cy_J5_append_cf1ce (by omega) tm_J4_29 ti_J5_append_cf1ce tsm_J5_append_cf1ce ⟨rfl, by decide⟩ rfl hl.1 rfl (Nat.le_of_ble_eq_true rfl) dJ4_append_15ec4_2) (fun H locs hW => ?_)
  refine lv_pop C0.hx C0.hb dJ4_append_15ec4_5 g_catQ ?_
  refine h_aload_n C0.hx C0.hb dJ4_append_15ec4_6 rfl (lv_at hl 0 rfl) ?_
  obtain ⟨hk3, h⟩ := g_if h
  obtain rfl := Option.some.inj h
  exact h_aretC C0 hW (hW.rf (h_ne hk3 (by decide))) rfl dJ4_append_15ec4_7
set_option maxRecDepth 100000 in
set_option maxHeartbeats 4000000 in
theorem c_l_J4_append_bf812 {l : Launch} {G : GL} {o : Nat → Int32} {x : CS} {y : MS} {t : Nat} {p1 : Int32} {q : Nat × MS} (h : f_l_J4_append_bf812 t p1 y = some q) : Met l yJ4_append_bf812 (.code yJ4_append_bf812 cJ4_append_bf812 2 (Option.some (Jvm.ClassFile.FieldType.object "java/lang/StringBuilder")) :: gT) (h_lv 6 y) (va_Pc [g_rf G (t), .int (p1)] (h_P G (x, y, o))) (h_Qr G y (g_rf G (q.1)) (x, q.2, o)) (h_nx q.2 - h_nx y) (h_sl q.2 - h_sl y) (g_A G) := by
  unfold f_l_J4_append_bf812 at h
  refine h_entry (by decide) (by simp [lg_sl, g_catQ, h_ki, h_kr, h_kn, h_kl, h_kd]) (fun p e s m args below meth c ls C0 hl hW hin_ => ?_)
  have hl : lv_has ls 2 [(0, g_rf G (t)), (1, .int (p1))] := by simpa [lv_args, g_catQ, h_ki, h_kr, h_kn, h_kl, h_kd] using hl
  refine h_aload_n C0.hx C0.hb dJ4_append_bf812_0 rfl (lv_at hl 0 rfl) ?_
  refine lv_iload_n C0.hx C0.hb dJ4_append_bf812_1 rfl (lv_at hl 1 rfl) ?_
  obtain ⟨hk1, h⟩ := g_if h
  obtain ⟨q2, hq2, h⟩ := Option.bind_eq_some_iff.mp h
  refine h_callr hW (h_runSU (As := [.int (p1)]) (rest := []) C0 hW hk1 (c_l_J5_append_c97b9 hq2) cy_J5_append_c97b9 (by omega) tm_J4_53 ti_J5_append_c97b9 tsm_J5_append_c97b9 ⟨rfl, by decide⟩ rfl hl.1 rfl (Nat.le_of_ble_eq_true rfl) dJ4_append_bf812_2) (fun H locs hW => ?_)
  refine lv_pop C0.hx C0.hb dJ4_append_bf812_5 g_catQ ?_
  refine h_aload_n C0.hx C0.hb dJ4_append_bf812_6 rfl (lv_at hl 0 rfl) ?_
  obtain ⟨hk3, h⟩ := g_if h
  obtain rfl := Option.some.inj h
  exact h_aretC C0 hW (hW.rf (h_ne hk3 (by decide))) rfl dJ4_append_bf812_7
set_option maxRecDepth 100000 in
set_option maxHeartbeats 4000000 in
theorem c_l_J4_toString_0e30d {l : Launch} {G : GL} {o : Nat → Int32} {x : CS} {y : MS} {t : Nat} {q : Nat × MS} (h : f_l_J4_toString_0e30d t y = some q) : Met l yJ4_toString_0e30d (.code yJ4_toString_0e30d cJ4_toString_0e30d 1 (Option.some (Jvm.ClassFile.FieldType.object "java/lang/String")) :: gT) (h_lv 6 y) (va_Pc [g_rf G (t)] (h_P G (x, y, o))) (h_Qr G y (.ref (g_sa G (q.1))) (x, q.2, o)) (h_nx q.2 - h_nx y) (h_sl q.2 - h_sl y) (g_A G) := by
  unfold f_l_J4_toString_0e30d at h
  refine h_entry (by decide) (by simp [lg_sl, g_catQ, h_ki, h_kr, h_kn, h_kl, h_kd]) (fun p e s m args below meth c ls C0 hl hW hin_ => ?_)
  have hl : lv_has ls 1 [(0, g_rf G (t))] := by simpa [lv_args, g_catQ, h_ki, h_kr, h_kn, h_kl, h_kd] using hl
  obtain ⟨hn1, h⟩ := g_if h
  refine hno_55 C0 hW hn1 tl_J4_18 dJ4_toString_0e30d_0 (fun H hW => ?_)
  refine lv_dup C0.hx C0.hb dJ4_toString_0e30d_3 g_catQ ?_
  refine h_aload_n C0.hx C0.hb dJ4_toString_0e30d_4 rfl (lv_at hl 0 rfl) ?_
  obtain ⟨hk2, h⟩ := g_if h
  obtain ⟨q3, hq3, h⟩ := Option.bind_eq_some_iff.mp h
  refine h_callv hW (h_runI (As := [g_rf G (t)]) (rest := [g_rf G (h_nx y)]) C0 hW (hW.rf (h_ne hk2 (by decide))) (c_l_J0_init_81219 hq3) cy_J0_init_81219 (by omega) tm_J4_137 ti_J0_init_81219 rfl rfl hl.1 rfl (by simp [g_catQ, h_ki, h_kr, h_kn, h_kl, h_kd]) dJ4_toString_0e30d_5) (fun H locs hW => ?_)
  obtain ⟨hk4, h⟩ := g_if h
  obtain rfl := Option.some.inj h
  rw [h_toS hW hk4]
  exact h_aretC C0 hW rfl rfl dJ4_toString_0e30d_8
set_option maxRecDepth 100000 in
set_option maxHeartbeats 4000000 in
theorem c_l_J0_isLatin1_aae02 {l : Launch} {G : GL} {o : Nat → Int32} {x : CS} {y : MS} {t : Nat} {q : Int32} (h : f_l_J0_isLatin1_aae02 t y = some q) : Met l yJ0_isLatin1_aae02 (.code yJ0_isLatin1_aae02 cJ0_isLatin1_aae02 1 (Option.some Jvm.ClassFile.FieldType.boolean) :: gT) (h_lv 1 y) (va_Pc [.ref (g_sa G (t))] (h_P G (x, y, o))) (h_Qi G y q (x, y, o)) (h_nx y - h_nx y) (h_sl y - h_sl y) (g_A G) := by
  unfold f_l_J0_isLatin1_aae02 at h
  refine h_entry (by decide) (Nat.le_of_ble_eq_true rfl) (fun p e s m args below meth c ls C0 hl hW hin_ => ?_)
  have hl : lv_has ls 1 [(0, .ref (g_sa G (t)))] := hl
  refine g_compact (h_up C0 _) hW.1 tf_J0_38 dJ0_isLatin1_aae02_0 ?_
  refine lv_if_eq (tgt := 17) C0.hx C0.hb dJ0_isLatin1_aae02_3 (by decide) (fun hc1 => ?_) (fun hc1 => ?_)
  · replace h := (if_pos hc1).symm.trans h
    refine lv_iconst (v := (0 : Int32)) C0.hx C0.hb dJ0_isLatin1_aae02_17 (by decide) ?_
    obtain rfl := Option.some.inj h
    exact h_iret C0 hW rfl (g_bool (Or.inl rfl)).1 dJ0_isLatin1_aae02_18
  · replace h := (if_neg hc1).symm.trans h
    refine lv_aload_n C0.hx C0.hb dJ0_isLatin1_aae02_6 rfl (lv_at hl 0 rfl) ?_
    obtain ⟨hn2, h⟩ := g_if h
    refine h_scod C0 hW hn2 tf_J0_15 dJ0_isLatin1_aae02_7 ?_
    refine lv_if_ne (tgt := 17) C0.hx C0.hb dJ0_isLatin1_aae02_10 (by decide) (fun hc3 => ?_) (fun hc3 => ?_)
    · replace h := (if_neg hc3).symm.trans h
      refine lv_iconst (v := (0 : Int32)) C0.hx C0.hb dJ0_isLatin1_aae02_17 (by decide) ?_
      obtain rfl := Option.some.inj h
      exact h_iret C0 hW rfl (g_bool (Or.inl rfl)).1 dJ0_isLatin1_aae02_18
    · replace h := (if_pos hc3).symm.trans h
      refine lv_iconst (v := (1 : Int32)) C0.hx C0.hb dJ0_isLatin1_aae02_13 (by decide) ?_
      refine lv_goto (tgt := 18) C0.hx C0.hb dJ0_isLatin1_aae02_14 (by decide) ?_
      obtain rfl := Option.some.inj h
      exact h_iret C0 hW rfl (g_bool (Or.inr rfl)).1 dJ0_isLatin1_aae02_18
set_option maxRecDepth 100000 in
set_option maxHeartbeats 4000000 in
theorem c_l_J1_charAt_3b067 {l : Launch} {G : GL} {o : Nat → Int32} {x : CS} {y : MS} {p1 : Nat} {p2 : Int32} {q : Int32} (h : f_l_J1_charAt_3b067 p1 p2 y = some q) : Met l yJ1_charAt_3b067 (.code yJ1_charAt_3b067 cJ1_charAt_3b067 2 (Option.some Jvm.ClassFile.FieldType.char) :: gT) (h_lv 3 y) (va_Pc [.ref (g_va G (p1)), .int (p2)] (h_P G (x, y, o))) (h_Qi G y q (x, y, o)) (h_nx y - h_nx y) (h_sl y - h_sl y) (g_A G) := by
  unfold f_l_J1_charAt_3b067 at h
  refine h_entry (by decide) (Nat.le_of_ble_eq_true rfl) (fun p e s m args below meth c ls C0 hl hW hin_ => ?_)
  have hl : lv_has ls 2 [(0, .ref (g_va G (p1))), (1, .int (p2))] := hl
  refine lv_iload_n C0.hx C0.hb dJ1_charAt_3b067_0 rfl (lv_at hl 1 rfl) ?_
  refine lv_aload_n C0.hx C0.hb dJ1_charAt_3b067_1 rfl (lv_at hl 0 rfl) ?_
  obtain ⟨hn1, h⟩ := g_if h
  refine h_vlen C0 hW hn1 dJ1_charAt_3b067_2 ?_
  obtain ⟨hn2, h⟩ := g_if h
  obtain ⟨hn3, h⟩ := g_if h
  refine h_kcallv hW (h_krunS (k1 := 1) (As := [.int (p2), .int (nI (h_vn y p1))]) (rest := []) C0 hW (c_J0_checkIndex_df160 hn2 hn3) ⟨tc_J0_checkIndex_df160, tn_J0, md_J0_checkIndex_df160, by decide⟩ (by omega) tm_J1_9 tz_J0_checkIndex_df160 rfl hl.1 rfl (Nat.le_of_ble_eq_true rfl) dJ1_charAt_3b067_3) (fun H locs hW => ?_)
  refine lv_aload_n C0.hx C0.hb dJ1_charAt_3b067_6 rfl (lv_at hl 0 rfl) ?_
  refine lv_iload_n C0.hx C0.hb dJ1_charAt_3b067_7 rfl (lv_at hl 1 rfl) ?_
  obtain ⟨hn4, h⟩ := g_if h
  obtain ⟨hn5, h⟩ := g_if h
  refine h_vat C0 hW hn4 hn5 dJ1_charAt_3b067_8 ?_
  refine lv_sipush (v := (255 : Int32)) C0.hx C0.hb dJ1_charAt_3b067_9 (by decide) ?_
  refine lv_iand C0.hx C0.hb dJ1_charAt_3b067_12 ?_
  refine lv_i2c C0.hx C0.hb dJ1_charAt_3b067_13 rfl ?_
  obtain ⟨hn6, h⟩ := g_if h
  obtain rfl := Option.some.inj h
  exact h_iret C0 hW rfl hn6 dJ1_charAt_3b067_14
set_option maxRecDepth 100000 in
set_option maxHeartbeats 4000000 in
theorem c_l_J0_charAt_5068e {l : Launch} {G : GL} {o : Nat → Int32} {x : CS} {y : MS} {t : Nat} {p1 : Int32} {q : Int32} (h : f_l_J0_charAt_5068e t p1 y = some q) : Met l yJ0_charAt_5068e (.code yJ0_charAt_5068e cJ0_charAt_5068e 2 (Option.some Jvm.ClassFile.FieldType.char) :: gT) (h_lv 4 y) (va_Pc [.ref (g_sa G (t)), .int (p1)] (h_P G (x, y, o))) (h_Qi G y q (x, y, o)) (h_nx y - h_nx y) (h_sl y - h_sl y) (g_A G) := by
  unfold f_l_J0_charAt_5068e at h
  refine h_entry (by decide) (Nat.le_of_ble_eq_true rfl) (fun p e s m args below meth c ls C0 hl hW hin_ => ?_)
  have hl : lv_has ls 2 [(0, .ref (g_sa G (t))), (1, .int (p1))] := hl
  refine lv_aload_n C0.hx C0.hb dJ0_charAt_5068e_0 rfl (lv_at hl 0 rfl) ?_
  obtain ⟨hn1, h⟩ := g_if h
  obtain ⟨q2, hq2, h⟩ := Option.bind_eq_some_iff.mp h
  refine h_calli hW (h_runV (As := []) (rest := []) C0 hW rfl (h_srecv C0 hW hn1) (c_l_J0_isLatin1_aae02 hq2) cy_J0_isLatin1_aae02 (by omega) tm_J0_492 ti_J0_isLatin1_aae02 ts_J0_isLatin1_aae02 rfl hl.1 rfl (Nat.le_of_ble_eq_true rfl) dJ0_charAt_5068e_1) (fun H locs hW => ?_)
  refine lv_if_eq (tgt := 16) C0.hx C0.hb dJ0_charAt_5068e_4 (by decide) (fun hc3 => ?_) (fun hc3 => ?_)
  · replace h := (if_pos hc3).symm.trans h
    refine lv_aload_n C0.hx C0.hb dJ0_charAt_5068e_16 rfl (lv_at hl 0 rfl) ?_
    obtain ⟨hn4, h⟩ := g_if h
    refine h_sval C0 hW hn4 tf_J0_9 dJ0_charAt_5068e_17 ?_
    refine lv_iload_n C0.hx C0.hb dJ0_charAt_5068e_20 rfl (lv_at hl 1 rfl) ?_
    cases h
  · replace h := (if_neg hc3).symm.trans h
    refine lv_aload_n C0.hx C0.hb dJ0_charAt_5068e_7 rfl (lv_at hl 0 rfl) ?_
    obtain ⟨hn5, h⟩ := g_if h
    refine h_sval C0 hW hn5 tf_J0_9 dJ0_charAt_5068e_8 ?_
    refine lv_iload_n C0.hx C0.hb dJ0_charAt_5068e_11 rfl (lv_at hl 1 rfl) ?_
    obtain ⟨q6, hq6, h⟩ := Option.bind_eq_some_iff.mp h
    refine h_calli hW (h_runS (As := [.ref (g_va G (h_sv y t)), .int (p1)]) (rest := []) C0 hW (c_l_J1_charAt_3b067 hq6) cy_J1_charAt_3b067 (by omega) tm_J0_495 tz_J1_charAt_3b067 rfl hl.1 rfl (Nat.le_of_ble_eq_true rfl) dJ0_charAt_5068e_12) (fun H locs hW => ?_)
    obtain ⟨hn7, h⟩ := g_if h
    obtain rfl := Option.some.inj h
    exact h_iret C0 hW rfl hn7 dJ0_charAt_5068e_15
