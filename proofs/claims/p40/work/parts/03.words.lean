/-! the words of the tables that every method's contract carries -/
def gT : List Cond := lw_tbl.filter goodWord
/-- the words of nest mates: of the tables, but not good ones -/
def g_isN : Cond → Bool
  | .fieldLinkNest .. => true
  | .methodLinkNest .. => true
  | .declares .. => true
  | .castable .. => true
  | _ => false
def gN : List Cond := tables_1.filter g_isN
theorem g_memN {w : Cond} (h : w ∈ tables_1) (hg : g_isN w = true) : w ∈ gN := List.mem_filter.mpr ⟨h, hg⟩
theorem g_memT {w : Cond} (h : w ∈ tables_1) (hg : goodWord w = true) : w ∈ gT := List.mem_filter.mpr ⟨List.mem_append_right _ h, hg⟩
theorem g_mem0 {i : Nat} {w : Cond} (h : (k2_sels lw_privs)[i]? = some w) (hg : goodWord w = true) : w ∈ gT := List.mem_filter.mpr ⟨List.mem_append_left _ (List.mem_of_getElem? h), hg⟩
theorem g_nem1 {i : Nat} {w : Cond} (h : tables_1_1[i]? = some w) (hg : g_isN w = true) : w ∈ gN := g_memN (List.mem_append_left _ (List.mem_of_getElem? h)) hg
theorem g_mem1 {i : Nat} {w : Cond} (h : tables_1_1[i]? = some w) (hg : goodWord w = true) : w ∈ gT := g_memT (List.mem_append_left _ (List.mem_of_getElem? h)) hg
theorem g_nem2 {i : Nat} {w : Cond} (h : tables_1_2[i]? = some w) (hg : g_isN w = true) : w ∈ gN := g_memN (List.mem_append_right _ (List.mem_append_left _ (List.mem_of_getElem? h))) hg
theorem g_mem2 {i : Nat} {w : Cond} (h : tables_1_2[i]? = some w) (hg : goodWord w = true) : w ∈ gT := g_memT (List.mem_append_right _ (List.mem_append_left _ (List.mem_of_getElem? h))) hg
theorem g_nem3 {i : Nat} {w : Cond} (h : tables_1_3[i]? = some w) (hg : g_isN w = true) : w ∈ gN := g_memN (List.mem_append_right _ (List.mem_append_right _ (List.mem_append_left _ (List.mem_of_getElem? h)))) hg
theorem g_mem3 {i : Nat} {w : Cond} (h : tables_1_3[i]? = some w) (hg : goodWord w = true) : w ∈ gT := g_memT (List.mem_append_right _ (List.mem_append_right _ (List.mem_append_left _ (List.mem_of_getElem? h)))) hg
theorem g_nem4 {i : Nat} {w : Cond} (h : tables_1_4[i]? = some w) (hg : g_isN w = true) : w ∈ gN := g_memN (List.mem_append_right _ (List.mem_append_right _ (List.mem_append_right _ (List.mem_append_left _ (List.mem_of_getElem? h))))) hg
theorem g_mem4 {i : Nat} {w : Cond} (h : tables_1_4[i]? = some w) (hg : goodWord w = true) : w ∈ gT := g_memT (List.mem_append_right _ (List.mem_append_right _ (List.mem_append_right _ (List.mem_append_left _ (List.mem_of_getElem? h))))) hg
theorem g_nem5 {i : Nat} {w : Cond} (h : tables_1_5[i]? = some w) (hg : g_isN w = true) : w ∈ gN := g_memN (List.mem_append_right _ (List.mem_append_right _ (List.mem_append_right _ (List.mem_append_right _ (List.mem_append_left _ (List.mem_of_getElem? h)))))) hg
theorem g_mem5 {i : Nat} {w : Cond} (h : tables_1_5[i]? = some w) (hg : goodWord w = true) : w ∈ gT := g_memT (List.mem_append_right _ (List.mem_append_right _ (List.mem_append_right _ (List.mem_append_right _ (List.mem_append_left _ (List.mem_of_getElem? h)))))) hg
theorem g_nem6 {i : Nat} {w : Cond} (h : tables_1_6[i]? = some w) (hg : g_isN w = true) : w ∈ gN := g_memN (List.mem_append_right _ (List.mem_append_right _ (List.mem_append_right _ (List.mem_append_right _ (List.mem_append_right _ (List.mem_append_left _ (List.mem_of_getElem? h))))))) hg
theorem g_mem6 {i : Nat} {w : Cond} (h : tables_1_6[i]? = some w) (hg : goodWord w = true) : w ∈ gT := g_memT (List.mem_append_right _ (List.mem_append_right _ (List.mem_append_right _ (List.mem_append_right _ (List.mem_append_right _ (List.mem_append_left _ (List.mem_of_getElem? h))))))) hg
theorem g_nem7 {i : Nat} {w : Cond} (h : tables_1_7[i]? = some w) (hg : g_isN w = true) : w ∈ gN := g_memN (List.mem_append_right _ (List.mem_append_right _ (List.mem_append_right _ (List.mem_append_right _ (List.mem_append_right _ (List.mem_append_right _ (List.mem_append_left _ (List.mem_of_getElem? h)))))))) hg
theorem g_mem7 {i : Nat} {w : Cond} (h : tables_1_7[i]? = some w) (hg : goodWord w = true) : w ∈ gT := g_memT (List.mem_append_right _ (List.mem_append_right _ (List.mem_append_right _ (List.mem_append_right _ (List.mem_append_right _ (List.mem_append_right _ (List.mem_append_left _ (List.mem_of_getElem? h)))))))) hg
theorem g_nem8 {i : Nat} {w : Cond} (h : tables_1_8[i]? = some w) (hg : g_isN w = true) : w ∈ gN := g_memN (List.mem_append_right _ (List.mem_append_right _ (List.mem_append_right _ (List.mem_append_right _ (List.mem_append_right _ (List.mem_append_right _ (List.mem_append_right _ (List.mem_of_getElem? h)))))))) hg
theorem g_mem8 {i : Nat} {w : Cond} (h : tables_1_8[i]? = some w) (hg : goodWord w = true) : w ∈ gT := g_memT (List.mem_append_right _ (List.mem_append_right _ (List.mem_append_right _ (List.mem_append_right _ (List.mem_append_right _ (List.mem_append_right _ (List.mem_append_right _ (List.mem_of_getElem? h)))))))) hg
theorem tn_L : Cond.initialized RL ∈ gT := g_mem1 (i := 0) (by decide +kernel) rfl
theorem tn_X12 : Cond.initialized RX12 ∈ gT := g_mem1 (i := 1) (by decide +kernel) rfl
theorem tn_X7 : Cond.initialized RX7 ∈ gT := g_mem1 (i := 2) (by decide +kernel) rfl
theorem tn_X8 : Cond.initialized RX8 ∈ gT := g_mem1 (i := 3) (by decide +kernel) rfl
theorem tn_Jx29ce0 : Cond.initialized RJx29ce0 ∈ gT := g_mem1 (i := 4) (by decide +kernel) rfl
theorem tn_X6 : Cond.initialized RX6 ∈ gT := g_mem1 (i := 5) (by decide +kernel) rfl
theorem tn_X10 : Cond.initialized RX10 ∈ gT := g_mem1 (i := 6) (by decide +kernel) rfl
theorem tn_X3 : Cond.initialized RX3 ∈ gT := g_mem1 (i := 7) (by decide +kernel) rfl
theorem tn_X1 : Cond.initialized RX1 ∈ gT := g_mem1 (i := 8) (by decide +kernel) rfl
theorem tn_X5 : Cond.initialized RX5 ∈ gT := g_mem1 (i := 9) (by decide +kernel) rfl
theorem tn_X4 : Cond.initialized RX4 ∈ gT := g_mem1 (i := 10) (by decide +kernel) rfl
theorem tn_X9 : Cond.initialized RX9 ∈ gT := g_mem1 (i := 11) (by decide +kernel) rfl
theorem tn_X11 : Cond.initialized RX11 ∈ gT := g_mem1 (i := 12) (by decide +kernel) rfl
theorem tn_X13 : Cond.initialized RX13 ∈ gT := g_mem1 (i := 13) (by decide +kernel) rfl
theorem tn_J5 : Cond.initialized RJ5 ∈ gT := g_mem1 (i := 14) (by decide +kernel) rfl
theorem tn_J4 : Cond.initialized RJ4 ∈ gT := g_mem1 (i := 15) (by decide +kernel) rfl
theorem tn_J0 : Cond.initialized RJ0 ∈ gT := g_mem1 (i := 16) (by decide +kernel) rfl
theorem tn_J2 : Cond.initialized RJ2 ∈ gT := g_mem1 (i := 17) (by decide +kernel) rfl
theorem tn_X16 : Cond.initialized RX16 ∈ gT := g_mem1 (i := 18) (by decide +kernel) rfl
theorem tn_J8 : Cond.initialized RJ8 ∈ gT := g_mem1 (i := 19) (by decide +kernel) rfl
theorem tn_J9 : Cond.initialized RJ9 ∈ gT := g_mem1 (i := 20) (by decide +kernel) rfl
theorem tn_J7 : Cond.initialized RJ7 ∈ gT := g_mem1 (i := 21) (by decide +kernel) rfl
theorem tn_J10 : Cond.initialized RJ10 ∈ gT := g_mem1 (i := 22) (by decide +kernel) rfl
theorem tn_J3 : Cond.initialized RJ3 ∈ gT := g_mem1 (i := 23) (by decide +kernel) rfl
theorem tn_J1 : Cond.initialized RJ1 ∈ gT := g_mem1 (i := 24) (by decide +kernel) rfl
theorem tn_Jxd2413 : Cond.initialized RJxd2413 ∈ gT := g_mem1 (i := 25) (by decide +kernel) rfl
theorem tn_J6 : Cond.initialized RJ6 ∈ gT := g_mem1 (i := 26) (by decide +kernel) rfl
theorem tn_X15 : Cond.initialized RX15 ∈ gT := g_mem1 (i := 27) (by decide +kernel) rfl
theorem tn_X14 : Cond.initialized RX14 ∈ gT := g_mem1 (i := 28) (by decide +kernel) rfl
theorem tn_java_lang_Throwable : Cond.initialized "java/lang/Throwable" ∈ gT := g_mem1 (i := 29) (by decide +kernel) rfl
theorem tn_java_lang_Exception : Cond.initialized "java/lang/Exception" ∈ gT := g_mem1 (i := 30) (by decide +kernel) rfl
theorem tn_java_lang_RuntimeException : Cond.initialized "java/lang/RuntimeException" ∈ gT := g_mem1 (i := 31) (by decide +kernel) rfl
theorem tn_java_lang_IllegalStateException : Cond.initialized "java/lang/IllegalStateException" ∈ gT := g_mem1 (i := 32) (by decide +kernel) rfl
theorem tn_java_lang_IllegalArgumentException : Cond.initialized "java/lang/IllegalArgumentException" ∈ gT := g_mem1 (i := 33) (by decide +kernel) rfl
theorem tn_X2 : Cond.initialized RX2 ∈ gT := g_mem1 (i := 34) (by decide +kernel) rfl
theorem tn_X0 : Cond.initialized RX0 ∈ gT := g_mem1 (i := 35) (by decide +kernel) rfl
theorem tn_java_lang_IndexOutOfBoundsException : Cond.initialized "java/lang/IndexOutOfBoundsException" ∈ gT := g_mem1 (i := 36) (by decide +kernel) rfl
theorem tl_L_20 : Cond.classLink RL 20 RX12 ∈ gT := g_mem1 (i := 37) (by decide +kernel) rfl
theorem ta_X12 : Cond.instantiable RX12 11 ∈ gT := g_mem1 (i := 38) (by decide +kernel) rfl
theorem tm_L_148 : Cond.methodLink RL 148 yX12_init ∈ gT := g_mem1 (i := 39) (by decide +kernel) rfl
theorem ti_X12_init : Cond.instanceMethod yX12_init ∈ gT := g_mem1 (i := 40) (by decide +kernel) rfl
theorem tc_X12_init : Cond.code yX12_init cX12_init 1 (Option.none : Option Jvm.ClassFile.FieldType) ∈ gT := g_mem1 (i := 41) (by decide +kernel) rfl
theorem tm_X12_1 : Cond.methodLink RX12 1 ⟨"java/lang/Object", "<init>", "()V"⟩ ∈ gT := g_mem1 (i := 42) (by decide +kernel) rfl
theorem ti_java_lang_Object__init_ : Cond.instanceMethod ⟨"java/lang/Object", "<init>", "()V"⟩ ∈ gT := g_mem1 (i := 43) (by decide +kernel) rfl
theorem tc_java_lang_Object__init_ : Cond.code ⟨"java/lang/Object", "<init>", "()V"⟩ object_method_1_code 1 (Option.none : Option Jvm.ClassFile.FieldType) ∈ gT := g_mem1 (i := 44) (by decide +kernel) rfl
theorem tl_X12_7 : Cond.classLink RX12 7 RX7 ∈ gT := g_mem1 (i := 45) (by decide +kernel) rfl
theorem ta_X7 : Cond.instantiable RX7 2 ∈ gT := g_mem1 (i := 46) (by decide +kernel) rfl
theorem tmN_X12_9 : Cond.methodLinkNest RX12 9 yX7_init "GlideWhistles" ∈ gN := g_nem1 (i := 47) (by decide +kernel) rfl
theorem ti_X7_init : Cond.instanceMethod yX7_init ∈ gT := g_mem1 (i := 48) (by decide +kernel) rfl
theorem tc_X7_init : Cond.code yX7_init cX7_init 1 (Option.none : Option Jvm.ClassFile.FieldType) ∈ gT := g_mem1 (i := 49) (by decide +kernel) rfl
theorem tm_X7_3 : Cond.methodLink RX7 3 ⟨"java/lang/Object", "<init>", "()V"⟩ ∈ gT := g_mem1 (i := 50) (by decide +kernel) rfl
theorem tf_X7_9 : Cond.fieldLink RX7 9 "GlideWhistles$Tape" "bytes" "[C" ∈ gT := g_mem1 (i := 51) (by decide +kernel) rfl
theorem tf_X7_15 : Cond.fieldLink RX7 15 "GlideWhistles$Tape" "length" "I" ∈ gT := g_mem1 (i := 52) (by decide +kernel) rfl
theorem tfN_X12_75 : Cond.fieldLinkNest RX12 75 "GlideWhistles$Tape" "length" "I" "GlideWhistles" ∈ gN := g_nem1 (i := 53) (by decide +kernel) rfl
theorem tfN_X8_59 : Cond.fieldLinkNest RX8 59 "GlideWhistles$Tape" "length" "I" "GlideWhistles" ∈ gN := g_nem1 (i := 54) (by decide +kernel) rfl
theorem tr_char : Cond.arrayClass Jvm.ClassFile.FieldType.char ∈ gT := g_mem1 (i := 60) (by decide +kernel) rfl
theorem tl_X12_16 : Cond.classLink RX12 16 RX8 ∈ gT := g_mem1 (i := 61) (by decide +kernel) rfl
theorem ta_X8 : Cond.instantiable RX8 6 ∈ gT := g_mem1 (i := 62) (by decide +kernel) rfl
theorem tm_X12_18 : Cond.methodLink RX12 18 yX8_init ∈ gT := g_mem1 (i := 63) (by decide +kernel) rfl
theorem ti_X8_init : Cond.instanceMethod yX8_init ∈ gT := g_mem1 (i := 64) (by decide +kernel) rfl
theorem tc_X8_init : Cond.code yX8_init cX8_init 3 (Option.none : Option Jvm.ClassFile.FieldType) ∈ gT := g_mem1 (i := 65) (by decide +kernel) rfl
theorem tm_X8_3 : Cond.methodLink RX8 3 ⟨"java/lang/Object", "<init>", "()V"⟩ ∈ gT := g_mem1 (i := 66) (by decide +kernel) rfl
theorem tl_X8_9 : Cond.classLink RX8 9 RX6 ∈ gT := g_mem1 (i := 67) (by decide +kernel) rfl
theorem tf_X8_35 : Cond.fieldLink RX8 35 "GlideWhistles$Sign" "END" "LGlideWhistles$Sign;" ∈ gT := g_mem1 (i := 69) (by decide +kernel) rfl
theorem tf_X8_31 : Cond.fieldLink RX8 31 "GlideWhistles$Tokens" "tape" "LGlideWhistles$Tape;" ∈ gT := g_mem1 (i := 71) (by decide +kernel) rfl
theorem tf_X8_11 : Cond.fieldLink RX8 11 "GlideWhistles$Tokens" "signs" "[LGlideWhistles$Sign;" ∈ gT := g_mem1 (i := 72) (by decide +kernel) rfl
theorem tf_X8_17 : Cond.fieldLink RX8 17 "GlideWhistles$Tokens" "places" "[I" ∈ gT := g_mem1 (i := 73) (by decide +kernel) rfl
theorem tf_X8_21 : Cond.fieldLink RX8 21 "GlideWhistles$Tokens" "sizes" "[I" ∈ gT := g_mem1 (i := 74) (by decide +kernel) rfl
theorem tf_X8_24 : Cond.fieldLink RX8 24 "GlideWhistles$Tokens" "values" "[I" ∈ gT := g_mem1 (i := 75) (by decide +kernel) rfl
theorem tf_X8_27 : Cond.fieldLink RX8 27 "GlideWhistles$Tokens" "count" "I" ∈ gT := g_mem1 (i := 76) (by decide +kernel) rfl
theorem tr_int : Cond.arrayClass Jvm.ClassFile.FieldType.int ∈ gT := g_mem1 (i := 90) (by decide +kernel) rfl
theorem tl_X12_25 : Cond.classLink RX12 25 RX10 ∈ gT := g_mem1 (i := 91) (by decide +kernel) rfl
theorem ta_X10 : Cond.instantiable RX10 3 ∈ gT := g_mem1 (i := 92) (by decide +kernel) rfl
theorem tmN_X12_27 : Cond.methodLinkNest RX12 27 yX10_init "GlideWhistles" ∈ gN := g_nem1 (i := 93) (by decide +kernel) rfl
theorem ti_X10_init : Cond.instanceMethod yX10_init ∈ gT := g_mem1 (i := 94) (by decide +kernel) rfl
theorem tc_X10_init : Cond.code yX10_init cX10_init 1 (Option.none : Option Jvm.ClassFile.FieldType) ∈ gT := g_mem1 (i := 95) (by decide +kernel) rfl
theorem tm_X10_3 : Cond.methodLink RX10 3 ⟨"java/lang/Object", "<init>", "()V"⟩ ∈ gT := g_mem1 (i := 96) (by decide +kernel) rfl
theorem tl_X10_15 : Cond.classLink RX10 15 RX3 ∈ gT := g_mem1 (i := 97) (by decide +kernel) rfl
theorem ta_X3 : Cond.instantiable RX3 2 ∈ gT := g_mem1 (i := 98) (by decide +kernel) rfl
theorem tmN_X10_17 : Cond.methodLinkNest RX10 17 yX3_init "GlideWhistles" ∈ gN := g_nem1 (i := 99) (by decide +kernel) rfl
theorem ti_X3_init : Cond.instanceMethod yX3_init ∈ gT := g_mem1 (i := 100) (by decide +kernel) rfl
theorem tc_X3_init : Cond.code yX3_init cX3_init 1 (Option.none : Option Jvm.ClassFile.FieldType) ∈ gT := g_mem1 (i := 101) (by decide +kernel) rfl
theorem tm_X3_3 : Cond.methodLink RX3 3 ⟨"java/lang/Object", "<init>", "()V"⟩ ∈ gT := g_mem1 (i := 102) (by decide +kernel) rfl
theorem tf_X3_9 : Cond.fieldLink RX3 9 "GlideWhistles$Row" "pitches" "[I" ∈ gT := g_mem1 (i := 103) (by decide +kernel) rfl
theorem tf_X3_15 : Cond.fieldLink RX3 15 "GlideWhistles$Row" "length" "I" ∈ gT := g_mem1 (i := 104) (by decide +kernel) rfl
theorem tfN_X1_27 : Cond.fieldLinkNest RX1 27 "GlideWhistles$Row" "length" "I" "GlideWhistles" ∈ gN := g_nem1 (i := 105) (by decide +kernel) rfl
theorem tfN_X9_40 : Cond.fieldLinkNest RX9 40 "GlideWhistles$Row" "length" "I" "GlideWhistles" ∈ gN := g_nem1 (i := 106) (by decide +kernel) rfl
theorem tfN_X10_33 : Cond.fieldLinkNest RX10 33 "GlideWhistles$Row" "length" "I" "GlideWhistles" ∈ gN := g_nem1 (i := 107) (by decide +kernel) rfl
theorem tfN_X12_128 : Cond.fieldLinkNest RX12 128 "GlideWhistles$Row" "length" "I" "GlideWhistles" ∈ gN := g_nem1 (i := 108) (by decide +kernel) rfl
theorem tfN_X2_164 : Cond.fieldLinkNest RX2 164 "GlideWhistles$Row" "length" "I" "GlideWhistles" ∈ gN := g_nem1 (i := 109) (by decide +kernel) rfl
theorem tf_X10_9 : Cond.fieldLink RX10 9 "GlideWhistles$Warp" "lane" "[I" ∈ gT := g_mem1 (i := 115) (by decide +kernel) rfl
theorem tf_X10_18 : Cond.fieldLink RX10 18 "GlideWhistles$Warp" "firstContour" "LGlideWhistles$Row;" ∈ gT := g_mem1 (i := 116) (by decide +kernel) rfl
theorem tf_X10_22 : Cond.fieldLink RX10 22 "GlideWhistles$Warp" "secondContour" "LGlideWhistles$Row;" ∈ gT := g_mem1 (i := 117) (by decide +kernel) rfl
theorem tl_X12_32 : Cond.classLink RX12 32 RX3 ∈ gT := g_mem1 (i := 125) (by decide +kernel) rfl
theorem tmN_X12_34 : Cond.methodLinkNest RX12 34 yX3_init "GlideWhistles" ∈ gN := g_nem1 (i := 126) (by decide +kernel) rfl
theorem tl_X12_42 : Cond.classLink RX12 42 RX1 ∈ gT := g_mem1 (i := 127) (by decide +kernel) rfl
theorem ta_X1 : Cond.instantiable RX1 4 ∈ gT := g_mem1 (i := 128) (by decide +kernel) rfl
theorem tm_X12_44 : Cond.methodLink RX12 44 yX1_init ∈ gT := g_mem1 (i := 129) (by decide +kernel) rfl
theorem ti_X1_init : Cond.instanceMethod yX1_init ∈ gT := g_mem1 (i := 130) (by decide +kernel) rfl
theorem tc_X1_init : Cond.code yX1_init cX1_init 3 (Option.none : Option Jvm.ClassFile.FieldType) ∈ gT := g_mem1 (i := 131) (by decide +kernel) rfl
theorem tm_X1_3 : Cond.methodLink RX1 3 ⟨"java/lang/Object", "<init>", "()V"⟩ ∈ gT := g_mem1 (i := 132) (by decide +kernel) rfl
theorem tf_X1_19 : Cond.fieldLink RX1 19 "GlideWhistles$Course" "heard" "LGlideWhistles$Row;" ∈ gT := g_mem1 (i := 133) (by decide +kernel) rfl
theorem tf_X1_23 : Cond.fieldLink RX1 23 "GlideWhistles$Course" "warp" "LGlideWhistles$Warp;" ∈ gT := g_mem1 (i := 134) (by decide +kernel) rfl
theorem tf_X1_9 : Cond.fieldLink RX1 9 "GlideWhistles$Course" "stack" "[I" ∈ gT := g_mem1 (i := 135) (by decide +kernel) rfl
theorem tf_X1_15 : Cond.fieldLink RX1 15 "GlideWhistles$Course" "top" "I" ∈ gT := g_mem1 (i := 136) (by decide +kernel) rfl
theorem tl_X12_51 : Cond.classLink RX12 51 RX5 ∈ gT := g_mem1 (i := 146) (by decide +kernel) rfl
theorem ta_X5 : Cond.instantiable RX5 8 ∈ gT := g_mem1 (i := 147) (by decide +kernel) rfl
theorem tm_X12_53 : Cond.methodLink RX12 53 yX5_init ∈ gT := g_mem1 (i := 148) (by decide +kernel) rfl
theorem ti_X5_init : Cond.instanceMethod yX5_init ∈ gT := g_mem1 (i := 149) (by decide +kernel) rfl
theorem tc_X5_init : Cond.code yX5_init cX5_init 2 (Option.none : Option Jvm.ClassFile.FieldType) ∈ gT := g_mem1 (i := 150) (by decide +kernel) rfl
theorem tm_X5_3 : Cond.methodLink RX5 3 ⟨"java/lang/Object", "<init>", "()V"⟩ ∈ gT := g_mem1 (i := 151) (by decide +kernel) rfl
theorem tl_X5_9 : Cond.classLink RX5 9 RX4 ∈ gT := g_mem1 (i := 152) (by decide +kernel) rfl
theorem ta_X4 : Cond.instantiable RX4 5 ∈ gT := g_mem1 (i := 154) (by decide +kernel) rfl
theorem tmN_X5_17 : Cond.methodLinkNest RX5 17 yX4_init "GlideWhistles" ∈ gN := g_nem1 (i := 155) (by decide +kernel) rfl
theorem ti_X4_init : Cond.instanceMethod yX4_init ∈ gT := g_mem1 (i := 156) (by decide +kernel) rfl
theorem tc_X4_init : Cond.code yX4_init cX4_init 1 (Option.none : Option Jvm.ClassFile.FieldType) ∈ gT := g_mem1 (i := 157) (by decide +kernel) rfl
theorem tm_X4_3 : Cond.methodLink RX4 3 ⟨"java/lang/Object", "<init>", "()V"⟩ ∈ gT := g_mem1 (i := 158) (by decide +kernel) rfl
theorem tf_X4_9 : Cond.fieldLink RX4 9 "GlideWhistles$Sign" "PRUNE" "LGlideWhistles$Sign;" ∈ gT := g_mem1 (i := 159) (by decide +kernel) rfl
theorem tf_X4_15 : Cond.fieldLink RX4 15 "GlideWhistles$Rule" "kind" "LGlideWhistles$Sign;" ∈ gT := g_mem1 (i := 161) (by decide +kernel) rfl
theorem tfN_X1_99 : Cond.fieldLinkNest RX1 99 "GlideWhistles$Rule" "kind" "LGlideWhistles$Sign;" "GlideWhistles" ∈ gN := g_nem1 (i := 162) (by decide +kernel) rfl
theorem tfN_X5_53 : Cond.fieldLinkNest RX5 53 "GlideWhistles$Rule" "kind" "LGlideWhistles$Sign;" "GlideWhistles" ∈ gN := g_nem1 (i := 163) (by decide +kernel) rfl
theorem tf_X4_20 : Cond.fieldLink RX4 20 "GlideWhistles$Rule" "word" "I" ∈ gT := g_mem1 (i := 164) (by decide +kernel) rfl
theorem tfN_X1_97 : Cond.fieldLinkNest RX1 97 "GlideWhistles$Rule" "word" "I" "GlideWhistles" ∈ gN := g_nem1 (i := 165) (by decide +kernel) rfl
theorem tfN_X5_56 : Cond.fieldLinkNest RX5 56 "GlideWhistles$Rule" "word" "I" "GlideWhistles" ∈ gN := g_nem1 (i := 166) (by decide +kernel) rfl
theorem tf_X4_24 : Cond.fieldLink RX4 24 "GlideWhistles$Rule" "sumStart" "I" ∈ gT := g_mem1 (i := 167) (by decide +kernel) rfl
theorem tfN_X1_108 : Cond.fieldLinkNest RX1 108 "GlideWhistles$Rule" "sumStart" "I" "GlideWhistles" ∈ gN := g_nem1 (i := 168) (by decide +kernel) rfl
theorem tfN_X5_59 : Cond.fieldLinkNest RX5 59 "GlideWhistles$Rule" "sumStart" "I" "GlideWhistles" ∈ gN := g_nem1 (i := 169) (by decide +kernel) rfl
theorem tf_X4_27 : Cond.fieldLink RX4 27 "GlideWhistles$Rule" "testStart" "I" ∈ gT := g_mem1 (i := 170) (by decide +kernel) rfl
theorem tfN_X1_85 : Cond.fieldLinkNest RX1 85 "GlideWhistles$Rule" "testStart" "I" "GlideWhistles" ∈ gN := g_nem1 (i := 171) (by decide +kernel) rfl
theorem tfN_X5_62 : Cond.fieldLinkNest RX5 62 "GlideWhistles$Rule" "testStart" "I" "GlideWhistles" ∈ gN := g_nem1 (i := 172) (by decide +kernel) rfl
theorem tf_X4_30 : Cond.fieldLink RX4 30 "GlideWhistles$Rule" "testEnd" "I" ∈ gT := g_mem1 (i := 173) (by decide +kernel) rfl
theorem tfN_X1_90 : Cond.fieldLinkNest RX1 90 "GlideWhistles$Rule" "testEnd" "I" "GlideWhistles" ∈ gN := g_nem1 (i := 174) (by decide +kernel) rfl
theorem tfN_X5_65 : Cond.fieldLinkNest RX5 65 "GlideWhistles$Rule" "testEnd" "I" "GlideWhistles" ∈ gN := g_nem1 (i := 175) (by decide +kernel) rfl
theorem tl_X5_22 : Cond.classLink RX5 22 RX6 ∈ gT := g_mem1 (i := 187) (by decide +kernel) rfl
theorem tf_X5_45 : Cond.fieldLink RX5 45 "GlideWhistles$Sign" "END" "LGlideWhistles$Sign;" ∈ gT := g_mem1 (i := 188) (by decide +kernel) rfl
theorem tf_X5_11 : Cond.fieldLink RX5 11 "GlideWhistles$RuleBook" "all" "[LGlideWhistles$Rule;" ∈ gT := g_mem1 (i := 189) (by decide +kernel) rfl
theorem tf_X5_18 : Cond.fieldLink RX5 18 "GlideWhistles$RuleBook" "none" "LGlideWhistles$Rule;" ∈ gT := g_mem1 (i := 190) (by decide +kernel) rfl
theorem tf_X5_24 : Cond.fieldLink RX5 24 "GlideWhistles$RuleBook" "signs" "[LGlideWhistles$Sign;" ∈ gT := g_mem1 (i := 191) (by decide +kernel) rfl
theorem tf_X5_28 : Cond.fieldLink RX5 28 "GlideWhistles$RuleBook" "values" "[I" ∈ gT := g_mem1 (i := 192) (by decide +kernel) rfl
theorem tf_X5_32 : Cond.fieldLink RX5 32 "GlideWhistles$RuleBook" "count" "I" ∈ gT := g_mem1 (i := 193) (by decide +kernel) rfl
theorem tfN_X1_67 : Cond.fieldLinkNest RX1 67 "GlideWhistles$RuleBook" "count" "I" "GlideWhistles" ∈ gN := g_nem1 (i := 194) (by decide +kernel) rfl
theorem tfN_X12_121 : Cond.fieldLinkNest RX12 121 "GlideWhistles$RuleBook" "count" "I" "GlideWhistles" ∈ gN := g_nem1 (i := 195) (by decide +kernel) rfl
theorem tfN_X2_190 : Cond.fieldLinkNest RX2 190 "GlideWhistles$RuleBook" "count" "I" "GlideWhistles" ∈ gN := g_nem1 (i := 196) (by decide +kernel) rfl
theorem tf_X5_36 : Cond.fieldLink RX5 36 "GlideWhistles$RuleBook" "size" "I" ∈ gT := g_mem1 (i := 197) (by decide +kernel) rfl
theorem tfN_X2_195 : Cond.fieldLinkNest RX2 195 "GlideWhistles$RuleBook" "size" "I" "GlideWhistles" ∈ gN := g_nem1 (i := 198) (by decide +kernel) rfl
theorem tf_X5_39 : Cond.fieldLink RX5 39 "GlideWhistles$RuleBook" "band" "I" ∈ gT := g_mem1 (i := 199) (by decide +kernel) rfl
theorem tfN_X2_79 : Cond.fieldLinkNest RX2 79 "GlideWhistles$RuleBook" "band" "I" "GlideWhistles" ∈ gN := g_nem1 (i := 200) (by decide +kernel) rfl
theorem tfN_X1_54 : Cond.fieldLinkNest RX1 54 "GlideWhistles$RuleBook" "band" "I" "GlideWhistles" ∈ gN := g_nem1 (i := 201) (by decide +kernel) rfl
theorem tfN_X12_164 : Cond.fieldLinkNest RX12 164 "GlideWhistles$RuleBook" "band" "I" "GlideWhistles" ∈ gN := g_nem1 (i := 202) (by decide +kernel) rfl
theorem tf_X5_42 : Cond.fieldLink RX5 42 "GlideWhistles$RuleBook" "nearness" "I" ∈ gT := g_mem1 (i := 203) (by decide +kernel) rfl
theorem tfN_X2_85 : Cond.fieldLinkNest RX2 85 "GlideWhistles$RuleBook" "nearness" "I" "GlideWhistles" ∈ gN := g_nem1 (i := 204) (by decide +kernel) rfl
theorem tfN_X12_268 : Cond.fieldLinkNest RX12 268 "GlideWhistles$RuleBook" "nearness" "I" "GlideWhistles" ∈ gN := g_nem1 (i := 205) (by decide +kernel) rfl
theorem tl_X12_58 : Cond.classLink RX12 58 RX9 ∈ gT := g_mem1 (i := 223) (by decide +kernel) rfl
theorem ta_X9 : Cond.instantiable RX9 5 ∈ gT := g_mem1 (i := 224) (by decide +kernel) rfl
theorem tm_X12_60 : Cond.methodLink RX12 60 yX9_init ∈ gT := g_mem1 (i := 225) (by decide +kernel) rfl
theorem ti_X9_init : Cond.instanceMethod yX9_init ∈ gT := g_mem1 (i := 226) (by decide +kernel) rfl
theorem tc_X9_init : Cond.code yX9_init cX9_init 2 (Option.none : Option Jvm.ClassFile.FieldType) ∈ gT := g_mem1 (i := 227) (by decide +kernel) rfl
theorem tm_X9_3 : Cond.methodLink RX9 3 ⟨"java/lang/Object", "<init>", "()V"⟩ ∈ gT := g_mem1 (i := 228) (by decide +kernel) rfl
theorem tl_X9_9 : Cond.classLink RX9 9 RX11 ∈ gT := g_mem1 (i := 229) (by decide +kernel) rfl
theorem ta_X11 : Cond.instantiable RX11 3 ∈ gT := g_mem1 (i := 231) (by decide +kernel) rfl
theorem tmN_X9_17 : Cond.methodLinkNest RX9 17 yX11_init "GlideWhistles" ∈ gN := g_nem1 (i := 232) (by decide +kernel) rfl
theorem ti_X11_init : Cond.instanceMethod yX11_init ∈ gT := g_mem1 (i := 233) (by decide +kernel) rfl
theorem tc_X11_init : Cond.code yX11_init cX11_init 1 (Option.none : Option Jvm.ClassFile.FieldType) ∈ gT := g_mem1 (i := 234) (by decide +kernel) rfl
theorem tm_X11_3 : Cond.methodLink RX11 3 ⟨"java/lang/Object", "<init>", "()V"⟩ ∈ gT := g_mem1 (i := 235) (by decide +kernel) rfl
theorem tl_X11_9 : Cond.classLink RX11 9 RX3 ∈ gT := g_mem1 (i := 236) (by decide +kernel) rfl
theorem tmN_X11_11 : Cond.methodLinkNest RX11 11 yX3_init "GlideWhistles" ∈ gN := g_nem1 (i := 237) (by decide +kernel) rfl
theorem tf_X11_12 : Cond.fieldLink RX11 12 "GlideWhistles$Word" "row" "LGlideWhistles$Row;" ∈ gT := g_mem1 (i := 238) (by decide +kernel) rfl
theorem tfN_X9_36 : Cond.fieldLinkNest RX9 36 "GlideWhistles$Word" "row" "LGlideWhistles$Row;" "GlideWhistles" ∈ gN := g_nem1 (i := 239) (by decide +kernel) rfl
theorem tfN_X1_49 : Cond.fieldLinkNest RX1 49 "GlideWhistles$Word" "row" "LGlideWhistles$Row;" "GlideWhistles" ∈ gN := g_nem2 (i := 0) (by decide +kernel) rfl
theorem tfN_X2_143 : Cond.fieldLinkNest RX2 143 "GlideWhistles$Word" "row" "LGlideWhistles$Row;" "GlideWhistles" ∈ gN := g_nem2 (i := 1) (by decide +kernel) rfl
theorem tfN_X12_258 : Cond.fieldLinkNest RX12 258 "GlideWhistles$Word" "row" "LGlideWhistles$Row;" "GlideWhistles" ∈ gN := g_nem2 (i := 2) (by decide +kernel) rfl
theorem tf_X11_18 : Cond.fieldLink RX11 18 "GlideWhistles$Word" "pruned" "Z" ∈ gT := g_mem2 (i := 3) (by decide +kernel) rfl
theorem tfN_X9_45 : Cond.fieldLinkNest RX9 45 "GlideWhistles$Word" "pruned" "Z" "GlideWhistles" ∈ gN := g_nem2 (i := 4) (by decide +kernel) rfl
theorem tfN_X1_118 : Cond.fieldLinkNest RX1 118 "GlideWhistles$Word" "pruned" "Z" "GlideWhistles" ∈ gN := g_nem2 (i := 5) (by decide +kernel) rfl
theorem tfN_X12_151 : Cond.fieldLinkNest RX12 151 "GlideWhistles$Word" "pruned" "Z" "GlideWhistles" ∈ gN := g_nem2 (i := 6) (by decide +kernel) rfl
theorem tf_X11_22 : Cond.fieldLink RX11 22 "GlideWhistles$Word" "distance" "I" ∈ gT := g_mem2 (i := 7) (by decide +kernel) rfl
theorem tfN_X9_49 : Cond.fieldLinkNest RX9 49 "GlideWhistles$Word" "distance" "I" "GlideWhistles" ∈ gN := g_nem2 (i := 8) (by decide +kernel) rfl
theorem tfN_X1_65 : Cond.fieldLinkNest RX1 65 "GlideWhistles$Word" "distance" "I" "GlideWhistles" ∈ gN := g_nem2 (i := 9) (by decide +kernel) rfl
theorem tfN_X12_184 : Cond.fieldLinkNest RX12 184 "GlideWhistles$Word" "distance" "I" "GlideWhistles" ∈ gN := g_nem2 (i := 10) (by decide +kernel) rfl
theorem tf_X9_11 : Cond.fieldLink RX9 11 "GlideWhistles$Vocabulary" "all" "[LGlideWhistles$Word;" ∈ gT := g_mem2 (i := 18) (by decide +kernel) rfl
theorem tf_X9_18 : Cond.fieldLink RX9 18 "GlideWhistles$Vocabulary" "nobody" "LGlideWhistles$Word;" ∈ gT := g_mem2 (i := 19) (by decide +kernel) rfl
theorem tf_X9_22 : Cond.fieldLink RX9 22 "GlideWhistles$Vocabulary" "count" "I" ∈ gT := g_mem2 (i := 20) (by decide +kernel) rfl
theorem tfN_X1_38 : Cond.fieldLinkNest RX1 38 "GlideWhistles$Vocabulary" "count" "I" "GlideWhistles" ∈ gN := g_nem2 (i := 21) (by decide +kernel) rfl
theorem tfN_X12_114 : Cond.fieldLinkNest RX12 114 "GlideWhistles$Vocabulary" "count" "I" "GlideWhistles" ∈ gN := g_nem2 (i := 22) (by decide +kernel) rfl
theorem tfN_X2_133 : Cond.fieldLinkNest RX2 133 "GlideWhistles$Vocabulary" "count" "I" "GlideWhistles" ∈ gN := g_nem2 (i := 23) (by decide +kernel) rfl
theorem tf_X9_26 : Cond.fieldLink RX9 26 "GlideWhistles$Vocabulary" "lessonsPassed" "I" ∈ gT := g_mem2 (i := 24) (by decide +kernel) rfl
theorem tfN_X1_79 : Cond.fieldLinkNest RX1 79 "GlideWhistles$Vocabulary" "lessonsPassed" "I" "GlideWhistles" ∈ gN := g_nem2 (i := 25) (by decide +kernel) rfl
theorem tfN_X12_122 : Cond.fieldLinkNest RX12 122 "GlideWhistles$Vocabulary" "lessonsPassed" "I" "GlideWhistles" ∈ gN := g_nem2 (i := 26) (by decide +kernel) rfl
theorem tf_X9_29 : Cond.fieldLink RX9 29 "GlideWhistles$Vocabulary" "carriedOut" "I" ∈ gT := g_mem2 (i := 27) (by decide +kernel) rfl
theorem tfN_X1_82 : Cond.fieldLinkNest RX1 82 "GlideWhistles$Vocabulary" "carriedOut" "I" "GlideWhistles" ∈ gN := g_nem2 (i := 28) (by decide +kernel) rfl
theorem tfN_X12_125 : Cond.fieldLinkNest RX12 125 "GlideWhistles$Vocabulary" "carriedOut" "I" "GlideWhistles" ∈ gN := g_nem2 (i := 29) (by decide +kernel) rfl
theorem tf_X12_10 : Cond.fieldLink RX12 10 "GlideWhistles" "tape" "LGlideWhistles$Tape;" ∈ gT := g_mem2 (i := 41) (by decide +kernel) rfl
theorem tf_X12_21 : Cond.fieldLink RX12 21 "GlideWhistles" "tokens" "LGlideWhistles$Tokens;" ∈ gT := g_mem2 (i := 42) (by decide +kernel) rfl
theorem tf_X12_28 : Cond.fieldLink RX12 28 "GlideWhistles" "warp" "LGlideWhistles$Warp;" ∈ gT := g_mem2 (i := 43) (by decide +kernel) rfl
theorem tf_X12_35 : Cond.fieldLink RX12 35 "GlideWhistles" "heard" "LGlideWhistles$Row;" ∈ gT := g_mem2 (i := 44) (by decide +kernel) rfl
theorem tf_X12_39 : Cond.fieldLink RX12 39 "GlideWhistles" "trial" "LGlideWhistles$Row;" ∈ gT := g_mem2 (i := 45) (by decide +kernel) rfl
theorem tf_X12_47 : Cond.fieldLink RX12 47 "GlideWhistles" "course" "LGlideWhistles$Course;" ∈ gT := g_mem2 (i := 46) (by decide +kernel) rfl
theorem tf_X12_54 : Cond.fieldLink RX12 54 "GlideWhistles" "book" "LGlideWhistles$RuleBook;" ∈ gT := g_mem2 (i := 47) (by decide +kernel) rfl
theorem tf_X12_61 : Cond.fieldLink RX12 61 "GlideWhistles" "vocabulary" "LGlideWhistles$Vocabulary;" ∈ gT := g_mem2 (i := 48) (by decide +kernel) rfl
theorem tf_X12_65 : Cond.fieldLink RX12 65 "GlideWhistles" "spareBook" "LGlideWhistles$RuleBook;" ∈ gT := g_mem2 (i := 49) (by decide +kernel) rfl
theorem tf_X12_68 : Cond.fieldLink RX12 68 "GlideWhistles" "spareVocabulary" "LGlideWhistles$Vocabulary;" ∈ gT := g_mem2 (i := 50) (by decide +kernel) rfl
theorem tf_X12_71 : Cond.fieldLink RX12 71 "GlideWhistles" "placeOfError" "I" ∈ gT := g_mem2 (i := 51) (by decide +kernel) rfl
theorem tm_L_170 : Cond.methodLink RL 170 yX12_words ∈ gT := g_mem2 (i := 75) (by decide +kernel) rfl
theorem ti_X12_words : Cond.instanceMethod yX12_words ∈ gT := g_mem2 (i := 76) (by decide +kernel) rfl
theorem ts_X12_words : Cond.selects RX12 yX12_words yX12_words ∈ gT := g_mem2 (i := 77) (by decide +kernel) rfl
theorem tc_X12_words : Cond.code yX12_words cX12_words 1 (Option.some Jvm.ClassFile.FieldType.int) ∈ gT := g_mem2 (i := 78) (by decide +kernel) rfl
theorem tm_L_189 : Cond.methodLink RL 189 yX12_keptWords ∈ gT := g_mem2 (i := 79) (by decide +kernel) rfl
theorem ti_X12_keptWords : Cond.instanceMethod yX12_keptWords ∈ gT := g_mem2 (i := 80) (by decide +kernel) rfl
theorem ts_X12_keptWords : Cond.selects RX12 yX12_keptWords yX12_keptWords ∈ gT := g_mem2 (i := 81) (by decide +kernel) rfl
theorem tc_X12_keptWords : Cond.code yX12_keptWords cX12_keptWords 1 (Option.some Jvm.ClassFile.FieldType.int) ∈ gT := g_mem2 (i := 82) (by decide +kernel) rfl
theorem tm_X12_117 : Cond.methodLink RX12 117 yX9_countKept ∈ gT := g_mem2 (i := 83) (by decide +kernel) rfl
theorem ti_X9_countKept : Cond.instanceMethod yX9_countKept ∈ gT := g_mem2 (i := 84) (by decide +kernel) rfl
theorem ts_X9_countKept : Cond.selects RX9 yX9_countKept yX9_countKept ∈ gT := g_mem2 (i := 85) (by decide +kernel) rfl
theorem tc_X9_countKept : Cond.code yX9_countKept cX9_countKept 3 (Option.some Jvm.ClassFile.FieldType.int) ∈ gT := g_mem2 (i := 86) (by decide +kernel) rfl
theorem tm_X9_32 : Cond.methodLink RX9 32 yX9_word ∈ gT := g_mem2 (i := 87) (by decide +kernel) rfl
theorem ti_X9_word : Cond.instanceMethod yX9_word ∈ gT := g_mem2 (i := 88) (by decide +kernel) rfl
theorem ts_X9_word : Cond.selects RX9 yX9_word yX9_word ∈ gT := g_mem2 (i := 89) (by decide +kernel) rfl
theorem tc_X9_word : Cond.code yX9_word cX9_word 2 (Option.some (Jvm.ClassFile.FieldType.object "GlideWhistles$Word")) ∈ gT := g_mem2 (i := 90) (by decide +kernel) rfl
theorem tm_L_180 : Cond.methodLink RL 180 yX12_heardBeats ∈ gT := g_mem2 (i := 91) (by decide +kernel) rfl
theorem ti_X12_heardBeats : Cond.instanceMethod yX12_heardBeats ∈ gT := g_mem2 (i := 92) (by decide +kernel) rfl
theorem ts_X12_heardBeats : Cond.selects RX12 yX12_heardBeats yX12_heardBeats ∈ gT := g_mem2 (i := 93) (by decide +kernel) rfl
theorem tc_X12_heardBeats : Cond.code yX12_heardBeats cX12_heardBeats 1 (Option.some Jvm.ClassFile.FieldType.int) ∈ gT := g_mem2 (i := 94) (by decide +kernel) rfl
theorem tm_L_192 : Cond.methodLink RL 192 yX12_lengthOf ∈ gT := g_mem2 (i := 95) (by decide +kernel) rfl
theorem ti_X12_lengthOf : Cond.instanceMethod yX12_lengthOf ∈ gT := g_mem2 (i := 96) (by decide +kernel) rfl
theorem ts_X12_lengthOf : Cond.selects RX12 yX12_lengthOf yX12_lengthOf ∈ gT := g_mem2 (i := 97) (by decide +kernel) rfl
theorem tc_X12_lengthOf : Cond.code yX12_lengthOf cX12_lengthOf 2 (Option.some Jvm.ClassFile.FieldType.int) ∈ gT := g_mem2 (i := 98) (by decide +kernel) rfl
theorem tm_X12_129 : Cond.methodLink RX12 129 yX12_requireWord ∈ gT := g_mem2 (i := 99) (by decide +kernel) rfl
theorem ti_X12_requireWord : Cond.instanceMethod yX12_requireWord ∈ gT := g_mem2 (i := 101) (by decide +kernel) rfl
theorem tc_X12_requireWord : Cond.code yX12_requireWord cX12_requireWord 2 (Option.none : Option Jvm.ClassFile.FieldType) ∈ gT := g_mem2 (i := 102) (by decide +kernel) rfl
theorem tl_X12_245 : Cond.classLink RX12 245 "java/lang/IndexOutOfBoundsException" ∈ gT := g_mem2 (i := 103) (by decide +kernel) rfl
theorem ts_java_lang_Throwable_fillInStackTrace : Cond.selects "java/lang/IndexOutOfBoundsException" ⟨"java/lang/Throwable", "fillInStackTrace", "(I)Ljava/lang/Throwable;"⟩ ⟨"java/lang/Throwable", "fillInStackTrace", "(I)Ljava/lang/Throwable;"⟩ ∈ gT := g_mem2 (i := 112) (by decide +kernel) rfl
theorem ti_java_lang_Throwable__init_ : Cond.instanceMethod ⟨"java/lang/Throwable", "<init>", "()V"⟩ ∈ gT := g_mem2 (i := 126) (by decide +kernel) rfl
theorem tc_java_lang_Throwable__init_ : Cond.code ⟨"java/lang/Throwable", "<init>", "()V"⟩ prog_38_method_1_code 1 (Option.none : Option Jvm.ClassFile.FieldType) ∈ gT := g_mem2 (i := 127) (by decide +kernel) rfl
theorem ti_java_lang_Throwable_fillInStackTrace : Cond.instanceMethod ⟨"java/lang/Throwable", "fillInStackTrace", "()Ljava/lang/Throwable;"⟩ ∈ gT := g_mem2 (i := 134) (by decide +kernel) rfl
theorem tm_X12_249 : Cond.methodLink RX12 249 ⟨"java/lang/IndexOutOfBoundsException", "<init>", "(Ljava/lang/String;)V"⟩ ∈ gT := g_mem2 (i := 145) (by decide +kernel) rfl
theorem ti_java_lang_IndexOutOfBoundsException__init_ : Cond.instanceMethod ⟨"java/lang/IndexOutOfBoundsException", "<init>", "(Ljava/lang/String;)V"⟩ ∈ gT := g_mem2 (i := 146) (by decide +kernel) rfl
theorem tc_java_lang_IndexOutOfBoundsException__init_ : Cond.code ⟨"java/lang/IndexOutOfBoundsException", "<init>", "(Ljava/lang/String;)V"⟩ prog_28_method_2_code 2 (Option.none : Option Jvm.ClassFile.FieldType) ∈ gT := g_mem2 (i := 147) (by decide +kernel) rfl
theorem ti_java_lang_RuntimeException__init_ : Cond.instanceMethod ⟨"java/lang/RuntimeException", "<init>", "(Ljava/lang/String;)V"⟩ ∈ gT := g_mem2 (i := 149) (by decide +kernel) rfl
theorem tc_java_lang_RuntimeException__init_ : Cond.code ⟨"java/lang/RuntimeException", "<init>", "(Ljava/lang/String;)V"⟩ prog_32_method_2_code 2 (Option.none : Option Jvm.ClassFile.FieldType) ∈ gT := g_mem2 (i := 150) (by decide +kernel) rfl
theorem ti_java_lang_Exception__init_ : Cond.instanceMethod ⟨"java/lang/Exception", "<init>", "(Ljava/lang/String;)V"⟩ ∈ gT := g_mem2 (i := 152) (by decide +kernel) rfl
theorem tc_java_lang_Exception__init_ : Cond.code ⟨"java/lang/Exception", "<init>", "(Ljava/lang/String;)V"⟩ prog_25_method_2_code 2 (Option.none : Option Jvm.ClassFile.FieldType) ∈ gT := g_mem2 (i := 153) (by decide +kernel) rfl
theorem tr_byte : Cond.arrayClass Jvm.ClassFile.FieldType.byte ∈ gT := g_mem2 (i := 170) (by decide +kernel) rfl
theorem tm_X12_132 : Cond.methodLink RX12 132 yX12_rowOf ∈ gT := g_mem2 (i := 171) (by decide +kernel) rfl
theorem ti_X12_rowOf : Cond.instanceMethod yX12_rowOf ∈ gT := g_mem2 (i := 173) (by decide +kernel) rfl
theorem tc_X12_rowOf : Cond.code yX12_rowOf cX12_rowOf 2 (Option.some (Jvm.ClassFile.FieldType.object "GlideWhistles$Row")) ∈ gT := g_mem2 (i := 174) (by decide +kernel) rfl
theorem tm_X12_147 : Cond.methodLink RX12 147 yX9_word ∈ gT := g_mem2 (i := 175) (by decide +kernel) rfl
theorem tm_L_195 : Cond.methodLink RL 195 yX12_pitchAt ∈ gT := g_mem2 (i := 176) (by decide +kernel) rfl
theorem ti_X12_pitchAt : Cond.instanceMethod yX12_pitchAt ∈ gT := g_mem2 (i := 177) (by decide +kernel) rfl
theorem ts_X12_pitchAt : Cond.selects RX12 yX12_pitchAt yX12_pitchAt ∈ gT := g_mem2 (i := 178) (by decide +kernel) rfl
theorem tc_X12_pitchAt : Cond.code yX12_pitchAt cX12_pitchAt 3 (Option.some Jvm.ClassFile.FieldType.int) ∈ gT := g_mem2 (i := 179) (by decide +kernel) rfl
theorem tm_X12_136 : Cond.methodLink RX12 136 yX12_requireBeat ∈ gT := g_mem2 (i := 180) (by decide +kernel) rfl
theorem tz_X12_requireBeat : Cond.static yX12_requireBeat ∈ gT := g_mem2 (i := 181) (by decide +kernel) rfl
theorem tc_X12_requireBeat : Cond.code yX12_requireBeat cX12_requireBeat 2 (Option.none : Option Jvm.ClassFile.FieldType) ∈ gT := g_mem2 (i := 182) (by decide +kernel) rfl
theorem tm_X12_140 : Cond.methodLink RX12 140 yX3_pitch ∈ gT := g_mem2 (i := 184) (by decide +kernel) rfl
theorem ti_X3_pitch : Cond.instanceMethod yX3_pitch ∈ gT := g_mem2 (i := 185) (by decide +kernel) rfl
theorem ts_X3_pitch : Cond.selects RX3 yX3_pitch yX3_pitch ∈ gT := g_mem2 (i := 186) (by decide +kernel) rfl
theorem tc_X3_pitch : Cond.code yX3_pitch cX3_pitch 2 (Option.some Jvm.ClassFile.FieldType.int) ∈ gT := g_mem2 (i := 187) (by decide +kernel) rfl
theorem tm_L_198 : Cond.methodLink RL 198 yX12_contourAt ∈ gT := g_mem2 (i := 188) (by decide +kernel) rfl
theorem ti_X12_contourAt : Cond.instanceMethod yX12_contourAt ∈ gT := g_mem2 (i := 189) (by decide +kernel) rfl
theorem ts_X12_contourAt : Cond.selects RX12 yX12_contourAt yX12_contourAt ∈ gT := g_mem2 (i := 190) (by decide +kernel) rfl
theorem tc_X12_contourAt : Cond.code yX12_contourAt cX12_contourAt 3 (Option.some Jvm.ClassFile.FieldType.int) ∈ gT := g_mem2 (i := 191) (by decide +kernel) rfl
theorem tm_X12_144 : Cond.methodLink RX12 144 yX3_contour ∈ gT := g_mem2 (i := 192) (by decide +kernel) rfl
theorem ti_X3_contour : Cond.instanceMethod yX3_contour ∈ gT := g_mem2 (i := 193) (by decide +kernel) rfl
theorem ts_X3_contour : Cond.selects RX3 yX3_contour yX3_contour ∈ gT := g_mem2 (i := 194) (by decide +kernel) rfl
theorem tc_X3_contour : Cond.code yX3_contour cX3_contour 4 (Option.some Jvm.ClassFile.FieldType.int) ∈ gT := g_mem2 (i := 195) (by decide +kernel) rfl
theorem tm_X3_19 : Cond.methodLink RX3 19 yX3_pitch ∈ gT := g_mem2 (i := 196) (by decide +kernel) rfl
theorem tm_L_227 : Cond.methodLink RL 227 yX12_isPruned ∈ gT := g_mem2 (i := 197) (by decide +kernel) rfl
theorem ti_X12_isPruned : Cond.instanceMethod yX12_isPruned ∈ gT := g_mem2 (i := 198) (by decide +kernel) rfl
theorem ts_X12_isPruned : Cond.selects RX12 yX12_isPruned yX12_isPruned ∈ gT := g_mem2 (i := 199) (by decide +kernel) rfl
theorem tc_X12_isPruned : Cond.code yX12_isPruned cX12_isPruned 2 (Option.some Jvm.ClassFile.FieldType.boolean) ∈ gT := g_mem2 (i := 200) (by decide +kernel) rfl
theorem tm_L_209 : Cond.methodLink RL 209 yX12_distanceBetween ∈ gT := g_mem2 (i := 201) (by decide +kernel) rfl
theorem ti_X12_distanceBetween : Cond.instanceMethod yX12_distanceBetween ∈ gT := g_mem2 (i := 202) (by decide +kernel) rfl
theorem ts_X12_distanceBetween : Cond.selects RX12 yX12_distanceBetween yX12_distanceBetween ∈ gT := g_mem2 (i := 203) (by decide +kernel) rfl
theorem tc_X12_distanceBetween : Cond.code yX12_distanceBetween cX12_distanceBetween 3 (Option.some Jvm.ClassFile.FieldType.int) ∈ gT := g_mem2 (i := 204) (by decide +kernel) rfl
theorem tm_X12_160 : Cond.methodLink RX12 160 yX12_wordsApart ∈ gT := g_mem2 (i := 205) (by decide +kernel) rfl
theorem ti_X12_wordsApart : Cond.instanceMethod yX12_wordsApart ∈ gT := g_mem2 (i := 207) (by decide +kernel) rfl
theorem tc_X12_wordsApart : Cond.code yX12_wordsApart cX12_wordsApart 3 (Option.some Jvm.ClassFile.FieldType.int) ∈ gT := g_mem2 (i := 208) (by decide +kernel) rfl
theorem tm_X12_261 : Cond.methodLink RX12 261 yX10_distance ∈ gT := g_mem2 (i := 209) (by decide +kernel) rfl
theorem ti_X10_distance : Cond.instanceMethod yX10_distance ∈ gT := g_mem2 (i := 210) (by decide +kernel) rfl
theorem ts_X10_distance : Cond.selects RX10 yX10_distance yX10_distance ∈ gT := g_mem2 (i := 211) (by decide +kernel) rfl
theorem tc_X10_distance : Cond.code yX10_distance cX10_distance 4 (Option.some Jvm.ClassFile.FieldType.int) ∈ gT := g_mem2 (i := 212) (by decide +kernel) rfl
theorem tm_X10_25 : Cond.methodLink RX10 25 yX10_lightest ∈ gT := g_mem2 (i := 213) (by decide +kernel) rfl
theorem ti_X10_lightest : Cond.instanceMethod yX10_lightest ∈ gT := g_mem2 (i := 215) (by decide +kernel) rfl
theorem tc_X10_lightest : Cond.code yX10_lightest cX10_lightest 12 (Option.some Jvm.ClassFile.FieldType.int) ∈ gT := g_mem2 (i := 216) (by decide +kernel) rfl
theorem tm_X10_37 : Cond.methodLink RX10 37 yJ9_abs_0f7a4 ∈ gT := g_mem2 (i := 217) (by decide +kernel) rfl
theorem tz_J9_abs_0f7a4 : Cond.static yJ9_abs_0f7a4 ∈ gT := g_mem2 (i := 218) (by decide +kernel) rfl
theorem tc_J9_abs_0f7a4 : Cond.code yJ9_abs_0f7a4 cJ9_abs_0f7a4 1 (Option.some Jvm.ClassFile.FieldType.int) ∈ gT := g_mem2 (i := 219) (by decide +kernel) rfl
theorem tq_X10_43 : Cond.constant RX10 43 (16777216 : Int32) ∈ gT := g_mem2 (i := 220) (by decide +kernel) rfl
theorem tm_X10_44 : Cond.methodLink RX10 44 yJ7_fill_53178 ∈ gT := g_mem2 (i := 221) (by decide +kernel) rfl
theorem tz_J7_fill_53178 : Cond.static yJ7_fill_53178 ∈ gT := g_mem2 (i := 222) (by decide +kernel) rfl
theorem tc_J7_fill_53178 : Cond.code yJ7_fill_53178 cJ7_fill_53178 4 (Option.none : Option Jvm.ClassFile.FieldType) ∈ gT := g_mem2 (i := 223) (by decide +kernel) rfl
theorem tm_X10_50 : Cond.methodLink RX10 50 yJ9_min_7cf53 ∈ gT := g_mem2 (i := 224) (by decide +kernel) rfl
theorem tz_J9_min_7cf53 : Cond.static yJ9_min_7cf53 ∈ gT := g_mem2 (i := 225) (by decide +kernel) rfl
theorem tc_J9_min_7cf53 : Cond.code yJ9_min_7cf53 cJ9_min_7cf53 2 (Option.some Jvm.ClassFile.FieldType.int) ∈ gT := g_mem2 (i := 226) (by decide +kernel) rfl
theorem tm_X10_54 : Cond.methodLink RX10 54 yX3_pitch ∈ gT := g_mem2 (i := 227) (by decide +kernel) rfl
theorem tm_X10_57 : Cond.methodLink RX10 57 yX10_weight ∈ gT := g_mem2 (i := 228) (by decide +kernel) rfl
theorem tz_X10_weight : Cond.static yX10_weight ∈ gT := g_mem2 (i := 229) (by decide +kernel) rfl
theorem tc_X10_weight : Cond.code yX10_weight cX10_weight 4 (Option.some Jvm.ClassFile.FieldType.int) ∈ gT := g_mem2 (i := 230) (by decide +kernel) rfl
theorem tm_L_220 : Cond.methodLink RL 220 yX12_contourBetween ∈ gT := g_mem2 (i := 231) (by decide +kernel) rfl
theorem ti_X12_contourBetween : Cond.instanceMethod yX12_contourBetween ∈ gT := g_mem2 (i := 232) (by decide +kernel) rfl
theorem ts_X12_contourBetween : Cond.selects RX12 yX12_contourBetween yX12_contourBetween ∈ gT := g_mem2 (i := 233) (by decide +kernel) rfl
theorem tc_X12_contourBetween : Cond.code yX12_contourBetween cX12_contourBetween 3 (Option.some Jvm.ClassFile.FieldType.int) ∈ gT := g_mem2 (i := 234) (by decide +kernel) rfl
theorem tm_X12_167 : Cond.methodLink RX12 167 yX10_contourDistance ∈ gT := g_mem2 (i := 235) (by decide +kernel) rfl
theorem ti_X10_contourDistance : Cond.instanceMethod yX10_contourDistance ∈ gT := g_mem2 (i := 236) (by decide +kernel) rfl
theorem ts_X10_contourDistance : Cond.selects RX10 yX10_contourDistance yX10_contourDistance ∈ gT := g_mem2 (i := 237) (by decide +kernel) rfl
theorem tc_X10_contourDistance : Cond.code yX10_contourDistance cX10_contourDistance 4 (Option.some Jvm.ClassFile.FieldType.int) ∈ gT := g_mem2 (i := 238) (by decide +kernel) rfl
theorem tm_X10_29 : Cond.methodLink RX10 29 yX3_traceContour ∈ gT := g_mem2 (i := 239) (by decide +kernel) rfl
theorem ti_X3_traceContour : Cond.instanceMethod yX3_traceContour ∈ gT := g_mem3 (i := 0) (by decide +kernel) rfl
theorem ts_X3_traceContour : Cond.selects RX3 yX3_traceContour yX3_traceContour ∈ gT := g_mem3 (i := 1) (by decide +kernel) rfl
theorem tc_X3_traceContour : Cond.code yX3_traceContour cX3_traceContour 3 (Option.none : Option Jvm.ClassFile.FieldType) ∈ gT := g_mem3 (i := 2) (by decide +kernel) rfl
theorem tm_X3_31 : Cond.methodLink RX3 31 yX3_contour ∈ gT := g_mem3 (i := 3) (by decide +kernel) rfl
theorem tm_L_223 : Cond.methodLink RL 223 yX12_areNear ∈ gT := g_mem3 (i := 4) (by decide +kernel) rfl
theorem ti_X12_areNear : Cond.instanceMethod yX12_areNear ∈ gT := g_mem3 (i := 5) (by decide +kernel) rfl
theorem ts_X12_areNear : Cond.selects RX12 yX12_areNear yX12_areNear ∈ gT := g_mem3 (i := 6) (by decide +kernel) rfl
theorem tc_X12_areNear : Cond.code yX12_areNear cX12_areNear 3 (Option.some Jvm.ClassFile.FieldType.boolean) ∈ gT := g_mem3 (i := 7) (by decide +kernel) rfl
theorem tm_X12_171 : Cond.methodLink RX12 171 yX12_nearEachOther ∈ gT := g_mem3 (i := 8) (by decide +kernel) rfl
theorem ti_X12_nearEachOther : Cond.instanceMethod yX12_nearEachOther ∈ gT := g_mem3 (i := 10) (by decide +kernel) rfl
theorem tc_X12_nearEachOther : Cond.code yX12_nearEachOther cX12_nearEachOther 4 (Option.some Jvm.ClassFile.FieldType.boolean) ∈ gT := g_mem3 (i := 11) (by decide +kernel) rfl
theorem tm_X12_263 : Cond.methodLink RX12 263 yJ9_max_7cf53 ∈ gT := g_mem3 (i := 12) (by decide +kernel) rfl
theorem tz_J9_max_7cf53 : Cond.static yJ9_max_7cf53 ∈ gT := g_mem3 (i := 13) (by decide +kernel) rfl
theorem tc_J9_max_7cf53 : Cond.code yJ9_max_7cf53 cJ9_max_7cf53 2 (Option.some Jvm.ClassFile.FieldType.int) ∈ gT := g_mem3 (i := 14) (by decide +kernel) rfl
theorem tm_L_206 : Cond.methodLink RL 206 yX12_nearestTo ∈ gT := g_mem3 (i := 15) (by decide +kernel) rfl
theorem ti_X12_nearestTo : Cond.instanceMethod yX12_nearestTo ∈ gT := g_mem3 (i := 16) (by decide +kernel) rfl
theorem ts_X12_nearestTo : Cond.selects RX12 yX12_nearestTo yX12_nearestTo ∈ gT := g_mem3 (i := 17) (by decide +kernel) rfl
theorem tc_X12_nearestTo : Cond.code yX12_nearestTo cX12_nearestTo 6 (Option.some Jvm.ClassFile.FieldType.int) ∈ gT := g_mem3 (i := 18) (by decide +kernel) rfl
theorem tl_X12_78 : Cond.classLink RX12 78 "java/lang/IllegalStateException" ∈ gT := g_mem3 (i := 19) (by decide +kernel) rfl
theorem tm_X12_82 : Cond.methodLink RX12 82 ⟨"java/lang/IllegalStateException", "<init>", "(Ljava/lang/String;)V"⟩ ∈ gT := g_mem3 (i := 29) (by decide +kernel) rfl
theorem ti_java_lang_IllegalStateException__init_ : Cond.instanceMethod ⟨"java/lang/IllegalStateException", "<init>", "(Ljava/lang/String;)V"⟩ ∈ gT := g_mem3 (i := 30) (by decide +kernel) rfl
theorem tc_java_lang_IllegalStateException__init_ : Cond.code ⟨"java/lang/IllegalStateException", "<init>", "(Ljava/lang/String;)V"⟩ prog_27_method_2_code 2 (Option.none : Option Jvm.ClassFile.FieldType) ∈ gT := g_mem3 (i := 31) (by decide +kernel) rfl
theorem tm_L_230 : Cond.methodLink RL 230 yX12_isNeedless ∈ gT := g_mem3 (i := 35) (by decide +kernel) rfl
theorem ti_X12_isNeedless : Cond.instanceMethod yX12_isNeedless ∈ gT := g_mem3 (i := 36) (by decide +kernel) rfl
theorem ts_X12_isNeedless : Cond.selects RX12 yX12_isNeedless yX12_isNeedless ∈ gT := g_mem3 (i := 37) (by decide +kernel) rfl
theorem tc_X12_isNeedless : Cond.code yX12_isNeedless cX12_isNeedless 2 (Option.some Jvm.ClassFile.FieldType.boolean) ∈ gT := g_mem3 (i := 38) (by decide +kernel) rfl
theorem tm_X12_177 : Cond.methodLink RX12 177 yX12_needless ∈ gT := g_mem3 (i := 39) (by decide +kernel) rfl
theorem ti_X12_needless : Cond.instanceMethod yX12_needless ∈ gT := g_mem3 (i := 41) (by decide +kernel) rfl
theorem tc_X12_needless : Cond.code yX12_needless cX12_needless 3 (Option.some Jvm.ClassFile.FieldType.boolean) ∈ gT := g_mem3 (i := 42) (by decide +kernel) rfl
theorem tm_L_233 : Cond.methodLink RL 233 yX12_distanceTo ∈ gT := g_mem3 (i := 43) (by decide +kernel) rfl
theorem ti_X12_distanceTo : Cond.instanceMethod yX12_distanceTo ∈ gT := g_mem3 (i := 44) (by decide +kernel) rfl
theorem ts_X12_distanceTo : Cond.selects RX12 yX12_distanceTo yX12_distanceTo ∈ gT := g_mem3 (i := 45) (by decide +kernel) rfl
theorem tc_X12_distanceTo : Cond.code yX12_distanceTo cX12_distanceTo 2 (Option.some Jvm.ClassFile.FieldType.int) ∈ gT := g_mem3 (i := 46) (by decide +kernel) rfl
theorem tm_X12_181 : Cond.methodLink RX12 181 yX12_requireSomeHeard ∈ gT := g_mem3 (i := 47) (by decide +kernel) rfl
theorem ti_X12_requireSomeHeard : Cond.instanceMethod yX12_requireSomeHeard ∈ gT := g_mem3 (i := 49) (by decide +kernel) rfl
theorem tc_X12_requireSomeHeard : Cond.code yX12_requireSomeHeard cX12_requireSomeHeard 1 (Option.none : Option Jvm.ClassFile.FieldType) ∈ gT := g_mem3 (i := 50) (by decide +kernel) rfl
theorem tm_L_239 : Cond.methodLink RL 239 yX12_contourTo ∈ gT := g_mem3 (i := 52) (by decide +kernel) rfl
theorem ti_X12_contourTo : Cond.instanceMethod yX12_contourTo ∈ gT := g_mem3 (i := 53) (by decide +kernel) rfl
theorem ts_X12_contourTo : Cond.selects RX12 yX12_contourTo yX12_contourTo ∈ gT := g_mem3 (i := 54) (by decide +kernel) rfl
theorem tc_X12_contourTo : Cond.code yX12_contourTo cX12_contourTo 2 (Option.some Jvm.ClassFile.FieldType.int) ∈ gT := g_mem3 (i := 55) (by decide +kernel) rfl
theorem tm_L_236 : Cond.methodLink RL 236 yX12_stepsTo ∈ gT := g_mem3 (i := 56) (by decide +kernel) rfl
theorem ti_X12_stepsTo : Cond.instanceMethod yX12_stepsTo ∈ gT := g_mem3 (i := 57) (by decide +kernel) rfl
theorem ts_X12_stepsTo : Cond.selects RX12 yX12_stepsTo yX12_stepsTo ∈ gT := g_mem3 (i := 58) (by decide +kernel) rfl
theorem tc_X12_stepsTo : Cond.code yX12_stepsTo cX12_stepsTo 2 (Option.some Jvm.ClassFile.FieldType.int) ∈ gT := g_mem3 (i := 59) (by decide +kernel) rfl
theorem tm_X12_187 : Cond.methodLink RX12 187 yX10_fewestSteps ∈ gT := g_mem3 (i := 60) (by decide +kernel) rfl
theorem ti_X10_fewestSteps : Cond.instanceMethod yX10_fewestSteps ∈ gT := g_mem3 (i := 61) (by decide +kernel) rfl
theorem ts_X10_fewestSteps : Cond.selects RX10 yX10_fewestSteps yX10_fewestSteps ∈ gT := g_mem3 (i := 62) (by decide +kernel) rfl
theorem tc_X10_fewestSteps : Cond.code yX10_fewestSteps cX10_fewestSteps 4 (Option.some Jvm.ClassFile.FieldType.int) ∈ gT := g_mem3 (i := 63) (by decide +kernel) rfl
theorem tm_L_139 : Cond.methodLink RL 139 yX12_pruneNeedless ∈ gT := g_mem3 (i := 64) (by decide +kernel) rfl
theorem ti_X12_pruneNeedless : Cond.instanceMethod yX12_pruneNeedless ∈ gT := g_mem3 (i := 65) (by decide +kernel) rfl
theorem ts_X12_pruneNeedless : Cond.selects RX12 yX12_pruneNeedless yX12_pruneNeedless ∈ gT := g_mem3 (i := 66) (by decide +kernel) rfl
theorem tc_X12_pruneNeedless : Cond.code yX12_pruneNeedless cX12_pruneNeedless 3 (Option.some Jvm.ClassFile.FieldType.int) ∈ gT := g_mem3 (i := 67) (by decide +kernel) rfl
theorem tm_L_107 : Cond.methodLink RL 107 yX12_passLessons ∈ gT := g_mem3 (i := 68) (by decide +kernel) rfl
theorem ti_X12_passLessons : Cond.instanceMethod yX12_passLessons ∈ gT := g_mem3 (i := 69) (by decide +kernel) rfl
theorem ts_X12_passLessons : Cond.selects RX12 yX12_passLessons yX12_passLessons ∈ gT := g_mem3 (i := 70) (by decide +kernel) rfl
theorem tc_X12_passLessons : Cond.code yX12_passLessons cX12_passLessons 4 (Option.some Jvm.ClassFile.FieldType.int) ∈ gT := g_mem3 (i := 71) (by decide +kernel) rfl
theorem tm_X12_220 : Cond.methodLink RX12 220 yX12_requireLessons ∈ gT := g_mem3 (i := 72) (by decide +kernel) rfl
theorem tz_X12_requireLessons : Cond.static yX12_requireLessons ∈ gT := g_mem3 (i := 73) (by decide +kernel) rfl
theorem tc_X12_requireLessons : Cond.code yX12_requireLessons cX12_requireLessons 1 (Option.none : Option Jvm.ClassFile.FieldType) ∈ gT := g_mem3 (i := 74) (by decide +kernel) rfl
theorem tl_X12_89 : Cond.classLink RX12 89 "java/lang/IllegalArgumentException" ∈ gT := g_mem3 (i := 75) (by decide +kernel) rfl
theorem tm_X12_93 : Cond.methodLink RX12 93 ⟨"java/lang/IllegalArgumentException", "<init>", "(Ljava/lang/String;)V"⟩ ∈ gT := g_mem3 (i := 85) (by decide +kernel) rfl
theorem ti_java_lang_IllegalArgumentException__init_ : Cond.instanceMethod ⟨"java/lang/IllegalArgumentException", "<init>", "(Ljava/lang/String;)V"⟩ ∈ gT := g_mem3 (i := 86) (by decide +kernel) rfl
theorem tc_java_lang_IllegalArgumentException__init_ : Cond.code ⟨"java/lang/IllegalArgumentException", "<init>", "(Ljava/lang/String;)V"⟩ prog_26_method_2_code 2 (Option.none : Option Jvm.ClassFile.FieldType) ∈ gT := g_mem3 (i := 87) (by decide +kernel) rfl
theorem tm_X12_223 : Cond.methodLink RX12 223 yX1_passOne ∈ gT := g_mem3 (i := 91) (by decide +kernel) rfl
theorem ti_X1_passOne : Cond.instanceMethod yX1_passOne ∈ gT := g_mem3 (i := 92) (by decide +kernel) rfl
theorem ts_X1_passOne : Cond.selects RX1 yX1_passOne yX1_passOne ∈ gT := g_mem3 (i := 93) (by decide +kernel) rfl
theorem tc_X1_passOne : Cond.code yX1_passOne cX1_passOne 6 (Option.some Jvm.ClassFile.FieldType.int) ∈ gT := g_mem3 (i := 94) (by decide +kernel) rfl
theorem tm_X1_68 : Cond.methodLink RX1 68 yX5_rule ∈ gT := g_mem3 (i := 95) (by decide +kernel) rfl
theorem ti_X5_rule : Cond.instanceMethod yX5_rule ∈ gT := g_mem3 (i := 96) (by decide +kernel) rfl
theorem ts_X5_rule : Cond.selects RX5 yX5_rule yX5_rule ∈ gT := g_mem3 (i := 97) (by decide +kernel) rfl
theorem tc_X5_rule : Cond.code yX5_rule cX5_rule 2 (Option.some (Jvm.ClassFile.FieldType.object "GlideWhistles$Rule")) ∈ gT := g_mem3 (i := 98) (by decide +kernel) rfl
theorem tm_X1_72 : Cond.methodLink RX1 72 yX1_holds ∈ gT := g_mem3 (i := 99) (by decide +kernel) rfl
theorem ti_X1_holds : Cond.instanceMethod yX1_holds ∈ gT := g_mem3 (i := 101) (by decide +kernel) rfl
theorem tc_X1_holds : Cond.code yX1_holds cX1_holds 4 (Option.some Jvm.ClassFile.FieldType.boolean) ∈ gT := g_mem3 (i := 102) (by decide +kernel) rfl
theorem tm_X1_93 : Cond.methodLink RX1 93 yX1_reckon ∈ gT := g_mem3 (i := 103) (by decide +kernel) rfl
theorem ti_X1_reckon : Cond.instanceMethod yX1_reckon ∈ gT := g_mem3 (i := 105) (by decide +kernel) rfl
theorem tc_X1_reckon : Cond.code yX1_reckon cX1_reckon 9 (Option.some Jvm.ClassFile.FieldType.int) ∈ gT := g_mem3 (i := 106) (by decide +kernel) rfl
theorem tm_X1_122 : Cond.methodLink RX1 122 yX5_sign ∈ gT := g_mem3 (i := 107) (by decide +kernel) rfl
theorem ti_X5_sign : Cond.instanceMethod yX5_sign ∈ gT := g_mem3 (i := 108) (by decide +kernel) rfl
theorem ts_X5_sign : Cond.selects RX5 yX5_sign yX5_sign ∈ gT := g_mem3 (i := 109) (by decide +kernel) rfl
theorem tc_X5_sign : Cond.code yX5_sign cX5_sign 2 (Option.some (Jvm.ClassFile.FieldType.object "GlideWhistles$Sign")) ∈ gT := g_mem3 (i := 110) (by decide +kernel) rfl
theorem tf_X1_126 : Cond.fieldLink RX1 126 "GlideWhistles$Sign" "NEGATIVE" "LGlideWhistles$Sign;" ∈ gT := g_mem3 (i := 111) (by decide +kernel) rfl
theorem tm_X1_129 : Cond.methodLink RX1 129 yX1_pop ∈ gT := g_mem3 (i := 113) (by decide +kernel) rfl
theorem ti_X1_pop : Cond.instanceMethod yX1_pop ∈ gT := g_mem3 (i := 115) (by decide +kernel) rfl
theorem tc_X1_pop : Cond.code yX1_pop cX1_pop 1 (Option.some Jvm.ClassFile.FieldType.int) ∈ gT := g_mem3 (i := 116) (by decide +kernel) rfl
theorem tm_X1_133 : Cond.methodLink RX1 133 yX1_push ∈ gT := g_mem3 (i := 117) (by decide +kernel) rfl
theorem ti_X1_push : Cond.instanceMethod yX1_push ∈ gT := g_mem3 (i := 119) (by decide +kernel) rfl
theorem tc_X1_push : Cond.code yX1_push cX1_push 2 (Option.none : Option Jvm.ClassFile.FieldType) ∈ gT := g_mem3 (i := 120) (by decide +kernel) rfl
theorem tf_X1_137 : Cond.fieldLink RX1 137 "GlideWhistles$Sign" "NOT" "LGlideWhistles$Sign;" ∈ gT := g_mem3 (i := 121) (by decide +kernel) rfl
theorem tm_X1_140 : Cond.methodLink RX1 140 yX1_isJoin ∈ gT := g_mem3 (i := 123) (by decide +kernel) rfl
theorem tz_X1_isJoin : Cond.static yX1_isJoin ∈ gT := g_mem3 (i := 124) (by decide +kernel) rfl
theorem tc_X1_isJoin : Cond.code yX1_isJoin cX1_isJoin 1 (Option.some Jvm.ClassFile.FieldType.boolean) ∈ gT := g_mem3 (i := 125) (by decide +kernel) rfl
theorem tf_X1_155 : Cond.fieldLink RX1 155 "GlideWhistles$1" "$SwitchMap$GlideWhistles$Sign" "[I" ∈ gT := g_mem3 (i := 126) (by decide +kernel) rfl
theorem tm_X1_160 : Cond.methodLink RX1 160 ⟨"GlideWhistles$Sign", "ordinal", "()I"⟩ ∈ gT := g_mem3 (i := 128) (by decide +kernel) rfl
theorem ts_Jx29ce0_ordinal_8abf5 : Cond.selects RX6 ⟨"GlideWhistles$Sign", "ordinal", "()I"⟩ yJx29ce0_ordinal_8abf5 ∈ gT := g_mem3 (i := 131) (by decide +kernel) rfl
theorem ti_Jx29ce0_ordinal_8abf5 : Cond.instanceMethod yJx29ce0_ordinal_8abf5 ∈ gT := g_mem3 (i := 132) (by decide +kernel) rfl
theorem tc_Jx29ce0_ordinal_8abf5 : Cond.code yJx29ce0_ordinal_8abf5 cJx29ce0_ordinal_8abf5 1 (Option.some Jvm.ClassFile.FieldType.int) ∈ gT := g_mem3 (i := 133) (by decide +kernel) rfl
theorem tm_X1_144 : Cond.methodLink RX1 144 yX1_join ∈ gT := g_mem3 (i := 134) (by decide +kernel) rfl
theorem tz_X1_join : Cond.static yX1_join ∈ gT := g_mem3 (i := 135) (by decide +kernel) rfl
theorem tc_X1_join : Cond.code yX1_join cX1_join 3 (Option.some Jvm.ClassFile.FieldType.int) ∈ gT := g_mem3 (i := 136) (by decide +kernel) rfl
theorem tm_X1_170 : Cond.methodLink RX1 170 yJ9_min_7cf53 ∈ gT := g_mem3 (i := 137) (by decide +kernel) rfl
theorem tm_X1_176 : Cond.methodLink RX1 176 yJ9_max_7cf53 ∈ gT := g_mem3 (i := 138) (by decide +kernel) rfl
theorem tmN_X1_179 : Cond.methodLinkNest RX1 179 yX12_quotient "GlideWhistles" ∈ gN := g_nem3 (i := 139) (by decide +kernel) rfl
theorem tz_X12_quotient : Cond.static yX12_quotient ∈ gT := g_mem3 (i := 140) (by decide +kernel) rfl
theorem tc_X12_quotient : Cond.code yX12_quotient cX12_quotient 2 (Option.some Jvm.ClassFile.FieldType.int) ∈ gT := g_mem3 (i := 141) (by decide +kernel) rfl
theorem tm_X1_182 : Cond.methodLink RX1 182 yX1_compares ∈ gT := g_mem3 (i := 142) (by decide +kernel) rfl
theorem tz_X1_compares : Cond.static yX1_compares ∈ gT := g_mem3 (i := 143) (by decide +kernel) rfl
theorem tc_X1_compares : Cond.code yX1_compares cX1_compares 3 (Option.some Jvm.ClassFile.FieldType.boolean) ∈ gT := g_mem3 (i := 144) (by decide +kernel) rfl
theorem tm_X1_148 : Cond.methodLink RX1 148 yX5_value ∈ gT := g_mem3 (i := 145) (by decide +kernel) rfl
theorem ti_X5_value : Cond.instanceMethod yX5_value ∈ gT := g_mem3 (i := 146) (by decide +kernel) rfl
theorem ts_X5_value : Cond.selects RX5 yX5_value yX5_value ∈ gT := g_mem3 (i := 147) (by decide +kernel) rfl
theorem tc_X5_value : Cond.code yX5_value cX5_value 2 (Option.some Jvm.ClassFile.FieldType.int) ∈ gT := g_mem3 (i := 148) (by decide +kernel) rfl
theorem tm_X1_151 : Cond.methodLink RX1 151 yX1_found ∈ gT := g_mem3 (i := 149) (by decide +kernel) rfl
theorem ti_X1_found : Cond.instanceMethod yX1_found ∈ gT := g_mem3 (i := 151) (by decide +kernel) rfl
theorem tc_X1_found : Cond.code yX1_found cX1_found 4 (Option.some Jvm.ClassFile.FieldType.int) ∈ gT := g_mem3 (i := 152) (by decide +kernel) rfl
theorem tm_X1_163 : Cond.methodLink RX1 163 yX9_countKept ∈ gT := g_mem3 (i := 153) (by decide +kernel) rfl
theorem tm_X1_41 : Cond.methodLink RX1 41 yX9_word ∈ gT := g_mem3 (i := 154) (by decide +kernel) rfl
theorem tm_X1_166 : Cond.methodLink RX1 166 yX1_meantOf ∈ gT := g_mem3 (i := 155) (by decide +kernel) rfl
theorem ti_X1_meantOf : Cond.instanceMethod yX1_meantOf ∈ gT := g_mem3 (i := 156) (by decide +kernel) rfl
theorem ts_X1_meantOf : Cond.selects RX1 yX1_meantOf yX1_meantOf ∈ gT := g_mem3 (i := 157) (by decide +kernel) rfl
theorem tc_X1_meantOf : Cond.code yX1_meantOf cX1_meantOf 2 (Option.some Jvm.ClassFile.FieldType.int) ∈ gT := g_mem3 (i := 158) (by decide +kernel) rfl
theorem tm_X1_32 : Cond.methodLink RX1 32 yX9_closestKept ∈ gT := g_mem3 (i := 159) (by decide +kernel) rfl
theorem ti_X9_closestKept : Cond.instanceMethod yX9_closestKept ∈ gT := g_mem3 (i := 160) (by decide +kernel) rfl
theorem ts_X9_closestKept : Cond.selects RX9 yX9_closestKept yX9_closestKept ∈ gT := g_mem3 (i := 161) (by decide +kernel) rfl
theorem tc_X9_closestKept : Cond.code yX9_closestKept cX9_closestKept 4 (Option.some Jvm.ClassFile.FieldType.int) ∈ gT := g_mem3 (i := 162) (by decide +kernel) rfl
theorem tm_X1_76 : Cond.methodLink RX1 76 yX1_changes ∈ gT := g_mem3 (i := 163) (by decide +kernel) rfl
theorem ti_X1_changes : Cond.instanceMethod yX1_changes ∈ gT := g_mem3 (i := 165) (by decide +kernel) rfl
theorem tc_X1_changes : Cond.code yX1_changes cX1_changes 7 (Option.some Jvm.ClassFile.FieldType.boolean) ∈ gT := g_mem3 (i := 166) (by decide +kernel) rfl
theorem tf_X1_103 : Cond.fieldLink RX1 103 "GlideWhistles$Sign" "SHIFT" "LGlideWhistles$Sign;" ∈ gT := g_mem3 (i := 167) (by decide +kernel) rfl
theorem tm_X1_111 : Cond.methodLink RX1 111 yX3_shift ∈ gT := g_mem3 (i := 169) (by decide +kernel) rfl
theorem ti_X3_shift : Cond.instanceMethod yX3_shift ∈ gT := g_mem3 (i := 170) (by decide +kernel) rfl
theorem ts_X3_shift : Cond.selects RX3 yX3_shift yX3_shift ∈ gT := g_mem3 (i := 171) (by decide +kernel) rfl
theorem tc_X3_shift : Cond.code yX3_shift cX3_shift 7 (Option.some Jvm.ClassFile.FieldType.boolean) ∈ gT := g_mem3 (i := 172) (by decide +kernel) rfl
theorem tq_X3_34 : Cond.constantLong RX3 34 (40 : Int64) ∈ gT := g_mem3 (i := 173) (by decide +kernel) rfl
theorem tm_X1_45 : Cond.methodLink RX1 45 yX1_measure ∈ gT := g_mem3 (i := 174) (by decide +kernel) rfl
theorem ti_X1_measure : Cond.instanceMethod yX1_measure ∈ gT := g_mem3 (i := 176) (by decide +kernel) rfl
theorem tc_X1_measure : Cond.code yX1_measure cX1_measure 3 (Option.none : Option Jvm.ClassFile.FieldType) ∈ gT := g_mem3 (i := 177) (by decide +kernel) rfl
theorem tm_X1_59 : Cond.methodLink RX1 59 yX10_distance ∈ gT := g_mem3 (i := 178) (by decide +kernel) rfl
theorem tf_X1_115 : Cond.fieldLink RX1 115 "GlideWhistles$Sign" "PRUNE" "LGlideWhistles$Sign;" ∈ gT := g_mem3 (i := 179) (by decide +kernel) rfl
theorem tm_L_252 : Cond.methodLink RL 252 yX12_keptAfter ∈ gT := g_mem3 (i := 180) (by decide +kernel) rfl
theorem ti_X12_keptAfter : Cond.instanceMethod yX12_keptAfter ∈ gT := g_mem3 (i := 181) (by decide +kernel) rfl
theorem ts_X12_keptAfter : Cond.selects RX12 yX12_keptAfter yX12_keptAfter ∈ gT := g_mem3 (i := 182) (by decide +kernel) rfl
theorem tc_X12_keptAfter : Cond.code yX12_keptAfter cX12_keptAfter 3 (Option.some Jvm.ClassFile.FieldType.int) ∈ gT := g_mem3 (i := 183) (by decide +kernel) rfl
theorem tm_X12_227 : Cond.methodLink RX12 227 yX9_copyFrom ∈ gT := g_mem3 (i := 184) (by decide +kernel) rfl
theorem ti_X9_copyFrom : Cond.instanceMethod yX9_copyFrom ∈ gT := g_mem3 (i := 185) (by decide +kernel) rfl
theorem ts_X9_copyFrom : Cond.selects RX9 yX9_copyFrom yX9_copyFrom ∈ gT := g_mem3 (i := 186) (by decide +kernel) rfl
theorem tc_X9_copyFrom : Cond.code yX9_copyFrom cX9_copyFrom 3 (Option.none : Option Jvm.ClassFile.FieldType) ∈ gT := g_mem3 (i := 187) (by decide +kernel) rfl
theorem tm_X9_52 : Cond.methodLink RX9 52 yX3_copyFrom ∈ gT := g_mem3 (i := 188) (by decide +kernel) rfl
theorem ti_X3_copyFrom : Cond.instanceMethod yX3_copyFrom ∈ gT := g_mem3 (i := 189) (by decide +kernel) rfl
theorem ts_X3_copyFrom : Cond.selects RX3 yX3_copyFrom yX3_copyFrom ∈ gT := g_mem3 (i := 190) (by decide +kernel) rfl
theorem tc_X3_copyFrom : Cond.code yX3_copyFrom cX3_copyFrom 3 (Option.none : Option Jvm.ClassFile.FieldType) ∈ gT := g_mem3 (i := 191) (by decide +kernel) rfl
theorem tm_L_255 : Cond.methodLink RL 255 yX12_lessonsUntilMeant ∈ gT := g_mem3 (i := 192) (by decide +kernel) rfl
theorem ti_X12_lessonsUntilMeant : Cond.instanceMethod yX12_lessonsUntilMeant ∈ gT := g_mem3 (i := 193) (by decide +kernel) rfl
theorem ts_X12_lessonsUntilMeant : Cond.selects RX12 yX12_lessonsUntilMeant yX12_lessonsUntilMeant ∈ gT := g_mem3 (i := 194) (by decide +kernel) rfl
theorem tc_X12_lessonsUntilMeant : Cond.code yX12_lessonsUntilMeant cX12_lessonsUntilMeant 3 (Option.some Jvm.ClassFile.FieldType.int) ∈ gT := g_mem3 (i := 195) (by decide +kernel) rfl
theorem tm_X12_190 : Cond.methodLink RX12 190 yX1_meantOf ∈ gT := g_mem3 (i := 196) (by decide +kernel) rfl
theorem tm_L_242 : Cond.methodLink RL 242 yX12_bestShift ∈ gT := g_mem3 (i := 197) (by decide +kernel) rfl
theorem ti_X12_bestShift : Cond.instanceMethod yX12_bestShift ∈ gT := g_mem3 (i := 198) (by decide +kernel) rfl
theorem ts_X12_bestShift : Cond.selects RX12 yX12_bestShift yX12_bestShift ∈ gT := g_mem3 (i := 199) (by decide +kernel) rfl
theorem tc_X12_bestShift : Cond.code yX12_bestShift cX12_bestShift 7 (Option.some Jvm.ClassFile.FieldType.int) ∈ gT := g_mem3 (i := 200) (by decide +kernel) rfl
theorem tm_X12_230 : Cond.methodLink RX12 230 yX12_distanceIfShifted ∈ gT := g_mem3 (i := 201) (by decide +kernel) rfl
theorem ti_X12_distanceIfShifted : Cond.instanceMethod yX12_distanceIfShifted ∈ gT := g_mem3 (i := 203) (by decide +kernel) rfl
theorem tc_X12_distanceIfShifted : Cond.code yX12_distanceIfShifted cX12_distanceIfShifted 3 (Option.some Jvm.ClassFile.FieldType.int) ∈ gT := g_mem3 (i := 204) (by decide +kernel) rfl
theorem tm_X12_213 : Cond.methodLink RX12 213 yX3_copyFrom ∈ gT := g_mem3 (i := 205) (by decide +kernel) rfl
theorem tm_X12_217 : Cond.methodLink RX12 217 yX3_shift ∈ gT := g_mem3 (i := 206) (by decide +kernel) rfl
theorem tm_L_176 : Cond.methodLink RL 176 yX12_digest ∈ gT := g_mem3 (i := 207) (by decide +kernel) rfl
theorem ti_X12_digest : Cond.instanceMethod yX12_digest ∈ gT := g_mem3 (i := 208) (by decide +kernel) rfl
theorem ts_X12_digest : Cond.selects RX12 yX12_digest yX12_digest ∈ gT := g_mem3 (i := 209) (by decide +kernel) rfl
theorem tc_X12_digest : Cond.code yX12_digest cX12_digest 4 (Option.some Jvm.ClassFile.FieldType.long) ∈ gT := g_mem3 (i := 210) (by decide +kernel) rfl
theorem tq_X12_233 : Cond.constantLong RX12 233 (1019 : Int64) ∈ gT := g_mem3 (i := 211) (by decide +kernel) rfl
theorem tq_X12_235 : Cond.constantLong RX12 235 (31 : Int64) ∈ gT := g_mem3 (i := 212) (by decide +kernel) rfl
theorem tm_X12_237 : Cond.methodLink RX12 237 yX12_digestOfWord ∈ gT := g_mem3 (i := 213) (by decide +kernel) rfl
theorem ti_X12_digestOfWord : Cond.instanceMethod yX12_digestOfWord ∈ gT := g_mem3 (i := 215) (by decide +kernel) rfl
theorem tc_X12_digestOfWord : Cond.code yX12_digestOfWord cX12_digestOfWord 7 (Option.some Jvm.ClassFile.FieldType.long) ∈ gT := g_mem3 (i := 216) (by decide +kernel) rfl
theorem tm_X12_241 : Cond.methodLink RX12 241 yX12_digestOfRow ∈ gT := g_mem3 (i := 217) (by decide +kernel) rfl
theorem tz_X12_digestOfRow : Cond.static yX12_digestOfRow ∈ gT := g_mem3 (i := 218) (by decide +kernel) rfl
theorem tc_X12_digestOfRow : Cond.code yX12_digestOfRow cX12_digestOfRow 6 (Option.some Jvm.ClassFile.FieldType.long) ∈ gT := g_mem3 (i := 219) (by decide +kernel) rfl
theorem tl_L_38 : Cond.classLink RL 38 RX13 ∈ gT := g_mem3 (i := 220) (by decide +kernel) rfl
theorem ta_X13 : Cond.instantiable RX13 1 ∈ gT := g_mem3 (i := 221) (by decide +kernel) rfl
theorem tm_L_155 : Cond.methodLink RL 155 yX13_init ∈ gT := g_mem3 (i := 222) (by decide +kernel) rfl
theorem ti_X13_init : Cond.instanceMethod yX13_init ∈ gT := g_mem3 (i := 223) (by decide +kernel) rfl
theorem tc_X13_init : Cond.code yX13_init cX13_init 2 (Option.none : Option Jvm.ClassFile.FieldType) ∈ gT := g_mem3 (i := 224) (by decide +kernel) rfl
theorem tm_X13_1 : Cond.methodLink RX13 1 ⟨"java/lang/Object", "<init>", "()V"⟩ ∈ gT := g_mem3 (i := 225) (by decide +kernel) rfl
theorem tf_X13_7 : Cond.fieldLink RX13 7 "GlideWhistlesLaw$Dice" "state" "I" ∈ gT := g_mem3 (i := 226) (by decide +kernel) rfl
theorem tm_L_37 : Cond.methodLink RL 37 yX13_next ∈ gT := g_mem3 (i := 230) (by decide +kernel) rfl
theorem ti_X13_next : Cond.instanceMethod yX13_next ∈ gT := g_mem3 (i := 231) (by decide +kernel) rfl
theorem ts_X13_next : Cond.selects RX13 yX13_next yX13_next ∈ gT := g_mem3 (i := 232) (by decide +kernel) rfl
theorem tc_X13_next : Cond.code yX13_next cX13_next 2 (Option.some Jvm.ClassFile.FieldType.int) ∈ gT := g_mem3 (i := 233) (by decide +kernel) rfl
theorem tq_X13_13 : Cond.constant RX13 13 (1103515245 : Int32) ∈ gT := g_mem3 (i := 234) (by decide +kernel) rfl
theorem tmN_X13_14 : Cond.methodLinkNest RX13 14 yL_below "GlideWhistlesLaw" ∈ gN := g_nem3 (i := 235) (by decide +kernel) rfl
theorem tz_L_below : Cond.static yL_below ∈ gT := g_mem3 (i := 236) (by decide +kernel) rfl
theorem tc_L_below : Cond.code yL_below cL_below 2 (Option.some Jvm.ClassFile.FieldType.int) ∈ gT := g_mem3 (i := 237) (by decide +kernel) rfl
theorem tq_L_7 : Cond.constant RL 7 (2147483647 : Int32) ∈ gT := g_mem3 (i := 238) (by decide +kernel) rfl
theorem tm_L_217 : Cond.methodLink RL 217 yX16_apart ∈ gT := g_mem3 (i := 239) (by decide +kernel) rfl
theorem tz_X16_apart : Cond.static yX16_apart ∈ gT := g_mem4 (i := 0) (by decide +kernel) rfl
theorem tc_X16_apart : Cond.code yX16_apart cX16_apart 2 (Option.some Jvm.ClassFile.FieldType.int) ∈ gT := g_mem4 (i := 1) (by decide +kernel) rfl
theorem tm_L_245 : Cond.methodLink RL 245 yX16_far ∈ gT := g_mem4 (i := 2) (by decide +kernel) rfl
theorem ti_X16_far : Cond.instanceMethod yX16_far ∈ gT := g_mem4 (i := 3) (by decide +kernel) rfl
theorem ts_X16_far : Cond.selects RX16 yX16_far yX16_far ∈ gT := g_mem4 (i := 4) (by decide +kernel) rfl
theorem tc_X16_far : Cond.code yX16_far cX16_far 3 (Option.some Jvm.ClassFile.FieldType.int) ∈ gT := g_mem4 (i := 5) (by decide +kernel) rfl
theorem tm_X16_65 : Cond.methodLink RX16 65 yX16_way ∈ gT := g_mem4 (i := 6) (by decide +kernel) rfl
theorem ti_X16_way : Cond.instanceMethod yX16_way ∈ gT := g_mem4 (i := 7) (by decide +kernel) rfl
theorem ts_X16_way : Cond.selects RX16 yX16_way yX16_way ∈ gT := g_mem4 (i := 8) (by decide +kernel) rfl
theorem tc_X16_way : Cond.code yX16_way cX16_way 16 (Option.some Jvm.ClassFile.FieldType.int) ∈ gT := g_mem4 (i := 9) (by decide +kernel) rfl
theorem tq_X16_56 : Cond.constant RX16 56 (1000000 : Int32) ∈ gT := g_mem4 (i := 10) (by decide +kernel) rfl
theorem tm_X16_57 : Cond.methodLink RX16 57 yX16_contour ∈ gT := g_mem4 (i := 11) (by decide +kernel) rfl
theorem tz_X16_contour : Cond.static yX16_contour ∈ gT := g_mem4 (i := 12) (by decide +kernel) rfl
theorem tc_X16_contour : Cond.code yX16_contour cX16_contour 2 (Option.some Jvm.ClassFile.FieldType.int) ∈ gT := g_mem4 (i := 13) (by decide +kernel) rfl
theorem tm_X16_61 : Cond.methodLink RX16 61 yX16_apart ∈ gT := g_mem4 (i := 14) (by decide +kernel) rfl
theorem tm_L_121 : Cond.methodLink RL 121 yX16_shifted ∈ gT := g_mem4 (i := 15) (by decide +kernel) rfl
theorem tz_X16_shifted : Cond.static yX16_shifted ∈ gT := g_mem4 (i := 16) (by decide +kernel) rfl
theorem tc_X16_shifted : Cond.code yX16_shifted cX16_shifted 7 (Option.some (Jvm.ClassFile.FieldType.array Jvm.ClassFile.FieldType.int)) ∈ gT := g_mem4 (i := 17) (by decide +kernel) rfl
theorem tm_X16_44 : Cond.methodLink RX16 44 ⟨"[I", "clone", "()Ljava/lang/Object;"⟩ ∈ gT := g_mem4 (i := 18) (by decide +kernel) rfl
theorem ti_java_lang_Object_clone : Cond.instanceMethod ⟨"java/lang/Object", "clone", "()Ljava/lang/Object;"⟩ ∈ gT := g_mem4 (i := 21) (by decide +kernel) rfl
theorem ts_java_lang_Object_clone : Cond.selects "[I" ⟨"[I", "clone", "()Ljava/lang/Object;"⟩ ⟨"java/lang/Object", "clone", "()Ljava/lang/Object;"⟩ ∈ gT := g_mem4 (i := 22) (by decide +kernel) rfl
theorem tl_X16_16 : Cond.classLink RX16 16 "[I" ∈ gT := g_mem4 (i := 24) (by decide +kernel) rfl
theorem tq_X16_77 : Cond.constantLong RX16 77 (40 : Int64) ∈ gT := g_mem4 (i := 25) (by decide +kernel) rfl
theorem tm_L_258 : Cond.methodLink RL 258 yX16_pass ∈ gT := g_mem4 (i := 26) (by decide +kernel) rfl
theorem ti_X16_pass : Cond.instanceMethod yX16_pass ∈ gT := g_mem4 (i := 27) (by decide +kernel) rfl
theorem ts_X16_pass : Cond.selects RX16 yX16_pass yX16_pass ∈ gT := g_mem4 (i := 28) (by decide +kernel) rfl
theorem tc_X16_pass : Cond.code yX16_pass cX16_pass 6 (Option.some Jvm.ClassFile.FieldType.int) ∈ gT := g_mem4 (i := 29) (by decide +kernel) rfl
theorem tm_X16_79 : Cond.methodLink RX16 79 yX15_isDone ∈ gT := g_mem4 (i := 30) (by decide +kernel) rfl
theorem ti_X15_isDone : Cond.instanceMethod yX15_isDone ∈ gT := g_mem4 (i := 31) (by decide +kernel) rfl
theorem ts_X15_isDone : Cond.selects RX15 yX15_isDone yX15_isDone ∈ gT := g_mem4 (i := 32) (by decide +kernel) rfl
theorem tc_X15_isDone : Cond.code yX15_isDone cX15_isDone 5 (Option.some Jvm.ClassFile.FieldType.boolean) ∈ gT := g_mem4 (i := 33) (by decide +kernel) rfl
theorem tm_X15_65 : Cond.methodLink RX15 65 yX14_value ∈ gT := g_mem4 (i := 34) (by decide +kernel) rfl
theorem ti_X14_value : Cond.instanceMethod yX14_value ∈ gT := g_mem4 (i := 35) (by decide +kernel) rfl
theorem ts_X14_value : Cond.selects RX14 yX14_value yX14_value ∈ gT := g_mem4 (i := 36) (by decide +kernel) rfl
theorem tc_X14_value : Cond.code yX14_value cX14_value 2 (Option.some Jvm.ClassFile.FieldType.int) ∈ gT := g_mem4 (i := 37) (by decide +kernel) rfl
theorem tm_X14_106 : Cond.methodLink RX14 106 yX16_kept ∈ gT := g_mem4 (i := 38) (by decide +kernel) rfl
theorem ti_X16_kept : Cond.instanceMethod yX16_kept ∈ gT := g_mem4 (i := 39) (by decide +kernel) rfl
theorem ts_X16_kept : Cond.selects RX16 yX16_kept yX16_kept ∈ gT := g_mem4 (i := 40) (by decide +kernel) rfl
theorem tc_X16_kept : Cond.code yX16_kept cX16_kept 6 (Option.some Jvm.ClassFile.FieldType.int) ∈ gT := g_mem4 (i := 41) (by decide +kernel) rfl
theorem tm_X14_117 : Cond.methodLink RX14 117 yX16_far ∈ gT := g_mem4 (i := 42) (by decide +kernel) rfl
theorem tm_X14_121 : Cond.methodLink RX14 121 yX14_value ∈ gT := g_mem4 (i := 43) (by decide +kernel) rfl
theorem tm_X14_125 : Cond.methodLink RX14 125 yX16_meant ∈ gT := g_mem4 (i := 44) (by decide +kernel) rfl
theorem ti_X16_meant : Cond.instanceMethod yX16_meant ∈ gT := g_mem4 (i := 45) (by decide +kernel) rfl
theorem ts_X16_meant : Cond.selects RX16 yX16_meant yX16_meant ∈ gT := g_mem4 (i := 46) (by decide +kernel) rfl
theorem tc_X16_meant : Cond.code yX16_meant cX16_meant 6 (Option.some Jvm.ClassFile.FieldType.int) ∈ gT := g_mem4 (i := 47) (by decide +kernel) rfl
theorem tm_X16_69 : Cond.methodLink RX16 69 yX16_far ∈ gT := g_mem4 (i := 48) (by decide +kernel) rfl
theorem tm_X14_132 : Cond.methodLink RX14 132 yX14_both ∈ gT := g_mem4 (i := 49) (by decide +kernel) rfl
theorem tz_X14_both : Cond.static yX14_both ∈ gT := g_mem4 (i := 50) (by decide +kernel) rfl
theorem tc_X14_both : Cond.code yX14_both cX14_both 3 (Option.some Jvm.ClassFile.FieldType.int) ∈ gT := g_mem4 (i := 51) (by decide +kernel) rfl
theorem tm_X15_75 : Cond.methodLink RX15 75 yX16_shifted ∈ gT := g_mem4 (i := 52) (by decide +kernel) rfl
theorem tm_L_260 : Cond.methodLink RL 260 yX16_isSame ∈ gT := g_mem4 (i := 53) (by decide +kernel) rfl
theorem ti_X16_isSame : Cond.instanceMethod yX16_isSame ∈ gT := g_mem4 (i := 54) (by decide +kernel) rfl
theorem ts_X16_isSame : Cond.selects RX16 yX16_isSame yX16_isSame ∈ gT := g_mem4 (i := 55) (by decide +kernel) rfl
theorem tc_X16_isSame : Cond.code yX16_isSame cX16_isSame 7 (Option.some Jvm.ClassFile.FieldType.boolean) ∈ gT := g_mem4 (i := 56) (by decide +kernel) rfl
theorem tm_X16_87 : Cond.methodLink RX16 87 yX12_lengthOf ∈ gT := g_mem4 (i := 57) (by decide +kernel) rfl
theorem tm_X16_93 : Cond.methodLink RX16 93 yX12_isPruned ∈ gT := g_mem4 (i := 58) (by decide +kernel) rfl
theorem tm_X16_97 : Cond.methodLink RX16 97 yX12_pitchAt ∈ gT := g_mem4 (i := 59) (by decide +kernel) rfl
theorem tm_X16_100 : Cond.methodLink RX16 100 yX12_contourAt ∈ gT := g_mem4 (i := 60) (by decide +kernel) rfl
theorem tm_X16_103 : Cond.methodLink RX16 103 yX12_silentBeats ∈ gT := g_mem4 (i := 61) (by decide +kernel) rfl
theorem ti_X12_silentBeats : Cond.instanceMethod yX12_silentBeats ∈ gT := g_mem4 (i := 62) (by decide +kernel) rfl
theorem ts_X12_silentBeats : Cond.selects RX12 yX12_silentBeats yX12_silentBeats ∈ gT := g_mem4 (i := 63) (by decide +kernel) rfl
theorem tc_X12_silentBeats : Cond.code yX12_silentBeats cX12_silentBeats 2 (Option.some Jvm.ClassFile.FieldType.int) ∈ gT := g_mem4 (i := 64) (by decide +kernel) rfl
theorem tm_X12_157 : Cond.methodLink RX12 157 yX3_countSilent ∈ gT := g_mem4 (i := 65) (by decide +kernel) rfl
theorem ti_X3_countSilent : Cond.instanceMethod yX3_countSilent ∈ gT := g_mem4 (i := 66) (by decide +kernel) rfl
theorem ts_X3_countSilent : Cond.selects RX3 yX3_countSilent yX3_countSilent ∈ gT := g_mem4 (i := 67) (by decide +kernel) rfl
theorem tc_X3_countSilent : Cond.code yX3_countSilent cX3_countSilent 3 (Option.some Jvm.ClassFile.FieldType.int) ∈ gT := g_mem4 (i := 68) (by decide +kernel) rfl
theorem tm_X16_106 : Cond.methodLink RX16 106 yX12_heardPitch ∈ gT := g_mem4 (i := 69) (by decide +kernel) rfl
theorem ti_X12_heardPitch : Cond.instanceMethod yX12_heardPitch ∈ gT := g_mem4 (i := 70) (by decide +kernel) rfl
theorem ts_X12_heardPitch : Cond.selects RX12 yX12_heardPitch yX12_heardPitch ∈ gT := g_mem4 (i := 71) (by decide +kernel) rfl
theorem tc_X12_heardPitch : Cond.code yX12_heardPitch cX12_heardPitch 2 (Option.some Jvm.ClassFile.FieldType.int) ∈ gT := g_mem4 (i := 72) (by decide +kernel) rfl
theorem tm_X16_109 : Cond.methodLink RX16 109 yX12_words ∈ gT := g_mem4 (i := 73) (by decide +kernel) rfl
theorem tm_X16_111 : Cond.methodLink RX16 111 yX12_keptWords ∈ gT := g_mem4 (i := 74) (by decide +kernel) rfl
theorem tm_X16_114 : Cond.methodLink RX16 114 yX16_kept ∈ gT := g_mem4 (i := 75) (by decide +kernel) rfl
theorem tm_X16_117 : Cond.methodLink RX16 117 yX12_rules ∈ gT := g_mem4 (i := 76) (by decide +kernel) rfl
theorem ti_X12_rules : Cond.instanceMethod yX12_rules ∈ gT := g_mem4 (i := 77) (by decide +kernel) rfl
theorem ts_X12_rules : Cond.selects RX12 yX12_rules yX12_rules ∈ gT := g_mem4 (i := 78) (by decide +kernel) rfl
theorem tc_X12_rules : Cond.code yX12_rules cX12_rules 1 (Option.some Jvm.ClassFile.FieldType.int) ∈ gT := g_mem4 (i := 79) (by decide +kernel) rfl
theorem tm_X16_119 : Cond.methodLink RX16 119 yX12_lessons ∈ gT := g_mem4 (i := 80) (by decide +kernel) rfl
theorem ti_X12_lessons : Cond.instanceMethod yX12_lessons ∈ gT := g_mem4 (i := 81) (by decide +kernel) rfl
theorem ts_X12_lessons : Cond.selects RX12 yX12_lessons yX12_lessons ∈ gT := g_mem4 (i := 82) (by decide +kernel) rfl
theorem tc_X12_lessons : Cond.code yX12_lessons cX12_lessons 1 (Option.some Jvm.ClassFile.FieldType.int) ∈ gT := g_mem4 (i := 83) (by decide +kernel) rfl
theorem tm_X16_121 : Cond.methodLink RX16 121 yX12_rulesCarriedOut ∈ gT := g_mem4 (i := 84) (by decide +kernel) rfl
theorem ti_X12_rulesCarriedOut : Cond.instanceMethod yX12_rulesCarriedOut ∈ gT := g_mem4 (i := 85) (by decide +kernel) rfl
theorem ts_X12_rulesCarriedOut : Cond.selects RX12 yX12_rulesCarriedOut yX12_rulesCarriedOut ∈ gT := g_mem4 (i := 86) (by decide +kernel) rfl
theorem tc_X12_rulesCarriedOut : Cond.code yX12_rulesCarriedOut cX12_rulesCarriedOut 1 (Option.some Jvm.ClassFile.FieldType.int) ∈ gT := g_mem4 (i := 87) (by decide +kernel) rfl
theorem tm_X16_124 : Cond.methodLink RX16 124 yX12_heardBeats ∈ gT := g_mem4 (i := 88) (by decide +kernel) rfl
theorem tm_X16_127 : Cond.methodLink RX16 127 yX12_meanLength ∈ gT := g_mem4 (i := 89) (by decide +kernel) rfl
theorem ti_X12_meanLength : Cond.instanceMethod yX12_meanLength ∈ gT := g_mem4 (i := 90) (by decide +kernel) rfl
theorem ts_X12_meanLength : Cond.selects RX12 yX12_meanLength yX12_meanLength ∈ gT := g_mem4 (i := 91) (by decide +kernel) rfl
theorem tc_X12_meanLength : Cond.code yX12_meanLength cX12_meanLength 3 (Option.some Jvm.ClassFile.FieldType.double) ∈ gT := g_mem4 (i := 92) (by decide +kernel) rfl
theorem tm_L_149 : Cond.methodLink RL 149 yL_cell ∈ gT := g_mem4 (i := 93) (by decide +kernel) rfl
theorem tz_L_cell : Cond.static yL_cell ∈ gT := g_mem4 (i := 94) (by decide +kernel) rfl
theorem tc_L_cell : Cond.code yL_cell cL_cell 2 (Option.some Jvm.ClassFile.FieldType.int) ∈ gT := g_mem4 (i := 95) (by decide +kernel) rfl
theorem tq_L_8 : Cond.constant RL 8 (790386105 : Int32) ∈ gT := g_mem4 (i := 96) (by decide +kernel) rfl
theorem tm_L_166 : Cond.methodLink RL 166 yL_taught ∈ gT := g_mem4 (i := 97) (by decide +kernel) rfl
theorem tz_L_taught : Cond.static yL_taught ∈ gT := g_mem4 (i := 98) (by decide +kernel) rfl
theorem tc_L_taught : Cond.code yL_taught cL_taught 6 (Option.some Jvm.ClassFile.FieldType.int) ∈ gT := g_mem4 (i := 99) (by decide +kernel) rfl
theorem tm_L_9 : Cond.methodLink RL 9 yJ0_length_8abf5 ∈ gT := g_mem4 (i := 100) (by decide +kernel) rfl
theorem ti_J0_length_8abf5 : Cond.instanceMethod yJ0_length_8abf5 ∈ gT := g_mem4 (i := 101) (by decide +kernel) rfl
theorem ts_J0_length_8abf5 : Cond.selects RJ0 yJ0_length_8abf5 yJ0_length_8abf5 ∈ gT := g_mem4 (i := 102) (by decide +kernel) rfl
theorem tc_J0_length_8abf5 : Cond.code yJ0_length_8abf5 cJ0_length_8abf5 1 (Option.some Jvm.ClassFile.FieldType.int) ∈ gT := g_mem4 (i := 103) (by decide +kernel) rfl
theorem tm_J0_335 : Cond.methodLink RJ0 335 yJ0_coder_7d493 ∈ gT := g_mem4 (i := 104) (by decide +kernel) rfl
theorem ti_J0_coder_7d493 : Cond.instanceMethod yJ0_coder_7d493 ∈ gT := g_mem4 (i := 105) (by decide +kernel) rfl
theorem ts_J0_coder_7d493 : Cond.selects RJ0 yJ0_coder_7d493 yJ0_coder_7d493 ∈ gT := g_mem4 (i := 106) (by decide +kernel) rfl
theorem tc_J0_coder_7d493 : Cond.code yJ0_coder_7d493 cJ0_coder_7d493 1 (Option.some Jvm.ClassFile.FieldType.byte) ∈ gT := g_mem4 (i := 107) (by decide +kernel) rfl
theorem tf_J0_38 : Cond.fieldLink RJ0 38 "java/lang/String" "COMPACT_STRINGS" "Z" ∈ gT := g_mem4 (i := 108) (by decide +kernel) rfl
theorem tm_L_15 : Cond.methodLink RL 15 yJ0_charAt_5068e ∈ gT := g_mem4 (i := 110) (by decide +kernel) rfl
theorem ti_J0_charAt_5068e : Cond.instanceMethod yJ0_charAt_5068e ∈ gT := g_mem4 (i := 111) (by decide +kernel) rfl
theorem ts_J0_charAt_5068e : Cond.selects RJ0 yJ0_charAt_5068e yJ0_charAt_5068e ∈ gT := g_mem4 (i := 112) (by decide +kernel) rfl
theorem tc_J0_charAt_5068e : Cond.code yJ0_charAt_5068e cJ0_charAt_5068e 2 (Option.some Jvm.ClassFile.FieldType.char) ∈ gT := g_mem4 (i := 113) (by decide +kernel) rfl
theorem tm_J0_492 : Cond.methodLink RJ0 492 yJ0_isLatin1_aae02 ∈ gT := g_mem4 (i := 114) (by decide +kernel) rfl
theorem ti_J0_isLatin1_aae02 : Cond.instanceMethod yJ0_isLatin1_aae02 ∈ gT := g_mem4 (i := 115) (by decide +kernel) rfl
theorem ts_J0_isLatin1_aae02 : Cond.selects RJ0 yJ0_isLatin1_aae02 yJ0_isLatin1_aae02 ∈ gT := g_mem4 (i := 116) (by decide +kernel) rfl
theorem tc_J0_isLatin1_aae02 : Cond.code yJ0_isLatin1_aae02 cJ0_isLatin1_aae02 1 (Option.some Jvm.ClassFile.FieldType.boolean) ∈ gT := g_mem4 (i := 117) (by decide +kernel) rfl
theorem tm_J0_495 : Cond.methodLink RJ0 495 yJ1_charAt_3b067 ∈ gT := g_mem4 (i := 118) (by decide +kernel) rfl
theorem tz_J1_charAt_3b067 : Cond.static yJ1_charAt_3b067 ∈ gT := g_mem4 (i := 119) (by decide +kernel) rfl
theorem tc_J1_charAt_3b067 : Cond.code yJ1_charAt_3b067 cJ1_charAt_3b067 2 (Option.some Jvm.ClassFile.FieldType.char) ∈ gT := g_mem4 (i := 120) (by decide +kernel) rfl
theorem tm_J1_9 : Cond.methodLink RJ1 9 yJ0_checkIndex_df160 ∈ gT := g_mem4 (i := 121) (by decide +kernel) rfl
theorem tz_J0_checkIndex_df160 : Cond.static yJ0_checkIndex_df160 ∈ gT := g_mem4 (i := 122) (by decide +kernel) rfl
theorem tc_J0_checkIndex_df160 : Cond.code yJ0_checkIndex_df160 cJ0_checkIndex_df160 2 (Option.none : Option Jvm.ClassFile.FieldType) ∈ gT := g_mem4 (i := 123) (by decide +kernel) rfl
theorem tf_J0_1053 : Cond.fieldLink RJ0 1053 "jdk/internal/util/Preconditions" "SIOOBE_FORMATTER" "Ljava/util/function/BiFunction;" ∈ gT := g_mem4 (i := 124) (by decide +kernel) rfl
theorem tm_J0_1059 : Cond.methodLink RJ0 1059 yJ3_checkIndex_8e157 ∈ gT := g_mem4 (i := 126) (by decide +kernel) rfl
theorem tz_J3_checkIndex_8e157 : Cond.static yJ3_checkIndex_8e157 ∈ gT := g_mem4 (i := 127) (by decide +kernel) rfl
theorem tc_J3_checkIndex_8e157 : Cond.code yJ3_checkIndex_8e157 cJ3_checkIndex_8e157 3 (Option.some Jvm.ClassFile.FieldType.int) ∈ gT := g_mem4 (i := 128) (by decide +kernel) rfl
theorem tm_J0_498 : Cond.methodLink RJ0 498 yJ2_charAt_3b067 ∈ gT := g_mem4 (i := 129) (by decide +kernel) rfl
theorem tz_J2_charAt_3b067 : Cond.static yJ2_charAt_3b067 ∈ gT := g_mem4 (i := 130) (by decide +kernel) rfl
theorem tc_J2_charAt_3b067 : Cond.code yJ2_charAt_3b067 cJ2_charAt_3b067 2 (Option.some Jvm.ClassFile.FieldType.char) ∈ gT := g_mem4 (i := 131) (by decide +kernel) rfl
theorem tm_J2_67 : Cond.methodLink RJ2 67 yJ2_checkIndex_2214a ∈ gT := g_mem4 (i := 132) (by decide +kernel) rfl
theorem tz_J2_checkIndex_2214a : Cond.static yJ2_checkIndex_2214a ∈ gT := g_mem4 (i := 133) (by decide +kernel) rfl
theorem tc_J2_checkIndex_2214a : Cond.code yJ2_checkIndex_2214a cJ2_checkIndex_2214a 2 (Option.none : Option Jvm.ClassFile.FieldType) ∈ gT := g_mem4 (i := 134) (by decide +kernel) rfl
theorem tm_J2_48 : Cond.methodLink RJ2 48 yJ2_length_9d52b ∈ gT := g_mem4 (i := 135) (by decide +kernel) rfl
theorem tz_J2_length_9d52b : Cond.static yJ2_length_9d52b ∈ gT := g_mem4 (i := 136) (by decide +kernel) rfl
theorem tc_J2_length_9d52b : Cond.code yJ2_length_9d52b cJ2_length_9d52b 1 (Option.some Jvm.ClassFile.FieldType.int) ∈ gT := g_mem4 (i := 137) (by decide +kernel) rfl
theorem tm_J2_414 : Cond.methodLink RJ2 414 yJ0_checkIndex_df160 ∈ gT := g_mem4 (i := 138) (by decide +kernel) rfl
theorem tm_J2_71 : Cond.methodLink RJ2 71 yJ2_getChar_3b067 ∈ gT := g_mem4 (i := 139) (by decide +kernel) rfl
theorem tz_J2_getChar_3b067 : Cond.static yJ2_getChar_3b067 ∈ gT := g_mem4 (i := 140) (by decide +kernel) rfl
theorem tc_J2_getChar_3b067 : Cond.code yJ2_getChar_3b067 cJ2_getChar_3b067 2 (Option.some Jvm.ClassFile.FieldType.char) ∈ gT := g_mem4 (i := 141) (by decide +kernel) rfl
theorem tf_J2_44 : Cond.fieldLink RJ2 44 "java/lang/StringUTF16" "$assertionsDisabled" "Z" ∈ gT := g_mem4 (i := 142) (by decide +kernel) rfl
theorem tf_J2_59 : Cond.fieldLink RJ2 59 "java/lang/StringUTF16" "HI_BYTE_SHIFT" "I" ∈ gT := g_mem4 (i := 144) (by decide +kernel) rfl
theorem tf_J2_63 : Cond.fieldLink RJ2 63 "java/lang/StringUTF16" "LO_BYTE_SHIFT" "I" ∈ gT := g_mem4 (i := 146) (by decide +kernel) rfl
theorem tm_L_19 : Cond.methodLink RL 19 yX12_feed ∈ gT := g_mem4 (i := 148) (by decide +kernel) rfl
theorem ti_X12_feed : Cond.instanceMethod yX12_feed ∈ gT := g_mem4 (i := 149) (by decide +kernel) rfl
theorem ts_X12_feed : Cond.selects RX12 yX12_feed yX12_feed ∈ gT := g_mem4 (i := 150) (by decide +kernel) rfl
theorem tc_X12_feed : Cond.code yX12_feed cX12_feed 6 (Option.some Jvm.ClassFile.FieldType.int) ∈ gT := g_mem4 (i := 151) (by decide +kernel) rfl
theorem tm_X12_85 : Cond.methodLink RX12 85 yX7_append ∈ gT := g_mem4 (i := 153) (by decide +kernel) rfl
theorem ti_X7_append : Cond.instanceMethod yX7_append ∈ gT := g_mem4 (i := 154) (by decide +kernel) rfl
theorem ts_X7_append : Cond.selects RX7 yX7_append yX7_append ∈ gT := g_mem4 (i := 155) (by decide +kernel) rfl
theorem tc_X7_append : Cond.code yX7_append cX7_append 3 (Option.none : Option Jvm.ClassFile.FieldType) ∈ gT := g_mem4 (i := 156) (by decide +kernel) rfl
theorem tm_L_25 : Cond.methodLink RL 25 yX12_trim ∈ gT := g_mem4 (i := 157) (by decide +kernel) rfl
theorem ti_X12_trim : Cond.instanceMethod yX12_trim ∈ gT := g_mem4 (i := 158) (by decide +kernel) rfl
theorem ts_X12_trim : Cond.selects RX12 yX12_trim yX12_trim ∈ gT := g_mem4 (i := 159) (by decide +kernel) rfl
theorem tc_X12_trim : Cond.code yX12_trim cX12_trim 2 (Option.some Jvm.ClassFile.FieldType.int) ∈ gT := g_mem4 (i := 160) (by decide +kernel) rfl
theorem tm_L_29 : Cond.methodLink RL 29 yX12_teach ∈ gT := g_mem4 (i := 162) (by decide +kernel) rfl
theorem ti_X12_teach : Cond.instanceMethod yX12_teach ∈ gT := g_mem4 (i := 163) (by decide +kernel) rfl
theorem ts_X12_teach : Cond.selects RX12 yX12_teach yX12_teach ∈ gT := g_mem4 (i := 164) (by decide +kernel) rfl
theorem tc_X12_teach : Cond.code yX12_teach cX12_teach 2 (Option.some Jvm.ClassFile.FieldType.int) ∈ gT := g_mem4 (i := 165) (by decide +kernel) rfl
theorem tm_X12_94 : Cond.methodLink RX12 94 yX8_readTape ∈ gT := g_mem4 (i := 166) (by decide +kernel) rfl
theorem ti_X8_readTape : Cond.instanceMethod yX8_readTape ∈ gT := g_mem4 (i := 167) (by decide +kernel) rfl
theorem ts_X8_readTape : Cond.selects RX8 yX8_readTape yX8_readTape ∈ gT := g_mem4 (i := 168) (by decide +kernel) rfl
theorem tc_X8_readTape : Cond.code yX8_readTape cX8_readTape 3 (Option.none : Option Jvm.ClassFile.FieldType) ∈ gT := g_mem4 (i := 169) (by decide +kernel) rfl
theorem tm_X8_42 : Cond.methodLink RX8 42 yX7_behindBlanks ∈ gT := g_mem4 (i := 170) (by decide +kernel) rfl
theorem ti_X7_behindBlanks : Cond.instanceMethod yX7_behindBlanks ∈ gT := g_mem4 (i := 171) (by decide +kernel) rfl
theorem ts_X7_behindBlanks : Cond.selects RX7 yX7_behindBlanks yX7_behindBlanks ∈ gT := g_mem4 (i := 172) (by decide +kernel) rfl
theorem tc_X7_behindBlanks : Cond.code yX7_behindBlanks cX7_behindBlanks 3 (Option.some Jvm.ClassFile.FieldType.int) ∈ gT := g_mem4 (i := 173) (by decide +kernel) rfl
theorem tm_X7_19 : Cond.methodLink RX7 19 yX7_byteAt ∈ gT := g_mem4 (i := 174) (by decide +kernel) rfl
theorem ti_X7_byteAt : Cond.instanceMethod yX7_byteAt ∈ gT := g_mem4 (i := 175) (by decide +kernel) rfl
theorem ts_X7_byteAt : Cond.selects RX7 yX7_byteAt yX7_byteAt ∈ gT := g_mem4 (i := 176) (by decide +kernel) rfl
theorem tc_X7_byteAt : Cond.code yX7_byteAt cX7_byteAt 2 (Option.some Jvm.ClassFile.FieldType.int) ∈ gT := g_mem4 (i := 177) (by decide +kernel) rfl
theorem tm_X8_48 : Cond.methodLink RX8 48 yX8_readToken ∈ gT := g_mem4 (i := 178) (by decide +kernel) rfl
theorem ti_X8_readToken : Cond.instanceMethod yX8_readToken ∈ gT := g_mem4 (i := 180) (by decide +kernel) rfl
theorem tc_X8_readToken : Cond.code yX8_readToken cX8_readToken 2 (Option.none : Option Jvm.ClassFile.FieldType) ∈ gT := g_mem4 (i := 181) (by decide +kernel) rfl
theorem tm_X8_62 : Cond.methodLink RX8 62 yX8_add ∈ gT := g_mem4 (i := 182) (by decide +kernel) rfl
theorem ti_X8_add : Cond.instanceMethod yX8_add ∈ gT := g_mem4 (i := 184) (by decide +kernel) rfl
theorem tc_X8_add : Cond.code yX8_add cX8_add 5 (Option.none : Option Jvm.ClassFile.FieldType) ∈ gT := g_mem4 (i := 185) (by decide +kernel) rfl
theorem tf_X8_39 : Cond.fieldLink RX8 39 "GlideWhistles$Sign" "WRONG" "LGlideWhistles$Sign;" ∈ gT := g_mem4 (i := 186) (by decide +kernel) rfl
theorem tm_X8_66 : Cond.methodLink RX8 66 yX7_isLetter ∈ gT := g_mem4 (i := 188) (by decide +kernel) rfl
theorem ti_X7_isLetter : Cond.instanceMethod yX7_isLetter ∈ gT := g_mem4 (i := 189) (by decide +kernel) rfl
theorem ts_X7_isLetter : Cond.selects RX7 yX7_isLetter yX7_isLetter ∈ gT := g_mem4 (i := 190) (by decide +kernel) rfl
theorem tc_X7_isLetter : Cond.code yX7_isLetter cX7_isLetter 3 (Option.some Jvm.ClassFile.FieldType.boolean) ∈ gT := g_mem4 (i := 191) (by decide +kernel) rfl
theorem tm_X8_70 : Cond.methodLink RX8 70 yX8_readWord ∈ gT := g_mem4 (i := 192) (by decide +kernel) rfl
theorem ti_X8_readWord : Cond.instanceMethod yX8_readWord ∈ gT := g_mem4 (i := 194) (by decide +kernel) rfl
theorem tc_X8_readWord : Cond.code yX8_readWord cX8_readWord 5 (Option.none : Option Jvm.ClassFile.FieldType) ∈ gT := g_mem4 (i := 195) (by decide +kernel) rfl
theorem tm_X8_73 : Cond.methodLink RX8 73 yX7_isDigit ∈ gT := g_mem4 (i := 196) (by decide +kernel) rfl
theorem ti_X7_isDigit : Cond.instanceMethod yX7_isDigit ∈ gT := g_mem4 (i := 197) (by decide +kernel) rfl
theorem ts_X7_isDigit : Cond.selects RX7 yX7_isDigit yX7_isDigit ∈ gT := g_mem4 (i := 198) (by decide +kernel) rfl
theorem tc_X7_isDigit : Cond.code yX7_isDigit cX7_isDigit 3 (Option.some Jvm.ClassFile.FieldType.boolean) ∈ gT := g_mem4 (i := 199) (by decide +kernel) rfl
theorem tm_X8_82 : Cond.methodLink RX8 82 yX8_longestSpelled ∈ gT := g_mem4 (i := 200) (by decide +kernel) rfl
theorem ti_X8_longestSpelled : Cond.instanceMethod yX8_longestSpelled ∈ gT := g_mem4 (i := 202) (by decide +kernel) rfl
theorem tc_X8_longestSpelled : Cond.code yX8_longestSpelled cX8_longestSpelled 5 (Option.some (Jvm.ClassFile.FieldType.object "GlideWhistles$Sign")) ∈ gT := g_mem4 (i := 203) (by decide +kernel) rfl
theorem tfN_X8_107 : Cond.fieldLinkNest RX8 107 "GlideWhistles" "SIGNS" "[LGlideWhistles$Sign;" "GlideWhistles" ∈ gN := g_nem4 (i := 204) (by decide +kernel) rfl
theorem tm_X8_89 : Cond.methodLink RX8 89 yJ0_length_8abf5 ∈ gT := g_mem4 (i := 206) (by decide +kernel) rfl
theorem tm_X8_110 : Cond.methodLink RX8 110 yX7_spells ∈ gT := g_mem4 (i := 207) (by decide +kernel) rfl
theorem ti_X7_spells : Cond.instanceMethod yX7_spells ∈ gT := g_mem4 (i := 208) (by decide +kernel) rfl
theorem ts_X7_spells : Cond.selects RX7 yX7_spells yX7_spells ∈ gT := g_mem4 (i := 209) (by decide +kernel) rfl
theorem tc_X7_spells : Cond.code yX7_spells cX7_spells 4 (Option.some Jvm.ClassFile.FieldType.boolean) ∈ gT := g_mem4 (i := 210) (by decide +kernel) rfl
theorem tm_X7_23 : Cond.methodLink RX7 23 yJ0_length_8abf5 ∈ gT := g_mem4 (i := 211) (by decide +kernel) rfl
theorem tm_X7_28 : Cond.methodLink RX7 28 yJ0_charAt_5068e ∈ gT := g_mem4 (i := 212) (by decide +kernel) rfl
theorem tf_X8_94 : Cond.fieldLink RX8 94 "GlideWhistles$Sign" "NAME" "LGlideWhistles$Sign;" ∈ gT := g_mem4 (i := 213) (by decide +kernel) rfl
theorem tm_X8_97 : Cond.methodLink RX8 97 yX8_firstAlike ∈ gT := g_mem4 (i := 215) (by decide +kernel) rfl
theorem ti_X8_firstAlike : Cond.instanceMethod yX8_firstAlike ∈ gT := g_mem4 (i := 217) (by decide +kernel) rfl
theorem tc_X8_firstAlike : Cond.code yX8_firstAlike cX8_firstAlike 4 (Option.some Jvm.ClassFile.FieldType.int) ∈ gT := g_mem4 (i := 218) (by decide +kernel) rfl
theorem tm_X8_52 : Cond.methodLink RX8 52 yX8_sign ∈ gT := g_mem4 (i := 219) (by decide +kernel) rfl
theorem ti_X8_sign : Cond.instanceMethod yX8_sign ∈ gT := g_mem4 (i := 220) (by decide +kernel) rfl
theorem ts_X8_sign : Cond.selects RX8 yX8_sign yX8_sign ∈ gT := g_mem4 (i := 221) (by decide +kernel) rfl
theorem tc_X8_sign : Cond.code yX8_sign cX8_sign 2 (Option.some (Jvm.ClassFile.FieldType.object "GlideWhistles$Sign")) ∈ gT := g_mem4 (i := 222) (by decide +kernel) rfl
theorem tm_X8_56 : Cond.methodLink RX8 56 yX8_size ∈ gT := g_mem4 (i := 223) (by decide +kernel) rfl
theorem ti_X8_size : Cond.instanceMethod yX8_size ∈ gT := g_mem4 (i := 224) (by decide +kernel) rfl
theorem ts_X8_size : Cond.selects RX8 yX8_size yX8_size ∈ gT := g_mem4 (i := 225) (by decide +kernel) rfl
theorem tc_X8_size : Cond.code yX8_size cX8_size 2 (Option.some Jvm.ClassFile.FieldType.int) ∈ gT := g_mem4 (i := 226) (by decide +kernel) rfl
theorem tm_X8_114 : Cond.methodLink RX8 114 yX8_place ∈ gT := g_mem4 (i := 227) (by decide +kernel) rfl
theorem ti_X8_place : Cond.instanceMethod yX8_place ∈ gT := g_mem4 (i := 228) (by decide +kernel) rfl
theorem ts_X8_place : Cond.selects RX8 yX8_place yX8_place ∈ gT := g_mem4 (i := 229) (by decide +kernel) rfl
theorem tc_X8_place : Cond.code yX8_place cX8_place 2 (Option.some Jvm.ClassFile.FieldType.int) ∈ gT := g_mem4 (i := 230) (by decide +kernel) rfl
theorem tm_X8_117 : Cond.methodLink RX8 117 yX7_alike ∈ gT := g_mem4 (i := 231) (by decide +kernel) rfl
theorem ti_X7_alike : Cond.instanceMethod yX7_alike ∈ gT := g_mem4 (i := 232) (by decide +kernel) rfl
theorem ts_X7_alike : Cond.selects RX7 yX7_alike yX7_alike ∈ gT := g_mem4 (i := 233) (by decide +kernel) rfl
theorem tc_X7_alike : Cond.code yX7_alike cX7_alike 5 (Option.some Jvm.ClassFile.FieldType.boolean) ∈ gT := g_mem4 (i := 234) (by decide +kernel) rfl
theorem tm_X8_76 : Cond.methodLink RX8 76 yX8_readNumber ∈ gT := g_mem4 (i := 235) (by decide +kernel) rfl
theorem ti_X8_readNumber : Cond.instanceMethod yX8_readNumber ∈ gT := g_mem4 (i := 237) (by decide +kernel) rfl
theorem tc_X8_readNumber : Cond.code yX8_readNumber cX8_readNumber 5 (Option.none : Option Jvm.ClassFile.FieldType) ∈ gT := g_mem4 (i := 238) (by decide +kernel) rfl
theorem tm_X8_101 : Cond.methodLink RX8 101 yX7_byteAt ∈ gT := g_mem4 (i := 239) (by decide +kernel) rfl
theorem tf_X8_104 : Cond.fieldLink RX8 104 "GlideWhistles$Sign" "NUMBER" "LGlideWhistles$Sign;" ∈ gT := g_mem5 (i := 0) (by decide +kernel) rfl
theorem tm_X8_79 : Cond.methodLink RX8 79 yX8_readSymbol ∈ gT := g_mem5 (i := 2) (by decide +kernel) rfl
theorem ti_X8_readSymbol : Cond.instanceMethod yX8_readSymbol ∈ gT := g_mem5 (i := 4) (by decide +kernel) rfl
theorem tc_X8_readSymbol : Cond.code yX8_readSymbol cX8_readSymbol 3 (Option.none : Option Jvm.ClassFile.FieldType) ∈ gT := g_mem5 (i := 5) (by decide +kernel) rfl
theorem tl_X12_97 : Cond.classLink RX12 97 RX2 ∈ gT := g_mem5 (i := 6) (by decide +kernel) rfl
theorem ta_X2 : Cond.instantiable RX2 10 ∈ gT := g_mem5 (i := 7) (by decide +kernel) rfl
theorem tm_X12_99 : Cond.methodLink RX12 99 yX2_init ∈ gT := g_mem5 (i := 8) (by decide +kernel) rfl
theorem ti_X2_init : Cond.instanceMethod yX2_init ∈ gT := g_mem5 (i := 9) (by decide +kernel) rfl
theorem tc_X2_init : Cond.code yX2_init cX2_init 4 (Option.none : Option Jvm.ClassFile.FieldType) ∈ gT := g_mem5 (i := 10) (by decide +kernel) rfl
theorem tm_X2_3 : Cond.methodLink RX2 3 ⟨"java/lang/Object", "<init>", "()V"⟩ ∈ gT := g_mem5 (i := 11) (by decide +kernel) rfl
theorem tf_X2_19 : Cond.fieldLink RX2 19 "GlideWhistles$Sign" "WRONG" "LGlideWhistles$Sign;" ∈ gT := g_mem5 (i := 12) (by decide +kernel) rfl
theorem tf_X2_40 : Cond.fieldLink RX2 40 "GlideWhistles$Parser" "tokens" "LGlideWhistles$Tokens;" ∈ gT := g_mem5 (i := 13) (by decide +kernel) rfl
theorem tf_X2_44 : Cond.fieldLink RX2 44 "GlideWhistles$Parser" "book" "LGlideWhistles$RuleBook;" ∈ gT := g_mem5 (i := 14) (by decide +kernel) rfl
theorem tf_X2_48 : Cond.fieldLink RX2 48 "GlideWhistles$Parser" "vocabulary" "LGlideWhistles$Vocabulary;" ∈ gT := g_mem5 (i := 15) (by decide +kernel) rfl
theorem tf_X2_9 : Cond.fieldLink RX2 9 "GlideWhistles$Parser" "names" "[I" ∈ gT := g_mem5 (i := 16) (by decide +kernel) rfl
theorem tf_X2_15 : Cond.fieldLink RX2 15 "GlideWhistles$Parser" "at" "I" ∈ gT := g_mem5 (i := 17) (by decide +kernel) rfl
theorem tf_X2_25 : Cond.fieldLink RX2 25 "GlideWhistles$Parser" "sign" "LGlideWhistles$Sign;" ∈ gT := g_mem5 (i := 18) (by decide +kernel) rfl
theorem tf_X2_28 : Cond.fieldLink RX2 28 "GlideWhistles$Parser" "place" "I" ∈ gT := g_mem5 (i := 19) (by decide +kernel) rfl
theorem tf_X2_31 : Cond.fieldLink RX2 31 "GlideWhistles$Parser" "value" "I" ∈ gT := g_mem5 (i := 20) (by decide +kernel) rfl
theorem tf_X2_34 : Cond.fieldLink RX2 34 "GlideWhistles$Parser" "error" "I" ∈ gT := g_mem5 (i := 21) (by decide +kernel) rfl
theorem tfN_X12_108 : Cond.fieldLinkNest RX12 108 "GlideWhistles$Parser" "error" "I" "GlideWhistles" ∈ gN := g_nem5 (i := 22) (by decide +kernel) rfl
theorem tf_X2_37 : Cond.fieldLink RX2 37 "GlideWhistles$Parser" "errorPlace" "I" ∈ gT := g_mem5 (i := 23) (by decide +kernel) rfl
theorem tfN_X12_105 : Cond.fieldLinkNest RX12 105 "GlideWhistles$Parser" "errorPlace" "I" "GlideWhistles" ∈ gN := g_nem5 (i := 24) (by decide +kernel) rfl
theorem tm_X12_102 : Cond.methodLink RX12 102 yX2_readLanguage ∈ gT := g_mem5 (i := 46) (by decide +kernel) rfl
theorem ti_X2_readLanguage : Cond.instanceMethod yX2_readLanguage ∈ gT := g_mem5 (i := 47) (by decide +kernel) rfl
theorem ts_X2_readLanguage : Cond.selects RX2 yX2_readLanguage yX2_readLanguage ∈ gT := g_mem5 (i := 48) (by decide +kernel) rfl
theorem tc_X2_readLanguage : Cond.code yX2_readLanguage cX2_readLanguage 2 (Option.none : Option Jvm.ClassFile.FieldType) ∈ gT := g_mem5 (i := 49) (by decide +kernel) rfl
theorem tm_X2_52 : Cond.methodLink RX2 52 yX5_clear ∈ gT := g_mem5 (i := 50) (by decide +kernel) rfl
theorem ti_X5_clear : Cond.instanceMethod yX5_clear ∈ gT := g_mem5 (i := 51) (by decide +kernel) rfl
theorem ts_X5_clear : Cond.selects RX5 yX5_clear yX5_clear ∈ gT := g_mem5 (i := 52) (by decide +kernel) rfl
theorem tc_X5_clear : Cond.code yX5_clear cX5_clear 1 (Option.none : Option Jvm.ClassFile.FieldType) ∈ gT := g_mem5 (i := 53) (by decide +kernel) rfl
theorem tm_X2_57 : Cond.methodLink RX2 57 yX9_clear ∈ gT := g_mem5 (i := 54) (by decide +kernel) rfl
theorem ti_X9_clear : Cond.instanceMethod yX9_clear ∈ gT := g_mem5 (i := 55) (by decide +kernel) rfl
theorem ts_X9_clear : Cond.selects RX9 yX9_clear yX9_clear ∈ gT := g_mem5 (i := 56) (by decide +kernel) rfl
theorem tc_X9_clear : Cond.code yX9_clear cX9_clear 1 (Option.none : Option Jvm.ClassFile.FieldType) ∈ gT := g_mem5 (i := 57) (by decide +kernel) rfl
theorem tm_X2_60 : Cond.methodLink RX2 60 yX2_step ∈ gT := g_mem5 (i := 58) (by decide +kernel) rfl
theorem ti_X2_step : Cond.instanceMethod yX2_step ∈ gT := g_mem5 (i := 60) (by decide +kernel) rfl
theorem tc_X2_step : Cond.code yX2_step cX2_step 1 (Option.none : Option Jvm.ClassFile.FieldType) ∈ gT := g_mem5 (i := 61) (by decide +kernel) rfl
theorem tm_X2_98 : Cond.methodLink RX2 98 yX8_sign ∈ gT := g_mem5 (i := 62) (by decide +kernel) rfl
theorem tm_X2_103 : Cond.methodLink RX2 103 yX8_place ∈ gT := g_mem5 (i := 63) (by decide +kernel) rfl
theorem tm_X2_106 : Cond.methodLink RX2 106 yX8_value ∈ gT := g_mem5 (i := 64) (by decide +kernel) rfl
theorem ti_X8_value : Cond.instanceMethod yX8_value ∈ gT := g_mem5 (i := 65) (by decide +kernel) rfl
theorem ts_X8_value : Cond.selects RX8 yX8_value yX8_value ∈ gT := g_mem5 (i := 66) (by decide +kernel) rfl
theorem tc_X8_value : Cond.code yX8_value cX8_value 2 (Option.some Jvm.ClassFile.FieldType.int) ∈ gT := g_mem5 (i := 67) (by decide +kernel) rfl
theorem tf_X2_63 : Cond.fieldLink RX2 63 "GlideWhistles$Sign" "END" "LGlideWhistles$Sign;" ∈ gT := g_mem5 (i := 68) (by decide +kernel) rfl
theorem tf_X2_66 : Cond.fieldLink RX2 66 "GlideWhistles$Sign" "WORD" "LGlideWhistles$Sign;" ∈ gT := g_mem5 (i := 69) (by decide +kernel) rfl
theorem tm_X2_69 : Cond.methodLink RX2 69 yX2_readWord ∈ gT := g_mem5 (i := 71) (by decide +kernel) rfl
theorem ti_X2_readWord : Cond.instanceMethod yX2_readWord ∈ gT := g_mem5 (i := 73) (by decide +kernel) rfl
theorem tc_X2_readWord : Cond.code yX2_readWord cX2_readWord 2 (Option.none : Option Jvm.ClassFile.FieldType) ∈ gT := g_mem5 (i := 74) (by decide +kernel) rfl
theorem tm_X2_111 : Cond.methodLink RX2 111 yX2_readNewName ∈ gT := g_mem5 (i := 75) (by decide +kernel) rfl
theorem ti_X2_readNewName : Cond.instanceMethod yX2_readNewName ∈ gT := g_mem5 (i := 77) (by decide +kernel) rfl
theorem tc_X2_readNewName : Cond.code yX2_readNewName cX2_readNewName 1 (Option.none : Option Jvm.ClassFile.FieldType) ∈ gT := g_mem5 (i := 78) (by decide +kernel) rfl
theorem tf_X2_123 : Cond.fieldLink RX2 123 "GlideWhistles$Sign" "NAME" "LGlideWhistles$Sign;" ∈ gT := g_mem5 (i := 79) (by decide +kernel) rfl
theorem tm_X2_108 : Cond.methodLink RX2 108 yX2_refuse ∈ gT := g_mem5 (i := 80) (by decide +kernel) rfl
theorem ti_X2_refuse : Cond.instanceMethod yX2_refuse ∈ gT := g_mem5 (i := 82) (by decide +kernel) rfl
theorem tc_X2_refuse : Cond.code yX2_refuse cX2_refuse 1 (Option.none : Option Jvm.ClassFile.FieldType) ∈ gT := g_mem5 (i := 83) (by decide +kernel) rfl
theorem tm_X2_126 : Cond.methodLink RX2 126 yX2_wordCalled ∈ gT := g_mem5 (i := 84) (by decide +kernel) rfl
theorem ti_X2_wordCalled : Cond.instanceMethod yX2_wordCalled ∈ gT := g_mem5 (i := 86) (by decide +kernel) rfl
theorem tc_X2_wordCalled : Cond.code yX2_wordCalled cX2_wordCalled 3 (Option.some Jvm.ClassFile.FieldType.int) ∈ gT := g_mem5 (i := 87) (by decide +kernel) rfl
theorem tm_X2_129 : Cond.methodLink RX2 129 yX2_blame ∈ gT := g_mem5 (i := 88) (by decide +kernel) rfl
theorem ti_X2_blame : Cond.instanceMethod yX2_blame ∈ gT := g_mem5 (i := 90) (by decide +kernel) rfl
theorem tc_X2_blame : Cond.code yX2_blame cX2_blame 2 (Option.none : Option Jvm.ClassFile.FieldType) ∈ gT := g_mem5 (i := 91) (by decide +kernel) rfl
theorem tm_X2_136 : Cond.methodLink RX2 136 yX9_addWord ∈ gT := g_mem5 (i := 92) (by decide +kernel) rfl
theorem ti_X9_addWord : Cond.instanceMethod yX9_addWord ∈ gT := g_mem5 (i := 93) (by decide +kernel) rfl
theorem ts_X9_addWord : Cond.selects RX9 yX9_addWord yX9_addWord ∈ gT := g_mem5 (i := 94) (by decide +kernel) rfl
theorem tc_X9_addWord : Cond.code yX9_addWord cX9_addWord 2 (Option.none : Option Jvm.ClassFile.FieldType) ∈ gT := g_mem5 (i := 95) (by decide +kernel) rfl
theorem tf_X2_114 : Cond.fieldLink RX2 114 "GlideWhistles$Sign" "IS" "LGlideWhistles$Sign;" ∈ gT := g_mem5 (i := 96) (by decide +kernel) rfl
theorem tm_X2_94 : Cond.methodLink RX2 94 yX2_expect ∈ gT := g_mem5 (i := 98) (by decide +kernel) rfl
theorem ti_X2_expect : Cond.instanceMethod yX2_expect ∈ gT := g_mem5 (i := 100) (by decide +kernel) rfl
theorem tc_X2_expect : Cond.code yX2_expect cX2_expect 2 (Option.none : Option Jvm.ClassFile.FieldType) ∈ gT := g_mem5 (i := 101) (by decide +kernel) rfl
theorem tm_X2_117 : Cond.methodLink RX2 117 yX2_readPart ∈ gT := g_mem5 (i := 102) (by decide +kernel) rfl
theorem ti_X2_readPart : Cond.instanceMethod yX2_readPart ∈ gT := g_mem5 (i := 104) (by decide +kernel) rfl
theorem tc_X2_readPart : Cond.code yX2_readPart cX2_readPart 4 (Option.none : Option Jvm.ClassFile.FieldType) ∈ gT := g_mem5 (i := 105) (by decide +kernel) rfl
theorem tm_X2_139 : Cond.methodLink RX2 139 yX9_word ∈ gT := g_mem5 (i := 106) (by decide +kernel) rfl
theorem tf_X2_149 : Cond.fieldLink RX2 149 "GlideWhistles$Sign" "HOLD" "LGlideWhistles$Sign;" ∈ gT := g_mem5 (i := 107) (by decide +kernel) rfl
theorem tm_X2_75 : Cond.methodLink RX2 75 yX2_readNumber ∈ gT := g_mem5 (i := 109) (by decide +kernel) rfl
theorem ti_X2_readNumber : Cond.instanceMethod yX2_readNumber ∈ gT := g_mem5 (i := 111) (by decide +kernel) rfl
theorem tc_X2_readNumber : Cond.code yX2_readNumber cX2_readNumber 4 (Option.some Jvm.ClassFile.FieldType.int) ∈ gT := g_mem5 (i := 112) (by decide +kernel) rfl
theorem tf_X2_178 : Cond.fieldLink RX2 178 "GlideWhistles$Sign" "NUMBER" "LGlideWhistles$Sign;" ∈ gT := g_mem5 (i := 113) (by decide +kernel) rfl
theorem tf_X2_152 : Cond.fieldLink RX2 152 "GlideWhistles$Sign" "GLIDE" "LGlideWhistles$Sign;" ∈ gT := g_mem5 (i := 114) (by decide +kernel) rfl
theorem tf_X2_155 : Cond.fieldLink RX2 155 "GlideWhistles$Sign" "TO" "LGlideWhistles$Sign;" ∈ gT := g_mem5 (i := 116) (by decide +kernel) rfl
theorem tf_X2_158 : Cond.fieldLink RX2 158 "GlideWhistles$Sign" "REST" "LGlideWhistles$Sign;" ∈ gT := g_mem5 (i := 118) (by decide +kernel) rfl
theorem tf_X2_161 : Cond.fieldLink RX2 161 "GlideWhistles$Sign" "FOR" "LGlideWhistles$Sign;" ∈ gT := g_mem5 (i := 120) (by decide +kernel) rfl
theorem tm_X2_169 : Cond.methodLink RX2 169 yJ9_min_7cf53 ∈ gT := g_mem5 (i := 122) (by decide +kernel) rfl
theorem tm_X2_174 : Cond.methodLink RX2 174 yX3_addGlide ∈ gT := g_mem5 (i := 123) (by decide +kernel) rfl
theorem ti_X3_addGlide : Cond.instanceMethod yX3_addGlide ∈ gT := g_mem5 (i := 124) (by decide +kernel) rfl
theorem ts_X3_addGlide : Cond.selects RX3 yX3_addGlide yX3_addGlide ∈ gT := g_mem5 (i := 125) (by decide +kernel) rfl
theorem tc_X3_addGlide : Cond.code yX3_addGlide cX3_addGlide 5 (Option.none : Option Jvm.ClassFile.FieldType) ∈ gT := g_mem5 (i := 126) (by decide +kernel) rfl
theorem tmN_X3_23 : Cond.methodLinkNest RX3 23 yX12_quotient "GlideWhistles" ∈ gN := g_nem5 (i := 127) (by decide +kernel) rfl
theorem tm_X3_27 : Cond.methodLink RX3 27 yX3_add ∈ gT := g_mem5 (i := 128) (by decide +kernel) rfl
theorem ti_X3_add : Cond.instanceMethod yX3_add ∈ gT := g_mem5 (i := 129) (by decide +kernel) rfl
theorem ts_X3_add : Cond.selects RX3 yX3_add yX3_add ∈ gT := g_mem5 (i := 130) (by decide +kernel) rfl
theorem tc_X3_add : Cond.code yX3_add cX3_add 2 (Option.none : Option Jvm.ClassFile.FieldType) ∈ gT := g_mem5 (i := 131) (by decide +kernel) rfl
theorem tf_X2_120 : Cond.fieldLink RX2 120 "GlideWhistles$Sign" "COMMA" "LGlideWhistles$Sign;" ∈ gT := g_mem5 (i := 132) (by decide +kernel) rfl
theorem tf_X2_72 : Cond.fieldLink RX2 72 "GlideWhistles$Sign" "BAND" "LGlideWhistles$Sign;" ∈ gT := g_mem5 (i := 134) (by decide +kernel) rfl
theorem tf_X2_82 : Cond.fieldLink RX2 82 "GlideWhistles$Sign" "NEAR" "LGlideWhistles$Sign;" ∈ gT := g_mem5 (i := 136) (by decide +kernel) rfl
theorem tm_X2_88 : Cond.methodLink RX2 88 yX2_readRule ∈ gT := g_mem5 (i := 138) (by decide +kernel) rfl
theorem ti_X2_readRule : Cond.instanceMethod yX2_readRule ∈ gT := g_mem5 (i := 140) (by decide +kernel) rfl
theorem tc_X2_readRule : Cond.code yX2_readRule cX2_readRule 5 (Option.none : Option Jvm.ClassFile.FieldType) ∈ gT := g_mem5 (i := 141) (by decide +kernel) rfl
theorem tf_X2_181 : Cond.fieldLink RX2 181 "GlideWhistles$Sign" "PRUNE" "LGlideWhistles$Sign;" ∈ gT := g_mem5 (i := 142) (by decide +kernel) rfl
theorem tf_X2_184 : Cond.fieldLink RX2 184 "GlideWhistles$Sign" "RESTORE" "LGlideWhistles$Sign;" ∈ gT := g_mem5 (i := 143) (by decide +kernel) rfl
theorem tf_X2_187 : Cond.fieldLink RX2 187 "GlideWhistles$Sign" "SHIFT" "LGlideWhistles$Sign;" ∈ gT := g_mem5 (i := 145) (by decide +kernel) rfl
theorem tm_X2_191 : Cond.methodLink RX2 191 yX2_readKnownName ∈ gT := g_mem5 (i := 146) (by decide +kernel) rfl
theorem ti_X2_readKnownName : Cond.instanceMethod yX2_readKnownName ∈ gT := g_mem5 (i := 148) (by decide +kernel) rfl
theorem tc_X2_readKnownName : Cond.code yX2_readKnownName cX2_readKnownName 2 (Option.some Jvm.ClassFile.FieldType.int) ∈ gT := g_mem5 (i := 149) (by decide +kernel) rfl
theorem tf_X2_198 : Cond.fieldLink RX2 198 "GlideWhistles$Sign" "BY" "LGlideWhistles$Sign;" ∈ gT := g_mem5 (i := 150) (by decide +kernel) rfl
theorem tm_X2_201 : Cond.methodLink RX2 201 yX2_readSum ∈ gT := g_mem5 (i := 152) (by decide +kernel) rfl
theorem ti_X2_readSum : Cond.instanceMethod yX2_readSum ∈ gT := g_mem5 (i := 154) (by decide +kernel) rfl
theorem tc_X2_readSum : Cond.code yX2_readSum cX2_readSum 4 (Option.none : Option Jvm.ClassFile.FieldType) ∈ gT := g_mem5 (i := 155) (by decide +kernel) rfl
theorem tm_X2_267 : Cond.methodLink RX2 267 yX2_readProduct ∈ gT := g_mem5 (i := 156) (by decide +kernel) rfl
theorem ti_X2_readProduct : Cond.instanceMethod yX2_readProduct ∈ gT := g_mem5 (i := 158) (by decide +kernel) rfl
theorem tc_X2_readProduct : Cond.code yX2_readProduct cX2_readProduct 4 (Option.none : Option Jvm.ClassFile.FieldType) ∈ gT := g_mem5 (i := 159) (by decide +kernel) rfl
theorem tm_X2_276 : Cond.methodLink RX2 276 yX2_readValue ∈ gT := g_mem5 (i := 160) (by decide +kernel) rfl
theorem ti_X2_readValue : Cond.instanceMethod yX2_readValue ∈ gT := g_mem5 (i := 162) (by decide +kernel) rfl
theorem tc_X2_readValue : Cond.code yX2_readValue cX2_readValue 3 (Option.none : Option Jvm.ClassFile.FieldType) ∈ gT := g_mem5 (i := 163) (by decide +kernel) rfl
theorem tf_X2_273 : Cond.fieldLink RX2 273 "GlideWhistles$Sign" "MINUS" "LGlideWhistles$Sign;" ∈ gT := g_mem5 (i := 164) (by decide +kernel) rfl
theorem tm_X2_233 : Cond.methodLink RX2 233 yX2_requireDepth ∈ gT := g_mem5 (i := 166) (by decide +kernel) rfl
theorem ti_X2_requireDepth : Cond.instanceMethod yX2_requireDepth ∈ gT := g_mem5 (i := 168) (by decide +kernel) rfl
theorem tc_X2_requireDepth : Cond.code yX2_requireDepth cX2_requireDepth 2 (Option.none : Option Jvm.ClassFile.FieldType) ∈ gT := g_mem5 (i := 169) (by decide +kernel) rfl
theorem tf_X2_285 : Cond.fieldLink RX2 285 "GlideWhistles$Sign" "NEGATIVE" "LGlideWhistles$Sign;" ∈ gT := g_mem5 (i := 170) (by decide +kernel) rfl
theorem tm_X2_220 : Cond.methodLink RX2 220 yX5_addSign ∈ gT := g_mem5 (i := 171) (by decide +kernel) rfl
theorem ti_X5_addSign : Cond.instanceMethod yX5_addSign ∈ gT := g_mem5 (i := 172) (by decide +kernel) rfl
theorem ts_X5_addSign : Cond.selects RX5 yX5_addSign yX5_addSign ∈ gT := g_mem5 (i := 173) (by decide +kernel) rfl
theorem tc_X5_addSign : Cond.code yX5_addSign cX5_addSign 3 (Option.none : Option Jvm.ClassFile.FieldType) ∈ gT := g_mem5 (i := 174) (by decide +kernel) rfl
theorem tf_X2_288 : Cond.fieldLink RX2 288 "GlideWhistles$Sign" "OPEN" "LGlideWhistles$Sign;" ∈ gT := g_mem5 (i := 175) (by decide +kernel) rfl
theorem tf_X2_291 : Cond.fieldLink RX2 291 "GlideWhistles$Sign" "CLOSE" "LGlideWhistles$Sign;" ∈ gT := g_mem5 (i := 177) (by decide +kernel) rfl
theorem tf_X2_294 : Cond.fieldLink RX2 294 "GlideWhistles$Sign" "MIN" "LGlideWhistles$Sign;" ∈ gT := g_mem5 (i := 179) (by decide +kernel) rfl
theorem tf_X2_297 : Cond.fieldLink RX2 297 "GlideWhistles$Sign" "MAX" "LGlideWhistles$Sign;" ∈ gT := g_mem5 (i := 181) (by decide +kernel) rfl
theorem tm_X2_300 : Cond.methodLink RX2 300 yX2_readChoice ∈ gT := g_mem5 (i := 183) (by decide +kernel) rfl
theorem ti_X2_readChoice : Cond.instanceMethod yX2_readChoice ∈ gT := g_mem5 (i := 185) (by decide +kernel) rfl
theorem tc_X2_readChoice : Cond.code yX2_readChoice cX2_readChoice 3 (Option.none : Option Jvm.ClassFile.FieldType) ∈ gT := g_mem5 (i := 186) (by decide +kernel) rfl
theorem tf_X2_303 : Cond.fieldLink RX2 303 "GlideWhistles$Sign" "DISTANCE" "LGlideWhistles$Sign;" ∈ gT := g_mem5 (i := 187) (by decide +kernel) rfl
theorem tf_X2_306 : Cond.fieldLink RX2 306 "GlideWhistles$Sign" "LENGTH" "LGlideWhistles$Sign;" ∈ gT := g_mem5 (i := 189) (by decide +kernel) rfl
theorem tf_X2_309 : Cond.fieldLink RX2 309 "GlideWhistles$Sign" "OF" "LGlideWhistles$Sign;" ∈ gT := g_mem5 (i := 191) (by decide +kernel) rfl
theorem tf_X2_312 : Cond.fieldLink RX2 312 "GlideWhistles$Sign" "LESSON" "LGlideWhistles$Sign;" ∈ gT := g_mem5 (i := 193) (by decide +kernel) rfl
theorem tf_X2_315 : Cond.fieldLink RX2 315 "GlideWhistles$Sign" "KEPT" "LGlideWhistles$Sign;" ∈ gT := g_mem5 (i := 195) (by decide +kernel) rfl
theorem tf_X2_279 : Cond.fieldLink RX2 279 "GlideWhistles$Sign" "TIMES" "LGlideWhistles$Sign;" ∈ gT := g_mem5 (i := 197) (by decide +kernel) rfl
theorem tf_X2_282 : Cond.fieldLink RX2 282 "GlideWhistles$Sign" "OVER" "LGlideWhistles$Sign;" ∈ gT := g_mem5 (i := 199) (by decide +kernel) rfl
theorem tf_X2_270 : Cond.fieldLink RX2 270 "GlideWhistles$Sign" "PLUS" "LGlideWhistles$Sign;" ∈ gT := g_mem5 (i := 201) (by decide +kernel) rfl
theorem tf_X2_204 : Cond.fieldLink RX2 204 "GlideWhistles$Sign" "WHEN" "LGlideWhistles$Sign;" ∈ gT := g_mem5 (i := 203) (by decide +kernel) rfl
theorem tm_X2_207 : Cond.methodLink RX2 207 yX2_readTest ∈ gT := g_mem5 (i := 205) (by decide +kernel) rfl
theorem ti_X2_readTest : Cond.instanceMethod yX2_readTest ∈ gT := g_mem5 (i := 207) (by decide +kernel) rfl
theorem tc_X2_readTest : Cond.code yX2_readTest cX2_readTest 3 (Option.none : Option Jvm.ClassFile.FieldType) ∈ gT := g_mem5 (i := 208) (by decide +kernel) rfl
theorem tm_X2_214 : Cond.methodLink RX2 214 yX2_readBoth ∈ gT := g_mem5 (i := 209) (by decide +kernel) rfl
theorem ti_X2_readBoth : Cond.instanceMethod yX2_readBoth ∈ gT := g_mem5 (i := 211) (by decide +kernel) rfl
theorem tc_X2_readBoth : Cond.code yX2_readBoth cX2_readBoth 3 (Option.none : Option Jvm.ClassFile.FieldType) ∈ gT := g_mem5 (i := 212) (by decide +kernel) rfl
theorem tm_X2_224 : Cond.methodLink RX2 224 yX2_readSingle ∈ gT := g_mem5 (i := 213) (by decide +kernel) rfl
theorem ti_X2_readSingle : Cond.instanceMethod yX2_readSingle ∈ gT := g_mem5 (i := 215) (by decide +kernel) rfl
theorem tc_X2_readSingle : Cond.code yX2_readSingle cX2_readSingle 3 (Option.none : Option Jvm.ClassFile.FieldType) ∈ gT := g_mem5 (i := 216) (by decide +kernel) rfl
theorem tf_X2_230 : Cond.fieldLink RX2 230 "GlideWhistles$Sign" "NOT" "LGlideWhistles$Sign;" ∈ gT := g_mem5 (i := 217) (by decide +kernel) rfl
theorem tf_X2_236 : Cond.fieldLink RX2 236 "GlideWhistles$Sign" "OPEN_TEST" "LGlideWhistles$Sign;" ∈ gT := g_mem5 (i := 218) (by decide +kernel) rfl
theorem tf_X2_239 : Cond.fieldLink RX2 239 "GlideWhistles$Sign" "CLOSE_TEST" "LGlideWhistles$Sign;" ∈ gT := g_mem5 (i := 220) (by decide +kernel) rfl
theorem tf_X2_242 : Cond.fieldLink RX2 242 "GlideWhistles$Sign" "HEARD" "LGlideWhistles$Sign;" ∈ gT := g_mem5 (i := 222) (by decide +kernel) rfl
theorem tf_X2_245 : Cond.fieldLink RX2 245 "GlideWhistles$Sign" "PRUNED" "LGlideWhistles$Sign;" ∈ gT := g_mem5 (i := 224) (by decide +kernel) rfl
theorem tm_X2_248 : Cond.methodLink RX2 248 yX2_isComparison ∈ gT := g_mem5 (i := 226) (by decide +kernel) rfl
theorem ti_X2_isComparison : Cond.instanceMethod yX2_isComparison ∈ gT := g_mem5 (i := 228) (by decide +kernel) rfl
theorem tc_X2_isComparison : Cond.code yX2_isComparison cX2_isComparison 1 (Option.some Jvm.ClassFile.FieldType.boolean) ∈ gT := g_mem5 (i := 229) (by decide +kernel) rfl
theorem tf_X2_252 : Cond.fieldLink RX2 252 "GlideWhistles$Sign" "LESS" "LGlideWhistles$Sign;" ∈ gT := g_mem5 (i := 230) (by decide +kernel) rfl
theorem tf_X2_255 : Cond.fieldLink RX2 255 "GlideWhistles$Sign" "GREATER" "LGlideWhistles$Sign;" ∈ gT := g_mem5 (i := 232) (by decide +kernel) rfl
theorem tf_X2_258 : Cond.fieldLink RX2 258 "GlideWhistles$Sign" "EQUAL" "LGlideWhistles$Sign;" ∈ gT := g_mem5 (i := 234) (by decide +kernel) rfl
theorem tf_X2_261 : Cond.fieldLink RX2 261 "GlideWhistles$Sign" "AT_MOST" "LGlideWhistles$Sign;" ∈ gT := g_mem5 (i := 236) (by decide +kernel) rfl
theorem tf_X2_264 : Cond.fieldLink RX2 264 "GlideWhistles$Sign" "AT_LEAST" "LGlideWhistles$Sign;" ∈ gT := g_mem5 (i := 238) (by decide +kernel) rfl
theorem tf_X2_227 : Cond.fieldLink RX2 227 "GlideWhistles$Sign" "AND" "LGlideWhistles$Sign;" ∈ gT := g_mem6 (i := 0) (by decide +kernel) rfl
theorem tf_X2_217 : Cond.fieldLink RX2 217 "GlideWhistles$Sign" "OR" "LGlideWhistles$Sign;" ∈ gT := g_mem6 (i := 2) (by decide +kernel) rfl
theorem tm_X2_210 : Cond.methodLink RX2 210 yX5_addRule ∈ gT := g_mem6 (i := 4) (by decide +kernel) rfl
theorem ti_X5_addRule : Cond.instanceMethod yX5_addRule ∈ gT := g_mem6 (i := 5) (by decide +kernel) rfl
theorem ts_X5_addRule : Cond.selects RX5 yX5_addRule yX5_addRule ∈ gT := g_mem6 (i := 6) (by decide +kernel) rfl
theorem tc_X5_addRule : Cond.code yX5_addRule cX5_addRule 6 (Option.none : Option Jvm.ClassFile.FieldType) ∈ gT := g_mem6 (i := 7) (by decide +kernel) rfl
theorem tm_X5_49 : Cond.methodLink RX5 49 yX5_rule ∈ gT := g_mem6 (i := 8) (by decide +kernel) rfl
theorem tf_X2_91 : Cond.fieldLink RX2 91 "GlideWhistles$Sign" "SEMICOLON" "LGlideWhistles$Sign;" ∈ gT := g_mem6 (i := 9) (by decide +kernel) rfl
theorem tm_X12_111 : Cond.methodLink RX12 111 yX12_beginAnew ∈ gT := g_mem6 (i := 11) (by decide +kernel) rfl
theorem ti_X12_beginAnew : Cond.instanceMethod yX12_beginAnew ∈ gT := g_mem6 (i := 13) (by decide +kernel) rfl
theorem tc_X12_beginAnew : Cond.code yX12_beginAnew cX12_beginAnew 3 (Option.none : Option Jvm.ClassFile.FieldType) ∈ gT := g_mem6 (i := 14) (by decide +kernel) rfl
theorem tm_L_159 : Cond.methodLink RL 159 yL_drawn ∈ gT := g_mem6 (i := 15) (by decide +kernel) rfl
theorem tz_L_drawn : Cond.static yL_drawn ∈ gT := g_mem6 (i := 16) (by decide +kernel) rfl
theorem tc_L_drawn : Cond.code yL_drawn cL_drawn 16 (Option.some (Jvm.ClassFile.FieldType.object "GlideWhistlesLaw$Talk")) ∈ gT := g_mem6 (i := 17) (by decide +kernel) rfl
theorem tl_L_32 : Cond.classLink RL 32 RX16 ∈ gT := g_mem6 (i := 18) (by decide +kernel) rfl
theorem ta_X16 : Cond.instantiable RX16 10 ∈ gT := g_mem6 (i := 19) (by decide +kernel) rfl
theorem tm_L_34 : Cond.methodLink RL 34 yX16_init ∈ gT := g_mem6 (i := 20) (by decide +kernel) rfl
theorem ti_X16_init : Cond.instanceMethod yX16_init ∈ gT := g_mem6 (i := 21) (by decide +kernel) rfl
theorem tc_X16_init : Cond.code yX16_init cX16_init 3 (Option.none : Option Jvm.ClassFile.FieldType) ∈ gT := g_mem6 (i := 22) (by decide +kernel) rfl
theorem tm_X16_1 : Cond.methodLink RX16 1 ⟨"java/lang/Object", "<init>", "()V"⟩ ∈ gT := g_mem6 (i := 23) (by decide +kernel) rfl
theorem tl_X16_29 : Cond.classLink RX16 29 RX15 ∈ gT := g_mem6 (i := 25) (by decide +kernel) rfl
theorem tf_X16_7 : Cond.fieldLink RX16 7 "GlideWhistlesLaw$Talk" "band" "I" ∈ gT := g_mem6 (i := 27) (by decide +kernel) rfl
theorem tf_L_83 : Cond.fieldLink RL 83 "GlideWhistlesLaw$Talk" "band" "I" ∈ gT := g_mem6 (i := 28) (by decide +kernel) rfl
theorem tf_X16_13 : Cond.fieldLink RX16 13 "GlideWhistlesLaw$Talk" "nearness" "I" ∈ gT := g_mem6 (i := 29) (by decide +kernel) rfl
theorem tf_L_89 : Cond.fieldLink RL 89 "GlideWhistlesLaw$Talk" "nearness" "I" ∈ gT := g_mem6 (i := 30) (by decide +kernel) rfl
theorem tf_X16_18 : Cond.fieldLink RX16 18 "GlideWhistlesLaw$Talk" "words" "[[I" ∈ gT := g_mem6 (i := 31) (by decide +kernel) rfl
theorem tf_X15_69 : Cond.fieldLink RX15 69 "GlideWhistlesLaw$Talk" "words" "[[I" ∈ gT := g_mem6 (i := 32) (by decide +kernel) rfl
theorem tf_L_44 : Cond.fieldLink RL 44 "GlideWhistlesLaw$Talk" "words" "[[I" ∈ gT := g_mem6 (i := 33) (by decide +kernel) rfl
theorem tf_X14_113 : Cond.fieldLink RX14 113 "GlideWhistlesLaw$Talk" "words" "[[I" ∈ gT := g_mem6 (i := 34) (by decide +kernel) rfl
theorem tf_X16_22 : Cond.fieldLink RX16 22 "GlideWhistlesLaw$Talk" "pruned" "[Z" ∈ gT := g_mem6 (i := 35) (by decide +kernel) rfl
theorem tf_X15_79 : Cond.fieldLink RX15 79 "GlideWhistlesLaw$Talk" "pruned" "[Z" ∈ gT := g_mem6 (i := 36) (by decide +kernel) rfl
theorem tf_L_48 : Cond.fieldLink RL 48 "GlideWhistlesLaw$Talk" "pruned" "[Z" ∈ gT := g_mem6 (i := 37) (by decide +kernel) rfl
theorem tf_X14_128 : Cond.fieldLink RX14 128 "GlideWhistlesLaw$Talk" "pruned" "[Z" ∈ gT := g_mem6 (i := 38) (by decide +kernel) rfl
theorem tf_X16_26 : Cond.fieldLink RX16 26 "GlideWhistlesLaw$Talk" "heard" "[I" ∈ gT := g_mem6 (i := 39) (by decide +kernel) rfl
theorem tf_X14_109 : Cond.fieldLink RX14 109 "GlideWhistlesLaw$Talk" "heard" "[I" ∈ gT := g_mem6 (i := 40) (by decide +kernel) rfl
theorem tf_L_113 : Cond.fieldLink RL 113 "GlideWhistlesLaw$Talk" "heard" "[I" ∈ gT := g_mem6 (i := 41) (by decide +kernel) rfl
theorem tf_X14_101 : Cond.fieldLink RX14 101 "GlideWhistlesLaw$Talk" "lessons" "I" ∈ gT := g_mem6 (i := 42) (by decide +kernel) rfl
theorem tf_X16_50 : Cond.fieldLink RX16 50 "GlideWhistlesLaw$Talk" "lessons" "I" ∈ gT := g_mem6 (i := 43) (by decide +kernel) rfl
theorem tf_X16_53 : Cond.fieldLink RX16 53 "GlideWhistlesLaw$Talk" "carried" "I" ∈ gT := g_mem6 (i := 44) (by decide +kernel) rfl
theorem tf_X16_31 : Cond.fieldLink RX16 31 "GlideWhistlesLaw$Talk" "rules" "[LGlideWhistlesLaw$Rule;" ∈ gT := g_mem6 (i := 45) (by decide +kernel) rfl
theorem tf_L_96 : Cond.fieldLink RL 96 "GlideWhistlesLaw$Talk" "rules" "[LGlideWhistlesLaw$Rule;" ∈ gT := g_mem6 (i := 46) (by decide +kernel) rfl
theorem tf_X16_35 : Cond.fieldLink RX16 35 "GlideWhistlesLaw$Talk" "cost" "[I" ∈ gT := g_mem6 (i := 47) (by decide +kernel) rfl
theorem tf_X16_38 : Cond.fieldLink RX16 38 "GlideWhistlesLaw$Talk" "steps" "[I" ∈ gT := g_mem6 (i := 48) (by decide +kernel) rfl
theorem tr_boolean : Cond.arrayClass Jvm.ClassFile.FieldType.boolean ∈ gT := g_mem6 (i := 70) (by decide +kernel) rfl
theorem tl_L_42 : Cond.classLink RL 42 "[I" ∈ gT := g_mem6 (i := 71) (by decide +kernel) rfl
theorem tm_L_54 : Cond.methodLink RL 54 yJ4_append_15ec4 ∈ gT := g_mem6 (i := 73) (by decide +kernel) rfl
theorem ti_J4_append_15ec4 : Cond.instanceMethod yJ4_append_15ec4 ∈ gT := g_mem6 (i := 74) (by decide +kernel) rfl
theorem ts_J4_append_15ec4 : Cond.selects RJ4 yJ4_append_15ec4 yJ4_append_15ec4 ∈ gT := g_mem6 (i := 75) (by decide +kernel) rfl
theorem tc_J4_append_15ec4 : Cond.code yJ4_append_15ec4 cJ4_append_15ec4 2 (Option.some (Jvm.ClassFile.FieldType.object "java/lang/StringBuilder")) ∈ gT := g_mem6 (i := 76) (by decide +kernel) rfl
theorem tm_J4_29 : Cond.methodLink RJ4 29 yJ5_append_cf1ce ∈ gT := g_mem6 (i := 77) (by decide +kernel) rfl
theorem ti_J5_append_cf1ce : Cond.instanceMethod yJ5_append_cf1ce ∈ gT := g_mem6 (i := 79) (by decide +kernel) rfl
theorem tc_J5_append_cf1ce : Cond.code yJ5_append_cf1ce cJ5_append_cf1ce 3 (Option.some (Jvm.ClassFile.FieldType.object "java/lang/AbstractStringBuilder")) ∈ gT := g_mem6 (i := 80) (by decide +kernel) rfl
theorem tm_J5_204 : Cond.methodLink RJ5 204 yJ5_appendNull_278bc ∈ gT := g_mem6 (i := 81) (by decide +kernel) rfl
theorem ti_J5_appendNull_278bc : Cond.instanceMethod yJ5_appendNull_278bc ∈ gT := g_mem6 (i := 83) (by decide +kernel) rfl
theorem tc_J5_appendNull_278bc : Cond.code yJ5_appendNull_278bc cJ5_appendNull_278bc 3 (Option.some (Jvm.ClassFile.FieldType.object "java/lang/AbstractStringBuilder")) ∈ gT := g_mem6 (i := 84) (by decide +kernel) rfl
theorem tm_J5_100 : Cond.methodLink RJ5 100 yJ5_ensureCapacityInternal_d00df ∈ gT := g_mem6 (i := 85) (by decide +kernel) rfl
theorem ti_J5_ensureCapacityInternal_d00df : Cond.instanceMethod yJ5_ensureCapacityInternal_d00df ∈ gT := g_mem6 (i := 87) (by decide +kernel) rfl
theorem tc_J5_ensureCapacityInternal_d00df : Cond.code yJ5_ensureCapacityInternal_d00df cJ5_ensureCapacityInternal_d00df 3 (Option.none : Option Jvm.ClassFile.FieldType) ∈ gT := g_mem6 (i := 88) (by decide +kernel) rfl
theorem tm_J5_104 : Cond.methodLink RJ5 104 yJ5_newCapacity_0f7a4 ∈ gT := g_mem6 (i := 89) (by decide +kernel) rfl
theorem ti_J5_newCapacity_0f7a4 : Cond.instanceMethod yJ5_newCapacity_0f7a4 ∈ gT := g_mem6 (i := 91) (by decide +kernel) rfl
theorem tc_J5_newCapacity_0f7a4 : Cond.code yJ5_newCapacity_0f7a4 cJ5_newCapacity_0f7a4 6 (Option.some Jvm.ClassFile.FieldType.int) ∈ gT := g_mem6 (i := 92) (by decide +kernel) rfl
theorem tm_J5_114 : Cond.methodLink RJ5 114 yJ8_newLength_cabcc ∈ gT := g_mem6 (i := 93) (by decide +kernel) rfl
theorem tz_J8_newLength_cabcc : Cond.static yJ8_newLength_cabcc ∈ gT := g_mem6 (i := 94) (by decide +kernel) rfl
theorem tc_J8_newLength_cabcc : Cond.code yJ8_newLength_cabcc cJ8_newLength_cabcc 4 (Option.some Jvm.ClassFile.FieldType.int) ∈ gT := g_mem6 (i := 95) (by decide +kernel) rfl
theorem tm_J8_194 : Cond.methodLink RJ8 194 yJ9_max_7cf53 ∈ gT := g_mem6 (i := 96) (by decide +kernel) rfl
theorem tq_J8_200 : Cond.constant RJ8 200 (2147483639 : Int32) ∈ gT := g_mem6 (i := 97) (by decide +kernel) rfl
theorem tm_J8_201 : Cond.methodLink RJ8 201 yJ8_hugeLength_7cf53 ∈ gT := g_mem6 (i := 98) (by decide +kernel) rfl
theorem tz_J8_hugeLength_7cf53 : Cond.static yJ8_hugeLength_7cf53 ∈ gT := g_mem6 (i := 99) (by decide +kernel) rfl
theorem tc_J8_hugeLength_7cf53 : Cond.code yJ8_hugeLength_7cf53 cJ8_hugeLength_7cf53 3 (Option.some Jvm.ClassFile.FieldType.int) ∈ gT := g_mem6 (i := 100) (by decide +kernel) rfl
theorem tq_J5_39 : Cond.constant RJ5 39 (2147483647 : Int32) ∈ gT := g_mem6 (i := 101) (by decide +kernel) rfl
theorem tm_J5_108 : Cond.methodLink RJ5 108 yJ7_copyOf_9075b ∈ gT := g_mem6 (i := 102) (by decide +kernel) rfl
theorem tz_J7_copyOf_9075b : Cond.static yJ7_copyOf_9075b ∈ gT := g_mem6 (i := 103) (by decide +kernel) rfl
theorem tc_J7_copyOf_9075b : Cond.code yJ7_copyOf_9075b cJ7_copyOf_9075b 3 (Option.some (Jvm.ClassFile.FieldType.array Jvm.ClassFile.FieldType.byte)) ∈ gT := g_mem6 (i := 104) (by decide +kernel) rfl
theorem tm_J7_310 : Cond.methodLink RJ7 310 ⟨"[B", "clone", "()Ljava/lang/Object;"⟩ ∈ gT := g_mem6 (i := 105) (by decide +kernel) rfl
theorem tl_J7_311 : Cond.classLink RJ7 311 "[B" ∈ gT := g_mem6 (i := 109) (by decide +kernel) rfl
theorem tm_J7_304 : Cond.methodLink RJ7 304 yJ9_min_7cf53 ∈ gT := g_mem6 (i := 110) (by decide +kernel) rfl
theorem tm_J7_150 : Cond.methodLink RJ7 150 ⟨"java/lang/System", "arraycopy", "(Ljava/lang/Object;ILjava/lang/Object;II)V"⟩ ∈ gT := g_mem6 (i := 111) (by decide +kernel) rfl
theorem tz_java_lang_System_arraycopy : Cond.static ⟨"java/lang/System", "arraycopy", "(Ljava/lang/Object;ILjava/lang/Object;II)V"⟩ ∈ gT := g_mem6 (i := 112) (by decide +kernel) rfl
theorem tm_J5_83 : Cond.methodLink RJ5 83 yJ5_isLatin1_aae02 ∈ gT := g_mem6 (i := 114) (by decide +kernel) rfl
theorem ti_J5_isLatin1_aae02 : Cond.instanceMethod yJ5_isLatin1_aae02 ∈ gT := g_mem6 (i := 115) (by decide +kernel) rfl
theorem ts_J5_isLatin1_aae02 : Cond.selects RJ4 yJ5_isLatin1_aae02 yJ5_isLatin1_aae02 ∈ gT := g_mem6 (i := 117) (by decide +kernel) rfl
theorem tc_J5_isLatin1_aae02 : Cond.code yJ5_isLatin1_aae02 cJ5_isLatin1_aae02 1 (Option.some Jvm.ClassFile.FieldType.boolean) ∈ gT := g_mem6 (i := 118) (by decide +kernel) rfl
theorem tf_J5_18 : Cond.fieldLink RJ5 18 "java/lang/String" "COMPACT_STRINGS" "Z" ∈ gT := g_mem6 (i := 119) (by decide +kernel) rfl
theorem tm_J5_226 : Cond.methodLink RJ5 226 yJ2_putCharsAt_cd4e5 ∈ gT := g_mem6 (i := 120) (by decide +kernel) rfl
theorem tz_J2_putCharsAt_cd4e5 : Cond.static yJ2_putCharsAt_cd4e5 ∈ gT := g_mem6 (i := 121) (by decide +kernel) rfl
theorem tc_J2_putCharsAt_cd4e5 : Cond.code yJ2_putCharsAt_cd4e5 cJ2_putCharsAt_cd4e5 7 (Option.some Jvm.ClassFile.FieldType.int) ∈ gT := g_mem6 (i := 122) (by decide +kernel) rfl
theorem tm_J2_96 : Cond.methodLink RJ2 96 yJ2_checkBoundsBeginEnd_d044e ∈ gT := g_mem6 (i := 123) (by decide +kernel) rfl
theorem tz_J2_checkBoundsBeginEnd_d044e : Cond.static yJ2_checkBoundsBeginEnd_d044e ∈ gT := g_mem6 (i := 124) (by decide +kernel) rfl
theorem tc_J2_checkBoundsBeginEnd_d044e : Cond.code yJ2_checkBoundsBeginEnd_d044e cJ2_checkBoundsBeginEnd_d044e 3 (Option.none : Option Jvm.ClassFile.FieldType) ∈ gT := g_mem6 (i := 125) (by decide +kernel) rfl
theorem tm_J2_241 : Cond.methodLink RJ2 241 yJ0_checkBoundsBeginEnd_23922 ∈ gT := g_mem6 (i := 126) (by decide +kernel) rfl
theorem tz_J0_checkBoundsBeginEnd_23922 : Cond.static yJ0_checkBoundsBeginEnd_23922 ∈ gT := g_mem6 (i := 127) (by decide +kernel) rfl
theorem tc_J0_checkBoundsBeginEnd_23922 : Cond.code yJ0_checkBoundsBeginEnd_23922 cJ0_checkBoundsBeginEnd_23922 3 (Option.none : Option Jvm.ClassFile.FieldType) ∈ gT := g_mem6 (i := 128) (by decide +kernel) rfl
theorem tm_J0_1062 : Cond.methodLink RJ0 1062 yJ3_checkFromToIndex_8c36e ∈ gT := g_mem6 (i := 129) (by decide +kernel) rfl
theorem tz_J3_checkFromToIndex_8c36e : Cond.static yJ3_checkFromToIndex_8c36e ∈ gT := g_mem6 (i := 130) (by decide +kernel) rfl
theorem tc_J3_checkFromToIndex_8c36e : Cond.code yJ3_checkFromToIndex_8c36e cJ3_checkFromToIndex_8c36e 4 (Option.some Jvm.ClassFile.FieldType.int) ∈ gT := g_mem6 (i := 131) (by decide +kernel) rfl
theorem tm_J2_111 : Cond.methodLink RJ2 111 yJ2_putChar_b72d1 ∈ gT := g_mem6 (i := 132) (by decide +kernel) rfl
theorem tz_J2_putChar_b72d1 : Cond.static yJ2_putChar_b72d1 ∈ gT := g_mem6 (i := 133) (by decide +kernel) rfl
theorem tc_J2_putChar_b72d1 : Cond.code yJ2_putChar_b72d1 cJ2_putChar_b72d1 3 (Option.none : Option Jvm.ClassFile.FieldType) ∈ gT := g_mem6 (i := 134) (by decide +kernel) rfl
theorem tm_J5_32 : Cond.methodLink RJ5 32 yJ0_length_8abf5 ∈ gT := g_mem6 (i := 135) (by decide +kernel) rfl
theorem tm_J5_208 : Cond.methodLink RJ5 208 yJ5_putStringAt_47b60 ∈ gT := g_mem6 (i := 136) (by decide +kernel) rfl
theorem ti_J5_putStringAt_47b60 : Cond.instanceMethod yJ5_putStringAt_47b60 ∈ gT := g_mem6 (i := 138) (by decide +kernel) rfl
theorem tc_J5_putStringAt_47b60 : Cond.code yJ5_putStringAt_47b60 cJ5_putStringAt_47b60 3 (Option.none : Option Jvm.ClassFile.FieldType) ∈ gT := g_mem6 (i := 139) (by decide +kernel) rfl
theorem tm_J5_397 : Cond.methodLink RJ5 397 yJ5_inflateIfNeededFor_a7421 ∈ gT := g_mem6 (i := 140) (by decide +kernel) rfl
theorem ti_J5_inflateIfNeededFor_a7421 : Cond.instanceMethod yJ5_inflateIfNeededFor_a7421 ∈ gT := g_mem6 (i := 142) (by decide +kernel) rfl
theorem tc_J5_inflateIfNeededFor_a7421 : Cond.code yJ5_inflateIfNeededFor_a7421 cJ5_inflateIfNeededFor_a7421 2 (Option.none : Option Jvm.ClassFile.FieldType) ∈ gT := g_mem6 (i := 143) (by decide +kernel) rfl
theorem tm_J5_40 : Cond.methodLink RJ5 40 yJ0_coder_7d493 ∈ gT := g_mem6 (i := 144) (by decide +kernel) rfl
theorem tm_J5_195 : Cond.methodLink RJ5 195 yJ5_inflate_da8c8 ∈ gT := g_mem6 (i := 145) (by decide +kernel) rfl
theorem ti_J5_inflate_da8c8 : Cond.instanceMethod yJ5_inflate_da8c8 ∈ gT := g_mem6 (i := 147) (by decide +kernel) rfl
theorem tc_J5_inflate_da8c8 : Cond.code yJ5_inflate_da8c8 cJ5_inflate_da8c8 2 (Option.none : Option Jvm.ClassFile.FieldType) ∈ gT := g_mem6 (i := 148) (by decide +kernel) rfl
theorem tm_J5_26 : Cond.methodLink RJ5 26 yJ2_newBytesFor_77867 ∈ gT := g_mem6 (i := 149) (by decide +kernel) rfl
theorem tz_J2_newBytesFor_77867 : Cond.static yJ2_newBytesFor_77867 ∈ gT := g_mem6 (i := 150) (by decide +kernel) rfl
theorem tc_J2_newBytesFor_77867 : Cond.code yJ2_newBytesFor_77867 cJ2_newBytesFor_77867 1 (Option.some (Jvm.ClassFile.FieldType.array Jvm.ClassFile.FieldType.byte)) ∈ gT := g_mem6 (i := 151) (by decide +kernel) rfl
theorem tm_J2_11 : Cond.methodLink RJ2 11 yJ2_newBytesLength_0f7a4 ∈ gT := g_mem6 (i := 152) (by decide +kernel) rfl
theorem tz_J2_newBytesLength_0f7a4 : Cond.static yJ2_newBytesLength_0f7a4 ∈ gT := g_mem6 (i := 153) (by decide +kernel) rfl
theorem tc_J2_newBytesLength_0f7a4 : Cond.code yJ2_newBytesLength_0f7a4 cJ2_newBytesLength_0f7a4 1 (Option.some Jvm.ClassFile.FieldType.int) ∈ gT := g_mem6 (i := 154) (by decide +kernel) rfl
theorem tq_J2_20 : Cond.constant RJ2 20 (1073741823 : Int32) ∈ gT := g_mem6 (i := 155) (by decide +kernel) rfl
theorem tm_J5_125 : Cond.methodLink RJ5 125 yJ1_inflate_0e8fd ∈ gT := g_mem6 (i := 156) (by decide +kernel) rfl
theorem tz_J1_inflate_0e8fd : Cond.static yJ1_inflate_0e8fd ∈ gT := g_mem6 (i := 157) (by decide +kernel) rfl
theorem tc_J1_inflate_0e8fd : Cond.code yJ1_inflate_0e8fd cJ1_inflate_0e8fd 5 (Option.none : Option Jvm.ClassFile.FieldType) ∈ gT := g_mem6 (i := 158) (by decide +kernel) rfl
theorem tm_J1_240 : Cond.methodLink RJ1 240 yJ2_inflate_0e8fd ∈ gT := g_mem6 (i := 159) (by decide +kernel) rfl
theorem tz_J2_inflate_0e8fd : Cond.static yJ2_inflate_0e8fd ∈ gT := g_mem6 (i := 160) (by decide +kernel) rfl
theorem tc_J2_inflate_0e8fd : Cond.code yJ2_inflate_0e8fd cJ2_inflate_0e8fd 6 (Option.none : Option Jvm.ClassFile.FieldType) ∈ gT := g_mem6 (i := 161) (by decide +kernel) rfl
theorem tm_J2_173 : Cond.methodLink RJ2 173 yJ2_checkBoundsOffCount_d044e ∈ gT := g_mem6 (i := 162) (by decide +kernel) rfl
theorem tz_J2_checkBoundsOffCount_d044e : Cond.static yJ2_checkBoundsOffCount_d044e ∈ gT := g_mem6 (i := 163) (by decide +kernel) rfl
theorem tc_J2_checkBoundsOffCount_d044e : Cond.code yJ2_checkBoundsOffCount_d044e cJ2_checkBoundsOffCount_d044e 3 (Option.none : Option Jvm.ClassFile.FieldType) ∈ gT := g_mem6 (i := 164) (by decide +kernel) rfl
theorem tm_J2_419 : Cond.methodLink RJ2 419 yJ0_checkBoundsOffCount_cabcc ∈ gT := g_mem6 (i := 165) (by decide +kernel) rfl
theorem tz_J0_checkBoundsOffCount_cabcc : Cond.static yJ0_checkBoundsOffCount_cabcc ∈ gT := g_mem6 (i := 166) (by decide +kernel) rfl
theorem tc_J0_checkBoundsOffCount_cabcc : Cond.code yJ0_checkBoundsOffCount_cabcc cJ0_checkBoundsOffCount_cabcc 3 (Option.some Jvm.ClassFile.FieldType.int) ∈ gT := g_mem6 (i := 167) (by decide +kernel) rfl
theorem tm_J0_1065 : Cond.methodLink RJ0 1065 yJ3_checkFromIndexSize_8c36e ∈ gT := g_mem6 (i := 168) (by decide +kernel) rfl
theorem tz_J3_checkFromIndexSize_8c36e : Cond.static yJ3_checkFromIndexSize_8c36e ∈ gT := g_mem6 (i := 169) (by decide +kernel) rfl
theorem tc_J3_checkFromIndexSize_8c36e : Cond.code yJ3_checkFromIndexSize_8c36e cJ3_checkFromIndexSize_8c36e 4 (Option.some Jvm.ClassFile.FieldType.int) ∈ gT := g_mem6 (i := 170) (by decide +kernel) rfl
theorem tm_J5_399 : Cond.methodLink RJ5 399 yJ0_getBytes_840e7 ∈ gT := g_mem6 (i := 171) (by decide +kernel) rfl
theorem ti_J0_getBytes_840e7 : Cond.instanceMethod yJ0_getBytes_840e7 ∈ gT := g_mem6 (i := 172) (by decide +kernel) rfl
theorem ts_J0_getBytes_840e7 : Cond.selects RJ0 yJ0_getBytes_840e7 yJ0_getBytes_840e7 ∈ gT := g_mem6 (i := 173) (by decide +kernel) rfl
theorem tc_J0_getBytes_840e7 : Cond.code yJ0_getBytes_840e7 cJ0_getBytes_840e7 4 (Option.none : Option Jvm.ClassFile.FieldType) ∈ gT := g_mem6 (i := 174) (by decide +kernel) rfl
theorem tm_J0_212 : Cond.methodLink RJ0 212 ⟨"java/lang/System", "arraycopy", "(Ljava/lang/Object;ILjava/lang/Object;II)V"⟩ ∈ gT := g_mem6 (i := 175) (by decide +kernel) rfl
theorem tm_J0_106 : Cond.methodLink RJ0 106 yJ1_inflate_0e8fd ∈ gT := g_mem6 (i := 176) (by decide +kernel) rfl
theorem tm_L_60 : Cond.methodLink RL 60 yJ4_append_bf812 ∈ gT := g_mem6 (i := 177) (by decide +kernel) rfl
theorem ti_J4_append_bf812 : Cond.instanceMethod yJ4_append_bf812 ∈ gT := g_mem6 (i := 178) (by decide +kernel) rfl
theorem ts_J4_append_bf812 : Cond.selects RJ4 yJ4_append_bf812 yJ4_append_bf812 ∈ gT := g_mem6 (i := 179) (by decide +kernel) rfl
theorem tc_J4_append_bf812 : Cond.code yJ4_append_bf812 cJ4_append_bf812 2 (Option.some (Jvm.ClassFile.FieldType.object "java/lang/StringBuilder")) ∈ gT := g_mem6 (i := 180) (by decide +kernel) rfl
theorem tm_J4_53 : Cond.methodLink RJ4 53 yJ5_append_c97b9 ∈ gT := g_mem6 (i := 181) (by decide +kernel) rfl
theorem ti_J5_append_c97b9 : Cond.instanceMethod yJ5_append_c97b9 ∈ gT := g_mem6 (i := 182) (by decide +kernel) rfl
theorem tc_J5_append_c97b9 : Cond.code yJ5_append_c97b9 cJ5_append_c97b9 4 (Option.some (Jvm.ClassFile.FieldType.object "java/lang/AbstractStringBuilder")) ∈ gT := g_mem6 (i := 183) (by decide +kernel) rfl
theorem tm_J5_245 : Cond.methodLink RJ5 245 yJ6_stringSize_0f7a4 ∈ gT := g_mem6 (i := 184) (by decide +kernel) rfl
theorem tz_J6_stringSize_0f7a4 : Cond.static yJ6_stringSize_0f7a4 ∈ gT := g_mem6 (i := 185) (by decide +kernel) rfl
theorem tc_J6_stringSize_0f7a4 : Cond.code yJ6_stringSize_0f7a4 cJ6_stringSize_0f7a4 4 (Option.some Jvm.ClassFile.FieldType.int) ∈ gT := g_mem6 (i := 186) (by decide +kernel) rfl
theorem tm_J5_248 : Cond.methodLink RJ5 248 yJ6_getChars_ba4f3 ∈ gT := g_mem6 (i := 187) (by decide +kernel) rfl
theorem tz_J6_getChars_ba4f3 : Cond.static yJ6_getChars_ba4f3 ∈ gT := g_mem6 (i := 188) (by decide +kernel) rfl
theorem tc_J6_getChars_ba4f3 : Cond.code yJ6_getChars_ba4f3 cJ6_getChars_ba4f3 7 (Option.some Jvm.ClassFile.FieldType.int) ∈ gT := g_mem6 (i := 189) (by decide +kernel) rfl
theorem tf_J6_83 : Cond.fieldLink RJ6 83 "java/lang/Integer" "DigitOnes" "[B" ∈ gT := g_mem6 (i := 190) (by decide +kernel) rfl
theorem tf_J6_87 : Cond.fieldLink RJ6 87 "java/lang/Integer" "DigitTens" "[B" ∈ gT := g_mem6 (i := 192) (by decide +kernel) rfl
theorem tm_J5_251 : Cond.methodLink RJ5 251 yJ2_getChars_46870 ∈ gT := g_mem6 (i := 194) (by decide +kernel) rfl
theorem tz_J2_getChars_46870 : Cond.static yJ2_getChars_46870 ∈ gT := g_mem6 (i := 195) (by decide +kernel) rfl
theorem tc_J2_getChars_46870 : Cond.code yJ2_getChars_46870 cJ2_getChars_46870 5 (Option.some Jvm.ClassFile.FieldType.int) ∈ gT := g_mem6 (i := 196) (by decide +kernel) rfl
theorem tm_J2_393 : Cond.methodLink RJ2 393 yJ2_getChars_ba4f3 ∈ gT := g_mem6 (i := 197) (by decide +kernel) rfl
theorem tz_J2_getChars_ba4f3 : Cond.static yJ2_getChars_ba4f3 ∈ gT := g_mem6 (i := 198) (by decide +kernel) rfl
theorem tc_J2_getChars_ba4f3 : Cond.code yJ2_getChars_ba4f3 cJ2_getChars_ba4f3 7 (Option.some Jvm.ClassFile.FieldType.int) ∈ gT := g_mem6 (i := 199) (by decide +kernel) rfl
theorem tf_J2_403 : Cond.fieldLink RJ2 403 "java/lang/Integer" "DigitOnes" "[B" ∈ gT := g_mem6 (i := 200) (by decide +kernel) rfl
theorem tf_J2_407 : Cond.fieldLink RJ2 407 "java/lang/Integer" "DigitTens" "[B" ∈ gT := g_mem6 (i := 201) (by decide +kernel) rfl
theorem tl_L_94 : Cond.classLink RL 94 RX15 ∈ gT := g_mem6 (i := 214) (by decide +kernel) rfl
theorem ta_X15 : Cond.instantiable RX15 4 ∈ gT := g_mem6 (i := 215) (by decide +kernel) rfl
theorem tm_L_100 : Cond.methodLink RL 100 yX15_init ∈ gT := g_mem6 (i := 216) (by decide +kernel) rfl
theorem ti_X15_init : Cond.instanceMethod yX15_init ∈ gT := g_mem6 (i := 217) (by decide +kernel) rfl
theorem tc_X15_init : Cond.code yX15_init cX15_init 4 (Option.none : Option Jvm.ClassFile.FieldType) ∈ gT := g_mem6 (i := 218) (by decide +kernel) rfl
theorem tm_X15_1 : Cond.methodLink RX15 1 ⟨"java/lang/Object", "<init>", "()V"⟩ ∈ gT := g_mem6 (i := 219) (by decide +kernel) rfl
theorem tm_X15_7 : Cond.methodLink RX15 7 yX13_next ∈ gT := g_mem6 (i := 220) (by decide +kernel) rfl
theorem tm_X15_22 : Cond.methodLink RX15 22 yX14_sum ∈ gT := g_mem6 (i := 221) (by decide +kernel) rfl
theorem tz_X14_sum : Cond.static yX14_sum ∈ gT := g_mem6 (i := 222) (by decide +kernel) rfl
theorem tc_X14_sum : Cond.code yX14_sum cX14_sum 5 (Option.some (Jvm.ClassFile.FieldType.object "GlideWhistlesLaw$Node")) ∈ gT := g_mem6 (i := 223) (by decide +kernel) rfl
theorem tm_X14_23 : Cond.methodLink RX14 23 yX13_next ∈ gT := g_mem6 (i := 224) (by decide +kernel) rfl
theorem tl_X14_8 : Cond.classLink RX14 8 RX14 ∈ gT := g_mem6 (i := 225) (by decide +kernel) rfl
theorem ta_X14 : Cond.instantiable RX14 4 ∈ gT := g_mem6 (i := 226) (by decide +kernel) rfl
theorem tq_X14_29 : Cond.constant RX14 29 (1000000 : Int32) ∈ gT := g_mem6 (i := 227) (by decide +kernel) rfl
theorem tm_X14_30 : Cond.methodLink RX14 30 yX14_init ∈ gT := g_mem6 (i := 228) (by decide +kernel) rfl
theorem ti_X14_init : Cond.instanceMethod yX14_init ∈ gT := g_mem6 (i := 229) (by decide +kernel) rfl
theorem tc_X14_init : Cond.code yX14_init cX14_init 5 (Option.none : Option Jvm.ClassFile.FieldType) ∈ gT := g_mem6 (i := 230) (by decide +kernel) rfl
theorem tm_X14_1 : Cond.methodLink RX14 1 ⟨"java/lang/Object", "<init>", "()V"⟩ ∈ gT := g_mem6 (i := 231) (by decide +kernel) rfl
theorem tf_X14_7 : Cond.fieldLink RX14 7 "GlideWhistlesLaw$Node" "sort" "I" ∈ gT := g_mem6 (i := 232) (by decide +kernel) rfl
theorem tf_X14_13 : Cond.fieldLink RX14 13 "GlideWhistlesLaw$Node" "n" "I" ∈ gT := g_mem6 (i := 233) (by decide +kernel) rfl
theorem tf_X14_16 : Cond.fieldLink RX14 16 "GlideWhistlesLaw$Node" "a" "LGlideWhistlesLaw$Node;" ∈ gT := g_mem6 (i := 234) (by decide +kernel) rfl
theorem tf_X14_20 : Cond.fieldLink RX14 20 "GlideWhistlesLaw$Node" "b" "LGlideWhistlesLaw$Node;" ∈ gT := g_mem6 (i := 235) (by decide +kernel) rfl
theorem tm_X14_33 : Cond.methodLink RX14 33 yX14_sum ∈ gT := g_mem7 (i := 5) (by decide +kernel) rfl
theorem tm_X15_31 : Cond.methodLink RX15 31 yX14_test ∈ gT := g_mem7 (i := 6) (by decide +kernel) rfl
theorem tz_X14_test : Cond.static yX14_test ∈ gT := g_mem7 (i := 7) (by decide +kernel) rfl
theorem tc_X14_test : Cond.code yX14_test cX14_test 5 (Option.some (Jvm.ClassFile.FieldType.object "GlideWhistlesLaw$Node")) ∈ gT := g_mem7 (i := 8) (by decide +kernel) rfl
theorem tm_X14_37 : Cond.methodLink RX14 37 yX14_test ∈ gT := g_mem7 (i := 9) (by decide +kernel) rfl
theorem tf_X15_13 : Cond.fieldLink RX15 13 "GlideWhistlesLaw$Rule" "does" "I" ∈ gT := g_mem7 (i := 10) (by decide +kernel) rfl
theorem tf_X15_19 : Cond.fieldLink RX15 19 "GlideWhistlesLaw$Rule" "word" "I" ∈ gT := g_mem7 (i := 11) (by decide +kernel) rfl
theorem tf_X15_28 : Cond.fieldLink RX15 28 "GlideWhistlesLaw$Rule" "sum" "LGlideWhistlesLaw$Node;" ∈ gT := g_mem7 (i := 12) (by decide +kernel) rfl
theorem tf_X15_34 : Cond.fieldLink RX15 34 "GlideWhistlesLaw$Rule" "test" "LGlideWhistlesLaw$Node;" ∈ gT := g_mem7 (i := 13) (by decide +kernel) rfl
theorem tm_L_103 : Cond.methodLink RL 103 yX15_text ∈ gT := g_mem7 (i := 23) (by decide +kernel) rfl
theorem ti_X15_text : Cond.instanceMethod yX15_text ∈ gT := g_mem7 (i := 24) (by decide +kernel) rfl
theorem ts_X15_text : Cond.selects RX15 yX15_text yX15_text ∈ gT := g_mem7 (i := 25) (by decide +kernel) rfl
theorem tc_X15_text : Cond.code yX15_text cX15_text 1 (Option.some (Jvm.ClassFile.FieldType.object "java/lang/String")) ∈ gT := g_mem7 (i := 26) (by decide +kernel) rfl
theorem tl_X15_36 : Cond.classLink RX15 36 RJ4 ∈ gT := g_mem7 (i := 27) (by decide +kernel) rfl
theorem ta_J4 : Cond.instantiable RJ4 4 ∈ gT := g_mem7 (i := 28) (by decide +kernel) rfl
theorem tm_X15_38 : Cond.methodLink RX15 38 yJ4_init_da8c8 ∈ gT := g_mem7 (i := 29) (by decide +kernel) rfl
theorem ti_J4_init_da8c8 : Cond.instanceMethod yJ4_init_da8c8 ∈ gT := g_mem7 (i := 30) (by decide +kernel) rfl
theorem tc_J4_init_da8c8 : Cond.code yJ4_init_da8c8 cJ4_init_da8c8 1 (Option.none : Option Jvm.ClassFile.FieldType) ∈ gT := g_mem7 (i := 31) (by decide +kernel) rfl
theorem tm_J4_1 : Cond.methodLink RJ4 1 yJ5_init_d00df ∈ gT := g_mem7 (i := 32) (by decide +kernel) rfl
theorem ti_J5_init_d00df : Cond.instanceMethod yJ5_init_d00df ∈ gT := g_mem7 (i := 33) (by decide +kernel) rfl
theorem tc_J5_init_d00df : Cond.code yJ5_init_d00df cJ5_init_d00df 2 (Option.none : Option Jvm.ClassFile.FieldType) ∈ gT := g_mem7 (i := 34) (by decide +kernel) rfl
theorem tm_J5_3 : Cond.methodLink RJ5 3 ⟨"java/lang/Object", "<init>", "()V"⟩ ∈ gT := g_mem7 (i := 35) (by decide +kernel) rfl
theorem tf_J5_15 : Cond.fieldLink RJ5 15 "java/lang/AbstractStringBuilder" "value" "[B" ∈ gT := g_mem7 (i := 36) (by decide +kernel) rfl
theorem tf_J5_22 : Cond.fieldLink RJ5 22 "java/lang/AbstractStringBuilder" "coder" "B" ∈ gT := g_mem7 (i := 37) (by decide +kernel) rfl
theorem tf_J0_1048 : Cond.fieldLink RJ0 1048 "java/lang/AbstractStringBuilder" "maybeLatin1" "Z" ∈ gT := g_mem7 (i := 38) (by decide +kernel) rfl
theorem tf_J5_79 : Cond.fieldLink RJ5 79 "java/lang/AbstractStringBuilder" "count" "I" ∈ gT := g_mem7 (i := 39) (by decide +kernel) rfl
theorem tm_X15_41 : Cond.methodLink RX15 41 yJ4_append_15ec4 ∈ gT := g_mem7 (i := 49) (by decide +kernel) rfl
theorem tm_X15_45 : Cond.methodLink RX15 45 yJ4_append_bf812 ∈ gT := g_mem7 (i := 50) (by decide +kernel) rfl
theorem tm_X15_48 : Cond.methodLink RX15 48 yJ4_toString_0e30d ∈ gT := g_mem7 (i := 51) (by decide +kernel) rfl
theorem ti_J4_toString_0e30d : Cond.instanceMethod yJ4_toString_0e30d ∈ gT := g_mem7 (i := 52) (by decide +kernel) rfl
theorem ts_J4_toString_0e30d : Cond.selects RJ4 yJ4_toString_0e30d yJ4_toString_0e30d ∈ gT := g_mem7 (i := 53) (by decide +kernel) rfl
theorem tc_J4_toString_0e30d : Cond.code yJ4_toString_0e30d cJ4_toString_0e30d 1 (Option.some (Jvm.ClassFile.FieldType.object "java/lang/String")) ∈ gT := g_mem7 (i := 54) (by decide +kernel) rfl
theorem tl_J4_18 : Cond.classLink RJ4 18 RJ0 ∈ gT := g_mem7 (i := 55) (by decide +kernel) rfl
theorem ta_J0 : Cond.instantiable RJ0 4 ∈ gT := g_mem7 (i := 56) (by decide +kernel) rfl
theorem tm_J4_137 : Cond.methodLink RJ4 137 yJ0_init_81219 ∈ gT := g_mem7 (i := 57) (by decide +kernel) rfl
theorem ti_J0_init_81219 : Cond.instanceMethod yJ0_init_81219 ∈ gT := g_mem7 (i := 58) (by decide +kernel) rfl
theorem tc_J0_init_81219 : Cond.code yJ0_init_81219 cJ0_init_81219 2 (Option.none : Option Jvm.ClassFile.FieldType) ∈ gT := g_mem7 (i := 59) (by decide +kernel) rfl
theorem tm_J0_489 : Cond.methodLink RJ0 489 yJ0_init_db425 ∈ gT := g_mem7 (i := 60) (by decide +kernel) rfl
theorem ti_J0_init_db425 : Cond.instanceMethod yJ0_init_db425 ∈ gT := g_mem7 (i := 61) (by decide +kernel) rfl
theorem tc_J0_init_db425 : Cond.code yJ0_init_db425 cJ0_init_db425 5 (Option.none : Option Jvm.ClassFile.FieldType) ∈ gT := g_mem7 (i := 62) (by decide +kernel) rfl
theorem tm_J0_1 : Cond.methodLink RJ0 1 ⟨"java/lang/Object", "<init>", "()V"⟩ ∈ gT := g_mem7 (i := 63) (by decide +kernel) rfl
theorem tm_J0_552 : Cond.methodLink RJ0 552 yJ5_getValue_6d5f1 ∈ gT := g_mem7 (i := 64) (by decide +kernel) rfl
theorem ti_J5_getValue_6d5f1 : Cond.instanceMethod yJ5_getValue_6d5f1 ∈ gT := g_mem7 (i := 65) (by decide +kernel) rfl
theorem ts_J5_getValue_6d5f1 : Cond.selects RJ4 yJ5_getValue_6d5f1 yJ5_getValue_6d5f1 ∈ gT := g_mem7 (i := 67) (by decide +kernel) rfl
theorem tc_J5_getValue_6d5f1 : Cond.code yJ5_getValue_6d5f1 cJ5_getValue_6d5f1 1 (Option.some (Jvm.ClassFile.FieldType.array Jvm.ClassFile.FieldType.byte)) ∈ gT := g_mem7 (i := 68) (by decide +kernel) rfl
theorem tm_J0_549 : Cond.methodLink RJ0 549 yJ5_length_8abf5 ∈ gT := g_mem7 (i := 69) (by decide +kernel) rfl
theorem ti_J5_length_8abf5 : Cond.instanceMethod yJ5_length_8abf5 ∈ gT := g_mem7 (i := 70) (by decide +kernel) rfl
theorem ts_J4_length_8abf5 : Cond.selects RJ4 yJ5_length_8abf5 yJ4_length_8abf5 ∈ gT := g_mem7 (i := 72) (by decide +kernel) rfl
theorem ti_J4_length_8abf5 : Cond.instanceMethod yJ4_length_8abf5 ∈ gT := g_mem7 (i := 73) (by decide +kernel) rfl
theorem tc_J4_length_8abf5 : Cond.code yJ4_length_8abf5 cJ4_length_8abf5 1 (Option.some Jvm.ClassFile.FieldType.int) ∈ gT := g_mem7 (i := 74) (by decide +kernel) rfl
theorem tm_J4_343 : Cond.methodLink RJ4 343 yJ5_length_8abf5 ∈ gT := g_mem7 (i := 75) (by decide +kernel) rfl
theorem tc_J5_length_8abf5 : Cond.code yJ5_length_8abf5 cJ5_length_8abf5 1 (Option.some Jvm.ClassFile.FieldType.int) ∈ gT := g_mem7 (i := 76) (by decide +kernel) rfl
theorem tm_J0_1047 : Cond.methodLink RJ0 1047 yJ5_isLatin1_aae02 ∈ gT := g_mem7 (i := 77) (by decide +kernel) rfl
theorem tm_J0_54 : Cond.methodLink RJ0 54 yJ7_copyOfRange_39247 ∈ gT := g_mem7 (i := 78) (by decide +kernel) rfl
theorem tz_J7_copyOfRange_39247 : Cond.static yJ7_copyOfRange_39247 ∈ gT := g_mem7 (i := 79) (by decide +kernel) rfl
theorem tc_J7_copyOfRange_39247 : Cond.code yJ7_copyOfRange_39247 cJ7_copyOfRange_39247 3 (Option.some (Jvm.ClassFile.FieldType.array Jvm.ClassFile.FieldType.byte)) ∈ gT := g_mem7 (i := 80) (by decide +kernel) rfl
theorem tm_J7_339 : Cond.methodLink RJ7 339 yJ7_copyOfRangeByte_39247 ∈ gT := g_mem7 (i := 81) (by decide +kernel) rfl
theorem tz_J7_copyOfRangeByte_39247 : Cond.static yJ7_copyOfRangeByte_39247 ∈ gT := g_mem7 (i := 82) (by decide +kernel) rfl
theorem tc_J7_copyOfRangeByte_39247 : Cond.code yJ7_copyOfRangeByte_39247 cJ7_copyOfRangeByte_39247 5 (Option.some (Jvm.ClassFile.FieldType.array Jvm.ClassFile.FieldType.byte)) ∈ gT := g_mem7 (i := 83) (by decide +kernel) rfl
theorem tm_J7_343 : Cond.methodLink RJ7 343 yJ7_checkLength_df160 ∈ gT := g_mem7 (i := 84) (by decide +kernel) rfl
theorem tz_J7_checkLength_df160 : Cond.static yJ7_checkLength_df160 ∈ gT := g_mem7 (i := 85) (by decide +kernel) rfl
theorem tc_J7_checkLength_df160 : Cond.code yJ7_checkLength_df160 cJ7_checkLength_df160 2 (Option.none : Option Jvm.ClassFile.FieldType) ∈ gT := g_mem7 (i := 86) (by decide +kernel) rfl
theorem tm_J0_1051 : Cond.methodLink RJ0 1051 yJ2_compress_39247 ∈ gT := g_mem7 (i := 87) (by decide +kernel) rfl
theorem tz_J2_compress_39247 : Cond.static yJ2_compress_39247 ∈ gT := g_mem7 (i := 88) (by decide +kernel) rfl
theorem tc_J2_compress_39247 : Cond.code yJ2_compress_39247 cJ2_compress_39247 6 (Option.some (Jvm.ClassFile.FieldType.array Jvm.ClassFile.FieldType.byte)) ∈ gT := g_mem7 (i := 89) (by decide +kernel) rfl
theorem tm_J2_123 : Cond.methodLink RJ2 123 yJ2_compress_5af95 ∈ gT := g_mem7 (i := 90) (by decide +kernel) rfl
theorem tz_J2_compress_5af95 : Cond.static yJ2_compress_5af95 ∈ gT := g_mem7 (i := 91) (by decide +kernel) rfl
theorem tc_J2_compress_5af95 : Cond.code yJ2_compress_5af95 cJ2_compress_5af95 7 (Option.some Jvm.ClassFile.FieldType.int) ∈ gT := g_mem7 (i := 92) (by decide +kernel) rfl
theorem tm_J2_126 : Cond.methodLink RJ2 126 yJ7_copyOfRange_39247 ∈ gT := g_mem7 (i := 93) (by decide +kernel) rfl
theorem tm_J0_47 : Cond.methodLink RJ0 47 yJ2_coderFromArrayLen_85cad ∈ gT := g_mem7 (i := 94) (by decide +kernel) rfl
theorem tz_J2_coderFromArrayLen_85cad : Cond.static yJ2_coderFromArrayLen_85cad ∈ gT := g_mem7 (i := 95) (by decide +kernel) rfl
theorem tc_J2_coderFromArrayLen_85cad : Cond.code yJ2_coderFromArrayLen_85cad cJ2_coderFromArrayLen_85cad 2 (Option.some Jvm.ClassFile.FieldType.byte) ∈ gT := g_mem7 (i := 96) (by decide +kernel) rfl
theorem tf_J0_9 : Cond.fieldLink RJ0 9 "java/lang/String" "value" "[B" ∈ gT := g_mem7 (i := 97) (by decide +kernel) rfl
theorem tf_J0_15 : Cond.fieldLink RJ0 15 "java/lang/String" "coder" "B" ∈ gT := g_mem7 (i := 98) (by decide +kernel) rfl
theorem tm_X15_58 : Cond.methodLink RX15 58 yX14_text ∈ gT := g_mem7 (i := 111) (by decide +kernel) rfl
theorem ti_X14_text : Cond.instanceMethod yX14_text ∈ gT := g_mem7 (i := 112) (by decide +kernel) rfl
theorem ts_X14_text : Cond.selects RX14 yX14_text yX14_text ∈ gT := g_mem7 (i := 113) (by decide +kernel) rfl
theorem tc_X14_text : Cond.code yX14_text cX14_text 1 (Option.some (Jvm.ClassFile.FieldType.object "java/lang/String")) ∈ gT := g_mem7 (i := 114) (by decide +kernel) rfl
theorem tl_X14_40 : Cond.classLink RX14 40 RJ4 ∈ gT := g_mem7 (i := 115) (by decide +kernel) rfl
theorem tm_X14_42 : Cond.methodLink RX14 42 yJ4_init_da8c8 ∈ gT := g_mem7 (i := 116) (by decide +kernel) rfl
theorem tm_X14_45 : Cond.methodLink RX14 45 yJ4_append_15ec4 ∈ gT := g_mem7 (i := 118) (by decide +kernel) rfl
theorem tm_X14_49 : Cond.methodLink RX14 49 yJ4_append_bf812 ∈ gT := g_mem7 (i := 119) (by decide +kernel) rfl
theorem tm_X14_52 : Cond.methodLink RX14 52 yJ4_toString_0e30d ∈ gT := g_mem7 (i := 120) (by decide +kernel) rfl
theorem tm_X14_66 : Cond.methodLink RX14 66 yX14_text ∈ gT := g_mem7 (i := 126) (by decide +kernel) rfl
theorem tfN_X14_95 : Cond.fieldLinkNest RX14 95 "GlideWhistlesLaw" "SIGNS" "[Ljava/lang/String;" "GlideWhistlesLaw" ∈ gN := g_nem7 (i := 140) (by decide +kernel) rfl
theorem tm_L_172 : Cond.methodLink RL 172 yL_act ∈ gT := g_mem7 (i := 144) (by decide +kernel) rfl
theorem tz_L_act : Cond.static yL_act ∈ gT := g_mem7 (i := 145) (by decide +kernel) rfl
theorem tc_L_act : Cond.codeWith yL_act cL_act 9 (Option.some Jvm.ClassFile.FieldType.boolean) [((176 : Nat), (198 : Nat), (199 : Nat), (119 : Nat))] ∈ gT := g_mem7 (i := 146) (by decide +kernel) rfl
theorem tl_L_119 : Cond.classLink RL 119 "java/lang/IllegalStateException" ∈ gT := g_mem7 (i := 147) (by decide +kernel) rfl
theorem tm_L_110 : Cond.methodLink RL 110 yX16_pass_ ∈ gT := g_mem7 (i := 148) (by decide +kernel) rfl
theorem ti_X16_pass_ : Cond.instanceMethod yX16_pass_ ∈ gT := g_mem7 (i := 149) (by decide +kernel) rfl
theorem ts_X16_pass_ : Cond.selects RX16 yX16_pass_ yX16_pass_ ∈ gT := g_mem7 (i := 150) (by decide +kernel) rfl
theorem tc_X16_pass_ : Cond.code yX16_pass_ cX16_pass_ 4 (Option.some Jvm.ClassFile.FieldType.int) ∈ gT := g_mem7 (i := 151) (by decide +kernel) rfl
theorem tm_X16_83 : Cond.methodLink RX16 83 yX16_pass ∈ gT := g_mem7 (i := 152) (by decide +kernel) rfl
theorem tm_L_116 : Cond.methodLink RL 116 yX12_hear ∈ gT := g_mem7 (i := 153) (by decide +kernel) rfl
theorem ti_X12_hear : Cond.instanceMethod yX12_hear ∈ gT := g_mem7 (i := 154) (by decide +kernel) rfl
theorem ts_X12_hear : Cond.selects RX12 yX12_hear yX12_hear ∈ gT := g_mem7 (i := 155) (by decide +kernel) rfl
theorem tc_X12_hear : Cond.code yX12_hear cX12_hear 2 (Option.some Jvm.ClassFile.FieldType.int) ∈ gT := g_mem7 (i := 156) (by decide +kernel) rfl
theorem tm_X12_204 : Cond.methodLink RX12 204 yX3_add ∈ gT := g_mem7 (i := 159) (by decide +kernel) rfl
theorem tm_X12_207 : Cond.methodLink RX12 207 yX1_measureAll ∈ gT := g_mem7 (i := 160) (by decide +kernel) rfl
theorem ti_X1_measureAll : Cond.instanceMethod yX1_measureAll ∈ gT := g_mem7 (i := 161) (by decide +kernel) rfl
theorem ts_X1_measureAll : Cond.selects RX1 yX1_measureAll yX1_measureAll ∈ gT := g_mem7 (i := 162) (by decide +kernel) rfl
theorem tc_X1_measureAll : Cond.code yX1_measureAll cX1_measureAll 4 (Option.none : Option Jvm.ClassFile.FieldType) ∈ gT := g_mem7 (i := 163) (by decide +kernel) rfl
theorem tm_L_125 : Cond.methodLink RL 125 yX12_hearWord ∈ gT := g_mem7 (i := 164) (by decide +kernel) rfl
theorem ti_X12_hearWord : Cond.instanceMethod yX12_hearWord ∈ gT := g_mem7 (i := 165) (by decide +kernel) rfl
theorem ts_X12_hearWord : Cond.selects RX12 yX12_hearWord yX12_hearWord ∈ gT := g_mem7 (i := 166) (by decide +kernel) rfl
theorem tc_X12_hearWord : Cond.code yX12_hearWord cX12_hearWord 3 (Option.some Jvm.ClassFile.FieldType.int) ∈ gT := g_mem7 (i := 167) (by decide +kernel) rfl
theorem tm_L_129 : Cond.methodLink RL 129 yX12_turnPruned ∈ gT := g_mem7 (i := 169) (by decide +kernel) rfl
theorem ti_X12_turnPruned : Cond.instanceMethod yX12_turnPruned ∈ gT := g_mem7 (i := 170) (by decide +kernel) rfl
theorem ts_X12_turnPruned : Cond.selects RX12 yX12_turnPruned yX12_turnPruned ∈ gT := g_mem7 (i := 171) (by decide +kernel) rfl
theorem tc_X12_turnPruned : Cond.code yX12_turnPruned cX12_turnPruned 3 (Option.some Jvm.ClassFile.FieldType.boolean) ∈ gT := g_mem7 (i := 172) (by decide +kernel) rfl
theorem tm_L_133 : Cond.methodLink RL 133 yX12_forget ∈ gT := g_mem7 (i := 173) (by decide +kernel) rfl
theorem ti_X12_forget : Cond.instanceMethod yX12_forget ∈ gT := g_mem7 (i := 174) (by decide +kernel) rfl
theorem ts_X12_forget : Cond.selects RX12 yX12_forget yX12_forget ∈ gT := g_mem7 (i := 175) (by decide +kernel) rfl
theorem tc_X12_forget : Cond.code yX12_forget cX12_forget 2 (Option.some Jvm.ClassFile.FieldType.int) ∈ gT := g_mem7 (i := 176) (by decide +kernel) rfl
theorem tm_L_136 : Cond.methodLink RL 136 yX16_needless ∈ gT := g_mem7 (i := 177) (by decide +kernel) rfl
theorem ti_X16_needless : Cond.instanceMethod yX16_needless ∈ gT := g_mem7 (i := 178) (by decide +kernel) rfl
theorem ts_X16_needless : Cond.selects RX16 yX16_needless yX16_needless ∈ gT := g_mem7 (i := 179) (by decide +kernel) rfl
theorem tc_X16_needless : Cond.code yX16_needless cX16_needless 3 (Option.some Jvm.ClassFile.FieldType.boolean) ∈ gT := g_mem7 (i := 180) (by decide +kernel) rfl
theorem tm_X16_73 : Cond.methodLink RX16 73 yX16_near ∈ gT := g_mem7 (i := 181) (by decide +kernel) rfl
theorem ti_X16_near : Cond.instanceMethod yX16_near ∈ gT := g_mem7 (i := 182) (by decide +kernel) rfl
theorem ts_X16_near : Cond.selects RX16 yX16_near yX16_near ∈ gT := g_mem7 (i := 183) (by decide +kernel) rfl
theorem tc_X16_near : Cond.code yX16_near cX16_near 4 (Option.some Jvm.ClassFile.FieldType.boolean) ∈ gT := g_mem7 (i := 184) (by decide +kernel) rfl
theorem tm_L_183 : Cond.methodLink RL 183 yL_meant ∈ gT := g_mem7 (i := 185) (by decide +kernel) rfl
theorem tz_L_meant : Cond.static yL_meant ∈ gT := g_mem7 (i := 186) (by decide +kernel) rfl
theorem tc_L_meant : Cond.codeWith yL_meant cL_meant 2 (Option.some Jvm.ClassFile.FieldType.int) [((0 : Nat), (4 : Nat), (5 : Nat), (119 : Nat))] ∈ gT := g_mem7 (i := 187) (by decide +kernel) rfl
theorem tm_L_142 : Cond.methodLink RL 142 yX12_meantWord ∈ gT := g_mem7 (i := 188) (by decide +kernel) rfl
theorem ti_X12_meantWord : Cond.instanceMethod yX12_meantWord ∈ gT := g_mem7 (i := 189) (by decide +kernel) rfl
theorem ts_X12_meantWord : Cond.selects RX12 yX12_meantWord yX12_meantWord ∈ gT := g_mem7 (i := 190) (by decide +kernel) rfl
theorem tc_X12_meantWord : Cond.code yX12_meantWord cX12_meantWord 2 (Option.some Jvm.ClassFile.FieldType.int) ∈ gT := g_mem7 (i := 191) (by decide +kernel) rfl
theorem tm_X12_194 : Cond.methodLink RX12 194 yX12_requireMeant ∈ gT := g_mem7 (i := 192) (by decide +kernel) rfl
theorem tz_X12_requireMeant : Cond.static yX12_requireMeant ∈ gT := g_mem7 (i := 193) (by decide +kernel) rfl
theorem tc_X12_requireMeant : Cond.code yX12_requireMeant cX12_requireMeant 1 (Option.none : Option Jvm.ClassFile.FieldType) ∈ gT := g_mem7 (i := 194) (by decide +kernel) rfl
theorem tm_L_187 : Cond.methodLink RL 187 yL_surety ∈ gT := g_mem7 (i := 196) (by decide +kernel) rfl
theorem tz_L_surety : Cond.static yL_surety ∈ gT := g_mem7 (i := 197) (by decide +kernel) rfl
theorem tc_L_surety : Cond.codeWith yL_surety cL_surety 2 (Option.some Jvm.ClassFile.FieldType.int) [((0 : Nat), (4 : Nat), (5 : Nat), (119 : Nat))] ∈ gT := g_mem7 (i := 198) (by decide +kernel) rfl
theorem tm_L_145 : Cond.methodLink RL 145 yX12_surety ∈ gT := g_mem7 (i := 199) (by decide +kernel) rfl
theorem ti_X12_surety : Cond.instanceMethod yX12_surety ∈ gT := g_mem7 (i := 200) (by decide +kernel) rfl
theorem ts_X12_surety : Cond.selects RX12 yX12_surety yX12_surety ∈ gT := g_mem7 (i := 201) (by decide +kernel) rfl
theorem tc_X12_surety : Cond.code yX12_surety cX12_surety 3 (Option.some Jvm.ClassFile.FieldType.int) ∈ gT := g_mem7 (i := 202) (by decide +kernel) rfl
theorem tm_X12_197 : Cond.methodLink RX12 197 yX9_closestKept ∈ gT := g_mem7 (i := 203) (by decide +kernel) rfl
theorem tm_L_201 : Cond.methodLink RL 201 yJ6_compare_7cf53 ∈ gT := g_mem7 (i := 204) (by decide +kernel) rfl
theorem tz_J6_compare_7cf53 : Cond.static yJ6_compare_7cf53 ∈ gT := g_mem7 (i := 205) (by decide +kernel) rfl
theorem tc_J6_compare_7cf53 : Cond.code yJ6_compare_7cf53 cJ6_compare_7cf53 2 (Option.some Jvm.ClassFile.FieldType.int) ∈ gT := g_mem7 (i := 206) (by decide +kernel) rfl
theorem tm_L_249 : Cond.methodLink RL 249 yJ9_abs_0f7a4 ∈ gT := g_mem7 (i := 207) (by decide +kernel) rfl
theorem tm_L_212 : Cond.methodLink RL 212 yJ9_max_7cf53 ∈ gT := g_mem7 (i := 208) (by decide +kernel) rfl
theorem tl_L_55 : Cond.classLink RL 55 RJ4 ∈ gT := g_mem7 (i := 209) (by decide +kernel) rfl
theorem tm_L_158 : Cond.methodLink RL 158 yJ4_init_da8c8 ∈ gT := g_mem7 (i := 210) (by decide +kernel) rfl
theorem tm_L_163 : Cond.methodLink RL 163 yJ4_toString_0e30d ∈ gT := g_mem7 (i := 211) (by decide +kernel) rfl
theorem tfN_X8_85 : Cond.fieldLinkNest RX8 85 "GlideWhistles$Sign" "text" "Ljava/lang/String;" "GlideWhistles" ∈ gN := g_nem7 (i := 221) (by decide +kernel) rfl
theorem tf_Jx29ce0_7 : Cond.fieldLink RJx29ce0 7 "java/lang/Enum" "ordinal" "I" ∈ gT := g_mem7 (i := 222) (by decide +kernel) rfl
theorem ts_X12_requireWord : Cond.selects RX12 yX12_requireWord yX12_requireWord ∈ gT := g_mem0 (i := 0) (by decide +kernel) rfl
theorem ts_X12_rowOf : Cond.selects RX12 yX12_rowOf yX12_rowOf ∈ gT := g_mem0 (i := 2) (by decide +kernel) rfl
theorem ts_X12_wordsApart : Cond.selects RX12 yX12_wordsApart yX12_wordsApart ∈ gT := g_mem0 (i := 3) (by decide +kernel) rfl
theorem ts_X10_lightest : Cond.selects RX10 yX10_lightest yX10_lightest ∈ gT := g_mem0 (i := 4) (by decide +kernel) rfl
theorem ts_X12_nearEachOther : Cond.selects RX12 yX12_nearEachOther yX12_nearEachOther ∈ gT := g_mem0 (i := 5) (by decide +kernel) rfl
theorem ts_X12_needless : Cond.selects RX12 yX12_needless yX12_needless ∈ gT := g_mem0 (i := 6) (by decide +kernel) rfl
theorem ts_X12_requireSomeHeard : Cond.selects RX12 yX12_requireSomeHeard yX12_requireSomeHeard ∈ gT := g_mem0 (i := 7) (by decide +kernel) rfl
theorem ts_X1_holds : Cond.selects RX1 yX1_holds yX1_holds ∈ gT := g_mem0 (i := 8) (by decide +kernel) rfl
theorem ts_X1_reckon : Cond.selects RX1 yX1_reckon yX1_reckon ∈ gT := g_mem0 (i := 9) (by decide +kernel) rfl
theorem ts_X1_pop : Cond.selects RX1 yX1_pop yX1_pop ∈ gT := g_mem0 (i := 10) (by decide +kernel) rfl
theorem ts_X1_push : Cond.selects RX1 yX1_push yX1_push ∈ gT := g_mem0 (i := 11) (by decide +kernel) rfl
theorem ts_X1_found : Cond.selects RX1 yX1_found yX1_found ∈ gT := g_mem0 (i := 12) (by decide +kernel) rfl
theorem ts_X1_changes : Cond.selects RX1 yX1_changes yX1_changes ∈ gT := g_mem0 (i := 13) (by decide +kernel) rfl
theorem ts_X1_measure : Cond.selects RX1 yX1_measure yX1_measure ∈ gT := g_mem0 (i := 14) (by decide +kernel) rfl
theorem ts_X12_distanceIfShifted : Cond.selects RX12 yX12_distanceIfShifted yX12_distanceIfShifted ∈ gT := g_mem0 (i := 15) (by decide +kernel) rfl
theorem ts_X12_digestOfWord : Cond.selects RX12 yX12_digestOfWord yX12_digestOfWord ∈ gT := g_mem0 (i := 16) (by decide +kernel) rfl
theorem ts_X8_readToken : Cond.selects RX8 yX8_readToken yX8_readToken ∈ gT := g_mem0 (i := 17) (by decide +kernel) rfl
theorem ts_X8_add : Cond.selects RX8 yX8_add yX8_add ∈ gT := g_mem0 (i := 18) (by decide +kernel) rfl
theorem ts_X8_readWord : Cond.selects RX8 yX8_readWord yX8_readWord ∈ gT := g_mem0 (i := 19) (by decide +kernel) rfl
theorem ts_X8_longestSpelled : Cond.selects RX8 yX8_longestSpelled yX8_longestSpelled ∈ gT := g_mem0 (i := 20) (by decide +kernel) rfl
theorem ts_X8_firstAlike : Cond.selects RX8 yX8_firstAlike yX8_firstAlike ∈ gT := g_mem0 (i := 21) (by decide +kernel) rfl
theorem ts_X8_readNumber : Cond.selects RX8 yX8_readNumber yX8_readNumber ∈ gT := g_mem0 (i := 22) (by decide +kernel) rfl
theorem ts_X8_readSymbol : Cond.selects RX8 yX8_readSymbol yX8_readSymbol ∈ gT := g_mem0 (i := 23) (by decide +kernel) rfl
theorem ts_X2_step : Cond.selects RX2 yX2_step yX2_step ∈ gT := g_mem0 (i := 24) (by decide +kernel) rfl
theorem ts_X2_readWord : Cond.selects RX2 yX2_readWord yX2_readWord ∈ gT := g_mem0 (i := 25) (by decide +kernel) rfl
theorem ts_X2_readNewName : Cond.selects RX2 yX2_readNewName yX2_readNewName ∈ gT := g_mem0 (i := 26) (by decide +kernel) rfl
theorem ts_X2_refuse : Cond.selects RX2 yX2_refuse yX2_refuse ∈ gT := g_mem0 (i := 27) (by decide +kernel) rfl
theorem ts_X2_wordCalled : Cond.selects RX2 yX2_wordCalled yX2_wordCalled ∈ gT := g_mem0 (i := 28) (by decide +kernel) rfl
theorem ts_X2_blame : Cond.selects RX2 yX2_blame yX2_blame ∈ gT := g_mem0 (i := 29) (by decide +kernel) rfl
theorem ts_X2_expect : Cond.selects RX2 yX2_expect yX2_expect ∈ gT := g_mem0 (i := 30) (by decide +kernel) rfl
theorem ts_X2_readPart : Cond.selects RX2 yX2_readPart yX2_readPart ∈ gT := g_mem0 (i := 31) (by decide +kernel) rfl
theorem ts_X2_readNumber : Cond.selects RX2 yX2_readNumber yX2_readNumber ∈ gT := g_mem0 (i := 32) (by decide +kernel) rfl
theorem ts_X2_readRule : Cond.selects RX2 yX2_readRule yX2_readRule ∈ gT := g_mem0 (i := 33) (by decide +kernel) rfl
theorem ts_X2_readKnownName : Cond.selects RX2 yX2_readKnownName yX2_readKnownName ∈ gT := g_mem0 (i := 34) (by decide +kernel) rfl
theorem ts_X2_readSum : Cond.selects RX2 yX2_readSum yX2_readSum ∈ gT := g_mem0 (i := 35) (by decide +kernel) rfl
theorem ts_X2_readProduct : Cond.selects RX2 yX2_readProduct yX2_readProduct ∈ gT := g_mem0 (i := 36) (by decide +kernel) rfl
theorem ts_X2_readValue : Cond.selects RX2 yX2_readValue yX2_readValue ∈ gT := g_mem0 (i := 37) (by decide +kernel) rfl
theorem ts_X2_requireDepth : Cond.selects RX2 yX2_requireDepth yX2_requireDepth ∈ gT := g_mem0 (i := 38) (by decide +kernel) rfl
theorem ts_X2_readChoice : Cond.selects RX2 yX2_readChoice yX2_readChoice ∈ gT := g_mem0 (i := 39) (by decide +kernel) rfl
theorem ts_X2_readTest : Cond.selects RX2 yX2_readTest yX2_readTest ∈ gT := g_mem0 (i := 40) (by decide +kernel) rfl
theorem ts_X2_readBoth : Cond.selects RX2 yX2_readBoth yX2_readBoth ∈ gT := g_mem0 (i := 41) (by decide +kernel) rfl
theorem ts_X2_readSingle : Cond.selects RX2 yX2_readSingle yX2_readSingle ∈ gT := g_mem0 (i := 42) (by decide +kernel) rfl
theorem ts_X2_isComparison : Cond.selects RX2 yX2_isComparison yX2_isComparison ∈ gT := g_mem0 (i := 43) (by decide +kernel) rfl
theorem ts_X12_beginAnew : Cond.selects RX12 yX12_beginAnew yX12_beginAnew ∈ gT := g_mem0 (i := 44) (by decide +kernel) rfl
theorem tu_X1 : ∀ w ∈ u_ws RX1 TX1 4, w ∈ gT := by decide +kernel
theorem tu_X2 : ∀ w ∈ u_ws RX2 TX2 10, w ∈ gT := by decide +kernel
theorem tu_X3 : ∀ w ∈ u_ws RX3 TX3 2, w ∈ gT := by decide +kernel
theorem tu_X4 : ∀ w ∈ u_ws RX4 TX4 5, w ∈ gT := by decide +kernel
theorem tu_X5 : ∀ w ∈ u_ws RX5 TX5 8, w ∈ gT := by decide +kernel
theorem tu_X7 : ∀ w ∈ u_ws RX7 TX7 2, w ∈ gT := by decide +kernel
theorem tu_X8 : ∀ w ∈ u_ws RX8 TX8 6, w ∈ gT := by decide +kernel
theorem tu_X9 : ∀ w ∈ u_ws RX9 TX9 5, w ∈ gT := by decide +kernel
theorem tu_X10 : ∀ w ∈ u_ws RX10 TX10 3, w ∈ gT := by decide +kernel
theorem tu_X11 : ∀ w ∈ u_ws RX11 TX11 3, w ∈ gT := by decide +kernel
theorem tu_X12 : ∀ w ∈ u_ws RX12 TX12 11, w ∈ gT := by decide +kernel
theorem tu_X13 : ∀ w ∈ u_ws RX13 TX13 1, w ∈ gT := by decide +kernel
theorem tu_X14 : ∀ w ∈ u_ws RX14 TX14 4, w ∈ gT := by decide +kernel
theorem tu_X15 : ∀ w ∈ u_ws RX15 TX15 4, w ∈ gT := by decide +kernel
theorem tu_X16 : ∀ w ∈ u_ws RX16 TX16 10, w ∈ gT := by decide +kernel
