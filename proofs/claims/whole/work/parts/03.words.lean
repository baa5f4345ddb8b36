/-! the words of the tables that every method's contract carries -/
def gT : List Cond := lw_tbl.filter goodWord
/-- the words of nest mates: of the tables, but not good ones -/
def g_isN : Cond → Bool
  | .fieldLinkNest .. => true
  | .methodLinkNest .. => true
  | .declares .. => true
  | .castable .. => true
  | _ => false
def gN : List Cond := tables_1.filter g_isN
theorem g_memN {w : Cond} (h : w ∈ tables_1) (hg : g_isN w = true) : w ∈ gN := List.mem_filter.mpr ⟨h, hg⟩
theorem g_memT {w : Cond} (h : w ∈ tables_1) (hg : goodWord w = true) : w ∈ gT := List.mem_filter.mpr ⟨List.mem_append_right _ h, hg⟩
theorem g_mem0 {i : Nat} {w : Cond} (h : (k2_sels lw_privs)[i]? = some w) (hg : goodWord w = true) : w ∈ gT := List.mem_filter.mpr ⟨List.mem_append_left _ (List.mem_of_getElem? h), hg⟩
theorem g_nem1 {i : Nat} {w : Cond} (h : tables_1_1[i]? = some w) (hg : g_isN w = true) : w ∈ gN := g_memN (List.mem_append_left _ (List.mem_of_getElem? h)) hg
theorem g_mem1 {i : Nat} {w : Cond} (h : tables_1_1[i]? = some w) (hg : goodWord w = true) : w ∈ gT := g_memT (List.mem_append_left _ (List.mem_of_getElem? h)) hg
theorem g_nem2 {i : Nat} {w : Cond} (h : tables_1_2[i]? = some w) (hg : g_isN w = true) : w ∈ gN := g_memN (List.mem_append_right _ (List.mem_append_left _ (List.mem_of_getElem? h))) hg
theorem g_mem2 {i : Nat} {w : Cond} (h : tables_1_2[i]? = some w) (hg : goodWord w = true) : w ∈ gT := g_memT (List.mem_append_right _ (List.mem_append_left _ (List.mem_of_getElem? h))) hg
theorem g_nem3 {i : Nat} {w : Cond} (h : tables_1_3[i]? = some w) (hg : g_isN w = true) : w ∈ gN := g_memN (List.mem_append_right _ (List.mem_append_right _ (List.mem_append_left _ (List.mem_of_getElem? h)))) hg
theorem g_mem3 {i : Nat} {w : Cond} (h : tables_1_3[i]? = some w) (hg : goodWord w = true) : w ∈ gT := g_memT (List.mem_append_right _ (List.mem_append_right _ (List.mem_append_left _ (List.mem_of_getElem? h)))) hg
theorem g_nem4 {i : Nat} {w : Cond} (h : tables_1_4[i]? = some w) (hg : g_isN w = true) : w ∈ gN := g_memN (List.mem_append_right _ (List.mem_append_right _ (List.mem_append_right _ (List.mem_append_left _ (List.mem_of_getElem? h))))) hg
theorem g_mem4 {i : Nat} {w : Cond} (h : tables_1_4[i]? = some w) (hg : goodWord w = true) : w ∈ gT := g_memT (List.mem_append_right _ (List.mem_append_right _ (List.mem_append_right _ (List.mem_append_left _ (List.mem_of_getElem? h))))) hg
theorem g_nem5 {i : Nat} {w : Cond} (h : tables_1_5[i]? = some w) (hg : g_isN w = true) : w ∈ gN := g_memN (List.mem_append_right _ (List.mem_append_right _ (List.mem_append_right _ (List.mem_append_right _ (List.mem_append_left _ (List.mem_of_getElem? h)))))) hg
theorem g_mem5 {i : Nat} {w : Cond} (h : tables_1_5[i]? = some w) (hg : goodWord w = true) : w ∈ gT := g_memT (List.mem_append_right _ (List.mem_append_right _ (List.mem_append_right _ (List.mem_append_right _ (List.mem_append_left _ (List.mem_of_getElem? h)))))) hg
theorem g_nem6 {i : Nat} {w : Cond} (h : tables_1_6[i]? = some w) (hg : g_isN w = true) : w ∈ gN := g_memN (List.mem_append_right _ (List.mem_append_right _ (List.mem_append_right _ (List.mem_append_right _ (List.mem_append_right _ (List.mem_append_left _ (List.mem_of_getElem? h))))))) hg
theorem g_mem6 {i : Nat} {w : Cond} (h : tables_1_6[i]? = some w) (hg : goodWord w = true) : w ∈ gT := g_memT (List.mem_append_right _ (List.mem_append_right _ (List.mem_append_right _ (List.mem_append_right _ (List.mem_append_right _ (List.mem_append_left _ (List.mem_of_getElem? h))))))) hg
theorem g_nem7 {i : Nat} {w : Cond} (h : tables_1_7[i]? = some w) (hg : g_isN w = true) : w ∈ gN := g_memN (List.mem_append_right _ (List.mem_append_right _ (List.mem_append_right _ (List.mem_append_right _ (List.mem_append_right _ (List.mem_append_right _ (List.mem_append_left _ (List.mem_of_getElem? h)))))))) hg
theorem g_mem7 {i : Nat} {w : Cond} (h : tables_1_7[i]? = some w) (hg : goodWord w = true) : w ∈ gT := g_memT (List.mem_append_right _ (List.mem_append_right _ (List.mem_append_right _ (List.mem_append_right _ (List.mem_append_right _ (List.mem_append_right _ (List.mem_append_left _ (List.mem_of_getElem? h)))))))) hg
theorem g_nem8 {i : Nat} {w : Cond} (h : tables_1_8[i]? = some w) (hg : g_isN w = true) : w ∈ gN := g_memN (List.mem_append_right _ (List.mem_append_right _ (List.mem_append_right _ (List.mem_append_right _ (List.mem_append_right _ (List.mem_append_right _ (List.mem_append_right _ (List.mem_of_getElem? h)))))))) hg
theorem g_mem8 {i : Nat} {w : Cond} (h : tables_1_8[i]? = some w) (hg : goodWord w = true) : w ∈ gT := g_memT (List.mem_append_right _ (List.mem_append_right _ (List.mem_append_right _ (List.mem_append_right _ (List.mem_append_right _ (List.mem_append_right _ (List.mem_append_right _ (List.mem_of_getElem? h)))))))) hg
theorem tn_L : Cond.initialized RL ∈ gT := g_mem1 (i := 0) (by decide +kernel) rfl
theorem tn_X12 : Cond.initialized RX12 ∈ gT := g_mem1 (i := 1) (by decide +kernel) rfl
theorem tn_X7 : Cond.initialized RX7 ∈ gT := g_mem1 (i := 2) (by decide +kernel) rfl
theorem tn_X8 : Cond.initialized RX8 ∈ gT := g_mem1 (i := 3) (by decide +kernel) rfl
theorem tn_Jx29ce0 : Cond.initialized RJx29ce0 ∈ gT := g_mem1 (i := 4) (by decide +kernel) rfl
theorem tn_X6 : Cond.initialized RX6 ∈ gT := g_mem1 (i := 5) (by decide +kernel) rfl
theorem tn_X10 : Cond.initialized RX10 ∈ gT := g_mem1 (i := 6) (by decide +kernel) rfl
theorem tn_X3 : Cond.initialized RX3 ∈ gT := g_mem1 (i := 7) (by decide +kernel) rfl
theorem tn_X1 : Cond.initialized RX1 ∈ gT := g_mem1 (i := 8) (by decide +kernel) rfl
theorem tn_X5 : Cond.initialized RX5 ∈ gT := g_mem1 (i := 9) (by decide +kernel) rfl
theorem tn_X4 : Cond.initialized RX4 ∈ gT := g_mem1 (i := 10) (by decide +kernel) rfl
theorem tn_X9 : Cond.initialized RX9 ∈ gT := g_mem1 (i := 11) (by decide +kernel) rfl
theorem tn_X11 : Cond.initialized RX11 ∈ gT := g_mem1 (i := 12) (by decide +kernel) rfl
theorem tn_X15 : Cond.initialized RX15 ∈ gT := g_mem1 (i := 13) (by decide +kernel) rfl
theorem tn_X14 : Cond.initialized RX14 ∈ gT := g_mem1 (i := 14) (by decide +kernel) rfl
theorem tn_X13 : Cond.initialized RX13 ∈ gT := g_mem1 (i := 15) (by decide +kernel) rfl
theorem tn_J10 : Cond.initialized RJ10 ∈ gT := g_mem1 (i := 16) (by decide +kernel) rfl
theorem tn_java_lang_Throwable : Cond.initialized "java/lang/Throwable" ∈ gT := g_mem1 (i := 17) (by decide +kernel) rfl
theorem tn_java_lang_Exception : Cond.initialized "java/lang/Exception" ∈ gT := g_mem1 (i := 18) (by decide +kernel) rfl
theorem tn_java_lang_RuntimeException : Cond.initialized "java/lang/RuntimeException" ∈ gT := g_mem1 (i := 19) (by decide +kernel) rfl
theorem tn_java_lang_IllegalStateException : Cond.initialized "java/lang/IllegalStateException" ∈ gT := g_mem1 (i := 20) (by decide +kernel) rfl
theorem tn_java_lang_IllegalArgumentException : Cond.initialized "java/lang/IllegalArgumentException" ∈ gT := g_mem1 (i := 21) (by decide +kernel) rfl
theorem tn_J0 : Cond.initialized RJ0 ∈ gT := g_mem1 (i := 22) (by decide +kernel) rfl
theorem tn_J1 : Cond.initialized RJ1 ∈ gT := g_mem1 (i := 23) (by decide +kernel) rfl
theorem tn_J3 : Cond.initialized RJ3 ∈ gT := g_mem1 (i := 24) (by decide +kernel) rfl
theorem tn_J2 : Cond.initialized RJ2 ∈ gT := g_mem1 (i := 25) (by decide +kernel) rfl
theorem tn_X2 : Cond.initialized RX2 ∈ gT := g_mem1 (i := 26) (by decide +kernel) rfl
theorem tn_J9 : Cond.initialized RJ9 ∈ gT := g_mem1 (i := 27) (by decide +kernel) rfl
theorem tn_java_lang_IndexOutOfBoundsException : Cond.initialized "java/lang/IndexOutOfBoundsException" ∈ gT := g_mem1 (i := 28) (by decide +kernel) rfl
theorem tn_J6 : Cond.initialized RJ6 ∈ gT := g_mem1 (i := 29) (by decide +kernel) rfl
theorem tn_J7 : Cond.initialized RJ7 ∈ gT := g_mem1 (i := 30) (by decide +kernel) rfl
theorem tn_X0 : Cond.initialized RX0 ∈ gT := g_mem1 (i := 31) (by decide +kernel) rfl
theorem tl_L_8 : Cond.classLink RL 8 RX12 ∈ gT := g_mem1 (i := 32) (by decide +kernel) rfl
theorem ta_X12 : Cond.instantiable RX12 11 ∈ gT := g_mem1 (i := 33) (by decide +kernel) rfl
theorem tm_L_96 : Cond.methodLink RL 96 yX12_init ∈ gT := g_mem1 (i := 34) (by decide +kernel) rfl
theorem ti_X12_init : Cond.instanceMethod yX12_init ∈ gT := g_mem1 (i := 35) (by decide +kernel) rfl
theorem tc_X12_init : Cond.code yX12_init cX12_init 1 (Option.none : Option Jvm.ClassFile.FieldType) ∈ gT := g_mem1 (i := 36) (by decide +kernel) rfl
theorem tm_X12_1 : Cond.methodLink RX12 1 ⟨"java/lang/Object", "<init>", "()V"⟩ ∈ gT := g_mem1 (i := 37) (by decide +kernel) rfl
theorem ti_java_lang_Object__init_ : Cond.instanceMethod ⟨"java/lang/Object", "<init>", "()V"⟩ ∈ gT := g_mem1 (i := 38) (by decide +kernel) rfl
theorem tc_java_lang_Object__init_ : Cond.code ⟨"java/lang/Object", "<init>", "()V"⟩ object_method_1_code 1 (Option.none : Option Jvm.ClassFile.FieldType) ∈ gT := g_mem1 (i := 39) (by decide +kernel) rfl
theorem tl_X12_7 : Cond.classLink RX12 7 RX7 ∈ gT := g_mem1 (i := 40) (by decide +kernel) rfl
theorem ta_X7 : Cond.instantiable RX7 2 ∈ gT := g_mem1 (i := 41) (by decide +kernel) rfl
theorem tmN_X12_9 : Cond.methodLinkNest RX12 9 yX7_init "GlideWhistles" ∈ gN := g_nem1 (i := 42) (by decide +kernel) rfl
theorem ti_X7_init : Cond.instanceMethod yX7_init ∈ gT := g_mem1 (i := 43) (by decide +kernel) rfl
theorem tc_X7_init : Cond.code yX7_init cX7_init 1 (Option.none : Option Jvm.ClassFile.FieldType) ∈ gT := g_mem1 (i := 44) (by decide +kernel) rfl
theorem tm_X7_3 : Cond.methodLink RX7 3 ⟨"java/lang/Object", "<init>", "()V"⟩ ∈ gT := g_mem1 (i := 45) (by decide +kernel) rfl
theorem tf_X7_9 : Cond.fieldLink RX7 9 "GlideWhistles$Tape" "bytes" "[C" ∈ gT := g_mem1 (i := 46) (by decide +kernel) rfl
theorem tf_X7_15 : Cond.fieldLink RX7 15 "GlideWhistles$Tape" "length" "I" ∈ gT := g_mem1 (i := 47) (by decide +kernel) rfl
theorem tfN_X12_75 : Cond.fieldLinkNest RX12 75 "GlideWhistles$Tape" "length" "I" "GlideWhistles" ∈ gN := g_nem1 (i := 48) (by decide +kernel) rfl
theorem tfN_X8_59 : Cond.fieldLinkNest RX8 59 "GlideWhistles$Tape" "length" "I" "GlideWhistles" ∈ gN := g_nem1 (i := 49) (by decide +kernel) rfl
theorem tr_char : Cond.arrayClass Jvm.ClassFile.FieldType.char ∈ gT := g_mem1 (i := 55) (by decide +kernel) rfl
theorem tl_X12_16 : Cond.classLink RX12 16 RX8 ∈ gT := g_mem1 (i := 56) (by decide +kernel) rfl
theorem ta_X8 : Cond.instantiable RX8 6 ∈ gT := g_mem1 (i := 57) (by decide +kernel) rfl
theorem tm_X12_18 : Cond.methodLink RX12 18 yX8_init ∈ gT := g_mem1 (i := 58) (by decide +kernel) rfl
theorem ti_X8_init : Cond.instanceMethod yX8_init ∈ gT := g_mem1 (i := 59) (by decide +kernel) rfl
theorem tc_X8_init : Cond.code yX8_init cX8_init 3 (Option.none : Option Jvm.ClassFile.FieldType) ∈ gT := g_mem1 (i := 60) (by decide +kernel) rfl
theorem tm_X8_3 : Cond.methodLink RX8 3 ⟨"java/lang/Object", "<init>", "()V"⟩ ∈ gT := g_mem1 (i := 61) (by decide +kernel) rfl
theorem tl_X8_9 : Cond.classLink RX8 9 RX6 ∈ gT := g_mem1 (i := 62) (by decide +kernel) rfl
theorem tf_X8_35 : Cond.fieldLink RX8 35 "GlideWhistles$Sign" "END" "LGlideWhistles$Sign;" ∈ gT := g_mem1 (i := 64) (by decide +kernel) rfl
theorem tf_X8_31 : Cond.fieldLink RX8 31 "GlideWhistles$Tokens" "tape" "LGlideWhistles$Tape;" ∈ gT := g_mem1 (i := 66) (by decide +kernel) rfl
theorem tf_X8_11 : Cond.fieldLink RX8 11 "GlideWhistles$Tokens" "signs" "[LGlideWhistles$Sign;" ∈ gT := g_mem1 (i := 67) (by decide +kernel) rfl
theorem tf_X8_17 : Cond.fieldLink RX8 17 "GlideWhistles$Tokens" "places" "[I" ∈ gT := g_mem1 (i := 68) (by decide +kernel) rfl
theorem tf_X8_21 : Cond.fieldLink RX8 21 "GlideWhistles$Tokens" "sizes" "[I" ∈ gT := g_mem1 (i := 69) (by decide +kernel) rfl
theorem tf_X8_24 : Cond.fieldLink RX8 24 "GlideWhistles$Tokens" "values" "[I" ∈ gT := g_mem1 (i := 70) (by decide +kernel) rfl
theorem tf_X8_27 : Cond.fieldLink RX8 27 "GlideWhistles$Tokens" "count" "I" ∈ gT := g_mem1 (i := 71) (by decide +kernel) rfl
theorem tr_int : Cond.arrayClass Jvm.ClassFile.FieldType.int ∈ gT := g_mem1 (i := 85) (by decide +kernel) rfl
theorem tl_X12_25 : Cond.classLink RX12 25 RX10 ∈ gT := g_mem1 (i := 86) (by decide +kernel) rfl
theorem ta_X10 : Cond.instantiable RX10 3 ∈ gT := g_mem1 (i := 87) (by decide +kernel) rfl
theorem tmN_X12_27 : Cond.methodLinkNest RX12 27 yX10_init "GlideWhistles" ∈ gN := g_nem1 (i := 88) (by decide +kernel) rfl
theorem ti_X10_init : Cond.instanceMethod yX10_init ∈ gT := g_mem1 (i := 89) (by decide +kernel) rfl
theorem tc_X10_init : Cond.code yX10_init cX10_init 1 (Option.none : Option Jvm.ClassFile.FieldType) ∈ gT := g_mem1 (i := 90) (by decide +kernel) rfl
theorem tm_X10_3 : Cond.methodLink RX10 3 ⟨"java/lang/Object", "<init>", "()V"⟩ ∈ gT := g_mem1 (i := 91) (by decide +kernel) rfl
theorem tl_X10_15 : Cond.classLink RX10 15 RX3 ∈ gT := g_mem1 (i := 92) (by decide +kernel) rfl
theorem ta_X3 : Cond.instantiable RX3 2 ∈ gT := g_mem1 (i := 93) (by decide +kernel) rfl
theorem tmN_X10_17 : Cond.methodLinkNest RX10 17 yX3_init "GlideWhistles" ∈ gN := g_nem1 (i := 94) (by decide +kernel) rfl
theorem ti_X3_init : Cond.instanceMethod yX3_init ∈ gT := g_mem1 (i := 95) (by decide +kernel) rfl
theorem tc_X3_init : Cond.code yX3_init cX3_init 1 (Option.none : Option Jvm.ClassFile.FieldType) ∈ gT := g_mem1 (i := 96) (by decide +kernel) rfl
theorem tm_X3_3 : Cond.methodLink RX3 3 ⟨"java/lang/Object", "<init>", "()V"⟩ ∈ gT := g_mem1 (i := 97) (by decide +kernel) rfl
theorem tf_X3_9 : Cond.fieldLink RX3 9 "GlideWhistles$Row" "pitches" "[I" ∈ gT := g_mem1 (i := 98) (by decide +kernel) rfl
theorem tf_X3_15 : Cond.fieldLink RX3 15 "GlideWhistles$Row" "length" "I" ∈ gT := g_mem1 (i := 99) (by decide +kernel) rfl
theorem tfN_X1_27 : Cond.fieldLinkNest RX1 27 "GlideWhistles$Row" "length" "I" "GlideWhistles" ∈ gN := g_nem1 (i := 100) (by decide +kernel) rfl
theorem tfN_X9_40 : Cond.fieldLinkNest RX9 40 "GlideWhistles$Row" "length" "I" "GlideWhistles" ∈ gN := g_nem1 (i := 101) (by decide +kernel) rfl
theorem tfN_X10_33 : Cond.fieldLinkNest RX10 33 "GlideWhistles$Row" "length" "I" "GlideWhistles" ∈ gN := g_nem1 (i := 102) (by decide +kernel) rfl
theorem tfN_X12_128 : Cond.fieldLinkNest RX12 128 "GlideWhistles$Row" "length" "I" "GlideWhistles" ∈ gN := g_nem1 (i := 103) (by decide +kernel) rfl
theorem tfN_X2_164 : Cond.fieldLinkNest RX2 164 "GlideWhistles$Row" "length" "I" "GlideWhistles" ∈ gN := g_nem1 (i := 104) (by decide +kernel) rfl
theorem tf_X10_9 : Cond.fieldLink RX10 9 "GlideWhistles$Warp" "lane" "[I" ∈ gT := g_mem1 (i := 110) (by decide +kernel) rfl
theorem tf_X10_18 : Cond.fieldLink RX10 18 "GlideWhistles$Warp" "firstContour" "LGlideWhistles$Row;" ∈ gT := g_mem1 (i := 111) (by decide +kernel) rfl
theorem tf_X10_22 : Cond.fieldLink RX10 22 "GlideWhistles$Warp" "secondContour" "LGlideWhistles$Row;" ∈ gT := g_mem1 (i := 112) (by decide +kernel) rfl
theorem tl_X12_32 : Cond.classLink RX12 32 RX3 ∈ gT := g_mem1 (i := 120) (by decide +kernel) rfl
theorem tmN_X12_34 : Cond.methodLinkNest RX12 34 yX3_init "GlideWhistles" ∈ gN := g_nem1 (i := 121) (by decide +kernel) rfl
theorem tl_X12_42 : Cond.classLink RX12 42 RX1 ∈ gT := g_mem1 (i := 122) (by decide +kernel) rfl
theorem ta_X1 : Cond.instantiable RX1 4 ∈ gT := g_mem1 (i := 123) (by decide +kernel) rfl
theorem tm_X12_44 : Cond.methodLink RX12 44 yX1_init ∈ gT := g_mem1 (i := 124) (by decide +kernel) rfl
theorem ti_X1_init : Cond.instanceMethod yX1_init ∈ gT := g_mem1 (i := 125) (by decide +kernel) rfl
theorem tc_X1_init : Cond.code yX1_init cX1_init 3 (Option.none : Option Jvm.ClassFile.FieldType) ∈ gT := g_mem1 (i := 126) (by decide +kernel) rfl
theorem tm_X1_3 : Cond.methodLink RX1 3 ⟨"java/lang/Object", "<init>", "()V"⟩ ∈ gT := g_mem1 (i := 127) (by decide +kernel) rfl
theorem tf_X1_19 : Cond.fieldLink RX1 19 "GlideWhistles$Course" "heard" "LGlideWhistles$Row;" ∈ gT := g_mem1 (i := 128) (by decide +kernel) rfl
theorem tf_X1_23 : Cond.fieldLink RX1 23 "GlideWhistles$Course" "warp" "LGlideWhistles$Warp;" ∈ gT := g_mem1 (i := 129) (by decide +kernel) rfl
theorem tf_X1_9 : Cond.fieldLink RX1 9 "GlideWhistles$Course" "stack" "[I" ∈ gT := g_mem1 (i := 130) (by decide +kernel) rfl
theorem tf_X1_15 : Cond.fieldLink RX1 15 "GlideWhistles$Course" "top" "I" ∈ gT := g_mem1 (i := 131) (by decide +kernel) rfl
theorem tl_X12_51 : Cond.classLink RX12 51 RX5 ∈ gT := g_mem1 (i := 141) (by decide +kernel) rfl
theorem ta_X5 : Cond.instantiable RX5 8 ∈ gT := g_mem1 (i := 142) (by decide +kernel) rfl
theorem tm_X12_53 : Cond.methodLink RX12 53 yX5_init ∈ gT := g_mem1 (i := 143) (by decide +kernel) rfl
theorem ti_X5_init : Cond.instanceMethod yX5_init ∈ gT := g_mem1 (i := 144) (by decide +kernel) rfl
theorem tc_X5_init : Cond.code yX5_init cX5_init 2 (Option.none : Option Jvm.ClassFile.FieldType) ∈ gT := g_mem1 (i := 145) (by decide +kernel) rfl
theorem tm_X5_3 : Cond.methodLink RX5 3 ⟨"java/lang/Object", "<init>", "()V"⟩ ∈ gT := g_mem1 (i := 146) (by decide +kernel) rfl
theorem tl_X5_9 : Cond.classLink RX5 9 RX4 ∈ gT := g_mem1 (i := 147) (by decide +kernel) rfl
theorem ta_X4 : Cond.instantiable RX4 5 ∈ gT := g_mem1 (i := 149) (by decide +kernel) rfl
theorem tmN_X5_17 : Cond.methodLinkNest RX5 17 yX4_init "GlideWhistles" ∈ gN := g_nem1 (i := 150) (by decide +kernel) rfl
theorem ti_X4_init : Cond.instanceMethod yX4_init ∈ gT := g_mem1 (i := 151) (by decide +kernel) rfl
theorem tc_X4_init : Cond.code yX4_init cX4_init 1 (Option.none : Option Jvm.ClassFile.FieldType) ∈ gT := g_mem1 (i := 152) (by decide +kernel) rfl
theorem tm_X4_3 : Cond.methodLink RX4 3 ⟨"java/lang/Object", "<init>", "()V"⟩ ∈ gT := g_mem1 (i := 153) (by decide +kernel) rfl
theorem tf_X4_9 : Cond.fieldLink RX4 9 "GlideWhistles$Sign" "PRUNE" "LGlideWhistles$Sign;" ∈ gT := g_mem1 (i := 154) (by decide +kernel) rfl
theorem tf_X4_15 : Cond.fieldLink RX4 15 "GlideWhistles$Rule" "kind" "LGlideWhistles$Sign;" ∈ gT := g_mem1 (i := 156) (by decide +kernel) rfl
theorem tfN_X1_99 : Cond.fieldLinkNest RX1 99 "GlideWhistles$Rule" "kind" "LGlideWhistles$Sign;" "GlideWhistles" ∈ gN := g_nem1 (i := 157) (by decide +kernel) rfl
theorem tfN_X5_53 : Cond.fieldLinkNest RX5 53 "GlideWhistles$Rule" "kind" "LGlideWhistles$Sign;" "GlideWhistles" ∈ gN := g_nem1 (i := 158) (by decide +kernel) rfl
theorem tf_X4_20 : Cond.fieldLink RX4 20 "GlideWhistles$Rule" "word" "I" ∈ gT := g_mem1 (i := 159) (by decide +kernel) rfl
theorem tfN_X1_97 : Cond.fieldLinkNest RX1 97 "GlideWhistles$Rule" "word" "I" "GlideWhistles" ∈ gN := g_nem1 (i := 160) (by decide +kernel) rfl
theorem tfN_X5_56 : Cond.fieldLinkNest RX5 56 "GlideWhistles$Rule" "word" "I" "GlideWhistles" ∈ gN := g_nem1 (i := 161) (by decide +kernel) rfl
theorem tf_X4_24 : Cond.fieldLink RX4 24 "GlideWhistles$Rule" "sumStart" "I" ∈ gT := g_mem1 (i := 162) (by decide +kernel) rfl
theorem tfN_X1_108 : Cond.fieldLinkNest RX1 108 "GlideWhistles$Rule" "sumStart" "I" "GlideWhistles" ∈ gN := g_nem1 (i := 163) (by decide +kernel) rfl
theorem tfN_X5_59 : Cond.fieldLinkNest RX5 59 "GlideWhistles$Rule" "sumStart" "I" "GlideWhistles" ∈ gN := g_nem1 (i := 164) (by decide +kernel) rfl
theorem tf_X4_27 : Cond.fieldLink RX4 27 "GlideWhistles$Rule" "testStart" "I" ∈ gT := g_mem1 (i := 165) (by decide +kernel) rfl
theorem tfN_X1_85 : Cond.fieldLinkNest RX1 85 "GlideWhistles$Rule" "testStart" "I" "GlideWhistles" ∈ gN := g_nem1 (i := 166) (by decide +kernel) rfl
theorem tfN_X5_62 : Cond.fieldLinkNest RX5 62 "GlideWhistles$Rule" "testStart" "I" "GlideWhistles" ∈ gN := g_nem1 (i := 167) (by decide +kernel) rfl
theorem tf_X4_30 : Cond.fieldLink RX4 30 "GlideWhistles$Rule" "testEnd" "I" ∈ gT := g_mem1 (i := 168) (by decide +kernel) rfl
theorem tfN_X1_90 : Cond.fieldLinkNest RX1 90 "GlideWhistles$Rule" "testEnd" "I" "GlideWhistles" ∈ gN := g_nem1 (i := 169) (by decide +kernel) rfl
theorem tfN_X5_65 : Cond.fieldLinkNest RX5 65 "GlideWhistles$Rule" "testEnd" "I" "GlideWhistles" ∈ gN := g_nem1 (i := 170) (by decide +kernel) rfl
theorem tl_X5_22 : Cond.classLink RX5 22 RX6 ∈ gT := g_mem1 (i := 182) (by decide +kernel) rfl
theorem tf_X5_45 : Cond.fieldLink RX5 45 "GlideWhistles$Sign" "END" "LGlideWhistles$Sign;" ∈ gT := g_mem1 (i := 183) (by decide +kernel) rfl
theorem tf_X5_11 : Cond.fieldLink RX5 11 "GlideWhistles$RuleBook" "all" "[LGlideWhistles$Rule;" ∈ gT := g_mem1 (i := 184) (by decide +kernel) rfl
theorem tf_X5_18 : Cond.fieldLink RX5 18 "GlideWhistles$RuleBook" "none" "LGlideWhistles$Rule;" ∈ gT := g_mem1 (i := 185) (by decide +kernel) rfl
theorem tf_X5_24 : Cond.fieldLink RX5 24 "GlideWhistles$RuleBook" "signs" "[LGlideWhistles$Sign;" ∈ gT := g_mem1 (i := 186) (by decide +kernel) rfl
theorem tf_X5_28 : Cond.fieldLink RX5 28 "GlideWhistles$RuleBook" "values" "[I" ∈ gT := g_mem1 (i := 187) (by decide +kernel) rfl
theorem tf_X5_32 : Cond.fieldLink RX5 32 "GlideWhistles$RuleBook" "count" "I" ∈ gT := g_mem1 (i := 188) (by decide +kernel) rfl
theorem tfN_X1_67 : Cond.fieldLinkNest RX1 67 "GlideWhistles$RuleBook" "count" "I" "GlideWhistles" ∈ gN := g_nem1 (i := 189) (by decide +kernel) rfl
theorem tfN_X12_121 : Cond.fieldLinkNest RX12 121 "GlideWhistles$RuleBook" "count" "I" "GlideWhistles" ∈ gN := g_nem1 (i := 190) (by decide +kernel) rfl
theorem tfN_X2_190 : Cond.fieldLinkNest RX2 190 "GlideWhistles$RuleBook" "count" "I" "GlideWhistles" ∈ gN := g_nem1 (i := 191) (by decide +kernel) rfl
theorem tf_X5_36 : Cond.fieldLink RX5 36 "GlideWhistles$RuleBook" "size" "I" ∈ gT := g_mem1 (i := 192) (by decide +kernel) rfl
theorem tfN_X2_195 : Cond.fieldLinkNest RX2 195 "GlideWhistles$RuleBook" "size" "I" "GlideWhistles" ∈ gN := g_nem1 (i := 193) (by decide +kernel) rfl
theorem tf_X5_39 : Cond.fieldLink RX5 39 "GlideWhistles$RuleBook" "band" "I" ∈ gT := g_mem1 (i := 194) (by decide +kernel) rfl
theorem tfN_X2_79 : Cond.fieldLinkNest RX2 79 "GlideWhistles$RuleBook" "band" "I" "GlideWhistles" ∈ gN := g_nem1 (i := 195) (by decide +kernel) rfl
theorem tfN_X1_54 : Cond.fieldLinkNest RX1 54 "GlideWhistles$RuleBook" "band" "I" "GlideWhistles" ∈ gN := g_nem1 (i := 196) (by decide +kernel) rfl
theorem tfN_X12_164 : Cond.fieldLinkNest RX12 164 "GlideWhistles$RuleBook" "band" "I" "GlideWhistles" ∈ gN := g_nem1 (i := 197) (by decide +kernel) rfl
theorem tf_X5_42 : Cond.fieldLink RX5 42 "GlideWhistles$RuleBook" "nearness" "I" ∈ gT := g_mem1 (i := 198) (by decide +kernel) rfl
theorem tfN_X2_85 : Cond.fieldLinkNest RX2 85 "GlideWhistles$RuleBook" "nearness" "I" "GlideWhistles" ∈ gN := g_nem1 (i := 199) (by decide +kernel) rfl
theorem tfN_X12_268 : Cond.fieldLinkNest RX12 268 "GlideWhistles$RuleBook" "nearness" "I" "GlideWhistles" ∈ gN := g_nem1 (i := 200) (by decide +kernel) rfl
theorem tl_X12_58 : Cond.classLink RX12 58 RX9 ∈ gT := g_mem1 (i := 218) (by decide +kernel) rfl
theorem ta_X9 : Cond.instantiable RX9 5 ∈ gT := g_mem1 (i := 219) (by decide +kernel) rfl
theorem tm_X12_60 : Cond.methodLink RX12 60 yX9_init ∈ gT := g_mem1 (i := 220) (by decide +kernel) rfl
theorem ti_X9_init : Cond.instanceMethod yX9_init ∈ gT := g_mem1 (i := 221) (by decide +kernel) rfl
theorem tc_X9_init : Cond.code yX9_init cX9_init 2 (Option.none : Option Jvm.ClassFile.FieldType) ∈ gT := g_mem1 (i := 222) (by decide +kernel) rfl
theorem tm_X9_3 : Cond.methodLink RX9 3 ⟨"java/lang/Object", "<init>", "()V"⟩ ∈ gT := g_mem1 (i := 223) (by decide +kernel) rfl
theorem tl_X9_9 : Cond.classLink RX9 9 RX11 ∈ gT := g_mem1 (i := 224) (by decide +kernel) rfl
theorem ta_X11 : Cond.instantiable RX11 3 ∈ gT := g_mem1 (i := 226) (by decide +kernel) rfl
theorem tmN_X9_17 : Cond.methodLinkNest RX9 17 yX11_init "GlideWhistles" ∈ gN := g_nem1 (i := 227) (by decide +kernel) rfl
theorem ti_X11_init : Cond.instanceMethod yX11_init ∈ gT := g_mem1 (i := 228) (by decide +kernel) rfl
theorem tc_X11_init : Cond.code yX11_init cX11_init 1 (Option.none : Option Jvm.ClassFile.FieldType) ∈ gT := g_mem1 (i := 229) (by decide +kernel) rfl
theorem tm_X11_3 : Cond.methodLink RX11 3 ⟨"java/lang/Object", "<init>", "()V"⟩ ∈ gT := g_mem1 (i := 230) (by decide +kernel) rfl
theorem tl_X11_9 : Cond.classLink RX11 9 RX3 ∈ gT := g_mem1 (i := 231) (by decide +kernel) rfl
theorem tmN_X11_11 : Cond.methodLinkNest RX11 11 yX3_init "GlideWhistles" ∈ gN := g_nem1 (i := 232) (by decide +kernel) rfl
theorem tf_X11_12 : Cond.fieldLink RX11 12 "GlideWhistles$Word" "row" "LGlideWhistles$Row;" ∈ gT := g_mem1 (i := 233) (by decide +kernel) rfl
theorem tfN_X9_36 : Cond.fieldLinkNest RX9 36 "GlideWhistles$Word" "row" "LGlideWhistles$Row;" "GlideWhistles" ∈ gN := g_nem1 (i := 234) (by decide +kernel) rfl
theorem tfN_X1_49 : Cond.fieldLinkNest RX1 49 "GlideWhistles$Word" "row" "LGlideWhistles$Row;" "GlideWhistles" ∈ gN := g_nem1 (i := 235) (by decide +kernel) rfl
theorem tfN_X2_143 : Cond.fieldLinkNest RX2 143 "GlideWhistles$Word" "row" "LGlideWhistles$Row;" "GlideWhistles" ∈ gN := g_nem1 (i := 236) (by decide +kernel) rfl
theorem tfN_X12_258 : Cond.fieldLinkNest RX12 258 "GlideWhistles$Word" "row" "LGlideWhistles$Row;" "GlideWhistles" ∈ gN := g_nem1 (i := 237) (by decide +kernel) rfl
theorem tf_X11_18 : Cond.fieldLink RX11 18 "GlideWhistles$Word" "pruned" "Z" ∈ gT := g_mem1 (i := 238) (by decide +kernel) rfl
theorem tfN_X9_45 : Cond.fieldLinkNest RX9 45 "GlideWhistles$Word" "pruned" "Z" "GlideWhistles" ∈ gN := g_nem1 (i := 239) (by decide +kernel) rfl
theorem tfN_X1_118 : Cond.fieldLinkNest RX1 118 "GlideWhistles$Word" "pruned" "Z" "GlideWhistles" ∈ gN := g_nem2 (i := 0) (by decide +kernel) rfl
theorem tfN_X12_151 : Cond.fieldLinkNest RX12 151 "GlideWhistles$Word" "pruned" "Z" "GlideWhistles" ∈ gN := g_nem2 (i := 1) (by decide +kernel) rfl
theorem tf_X11_22 : Cond.fieldLink RX11 22 "GlideWhistles$Word" "distance" "I" ∈ gT := g_mem2 (i := 2) (by decide +kernel) rfl
theorem tfN_X9_49 : Cond.fieldLinkNest RX9 49 "GlideWhistles$Word" "distance" "I" "GlideWhistles" ∈ gN := g_nem2 (i := 3) (by decide +kernel) rfl
theorem tfN_X1_65 : Cond.fieldLinkNest RX1 65 "GlideWhistles$Word" "distance" "I" "GlideWhistles" ∈ gN := g_nem2 (i := 4) (by decide +kernel) rfl
theorem tfN_X12_184 : Cond.fieldLinkNest RX12 184 "GlideWhistles$Word" "distance" "I" "GlideWhistles" ∈ gN := g_nem2 (i := 5) (by decide +kernel) rfl
theorem tf_X9_11 : Cond.fieldLink RX9 11 "GlideWhistles$Vocabulary" "all" "[LGlideWhistles$Word;" ∈ gT := g_mem2 (i := 13) (by decide +kernel) rfl
theorem tf_X9_18 : Cond.fieldLink RX9 18 "GlideWhistles$Vocabulary" "nobody" "LGlideWhistles$Word;" ∈ gT := g_mem2 (i := 14) (by decide +kernel) rfl
theorem tf_X9_22 : Cond.fieldLink RX9 22 "GlideWhistles$Vocabulary" "count" "I" ∈ gT := g_mem2 (i := 15) (by decide +kernel) rfl
theorem tfN_X1_38 : Cond.fieldLinkNest RX1 38 "GlideWhistles$Vocabulary" "count" "I" "GlideWhistles" ∈ gN := g_nem2 (i := 16) (by decide +kernel) rfl
theorem tfN_X12_114 : Cond.fieldLinkNest RX12 114 "GlideWhistles$Vocabulary" "count" "I" "GlideWhistles" ∈ gN := g_nem2 (i := 17) (by decide +kernel) rfl
theorem tfN_X2_133 : Cond.fieldLinkNest RX2 133 "GlideWhistles$Vocabulary" "count" "I" "GlideWhistles" ∈ gN := g_nem2 (i := 18) (by decide +kernel) rfl
theorem tf_X9_26 : Cond.fieldLink RX9 26 "GlideWhistles$Vocabulary" "lessonsPassed" "I" ∈ gT := g_mem2 (i := 19) (by decide +kernel) rfl
theorem tfN_X1_79 : Cond.fieldLinkNest RX1 79 "GlideWhistles$Vocabulary" "lessonsPassed" "I" "GlideWhistles" ∈ gN := g_nem2 (i := 20) (by decide +kernel) rfl
theorem tfN_X12_122 : Cond.fieldLinkNest RX12 122 "GlideWhistles$Vocabulary" "lessonsPassed" "I" "GlideWhistles" ∈ gN := g_nem2 (i := 21) (by decide +kernel) rfl
theorem tf_X9_29 : Cond.fieldLink RX9 29 "GlideWhistles$Vocabulary" "carriedOut" "I" ∈ gT := g_mem2 (i := 22) (by decide +kernel) rfl
theorem tfN_X1_82 : Cond.fieldLinkNest RX1 82 "GlideWhistles$Vocabulary" "carriedOut" "I" "GlideWhistles" ∈ gN := g_nem2 (i := 23) (by decide +kernel) rfl
theorem tfN_X12_125 : Cond.fieldLinkNest RX12 125 "GlideWhistles$Vocabulary" "carriedOut" "I" "GlideWhistles" ∈ gN := g_nem2 (i := 24) (by decide +kernel) rfl
theorem tf_X12_10 : Cond.fieldLink RX12 10 "GlideWhistles" "tape" "LGlideWhistles$Tape;" ∈ gT := g_mem2 (i := 36) (by decide +kernel) rfl
theorem tf_X12_21 : Cond.fieldLink RX12 21 "GlideWhistles" "tokens" "LGlideWhistles$Tokens;" ∈ gT := g_mem2 (i := 37) (by decide +kernel) rfl
theorem tf_X12_28 : Cond.fieldLink RX12 28 "GlideWhistles" "warp" "LGlideWhistles$Warp;" ∈ gT := g_mem2 (i := 38) (by decide +kernel) rfl
theorem tf_X12_35 : Cond.fieldLink RX12 35 "GlideWhistles" "heard" "LGlideWhistles$Row;" ∈ gT := g_mem2 (i := 39) (by decide +kernel) rfl
theorem tf_X12_39 : Cond.fieldLink RX12 39 "GlideWhistles" "trial" "LGlideWhistles$Row;" ∈ gT := g_mem2 (i := 40) (by decide +kernel) rfl
theorem tf_X12_47 : Cond.fieldLink RX12 47 "GlideWhistles" "course" "LGlideWhistles$Course;" ∈ gT := g_mem2 (i := 41) (by decide +kernel) rfl
theorem tf_X12_54 : Cond.fieldLink RX12 54 "GlideWhistles" "book" "LGlideWhistles$RuleBook;" ∈ gT := g_mem2 (i := 42) (by decide +kernel) rfl
theorem tf_X12_61 : Cond.fieldLink RX12 61 "GlideWhistles" "vocabulary" "LGlideWhistles$Vocabulary;" ∈ gT := g_mem2 (i := 43) (by decide +kernel) rfl
theorem tf_X12_65 : Cond.fieldLink RX12 65 "GlideWhistles" "spareBook" "LGlideWhistles$RuleBook;" ∈ gT := g_mem2 (i := 44) (by decide +kernel) rfl
theorem tf_X12_68 : Cond.fieldLink RX12 68 "GlideWhistles" "spareVocabulary" "LGlideWhistles$Vocabulary;" ∈ gT := g_mem2 (i := 45) (by decide +kernel) rfl
theorem tf_X12_71 : Cond.fieldLink RX12 71 "GlideWhistles" "placeOfError" "I" ∈ gT := g_mem2 (i := 46) (by decide +kernel) rfl
theorem tm_L_113 : Cond.methodLink RL 113 yX12_teach ∈ gT := g_mem2 (i := 70) (by decide +kernel) rfl
theorem ti_X12_teach : Cond.instanceMethod yX12_teach ∈ gT := g_mem2 (i := 71) (by decide +kernel) rfl
theorem ts_X12_teach : Cond.selects RX12 yX12_teach yX12_teach ∈ gT := g_mem2 (i := 72) (by decide +kernel) rfl
theorem tc_X12_teach : Cond.code yX12_teach cX12_teach 2 (Option.some Jvm.ClassFile.FieldType.int) ∈ gT := g_mem2 (i := 73) (by decide +kernel) rfl
theorem tm_X12_94 : Cond.methodLink RX12 94 yX8_readTape ∈ gT := g_mem2 (i := 74) (by decide +kernel) rfl
theorem ti_X8_readTape : Cond.instanceMethod yX8_readTape ∈ gT := g_mem2 (i := 75) (by decide +kernel) rfl
theorem ts_X8_readTape : Cond.selects RX8 yX8_readTape yX8_readTape ∈ gT := g_mem2 (i := 76) (by decide +kernel) rfl
theorem tc_X8_readTape : Cond.code yX8_readTape cX8_readTape 3 (Option.none : Option Jvm.ClassFile.FieldType) ∈ gT := g_mem2 (i := 77) (by decide +kernel) rfl
theorem tm_X8_42 : Cond.methodLink RX8 42 yX7_behindBlanks ∈ gT := g_mem2 (i := 78) (by decide +kernel) rfl
theorem ti_X7_behindBlanks : Cond.instanceMethod yX7_behindBlanks ∈ gT := g_mem2 (i := 79) (by decide +kernel) rfl
theorem ts_X7_behindBlanks : Cond.selects RX7 yX7_behindBlanks yX7_behindBlanks ∈ gT := g_mem2 (i := 80) (by decide +kernel) rfl
theorem tc_X7_behindBlanks : Cond.code yX7_behindBlanks cX7_behindBlanks 3 (Option.some Jvm.ClassFile.FieldType.int) ∈ gT := g_mem2 (i := 81) (by decide +kernel) rfl
theorem tm_X7_19 : Cond.methodLink RX7 19 yX7_byteAt ∈ gT := g_mem2 (i := 82) (by decide +kernel) rfl
theorem ti_X7_byteAt : Cond.instanceMethod yX7_byteAt ∈ gT := g_mem2 (i := 83) (by decide +kernel) rfl
theorem ts_X7_byteAt : Cond.selects RX7 yX7_byteAt yX7_byteAt ∈ gT := g_mem2 (i := 84) (by decide +kernel) rfl
theorem tc_X7_byteAt : Cond.code yX7_byteAt cX7_byteAt 2 (Option.some Jvm.ClassFile.FieldType.int) ∈ gT := g_mem2 (i := 85) (by decide +kernel) rfl
theorem tm_X8_48 : Cond.methodLink RX8 48 yX8_readToken ∈ gT := g_mem2 (i := 86) (by decide +kernel) rfl
theorem ti_X8_readToken : Cond.instanceMethod yX8_readToken ∈ gT := g_mem2 (i := 88) (by decide +kernel) rfl
theorem tc_X8_readToken : Cond.code yX8_readToken cX8_readToken 2 (Option.none : Option Jvm.ClassFile.FieldType) ∈ gT := g_mem2 (i := 89) (by decide +kernel) rfl
theorem tm_X8_62 : Cond.methodLink RX8 62 yX8_add ∈ gT := g_mem2 (i := 90) (by decide +kernel) rfl
theorem ti_X8_add : Cond.instanceMethod yX8_add ∈ gT := g_mem2 (i := 92) (by decide +kernel) rfl
theorem tc_X8_add : Cond.code yX8_add cX8_add 5 (Option.none : Option Jvm.ClassFile.FieldType) ∈ gT := g_mem2 (i := 93) (by decide +kernel) rfl
theorem tf_X8_39 : Cond.fieldLink RX8 39 "GlideWhistles$Sign" "WRONG" "LGlideWhistles$Sign;" ∈ gT := g_mem2 (i := 94) (by decide +kernel) rfl
theorem tm_X8_66 : Cond.methodLink RX8 66 yX7_isLetter ∈ gT := g_mem2 (i := 96) (by decide +kernel) rfl
theorem ti_X7_isLetter : Cond.instanceMethod yX7_isLetter ∈ gT := g_mem2 (i := 97) (by decide +kernel) rfl
theorem ts_X7_isLetter : Cond.selects RX7 yX7_isLetter yX7_isLetter ∈ gT := g_mem2 (i := 98) (by decide +kernel) rfl
theorem tc_X7_isLetter : Cond.code yX7_isLetter cX7_isLetter 3 (Option.some Jvm.ClassFile.FieldType.boolean) ∈ gT := g_mem2 (i := 99) (by decide +kernel) rfl
theorem tm_X8_70 : Cond.methodLink RX8 70 yX8_readWord ∈ gT := g_mem2 (i := 100) (by decide +kernel) rfl
theorem ti_X8_readWord : Cond.instanceMethod yX8_readWord ∈ gT := g_mem2 (i := 102) (by decide +kernel) rfl
theorem tc_X8_readWord : Cond.code yX8_readWord cX8_readWord 5 (Option.none : Option Jvm.ClassFile.FieldType) ∈ gT := g_mem2 (i := 103) (by decide +kernel) rfl
theorem tm_X8_73 : Cond.methodLink RX8 73 yX7_isDigit ∈ gT := g_mem2 (i := 104) (by decide +kernel) rfl
theorem ti_X7_isDigit : Cond.instanceMethod yX7_isDigit ∈ gT := g_mem2 (i := 105) (by decide +kernel) rfl
theorem ts_X7_isDigit : Cond.selects RX7 yX7_isDigit yX7_isDigit ∈ gT := g_mem2 (i := 106) (by decide +kernel) rfl
theorem tc_X7_isDigit : Cond.code yX7_isDigit cX7_isDigit 3 (Option.some Jvm.ClassFile.FieldType.boolean) ∈ gT := g_mem2 (i := 107) (by decide +kernel) rfl
theorem tm_X8_82 : Cond.methodLink RX8 82 yX8_longestSpelled ∈ gT := g_mem2 (i := 108) (by decide +kernel) rfl
theorem ti_X8_longestSpelled : Cond.instanceMethod yX8_longestSpelled ∈ gT := g_mem2 (i := 110) (by decide +kernel) rfl
theorem tc_X8_longestSpelled : Cond.code yX8_longestSpelled cX8_longestSpelled 5 (Option.some (Jvm.ClassFile.FieldType.object "GlideWhistles$Sign")) ∈ gT := g_mem2 (i := 111) (by decide +kernel) rfl
theorem tfN_X8_107 : Cond.fieldLinkNest RX8 107 "GlideWhistles" "SIGNS" "[LGlideWhistles$Sign;" "GlideWhistles" ∈ gN := g_nem2 (i := 112) (by decide +kernel) rfl
theorem tm_X8_89 : Cond.methodLink RX8 89 yJ0_length_8abf5 ∈ gT := g_mem2 (i := 114) (by decide +kernel) rfl
theorem ti_J0_length_8abf5 : Cond.instanceMethod yJ0_length_8abf5 ∈ gT := g_mem2 (i := 115) (by decide +kernel) rfl
theorem ts_J0_length_8abf5 : Cond.selects RJ0 yJ0_length_8abf5 yJ0_length_8abf5 ∈ gT := g_mem2 (i := 116) (by decide +kernel) rfl
theorem tc_J0_length_8abf5 : Cond.code yJ0_length_8abf5 cJ0_length_8abf5 1 (Option.some Jvm.ClassFile.FieldType.int) ∈ gT := g_mem2 (i := 117) (by decide +kernel) rfl
theorem tm_J0_335 : Cond.methodLink RJ0 335 yJ0_coder_7d493 ∈ gT := g_mem2 (i := 118) (by decide +kernel) rfl
theorem ti_J0_coder_7d493 : Cond.instanceMethod yJ0_coder_7d493 ∈ gT := g_mem2 (i := 119) (by decide +kernel) rfl
theorem ts_J0_coder_7d493 : Cond.selects RJ0 yJ0_coder_7d493 yJ0_coder_7d493 ∈ gT := g_mem2 (i := 120) (by decide +kernel) rfl
theorem tc_J0_coder_7d493 : Cond.code yJ0_coder_7d493 cJ0_coder_7d493 1 (Option.some Jvm.ClassFile.FieldType.byte) ∈ gT := g_mem2 (i := 121) (by decide +kernel) rfl
theorem tf_J0_38 : Cond.fieldLink RJ0 38 "java/lang/String" "COMPACT_STRINGS" "Z" ∈ gT := g_mem2 (i := 122) (by decide +kernel) rfl
theorem tm_X8_110 : Cond.methodLink RX8 110 yX7_spells ∈ gT := g_mem2 (i := 124) (by decide +kernel) rfl
theorem ti_X7_spells : Cond.instanceMethod yX7_spells ∈ gT := g_mem2 (i := 125) (by decide +kernel) rfl
theorem ts_X7_spells : Cond.selects RX7 yX7_spells yX7_spells ∈ gT := g_mem2 (i := 126) (by decide +kernel) rfl
theorem tc_X7_spells : Cond.code yX7_spells cX7_spells 4 (Option.some Jvm.ClassFile.FieldType.boolean) ∈ gT := g_mem2 (i := 127) (by decide +kernel) rfl
theorem tm_X7_23 : Cond.methodLink RX7 23 yJ0_length_8abf5 ∈ gT := g_mem2 (i := 128) (by decide +kernel) rfl
theorem tm_X7_28 : Cond.methodLink RX7 28 yJ0_charAt_5068e ∈ gT := g_mem2 (i := 129) (by decide +kernel) rfl
theorem ti_J0_charAt_5068e : Cond.instanceMethod yJ0_charAt_5068e ∈ gT := g_mem2 (i := 130) (by decide +kernel) rfl
theorem ts_J0_charAt_5068e : Cond.selects RJ0 yJ0_charAt_5068e yJ0_charAt_5068e ∈ gT := g_mem2 (i := 131) (by decide +kernel) rfl
theorem tc_J0_charAt_5068e : Cond.code yJ0_charAt_5068e cJ0_charAt_5068e 2 (Option.some Jvm.ClassFile.FieldType.char) ∈ gT := g_mem2 (i := 132) (by decide +kernel) rfl
theorem tm_J0_492 : Cond.methodLink RJ0 492 yJ0_isLatin1_aae02 ∈ gT := g_mem2 (i := 133) (by decide +kernel) rfl
theorem ti_J0_isLatin1_aae02 : Cond.instanceMethod yJ0_isLatin1_aae02 ∈ gT := g_mem2 (i := 134) (by decide +kernel) rfl
theorem ts_J0_isLatin1_aae02 : Cond.selects RJ0 yJ0_isLatin1_aae02 yJ0_isLatin1_aae02 ∈ gT := g_mem2 (i := 135) (by decide +kernel) rfl
theorem tc_J0_isLatin1_aae02 : Cond.code yJ0_isLatin1_aae02 cJ0_isLatin1_aae02 1 (Option.some Jvm.ClassFile.FieldType.boolean) ∈ gT := g_mem2 (i := 136) (by decide +kernel) rfl
theorem tm_J0_495 : Cond.methodLink RJ0 495 yJ1_charAt_3b067 ∈ gT := g_mem2 (i := 137) (by decide +kernel) rfl
theorem tz_J1_charAt_3b067 : Cond.static yJ1_charAt_3b067 ∈ gT := g_mem2 (i := 138) (by decide +kernel) rfl
theorem tc_J1_charAt_3b067 : Cond.code yJ1_charAt_3b067 cJ1_charAt_3b067 2 (Option.some Jvm.ClassFile.FieldType.char) ∈ gT := g_mem2 (i := 139) (by decide +kernel) rfl
theorem tm_J1_9 : Cond.methodLink RJ1 9 yJ0_checkIndex_df160 ∈ gT := g_mem2 (i := 140) (by decide +kernel) rfl
theorem tz_J0_checkIndex_df160 : Cond.static yJ0_checkIndex_df160 ∈ gT := g_mem2 (i := 141) (by decide +kernel) rfl
theorem tc_J0_checkIndex_df160 : Cond.code yJ0_checkIndex_df160 cJ0_checkIndex_df160 2 (Option.none : Option Jvm.ClassFile.FieldType) ∈ gT := g_mem2 (i := 142) (by decide +kernel) rfl
theorem tf_J0_1053 : Cond.fieldLink RJ0 1053 "jdk/internal/util/Preconditions" "SIOOBE_FORMATTER" "Ljava/util/function/BiFunction;" ∈ gT := g_mem2 (i := 143) (by decide +kernel) rfl
theorem tm_J0_1059 : Cond.methodLink RJ0 1059 yJ3_checkIndex_8e157 ∈ gT := g_mem2 (i := 145) (by decide +kernel) rfl
theorem tz_J3_checkIndex_8e157 : Cond.static yJ3_checkIndex_8e157 ∈ gT := g_mem2 (i := 146) (by decide +kernel) rfl
theorem tc_J3_checkIndex_8e157 : Cond.code yJ3_checkIndex_8e157 cJ3_checkIndex_8e157 3 (Option.some Jvm.ClassFile.FieldType.int) ∈ gT := g_mem2 (i := 147) (by decide +kernel) rfl
theorem tm_J0_498 : Cond.methodLink RJ0 498 yJ2_charAt_3b067 ∈ gT := g_mem2 (i := 148) (by decide +kernel) rfl
theorem tz_J2_charAt_3b067 : Cond.static yJ2_charAt_3b067 ∈ gT := g_mem2 (i := 149) (by decide +kernel) rfl
theorem tc_J2_charAt_3b067 : Cond.code yJ2_charAt_3b067 cJ2_charAt_3b067 2 (Option.some Jvm.ClassFile.FieldType.char) ∈ gT := g_mem2 (i := 150) (by decide +kernel) rfl
theorem tm_J2_67 : Cond.methodLink RJ2 67 yJ2_checkIndex_2214a ∈ gT := g_mem2 (i := 151) (by decide +kernel) rfl
theorem tz_J2_checkIndex_2214a : Cond.static yJ2_checkIndex_2214a ∈ gT := g_mem2 (i := 152) (by decide +kernel) rfl
theorem tc_J2_checkIndex_2214a : Cond.code yJ2_checkIndex_2214a cJ2_checkIndex_2214a 2 (Option.none : Option Jvm.ClassFile.FieldType) ∈ gT := g_mem2 (i := 153) (by decide +kernel) rfl
theorem tm_J2_48 : Cond.methodLink RJ2 48 yJ2_length_9d52b ∈ gT := g_mem2 (i := 154) (by decide +kernel) rfl
theorem tz_J2_length_9d52b : Cond.static yJ2_length_9d52b ∈ gT := g_mem2 (i := 155) (by decide +kernel) rfl
theorem tc_J2_length_9d52b : Cond.code yJ2_length_9d52b cJ2_length_9d52b 1 (Option.some Jvm.ClassFile.FieldType.int) ∈ gT := g_mem2 (i := 156) (by decide +kernel) rfl
theorem tm_J2_414 : Cond.methodLink RJ2 414 yJ0_checkIndex_df160 ∈ gT := g_mem2 (i := 157) (by decide +kernel) rfl
theorem tm_J2_71 : Cond.methodLink RJ2 71 yJ2_getChar_3b067 ∈ gT := g_mem2 (i := 158) (by decide +kernel) rfl
theorem tz_J2_getChar_3b067 : Cond.static yJ2_getChar_3b067 ∈ gT := g_mem2 (i := 159) (by decide +kernel) rfl
theorem tc_J2_getChar_3b067 : Cond.code yJ2_getChar_3b067 cJ2_getChar_3b067 2 (Option.some Jvm.ClassFile.FieldType.char) ∈ gT := g_mem2 (i := 160) (by decide +kernel) rfl
theorem tf_J2_44 : Cond.fieldLink RJ2 44 "java/lang/StringUTF16" "$assertionsDisabled" "Z" ∈ gT := g_mem2 (i := 161) (by decide +kernel) rfl
theorem tf_J2_59 : Cond.fieldLink RJ2 59 "java/lang/StringUTF16" "HI_BYTE_SHIFT" "I" ∈ gT := g_mem2 (i := 163) (by decide +kernel) rfl
theorem tf_J2_63 : Cond.fieldLink RJ2 63 "java/lang/StringUTF16" "LO_BYTE_SHIFT" "I" ∈ gT := g_mem2 (i := 165) (by decide +kernel) rfl
theorem tf_X8_94 : Cond.fieldLink RX8 94 "GlideWhistles$Sign" "NAME" "LGlideWhistles$Sign;" ∈ gT := g_mem2 (i := 167) (by decide +kernel) rfl
theorem tm_X8_97 : Cond.methodLink RX8 97 yX8_firstAlike ∈ gT := g_mem2 (i := 169) (by decide +kernel) rfl
theorem ti_X8_firstAlike : Cond.instanceMethod yX8_firstAlike ∈ gT := g_mem2 (i := 171) (by decide +kernel) rfl
theorem tc_X8_firstAlike : Cond.code yX8_firstAlike cX8_firstAlike 4 (Option.some Jvm.ClassFile.FieldType.int) ∈ gT := g_mem2 (i := 172) (by decide +kernel) rfl
theorem tm_X8_52 : Cond.methodLink RX8 52 yX8_sign ∈ gT := g_mem2 (i := 173) (by decide +kernel) rfl
theorem ti_X8_sign : Cond.instanceMethod yX8_sign ∈ gT := g_mem2 (i := 174) (by decide +kernel) rfl
theorem ts_X8_sign : Cond.selects RX8 yX8_sign yX8_sign ∈ gT := g_mem2 (i := 175) (by decide +kernel) rfl
theorem tc_X8_sign : Cond.code yX8_sign cX8_sign 2 (Option.some (Jvm.ClassFile.FieldType.object "GlideWhistles$Sign")) ∈ gT := g_mem2 (i := 176) (by decide +kernel) rfl
theorem tm_X8_56 : Cond.methodLink RX8 56 yX8_size ∈ gT := g_mem2 (i := 177) (by decide +kernel) rfl
theorem ti_X8_size : Cond.instanceMethod yX8_size ∈ gT := g_mem2 (i := 178) (by decide +kernel) rfl
theorem ts_X8_size : Cond.selects RX8 yX8_size yX8_size ∈ gT := g_mem2 (i := 179) (by decide +kernel) rfl
theorem tc_X8_size : Cond.code yX8_size cX8_size 2 (Option.some Jvm.ClassFile.FieldType.int) ∈ gT := g_mem2 (i := 180) (by decide +kernel) rfl
theorem tm_X8_114 : Cond.methodLink RX8 114 yX8_place ∈ gT := g_mem2 (i := 181) (by decide +kernel) rfl
theorem ti_X8_place : Cond.instanceMethod yX8_place ∈ gT := g_mem2 (i := 182) (by decide +kernel) rfl
theorem ts_X8_place : Cond.selects RX8 yX8_place yX8_place ∈ gT := g_mem2 (i := 183) (by decide +kernel) rfl
theorem tc_X8_place : Cond.code yX8_place cX8_place 2 (Option.some Jvm.ClassFile.FieldType.int) ∈ gT := g_mem2 (i := 184) (by decide +kernel) rfl
theorem tm_X8_117 : Cond.methodLink RX8 117 yX7_alike ∈ gT := g_mem2 (i := 185) (by decide +kernel) rfl
theorem ti_X7_alike : Cond.instanceMethod yX7_alike ∈ gT := g_mem2 (i := 186) (by decide +kernel) rfl
theorem ts_X7_alike : Cond.selects RX7 yX7_alike yX7_alike ∈ gT := g_mem2 (i := 187) (by decide +kernel) rfl
theorem tc_X7_alike : Cond.code yX7_alike cX7_alike 5 (Option.some Jvm.ClassFile.FieldType.boolean) ∈ gT := g_mem2 (i := 188) (by decide +kernel) rfl
theorem tm_X8_76 : Cond.methodLink RX8 76 yX8_readNumber ∈ gT := g_mem2 (i := 189) (by decide +kernel) rfl
theorem ti_X8_readNumber : Cond.instanceMethod yX8_readNumber ∈ gT := g_mem2 (i := 191) (by decide +kernel) rfl
theorem tc_X8_readNumber : Cond.code yX8_readNumber cX8_readNumber 5 (Option.none : Option Jvm.ClassFile.FieldType) ∈ gT := g_mem2 (i := 192) (by decide +kernel) rfl
theorem tm_X8_101 : Cond.methodLink RX8 101 yX7_byteAt ∈ gT := g_mem2 (i := 193) (by decide +kernel) rfl
theorem tf_X8_104 : Cond.fieldLink RX8 104 "GlideWhistles$Sign" "NUMBER" "LGlideWhistles$Sign;" ∈ gT := g_mem2 (i := 194) (by decide +kernel) rfl
theorem tm_X8_79 : Cond.methodLink RX8 79 yX8_readSymbol ∈ gT := g_mem2 (i := 196) (by decide +kernel) rfl
theorem ti_X8_readSymbol : Cond.instanceMethod yX8_readSymbol ∈ gT := g_mem2 (i := 198) (by decide +kernel) rfl
theorem tc_X8_readSymbol : Cond.code yX8_readSymbol cX8_readSymbol 3 (Option.none : Option Jvm.ClassFile.FieldType) ∈ gT := g_mem2 (i := 199) (by decide +kernel) rfl
theorem tl_X12_97 : Cond.classLink RX12 97 RX2 ∈ gT := g_mem2 (i := 200) (by decide +kernel) rfl
theorem ta_X2 : Cond.instantiable RX2 10 ∈ gT := g_mem2 (i := 201) (by decide +kernel) rfl
theorem tm_X12_99 : Cond.methodLink RX12 99 yX2_init ∈ gT := g_mem2 (i := 202) (by decide +kernel) rfl
theorem ti_X2_init : Cond.instanceMethod yX2_init ∈ gT := g_mem2 (i := 203) (by decide +kernel) rfl
theorem tc_X2_init : Cond.code yX2_init cX2_init 4 (Option.none : Option Jvm.ClassFile.FieldType) ∈ gT := g_mem2 (i := 204) (by decide +kernel) rfl
theorem tm_X2_3 : Cond.methodLink RX2 3 ⟨"java/lang/Object", "<init>", "()V"⟩ ∈ gT := g_mem2 (i := 205) (by decide +kernel) rfl
theorem tf_X2_19 : Cond.fieldLink RX2 19 "GlideWhistles$Sign" "WRONG" "LGlideWhistles$Sign;" ∈ gT := g_mem2 (i := 206) (by decide +kernel) rfl
theorem tf_X2_40 : Cond.fieldLink RX2 40 "GlideWhistles$Parser" "tokens" "LGlideWhistles$Tokens;" ∈ gT := g_mem2 (i := 207) (by decide +kernel) rfl
theorem tf_X2_44 : Cond.fieldLink RX2 44 "GlideWhistles$Parser" "book" "LGlideWhistles$RuleBook;" ∈ gT := g_mem2 (i := 208) (by decide +kernel) rfl
theorem tf_X2_48 : Cond.fieldLink RX2 48 "GlideWhistles$Parser" "vocabulary" "LGlideWhistles$Vocabulary;" ∈ gT := g_mem2 (i := 209) (by decide +kernel) rfl
theorem tf_X2_9 : Cond.fieldLink RX2 9 "GlideWhistles$Parser" "names" "[I" ∈ gT := g_mem2 (i := 210) (by decide +kernel) rfl
theorem tf_X2_15 : Cond.fieldLink RX2 15 "GlideWhistles$Parser" "at" "I" ∈ gT := g_mem2 (i := 211) (by decide +kernel) rfl
theorem tf_X2_25 : Cond.fieldLink RX2 25 "GlideWhistles$Parser" "sign" "LGlideWhistles$Sign;" ∈ gT := g_mem2 (i := 212) (by decide +kernel) rfl
theorem tf_X2_28 : Cond.fieldLink RX2 28 "GlideWhistles$Parser" "place" "I" ∈ gT := g_mem2 (i := 213) (by decide +kernel) rfl
theorem tf_X2_31 : Cond.fieldLink RX2 31 "GlideWhistles$Parser" "value" "I" ∈ gT := g_mem2 (i := 214) (by decide +kernel) rfl
theorem tf_X2_34 : Cond.fieldLink RX2 34 "GlideWhistles$Parser" "error" "I" ∈ gT := g_mem2 (i := 215) (by decide +kernel) rfl
theorem tfN_X12_108 : Cond.fieldLinkNest RX12 108 "GlideWhistles$Parser" "error" "I" "GlideWhistles" ∈ gN := g_nem2 (i := 216) (by decide +kernel) rfl
theorem tf_X2_37 : Cond.fieldLink RX2 37 "GlideWhistles$Parser" "errorPlace" "I" ∈ gT := g_mem2 (i := 217) (by decide +kernel) rfl
theorem tfN_X12_105 : Cond.fieldLinkNest RX12 105 "GlideWhistles$Parser" "errorPlace" "I" "GlideWhistles" ∈ gN := g_nem2 (i := 218) (by decide +kernel) rfl
theorem tm_X12_102 : Cond.methodLink RX12 102 yX2_readLanguage ∈ gT := g_mem3 (i := 0) (by decide +kernel) rfl
theorem ti_X2_readLanguage : Cond.instanceMethod yX2_readLanguage ∈ gT := g_mem3 (i := 1) (by decide +kernel) rfl
theorem ts_X2_readLanguage : Cond.selects RX2 yX2_readLanguage yX2_readLanguage ∈ gT := g_mem3 (i := 2) (by decide +kernel) rfl
theorem tc_X2_readLanguage : Cond.code yX2_readLanguage cX2_readLanguage 2 (Option.none : Option Jvm.ClassFile.FieldType) ∈ gT := g_mem3 (i := 3) (by decide +kernel) rfl
theorem tm_X2_52 : Cond.methodLink RX2 52 yX5_clear ∈ gT := g_mem3 (i := 4) (by decide +kernel) rfl
theorem ti_X5_clear : Cond.instanceMethod yX5_clear ∈ gT := g_mem3 (i := 5) (by decide +kernel) rfl
theorem ts_X5_clear : Cond.selects RX5 yX5_clear yX5_clear ∈ gT := g_mem3 (i := 6) (by decide +kernel) rfl
theorem tc_X5_clear : Cond.code yX5_clear cX5_clear 1 (Option.none : Option Jvm.ClassFile.FieldType) ∈ gT := g_mem3 (i := 7) (by decide +kernel) rfl
theorem tm_X2_57 : Cond.methodLink RX2 57 yX9_clear ∈ gT := g_mem3 (i := 8) (by decide +kernel) rfl
theorem ti_X9_clear : Cond.instanceMethod yX9_clear ∈ gT := g_mem3 (i := 9) (by decide +kernel) rfl
theorem ts_X9_clear : Cond.selects RX9 yX9_clear yX9_clear ∈ gT := g_mem3 (i := 10) (by decide +kernel) rfl
theorem tc_X9_clear : Cond.code yX9_clear cX9_clear 1 (Option.none : Option Jvm.ClassFile.FieldType) ∈ gT := g_mem3 (i := 11) (by decide +kernel) rfl
theorem tm_X2_60 : Cond.methodLink RX2 60 yX2_step ∈ gT := g_mem3 (i := 12) (by decide +kernel) rfl
theorem ti_X2_step : Cond.instanceMethod yX2_step ∈ gT := g_mem3 (i := 14) (by decide +kernel) rfl
theorem tc_X2_step : Cond.code yX2_step cX2_step 1 (Option.none : Option Jvm.ClassFile.FieldType) ∈ gT := g_mem3 (i := 15) (by decide +kernel) rfl
theorem tm_X2_98 : Cond.methodLink RX2 98 yX8_sign ∈ gT := g_mem3 (i := 16) (by decide +kernel) rfl
theorem tm_X2_103 : Cond.methodLink RX2 103 yX8_place ∈ gT := g_mem3 (i := 17) (by decide +kernel) rfl
theorem tm_X2_106 : Cond.methodLink RX2 106 yX8_value ∈ gT := g_mem3 (i := 18) (by decide +kernel) rfl
theorem ti_X8_value : Cond.instanceMethod yX8_value ∈ gT := g_mem3 (i := 19) (by decide +kernel) rfl
theorem ts_X8_value : Cond.selects RX8 yX8_value yX8_value ∈ gT := g_mem3 (i := 20) (by decide +kernel) rfl
theorem tc_X8_value : Cond.code yX8_value cX8_value 2 (Option.some Jvm.ClassFile.FieldType.int) ∈ gT := g_mem3 (i := 21) (by decide +kernel) rfl
theorem tf_X2_63 : Cond.fieldLink RX2 63 "GlideWhistles$Sign" "END" "LGlideWhistles$Sign;" ∈ gT := g_mem3 (i := 22) (by decide +kernel) rfl
theorem tf_X2_66 : Cond.fieldLink RX2 66 "GlideWhistles$Sign" "WORD" "LGlideWhistles$Sign;" ∈ gT := g_mem3 (i := 23) (by decide +kernel) rfl
theorem tm_X2_69 : Cond.methodLink RX2 69 yX2_readWord ∈ gT := g_mem3 (i := 25) (by decide +kernel) rfl
theorem ti_X2_readWord : Cond.instanceMethod yX2_readWord ∈ gT := g_mem3 (i := 27) (by decide +kernel) rfl
theorem tc_X2_readWord : Cond.code yX2_readWord cX2_readWord 2 (Option.none : Option Jvm.ClassFile.FieldType) ∈ gT := g_mem3 (i := 28) (by decide +kernel) rfl
theorem tm_X2_111 : Cond.methodLink RX2 111 yX2_readNewName ∈ gT := g_mem3 (i := 29) (by decide +kernel) rfl
theorem ti_X2_readNewName : Cond.instanceMethod yX2_readNewName ∈ gT := g_mem3 (i := 31) (by decide +kernel) rfl
theorem tc_X2_readNewName : Cond.code yX2_readNewName cX2_readNewName 1 (Option.none : Option Jvm.ClassFile.FieldType) ∈ gT := g_mem3 (i := 32) (by decide +kernel) rfl
theorem tf_X2_123 : Cond.fieldLink RX2 123 "GlideWhistles$Sign" "NAME" "LGlideWhistles$Sign;" ∈ gT := g_mem3 (i := 33) (by decide +kernel) rfl
theorem tm_X2_108 : Cond.methodLink RX2 108 yX2_refuse ∈ gT := g_mem3 (i := 34) (by decide +kernel) rfl
theorem ti_X2_refuse : Cond.instanceMethod yX2_refuse ∈ gT := g_mem3 (i := 36) (by decide +kernel) rfl
theorem tc_X2_refuse : Cond.code yX2_refuse cX2_refuse 1 (Option.none : Option Jvm.ClassFile.FieldType) ∈ gT := g_mem3 (i := 37) (by decide +kernel) rfl
theorem tm_X2_126 : Cond.methodLink RX2 126 yX2_wordCalled ∈ gT := g_mem3 (i := 38) (by decide +kernel) rfl
theorem ti_X2_wordCalled : Cond.instanceMethod yX2_wordCalled ∈ gT := g_mem3 (i := 40) (by decide +kernel) rfl
theorem tc_X2_wordCalled : Cond.code yX2_wordCalled cX2_wordCalled 3 (Option.some Jvm.ClassFile.FieldType.int) ∈ gT := g_mem3 (i := 41) (by decide +kernel) rfl
theorem tm_X2_129 : Cond.methodLink RX2 129 yX2_blame ∈ gT := g_mem3 (i := 42) (by decide +kernel) rfl
theorem ti_X2_blame : Cond.instanceMethod yX2_blame ∈ gT := g_mem3 (i := 44) (by decide +kernel) rfl
theorem tc_X2_blame : Cond.code yX2_blame cX2_blame 2 (Option.none : Option Jvm.ClassFile.FieldType) ∈ gT := g_mem3 (i := 45) (by decide +kernel) rfl
theorem tm_X2_136 : Cond.methodLink RX2 136 yX9_addWord ∈ gT := g_mem3 (i := 46) (by decide +kernel) rfl
theorem ti_X9_addWord : Cond.instanceMethod yX9_addWord ∈ gT := g_mem3 (i := 47) (by decide +kernel) rfl
theorem ts_X9_addWord : Cond.selects RX9 yX9_addWord yX9_addWord ∈ gT := g_mem3 (i := 48) (by decide +kernel) rfl
theorem tc_X9_addWord : Cond.code yX9_addWord cX9_addWord 2 (Option.none : Option Jvm.ClassFile.FieldType) ∈ gT := g_mem3 (i := 49) (by decide +kernel) rfl
theorem tm_X9_32 : Cond.methodLink RX9 32 yX9_word ∈ gT := g_mem3 (i := 50) (by decide +kernel) rfl
theorem ti_X9_word : Cond.instanceMethod yX9_word ∈ gT := g_mem3 (i := 51) (by decide +kernel) rfl
theorem ts_X9_word : Cond.selects RX9 yX9_word yX9_word ∈ gT := g_mem3 (i := 52) (by decide +kernel) rfl
theorem tc_X9_word : Cond.code yX9_word cX9_word 2 (Option.some (Jvm.ClassFile.FieldType.object "GlideWhistles$Word")) ∈ gT := g_mem3 (i := 53) (by decide +kernel) rfl
theorem tf_X2_114 : Cond.fieldLink RX2 114 "GlideWhistles$Sign" "IS" "LGlideWhistles$Sign;" ∈ gT := g_mem3 (i := 54) (by decide +kernel) rfl
theorem tm_X2_94 : Cond.methodLink RX2 94 yX2_expect ∈ gT := g_mem3 (i := 56) (by decide +kernel) rfl
theorem ti_X2_expect : Cond.instanceMethod yX2_expect ∈ gT := g_mem3 (i := 58) (by decide +kernel) rfl
theorem tc_X2_expect : Cond.code yX2_expect cX2_expect 2 (Option.none : Option Jvm.ClassFile.FieldType) ∈ gT := g_mem3 (i := 59) (by decide +kernel) rfl
theorem tm_X2_117 : Cond.methodLink RX2 117 yX2_readPart ∈ gT := g_mem3 (i := 60) (by decide +kernel) rfl
theorem ti_X2_readPart : Cond.instanceMethod yX2_readPart ∈ gT := g_mem3 (i := 62) (by decide +kernel) rfl
theorem tc_X2_readPart : Cond.code yX2_readPart cX2_readPart 4 (Option.none : Option Jvm.ClassFile.FieldType) ∈ gT := g_mem3 (i := 63) (by decide +kernel) rfl
theorem tm_X2_139 : Cond.methodLink RX2 139 yX9_word ∈ gT := g_mem3 (i := 64) (by decide +kernel) rfl
theorem tf_X2_149 : Cond.fieldLink RX2 149 "GlideWhistles$Sign" "HOLD" "LGlideWhistles$Sign;" ∈ gT := g_mem3 (i := 65) (by decide +kernel) rfl
theorem tm_X2_75 : Cond.methodLink RX2 75 yX2_readNumber ∈ gT := g_mem3 (i := 67) (by decide +kernel) rfl
theorem ti_X2_readNumber : Cond.instanceMethod yX2_readNumber ∈ gT := g_mem3 (i := 69) (by decide +kernel) rfl
theorem tc_X2_readNumber : Cond.code yX2_readNumber cX2_readNumber 4 (Option.some Jvm.ClassFile.FieldType.int) ∈ gT := g_mem3 (i := 70) (by decide +kernel) rfl
theorem tf_X2_178 : Cond.fieldLink RX2 178 "GlideWhistles$Sign" "NUMBER" "LGlideWhistles$Sign;" ∈ gT := g_mem3 (i := 71) (by decide +kernel) rfl
theorem tf_X2_152 : Cond.fieldLink RX2 152 "GlideWhistles$Sign" "GLIDE" "LGlideWhistles$Sign;" ∈ gT := g_mem3 (i := 72) (by decide +kernel) rfl
theorem tf_X2_155 : Cond.fieldLink RX2 155 "GlideWhistles$Sign" "TO" "LGlideWhistles$Sign;" ∈ gT := g_mem3 (i := 74) (by decide +kernel) rfl
theorem tf_X2_158 : Cond.fieldLink RX2 158 "GlideWhistles$Sign" "REST" "LGlideWhistles$Sign;" ∈ gT := g_mem3 (i := 76) (by decide +kernel) rfl
theorem tf_X2_161 : Cond.fieldLink RX2 161 "GlideWhistles$Sign" "FOR" "LGlideWhistles$Sign;" ∈ gT := g_mem3 (i := 78) (by decide +kernel) rfl
theorem tm_X2_169 : Cond.methodLink RX2 169 yJ9_min_7cf53 ∈ gT := g_mem3 (i := 80) (by decide +kernel) rfl
theorem tz_J9_min_7cf53 : Cond.static yJ9_min_7cf53 ∈ gT := g_mem3 (i := 81) (by decide +kernel) rfl
theorem tc_J9_min_7cf53 : Cond.code yJ9_min_7cf53 cJ9_min_7cf53 2 (Option.some Jvm.ClassFile.FieldType.int) ∈ gT := g_mem3 (i := 82) (by decide +kernel) rfl
theorem tm_X2_174 : Cond.methodLink RX2 174 yX3_addGlide ∈ gT := g_mem3 (i := 83) (by decide +kernel) rfl
theorem ti_X3_addGlide : Cond.instanceMethod yX3_addGlide ∈ gT := g_mem3 (i := 84) (by decide +kernel) rfl
theorem ts_X3_addGlide : Cond.selects RX3 yX3_addGlide yX3_addGlide ∈ gT := g_mem3 (i := 85) (by decide +kernel) rfl
theorem tc_X3_addGlide : Cond.code yX3_addGlide cX3_addGlide 5 (Option.none : Option Jvm.ClassFile.FieldType) ∈ gT := g_mem3 (i := 86) (by decide +kernel) rfl
theorem tmN_X3_23 : Cond.methodLinkNest RX3 23 yX12_quotient "GlideWhistles" ∈ gN := g_nem3 (i := 87) (by decide +kernel) rfl
theorem tz_X12_quotient : Cond.static yX12_quotient ∈ gT := g_mem3 (i := 88) (by decide +kernel) rfl
theorem tc_X12_quotient : Cond.code yX12_quotient cX12_quotient 2 (Option.some Jvm.ClassFile.FieldType.int) ∈ gT := g_mem3 (i := 89) (by decide +kernel) rfl
theorem tm_X3_27 : Cond.methodLink RX3 27 yX3_add ∈ gT := g_mem3 (i := 90) (by decide +kernel) rfl
theorem ti_X3_add : Cond.instanceMethod yX3_add ∈ gT := g_mem3 (i := 91) (by decide +kernel) rfl
theorem ts_X3_add : Cond.selects RX3 yX3_add yX3_add ∈ gT := g_mem3 (i := 92) (by decide +kernel) rfl
theorem tc_X3_add : Cond.code yX3_add cX3_add 2 (Option.none : Option Jvm.ClassFile.FieldType) ∈ gT := g_mem3 (i := 93) (by decide +kernel) rfl
theorem tf_X2_120 : Cond.fieldLink RX2 120 "GlideWhistles$Sign" "COMMA" "LGlideWhistles$Sign;" ∈ gT := g_mem3 (i := 94) (by decide +kernel) rfl
theorem tf_X2_72 : Cond.fieldLink RX2 72 "GlideWhistles$Sign" "BAND" "LGlideWhistles$Sign;" ∈ gT := g_mem3 (i := 96) (by decide +kernel) rfl
theorem tf_X2_82 : Cond.fieldLink RX2 82 "GlideWhistles$Sign" "NEAR" "LGlideWhistles$Sign;" ∈ gT := g_mem3 (i := 98) (by decide +kernel) rfl
theorem tm_X2_88 : Cond.methodLink RX2 88 yX2_readRule ∈ gT := g_mem3 (i := 100) (by decide +kernel) rfl
theorem ti_X2_readRule : Cond.instanceMethod yX2_readRule ∈ gT := g_mem3 (i := 102) (by decide +kernel) rfl
theorem tc_X2_readRule : Cond.code yX2_readRule cX2_readRule 5 (Option.none : Option Jvm.ClassFile.FieldType) ∈ gT := g_mem3 (i := 103) (by decide +kernel) rfl
theorem tf_X2_181 : Cond.fieldLink RX2 181 "GlideWhistles$Sign" "PRUNE" "LGlideWhistles$Sign;" ∈ gT := g_mem3 (i := 104) (by decide +kernel) rfl
theorem tf_X2_184 : Cond.fieldLink RX2 184 "GlideWhistles$Sign" "RESTORE" "LGlideWhistles$Sign;" ∈ gT := g_mem3 (i := 105) (by decide +kernel) rfl
theorem tf_X2_187 : Cond.fieldLink RX2 187 "GlideWhistles$Sign" "SHIFT" "LGlideWhistles$Sign;" ∈ gT := g_mem3 (i := 107) (by decide +kernel) rfl
theorem tm_X2_191 : Cond.methodLink RX2 191 yX2_readKnownName ∈ gT := g_mem3 (i := 109) (by decide +kernel) rfl
theorem ti_X2_readKnownName : Cond.instanceMethod yX2_readKnownName ∈ gT := g_mem3 (i := 111) (by decide +kernel) rfl
theorem tc_X2_readKnownName : Cond.code yX2_readKnownName cX2_readKnownName 2 (Option.some Jvm.ClassFile.FieldType.int) ∈ gT := g_mem3 (i := 112) (by decide +kernel) rfl
theorem tf_X2_198 : Cond.fieldLink RX2 198 "GlideWhistles$Sign" "BY" "LGlideWhistles$Sign;" ∈ gT := g_mem3 (i := 113) (by decide +kernel) rfl
theorem tm_X2_201 : Cond.methodLink RX2 201 yX2_readSum ∈ gT := g_mem3 (i := 115) (by decide +kernel) rfl
theorem ti_X2_readSum : Cond.instanceMethod yX2_readSum ∈ gT := g_mem3 (i := 117) (by decide +kernel) rfl
theorem tc_X2_readSum : Cond.code yX2_readSum cX2_readSum 4 (Option.none : Option Jvm.ClassFile.FieldType) ∈ gT := g_mem3 (i := 118) (by decide +kernel) rfl
theorem tm_X2_267 : Cond.methodLink RX2 267 yX2_readProduct ∈ gT := g_mem3 (i := 119) (by decide +kernel) rfl
theorem ti_X2_readProduct : Cond.instanceMethod yX2_readProduct ∈ gT := g_mem3 (i := 121) (by decide +kernel) rfl
theorem tc_X2_readProduct : Cond.code yX2_readProduct cX2_readProduct 4 (Option.none : Option Jvm.ClassFile.FieldType) ∈ gT := g_mem3 (i := 122) (by decide +kernel) rfl
theorem tm_X2_276 : Cond.methodLink RX2 276 yX2_readValue ∈ gT := g_mem3 (i := 123) (by decide +kernel) rfl
theorem ti_X2_readValue : Cond.instanceMethod yX2_readValue ∈ gT := g_mem3 (i := 125) (by decide +kernel) rfl
theorem tc_X2_readValue : Cond.code yX2_readValue cX2_readValue 3 (Option.none : Option Jvm.ClassFile.FieldType) ∈ gT := g_mem3 (i := 126) (by decide +kernel) rfl
theorem tf_X2_273 : Cond.fieldLink RX2 273 "GlideWhistles$Sign" "MINUS" "LGlideWhistles$Sign;" ∈ gT := g_mem3 (i := 127) (by decide +kernel) rfl
theorem tm_X2_233 : Cond.methodLink RX2 233 yX2_requireDepth ∈ gT := g_mem3 (i := 129) (by decide +kernel) rfl
theorem ti_X2_requireDepth : Cond.instanceMethod yX2_requireDepth ∈ gT := g_mem3 (i := 131) (by decide +kernel) rfl
theorem tc_X2_requireDepth : Cond.code yX2_requireDepth cX2_requireDepth 2 (Option.none : Option Jvm.ClassFile.FieldType) ∈ gT := g_mem3 (i := 132) (by decide +kernel) rfl
theorem tf_X2_285 : Cond.fieldLink RX2 285 "GlideWhistles$Sign" "NEGATIVE" "LGlideWhistles$Sign;" ∈ gT := g_mem3 (i := 133) (by decide +kernel) rfl
theorem tm_X2_220 : Cond.methodLink RX2 220 yX5_addSign ∈ gT := g_mem3 (i := 135) (by decide +kernel) rfl
theorem ti_X5_addSign : Cond.instanceMethod yX5_addSign ∈ gT := g_mem3 (i := 136) (by decide +kernel) rfl
theorem ts_X5_addSign : Cond.selects RX5 yX5_addSign yX5_addSign ∈ gT := g_mem3 (i := 137) (by decide +kernel) rfl
theorem tc_X5_addSign : Cond.code yX5_addSign cX5_addSign 3 (Option.none : Option Jvm.ClassFile.FieldType) ∈ gT := g_mem3 (i := 138) (by decide +kernel) rfl
theorem tf_X2_288 : Cond.fieldLink RX2 288 "GlideWhistles$Sign" "OPEN" "LGlideWhistles$Sign;" ∈ gT := g_mem3 (i := 139) (by decide +kernel) rfl
theorem tf_X2_291 : Cond.fieldLink RX2 291 "GlideWhistles$Sign" "CLOSE" "LGlideWhistles$Sign;" ∈ gT := g_mem3 (i := 141) (by decide +kernel) rfl
theorem tf_X2_294 : Cond.fieldLink RX2 294 "GlideWhistles$Sign" "MIN" "LGlideWhistles$Sign;" ∈ gT := g_mem3 (i := 143) (by decide +kernel) rfl
theorem tf_X2_297 : Cond.fieldLink RX2 297 "GlideWhistles$Sign" "MAX" "LGlideWhistles$Sign;" ∈ gT := g_mem3 (i := 145) (by decide +kernel) rfl
theorem tm_X2_300 : Cond.methodLink RX2 300 yX2_readChoice ∈ gT := g_mem3 (i := 147) (by decide +kernel) rfl
theorem ti_X2_readChoice : Cond.instanceMethod yX2_readChoice ∈ gT := g_mem3 (i := 149) (by decide +kernel) rfl
theorem tc_X2_readChoice : Cond.code yX2_readChoice cX2_readChoice 3 (Option.none : Option Jvm.ClassFile.FieldType) ∈ gT := g_mem3 (i := 150) (by decide +kernel) rfl
theorem tf_X2_303 : Cond.fieldLink RX2 303 "GlideWhistles$Sign" "DISTANCE" "LGlideWhistles$Sign;" ∈ gT := g_mem3 (i := 151) (by decide +kernel) rfl
theorem tf_X2_306 : Cond.fieldLink RX2 306 "GlideWhistles$Sign" "LENGTH" "LGlideWhistles$Sign;" ∈ gT := g_mem3 (i := 153) (by decide +kernel) rfl
theorem tf_X2_309 : Cond.fieldLink RX2 309 "GlideWhistles$Sign" "OF" "LGlideWhistles$Sign;" ∈ gT := g_mem3 (i := 155) (by decide +kernel) rfl
theorem tf_X2_312 : Cond.fieldLink RX2 312 "GlideWhistles$Sign" "LESSON" "LGlideWhistles$Sign;" ∈ gT := g_mem3 (i := 157) (by decide +kernel) rfl
theorem tf_X2_315 : Cond.fieldLink RX2 315 "GlideWhistles$Sign" "KEPT" "LGlideWhistles$Sign;" ∈ gT := g_mem3 (i := 159) (by decide +kernel) rfl
theorem tf_X2_279 : Cond.fieldLink RX2 279 "GlideWhistles$Sign" "TIMES" "LGlideWhistles$Sign;" ∈ gT := g_mem3 (i := 161) (by decide +kernel) rfl
theorem tf_X2_282 : Cond.fieldLink RX2 282 "GlideWhistles$Sign" "OVER" "LGlideWhistles$Sign;" ∈ gT := g_mem3 (i := 163) (by decide +kernel) rfl
theorem tf_X2_270 : Cond.fieldLink RX2 270 "GlideWhistles$Sign" "PLUS" "LGlideWhistles$Sign;" ∈ gT := g_mem3 (i := 165) (by decide +kernel) rfl
theorem tf_X2_204 : Cond.fieldLink RX2 204 "GlideWhistles$Sign" "WHEN" "LGlideWhistles$Sign;" ∈ gT := g_mem3 (i := 167) (by decide +kernel) rfl
theorem tm_X2_207 : Cond.methodLink RX2 207 yX2_readTest ∈ gT := g_mem3 (i := 169) (by decide +kernel) rfl
theorem ti_X2_readTest : Cond.instanceMethod yX2_readTest ∈ gT := g_mem3 (i := 171) (by decide +kernel) rfl
theorem tc_X2_readTest : Cond.code yX2_readTest cX2_readTest 3 (Option.none : Option Jvm.ClassFile.FieldType) ∈ gT := g_mem3 (i := 172) (by decide +kernel) rfl
theorem tm_X2_214 : Cond.methodLink RX2 214 yX2_readBoth ∈ gT := g_mem3 (i := 173) (by decide +kernel) rfl
theorem ti_X2_readBoth : Cond.instanceMethod yX2_readBoth ∈ gT := g_mem3 (i := 175) (by decide +kernel) rfl
theorem tc_X2_readBoth : Cond.code yX2_readBoth cX2_readBoth 3 (Option.none : Option Jvm.ClassFile.FieldType) ∈ gT := g_mem3 (i := 176) (by decide +kernel) rfl
theorem tm_X2_224 : Cond.methodLink RX2 224 yX2_readSingle ∈ gT := g_mem3 (i := 177) (by decide +kernel) rfl
theorem ti_X2_readSingle : Cond.instanceMethod yX2_readSingle ∈ gT := g_mem3 (i := 179) (by decide +kernel) rfl
theorem tc_X2_readSingle : Cond.code yX2_readSingle cX2_readSingle 3 (Option.none : Option Jvm.ClassFile.FieldType) ∈ gT := g_mem3 (i := 180) (by decide +kernel) rfl
theorem tf_X2_230 : Cond.fieldLink RX2 230 "GlideWhistles$Sign" "NOT" "LGlideWhistles$Sign;" ∈ gT := g_mem3 (i := 181) (by decide +kernel) rfl
theorem tf_X2_236 : Cond.fieldLink RX2 236 "GlideWhistles$Sign" "OPEN_TEST" "LGlideWhistles$Sign;" ∈ gT := g_mem3 (i := 183) (by decide +kernel) rfl
theorem tf_X2_239 : Cond.fieldLink RX2 239 "GlideWhistles$Sign" "CLOSE_TEST" "LGlideWhistles$Sign;" ∈ gT := g_mem3 (i := 185) (by decide +kernel) rfl
theorem tf_X2_242 : Cond.fieldLink RX2 242 "GlideWhistles$Sign" "HEARD" "LGlideWhistles$Sign;" ∈ gT := g_mem3 (i := 187) (by decide +kernel) rfl
theorem tf_X2_245 : Cond.fieldLink RX2 245 "GlideWhistles$Sign" "PRUNED" "LGlideWhistles$Sign;" ∈ gT := g_mem3 (i := 189) (by decide +kernel) rfl
theorem tm_X2_248 : Cond.methodLink RX2 248 yX2_isComparison ∈ gT := g_mem3 (i := 191) (by decide +kernel) rfl
theorem ti_X2_isComparison : Cond.instanceMethod yX2_isComparison ∈ gT := g_mem3 (i := 193) (by decide +kernel) rfl
theorem tc_X2_isComparison : Cond.code yX2_isComparison cX2_isComparison 1 (Option.some Jvm.ClassFile.FieldType.boolean) ∈ gT := g_mem3 (i := 194) (by decide +kernel) rfl
theorem tf_X2_252 : Cond.fieldLink RX2 252 "GlideWhistles$Sign" "LESS" "LGlideWhistles$Sign;" ∈ gT := g_mem3 (i := 195) (by decide +kernel) rfl
theorem tf_X2_255 : Cond.fieldLink RX2 255 "GlideWhistles$Sign" "GREATER" "LGlideWhistles$Sign;" ∈ gT := g_mem3 (i := 197) (by decide +kernel) rfl
theorem tf_X2_258 : Cond.fieldLink RX2 258 "GlideWhistles$Sign" "EQUAL" "LGlideWhistles$Sign;" ∈ gT := g_mem3 (i := 199) (by decide +kernel) rfl
theorem tf_X2_261 : Cond.fieldLink RX2 261 "GlideWhistles$Sign" "AT_MOST" "LGlideWhistles$Sign;" ∈ gT := g_mem3 (i := 201) (by decide +kernel) rfl
theorem tf_X2_264 : Cond.fieldLink RX2 264 "GlideWhistles$Sign" "AT_LEAST" "LGlideWhistles$Sign;" ∈ gT := g_mem3 (i := 203) (by decide +kernel) rfl
theorem tf_X2_227 : Cond.fieldLink RX2 227 "GlideWhistles$Sign" "AND" "LGlideWhistles$Sign;" ∈ gT := g_mem3 (i := 205) (by decide +kernel) rfl
theorem tf_X2_217 : Cond.fieldLink RX2 217 "GlideWhistles$Sign" "OR" "LGlideWhistles$Sign;" ∈ gT := g_mem3 (i := 207) (by decide +kernel) rfl
theorem tm_X2_210 : Cond.methodLink RX2 210 yX5_addRule ∈ gT := g_mem3 (i := 209) (by decide +kernel) rfl
theorem ti_X5_addRule : Cond.instanceMethod yX5_addRule ∈ gT := g_mem3 (i := 210) (by decide +kernel) rfl
theorem ts_X5_addRule : Cond.selects RX5 yX5_addRule yX5_addRule ∈ gT := g_mem3 (i := 211) (by decide +kernel) rfl
theorem tc_X5_addRule : Cond.code yX5_addRule cX5_addRule 6 (Option.none : Option Jvm.ClassFile.FieldType) ∈ gT := g_mem3 (i := 212) (by decide +kernel) rfl
theorem tm_X5_49 : Cond.methodLink RX5 49 yX5_rule ∈ gT := g_mem3 (i := 213) (by decide +kernel) rfl
theorem ti_X5_rule : Cond.instanceMethod yX5_rule ∈ gT := g_mem3 (i := 214) (by decide +kernel) rfl
theorem ts_X5_rule : Cond.selects RX5 yX5_rule yX5_rule ∈ gT := g_mem3 (i := 215) (by decide +kernel) rfl
theorem tc_X5_rule : Cond.code yX5_rule cX5_rule 2 (Option.some (Jvm.ClassFile.FieldType.object "GlideWhistles$Rule")) ∈ gT := g_mem3 (i := 216) (by decide +kernel) rfl
theorem tf_X2_91 : Cond.fieldLink RX2 91 "GlideWhistles$Sign" "SEMICOLON" "LGlideWhistles$Sign;" ∈ gT := g_mem3 (i := 217) (by decide +kernel) rfl
theorem tm_X12_111 : Cond.methodLink RX12 111 yX12_beginAnew ∈ gT := g_mem3 (i := 219) (by decide +kernel) rfl
theorem ti_X12_beginAnew : Cond.instanceMethod yX12_beginAnew ∈ gT := g_mem3 (i := 221) (by decide +kernel) rfl
theorem tc_X12_beginAnew : Cond.code yX12_beginAnew cX12_beginAnew 3 (Option.none : Option Jvm.ClassFile.FieldType) ∈ gT := g_mem3 (i := 222) (by decide +kernel) rfl
theorem tm_L_117 : Cond.methodLink RL 117 yX12_errorAt ∈ gT := g_mem3 (i := 223) (by decide +kernel) rfl
theorem ti_X12_errorAt : Cond.instanceMethod yX12_errorAt ∈ gT := g_mem3 (i := 224) (by decide +kernel) rfl
theorem ts_X12_errorAt : Cond.selects RX12 yX12_errorAt yX12_errorAt ∈ gT := g_mem3 (i := 225) (by decide +kernel) rfl
theorem tc_X12_errorAt : Cond.code yX12_errorAt cX12_errorAt 1 (Option.some Jvm.ClassFile.FieldType.int) ∈ gT := g_mem3 (i := 226) (by decide +kernel) rfl
theorem tm_L_121 : Cond.methodLink RL 121 yX12_words ∈ gT := g_mem3 (i := 227) (by decide +kernel) rfl
theorem ti_X12_words : Cond.instanceMethod yX12_words ∈ gT := g_mem3 (i := 228) (by decide +kernel) rfl
theorem ts_X12_words : Cond.selects RX12 yX12_words yX12_words ∈ gT := g_mem3 (i := 229) (by decide +kernel) rfl
theorem tc_X12_words : Cond.code yX12_words cX12_words 1 (Option.some Jvm.ClassFile.FieldType.int) ∈ gT := g_mem3 (i := 230) (by decide +kernel) rfl
theorem tm_L_125 : Cond.methodLink RL 125 yX12_keptWords ∈ gT := g_mem3 (i := 231) (by decide +kernel) rfl
theorem ti_X12_keptWords : Cond.instanceMethod yX12_keptWords ∈ gT := g_mem3 (i := 232) (by decide +kernel) rfl
theorem ts_X12_keptWords : Cond.selects RX12 yX12_keptWords yX12_keptWords ∈ gT := g_mem3 (i := 233) (by decide +kernel) rfl
theorem tc_X12_keptWords : Cond.code yX12_keptWords cX12_keptWords 1 (Option.some Jvm.ClassFile.FieldType.int) ∈ gT := g_mem3 (i := 234) (by decide +kernel) rfl
theorem tm_X12_117 : Cond.methodLink RX12 117 yX9_countKept ∈ gT := g_mem3 (i := 235) (by decide +kernel) rfl
theorem ti_X9_countKept : Cond.instanceMethod yX9_countKept ∈ gT := g_mem3 (i := 236) (by decide +kernel) rfl
theorem ts_X9_countKept : Cond.selects RX9 yX9_countKept yX9_countKept ∈ gT := g_mem3 (i := 237) (by decide +kernel) rfl
theorem tc_X9_countKept : Cond.code yX9_countKept cX9_countKept 3 (Option.some Jvm.ClassFile.FieldType.int) ∈ gT := g_mem3 (i := 238) (by decide +kernel) rfl
theorem tm_L_129 : Cond.methodLink RL 129 yX12_rules ∈ gT := g_mem3 (i := 239) (by decide +kernel) rfl
theorem ti_X12_rules : Cond.instanceMethod yX12_rules ∈ gT := g_mem4 (i := 0) (by decide +kernel) rfl
theorem ts_X12_rules : Cond.selects RX12 yX12_rules yX12_rules ∈ gT := g_mem4 (i := 1) (by decide +kernel) rfl
theorem tc_X12_rules : Cond.code yX12_rules cX12_rules 1 (Option.some Jvm.ClassFile.FieldType.int) ∈ gT := g_mem4 (i := 2) (by decide +kernel) rfl
theorem tm_L_133 : Cond.methodLink RL 133 yX12_lessons ∈ gT := g_mem4 (i := 3) (by decide +kernel) rfl
theorem ti_X12_lessons : Cond.instanceMethod yX12_lessons ∈ gT := g_mem4 (i := 4) (by decide +kernel) rfl
theorem ts_X12_lessons : Cond.selects RX12 yX12_lessons yX12_lessons ∈ gT := g_mem4 (i := 5) (by decide +kernel) rfl
theorem tc_X12_lessons : Cond.code yX12_lessons cX12_lessons 1 (Option.some Jvm.ClassFile.FieldType.int) ∈ gT := g_mem4 (i := 6) (by decide +kernel) rfl
theorem tm_L_137 : Cond.methodLink RL 137 yX12_rulesCarriedOut ∈ gT := g_mem4 (i := 7) (by decide +kernel) rfl
theorem ti_X12_rulesCarriedOut : Cond.instanceMethod yX12_rulesCarriedOut ∈ gT := g_mem4 (i := 8) (by decide +kernel) rfl
theorem ts_X12_rulesCarriedOut : Cond.selects RX12 yX12_rulesCarriedOut yX12_rulesCarriedOut ∈ gT := g_mem4 (i := 9) (by decide +kernel) rfl
theorem tc_X12_rulesCarriedOut : Cond.code yX12_rulesCarriedOut cX12_rulesCarriedOut 1 (Option.some Jvm.ClassFile.FieldType.int) ∈ gT := g_mem4 (i := 10) (by decide +kernel) rfl
theorem tm_L_141 : Cond.methodLink RL 141 yX12_heardBeats ∈ gT := g_mem4 (i := 11) (by decide +kernel) rfl
theorem ti_X12_heardBeats : Cond.instanceMethod yX12_heardBeats ∈ gT := g_mem4 (i := 12) (by decide +kernel) rfl
theorem ts_X12_heardBeats : Cond.selects RX12 yX12_heardBeats yX12_heardBeats ∈ gT := g_mem4 (i := 13) (by decide +kernel) rfl
theorem tc_X12_heardBeats : Cond.code yX12_heardBeats cX12_heardBeats 1 (Option.some Jvm.ClassFile.FieldType.int) ∈ gT := g_mem4 (i := 14) (by decide +kernel) rfl
theorem tm_L_201 : Cond.methodLink RL 201 yX12_forget ∈ gT := g_mem4 (i := 15) (by decide +kernel) rfl
theorem ti_X12_forget : Cond.instanceMethod yX12_forget ∈ gT := g_mem4 (i := 16) (by decide +kernel) rfl
theorem ts_X12_forget : Cond.selects RX12 yX12_forget yX12_forget ∈ gT := g_mem4 (i := 17) (by decide +kernel) rfl
theorem tc_X12_forget : Cond.code yX12_forget cX12_forget 2 (Option.some Jvm.ClassFile.FieldType.int) ∈ gT := g_mem4 (i := 18) (by decide +kernel) rfl
theorem tm_X12_207 : Cond.methodLink RX12 207 yX1_measureAll ∈ gT := g_mem4 (i := 19) (by decide +kernel) rfl
theorem ti_X1_measureAll : Cond.instanceMethod yX1_measureAll ∈ gT := g_mem4 (i := 20) (by decide +kernel) rfl
theorem ts_X1_measureAll : Cond.selects RX1 yX1_measureAll yX1_measureAll ∈ gT := g_mem4 (i := 21) (by decide +kernel) rfl
theorem tc_X1_measureAll : Cond.code yX1_measureAll cX1_measureAll 4 (Option.none : Option Jvm.ClassFile.FieldType) ∈ gT := g_mem4 (i := 22) (by decide +kernel) rfl
theorem tm_X1_41 : Cond.methodLink RX1 41 yX9_word ∈ gT := g_mem4 (i := 23) (by decide +kernel) rfl
theorem tm_X1_45 : Cond.methodLink RX1 45 yX1_measure ∈ gT := g_mem4 (i := 24) (by decide +kernel) rfl
theorem ti_X1_measure : Cond.instanceMethod yX1_measure ∈ gT := g_mem4 (i := 26) (by decide +kernel) rfl
theorem tc_X1_measure : Cond.code yX1_measure cX1_measure 3 (Option.none : Option Jvm.ClassFile.FieldType) ∈ gT := g_mem4 (i := 27) (by decide +kernel) rfl
theorem tm_X1_59 : Cond.methodLink RX1 59 yX10_distance ∈ gT := g_mem4 (i := 28) (by decide +kernel) rfl
theorem ti_X10_distance : Cond.instanceMethod yX10_distance ∈ gT := g_mem4 (i := 29) (by decide +kernel) rfl
theorem ts_X10_distance : Cond.selects RX10 yX10_distance yX10_distance ∈ gT := g_mem4 (i := 30) (by decide +kernel) rfl
theorem tc_X10_distance : Cond.code yX10_distance cX10_distance 4 (Option.some Jvm.ClassFile.FieldType.int) ∈ gT := g_mem4 (i := 31) (by decide +kernel) rfl
theorem tm_X10_25 : Cond.methodLink RX10 25 yX10_lightest ∈ gT := g_mem4 (i := 32) (by decide +kernel) rfl
theorem ti_X10_lightest : Cond.instanceMethod yX10_lightest ∈ gT := g_mem4 (i := 34) (by decide +kernel) rfl
theorem tc_X10_lightest : Cond.code yX10_lightest cX10_lightest 12 (Option.some Jvm.ClassFile.FieldType.int) ∈ gT := g_mem4 (i := 35) (by decide +kernel) rfl
theorem tm_X10_37 : Cond.methodLink RX10 37 yJ9_abs_0f7a4 ∈ gT := g_mem4 (i := 36) (by decide +kernel) rfl
theorem tz_J9_abs_0f7a4 : Cond.static yJ9_abs_0f7a4 ∈ gT := g_mem4 (i := 37) (by decide +kernel) rfl
theorem tc_J9_abs_0f7a4 : Cond.code yJ9_abs_0f7a4 cJ9_abs_0f7a4 1 (Option.some Jvm.ClassFile.FieldType.int) ∈ gT := g_mem4 (i := 38) (by decide +kernel) rfl
theorem tq_X10_43 : Cond.constant RX10 43 (16777216 : Int32) ∈ gT := g_mem4 (i := 39) (by decide +kernel) rfl
theorem tm_X10_44 : Cond.methodLink RX10 44 yJ7_fill_53178 ∈ gT := g_mem4 (i := 40) (by decide +kernel) rfl
theorem tz_J7_fill_53178 : Cond.static yJ7_fill_53178 ∈ gT := g_mem4 (i := 41) (by decide +kernel) rfl
theorem tc_J7_fill_53178 : Cond.code yJ7_fill_53178 cJ7_fill_53178 4 (Option.none : Option Jvm.ClassFile.FieldType) ∈ gT := g_mem4 (i := 42) (by decide +kernel) rfl
theorem tm_X10_50 : Cond.methodLink RX10 50 yJ9_min_7cf53 ∈ gT := g_mem4 (i := 43) (by decide +kernel) rfl
theorem tm_X10_54 : Cond.methodLink RX10 54 yX3_pitch ∈ gT := g_mem4 (i := 44) (by decide +kernel) rfl
theorem ti_X3_pitch : Cond.instanceMethod yX3_pitch ∈ gT := g_mem4 (i := 45) (by decide +kernel) rfl
theorem ts_X3_pitch : Cond.selects RX3 yX3_pitch yX3_pitch ∈ gT := g_mem4 (i := 46) (by decide +kernel) rfl
theorem tc_X3_pitch : Cond.code yX3_pitch cX3_pitch 2 (Option.some Jvm.ClassFile.FieldType.int) ∈ gT := g_mem4 (i := 47) (by decide +kernel) rfl
theorem tm_X10_57 : Cond.methodLink RX10 57 yX10_weight ∈ gT := g_mem4 (i := 48) (by decide +kernel) rfl
theorem tz_X10_weight : Cond.static yX10_weight ∈ gT := g_mem4 (i := 49) (by decide +kernel) rfl
theorem tc_X10_weight : Cond.code yX10_weight cX10_weight 4 (Option.some Jvm.ClassFile.FieldType.int) ∈ gT := g_mem4 (i := 50) (by decide +kernel) rfl
theorem tm_L_208 : Cond.methodLink RL 208 yX12_pruneNeedless ∈ gT := g_mem4 (i := 51) (by decide +kernel) rfl
theorem ti_X12_pruneNeedless : Cond.instanceMethod yX12_pruneNeedless ∈ gT := g_mem4 (i := 52) (by decide +kernel) rfl
theorem ts_X12_pruneNeedless : Cond.selects RX12 yX12_pruneNeedless yX12_pruneNeedless ∈ gT := g_mem4 (i := 53) (by decide +kernel) rfl
theorem tc_X12_pruneNeedless : Cond.code yX12_pruneNeedless cX12_pruneNeedless 3 (Option.some Jvm.ClassFile.FieldType.int) ∈ gT := g_mem4 (i := 54) (by decide +kernel) rfl
theorem tm_X12_177 : Cond.methodLink RX12 177 yX12_needless ∈ gT := g_mem4 (i := 55) (by decide +kernel) rfl
theorem ti_X12_needless : Cond.instanceMethod yX12_needless ∈ gT := g_mem4 (i := 57) (by decide +kernel) rfl
theorem tc_X12_needless : Cond.code yX12_needless cX12_needless 3 (Option.some Jvm.ClassFile.FieldType.boolean) ∈ gT := g_mem4 (i := 58) (by decide +kernel) rfl
theorem tm_X12_147 : Cond.methodLink RX12 147 yX9_word ∈ gT := g_mem4 (i := 59) (by decide +kernel) rfl
theorem tm_X12_171 : Cond.methodLink RX12 171 yX12_nearEachOther ∈ gT := g_mem4 (i := 60) (by decide +kernel) rfl
theorem ti_X12_nearEachOther : Cond.instanceMethod yX12_nearEachOther ∈ gT := g_mem4 (i := 62) (by decide +kernel) rfl
theorem tc_X12_nearEachOther : Cond.code yX12_nearEachOther cX12_nearEachOther 4 (Option.some Jvm.ClassFile.FieldType.boolean) ∈ gT := g_mem4 (i := 63) (by decide +kernel) rfl
theorem tm_X12_132 : Cond.methodLink RX12 132 yX12_rowOf ∈ gT := g_mem4 (i := 64) (by decide +kernel) rfl
theorem ti_X12_rowOf : Cond.instanceMethod yX12_rowOf ∈ gT := g_mem4 (i := 66) (by decide +kernel) rfl
theorem tc_X12_rowOf : Cond.code yX12_rowOf cX12_rowOf 2 (Option.some (Jvm.ClassFile.FieldType.object "GlideWhistles$Row")) ∈ gT := g_mem4 (i := 67) (by decide +kernel) rfl
theorem tm_X12_263 : Cond.methodLink RX12 263 yJ9_max_7cf53 ∈ gT := g_mem4 (i := 68) (by decide +kernel) rfl
theorem tz_J9_max_7cf53 : Cond.static yJ9_max_7cf53 ∈ gT := g_mem4 (i := 69) (by decide +kernel) rfl
theorem tc_J9_max_7cf53 : Cond.code yJ9_max_7cf53 cJ9_max_7cf53 2 (Option.some Jvm.ClassFile.FieldType.int) ∈ gT := g_mem4 (i := 70) (by decide +kernel) rfl
theorem tm_X12_160 : Cond.methodLink RX12 160 yX12_wordsApart ∈ gT := g_mem4 (i := 71) (by decide +kernel) rfl
theorem ti_X12_wordsApart : Cond.instanceMethod yX12_wordsApart ∈ gT := g_mem4 (i := 73) (by decide +kernel) rfl
theorem tc_X12_wordsApart : Cond.code yX12_wordsApart cX12_wordsApart 3 (Option.some Jvm.ClassFile.FieldType.int) ∈ gT := g_mem4 (i := 74) (by decide +kernel) rfl
theorem tm_X12_261 : Cond.methodLink RX12 261 yX10_distance ∈ gT := g_mem4 (i := 75) (by decide +kernel) rfl
theorem tm_L_224 : Cond.methodLink RL 224 yX12_meanLength ∈ gT := g_mem4 (i := 76) (by decide +kernel) rfl
theorem ti_X12_meanLength : Cond.instanceMethod yX12_meanLength ∈ gT := g_mem4 (i := 77) (by decide +kernel) rfl
theorem ts_X12_meanLength : Cond.selects RX12 yX12_meanLength yX12_meanLength ∈ gT := g_mem4 (i := 78) (by decide +kernel) rfl
theorem tc_X12_meanLength : Cond.code yX12_meanLength cX12_meanLength 3 (Option.some Jvm.ClassFile.FieldType.double) ∈ gT := g_mem4 (i := 79) (by decide +kernel) rfl
theorem tm_L_229 : Cond.methodLink RL 229 yX12_digest ∈ gT := g_mem4 (i := 80) (by decide +kernel) rfl
theorem ti_X12_digest : Cond.instanceMethod yX12_digest ∈ gT := g_mem4 (i := 81) (by decide +kernel) rfl
theorem ts_X12_digest : Cond.selects RX12 yX12_digest yX12_digest ∈ gT := g_mem4 (i := 82) (by decide +kernel) rfl
theorem tc_X12_digest : Cond.code yX12_digest cX12_digest 4 (Option.some Jvm.ClassFile.FieldType.long) ∈ gT := g_mem4 (i := 83) (by decide +kernel) rfl
theorem tq_X12_233 : Cond.constantLong RX12 233 (1019 : Int64) ∈ gT := g_mem4 (i := 84) (by decide +kernel) rfl
theorem tq_X12_235 : Cond.constantLong RX12 235 (31 : Int64) ∈ gT := g_mem4 (i := 85) (by decide +kernel) rfl
theorem tm_X12_190 : Cond.methodLink RX12 190 yX1_meantOf ∈ gT := g_mem4 (i := 86) (by decide +kernel) rfl
theorem ti_X1_meantOf : Cond.instanceMethod yX1_meantOf ∈ gT := g_mem4 (i := 87) (by decide +kernel) rfl
theorem ts_X1_meantOf : Cond.selects RX1 yX1_meantOf yX1_meantOf ∈ gT := g_mem4 (i := 88) (by decide +kernel) rfl
theorem tc_X1_meantOf : Cond.code yX1_meantOf cX1_meantOf 2 (Option.some Jvm.ClassFile.FieldType.int) ∈ gT := g_mem4 (i := 89) (by decide +kernel) rfl
theorem tm_X1_32 : Cond.methodLink RX1 32 yX9_closestKept ∈ gT := g_mem4 (i := 90) (by decide +kernel) rfl
theorem ti_X9_closestKept : Cond.instanceMethod yX9_closestKept ∈ gT := g_mem4 (i := 91) (by decide +kernel) rfl
theorem ts_X9_closestKept : Cond.selects RX9 yX9_closestKept yX9_closestKept ∈ gT := g_mem4 (i := 92) (by decide +kernel) rfl
theorem tc_X9_closestKept : Cond.code yX9_closestKept cX9_closestKept 4 (Option.some Jvm.ClassFile.FieldType.int) ∈ gT := g_mem4 (i := 93) (by decide +kernel) rfl
theorem tm_X12_237 : Cond.methodLink RX12 237 yX12_digestOfWord ∈ gT := g_mem4 (i := 94) (by decide +kernel) rfl
theorem ti_X12_digestOfWord : Cond.instanceMethod yX12_digestOfWord ∈ gT := g_mem4 (i := 96) (by decide +kernel) rfl
theorem tc_X12_digestOfWord : Cond.code yX12_digestOfWord cX12_digestOfWord 7 (Option.some Jvm.ClassFile.FieldType.long) ∈ gT := g_mem4 (i := 97) (by decide +kernel) rfl
theorem tm_X12_241 : Cond.methodLink RX12 241 yX12_digestOfRow ∈ gT := g_mem4 (i := 98) (by decide +kernel) rfl
theorem tz_X12_digestOfRow : Cond.static yX12_digestOfRow ∈ gT := g_mem4 (i := 99) (by decide +kernel) rfl
theorem tc_X12_digestOfRow : Cond.code yX12_digestOfRow cX12_digestOfRow 6 (Option.some Jvm.ClassFile.FieldType.long) ∈ gT := g_mem4 (i := 100) (by decide +kernel) rfl
theorem tm_X12_140 : Cond.methodLink RX12 140 yX3_pitch ∈ gT := g_mem4 (i := 101) (by decide +kernel) rfl
theorem tm_L_100 : Cond.methodLink RL 100 yL_feed ∈ gT := g_mem4 (i := 102) (by decide +kernel) rfl
theorem tz_L_feed : Cond.static yL_feed ∈ gT := g_mem4 (i := 103) (by decide +kernel) rfl
theorem tc_L_feed : Cond.codeWith yL_feed cL_feed 8 (Option.some Jvm.ClassFile.FieldType.int) [((0 : Nat), (16 : Nat), (19 : Nat), (13 : Nat))] ∈ gT := g_mem4 (i := 104) (by decide +kernel) rfl
theorem tl_L_13 : Cond.classLink RL 13 "java/lang/IllegalStateException" ∈ gT := g_mem4 (i := 105) (by decide +kernel) rfl
theorem tm_L_7 : Cond.methodLink RL 7 yX12_feed ∈ gT := g_mem4 (i := 106) (by decide +kernel) rfl
theorem ti_X12_feed : Cond.instanceMethod yX12_feed ∈ gT := g_mem4 (i := 107) (by decide +kernel) rfl
theorem ts_X12_feed : Cond.selects RX12 yX12_feed yX12_feed ∈ gT := g_mem4 (i := 108) (by decide +kernel) rfl
theorem tc_X12_feed : Cond.code yX12_feed cX12_feed 6 (Option.some Jvm.ClassFile.FieldType.int) ∈ gT := g_mem4 (i := 109) (by decide +kernel) rfl
theorem tl_X12_78 : Cond.classLink RX12 78 "java/lang/IllegalStateException" ∈ gT := g_mem4 (i := 110) (by decide +kernel) rfl
theorem ts_java_lang_Throwable_fillInStackTrace : Cond.selects "java/lang/IllegalStateException" ⟨"java/lang/Throwable", "fillInStackTrace", "(I)Ljava/lang/Throwable;"⟩ ⟨"java/lang/Throwable", "fillInStackTrace", "(I)Ljava/lang/Throwable;"⟩ ∈ gT := g_mem4 (i := 119) (by decide +kernel) rfl
theorem ti_java_lang_Throwable__init_ : Cond.instanceMethod ⟨"java/lang/Throwable", "<init>", "()V"⟩ ∈ gT := g_mem4 (i := 133) (by decide +kernel) rfl
theorem tc_java_lang_Throwable__init_ : Cond.code ⟨"java/lang/Throwable", "<init>", "()V"⟩ prog_30_method_1_code 1 (Option.none : Option Jvm.ClassFile.FieldType) ∈ gT := g_mem4 (i := 134) (by decide +kernel) rfl
theorem ti_java_lang_Throwable_fillInStackTrace : Cond.instanceMethod ⟨"java/lang/Throwable", "fillInStackTrace", "()Ljava/lang/Throwable;"⟩ ∈ gT := g_mem4 (i := 141) (by decide +kernel) rfl
theorem tm_X12_82 : Cond.methodLink RX12 82 ⟨"java/lang/IllegalStateException", "<init>", "(Ljava/lang/String;)V"⟩ ∈ gT := g_mem4 (i := 152) (by decide +kernel) rfl
theorem ti_java_lang_IllegalStateException__init_ : Cond.instanceMethod ⟨"java/lang/IllegalStateException", "<init>", "(Ljava/lang/String;)V"⟩ ∈ gT := g_mem4 (i := 153) (by decide +kernel) rfl
theorem tc_java_lang_IllegalStateException__init_ : Cond.code ⟨"java/lang/IllegalStateException", "<init>", "(Ljava/lang/String;)V"⟩ prog_21_method_2_code 2 (Option.none : Option Jvm.ClassFile.FieldType) ∈ gT := g_mem4 (i := 154) (by decide +kernel) rfl
theorem ti_java_lang_RuntimeException__init_ : Cond.instanceMethod ⟨"java/lang/RuntimeException", "<init>", "(Ljava/lang/String;)V"⟩ ∈ gT := g_mem4 (i := 156) (by decide +kernel) rfl
theorem tc_java_lang_RuntimeException__init_ : Cond.code ⟨"java/lang/RuntimeException", "<init>", "(Ljava/lang/String;)V"⟩ prog_25_method_2_code 2 (Option.none : Option Jvm.ClassFile.FieldType) ∈ gT := g_mem4 (i := 157) (by decide +kernel) rfl
theorem ti_java_lang_Exception__init_ : Cond.instanceMethod ⟨"java/lang/Exception", "<init>", "(Ljava/lang/String;)V"⟩ ∈ gT := g_mem4 (i := 159) (by decide +kernel) rfl
theorem tc_java_lang_Exception__init_ : Cond.code ⟨"java/lang/Exception", "<init>", "(Ljava/lang/String;)V"⟩ prog_19_method_2_code 2 (Option.none : Option Jvm.ClassFile.FieldType) ∈ gT := g_mem4 (i := 160) (by decide +kernel) rfl
theorem tr_byte : Cond.arrayClass Jvm.ClassFile.FieldType.byte ∈ gT := g_mem4 (i := 177) (by decide +kernel) rfl
theorem tm_X12_85 : Cond.methodLink RX12 85 yX7_append ∈ gT := g_mem4 (i := 178) (by decide +kernel) rfl
theorem ti_X7_append : Cond.instanceMethod yX7_append ∈ gT := g_mem4 (i := 179) (by decide +kernel) rfl
theorem ts_X7_append : Cond.selects RX7 yX7_append yX7_append ∈ gT := g_mem4 (i := 180) (by decide +kernel) rfl
theorem tc_X7_append : Cond.code yX7_append cX7_append 3 (Option.none : Option Jvm.ClassFile.FieldType) ∈ gT := g_mem4 (i := 181) (by decide +kernel) rfl
theorem tm_L_109 : Cond.methodLink RL 109 yL_trim ∈ gT := g_mem4 (i := 182) (by decide +kernel) rfl
theorem tz_L_trim : Cond.static yL_trim ∈ gT := g_mem4 (i := 183) (by decide +kernel) rfl
theorem tc_L_trim : Cond.codeWith yL_trim cL_trim 4 (Option.some Jvm.ClassFile.FieldType.int) [((0 : Nat), (9 : Nat), (12 : Nat), (19 : Nat))] ∈ gT := g_mem4 (i := 184) (by decide +kernel) rfl
theorem tl_L_19 : Cond.classLink RL 19 "java/lang/IllegalArgumentException" ∈ gT := g_mem4 (i := 185) (by decide +kernel) rfl
theorem tm_L_15 : Cond.methodLink RL 15 yX12_trim ∈ gT := g_mem4 (i := 186) (by decide +kernel) rfl
theorem ti_X12_trim : Cond.instanceMethod yX12_trim ∈ gT := g_mem4 (i := 187) (by decide +kernel) rfl
theorem ts_X12_trim : Cond.selects RX12 yX12_trim yX12_trim ∈ gT := g_mem4 (i := 188) (by decide +kernel) rfl
theorem tc_X12_trim : Cond.code yX12_trim cX12_trim 2 (Option.some Jvm.ClassFile.FieldType.int) ∈ gT := g_mem4 (i := 189) (by decide +kernel) rfl
theorem tl_X12_89 : Cond.classLink RX12 89 "java/lang/IllegalArgumentException" ∈ gT := g_mem4 (i := 190) (by decide +kernel) rfl
theorem tm_X12_93 : Cond.methodLink RX12 93 ⟨"java/lang/IllegalArgumentException", "<init>", "(Ljava/lang/String;)V"⟩ ∈ gT := g_mem4 (i := 200) (by decide +kernel) rfl
theorem ti_java_lang_IllegalArgumentException__init_ : Cond.instanceMethod ⟨"java/lang/IllegalArgumentException", "<init>", "(Ljava/lang/String;)V"⟩ ∈ gT := g_mem4 (i := 201) (by decide +kernel) rfl
theorem tc_java_lang_IllegalArgumentException__init_ : Cond.code ⟨"java/lang/IllegalArgumentException", "<init>", "(Ljava/lang/String;)V"⟩ prog_20_method_2_code 2 (Option.none : Option Jvm.ClassFile.FieldType) ∈ gT := g_mem4 (i := 202) (by decide +kernel) rfl
theorem tm_L_145 : Cond.methodLink RL 145 yL_lengthOf ∈ gT := g_mem4 (i := 206) (by decide +kernel) rfl
theorem tz_L_lengthOf : Cond.static yL_lengthOf ∈ gT := g_mem4 (i := 207) (by decide +kernel) rfl
theorem tc_L_lengthOf : Cond.codeWith yL_lengthOf cL_lengthOf 4 (Option.some Jvm.ClassFile.FieldType.int) [((0 : Nat), (9 : Nat), (12 : Nat), (24 : Nat))] ∈ gT := g_mem4 (i := 208) (by decide +kernel) rfl
theorem tl_L_24 : Cond.classLink RL 24 "java/lang/IndexOutOfBoundsException" ∈ gT := g_mem4 (i := 209) (by decide +kernel) rfl
theorem tm_L_21 : Cond.methodLink RL 21 yX12_lengthOf ∈ gT := g_mem4 (i := 210) (by decide +kernel) rfl
theorem ti_X12_lengthOf : Cond.instanceMethod yX12_lengthOf ∈ gT := g_mem4 (i := 211) (by decide +kernel) rfl
theorem ts_X12_lengthOf : Cond.selects RX12 yX12_lengthOf yX12_lengthOf ∈ gT := g_mem4 (i := 212) (by decide +kernel) rfl
theorem tc_X12_lengthOf : Cond.code yX12_lengthOf cX12_lengthOf 2 (Option.some Jvm.ClassFile.FieldType.int) ∈ gT := g_mem4 (i := 213) (by decide +kernel) rfl
theorem tm_X12_129 : Cond.methodLink RX12 129 yX12_requireWord ∈ gT := g_mem4 (i := 214) (by decide +kernel) rfl
theorem ti_X12_requireWord : Cond.instanceMethod yX12_requireWord ∈ gT := g_mem4 (i := 216) (by decide +kernel) rfl
theorem tc_X12_requireWord : Cond.code yX12_requireWord cX12_requireWord 2 (Option.none : Option Jvm.ClassFile.FieldType) ∈ gT := g_mem4 (i := 217) (by decide +kernel) rfl
theorem tl_X12_245 : Cond.classLink RX12 245 "java/lang/IndexOutOfBoundsException" ∈ gT := g_mem4 (i := 218) (by decide +kernel) rfl
theorem tm_X12_249 : Cond.methodLink RX12 249 ⟨"java/lang/IndexOutOfBoundsException", "<init>", "(Ljava/lang/String;)V"⟩ ∈ gT := g_mem4 (i := 228) (by decide +kernel) rfl
theorem ti_java_lang_IndexOutOfBoundsException__init_ : Cond.instanceMethod ⟨"java/lang/IndexOutOfBoundsException", "<init>", "(Ljava/lang/String;)V"⟩ ∈ gT := g_mem4 (i := 229) (by decide +kernel) rfl
theorem tc_java_lang_IndexOutOfBoundsException__init_ : Cond.code ⟨"java/lang/IndexOutOfBoundsException", "<init>", "(Ljava/lang/String;)V"⟩ prog_22_method_2_code 2 (Option.none : Option Jvm.ClassFile.FieldType) ∈ gT := g_mem4 (i := 230) (by decide +kernel) rfl
theorem tm_L_148 : Cond.methodLink RL 148 yL_pitchAt ∈ gT := g_mem4 (i := 234) (by decide +kernel) rfl
theorem tz_L_pitchAt : Cond.static yL_pitchAt ∈ gT := g_mem4 (i := 235) (by decide +kernel) rfl
theorem tc_L_pitchAt : Cond.codeWith yL_pitchAt cL_pitchAt 5 (Option.some Jvm.ClassFile.FieldType.int) [((0 : Nat), (10 : Nat), (13 : Nat), (24 : Nat))] ∈ gT := g_mem4 (i := 236) (by decide +kernel) rfl
theorem tm_L_26 : Cond.methodLink RL 26 yX12_pitchAt ∈ gT := g_mem4 (i := 237) (by decide +kernel) rfl
theorem ti_X12_pitchAt : Cond.instanceMethod yX12_pitchAt ∈ gT := g_mem4 (i := 238) (by decide +kernel) rfl
theorem ts_X12_pitchAt : Cond.selects RX12 yX12_pitchAt yX12_pitchAt ∈ gT := g_mem4 (i := 239) (by decide +kernel) rfl
theorem tc_X12_pitchAt : Cond.code yX12_pitchAt cX12_pitchAt 3 (Option.some Jvm.ClassFile.FieldType.int) ∈ gT := g_mem5 (i := 0) (by decide +kernel) rfl
theorem tm_X12_136 : Cond.methodLink RX12 136 yX12_requireBeat ∈ gT := g_mem5 (i := 1) (by decide +kernel) rfl
theorem tz_X12_requireBeat : Cond.static yX12_requireBeat ∈ gT := g_mem5 (i := 2) (by decide +kernel) rfl
theorem tc_X12_requireBeat : Cond.code yX12_requireBeat cX12_requireBeat 2 (Option.none : Option Jvm.ClassFile.FieldType) ∈ gT := g_mem5 (i := 3) (by decide +kernel) rfl
theorem tm_L_152 : Cond.methodLink RL 152 yL_contourAt ∈ gT := g_mem5 (i := 5) (by decide +kernel) rfl
theorem tz_L_contourAt : Cond.static yL_contourAt ∈ gT := g_mem5 (i := 6) (by decide +kernel) rfl
theorem tc_L_contourAt : Cond.codeWith yL_contourAt cL_contourAt 5 (Option.some Jvm.ClassFile.FieldType.int) [((0 : Nat), (10 : Nat), (13 : Nat), (24 : Nat))] ∈ gT := g_mem5 (i := 7) (by decide +kernel) rfl
theorem tm_L_30 : Cond.methodLink RL 30 yX12_contourAt ∈ gT := g_mem5 (i := 8) (by decide +kernel) rfl
theorem ti_X12_contourAt : Cond.instanceMethod yX12_contourAt ∈ gT := g_mem5 (i := 9) (by decide +kernel) rfl
theorem ts_X12_contourAt : Cond.selects RX12 yX12_contourAt yX12_contourAt ∈ gT := g_mem5 (i := 10) (by decide +kernel) rfl
theorem tc_X12_contourAt : Cond.code yX12_contourAt cX12_contourAt 3 (Option.some Jvm.ClassFile.FieldType.int) ∈ gT := g_mem5 (i := 11) (by decide +kernel) rfl
theorem tm_X12_144 : Cond.methodLink RX12 144 yX3_contour ∈ gT := g_mem5 (i := 12) (by decide +kernel) rfl
theorem ti_X3_contour : Cond.instanceMethod yX3_contour ∈ gT := g_mem5 (i := 13) (by decide +kernel) rfl
theorem ts_X3_contour : Cond.selects RX3 yX3_contour yX3_contour ∈ gT := g_mem5 (i := 14) (by decide +kernel) rfl
theorem tc_X3_contour : Cond.code yX3_contour cX3_contour 4 (Option.some Jvm.ClassFile.FieldType.int) ∈ gT := g_mem5 (i := 15) (by decide +kernel) rfl
theorem tm_X3_19 : Cond.methodLink RX3 19 yX3_pitch ∈ gT := g_mem5 (i := 16) (by decide +kernel) rfl
theorem tm_L_155 : Cond.methodLink RL 155 yL_isPruned ∈ gT := g_mem5 (i := 17) (by decide +kernel) rfl
theorem tz_L_isPruned : Cond.static yL_isPruned ∈ gT := g_mem5 (i := 18) (by decide +kernel) rfl
theorem tc_L_isPruned : Cond.codeWith yL_isPruned cL_isPruned 4 (Option.some Jvm.ClassFile.FieldType.int) [((0 : Nat), (16 : Nat), (19 : Nat), (24 : Nat))] ∈ gT := g_mem5 (i := 19) (by decide +kernel) rfl
theorem tm_L_33 : Cond.methodLink RL 33 yX12_isPruned ∈ gT := g_mem5 (i := 20) (by decide +kernel) rfl
theorem ti_X12_isPruned : Cond.instanceMethod yX12_isPruned ∈ gT := g_mem5 (i := 21) (by decide +kernel) rfl
theorem ts_X12_isPruned : Cond.selects RX12 yX12_isPruned yX12_isPruned ∈ gT := g_mem5 (i := 22) (by decide +kernel) rfl
theorem tc_X12_isPruned : Cond.code yX12_isPruned cX12_isPruned 2 (Option.some Jvm.ClassFile.FieldType.boolean) ∈ gT := g_mem5 (i := 23) (by decide +kernel) rfl
theorem tm_L_158 : Cond.methodLink RL 158 yL_silentBeats ∈ gT := g_mem5 (i := 24) (by decide +kernel) rfl
theorem tz_L_silentBeats : Cond.static yL_silentBeats ∈ gT := g_mem5 (i := 25) (by decide +kernel) rfl
theorem tc_L_silentBeats : Cond.codeWith yL_silentBeats cL_silentBeats 4 (Option.some Jvm.ClassFile.FieldType.int) [((0 : Nat), (9 : Nat), (12 : Nat), (24 : Nat))] ∈ gT := g_mem5 (i := 26) (by decide +kernel) rfl
theorem tm_L_37 : Cond.methodLink RL 37 yX12_silentBeats ∈ gT := g_mem5 (i := 27) (by decide +kernel) rfl
theorem ti_X12_silentBeats : Cond.instanceMethod yX12_silentBeats ∈ gT := g_mem5 (i := 28) (by decide +kernel) rfl
theorem ts_X12_silentBeats : Cond.selects RX12 yX12_silentBeats yX12_silentBeats ∈ gT := g_mem5 (i := 29) (by decide +kernel) rfl
theorem tc_X12_silentBeats : Cond.code yX12_silentBeats cX12_silentBeats 2 (Option.some Jvm.ClassFile.FieldType.int) ∈ gT := g_mem5 (i := 30) (by decide +kernel) rfl
theorem tm_X12_157 : Cond.methodLink RX12 157 yX3_countSilent ∈ gT := g_mem5 (i := 31) (by decide +kernel) rfl
theorem ti_X3_countSilent : Cond.instanceMethod yX3_countSilent ∈ gT := g_mem5 (i := 32) (by decide +kernel) rfl
theorem ts_X3_countSilent : Cond.selects RX3 yX3_countSilent yX3_countSilent ∈ gT := g_mem5 (i := 33) (by decide +kernel) rfl
theorem tc_X3_countSilent : Cond.code yX3_countSilent cX3_countSilent 3 (Option.some Jvm.ClassFile.FieldType.int) ∈ gT := g_mem5 (i := 34) (by decide +kernel) rfl
theorem tm_L_161 : Cond.methodLink RL 161 yL_distanceBetween ∈ gT := g_mem5 (i := 35) (by decide +kernel) rfl
theorem tz_L_distanceBetween : Cond.static yL_distanceBetween ∈ gT := g_mem5 (i := 36) (by decide +kernel) rfl
theorem tc_L_distanceBetween : Cond.codeWith yL_distanceBetween cL_distanceBetween 5 (Option.some Jvm.ClassFile.FieldType.int) [((0 : Nat), (10 : Nat), (13 : Nat), (24 : Nat))] ∈ gT := g_mem5 (i := 37) (by decide +kernel) rfl
theorem tm_L_40 : Cond.methodLink RL 40 yX12_distanceBetween ∈ gT := g_mem5 (i := 38) (by decide +kernel) rfl
theorem ti_X12_distanceBetween : Cond.instanceMethod yX12_distanceBetween ∈ gT := g_mem5 (i := 39) (by decide +kernel) rfl
theorem ts_X12_distanceBetween : Cond.selects RX12 yX12_distanceBetween yX12_distanceBetween ∈ gT := g_mem5 (i := 40) (by decide +kernel) rfl
theorem tc_X12_distanceBetween : Cond.code yX12_distanceBetween cX12_distanceBetween 3 (Option.some Jvm.ClassFile.FieldType.int) ∈ gT := g_mem5 (i := 41) (by decide +kernel) rfl
theorem tm_L_164 : Cond.methodLink RL 164 yL_contourBetween ∈ gT := g_mem5 (i := 42) (by decide +kernel) rfl
theorem tz_L_contourBetween : Cond.static yL_contourBetween ∈ gT := g_mem5 (i := 43) (by decide +kernel) rfl
theorem tc_L_contourBetween : Cond.codeWith yL_contourBetween cL_contourBetween 5 (Option.some Jvm.ClassFile.FieldType.int) [((0 : Nat), (10 : Nat), (13 : Nat), (24 : Nat))] ∈ gT := g_mem5 (i := 44) (by decide +kernel) rfl
theorem tm_L_43 : Cond.methodLink RL 43 yX12_contourBetween ∈ gT := g_mem5 (i := 45) (by decide +kernel) rfl
theorem ti_X12_contourBetween : Cond.instanceMethod yX12_contourBetween ∈ gT := g_mem5 (i := 46) (by decide +kernel) rfl
theorem ts_X12_contourBetween : Cond.selects RX12 yX12_contourBetween yX12_contourBetween ∈ gT := g_mem5 (i := 47) (by decide +kernel) rfl
theorem tc_X12_contourBetween : Cond.code yX12_contourBetween cX12_contourBetween 3 (Option.some Jvm.ClassFile.FieldType.int) ∈ gT := g_mem5 (i := 48) (by decide +kernel) rfl
theorem tm_X12_167 : Cond.methodLink RX12 167 yX10_contourDistance ∈ gT := g_mem5 (i := 49) (by decide +kernel) rfl
theorem ti_X10_contourDistance : Cond.instanceMethod yX10_contourDistance ∈ gT := g_mem5 (i := 50) (by decide +kernel) rfl
theorem ts_X10_contourDistance : Cond.selects RX10 yX10_contourDistance yX10_contourDistance ∈ gT := g_mem5 (i := 51) (by decide +kernel) rfl
theorem tc_X10_contourDistance : Cond.code yX10_contourDistance cX10_contourDistance 4 (Option.some Jvm.ClassFile.FieldType.int) ∈ gT := g_mem5 (i := 52) (by decide +kernel) rfl
theorem tm_X10_29 : Cond.methodLink RX10 29 yX3_traceContour ∈ gT := g_mem5 (i := 53) (by decide +kernel) rfl
theorem ti_X3_traceContour : Cond.instanceMethod yX3_traceContour ∈ gT := g_mem5 (i := 54) (by decide +kernel) rfl
theorem ts_X3_traceContour : Cond.selects RX3 yX3_traceContour yX3_traceContour ∈ gT := g_mem5 (i := 55) (by decide +kernel) rfl
theorem tc_X3_traceContour : Cond.code yX3_traceContour cX3_traceContour 3 (Option.none : Option Jvm.ClassFile.FieldType) ∈ gT := g_mem5 (i := 56) (by decide +kernel) rfl
theorem tm_X3_31 : Cond.methodLink RX3 31 yX3_contour ∈ gT := g_mem5 (i := 57) (by decide +kernel) rfl
theorem tm_L_167 : Cond.methodLink RL 167 yL_areNear ∈ gT := g_mem5 (i := 58) (by decide +kernel) rfl
theorem tz_L_areNear : Cond.static yL_areNear ∈ gT := g_mem5 (i := 59) (by decide +kernel) rfl
theorem tc_L_areNear : Cond.codeWith yL_areNear cL_areNear 5 (Option.some Jvm.ClassFile.FieldType.int) [((0 : Nat), (17 : Nat), (20 : Nat), (24 : Nat))] ∈ gT := g_mem5 (i := 60) (by decide +kernel) rfl
theorem tm_L_46 : Cond.methodLink RL 46 yX12_areNear ∈ gT := g_mem5 (i := 61) (by decide +kernel) rfl
theorem ti_X12_areNear : Cond.instanceMethod yX12_areNear ∈ gT := g_mem5 (i := 62) (by decide +kernel) rfl
theorem ts_X12_areNear : Cond.selects RX12 yX12_areNear yX12_areNear ∈ gT := g_mem5 (i := 63) (by decide +kernel) rfl
theorem tc_X12_areNear : Cond.code yX12_areNear cX12_areNear 3 (Option.some Jvm.ClassFile.FieldType.boolean) ∈ gT := g_mem5 (i := 64) (by decide +kernel) rfl
theorem tm_L_170 : Cond.methodLink RL 170 yL_nearestTo ∈ gT := g_mem5 (i := 65) (by decide +kernel) rfl
theorem tz_L_nearestTo : Cond.static yL_nearestTo ∈ gT := g_mem5 (i := 66) (by decide +kernel) rfl
theorem tc_L_nearestTo : Cond.codeWith yL_nearestTo cL_nearestTo 4 (Option.some Jvm.ClassFile.FieldType.int) [((0 : Nat), (9 : Nat), (12 : Nat), (24 : Nat)), ((0 : Nat), (9 : Nat), (15 : Nat), (13 : Nat))] ∈ gT := g_mem5 (i := 67) (by decide +kernel) rfl
theorem tm_L_50 : Cond.methodLink RL 50 yX12_nearestTo ∈ gT := g_mem5 (i := 68) (by decide +kernel) rfl
theorem ti_X12_nearestTo : Cond.instanceMethod yX12_nearestTo ∈ gT := g_mem5 (i := 69) (by decide +kernel) rfl
theorem ts_X12_nearestTo : Cond.selects RX12 yX12_nearestTo yX12_nearestTo ∈ gT := g_mem5 (i := 70) (by decide +kernel) rfl
theorem tc_X12_nearestTo : Cond.code yX12_nearestTo cX12_nearestTo 6 (Option.some Jvm.ClassFile.FieldType.int) ∈ gT := g_mem5 (i := 71) (by decide +kernel) rfl
theorem tm_L_173 : Cond.methodLink RL 173 yL_isNeedless ∈ gT := g_mem5 (i := 73) (by decide +kernel) rfl
theorem tz_L_isNeedless : Cond.static yL_isNeedless ∈ gT := g_mem5 (i := 74) (by decide +kernel) rfl
theorem tc_L_isNeedless : Cond.codeWith yL_isNeedless cL_isNeedless 4 (Option.some Jvm.ClassFile.FieldType.int) [((0 : Nat), (16 : Nat), (19 : Nat), (24 : Nat))] ∈ gT := g_mem5 (i := 75) (by decide +kernel) rfl
theorem tm_L_53 : Cond.methodLink RL 53 yX12_isNeedless ∈ gT := g_mem5 (i := 76) (by decide +kernel) rfl
theorem ti_X12_isNeedless : Cond.instanceMethod yX12_isNeedless ∈ gT := g_mem5 (i := 77) (by decide +kernel) rfl
theorem ts_X12_isNeedless : Cond.selects RX12 yX12_isNeedless yX12_isNeedless ∈ gT := g_mem5 (i := 78) (by decide +kernel) rfl
theorem tc_X12_isNeedless : Cond.code yX12_isNeedless cX12_isNeedless 2 (Option.some Jvm.ClassFile.FieldType.boolean) ∈ gT := g_mem5 (i := 79) (by decide +kernel) rfl
theorem tm_L_176 : Cond.methodLink RL 176 yL_heardPitch ∈ gT := g_mem5 (i := 80) (by decide +kernel) rfl
theorem tz_L_heardPitch : Cond.static yL_heardPitch ∈ gT := g_mem5 (i := 81) (by decide +kernel) rfl
theorem tc_L_heardPitch : Cond.codeWith yL_heardPitch cL_heardPitch 4 (Option.some Jvm.ClassFile.FieldType.int) [((0 : Nat), (9 : Nat), (12 : Nat), (24 : Nat))] ∈ gT := g_mem5 (i := 82) (by decide +kernel) rfl
theorem tm_L_56 : Cond.methodLink RL 56 yX12_heardPitch ∈ gT := g_mem5 (i := 83) (by decide +kernel) rfl
theorem ti_X12_heardPitch : Cond.instanceMethod yX12_heardPitch ∈ gT := g_mem5 (i := 84) (by decide +kernel) rfl
theorem ts_X12_heardPitch : Cond.selects RX12 yX12_heardPitch yX12_heardPitch ∈ gT := g_mem5 (i := 85) (by decide +kernel) rfl
theorem tc_X12_heardPitch : Cond.code yX12_heardPitch cX12_heardPitch 2 (Option.some Jvm.ClassFile.FieldType.int) ∈ gT := g_mem5 (i := 86) (by decide +kernel) rfl
theorem tm_L_179 : Cond.methodLink RL 179 yL_distanceTo ∈ gT := g_mem5 (i := 87) (by decide +kernel) rfl
theorem tz_L_distanceTo : Cond.static yL_distanceTo ∈ gT := g_mem5 (i := 88) (by decide +kernel) rfl
theorem tc_L_distanceTo : Cond.codeWith yL_distanceTo cL_distanceTo 4 (Option.some Jvm.ClassFile.FieldType.int) [((0 : Nat), (9 : Nat), (12 : Nat), (24 : Nat)), ((0 : Nat), (9 : Nat), (15 : Nat), (13 : Nat))] ∈ gT := g_mem5 (i := 89) (by decide +kernel) rfl
theorem tm_L_59 : Cond.methodLink RL 59 yX12_distanceTo ∈ gT := g_mem5 (i := 90) (by decide +kernel) rfl
theorem ti_X12_distanceTo : Cond.instanceMethod yX12_distanceTo ∈ gT := g_mem5 (i := 91) (by decide +kernel) rfl
theorem ts_X12_distanceTo : Cond.selects RX12 yX12_distanceTo yX12_distanceTo ∈ gT := g_mem5 (i := 92) (by decide +kernel) rfl
theorem tc_X12_distanceTo : Cond.code yX12_distanceTo cX12_distanceTo 2 (Option.some Jvm.ClassFile.FieldType.int) ∈ gT := g_mem5 (i := 93) (by decide +kernel) rfl
theorem tm_X12_181 : Cond.methodLink RX12 181 yX12_requireSomeHeard ∈ gT := g_mem5 (i := 94) (by decide +kernel) rfl
theorem ti_X12_requireSomeHeard : Cond.instanceMethod yX12_requireSomeHeard ∈ gT := g_mem5 (i := 96) (by decide +kernel) rfl
theorem tc_X12_requireSomeHeard : Cond.code yX12_requireSomeHeard cX12_requireSomeHeard 1 (Option.none : Option Jvm.ClassFile.FieldType) ∈ gT := g_mem5 (i := 97) (by decide +kernel) rfl
theorem tm_L_182 : Cond.methodLink RL 182 yL_contourTo ∈ gT := g_mem5 (i := 99) (by decide +kernel) rfl
theorem tz_L_contourTo : Cond.static yL_contourTo ∈ gT := g_mem5 (i := 100) (by decide +kernel) rfl
theorem tc_L_contourTo : Cond.codeWith yL_contourTo cL_contourTo 4 (Option.some Jvm.ClassFile.FieldType.int) [((0 : Nat), (9 : Nat), (12 : Nat), (24 : Nat)), ((0 : Nat), (9 : Nat), (15 : Nat), (13 : Nat))] ∈ gT := g_mem5 (i := 101) (by decide +kernel) rfl
theorem tm_L_62 : Cond.methodLink RL 62 yX12_contourTo ∈ gT := g_mem5 (i := 102) (by decide +kernel) rfl
theorem ti_X12_contourTo : Cond.instanceMethod yX12_contourTo ∈ gT := g_mem5 (i := 103) (by decide +kernel) rfl
theorem ts_X12_contourTo : Cond.selects RX12 yX12_contourTo yX12_contourTo ∈ gT := g_mem5 (i := 104) (by decide +kernel) rfl
theorem tc_X12_contourTo : Cond.code yX12_contourTo cX12_contourTo 2 (Option.some Jvm.ClassFile.FieldType.int) ∈ gT := g_mem5 (i := 105) (by decide +kernel) rfl
theorem tm_L_185 : Cond.methodLink RL 185 yL_stepsTo ∈ gT := g_mem5 (i := 106) (by decide +kernel) rfl
theorem tz_L_stepsTo : Cond.static yL_stepsTo ∈ gT := g_mem5 (i := 107) (by decide +kernel) rfl
theorem tc_L_stepsTo : Cond.codeWith yL_stepsTo cL_stepsTo 4 (Option.some Jvm.ClassFile.FieldType.int) [((0 : Nat), (9 : Nat), (12 : Nat), (24 : Nat)), ((0 : Nat), (9 : Nat), (15 : Nat), (13 : Nat))] ∈ gT := g_mem5 (i := 108) (by decide +kernel) rfl
theorem tm_L_65 : Cond.methodLink RL 65 yX12_stepsTo ∈ gT := g_mem5 (i := 109) (by decide +kernel) rfl
theorem ti_X12_stepsTo : Cond.instanceMethod yX12_stepsTo ∈ gT := g_mem5 (i := 110) (by decide +kernel) rfl
theorem ts_X12_stepsTo : Cond.selects RX12 yX12_stepsTo yX12_stepsTo ∈ gT := g_mem5 (i := 111) (by decide +kernel) rfl
theorem tc_X12_stepsTo : Cond.code yX12_stepsTo cX12_stepsTo 2 (Option.some Jvm.ClassFile.FieldType.int) ∈ gT := g_mem5 (i := 112) (by decide +kernel) rfl
theorem tm_X12_187 : Cond.methodLink RX12 187 yX10_fewestSteps ∈ gT := g_mem5 (i := 113) (by decide +kernel) rfl
theorem ti_X10_fewestSteps : Cond.instanceMethod yX10_fewestSteps ∈ gT := g_mem5 (i := 114) (by decide +kernel) rfl
theorem ts_X10_fewestSteps : Cond.selects RX10 yX10_fewestSteps yX10_fewestSteps ∈ gT := g_mem5 (i := 115) (by decide +kernel) rfl
theorem tc_X10_fewestSteps : Cond.code yX10_fewestSteps cX10_fewestSteps 4 (Option.some Jvm.ClassFile.FieldType.int) ∈ gT := g_mem5 (i := 116) (by decide +kernel) rfl
theorem tm_L_188 : Cond.methodLink RL 188 yL_meantWord ∈ gT := g_mem5 (i := 117) (by decide +kernel) rfl
theorem tz_L_meantWord : Cond.static yL_meantWord ∈ gT := g_mem5 (i := 118) (by decide +kernel) rfl
theorem tc_L_meantWord : Cond.codeWith yL_meantWord cL_meantWord 3 (Option.some Jvm.ClassFile.FieldType.int) [((0 : Nat), (8 : Nat), (11 : Nat), (13 : Nat))] ∈ gT := g_mem5 (i := 119) (by decide +kernel) rfl
theorem tm_L_68 : Cond.methodLink RL 68 yX12_meantWord ∈ gT := g_mem5 (i := 120) (by decide +kernel) rfl
theorem ti_X12_meantWord : Cond.instanceMethod yX12_meantWord ∈ gT := g_mem5 (i := 121) (by decide +kernel) rfl
theorem ts_X12_meantWord : Cond.selects RX12 yX12_meantWord yX12_meantWord ∈ gT := g_mem5 (i := 122) (by decide +kernel) rfl
theorem tc_X12_meantWord : Cond.code yX12_meantWord cX12_meantWord 2 (Option.some Jvm.ClassFile.FieldType.int) ∈ gT := g_mem5 (i := 123) (by decide +kernel) rfl
theorem tm_X12_194 : Cond.methodLink RX12 194 yX12_requireMeant ∈ gT := g_mem5 (i := 124) (by decide +kernel) rfl
theorem tz_X12_requireMeant : Cond.static yX12_requireMeant ∈ gT := g_mem5 (i := 125) (by decide +kernel) rfl
theorem tc_X12_requireMeant : Cond.code yX12_requireMeant cX12_requireMeant 1 (Option.none : Option Jvm.ClassFile.FieldType) ∈ gT := g_mem5 (i := 126) (by decide +kernel) rfl
theorem tm_L_192 : Cond.methodLink RL 192 yL_surety ∈ gT := g_mem5 (i := 128) (by decide +kernel) rfl
theorem tz_L_surety : Cond.static yL_surety ∈ gT := g_mem5 (i := 129) (by decide +kernel) rfl
theorem tc_L_surety : Cond.codeWith yL_surety cL_surety 3 (Option.some Jvm.ClassFile.FieldType.int) [((0 : Nat), (8 : Nat), (11 : Nat), (13 : Nat))] ∈ gT := g_mem5 (i := 130) (by decide +kernel) rfl
theorem tm_L_72 : Cond.methodLink RL 72 yX12_surety ∈ gT := g_mem5 (i := 131) (by decide +kernel) rfl
theorem ti_X12_surety : Cond.instanceMethod yX12_surety ∈ gT := g_mem5 (i := 132) (by decide +kernel) rfl
theorem ts_X12_surety : Cond.selects RX12 yX12_surety yX12_surety ∈ gT := g_mem5 (i := 133) (by decide +kernel) rfl
theorem tc_X12_surety : Cond.code yX12_surety cX12_surety 3 (Option.some Jvm.ClassFile.FieldType.int) ∈ gT := g_mem5 (i := 134) (by decide +kernel) rfl
theorem tm_X12_197 : Cond.methodLink RX12 197 yX9_closestKept ∈ gT := g_mem5 (i := 135) (by decide +kernel) rfl
theorem tm_L_195 : Cond.methodLink RL 195 yL_hear ∈ gT := g_mem5 (i := 136) (by decide +kernel) rfl
theorem tz_L_hear : Cond.static yL_hear ∈ gT := g_mem5 (i := 137) (by decide +kernel) rfl
theorem tc_L_hear : Cond.codeWith yL_hear cL_hear 4 (Option.some Jvm.ClassFile.FieldType.int) [((0 : Nat), (9 : Nat), (12 : Nat), (19 : Nat)), ((0 : Nat), (9 : Nat), (15 : Nat), (13 : Nat))] ∈ gT := g_mem5 (i := 138) (by decide +kernel) rfl
theorem tm_L_75 : Cond.methodLink RL 75 yX12_hear ∈ gT := g_mem5 (i := 139) (by decide +kernel) rfl
theorem ti_X12_hear : Cond.instanceMethod yX12_hear ∈ gT := g_mem5 (i := 140) (by decide +kernel) rfl
theorem ts_X12_hear : Cond.selects RX12 yX12_hear yX12_hear ∈ gT := g_mem5 (i := 141) (by decide +kernel) rfl
theorem tc_X12_hear : Cond.code yX12_hear cX12_hear 2 (Option.some Jvm.ClassFile.FieldType.int) ∈ gT := g_mem5 (i := 142) (by decide +kernel) rfl
theorem tm_X12_204 : Cond.methodLink RX12 204 yX3_add ∈ gT := g_mem5 (i := 145) (by decide +kernel) rfl
theorem tm_L_198 : Cond.methodLink RL 198 yL_hearWord ∈ gT := g_mem5 (i := 146) (by decide +kernel) rfl
theorem tz_L_hearWord : Cond.static yL_hearWord ∈ gT := g_mem5 (i := 147) (by decide +kernel) rfl
theorem tc_L_hearWord : Cond.codeWith yL_hearWord cL_hearWord 5 (Option.some Jvm.ClassFile.FieldType.int) [((0 : Nat), (10 : Nat), (13 : Nat), (24 : Nat)), ((0 : Nat), (10 : Nat), (17 : Nat), (19 : Nat))] ∈ gT := g_mem5 (i := 148) (by decide +kernel) rfl
theorem tm_L_78 : Cond.methodLink RL 78 yX12_hearWord ∈ gT := g_mem5 (i := 149) (by decide +kernel) rfl
theorem ti_X12_hearWord : Cond.instanceMethod yX12_hearWord ∈ gT := g_mem5 (i := 150) (by decide +kernel) rfl
theorem ts_X12_hearWord : Cond.selects RX12 yX12_hearWord yX12_hearWord ∈ gT := g_mem5 (i := 151) (by decide +kernel) rfl
theorem tc_X12_hearWord : Cond.code yX12_hearWord cX12_hearWord 3 (Option.some Jvm.ClassFile.FieldType.int) ∈ gT := g_mem5 (i := 152) (by decide +kernel) rfl
theorem tm_X12_213 : Cond.methodLink RX12 213 yX3_copyFrom ∈ gT := g_mem5 (i := 154) (by decide +kernel) rfl
theorem ti_X3_copyFrom : Cond.instanceMethod yX3_copyFrom ∈ gT := g_mem5 (i := 155) (by decide +kernel) rfl
theorem ts_X3_copyFrom : Cond.selects RX3 yX3_copyFrom yX3_copyFrom ∈ gT := g_mem5 (i := 156) (by decide +kernel) rfl
theorem tc_X3_copyFrom : Cond.code yX3_copyFrom cX3_copyFrom 3 (Option.none : Option Jvm.ClassFile.FieldType) ∈ gT := g_mem5 (i := 157) (by decide +kernel) rfl
theorem tm_X12_217 : Cond.methodLink RX12 217 yX3_shift ∈ gT := g_mem5 (i := 158) (by decide +kernel) rfl
theorem ti_X3_shift : Cond.instanceMethod yX3_shift ∈ gT := g_mem5 (i := 159) (by decide +kernel) rfl
theorem ts_X3_shift : Cond.selects RX3 yX3_shift yX3_shift ∈ gT := g_mem5 (i := 160) (by decide +kernel) rfl
theorem tc_X3_shift : Cond.code yX3_shift cX3_shift 7 (Option.some Jvm.ClassFile.FieldType.boolean) ∈ gT := g_mem5 (i := 161) (by decide +kernel) rfl
theorem tq_X3_34 : Cond.constantLong RX3 34 (40 : Int64) ∈ gT := g_mem5 (i := 162) (by decide +kernel) rfl
theorem tm_L_205 : Cond.methodLink RL 205 yL_turnPruned ∈ gT := g_mem5 (i := 163) (by decide +kernel) rfl
theorem tz_L_turnPruned : Cond.static yL_turnPruned ∈ gT := g_mem5 (i := 164) (by decide +kernel) rfl
theorem tc_L_turnPruned : Cond.codeWith yL_turnPruned cL_turnPruned 4 (Option.some Jvm.ClassFile.FieldType.int) [((0 : Nat), (16 : Nat), (19 : Nat), (24 : Nat))] ∈ gT := g_mem5 (i := 165) (by decide +kernel) rfl
theorem tm_L_81 : Cond.methodLink RL 81 yX12_turnPruned ∈ gT := g_mem5 (i := 166) (by decide +kernel) rfl
theorem ti_X12_turnPruned : Cond.instanceMethod yX12_turnPruned ∈ gT := g_mem5 (i := 167) (by decide +kernel) rfl
theorem ts_X12_turnPruned : Cond.selects RX12 yX12_turnPruned yX12_turnPruned ∈ gT := g_mem5 (i := 168) (by decide +kernel) rfl
theorem tc_X12_turnPruned : Cond.code yX12_turnPruned cX12_turnPruned 3 (Option.some Jvm.ClassFile.FieldType.boolean) ∈ gT := g_mem5 (i := 169) (by decide +kernel) rfl
theorem tm_L_212 : Cond.methodLink RL 212 yL_passLessons ∈ gT := g_mem5 (i := 170) (by decide +kernel) rfl
theorem tz_L_passLessons : Cond.static yL_passLessons ∈ gT := g_mem5 (i := 171) (by decide +kernel) rfl
theorem tc_L_passLessons : Cond.codeWith yL_passLessons cL_passLessons 4 (Option.some Jvm.ClassFile.FieldType.int) [((0 : Nat), (9 : Nat), (12 : Nat), (19 : Nat))] ∈ gT := g_mem5 (i := 172) (by decide +kernel) rfl
theorem tm_L_84 : Cond.methodLink RL 84 yX12_passLessons ∈ gT := g_mem5 (i := 173) (by decide +kernel) rfl
theorem ti_X12_passLessons : Cond.instanceMethod yX12_passLessons ∈ gT := g_mem5 (i := 174) (by decide +kernel) rfl
theorem ts_X12_passLessons : Cond.selects RX12 yX12_passLessons yX12_passLessons ∈ gT := g_mem5 (i := 175) (by decide +kernel) rfl
theorem tc_X12_passLessons : Cond.code yX12_passLessons cX12_passLessons 4 (Option.some Jvm.ClassFile.FieldType.int) ∈ gT := g_mem5 (i := 176) (by decide +kernel) rfl
theorem tm_X12_220 : Cond.methodLink RX12 220 yX12_requireLessons ∈ gT := g_mem5 (i := 177) (by decide +kernel) rfl
theorem tz_X12_requireLessons : Cond.static yX12_requireLessons ∈ gT := g_mem5 (i := 178) (by decide +kernel) rfl
theorem tc_X12_requireLessons : Cond.code yX12_requireLessons cX12_requireLessons 1 (Option.none : Option Jvm.ClassFile.FieldType) ∈ gT := g_mem5 (i := 179) (by decide +kernel) rfl
theorem tm_X12_223 : Cond.methodLink RX12 223 yX1_passOne ∈ gT := g_mem5 (i := 181) (by decide +kernel) rfl
theorem ti_X1_passOne : Cond.instanceMethod yX1_passOne ∈ gT := g_mem5 (i := 182) (by decide +kernel) rfl
theorem ts_X1_passOne : Cond.selects RX1 yX1_passOne yX1_passOne ∈ gT := g_mem5 (i := 183) (by decide +kernel) rfl
theorem tc_X1_passOne : Cond.code yX1_passOne cX1_passOne 6 (Option.some Jvm.ClassFile.FieldType.int) ∈ gT := g_mem5 (i := 184) (by decide +kernel) rfl
theorem tm_X1_68 : Cond.methodLink RX1 68 yX5_rule ∈ gT := g_mem5 (i := 185) (by decide +kernel) rfl
theorem tm_X1_72 : Cond.methodLink RX1 72 yX1_holds ∈ gT := g_mem5 (i := 186) (by decide +kernel) rfl
theorem ti_X1_holds : Cond.instanceMethod yX1_holds ∈ gT := g_mem5 (i := 188) (by decide +kernel) rfl
theorem tc_X1_holds : Cond.code yX1_holds cX1_holds 4 (Option.some Jvm.ClassFile.FieldType.boolean) ∈ gT := g_mem5 (i := 189) (by decide +kernel) rfl
theorem tm_X1_93 : Cond.methodLink RX1 93 yX1_reckon ∈ gT := g_mem5 (i := 190) (by decide +kernel) rfl
theorem ti_X1_reckon : Cond.instanceMethod yX1_reckon ∈ gT := g_mem5 (i := 192) (by decide +kernel) rfl
theorem tc_X1_reckon : Cond.code yX1_reckon cX1_reckon 9 (Option.some Jvm.ClassFile.FieldType.int) ∈ gT := g_mem5 (i := 193) (by decide +kernel) rfl
theorem tm_X1_122 : Cond.methodLink RX1 122 yX5_sign ∈ gT := g_mem5 (i := 194) (by decide +kernel) rfl
theorem ti_X5_sign : Cond.instanceMethod yX5_sign ∈ gT := g_mem5 (i := 195) (by decide +kernel) rfl
theorem ts_X5_sign : Cond.selects RX5 yX5_sign yX5_sign ∈ gT := g_mem5 (i := 196) (by decide +kernel) rfl
theorem tc_X5_sign : Cond.code yX5_sign cX5_sign 2 (Option.some (Jvm.ClassFile.FieldType.object "GlideWhistles$Sign")) ∈ gT := g_mem5 (i := 197) (by decide +kernel) rfl
theorem tf_X1_126 : Cond.fieldLink RX1 126 "GlideWhistles$Sign" "NEGATIVE" "LGlideWhistles$Sign;" ∈ gT := g_mem5 (i := 198) (by decide +kernel) rfl
theorem tm_X1_129 : Cond.methodLink RX1 129 yX1_pop ∈ gT := g_mem5 (i := 199) (by decide +kernel) rfl
theorem ti_X1_pop : Cond.instanceMethod yX1_pop ∈ gT := g_mem5 (i := 201) (by decide +kernel) rfl
theorem tc_X1_pop : Cond.code yX1_pop cX1_pop 1 (Option.some Jvm.ClassFile.FieldType.int) ∈ gT := g_mem5 (i := 202) (by decide +kernel) rfl
theorem tm_X1_133 : Cond.methodLink RX1 133 yX1_push ∈ gT := g_mem5 (i := 203) (by decide +kernel) rfl
theorem ti_X1_push : Cond.instanceMethod yX1_push ∈ gT := g_mem5 (i := 205) (by decide +kernel) rfl
theorem tc_X1_push : Cond.code yX1_push cX1_push 2 (Option.none : Option Jvm.ClassFile.FieldType) ∈ gT := g_mem5 (i := 206) (by decide +kernel) rfl
theorem tf_X1_137 : Cond.fieldLink RX1 137 "GlideWhistles$Sign" "NOT" "LGlideWhistles$Sign;" ∈ gT := g_mem5 (i := 207) (by decide +kernel) rfl
theorem tm_X1_140 : Cond.methodLink RX1 140 yX1_isJoin ∈ gT := g_mem5 (i := 208) (by decide +kernel) rfl
theorem tz_X1_isJoin : Cond.static yX1_isJoin ∈ gT := g_mem5 (i := 209) (by decide +kernel) rfl
theorem tc_X1_isJoin : Cond.code yX1_isJoin cX1_isJoin 1 (Option.some Jvm.ClassFile.FieldType.boolean) ∈ gT := g_mem5 (i := 210) (by decide +kernel) rfl
theorem tf_X1_155 : Cond.fieldLink RX1 155 "GlideWhistles$1" "$SwitchMap$GlideWhistles$Sign" "[I" ∈ gT := g_mem5 (i := 211) (by decide +kernel) rfl
theorem tm_X1_160 : Cond.methodLink RX1 160 ⟨"GlideWhistles$Sign", "ordinal", "()I"⟩ ∈ gT := g_mem5 (i := 213) (by decide +kernel) rfl
theorem ts_Jx29ce0_ordinal_8abf5 : Cond.selects RX6 ⟨"GlideWhistles$Sign", "ordinal", "()I"⟩ yJx29ce0_ordinal_8abf5 ∈ gT := g_mem5 (i := 216) (by decide +kernel) rfl
theorem ti_Jx29ce0_ordinal_8abf5 : Cond.instanceMethod yJx29ce0_ordinal_8abf5 ∈ gT := g_mem5 (i := 217) (by decide +kernel) rfl
theorem tc_Jx29ce0_ordinal_8abf5 : Cond.code yJx29ce0_ordinal_8abf5 cJx29ce0_ordinal_8abf5 1 (Option.some Jvm.ClassFile.FieldType.int) ∈ gT := g_mem5 (i := 218) (by decide +kernel) rfl
theorem tm_X1_144 : Cond.methodLink RX1 144 yX1_join ∈ gT := g_mem5 (i := 219) (by decide +kernel) rfl
theorem tz_X1_join : Cond.static yX1_join ∈ gT := g_mem5 (i := 220) (by decide +kernel) rfl
theorem tc_X1_join : Cond.code yX1_join cX1_join 3 (Option.some Jvm.ClassFile.FieldType.int) ∈ gT := g_mem5 (i := 221) (by decide +kernel) rfl
theorem tm_X1_170 : Cond.methodLink RX1 170 yJ9_min_7cf53 ∈ gT := g_mem5 (i := 222) (by decide +kernel) rfl
theorem tm_X1_176 : Cond.methodLink RX1 176 yJ9_max_7cf53 ∈ gT := g_mem5 (i := 223) (by decide +kernel) rfl
theorem tmN_X1_179 : Cond.methodLinkNest RX1 179 yX12_quotient "GlideWhistles" ∈ gN := g_nem5 (i := 224) (by decide +kernel) rfl
theorem tm_X1_182 : Cond.methodLink RX1 182 yX1_compares ∈ gT := g_mem5 (i := 225) (by decide +kernel) rfl
theorem tz_X1_compares : Cond.static yX1_compares ∈ gT := g_mem5 (i := 226) (by decide +kernel) rfl
theorem tc_X1_compares : Cond.code yX1_compares cX1_compares 3 (Option.some Jvm.ClassFile.FieldType.boolean) ∈ gT := g_mem5 (i := 227) (by decide +kernel) rfl
theorem tm_X1_148 : Cond.methodLink RX1 148 yX5_value ∈ gT := g_mem5 (i := 228) (by decide +kernel) rfl
theorem ti_X5_value : Cond.instanceMethod yX5_value ∈ gT := g_mem5 (i := 229) (by decide +kernel) rfl
theorem ts_X5_value : Cond.selects RX5 yX5_value yX5_value ∈ gT := g_mem5 (i := 230) (by decide +kernel) rfl
theorem tc_X5_value : Cond.code yX5_value cX5_value 2 (Option.some Jvm.ClassFile.FieldType.int) ∈ gT := g_mem5 (i := 231) (by decide +kernel) rfl
theorem tm_X1_151 : Cond.methodLink RX1 151 yX1_found ∈ gT := g_mem5 (i := 232) (by decide +kernel) rfl
theorem ti_X1_found : Cond.instanceMethod yX1_found ∈ gT := g_mem5 (i := 234) (by decide +kernel) rfl
theorem tc_X1_found : Cond.code yX1_found cX1_found 4 (Option.some Jvm.ClassFile.FieldType.int) ∈ gT := g_mem5 (i := 235) (by decide +kernel) rfl
theorem tm_X1_163 : Cond.methodLink RX1 163 yX9_countKept ∈ gT := g_mem5 (i := 236) (by decide +kernel) rfl
theorem tm_X1_166 : Cond.methodLink RX1 166 yX1_meantOf ∈ gT := g_mem5 (i := 237) (by decide +kernel) rfl
theorem tm_X1_76 : Cond.methodLink RX1 76 yX1_changes ∈ gT := g_mem5 (i := 238) (by decide +kernel) rfl
theorem ti_X1_changes : Cond.instanceMethod yX1_changes ∈ gT := g_mem6 (i := 0) (by decide +kernel) rfl
theorem tc_X1_changes : Cond.code yX1_changes cX1_changes 7 (Option.some Jvm.ClassFile.FieldType.boolean) ∈ gT := g_mem6 (i := 1) (by decide +kernel) rfl
theorem tf_X1_103 : Cond.fieldLink RX1 103 "GlideWhistles$Sign" "SHIFT" "LGlideWhistles$Sign;" ∈ gT := g_mem6 (i := 2) (by decide +kernel) rfl
theorem tm_X1_111 : Cond.methodLink RX1 111 yX3_shift ∈ gT := g_mem6 (i := 3) (by decide +kernel) rfl
theorem tf_X1_115 : Cond.fieldLink RX1 115 "GlideWhistles$Sign" "PRUNE" "LGlideWhistles$Sign;" ∈ gT := g_mem6 (i := 4) (by decide +kernel) rfl
theorem tm_L_215 : Cond.methodLink RL 215 yL_keptAfter ∈ gT := g_mem6 (i := 5) (by decide +kernel) rfl
theorem tz_L_keptAfter : Cond.static yL_keptAfter ∈ gT := g_mem6 (i := 6) (by decide +kernel) rfl
theorem tc_L_keptAfter : Cond.codeWith yL_keptAfter cL_keptAfter 4 (Option.some Jvm.ClassFile.FieldType.int) [((0 : Nat), (9 : Nat), (12 : Nat), (19 : Nat))] ∈ gT := g_mem6 (i := 7) (by decide +kernel) rfl
theorem tm_L_87 : Cond.methodLink RL 87 yX12_keptAfter ∈ gT := g_mem6 (i := 8) (by decide +kernel) rfl
theorem ti_X12_keptAfter : Cond.instanceMethod yX12_keptAfter ∈ gT := g_mem6 (i := 9) (by decide +kernel) rfl
theorem ts_X12_keptAfter : Cond.selects RX12 yX12_keptAfter yX12_keptAfter ∈ gT := g_mem6 (i := 10) (by decide +kernel) rfl
theorem tc_X12_keptAfter : Cond.code yX12_keptAfter cX12_keptAfter 3 (Option.some Jvm.ClassFile.FieldType.int) ∈ gT := g_mem6 (i := 11) (by decide +kernel) rfl
theorem tm_X12_227 : Cond.methodLink RX12 227 yX9_copyFrom ∈ gT := g_mem6 (i := 12) (by decide +kernel) rfl
theorem ti_X9_copyFrom : Cond.instanceMethod yX9_copyFrom ∈ gT := g_mem6 (i := 13) (by decide +kernel) rfl
theorem ts_X9_copyFrom : Cond.selects RX9 yX9_copyFrom yX9_copyFrom ∈ gT := g_mem6 (i := 14) (by decide +kernel) rfl
theorem tc_X9_copyFrom : Cond.code yX9_copyFrom cX9_copyFrom 3 (Option.none : Option Jvm.ClassFile.FieldType) ∈ gT := g_mem6 (i := 15) (by decide +kernel) rfl
theorem tm_X9_52 : Cond.methodLink RX9 52 yX3_copyFrom ∈ gT := g_mem6 (i := 16) (by decide +kernel) rfl
theorem tm_L_218 : Cond.methodLink RL 218 yL_lessonsUntilMeant ∈ gT := g_mem6 (i := 17) (by decide +kernel) rfl
theorem tz_L_lessonsUntilMeant : Cond.static yL_lessonsUntilMeant ∈ gT := g_mem6 (i := 18) (by decide +kernel) rfl
theorem tc_L_lessonsUntilMeant : Cond.codeWith yL_lessonsUntilMeant cL_lessonsUntilMeant 4 (Option.some Jvm.ClassFile.FieldType.int) [((0 : Nat), (9 : Nat), (12 : Nat), (24 : Nat))] ∈ gT := g_mem6 (i := 19) (by decide +kernel) rfl
theorem tm_L_90 : Cond.methodLink RL 90 yX12_lessonsUntilMeant ∈ gT := g_mem6 (i := 20) (by decide +kernel) rfl
theorem ti_X12_lessonsUntilMeant : Cond.instanceMethod yX12_lessonsUntilMeant ∈ gT := g_mem6 (i := 21) (by decide +kernel) rfl
theorem ts_X12_lessonsUntilMeant : Cond.selects RX12 yX12_lessonsUntilMeant yX12_lessonsUntilMeant ∈ gT := g_mem6 (i := 22) (by decide +kernel) rfl
theorem tc_X12_lessonsUntilMeant : Cond.code yX12_lessonsUntilMeant cX12_lessonsUntilMeant 3 (Option.some Jvm.ClassFile.FieldType.int) ∈ gT := g_mem6 (i := 23) (by decide +kernel) rfl
theorem tm_L_221 : Cond.methodLink RL 221 yL_bestShift ∈ gT := g_mem6 (i := 24) (by decide +kernel) rfl
theorem tz_L_bestShift : Cond.static yL_bestShift ∈ gT := g_mem6 (i := 25) (by decide +kernel) rfl
theorem tc_L_bestShift : Cond.codeWith yL_bestShift cL_bestShift 4 (Option.some Jvm.ClassFile.FieldType.int) [((0 : Nat), (9 : Nat), (12 : Nat), (24 : Nat)), ((0 : Nat), (9 : Nat), (15 : Nat), (13 : Nat))] ∈ gT := g_mem6 (i := 26) (by decide +kernel) rfl
theorem tm_L_93 : Cond.methodLink RL 93 yX12_bestShift ∈ gT := g_mem6 (i := 27) (by decide +kernel) rfl
theorem ti_X12_bestShift : Cond.instanceMethod yX12_bestShift ∈ gT := g_mem6 (i := 28) (by decide +kernel) rfl
theorem ts_X12_bestShift : Cond.selects RX12 yX12_bestShift yX12_bestShift ∈ gT := g_mem6 (i := 29) (by decide +kernel) rfl
theorem tc_X12_bestShift : Cond.code yX12_bestShift cX12_bestShift 7 (Option.some Jvm.ClassFile.FieldType.int) ∈ gT := g_mem6 (i := 30) (by decide +kernel) rfl
theorem tm_X12_230 : Cond.methodLink RX12 230 yX12_distanceIfShifted ∈ gT := g_mem6 (i := 31) (by decide +kernel) rfl
theorem ti_X12_distanceIfShifted : Cond.instanceMethod yX12_distanceIfShifted ∈ gT := g_mem6 (i := 33) (by decide +kernel) rfl
theorem tc_X12_distanceIfShifted : Cond.code yX12_distanceIfShifted cX12_distanceIfShifted 3 (Option.some Jvm.ClassFile.FieldType.int) ∈ gT := g_mem6 (i := 34) (by decide +kernel) rfl
theorem tl_L_97 : Cond.classLink RL 97 RX15 ∈ gT := g_mem6 (i := 35) (by decide +kernel) rfl
theorem ta_X15 : Cond.instantiable RX15 20 ∈ gT := g_mem6 (i := 36) (by decide +kernel) rfl
theorem tm_L_99 : Cond.methodLink RL 99 yX15_init ∈ gT := g_mem6 (i := 37) (by decide +kernel) rfl
theorem ti_X15_init : Cond.instanceMethod yX15_init ∈ gT := g_mem6 (i := 38) (by decide +kernel) rfl
theorem tc_X15_init : Cond.code yX15_init cX15_init 1 (Option.none : Option Jvm.ClassFile.FieldType) ∈ gT := g_mem6 (i := 39) (by decide +kernel) rfl
theorem tm_X15_3 : Cond.methodLink RX15 3 ⟨"java/lang/Object", "<init>", "()V"⟩ ∈ gT := g_mem6 (i := 40) (by decide +kernel) rfl
theorem tl_X15_32 : Cond.classLink RX15 32 RX14 ∈ gT := g_mem6 (i := 41) (by decide +kernel) rfl
theorem ta_X14 : Cond.instantiable RX14 16 ∈ gT := g_mem6 (i := 42) (by decide +kernel) rfl
theorem tmN_X15_34 : Cond.methodLinkNest RX15 34 yX14_init "GlideWhistlesModel" ∈ gN := g_nem6 (i := 43) (by decide +kernel) rfl
theorem ti_X14_init : Cond.instanceMethod yX14_init ∈ gT := g_mem6 (i := 44) (by decide +kernel) rfl
theorem tc_X14_init : Cond.code yX14_init cX14_init 1 (Option.none : Option Jvm.ClassFile.FieldType) ∈ gT := g_mem6 (i := 45) (by decide +kernel) rfl
theorem tm_X14_3 : Cond.methodLink RX14 3 ⟨"java/lang/Object", "<init>", "()V"⟩ ∈ gT := g_mem6 (i := 46) (by decide +kernel) rfl
theorem tf_X14_9 : Cond.fieldLink RX14 9 "GlideWhistlesModel$Told" "band" "I" ∈ gT := g_mem6 (i := 47) (by decide +kernel) rfl
theorem tfN_X15_244 : Cond.fieldLinkNest RX15 244 "GlideWhistlesModel$Told" "band" "I" "GlideWhistlesModel" ∈ gN := g_nem6 (i := 48) (by decide +kernel) rfl
theorem tf_X14_15 : Cond.fieldLink RX14 15 "GlideWhistlesModel$Told" "nearness" "I" ∈ gT := g_mem6 (i := 49) (by decide +kernel) rfl
theorem tfN_X15_247 : Cond.fieldLinkNest RX15 247 "GlideWhistlesModel$Told" "nearness" "I" "GlideWhistlesModel" ∈ gN := g_nem6 (i := 50) (by decide +kernel) rfl
theorem tf_X14_52 : Cond.fieldLink RX14 52 "GlideWhistlesModel$Told" "words" "I" ∈ gT := g_mem6 (i := 51) (by decide +kernel) rfl
theorem tfN_X15_147 : Cond.fieldLinkNest RX15 147 "GlideWhistlesModel$Told" "words" "I" "GlideWhistlesModel" ∈ gN := g_nem6 (i := 52) (by decide +kernel) rfl
theorem tf_X14_18 : Cond.fieldLink RX14 18 "GlideWhistlesModel$Told" "beats" "[I" ∈ gT := g_mem6 (i := 53) (by decide +kernel) rfl
theorem tfN_X13_21 : Cond.fieldLinkNest RX13 21 "GlideWhistlesModel$Told" "beats" "[I" "GlideWhistlesModel" ∈ gN := g_nem6 (i := 54) (by decide +kernel) rfl
theorem tfN_X15_211 : Cond.fieldLinkNest RX15 211 "GlideWhistlesModel$Told" "beats" "[I" "GlideWhistlesModel" ∈ gN := g_nem6 (i := 55) (by decide +kernel) rfl
theorem tf_X14_22 : Cond.fieldLink RX14 22 "GlideWhistlesModel$Told" "pitch" "[I" ∈ gT := g_mem6 (i := 56) (by decide +kernel) rfl
theorem tfN_X13_28 : Cond.fieldLinkNest RX13 28 "GlideWhistlesModel$Told" "pitch" "[I" "GlideWhistlesModel" ∈ gN := g_nem6 (i := 57) (by decide +kernel) rfl
theorem tfN_X15_217 : Cond.fieldLinkNest RX15 217 "GlideWhistlesModel$Told" "pitch" "[I" "GlideWhistlesModel" ∈ gN := g_nem6 (i := 58) (by decide +kernel) rfl
theorem tf_X14_55 : Cond.fieldLink RX14 55 "GlideWhistlesModel$Told" "rules" "I" ∈ gT := g_mem6 (i := 59) (by decide +kernel) rfl
theorem tfN_X15_223 : Cond.fieldLinkNest RX15 223 "GlideWhistlesModel$Told" "rules" "I" "GlideWhistlesModel" ∈ gN := g_nem6 (i := 60) (by decide +kernel) rfl
theorem tf_X14_25 : Cond.fieldLink RX14 25 "GlideWhistlesModel$Told" "does" "[I" ∈ gT := g_mem6 (i := 61) (by decide +kernel) rfl
theorem tfN_X15_229 : Cond.fieldLinkNest RX15 229 "GlideWhistlesModel$Told" "does" "[I" "GlideWhistlesModel" ∈ gN := g_nem6 (i := 62) (by decide +kernel) rfl
theorem tf_X14_28 : Cond.fieldLink RX14 28 "GlideWhistlesModel$Told" "word" "[I" ∈ gT := g_mem6 (i := 63) (by decide +kernel) rfl
theorem tfN_X15_232 : Cond.fieldLinkNest RX15 232 "GlideWhistlesModel$Told" "word" "[I" "GlideWhistlesModel" ∈ gN := g_nem6 (i := 64) (by decide +kernel) rfl
theorem tf_X14_31 : Cond.fieldLink RX14 31 "GlideWhistlesModel$Told" "from" "[I" ∈ gT := g_mem6 (i := 65) (by decide +kernel) rfl
theorem tfN_X15_226 : Cond.fieldLinkNest RX15 226 "GlideWhistlesModel$Told" "from" "[I" "GlideWhistlesModel" ∈ gN := g_nem6 (i := 66) (by decide +kernel) rfl
theorem tf_X14_34 : Cond.fieldLink RX14 34 "GlideWhistlesModel$Told" "to" "[I" ∈ gT := g_mem6 (i := 67) (by decide +kernel) rfl
theorem tfN_X15_239 : Cond.fieldLinkNest RX15 239 "GlideWhistlesModel$Told" "to" "[I" "GlideWhistlesModel" ∈ gN := g_nem6 (i := 68) (by decide +kernel) rfl
theorem tf_X14_37 : Cond.fieldLink RX14 37 "GlideWhistlesModel$Told" "sum" "[I" ∈ gT := g_mem6 (i := 69) (by decide +kernel) rfl
theorem tfN_X15_235 : Cond.fieldLinkNest RX15 235 "GlideWhistlesModel$Told" "sum" "[I" "GlideWhistlesModel" ∈ gN := g_nem6 (i := 70) (by decide +kernel) rfl
theorem tf_X14_40 : Cond.fieldLink RX14 40 "GlideWhistlesModel$Told" "test" "[I" ∈ gT := g_mem6 (i := 71) (by decide +kernel) rfl
theorem tfN_X15_237 : Cond.fieldLinkNest RX15 237 "GlideWhistlesModel$Told" "test" "[I" "GlideWhistlesModel" ∈ gN := g_nem6 (i := 72) (by decide +kernel) rfl
theorem tf_X14_58 : Cond.fieldLink RX14 58 "GlideWhistlesModel$Told" "nodes" "I" ∈ gT := g_mem6 (i := 73) (by decide +kernel) rfl
theorem tfN_X15_135 : Cond.fieldLinkNest RX15 135 "GlideWhistlesModel$Told" "nodes" "I" "GlideWhistlesModel" ∈ gN := g_nem6 (i := 74) (by decide +kernel) rfl
theorem tf_X14_43 : Cond.fieldLink RX14 43 "GlideWhistlesModel$Told" "sort" "[I" ∈ gT := g_mem6 (i := 75) (by decide +kernel) rfl
theorem tfN_X15_138 : Cond.fieldLinkNest RX15 138 "GlideWhistlesModel$Told" "sort" "[I" "GlideWhistlesModel" ∈ gN := g_nem6 (i := 76) (by decide +kernel) rfl
theorem tf_X14_46 : Cond.fieldLink RX14 46 "GlideWhistlesModel$Told" "left" "[I" ∈ gT := g_mem6 (i := 77) (by decide +kernel) rfl
theorem tfN_X15_141 : Cond.fieldLinkNest RX15 141 "GlideWhistlesModel$Told" "left" "[I" "GlideWhistlesModel" ∈ gN := g_nem6 (i := 78) (by decide +kernel) rfl
theorem tf_X14_49 : Cond.fieldLink RX14 49 "GlideWhistlesModel$Told" "right" "[I" ∈ gT := g_mem6 (i := 79) (by decide +kernel) rfl
theorem tfN_X15_144 : Cond.fieldLinkNest RX15 144 "GlideWhistlesModel$Told" "right" "[I" "GlideWhistlesModel" ∈ gN := g_nem6 (i := 80) (by decide +kernel) rfl
theorem tl_X15_45 : Cond.classLink RX15 45 RX13 ∈ gT := g_mem6 (i := 114) (by decide +kernel) rfl
theorem ta_X13 : Cond.instantiable RX13 5 ∈ gT := g_mem6 (i := 115) (by decide +kernel) rfl
theorem tmN_X15_47 : Cond.methodLinkNest RX15 47 yX13_init "GlideWhistlesModel" ∈ gN := g_nem6 (i := 116) (by decide +kernel) rfl
theorem ti_X13_init : Cond.instanceMethod yX13_init ∈ gT := g_mem6 (i := 117) (by decide +kernel) rfl
theorem tc_X13_init : Cond.code yX13_init cX13_init 1 (Option.none : Option Jvm.ClassFile.FieldType) ∈ gT := g_mem6 (i := 118) (by decide +kernel) rfl
theorem tm_X13_3 : Cond.methodLink RX13 3 ⟨"java/lang/Object", "<init>", "()V"⟩ ∈ gT := g_mem6 (i := 119) (by decide +kernel) rfl
theorem tf_X13_9 : Cond.fieldLink RX13 9 "GlideWhistlesModel$State" "beats" "[I" ∈ gT := g_mem6 (i := 120) (by decide +kernel) rfl
theorem tfN_X15_270 : Cond.fieldLinkNest RX15 270 "GlideWhistlesModel$State" "beats" "[I" "GlideWhistlesModel" ∈ gN := g_nem6 (i := 121) (by decide +kernel) rfl
theorem tf_X13_15 : Cond.fieldLink RX13 15 "GlideWhistlesModel$State" "pitch" "[I" ∈ gT := g_mem6 (i := 122) (by decide +kernel) rfl
theorem tfN_X15_271 : Cond.fieldLinkNest RX15 271 "GlideWhistlesModel$State" "pitch" "[I" "GlideWhistlesModel" ∈ gN := g_nem6 (i := 123) (by decide +kernel) rfl
theorem tf_X13_18 : Cond.fieldLink RX13 18 "GlideWhistlesModel$State" "pruned" "[I" ∈ gT := g_mem6 (i := 124) (by decide +kernel) rfl
theorem tfN_X15_293 : Cond.fieldLinkNest RX15 293 "GlideWhistlesModel$State" "pruned" "[I" "GlideWhistlesModel" ∈ gN := g_nem6 (i := 125) (by decide +kernel) rfl
theorem tf_X13_29 : Cond.fieldLink RX13 29 "GlideWhistlesModel$State" "lessons" "I" ∈ gT := g_mem6 (i := 126) (by decide +kernel) rfl
theorem tfN_X15_303 : Cond.fieldLinkNest RX15 303 "GlideWhistlesModel$State" "lessons" "I" "GlideWhistlesModel" ∈ gN := g_nem6 (i := 127) (by decide +kernel) rfl
theorem tf_X13_33 : Cond.fieldLink RX13 33 "GlideWhistlesModel$State" "carried" "I" ∈ gT := g_mem6 (i := 128) (by decide +kernel) rfl
theorem tfN_X15_338 : Cond.fieldLinkNest RX15 338 "GlideWhistlesModel$State" "carried" "I" "GlideWhistlesModel" ∈ gN := g_nem6 (i := 129) (by decide +kernel) rfl
theorem tm_X15_58 : Cond.methodLink RX15 58 yX13_begin ∈ gT := g_mem6 (i := 141) (by decide +kernel) rfl
theorem ti_X13_begin : Cond.instanceMethod yX13_begin ∈ gT := g_mem6 (i := 142) (by decide +kernel) rfl
theorem ts_X13_begin : Cond.selects RX13 yX13_begin yX13_begin ∈ gT := g_mem6 (i := 143) (by decide +kernel) rfl
theorem tc_X13_begin : Cond.code yX13_begin cX13_begin 3 (Option.none : Option Jvm.ClassFile.FieldType) ∈ gT := g_mem6 (i := 144) (by decide +kernel) rfl
theorem tmN_X13_24 : Cond.methodLinkNest RX13 24 yX14_copy "GlideWhistlesModel" ∈ gN := g_nem6 (i := 145) (by decide +kernel) rfl
theorem tz_X14_copy : Cond.static yX14_copy ∈ gT := g_mem6 (i := 146) (by decide +kernel) rfl
theorem tc_X14_copy : Cond.code yX14_copy cX14_copy 2 (Option.none : Option Jvm.ClassFile.FieldType) ∈ gT := g_mem6 (i := 147) (by decide +kernel) rfl
theorem tm_X14_61 : Cond.methodLink RX14 61 ⟨"java/lang/System", "arraycopy", "(Ljava/lang/Object;ILjava/lang/Object;II)V"⟩ ∈ gT := g_mem6 (i := 148) (by decide +kernel) rfl
theorem tz_java_lang_System_arraycopy : Cond.static ⟨"java/lang/System", "arraycopy", "(Ljava/lang/Object;ILjava/lang/Object;II)V"⟩ ∈ gT := g_mem6 (i := 149) (by decide +kernel) rfl
theorem tf_X15_62 : Cond.fieldLink RX15 62 "GlideWhistlesModel" "thrown" "I" ∈ gT := g_mem6 (i := 151) (by decide +kernel) rfl
theorem tf_X15_9 : Cond.fieldLink RX15 9 "GlideWhistlesModel" "tape" "[I" ∈ gT := g_mem6 (i := 152) (by decide +kernel) rfl
theorem tf_X15_69 : Cond.fieldLink RX15 69 "GlideWhistlesModel" "bytes" "I" ∈ gT := g_mem6 (i := 153) (by decide +kernel) rfl
theorem tf_X15_13 : Cond.fieldLink RX15 13 "GlideWhistlesModel" "errorAt" "I" ∈ gT := g_mem6 (i := 154) (by decide +kernel) rfl
theorem tf_X15_17 : Cond.fieldLink RX15 17 "GlideWhistlesModel" "kind" "[I" ∈ gT := g_mem6 (i := 155) (by decide +kernel) rfl
theorem tf_X15_20 : Cond.fieldLink RX15 20 "GlideWhistlesModel" "number" "[I" ∈ gT := g_mem6 (i := 156) (by decide +kernel) rfl
theorem tf_X15_23 : Cond.fieldLink RX15 23 "GlideWhistlesModel" "position" "[I" ∈ gT := g_mem6 (i := 157) (by decide +kernel) rfl
theorem tf_X15_26 : Cond.fieldLink RX15 26 "GlideWhistlesModel" "length" "[I" ∈ gT := g_mem6 (i := 158) (by decide +kernel) rfl
theorem tf_X15_117 : Cond.fieldLink RX15 117 "GlideWhistlesModel" "token" "I" ∈ gT := g_mem6 (i := 159) (by decide +kernel) rfl
theorem tf_X15_113 : Cond.fieldLink RX15 113 "GlideWhistlesModel" "isWrong" "Z" ∈ gT := g_mem6 (i := 160) (by decide +kernel) rfl
theorem tf_X15_120 : Cond.fieldLink RX15 120 "GlideWhistlesModel" "error" "I" ∈ gT := g_mem6 (i := 161) (by decide +kernel) rfl
theorem tf_X15_123 : Cond.fieldLink RX15 123 "GlideWhistlesModel" "errorToken" "I" ∈ gT := g_mem6 (i := 162) (by decide +kernel) rfl
theorem tf_X15_132 : Cond.fieldLink RX15 132 "GlideWhistlesModel" "deep" "I" ∈ gT := g_mem6 (i := 163) (by decide +kernel) rfl
theorem tf_X15_29 : Cond.fieldLink RX15 29 "GlideWhistlesModel" "named" "[I" ∈ gT := g_mem6 (i := 164) (by decide +kernel) rfl
theorem tf_X15_35 : Cond.fieldLink RX15 35 "GlideWhistlesModel" "told" "LGlideWhistlesModel$Told;" ∈ gT := g_mem6 (i := 165) (by decide +kernel) rfl
theorem tf_X15_39 : Cond.fieldLink RX15 39 "GlideWhistlesModel" "fresh" "LGlideWhistlesModel$Told;" ∈ gT := g_mem6 (i := 166) (by decide +kernel) rfl
theorem tf_X15_42 : Cond.fieldLink RX15 42 "GlideWhistlesModel" "value" "[I" ∈ gT := g_mem6 (i := 167) (by decide +kernel) rfl
theorem tf_X15_48 : Cond.fieldLink RX15 48 "GlideWhistlesModel" "now" "LGlideWhistlesModel$State;" ∈ gT := g_mem6 (i := 168) (by decide +kernel) rfl
theorem tf_X15_52 : Cond.fieldLink RX15 52 "GlideWhistlesModel" "ahead" "LGlideWhistlesModel$State;" ∈ gT := g_mem6 (i := 169) (by decide +kernel) rfl
theorem tf_X15_55 : Cond.fieldLink RX15 55 "GlideWhistlesModel" "least" "[I" ∈ gT := g_mem6 (i := 170) (by decide +kernel) rfl
theorem tm_L_106 : Cond.methodLink RL 106 yX15_thrown ∈ gT := g_mem6 (i := 212) (by decide +kernel) rfl
theorem ti_X15_thrown : Cond.instanceMethod yX15_thrown ∈ gT := g_mem6 (i := 213) (by decide +kernel) rfl
theorem ts_X15_thrown : Cond.selects RX15 yX15_thrown yX15_thrown ∈ gT := g_mem6 (i := 214) (by decide +kernel) rfl
theorem tc_X15_thrown : Cond.code yX15_thrown cX15_thrown 1 (Option.some Jvm.ClassFile.FieldType.int) ∈ gT := g_mem6 (i := 215) (by decide +kernel) rfl
theorem tm_L_105 : Cond.methodLink RL 105 yX15_feed ∈ gT := g_mem6 (i := 216) (by decide +kernel) rfl
theorem ti_X15_feed : Cond.instanceMethod yX15_feed ∈ gT := g_mem6 (i := 217) (by decide +kernel) rfl
theorem ts_X15_feed : Cond.selects RX15 yX15_feed yX15_feed ∈ gT := g_mem6 (i := 218) (by decide +kernel) rfl
theorem tc_X15_feed : Cond.code yX15_feed cX15_feed 12 (Option.some Jvm.ClassFile.FieldType.int) ∈ gT := g_mem6 (i := 219) (by decide +kernel) rfl
theorem tm_X15_253 : Cond.methodLink RX15 253 yX15_no ∈ gT := g_mem6 (i := 220) (by decide +kernel) rfl
theorem ti_X15_no : Cond.instanceMethod yX15_no ∈ gT := g_mem6 (i := 222) (by decide +kernel) rfl
theorem tc_X15_no : Cond.code yX15_no cX15_no 2 (Option.some Jvm.ClassFile.FieldType.int) ∈ gT := g_mem6 (i := 223) (by decide +kernel) rfl
theorem tm_L_112 : Cond.methodLink RL 112 yX15_trim ∈ gT := g_mem6 (i := 224) (by decide +kernel) rfl
theorem ti_X15_trim : Cond.instanceMethod yX15_trim ∈ gT := g_mem6 (i := 225) (by decide +kernel) rfl
theorem ts_X15_trim : Cond.selects RX15 yX15_trim yX15_trim ∈ gT := g_mem6 (i := 226) (by decide +kernel) rfl
theorem tc_X15_trim : Cond.code yX15_trim cX15_trim 2 (Option.some Jvm.ClassFile.FieldType.int) ∈ gT := g_mem6 (i := 227) (by decide +kernel) rfl
theorem tm_X15_65 : Cond.methodLink RX15 65 yX15_isIn ∈ gT := g_mem6 (i := 228) (by decide +kernel) rfl
theorem tz_X15_isIn : Cond.static yX15_isIn ∈ gT := g_mem6 (i := 229) (by decide +kernel) rfl
theorem tc_X15_isIn : Cond.code yX15_isIn cX15_isIn 3 (Option.some Jvm.ClassFile.FieldType.boolean) ∈ gT := g_mem6 (i := 230) (by decide +kernel) rfl
theorem tm_L_116 : Cond.methodLink RL 116 yX15_teach ∈ gT := g_mem6 (i := 231) (by decide +kernel) rfl
theorem ti_X15_teach : Cond.instanceMethod yX15_teach ∈ gT := g_mem6 (i := 232) (by decide +kernel) rfl
theorem ts_X15_teach : Cond.selects RX15 yX15_teach yX15_teach ∈ gT := g_mem6 (i := 233) (by decide +kernel) rfl
theorem tc_X15_teach : Cond.code yX15_teach cX15_teach 1 (Option.some Jvm.ClassFile.FieldType.int) ∈ gT := g_mem6 (i := 234) (by decide +kernel) rfl
theorem tm_X15_256 : Cond.methodLink RX15 256 yX14_begin ∈ gT := g_mem6 (i := 235) (by decide +kernel) rfl
theorem ti_X14_begin : Cond.instanceMethod yX14_begin ∈ gT := g_mem6 (i := 236) (by decide +kernel) rfl
theorem ts_X14_begin : Cond.selects RX14 yX14_begin yX14_begin ∈ gT := g_mem6 (i := 237) (by decide +kernel) rfl
theorem tc_X14_begin : Cond.code yX14_begin cX14_begin 1 (Option.none : Option Jvm.ClassFile.FieldType) ∈ gT := g_mem6 (i := 238) (by decide +kernel) rfl
theorem tm_X15_258 : Cond.methodLink RX15 258 yX15_readAll ∈ gT := g_mem6 (i := 239) (by decide +kernel) rfl
theorem ti_X15_readAll : Cond.instanceMethod yX15_readAll ∈ gT := g_mem7 (i := 1) (by decide +kernel) rfl
theorem tc_X15_readAll : Cond.code yX15_readAll cX15_readAll 3 (Option.none : Option Jvm.ClassFile.FieldType) ∈ gT := g_mem7 (i := 2) (by decide +kernel) rfl
theorem tm_X15_107 : Cond.methodLink RX15 107 yX15_skip ∈ gT := g_mem7 (i := 3) (by decide +kernel) rfl
theorem ti_X15_skip : Cond.instanceMethod yX15_skip ∈ gT := g_mem7 (i := 5) (by decide +kernel) rfl
theorem tc_X15_skip : Cond.code yX15_skip cX15_skip 3 (Option.some Jvm.ClassFile.FieldType.int) ∈ gT := g_mem7 (i := 6) (by decide +kernel) rfl
theorem tm_X15_93 : Cond.methodLink RX15 93 yX15_byteAt ∈ gT := g_mem7 (i := 7) (by decide +kernel) rfl
theorem ti_X15_byteAt : Cond.instanceMethod yX15_byteAt ∈ gT := g_mem7 (i := 9) (by decide +kernel) rfl
theorem tc_X15_byteAt : Cond.code yX15_byteAt cX15_byteAt 2 (Option.some Jvm.ClassFile.FieldType.int) ∈ gT := g_mem7 (i := 10) (by decide +kernel) rfl
theorem tm_X15_110 : Cond.methodLink RX15 110 yX15_read ∈ gT := g_mem7 (i := 11) (by decide +kernel) rfl
theorem ti_X15_read : Cond.instanceMethod yX15_read ∈ gT := g_mem7 (i := 13) (by decide +kernel) rfl
theorem tc_X15_read : Cond.code yX15_read cX15_read 6 (Option.some Jvm.ClassFile.FieldType.int) ∈ gT := g_mem7 (i := 14) (by decide +kernel) rfl
theorem tm_X15_89 : Cond.methodLink RX15 89 yX15_isLetter ∈ gT := g_mem7 (i := 15) (by decide +kernel) rfl
theorem tz_X15_isLetter : Cond.static yX15_isLetter ∈ gT := g_mem7 (i := 16) (by decide +kernel) rfl
theorem tc_X15_isLetter : Cond.code yX15_isLetter cX15_isLetter 1 (Option.some Jvm.ClassFile.FieldType.boolean) ∈ gT := g_mem7 (i := 17) (by decide +kernel) rfl
theorem tm_X15_97 : Cond.methodLink RX15 97 yX15_isDigit ∈ gT := g_mem7 (i := 18) (by decide +kernel) rfl
theorem tz_X15_isDigit : Cond.static yX15_isDigit ∈ gT := g_mem7 (i := 19) (by decide +kernel) rfl
theorem tc_X15_isDigit : Cond.code yX15_isDigit cX15_isDigit 1 (Option.some Jvm.ClassFile.FieldType.boolean) ∈ gT := g_mem7 (i := 20) (by decide +kernel) rfl
theorem tm_X15_100 : Cond.methodLink RX15 100 yX15_keyword ∈ gT := g_mem7 (i := 21) (by decide +kernel) rfl
theorem ti_X15_keyword : Cond.instanceMethod yX15_keyword ∈ gT := g_mem7 (i := 23) (by decide +kernel) rfl
theorem tc_X15_keyword : Cond.code yX15_keyword cX15_keyword 4 (Option.some Jvm.ClassFile.FieldType.int) ∈ gT := g_mem7 (i := 24) (by decide +kernel) rfl
theorem tf_X15_81 : Cond.fieldLink RX15 81 "GlideWhistlesModel" "TOLD" "[Ljava/lang/String;" ∈ gT := g_mem7 (i := 25) (by decide +kernel) rfl
theorem tm_X15_85 : Cond.methodLink RX15 85 yX15_isWord ∈ gT := g_mem7 (i := 27) (by decide +kernel) rfl
theorem ti_X15_isWord : Cond.instanceMethod yX15_isWord ∈ gT := g_mem7 (i := 29) (by decide +kernel) rfl
theorem tc_X15_isWord : Cond.code yX15_isWord cX15_isWord 5 (Option.some Jvm.ClassFile.FieldType.boolean) ∈ gT := g_mem7 (i := 30) (by decide +kernel) rfl
theorem tm_X15_72 : Cond.methodLink RX15 72 yJ0_length_8abf5 ∈ gT := g_mem7 (i := 31) (by decide +kernel) rfl
theorem tm_X15_77 : Cond.methodLink RX15 77 yJ0_charAt_5068e ∈ gT := g_mem7 (i := 32) (by decide +kernel) rfl
theorem tm_X15_104 : Cond.methodLink RX15 104 yX15_symbol ∈ gT := g_mem7 (i := 33) (by decide +kernel) rfl
theorem tz_X15_symbol : Cond.static yX15_symbol ∈ gT := g_mem7 (i := 34) (by decide +kernel) rfl
theorem tc_X15_symbol : Cond.code yX15_symbol cX15_symbol 1 (Option.some Jvm.ClassFile.FieldType.int) ∈ gT := g_mem7 (i := 35) (by decide +kernel) rfl
theorem tm_X15_261 : Cond.methodLink RX15 261 yX15_line ∈ gT := g_mem7 (i := 36) (by decide +kernel) rfl
theorem ti_X15_line : Cond.instanceMethod yX15_line ∈ gT := g_mem7 (i := 38) (by decide +kernel) rfl
theorem tc_X15_line : Cond.code yX15_line cX15_line 1 (Option.none : Option Jvm.ClassFile.FieldType) ∈ gT := g_mem7 (i := 39) (by decide +kernel) rfl
theorem tm_X15_199 : Cond.methodLink RX15 199 yX15_takes ∈ gT := g_mem7 (i := 40) (by decide +kernel) rfl
theorem ti_X15_takes : Cond.instanceMethod yX15_takes ∈ gT := g_mem7 (i := 42) (by decide +kernel) rfl
theorem tc_X15_takes : Cond.code yX15_takes cX15_takes 2 (Option.some Jvm.ClassFile.FieldType.boolean) ∈ gT := g_mem7 (i := 43) (by decide +kernel) rfl
theorem tm_X15_126 : Cond.methodLink RX15 126 yX15_is ∈ gT := g_mem7 (i := 44) (by decide +kernel) rfl
theorem ti_X15_is : Cond.instanceMethod yX15_is ∈ gT := g_mem7 (i := 46) (by decide +kernel) rfl
theorem tc_X15_is : Cond.code yX15_is cX15_is 2 (Option.some Jvm.ClassFile.FieldType.boolean) ∈ gT := g_mem7 (i := 47) (by decide +kernel) rfl
theorem tm_X15_242 : Cond.methodLink RX15 242 yX15_word ∈ gT := g_mem7 (i := 48) (by decide +kernel) rfl
theorem ti_X15_word : Cond.instanceMethod yX15_word ∈ gT := g_mem7 (i := 50) (by decide +kernel) rfl
theorem tc_X15_word : Cond.code yX15_word cX15_word 2 (Option.none : Option Jvm.ClassFile.FieldType) ∈ gT := g_mem7 (i := 51) (by decide +kernel) rfl
theorem tm_X15_214 : Cond.methodLink RX15 214 yJ9_min_7cf53 ∈ gT := g_mem7 (i := 52) (by decide +kernel) rfl
theorem tm_X15_154 : Cond.methodLink RX15 154 yX15_known ∈ gT := g_mem7 (i := 53) (by decide +kernel) rfl
theorem ti_X15_known : Cond.instanceMethod yX15_known ∈ gT := g_mem7 (i := 55) (by decide +kernel) rfl
theorem tc_X15_known : Cond.code yX15_known cX15_known 2 (Option.some Jvm.ClassFile.FieldType.int) ∈ gT := g_mem7 (i := 56) (by decide +kernel) rfl
theorem tm_X15_150 : Cond.methodLink RX15 150 yX15_isSameName ∈ gT := g_mem7 (i := 57) (by decide +kernel) rfl
theorem ti_X15_isSameName : Cond.instanceMethod yX15_isSameName ∈ gT := g_mem7 (i := 59) (by decide +kernel) rfl
theorem tc_X15_isSameName : Cond.code yX15_isSameName cX15_isSameName 4 (Option.some Jvm.ClassFile.FieldType.boolean) ∈ gT := g_mem7 (i := 60) (by decide +kernel) rfl
theorem tm_X15_157 : Cond.methodLink RX15 157 yX15_mark ∈ gT := g_mem7 (i := 61) (by decide +kernel) rfl
theorem ti_X15_mark : Cond.instanceMethod yX15_mark ∈ gT := g_mem7 (i := 63) (by decide +kernel) rfl
theorem tc_X15_mark : Cond.code yX15_mark cX15_mark 2 (Option.none : Option Jvm.ClassFile.FieldType) ∈ gT := g_mem7 (i := 64) (by decide +kernel) rfl
theorem tm_X15_161 : Cond.methodLink RX15 161 yX15_take ∈ gT := g_mem7 (i := 65) (by decide +kernel) rfl
theorem ti_X15_take : Cond.instanceMethod yX15_take ∈ gT := g_mem7 (i := 67) (by decide +kernel) rfl
theorem tc_X15_take : Cond.code yX15_take cX15_take 2 (Option.none : Option Jvm.ClassFile.FieldType) ∈ gT := g_mem7 (i := 68) (by decide +kernel) rfl
theorem tm_X15_129 : Cond.methodLink RX15 129 yX15_wrong ∈ gT := g_mem7 (i := 69) (by decide +kernel) rfl
theorem ti_X15_wrong : Cond.instanceMethod yX15_wrong ∈ gT := g_mem7 (i := 71) (by decide +kernel) rfl
theorem tc_X15_wrong : Cond.code yX15_wrong cX15_wrong 1 (Option.none : Option Jvm.ClassFile.FieldType) ∈ gT := g_mem7 (i := 72) (by decide +kernel) rfl
theorem tm_X15_220 : Cond.methodLink RX15 220 yX15_part ∈ gT := g_mem7 (i := 73) (by decide +kernel) rfl
theorem ti_X15_part : Cond.instanceMethod yX15_part ∈ gT := g_mem7 (i := 75) (by decide +kernel) rfl
theorem tc_X15_part : Cond.code yX15_part cX15_part 6 (Option.none : Option Jvm.ClassFile.FieldType) ∈ gT := g_mem7 (i := 76) (by decide +kernel) rfl
theorem tm_X15_208 : Cond.methodLink RX15 208 yX15_numberIn ∈ gT := g_mem7 (i := 77) (by decide +kernel) rfl
theorem ti_X15_numberIn : Cond.instanceMethod yX15_numberIn ∈ gT := g_mem7 (i := 79) (by decide +kernel) rfl
theorem tc_X15_numberIn : Cond.code yX15_numberIn cX15_numberIn 4 (Option.some Jvm.ClassFile.FieldType.int) ∈ gT := g_mem7 (i := 80) (by decide +kernel) rfl
theorem tm_X15_250 : Cond.methodLink RX15 250 yX15_rule ∈ gT := g_mem7 (i := 81) (by decide +kernel) rfl
theorem ti_X15_rule : Cond.instanceMethod yX15_rule ∈ gT := g_mem7 (i := 83) (by decide +kernel) rfl
theorem tc_X15_rule : Cond.code yX15_rule cX15_rule 3 (Option.none : Option Jvm.ClassFile.FieldType) ∈ gT := g_mem7 (i := 84) (by decide +kernel) rfl
theorem tm_X15_179 : Cond.methodLink RX15 179 yX15_name ∈ gT := g_mem7 (i := 85) (by decide +kernel) rfl
theorem ti_X15_name : Cond.instanceMethod yX15_name ∈ gT := g_mem7 (i := 87) (by decide +kernel) rfl
theorem tc_X15_name : Cond.code yX15_name cX15_name 2 (Option.some Jvm.ClassFile.FieldType.int) ∈ gT := g_mem7 (i := 88) (by decide +kernel) rfl
theorem tm_X15_164 : Cond.methodLink RX15 164 yJ9_max_7cf53 ∈ gT := g_mem7 (i := 89) (by decide +kernel) rfl
theorem tm_X15_172 : Cond.methodLink RX15 172 yX15_sum ∈ gT := g_mem7 (i := 90) (by decide +kernel) rfl
theorem ti_X15_sum : Cond.instanceMethod yX15_sum ∈ gT := g_mem7 (i := 92) (by decide +kernel) rfl
theorem tc_X15_sum : Cond.code yX15_sum cX15_sum 3 (Option.some Jvm.ClassFile.FieldType.int) ∈ gT := g_mem7 (i := 93) (by decide +kernel) rfl
theorem tm_X15_190 : Cond.methodLink RX15 190 yX15_product ∈ gT := g_mem7 (i := 94) (by decide +kernel) rfl
theorem ti_X15_product : Cond.instanceMethod yX15_product ∈ gT := g_mem7 (i := 96) (by decide +kernel) rfl
theorem tc_X15_product : Cond.code yX15_product cX15_product 3 (Option.some Jvm.ClassFile.FieldType.int) ∈ gT := g_mem7 (i := 97) (by decide +kernel) rfl
theorem tm_X15_188 : Cond.methodLink RX15 188 yX15_value ∈ gT := g_mem7 (i := 98) (by decide +kernel) rfl
theorem ti_X15_value : Cond.instanceMethod yX15_value ∈ gT := g_mem7 (i := 100) (by decide +kernel) rfl
theorem tc_X15_value : Cond.code yX15_value cX15_value 2 (Option.some Jvm.ClassFile.FieldType.int) ∈ gT := g_mem7 (i := 101) (by decide +kernel) rfl
theorem tm_X15_175 : Cond.methodLink RX15 175 yX15_node ∈ gT := g_mem7 (i := 102) (by decide +kernel) rfl
theorem ti_X15_node : Cond.instanceMethod yX15_node ∈ gT := g_mem7 (i := 104) (by decide +kernel) rfl
theorem tc_X15_node : Cond.code yX15_node cX15_node 5 (Option.some Jvm.ClassFile.FieldType.int) ∈ gT := g_mem7 (i := 105) (by decide +kernel) rfl
theorem tm_X15_182 : Cond.methodLink RX15 182 yX15_ofTwo ∈ gT := g_mem7 (i := 106) (by decide +kernel) rfl
theorem ti_X15_ofTwo : Cond.instanceMethod yX15_ofTwo ∈ gT := g_mem7 (i := 108) (by decide +kernel) rfl
theorem tc_X15_ofTwo : Cond.code yX15_ofTwo cX15_ofTwo 4 (Option.some Jvm.ClassFile.FieldType.int) ∈ gT := g_mem7 (i := 109) (by decide +kernel) rfl
theorem tm_X15_169 : Cond.methodLink RX15 169 yX15_deeper ∈ gT := g_mem7 (i := 110) (by decide +kernel) rfl
theorem ti_X15_deeper : Cond.instanceMethod yX15_deeper ∈ gT := g_mem7 (i := 112) (by decide +kernel) rfl
theorem tc_X15_deeper : Cond.code yX15_deeper cX15_deeper 1 (Option.none : Option Jvm.ClassFile.FieldType) ∈ gT := g_mem7 (i := 113) (by decide +kernel) rfl
theorem tm_X15_185 : Cond.methodLink RX15 185 yX15_inBrackets ∈ gT := g_mem7 (i := 114) (by decide +kernel) rfl
theorem ti_X15_inBrackets : Cond.instanceMethod yX15_inBrackets ∈ gT := g_mem7 (i := 116) (by decide +kernel) rfl
theorem tc_X15_inBrackets : Cond.code yX15_inBrackets cX15_inBrackets 2 (Option.some Jvm.ClassFile.FieldType.int) ∈ gT := g_mem7 (i := 117) (by decide +kernel) rfl
theorem tm_X15_196 : Cond.methodLink RX15 196 yX15_test ∈ gT := g_mem7 (i := 118) (by decide +kernel) rfl
theorem ti_X15_test : Cond.instanceMethod yX15_test ∈ gT := g_mem7 (i := 120) (by decide +kernel) rfl
theorem tc_X15_test : Cond.code yX15_test cX15_test 2 (Option.some Jvm.ClassFile.FieldType.int) ∈ gT := g_mem7 (i := 121) (by decide +kernel) rfl
theorem tm_X15_205 : Cond.methodLink RX15 205 yX15_both ∈ gT := g_mem7 (i := 122) (by decide +kernel) rfl
theorem ti_X15_both : Cond.instanceMethod yX15_both ∈ gT := g_mem7 (i := 124) (by decide +kernel) rfl
theorem tc_X15_both : Cond.code yX15_both cX15_both 2 (Option.some Jvm.ClassFile.FieldType.int) ∈ gT := g_mem7 (i := 125) (by decide +kernel) rfl
theorem tm_X15_193 : Cond.methodLink RX15 193 yX15_single ∈ gT := g_mem7 (i := 126) (by decide +kernel) rfl
theorem ti_X15_single : Cond.instanceMethod yX15_single ∈ gT := g_mem7 (i := 128) (by decide +kernel) rfl
theorem tc_X15_single : Cond.code yX15_single cX15_single 2 (Option.some Jvm.ClassFile.FieldType.int) ∈ gT := g_mem7 (i := 129) (by decide +kernel) rfl
theorem tm_X15_202 : Cond.methodLink RX15 202 yX15_comparison ∈ gT := g_mem7 (i := 130) (by decide +kernel) rfl
theorem ti_X15_comparison : Cond.instanceMethod yX15_comparison ∈ gT := g_mem7 (i := 132) (by decide +kernel) rfl
theorem tc_X15_comparison : Cond.code yX15_comparison cX15_comparison 3 (Option.some Jvm.ClassFile.FieldType.int) ∈ gT := g_mem7 (i := 133) (by decide +kernel) rfl
theorem tm_X15_264 : Cond.methodLink RX15 264 yX14_become ∈ gT := g_mem7 (i := 134) (by decide +kernel) rfl
theorem ti_X14_become : Cond.instanceMethod yX14_become ∈ gT := g_mem7 (i := 135) (by decide +kernel) rfl
theorem ts_X14_become : Cond.selects RX14 yX14_become yX14_become ∈ gT := g_mem7 (i := 136) (by decide +kernel) rfl
theorem tc_X14_become : Cond.code yX14_become cX14_become 2 (Option.none : Option Jvm.ClassFile.FieldType) ∈ gT := g_mem7 (i := 137) (by decide +kernel) rfl
theorem tm_X14_67 : Cond.methodLink RX14 67 yX14_copy ∈ gT := g_mem7 (i := 138) (by decide +kernel) rfl
theorem tm_L_120 : Cond.methodLink RL 120 yX15_errorAt ∈ gT := g_mem7 (i := 139) (by decide +kernel) rfl
theorem ti_X15_errorAt : Cond.instanceMethod yX15_errorAt ∈ gT := g_mem7 (i := 140) (by decide +kernel) rfl
theorem ts_X15_errorAt : Cond.selects RX15 yX15_errorAt yX15_errorAt ∈ gT := g_mem7 (i := 141) (by decide +kernel) rfl
theorem tc_X15_errorAt : Cond.code yX15_errorAt cX15_errorAt 1 (Option.some Jvm.ClassFile.FieldType.int) ∈ gT := g_mem7 (i := 142) (by decide +kernel) rfl
theorem tm_X15_267 : Cond.methodLink RX15 267 yX15_ok ∈ gT := g_mem7 (i := 143) (by decide +kernel) rfl
theorem ti_X15_ok : Cond.instanceMethod yX15_ok ∈ gT := g_mem7 (i := 145) (by decide +kernel) rfl
theorem tc_X15_ok : Cond.code yX15_ok cX15_ok 2 (Option.some Jvm.ClassFile.FieldType.int) ∈ gT := g_mem7 (i := 146) (by decide +kernel) rfl
theorem tm_L_124 : Cond.methodLink RL 124 yX15_words ∈ gT := g_mem7 (i := 147) (by decide +kernel) rfl
theorem ti_X15_words : Cond.instanceMethod yX15_words ∈ gT := g_mem7 (i := 148) (by decide +kernel) rfl
theorem ts_X15_words : Cond.selects RX15 yX15_words yX15_words ∈ gT := g_mem7 (i := 149) (by decide +kernel) rfl
theorem tc_X15_words : Cond.code yX15_words cX15_words 1 (Option.some Jvm.ClassFile.FieldType.int) ∈ gT := g_mem7 (i := 150) (by decide +kernel) rfl
theorem tm_L_128 : Cond.methodLink RL 128 yX15_keptWords ∈ gT := g_mem7 (i := 151) (by decide +kernel) rfl
theorem ti_X15_keptWords : Cond.instanceMethod yX15_keptWords ∈ gT := g_mem7 (i := 152) (by decide +kernel) rfl
theorem ts_X15_keptWords : Cond.selects RX15 yX15_keptWords yX15_keptWords ∈ gT := g_mem7 (i := 153) (by decide +kernel) rfl
theorem tc_X15_keptWords : Cond.code yX15_keptWords cX15_keptWords 1 (Option.some Jvm.ClassFile.FieldType.int) ∈ gT := g_mem7 (i := 154) (by decide +kernel) rfl
theorem tm_X15_306 : Cond.methodLink RX15 306 yX15_kept ∈ gT := g_mem7 (i := 155) (by decide +kernel) rfl
theorem ti_X15_kept : Cond.instanceMethod yX15_kept ∈ gT := g_mem7 (i := 157) (by decide +kernel) rfl
theorem tc_X15_kept : Cond.code yX15_kept cX15_kept 4 (Option.some Jvm.ClassFile.FieldType.int) ∈ gT := g_mem7 (i := 158) (by decide +kernel) rfl
theorem tm_L_132 : Cond.methodLink RL 132 yX15_rules ∈ gT := g_mem7 (i := 159) (by decide +kernel) rfl
theorem ti_X15_rules : Cond.instanceMethod yX15_rules ∈ gT := g_mem7 (i := 160) (by decide +kernel) rfl
theorem ts_X15_rules : Cond.selects RX15 yX15_rules yX15_rules ∈ gT := g_mem7 (i := 161) (by decide +kernel) rfl
theorem tc_X15_rules : Cond.code yX15_rules cX15_rules 1 (Option.some Jvm.ClassFile.FieldType.int) ∈ gT := g_mem7 (i := 162) (by decide +kernel) rfl
theorem tm_L_136 : Cond.methodLink RL 136 yX15_lessons ∈ gT := g_mem7 (i := 163) (by decide +kernel) rfl
theorem ti_X15_lessons : Cond.instanceMethod yX15_lessons ∈ gT := g_mem7 (i := 164) (by decide +kernel) rfl
theorem ts_X15_lessons : Cond.selects RX15 yX15_lessons yX15_lessons ∈ gT := g_mem7 (i := 165) (by decide +kernel) rfl
theorem tc_X15_lessons : Cond.code yX15_lessons cX15_lessons 1 (Option.some Jvm.ClassFile.FieldType.int) ∈ gT := g_mem7 (i := 166) (by decide +kernel) rfl
theorem tm_L_140 : Cond.methodLink RL 140 yX15_rulesCarriedOut ∈ gT := g_mem7 (i := 167) (by decide +kernel) rfl
theorem ti_X15_rulesCarriedOut : Cond.instanceMethod yX15_rulesCarriedOut ∈ gT := g_mem7 (i := 168) (by decide +kernel) rfl
theorem ts_X15_rulesCarriedOut : Cond.selects RX15 yX15_rulesCarriedOut yX15_rulesCarriedOut ∈ gT := g_mem7 (i := 169) (by decide +kernel) rfl
theorem tc_X15_rulesCarriedOut : Cond.code yX15_rulesCarriedOut cX15_rulesCarriedOut 1 (Option.some Jvm.ClassFile.FieldType.int) ∈ gT := g_mem7 (i := 170) (by decide +kernel) rfl
theorem tm_L_144 : Cond.methodLink RL 144 yX15_heardBeats ∈ gT := g_mem7 (i := 171) (by decide +kernel) rfl
theorem ti_X15_heardBeats : Cond.instanceMethod yX15_heardBeats ∈ gT := g_mem7 (i := 172) (by decide +kernel) rfl
theorem ts_X15_heardBeats : Cond.selects RX15 yX15_heardBeats yX15_heardBeats ∈ gT := g_mem7 (i := 173) (by decide +kernel) rfl
theorem tc_X15_heardBeats : Cond.code yX15_heardBeats cX15_heardBeats 1 (Option.some Jvm.ClassFile.FieldType.int) ∈ gT := g_mem7 (i := 174) (by decide +kernel) rfl
theorem tm_L_147 : Cond.methodLink RL 147 yX15_lengthOf ∈ gT := g_mem7 (i := 175) (by decide +kernel) rfl
theorem ti_X15_lengthOf : Cond.instanceMethod yX15_lengthOf ∈ gT := g_mem7 (i := 176) (by decide +kernel) rfl
theorem ts_X15_lengthOf : Cond.selects RX15 yX15_lengthOf yX15_lengthOf ∈ gT := g_mem7 (i := 177) (by decide +kernel) rfl
theorem tc_X15_lengthOf : Cond.code yX15_lengthOf cX15_lengthOf 2 (Option.some Jvm.ClassFile.FieldType.int) ∈ gT := g_mem7 (i := 178) (by decide +kernel) rfl
theorem tm_X15_341 : Cond.methodLink RX15 341 yX15_isTold ∈ gT := g_mem7 (i := 179) (by decide +kernel) rfl
theorem ti_X15_isTold : Cond.instanceMethod yX15_isTold ∈ gT := g_mem7 (i := 181) (by decide +kernel) rfl
theorem tc_X15_isTold : Cond.code yX15_isTold cX15_isTold 2 (Option.some Jvm.ClassFile.FieldType.boolean) ∈ gT := g_mem7 (i := 182) (by decide +kernel) rfl
theorem tm_L_151 : Cond.methodLink RL 151 yX15_pitchAt ∈ gT := g_mem7 (i := 183) (by decide +kernel) rfl
theorem ti_X15_pitchAt : Cond.instanceMethod yX15_pitchAt ∈ gT := g_mem7 (i := 184) (by decide +kernel) rfl
theorem ts_X15_pitchAt : Cond.selects RX15 yX15_pitchAt yX15_pitchAt ∈ gT := g_mem7 (i := 185) (by decide +kernel) rfl
theorem tc_X15_pitchAt : Cond.code yX15_pitchAt cX15_pitchAt 3 (Option.some Jvm.ClassFile.FieldType.int) ∈ gT := g_mem7 (i := 186) (by decide +kernel) rfl
theorem tm_X15_344 : Cond.methodLink RX15 344 yX15_isBeat ∈ gT := g_mem7 (i := 187) (by decide +kernel) rfl
theorem ti_X15_isBeat : Cond.instanceMethod yX15_isBeat ∈ gT := g_mem7 (i := 189) (by decide +kernel) rfl
theorem tc_X15_isBeat : Cond.code yX15_isBeat cX15_isBeat 3 (Option.some Jvm.ClassFile.FieldType.boolean) ∈ gT := g_mem7 (i := 190) (by decide +kernel) rfl
theorem tm_L_154 : Cond.methodLink RL 154 yX15_contourAt ∈ gT := g_mem7 (i := 191) (by decide +kernel) rfl
theorem ti_X15_contourAt : Cond.instanceMethod yX15_contourAt ∈ gT := g_mem7 (i := 192) (by decide +kernel) rfl
theorem ts_X15_contourAt : Cond.selects RX15 yX15_contourAt yX15_contourAt ∈ gT := g_mem7 (i := 193) (by decide +kernel) rfl
theorem tc_X15_contourAt : Cond.code yX15_contourAt cX15_contourAt 3 (Option.some Jvm.ClassFile.FieldType.int) ∈ gT := g_mem7 (i := 194) (by decide +kernel) rfl
theorem tm_X15_277 : Cond.methodLink RX15 277 yX15_contour ∈ gT := g_mem7 (i := 195) (by decide +kernel) rfl
theorem tz_X15_contour : Cond.static yX15_contour ∈ gT := g_mem7 (i := 196) (by decide +kernel) rfl
theorem tc_X15_contour : Cond.code yX15_contour cX15_contour 4 (Option.some Jvm.ClassFile.FieldType.int) ∈ gT := g_mem7 (i := 197) (by decide +kernel) rfl
theorem tm_X15_272 : Cond.methodLink RX15 272 yJ6_signum_0f7a4 ∈ gT := g_mem7 (i := 198) (by decide +kernel) rfl
theorem tz_J6_signum_0f7a4 : Cond.static yJ6_signum_0f7a4 ∈ gT := g_mem7 (i := 199) (by decide +kernel) rfl
theorem tc_J6_signum_0f7a4 : Cond.code yJ6_signum_0f7a4 cJ6_signum_0f7a4 1 (Option.some Jvm.ClassFile.FieldType.int) ∈ gT := g_mem7 (i := 200) (by decide +kernel) rfl
theorem tm_L_157 : Cond.methodLink RL 157 yX15_isPruned ∈ gT := g_mem7 (i := 201) (by decide +kernel) rfl
theorem ti_X15_isPruned : Cond.instanceMethod yX15_isPruned ∈ gT := g_mem7 (i := 202) (by decide +kernel) rfl
theorem ts_X15_isPruned : Cond.selects RX15 yX15_isPruned yX15_isPruned ∈ gT := g_mem7 (i := 203) (by decide +kernel) rfl
theorem tc_X15_isPruned : Cond.code yX15_isPruned cX15_isPruned 2 (Option.some Jvm.ClassFile.FieldType.boolean) ∈ gT := g_mem7 (i := 204) (by decide +kernel) rfl
theorem tm_X15_347 : Cond.methodLink RX15 347 yX15_isNot ∈ gT := g_mem7 (i := 205) (by decide +kernel) rfl
theorem ti_X15_isNot : Cond.instanceMethod yX15_isNot ∈ gT := g_mem7 (i := 207) (by decide +kernel) rfl
theorem tc_X15_isNot : Cond.code yX15_isNot cX15_isNot 2 (Option.some Jvm.ClassFile.FieldType.boolean) ∈ gT := g_mem7 (i := 208) (by decide +kernel) rfl
theorem tm_L_160 : Cond.methodLink RL 160 yX15_silentBeats ∈ gT := g_mem7 (i := 209) (by decide +kernel) rfl
theorem ti_X15_silentBeats : Cond.instanceMethod yX15_silentBeats ∈ gT := g_mem7 (i := 210) (by decide +kernel) rfl
theorem ts_X15_silentBeats : Cond.selects RX15 yX15_silentBeats yX15_silentBeats ∈ gT := g_mem7 (i := 211) (by decide +kernel) rfl
theorem tc_X15_silentBeats : Cond.code yX15_silentBeats cX15_silentBeats 4 (Option.some Jvm.ClassFile.FieldType.int) ∈ gT := g_mem7 (i := 212) (by decide +kernel) rfl
theorem tm_L_163 : Cond.methodLink RL 163 yX15_distanceBetween ∈ gT := g_mem7 (i := 213) (by decide +kernel) rfl
theorem ti_X15_distanceBetween : Cond.instanceMethod yX15_distanceBetween ∈ gT := g_mem7 (i := 214) (by decide +kernel) rfl
theorem ts_X15_distanceBetween : Cond.selects RX15 yX15_distanceBetween yX15_distanceBetween ∈ gT := g_mem7 (i := 215) (by decide +kernel) rfl
theorem tc_X15_distanceBetween : Cond.code yX15_distanceBetween cX15_distanceBetween 3 (Option.some Jvm.ClassFile.FieldType.int) ∈ gT := g_mem7 (i := 216) (by decide +kernel) rfl
theorem tm_X15_296 : Cond.methodLink RX15 296 yX15_distance ∈ gT := g_mem7 (i := 217) (by decide +kernel) rfl
theorem ti_X15_distance : Cond.instanceMethod yX15_distance ∈ gT := g_mem7 (i := 219) (by decide +kernel) rfl
theorem tc_X15_distance : Cond.code yX15_distance cX15_distance 4 (Option.some Jvm.ClassFile.FieldType.int) ∈ gT := g_mem7 (i := 220) (by decide +kernel) rfl
theorem tm_X15_289 : Cond.methodLink RX15 289 yX15_way ∈ gT := g_mem7 (i := 221) (by decide +kernel) rfl
theorem ti_X15_way : Cond.instanceMethod yX15_way ∈ gT := g_mem7 (i := 223) (by decide +kernel) rfl
theorem tc_X15_way : Cond.code yX15_way cX15_way 12 (Option.some Jvm.ClassFile.FieldType.int) ∈ gT := g_mem7 (i := 224) (by decide +kernel) rfl
theorem tm_X15_281 : Cond.methodLink RX15 281 yJ9_abs_0f7a4 ∈ gT := g_mem7 (i := 225) (by decide +kernel) rfl
theorem tq_X15_284 : Cond.constant RX15 284 (536870912 : Int32) ∈ gT := g_mem7 (i := 226) (by decide +kernel) rfl
theorem tm_X15_285 : Cond.methodLink RX15 285 yX15_cost ∈ gT := g_mem7 (i := 227) (by decide +kernel) rfl
theorem tz_X15_cost : Cond.static yX15_cost ∈ gT := g_mem7 (i := 228) (by decide +kernel) rfl
theorem tc_X15_cost : Cond.code yX15_cost cX15_cost 8 (Option.some Jvm.ClassFile.FieldType.int) ∈ gT := g_mem7 (i := 229) (by decide +kernel) rfl
theorem tm_L_166 : Cond.methodLink RL 166 yX15_contourBetween ∈ gT := g_mem7 (i := 230) (by decide +kernel) rfl
theorem ti_X15_contourBetween : Cond.instanceMethod yX15_contourBetween ∈ gT := g_mem7 (i := 231) (by decide +kernel) rfl
theorem ts_X15_contourBetween : Cond.selects RX15 yX15_contourBetween yX15_contourBetween ∈ gT := g_mem7 (i := 232) (by decide +kernel) rfl
theorem tc_X15_contourBetween : Cond.code yX15_contourBetween cX15_contourBetween 3 (Option.some Jvm.ClassFile.FieldType.int) ∈ gT := g_mem7 (i := 233) (by decide +kernel) rfl
theorem tm_L_169 : Cond.methodLink RL 169 yX15_areNear ∈ gT := g_mem7 (i := 234) (by decide +kernel) rfl
theorem ti_X15_areNear : Cond.instanceMethod yX15_areNear ∈ gT := g_mem7 (i := 235) (by decide +kernel) rfl
theorem ts_X15_areNear : Cond.selects RX15 yX15_areNear yX15_areNear ∈ gT := g_mem7 (i := 236) (by decide +kernel) rfl
theorem tc_X15_areNear : Cond.code yX15_areNear cX15_areNear 3 (Option.some Jvm.ClassFile.FieldType.boolean) ∈ gT := g_mem7 (i := 237) (by decide +kernel) rfl
theorem tm_X15_299 : Cond.methodLink RX15 299 yX15_near ∈ gT := g_mem7 (i := 238) (by decide +kernel) rfl
theorem ti_X15_near : Cond.instanceMethod yX15_near ∈ gT := g_mem8 (i := 0) (by decide +kernel) rfl
theorem tc_X15_near : Cond.code yX15_near cX15_near 4 (Option.some Jvm.ClassFile.FieldType.boolean) ∈ gT := g_mem8 (i := 1) (by decide +kernel) rfl
theorem tm_L_172 : Cond.methodLink RL 172 yX15_nearestTo ∈ gT := g_mem8 (i := 2) (by decide +kernel) rfl
theorem ti_X15_nearestTo : Cond.instanceMethod yX15_nearestTo ∈ gT := g_mem8 (i := 3) (by decide +kernel) rfl
theorem ts_X15_nearestTo : Cond.selects RX15 yX15_nearestTo yX15_nearestTo ∈ gT := g_mem8 (i := 4) (by decide +kernel) rfl
theorem tc_X15_nearestTo : Cond.code yX15_nearestTo cX15_nearestTo 6 (Option.some Jvm.ClassFile.FieldType.int) ∈ gT := g_mem8 (i := 5) (by decide +kernel) rfl
theorem tm_L_175 : Cond.methodLink RL 175 yX15_isNeedless ∈ gT := g_mem8 (i := 6) (by decide +kernel) rfl
theorem ti_X15_isNeedless : Cond.instanceMethod yX15_isNeedless ∈ gT := g_mem8 (i := 7) (by decide +kernel) rfl
theorem ts_X15_isNeedless : Cond.selects RX15 yX15_isNeedless yX15_isNeedless ∈ gT := g_mem8 (i := 8) (by decide +kernel) rfl
theorem tc_X15_isNeedless : Cond.code yX15_isNeedless cX15_isNeedless 2 (Option.some Jvm.ClassFile.FieldType.boolean) ∈ gT := g_mem8 (i := 9) (by decide +kernel) rfl
theorem tm_X15_350 : Cond.methodLink RX15 350 yX15_needless ∈ gT := g_mem8 (i := 10) (by decide +kernel) rfl
theorem ti_X15_needless : Cond.instanceMethod yX15_needless ∈ gT := g_mem8 (i := 12) (by decide +kernel) rfl
theorem tc_X15_needless : Cond.code yX15_needless cX15_needless 3 (Option.some Jvm.ClassFile.FieldType.boolean) ∈ gT := g_mem8 (i := 13) (by decide +kernel) rfl
theorem tm_L_178 : Cond.methodLink RL 178 yX15_heardPitch ∈ gT := g_mem8 (i := 14) (by decide +kernel) rfl
theorem ti_X15_heardPitch : Cond.instanceMethod yX15_heardPitch ∈ gT := g_mem8 (i := 15) (by decide +kernel) rfl
theorem ts_X15_heardPitch : Cond.selects RX15 yX15_heardPitch yX15_heardPitch ∈ gT := g_mem8 (i := 16) (by decide +kernel) rfl
theorem tc_X15_heardPitch : Cond.code yX15_heardPitch cX15_heardPitch 2 (Option.some Jvm.ClassFile.FieldType.int) ∈ gT := g_mem8 (i := 17) (by decide +kernel) rfl
theorem tm_L_181 : Cond.methodLink RL 181 yX15_distanceTo ∈ gT := g_mem8 (i := 18) (by decide +kernel) rfl
theorem ti_X15_distanceTo : Cond.instanceMethod yX15_distanceTo ∈ gT := g_mem8 (i := 19) (by decide +kernel) rfl
theorem ts_X15_distanceTo : Cond.selects RX15 yX15_distanceTo yX15_distanceTo ∈ gT := g_mem8 (i := 20) (by decide +kernel) rfl
theorem tc_X15_distanceTo : Cond.code yX15_distanceTo cX15_distanceTo 2 (Option.some Jvm.ClassFile.FieldType.int) ∈ gT := g_mem8 (i := 21) (by decide +kernel) rfl
theorem tm_X15_353 : Cond.methodLink RX15 353 yX15_isHeard ∈ gT := g_mem8 (i := 22) (by decide +kernel) rfl
theorem ti_X15_isHeard : Cond.instanceMethod yX15_isHeard ∈ gT := g_mem8 (i := 24) (by decide +kernel) rfl
theorem tc_X15_isHeard : Cond.code yX15_isHeard cX15_isHeard 2 (Option.some Jvm.ClassFile.FieldType.boolean) ∈ gT := g_mem8 (i := 25) (by decide +kernel) rfl
theorem tm_L_184 : Cond.methodLink RL 184 yX15_contourTo ∈ gT := g_mem8 (i := 26) (by decide +kernel) rfl
theorem ti_X15_contourTo : Cond.instanceMethod yX15_contourTo ∈ gT := g_mem8 (i := 27) (by decide +kernel) rfl
theorem ts_X15_contourTo : Cond.selects RX15 yX15_contourTo yX15_contourTo ∈ gT := g_mem8 (i := 28) (by decide +kernel) rfl
theorem tc_X15_contourTo : Cond.code yX15_contourTo cX15_contourTo 2 (Option.some Jvm.ClassFile.FieldType.int) ∈ gT := g_mem8 (i := 29) (by decide +kernel) rfl
theorem tm_L_187 : Cond.methodLink RL 187 yX15_stepsTo ∈ gT := g_mem8 (i := 30) (by decide +kernel) rfl
theorem ti_X15_stepsTo : Cond.instanceMethod yX15_stepsTo ∈ gT := g_mem8 (i := 31) (by decide +kernel) rfl
theorem ts_X15_stepsTo : Cond.selects RX15 yX15_stepsTo yX15_stepsTo ∈ gT := g_mem8 (i := 32) (by decide +kernel) rfl
theorem tc_X15_stepsTo : Cond.code yX15_stepsTo cX15_stepsTo 2 (Option.some Jvm.ClassFile.FieldType.int) ∈ gT := g_mem8 (i := 33) (by decide +kernel) rfl
theorem tm_L_191 : Cond.methodLink RL 191 yX15_meantWord ∈ gT := g_mem8 (i := 34) (by decide +kernel) rfl
theorem ti_X15_meantWord : Cond.instanceMethod yX15_meantWord ∈ gT := g_mem8 (i := 35) (by decide +kernel) rfl
theorem ts_X15_meantWord : Cond.selects RX15 yX15_meantWord yX15_meantWord ∈ gT := g_mem8 (i := 36) (by decide +kernel) rfl
theorem tc_X15_meantWord : Cond.code yX15_meantWord cX15_meantWord 2 (Option.some Jvm.ClassFile.FieldType.int) ∈ gT := g_mem8 (i := 37) (by decide +kernel) rfl
theorem tm_X15_310 : Cond.methodLink RX15 310 yX15_meant ∈ gT := g_mem8 (i := 38) (by decide +kernel) rfl
theorem ti_X15_meant : Cond.instanceMethod yX15_meant ∈ gT := g_mem8 (i := 40) (by decide +kernel) rfl
theorem tc_X15_meant : Cond.code yX15_meant cX15_meant 7 (Option.some Jvm.ClassFile.FieldType.int) ∈ gT := g_mem8 (i := 41) (by decide +kernel) rfl
theorem tm_L_194 : Cond.methodLink RL 194 yX15_surety ∈ gT := g_mem8 (i := 42) (by decide +kernel) rfl
theorem ti_X15_surety : Cond.instanceMethod yX15_surety ∈ gT := g_mem8 (i := 43) (by decide +kernel) rfl
theorem ts_X15_surety : Cond.selects RX15 yX15_surety yX15_surety ∈ gT := g_mem8 (i := 44) (by decide +kernel) rfl
theorem tc_X15_surety : Cond.code yX15_surety cX15_surety 3 (Option.some Jvm.ClassFile.FieldType.int) ∈ gT := g_mem8 (i := 45) (by decide +kernel) rfl
theorem tm_L_197 : Cond.methodLink RL 197 yX15_hear ∈ gT := g_mem8 (i := 46) (by decide +kernel) rfl
theorem ti_X15_hear : Cond.instanceMethod yX15_hear ∈ gT := g_mem8 (i := 47) (by decide +kernel) rfl
theorem ts_X15_hear : Cond.selects RX15 yX15_hear yX15_hear ∈ gT := g_mem8 (i := 48) (by decide +kernel) rfl
theorem tc_X15_hear : Cond.code yX15_hear cX15_hear 2 (Option.some Jvm.ClassFile.FieldType.int) ∈ gT := g_mem8 (i := 49) (by decide +kernel) rfl
theorem tm_L_200 : Cond.methodLink RL 200 yX15_hearWord ∈ gT := g_mem8 (i := 50) (by decide +kernel) rfl
theorem ti_X15_hearWord : Cond.instanceMethod yX15_hearWord ∈ gT := g_mem8 (i := 51) (by decide +kernel) rfl
theorem ts_X15_hearWord : Cond.selects RX15 yX15_hearWord yX15_hearWord ∈ gT := g_mem8 (i := 52) (by decide +kernel) rfl
theorem tc_X15_hearWord : Cond.code yX15_hearWord cX15_hearWord 4 (Option.some Jvm.ClassFile.FieldType.int) ∈ gT := g_mem8 (i := 53) (by decide +kernel) rfl
theorem tm_X15_324 : Cond.methodLink RX15 324 yX15_held ∈ gT := g_mem8 (i := 54) (by decide +kernel) rfl
theorem tz_X15_held : Cond.static yX15_held ∈ gT := g_mem8 (i := 55) (by decide +kernel) rfl
theorem tc_X15_held : Cond.code yX15_held cX15_held 2 (Option.some Jvm.ClassFile.FieldType.int) ∈ gT := g_mem8 (i := 56) (by decide +kernel) rfl
theorem tq_X15_317 : Cond.constantLong RX15 317 (40 : Int64) ∈ gT := g_mem8 (i := 57) (by decide +kernel) rfl
theorem tm_X15_319 : Cond.methodLink RX15 319 yJ9_min_f86c9 ∈ gT := g_mem8 (i := 58) (by decide +kernel) rfl
theorem tz_J9_min_f86c9 : Cond.static yJ9_min_f86c9 ∈ gT := g_mem8 (i := 59) (by decide +kernel) rfl
theorem tc_J9_min_f86c9 : Cond.code yJ9_min_f86c9 cJ9_min_f86c9 4 (Option.some Jvm.ClassFile.FieldType.long) ∈ gT := g_mem8 (i := 60) (by decide +kernel) rfl
theorem tm_X15_322 : Cond.methodLink RX15 322 yJ9_max_f86c9 ∈ gT := g_mem8 (i := 61) (by decide +kernel) rfl
theorem tz_J9_max_f86c9 : Cond.static yJ9_max_f86c9 ∈ gT := g_mem8 (i := 62) (by decide +kernel) rfl
theorem tc_J9_max_f86c9 : Cond.code yJ9_max_f86c9 cJ9_max_f86c9 4 (Option.some Jvm.ClassFile.FieldType.long) ∈ gT := g_mem8 (i := 63) (by decide +kernel) rfl
theorem tm_L_204 : Cond.methodLink RL 204 yX15_forget ∈ gT := g_mem8 (i := 64) (by decide +kernel) rfl
theorem ti_X15_forget : Cond.instanceMethod yX15_forget ∈ gT := g_mem8 (i := 65) (by decide +kernel) rfl
theorem ts_X15_forget : Cond.selects RX15 yX15_forget yX15_forget ∈ gT := g_mem8 (i := 66) (by decide +kernel) rfl
theorem tc_X15_forget : Cond.code yX15_forget cX15_forget 2 (Option.some Jvm.ClassFile.FieldType.int) ∈ gT := g_mem8 (i := 67) (by decide +kernel) rfl
theorem tm_L_207 : Cond.methodLink RL 207 yX15_turnPruned ∈ gT := g_mem8 (i := 68) (by decide +kernel) rfl
theorem ti_X15_turnPruned : Cond.instanceMethod yX15_turnPruned ∈ gT := g_mem8 (i := 69) (by decide +kernel) rfl
theorem ts_X15_turnPruned : Cond.selects RX15 yX15_turnPruned yX15_turnPruned ∈ gT := g_mem8 (i := 70) (by decide +kernel) rfl
theorem tc_X15_turnPruned : Cond.code yX15_turnPruned cX15_turnPruned 2 (Option.some Jvm.ClassFile.FieldType.boolean) ∈ gT := g_mem8 (i := 71) (by decide +kernel) rfl
theorem tm_L_211 : Cond.methodLink RL 211 yX15_pruneNeedless ∈ gT := g_mem8 (i := 72) (by decide +kernel) rfl
theorem ti_X15_pruneNeedless : Cond.instanceMethod yX15_pruneNeedless ∈ gT := g_mem8 (i := 73) (by decide +kernel) rfl
theorem ts_X15_pruneNeedless : Cond.selects RX15 yX15_pruneNeedless yX15_pruneNeedless ∈ gT := g_mem8 (i := 74) (by decide +kernel) rfl
theorem tc_X15_pruneNeedless : Cond.code yX15_pruneNeedless cX15_pruneNeedless 3 (Option.some Jvm.ClassFile.FieldType.int) ∈ gT := g_mem8 (i := 75) (by decide +kernel) rfl
theorem tm_L_214 : Cond.methodLink RL 214 yX15_passLessons ∈ gT := g_mem8 (i := 76) (by decide +kernel) rfl
theorem ti_X15_passLessons : Cond.instanceMethod yX15_passLessons ∈ gT := g_mem8 (i := 77) (by decide +kernel) rfl
theorem ts_X15_passLessons : Cond.selects RX15 yX15_passLessons yX15_passLessons ∈ gT := g_mem8 (i := 78) (by decide +kernel) rfl
theorem tc_X15_passLessons : Cond.code yX15_passLessons cX15_passLessons 4 (Option.some Jvm.ClassFile.FieldType.int) ∈ gT := g_mem8 (i := 79) (by decide +kernel) rfl
theorem tm_X15_356 : Cond.methodLink RX15 356 yX15_lesson ∈ gT := g_mem8 (i := 80) (by decide +kernel) rfl
theorem ti_X15_lesson : Cond.instanceMethod yX15_lesson ∈ gT := g_mem8 (i := 82) (by decide +kernel) rfl
theorem tc_X15_lesson : Cond.code yX15_lesson cX15_lesson 4 (Option.some Jvm.ClassFile.FieldType.int) ∈ gT := g_mem8 (i := 83) (by decide +kernel) rfl
theorem tm_X15_334 : Cond.methodLink RX15 334 yX15_carryOut ∈ gT := g_mem8 (i := 84) (by decide +kernel) rfl
theorem ti_X15_carryOut : Cond.instanceMethod yX15_carryOut ∈ gT := g_mem8 (i := 86) (by decide +kernel) rfl
theorem tc_X15_carryOut : Cond.code yX15_carryOut cX15_carryOut 6 (Option.some Jvm.ClassFile.FieldType.boolean) ∈ gT := g_mem8 (i := 87) (by decide +kernel) rfl
theorem tm_X15_327 : Cond.methodLink RX15 327 yX15_reckon ∈ gT := g_mem8 (i := 88) (by decide +kernel) rfl
theorem ti_X15_reckon : Cond.instanceMethod yX15_reckon ∈ gT := g_mem8 (i := 90) (by decide +kernel) rfl
theorem tc_X15_reckon : Cond.code yX15_reckon cX15_reckon 5 (Option.some Jvm.ClassFile.FieldType.int) ∈ gT := g_mem8 (i := 91) (by decide +kernel) rfl
theorem tm_X15_314 : Cond.methodLink RX15 314 yX15_joined ∈ gT := g_mem8 (i := 92) (by decide +kernel) rfl
theorem tz_X15_joined : Cond.static yX15_joined ∈ gT := g_mem8 (i := 93) (by decide +kernel) rfl
theorem tc_X15_joined : Cond.code yX15_joined cX15_joined 3 (Option.some Jvm.ClassFile.FieldType.int) ∈ gT := g_mem8 (i := 94) (by decide +kernel) rfl
theorem tm_X15_331 : Cond.methodLink RX15 331 yX15_isShifted ∈ gT := g_mem8 (i := 95) (by decide +kernel) rfl
theorem ti_X15_isShifted : Cond.instanceMethod yX15_isShifted ∈ gT := g_mem8 (i := 97) (by decide +kernel) rfl
theorem tc_X15_isShifted : Cond.code yX15_isShifted cX15_isShifted 7 (Option.some Jvm.ClassFile.FieldType.boolean) ∈ gT := g_mem8 (i := 98) (by decide +kernel) rfl
theorem tm_L_217 : Cond.methodLink RL 217 yX15_keptAfter ∈ gT := g_mem8 (i := 99) (by decide +kernel) rfl
theorem ti_X15_keptAfter : Cond.instanceMethod yX15_keptAfter ∈ gT := g_mem8 (i := 100) (by decide +kernel) rfl
theorem ts_X15_keptAfter : Cond.selects RX15 yX15_keptAfter yX15_keptAfter ∈ gT := g_mem8 (i := 101) (by decide +kernel) rfl
theorem tc_X15_keptAfter : Cond.code yX15_keptAfter cX15_keptAfter 3 (Option.some Jvm.ClassFile.FieldType.int) ∈ gT := g_mem8 (i := 102) (by decide +kernel) rfl
theorem tm_X15_359 : Cond.methodLink RX15 359 yX13_become ∈ gT := g_mem8 (i := 103) (by decide +kernel) rfl
theorem ti_X13_become : Cond.instanceMethod yX13_become ∈ gT := g_mem8 (i := 104) (by decide +kernel) rfl
theorem ts_X13_become : Cond.selects RX13 yX13_become yX13_become ∈ gT := g_mem8 (i := 105) (by decide +kernel) rfl
theorem tc_X13_become : Cond.code yX13_become cX13_become 2 (Option.none : Option Jvm.ClassFile.FieldType) ∈ gT := g_mem8 (i := 106) (by decide +kernel) rfl
theorem tm_L_220 : Cond.methodLink RL 220 yX15_lessonsUntilMeant ∈ gT := g_mem8 (i := 107) (by decide +kernel) rfl
theorem ti_X15_lessonsUntilMeant : Cond.instanceMethod yX15_lessonsUntilMeant ∈ gT := g_mem8 (i := 108) (by decide +kernel) rfl
theorem ts_X15_lessonsUntilMeant : Cond.selects RX15 yX15_lessonsUntilMeant yX15_lessonsUntilMeant ∈ gT := g_mem8 (i := 109) (by decide +kernel) rfl
theorem tc_X15_lessonsUntilMeant : Cond.code yX15_lessonsUntilMeant cX15_lessonsUntilMeant 3 (Option.some Jvm.ClassFile.FieldType.int) ∈ gT := g_mem8 (i := 110) (by decide +kernel) rfl
theorem tm_L_223 : Cond.methodLink RL 223 yX15_bestShift ∈ gT := g_mem8 (i := 111) (by decide +kernel) rfl
theorem ti_X15_bestShift : Cond.instanceMethod yX15_bestShift ∈ gT := g_mem8 (i := 112) (by decide +kernel) rfl
theorem ts_X15_bestShift : Cond.selects RX15 yX15_bestShift yX15_bestShift ∈ gT := g_mem8 (i := 113) (by decide +kernel) rfl
theorem tc_X15_bestShift : Cond.code yX15_bestShift cX15_bestShift 7 (Option.some Jvm.ClassFile.FieldType.int) ∈ gT := g_mem8 (i := 114) (by decide +kernel) rfl
theorem tm_L_228 : Cond.methodLink RL 228 yX15_meanLength ∈ gT := g_mem8 (i := 115) (by decide +kernel) rfl
theorem ti_X15_meanLength : Cond.instanceMethod yX15_meanLength ∈ gT := g_mem8 (i := 116) (by decide +kernel) rfl
theorem ts_X15_meanLength : Cond.selects RX15 yX15_meanLength yX15_meanLength ∈ gT := g_mem8 (i := 117) (by decide +kernel) rfl
theorem tc_X15_meanLength : Cond.code yX15_meanLength cX15_meanLength 3 (Option.some Jvm.ClassFile.FieldType.double) ∈ gT := g_mem8 (i := 118) (by decide +kernel) rfl
theorem tm_L_233 : Cond.methodLink RL 233 yX15_digest ∈ gT := g_mem8 (i := 119) (by decide +kernel) rfl
theorem ti_X15_digest : Cond.instanceMethod yX15_digest ∈ gT := g_mem8 (i := 120) (by decide +kernel) rfl
theorem ts_X15_digest : Cond.selects RX15 yX15_digest yX15_digest ∈ gT := g_mem8 (i := 121) (by decide +kernel) rfl
theorem tc_X15_digest : Cond.code yX15_digest cX15_digest 8 (Option.some Jvm.ClassFile.FieldType.long) ∈ gT := g_mem8 (i := 122) (by decide +kernel) rfl
theorem tq_X15_362 : Cond.constantLong RX15 362 (1019 : Int64) ∈ gT := g_mem8 (i := 123) (by decide +kernel) rfl
theorem tq_X15_364 : Cond.constantLong RX15 364 (31 : Int64) ∈ gT := g_mem8 (i := 124) (by decide +kernel) rfl
theorem tr_long : Cond.arrayClass Jvm.ClassFile.FieldType.long ∈ gT := g_mem8 (i := 125) (by decide +kernel) rfl
theorem tfN_X8_85 : Cond.fieldLinkNest RX8 85 "GlideWhistles$Sign" "text" "Ljava/lang/String;" "GlideWhistles" ∈ gN := g_nem8 (i := 127) (by decide +kernel) rfl
theorem tf_J0_9 : Cond.fieldLink RJ0 9 "java/lang/String" "value" "[B" ∈ gT := g_mem8 (i := 128) (by decide +kernel) rfl
theorem tf_J0_15 : Cond.fieldLink RJ0 15 "java/lang/String" "coder" "B" ∈ gT := g_mem8 (i := 129) (by decide +kernel) rfl
theorem tf_Jx29ce0_7 : Cond.fieldLink RJx29ce0 7 "java/lang/Enum" "ordinal" "I" ∈ gT := g_mem8 (i := 130) (by decide +kernel) rfl
theorem ts_X8_readToken : Cond.selects RX8 yX8_readToken yX8_readToken ∈ gT := g_mem0 (i := 0) (by decide +kernel) rfl
theorem ts_X8_add : Cond.selects RX8 yX8_add yX8_add ∈ gT := g_mem0 (i := 1) (by decide +kernel) rfl
theorem ts_X8_readWord : Cond.selects RX8 yX8_readWord yX8_readWord ∈ gT := g_mem0 (i := 2) (by decide +kernel) rfl
theorem ts_X8_longestSpelled : Cond.selects RX8 yX8_longestSpelled yX8_longestSpelled ∈ gT := g_mem0 (i := 3) (by decide +kernel) rfl
theorem ts_X8_firstAlike : Cond.selects RX8 yX8_firstAlike yX8_firstAlike ∈ gT := g_mem0 (i := 4) (by decide +kernel) rfl
theorem ts_X8_readNumber : Cond.selects RX8 yX8_readNumber yX8_readNumber ∈ gT := g_mem0 (i := 5) (by decide +kernel) rfl
theorem ts_X8_readSymbol : Cond.selects RX8 yX8_readSymbol yX8_readSymbol ∈ gT := g_mem0 (i := 6) (by decide +kernel) rfl
theorem ts_X2_step : Cond.selects RX2 yX2_step yX2_step ∈ gT := g_mem0 (i := 7) (by decide +kernel) rfl
theorem ts_X2_readWord : Cond.selects RX2 yX2_readWord yX2_readWord ∈ gT := g_mem0 (i := 8) (by decide +kernel) rfl
theorem ts_X2_readNewName : Cond.selects RX2 yX2_readNewName yX2_readNewName ∈ gT := g_mem0 (i := 9) (by decide +kernel) rfl
theorem ts_X2_refuse : Cond.selects RX2 yX2_refuse yX2_refuse ∈ gT := g_mem0 (i := 10) (by decide +kernel) rfl
theorem ts_X2_wordCalled : Cond.selects RX2 yX2_wordCalled yX2_wordCalled ∈ gT := g_mem0 (i := 11) (by decide +kernel) rfl
theorem ts_X2_blame : Cond.selects RX2 yX2_blame yX2_blame ∈ gT := g_mem0 (i := 12) (by decide +kernel) rfl
theorem ts_X2_expect : Cond.selects RX2 yX2_expect yX2_expect ∈ gT := g_mem0 (i := 13) (by decide +kernel) rfl
theorem ts_X2_readPart : Cond.selects RX2 yX2_readPart yX2_readPart ∈ gT := g_mem0 (i := 14) (by decide +kernel) rfl
theorem ts_X2_readNumber : Cond.selects RX2 yX2_readNumber yX2_readNumber ∈ gT := g_mem0 (i := 15) (by decide +kernel) rfl
theorem ts_X2_readRule : Cond.selects RX2 yX2_readRule yX2_readRule ∈ gT := g_mem0 (i := 16) (by decide +kernel) rfl
theorem ts_X2_readKnownName : Cond.selects RX2 yX2_readKnownName yX2_readKnownName ∈ gT := g_mem0 (i := 17) (by decide +kernel) rfl
theorem ts_X2_readSum : Cond.selects RX2 yX2_readSum yX2_readSum ∈ gT := g_mem0 (i := 18) (by decide +kernel) rfl
theorem ts_X2_readProduct : Cond.selects RX2 yX2_readProduct yX2_readProduct ∈ gT := g_mem0 (i := 19) (by decide +kernel) rfl
theorem ts_X2_readValue : Cond.selects RX2 yX2_readValue yX2_readValue ∈ gT := g_mem0 (i := 20) (by decide +kernel) rfl
theorem ts_X2_requireDepth : Cond.selects RX2 yX2_requireDepth yX2_requireDepth ∈ gT := g_mem0 (i := 21) (by decide +kernel) rfl
theorem ts_X2_readChoice : Cond.selects RX2 yX2_readChoice yX2_readChoice ∈ gT := g_mem0 (i := 22) (by decide +kernel) rfl
theorem ts_X2_readTest : Cond.selects RX2 yX2_readTest yX2_readTest ∈ gT := g_mem0 (i := 23) (by decide +kernel) rfl
theorem ts_X2_readBoth : Cond.selects RX2 yX2_readBoth yX2_readBoth ∈ gT := g_mem0 (i := 24) (by decide +kernel) rfl
theorem ts_X2_readSingle : Cond.selects RX2 yX2_readSingle yX2_readSingle ∈ gT := g_mem0 (i := 25) (by decide +kernel) rfl
theorem ts_X2_isComparison : Cond.selects RX2 yX2_isComparison yX2_isComparison ∈ gT := g_mem0 (i := 26) (by decide +kernel) rfl
theorem ts_X12_beginAnew : Cond.selects RX12 yX12_beginAnew yX12_beginAnew ∈ gT := g_mem0 (i := 27) (by decide +kernel) rfl
theorem ts_X1_measure : Cond.selects RX1 yX1_measure yX1_measure ∈ gT := g_mem0 (i := 28) (by decide +kernel) rfl
theorem ts_X10_lightest : Cond.selects RX10 yX10_lightest yX10_lightest ∈ gT := g_mem0 (i := 29) (by decide +kernel) rfl
theorem ts_X12_needless : Cond.selects RX12 yX12_needless yX12_needless ∈ gT := g_mem0 (i := 30) (by decide +kernel) rfl
theorem ts_X12_nearEachOther : Cond.selects RX12 yX12_nearEachOther yX12_nearEachOther ∈ gT := g_mem0 (i := 31) (by decide +kernel) rfl
theorem ts_X12_rowOf : Cond.selects RX12 yX12_rowOf yX12_rowOf ∈ gT := g_mem0 (i := 32) (by decide +kernel) rfl
theorem ts_X12_wordsApart : Cond.selects RX12 yX12_wordsApart yX12_wordsApart ∈ gT := g_mem0 (i := 33) (by decide +kernel) rfl
theorem ts_X12_digestOfWord : Cond.selects RX12 yX12_digestOfWord yX12_digestOfWord ∈ gT := g_mem0 (i := 34) (by decide +kernel) rfl
theorem ts_X12_requireWord : Cond.selects RX12 yX12_requireWord yX12_requireWord ∈ gT := g_mem0 (i := 36) (by decide +kernel) rfl
theorem ts_X12_requireSomeHeard : Cond.selects RX12 yX12_requireSomeHeard yX12_requireSomeHeard ∈ gT := g_mem0 (i := 37) (by decide +kernel) rfl
theorem ts_X1_holds : Cond.selects RX1 yX1_holds yX1_holds ∈ gT := g_mem0 (i := 38) (by decide +kernel) rfl
theorem ts_X1_reckon : Cond.selects RX1 yX1_reckon yX1_reckon ∈ gT := g_mem0 (i := 39) (by decide +kernel) rfl
theorem ts_X1_pop : Cond.selects RX1 yX1_pop yX1_pop ∈ gT := g_mem0 (i := 40) (by decide +kernel) rfl
theorem ts_X1_push : Cond.selects RX1 yX1_push yX1_push ∈ gT := g_mem0 (i := 41) (by decide +kernel) rfl
theorem ts_X1_found : Cond.selects RX1 yX1_found yX1_found ∈ gT := g_mem0 (i := 42) (by decide +kernel) rfl
theorem ts_X1_changes : Cond.selects RX1 yX1_changes yX1_changes ∈ gT := g_mem0 (i := 43) (by decide +kernel) rfl
theorem ts_X12_distanceIfShifted : Cond.selects RX12 yX12_distanceIfShifted yX12_distanceIfShifted ∈ gT := g_mem0 (i := 44) (by decide +kernel) rfl
theorem ts_X15_no : Cond.selects RX15 yX15_no yX15_no ∈ gT := g_mem0 (i := 45) (by decide +kernel) rfl
theorem ts_X15_readAll : Cond.selects RX15 yX15_readAll yX15_readAll ∈ gT := g_mem0 (i := 46) (by decide +kernel) rfl
theorem ts_X15_skip : Cond.selects RX15 yX15_skip yX15_skip ∈ gT := g_mem0 (i := 47) (by decide +kernel) rfl
theorem ts_X15_byteAt : Cond.selects RX15 yX15_byteAt yX15_byteAt ∈ gT := g_mem0 (i := 48) (by decide +kernel) rfl
theorem ts_X15_read : Cond.selects RX15 yX15_read yX15_read ∈ gT := g_mem0 (i := 49) (by decide +kernel) rfl
theorem ts_X15_keyword : Cond.selects RX15 yX15_keyword yX15_keyword ∈ gT := g_mem0 (i := 50) (by decide +kernel) rfl
theorem ts_X15_isWord : Cond.selects RX15 yX15_isWord yX15_isWord ∈ gT := g_mem0 (i := 51) (by decide +kernel) rfl
theorem ts_X15_line : Cond.selects RX15 yX15_line yX15_line ∈ gT := g_mem0 (i := 52) (by decide +kernel) rfl
theorem ts_X15_takes : Cond.selects RX15 yX15_takes yX15_takes ∈ gT := g_mem0 (i := 53) (by decide +kernel) rfl
theorem ts_X15_is : Cond.selects RX15 yX15_is yX15_is ∈ gT := g_mem0 (i := 54) (by decide +kernel) rfl
theorem ts_X15_word : Cond.selects RX15 yX15_word yX15_word ∈ gT := g_mem0 (i := 55) (by decide +kernel) rfl
theorem ts_X15_known : Cond.selects RX15 yX15_known yX15_known ∈ gT := g_mem0 (i := 56) (by decide +kernel) rfl
theorem ts_X15_isSameName : Cond.selects RX15 yX15_isSameName yX15_isSameName ∈ gT := g_mem0 (i := 57) (by decide +kernel) rfl
theorem ts_X15_mark : Cond.selects RX15 yX15_mark yX15_mark ∈ gT := g_mem0 (i := 58) (by decide +kernel) rfl
theorem ts_X15_take : Cond.selects RX15 yX15_take yX15_take ∈ gT := g_mem0 (i := 59) (by decide +kernel) rfl
theorem ts_X15_wrong : Cond.selects RX15 yX15_wrong yX15_wrong ∈ gT := g_mem0 (i := 60) (by decide +kernel) rfl
theorem ts_X15_part : Cond.selects RX15 yX15_part yX15_part ∈ gT := g_mem0 (i := 61) (by decide +kernel) rfl
theorem ts_X15_numberIn : Cond.selects RX15 yX15_numberIn yX15_numberIn ∈ gT := g_mem0 (i := 62) (by decide +kernel) rfl
theorem ts_X15_rule : Cond.selects RX15 yX15_rule yX15_rule ∈ gT := g_mem0 (i := 63) (by decide +kernel) rfl
theorem ts_X15_name : Cond.selects RX15 yX15_name yX15_name ∈ gT := g_mem0 (i := 64) (by decide +kernel) rfl
theorem ts_X15_sum : Cond.selects RX15 yX15_sum yX15_sum ∈ gT := g_mem0 (i := 65) (by decide +kernel) rfl
theorem ts_X15_product : Cond.selects RX15 yX15_product yX15_product ∈ gT := g_mem0 (i := 66) (by decide +kernel) rfl
theorem ts_X15_value : Cond.selects RX15 yX15_value yX15_value ∈ gT := g_mem0 (i := 67) (by decide +kernel) rfl
theorem ts_X15_node : Cond.selects RX15 yX15_node yX15_node ∈ gT := g_mem0 (i := 68) (by decide +kernel) rfl
theorem ts_X15_ofTwo : Cond.selects RX15 yX15_ofTwo yX15_ofTwo ∈ gT := g_mem0 (i := 69) (by decide +kernel) rfl
theorem ts_X15_deeper : Cond.selects RX15 yX15_deeper yX15_deeper ∈ gT := g_mem0 (i := 70) (by decide +kernel) rfl
theorem ts_X15_inBrackets : Cond.selects RX15 yX15_inBrackets yX15_inBrackets ∈ gT := g_mem0 (i := 71) (by decide +kernel) rfl
theorem ts_X15_test : Cond.selects RX15 yX15_test yX15_test ∈ gT := g_mem0 (i := 72) (by decide +kernel) rfl
theorem ts_X15_both : Cond.selects RX15 yX15_both yX15_both ∈ gT := g_mem0 (i := 73) (by decide +kernel) rfl
theorem ts_X15_single : Cond.selects RX15 yX15_single yX15_single ∈ gT := g_mem0 (i := 74) (by decide +kernel) rfl
theorem ts_X15_comparison : Cond.selects RX15 yX15_comparison yX15_comparison ∈ gT := g_mem0 (i := 75) (by decide +kernel) rfl
theorem ts_X15_ok : Cond.selects RX15 yX15_ok yX15_ok ∈ gT := g_mem0 (i := 76) (by decide +kernel) rfl
theorem ts_X15_kept : Cond.selects RX15 yX15_kept yX15_kept ∈ gT := g_mem0 (i := 77) (by decide +kernel) rfl
theorem ts_X15_isTold : Cond.selects RX15 yX15_isTold yX15_isTold ∈ gT := g_mem0 (i := 78) (by decide +kernel) rfl
theorem ts_X15_isBeat : Cond.selects RX15 yX15_isBeat yX15_isBeat ∈ gT := g_mem0 (i := 79) (by decide +kernel) rfl
theorem ts_X15_isNot : Cond.selects RX15 yX15_isNot yX15_isNot ∈ gT := g_mem0 (i := 80) (by decide +kernel) rfl
theorem ts_X15_distance : Cond.selects RX15 yX15_distance yX15_distance ∈ gT := g_mem0 (i := 81) (by decide +kernel) rfl
theorem ts_X15_way : Cond.selects RX15 yX15_way yX15_way ∈ gT := g_mem0 (i := 82) (by decide +kernel) rfl
theorem ts_X15_near : Cond.selects RX15 yX15_near yX15_near ∈ gT := g_mem0 (i := 83) (by decide +kernel) rfl
theorem ts_X15_needless : Cond.selects RX15 yX15_needless yX15_needless ∈ gT := g_mem0 (i := 84) (by decide +kernel) rfl
theorem ts_X15_isHeard : Cond.selects RX15 yX15_isHeard yX15_isHeard ∈ gT := g_mem0 (i := 85) (by decide +kernel) rfl
theorem ts_X15_meant : Cond.selects RX15 yX15_meant yX15_meant ∈ gT := g_mem0 (i := 86) (by decide +kernel) rfl
theorem ts_X15_lesson : Cond.selects RX15 yX15_lesson yX15_lesson ∈ gT := g_mem0 (i := 87) (by decide +kernel) rfl
theorem ts_X15_carryOut : Cond.selects RX15 yX15_carryOut yX15_carryOut ∈ gT := g_mem0 (i := 88) (by decide +kernel) rfl
theorem ts_X15_reckon : Cond.selects RX15 yX15_reckon yX15_reckon ∈ gT := g_mem0 (i := 89) (by decide +kernel) rfl
theorem ts_X15_isShifted : Cond.selects RX15 yX15_isShifted yX15_isShifted ∈ gT := g_mem0 (i := 90) (by decide +kernel) rfl
theorem tu_X1 : ∀ w ∈ u_ws RX1 TX1 4, w ∈ gT := by decide +kernel
theorem tu_X2 : ∀ w ∈ u_ws RX2 TX2 10, w ∈ gT := by decide +kernel
theorem tu_X3 : ∀ w ∈ u_ws RX3 TX3 2, w ∈ gT := by decide +kernel
theorem tu_X4 : ∀ w ∈ u_ws RX4 TX4 5, w ∈ gT := by decide +kernel
theorem tu_X5 : ∀ w ∈ u_ws RX5 TX5 8, w ∈ gT := by decide +kernel
theorem tu_X7 : ∀ w ∈ u_ws RX7 TX7 2, w ∈ gT := by decide +kernel
theorem tu_X8 : ∀ w ∈ u_ws RX8 TX8 6, w ∈ gT := by decide +kernel
theorem tu_X9 : ∀ w ∈ u_ws RX9 TX9 5, w ∈ gT := by decide +kernel
theorem tu_X10 : ∀ w ∈ u_ws RX10 TX10 3, w ∈ gT := by decide +kernel
theorem tu_X11 : ∀ w ∈ u_ws RX11 TX11 3, w ∈ gT := by decide +kernel
theorem tu_X12 : ∀ w ∈ u_ws RX12 TX12 11, w ∈ gT := by decide +kernel
theorem tu_X13 : ∀ w ∈ u_ws RX13 TX13 5, w ∈ gT := by decide +kernel
theorem tu_X14 : ∀ w ∈ u_ws RX14 TX14 16, w ∈ gT := by decide +kernel
theorem tu_X15 : ∀ w ∈ u_ws RX15 TX15 20, w ∈ gT := by decide +kernel
