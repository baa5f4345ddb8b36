/-! the start: what the premises say of the constants of the class files, by their places in the premises (laid by program: wip/whole/gen/gconst.py) -/
def gz_fl : List Cond := flatC (Jvm.Cond.and given_1 narrow_1)
def gz_pe : List Nat := [75, 78, 81, 93, 84, 87, 90, 99, 102, 7, 105, 108, 111, 156, 141, 144, 132, 135, 138, 168, 171, 159, 189, 192, 126, 129, 120, 123, 162, 165, 195, 96, 153, 114, 147, 150, 174, 177, 180, 183, 186, 69, 72, 117, 4, 10]
def gz_pl : List Nat := [504, 535, 546, 559, 553, 555, 557, 577, 579, 155, 586, 588, 594, 648, 638, 640, 632, 634, 636, 668, 670, 662, 686, 688, 624, 626, 620, 622, 664, 666, 698, 575, 646, 608, 642, 644, 676, 678, 680, 682, 684, 408, 435, 614, 65, 335]
def gz_sk : List Nat := [166, 172, 175, 178, 181, 184, 187, 190, 193, 196, 199, 202, 205, 208, 211, 214, 217, 220, 223, 226, 229, 232, 235, 238, 241, 244, 247, 250, 253, 256, 259, 262, 265, 268, 271, 274, 277, 280, 283, 286, 289, 292, 292, 292, 292, 292]
def gz_tk : List Nat := [366, 367, 368, 370, 372, 374, 375, 377, 378, 379, 381, 383, 385, 387, 389, 390, 391, 392, 393, 395, 397, 398, 400, 402, 404, 405]
def gz_pk : List Nat := [686, 694, 700, 731, 708, 717, 723, 743, 751, 677, 759, 770, 779, 875, 842, 852, 814, 826, 836, 900, 909, 883, 946, 953, 800, 807, 790, 795, 890, 895, 959, 738, 870, 785, 860, 865, 919, 924, 929, 934, 940, 673, 673, 673, 673, 673, 964, 973, 980, 989, 997, 1007, 1014, 1023, 1032, 1041, 1051, 1063, 1073, 1080, 1089, 1100, 1109, 1122, 1133, 1140, 1150, 1161, 1169, 1177, 1184, 1192]
def gz_pm : List Nat := [386, 416, 497, 565, 591, 621, 447, 472, 523, 544, 650]
def gz_pt : List Nat := [871, 919, 1032, 1103, 1104, 1113, 947, 964, 1058, 1087, 1140]
def gz_sg (i : Nat) : Term := .static RX6 (g_nm.getD i "") "LGlideWhistles$Sign;"
def gz_tm (i : Nat) : Term := if i < 46 then .string RX6 (gz_sk.getD i 0) else .string RX15 (gz_tk.getD (i - 46) 0)
abbrev gz_SI : Term := .static RX12 "SIGNS" "[LGlideWhistles$Sign;"
abbrev gz_SM : Term := .static RX0 "$SwitchMap$GlideWhistles$Sign" "[I"
abbrev gz_TO : Term := .static RX15 "TOLD" "[Ljava/lang/String;"
theorem gz_c1 : ∀ i, i < 46 → gz_fl[gz_pe.getD i 0]? = some (.exactly (gz_sg i) RX6) := by decide +kernel
theorem gz_c2 : ∀ i, i < 46 → gz_fl[gz_pe.getD i 0 + 1]? = some (.eq (.field (gz_sg i) "java/lang/Enum" "ordinal" "I") (.int (nI i))) := by decide +kernel
theorem gz_c3 : ∀ i, i < 46 → gz_fl[gz_pe.getD i 0 + 2]? = some (.eq (.field (gz_sg i) RX6 "text" "Ljava/lang/String;") (gz_tm i)) := by decide +kernel
theorem gz_c4 : ∀ i, i < 46 → tables_1[gz_pl.getD i 0]? = some (.laysStatic RX6 (g_nm.getD i "") "LGlideWhistles$Sign;") := by decide +kernel
theorem gz_c5 : ∀ i, i < 46 → gz_fl[18 + i]? = some (.eq (.elem gz_SI (.int (Int32.ofNat i))) (gz_sg i)) := by decide +kernel
theorem gz_c6 : ∀ i, i < 46 → gz_fl[203 + i]? = some (.eq (.elem gz_SM (.int (Int32.ofNat i))) (.int (g_sm.getD i 0))) := by decide +kernel
theorem gz_c7 : ∀ i, i < 26 → gz_fl[252 + i]? = some (.eq (.elem gz_TO (.int (Int32.ofNat i))) (gz_tm (46 + i))) := by decide +kernel
theorem gz_k1 : ∀ i, i < 72 → gz_fl[gz_pk.getD i 0]? = some (.exactly (gz_tm i) "java/lang/String") := by decide +kernel
theorem gz_k2 : ∀ i, i < 72 → gz_fl[gz_pk.getD i 0 + 1]? = some (.eq (.field (gz_tm i) "java/lang/String" "coder" "B") (.int 0)) := by decide +kernel
theorem gz_k3 : ∀ i, i < 72 → gz_fl[gz_pk.getD i 0 + 2]? = some (.arrayOf (.field (gz_tm i) "java/lang/String" "value" "[B") .byte) := by decide +kernel
theorem gz_k4 : ∀ i, i < 72 → gz_fl[gz_pk.getD i 0 + 3]? = some (.eq (.length (.field (gz_tm i) "java/lang/String" "value" "[B")) (.int (Int32.ofNat (g_len.getD i 0)))) := by decide +kernel
theorem gz_k5 : ∀ i, i < 72 → ∀ j, j < g_len.getD i 0 → gz_fl[gz_pk.getD i 0 + 4 + j]? = some (.eq (.elem (.field (gz_tm i) "java/lang/String" "value" "[B") (.int (Int32.ofNat j))) (.int ((g_byt.getD i []).getD j 0))) := by decide +kernel
theorem gz_k6 : ∀ i, i < 72 → g_len.getD i 0 < 2 ^ 31 := by decide +kernel
theorem gz_m1 : ∀ i, i < 11 → gz_fl[gz_pm.getD i 0]? = some (.exactly (.string RX12 (g_ms.getD i ("", 0, "")).2.1) "java/lang/String") := by decide +kernel
theorem gz_m2 : ∀ i, i < 11 → tables_1[gz_pt.getD i 0]? = some (.stringRef RX12 (g_ms.getD i ("", 0, "")).2.1 (g_ms.getD i ("", 0, "")).2.2) := by decide +kernel
theorem gz_m3 : ∀ i, i < 11 → (g_ms.getD i ("", 0, "")).1 = RX12 := by decide +kernel
theorem gz_p0 : gz_fl[15]? = some (.arrayOf gz_SI (.object RX6)) := by decide +kernel
theorem gz_p1 : gz_fl[16]? = some (.eq (.length gz_SI) (.int (Int32.ofNat 46))) := by decide +kernel
theorem gz_p2 : gz_fl[201]? = some (.arrayOf gz_SM .int) := by decide +kernel
theorem gz_p3 : gz_fl[202]? = some (.eq (.length gz_SM) (.int (Int32.ofNat 46))) := by decide +kernel
theorem gz_p4 : gz_fl[250]? = some (.arrayOf gz_TO (.object "java/lang/String")) := by decide +kernel
theorem gz_p5 : gz_fl[251]? = some (.eq (.length gz_TO) (.int (Int32.ofNat 26))) := by decide +kernel
theorem gz_p6 : gz_fl[198]? = some (.isRef (.static Bundle.tN "UNASSIGNED_STACK" Bundle.steD)) := by decide +kernel
theorem gz_p7 : gz_fl[199]? = some (.isRef (.static Bundle.tN "SUPPRESSED_SENTINEL" Bundle.listD)) := by decide +kernel
theorem gz_p8 : gz_fl[64]? = some (.eq (.static "java/lang/String" "COMPACT_STRINGS" "Z") (.int 1)) := by decide +kernel
theorem gz_p9 : gz_fl[65]? = some (.isRef (.static "jdk/internal/util/Preconditions" "SIOOBE_FORMATTER" "Ljava/util/function/BiFunction;")) := by decide +kernel
theorem gz_p10 : gz_fl[326]? = some (.not (.castable g_ISE g_IOB)) := by decide +kernel
theorem gz_p11 : gz_fl[309]? = some (.not (.castable g_ISE g_IAE)) := by decide +kernel
theorem gz_p12 : gz_fl[327]? = some (.not (.castable g_IAE g_IOB)) := by decide +kernel
theorem gz_l0 : tables_1[353]? = some (.laysStatic RX12 "SIGNS" "[LGlideWhistles$Sign;") := by decide +kernel
theorem gz_l1 : tables_1[1172]? = some (.laysStatic RX0 "$SwitchMap$GlideWhistles$Sign" "[I") := by decide +kernel
theorem gz_l2 : tables_1[1466]? = some (.laysStatic RX15 "TOLD" "[Ljava/lang/String;") := by decide +kernel
theorem gz_l3 : tables_1[857]? = some (.laysStatic Bundle.tN "UNASSIGNED_STACK" Bundle.steD) := by decide +kernel
theorem gz_l4 : tables_1[859]? = some (.laysStatic Bundle.tN "SUPPRESSED_SENTINEL" Bundle.listD) := by decide +kernel
theorem gz_l5 : tables_1[363]? = some (.laysStatic "java/lang/String" "COMPACT_STRINGS" "Z") := by decide +kernel
theorem gz_l6 : tables_1[384]? = some (.laysStatic "jdk/internal/util/Preconditions" "SIOOBE_FORMATTER" "Ljava/util/function/BiFunction;") := by decide +kernel
theorem gz_l7 : tables_1[63]? = some (.arrayOver (.object RX6)) := by decide +kernel
theorem gz_l8 : tables_1[148]? = some (.arrayOver (.object RX4)) := by decide +kernel
theorem gz_l9 : tables_1[225]? = some (.arrayOver (.object RX11)) := by decide +kernel
theorem gz_ok {args : Array Value} {s : State} (h : (Jvm.Cond.and given_1 narrow_1).before args s = true) {k : Nat} {w : Cond} (hk : gz_fl[k]? = some w) : w.before args s = true := flat_of_before _ h _ (List.mem_of_getElem? hk)
theorem gz_tb {args : Array Value} {s : State} (h : ∀ w ∈ lw_tbl, w.before args s = true) {k : Nat} {w : Cond} (hk : tables_1[k]? = some w) : w.before args s = true := h _ (List.mem_append_right _ (List.mem_of_getElem? hk))
theorem gz_gT {args : Array Value} {s : State} (h : ∀ w ∈ lw_tbl, w.before args s = true) : ∀ w ∈ gT, w.before args s = true := fun w hw => h w (List.mem_filter.mp hw).1
theorem gz_texts {args : Array Value} {s : State} {A : Nat → Prop} (h : (Jvm.Cond.and given_1 narrow_1).before args s = true) (hA : ∀ a : Nat, a < s.heap.size → ¬ A a) : ∃ sK sV : Nat → Nat, ∀ i, i < 72 → (gz_tm i).eval args s none [] s = some (.ref (sK i)) ∧ va_O "java/lang/String" (sK i) A s s.heap ∧ va_OF "java/lang/String" "coder" "B" (.int 0) (sK i) A s s.heap ∧ va_OF "java/lang/String" "value" "[B" (.ref (sV i)) (sK i) A s s.heap ∧ va_T .byte (sV i) (g_len.getD i 0) (fun j => .int ((g_byt.getD i []).getD j 0)) A s s.heap := by
  have h0 : ∀ i : Nat, ∃ q : Nat × Nat, i < 72 → (gz_tm i).eval args s none [] s = some (.ref q.1) ∧ va_O "java/lang/String" q.1 A s s.heap ∧ va_OF "java/lang/String" "coder" "B" (.int 0) q.1 A s s.heap ∧ va_OF "java/lang/String" "value" "[B" (.ref q.2) q.1 A s s.heap ∧ va_T .byte q.2 (g_len.getD i 0) (fun j => .int ((g_byt.getD i []).getD j 0)) A s s.heap := by
    intro i
    by_cases hi : i < 72
    · obtain ⟨a, c, cA, kA, q1, -⟩ := Cond.exactly_spec (args := args) (first := s) (o := none) (s := s) (idx := []) (t := gz_tm i) (cls := "java/lang/String") (gz_ok h (gz_k1 i hi))
      obtain ⟨t, ht, hT⟩ := va_Tof (f := fun j => .int ((g_byt.getD i []).getD j 0)) (A := A) (gz_k6 i hi) (gz_ok h (gz_k3 i hi)) (va_eqt (gz_ok h (gz_k4 i hi))) (fun j hj => va_eqt (gz_ok h (gz_k5 i hi j hj))) hA
      exact ⟨(a, t), fun _ => ⟨q1, va_Oof (gz_ok h (gz_k1 i hi)) q1 hA, vk_OFof q1 (va_eqt (gz_ok h (gz_k2 i hi))) hA, vk_OFof q1 ht hA, hT⟩⟩
    · exact ⟨(0, 0), fun h => absurd h hi⟩
  obtain ⟨ad, had⟩ := Classical.axiomOfChoice h0
  exact ⟨fun i => (ad i).1, fun i => (ad i).2, had⟩
theorem gz_signs {args : Array Value} {s : State} {A : Nat → Prop} {sK : Nat → Nat} (h : (Jvm.Cond.and given_1 narrow_1).before args s = true) (hts : ∀ w ∈ lw_tbl, w.before args s = true) (hA : ∀ a : Nat, a < s.heap.size → ¬ A a) (hK : ∀ i, i < 72 → (gz_tm i).eval args s none [] s = some (.ref (sK i))) : ∃ sg : Nat → Nat, (∀ i j, sg i = sg j → i = j) ∧ (∀ i, i < 46 → (gz_sg i).eval args s none [] s = some (.ref (sg i))) ∧ ∀ i, i < 46 → va_Z RX6 (g_nm.getD i "") "LGlideWhistles$Sign;" (.ref (sg i)) A s s.heap ∧ va_O RX6 (sg i) A s s.heap ∧ va_OF "java/lang/Enum" "ordinal" "I" (.int (nI i)) (sg i) A s s.heap ∧ va_OF RX6 "text" "Ljava/lang/String;" (.ref (sK i)) (sg i) A s s.heap := by
  have h0 : ∀ i : Nat, ∃ t : Nat, (i < 46 → (gz_sg i).eval args s none [] s = some (.ref t)) ∧ (¬ i < 46 → t = s.heap.size + i) := by
    intro i
    by_cases hi : i < 46
    · obtain ⟨a, c, cA, kA, q1, -⟩ := Cond.exactly_spec (args := args) (first := s) (o := none) (s := s) (idx := []) (t := gz_sg i) (cls := RX6) (gz_ok h (gz_c1 i hi))
      exact ⟨a, fun _ => q1, fun h => absurd hi h⟩
    · exact ⟨s.heap.size + i, fun h => absurd h hi, fun _ => rfl⟩
  obtain ⟨sg, hsg⟩ := Classical.axiomOfChoice h0
  have hO : ∀ i, i < 46 → va_O RX6 (sg i) A s s.heap := fun i hi => va_Oof (gz_ok h (gz_c1 i hi)) ((hsg i).1 hi) hA
  have hF : ∀ i, i < 46 → va_OF "java/lang/Enum" "ordinal" "I" (.int (nI i)) (sg i) A s s.heap := fun i hi => vk_OFof ((hsg i).1 hi) (va_eqt (gz_ok h (gz_c2 i hi))) hA
  have hlt : ∀ i, i < 46 → sg i < s.heap.size := fun i hi => by
    obtain ⟨cell, h1, -⟩ := hO i hi
    exact (Array.getElem?_eq_some_iff.mp h1).1
  refine ⟨sg, fun i j e => ?_, fun i hi => (hsg i).1 hi, fun i hi => ⟨va_Zref (gz_tb hts (gz_c4 i hi)) (gz_gT hts _ tn_X6) ((hsg i).1 hi) hA, hO i hi, hF i hi, vk_OFof ((hsg i).1 hi) (va_eqv (gz_ok h (gz_c3 i hi)) (hK i (by omega))) hA⟩⟩
  by_cases hi : i < 46
  · by_cases hj : j < 46
    · obtain ⟨cf, k, fi, f, cell, g1, g2, g3, g4, g5, g6⟩ := hF i hi
      obtain ⟨cf', k', fi', f', cell', g1', g2', g3', g4', g5', g6'⟩ := hF j hj
      rw [e] at g3
      cases g3.symm.trans g3'
      cases g1.symm.trans g1'
      have e1 := g5.symm.trans g5'
      have e2 : nI i = nI j := by
        injection e1 with e1
        injection e1
      have e3 := congrArg Int32.toInt e2
      rw [nI_toInt (by omega), nI_toInt (by omega)] at e3
      omega
    · have h1 := hlt i hi
      have h2 := (hsg j).2 hj
      omega
  · by_cases hj : j < 46
    · have h1 := hlt j hj
      have h2 := (hsg i).2 hi
      omega
    · have h1 := (hsg i).2 hi
      have h2 := (hsg j).2 hj
      omega
theorem gz_tables {args : Array Value} {s : State} {A : Nat → Prop} {sK sg : Nat → Nat} (h : (Jvm.Cond.and given_1 narrow_1).before args s = true) (hts : ∀ w ∈ lw_tbl, w.before args s = true) (hA : ∀ a : Nat, a < s.heap.size → ¬ A a) (hK : ∀ i, i < 72 → (gz_tm i).eval args s none [] s = some (.ref (sK i))) (hsg : ∀ i, i < 46 → (gz_sg i).eval args s none [] s = some (.ref (sg i))) : ∃ t0 t1 t2 : Nat, (va_Z RX12 "SIGNS" "[LGlideWhistles$Sign;" (.ref t0) A s s.heap ∧ va_T (.object RX6) t0 46 (fun i => .ref (sg i)) A s s.heap) ∧ (va_Z RX0 "$SwitchMap$GlideWhistles$Sign" "[I" (.ref t1) A s s.heap ∧ va_T .int t1 46 (fun i => .int (g_sm.getD i 0)) A s s.heap) ∧ (va_Z RX15 "TOLD" "[Ljava/lang/String;" (.ref t2) A s s.heap ∧ va_T (.object "java/lang/String") t2 26 (fun i => .ref (sK (46 + i))) A s s.heap) := by
  obtain ⟨t0, h0, T0⟩ := va_Tof (tm := gz_SI) (ty := .object RX6) (N := 46) (f := fun i => .ref (sg i)) (A := A) (by decide) (gz_ok h gz_p0) (va_eqt (gz_ok h gz_p1)) (fun j hj => va_eqv (gz_ok h (gz_c5 j hj)) (hsg j hj)) hA
  obtain ⟨t1, h1, T1⟩ := va_Tof (tm := gz_SM) (ty := .int) (N := 46) (f := fun i => .int (g_sm.getD i 0)) (A := A) (by decide) (gz_ok h gz_p2) (va_eqt (gz_ok h gz_p3)) (fun j hj => va_eqt (gz_ok h (gz_c6 j hj))) hA
  obtain ⟨t2, h2, T2⟩ := va_Tof (tm := gz_TO) (ty := .object "java/lang/String") (N := 26) (f := fun i => .ref (sK (46 + i))) (A := A) (by decide) (gz_ok h gz_p4) (va_eqt (gz_ok h gz_p5)) (fun j hj => va_eqv (gz_ok h (gz_c7 j hj)) (hK (46 + j) (by omega))) hA
  exact ⟨t0, t1, t2, ⟨va_Zref (gz_tb hts gz_l0) (gz_gT hts _ tn_X12) h0 hA, T0⟩, ⟨va_Zref (gz_tb hts gz_l1) (gz_gT hts _ tn_X0) h1 hA, T1⟩, va_Zref (gz_tb hts gz_l2) (gz_gT hts _ tn_X15) h2 hA, T2⟩
theorem gz_arO {args : Array Value} {s : State} {C : String} (h : (Cond.arrayOver (.object C)).before args s = true) : ∃ cA : ClassId, ArrOfT s cA (.object C) ∧ va_RA s cA (.object C) := by
  obtain ⟨comp, c, k, h1, -, h3, h4, h5⟩ := Cond.arrayOver_spec h
  exact ⟨c, fun n z => ⟨(fun k h => by cases h), k, h3, comp, h4⟩, k, comp, h3, h4, h1, h5⟩
theorem gz_arI {args : Array Value} {s : State} {ty : FieldType} (h : (Cond.arrayClass ty).before args s = true) : ∃ cA : ClassId, ArrOfT s cA ty ∧ s.vm.findClass ("[" ++ ty.toString) = some cA := by
  obtain ⟨c, k, comp, h1, h2, h3⟩ := Cond.arrayClass_spec h
  exact ⟨c, fun n z => ⟨(fun k h => by cases h), k, h2, comp, h3⟩, h1⟩
theorem gz_cls {args : Array Value} {s : State} (hts : ∀ w ∈ lw_tbl, w.before args s = true) : ∀ q ∈ vwCl, ∃ (cC : ClassId) (iS : Nat → Nat), u_Kn s q.1 q.2.1 q.2.2 cC iS := by
  have hg := gz_gT hts
  refine List.forall_mem_cons.mpr ⟨u_known hg tu_X1 (hg _ ta_X1), List.forall_mem_cons.mpr ⟨u_known hg tu_X2 (hg _ ta_X2), List.forall_mem_cons.mpr ⟨u_known hg tu_X3 (hg _ ta_X3), List.forall_mem_cons.mpr ⟨u_known hg tu_X4 (hg _ ta_X4), List.forall_mem_cons.mpr ⟨u_known hg tu_X5 (hg _ ta_X5), List.forall_mem_cons.mpr ⟨u_known hg tu_X7 (hg _ ta_X7), List.forall_mem_cons.mpr ⟨u_known hg tu_X8 (hg _ ta_X8), List.forall_mem_cons.mpr ⟨u_known hg tu_X9 (hg _ ta_X9), List.forall_mem_cons.mpr ⟨u_known hg tu_X10 (hg _ ta_X10), List.forall_mem_cons.mpr ⟨u_known hg tu_X11 (hg _ ta_X11), List.forall_mem_cons.mpr ⟨u_known hg tu_X12 (hg _ ta_X12), List.forall_mem_cons.mpr ⟨u_known hg tu_X13 (hg _ ta_X13), List.forall_mem_cons.mpr ⟨u_known hg tu_X14 (hg _ ta_X14), List.forall_mem_cons.mpr ⟨u_known hg tu_X15 (hg _ ta_X15), fun _ h => absurd h List.not_mem_nil⟩⟩⟩⟩⟩⟩⟩⟩⟩⟩⟩⟩⟩⟩
theorem gz_K {args : Array Value} {s : State} (hts : ∀ w ∈ lw_tbl, w.before args s = true) : ∃ (D : va_G) (cA : Nat → ClassId), va_K D vwCl [(cA 0, .int), (cA 1, .char), (cA 2, .long), (cA 3, .object RX6), (cA 4, .object RX11), (cA 5, .object RX4)] s := by
  have hg := gz_gT hts
  have hk := gz_cls hts
  obtain ⟨z0, z1, -⟩ := hk (RX1, TX1, 4) List.mem_cons_self
  have h1 : ∀ c : Nat, ∃ P : ClassId × (Nat → Nat), ∀ q : vw_C, vwCl[c]? = some q → u_Kn s q.1 q.2.1 q.2.2 P.1 P.2 := by
    intro c
    cases hq : vwCl[c]? with
    | none => exact ⟨(z0, z1), fun q h => by cases h⟩
    | some q =>
      obtain ⟨cC, iS, hu⟩ := hk q (List.mem_of_getElem? hq)
      exact ⟨(cC, iS), fun q' h => by cases h; exact hu⟩
  obtain ⟨F, hF⟩ := Classical.axiomOfChoice h1
  obtain ⟨c0, a0, b0⟩ := gz_arI (hg _ tr_int)
  obtain ⟨c1, a1, b1⟩ := gz_arI (hg _ tr_char)
  obtain ⟨c2, a2, b2⟩ := gz_arI (hg _ tr_long)
  obtain ⟨c3, a3, b3⟩ := gz_arO (gz_tb hts gz_l7)
  obtain ⟨c4, a4, b4⟩ := gz_arO (gz_tb hts gz_l9)
  obtain ⟨c5, a5, b5⟩ := gz_arO (gz_tb hts gz_l8)
  refine ⟨(fun c => (F c).1, fun c => (F c).2), fun k => match k with | 0 => c0 | 1 => c1 | 2 => c2 | 3 => c3 | 4 => c4 | _ => c5, fun c q hq => hF c q hq, fun k q hq => ?_⟩
  match k, hq with
  | 0, hq => cases hq; exact ⟨a0, b0⟩
  | 1, hq => cases hq; exact ⟨a1, b1⟩
  | 2, hq => cases hq; exact ⟨a2, b2⟩
  | 3, hq => cases hq; exact ⟨a3, b3⟩
  | 4, hq => cases hq; exact ⟨a4, b4⟩
  | 5, hq => cases hq; exact ⟨a5, b5⟩
  | k + 6, hq => cases hq
theorem gz_on {w : Cond} (h : g_isN w = true) : w.onTables = true := by
  cases w <;> first | rfl | cases h
theorem gz_ms {args : Array Value} {s : State} (h : (Jvm.Cond.and given_1 narrow_1).before args s = true) (hts : ∀ w ∈ lw_tbl, w.before args s = true) : ∀ q ∈ g_ms, ∃ a, vk_R q.1 q.2.1 q.2.2 a s := by
  intro q hq
  obtain ⟨k, hk⟩ := List.getElem?_of_mem hq
  have hlt : k < 11 := (List.getElem?_eq_some_iff.mp hk).1
  have e : g_ms.getD k ("", 0, "") = q := by rw [List.getD_eq_getElem?_getD, hk]; rfl
  have h1 := gz_ok h (gz_m1 k hlt)
  have h2 := gz_tb hts (gz_m2 k hlt)
  have h3 := gz_m3 k hlt
  rw [e] at h1 h2 h3
  obtain ⟨a, c, cA, kA, q1, -⟩ := Cond.exactly_spec (args := args) (first := s) (o := none) (s := s) (idx := []) h1
  rw [h3]
  exact ⟨a, vk_R.of h2 q1⟩
/-- what holds of the class files' constants at the law's entry -/
theorem gz_G {args : Array Value} {s : State} (h : (Jvm.Cond.and given_1 narrow_1).before args s = true) (hts : ∀ w ∈ lw_tbl, w.before args s = true) : ∃ G : GL, g_b G = s.heap.size ∧ g_G G s ∧ g_K true s ∧ g_NC s := by
  have hg := gz_gT hts
  have hA : ∀ a : Nat, a < s.heap.size → ¬ (fun q : Nat => s.heap.size ≤ q) a := fun a h1 h2 => absurd h1 (Nat.not_lt.mpr h2)
  obtain ⟨D, cA, hK⟩ := gz_K hts
  obtain ⟨sK, sV, hT⟩ := gz_texts h hA
  obtain ⟨sg, hinj, hev, hS⟩ := gz_signs h hts hA (fun i hi => (hT i hi).1)
  obtain ⟨t0, t1, t2, s0, s1, s2⟩ := gz_tables h hts hA (fun i hi => (hT i hi).1) hev
  refine ⟨(D, cA, fun _ => 0, sg, s.heap.size, fun k => match k with | 0 => t0 | 1 => t1 | _ => t2, sK, sV), rfl, ⟨hK, Nat.le_refl _, hinj, hS, ⟨s0, s1, s2⟩, fun i hi => (hT i hi).2, ⟨vx_Zqof (gz_tb hts gz_l3) (hg _ tn_java_lang_Throwable) (gz_ok h gz_p6) hA, vx_Zqof (gz_tb hts gz_l4) (hg _ tn_java_lang_Throwable) (gz_ok h gz_p7) hA, va_Zof (gz_tb hts gz_l5) (hg _ tn_J0) (va_eqi (gz_ok h gz_p8)) hA, va_Zqof (gz_tb hts gz_l6) (hg _ tn_J3) (gz_ok h gz_p9) hA⟩, fun w hw => ?_, gz_ms h hts⟩, fun _ => ⟨va_AO.of (gz_tb hts gz_l7), va_AO.of (gz_tb hts gz_l8), va_AO.of (gz_tb hts gz_l9)⟩, va_Nc.of (gz_ok h gz_p10), va_Nc.of (gz_ok h gz_p11), va_Nc.of (gz_ok h gz_p12)⟩
  obtain ⟨hw1, hw2⟩ := List.mem_filter.mp hw
  exact va_Nw.of (gz_on hw2) (hts w (List.mem_append_right _ hw1))
