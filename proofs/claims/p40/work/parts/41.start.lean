/-! the start: what the premises say of the constants of the class files, by their places in the premises (laid by program: wip/p40/gen/g40const.py) -/
def gz_fl : List Cond := flatC (Jvm.Cond.and given_1 narrow_1)
def gz_pe : List Nat := [135, 138, 141, 153, 144, 147, 150, 159, 162, 7, 165, 67, 168, 210, 195, 198, 186, 189, 192, 219, 222, 15, 240, 243, 180, 183, 174, 177, 213, 216, 246, 156, 207, 171, 201, 204, 225, 228, 231, 234, 237, 129, 132, 12, 4, 75]
def gz_pl : List Nat := [1030, 1057, 1068, 1081, 1075, 1077, 1079, 1095, 1097, 160, 1104, 648, 1111, 1164, 1154, 1156, 1148, 1150, 1152, 1183, 1185, 602, 1201, 1203, 1140, 1142, 1136, 1138, 1179, 1181, 1210, 1093, 1162, 1125, 1158, 1160, 1191, 1193, 1195, 1197, 1199, 934, 961, 592, 70, 907]
def gz_sk : List Nat := [166, 172, 175, 178, 181, 184, 187, 190, 193, 196, 199, 202, 205, 208, 211, 214, 217, 220, 223, 226, 229, 232, 235, 238, 241, 244, 247, 250, 253, 256, 259, 262, 265, 268, 271, 274, 277, 280, 283, 286, 289, 292, 292, 292, 292, 292]
def gz_pk : List Nat := [1212, 1220, 1226, 1258, 1234, 1243, 1249, 1271, 1279, 1187, 1287, 1203, 1298, 1399, 1364, 1375, 1336, 1348, 1358, 1419, 1428, 1196, 1465, 1472, 1322, 1329, 1310, 1316, 1407, 1413, 1478, 1265, 1394, 1304, 1384, 1389, 1438, 1443, 1448, 1453, 1459, 1181, 1181, 1181, 1181, 1181, 752, 762, 770, 774, 780, 789, 799, 807, 815, 824, 830, 835, 844, 903, 908, 918, 926, 943, 958, 963, 971, 976, 981, 989, 996, 1007, 1019, 1027, 1032, 1041, 1046, 1054, 860, 871, 884, 895, 1059, 1065, 1485, 1491, 1498, 1504, 1510, 1516, 1522, 1528, 1535]
def gz_pm : List Nat := [691, 721, 621, 1075, 1101, 1131, 571, 596, 647, 1160, 668]
def gz_pt : List Nat := [872, 881, 508, 1597, 1598, 1608, 384, 423, 531, 1635, 564]
def gz_pd : List Nat := [1272, 1402, 1403, 1404, 1405, 1406, 1407, 1408, 1409, 1410, 1411, 1412, 1413, 1557, 1561, 1562, 1563, 1564, 1565, 1567, 1568, 1569, 1570, 1571, 1572, 1573, 1574, 1575, 1576, 1577, 1578, 1579, 1488, 1548, 1549, 1550, 1582, 1583]
def gz_tk : List (String × Nat) := [(RL, 52), (RL, 63), (RL, 65), (RL, 67), (RL, 69), (RL, 71), (RL, 73), (RL, 75), (RL, 77), (RL, 79), (RL, 81), (RL, 87), (RL, 92), (RX14, 43), (RX14, 56), (RX14, 58), (RX14, 60), (RX14, 62), (RX14, 64), (RX14, 69), (RX14, 71), (RX14, 73), (RX14, 75), (RX14, 77), (RX14, 79), (RX14, 81), (RX14, 83), (RX14, 85), (RX14, 87), (RX14, 89), (RX14, 91), (RX14, 93), (RX15, 39), (RX15, 52), (RX15, 54), (RX15, 56), (RX15, 61), (RX15, 63), (RL, 264), (RL, 266), (RL, 268), (RL, 270), (RL, 272), (RL, 274), (RL, 276), (RL, 278), (RL, 280)]
def gz_sg (i : Nat) : Term := .static RX6 (g_nm.getD i "") "LGlideWhistles$Sign;"
def gz_tm (i : Nat) : Term := if i < 46 then .string RX6 (gz_sk.getD i 0) else .string (gz_tk.getD (i - 46) (RL, 0)).1 (gz_tk.getD (i - 46) (RL, 0)).2
abbrev gz_SI : Term := .static RX12 "SIGNS" "[LGlideWhistles$Sign;"
abbrev gz_SM : Term := .static RX0 "$SwitchMap$GlideWhistles$Sign" "[I"
abbrev gz_LS : Term := .static RL "SIGNS" "[Ljava/lang/String;"
abbrev gz_DO : Term := .static "java/lang/Integer" "DigitOnes" "[B"
abbrev gz_DT : Term := .static "java/lang/Integer" "DigitTens" "[B"
theorem gz_c1 : ∀ i, i < 46 → gz_fl[gz_pe.getD i 0]? = some (.exactly (gz_sg i) RX6) := by decide +kernel
theorem gz_c2 : ∀ i, i < 46 → gz_fl[gz_pe.getD i 0 + 1]? = some (.eq (.field (gz_sg i) "java/lang/Enum" "ordinal" "I") (.int (nI i))) := by decide +kernel
theorem gz_c3 : ∀ i, i < 46 → gz_fl[gz_pe.getD i 0 + 2]? = some (.eq (.field (gz_sg i) RX6 "text" "Ljava/lang/String;") (gz_tm i)) := by decide +kernel
theorem gz_c4 : ∀ i, i < 46 → tables_1[gz_pl.getD i 0]? = some (.laysStatic RX6 (g_nm.getD i "") "LGlideWhistles$Sign;") := by decide +kernel
theorem gz_c5 : ∀ i, i < 46 → gz_fl[83 + i]? = some (.eq (.elem gz_SI (.int (Int32.ofNat i))) (gz_sg i)) := by decide +kernel
theorem gz_c6 : ∀ i, i < 46 → gz_fl[21 + i]? = some (.eq (.elem gz_SM (.int (Int32.ofNat i))) (.int (g_sm.getD i 0))) := by decide +kernel
theorem gz_c7 : ∀ i, i < 9 → gz_fl[458 + i]? = some (.eq (.elem gz_LS (.int (Int32.ofNat i))) (gz_tm (84 + i))) := by decide +kernel
theorem gz_c8 : ∀ i, i < 100 → gz_fl[252 + i]? = some (.eq (.elem gz_DO (.int (Int32.ofNat i))) (.int (g_d1 i))) := by decide +kernel
theorem gz_c9 : ∀ i, i < 100 → gz_fl[355 + i]? = some (.eq (.elem gz_DT (.int (Int32.ofNat i))) (.int (g_d2 i))) := by decide +kernel
theorem gz_k1 : ∀ i, i < 93 → gz_fl[gz_pk.getD i 0]? = some (.exactly (gz_tm i) "java/lang/String") := by decide +kernel
theorem gz_k2 : ∀ i, i < 93 → gz_fl[gz_pk.getD i 0 + 1]? = some (.eq (.field (gz_tm i) "java/lang/String" "coder" "B") (.int 0)) := by decide +kernel
theorem gz_k3 : ∀ i, i < 93 → gz_fl[gz_pk.getD i 0 + 2]? = some (.arrayOf (.field (gz_tm i) "java/lang/String" "value" "[B") .byte) := by decide +kernel
theorem gz_k4 : ∀ i, i < 93 → gz_fl[gz_pk.getD i 0 + 3]? = some (.eq (.length (.field (gz_tm i) "java/lang/String" "value" "[B")) (.int (Int32.ofNat (g_len.getD i 0)))) := by decide +kernel
theorem gz_k5 : ∀ i, i < 93 → ∀ j, j < g_len.getD i 0 → gz_fl[gz_pk.getD i 0 + 4 + j]? = some (.eq (.elem (.field (gz_tm i) "java/lang/String" "value" "[B") (.int (Int32.ofNat j))) (.int ((g_byt.getD i []).getD j 0))) := by decide +kernel
theorem gz_k6 : ∀ i, i < 93 → g_len.getD i 0 < 2 ^ 31 := by decide +kernel
theorem gz_m1 : ∀ i, i < 11 → gz_fl[gz_pm.getD i 0]? = some (.exactly (.string RX12 (g_ms.getD i ("", 0, "")).2.1) "java/lang/String") := by decide +kernel
theorem gz_m2 : ∀ i, i < 11 → tables_1[gz_pt.getD i 0]? = some (.stringRef RX12 (g_ms.getD i ("", 0, "")).2.1 (g_ms.getD i ("", 0, "")).2.2) := by decide +kernel
theorem gz_m3 : ∀ i, i < 11 → (g_ms.getD i ("", 0, "")).1 = RX12 := by decide +kernel
theorem gz_d1 : ∀ i, i < 38 → tables_1[gz_pd.getD i 0]? = some (.stringRef (g_ld.getD i ("", 0, "", 0)).1 (g_ld.getD i ("", 0, "", 0)).2.1 (g_ld.getD i ("", 0, "", 0)).2.2.1) := by decide +kernel
theorem gz_d2 : ∀ i, i < 38 → (g_ld.getD i ("", 0, "", 0)).2.2.2 = 46 + i ∧ gz_tm (46 + i) = .string (g_ld.getD i ("", 0, "", 0)).1 (g_ld.getD i ("", 0, "", 0)).2.1 := by decide +kernel
theorem gz_p0 : gz_fl[80]? = some (.arrayOf gz_SI (.object RX6)) := by decide +kernel
theorem gz_p1 : gz_fl[81]? = some (.eq (.length gz_SI) (.int (Int32.ofNat 46))) := by decide +kernel
theorem gz_p2 : gz_fl[19]? = some (.arrayOf gz_SM .int) := by decide +kernel
theorem gz_p3 : gz_fl[20]? = some (.eq (.length gz_SM) (.int (Int32.ofNat 46))) := by decide +kernel
theorem gz_p4 : gz_fl[456]? = some (.arrayOf gz_LS (.object "java/lang/String")) := by decide +kernel
theorem gz_p5 : gz_fl[457]? = some (.eq (.length gz_LS) (.int (Int32.ofNat 9))) := by decide +kernel
theorem gz_p6 : gz_fl[10]? = some (.isRef (.static Bundle.tN "UNASSIGNED_STACK" Bundle.steD)) := by decide +kernel
theorem gz_p7 : gz_fl[11]? = some (.isRef (.static Bundle.tN "SUPPRESSED_SENTINEL" Bundle.listD)) := by decide +kernel
theorem gz_p8 : gz_fl[70]? = some (.eq (.static "java/lang/String" "COMPACT_STRINGS" "Z") (.int 1)) := by decide +kernel
theorem gz_p9 : gz_fl[71]? = some (.isRef (.static "jdk/internal/util/Preconditions" "SIOOBE_FORMATTER" "Ljava/util/function/BiFunction;")) := by decide +kernel
theorem gz_p10 : gz_fl[250]? = some (.arrayOf gz_DO .byte) := by decide +kernel
theorem gz_p11 : gz_fl[251]? = some (.eq (.length gz_DO) (.int (Int32.ofNat 100))) := by decide +kernel
theorem gz_p12 : gz_fl[353]? = some (.arrayOf gz_DT .byte) := by decide +kernel
theorem gz_p13 : gz_fl[354]? = some (.eq (.length gz_DT) (.int (Int32.ofNat 100))) := by decide +kernel
theorem gz_l0 : tables_1[925]? = some (.laysStatic RX12 "SIGNS" "[LGlideWhistles$Sign;") := by decide +kernel
theorem gz_l1 : tables_1[607]? = some (.laysStatic RX0 "$SwitchMap$GlideWhistles$Sign" "[I") := by decide +kernel
theorem gz_l2 : tables_1[1581]? = some (.laysStatic RL "SIGNS" "[Ljava/lang/String;") := by decide +kernel
theorem gz_l3 : tables_1[370]? = some (.laysStatic Bundle.tN "UNASSIGNED_STACK" Bundle.steD) := by decide +kernel
theorem gz_l4 : tables_1[372]? = some (.laysStatic Bundle.tN "SUPPRESSED_SENTINEL" Bundle.listD) := by decide +kernel
theorem gz_l5 : tables_1[829]? = some (.laysStatic "java/lang/String" "COMPACT_STRINGS" "Z") := by decide +kernel
theorem gz_l6 : tables_1[845]? = some (.laysStatic "jdk/internal/util/Preconditions" "SIOOBE_FORMATTER" "Ljava/util/function/BiFunction;") := by decide +kernel
theorem gz_l7 : tables_1[68]? = some (.arrayOver (.object RX6)) := by decide +kernel
theorem gz_l8 : tables_1[153]? = some (.arrayOver (.object RX4)) := by decide +kernel
theorem gz_l9 : tables_1[230]? = some (.arrayOver (.object RX11)) := by decide +kernel
theorem gz_l10 : tables_1[1224]? = some (.arrayOver (.array .int)) := by decide +kernel
theorem gz_l11 : tables_1[1226]? = some (.arrayOver (.object RX15)) := by decide +kernel
theorem gz_l12 : tables_1[1391]? = some (.laysStatic "java/lang/Integer" "DigitOnes" "[B") := by decide +kernel
theorem gz_l13 : tables_1[1393]? = some (.laysStatic "java/lang/Integer" "DigitTens" "[B") := by decide +kernel
theorem gz_l14 : tables_1[1286]? = some (.privateMethod yJ5_ensureCapacityInternal_d00df) := by decide +kernel
theorem gz_l15 : tables_1[1290]? = some (.privateMethod yJ5_newCapacity_0f7a4) := by decide +kernel
theorem gz_l16 : tables_1[1337]? = some (.privateMethod yJ5_putStringAt_47b60) := by decide +kernel
theorem gz_l17 : tables_1[1341]? = some (.privateMethod yJ5_inflateIfNeededFor_a7421) := by decide +kernel
theorem gz_ok {args : Array Value} {s : State} (h : (Jvm.Cond.and given_1 narrow_1).before args s = true) {k : Nat} {w : Cond} (hk : gz_fl[k]? = some w) : w.before args s = true := flat_of_before _ h _ (List.mem_of_getElem? hk)
theorem gz_tb {args : Array Value} {s : State} (h : ∀ w ∈ lw_tbl, w.before args s = true) {k : Nat} {w : Cond} (hk : tables_1[k]? = some w) : w.before args s = true := h _ (List.mem_append_right _ (List.mem_of_getElem? hk))
theorem gz_gT {args : Array Value} {s : State} (h : ∀ w ∈ lw_tbl, w.before args s = true) : ∀ w ∈ gT, w.before args s = true := fun w hw => h w (List.mem_filter.mp hw).1
theorem gz_texts {args : Array Value} {s : State} {A : Nat → Prop} (h : (Jvm.Cond.and given_1 narrow_1).before args s = true) (hA : ∀ a : Nat, a < s.heap.size → ¬ A a) : ∃ sK sV : Nat → Nat, ∀ i, i < 93 → (gz_tm i).eval args s none [] s = some (.ref (sK i)) ∧ va_O "java/lang/String" (sK i) A s s.heap ∧ va_OF "java/lang/String" "coder" "B" (.int 0) (sK i) A s s.heap ∧ va_OF "java/lang/String" "value" "[B" (.ref (sV i)) (sK i) A s s.heap ∧ va_T .byte (sV i) (g_len.getD i 0) (fun j => .int ((g_byt.getD i []).getD j 0)) A s s.heap := by
  have h0 : ∀ i : Nat, ∃ q : Nat × Nat, i < 93 → (gz_tm i).eval args s none [] s = some (.ref q.1) ∧ va_O "java/lang/String" q.1 A s s.heap ∧ va_OF "java/lang/String" "coder" "B" (.int 0) q.1 A s s.heap ∧ va_OF "java/lang/String" "value" "[B" (.ref q.2) q.1 A s s.heap ∧ va_T .byte q.2 (g_len.getD i 0) (fun j => .int ((g_byt.getD i []).getD j 0)) A s s.heap := by
    intro i
    by_cases hi : i < 93
    · obtain ⟨a, c, cA, kA, q1, -⟩ := Cond.exactly_spec (args := args) (first := s) (o := none) (s := s) (idx := []) (t := gz_tm i) (cls := "java/lang/String") (gz_ok h (gz_k1 i hi))
      obtain ⟨t, ht, hT⟩ := va_Tof (f := fun j => .int ((g_byt.getD i []).getD j 0)) (A := A) (gz_k6 i hi) (gz_ok h (gz_k3 i hi)) (va_eqt (gz_ok h (gz_k4 i hi))) (fun j hj => va_eqt (gz_ok h (gz_k5 i hi j hj))) hA
      exact ⟨(a, t), fun _ => ⟨q1, va_Oof (gz_ok h (gz_k1 i hi)) q1 hA, vk_OFof q1 (va_eqt (gz_ok h (gz_k2 i hi))) hA, vk_OFof q1 ht hA, hT⟩⟩
    · exact ⟨(0, 0), fun h => absurd h hi⟩
  obtain ⟨ad, had⟩ := Classical.axiomOfChoice h0
  exact ⟨fun i => (ad i).1, fun i => (ad i).2, had⟩
theorem gz_signs {args : Array Value} {s : State} {A : Nat → Prop} {sK : Nat → Nat} (h : (Jvm.Cond.and given_1 narrow_1).before args s = true) (hts : ∀ w ∈ lw_tbl, w.before args s = true) (hA : ∀ a : Nat, a < s.heap.size → ¬ A a) (hK : ∀ i, i < 93 → (gz_tm i).eval args s none [] s = some (.ref (sK i))) : ∃ sg : Nat → Nat, (∀ i j, sg i = sg j → i = j) ∧ (∀ i, i < 46 → (gz_sg i).eval args s none [] s = some (.ref (sg i))) ∧ ∀ i, i < 46 → va_Z RX6 (g_nm.getD i "") "LGlideWhistles$Sign;" (.ref (sg i)) A s s.heap ∧ va_O RX6 (sg i) A s s.heap ∧ va_OF "java/lang/Enum" "ordinal" "I" (.int (nI i)) (sg i) A s s.heap ∧ va_OF RX6 "text" "Ljava/lang/String;" (.ref (sK i)) (sg i) A s s.heap := by
  have h0 : ∀ i : Nat, ∃ t : Nat, (i < 46 → (gz_sg i).eval args s none [] s = some (.ref t)) ∧ (¬ i < 46 → t = s.heap.size + i) := by
    intro i
    by_cases hi : i < 46
    · obtain ⟨a, c, cA, kA, q1, -⟩ := Cond.exactly_spec (args := args) (first := s) (o := none) (s := s) (idx := []) (t := gz_sg i) (cls := RX6) (gz_ok h (gz_c1 i hi))
      exact ⟨a, fun _ => q1, fun h => absurd hi h⟩
    · exact ⟨s.heap.size + i, fun h => absurd h hi, fun _ => rfl⟩
  obtain ⟨sg, hsg⟩ := Classical.axiomOfChoice h0
  have hO : ∀ i, i < 46 → va_O RX6 (sg i) A s s.heap := fun i hi => va_Oof (gz_ok h (gz_c1 i hi)) ((hsg i).1 hi) hA
  have hF : ∀ i, i < 46 → va_OF "java/lang/Enum" "ordinal" "I" (.int (nI i)) (sg i) A s s.heap := fun i hi => vk_OFof ((hsg i).1 hi) (va_eqt (gz_ok h (gz_c2 i hi))) hA
  have hlt : ∀ i, i < 46 → sg i < s.heap.size := fun i hi => by
    obtain ⟨cell, h1, -⟩ := hO i hi
    exact (Array.getElem?_eq_some_iff.mp h1).1
  refine ⟨sg, fun i j e => ?_, fun i hi => (hsg i).1 hi, fun i hi => ⟨va_Zref (gz_tb hts (gz_c4 i hi)) (gz_gT hts _ tn_X6) ((hsg i).1 hi) hA, hO i hi, hF i hi, vk_OFof ((hsg i).1 hi) (va_eqv (gz_ok h (gz_c3 i hi)) (hK i (by omega))) hA⟩⟩
  by_cases hi : i < 46
  · by_cases hj : j < 46
    · obtain ⟨cf, k, fi, f, cell, g1, g2, g3, g4, g5, g6⟩ := hF i hi
      obtain ⟨cf', k', fi', f', cell', g1', g2', g3', g4', g5', g6'⟩ := hF j hj
      rw [e] at g3
      cases g3.symm.trans g3'
      cases g1.symm.trans g1'
      have e1 := g5.symm.trans g5'
      have e2 : nI i = nI j := by
        injection e1 with e1
        injection e1
      have e3 := congrArg Int32.toInt e2
      rw [nI_toInt (by omega), nI_toInt (by omega)] at e3
      omega
    · have h1 := hlt i hi
      have h2 := (hsg j).2 hj
      omega
  · by_cases hj : j < 46
    · have h1 := hlt j hj
      have h2 := (hsg i).2 hi
      omega
    · have h1 := (hsg i).2 hi
      have h2 := (hsg j).2 hj
      omega
theorem gz_tables {args : Array Value} {s : State} {A : Nat → Prop} {sK sg : Nat → Nat} (h : (Jvm.Cond.and given_1 narrow_1).before args s = true) (hts : ∀ w ∈ lw_tbl, w.before args s = true) (hA : ∀ a : Nat, a < s.heap.size → ¬ A a) (hK : ∀ i, i < 93 → (gz_tm i).eval args s none [] s = some (.ref (sK i))) (hsg : ∀ i, i < 46 → (gz_sg i).eval args s none [] s = some (.ref (sg i))) : ∃ t0 t1 t2 t3 t4 : Nat, (va_Z RX12 "SIGNS" "[LGlideWhistles$Sign;" (.ref t0) A s s.heap ∧ va_T (.object RX6) t0 46 (fun i => .ref (sg i)) A s s.heap) ∧ (va_Z RX0 "$SwitchMap$GlideWhistles$Sign" "[I" (.ref t1) A s s.heap ∧ va_T .int t1 46 (fun i => .int (g_sm.getD i 0)) A s s.heap) ∧ (va_Z RL "SIGNS" "[Ljava/lang/String;" (.ref t2) A s s.heap ∧ va_T (.object "java/lang/String") t2 9 (fun i => .ref (sK (84 + i))) A s s.heap) ∧ (va_Z "java/lang/Integer" "DigitOnes" "[B" (.ref t3) A s s.heap ∧ va_T .byte t3 100 (fun i => .int (g_d1 i)) A s s.heap) ∧ (va_Z "java/lang/Integer" "DigitTens" "[B" (.ref t4) A s s.heap ∧ va_T .byte t4 100 (fun i => .int (g_d2 i)) A s s.heap) := by
  obtain ⟨t0, h0, T0⟩ := va_Tof (tm := gz_SI) (ty := .object RX6) (N := 46) (f := fun i => .ref (sg i)) (A := A) (by decide) (gz_ok h gz_p0) (va_eqt (gz_ok h gz_p1)) (fun j hj => va_eqv (gz_ok h (gz_c5 j hj)) (hsg j hj)) hA
  obtain ⟨t1, h1, T1⟩ := va_Tof (tm := gz_SM) (ty := .int) (N := 46) (f := fun i => .int (g_sm.getD i 0)) (A := A) (by decide) (gz_ok h gz_p2) (va_eqt (gz_ok h gz_p3)) (fun j hj => va_eqt (gz_ok h (gz_c6 j hj))) hA
  obtain ⟨t2, h2, T2⟩ := va_Tof (tm := gz_LS) (ty := .object "java/lang/String") (N := 9) (f := fun i => .ref (sK (84 + i))) (A := A) (by decide) (gz_ok h gz_p4) (va_eqt (gz_ok h gz_p5)) (fun j hj => va_eqv (gz_ok h (gz_c7 j hj)) (hK (84 + j) (by omega))) hA
  obtain ⟨t3, h3, T3⟩ := va_Tof (tm := gz_DO) (ty := .byte) (N := 100) (f := fun i => .int (g_d1 i)) (A := A) (by decide) (gz_ok h gz_p10) (va_eqt (gz_ok h gz_p11)) (fun j hj => va_eqt (gz_ok h (gz_c8 j hj))) hA
  obtain ⟨t4, h4, T4⟩ := va_Tof (tm := gz_DT) (ty := .byte) (N := 100) (f := fun i => .int (g_d2 i)) (A := A) (by decide) (gz_ok h gz_p12) (va_eqt (gz_ok h gz_p13)) (fun j hj => va_eqt (gz_ok h (gz_c9 j hj))) hA
  exact ⟨t0, t1, t2, t3, t4, ⟨va_Zref (gz_tb hts gz_l0) (gz_gT hts _ tn_X12) h0 hA, T0⟩, ⟨va_Zref (gz_tb hts gz_l1) (gz_gT hts _ tn_X0) h1 hA, T1⟩, ⟨va_Zref (gz_tb hts gz_l2) (gz_gT hts _ tn_L) h2 hA, T2⟩, ⟨va_Zref (gz_tb hts gz_l12) (gz_gT hts _ tn_J6) h3 hA, T3⟩, ⟨va_Zref (gz_tb hts gz_l13) (gz_gT hts _ tn_J6) h4 hA, T4⟩⟩
theorem gz_arO {args : Array Value} {s : State} {C : String} (h : (Cond.arrayOver (.object C)).before args s = true) : ∃ cA : ClassId, ArrOfT s cA (.object C) ∧ va_RA s cA (.object C) := by
  obtain ⟨comp, c, k, h1, -, h3, h4, h5⟩ := Cond.arrayOver_spec h
  exact ⟨c, fun n z => ⟨(fun k h => by cases h), k, h3, comp, h4⟩, k, comp, h3, h4, h1, h5⟩
theorem gz_arI {args : Array Value} {s : State} {ty : FieldType} (h : (Cond.arrayClass ty).before args s = true) : ∃ cA : ClassId, ArrOfT s cA ty ∧ s.vm.findClass ("[" ++ ty.toString) = some cA := by
  obtain ⟨c, k, comp, h1, h2, h3⟩ := Cond.arrayClass_spec h
  exact ⟨c, fun n z => ⟨(fun k h => by cases h), k, h2, comp, h3⟩, h1⟩
theorem gz_cls {args : Array Value} {s : State} (hts : ∀ w ∈ lw_tbl, w.before args s = true) : ∀ q ∈ vwCl, ∃ (cC : ClassId) (iS : Nat → Nat), u_Kn s q.1 q.2.1 q.2.2 cC iS := by
  have hg := gz_gT hts
  refine List.forall_mem_cons.mpr ⟨u_known hg tu_J0 (hg _ ta_J0), List.forall_mem_cons.mpr ⟨u_known hg tu_J4 (hg _ ta_J4), List.forall_mem_cons.mpr ⟨u_known hg tu_X1 (hg _ ta_X1), List.forall_mem_cons.mpr ⟨u_known hg tu_X2 (hg _ ta_X2), List.forall_mem_cons.mpr ⟨u_known hg tu_X3 (hg _ ta_X3), List.forall_mem_cons.mpr ⟨u_known hg tu_X4 (hg _ ta_X4), List.forall_mem_cons.mpr ⟨u_known hg tu_X5 (hg _ ta_X5), List.forall_mem_cons.mpr ⟨u_known hg tu_X7 (hg _ ta_X7), List.forall_mem_cons.mpr ⟨u_known hg tu_X8 (hg _ ta_X8), List.forall_mem_cons.mpr ⟨u_known hg tu_X9 (hg _ ta_X9), List.forall_mem_cons.mpr ⟨u_known hg tu_X10 (hg _ ta_X10), List.forall_mem_cons.mpr ⟨u_known hg tu_X11 (hg _ ta_X11), List.forall_mem_cons.mpr ⟨u_known hg tu_X12 (hg _ ta_X12), List.forall_mem_cons.mpr ⟨u_known hg tu_X13 (hg _ ta_X13), List.forall_mem_cons.mpr ⟨u_known hg tu_X14 (hg _ ta_X14), List.forall_mem_cons.mpr ⟨u_known hg tu_X15 (hg _ ta_X15), List.forall_mem_cons.mpr ⟨u_known hg tu_X16 (hg _ ta_X16), fun _ h => absurd h List.not_mem_nil⟩⟩⟩⟩⟩⟩⟩⟩⟩⟩⟩⟩⟩⟩⟩⟩⟩
theorem gz_arA {args : Array Value} {s : State} (h : (Cond.arrayOver (.array .int)).before args s = true) : ∃ cA : ClassId, ∃ comp : ClassId, ArrOfT s cA (.array .int) ∧ va_RA s cA (.array .int) ∧ s.vm.findClass (FieldType.array .int).toString = some comp ∧ ∃ kA : Class, s.vm.classes[cA]? = some kA ∧ kA.kind = .array comp (.array .int) := by
  obtain ⟨comp, c, k, h1, -, h3, h4, h5⟩ := arrayOverA_spec h
  exact ⟨c, comp, fun n z => ⟨(fun k h => by cases h), k, h3, comp, h4⟩, h5, h1, k, h3, h4⟩
theorem gz_K {args : Array Value} {s : State} (hts : ∀ w ∈ lw_tbl, w.before args s = true) : ∃ (D : va_G) (cA : Nat → ClassId), va_K D vwCl [(cA 0, .int), (cA 1, .char), (cA 0, .int), (cA 3, .object RX6), (cA 4, .object RX11), (cA 5, .object RX4), (cA 6, .byte), (cA 7, .boolean), (cA 8, .array .int), (cA 9, .object RX15)] s ∧ ∃ kA : Class, s.vm.classes[cA 8]? = some kA ∧ kA.kind = .array (cA 0) (.array .int) := by
  have hg := gz_gT hts
  have hk := gz_cls hts
  obtain ⟨z0, z1, -⟩ := hk (RJ0, TJ0, 4) List.mem_cons_self
  have h1 : ∀ c : Nat, ∃ P : ClassId × (Nat → Nat), ∀ q : vw_C, vwCl[c]? = some q → u_Kn s q.1 q.2.1 q.2.2 P.1 P.2 := by
    intro c
    cases hq : vwCl[c]? with
    | none => exact ⟨(z0, z1), fun q h => by cases h⟩
    | some q =>
      obtain ⟨cC, iS, hu⟩ := hk q (List.mem_of_getElem? hq)
      exact ⟨(cC, iS), fun q' h => by cases h; exact hu⟩
  obtain ⟨F, hF⟩ := Classical.axiomOfChoice h1
  obtain ⟨c0, a0, b0⟩ := gz_arI (hg _ tr_int)
  obtain ⟨c1, a1, b1⟩ := gz_arI (hg _ tr_char)
  obtain ⟨c6, a6, b6⟩ := gz_arI (hg _ tr_byte)
  obtain ⟨c7, a7, b7⟩ := gz_arI (hg _ tr_boolean)
  obtain ⟨c3, a3, b3⟩ := gz_arO (gz_tb hts gz_l7)
  obtain ⟨c4, a4, b4⟩ := gz_arO (gz_tb hts gz_l9)
  obtain ⟨c5, a5, b5⟩ := gz_arO (gz_tb hts gz_l8)
  obtain ⟨c9, a9, b9⟩ := gz_arO (gz_tb hts gz_l11)
  obtain ⟨c8, co8, a8, b8, d8, k8, e8, f8⟩ := gz_arA (gz_tb hts gz_l10)
  have hco : co8 = c0 := Option.some.inj (d8.symm.trans b0)
  refine ⟨(fun c => (F c).1, fun c => (F c).2), fun k => match k with | 0 => c0 | 1 => c1 | 3 => c3 | 4 => c4 | 5 => c5 | 6 => c6 | 7 => c7 | 8 => c8 | _ => c9, ⟨fun c q hq => hF c q hq, fun k q hq => ?_⟩, k8, e8, hco ▸ f8⟩
  match k, hq with
  | 0, hq => cases hq; exact ⟨a0, b0⟩
  | 1, hq => cases hq; exact ⟨a1, b1⟩
  | 2, hq => cases hq; exact ⟨a0, b0⟩
  | 3, hq => cases hq; exact ⟨a3, b3⟩
  | 4, hq => cases hq; exact ⟨a4, b4⟩
  | 5, hq => cases hq; exact ⟨a5, b5⟩
  | 6, hq => cases hq; exact ⟨a6, b6⟩
  | 7, hq => cases hq; exact ⟨a7, b7⟩
  | 8, hq => cases hq; exact ⟨a8, b8⟩
  | 9, hq => cases hq; exact ⟨a9, b9⟩
  | k + 10, hq => cases hq
theorem gz_on {w : Cond} (h : g_isN w = true) : w.onTables = true := by
  cases w <;> first | rfl | cases h
theorem gz_ms {args : Array Value} {s : State} (h : (Jvm.Cond.and given_1 narrow_1).before args s = true) (hts : ∀ w ∈ lw_tbl, w.before args s = true) : ∀ q ∈ g_ms, ∃ a, vk_R q.1 q.2.1 q.2.2 a s := by
  intro q hq
  obtain ⟨k, hk⟩ := List.getElem?_of_mem hq
  have hlt : k < 11 := (List.getElem?_eq_some_iff.mp hk).1
  have e : g_ms.getD k ("", 0, "") = q := by rw [List.getD_eq_getElem?_getD, hk]; rfl
  have h1 := gz_ok h (gz_m1 k hlt)
  have h2 := gz_tb hts (gz_m2 k hlt)
  have h3 := gz_m3 k hlt
  rw [e] at h1 h2 h3
  obtain ⟨a, c, cA, kA, q1, -⟩ := Cond.exactly_spec (args := args) (first := s) (o := none) (s := s) (idx := []) h1
  rw [h3]
  exact ⟨a, vk_R.of h2 q1⟩
theorem gz_ld {args : Array Value} {s : State} {sK : Nat → Nat} (hts : ∀ w ∈ lw_tbl, w.before args s = true) (hK : ∀ i, i < 93 → (gz_tm i).eval args s none [] s = some (.ref (sK i))) : ∀ q ∈ g_ld, vk_R q.1 q.2.1 q.2.2.1 (sK q.2.2.2) s := by
  intro q hq
  obtain ⟨k, hk⟩ := List.getElem?_of_mem hq
  have hlt : k < 38 := (List.getElem?_eq_some_iff.mp hk).1
  have e : g_ld.getD k ("", 0, "", 0) = q := by rw [List.getD_eq_getElem?_getD, hk]; rfl
  have h2 := gz_tb hts (gz_d1 k hlt)
  have h3 := gz_d2 k hlt
  rw [e] at h2 h3
  have h4 := hK (46 + k) (by omega)
  rw [h3.2] at h4
  rw [h3.1]
  exact vk_R.of h2 h4
/-- a private method of the super class is what an object of the class runs -/
theorem gz_selP {y y1 : MethodName} {s : State} {args a : Array Value} {C : String} (hy : y.cls ≠ "java/lang/invoke/MethodHandle" ∧ y.cls ≠ "java/lang/invoke/VarHandle") (hyc : y.cls = y1.cls) (hsel : (Cond.selects C y1 y1).before args s = true) (hpriv : (Cond.privateMethod y).before args s = true) (hinst : (Cond.instanceMethod y).before args s = true) : (Cond.selects C y y).before a s = true := by
  obtain ⟨c2, r2, m2, q1, q2, q3, q4, kP, hkP, hkPi⟩ := Cond.selects_spec hsel
  obtain ⟨mk, methM, hnamed, hmethM, -, -⟩ := Cond.instanceMethod_spec hinst
  have hfound : s.methodFound? y.cls y.name y.desc = some mk := State.methodFound?_of_named hnamed hy
  have hcls : mk.cls = m2.cls := Option.some.inj ((findClass_of_methodNamed hnamed).symm.trans ((congrArg s.vm.findClass hyc).trans (findClass_of_methodNamed q3)))
  have hs := selectMethod_private (p := {}) (c := c2) hmethM (Cond.privateMethod_at hpriv mk methM hnamed hmethM)
  simp only [Cond.before, Cond.holds, Cond.value, q1, hfound, hnamed, hs, hcls, hkP]
  simp
  exact hkPi
theorem gz_slw {args : Array Value} {s : State} (hts : ∀ w ∈ lw_tbl, w.before args s = true) : ∀ w ∈ h_slw, ∀ a : Array Value, w.before a s = true := by
  have hg := gz_gT hts
  intro w hw a
  simp only [h_slw, List.mem_cons, List.not_mem_nil, or_false] at hw
  rcases hw with rfl | rfl | rfl | rfl
  · exact gz_selP (y1 := yJ5_isLatin1_aae02) (by decide) rfl (hg _ ts_J5_isLatin1_aae02) (gz_tb hts gz_l14) (hg _ ti_J5_ensureCapacityInternal_d00df)
  · exact gz_selP (y1 := yJ5_isLatin1_aae02) (by decide) rfl (hg _ ts_J5_isLatin1_aae02) (gz_tb hts gz_l15) (hg _ ti_J5_newCapacity_0f7a4)
  · exact gz_selP (y1 := yJ5_isLatin1_aae02) (by decide) rfl (hg _ ts_J5_isLatin1_aae02) (gz_tb hts gz_l16) (hg _ ti_J5_putStringAt_47b60)
  · exact gz_selP (y1 := yJ5_isLatin1_aae02) (by decide) rfl (hg _ ts_J5_isLatin1_aae02) (gz_tb hts gz_l17) (hg _ ti_J5_inflateIfNeededFor_a7421)
/-- what holds of the class files' constants at the law's entry -/
theorem gz_G {args : Array Value} {s : State} {b L : Nat} {xs : Nat → Int32} (h : (Jvm.Cond.and given_1 narrow_1).before args s = true) (hts : ∀ w ∈ lw_tbl, w.before args s = true) (hL : L ≤ 260) (hX : va_X b L xs s s.heap) (hb : b < s.heap.size) : ∃ G : GL, g_b G = s.heap.size ∧ g_L G = L ∧ g_xs G = xs ∧ g_st G 5 = b ∧ g_G G s ∧ g_K true s := by
  have hg := gz_gT hts
  have hA : ∀ a : Nat, a < s.heap.size → ¬ (fun q : Nat => s.heap.size ≤ q) a := fun a h1 h2 => absurd h1 (Nat.not_lt.mpr h2)
  obtain ⟨D, cA, hK, hKA⟩ := gz_K hts
  obtain ⟨sK, sV, hT⟩ := gz_texts h hA
  obtain ⟨sg, hinj, hev, hS⟩ := gz_signs h hts hA (fun i hi => (hT i hi).1)
  obtain ⟨t0, t1, t2, t3, t4, s0, s1, s2, s3, s4⟩ := gz_tables h hts hA (fun i hi => (hT i hi).1) hev
  obtain ⟨scr, x1, x2, x3, x4, x5⟩ := hX
  have s5 : va_T .int b L (fun i => .int (xs i)) (fun q : Nat => s.heap.size ≤ q) s s.heap := ⟨scr, x1, x2, x3, by omega, by rw [x4], x5, hA b hb⟩
  refine ⟨(D, cA, fun _ => 0, sg, s.heap.size, fun k => match k with | 0 => t0 | 1 => t1 | 2 => t2 | 3 => t3 | 4 => t4 | _ => b, sK, sV, (L, xs)), rfl, rfl, rfl, rfl, ⟨hK, Nat.le_refl _, hinj, hS, ⟨s0, s1, s2, s3, s4, s5⟩, fun i hi => (hT i hi).2, ⟨vx_Zqof (gz_tb hts gz_l3) (hg _ tn_java_lang_Throwable) (gz_ok h gz_p6) hA, vx_Zqof (gz_tb hts gz_l4) (hg _ tn_java_lang_Throwable) (gz_ok h gz_p7) hA, va_Zof (gz_tb hts gz_l5) (hg _ tn_J0) (va_eqi (gz_ok h gz_p8)) hA, va_Zqof (gz_tb hts gz_l6) (hg _ tn_J3) (gz_ok h gz_p9) hA⟩, fun w hw => ?_, gz_ms h hts, gz_ld hts (fun i hi => (hT i hi).1), ?_, va_AO.of (gz_tb hts gz_l11), hKA, gz_slw hts⟩, fun _ => ⟨va_AO.of (gz_tb hts gz_l7), va_AO.of (gz_tb hts gz_l8), va_AO.of (gz_tb hts gz_l9)⟩⟩
  · obtain ⟨hw1, hw2⟩ := List.mem_filter.mp hw
    exact va_Nw.of (gz_on hw2) (hts w (List.mem_append_right _ hw1))
  · exact gz_tb hts gz_l10
