set_option maxRecDepth 100000 in
set_option maxHeartbeats 4000000 in
theorem c_l_L_cell {l : Launch} {G : GL} {o : Nat → Int32} {x : CS} {y : MS} {p2 : Int32} {q : Int32} (h : f_l_L_cell (g_L G) (g_xs G) p2 = some q) : Met l yL_cell (.code yL_cell cL_cell 2 (Option.some Jvm.ClassFile.FieldType.int) :: gT) (h_lv 1 y) (va_Pc [.ref (g_st G 5), .int (p2)] (h_P G (x, y, o))) (h_Qi G y q (x, y, o)) (h_nx y - h_nx y) (h_sl y - h_sl y) (g_A G) := by
  unfold f_l_L_cell at h
  refine h_entry (by decide) (Nat.le_of_ble_eq_true rfl) (fun p e s m args below meth c ls C0 hl hW hin_ => ?_)
  have hl : lv_has ls 2 [(0, .ref (g_st G 5)), (1, .int (p2))] := hl
  refine lv_iload_n C0.hx C0.hb dL_cell_0 rfl (lv_at hl 1 rfl) ?_
  refine lv_aload_n C0.hx C0.hb dL_cell_1 rfl (lv_at hl 0 rfl) ?_
  refine h_xlen C0 hW dL_cell_2 ?_
  refine lv_icmp_ge (tgt := 12) C0.hx C0.hb dL_cell_3 (by decide) (fun hc1 => ?_) (fun hc1 => ?_)
  · replace h := (if_pos hc1).symm.trans h
    refine lv_ldc C0.hx C0.hb C0.hown (C0.hts _ tq_L_8) dL_cell_12 ?_
    refine lv_iload_n C0.hx C0.hb dL_cell_14 rfl (lv_at hl 1 rfl) ?_
    refine lv_iconst (v := (3 : Int32)) C0.hx C0.hb dL_cell_15 (by decide) ?_
    refine lv_iadd C0.hx C0.hb dL_cell_16 ?_
    refine lv_imul C0.hx C0.hb dL_cell_17 ?_
    obtain rfl := Option.some.inj h
    exact h_iret C0 hW rfl rfl dL_cell_18
  · replace h := (if_neg hc1).symm.trans h
    refine lv_aload_n C0.hx C0.hb dL_cell_6 rfl (lv_at hl 0 rfl) ?_
    refine lv_iload_n C0.hx C0.hb dL_cell_7 rfl (lv_at hl 1 rfl) ?_
    obtain ⟨hn2, h⟩ := g_if h
    refine h_xat C0 hW hn2 dL_cell_8 ?_
    refine lv_goto (tgt := 18) C0.hx C0.hb dL_cell_9 (by decide) ?_
    obtain rfl := Option.some.inj h
    exact h_iret C0 hW rfl rfl dL_cell_18
set_option maxRecDepth 100000 in
set_option maxHeartbeats 4000000 in
theorem w_l_L_taught_36 {p : Program} {l : Launch} {e : Env} {s : State} {m : MethodId} {args : Array Value} {below : List Frame} {meth : Method} {c : Code} {G : GL} {o : Nat → Int32} {y0 : MS} {q : Int32 × CS × MS} {k6 : Nat → Nat → Int32 → CS → MS → Option (Int32 × CS × MS)} {k17 : Nat → Nat → Int32 → Int32 → CS → MS → Option (Int32 × CS × MS)}  (C0 : g_X G (List.range 120) p s m args meth c cL_taught 6 RL (Option.some Jvm.ClassFile.FieldType.int)) (kt6 : ∀ (l1 : Nat) (l2 : Nat) (l3 : Int32) (x : CS) (y : MS) (H : Heap) (locs : List Loc) (ls : Array Slot), k6 l1 l2 l3 x y = some q → h_W G y0 (x, y, o) s.heap H locs → lv_has ls 6 [(0, .ref (g_ad G (0))), (1, .ref (g_sa G (l1))), (2, g_rf G (l2)), (3, .int (l3))] → W p l e (h_lv 120 y0) s m args below meth c H locs (h_nx y - h_nx y0) (h_sl y - h_sl y0) (MQ below (h_Qi G y0 q.1 (q.2.1, q.2.2, o)) args s (h_nx q.2.2 - h_nx y0) (h_sl q.2.2 - h_sl y0) (g_A G)) (F0 m 6 ls [])) (kt17 : ∀ (l1 : Nat) (l2 : Nat) (l3 : Int32) (l4 : Int32) (x : CS) (y : MS) (H : Heap) (locs : List Loc) (ls : Array Slot), k17 l1 l2 l3 l4 x y = some q → h_W G y0 (x, y, o) s.heap H locs → lv_has ls 6 [(0, .ref (g_ad G (0))), (1, .ref (g_sa G (l1))), (2, g_rf G (l2)), (3, .int (l3)), (4, .int (l4))] → W p l e (h_lv 120 y0) s m args below meth c H locs (h_nx y - h_nx y0) (h_sl y - h_sl y0) (MQ below (h_Qi G y0 q.1 (q.2.1, q.2.2, o)) args s (h_nx q.2.2 - h_nx y0) (h_sl q.2.2 - h_sl y0) (g_A G)) (F0 m 17 ls [])) : ∀ (n : Nat) (l1 : Nat) (l2 : Nat) (l3 : Int32) (l4 : Int32) (l5 : Int32) (x : CS) (y : MS) (H : Heap) (locs : List Loc) (ls : Array Slot), f_l_L_taught_36 k6 k17 n l1 l2 l3 l4 l5 x y = some q → h_W G y0 (x, y, o) s.heap H locs → lv_has ls 6 [(0, .ref (g_ad G (0))), (1, .ref (g_sa G (l1))), (2, g_rf G (l2)), (3, .int (l3)), (4, .int (l4)), (5, .int (l5))] → W p l e (h_lv 120 y0) s m args below meth c H locs (h_nx y - h_nx y0) (h_sl y - h_sl y0) (MQ below (h_Qi G y0 q.1 (q.2.1, q.2.2, o)) args s (h_nx q.2.2 - h_nx y0) (h_sl q.2.2 - h_sl y0) (g_A G)) (F0 m 36 ls []) := by
  intro n
  induction n with
  | zero =>
    intro l1 l2 l3 l4 l5 x y H locs ls h hW hl
    exact absurd h (by simp [f_l_L_taught_36])
  | succ n ih =>
    intro l1 l2 l3 l4 l5 x y H locs ls h hW hl
    unfold f_l_L_taught_36 at h
    refine lv_iload C0.hx C0.hb dL_taught_36 (lv_at hl 5 rfl) ?_
    refine lv_iload_n C0.hx C0.hb dL_taught_38 rfl (lv_at hl 3 rfl) ?_
    refine lv_iconst (v := (4 : Int32)) C0.hx C0.hb dL_taught_39 (by decide) ?_
    refine lv_iload C0.hx C0.hb dL_taught_40 (lv_at hl 4 rfl) ?_
    refine lv_imul C0.hx C0.hb dL_taught_42 ?_
    refine lv_iadd C0.hx C0.hb dL_taught_43 ?_
    refine lv_iconst (v := (4 : Int32)) C0.hx C0.hb dL_taught_44 (by decide) ?_
    refine lv_iadd C0.hx C0.hb dL_taught_45 ?_
    refine lv_icmp_ge (tgt := 87) C0.hx C0.hb dL_taught_46 (by decide) (fun hc22 => ?_) (fun hc22 => ?_)
    · replace h := (if_pos hc22).symm.trans h
      refine lv_iinc (v := l4 + (1 : Int32)) (lv' := [(4, .int (l4 + (1 : Int32))), (0, .ref (g_ad G (0))), (1, .ref (g_sa G (l1))), (2, g_rf G (l2)), (3, .int (l3)), (5, .int (l5))]) C0.hx C0.hb dL_taught_87 hl (k := 4) rfl rfl (by decide) rfl (fun ls hl => ?_)
      refine lv_goto (tgt := 17) C0.hx C0.hb dL_taught_90 (by decide) ?_
      have hz := kt17 _ _ _ _ _ _ _ _ _ h hW (lv_sub hl [1, 2, 3, 4, 0] rfl)
      exact hz
    · replace h := (if_neg hc22).symm.trans h
      refine h_aload_n C0.hx C0.hb dL_taught_49 rfl (lv_at hl 2 rfl) ?_
      refine lv_iload C0.hx C0.hb dL_taught_50 (lv_at hl 4 rfl) ?_
      refine h_aload_n C0.hx C0.hb dL_taught_52 rfl (lv_at hl 2 rfl) ?_
      refine lv_iload C0.hx C0.hb dL_taught_53 (lv_at hl 4 rfl) ?_
      obtain ⟨hk23, h⟩ := g_if h
      obtain ⟨hn24, h⟩ := g_if h
      refine ha_60 C0 hW hk23 hn24 dL_taught_55 ?_
      refine lv_bipush (v := (8 : Int32)) C0.hx C0.hb dL_taught_56 (by decide) ?_
      refine lv_ishl C0.hx C0.hb dL_taught_58 ?_
      refine lv_iload C0.hx C0.hb dL_taught_59 (lv_at hl 5 rfl) ?_
      refine lv_aload_n C0.hx C0.hb dL_taught_61 rfl (lv_at hl 1 rfl) ?_
      obtain ⟨hn25, h⟩ := g_if h
      obtain ⟨q26, hq26, h⟩ := Option.bind_eq_some_iff.mp h
      refine h_calli hW (h_runV (As := []) (rest := [.int (l5), .int ((h_I y l2 l4.toNatClampNeg) <<< ((8 : Int32) &&& 31)), .int (l4), g_rf G (l2)]) C0 hW rfl (h_srecv C0 hW hn25) (c_l_J0_length_8abf5 hq26) cy_J0_length_8abf5 (by omega) tm_L_9 ti_J0_length_8abf5 ts_J0_length_8abf5 rfl hl.1 rfl (by simp [g_catQ, h_ki, h_kr, h_kn, h_kl, h_kd]) dL_taught_62) (fun H locs hW => ?_)
      refine lv_icmp_ge (tgt := 77) C0.hx C0.hb dL_taught_65 (by decide) (fun hc27 => ?_) (fun hc27 => ?_)
      · replace h := (if_pos hc27).symm.trans h
        refine lv_bipush (v := (32 : Int32)) C0.hx C0.hb dL_taught_77 (by decide) ?_
        refine lv_ior C0.hx C0.hb dL_taught_79 ?_
        obtain ⟨hn28, h⟩ := g_if h
        refine hs_60 C0 hW hk23 hn28 dL_taught_80 (fun H locs hW => ?_)
        refine h_fwi hW ?_
        refine lv_iinc (v := l5 + (1 : Int32)) (lv' := [(5, .int (l5 + (1 : Int32))), (0, .ref (g_ad G (0))), (1, .ref (g_sa G (l1))), (2, g_rf G (l2)), (3, .int (l3)), (4, .int (l4))]) C0.hx C0.hb dL_taught_81 hl (k := 5) rfl rfl (by decide) rfl (fun ls hl => ?_)
        refine lv_goto (tgt := 36) C0.hx C0.hb dL_taught_84 (by decide) ?_
        have hz := ih _ _ _ _ _ _ _ _ _ _ h hW (lv_sub hl [1, 2, 3, 4, 5, 0] rfl)
        exact hz
      · replace h := (if_neg hc27).symm.trans h
        refine lv_aload_n C0.hx C0.hb dL_taught_68 rfl (lv_at hl 1 rfl) ?_
        refine lv_iload C0.hx C0.hb dL_taught_69 (lv_at hl 5 rfl) ?_
        obtain ⟨hn29, h⟩ := g_if h
        obtain ⟨q30, hq30, h⟩ := Option.bind_eq_some_iff.mp h
        refine h_calli hW (h_runV (As := [.int (l5)]) (rest := [.int ((h_I y l2 l4.toNatClampNeg) <<< ((8 : Int32) &&& 31)), .int (l4), g_rf G (l2)]) C0 hW rfl (h_srecv C0 hW hn29) (c_l_J0_charAt_5068e hq30) cy_J0_charAt_5068e (by omega) tm_L_15 ti_J0_charAt_5068e ts_J0_charAt_5068e rfl hl.1 rfl (by simp [g_catQ, h_ki, h_kr, h_kn, h_kl, h_kd]) dL_taught_71) (fun H locs hW => ?_)
        refine lv_goto (tgt := 79) C0.hx C0.hb dL_taught_74 (by decide) ?_
        refine lv_ior C0.hx C0.hb dL_taught_79 ?_
        obtain ⟨hn31, h⟩ := g_if h
        refine hs_60 C0 hW hk23 hn31 dL_taught_80 (fun H locs hW => ?_)
        refine h_fwi hW ?_
        refine lv_iinc (v := l5 + (1 : Int32)) (lv' := [(5, .int (l5 + (1 : Int32))), (0, .ref (g_ad G (0))), (1, .ref (g_sa G (l1))), (2, g_rf G (l2)), (3, .int (l3)), (4, .int (l4))]) C0.hx C0.hb dL_taught_81 hl (k := 5) rfl rfl (by decide) rfl (fun ls hl => ?_)
        refine lv_goto (tgt := 36) C0.hx C0.hb dL_taught_84 (by decide) ?_
        have hz := ih _ _ _ _ _ _ _ _ _ _ h hW (lv_sub hl [1, 2, 3, 4, 5, 0] rfl)
        exact hz
set_option maxRecDepth 100000 in
set_option maxHeartbeats 4000000 in
theorem w_l_L_taught_17 {p : Program} {l : Launch} {e : Env} {s : State} {m : MethodId} {args : Array Value} {below : List Frame} {meth : Method} {c : Code} {G : GL} {o : Nat → Int32} {y0 : MS} {q : Int32 × CS × MS} {k6 : Nat → Nat → Int32 → CS → MS → Option (Int32 × CS × MS)}  (C0 : g_X G (List.range 120) p s m args meth c cL_taught 6 RL (Option.some Jvm.ClassFile.FieldType.int)) (kt6 : ∀ (l1 : Nat) (l2 : Nat) (l3 : Int32) (x : CS) (y : MS) (H : Heap) (locs : List Loc) (ls : Array Slot), k6 l1 l2 l3 x y = some q → h_W G y0 (x, y, o) s.heap H locs → lv_has ls 6 [(0, .ref (g_ad G (0))), (1, .ref (g_sa G (l1))), (2, g_rf G (l2)), (3, .int (l3))] → W p l e (h_lv 120 y0) s m args below meth c H locs (h_nx y - h_nx y0) (h_sl y - h_sl y0) (MQ below (h_Qi G y0 q.1 (q.2.1, q.2.2, o)) args s (h_nx q.2.2 - h_nx y0) (h_sl q.2.2 - h_sl y0) (g_A G)) (F0 m 6 ls [])) : ∀ (n : Nat) (l1 : Nat) (l2 : Nat) (l3 : Int32) (l4 : Int32) (x : CS) (y : MS) (H : Heap) (locs : List Loc) (ls : Array Slot), f_l_L_taught_17 k6 n l1 l2 l3 l4 x y = some q → h_W G y0 (x, y, o) s.heap H locs → lv_has ls 6 [(0, .ref (g_ad G (0))), (1, .ref (g_sa G (l1))), (2, g_rf G (l2)), (3, .int (l3)), (4, .int (l4))] → W p l e (h_lv 120 y0) s m args below meth c H locs (h_nx y - h_nx y0) (h_sl y - h_sl y0) (MQ below (h_Qi G y0 q.1 (q.2.1, q.2.2, o)) args s (h_nx q.2.2 - h_nx y0) (h_sl q.2.2 - h_sl y0) (g_A G)) (F0 m 17 ls []) := by
  intro n
  induction n with
  | zero =>
    intro l1 l2 l3 l4 x y H locs ls h hW hl
    exact absurd h (by simp [f_l_L_taught_17])
  | succ n ih =>
    intro l1 l2 l3 l4 x y H locs ls h hW hl
    unfold f_l_L_taught_17 at h
    refine lv_iload C0.hx C0.hb dL_taught_17 (lv_at hl 4 rfl) ?_
    refine lv_iconst (v := (5 : Int32)) C0.hx C0.hb dL_taught_19 (by decide) ?_
    refine lv_icmp_ge (tgt := 93) C0.hx C0.hb dL_taught_20 (by decide) (fun hc12 => ?_) (fun hc12 => ?_)
    · replace h := (if_pos hc12).symm.trans h
      refine lv_aload_n C0.hx C0.hb dL_taught_93 rfl (lv_at hl 0 rfl) ?_
      refine h_aload_n C0.hx C0.hb dL_taught_94 rfl (lv_at hl 2 rfl) ?_
      refine lv_iconst (v := (0 : Int32)) C0.hx C0.hb dL_taught_95 (by decide) ?_
      obtain ⟨hk13, h⟩ := g_if h
      obtain ⟨hn14, h⟩ := g_if h
      refine ha_60 C0 hW hk13 hn14 dL_taught_96 ?_
      refine h_aload_n C0.hx C0.hb dL_taught_97 rfl (lv_at hl 2 rfl) ?_
      refine lv_iconst (v := (1 : Int32)) C0.hx C0.hb dL_taught_98 (by decide) ?_
      obtain ⟨hn15, h⟩ := g_if h
      refine ha_60 C0 hW hk13 hn15 dL_taught_99 ?_
      refine h_aload_n C0.hx C0.hb dL_taught_100 rfl (lv_at hl 2 rfl) ?_
      refine lv_iconst (v := (2 : Int32)) C0.hx C0.hb dL_taught_101 (by decide) ?_
      obtain ⟨hn16, h⟩ := g_if h
      refine ha_60 C0 hW hk13 hn16 dL_taught_102 ?_
      refine h_aload_n C0.hx C0.hb dL_taught_103 rfl (lv_at hl 2 rfl) ?_
      refine lv_iconst (v := (3 : Int32)) C0.hx C0.hb dL_taught_104 (by decide) ?_
      obtain ⟨hn17, h⟩ := g_if h
      refine ha_60 C0 hW hk13 hn17 dL_taught_105 ?_
      refine h_aload_n C0.hx C0.hb dL_taught_106 rfl (lv_at hl 2 rfl) ?_
      refine lv_iconst (v := (4 : Int32)) C0.hx C0.hb dL_taught_107 (by decide) ?_
      obtain ⟨hn18, h⟩ := g_if h
      refine ha_60 C0 hW hk13 hn18 dL_taught_108 ?_
      obtain ⟨q19, hq19, h⟩ := Option.bind_eq_some_iff.mp h
      refine h_kcalli hW (h_krunV (Sx := (x, y, o)) (As := [.int (h_I y l2 (0 : Int32).toNatClampNeg), .int (h_I y l2 (1 : Int32).toNatClampNeg), .int (h_I y l2 (2 : Int32).toNatClampNeg), .int (h_I y l2 (3 : Int32).toNatClampNeg), .int (h_I y l2 (4 : Int32).toNatClampNeg)]) (rest := []) C0 hW (c_X12_feed hq19) rfl ⟨tc_X12_feed, tn_X12, md_X12_feed, by decide⟩ (by omega) tm_L_19 ti_X12_feed ts_X12_feed rfl hl.1 rfl (Nat.le_of_ble_eq_true rfl) dL_taught_109) (fun H locs hW => ?_)
      refine lv_pop C0.hx C0.hb dL_taught_112 rfl ?_
      refine lv_iinc (v := l3 + (20 : Int32)) (lv' := [(3, .int (l3 + (20 : Int32))), (0, .ref (g_ad G (0))), (1, .ref (g_sa G (l1))), (2, g_rf G (l2)), (4, .int (l4))]) C0.hx C0.hb dL_taught_113 hl (k := 3) rfl rfl (by decide) (by simp [g_catQ]) (fun ls hl => ?_)
      refine lv_goto (tgt := 6) C0.hx C0.hb dL_taught_116 (by decide) ?_
      have hz := kt6 _ _ _ _ _ _ _ _ h hW (lv_sub hl [1, 2, 3, 0] rfl)
      exact hz
    · replace h := (if_neg hc12).symm.trans h
      refine h_aload_n C0.hx C0.hb dL_taught_23 rfl (lv_at hl 2 rfl) ?_
      refine lv_iload C0.hx C0.hb dL_taught_24 (lv_at hl 4 rfl) ?_
      refine lv_iconst (v := (0 : Int32)) C0.hx C0.hb dL_taught_26 (by decide) ?_
      obtain ⟨hk20, h⟩ := g_if h
      obtain ⟨hn21, h⟩ := g_if h
      refine hs_60 C0 hW hk20 hn21 dL_taught_27 (fun H locs hW => ?_)
      refine h_fwi hW ?_
      refine lv_iload_n C0.hx C0.hb dL_taught_28 rfl (lv_at hl 3 rfl) ?_
      refine lv_iconst (v := (4 : Int32)) C0.hx C0.hb dL_taught_29 (by decide) ?_
      refine lv_iload C0.hx C0.hb dL_taught_30 (lv_at hl 4 rfl) ?_
      refine lv_imul C0.hx C0.hb dL_taught_32 ?_
      refine lv_iadd C0.hx C0.hb dL_taught_33 ?_
      refine lv_istore (lv' := [(5, .int (l3 + ((4 : Int32) * l4))), (0, .ref (g_ad G (0))), (1, .ref (g_sa G (l1))), (2, g_rf G (l2)), (3, .int (l3)), (4, .int (l4))]) C0.hx C0.hb dL_taught_34 hl (by decide) rfl (fun ls hl => ?_)
      have hz := w_l_L_taught_36 (l := l) (e := e) (below := below) C0 kt6 ih g_fuel _ _ _ _ _ _ _ _ _ _ h hW (lv_sub hl [1, 2, 3, 4, 5, 0] rfl)
      exact hz
set_option maxRecDepth 100000 in
set_option maxHeartbeats 4000000 in
theorem w_l_L_taught_6 {p : Program} {l : Launch} {e : Env} {s : State} {m : MethodId} {args : Array Value} {below : List Frame} {meth : Method} {c : Code} {G : GL} {o : Nat → Int32} {y0 : MS} {q : Int32 × CS × MS}  (C0 : g_X G (List.range 120) p s m args meth c cL_taught 6 RL (Option.some Jvm.ClassFile.FieldType.int))  : ∀ (n : Nat) (l1 : Nat) (l2 : Nat) (l3 : Int32) (x : CS) (y : MS) (H : Heap) (locs : List Loc) (ls : Array Slot), f_l_L_taught_6 n l1 l2 l3 x y = some q → h_W G y0 (x, y, o) s.heap H locs → lv_has ls 6 [(0, .ref (g_ad G (0))), (1, .ref (g_sa G (l1))), (2, g_rf G (l2)), (3, .int (l3))] → W p l e (h_lv 120 y0) s m args below meth c H locs (h_nx y - h_nx y0) (h_sl y - h_sl y0) (MQ below (h_Qi G y0 q.1 (q.2.1, q.2.2, o)) args s (h_nx q.2.2 - h_nx y0) (h_sl q.2.2 - h_sl y0) (g_A G)) (F0 m 6 ls []) := by
  intro n
  induction n with
  | zero =>
    intro l1 l2 l3 x y H locs ls h hW hl
    exact absurd h (by simp [f_l_L_taught_6])
  | succ n ih =>
    intro l1 l2 l3 x y H locs ls h hW hl
    unfold f_l_L_taught_6 at h
    refine lv_iload_n C0.hx C0.hb dL_taught_6 rfl (lv_at hl 3 rfl) ?_
    refine lv_aload_n C0.hx C0.hb dL_taught_7 rfl (lv_at hl 1 rfl) ?_
    obtain ⟨hn3, h⟩ := g_if h
    obtain ⟨q4, hq4, h⟩ := Option.bind_eq_some_iff.mp h
    refine h_calli hW (h_runV (As := []) (rest := [.int (l3)]) C0 hW rfl (h_srecv C0 hW hn3) (c_l_J0_length_8abf5 hq4) cy_J0_length_8abf5 (by omega) tm_L_9 ti_J0_length_8abf5 ts_J0_length_8abf5 rfl hl.1 rfl (Nat.le_of_ble_eq_true rfl) dL_taught_8) (fun H locs hW => ?_)
    refine lv_icmp_ge (tgt := 119) C0.hx C0.hb dL_taught_11 (by decide) (fun hc5 => ?_) (fun hc5 => ?_)
    · replace h := (if_pos hc5).symm.trans h
      refine lv_aload_n C0.hx C0.hb dL_taught_119 rfl (lv_at hl 0 rfl) ?_
      refine lv_aload_n C0.hx C0.hb dL_taught_120 rfl (lv_at hl 1 rfl) ?_
      obtain ⟨hn6, h⟩ := g_if h
      obtain ⟨q7, hq7, h⟩ := Option.bind_eq_some_iff.mp h
      refine h_calli hW (h_runV (As := []) (rest := [.ref (g_ad G (0))]) C0 hW rfl (h_srecv C0 hW hn6) (c_l_J0_length_8abf5 hq7) cy_J0_length_8abf5 (by omega) tm_L_9 ti_J0_length_8abf5 ts_J0_length_8abf5 rfl hl.1 rfl (Nat.le_of_ble_eq_true rfl) dL_taught_121) (fun H locs hW => ?_)
      obtain ⟨q8, hq8, h⟩ := Option.bind_eq_some_iff.mp h
      refine h_kcalli hW (h_krunV (Sx := (x, y, o)) (As := [.int (q7)]) (rest := []) C0 hW (c_X12_trim hq8) rfl ⟨tc_X12_trim, tn_X12, md_X12_trim, by decide⟩ (by omega) tm_L_25 ti_X12_trim ts_X12_trim rfl hl.1 rfl (Nat.le_of_ble_eq_true rfl) dL_taught_124) (fun H locs hW => ?_)
      refine lv_pop C0.hx C0.hb dL_taught_127 rfl ?_
      refine lv_aload_n C0.hx C0.hb dL_taught_128 rfl (lv_at hl 0 rfl) ?_
      obtain ⟨hn10, h⟩ := g_if h
      obtain ⟨q9, hq9, h⟩ := Option.bind_eq_some_iff.mp h
      obtain ⟨hn11, h⟩ := g_if h
      refine h_kteach C0 hW hn10 hn11 hq9 tm_L_29 (by omega) (Nat.le_of_ble_eq_true rfl) hl.1 dL_taught_129 (fun H locs hW => ?_)
      obtain rfl := Option.some.inj h
      exact h_iret C0 hW rfl rfl dL_taught_132
    · replace h := (if_neg hc5).symm.trans h
      refine lv_iconst (v := (0 : Int32)) C0.hx C0.hb dL_taught_14 (by decide) ?_
      refine lv_istore (lv' := [(4, .int ((0 : Int32))), (0, .ref (g_ad G (0))), (1, .ref (g_sa G (l1))), (2, g_rf G (l2)), (3, .int (l3))]) C0.hx C0.hb dL_taught_15 hl (by decide) rfl (fun ls hl => ?_)
      have hz := w_l_L_taught_17 (l := l) (e := e) (below := below) C0 ih g_fuel _ _ _ _ _ _ _ _ _ h hW (lv_sub hl [1, 2, 3, 4, 0] rfl)
      exact hz
set_option maxRecDepth 100000 in
set_option maxHeartbeats 4000000 in
theorem c_l_L_taught {l : Launch} {G : GL} {o : Nat → Int32} {x : CS} {y : MS} {p2 : Nat} {q : Int32 × CS × MS} (h : f_l_L_taught p2 x y = some q) : Met l yL_taught (.code yL_taught cL_taught 6 (Option.some Jvm.ClassFile.FieldType.int) :: gT) (h_lv 120 y) (va_Pc [.ref (g_ad G (0)), .ref (g_sa G (p2))] (h_P G (x, y, o))) (h_Qi G y q.1 (q.2.1, q.2.2, o)) (h_nx q.2.2 - h_nx y) (h_sl q.2.2 - h_sl y) (g_A G) := by
  unfold f_l_L_taught at h
  refine h_entry (by decide) (Nat.le_of_ble_eq_true rfl) (fun p e s m args below meth c ls C0 hl hW hin_ => ?_)
  have hl : lv_has ls 6 [(0, .ref (g_ad G (0))), (1, .ref (g_sa G (p2)))] := hl
  refine lv_iconst (v := (5 : Int32)) C0.hx C0.hb dL_taught_0 (by decide) ?_
  obtain ⟨hn1, h⟩ := g_if h
  obtain ⟨hn2, h⟩ := g_if h
  refine hn_60 C0 hW hn1 hn2 dL_taught_1 (fun H hW => ?_)
  refine h_astore_n (lv' := [(2, g_rf G (h_nx y)), (0, .ref (g_ad G (0))), (1, .ref (g_sa G (p2)))]) C0.hx C0.hb dL_taught_3 rfl hl (by decide) rfl (fun ls hl => ?_)
  refine lv_iconst (v := (0 : Int32)) C0.hx C0.hb dL_taught_4 (by decide) ?_
  refine lv_istore_n (i := 3) (lv' := [(3, .int ((0 : Int32))), (2, g_rf G (h_nx y)), (0, .ref (g_ad G (0))), (1, .ref (g_sa G (p2)))]) C0.hx C0.hb dL_taught_5 rfl hl (by decide) (by simp [g_catQ]) (fun ls hl => ?_)
  have hz := w_l_L_taught_6 (l := l) (e := e) (below := below) C0 g_fuel _ _ _ _ _ _ _ _ h hW (lv_sub hl [2, 3, 1, 0] rfl)
  exact hz
