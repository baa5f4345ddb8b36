set_option maxRecDepth 100000 in
set_option maxHeartbeats 4000000 in
theorem c_l_X13_init {l : Launch} {G : GL} {o : Nat → Int32} {x : CS} {y : MS} {t : Nat} {p1 : Int32} {q : MS} (h : f_l_X13_init t p1 y = some q) : Met l yX13_init (.code yX13_init cX13_init 2 (Option.none : Option Jvm.ClassFile.FieldType) :: gT) (h_lv 1 y) (va_Pc [g_rf G (t), .int (p1)] (h_P G (x, y, o))) (h_Qv G y (x, q, o)) (h_nx q - h_nx y) (h_sl q - h_sl y) (g_A G) := by
  unfold f_l_X13_init at h
  refine h_entry (by decide) (by simp [lg_sl, g_catQ, h_ki, h_kr, h_kn, h_kl, h_kd]) (fun p e s m args below meth c ls C0 hl hW hin_ => ?_)
  have hl : lv_has ls 2 [(0, g_rf G (t)), (1, .int (p1))] := by simpa [lv_args, g_catQ, h_ki, h_kr, h_kn, h_kl, h_kd] using hl
  refine h_aload_n C0.hx C0.hb dX13_init_0 rfl (lv_at hl 0 rfl) ?_
  obtain ⟨hk1, h⟩ := g_if h
  refine h_objInit C0 hW (h_ne hk1 (by decide)) tm_X13_1 hl.1 (by show 1 ≤ 1; omega) (Nat.le_of_ble_eq_true rfl) dX13_init_1 ?_
  refine h_aload_n C0.hx C0.hb dX13_init_4 rfl (lv_at hl 0 rfl) ?_
  refine lv_iload_n C0.hx C0.hb dX13_init_5 rfl (lv_at hl 1 rfl) ?_
  refine hp_X13_0 C0 hW hk1 tf_X13_7 dX13_init_6 (fun H locs hW => ?_)
  refine h_fwi hW ?_
  obtain rfl := Option.some.inj h
  exact h_vret C0 hW rfl dX13_init_9
set_option maxRecDepth 100000 in
set_option maxHeartbeats 4000000 in
theorem c_l_L_below {l : Launch} {G : GL} {o : Nat → Int32} {x : CS} {y : MS} {p1 : Int32} {p2 : Int32} {q : Int32} (h : f_l_L_below p1 p2 = some q) : Met l yL_below (.code yL_below cL_below 2 (Option.some Jvm.ClassFile.FieldType.int) :: gT) (h_lv 1 y) (va_Pc [.int (p1), .int (p2)] (h_P G (x, y, o))) (h_Qi G y q (x, y, o)) (h_nx y - h_nx y) (h_sl y - h_sl y) (g_A G) := by
  unfold f_l_L_below at h
  refine h_entry (by decide) (Nat.le_of_ble_eq_true rfl) (fun p e s m args below meth c ls C0 hl hW hin_ => ?_)
  have hl : lv_has ls 2 [(0, .int (p1)), (1, .int (p2))] := hl
  refine lv_iload_n C0.hx C0.hb dL_below_0 rfl (lv_at hl 0 rfl) ?_
  refine lv_ldc C0.hx C0.hb C0.hown (C0.hts _ tq_L_7) dL_below_1 ?_
  refine lv_iand C0.hx C0.hb dL_below_3 ?_
  refine lv_iload_n C0.hx C0.hb dL_below_4 rfl (lv_at hl 1 rfl) ?_
  obtain ⟨hn1, h⟩ := g_if h
  refine lv_irem C0.hx C0.hb dL_below_5 hn1 ?_
  obtain rfl := Option.some.inj h
  exact h_iret C0 hW rfl rfl dL_below_6
set_option maxRecDepth 100000 in
set_option maxHeartbeats 4000000 in
theorem c_l_X13_next {l : Launch} {G : GL} {o : Nat → Int32} {x : CS} {y : MS} {t : Nat} {p1 : Int32} {q : Int32 × MS} (h : f_l_X13_next t p1 y = some q) : Met l yX13_next (.code yX13_next cX13_next 2 (Option.some Jvm.ClassFile.FieldType.int) :: gT) (h_lv 2 y) (va_Pc [g_rf G (t), .int (p1)] (h_P G (x, y, o))) (h_Qi G y q.1 (x, q.2, o)) (h_nx q.2 - h_nx y) (h_sl q.2 - h_sl y) (g_A G) := by
  unfold f_l_X13_next at h
  refine h_entry (by decide) (by simp [lg_sl, g_catQ, h_ki, h_kr, h_kn, h_kl, h_kd]) (fun p e s m args below meth c ls C0 hl hW hin_ => ?_)
  have hl : lv_has ls 2 [(0, g_rf G (t)), (1, .int (p1))] := by simpa [lv_args, g_catQ, h_ki, h_kr, h_kn, h_kl, h_kd] using hl
  refine h_aload_n C0.hx C0.hb dX13_next_0 rfl (lv_at hl 0 rfl) ?_
  refine h_aload_n C0.hx C0.hb dX13_next_1 rfl (lv_at hl 0 rfl) ?_
  obtain ⟨hk1, h⟩ := g_if h
  refine hf_X13_0 C0 hW hk1 tf_X13_7 dX13_next_2 ?_
  refine lv_ldc C0.hx C0.hb C0.hown (C0.hts _ tq_X13_13) dX13_next_5 ?_
  refine lv_imul C0.hx C0.hb dX13_next_7 ?_
  refine lv_sipush (v := (12345 : Int32)) C0.hx C0.hb dX13_next_8 (by decide) ?_
  refine lv_iadd C0.hx C0.hb dX13_next_11 ?_
  refine hp_X13_0 C0 hW hk1 tf_X13_7 dX13_next_12 (fun H locs hW => ?_)
  refine h_fwi hW ?_
  refine h_aload_n C0.hx C0.hb dX13_next_15 rfl (lv_at hl 0 rfl) ?_
  refine hf_X13_0 C0 hW hk1 tf_X13_7 dX13_next_16 ?_
  refine lv_bipush (v := (9 : Int32)) C0.hx C0.hb dX13_next_19 (by decide) ?_
  refine lv_ishr C0.hx C0.hb dX13_next_21 ?_
  refine lv_iload_n C0.hx C0.hb dX13_next_22 rfl (lv_at hl 1 rfl) ?_
  obtain ⟨q2, hq2, h⟩ := Option.bind_eq_some_iff.mp h
  refine h_calli hW (h_runSN (As := [.int ((h_I (h_wi y t 0 (((h_I y t 0) * (1103515245 : Int32)) + (12345 : Int32))) t 0) >>> ((9 : Int32) &&& 31)), .int (p1)]) (rest := []) C0 hW (c_l_L_below hq2) cy_L_below (by omega) tmN_X13_14 tz_L_below rfl hl.1 rfl (Nat.le_of_ble_eq_true rfl) dX13_next_23) (fun H locs hW => ?_)
  obtain rfl := Option.some.inj h
  exact h_iret C0 hW rfl rfl dX13_next_26
set_option maxRecDepth 100000 in
set_option maxHeartbeats 4000000 in
theorem c_l_X14_init {l : Launch} {G : GL} {o : Nat → Int32} {x : CS} {y : MS} {t : Nat} {p1 : Int32} {p2 : Int32} {p3 : Nat} {p4 : Nat} {q : MS} (h : f_l_X14_init t p1 p2 p3 p4 y = some q) : Met l yX14_init (.code yX14_init cX14_init 5 (Option.none : Option Jvm.ClassFile.FieldType) :: gT) (h_lv 1 y) (va_Pc [g_rf G (t), .int (p1), .int (p2), g_rf G (p3), g_rf G (p4)] (h_P G (x, y, o))) (h_Qv G y (x, q, o)) (h_nx q - h_nx y) (h_sl q - h_sl y) (g_A G) := by
  unfold f_l_X14_init at h
  refine h_entry (by decide) (by simp [lg_sl, g_catQ, h_ki, h_kr, h_kn, h_kl, h_kd]) (fun p e s m args below meth c ls C0 hl hW hin_ => ?_)
  have hl : lv_has ls 5 [(0, g_rf G (t)), (1, .int (p1)), (2, .int (p2)), (3, g_rf G (p3)), (4, g_rf G (p4))] := by simpa [lv_args, g_catQ, h_ki, h_kr, h_kn, h_kl, h_kd] using hl
  refine h_aload_n C0.hx C0.hb dX14_init_0 rfl (lv_at hl 0 rfl) ?_
  obtain ⟨hk1, h⟩ := g_if h
  refine h_objInit C0 hW (h_ne hk1 (by decide)) tm_X14_1 hl.1 (by show 1 ≤ 1; omega) (Nat.le_of_ble_eq_true rfl) dX14_init_1 ?_
  refine h_aload_n C0.hx C0.hb dX14_init_4 rfl (lv_at hl 0 rfl) ?_
  refine lv_iload_n C0.hx C0.hb dX14_init_5 rfl (lv_at hl 1 rfl) ?_
  refine hp_X14_0 C0 hW hk1 tf_X14_7 (hin_ rfl) rfl dX14_init_6 (fun H locs hW => ?_)
  refine h_fwi hW ?_
  refine h_aload_n C0.hx C0.hb dX14_init_9 rfl (lv_at hl 0 rfl) ?_
  refine lv_iload_n C0.hx C0.hb dX14_init_10 rfl (lv_at hl 2 rfl) ?_
  refine hp_X14_1 C0 hW hk1 tf_X14_13 (hin_ rfl) rfl dX14_init_11 (fun H locs hW => ?_)
  refine h_fwi hW ?_
  refine h_aload_n C0.hx C0.hb dX14_init_14 rfl (lv_at hl 0 rfl) ?_
  refine h_aload_n C0.hx C0.hb dX14_init_15 rfl (lv_at hl 3 rfl) ?_
  refine hp_X14_2 C0 hW hk1 tf_X14_16 (hin_ rfl) rfl dX14_init_16 (fun H locs hW => ?_)
  refine h_fwr hW ?_
  refine h_aload_n C0.hx C0.hb dX14_init_19 rfl (lv_at hl 0 rfl) ?_
  refine h_aload C0.hx C0.hb dX14_init_20 (lv_at hl 4 rfl) ?_
  refine hp_X14_3 C0 hW hk1 tf_X14_20 (hin_ rfl) rfl dX14_init_22 (fun H locs hW => ?_)
  refine h_fwr hW ?_
  obtain rfl := Option.some.inj h
  exact h_vret C0 hW rfl dX14_init_25
set_option maxRecDepth 100000 in
set_option maxHeartbeats 4000000 in
theorem c_l_X14_sum {l : Launch} {G : GL} {o : Nat → Int32} {x : CS} : ∀ (n : Nat) (p1 : Nat) (p2 : Int32) (p3 : Int32) (y : MS) (q : Nat × MS), f_l_X14_sum n p1 p2 p3 y = some q → Met l yX14_sum (.code yX14_sum cX14_sum 5 (Option.some (Jvm.ClassFile.FieldType.object "GlideWhistlesLaw$Node")) :: gT) (h_lv (20 + 4 * n) y) (va_Pc [g_rf G (p1), .int (p2), .int (p3)] (h_P G (x, y, o))) (h_Qr G y (g_rf G (q.1)) (x, q.2, o)) (h_nx q.2 - h_nx y) (h_sl q.2 - h_sl y) (g_A G) := by
  intro n
  induction n with
  | zero =>
    intro p1 p2 p3 y q h
    exact absurd h (by simp [f_l_X14_sum])
  | succ n ihn =>
    intro p1 p2 p3 y q h
    unfold f_l_X14_sum at h
    refine h_entry (by decide) (by simp [lg_sl, g_catQ, h_ki, h_kr, h_kn, h_kl, h_kd]) (fun p e s m args below meth c ls C0 hl hW hin_ => ?_)
    have hl : lv_has ls 5 [(0, g_rf G (p1)), (1, .int (p2)), (2, .int (p3))] := by simpa [lv_args, g_catQ, h_ki, h_kr, h_kn, h_kl, h_kd] using hl
    refine h_aload_n C0.hx C0.hb dX14_sum_0 rfl (lv_at hl 0 rfl) ?_
    refine lv_iload_n C0.hx C0.hb dX14_sum_1 rfl (lv_at hl 2 rfl) ?_
    refine lv_if_ne (tgt := 9) C0.hx C0.hb dX14_sum_2 (by decide) (fun hc1 => ?_) (fun hc1 => ?_)
    · replace h := (if_neg hc1).symm.trans h
      refine lv_bipush (v := (12 : Int32)) C0.hx C0.hb dX14_sum_9 (by decide) ?_
      obtain ⟨hk2, h⟩ := g_if h
      obtain ⟨q3, hq3, h⟩ := Option.bind_eq_some_iff.mp h
      refine h_calli hW (h_runV (As := [.int ((12 : Int32))]) (rest := []) C0 hW (hW.rf (h_ne hk2 (by decide))) (h_recv C0 hW (h_ne hk2 (by decide)) (h_c50 hk2) rfl) (c_l_X13_next hq3) cy_X13_next (by omega) tm_X14_23 ti_X13_next ts_X13_next rfl hl.1 rfl (Nat.le_of_ble_eq_true rfl) dX14_sum_11) (fun H locs hW => ?_)
      refine lv_istore_n (lv' := [(3, .int (q3.1)), (0, g_rf G (p1)), (1, .int (p2)), (2, .int (p3))]) C0.hx C0.hb dX14_sum_14 rfl hl (by decide) rfl (fun ls hl => ?_)
      refine lv_iload_n C0.hx C0.hb dX14_sum_15 rfl (lv_at hl 0 rfl) ?_
      refine lv_iconst (v := (5 : Int32)) C0.hx C0.hb dX14_sum_16 (by decide) ?_
      refine lv_icmp_ge (tgt := 67) C0.hx C0.hb dX14_sum_17 (by decide) (fun hc4 => ?_) (fun hc4 => ?_)
      · replace h := (if_pos hc4).symm.trans h
        refine h_aload_n C0.hx C0.hb dX14_sum_67 rfl (lv_at hl 1 rfl) ?_
        refine lv_iload_n C0.hx C0.hb dX14_sum_68 rfl (lv_at hl 2 rfl) ?_
        refine lv_iload_n C0.hx C0.hb dX14_sum_69 rfl (lv_at hl 3 rfl) ?_
        refine lv_iconst (v := (1 : Int32)) C0.hx C0.hb dX14_sum_70 (by decide) ?_
        refine lv_isub C0.hx C0.hb dX14_sum_71 ?_
        obtain ⟨q5, hq5, h⟩ := Option.bind_eq_some_iff.mp h
        refine h_callr hW (h_runS (As := [g_rf G (p1), .int (p2), .int (p3 - (1 : Int32))]) (rest := []) C0 hW (ihn _ _ _ _ _ hq5) cy_X14_sum (by omega) tm_X14_33 tz_X14_sum rfl hl.1 rfl (Nat.le_of_ble_eq_true rfl) dX14_sum_72) (fun H locs hW => ?_)
        refine h_astore (lv' := [(4, g_rf G (q5.1)), (3, .int (q3.1)), (0, g_rf G (p1)), (1, .int (p2)), (2, .int (p3))]) C0.hx C0.hb dX14_sum_75 hl (by decide) rfl (fun ls hl => ?_)
        obtain ⟨hn6, h⟩ := g_if h
        refine hno_51 C0 hW hn6 tl_X14_8 dX14_sum_77 (fun H hW => ?_)
        refine lv_dup C0.hx C0.hb dX14_sum_80 g_catQ ?_
        refine lv_iload_n C0.hx C0.hb dX14_sum_81 rfl (lv_at hl 1 rfl) ?_
        refine lv_iconst (v := (0 : Int32)) C0.hx C0.hb dX14_sum_82 (by decide) ?_
        refine h_aload C0.hx C0.hb dX14_sum_83 (lv_at hl 0 rfl) ?_
        refine lv_iload_n C0.hx C0.hb dX14_sum_85 rfl (lv_at hl 1 rfl) ?_
        refine lv_iconst (v := (5 : Int32)) C0.hx C0.hb dX14_sum_86 (by decide) ?_
        refine lv_icmp_ne (tgt := 94) C0.hx C0.hb dX14_sum_87 (by decide) (fun hc7 => ?_) (fun hc7 => ?_)
        · replace h := (if_neg hc7).symm.trans h
          refine h_aload_n C0.hx C0.hb dX14_sum_94 rfl (lv_at hl 2 rfl) ?_
          refine lv_iload_n C0.hx C0.hb dX14_sum_95 rfl (lv_at hl 3 rfl) ?_
          refine lv_iload_n C0.hx C0.hb dX14_sum_96 rfl (lv_at hl 4 rfl) ?_
          refine lv_iconst (v := (1 : Int32)) C0.hx C0.hb dX14_sum_97 (by decide) ?_
          refine lv_isub C0.hx C0.hb dX14_sum_98 ?_
          obtain ⟨q8, hq8, h⟩ := Option.bind_eq_some_iff.mp h
          refine h_callr hW (h_runS (As := [g_rf G (p1), .int (p2), .int (p3 - (1 : Int32))]) (rest := [g_rf G (q5.1), .int ((0 : Int32)), .int (q3.1), g_rf G (h_nx q5.2), g_rf G (h_nx q5.2)]) C0 hW (ihn _ _ _ _ _ hq8) cy_X14_sum (by omega) tm_X14_33 tz_X14_sum rfl hl.1 rfl (by simp [g_catQ, h_ki, h_kr, h_kn, h_kl, h_kd]) dX14_sum_99) (fun H locs hW => ?_)
          obtain ⟨hk9, h⟩ := g_if h
          obtain ⟨q10, hq10, h⟩ := Option.bind_eq_some_iff.mp h
          refine h_callv hW (h_runI (As := [.int (q3.1), .int ((0 : Int32)), g_rf G (q5.1), g_rf G (q8.1)]) (rest := [g_rf G (h_nx q5.2)]) C0 hW (hW.rf (h_ne hk9 (by decide))) (c_l_X14_init hq10) cy_X14_init (by omega) tm_X14_30 ti_X14_init rfl rfl hl.1 rfl (by simp [g_catQ, h_ki, h_kr, h_kn, h_kl, h_kd]) dX14_sum_102) (fun H locs hW => ?_)
          obtain ⟨hk11, h⟩ := g_if h
          obtain rfl := Option.some.inj h
          exact h_aretC C0 hW (hW.rf (h_ne hk11 (by decide))) rfl dX14_sum_105
        · replace h := (if_pos hc7).symm.trans h
          refine h_null (G := G) C0.hx C0.hb dX14_sum_90 ?_
          refine lv_goto (tgt := 102) C0.hx C0.hb dX14_sum_91 (by decide) ?_
          obtain ⟨hk12, h⟩ := g_if h
          obtain ⟨q13, hq13, h⟩ := Option.bind_eq_some_iff.mp h
          refine h_callv hW (h_runI (As := [.int (q3.1), .int ((0 : Int32)), g_rf G (q5.1), g_rf G (0)]) (rest := [g_rf G (h_nx q5.2)]) C0 hW (hW.rf (h_ne hk12 (by decide))) (c_l_X14_init hq13) cy_X14_init (by omega) tm_X14_30 ti_X14_init rfl rfl hl.1 rfl (by simp [g_catQ, h_ki, h_kr, h_kn, h_kl, h_kd]) dX14_sum_102) (fun H locs hW => ?_)
          obtain ⟨hk14, h⟩ := g_if h
          obtain rfl := Option.some.inj h
          exact h_aretC C0 hW (hW.rf (h_ne hk14 (by decide))) rfl dX14_sum_105
      · replace h := (if_neg hc4).symm.trans h
        obtain ⟨hn15, h⟩ := g_if h
        refine hno_51 C0 hW hn15 tl_X14_8 dX14_sum_20 (fun H hW => ?_)
        refine lv_dup C0.hx C0.hb dX14_sum_23 g_catQ ?_
        refine lv_iload_n C0.hx C0.hb dX14_sum_24 rfl (lv_at hl 0 rfl) ?_
        refine lv_iload_n C0.hx C0.hb dX14_sum_25 rfl (lv_at hl 0 rfl) ?_
        refine lv_if_le (tgt := 37) C0.hx C0.hb dX14_sum_26 (by decide) (fun hc16 => ?_) (fun hc16 => ?_)
        · replace h := (if_pos hc16).symm.trans h
          refine h_aload_n C0.hx C0.hb dX14_sum_37 rfl (lv_at hl 1 rfl) ?_
          refine lv_bipush (v := (7 : Int32)) C0.hx C0.hb dX14_sum_38 (by decide) ?_
          obtain ⟨hk17, h⟩ := g_if h
          obtain ⟨q18, hq18, h⟩ := Option.bind_eq_some_iff.mp h
          refine h_calli hW (h_runV (As := [.int ((7 : Int32))]) (rest := [.int (q3.1), g_rf G (h_nx q3.2), g_rf G (h_nx q3.2)]) C0 hW (hW.rf (h_ne hk17 (by decide))) (h_recv C0 hW (h_ne hk17 (by decide)) (h_c50 hk17) rfl) (c_l_X13_next hq18) cy_X13_next (by omega) tm_X14_23 ti_X13_next ts_X13_next rfl hl.1 rfl (by simp [g_catQ, h_ki, h_kr, h_kn, h_kl, h_kd]) dX14_sum_40) (fun H locs hW => ?_)
          refine lv_if_ne (tgt := 55) C0.hx C0.hb dX14_sum_43 (by decide) (fun hc19 => ?_) (fun hc19 => ?_)
          · replace h := (if_neg hc19).symm.trans h
            refine h_aload_n C0.hx C0.hb dX14_sum_55 rfl (lv_at hl 1 rfl) ?_
            refine lv_bipush (v := (20 : Int32)) C0.hx C0.hb dX14_sum_56 (by decide) ?_
            obtain ⟨hk20, h⟩ := g_if h
            obtain ⟨q21, hq21, h⟩ := Option.bind_eq_some_iff.mp h
            refine h_calli hW (h_runV (As := [.int ((20 : Int32))]) (rest := [.int (q3.1), g_rf G (h_nx q3.2), g_rf G (h_nx q3.2)]) C0 hW (hW.rf (h_ne hk20 (by decide))) (h_recv C0 hW (h_ne hk20 (by decide)) (h_c50 hk20) rfl) (c_l_X13_next hq21) cy_X13_next (by omega) tm_X14_23 ti_X13_next ts_X13_next rfl hl.1 rfl (by simp [g_catQ, h_ki, h_kr, h_kn, h_kl, h_kd]) dX14_sum_58) (fun H locs hW => ?_)
            refine h_null (G := G) C0.hx C0.hb dX14_sum_61 ?_
            refine h_null (G := G) C0.hx C0.hb dX14_sum_62 ?_
            obtain ⟨hk22, h⟩ := g_if h
            obtain ⟨q23, hq23, h⟩ := Option.bind_eq_some_iff.mp h
            refine h_callv hW (h_runI (As := [.int (q3.1), .int (q21.1), g_rf G (0), g_rf G (0)]) (rest := [g_rf G (h_nx q3.2)]) C0 hW (hW.rf (h_ne hk22 (by decide))) (c_l_X14_init hq23) cy_X14_init (by omega) tm_X14_30 ti_X14_init rfl rfl hl.1 rfl (by simp [g_catQ, h_ki, h_kr, h_kn, h_kl, h_kd]) dX14_sum_63) (fun H locs hW => ?_)
            obtain ⟨hk24, h⟩ := g_if h
            obtain rfl := Option.some.inj h
            exact h_aretC C0 hW (hW.rf (h_ne hk24 (by decide))) rfl dX14_sum_66
          · replace h := (if_pos hc19).symm.trans h
            refine h_aload_n C0.hx C0.hb dX14_sum_46 rfl (lv_at hl 1 rfl) ?_
            refine lv_ldc C0.hx C0.hb C0.hown (C0.hts _ tq_X14_29) dX14_sum_47 ?_
            obtain ⟨hk25, h⟩ := g_if h
            obtain ⟨q26, hq26, h⟩ := Option.bind_eq_some_iff.mp h
            refine h_calli hW (h_runV (As := [.int ((1000000 : Int32))]) (rest := [.int (q3.1), g_rf G (h_nx q3.2), g_rf G (h_nx q3.2)]) C0 hW (hW.rf (h_ne hk25 (by decide))) (h_recv C0 hW (h_ne hk25 (by decide)) (h_c50 hk25) rfl) (c_l_X13_next hq26) cy_X13_next (by omega) tm_X14_23 ti_X13_next ts_X13_next rfl hl.1 rfl (by simp [g_catQ, h_ki, h_kr, h_kn, h_kl, h_kd]) dX14_sum_49) (fun H locs hW => ?_)
            refine lv_goto (tgt := 61) C0.hx C0.hb dX14_sum_52 (by decide) ?_
            refine h_null (G := G) C0.hx C0.hb dX14_sum_61 ?_
            refine h_null (G := G) C0.hx C0.hb dX14_sum_62 ?_
            obtain ⟨hk27, h⟩ := g_if h
            obtain ⟨q28, hq28, h⟩ := Option.bind_eq_some_iff.mp h
            refine h_callv hW (h_runI (As := [.int (q3.1), .int (q26.1), g_rf G (0), g_rf G (0)]) (rest := [g_rf G (h_nx q3.2)]) C0 hW (hW.rf (h_ne hk27 (by decide))) (c_l_X14_init hq28) cy_X14_init (by omega) tm_X14_30 ti_X14_init rfl rfl hl.1 rfl (by simp [g_catQ, h_ki, h_kr, h_kn, h_kl, h_kd]) dX14_sum_63) (fun H locs hW => ?_)
            obtain ⟨hk29, h⟩ := g_if h
            obtain rfl := Option.some.inj h
            exact h_aretC C0 hW (hW.rf (h_ne hk29 (by decide))) rfl dX14_sum_66
        · replace h := (if_neg hc16).symm.trans h
          refine h_aload_n C0.hx C0.hb dX14_sum_29 rfl (lv_at hl 1 rfl) ?_
          refine lv_iload_n C0.hx C0.hb dX14_sum_30 rfl (lv_at hl 2 rfl) ?_
          obtain ⟨hk30, h⟩ := g_if h
          obtain ⟨q31, hq31, h⟩ := Option.bind_eq_some_iff.mp h
          refine h_calli hW (h_runV (As := [.int (p2)]) (rest := [.int (q3.1), g_rf G (h_nx q3.2), g_rf G (h_nx q3.2)]) C0 hW (hW.rf (h_ne hk30 (by decide))) (h_recv C0 hW (h_ne hk30 (by decide)) (h_c50 hk30) rfl) (c_l_X13_next hq31) cy_X13_next (by omega) tm_X14_23 ti_X13_next ts_X13_next rfl hl.1 rfl (by simp [g_catQ, h_ki, h_kr, h_kn, h_kl, h_kd]) dX14_sum_31) (fun H locs hW => ?_)
          refine lv_goto (tgt := 61) C0.hx C0.hb dX14_sum_34 (by decide) ?_
          refine h_null (G := G) C0.hx C0.hb dX14_sum_61 ?_
          refine h_null (G := G) C0.hx C0.hb dX14_sum_62 ?_
          obtain ⟨hk32, h⟩ := g_if h
          obtain ⟨q33, hq33, h⟩ := Option.bind_eq_some_iff.mp h
          refine h_callv hW (h_runI (As := [.int (q3.1), .int (q31.1), g_rf G (0), g_rf G (0)]) (rest := [g_rf G (h_nx q3.2)]) C0 hW (hW.rf (h_ne hk32 (by decide))) (c_l_X14_init hq33) cy_X14_init (by omega) tm_X14_30 ti_X14_init rfl rfl hl.1 rfl (by simp [g_catQ, h_ki, h_kr, h_kn, h_kl, h_kd]) dX14_sum_63) (fun H locs hW => ?_)
          obtain ⟨hk34, h⟩ := g_if h
          obtain rfl := Option.some.inj h
          exact h_aretC C0 hW (hW.rf (h_ne hk34 (by decide))) rfl dX14_sum_66
    · replace h := (if_pos hc1).symm.trans h
      refine lv_iconst (v := (5 : Int32)) C0.hx C0.hb dX14_sum_5 (by decide) ?_
      refine lv_goto (tgt := 11) C0.hx C0.hb dX14_sum_6 (by decide) ?_
      obtain ⟨hk35, h⟩ := g_if h
      obtain ⟨q36, hq36, h⟩ := Option.bind_eq_some_iff.mp h
      refine h_calli hW (h_runV (As := [.int ((5 : Int32))]) (rest := []) C0 hW (hW.rf (h_ne hk35 (by decide))) (h_recv C0 hW (h_ne hk35 (by decide)) (h_c50 hk35) rfl) (c_l_X13_next hq36) cy_X13_next (by omega) tm_X14_23 ti_X13_next ts_X13_next rfl hl.1 rfl (Nat.le_of_ble_eq_true rfl) dX14_sum_11) (fun H locs hW => ?_)
      refine lv_istore_n (lv' := [(3, .int (q36.1)), (0, g_rf G (p1)), (1, .int (p2)), (2, .int (p3))]) C0.hx C0.hb dX14_sum_14 rfl hl (by decide) rfl (fun ls hl => ?_)
      refine lv_iload_n C0.hx C0.hb dX14_sum_15 rfl (lv_at hl 0 rfl) ?_
      refine lv_iconst (v := (5 : Int32)) C0.hx C0.hb dX14_sum_16 (by decide) ?_
      refine lv_icmp_ge (tgt := 67) C0.hx C0.hb dX14_sum_17 (by decide) (fun hc37 => ?_) (fun hc37 => ?_)
      · replace h := (if_pos hc37).symm.trans h
        refine h_aload_n C0.hx C0.hb dX14_sum_67 rfl (lv_at hl 1 rfl) ?_
        refine lv_iload_n C0.hx C0.hb dX14_sum_68 rfl (lv_at hl 2 rfl) ?_
        refine lv_iload_n C0.hx C0.hb dX14_sum_69 rfl (lv_at hl 3 rfl) ?_
        refine lv_iconst (v := (1 : Int32)) C0.hx C0.hb dX14_sum_70 (by decide) ?_
        refine lv_isub C0.hx C0.hb dX14_sum_71 ?_
        obtain ⟨q38, hq38, h⟩ := Option.bind_eq_some_iff.mp h
        refine h_callr hW (h_runS (As := [g_rf G (p1), .int (p2), .int (p3 - (1 : Int32))]) (rest := []) C0 hW (ihn _ _ _ _ _ hq38) cy_X14_sum (by omega) tm_X14_33 tz_X14_sum rfl hl.1 rfl (Nat.le_of_ble_eq_true rfl) dX14_sum_72) (fun H locs hW => ?_)
        refine h_astore (lv' := [(4, g_rf G (q38.1)), (3, .int (q36.1)), (0, g_rf G (p1)), (1, .int (p2)), (2, .int (p3))]) C0.hx C0.hb dX14_sum_75 hl (by decide) rfl (fun ls hl => ?_)
        obtain ⟨hn39, h⟩ := g_if h
        refine hno_51 C0 hW hn39 tl_X14_8 dX14_sum_77 (fun H hW => ?_)
        refine lv_dup C0.hx C0.hb dX14_sum_80 g_catQ ?_
        refine lv_iload_n C0.hx C0.hb dX14_sum_81 rfl (lv_at hl 1 rfl) ?_
        refine lv_iconst (v := (0 : Int32)) C0.hx C0.hb dX14_sum_82 (by decide) ?_
        refine h_aload C0.hx C0.hb dX14_sum_83 (lv_at hl 0 rfl) ?_
        refine lv_iload_n C0.hx C0.hb dX14_sum_85 rfl (lv_at hl 1 rfl) ?_
        refine lv_iconst (v := (5 : Int32)) C0.hx C0.hb dX14_sum_86 (by decide) ?_
        refine lv_icmp_ne (tgt := 94) C0.hx C0.hb dX14_sum_87 (by decide) (fun hc40 => ?_) (fun hc40 => ?_)
        · replace h := (if_neg hc40).symm.trans h
          refine h_aload_n C0.hx C0.hb dX14_sum_94 rfl (lv_at hl 2 rfl) ?_
          refine lv_iload_n C0.hx C0.hb dX14_sum_95 rfl (lv_at hl 3 rfl) ?_
          refine lv_iload_n C0.hx C0.hb dX14_sum_96 rfl (lv_at hl 4 rfl) ?_
          refine lv_iconst (v := (1 : Int32)) C0.hx C0.hb dX14_sum_97 (by decide) ?_
          refine lv_isub C0.hx C0.hb dX14_sum_98 ?_
          obtain ⟨q41, hq41, h⟩ := Option.bind_eq_some_iff.mp h
          refine h_callr hW (h_runS (As := [g_rf G (p1), .int (p2), .int (p3 - (1 : Int32))]) (rest := [g_rf G (q38.1), .int ((0 : Int32)), .int (q36.1), g_rf G (h_nx q38.2), g_rf G (h_nx q38.2)]) C0 hW (ihn _ _ _ _ _ hq41) cy_X14_sum (by omega) tm_X14_33 tz_X14_sum rfl hl.1 rfl (by simp [g_catQ, h_ki, h_kr, h_kn, h_kl, h_kd]) dX14_sum_99) (fun H locs hW => ?_)
          obtain ⟨hk42, h⟩ := g_if h
          obtain ⟨q43, hq43, h⟩ := Option.bind_eq_some_iff.mp h
          refine h_callv hW (h_runI (As := [.int (q36.1), .int ((0 : Int32)), g_rf G (q38.1), g_rf G (q41.1)]) (rest := [g_rf G (h_nx q38.2)]) C0 hW (hW.rf (h_ne hk42 (by decide))) (c_l_X14_init hq43) cy_X14_init (by omega) tm_X14_30 ti_X14_init rfl rfl hl.1 rfl (by simp [g_catQ, h_ki, h_kr, h_kn, h_kl, h_kd]) dX14_sum_102) (fun H locs hW => ?_)
          obtain ⟨hk44, h⟩ := g_if h
          obtain rfl := Option.some.inj h
          exact h_aretC C0 hW (hW.rf (h_ne hk44 (by decide))) rfl dX14_sum_105
        · replace h := (if_pos hc40).symm.trans h
          refine h_null (G := G) C0.hx C0.hb dX14_sum_90 ?_
          refine lv_goto (tgt := 102) C0.hx C0.hb dX14_sum_91 (by decide) ?_
          obtain ⟨hk45, h⟩ := g_if h
          obtain ⟨q46, hq46, h⟩ := Option.bind_eq_some_iff.mp h
          refine h_callv hW (h_runI (As := [.int (q36.1), .int ((0 : Int32)), g_rf G (q38.1), g_rf G (0)]) (rest := [g_rf G (h_nx q38.2)]) C0 hW (hW.rf (h_ne hk45 (by decide))) (c_l_X14_init hq46) cy_X14_init (by omega) tm_X14_30 ti_X14_init rfl rfl hl.1 rfl (by simp [g_catQ, h_ki, h_kr, h_kn, h_kl, h_kd]) dX14_sum_102) (fun H locs hW => ?_)
          obtain ⟨hk47, h⟩ := g_if h
          obtain rfl := Option.some.inj h
          exact h_aretC C0 hW (hW.rf (h_ne hk47 (by decide))) rfl dX14_sum_105
      · replace h := (if_neg hc37).symm.trans h
        obtain ⟨hn48, h⟩ := g_if h
        refine hno_51 C0 hW hn48 tl_X14_8 dX14_sum_20 (fun H hW => ?_)
        refine lv_dup C0.hx C0.hb dX14_sum_23 g_catQ ?_
        refine lv_iload_n C0.hx C0.hb dX14_sum_24 rfl (lv_at hl 0 rfl) ?_
        refine lv_iload_n C0.hx C0.hb dX14_sum_25 rfl (lv_at hl 0 rfl) ?_
        refine lv_if_le (tgt := 37) C0.hx C0.hb dX14_sum_26 (by decide) (fun hc49 => ?_) (fun hc49 => ?_)
        · replace h := (if_pos hc49).symm.trans h
          refine h_aload_n C0.hx C0.hb dX14_sum_37 rfl (lv_at hl 1 rfl) ?_
          refine lv_bipush (v := (7 : Int32)) C0.hx C0.hb dX14_sum_38 (by decide) ?_
          obtain ⟨hk50, h⟩ := g_if h
          obtain ⟨q51, hq51, h⟩ := Option.bind_eq_some_iff.mp h
          refine h_calli hW (h_runV (As := [.int ((7 : Int32))]) (rest := [.int (q36.1), g_rf G (h_nx q36.2), g_rf G (h_nx q36.2)]) C0 hW (hW.rf (h_ne hk50 (by decide))) (h_recv C0 hW (h_ne hk50 (by decide)) (h_c50 hk50) rfl) (c_l_X13_next hq51) cy_X13_next (by omega) tm_X14_23 ti_X13_next ts_X13_next rfl hl.1 rfl (by simp [g_catQ, h_ki, h_kr, h_kn, h_kl, h_kd]) dX14_sum_40) (fun H locs hW => ?_)
          refine lv_if_ne (tgt := 55) C0.hx C0.hb dX14_sum_43 (by decide) (fun hc52 => ?_) (fun hc52 => ?_)
          · replace h := (if_neg hc52).symm.trans h
            refine h_aload_n C0.hx C0.hb dX14_sum_55 rfl (lv_at hl 1 rfl) ?_
            refine lv_bipush (v := (20 : Int32)) C0.hx C0.hb dX14_sum_56 (by decide) ?_
            obtain ⟨hk53, h⟩ := g_if h
            obtain ⟨q54, hq54, h⟩ := Option.bind_eq_some_iff.mp h
            refine h_calli hW (h_runV (As := [.int ((20 : Int32))]) (rest := [.int (q36.1), g_rf G (h_nx q36.2), g_rf G (h_nx q36.2)]) C0 hW (hW.rf (h_ne hk53 (by decide))) (h_recv C0 hW (h_ne hk53 (by decide)) (h_c50 hk53) rfl) (c_l_X13_next hq54) cy_X13_next (by omega) tm_X14_23 ti_X13_next ts_X13_next rfl hl.1 rfl (by simp [g_catQ, h_ki, h_kr, h_kn, h_kl, h_kd]) dX14_sum_58) (fun H locs hW => ?_)
            refine h_null (G := G) C0.hx C0.hb dX14_sum_61 ?_
            refine h_null (G := G) C0.hx C0.hb dX14_sum_62 ?_
            obtain ⟨hk55, h⟩ := g_if h
            obtain ⟨q56, hq56, h⟩ := Option.bind_eq_some_iff.mp h
            refine h_callv hW (h_runI (As := [.int (q36.1), .int (q54.1), g_rf G (0), g_rf G (0)]) (rest := [g_rf G (h_nx q36.2)]) C0 hW (hW.rf (h_ne hk55 (by decide))) (c_l_X14_init hq56) cy_X14_init (by omega) tm_X14_30 ti_X14_init rfl rfl hl.1 rfl (by simp [g_catQ, h_ki, h_kr, h_kn, h_kl, h_kd]) dX14_sum_63) (fun H locs hW => ?_)
            obtain ⟨hk57, h⟩ := g_if h
            obtain rfl := Option.some.inj h
            exact h_aretC C0 hW (hW.rf (h_ne hk57 (by decide))) rfl dX14_sum_66
          · replace h := (if_pos hc52).symm.trans h
            refine h_aload_n C0.hx C0.hb dX14_sum_46 rfl (lv_at hl 1 rfl) ?_
            refine lv_ldc C0.hx C0.hb C0.hown (C0.hts _ tq_X14_29) dX14_sum_47 ?_
            obtain ⟨hk58, h⟩ := g_if h
            obtain ⟨q59, hq59, h⟩ := Option.bind_eq_some_iff.mp h
            refine h_calli hW (h_runV (As := [.int ((1000000 : Int32))]) (rest := [.int (q36.1), g_rf G (h_nx q36.2), g_rf G (h_nx q36.2)]) C0 hW (hW.rf (h_ne hk58 (by decide))) (h_recv C0 hW (h_ne hk58 (by decide)) (h_c50 hk58) rfl) (c_l_X13_next hq59) cy_X13_next (by omega) tm_X14_23 ti_X13_next ts_X13_next rfl hl.1 rfl (by simp [g_catQ, h_ki, h_kr, h_kn, h_kl, h_kd]) dX14_sum_49) (fun H locs hW => ?_)
            refine lv_goto (tgt := 61) C0.hx C0.hb dX14_sum_52 (by decide) ?_
            refine h_null (G := G) C0.hx C0.hb dX14_sum_61 ?_
            refine h_null (G := G) C0.hx C0.hb dX14_sum_62 ?_
            obtain ⟨hk60, h⟩ := g_if h
            obtain ⟨q61, hq61, h⟩ := Option.bind_eq_some_iff.mp h
            refine h_callv hW (h_runI (As := [.int (q36.1), .int (q59.1), g_rf G (0), g_rf G (0)]) (rest := [g_rf G (h_nx q36.2)]) C0 hW (hW.rf (h_ne hk60 (by decide))) (c_l_X14_init hq61) cy_X14_init (by omega) tm_X14_30 ti_X14_init rfl rfl hl.1 rfl (by simp [g_catQ, h_ki, h_kr, h_kn, h_kl, h_kd]) dX14_sum_63) (fun H locs hW => ?_)
            obtain ⟨hk62, h⟩ := g_if h
            obtain rfl := Option.some.inj h
            exact h_aretC C0 hW (hW.rf (h_ne hk62 (by decide))) rfl dX14_sum_66
        · replace h := (if_neg hc49).symm.trans h
          refine h_aload_n C0.hx C0.hb dX14_sum_29 rfl (lv_at hl 1 rfl) ?_
          refine lv_iload_n C0.hx C0.hb dX14_sum_30 rfl (lv_at hl 2 rfl) ?_
          obtain ⟨hk63, h⟩ := g_if h
          obtain ⟨q64, hq64, h⟩ := Option.bind_eq_some_iff.mp h
          refine h_calli hW (h_runV (As := [.int (p2)]) (rest := [.int (q36.1), g_rf G (h_nx q36.2), g_rf G (h_nx q36.2)]) C0 hW (hW.rf (h_ne hk63 (by decide))) (h_recv C0 hW (h_ne hk63 (by decide)) (h_c50 hk63) rfl) (c_l_X13_next hq64) cy_X13_next (by omega) tm_X14_23 ti_X13_next ts_X13_next rfl hl.1 rfl (by simp [g_catQ, h_ki, h_kr, h_kn, h_kl, h_kd]) dX14_sum_31) (fun H locs hW => ?_)
          refine lv_goto (tgt := 61) C0.hx C0.hb dX14_sum_34 (by decide) ?_
          refine h_null (G := G) C0.hx C0.hb dX14_sum_61 ?_
          refine h_null (G := G) C0.hx C0.hb dX14_sum_62 ?_
          obtain ⟨hk65, h⟩ := g_if h
          obtain ⟨q66, hq66, h⟩ := Option.bind_eq_some_iff.mp h
          refine h_callv hW (h_runI (As := [.int (q36.1), .int (q64.1), g_rf G (0), g_rf G (0)]) (rest := [g_rf G (h_nx q36.2)]) C0 hW (hW.rf (h_ne hk65 (by decide))) (c_l_X14_init hq66) cy_X14_init (by omega) tm_X14_30 ti_X14_init rfl rfl hl.1 rfl (by simp [g_catQ, h_ki, h_kr, h_kn, h_kl, h_kd]) dX14_sum_63) (fun H locs hW => ?_)
          obtain ⟨hk67, h⟩ := g_if h
          obtain rfl := Option.some.inj h
          exact h_aretC C0 hW (hW.rf (h_ne hk67 (by decide))) rfl dX14_sum_66
set_option maxRecDepth 100000 in
set_option maxHeartbeats 4000000 in
theorem c_l_X14_test {l : Launch} {G : GL} {o : Nat → Int32} {x : CS} : ∀ (n : Nat) (p1 : Nat) (p2 : Int32) (p3 : Int32) (y : MS) (q : Nat × MS), f_l_X14_test n p1 p2 p3 y = some q → Met l yX14_test (.code yX14_test cX14_test 5 (Option.some (Jvm.ClassFile.FieldType.object "GlideWhistlesLaw$Node")) :: gT) (h_lv (60 + 4 * n) y) (va_Pc [g_rf G (p1), .int (p2), .int (p3)] (h_P G (x, y, o))) (h_Qr G y (g_rf G (q.1)) (x, q.2, o)) (h_nx q.2 - h_nx y) (h_sl q.2 - h_sl y) (g_A G) := by
  intro n
  induction n with
  | zero =>
    intro p1 p2 p3 y q h
    exact absurd h (by simp [f_l_X14_test])
  | succ n ihn =>
    intro p1 p2 p3 y q h
    unfold f_l_X14_test at h
    refine h_entry (by decide) (by simp [lg_sl, g_catQ, h_ki, h_kr, h_kn, h_kl, h_kd]) (fun p e s m args below meth c ls C0 hl hW hin_ => ?_)
    have hl : lv_has ls 5 [(0, g_rf G (p1)), (1, .int (p2)), (2, .int (p3))] := by simpa [lv_args, g_catQ, h_ki, h_kr, h_kn, h_kl, h_kd] using hl
    refine h_aload_n C0.hx C0.hb dX14_test_0 rfl (lv_at hl 0 rfl) ?_
    refine lv_iload_n C0.hx C0.hb dX14_test_1 rfl (lv_at hl 2 rfl) ?_
    refine lv_if_ne (tgt := 9) C0.hx C0.hb dX14_test_2 (by decide) (fun hc1 => ?_) (fun hc1 => ?_)
    · replace h := (if_neg hc1).symm.trans h
      refine lv_bipush (v := (8 : Int32)) C0.hx C0.hb dX14_test_9 (by decide) ?_
      obtain ⟨hk2, h⟩ := g_if h
      obtain ⟨q3, hq3, h⟩ := Option.bind_eq_some_iff.mp h
      refine h_calli hW (h_runV (As := [.int ((8 : Int32))]) (rest := []) C0 hW (hW.rf (h_ne hk2 (by decide))) (h_recv C0 hW (h_ne hk2 (by decide)) (h_c50 hk2) rfl) (c_l_X13_next hq3) cy_X13_next (by omega) tm_X14_23 ti_X13_next ts_X13_next rfl hl.1 rfl (Nat.le_of_ble_eq_true rfl) dX14_test_11) (fun H locs hW => ?_)
      refine lv_istore_n (lv' := [(3, .int (q3.1)), (0, g_rf G (p1)), (1, .int (p2)), (2, .int (p3))]) C0.hx C0.hb dX14_test_14 rfl hl (by decide) rfl (fun ls hl => ?_)
      refine lv_iload_n C0.hx C0.hb dX14_test_15 rfl (lv_at hl 0 rfl) ?_
      refine lv_iconst (v := (2 : Int32)) C0.hx C0.hb dX14_test_16 (by decide) ?_
      refine lv_icmp_ge (tgt := 39) C0.hx C0.hb dX14_test_17 (by decide) (fun hc4 => ?_) (fun hc4 => ?_)
      · replace h := (if_pos hc4).symm.trans h
        refine lv_iload_n C0.hx C0.hb dX14_test_39 rfl (lv_at hl 0 rfl) ?_
        refine lv_iconst (v := (5 : Int32)) C0.hx C0.hb dX14_test_40 (by decide) ?_
        refine lv_icmp_ge (tgt := 73) C0.hx C0.hb dX14_test_41 (by decide) (fun hc5 => ?_) (fun hc5 => ?_)
        · replace h := (if_pos hc5).symm.trans h
          refine h_aload_n C0.hx C0.hb dX14_test_73 rfl (lv_at hl 1 rfl) ?_
          refine lv_iload_n C0.hx C0.hb dX14_test_74 rfl (lv_at hl 2 rfl) ?_
          refine lv_iload_n C0.hx C0.hb dX14_test_75 rfl (lv_at hl 3 rfl) ?_
          refine lv_iconst (v := (1 : Int32)) C0.hx C0.hb dX14_test_76 (by decide) ?_
          refine lv_isub C0.hx C0.hb dX14_test_77 ?_
          obtain ⟨q6, hq6, h⟩ := Option.bind_eq_some_iff.mp h
          refine h_callr hW (h_runS (As := [g_rf G (p1), .int (p2), .int (p3 - (1 : Int32))]) (rest := []) C0 hW (ihn _ _ _ _ _ hq6) cy_X14_test (by omega) tm_X14_37 tz_X14_test rfl hl.1 rfl (Nat.le_of_ble_eq_true rfl) dX14_test_78) (fun H locs hW => ?_)
          refine h_astore (lv' := [(4, g_rf G (q6.1)), (3, .int (q3.1)), (0, g_rf G (p1)), (1, .int (p2)), (2, .int (p3))]) C0.hx C0.hb dX14_test_81 hl (by decide) rfl (fun ls hl => ?_)
          obtain ⟨hn7, h⟩ := g_if h
          refine hno_51 C0 hW hn7 tl_X14_8 dX14_test_83 (fun H hW => ?_)
          refine lv_dup C0.hx C0.hb dX14_test_86 g_catQ ?_
          refine lv_bipush (v := (14 : Int32)) C0.hx C0.hb dX14_test_87 (by decide) ?_
          refine lv_iload_n C0.hx C0.hb dX14_test_89 rfl (lv_at hl 1 rfl) ?_
          refine lv_iadd C0.hx C0.hb dX14_test_90 ?_
          refine lv_iconst (v := (0 : Int32)) C0.hx C0.hb dX14_test_91 (by decide) ?_
          refine h_aload C0.hx C0.hb dX14_test_92 (lv_at hl 0 rfl) ?_
          refine lv_iload_n C0.hx C0.hb dX14_test_94 rfl (lv_at hl 1 rfl) ?_
          refine lv_iconst (v := (5 : Int32)) C0.hx C0.hb dX14_test_95 (by decide) ?_
          refine lv_icmp_ne (tgt := 103) C0.hx C0.hb dX14_test_96 (by decide) (fun hc8 => ?_) (fun hc8 => ?_)
          · replace h := (if_neg hc8).symm.trans h
            refine h_aload_n C0.hx C0.hb dX14_test_103 rfl (lv_at hl 2 rfl) ?_
            refine lv_iload_n C0.hx C0.hb dX14_test_104 rfl (lv_at hl 3 rfl) ?_
            refine lv_iload_n C0.hx C0.hb dX14_test_105 rfl (lv_at hl 4 rfl) ?_
            refine lv_iconst (v := (1 : Int32)) C0.hx C0.hb dX14_test_106 (by decide) ?_
            refine lv_isub C0.hx C0.hb dX14_test_107 ?_
            obtain ⟨q9, hq9, h⟩ := Option.bind_eq_some_iff.mp h
            refine h_callr hW (h_runS (As := [g_rf G (p1), .int (p2), .int (p3 - (1 : Int32))]) (rest := [g_rf G (q6.1), .int ((0 : Int32)), .int ((14 : Int32) + q3.1), g_rf G (h_nx q6.2), g_rf G (h_nx q6.2)]) C0 hW (ihn _ _ _ _ _ hq9) cy_X14_test (by omega) tm_X14_37 tz_X14_test rfl hl.1 rfl (by simp [g_catQ, h_ki, h_kr, h_kn, h_kl, h_kd]) dX14_test_108) (fun H locs hW => ?_)
            obtain ⟨hk10, h⟩ := g_if h
            obtain ⟨q11, hq11, h⟩ := Option.bind_eq_some_iff.mp h
            refine h_callv hW (h_runI (As := [.int ((14 : Int32) + q3.1), .int ((0 : Int32)), g_rf G (q6.1), g_rf G (q9.1)]) (rest := [g_rf G (h_nx q6.2)]) C0 hW (hW.rf (h_ne hk10 (by decide))) (c_l_X14_init hq11) cy_X14_init (by omega) tm_X14_30 ti_X14_init rfl rfl hl.1 rfl (by simp [g_catQ, h_ki, h_kr, h_kn, h_kl, h_kd]) dX14_test_111) (fun H locs hW => ?_)
            obtain ⟨hk12, h⟩ := g_if h
            obtain rfl := Option.some.inj h
            exact h_aretC C0 hW (hW.rf (h_ne hk12 (by decide))) rfl dX14_test_114
          · replace h := (if_pos hc8).symm.trans h
            refine h_null (G := G) C0.hx C0.hb dX14_test_99 ?_
            refine lv_goto (tgt := 111) C0.hx C0.hb dX14_test_100 (by decide) ?_
            obtain ⟨hk13, h⟩ := g_if h
            obtain ⟨q14, hq14, h⟩ := Option.bind_eq_some_iff.mp h
            refine h_callv hW (h_runI (As := [.int ((14 : Int32) + q3.1), .int ((0 : Int32)), g_rf G (q6.1), g_rf G (0)]) (rest := [g_rf G (h_nx q6.2)]) C0 hW (hW.rf (h_ne hk13 (by decide))) (c_l_X14_init hq14) cy_X14_init (by omega) tm_X14_30 ti_X14_init rfl rfl hl.1 rfl (by simp [g_catQ, h_ki, h_kr, h_kn, h_kl, h_kd]) dX14_test_111) (fun H locs hW => ?_)
            obtain ⟨hk15, h⟩ := g_if h
            obtain rfl := Option.some.inj h
            exact h_aretC C0 hW (hW.rf (h_ne hk15 (by decide))) rfl dX14_test_114
        · replace h := (if_neg hc5).symm.trans h
          obtain ⟨hn16, h⟩ := g_if h
          refine hno_51 C0 hW hn16 tl_X14_8 dX14_test_44 (fun H hW => ?_)
          refine lv_dup C0.hx C0.hb dX14_test_47 g_catQ ?_
          refine lv_bipush (v := (12 : Int32)) C0.hx C0.hb dX14_test_48 (by decide) ?_
          refine h_aload_n C0.hx C0.hb dX14_test_50 rfl (lv_at hl 1 rfl) ?_
          refine lv_iconst (v := (5 : Int32)) C0.hx C0.hb dX14_test_51 (by decide) ?_
          obtain ⟨hk17, h⟩ := g_if h
          obtain ⟨q18, hq18, h⟩ := Option.bind_eq_some_iff.mp h
          refine h_calli hW (h_runV (As := [.int ((5 : Int32))]) (rest := [.int ((12 : Int32)), g_rf G (h_nx q3.2), g_rf G (h_nx q3.2)]) C0 hW (hW.rf (h_ne hk17 (by decide))) (h_recv C0 hW (h_ne hk17 (by decide)) (h_c50 hk17) rfl) (c_l_X13_next hq18) cy_X13_next (by omega) tm_X14_23 ti_X13_next ts_X13_next rfl hl.1 rfl (by simp [g_catQ, h_ki, h_kr, h_kn, h_kl, h_kd]) dX14_test_52) (fun H locs hW => ?_)
          refine lv_iadd C0.hx C0.hb dX14_test_55 ?_
          refine lv_iconst (v := (0 : Int32)) C0.hx C0.hb dX14_test_56 (by decide) ?_
          refine h_aload_n C0.hx C0.hb dX14_test_57 rfl (lv_at hl 1 rfl) ?_
          refine lv_iload_n C0.hx C0.hb dX14_test_58 rfl (lv_at hl 2 rfl) ?_
          refine lv_iconst (v := (1 : Int32)) C0.hx C0.hb dX14_test_59 (by decide) ?_
          obtain ⟨q19, hq19, h⟩ := Option.bind_eq_some_iff.mp h
          refine h_callr hW (h_runS (As := [g_rf G (p1), .int (p2), .int ((1 : Int32))]) (rest := [.int ((0 : Int32)), .int ((12 : Int32) + q18.1), g_rf G (h_nx q3.2), g_rf G (h_nx q3.2)]) C0 hW (c_l_X14_sum 6 _ _ _ _ _ hq19) cy_X14_sum (by omega) tm_X14_33 tz_X14_sum rfl hl.1 rfl (by simp [g_catQ, h_ki, h_kr, h_kn, h_kl, h_kd]) dX14_test_60) (fun H locs hW => ?_)
          refine h_aload_n C0.hx C0.hb dX14_test_63 rfl (lv_at hl 1 rfl) ?_
          refine lv_iload_n C0.hx C0.hb dX14_test_64 rfl (lv_at hl 2 rfl) ?_
          refine lv_iconst (v := (0 : Int32)) C0.hx C0.hb dX14_test_65 (by decide) ?_
          obtain ⟨q20, hq20, h⟩ := Option.bind_eq_some_iff.mp h
          refine h_callr hW (h_runS (As := [g_rf G (p1), .int (p2), .int ((0 : Int32))]) (rest := [g_rf G (q19.1), .int ((0 : Int32)), .int ((12 : Int32) + q18.1), g_rf G (h_nx q3.2), g_rf G (h_nx q3.2)]) C0 hW (c_l_X14_sum 6 _ _ _ _ _ hq20) cy_X14_sum (by omega) tm_X14_33 tz_X14_sum rfl hl.1 rfl (by simp [g_catQ, h_ki, h_kr, h_kn, h_kl, h_kd]) dX14_test_66) (fun H locs hW => ?_)
          obtain ⟨hk21, h⟩ := g_if h
          obtain ⟨q22, hq22, h⟩ := Option.bind_eq_some_iff.mp h
          refine h_callv hW (h_runI (As := [.int ((12 : Int32) + q18.1), .int ((0 : Int32)), g_rf G (q19.1), g_rf G (q20.1)]) (rest := [g_rf G (h_nx q3.2)]) C0 hW (hW.rf (h_ne hk21 (by decide))) (c_l_X14_init hq22) cy_X14_init (by omega) tm_X14_30 ti_X14_init rfl rfl hl.1 rfl (by simp [g_catQ, h_ki, h_kr, h_kn, h_kl, h_kd]) dX14_test_69) (fun H locs hW => ?_)
          obtain ⟨hk23, h⟩ := g_if h
          obtain rfl := Option.some.inj h
          exact h_aretC C0 hW (hW.rf (h_ne hk23 (by decide))) rfl dX14_test_72
      · replace h := (if_neg hc4).symm.trans h
        obtain ⟨hn24, h⟩ := g_if h
        refine hno_51 C0 hW hn24 tl_X14_8 dX14_test_20 (fun H hW => ?_)
        refine lv_dup C0.hx C0.hb dX14_test_23 g_catQ ?_
        refine lv_bipush (v := (17 : Int32)) C0.hx C0.hb dX14_test_24 (by decide) ?_
        refine lv_iload_n C0.hx C0.hb dX14_test_26 rfl (lv_at hl 0 rfl) ?_
        refine lv_iadd C0.hx C0.hb dX14_test_27 ?_
        refine h_aload_n C0.hx C0.hb dX14_test_28 rfl (lv_at hl 1 rfl) ?_
        refine lv_iload_n C0.hx C0.hb dX14_test_29 rfl (lv_at hl 2 rfl) ?_
        obtain ⟨hk25, h⟩ := g_if h
        obtain ⟨q26, hq26, h⟩ := Option.bind_eq_some_iff.mp h
        refine h_calli hW (h_runV (As := [.int (p2)]) (rest := [.int ((17 : Int32) + q3.1), g_rf G (h_nx q3.2), g_rf G (h_nx q3.2)]) C0 hW (hW.rf (h_ne hk25 (by decide))) (h_recv C0 hW (h_ne hk25 (by decide)) (h_c50 hk25) rfl) (c_l_X13_next hq26) cy_X13_next (by omega) tm_X14_23 ti_X13_next ts_X13_next rfl hl.1 rfl (by simp [g_catQ, h_ki, h_kr, h_kn, h_kl, h_kd]) dX14_test_30) (fun H locs hW => ?_)
        refine h_null (G := G) C0.hx C0.hb dX14_test_33 ?_
        refine h_null (G := G) C0.hx C0.hb dX14_test_34 ?_
        obtain ⟨hk27, h⟩ := g_if h
        obtain ⟨q28, hq28, h⟩ := Option.bind_eq_some_iff.mp h
        refine h_callv hW (h_runI (As := [.int ((17 : Int32) + q3.1), .int (q26.1), g_rf G (0), g_rf G (0)]) (rest := [g_rf G (h_nx q3.2)]) C0 hW (hW.rf (h_ne hk27 (by decide))) (c_l_X14_init hq28) cy_X14_init (by omega) tm_X14_30 ti_X14_init rfl rfl hl.1 rfl (by simp [g_catQ, h_ki, h_kr, h_kn, h_kl, h_kd]) dX14_test_35) (fun H locs hW => ?_)
        obtain ⟨hk29, h⟩ := g_if h
        obtain rfl := Option.some.inj h
        exact h_aretC C0 hW (hW.rf (h_ne hk29 (by decide))) rfl dX14_test_38
    · replace h := (if_pos hc1).symm.trans h
      refine lv_iconst (v := (5 : Int32)) C0.hx C0.hb dX14_test_5 (by decide) ?_
      refine lv_goto (tgt := 11) C0.hx C0.hb dX14_test_6 (by decide) ?_
      obtain ⟨hk30, h⟩ := g_if h
      obtain ⟨q31, hq31, h⟩ := Option.bind_eq_some_iff.mp h
      refine h_calli hW (h_runV (As := [.int ((5 : Int32))]) (rest := []) C0 hW (hW.rf (h_ne hk30 (by decide))) (h_recv C0 hW (h_ne hk30 (by decide)) (h_c50 hk30) rfl) (c_l_X13_next hq31) cy_X13_next (by omega) tm_X14_23 ti_X13_next ts_X13_next rfl hl.1 rfl (Nat.le_of_ble_eq_true rfl) dX14_test_11) (fun H locs hW => ?_)
      refine lv_istore_n (lv' := [(3, .int (q31.1)), (0, g_rf G (p1)), (1, .int (p2)), (2, .int (p3))]) C0.hx C0.hb dX14_test_14 rfl hl (by decide) rfl (fun ls hl => ?_)
      refine lv_iload_n C0.hx C0.hb dX14_test_15 rfl (lv_at hl 0 rfl) ?_
      refine lv_iconst (v := (2 : Int32)) C0.hx C0.hb dX14_test_16 (by decide) ?_
      refine lv_icmp_ge (tgt := 39) C0.hx C0.hb dX14_test_17 (by decide) (fun hc32 => ?_) (fun hc32 => ?_)
      · replace h := (if_pos hc32).symm.trans h
        refine lv_iload_n C0.hx C0.hb dX14_test_39 rfl (lv_at hl 0 rfl) ?_
        refine lv_iconst (v := (5 : Int32)) C0.hx C0.hb dX14_test_40 (by decide) ?_
        refine lv_icmp_ge (tgt := 73) C0.hx C0.hb dX14_test_41 (by decide) (fun hc33 => ?_) (fun hc33 => ?_)
        · replace h := (if_pos hc33).symm.trans h
          refine h_aload_n C0.hx C0.hb dX14_test_73 rfl (lv_at hl 1 rfl) ?_
          refine lv_iload_n C0.hx C0.hb dX14_test_74 rfl (lv_at hl 2 rfl) ?_
          refine lv_iload_n C0.hx C0.hb dX14_test_75 rfl (lv_at hl 3 rfl) ?_
          refine lv_iconst (v := (1 : Int32)) C0.hx C0.hb dX14_test_76 (by decide) ?_
          refine lv_isub C0.hx C0.hb dX14_test_77 ?_
          obtain ⟨q34, hq34, h⟩ := Option.bind_eq_some_iff.mp h
          refine h_callr hW (h_runS (As := [g_rf G (p1), .int (p2), .int (p3 - (1 : Int32))]) (rest := []) C0 hW (ihn _ _ _ _ _ hq34) cy_X14_test (by omega) tm_X14_37 tz_X14_test rfl hl.1 rfl (Nat.le_of_ble_eq_true rfl) dX14_test_78) (fun H locs hW => ?_)
          refine h_astore (lv' := [(4, g_rf G (q34.1)), (3, .int (q31.1)), (0, g_rf G (p1)), (1, .int (p2)), (2, .int (p3))]) C0.hx C0.hb dX14_test_81 hl (by decide) rfl (fun ls hl => ?_)
          obtain ⟨hn35, h⟩ := g_if h
          refine hno_51 C0 hW hn35 tl_X14_8 dX14_test_83 (fun H hW => ?_)
          refine lv_dup C0.hx C0.hb dX14_test_86 g_catQ ?_
          refine lv_bipush (v := (14 : Int32)) C0.hx C0.hb dX14_test_87 (by decide) ?_
          refine lv_iload_n C0.hx C0.hb dX14_test_89 rfl (lv_at hl 1 rfl) ?_
          refine lv_iadd C0.hx C0.hb dX14_test_90 ?_
          refine lv_iconst (v := (0 : Int32)) C0.hx C0.hb dX14_test_91 (by decide) ?_
          refine h_aload C0.hx C0.hb dX14_test_92 (lv_at hl 0 rfl) ?_
          refine lv_iload_n C0.hx C0.hb dX14_test_94 rfl (lv_at hl 1 rfl) ?_
          refine lv_iconst (v := (5 : Int32)) C0.hx C0.hb dX14_test_95 (by decide) ?_
          refine lv_icmp_ne (tgt := 103) C0.hx C0.hb dX14_test_96 (by decide) (fun hc36 => ?_) (fun hc36 => ?_)
          · replace h := (if_neg hc36).symm.trans h
            refine h_aload_n C0.hx C0.hb dX14_test_103 rfl (lv_at hl 2 rfl) ?_
            refine lv_iload_n C0.hx C0.hb dX14_test_104 rfl (lv_at hl 3 rfl) ?_
            refine lv_iload_n C0.hx C0.hb dX14_test_105 rfl (lv_at hl 4 rfl) ?_
            refine lv_iconst (v := (1 : Int32)) C0.hx C0.hb dX14_test_106 (by decide) ?_
            refine lv_isub C0.hx C0.hb dX14_test_107 ?_
            obtain ⟨q37, hq37, h⟩ := Option.bind_eq_some_iff.mp h
            refine h_callr hW (h_runS (As := [g_rf G (p1), .int (p2), .int (p3 - (1 : Int32))]) (rest := [g_rf G (q34.1), .int ((0 : Int32)), .int ((14 : Int32) + q31.1), g_rf G (h_nx q34.2), g_rf G (h_nx q34.2)]) C0 hW (ihn _ _ _ _ _ hq37) cy_X14_test (by omega) tm_X14_37 tz_X14_test rfl hl.1 rfl (by simp [g_catQ, h_ki, h_kr, h_kn, h_kl, h_kd]) dX14_test_108) (fun H locs hW => ?_)
            obtain ⟨hk38, h⟩ := g_if h
            obtain ⟨q39, hq39, h⟩ := Option.bind_eq_some_iff.mp h
            refine h_callv hW (h_runI (As := [.int ((14 : Int32) + q31.1), .int ((0 : Int32)), g_rf G (q34.1), g_rf G (q37.1)]) (rest := [g_rf G (h_nx q34.2)]) C0 hW (hW.rf (h_ne hk38 (by decide))) (c_l_X14_init hq39) cy_X14_init (by omega) tm_X14_30 ti_X14_init rfl rfl hl.1 rfl (by simp [g_catQ, h_ki, h_kr, h_kn, h_kl, h_kd]) dX14_test_111) (fun H locs hW => ?_)
            obtain ⟨hk40, h⟩ := g_if h
            obtain rfl := Option.some.inj h
            exact h_aretC C0 hW (hW.rf (h_ne hk40 (by decide))) rfl dX14_test_114
          · replace h := (if_pos hc36).symm.trans h
            refine h_null (G := G) C0.hx C0.hb dX14_test_99 ?_
            refine lv_goto (tgt := 111) C0.hx C0.hb dX14_test_100 (by decide) ?_
            obtain ⟨hk41, h⟩ := g_if h
            obtain ⟨q42, hq42, h⟩ := Option.bind_eq_some_iff.mp h
            refine h_callv hW (h_runI (As := [.int ((14 : Int32) + q31.1), .int ((0 : Int32)), g_rf G (q34.1), g_rf G (0)]) (rest := [g_rf G (h_nx q34.2)]) C0 hW (hW.rf (h_ne hk41 (by decide))) (c_l_X14_init hq42) cy_X14_init (by omega) tm_X14_30 ti_X14_init rfl rfl hl.1 rfl (by simp [g_catQ, h_ki, h_kr, h_kn, h_kl, h_kd]) dX14_test_111) (fun H locs hW => ?_)
            obtain ⟨hk43, h⟩ := g_if h
            obtain rfl := Option.some.inj h
            exact h_aretC C0 hW (hW.rf (h_ne hk43 (by decide))) rfl dX14_test_114
        · replace h := (if_neg hc33).symm.trans h
          obtain ⟨hn44, h⟩ := g_if h
          refine hno_51 C0 hW hn44 tl_X14_8 dX14_test_44 (fun H hW => ?_)
          refine lv_dup C0.hx C0.hb dX14_test_47 g_catQ ?_
          refine lv_bipush (v := (12 : Int32)) C0.hx C0.hb dX14_test_48 (by decide) ?_
          refine h_aload_n C0.hx C0.hb dX14_test_50 rfl (lv_at hl 1 rfl) ?_
          refine lv_iconst (v := (5 : Int32)) C0.hx C0.hb dX14_test_51 (by decide) ?_
          obtain ⟨hk45, h⟩ := g_if h
          obtain ⟨q46, hq46, h⟩ := Option.bind_eq_some_iff.mp h
          refine h_calli hW (h_runV (As := [.int ((5 : Int32))]) (rest := [.int ((12 : Int32)), g_rf G (h_nx q31.2), g_rf G (h_nx q31.2)]) C0 hW (hW.rf (h_ne hk45 (by decide))) (h_recv C0 hW (h_ne hk45 (by decide)) (h_c50 hk45) rfl) (c_l_X13_next hq46) cy_X13_next (by omega) tm_X14_23 ti_X13_next ts_X13_next rfl hl.1 rfl (by simp [g_catQ, h_ki, h_kr, h_kn, h_kl, h_kd]) dX14_test_52) (fun H locs hW => ?_)
          refine lv_iadd C0.hx C0.hb dX14_test_55 ?_
          refine lv_iconst (v := (0 : Int32)) C0.hx C0.hb dX14_test_56 (by decide) ?_
          refine h_aload_n C0.hx C0.hb dX14_test_57 rfl (lv_at hl 1 rfl) ?_
          refine lv_iload_n C0.hx C0.hb dX14_test_58 rfl (lv_at hl 2 rfl) ?_
          refine lv_iconst (v := (1 : Int32)) C0.hx C0.hb dX14_test_59 (by decide) ?_
          obtain ⟨q47, hq47, h⟩ := Option.bind_eq_some_iff.mp h
          refine h_callr hW (h_runS (As := [g_rf G (p1), .int (p2), .int ((1 : Int32))]) (rest := [.int ((0 : Int32)), .int ((12 : Int32) + q46.1), g_rf G (h_nx q31.2), g_rf G (h_nx q31.2)]) C0 hW (c_l_X14_sum 6 _ _ _ _ _ hq47) cy_X14_sum (by omega) tm_X14_33 tz_X14_sum rfl hl.1 rfl (by simp [g_catQ, h_ki, h_kr, h_kn, h_kl, h_kd]) dX14_test_60) (fun H locs hW => ?_)
          refine h_aload_n C0.hx C0.hb dX14_test_63 rfl (lv_at hl 1 rfl) ?_
          refine lv_iload_n C0.hx C0.hb dX14_test_64 rfl (lv_at hl 2 rfl) ?_
          refine lv_iconst (v := (0 : Int32)) C0.hx C0.hb dX14_test_65 (by decide) ?_
          obtain ⟨q48, hq48, h⟩ := Option.bind_eq_some_iff.mp h
          refine h_callr hW (h_runS (As := [g_rf G (p1), .int (p2), .int ((0 : Int32))]) (rest := [g_rf G (q47.1), .int ((0 : Int32)), .int ((12 : Int32) + q46.1), g_rf G (h_nx q31.2), g_rf G (h_nx q31.2)]) C0 hW (c_l_X14_sum 6 _ _ _ _ _ hq48) cy_X14_sum (by omega) tm_X14_33 tz_X14_sum rfl hl.1 rfl (by simp [g_catQ, h_ki, h_kr, h_kn, h_kl, h_kd]) dX14_test_66) (fun H locs hW => ?_)
          obtain ⟨hk49, h⟩ := g_if h
          obtain ⟨q50, hq50, h⟩ := Option.bind_eq_some_iff.mp h
          refine h_callv hW (h_runI (As := [.int ((12 : Int32) + q46.1), .int ((0 : Int32)), g_rf G (q47.1), g_rf G (q48.1)]) (rest := [g_rf G (h_nx q31.2)]) C0 hW (hW.rf (h_ne hk49 (by decide))) (c_l_X14_init hq50) cy_X14_init (by omega) tm_X14_30 ti_X14_init rfl rfl hl.1 rfl (by simp [g_catQ, h_ki, h_kr, h_kn, h_kl, h_kd]) dX14_test_69) (fun H locs hW => ?_)
          obtain ⟨hk51, h⟩ := g_if h
          obtain rfl := Option.some.inj h
          exact h_aretC C0 hW (hW.rf (h_ne hk51 (by decide))) rfl dX14_test_72
      · replace h := (if_neg hc32).symm.trans h
        obtain ⟨hn52, h⟩ := g_if h
        refine hno_51 C0 hW hn52 tl_X14_8 dX14_test_20 (fun H hW => ?_)
        refine lv_dup C0.hx C0.hb dX14_test_23 g_catQ ?_
        refine lv_bipush (v := (17 : Int32)) C0.hx C0.hb dX14_test_24 (by decide) ?_
        refine lv_iload_n C0.hx C0.hb dX14_test_26 rfl (lv_at hl 0 rfl) ?_
        refine lv_iadd C0.hx C0.hb dX14_test_27 ?_
        refine h_aload_n C0.hx C0.hb dX14_test_28 rfl (lv_at hl 1 rfl) ?_
        refine lv_iload_n C0.hx C0.hb dX14_test_29 rfl (lv_at hl 2 rfl) ?_
        obtain ⟨hk53, h⟩ := g_if h
        obtain ⟨q54, hq54, h⟩ := Option.bind_eq_some_iff.mp h
        refine h_calli hW (h_runV (As := [.int (p2)]) (rest := [.int ((17 : Int32) + q31.1), g_rf G (h_nx q31.2), g_rf G (h_nx q31.2)]) C0 hW (hW.rf (h_ne hk53 (by decide))) (h_recv C0 hW (h_ne hk53 (by decide)) (h_c50 hk53) rfl) (c_l_X13_next hq54) cy_X13_next (by omega) tm_X14_23 ti_X13_next ts_X13_next rfl hl.1 rfl (by simp [g_catQ, h_ki, h_kr, h_kn, h_kl, h_kd]) dX14_test_30) (fun H locs hW => ?_)
        refine h_null (G := G) C0.hx C0.hb dX14_test_33 ?_
        refine h_null (G := G) C0.hx C0.hb dX14_test_34 ?_
        obtain ⟨hk55, h⟩ := g_if h
        obtain ⟨q56, hq56, h⟩ := Option.bind_eq_some_iff.mp h
        refine h_callv hW (h_runI (As := [.int ((17 : Int32) + q31.1), .int (q54.1), g_rf G (0), g_rf G (0)]) (rest := [g_rf G (h_nx q31.2)]) C0 hW (hW.rf (h_ne hk55 (by decide))) (c_l_X14_init hq56) cy_X14_init (by omega) tm_X14_30 ti_X14_init rfl rfl hl.1 rfl (by simp [g_catQ, h_ki, h_kr, h_kn, h_kl, h_kd]) dX14_test_35) (fun H locs hW => ?_)
        obtain ⟨hk57, h⟩ := g_if h
        obtain rfl := Option.some.inj h
        exact h_aretC C0 hW (hW.rf (h_ne hk57 (by decide))) rfl dX14_test_38
