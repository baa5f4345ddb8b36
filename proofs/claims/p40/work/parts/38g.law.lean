set_option maxRecDepth 100000 in
set_option maxHeartbeats 4000000 in
theorem c_l_X16_init {l : Launch} {G : GL} {o : Nat → Int32} {x : CS} {y : MS} {t : Nat} {p1 : Nat} {p2 : Nat} {q : MS} (h : f_l_X16_init t p1 p2 y = some q) : Met l yX16_init (.code yX16_init cX16_init 3 (Option.none : Option Jvm.ClassFile.FieldType) :: gT) (h_lv 1 y) (va_Pc [g_rf G (t), g_rf G (p1), g_rf G (p2)] (h_P G (x, y, o))) (h_Qv G y (x, q, o)) (h_nx q - h_nx y) (h_sl q - h_sl y) (g_A G) := by
  unfold f_l_X16_init at h
  refine h_entry (by decide) (by simp [lg_sl, g_catQ, h_ki, h_kr, h_kn, h_kl, h_kd]) (fun p e s m args below meth c ls C0 hl hW hin_ => ?_)
  have hl : lv_has ls 3 [(0, g_rf G (t)), (1, g_rf G (p1)), (2, g_rf G (p2))] := by simpa [lv_args, g_catQ, h_ki, h_kr, h_kn, h_kl, h_kd] using hl
  refine h_aload_n C0.hx C0.hb dX16_init_0 rfl (lv_at hl 0 rfl) ?_
  obtain ⟨hk1, h⟩ := g_if h
  refine h_objInit C0 hW (h_ne hk1 (by decide)) tm_X16_1 hl.1 (by show 1 ≤ 1; omega) (Nat.le_of_ble_eq_true rfl) dX16_init_1 ?_
  refine h_aload_n C0.hx C0.hb dX16_init_4 rfl (lv_at hl 0 rfl) ?_
  refine lv_iconst (v := (4 : Int32)) C0.hx C0.hb dX16_init_5 (by decide) ?_
  refine hp_X16_0 C0 hW hk1 tf_X16_7 dX16_init_6 (fun H locs hW => ?_)
  refine h_fwi hW ?_
  refine h_aload_n C0.hx C0.hb dX16_init_9 rfl (lv_at hl 0 rfl) ?_
  refine lv_bipush (v := (6 : Int32)) C0.hx C0.hb dX16_init_10 (by decide) ?_
  refine hp_X16_1 C0 hW hk1 tf_X16_13 dX16_init_12 (fun H locs hW => ?_)
  refine h_fwi hW ?_
  refine h_aload_n C0.hx C0.hb dX16_init_15 rfl (lv_at hl 0 rfl) ?_
  refine lv_iconst (v := (0 : Int32)) C0.hx C0.hb dX16_init_16 (by decide) ?_
  obtain ⟨hn2, h⟩ := g_if h
  obtain ⟨hn3, h⟩ := g_if h
  refine hn_63 C0 hW hn2 hn3 tl_X16_16 dX16_init_17 (fun H hW => ?_)
  obtain ⟨hk4, h⟩ := g_if h
  refine hp_X16_2 C0 hW hk4 tf_X16_18 dX16_init_20 (fun H locs hW => ?_)
  refine h_fwr hW ?_
  refine h_aload_n C0.hx C0.hb dX16_init_23 rfl (lv_at hl 0 rfl) ?_
  refine lv_iconst (v := (0 : Int32)) C0.hx C0.hb dX16_init_24 (by decide) ?_
  obtain ⟨hn5, h⟩ := g_if h
  obtain ⟨hn6, h⟩ := g_if h
  refine hn_62 C0 hW hn5 hn6 dX16_init_25 (fun H hW => ?_)
  obtain ⟨hk7, h⟩ := g_if h
  refine hp_X16_3 C0 hW hk7 tf_X16_22 dX16_init_27 (fun H locs hW => ?_)
  refine h_fwr hW ?_
  refine h_aload_n C0.hx C0.hb dX16_init_30 rfl (lv_at hl 0 rfl) ?_
  refine lv_iconst (v := (0 : Int32)) C0.hx C0.hb dX16_init_31 (by decide) ?_
  obtain ⟨hn8, h⟩ := g_if h
  obtain ⟨hn9, h⟩ := g_if h
  refine hn_60 C0 hW hn8 hn9 dX16_init_32 (fun H hW => ?_)
  obtain ⟨hk10, h⟩ := g_if h
  refine hp_X16_4 C0 hW hk10 tf_X16_26 dX16_init_34 (fun H locs hW => ?_)
  refine h_fwr hW ?_
  refine h_aload_n C0.hx C0.hb dX16_init_37 rfl (lv_at hl 0 rfl) ?_
  refine lv_iconst (v := (0 : Int32)) C0.hx C0.hb dX16_init_38 (by decide) ?_
  obtain ⟨hn11, h⟩ := g_if h
  obtain ⟨hn12, h⟩ := g_if h
  refine hn_64 C0 hW hn11 hn12 tl_X16_29 dX16_init_39 (fun H hW => ?_)
  obtain ⟨hk13, h⟩ := g_if h
  refine hp_X16_7 C0 hW hk13 tf_X16_31 dX16_init_42 (fun H locs hW => ?_)
  refine h_fwr hW ?_
  refine h_aload_n C0.hx C0.hb dX16_init_45 rfl (lv_at hl 0 rfl) ?_
  refine h_aload_n C0.hx C0.hb dX16_init_46 rfl (lv_at hl 1 rfl) ?_
  refine hp_X16_8 C0 hW hk13 tf_X16_35 (hin_ rfl) rfl dX16_init_47 (fun H locs hW => ?_)
  refine h_fwr hW ?_
  refine h_aload_n C0.hx C0.hb dX16_init_50 rfl (lv_at hl 0 rfl) ?_
  refine h_aload_n C0.hx C0.hb dX16_init_51 rfl (lv_at hl 2 rfl) ?_
  refine hp_X16_9 C0 hW hk13 tf_X16_38 (hin_ rfl) rfl dX16_init_52 (fun H locs hW => ?_)
  refine h_fwr hW ?_
  obtain rfl := Option.some.inj h
  exact h_vret C0 hW rfl dX16_init_55
set_option maxRecDepth 100000 in
set_option maxHeartbeats 4000000 in
theorem w_l_X16_near_41 {p : Program} {l : Launch} {e : Env} {s : State} {m : MethodId} {args : Array Value} {below : List Frame} {meth : Method} {c : Code} {G : GL} {o : Nat → Int32} {y0 : MS} {x : CS} {q : Int32 × MS}  (C0 : g_X G (List.range 120) p s m args meth c cX16_near 4 RX16 (Option.some Jvm.ClassFile.FieldType.boolean))  : ∀  (l0 : Nat) (l1 : Int32) (l2 : Int32) (s0 : Int32) (y : MS) (H : Heap) (locs : List Loc) (ls : Array Slot), f_l_X16_near_41 l0 l1 l2 s0 y = some q → h_W G y0 (x, y, o) s.heap H locs → lv_has ls 4 [(0, g_rf G (l0)), (1, .int (l1)), (2, .int (l2))] → W p l e (h_lv 4 y0) s m args below meth c H locs (h_nx y - h_nx y0) (h_sl y - h_sl y0) (MQ below (h_Qi G y0 q.1 (x, q.2, o)) args s (h_nx q.2 - h_nx y0) (h_sl q.2 - h_sl y0) (g_A G)) (F0 m 41 ls [.int (s0)]) := by
  intro l0 l1 l2 s0 y H locs ls h hW hl
  unfold f_l_X16_near_41 at h
  refine lv_istore_n (lv' := [(3, .int (s0)), (0, g_rf G (l0)), (1, .int (l1)), (2, .int (l2))]) C0.hx C0.hb dX16_near_41 rfl hl (by decide) rfl (fun ls hl => ?_)
  refine h_aload_n C0.hx C0.hb dX16_near_42 rfl (lv_at hl 1 rfl) ?_
  refine h_aload_n C0.hx C0.hb dX16_near_43 rfl (lv_at hl 1 rfl) ?_
  obtain ⟨hk11, h⟩ := g_if h
  refine hf_X16_2 C0 hW hk11 tf_X16_18 dX16_near_44 ?_
  refine lv_iload_n C0.hx C0.hb dX16_near_47 rfl (lv_at hl 2 rfl) ?_
  obtain ⟨hk12, h⟩ := g_if h
  obtain ⟨hn13, h⟩ := g_if h
  refine ha_63 C0 hW hk12 hn13 dX16_near_48 ?_
  refine h_aload_n C0.hx C0.hb dX16_near_49 rfl (lv_at hl 1 rfl) ?_
  refine hf_X16_2 C0 hW hk11 tf_X16_18 dX16_near_50 ?_
  refine lv_iload_n C0.hx C0.hb dX16_near_53 rfl (lv_at hl 3 rfl) ?_
  obtain ⟨hn14, h⟩ := g_if h
  refine ha_63 C0 hW hk12 hn14 dX16_near_54 ?_
  obtain ⟨q15, hq15, h⟩ := Option.bind_eq_some_iff.mp h
  refine h_calli hW (h_runV (As := [g_rf G (h_R y (h_R y l0 2) l1.toNatClampNeg), g_rf G (h_R y (h_R y l0 2) l2.toNatClampNeg)]) (rest := []) C0 hW (hW.rf (h_ne hk11 (by decide))) (h_recv C0 hW (h_ne hk11 (by decide)) (h_c53 hk11) rfl) (c_l_X16_far hq15) cy_X16_far (by omega) tm_X16_69 ti_X16_far ts_X16_far rfl hl.1 rfl (Nat.le_of_ble_eq_true rfl) dX16_near_55) (fun H locs hW => ?_)
  refine h_aload_n C0.hx C0.hb dX16_near_58 rfl (lv_at hl 1 rfl) ?_
  obtain ⟨hk16, h⟩ := g_if h
  refine hf_X16_1 C0 hW hk16 tf_X16_13 dX16_near_59 ?_
  refine lv_iload_n C0.hx C0.hb dX16_near_62 rfl (lv_at hl 0 rfl) ?_
  refine lv_imul C0.hx C0.hb dX16_near_63 ?_
  refine lv_iconst (v := (4 : Int32)) C0.hx C0.hb dX16_near_64 (by decide) ?_
  refine lv_idiv C0.hx C0.hb dX16_near_65 (by decide) ?_
  refine lv_icmp_ge (tgt := 73) C0.hx C0.hb dX16_near_66 (by decide) (fun hc17 => ?_) (fun hc17 => ?_)
  · replace h := (if_pos hc17).symm.trans h
    refine lv_iconst (v := (0 : Int32)) C0.hx C0.hb dX16_near_73 (by decide) ?_
    obtain rfl := Option.some.inj h
    exact h_iret C0 hW rfl (g_bool (Or.inl rfl)).1 dX16_near_74
  · replace h := (if_neg hc17).symm.trans h
    refine lv_iconst (v := (1 : Int32)) C0.hx C0.hb dX16_near_69 (by decide) ?_
    refine lv_goto (tgt := 74) C0.hx C0.hb dX16_near_70 (by decide) ?_
    obtain rfl := Option.some.inj h
    exact h_iret C0 hW rfl (g_bool (Or.inr rfl)).1 dX16_near_74
set_option maxRecDepth 100000 in
set_option maxHeartbeats 4000000 in
theorem c_l_X16_near {l : Launch} {G : GL} {o : Nat → Int32} {x : CS} {y : MS} {t : Nat} {p1 : Int32} {p2 : Int32} {q : Int32 × MS} (h : f_l_X16_near t p1 p2 y = some q) : Met l yX16_near (.code yX16_near cX16_near 4 (Option.some Jvm.ClassFile.FieldType.boolean) :: gT) (h_lv 4 y) (va_Pc [g_rf G (t), .int (p1), .int (p2)] (h_P G (x, y, o))) (h_Qi G y q.1 (x, q.2, o)) (h_nx q.2 - h_nx y) (h_sl q.2 - h_sl y) (g_A G) := by
  unfold f_l_X16_near at h
  refine h_entry (by decide) (by simp [lg_sl, g_catQ, h_ki, h_kr, h_kn, h_kl, h_kd]) (fun p e s m args below meth c ls C0 hl hW hin_ => ?_)
  have hl : lv_has ls 4 [(0, g_rf G (t)), (1, .int (p1)), (2, .int (p2))] := by simpa [lv_args, g_catQ, h_ki, h_kr, h_kn, h_kl, h_kd] using hl
  refine lv_iload_n C0.hx C0.hb dX16_near_0 rfl (lv_at hl 1 rfl) ?_
  refine lv_iload_n C0.hx C0.hb dX16_near_1 rfl (lv_at hl 2 rfl) ?_
  refine lv_icmp_ne (tgt := 7) C0.hx C0.hb dX16_near_2 (by decide) (fun hc1 => ?_) (fun hc1 => ?_)
  · replace h := (if_neg hc1).symm.trans h
    refine h_aload_n C0.hx C0.hb dX16_near_7 rfl (lv_at hl 0 rfl) ?_
    obtain ⟨hk2, h⟩ := g_if h
    refine hf_X16_2 C0 hW hk2 tf_X16_18 dX16_near_8 ?_
    refine lv_iload_n C0.hx C0.hb dX16_near_11 rfl (lv_at hl 1 rfl) ?_
    obtain ⟨hk3, h⟩ := g_if h
    obtain ⟨hn4, h⟩ := g_if h
    refine ha_63 C0 hW hk3 hn4 dX16_near_12 ?_
    obtain ⟨hk5, h⟩ := g_if h
    refine hl_60 C0 hW hk5 dX16_near_13 ?_
    refine h_aload_n C0.hx C0.hb dX16_near_14 rfl (lv_at hl 0 rfl) ?_
    refine hf_X16_2 C0 hW hk2 tf_X16_18 dX16_near_15 ?_
    refine lv_iload_n C0.hx C0.hb dX16_near_18 rfl (lv_at hl 2 rfl) ?_
    obtain ⟨hn6, h⟩ := g_if h
    refine ha_63 C0 hW hk3 hn6 dX16_near_19 ?_
    obtain ⟨hk7, h⟩ := g_if h
    refine hl_60 C0 hW hk7 dX16_near_20 ?_
    refine lv_icmp_le (tgt := 34) C0.hx C0.hb dX16_near_21 (by decide) (fun hc8 => ?_) (fun hc8 => ?_)
    · replace h := (if_pos hc8).symm.trans h
      refine h_aload_n C0.hx C0.hb dX16_near_34 rfl (lv_at hl 0 rfl) ?_
      refine hf_X16_2 C0 hW hk2 tf_X16_18 dX16_near_35 ?_
      refine lv_iload_n C0.hx C0.hb dX16_near_38 rfl (lv_at hl 2 rfl) ?_
      obtain ⟨hn9, h⟩ := g_if h
      refine ha_63 C0 hW hk3 hn9 dX16_near_39 ?_
      refine hl_60 C0 hW hk7 dX16_near_40 ?_
      have hz := w_l_X16_near_41 (l := l) (e := e) (below := below) C0 _ _ _ _ _ _ _ _ h hW (lv_sub hl [0, 1, 2] rfl)
      exact hz
    · replace h := (if_neg hc8).symm.trans h
      refine h_aload_n C0.hx C0.hb dX16_near_24 rfl (lv_at hl 0 rfl) ?_
      refine hf_X16_2 C0 hW hk2 tf_X16_18 dX16_near_25 ?_
      refine lv_iload_n C0.hx C0.hb dX16_near_28 rfl (lv_at hl 1 rfl) ?_
      obtain ⟨hn10, h⟩ := g_if h
      refine ha_63 C0 hW hk3 hn10 dX16_near_29 ?_
      refine hl_60 C0 hW hk5 dX16_near_30 ?_
      refine lv_goto (tgt := 41) C0.hx C0.hb dX16_near_31 (by decide) ?_
      have hz := w_l_X16_near_41 (l := l) (e := e) (below := below) C0 _ _ _ _ _ _ _ _ h hW (lv_sub hl [0, 1, 2] rfl)
      exact hz
  · replace h := (if_pos hc1).symm.trans h
    refine lv_iconst (v := (0 : Int32)) C0.hx C0.hb dX16_near_5 (by decide) ?_
    obtain rfl := Option.some.inj h
    exact h_iret C0 hW rfl (g_bool (Or.inl rfl)).1 dX16_near_6
set_option maxRecDepth 100000 in
set_option maxHeartbeats 4000000 in
theorem w_l_X16_needless_2 {p : Program} {l : Launch} {e : Env} {s : State} {m : MethodId} {args : Array Value} {below : List Frame} {meth : Method} {c : Code} {G : GL} {o : Nat → Int32} {y0 : MS} {x : CS} {q : Int32 × MS}  (C0 : g_X G (List.range 120) p s m args meth c cX16_needless 3 RX16 (Option.some Jvm.ClassFile.FieldType.boolean))  : ∀ (n : Nat) (l0 : Nat) (l1 : Int32) (l2 : Int32) (y : MS) (H : Heap) (locs : List Loc) (ls : Array Slot), f_l_X16_needless_2 n l0 l1 l2 y = some q → h_W G y0 (x, y, o) s.heap H locs → lv_has ls 3 [(0, g_rf G (l0)), (1, .int (l1)), (2, .int (l2))] → W p l e (h_lv 5 y0) s m args below meth c H locs (h_nx y - h_nx y0) (h_sl y - h_sl y0) (MQ below (h_Qi G y0 q.1 (x, q.2, o)) args s (h_nx q.2 - h_nx y0) (h_sl q.2 - h_sl y0) (g_A G)) (F0 m 2 ls []) := by
  intro n
  induction n with
  | zero =>
    intro l0 l1 l2 y H locs ls h hW hl
    exact absurd h (by simp [f_l_X16_needless_2])
  | succ n ih =>
    intro l0 l1 l2 y H locs ls h hW hl
    unfold f_l_X16_needless_2 at h
    refine lv_iload_n C0.hx C0.hb dX16_needless_2 rfl (lv_at hl 2 rfl) ?_
    refine lv_iload_n C0.hx C0.hb dX16_needless_3 rfl (lv_at hl 1 rfl) ?_
    refine lv_icmp_ge (tgt := 42) C0.hx C0.hb dX16_needless_4 (by decide) (fun hc1 => ?_) (fun hc1 => ?_)
    · replace h := (if_pos hc1).symm.trans h
      refine lv_iconst (v := (0 : Int32)) C0.hx C0.hb dX16_needless_42 (by decide) ?_
      obtain rfl := Option.some.inj h
      exact h_iret C0 hW rfl (g_bool (Or.inl rfl)).1 dX16_needless_43
    · replace h := (if_neg hc1).symm.trans h
      refine h_aload_n C0.hx C0.hb dX16_needless_7 rfl (lv_at hl 0 rfl) ?_
      obtain ⟨hk2, h⟩ := g_if h
      refine hf_X16_3 C0 hW hk2 tf_X16_22 dX16_needless_8 ?_
      refine lv_iload_n C0.hx C0.hb dX16_needless_11 rfl (lv_at hl 1 rfl) ?_
      obtain ⟨hk3, h⟩ := g_if h
      obtain ⟨hn4, h⟩ := g_if h
      refine ha_62 C0 hW hk3 hn4 dX16_needless_12 ?_
      refine lv_if_ne (tgt := 42) C0.hx C0.hb dX16_needless_13 (by decide) (fun hc5 => ?_) (fun hc5 => ?_)
      · replace h := (if_neg hc5).symm.trans h
        refine lv_iconst (v := (0 : Int32)) C0.hx C0.hb dX16_needless_42 (by decide) ?_
        obtain rfl := Option.some.inj h
        exact h_iret C0 hW rfl (g_bool (Or.inl rfl)).1 dX16_needless_43
      · replace h := (if_pos hc5).symm.trans h
        refine h_aload_n C0.hx C0.hb dX16_needless_16 rfl (lv_at hl 0 rfl) ?_
        refine hf_X16_3 C0 hW hk2 tf_X16_22 dX16_needless_17 ?_
        refine lv_iload_n C0.hx C0.hb dX16_needless_20 rfl (lv_at hl 2 rfl) ?_
        obtain ⟨hn6, h⟩ := g_if h
        refine ha_62 C0 hW hk3 hn6 dX16_needless_21 ?_
        refine lv_if_ne (tgt := 36) C0.hx C0.hb dX16_needless_22 (by decide) (fun hc7 => ?_) (fun hc7 => ?_)
        · replace h := (if_neg hc7).symm.trans h
          refine lv_iinc (v := l2 + (1 : Int32)) (lv' := [(2, .int (l2 + (1 : Int32))), (0, g_rf G (l0)), (1, .int (l1))]) C0.hx C0.hb dX16_needless_36 hl (k := 2) rfl rfl (by decide) rfl (fun ls hl => ?_)
          refine lv_goto (tgt := 2) C0.hx C0.hb dX16_needless_39 (by decide) ?_
          have hz := ih _ _ _ _ _ _ _ h hW (lv_sub hl [1, 2, 0] rfl)
          exact hz
        · replace h := (if_pos hc7).symm.trans h
          refine h_aload_n C0.hx C0.hb dX16_needless_25 rfl (lv_at hl 0 rfl) ?_
          refine lv_iload_n C0.hx C0.hb dX16_needless_26 rfl (lv_at hl 2 rfl) ?_
          refine lv_iload_n C0.hx C0.hb dX16_needless_27 rfl (lv_at hl 1 rfl) ?_
          obtain ⟨q8, hq8, h⟩ := Option.bind_eq_some_iff.mp h
          refine h_calli hW (h_runV (As := [.int (l2), .int (l1)]) (rest := []) C0 hW (hW.rf (h_ne hk2 (by decide))) (h_recv C0 hW (h_ne hk2 (by decide)) (h_c53 hk2) rfl) (c_l_X16_near hq8) cy_X16_near (by omega) tm_X16_73 ti_X16_near ts_X16_near rfl hl.1 rfl (Nat.le_of_ble_eq_true rfl) dX16_needless_28) (fun H locs hW => ?_)
          refine lv_if_eq (tgt := 36) C0.hx C0.hb dX16_needless_31 (by decide) (fun hc9 => ?_) (fun hc9 => ?_)
          · replace h := (if_pos hc9).symm.trans h
            refine lv_iinc (v := l2 + (1 : Int32)) (lv' := [(2, .int (l2 + (1 : Int32))), (0, g_rf G (l0)), (1, .int (l1))]) C0.hx C0.hb dX16_needless_36 hl (k := 2) rfl rfl (by decide) rfl (fun ls hl => ?_)
            refine lv_goto (tgt := 2) C0.hx C0.hb dX16_needless_39 (by decide) ?_
            have hz := ih _ _ _ _ _ _ _ h hW (lv_sub hl [1, 2, 0] rfl)
            exact hz
          · replace h := (if_neg hc9).symm.trans h
            refine lv_iconst (v := (1 : Int32)) C0.hx C0.hb dX16_needless_34 (by decide) ?_
            obtain rfl := Option.some.inj h
            exact h_iret C0 hW rfl (g_bool (Or.inr rfl)).1 dX16_needless_35
set_option maxRecDepth 100000 in
set_option maxHeartbeats 4000000 in
theorem c_l_X16_needless {l : Launch} {G : GL} {o : Nat → Int32} {x : CS} {y : MS} {t : Nat} {p1 : Int32} {q : Int32 × MS} (h : f_l_X16_needless t p1 y = some q) : Met l yX16_needless (.code yX16_needless cX16_needless 3 (Option.some Jvm.ClassFile.FieldType.boolean) :: gT) (h_lv 5 y) (va_Pc [g_rf G (t), .int (p1)] (h_P G (x, y, o))) (h_Qi G y q.1 (x, q.2, o)) (h_nx q.2 - h_nx y) (h_sl q.2 - h_sl y) (g_A G) := by
  unfold f_l_X16_needless at h
  refine h_entry (by decide) (by simp [lg_sl, g_catQ, h_ki, h_kr, h_kn, h_kl, h_kd]) (fun p e s m args below meth c ls C0 hl hW hin_ => ?_)
  have hl : lv_has ls 3 [(0, g_rf G (t)), (1, .int (p1))] := by simpa [lv_args, g_catQ, h_ki, h_kr, h_kn, h_kl, h_kd] using hl
  refine lv_iconst (v := (0 : Int32)) C0.hx C0.hb dX16_needless_0 (by decide) ?_
  refine lv_istore_n (lv' := [(2, .int ((0 : Int32))), (0, g_rf G (t)), (1, .int (p1))]) C0.hx C0.hb dX16_needless_1 rfl hl (by decide) rfl (fun ls hl => ?_)
  have hz := w_l_X16_needless_2 (l := l) (e := e) (below := below) C0 g_fuel _ _ _ _ _ _ _ h hW (lv_sub hl [1, 2, 0] rfl)
  exact hz
set_option maxRecDepth 100000 in
set_option maxHeartbeats 4000000 in
theorem w_l_X16_pass_13 {p : Program} {l : Launch} {e : Env} {s : State} {m : MethodId} {args : Array Value} {below : List Frame} {meth : Method} {c : Code} {G : GL} {o : Nat → Int32} {y0 : MS} {x : CS} {q : Int32 × MS}  (C0 : g_X G (List.range 120) p s m args meth c cX16_pass 6 RX16 (Option.some Jvm.ClassFile.FieldType.int))  : ∀ (n : Nat) (l0 : Nat) (l1 : Int32) (l2 : Nat) (l3 : Int32) (l4 : Int32) (y : MS) (H : Heap) (locs : List Loc) (ls : Array Slot), f_l_X16_pass_13 n l0 l1 l2 l3 l4 y = some q → h_W G y0 (x, y, o) s.heap H locs → lv_has ls 6 [(0, g_rf G (l0)), (1, .int (l1)), (2, g_rf G (l2)), (3, .int (l3)), (4, .int (l4))] → W p l e (h_lv 46 y0) s m args below meth c H locs (h_nx y - h_nx y0) (h_sl y - h_sl y0) (MQ below (h_Qi G y0 q.1 (x, q.2, o)) args s (h_nx q.2 - h_nx y0) (h_sl q.2 - h_sl y0) (g_A G)) (F0 m 13 ls []) := by
  intro n
  induction n with
  | zero =>
    intro l0 l1 l2 l3 l4 y H locs ls h hW hl
    exact absurd h (by simp [f_l_X16_pass_13])
  | succ n ih =>
    intro l0 l1 l2 l3 l4 y H locs ls h hW hl
    unfold f_l_X16_pass_13 at h
    refine lv_iload C0.hx C0.hb dX16_pass_13 (lv_at hl 4 rfl) ?_
    refine lv_iload_n C0.hx C0.hb dX16_pass_15 rfl (lv_at hl 3 rfl) ?_
    refine lv_icmp_ge (tgt := 48) C0.hx C0.hb dX16_pass_16 (by decide) (fun hc3 => ?_) (fun hc3 => ?_)
    · replace h := (if_pos hc3).symm.trans h
      refine h_aload_n C0.hx C0.hb dX16_pass_48 rfl (lv_at hl 0 rfl) ?_
      refine lv_dup C0.hx C0.hb dX16_pass_49 g_catQ ?_
      obtain ⟨hk4, h⟩ := g_if h
      refine hf_X16_6 C0 hW hk4 tf_X16_53 dX16_pass_50 ?_
      refine lv_iload_n C0.hx C0.hb dX16_pass_53 rfl (lv_at hl 1 rfl) ?_
      refine lv_iadd C0.hx C0.hb dX16_pass_54 ?_
      refine hp_X16_6 C0 hW hk4 tf_X16_53 dX16_pass_55 (fun H locs hW => ?_)
      refine h_fwi hW ?_
      refine h_aload_n C0.hx C0.hb dX16_pass_58 rfl (lv_at hl 0 rfl) ?_
      refine lv_dup C0.hx C0.hb dX16_pass_59 g_catQ ?_
      refine hf_X16_5 C0 hW hk4 tf_X16_50 dX16_pass_60 ?_
      refine lv_iconst (v := (1 : Int32)) C0.hx C0.hb dX16_pass_63 (by decide) ?_
      refine lv_iadd C0.hx C0.hb dX16_pass_64 ?_
      refine hp_X16_5 C0 hW hk4 tf_X16_50 dX16_pass_65 (fun H locs hW => ?_)
      refine h_fwi hW ?_
      refine lv_iload_n C0.hx C0.hb dX16_pass_68 rfl (lv_at hl 1 rfl) ?_
      obtain rfl := Option.some.inj h
      exact h_iret C0 hW rfl rfl dX16_pass_69
    · replace h := (if_neg hc3).symm.trans h
      refine h_aload_n C0.hx C0.hb dX16_pass_19 rfl (lv_at hl 2 rfl) ?_
      refine lv_iload C0.hx C0.hb dX16_pass_20 (lv_at hl 4 rfl) ?_
      obtain ⟨hk5, h⟩ := g_if h
      obtain ⟨hn6, h⟩ := g_if h
      refine ha_64 C0 hW hk5 hn6 dX16_pass_22 ?_
      refine h_astore (lv' := [(5, g_rf G (h_R y l2 l4.toNatClampNeg)), (0, g_rf G (l0)), (1, .int (l1)), (2, g_rf G (l2)), (3, .int (l3)), (4, .int (l4))]) C0.hx C0.hb dX16_pass_23 hl (by decide) rfl (fun ls hl => ?_)
      refine lv_iload_n C0.hx C0.hb dX16_pass_25 rfl (lv_at hl 2 rfl) ?_
      refine h_aload C0.hx C0.hb dX16_pass_26 (lv_at hl 0 rfl) ?_
      refine h_aload_n C0.hx C0.hb dX16_pass_28 rfl (lv_at hl 1 rfl) ?_
      obtain ⟨hk7, h⟩ := g_if h
      obtain ⟨q8, hq8, h⟩ := Option.bind_eq_some_iff.mp h
      refine h_calli hW (h_runV (As := [g_rf G (l0)]) (rest := [.int (l1)]) C0 hW (hW.rf (h_ne hk7 (by decide))) (h_recv C0 hW (h_ne hk7 (by decide)) (h_c52 hk7) rfl) (c_l_X15_isDone hq8) cy_X15_isDone (by omega) tm_X16_79 ti_X15_isDone ts_X15_isDone rfl hl.1 rfl (Nat.le_of_ble_eq_true rfl) dX16_pass_29) (fun H locs hW => ?_)
      refine lv_if_eq (tgt := 39) C0.hx C0.hb dX16_pass_32 (by decide) (fun hc9 => ?_) (fun hc9 => ?_)
      · replace h := (if_pos hc9).symm.trans h
        refine lv_iconst (v := (0 : Int32)) C0.hx C0.hb dX16_pass_39 (by decide) ?_
        refine lv_iadd C0.hx C0.hb dX16_pass_40 ?_
        refine lv_istore_n (i := 1) (lv' := [(1, .int (l1 + (0 : Int32))), (5, g_rf G (h_R y l2 l4.toNatClampNeg)), (0, g_rf G (l0)), (2, g_rf G (l2)), (3, .int (l3)), (4, .int (l4))]) C0.hx C0.hb dX16_pass_41 rfl hl (by decide) (by simp [g_catQ]) (fun ls hl => ?_)
        refine lv_iinc (v := l4 + (1 : Int32)) (lv' := [(4, .int (l4 + (1 : Int32))), (1, .int (l1 + (0 : Int32))), (5, g_rf G (h_R y l2 l4.toNatClampNeg)), (0, g_rf G (l0)), (2, g_rf G (l2)), (3, .int (l3))]) C0.hx C0.hb dX16_pass_42 hl (k := 5) rfl rfl (by decide) rfl (fun ls hl => ?_)
        refine lv_goto (tgt := 13) C0.hx C0.hb dX16_pass_45 (by decide) ?_
        have hz := ih _ _ _ _ _ _ _ _ _ h hW (lv_sub hl [3, 1, 4, 5, 0] rfl)
        exact hz
      · replace h := (if_neg hc9).symm.trans h
        refine lv_iconst (v := (1 : Int32)) C0.hx C0.hb dX16_pass_35 (by decide) ?_
        refine lv_goto (tgt := 40) C0.hx C0.hb dX16_pass_36 (by decide) ?_
        refine lv_iadd C0.hx C0.hb dX16_pass_40 ?_
        refine lv_istore_n (i := 1) (lv' := [(1, .int (l1 + (1 : Int32))), (5, g_rf G (h_R y l2 l4.toNatClampNeg)), (0, g_rf G (l0)), (2, g_rf G (l2)), (3, .int (l3)), (4, .int (l4))]) C0.hx C0.hb dX16_pass_41 rfl hl (by decide) (by simp [g_catQ]) (fun ls hl => ?_)
        refine lv_iinc (v := l4 + (1 : Int32)) (lv' := [(4, .int (l4 + (1 : Int32))), (1, .int (l1 + (1 : Int32))), (5, g_rf G (h_R y l2 l4.toNatClampNeg)), (0, g_rf G (l0)), (2, g_rf G (l2)), (3, .int (l3))]) C0.hx C0.hb dX16_pass_42 hl (k := 5) rfl rfl (by decide) rfl (fun ls hl => ?_)
        refine lv_goto (tgt := 13) C0.hx C0.hb dX16_pass_45 (by decide) ?_
        have hz := ih _ _ _ _ _ _ _ _ _ h hW (lv_sub hl [3, 1, 4, 5, 0] rfl)
        exact hz
set_option maxRecDepth 100000 in
set_option maxHeartbeats 4000000 in
theorem c_l_X16_pass {l : Launch} {G : GL} {o : Nat → Int32} {x : CS} {y : MS} {t : Nat} {q : Int32 × MS} (h : f_l_X16_pass t y = some q) : Met l yX16_pass (.code yX16_pass cX16_pass 6 (Option.some Jvm.ClassFile.FieldType.int) :: gT) (h_lv 46 y) (va_Pc [g_rf G (t)] (h_P G (x, y, o))) (h_Qi G y q.1 (x, q.2, o)) (h_nx q.2 - h_nx y) (h_sl q.2 - h_sl y) (g_A G) := by
  unfold f_l_X16_pass at h
  refine h_entry (by decide) (by simp [lg_sl, g_catQ, h_ki, h_kr, h_kn, h_kl, h_kd]) (fun p e s m args below meth c ls C0 hl hW hin_ => ?_)
  have hl : lv_has ls 6 [(0, g_rf G (t))] := by simpa [lv_args, g_catQ, h_ki, h_kr, h_kn, h_kl, h_kd] using hl
  refine lv_iconst (v := (0 : Int32)) C0.hx C0.hb dX16_pass_0 (by decide) ?_
  refine lv_istore_n (i := 1) (lv' := [(1, .int ((0 : Int32))), (0, g_rf G (t))]) C0.hx C0.hb dX16_pass_1 rfl hl (by decide) (by simp [g_catQ]) (fun ls hl => ?_)
  refine h_aload_n C0.hx C0.hb dX16_pass_2 rfl (lv_at hl 1 rfl) ?_
  obtain ⟨hk1, h⟩ := g_if h
  refine hf_X16_7 C0 hW hk1 tf_X16_31 dX16_pass_3 ?_
  refine h_astore_n (lv' := [(2, g_rf G (h_R y t 7)), (1, .int ((0 : Int32))), (0, g_rf G (t))]) C0.hx C0.hb dX16_pass_6 rfl hl (by decide) rfl (fun ls hl => ?_)
  refine h_aload_n C0.hx C0.hb dX16_pass_7 rfl (lv_at hl 0 rfl) ?_
  obtain ⟨hk2, h⟩ := g_if h
  refine hl_64 C0 hW hk2 dX16_pass_8 ?_
  refine lv_istore_n (i := 3) (lv' := [(3, .int (nI (h_N y (h_R y t 7)))), (2, g_rf G (h_R y t 7)), (1, .int ((0 : Int32))), (0, g_rf G (t))]) C0.hx C0.hb dX16_pass_9 rfl hl (by decide) (by simp [g_catQ]) (fun ls hl => ?_)
  refine lv_iconst (v := (0 : Int32)) C0.hx C0.hb dX16_pass_10 (by decide) ?_
  refine lv_istore (lv' := [(4, .int ((0 : Int32))), (3, .int (nI (h_N y (h_R y t 7)))), (2, g_rf G (h_R y t 7)), (1, .int ((0 : Int32))), (0, g_rf G (t))]) C0.hx C0.hb dX16_pass_11 hl (by decide) rfl (fun ls hl => ?_)
  have hz := w_l_X16_pass_13 (l := l) (e := e) (below := below) C0 g_fuel _ _ _ _ _ _ _ _ _ h hW (lv_sub hl [4, 3, 2, 1, 0] rfl)
  exact hz
set_option maxRecDepth 100000 in
set_option maxHeartbeats 4000000 in
theorem w_l_X16_pass__4 {p : Program} {l : Launch} {e : Env} {s : State} {m : MethodId} {args : Array Value} {below : List Frame} {meth : Method} {c : Code} {G : GL} {o : Nat → Int32} {y0 : MS} {x : CS} {q : Int32 × MS}  (C0 : g_X G (List.range 120) p s m args meth c cX16_pass_ 4 RX16 (Option.some Jvm.ClassFile.FieldType.int))  : ∀ (n : Nat) (l0 : Nat) (l1 : Int32) (l2 : Int32) (l3 : Int32) (y : MS) (H : Heap) (locs : List Loc) (ls : Array Slot), f_l_X16_pass__4 n l0 l1 l2 l3 y = some q → h_W G y0 (x, y, o) s.heap H locs → lv_has ls 4 [(0, g_rf G (l0)), (1, .int (l1)), (2, .int (l2)), (3, .int (l3))] → W p l e (h_lv 47 y0) s m args below meth c H locs (h_nx y - h_nx y0) (h_sl y - h_sl y0) (MQ below (h_Qi G y0 q.1 (x, q.2, o)) args s (h_nx q.2 - h_nx y0) (h_sl q.2 - h_sl y0) (g_A G)) (F0 m 4 ls []) := by
  intro n
  induction n with
  | zero =>
    intro l0 l1 l2 l3 y H locs ls h hW hl
    exact absurd h (by simp [f_l_X16_pass__4])
  | succ n ih =>
    intro l0 l1 l2 l3 y H locs ls h hW hl
    unfold f_l_X16_pass__4 at h
    refine lv_iload_n C0.hx C0.hb dX16_pass__4 rfl (lv_at hl 3 rfl) ?_
    refine lv_iload_n C0.hx C0.hb dX16_pass__5 rfl (lv_at hl 1 rfl) ?_
    refine lv_icmp_ge (tgt := 22) C0.hx C0.hb dX16_pass__6 (by decide) (fun hc1 => ?_) (fun hc1 => ?_)
    · replace h := (if_pos hc1).symm.trans h
      refine lv_iload_n C0.hx C0.hb dX16_pass__22 rfl (lv_at hl 2 rfl) ?_
      obtain rfl := Option.some.inj h
      exact h_iret C0 hW rfl rfl dX16_pass__23
    · replace h := (if_neg hc1).symm.trans h
      refine lv_iload_n C0.hx C0.hb dX16_pass__9 rfl (lv_at hl 2 rfl) ?_
      refine h_aload_n C0.hx C0.hb dX16_pass__10 rfl (lv_at hl 0 rfl) ?_
      obtain ⟨hk2, h⟩ := g_if h
      obtain ⟨q3, hq3, h⟩ := Option.bind_eq_some_iff.mp h
      refine h_calli hW (h_runV (As := []) (rest := [.int (l2)]) C0 hW (hW.rf (h_ne hk2 (by decide))) (h_recv C0 hW (h_ne hk2 (by decide)) (h_c53 hk2) rfl) (c_l_X16_pass hq3) cy_X16_pass (by omega) tm_X16_83 ti_X16_pass ts_X16_pass rfl hl.1 rfl (Nat.le_of_ble_eq_true rfl) dX16_pass__11) (fun H locs hW => ?_)
      refine lv_iadd C0.hx C0.hb dX16_pass__14 ?_
      refine lv_istore_n (lv' := [(2, .int (l2 + q3.1)), (0, g_rf G (l0)), (1, .int (l1)), (3, .int (l3))]) C0.hx C0.hb dX16_pass__15 rfl hl (by decide) rfl (fun ls hl => ?_)
      refine lv_iinc (v := l3 + (1 : Int32)) (lv' := [(3, .int (l3 + (1 : Int32))), (2, .int (l2 + q3.1)), (0, g_rf G (l0)), (1, .int (l1))]) C0.hx C0.hb dX16_pass__16 hl (k := 3) rfl rfl (by decide) rfl (fun ls hl => ?_)
      refine lv_goto (tgt := 4) C0.hx C0.hb dX16_pass__19 (by decide) ?_
      have hz := ih _ _ _ _ _ _ _ _ h hW (lv_sub hl [2, 3, 1, 0] rfl)
      exact hz
set_option maxRecDepth 100000 in
set_option maxHeartbeats 4000000 in
theorem c_l_X16_pass_ {l : Launch} {G : GL} {o : Nat → Int32} {x : CS} {y : MS} {t : Nat} {p1 : Int32} {q : Int32 × MS} (h : f_l_X16_pass_ t p1 y = some q) : Met l yX16_pass_ (.code yX16_pass_ cX16_pass_ 4 (Option.some Jvm.ClassFile.FieldType.int) :: gT) (h_lv 47 y) (va_Pc [g_rf G (t), .int (p1)] (h_P G (x, y, o))) (h_Qi G y q.1 (x, q.2, o)) (h_nx q.2 - h_nx y) (h_sl q.2 - h_sl y) (g_A G) := by
  unfold f_l_X16_pass_ at h
  refine h_entry (by decide) (by simp [lg_sl, g_catQ, h_ki, h_kr, h_kn, h_kl, h_kd]) (fun p e s m args below meth c ls C0 hl hW hin_ => ?_)
  have hl : lv_has ls 4 [(0, g_rf G (t)), (1, .int (p1))] := by simpa [lv_args, g_catQ, h_ki, h_kr, h_kn, h_kl, h_kd] using hl
  refine lv_iconst (v := (0 : Int32)) C0.hx C0.hb dX16_pass__0 (by decide) ?_
  refine lv_istore_n (lv' := [(2, .int ((0 : Int32))), (0, g_rf G (t)), (1, .int (p1))]) C0.hx C0.hb dX16_pass__1 rfl hl (by decide) rfl (fun ls hl => ?_)
  refine lv_iconst (v := (0 : Int32)) C0.hx C0.hb dX16_pass__2 (by decide) ?_
  refine lv_istore_n (lv' := [(3, .int ((0 : Int32))), (2, .int ((0 : Int32))), (0, g_rf G (t)), (1, .int (p1))]) C0.hx C0.hb dX16_pass__3 rfl hl (by decide) rfl (fun ls hl => ?_)
  have hz := w_l_X16_pass__4 (l := l) (e := e) (below := below) C0 g_fuel _ _ _ _ _ _ _ _ h hW (lv_sub hl [2, 3, 1, 0] rfl)
  exact hz
set_option maxRecDepth 100000 in
set_option maxHeartbeats 4000000 in
theorem w_l_X16_isSame_271 {p : Program} {l : Launch} {e : Env} {s : State} {m : MethodId} {args : Array Value} {below : List Frame} {meth : Method} {c : Code} {G : GL} {o : Nat → Int32} {y0 : MS} {q : Int32 × CS × MS}  (C0 : g_X G (List.range 120) p s m args meth c cX16_isSame 7 RX16 (Option.some Jvm.ClassFile.FieldType.boolean))  : ∀  (s0 : UInt64) (s1 : UInt64) (x : CS) (y : MS) (H : Heap) (locs : List Loc) (ls : Array Slot), f_l_X16_isSame_271 s0 s1 x y = some q → h_W G y0 (x, y, o) s.heap H locs → lv_has ls 7 [] → W p l e (h_lv 8 y0) s m args below meth c H locs (h_nx y - h_nx y0) (h_sl y - h_sl y0) (MQ below (h_Qi G y0 q.1 (q.2.1, q.2.2, o)) args s (h_nx q.2.2 - h_nx y0) (h_sl q.2.2 - h_sl y0) (g_A G)) (F0 m 271 ls [.double (s0), .double (s1)]) := by
  intro s0 s1 x y H locs ls h hW hl
  unfold f_l_X16_isSame_271 at h
  refine lv_dcmp C0.hx C0.hb dX16_isSame_271 ?_
  refine lv_if_ne (tgt := 279) C0.hx C0.hb dX16_isSame_272 (by decide) (fun hc42 => ?_) (fun hc42 => ?_)
  · replace h := (if_neg hc42).symm.trans h
    refine lv_iconst (v := (0 : Int32)) C0.hx C0.hb dX16_isSame_279 (by decide) ?_
    obtain rfl := Option.some.inj h
    exact h_iret C0 hW rfl (g_bool (Or.inl rfl)).1 dX16_isSame_280
  · replace h := (if_pos hc42).symm.trans h
    refine lv_iconst (v := (1 : Int32)) C0.hx C0.hb dX16_isSame_275 (by decide) ?_
    refine lv_goto (tgt := 280) C0.hx C0.hb dX16_isSame_276 (by decide) ?_
    obtain rfl := Option.some.inj h
    exact h_iret C0 hW rfl (g_bool (Or.inr rfl)).1 dX16_isSame_280
set_option maxRecDepth 100000 in
set_option maxHeartbeats 4000000 in
theorem w_l_X16_isSame_146 {p : Program} {l : Launch} {e : Env} {s : State} {m : MethodId} {args : Array Value} {below : List Frame} {meth : Method} {c : Code} {G : GL} {o : Nat → Int32} {y0 : MS} {q : Int32 × CS × MS}  (C0 : g_X G (List.range 120) p s m args meth c cX16_isSame 7 RX16 (Option.some Jvm.ClassFile.FieldType.boolean))  : ∀ (n : Nat) (l0 : Nat) (l2 : Int32) (l3 : Int32) (x : CS) (y : MS) (H : Heap) (locs : List Loc) (ls : Array Slot), f_l_X16_isSame_146 n l0 l2 l3 x y = some q → h_W G y0 (x, y, o) s.heap H locs → lv_has ls 7 [(0, g_rf G (l0)), (1, .ref (g_ad G (0))), (2, .int (l2)), (3, .int (l3))] → W p l e (h_lv 8 y0) s m args below meth c H locs (h_nx y - h_nx y0) (h_sl y - h_sl y0) (MQ below (h_Qi G y0 q.1 (q.2.1, q.2.2, o)) args s (h_nx q.2.2 - h_nx y0) (h_sl q.2.2 - h_sl y0) (g_A G)) (F0 m 146 ls []) := by
  intro n
  induction n with
  | zero =>
    intro l0 l2 l3 x y H locs ls h hW hl
    exact absurd h (by simp [f_l_X16_isSame_146])
  | succ n ih =>
    intro l0 l2 l3 x y H locs ls h hW hl
    unfold f_l_X16_isSame_146 at h
    refine lv_iload_n C0.hx C0.hb dX16_isSame_146 rfl (lv_at hl 3 rfl) ?_
    refine h_aload_n C0.hx C0.hb dX16_isSame_147 rfl (lv_at hl 0 rfl) ?_
    obtain ⟨hk12, h⟩ := g_if h
    refine hf_X16_4 C0 hW hk12 tf_X16_26 dX16_isSame_148 ?_
    obtain ⟨hk13, h⟩ := g_if h
    refine hl_60 C0 hW hk13 dX16_isSame_151 ?_
    refine lv_icmp_ge (tgt := 177) C0.hx C0.hb dX16_isSame_152 (by decide) (fun hc14 => ?_) (fun hc14 => ?_)
    · replace h := (if_pos hc14).symm.trans h
      refine lv_aload_n C0.hx C0.hb dX16_isSame_177 rfl (lv_at hl 1 rfl) ?_
      obtain ⟨q15, hq15, h⟩ := Option.bind_eq_some_iff.mp h
      refine h_kcalli hW (h_krunV (Sx := (x, y, o)) (As := []) (rest := []) C0 hW (c_X12_words hq15) rfl ⟨tc_X12_words, tn_X12, md_X12_words, by decide⟩ (by omega) tm_X16_109 ti_X12_words ts_X12_words rfl hl.1 rfl (Nat.le_of_ble_eq_true rfl) dX16_isSame_178) (fun H locs hW => ?_)
      refine h_aload_n C0.hx C0.hb dX16_isSame_181 rfl (lv_at hl 0 rfl) ?_
      refine hf_X16_2 C0 hW hk12 tf_X16_18 dX16_isSame_182 ?_
      obtain ⟨hk16, h⟩ := g_if h
      refine hl_63 C0 hW hk16 dX16_isSame_185 ?_
      refine lv_icmp_ne (tgt := 279) C0.hx C0.hb dX16_isSame_186 (by decide) (fun hc17 => ?_) (fun hc17 => ?_)
      · replace h := (if_neg hc17).symm.trans h
        refine lv_iconst (v := (0 : Int32)) C0.hx C0.hb dX16_isSame_279 (by decide) ?_
        obtain rfl := Option.some.inj h
        exact h_iret C0 hW rfl (g_bool (Or.inl rfl)).1 dX16_isSame_280
      · replace h := (if_pos hc17).symm.trans h
        refine lv_aload_n C0.hx C0.hb dX16_isSame_189 rfl (lv_at hl 1 rfl) ?_
        obtain ⟨q18, hq18, h⟩ := Option.bind_eq_some_iff.mp h
        refine h_kcalli hW (h_krunV (Sx := (x, y, o)) (As := []) (rest := []) C0 hW (c_X12_keptWords hq18) rfl ⟨tc_X12_keptWords, tn_X12, md_X12_keptWords, by decide⟩ (by omega) tm_X16_111 ti_X12_keptWords ts_X12_keptWords rfl hl.1 rfl (Nat.le_of_ble_eq_true rfl) dX16_isSame_190) (fun H locs hW => ?_)
        refine h_aload_n C0.hx C0.hb dX16_isSame_193 rfl (lv_at hl 0 rfl) ?_
        obtain ⟨q19, hq19, h⟩ := Option.bind_eq_some_iff.mp h
        refine h_calli hW (h_runV (As := []) (rest := [.int (q18)]) C0 hW (hW.rf (h_ne hk12 (by decide))) (h_recv C0 hW (h_ne hk12 (by decide)) (h_c53 hk12) rfl) (c_l_X16_kept hq19) cy_X16_kept (by omega) tm_X16_114 ti_X16_kept ts_X16_kept rfl hl.1 rfl (Nat.le_of_ble_eq_true rfl) dX16_isSame_194) (fun H locs hW => ?_)
        refine lv_icmp_ne (tgt := 279) C0.hx C0.hb dX16_isSame_197 (by decide) (fun hc20 => ?_) (fun hc20 => ?_)
        · replace h := (if_neg hc20).symm.trans h
          refine lv_iconst (v := (0 : Int32)) C0.hx C0.hb dX16_isSame_279 (by decide) ?_
          obtain rfl := Option.some.inj h
          exact h_iret C0 hW rfl (g_bool (Or.inl rfl)).1 dX16_isSame_280
        · replace h := (if_pos hc20).symm.trans h
          refine lv_aload_n C0.hx C0.hb dX16_isSame_200 rfl (lv_at hl 1 rfl) ?_
          obtain ⟨q21, hq21, h⟩ := Option.bind_eq_some_iff.mp h
          refine h_kcalli hW (h_krunV (Sx := (x, y, o)) (As := []) (rest := []) C0 hW (c_X12_rules hq21) rfl ⟨tc_X12_rules, tn_X12, md_X12_rules, by decide⟩ (by omega) tm_X16_117 ti_X12_rules ts_X12_rules rfl hl.1 rfl (Nat.le_of_ble_eq_true rfl) dX16_isSame_201) (fun H locs hW => ?_)
          refine h_aload_n C0.hx C0.hb dX16_isSame_204 rfl (lv_at hl 0 rfl) ?_
          refine hf_X16_7 C0 hW hk12 tf_X16_31 dX16_isSame_205 ?_
          obtain ⟨hk22, h⟩ := g_if h
          refine hl_64 C0 hW hk22 dX16_isSame_208 ?_
          refine lv_icmp_ne (tgt := 279) C0.hx C0.hb dX16_isSame_209 (by decide) (fun hc23 => ?_) (fun hc23 => ?_)
          · replace h := (if_neg hc23).symm.trans h
            refine lv_iconst (v := (0 : Int32)) C0.hx C0.hb dX16_isSame_279 (by decide) ?_
            obtain rfl := Option.some.inj h
            exact h_iret C0 hW rfl (g_bool (Or.inl rfl)).1 dX16_isSame_280
          · replace h := (if_pos hc23).symm.trans h
            refine lv_aload_n C0.hx C0.hb dX16_isSame_212 rfl (lv_at hl 1 rfl) ?_
            obtain ⟨q24, hq24, h⟩ := Option.bind_eq_some_iff.mp h
            refine h_kcalli hW (h_krunV (Sx := (x, y, o)) (As := []) (rest := []) C0 hW (c_X12_lessons hq24) rfl ⟨tc_X12_lessons, tn_X12, md_X12_lessons, by decide⟩ (by omega) tm_X16_119 ti_X12_lessons ts_X12_lessons rfl hl.1 rfl (Nat.le_of_ble_eq_true rfl) dX16_isSame_213) (fun H locs hW => ?_)
            refine h_aload_n C0.hx C0.hb dX16_isSame_216 rfl (lv_at hl 0 rfl) ?_
            refine hf_X16_5 C0 hW hk12 tf_X16_50 dX16_isSame_217 ?_
            refine lv_icmp_ne (tgt := 279) C0.hx C0.hb dX16_isSame_220 (by decide) (fun hc25 => ?_) (fun hc25 => ?_)
            · replace h := (if_neg hc25).symm.trans h
              refine lv_iconst (v := (0 : Int32)) C0.hx C0.hb dX16_isSame_279 (by decide) ?_
              obtain rfl := Option.some.inj h
              exact h_iret C0 hW rfl (g_bool (Or.inl rfl)).1 dX16_isSame_280
            · replace h := (if_pos hc25).symm.trans h
              refine lv_aload_n C0.hx C0.hb dX16_isSame_223 rfl (lv_at hl 1 rfl) ?_
              obtain ⟨q26, hq26, h⟩ := Option.bind_eq_some_iff.mp h
              refine h_kcalli hW (h_krunV (Sx := (x, y, o)) (As := []) (rest := []) C0 hW (c_X12_rulesCarriedOut hq26) rfl ⟨tc_X12_rulesCarriedOut, tn_X12, md_X12_rulesCarriedOut, by decide⟩ (by omega) tm_X16_121 ti_X12_rulesCarriedOut ts_X12_rulesCarriedOut rfl hl.1 rfl (Nat.le_of_ble_eq_true rfl) dX16_isSame_224) (fun H locs hW => ?_)
              refine h_aload_n C0.hx C0.hb dX16_isSame_227 rfl (lv_at hl 0 rfl) ?_
              refine hf_X16_6 C0 hW hk12 tf_X16_53 dX16_isSame_228 ?_
              refine lv_icmp_ne (tgt := 279) C0.hx C0.hb dX16_isSame_231 (by decide) (fun hc27 => ?_) (fun hc27 => ?_)
              · replace h := (if_neg hc27).symm.trans h
                refine lv_iconst (v := (0 : Int32)) C0.hx C0.hb dX16_isSame_279 (by decide) ?_
                obtain rfl := Option.some.inj h
                exact h_iret C0 hW rfl (g_bool (Or.inl rfl)).1 dX16_isSame_280
              · replace h := (if_pos hc27).symm.trans h
                refine lv_aload_n C0.hx C0.hb dX16_isSame_234 rfl (lv_at hl 1 rfl) ?_
                obtain ⟨q28, hq28, h⟩ := Option.bind_eq_some_iff.mp h
                refine h_kcalli hW (h_krunV (Sx := (x, y, o)) (As := []) (rest := []) C0 hW (c_X12_heardBeats hq28) rfl ⟨tc_X12_heardBeats, tn_X12, md_X12_heardBeats, by decide⟩ (by omega) tm_X16_124 ti_X12_heardBeats ts_X12_heardBeats rfl hl.1 rfl (Nat.le_of_ble_eq_true rfl) dX16_isSame_235) (fun H locs hW => ?_)
                refine h_aload_n C0.hx C0.hb dX16_isSame_238 rfl (lv_at hl 0 rfl) ?_
                refine hf_X16_4 C0 hW hk12 tf_X16_26 dX16_isSame_239 ?_
                refine hl_60 C0 hW hk13 dX16_isSame_242 ?_
                refine lv_icmp_ne (tgt := 279) C0.hx C0.hb dX16_isSame_243 (by decide) (fun hc29 => ?_) (fun hc29 => ?_)
                · replace h := (if_neg hc29).symm.trans h
                  refine lv_iconst (v := (0 : Int32)) C0.hx C0.hb dX16_isSame_279 (by decide) ?_
                  obtain rfl := Option.some.inj h
                  exact h_iret C0 hW rfl (g_bool (Or.inl rfl)).1 dX16_isSame_280
                · replace h := (if_pos hc29).symm.trans h
                  refine lv_aload_n C0.hx C0.hb dX16_isSame_246 rfl (lv_at hl 1 rfl) ?_
                  obtain ⟨q30, hq30, h⟩ := Option.bind_eq_some_iff.mp h
                  refine h_kcalld hW (h_krunV (Sx := (x, y, o)) (As := []) (rest := []) C0 hW (c_X12_meanLength hq30) rfl ⟨tc_X12_meanLength, tn_X12, md_X12_meanLength, by decide⟩ (by omega) tm_X16_127 ti_X12_meanLength ts_X12_meanLength rfl hl.1 rfl (Nat.le_of_ble_eq_true rfl) dX16_isSame_247) (fun H locs hW => ?_)
                  refine h_aload_n C0.hx C0.hb dX16_isSame_250 rfl (lv_at hl 0 rfl) ?_
                  refine hf_X16_2 C0 hW hk12 tf_X16_18 dX16_isSame_251 ?_
                  refine hl_63 C0 hW hk16 dX16_isSame_254 ?_
                  refine lv_if_ne (tgt := 262) C0.hx C0.hb dX16_isSame_255 (by decide) (fun hc31 => ?_) (fun hc31 => ?_)
                  · replace h := (if_neg hc31).symm.trans h
                    refine lv_iload_n C0.hx C0.hb dX16_isSame_262 rfl (lv_at hl 2 rfl) ?_
                    refine lv_i2d C0.hx C0.hb dX16_isSame_263 ?_
                    refine h_aload_n C0.hx C0.hb dX16_isSame_264 rfl (lv_at hl 0 rfl) ?_
                    refine hf_X16_2 C0 hW hk12 tf_X16_18 dX16_isSame_265 ?_
                    refine hl_63 C0 hW hk16 dX16_isSame_268 ?_
                    refine lv_i2d C0.hx C0.hb dX16_isSame_269 ?_
                    obtain ⟨hn32, h⟩ := g_if h
                    refine lv_ddiv C0.hx C0.hb dX16_isSame_270 (g_nanv hn32) ?_
                    have hz := w_l_X16_isSame_271 (l := l) (e := e) (below := below) C0 _ _ _ _ _ _ _ h hW (lv_sub hl [] rfl)
                    exact hz
                  · replace h := (if_pos hc31).symm.trans h
                    refine lv_dconst0 C0.hx C0.hb dX16_isSame_258 ?_
                    refine lv_goto (tgt := 271) C0.hx C0.hb dX16_isSame_259 (by decide) ?_
                    have hz := w_l_X16_isSame_271 (l := l) (e := e) (below := below) C0 _ _ _ _ _ _ _ h hW (lv_sub hl [] rfl)
                    exact hz
    · replace h := (if_neg hc14).symm.trans h
      refine lv_aload_n C0.hx C0.hb dX16_isSame_155 rfl (lv_at hl 1 rfl) ?_
      refine lv_iload_n C0.hx C0.hb dX16_isSame_156 rfl (lv_at hl 3 rfl) ?_
      obtain ⟨q33, hq33, h⟩ := Option.bind_eq_some_iff.mp h
      refine h_kcalli hW (h_krunV (Sx := (x, y, o)) (As := [.int (l3)]) (rest := []) C0 hW (c_X12_heardPitch hq33) rfl ⟨tc_X12_heardPitch, tn_X12, md_X12_heardPitch, by decide⟩ (by omega) tm_X16_106 ti_X12_heardPitch ts_X12_heardPitch rfl hl.1 rfl (Nat.le_of_ble_eq_true rfl) dX16_isSame_157) (fun H locs hW => ?_)
      refine h_aload_n C0.hx C0.hb dX16_isSame_160 rfl (lv_at hl 0 rfl) ?_
      refine hf_X16_4 C0 hW hk12 tf_X16_26 dX16_isSame_161 ?_
      refine lv_iload_n C0.hx C0.hb dX16_isSame_164 rfl (lv_at hl 3 rfl) ?_
      obtain ⟨hn34, h⟩ := g_if h
      refine ha_60 C0 hW hk13 hn34 dX16_isSame_165 ?_
      refine lv_icmp_eq (tgt := 171) C0.hx C0.hb dX16_isSame_166 (by decide) (fun hc35 => ?_) (fun hc35 => ?_)
      · replace h := (if_pos hc35).symm.trans h
        refine lv_iinc (v := l3 + (1 : Int32)) (lv' := [(3, .int (l3 + (1 : Int32))), (0, g_rf G (l0)), (1, .ref (g_ad G (0))), (2, .int (l2))]) C0.hx C0.hb dX16_isSame_171 hl (k := 3) rfl rfl (by decide) rfl (fun ls hl => ?_)
        refine lv_goto (tgt := 146) C0.hx C0.hb dX16_isSame_174 (by decide) ?_
        have hz := ih _ _ _ _ _ _ _ _ h hW (lv_sub hl [1, 2, 3, 0] rfl)
        exact hz
      · replace h := (if_neg hc35).symm.trans h
        refine lv_iconst (v := (0 : Int32)) C0.hx C0.hb dX16_isSame_169 (by decide) ?_
        obtain rfl := Option.some.inj h
        exact h_iret C0 hW rfl (g_bool (Or.inl rfl)).1 dX16_isSame_170
set_option maxRecDepth 100000 in
set_option maxHeartbeats 4000000 in
theorem w_l_X16_isSame_83 {p : Program} {l : Launch} {e : Env} {s : State} {m : MethodId} {args : Array Value} {below : List Frame} {meth : Method} {c : Code} {G : GL} {o : Nat → Int32} {y0 : MS} {q : Int32 × CS × MS} {k4 : Nat → Int32 → Int32 → CS → MS → Option (Int32 × CS × MS)} {k60 : Nat → Int32 → Int32 → Nat → Int32 → Int32 → CS → MS → Option (Int32 × CS × MS)}  (C0 : g_X G (List.range 120) p s m args meth c cX16_isSame 7 RX16 (Option.some Jvm.ClassFile.FieldType.boolean)) (kt4 : ∀ (l0 : Nat) (l2 : Int32) (l3 : Int32) (x : CS) (y : MS) (H : Heap) (locs : List Loc) (ls : Array Slot), k4 l0 l2 l3 x y = some q → h_W G y0 (x, y, o) s.heap H locs → lv_has ls 7 [(0, g_rf G (l0)), (1, .ref (g_ad G (0))), (2, .int (l2)), (3, .int (l3))] → W p l e (h_lv 8 y0) s m args below meth c H locs (h_nx y - h_nx y0) (h_sl y - h_sl y0) (MQ below (h_Qi G y0 q.1 (q.2.1, q.2.2, o)) args s (h_nx q.2.2 - h_nx y0) (h_sl q.2.2 - h_sl y0) (g_A G)) (F0 m 4 ls [])) (kt60 : ∀ (l0 : Nat) (l2 : Int32) (l3 : Int32) (l4 : Nat) (l5 : Int32) (l6 : Int32) (x : CS) (y : MS) (H : Heap) (locs : List Loc) (ls : Array Slot), k60 l0 l2 l3 l4 l5 l6 x y = some q → h_W G y0 (x, y, o) s.heap H locs → lv_has ls 7 [(0, g_rf G (l0)), (1, .ref (g_ad G (0))), (2, .int (l2)), (3, .int (l3)), (4, g_rf G (l4)), (5, .int (l5)), (6, .int (l6))] → W p l e (h_lv 8 y0) s m args below meth c H locs (h_nx y - h_nx y0) (h_sl y - h_sl y0) (MQ below (h_Qi G y0 q.1 (q.2.1, q.2.2, o)) args s (h_nx q.2.2 - h_nx y0) (h_sl q.2.2 - h_sl y0) (g_A G)) (F0 m 60 ls [])) : ∀  (l0 : Nat) (l2 : Int32) (l3 : Int32) (l4 : Nat) (l6 : Int32) (s0 : Int32) (s1 : Int32) (x : CS) (y : MS) (H : Heap) (locs : List Loc) (ls : Array Slot), f_l_X16_isSame_83 k4 k60 l0 l2 l3 l4 l6 s0 s1 x y = some q → h_W G y0 (x, y, o) s.heap H locs → lv_has ls 7 [(0, g_rf G (l0)), (1, .ref (g_ad G (0))), (2, .int (l2)), (3, .int (l3)), (4, g_rf G (l4)), (6, .int (l6))] → W p l e (h_lv 8 y0) s m args below meth c H locs (h_nx y - h_nx y0) (h_sl y - h_sl y0) (MQ below (h_Qi G y0 q.1 (q.2.1, q.2.2, o)) args s (h_nx q.2.2 - h_nx y0) (h_sl q.2.2 - h_sl y0) (g_A G)) (F0 m 83 ls [.int (s0), .int (s1)]) := by
  intro l0 l2 l3 l4 l6 s0 s1 x y H locs ls h hW hl
  unfold f_l_X16_isSame_83 at h
  refine lv_iadd C0.hx C0.hb dX16_isSame_83 ?_
  refine lv_istore (lv' := [(5, .int (s1 + s0)), (0, g_rf G (l0)), (1, .ref (g_ad G (0))), (2, .int (l2)), (3, .int (l3)), (4, g_rf G (l4)), (6, .int (l6))]) C0.hx C0.hb dX16_isSame_84 hl (by decide) (by simp [g_catQ]) (fun ls hl => ?_)
  refine lv_aload_n C0.hx C0.hb dX16_isSame_86 rfl (lv_at hl 2 rfl) ?_
  refine lv_iload_n C0.hx C0.hb dX16_isSame_87 rfl (lv_at hl 4 rfl) ?_
  refine lv_iload C0.hx C0.hb dX16_isSame_88 (lv_at hl 6 rfl) ?_
  obtain ⟨q43, hq43, h⟩ := Option.bind_eq_some_iff.mp h
  refine h_kcalli hW (h_krunV (Sx := (x, y, o)) (As := [.int (l3), .int (l6)]) (rest := []) C0 hW (c_X12_pitchAt hq43) rfl ⟨tc_X12_pitchAt, tn_X12, md_X12_pitchAt, by decide⟩ (by omega) tm_X16_97 ti_X12_pitchAt ts_X12_pitchAt rfl hl.1 rfl (Nat.le_of_ble_eq_true rfl) dX16_isSame_90) (fun H locs hW => ?_)
  refine h_aload C0.hx C0.hb dX16_isSame_93 (lv_at hl 5 rfl) ?_
  refine lv_iload C0.hx C0.hb dX16_isSame_95 (lv_at hl 6 rfl) ?_
  obtain ⟨hk44, h⟩ := g_if h
  obtain ⟨hn45, h⟩ := g_if h
  refine ha_60 C0 hW hk44 hn45 dX16_isSame_97 ?_
  refine lv_icmp_ne (tgt := 118) C0.hx C0.hb dX16_isSame_98 (by decide) (fun hc46 => ?_) (fun hc46 => ?_)
  · replace h := (if_neg hc46).symm.trans h
    refine lv_iconst (v := (0 : Int32)) C0.hx C0.hb dX16_isSame_118 (by decide) ?_
    obtain rfl := Option.some.inj h
    exact h_iret C0 hW rfl (g_bool (Or.inl rfl)).1 dX16_isSame_119
  · replace h := (if_pos hc46).symm.trans h
    refine lv_aload_n C0.hx C0.hb dX16_isSame_101 rfl (lv_at hl 2 rfl) ?_
    refine lv_iload_n C0.hx C0.hb dX16_isSame_102 rfl (lv_at hl 4 rfl) ?_
    refine lv_iload C0.hx C0.hb dX16_isSame_103 (lv_at hl 6 rfl) ?_
    obtain ⟨q47, hq47, h⟩ := Option.bind_eq_some_iff.mp h
    refine h_kcalli hW (h_krunV (Sx := (x, y, o)) (As := [.int (l3), .int (l6)]) (rest := []) C0 hW (c_X12_contourAt hq47) rfl ⟨tc_X12_contourAt, tn_X12, md_X12_contourAt, by decide⟩ (by omega) tm_X16_100 ti_X12_contourAt ts_X12_contourAt rfl hl.1 rfl (Nat.le_of_ble_eq_true rfl) dX16_isSame_105) (fun H locs hW => ?_)
    refine h_aload C0.hx C0.hb dX16_isSame_108 (lv_at hl 5 rfl) ?_
    refine lv_iload C0.hx C0.hb dX16_isSame_110 (lv_at hl 6 rfl) ?_
    obtain ⟨q48, hq48, h⟩ := Option.bind_eq_some_iff.mp h
    refine h_calli hW (h_runS (As := [g_rf G (l4), .int (l6)]) (rest := [.int (q47)]) C0 hW (c_l_X16_contour hq48) cy_X16_contour (by omega) tm_X16_57 tz_X16_contour rfl hl.1 rfl (Nat.le_of_ble_eq_true rfl) dX16_isSame_112) (fun H locs hW => ?_)
    refine lv_icmp_eq (tgt := 120) C0.hx C0.hb dX16_isSame_115 (by decide) (fun hc49 => ?_) (fun hc49 => ?_)
    · replace h := (if_pos hc49).symm.trans h
      refine lv_iinc (v := l6 + (1 : Int32)) (lv' := [(6, .int (l6 + (1 : Int32))), (5, .int (s1 + s0)), (0, g_rf G (l0)), (1, .ref (g_ad G (0))), (2, .int (l2)), (3, .int (l3)), (4, g_rf G (l4))]) C0.hx C0.hb dX16_isSame_120 hl (k := 6) rfl rfl (by decide) rfl (fun ls hl => ?_)
      refine lv_goto (tgt := 60) C0.hx C0.hb dX16_isSame_123 (by decide) ?_
      have hz := kt60 _ _ _ _ _ _ _ _ _ _ _ h hW (lv_sub hl [2, 3, 4, 5, 6, 1, 0] rfl)
      exact hz
    · replace h := (if_neg hc49).symm.trans h
      refine lv_iconst (v := (0 : Int32)) C0.hx C0.hb dX16_isSame_118 (by decide) ?_
      obtain rfl := Option.some.inj h
      exact h_iret C0 hW rfl (g_bool (Or.inl rfl)).1 dX16_isSame_119
set_option maxRecDepth 100000 in
set_option maxHeartbeats 4000000 in
theorem w_l_X16_isSame_60 {p : Program} {l : Launch} {e : Env} {s : State} {m : MethodId} {args : Array Value} {below : List Frame} {meth : Method} {c : Code} {G : GL} {o : Nat → Int32} {y0 : MS} {q : Int32 × CS × MS} {k4 : Nat → Int32 → Int32 → CS → MS → Option (Int32 × CS × MS)}  (C0 : g_X G (List.range 120) p s m args meth c cX16_isSame 7 RX16 (Option.some Jvm.ClassFile.FieldType.boolean)) (kt4 : ∀ (l0 : Nat) (l2 : Int32) (l3 : Int32) (x : CS) (y : MS) (H : Heap) (locs : List Loc) (ls : Array Slot), k4 l0 l2 l3 x y = some q → h_W G y0 (x, y, o) s.heap H locs → lv_has ls 7 [(0, g_rf G (l0)), (1, .ref (g_ad G (0))), (2, .int (l2)), (3, .int (l3))] → W p l e (h_lv 8 y0) s m args below meth c H locs (h_nx y - h_nx y0) (h_sl y - h_sl y0) (MQ below (h_Qi G y0 q.1 (q.2.1, q.2.2, o)) args s (h_nx q.2.2 - h_nx y0) (h_sl q.2.2 - h_sl y0) (g_A G)) (F0 m 4 ls [])) : ∀ (n : Nat) (l0 : Nat) (l2 : Int32) (l3 : Int32) (l4 : Nat) (l5 : Int32) (l6 : Int32) (x : CS) (y : MS) (H : Heap) (locs : List Loc) (ls : Array Slot), f_l_X16_isSame_60 k4 n l0 l2 l3 l4 l5 l6 x y = some q → h_W G y0 (x, y, o) s.heap H locs → lv_has ls 7 [(0, g_rf G (l0)), (1, .ref (g_ad G (0))), (2, .int (l2)), (3, .int (l3)), (4, g_rf G (l4)), (5, .int (l5)), (6, .int (l6))] → W p l e (h_lv 8 y0) s m args below meth c H locs (h_nx y - h_nx y0) (h_sl y - h_sl y0) (MQ below (h_Qi G y0 q.1 (q.2.1, q.2.2, o)) args s (h_nx q.2.2 - h_nx y0) (h_sl q.2.2 - h_sl y0) (g_A G)) (F0 m 60 ls []) := by
  intro n
  induction n with
  | zero =>
    intro l0 l2 l3 l4 l5 l6 x y H locs ls h hW hl
    exact absurd h (by simp [f_l_X16_isSame_60])
  | succ n ih =>
    intro l0 l2 l3 l4 l5 l6 x y H locs ls h hW hl
    unfold f_l_X16_isSame_60 at h
    refine lv_iload C0.hx C0.hb dX16_isSame_60 (lv_at hl 6 rfl) ?_
    refine h_aload C0.hx C0.hb dX16_isSame_62 (lv_at hl 4 rfl) ?_
    obtain ⟨hk36, h⟩ := g_if h
    refine hl_60 C0 hW hk36 dX16_isSame_64 ?_
    refine lv_icmp_ge (tgt := 126) C0.hx C0.hb dX16_isSame_65 (by decide) (fun hc37 => ?_) (fun hc37 => ?_)
    · replace h := (if_pos hc37).symm.trans h
      refine lv_aload_n C0.hx C0.hb dX16_isSame_126 rfl (lv_at hl 1 rfl) ?_
      refine lv_iload_n C0.hx C0.hb dX16_isSame_127 rfl (lv_at hl 3 rfl) ?_
      obtain ⟨q38, hq38, h⟩ := Option.bind_eq_some_iff.mp h
      refine h_kcalli hW (h_krunV (Sx := (x, y, o)) (As := [.int (l3)]) (rest := []) C0 hW (c_X12_silentBeats hq38) rfl ⟨tc_X12_silentBeats, tn_X12, md_X12_silentBeats, by decide⟩ (by omega) tm_X16_103 ti_X12_silentBeats ts_X12_silentBeats rfl hl.1 rfl (Nat.le_of_ble_eq_true rfl) dX16_isSame_128) (fun H locs hW => ?_)
      refine lv_iload C0.hx C0.hb dX16_isSame_131 (lv_at hl 5 rfl) ?_
      refine lv_icmp_eq (tgt := 138) C0.hx C0.hb dX16_isSame_133 (by decide) (fun hc39 => ?_) (fun hc39 => ?_)
      · replace h := (if_pos hc39).symm.trans h
        refine lv_iinc (v := l3 + (1 : Int32)) (lv' := [(3, .int (l3 + (1 : Int32))), (0, g_rf G (l0)), (1, .ref (g_ad G (0))), (2, .int (l2)), (4, g_rf G (l4)), (5, .int (l5)), (6, .int (l6))]) C0.hx C0.hb dX16_isSame_138 hl (k := 3) rfl rfl (by decide) rfl (fun ls hl => ?_)
        refine lv_goto (tgt := 4) C0.hx C0.hb dX16_isSame_141 (by decide) ?_
        have hz := kt4 _ _ _ _ _ _ _ _ h hW (lv_sub hl [1, 2, 3, 0] rfl)
        exact hz
      · replace h := (if_neg hc39).symm.trans h
        refine lv_iconst (v := (0 : Int32)) C0.hx C0.hb dX16_isSame_136 (by decide) ?_
        obtain rfl := Option.some.inj h
        exact h_iret C0 hW rfl (g_bool (Or.inl rfl)).1 dX16_isSame_137
    · replace h := (if_neg hc37).symm.trans h
      refine lv_iload C0.hx C0.hb dX16_isSame_68 (lv_at hl 5 rfl) ?_
      refine h_aload C0.hx C0.hb dX16_isSame_70 (lv_at hl 4 rfl) ?_
      refine lv_iload C0.hx C0.hb dX16_isSame_72 (lv_at hl 6 rfl) ?_
      obtain ⟨hn40, h⟩ := g_if h
      refine ha_60 C0 hW hk36 hn40 dX16_isSame_74 ?_
      refine lv_if_ne (tgt := 82) C0.hx C0.hb dX16_isSame_75 (by decide) (fun hc41 => ?_) (fun hc41 => ?_)
      · replace h := (if_neg hc41).symm.trans h
        refine lv_iconst (v := (0 : Int32)) C0.hx C0.hb dX16_isSame_82 (by decide) ?_
        have hz := w_l_X16_isSame_83 (l := l) (e := e) (below := below) C0 kt4 ih _ _ _ _ _ _ _ _ _ _ _ _ h hW (lv_sub hl [0, 1, 2, 3, 4, 6] rfl)
        exact hz
      · replace h := (if_pos hc41).symm.trans h
        refine lv_iconst (v := (1 : Int32)) C0.hx C0.hb dX16_isSame_78 (by decide) ?_
        refine lv_goto (tgt := 83) C0.hx C0.hb dX16_isSame_79 (by decide) ?_
        have hz := w_l_X16_isSame_83 (l := l) (e := e) (below := below) C0 kt4 ih _ _ _ _ _ _ _ _ _ _ _ _ h hW (lv_sub hl [0, 1, 2, 3, 4, 6] rfl)
        exact hz
set_option maxRecDepth 100000 in
set_option maxHeartbeats 4000000 in
theorem w_l_X16_isSame_4 {p : Program} {l : Launch} {e : Env} {s : State} {m : MethodId} {args : Array Value} {below : List Frame} {meth : Method} {c : Code} {G : GL} {o : Nat → Int32} {y0 : MS} {q : Int32 × CS × MS}  (C0 : g_X G (List.range 120) p s m args meth c cX16_isSame 7 RX16 (Option.some Jvm.ClassFile.FieldType.boolean))  : ∀ (n : Nat) (l0 : Nat) (l2 : Int32) (l3 : Int32) (x : CS) (y : MS) (H : Heap) (locs : List Loc) (ls : Array Slot), f_l_X16_isSame_4 n l0 l2 l3 x y = some q → h_W G y0 (x, y, o) s.heap H locs → lv_has ls 7 [(0, g_rf G (l0)), (1, .ref (g_ad G (0))), (2, .int (l2)), (3, .int (l3))] → W p l e (h_lv 8 y0) s m args below meth c H locs (h_nx y - h_nx y0) (h_sl y - h_sl y0) (MQ below (h_Qi G y0 q.1 (q.2.1, q.2.2, o)) args s (h_nx q.2.2 - h_nx y0) (h_sl q.2.2 - h_sl y0) (g_A G)) (F0 m 4 ls []) := by
  intro n
  induction n with
  | zero =>
    intro l0 l2 l3 x y H locs ls h hW hl
    exact absurd h (by simp [f_l_X16_isSame_4])
  | succ n ih =>
    intro l0 l2 l3 x y H locs ls h hW hl
    unfold f_l_X16_isSame_4 at h
    refine lv_iload_n C0.hx C0.hb dX16_isSame_4 rfl (lv_at hl 3 rfl) ?_
    refine h_aload_n C0.hx C0.hb dX16_isSame_5 rfl (lv_at hl 0 rfl) ?_
    obtain ⟨hk1, h⟩ := g_if h
    refine hf_X16_2 C0 hW hk1 tf_X16_18 dX16_isSame_6 ?_
    obtain ⟨hk2, h⟩ := g_if h
    refine hl_63 C0 hW hk2 dX16_isSame_9 ?_
    refine lv_icmp_ge (tgt := 144) C0.hx C0.hb dX16_isSame_10 (by decide) (fun hc3 => ?_) (fun hc3 => ?_)
    · replace h := (if_pos hc3).symm.trans h
      refine lv_iconst (v := (0 : Int32)) C0.hx C0.hb dX16_isSame_144 (by decide) ?_
      refine lv_istore_n (lv' := [(3, .int ((0 : Int32))), (0, g_rf G (l0)), (1, .ref (g_ad G (0))), (2, .int (l2))]) C0.hx C0.hb dX16_isSame_145 rfl hl (by decide) rfl (fun ls hl => ?_)
      have hz := w_l_X16_isSame_146 (l := l) (e := e) (below := below) C0 g_fuel _ _ _ _ _ _ _ _ h hW (lv_sub hl [1, 2, 3, 0] rfl)
      exact hz
    · replace h := (if_neg hc3).symm.trans h
      refine h_aload_n C0.hx C0.hb dX16_isSame_13 rfl (lv_at hl 0 rfl) ?_
      refine hf_X16_2 C0 hW hk1 tf_X16_18 dX16_isSame_14 ?_
      refine lv_iload_n C0.hx C0.hb dX16_isSame_17 rfl (lv_at hl 3 rfl) ?_
      obtain ⟨hn4, h⟩ := g_if h
      refine ha_63 C0 hW hk2 hn4 dX16_isSame_18 ?_
      refine h_astore (lv' := [(4, g_rf G (h_R y (h_R y l0 2) l3.toNatClampNeg)), (0, g_rf G (l0)), (1, .ref (g_ad G (0))), (2, .int (l2)), (3, .int (l3))]) C0.hx C0.hb dX16_isSame_19 hl (by decide) rfl (fun ls hl => ?_)
      refine lv_iconst (v := (0 : Int32)) C0.hx C0.hb dX16_isSame_21 (by decide) ?_
      refine lv_istore (lv' := [(5, .int ((0 : Int32))), (4, g_rf G (h_R y (h_R y l0 2) l3.toNatClampNeg)), (0, g_rf G (l0)), (1, .ref (g_ad G (0))), (2, .int (l2)), (3, .int (l3))]) C0.hx C0.hb dX16_isSame_22 hl (by decide) (by simp [g_catQ]) (fun ls hl => ?_)
      refine lv_iload_n C0.hx C0.hb dX16_isSame_24 rfl (lv_at hl 4 rfl) ?_
      refine h_aload C0.hx C0.hb dX16_isSame_25 (lv_at hl 1 rfl) ?_
      obtain ⟨hk5, h⟩ := g_if h
      refine hl_60 C0 hW hk5 dX16_isSame_27 ?_
      refine lv_iadd C0.hx C0.hb dX16_isSame_28 ?_
      refine lv_istore_n (lv' := [(2, .int (l2 + (nI (h_N y (h_R y (h_R y l0 2) l3.toNatClampNeg))))), (5, .int ((0 : Int32))), (4, g_rf G (h_R y (h_R y l0 2) l3.toNatClampNeg)), (0, g_rf G (l0)), (1, .ref (g_ad G (0))), (3, .int (l3))]) C0.hx C0.hb dX16_isSame_29 rfl hl (by decide) rfl (fun ls hl => ?_)
      refine lv_aload_n C0.hx C0.hb dX16_isSame_30 rfl (lv_at hl 4 rfl) ?_
      refine lv_iload_n C0.hx C0.hb dX16_isSame_31 rfl (lv_at hl 5 rfl) ?_
      obtain ⟨q6, hq6, h⟩ := Option.bind_eq_some_iff.mp h
      refine h_kcalli hW (h_krunV (Sx := (x, y, o)) (As := [.int (l3)]) (rest := []) C0 hW (c_X12_lengthOf hq6) rfl ⟨tc_X12_lengthOf, tn_X12, md_X12_lengthOf, by decide⟩ (by omega) tm_X16_87 ti_X12_lengthOf ts_X12_lengthOf rfl hl.1 rfl (Nat.le_of_ble_eq_true rfl) dX16_isSame_32) (fun H locs hW => ?_)
      refine h_aload C0.hx C0.hb dX16_isSame_35 (lv_at hl 2 rfl) ?_
      refine hl_60 C0 hW hk5 dX16_isSame_37 ?_
      refine lv_icmp_ne (tgt := 55) C0.hx C0.hb dX16_isSame_38 (by decide) (fun hc7 => ?_) (fun hc7 => ?_)
      · replace h := (if_neg hc7).symm.trans h
        refine lv_iconst (v := (0 : Int32)) C0.hx C0.hb dX16_isSame_55 (by decide) ?_
        obtain rfl := Option.some.inj h
        exact h_iret C0 hW rfl (g_bool (Or.inl rfl)).1 dX16_isSame_56
      · replace h := (if_pos hc7).symm.trans h
        refine lv_aload_n C0.hx C0.hb dX16_isSame_41 rfl (lv_at hl 4 rfl) ?_
        refine lv_iload_n C0.hx C0.hb dX16_isSame_42 rfl (lv_at hl 5 rfl) ?_
        obtain ⟨q8, hq8, h⟩ := Option.bind_eq_some_iff.mp h
        refine h_kcalli hW (h_krunV (Sx := (x, y, o)) (As := [.int (l3)]) (rest := []) C0 hW (c_X12_isPruned hq8) rfl ⟨tc_X12_isPruned, tn_X12, md_X12_isPruned, by decide⟩ (by omega) tm_X16_93 ti_X12_isPruned ts_X12_isPruned rfl hl.1 rfl (Nat.le_of_ble_eq_true rfl) dX16_isSame_43) (fun H locs hW => ?_)
        refine h_aload_n C0.hx C0.hb dX16_isSame_46 rfl (lv_at hl 3 rfl) ?_
        refine hf_X16_3 C0 hW hk1 tf_X16_22 dX16_isSame_47 ?_
        refine lv_iload_n C0.hx C0.hb dX16_isSame_50 rfl (lv_at hl 5 rfl) ?_
        obtain ⟨hk9, h⟩ := g_if h
        obtain ⟨hn10, h⟩ := g_if h
        refine ha_62 C0 hW hk9 hn10 dX16_isSame_51 ?_
        refine lv_icmp_eq (tgt := 57) C0.hx C0.hb dX16_isSame_52 (by decide) (fun hc11 => ?_) (fun hc11 => ?_)
        · replace h := (if_pos hc11).symm.trans h
          refine lv_iconst (v := (0 : Int32)) C0.hx C0.hb dX16_isSame_57 (by decide) ?_
          refine lv_istore (lv' := [(6, .int ((0 : Int32))), (2, .int (l2 + (nI (h_N y (h_R y (h_R y l0 2) l3.toNatClampNeg))))), (5, .int ((0 : Int32))), (4, g_rf G (h_R y (h_R y l0 2) l3.toNatClampNeg)), (0, g_rf G (l0)), (1, .ref (g_ad G (0))), (3, .int (l3))]) C0.hx C0.hb dX16_isSame_58 hl (by decide) rfl (fun ls hl => ?_)
          have hz := w_l_X16_isSame_60 (l := l) (e := e) (below := below) C0 ih g_fuel _ _ _ _ _ _ _ _ _ _ _ h hW (lv_sub hl [4, 5, 1, 6, 3, 2, 0] rfl)
          exact hz
        · replace h := (if_neg hc11).symm.trans h
          refine lv_iconst (v := (0 : Int32)) C0.hx C0.hb dX16_isSame_55 (by decide) ?_
          obtain rfl := Option.some.inj h
          exact h_iret C0 hW rfl (g_bool (Or.inl rfl)).1 dX16_isSame_56
set_option maxRecDepth 100000 in
set_option maxHeartbeats 4000000 in
theorem c_l_X16_isSame {l : Launch} {G : GL} {o : Nat → Int32} {x : CS} {y : MS} {t : Nat} {q : Int32 × CS × MS} (h : f_l_X16_isSame t x y = some q) : Met l yX16_isSame (.code yX16_isSame cX16_isSame 7 (Option.some Jvm.ClassFile.FieldType.boolean) :: gT) (h_lv 8 y) (va_Pc [g_rf G (t), .ref (g_ad G (0))] (h_P G (x, y, o))) (h_Qi G y q.1 (q.2.1, q.2.2, o)) (h_nx q.2.2 - h_nx y) (h_sl q.2.2 - h_sl y) (g_A G) := by
  unfold f_l_X16_isSame at h
  refine h_entry (by decide) (by simp [lg_sl, g_catQ, h_ki, h_kr, h_kn, h_kl, h_kd]) (fun p e s m args below meth c ls C0 hl hW hin_ => ?_)
  have hl : lv_has ls 7 [(0, g_rf G (t)), (1, .ref (g_ad G (0)))] := by simpa [lv_args, g_catQ, h_ki, h_kr, h_kn, h_kl, h_kd] using hl
  refine lv_iconst (v := (0 : Int32)) C0.hx C0.hb dX16_isSame_0 (by decide) ?_
  refine lv_istore_n (lv' := [(2, .int ((0 : Int32))), (0, g_rf G (t)), (1, .ref (g_ad G (0)))]) C0.hx C0.hb dX16_isSame_1 rfl hl (by decide) rfl (fun ls hl => ?_)
  refine lv_iconst (v := (0 : Int32)) C0.hx C0.hb dX16_isSame_2 (by decide) ?_
  refine lv_istore_n (lv' := [(3, .int ((0 : Int32))), (2, .int ((0 : Int32))), (0, g_rf G (t)), (1, .ref (g_ad G (0)))]) C0.hx C0.hb dX16_isSame_3 rfl hl (by decide) rfl (fun ls hl => ?_)
  have hz := w_l_X16_isSame_4 (l := l) (e := e) (below := below) C0 g_fuel _ _ _ _ _ _ _ _ h hW (lv_sub hl [2, 3, 1, 0] rfl)
  exact hz
