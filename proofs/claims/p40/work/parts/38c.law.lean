set_option maxRecDepth 100000 in
set_option maxHeartbeats 4000000 in
theorem w_l_X16_kept_13 {p : Program} {l : Launch} {e : Env} {s : State} {m : MethodId} {args : Array Value} {below : List Frame} {meth : Method} {c : Code} {G : GL} {o : Nat → Int32} {y : MS} {x : CS} {q : Int32}  (C0 : g_X G (List.range 120) p s m args meth c cX16_kept 6 RX16 (Option.some Jvm.ClassFile.FieldType.int))  : ∀ (n : Nat) (l1 : Int32) (l2 : Nat) (l3 : Int32) (l4 : Int32) (H : Heap) (locs : List Loc) (ls : Array Slot), f_l_X16_kept_13 y n l1 l2 l3 l4 = some q → h_W G y (x, y, o) s.heap H locs → lv_has ls 6 [(1, .int (l1)), (2, g_rf G (l2)), (3, .int (l3)), (4, .int (l4))] → W p l e (h_lv 1 y) s m args below meth c H locs (h_nx y - h_nx y) (h_sl y - h_sl y) (MQ below (h_Qi G y q (x, y, o)) args s (h_nx y - h_nx y) (h_sl y - h_sl y) (g_A G)) (F0 m 13 ls []) := by
  intro n
  induction n with
  | zero =>
    intro l1 l2 l3 l4 H locs ls h hW hl
    exact absurd h (by simp [f_l_X16_kept_13])
  | succ n ih =>
    intro l1 l2 l3 l4 H locs ls h hW hl
    unfold f_l_X16_kept_13 at h
    refine lv_iload C0.hx C0.hb dX16_kept_13 (lv_at hl 3 rfl) ?_
    refine lv_iload_n C0.hx C0.hb dX16_kept_15 rfl (lv_at hl 2 rfl) ?_
    refine lv_icmp_ge (tgt := 44) C0.hx C0.hb dX16_kept_16 (by decide) (fun hc3 => ?_) (fun hc3 => ?_)
    · replace h := (if_pos hc3).symm.trans h
      refine lv_iload_n C0.hx C0.hb dX16_kept_44 rfl (lv_at hl 0 rfl) ?_
      obtain rfl := Option.some.inj h
      exact h_iret C0 hW rfl rfl dX16_kept_45
    · replace h := (if_neg hc3).symm.trans h
      refine h_aload_n C0.hx C0.hb dX16_kept_19 rfl (lv_at hl 1 rfl) ?_
      refine lv_iload C0.hx C0.hb dX16_kept_20 (lv_at hl 3 rfl) ?_
      obtain ⟨hk4, h⟩ := g_if h
      obtain ⟨hn5, h⟩ := g_if h
      refine ha_62 C0 hW hk4 hn5 dX16_kept_22 ?_
      refine lv_istore (lv' := [(5, .int (h_I y l2 l4.toNatClampNeg)), (1, .int (l1)), (2, g_rf G (l2)), (3, .int (l3)), (4, .int (l4))]) C0.hx C0.hb dX16_kept_23 hl (by decide) rfl (fun ls hl => ?_)
      refine lv_iload_n C0.hx C0.hb dX16_kept_25 rfl (lv_at hl 1 rfl) ?_
      refine lv_iload C0.hx C0.hb dX16_kept_26 (lv_at hl 0 rfl) ?_
      refine lv_if_eq (tgt := 35) C0.hx C0.hb dX16_kept_28 (by decide) (fun hc6 => ?_) (fun hc6 => ?_)
      · replace h := (if_pos hc6).symm.trans h
        refine lv_iconst (v := (1 : Int32)) C0.hx C0.hb dX16_kept_35 (by decide) ?_
        refine lv_iadd C0.hx C0.hb dX16_kept_36 ?_
        refine lv_istore_n (lv' := [(1, .int (l1 + (1 : Int32))), (5, .int (h_I y l2 l4.toNatClampNeg)), (2, g_rf G (l2)), (3, .int (l3)), (4, .int (l4))]) C0.hx C0.hb dX16_kept_37 rfl hl (by decide) rfl (fun ls hl => ?_)
        refine lv_iinc (v := l4 + (1 : Int32)) (lv' := [(4, .int (l4 + (1 : Int32))), (1, .int (l1 + (1 : Int32))), (5, .int (h_I y l2 l4.toNatClampNeg)), (2, g_rf G (l2)), (3, .int (l3))]) C0.hx C0.hb dX16_kept_38 hl (k := 4) rfl rfl (by decide) rfl (fun ls hl => ?_)
        refine lv_goto (tgt := 13) C0.hx C0.hb dX16_kept_41 (by decide) ?_
        have hz := ih _ _ _ _ _ _ _ h hW (lv_sub hl [1, 3, 4, 0] rfl)
        exact hz
      · replace h := (if_neg hc6).symm.trans h
        refine lv_iconst (v := (0 : Int32)) C0.hx C0.hb dX16_kept_31 (by decide) ?_
        refine lv_goto (tgt := 36) C0.hx C0.hb dX16_kept_32 (by decide) ?_
        refine lv_iadd C0.hx C0.hb dX16_kept_36 ?_
        refine lv_istore_n (lv' := [(1, .int (l1 + (0 : Int32))), (5, .int (h_I y l2 l4.toNatClampNeg)), (2, g_rf G (l2)), (3, .int (l3)), (4, .int (l4))]) C0.hx C0.hb dX16_kept_37 rfl hl (by decide) rfl (fun ls hl => ?_)
        refine lv_iinc (v := l4 + (1 : Int32)) (lv' := [(4, .int (l4 + (1 : Int32))), (1, .int (l1 + (0 : Int32))), (5, .int (h_I y l2 l4.toNatClampNeg)), (2, g_rf G (l2)), (3, .int (l3))]) C0.hx C0.hb dX16_kept_38 hl (k := 4) rfl rfl (by decide) rfl (fun ls hl => ?_)
        refine lv_goto (tgt := 13) C0.hx C0.hb dX16_kept_41 (by decide) ?_
        have hz := ih _ _ _ _ _ _ _ h hW (lv_sub hl [1, 3, 4, 0] rfl)
        exact hz
set_option maxRecDepth 100000 in
set_option maxHeartbeats 4000000 in
theorem c_l_X16_kept {l : Launch} {G : GL} {o : Nat → Int32} {x : CS} {y : MS} {t : Nat} {q : Int32} (h : f_l_X16_kept t y = some q) : Met l yX16_kept (.code yX16_kept cX16_kept 6 (Option.some Jvm.ClassFile.FieldType.int) :: gT) (h_lv 1 y) (va_Pc [g_rf G (t)] (h_P G (x, y, o))) (h_Qi G y q (x, y, o)) (h_nx y - h_nx y) (h_sl y - h_sl y) (g_A G) := by
  unfold f_l_X16_kept at h
  refine h_entry (by decide) (by simp [lg_sl, g_catQ, h_ki, h_kr, h_kn, h_kl, h_kd]) (fun p e s m args below meth c ls C0 hl hW hin_ => ?_)
  have hl : lv_has ls 6 [(0, g_rf G (t))] := by simpa [lv_args, g_catQ, h_ki, h_kr, h_kn, h_kl, h_kd] using hl
  refine lv_iconst (v := (0 : Int32)) C0.hx C0.hb dX16_kept_0 (by decide) ?_
  refine lv_istore_n (i := 1) (lv' := [(1, .int ((0 : Int32))), (0, g_rf G (t))]) C0.hx C0.hb dX16_kept_1 rfl hl (by decide) (by simp [g_catQ]) (fun ls hl => ?_)
  refine h_aload_n C0.hx C0.hb dX16_kept_2 rfl (lv_at hl 1 rfl) ?_
  obtain ⟨hk1, h⟩ := g_if h
  refine hf_X16_3 C0 hW hk1 tf_X16_22 dX16_kept_3 ?_
  refine h_astore_n (lv' := [(2, g_rf G (h_R y t 3)), (1, .int ((0 : Int32))), (0, g_rf G (t))]) C0.hx C0.hb dX16_kept_6 rfl hl (by decide) rfl (fun ls hl => ?_)
  refine h_aload_n C0.hx C0.hb dX16_kept_7 rfl (lv_at hl 0 rfl) ?_
  obtain ⟨hk2, h⟩ := g_if h
  refine hl_62 C0 hW hk2 dX16_kept_8 ?_
  refine lv_istore_n (i := 3) (lv' := [(3, .int (nI (h_N y (h_R y t 3)))), (2, g_rf G (h_R y t 3)), (1, .int ((0 : Int32))), (0, g_rf G (t))]) C0.hx C0.hb dX16_kept_9 rfl hl (by decide) (by simp [g_catQ]) (fun ls hl => ?_)
  refine lv_iconst (v := (0 : Int32)) C0.hx C0.hb dX16_kept_10 (by decide) ?_
  refine lv_istore (lv' := [(4, .int ((0 : Int32))), (3, .int (nI (h_N y (h_R y t 3)))), (2, g_rf G (h_R y t 3)), (1, .int ((0 : Int32))), (0, g_rf G (t))]) C0.hx C0.hb dX16_kept_11 hl (by decide) rfl (fun ls hl => ?_)
  have hz := w_l_X16_kept_13 (l := l) (e := e) (below := below) C0 g_fuel _ _ _ _ _ _ _ h hW (lv_sub hl [3, 2, 1, 0] rfl)
  exact hz
set_option maxRecDepth 100000 in
set_option maxHeartbeats 4000000 in
theorem c_l_X16_contour {l : Launch} {G : GL} {o : Nat → Int32} {x : CS} {y : MS} {p1 : Nat} {p2 : Int32} {q : Int32} (h : f_l_X16_contour p1 p2 y = some q) : Met l yX16_contour (.code yX16_contour cX16_contour 2 (Option.some Jvm.ClassFile.FieldType.int) :: gT) (h_lv 1 y) (va_Pc [g_rf G (p1), .int (p2)] (h_P G (x, y, o))) (h_Qi G y q (x, y, o)) (h_nx y - h_nx y) (h_sl y - h_sl y) (g_A G) := by
  unfold f_l_X16_contour at h
  refine h_entry (by decide) (by simp [lg_sl, g_catQ, h_ki, h_kr, h_kn, h_kl, h_kd]) (fun p e s m args below meth c ls C0 hl hW hin_ => ?_)
  have hl : lv_has ls 2 [(0, g_rf G (p1)), (1, .int (p2))] := by simpa [lv_args, g_catQ, h_ki, h_kr, h_kn, h_kl, h_kd] using hl
  refine lv_iload_n C0.hx C0.hb dX16_contour_0 rfl (lv_at hl 1 rfl) ?_
  refine h_aload_n C0.hx C0.hb dX16_contour_1 rfl (lv_at hl 0 rfl) ?_
  obtain ⟨hk1, h⟩ := g_if h
  refine hl_60 C0 hW hk1 dX16_contour_2 ?_
  refine lv_iconst (v := (1 : Int32)) C0.hx C0.hb dX16_contour_3 (by decide) ?_
  refine lv_isub C0.hx C0.hb dX16_contour_4 ?_
  refine lv_icmp_ne (tgt := 10) C0.hx C0.hb dX16_contour_5 (by decide) (fun hc2 => ?_) (fun hc2 => ?_)
  · replace h := (if_neg hc2).symm.trans h
    refine h_aload_n C0.hx C0.hb dX16_contour_10 rfl (lv_at hl 0 rfl) ?_
    refine lv_iload_n C0.hx C0.hb dX16_contour_11 rfl (lv_at hl 1 rfl) ?_
    refine lv_iconst (v := (1 : Int32)) C0.hx C0.hb dX16_contour_12 (by decide) ?_
    refine lv_iadd C0.hx C0.hb dX16_contour_13 ?_
    obtain ⟨hn3, h⟩ := g_if h
    refine ha_60 C0 hW hk1 hn3 dX16_contour_14 ?_
    refine h_aload_n C0.hx C0.hb dX16_contour_15 rfl (lv_at hl 0 rfl) ?_
    refine lv_iload_n C0.hx C0.hb dX16_contour_16 rfl (lv_at hl 1 rfl) ?_
    obtain ⟨hn4, h⟩ := g_if h
    refine ha_60 C0 hW hk1 hn4 dX16_contour_17 ?_
    refine lv_icmp_le (tgt := 25) C0.hx C0.hb dX16_contour_18 (by decide) (fun hc5 => ?_) (fun hc5 => ?_)
    · replace h := (if_pos hc5).symm.trans h
      refine h_aload_n C0.hx C0.hb dX16_contour_25 rfl (lv_at hl 0 rfl) ?_
      refine lv_iload_n C0.hx C0.hb dX16_contour_26 rfl (lv_at hl 1 rfl) ?_
      refine lv_iconst (v := (1 : Int32)) C0.hx C0.hb dX16_contour_27 (by decide) ?_
      refine lv_iadd C0.hx C0.hb dX16_contour_28 ?_
      obtain ⟨hn6, h⟩ := g_if h
      refine ha_60 C0 hW hk1 hn6 dX16_contour_29 ?_
      refine h_aload_n C0.hx C0.hb dX16_contour_30 rfl (lv_at hl 0 rfl) ?_
      refine lv_iload_n C0.hx C0.hb dX16_contour_31 rfl (lv_at hl 1 rfl) ?_
      obtain ⟨hn7, h⟩ := g_if h
      refine ha_60 C0 hW hk1 hn7 dX16_contour_32 ?_
      refine lv_icmp_ge (tgt := 40) C0.hx C0.hb dX16_contour_33 (by decide) (fun hc8 => ?_) (fun hc8 => ?_)
      · replace h := (if_pos hc8).symm.trans h
        refine lv_iconst (v := (0 : Int32)) C0.hx C0.hb dX16_contour_40 (by decide) ?_
        obtain rfl := Option.some.inj h
        exact h_iret C0 hW rfl rfl dX16_contour_41
      · replace h := (if_neg hc8).symm.trans h
        refine lv_iconst (v := (-1 : Int32)) C0.hx C0.hb dX16_contour_36 (by decide) ?_
        refine lv_goto (tgt := 41) C0.hx C0.hb dX16_contour_37 (by decide) ?_
        obtain rfl := Option.some.inj h
        exact h_iret C0 hW rfl rfl dX16_contour_41
    · replace h := (if_neg hc5).symm.trans h
      refine lv_iconst (v := (1 : Int32)) C0.hx C0.hb dX16_contour_21 (by decide) ?_
      refine lv_goto (tgt := 41) C0.hx C0.hb dX16_contour_22 (by decide) ?_
      obtain rfl := Option.some.inj h
      exact h_iret C0 hW rfl rfl dX16_contour_41
  · replace h := (if_pos hc2).symm.trans h
    refine lv_iconst (v := (0 : Int32)) C0.hx C0.hb dX16_contour_8 (by decide) ?_
    obtain rfl := Option.some.inj h
    exact h_iret C0 hW rfl rfl dX16_contour_9
set_option maxRecDepth 100000 in
set_option maxHeartbeats 4000000 in
theorem w_l_X16_apart_10 {p : Program} {l : Launch} {e : Env} {s : State} {m : MethodId} {args : Array Value} {below : List Frame} {meth : Method} {c : Code} {G : GL} {o : Nat → Int32} {y : MS} {x : CS} {q : Int32}  (C0 : g_X G (List.range 120) p s m args meth c cX16_apart 2 RX16 (Option.some Jvm.ClassFile.FieldType.int))  : ∀  (l0 : Int32) (l1 : Int32) (H : Heap) (locs : List Loc) (ls : Array Slot), f_l_X16_apart_10 l0 l1 = some q → h_W G y (x, y, o) s.heap H locs → lv_has ls 2 [(0, .int (l0)), (1, .int (l1))] → W p l e (h_lv 1 y) s m args below meth c H locs (h_nx y - h_nx y) (h_sl y - h_sl y) (MQ below (h_Qi G y q (x, y, o)) args s (h_nx y - h_nx y) (h_sl y - h_sl y) (g_A G)) (F0 m 10 ls []) := by
  intro l0 l1 H locs ls h hW hl
  unfold f_l_X16_apart_10 at h
  refine lv_iload_n C0.hx C0.hb dX16_apart_10 rfl (lv_at hl 0 rfl) ?_
  refine lv_if_eq (tgt := 18) C0.hx C0.hb dX16_apart_11 (by decide) (fun hc3 => ?_) (fun hc3 => ?_)
  · replace h := (if_pos hc3).symm.trans h
    refine lv_bipush (v := (10 : Int32)) C0.hx C0.hb dX16_apart_18 (by decide) ?_
    obtain rfl := Option.some.inj h
    exact h_iret C0 hW rfl rfl dX16_apart_20
  · replace h := (if_neg hc3).symm.trans h
    refine lv_iload_n C0.hx C0.hb dX16_apart_14 rfl (lv_at hl 1 rfl) ?_
    refine lv_if_ne (tgt := 21) C0.hx C0.hb dX16_apart_15 (by decide) (fun hc4 => ?_) (fun hc4 => ?_)
    · replace h := (if_neg hc4).symm.trans h
      refine lv_iload_n C0.hx C0.hb dX16_apart_21 rfl (lv_at hl 0 rfl) ?_
      refine lv_iload_n C0.hx C0.hb dX16_apart_22 rfl (lv_at hl 1 rfl) ?_
      refine lv_icmp_ge (tgt := 32) C0.hx C0.hb dX16_apart_23 (by decide) (fun hc5 => ?_) (fun hc5 => ?_)
      · replace h := (if_pos hc5).symm.trans h
        refine lv_iload_n C0.hx C0.hb dX16_apart_32 rfl (lv_at hl 0 rfl) ?_
        refine lv_iload_n C0.hx C0.hb dX16_apart_33 rfl (lv_at hl 1 rfl) ?_
        refine lv_isub C0.hx C0.hb dX16_apart_34 ?_
        obtain rfl := Option.some.inj h
        exact h_iret C0 hW rfl rfl dX16_apart_35
      · replace h := (if_neg hc5).symm.trans h
        refine lv_iload_n C0.hx C0.hb dX16_apart_26 rfl (lv_at hl 1 rfl) ?_
        refine lv_iload_n C0.hx C0.hb dX16_apart_27 rfl (lv_at hl 0 rfl) ?_
        refine lv_isub C0.hx C0.hb dX16_apart_28 ?_
        refine lv_goto (tgt := 35) C0.hx C0.hb dX16_apart_29 (by decide) ?_
        obtain rfl := Option.some.inj h
        exact h_iret C0 hW rfl rfl dX16_apart_35
    · replace h := (if_pos hc4).symm.trans h
      refine lv_bipush (v := (10 : Int32)) C0.hx C0.hb dX16_apart_18 (by decide) ?_
      obtain rfl := Option.some.inj h
      exact h_iret C0 hW rfl rfl dX16_apart_20
set_option maxRecDepth 100000 in
set_option maxHeartbeats 4000000 in
theorem c_l_X16_apart {l : Launch} {G : GL} {o : Nat → Int32} {x : CS} {y : MS} {p1 : Int32} {p2 : Int32} {q : Int32} (h : f_l_X16_apart p1 p2 = some q) : Met l yX16_apart (.code yX16_apart cX16_apart 2 (Option.some Jvm.ClassFile.FieldType.int) :: gT) (h_lv 1 y) (va_Pc [.int (p1), .int (p2)] (h_P G (x, y, o))) (h_Qi G y q (x, y, o)) (h_nx y - h_nx y) (h_sl y - h_sl y) (g_A G) := by
  unfold f_l_X16_apart at h
  refine h_entry (by decide) (Nat.le_of_ble_eq_true rfl) (fun p e s m args below meth c ls C0 hl hW hin_ => ?_)
  have hl : lv_has ls 2 [(0, .int (p1)), (1, .int (p2))] := hl
  refine lv_iload_n C0.hx C0.hb dX16_apart_0 rfl (lv_at hl 0 rfl) ?_
  refine lv_if_ne (tgt := 10) C0.hx C0.hb dX16_apart_1 (by decide) (fun hc1 => ?_) (fun hc1 => ?_)
  · replace h := (if_neg hc1).symm.trans h
    have hz := w_l_X16_apart_10 (l := l) (e := e) (below := below) C0 _ _ _ _ _ h hW (lv_sub hl [0, 1] rfl)
    exact hz
  · replace h := (if_pos hc1).symm.trans h
    refine lv_iload_n C0.hx C0.hb dX16_apart_4 rfl (lv_at hl 1 rfl) ?_
    refine lv_if_ne (tgt := 10) C0.hx C0.hb dX16_apart_5 (by decide) (fun hc2 => ?_) (fun hc2 => ?_)
    · replace h := (if_neg hc2).symm.trans h
      have hz := w_l_X16_apart_10 (l := l) (e := e) (below := below) C0 _ _ _ _ _ h hW (lv_sub hl [0, 1] rfl)
      exact hz
    · replace h := (if_pos hc2).symm.trans h
      refine lv_iconst (v := (0 : Int32)) C0.hx C0.hb dX16_apart_8 (by decide) ?_
      obtain rfl := Option.some.inj h
      exact h_iret C0 hW rfl rfl dX16_apart_9
set_option maxRecDepth 100000 in
set_option maxHeartbeats 4000000 in
theorem w_l_X16_way_304 {p : Program} {l : Launch} {e : Env} {s : State} {m : MethodId} {args : Array Value} {below : List Frame} {meth : Method} {c : Code} {G : GL} {o : Nat → Int32} {y0 : MS} {x : CS} {q : Int32 × MS} {k41 : Nat → Nat → Nat → Int32 → Int32 → Int32 → Int32 → Int32 → MS → Option (Int32 × MS)} {k52 : Nat → Nat → Nat → Int32 → Int32 → Int32 → Int32 → Int32 → Int32 → MS → Option (Int32 × MS)} {k180 : Nat → Nat → Nat → Int32 → Int32 → Int32 → Int32 → Int32 → Int32 → Int32 → Int32 → Int32 → MS → Option (Int32 × MS)}  (C0 : g_X G (List.range 120) p s m args meth c cX16_way 16 RX16 (Option.some Jvm.ClassFile.FieldType.int)) (kt41 : ∀ (l0 : Nat) (l1 : Nat) (l2 : Nat) (l3 : Int32) (l4 : Int32) (l5 : Int32) (l6 : Int32) (l7 : Int32) (y : MS) (H : Heap) (locs : List Loc) (ls : Array Slot), k41 l0 l1 l2 l3 l4 l5 l6 l7 y = some q → h_W G y0 (x, y, o) s.heap H locs → lv_has ls 16 [(0, g_rf G (l0)), (1, g_rf G (l1)), (2, g_rf G (l2)), (3, .int (l3)), (4, .int (l4)), (5, .int (l5)), (6, .int (l6)), (7, .int (l7))] → W p l e (h_lv 2 y0) s m args below meth c H locs (h_nx y - h_nx y0) (h_sl y - h_sl y0) (MQ below (h_Qi G y0 q.1 (x, q.2, o)) args s (h_nx q.2 - h_nx y0) (h_sl q.2 - h_sl y0) (g_A G)) (F0 m 41 ls [])) (kt52 : ∀ (l0 : Nat) (l1 : Nat) (l2 : Nat) (l3 : Int32) (l4 : Int32) (l5 : Int32) (l6 : Int32) (l7 : Int32) (l8 : Int32) (y : MS) (H : Heap) (locs : List Loc) (ls : Array Slot), k52 l0 l1 l2 l3 l4 l5 l6 l7 l8 y = some q → h_W G y0 (x, y, o) s.heap H locs → lv_has ls 16 [(0, g_rf G (l0)), (1, g_rf G (l1)), (2, g_rf G (l2)), (3, .int (l3)), (4, .int (l4)), (5, .int (l5)), (6, .int (l6)), (7, .int (l7)), (8, .int (l8))] → W p l e (h_lv 2 y0) s m args below meth c H locs (h_nx y - h_nx y0) (h_sl y - h_sl y0) (MQ below (h_Qi G y0 q.1 (x, q.2, o)) args s (h_nx q.2 - h_nx y0) (h_sl q.2 - h_sl y0) (g_A G)) (F0 m 52 ls [])) (kt180 : ∀ (l0 : Nat) (l1 : Nat) (l2 : Nat) (l3 : Int32) (l4 : Int32) (l5 : Int32) (l6 : Int32) (l7 : Int32) (l8 : Int32) (l9 : Int32) (l10 : Int32) (l11 : Int32) (y : MS) (H : Heap) (locs : List Loc) (ls : Array Slot), k180 l0 l1 l2 l3 l4 l5 l6 l7 l8 l9 l10 l11 y = some q → h_W G y0 (x, y, o) s.heap H locs → lv_has ls 16 [(0, g_rf G (l0)), (1, g_rf G (l1)), (2, g_rf G (l2)), (3, .int (l3)), (4, .int (l4)), (5, .int (l5)), (6, .int (l6)), (7, .int (l7)), (8, .int (l8)), (9, .int (l9)), (10, .int (l10)), (11, .int (l11))] → W p l e (h_lv 2 y0) s m args below meth c H locs (h_nx y - h_nx y0) (h_sl y - h_sl y0) (MQ below (h_Qi G y0 q.1 (x, q.2, o)) args s (h_nx q.2 - h_nx y0) (h_sl q.2 - h_sl y0) (g_A G)) (F0 m 180 ls [])) : ∀  (l0 : Nat) (l1 : Nat) (l2 : Nat) (l3 : Int32) (l4 : Int32) (l5 : Int32) (l6 : Int32) (l7 : Int32) (l8 : Int32) (l9 : Int32) (l10 : Int32) (l11 : Int32) (l14 : Int32) (l15 : Int32) (y : MS) (H : Heap) (locs : List Loc) (ls : Array Slot), f_l_X16_way_304 k41 k52 k180 l0 l1 l2 l3 l4 l5 l6 l7 l8 l9 l10 l11 l14 l15 y = some q → h_W G y0 (x, y, o) s.heap H locs → lv_has ls 16 [(0, g_rf G (l0)), (1, g_rf G (l1)), (2, g_rf G (l2)), (3, .int (l3)), (4, .int (l4)), (5, .int (l5)), (6, .int (l6)), (7, .int (l7)), (8, .int (l8)), (9, .int (l9)), (10, .int (l10)), (11, .int (l11)), (14, .int (l14)), (15, .int (l15))] → W p l e (h_lv 2 y0) s m args below meth c H locs (h_nx y - h_nx y0) (h_sl y - h_sl y0) (MQ below (h_Qi G y0 q.1 (x, q.2, o)) args s (h_nx q.2 - h_nx y0) (h_sl q.2 - h_sl y0) (g_A G)) (F0 m 304 ls []) := by
  intro l0 l1 l2 l3 l4 l5 l6 l7 l8 l9 l10 l11 l14 l15 y H locs ls h hW hl
  unfold f_l_X16_way_304 at h
  refine h_aload_n C0.hx C0.hb dX16_way_304 rfl (lv_at hl 0 rfl) ?_
  obtain ⟨hk47, h⟩ := g_if h
  refine hf_X16_8 C0 hW hk47 tf_X16_35 dX16_way_305 ?_
  refine lv_iload C0.hx C0.hb dX16_way_308 (lv_at hl 9 rfl) ?_
  refine lv_iload C0.hx C0.hb dX16_way_310 (lv_at hl 13 rfl) ?_
  obtain ⟨hk48, h⟩ := g_if h
  obtain ⟨hn49, h⟩ := g_if h
  refine hs_60 C0 hW hk48 hn49 dX16_way_312 (fun H locs hW => ?_)
  refine h_fwi hW ?_
  refine h_aload_n C0.hx C0.hb dX16_way_313 rfl (lv_at hl 0 rfl) ?_
  refine hf_X16_9 C0 hW hk47 tf_X16_38 dX16_way_314 ?_
  refine lv_iload C0.hx C0.hb dX16_way_317 (lv_at hl 9 rfl) ?_
  refine h_aload_n C0.hx C0.hb dX16_way_319 rfl (lv_at hl 0 rfl) ?_
  refine hf_X16_9 C0 hW hk47 tf_X16_38 dX16_way_320 ?_
  refine lv_iload C0.hx C0.hb dX16_way_323 (lv_at hl 12 rfl) ?_
  obtain ⟨hk50, h⟩ := g_if h
  obtain ⟨hn51, h⟩ := g_if h
  refine ha_60 C0 hW hk50 hn51 dX16_way_325 ?_
  refine lv_iconst (v := (1 : Int32)) C0.hx C0.hb dX16_way_326 (by decide) ?_
  refine lv_iadd C0.hx C0.hb dX16_way_327 ?_
  obtain ⟨hn52, h⟩ := g_if h
  refine hs_60 C0 hW hk50 hn52 dX16_way_328 (fun H locs hW => ?_)
  refine h_fwi hW ?_
  refine lv_iinc (v := l11 + (1 : Int32)) (lv' := [(11, .int (l11 + (1 : Int32))), (0, g_rf G (l0)), (1, g_rf G (l1)), (2, g_rf G (l2)), (3, .int (l3)), (4, .int (l4)), (5, .int (l5)), (6, .int (l6)), (7, .int (l7)), (8, .int (l8)), (9, .int (l9)), (10, .int (l10)), (14, .int (l14)), (15, .int (l15))]) C0.hx C0.hb dX16_way_329 hl (k := 11) rfl rfl (by decide) rfl (fun ls hl => ?_)
  refine lv_goto (tgt := 180) C0.hx C0.hb dX16_way_332 (by decide) ?_
  have hz := kt180 _ _ _ _ _ _ _ _ _ _ _ _ _ _ _ _ h hW (lv_sub hl [1, 2, 3, 4, 5, 6, 7, 8, 9, 10, 11, 0] rfl)
  exact hz
set_option maxRecDepth 100000 in
set_option maxHeartbeats 4000000 in
theorem w_l_X16_way_180 {p : Program} {l : Launch} {e : Env} {s : State} {m : MethodId} {args : Array Value} {below : List Frame} {meth : Method} {c : Code} {G : GL} {o : Nat → Int32} {y0 : MS} {x : CS} {q : Int32 × MS} {k41 : Nat → Nat → Nat → Int32 → Int32 → Int32 → Int32 → Int32 → MS → Option (Int32 × MS)} {k52 : Nat → Nat → Nat → Int32 → Int32 → Int32 → Int32 → Int32 → Int32 → MS → Option (Int32 × MS)}  (C0 : g_X G (List.range 120) p s m args meth c cX16_way 16 RX16 (Option.some Jvm.ClassFile.FieldType.int)) (kt41 : ∀ (l0 : Nat) (l1 : Nat) (l2 : Nat) (l3 : Int32) (l4 : Int32) (l5 : Int32) (l6 : Int32) (l7 : Int32) (y : MS) (H : Heap) (locs : List Loc) (ls : Array Slot), k41 l0 l1 l2 l3 l4 l5 l6 l7 y = some q → h_W G y0 (x, y, o) s.heap H locs → lv_has ls 16 [(0, g_rf G (l0)), (1, g_rf G (l1)), (2, g_rf G (l2)), (3, .int (l3)), (4, .int (l4)), (5, .int (l5)), (6, .int (l6)), (7, .int (l7))] → W p l e (h_lv 2 y0) s m args below meth c H locs (h_nx y - h_nx y0) (h_sl y - h_sl y0) (MQ below (h_Qi G y0 q.1 (x, q.2, o)) args s (h_nx q.2 - h_nx y0) (h_sl q.2 - h_sl y0) (g_A G)) (F0 m 41 ls [])) (kt52 : ∀ (l0 : Nat) (l1 : Nat) (l2 : Nat) (l3 : Int32) (l4 : Int32) (l5 : Int32) (l6 : Int32) (l7 : Int32) (l8 : Int32) (y : MS) (H : Heap) (locs : List Loc) (ls : Array Slot), k52 l0 l1 l2 l3 l4 l5 l6 l7 l8 y = some q → h_W G y0 (x, y, o) s.heap H locs → lv_has ls 16 [(0, g_rf G (l0)), (1, g_rf G (l1)), (2, g_rf G (l2)), (3, .int (l3)), (4, .int (l4)), (5, .int (l5)), (6, .int (l6)), (7, .int (l7)), (8, .int (l8))] → W p l e (h_lv 2 y0) s m args below meth c H locs (h_nx y - h_nx y0) (h_sl y - h_sl y0) (MQ below (h_Qi G y0 q.1 (x, q.2, o)) args s (h_nx q.2 - h_nx y0) (h_sl q.2 - h_sl y0) (g_A G)) (F0 m 52 ls [])) : ∀ (n : Nat) (l0 : Nat) (l1 : Nat) (l2 : Nat) (l3 : Int32) (l4 : Int32) (l5 : Int32) (l6 : Int32) (l7 : Int32) (l8 : Int32) (l9 : Int32) (l10 : Int32) (l11 : Int32) (y : MS) (H : Heap) (locs : List Loc) (ls : Array Slot), f_l_X16_way_180 k41 k52 n l0 l1 l2 l3 l4 l5 l6 l7 l8 l9 l10 l11 y = some q → h_W G y0 (x, y, o) s.heap H locs → lv_has ls 16 [(0, g_rf G (l0)), (1, g_rf G (l1)), (2, g_rf G (l2)), (3, .int (l3)), (4, .int (l4)), (5, .int (l5)), (6, .int (l6)), (7, .int (l7)), (8, .int (l8)), (9, .int (l9)), (10, .int (l10)), (11, .int (l11))] → W p l e (h_lv 2 y0) s m args below meth c H locs (h_nx y - h_nx y0) (h_sl y - h_sl y0) (MQ below (h_Qi G y0 q.1 (x, q.2, o)) args s (h_nx q.2 - h_nx y0) (h_sl q.2 - h_sl y0) (g_A G)) (F0 m 180 ls []) := by
  intro n
  induction n with
  | zero =>
    intro l0 l1 l2 l3 l4 l5 l6 l7 l8 l9 l10 l11 y H locs ls h hW hl
    exact absurd h (by simp [f_l_X16_way_180])
  | succ n ih =>
    intro l0 l1 l2 l3 l4 l5 l6 l7 l8 l9 l10 l11 y H locs ls h hW hl
    unfold f_l_X16_way_180 at h
    refine lv_iload C0.hx C0.hb dX16_way_180 (lv_at hl 11 rfl) ?_
    refine lv_iconst (v := (4 : Int32)) C0.hx C0.hb dX16_way_182 (by decide) ?_
    refine lv_icmp_ge (tgt := 335) C0.hx C0.hb dX16_way_183 (by decide) (fun hc31 => ?_) (fun hc31 => ?_)
    · replace h := (if_pos hc31).symm.trans h
      refine lv_iinc (v := l8 + (-1 : Int32)) (lv' := [(8, .int (l8 + (-1 : Int32))), (0, g_rf G (l0)), (1, g_rf G (l1)), (2, g_rf G (l2)), (3, .int (l3)), (4, .int (l4)), (5, .int (l5)), (6, .int (l6)), (7, .int (l7)), (9, .int (l9)), (10, .int (l10)), (11, .int (l11))]) C0.hx C0.hb dX16_way_335 hl (k := 8) rfl rfl (by decide) rfl (fun ls hl => ?_)
      refine lv_goto (tgt := 52) C0.hx C0.hb dX16_way_338 (by decide) ?_
      have hz := kt52 _ _ _ _ _ _ _ _ _ _ _ _ _ h hW (lv_sub hl [1, 2, 3, 4, 5, 6, 7, 8, 0] rfl)
      exact hz
    · replace h := (if_neg hc31).symm.trans h
      refine lv_iload C0.hx C0.hb dX16_way_186 (lv_at hl 7 rfl) ?_
      refine lv_iload C0.hx C0.hb dX16_way_188 (lv_at hl 11 rfl) ?_
      refine lv_iconst (v := (1 : Int32)) C0.hx C0.hb dX16_way_190 (by decide) ?_
      refine lv_iand C0.hx C0.hb dX16_way_191 ?_
      refine lv_iadd C0.hx C0.hb dX16_way_192 ?_
      refine lv_istore (lv' := [(12, .int (l7 + (l11 &&& (1 : Int32)))), (0, g_rf G (l0)), (1, g_rf G (l1)), (2, g_rf G (l2)), (3, .int (l3)), (4, .int (l4)), (5, .int (l5)), (6, .int (l6)), (7, .int (l7)), (8, .int (l8)), (9, .int (l9)), (10, .int (l10)), (11, .int (l11))]) C0.hx C0.hb dX16_way_193 hl (by decide) rfl (fun ls hl => ?_)
      refine lv_iload C0.hx C0.hb dX16_way_195 (lv_at hl 9 rfl) ?_
      refine lv_iload C0.hx C0.hb dX16_way_197 (lv_at hl 12 rfl) ?_
      refine lv_iconst (v := (1 : Int32)) C0.hx C0.hb dX16_way_199 (by decide) ?_
      refine lv_ishr C0.hx C0.hb dX16_way_200 ?_
      refine lv_iadd C0.hx C0.hb dX16_way_201 ?_
      refine lv_istore (lv' := [(13, .int (l8 + (l11 >>> ((1 : Int32) &&& 31)))), (12, .int (l7 + (l11 &&& (1 : Int32)))), (0, g_rf G (l0)), (1, g_rf G (l1)), (2, g_rf G (l2)), (3, .int (l3)), (4, .int (l4)), (5, .int (l5)), (6, .int (l6)), (7, .int (l7)), (8, .int (l8)), (9, .int (l9)), (10, .int (l10)), (11, .int (l11))]) C0.hx C0.hb dX16_way_202 hl (by decide) rfl (fun ls hl => ?_)
      refine lv_iload C0.hx C0.hb dX16_way_204 (lv_at hl 1 rfl) ?_
      refine lv_iload C0.hx C0.hb dX16_way_206 (lv_at hl 6 rfl) ?_
      refine lv_icmp_eq (tgt := 329) C0.hx C0.hb dX16_way_208 (by decide) (fun hc32 => ?_) (fun hc32 => ?_)
      · replace h := (if_pos hc32).symm.trans h
        refine lv_iinc (v := l11 + (1 : Int32)) (lv' := [(11, .int (l11 + (1 : Int32))), (13, .int (l8 + (l11 >>> ((1 : Int32) &&& 31)))), (12, .int (l7 + (l11 &&& (1 : Int32)))), (0, g_rf G (l0)), (1, g_rf G (l1)), (2, g_rf G (l2)), (3, .int (l3)), (4, .int (l4)), (5, .int (l5)), (6, .int (l6)), (7, .int (l7)), (8, .int (l8)), (9, .int (l9)), (10, .int (l10))]) C0.hx C0.hb dX16_way_329 hl (k := 13) rfl rfl (by decide) rfl (fun ls hl => ?_)
        refine lv_goto (tgt := 180) C0.hx C0.hb dX16_way_332 (by decide) ?_
        have hz := ih _ _ _ _ _ _ _ _ _ _ _ _ _ _ _ _ h hW (lv_sub hl [3, 4, 5, 6, 7, 8, 9, 10, 11, 12, 13, 0] rfl)
        exact hz
      · replace h := (if_neg hc32).symm.trans h
        refine lv_iload C0.hx C0.hb dX16_way_211 (lv_at hl 0 rfl) ?_
        refine lv_iload C0.hx C0.hb dX16_way_213 (lv_at hl 7 rfl) ?_
        refine lv_icmp_ne (tgt := 221) C0.hx C0.hb dX16_way_215 (by decide) (fun hc33 => ?_) (fun hc33 => ?_)
        · replace h := (if_neg hc33).symm.trans h
          refine lv_bipush (v := (24 : Int32)) C0.hx C0.hb dX16_way_221 (by decide) ?_
          refine lv_iload C0.hx C0.hb dX16_way_223 (lv_at hl 1 rfl) ?_
          refine lv_imul C0.hx C0.hb dX16_way_225 ?_
          refine lv_iload C0.hx C0.hb dX16_way_226 (lv_at hl 0 rfl) ?_
          refine lv_iadd C0.hx C0.hb dX16_way_228 ?_
          refine lv_istore (lv' := [(14, .int (((24 : Int32) * (l7 + (l11 &&& (1 : Int32)))) + (l8 + (l11 >>> ((1 : Int32) &&& 31))))), (13, .int (l8 + (l11 >>> ((1 : Int32) &&& 31)))), (12, .int (l7 + (l11 &&& (1 : Int32)))), (0, g_rf G (l0)), (1, g_rf G (l1)), (2, g_rf G (l2)), (3, .int (l3)), (4, .int (l4)), (5, .int (l5)), (6, .int (l6)), (7, .int (l7)), (8, .int (l8)), (9, .int (l9)), (10, .int (l10)), (11, .int (l11))]) C0.hx C0.hb dX16_way_229 hl (by decide) rfl (fun ls hl => ?_)
          refine h_aload_n C0.hx C0.hb dX16_way_231 rfl (lv_at hl 3 rfl) ?_
          obtain ⟨hk34, h⟩ := g_if h
          refine hf_X16_8 C0 hW hk34 tf_X16_35 dX16_way_232 ?_
          refine lv_iload C0.hx C0.hb dX16_way_235 (lv_at hl 0 rfl) ?_
          obtain ⟨hk35, h⟩ := g_if h
          obtain ⟨hn36, h⟩ := g_if h
          refine ha_60 C0 hW hk35 hn36 dX16_way_237 ?_
          refine lv_ldc C0.hx C0.hb C0.hown (C0.hts _ tq_X16_56) dX16_way_238 ?_
          refine lv_icmp_lt (tgt := 246) C0.hx C0.hb dX16_way_240 (by decide) (fun hc37 => ?_) (fun hc37 => ?_)
          · replace h := (if_pos hc37).symm.trans h
            refine h_aload_n C0.hx C0.hb dX16_way_246 rfl (lv_at hl 3 rfl) ?_
            refine hf_X16_8 C0 hW hk34 tf_X16_35 dX16_way_247 ?_
            refine lv_iload C0.hx C0.hb dX16_way_250 (lv_at hl 0 rfl) ?_
            obtain ⟨hn38, h⟩ := g_if h
            refine ha_60 C0 hW hk35 hn38 dX16_way_252 ?_
            refine lv_iload C0.hx C0.hb dX16_way_253 (lv_at hl 13 rfl) ?_
            refine lv_iadd C0.hx C0.hb dX16_way_255 ?_
            refine lv_istore (lv' := [(15, .int ((h_I y (h_R y l0 8) (((24 : Int32) * (l7 + (l11 &&& (1 : Int32)))) + (l8 + (l11 >>> ((1 : Int32) &&& 31)))).toNatClampNeg) + l10)), (14, .int (((24 : Int32) * (l7 + (l11 &&& (1 : Int32)))) + (l8 + (l11 >>> ((1 : Int32) &&& 31))))), (13, .int (l8 + (l11 >>> ((1 : Int32) &&& 31)))), (12, .int (l7 + (l11 &&& (1 : Int32)))), (0, g_rf G (l0)), (1, g_rf G (l1)), (2, g_rf G (l2)), (3, .int (l3)), (4, .int (l4)), (5, .int (l5)), (6, .int (l6)), (7, .int (l7)), (8, .int (l8)), (9, .int (l9)), (10, .int (l10)), (11, .int (l11))]) C0.hx C0.hb dX16_way_256 hl (by decide) rfl (fun ls hl => ?_)
            refine lv_iload C0.hx C0.hb dX16_way_258 (lv_at hl 0 rfl) ?_
            refine h_aload_n C0.hx C0.hb dX16_way_260 rfl (lv_at hl 4 rfl) ?_
            refine hf_X16_8 C0 hW hk34 tf_X16_35 dX16_way_261 ?_
            refine lv_iload C0.hx C0.hb dX16_way_264 (lv_at hl 13 rfl) ?_
            obtain ⟨hn39, h⟩ := g_if h
            refine ha_60 C0 hW hk35 hn39 dX16_way_266 ?_
            refine lv_icmp_gt (tgt := 329) C0.hx C0.hb dX16_way_267 (by decide) (fun hc40 => ?_) (fun hc40 => ?_)
            · replace h := (if_pos hc40).symm.trans h
              refine lv_iinc (v := l11 + (1 : Int32)) (lv' := [(11, .int (l11 + (1 : Int32))), (15, .int ((h_I y (h_R y l0 8) (((24 : Int32) * (l7 + (l11 &&& (1 : Int32)))) + (l8 + (l11 >>> ((1 : Int32) &&& 31)))).toNatClampNeg) + l10)), (14, .int (((24 : Int32) * (l7 + (l11 &&& (1 : Int32)))) + (l8 + (l11 >>> ((1 : Int32) &&& 31))))), (13, .int (l8 + (l11 >>> ((1 : Int32) &&& 31)))), (12, .int (l7 + (l11 &&& (1 : Int32)))), (0, g_rf G (l0)), (1, g_rf G (l1)), (2, g_rf G (l2)), (3, .int (l3)), (4, .int (l4)), (5, .int (l5)), (6, .int (l6)), (7, .int (l7)), (8, .int (l8)), (9, .int (l9)), (10, .int (l10))]) C0.hx C0.hb dX16_way_329 hl (k := 15) rfl rfl (by decide) rfl (fun ls hl => ?_)
              refine lv_goto (tgt := 180) C0.hx C0.hb dX16_way_332 (by decide) ?_
              have hz := ih _ _ _ _ _ _ _ _ _ _ _ _ _ _ _ _ h hW (lv_sub hl [5, 6, 7, 8, 9, 10, 11, 12, 13, 14, 15, 0] rfl)
              exact hz
            · replace h := (if_neg hc40).symm.trans h
              refine lv_iload C0.hx C0.hb dX16_way_270 (lv_at hl 0 rfl) ?_
              refine h_aload_n C0.hx C0.hb dX16_way_272 rfl (lv_at hl 4 rfl) ?_
              refine hf_X16_8 C0 hW hk34 tf_X16_35 dX16_way_273 ?_
              refine lv_iload C0.hx C0.hb dX16_way_276 (lv_at hl 13 rfl) ?_
              obtain ⟨hn41, h⟩ := g_if h
              refine ha_60 C0 hW hk35 hn41 dX16_way_278 ?_
              refine lv_icmp_ne (tgt := 304) C0.hx C0.hb dX16_way_279 (by decide) (fun hc42 => ?_) (fun hc42 => ?_)
              · replace h := (if_neg hc42).symm.trans h
                have hz := w_l_X16_way_304 (l := l) (e := e) (below := below) C0 kt41 kt52 ih _ _ _ _ _ _ _ _ _ _ _ _ _ _ _ _ _ _ h hW (lv_sub hl [4, 5, 6, 7, 8, 9, 10, 11, 12, 13, 14, 15, 1, 0] rfl)
                exact hz
              · replace h := (if_pos hc42).symm.trans h
                refine h_aload_n C0.hx C0.hb dX16_way_282 rfl (lv_at hl 4 rfl) ?_
                refine hf_X16_9 C0 hW hk34 tf_X16_38 dX16_way_283 ?_
                refine lv_iload C0.hx C0.hb dX16_way_286 (lv_at hl 1 rfl) ?_
                obtain ⟨hk43, h⟩ := g_if h
                obtain ⟨hn44, h⟩ := g_if h
                refine ha_60 C0 hW hk43 hn44 dX16_way_288 ?_
                refine lv_iconst (v := (1 : Int32)) C0.hx C0.hb dX16_way_289 (by decide) ?_
                refine lv_iadd C0.hx C0.hb dX16_way_290 ?_
                refine h_aload_n C0.hx C0.hb dX16_way_291 rfl (lv_at hl 4 rfl) ?_
                refine hf_X16_9 C0 hW hk34 tf_X16_38 dX16_way_292 ?_
                refine lv_iload C0.hx C0.hb dX16_way_295 (lv_at hl 13 rfl) ?_
                obtain ⟨hn45, h⟩ := g_if h
                refine ha_60 C0 hW hk43 hn45 dX16_way_297 ?_
                refine lv_icmp_lt (tgt := 304) C0.hx C0.hb dX16_way_298 (by decide) (fun hc46 => ?_) (fun hc46 => ?_)
                · replace h := (if_pos hc46).symm.trans h
                  have hz := w_l_X16_way_304 (l := l) (e := e) (below := below) C0 kt41 kt52 ih _ _ _ _ _ _ _ _ _ _ _ _ _ _ _ _ _ _ h hW (lv_sub hl [4, 5, 6, 7, 8, 9, 10, 11, 12, 13, 14, 15, 1, 0] rfl)
                  exact hz
                · replace h := (if_neg hc46).symm.trans h
                  refine lv_goto (tgt := 329) C0.hx C0.hb dX16_way_301 (by decide) ?_
                  refine lv_iinc (v := l11 + (1 : Int32)) (lv' := [(11, .int (l11 + (1 : Int32))), (15, .int ((h_I y (h_R y l0 8) (((24 : Int32) * (l7 + (l11 &&& (1 : Int32)))) + (l8 + (l11 >>> ((1 : Int32) &&& 31)))).toNatClampNeg) + l10)), (14, .int (((24 : Int32) * (l7 + (l11 &&& (1 : Int32)))) + (l8 + (l11 >>> ((1 : Int32) &&& 31))))), (13, .int (l8 + (l11 >>> ((1 : Int32) &&& 31)))), (12, .int (l7 + (l11 &&& (1 : Int32)))), (0, g_rf G (l0)), (1, g_rf G (l1)), (2, g_rf G (l2)), (3, .int (l3)), (4, .int (l4)), (5, .int (l5)), (6, .int (l6)), (7, .int (l7)), (8, .int (l8)), (9, .int (l9)), (10, .int (l10))]) C0.hx C0.hb dX16_way_329 hl (k := 15) rfl rfl (by decide) rfl (fun ls hl => ?_)
                  refine lv_goto (tgt := 180) C0.hx C0.hb dX16_way_332 (by decide) ?_
                  have hz := ih _ _ _ _ _ _ _ _ _ _ _ _ _ _ _ _ h hW (lv_sub hl [5, 6, 7, 8, 9, 10, 11, 12, 13, 14, 15, 0] rfl)
                  exact hz
          · replace h := (if_neg hc37).symm.trans h
            refine lv_goto (tgt := 329) C0.hx C0.hb dX16_way_243 (by decide) ?_
            refine lv_iinc (v := l11 + (1 : Int32)) (lv' := [(11, .int (l11 + (1 : Int32))), (14, .int (((24 : Int32) * (l7 + (l11 &&& (1 : Int32)))) + (l8 + (l11 >>> ((1 : Int32) &&& 31))))), (13, .int (l8 + (l11 >>> ((1 : Int32) &&& 31)))), (12, .int (l7 + (l11 &&& (1 : Int32)))), (0, g_rf G (l0)), (1, g_rf G (l1)), (2, g_rf G (l2)), (3, .int (l3)), (4, .int (l4)), (5, .int (l5)), (6, .int (l6)), (7, .int (l7)), (8, .int (l8)), (9, .int (l9)), (10, .int (l10))]) C0.hx C0.hb dX16_way_329 hl (k := 14) rfl rfl (by decide) rfl (fun ls hl => ?_)
            refine lv_goto (tgt := 180) C0.hx C0.hb dX16_way_332 (by decide) ?_
            have hz := ih _ _ _ _ _ _ _ _ _ _ _ _ _ _ _ _ h hW (lv_sub hl [4, 5, 6, 7, 8, 9, 10, 11, 12, 13, 14, 0] rfl)
            exact hz
        · replace h := (if_pos hc33).symm.trans h
          refine lv_goto (tgt := 329) C0.hx C0.hb dX16_way_218 (by decide) ?_
          refine lv_iinc (v := l11 + (1 : Int32)) (lv' := [(11, .int (l11 + (1 : Int32))), (13, .int (l8 + (l11 >>> ((1 : Int32) &&& 31)))), (12, .int (l7 + (l11 &&& (1 : Int32)))), (0, g_rf G (l0)), (1, g_rf G (l1)), (2, g_rf G (l2)), (3, .int (l3)), (4, .int (l4)), (5, .int (l5)), (6, .int (l6)), (7, .int (l7)), (8, .int (l8)), (9, .int (l9)), (10, .int (l10))]) C0.hx C0.hb dX16_way_329 hl (k := 13) rfl rfl (by decide) rfl (fun ls hl => ?_)
          refine lv_goto (tgt := 180) C0.hx C0.hb dX16_way_332 (by decide) ?_
          have hz := ih _ _ _ _ _ _ _ _ _ _ _ _ _ _ _ _ h hW (lv_sub hl [3, 4, 5, 6, 7, 8, 9, 10, 11, 12, 13, 0] rfl)
          exact hz
set_option maxRecDepth 100000 in
set_option maxHeartbeats 4000000 in
theorem w_l_X16_way_137 {p : Program} {l : Launch} {e : Env} {s : State} {m : MethodId} {args : Array Value} {below : List Frame} {meth : Method} {c : Code} {G : GL} {o : Nat → Int32} {y0 : MS} {x : CS} {q : Int32 × MS} {k41 : Nat → Nat → Nat → Int32 → Int32 → Int32 → Int32 → Int32 → MS → Option (Int32 × MS)} {k52 : Nat → Nat → Nat → Int32 → Int32 → Int32 → Int32 → Int32 → Int32 → MS → Option (Int32 × MS)}  (C0 : g_X G (List.range 120) p s m args meth c cX16_way 16 RX16 (Option.some Jvm.ClassFile.FieldType.int)) (kt41 : ∀ (l0 : Nat) (l1 : Nat) (l2 : Nat) (l3 : Int32) (l4 : Int32) (l5 : Int32) (l6 : Int32) (l7 : Int32) (y : MS) (H : Heap) (locs : List Loc) (ls : Array Slot), k41 l0 l1 l2 l3 l4 l5 l6 l7 y = some q → h_W G y0 (x, y, o) s.heap H locs → lv_has ls 16 [(0, g_rf G (l0)), (1, g_rf G (l1)), (2, g_rf G (l2)), (3, .int (l3)), (4, .int (l4)), (5, .int (l5)), (6, .int (l6)), (7, .int (l7))] → W p l e (h_lv 2 y0) s m args below meth c H locs (h_nx y - h_nx y0) (h_sl y - h_sl y0) (MQ below (h_Qi G y0 q.1 (x, q.2, o)) args s (h_nx q.2 - h_nx y0) (h_sl q.2 - h_sl y0) (g_A G)) (F0 m 41 ls [])) (kt52 : ∀ (l0 : Nat) (l1 : Nat) (l2 : Nat) (l3 : Int32) (l4 : Int32) (l5 : Int32) (l6 : Int32) (l7 : Int32) (l8 : Int32) (y : MS) (H : Heap) (locs : List Loc) (ls : Array Slot), k52 l0 l1 l2 l3 l4 l5 l6 l7 l8 y = some q → h_W G y0 (x, y, o) s.heap H locs → lv_has ls 16 [(0, g_rf G (l0)), (1, g_rf G (l1)), (2, g_rf G (l2)), (3, .int (l3)), (4, .int (l4)), (5, .int (l5)), (6, .int (l6)), (7, .int (l7)), (8, .int (l8))] → W p l e (h_lv 2 y0) s m args below meth c H locs (h_nx y - h_nx y0) (h_sl y - h_sl y0) (MQ below (h_Qi G y0 q.1 (x, q.2, o)) args s (h_nx q.2 - h_nx y0) (h_sl q.2 - h_sl y0) (g_A G)) (F0 m 52 ls [])) : ∀  (l0 : Nat) (l1 : Nat) (l2 : Nat) (l3 : Int32) (l4 : Int32) (l5 : Int32) (l6 : Int32) (l7 : Int32) (l8 : Int32) (l9 : Int32) (s0 : Int32) (y : MS) (H : Heap) (locs : List Loc) (ls : Array Slot), f_l_X16_way_137 k41 k52 l0 l1 l2 l3 l4 l5 l6 l7 l8 l9 s0 y = some q → h_W G y0 (x, y, o) s.heap H locs → lv_has ls 16 [(0, g_rf G (l0)), (1, g_rf G (l1)), (2, g_rf G (l2)), (3, .int (l3)), (4, .int (l4)), (5, .int (l5)), (6, .int (l6)), (7, .int (l7)), (8, .int (l8)), (9, .int (l9))] → W p l e (h_lv 2 y0) s m args below meth c H locs (h_nx y - h_nx y0) (h_sl y - h_sl y0) (MQ below (h_Qi G y0 q.1 (x, q.2, o)) args s (h_nx q.2 - h_nx y0) (h_sl q.2 - h_sl y0) (g_A G)) (F0 m 137 ls [.int (s0)]) := by
  intro l0 l1 l2 l3 l4 l5 l6 l7 l8 l9 s0 y H locs ls h hW hl
  unfold f_l_X16_way_137 at h
  refine lv_istore (lv' := [(10, .int (s0)), (0, g_rf G (l0)), (1, g_rf G (l1)), (2, g_rf G (l2)), (3, .int (l3)), (4, .int (l4)), (5, .int (l5)), (6, .int (l6)), (7, .int (l7)), (8, .int (l8)), (9, .int (l9))]) C0.hx C0.hb dX16_way_137 hl (by decide) rfl (fun ls hl => ?_)
  refine lv_iload C0.hx C0.hb dX16_way_139 (lv_at hl 8 rfl) ?_
  refine lv_iload C0.hx C0.hb dX16_way_141 (lv_at hl 5 rfl) ?_
  refine lv_iconst (v := (1 : Int32)) C0.hx C0.hb dX16_way_143 (by decide) ?_
  refine lv_isub C0.hx C0.hb dX16_way_144 ?_
  refine lv_icmp_ne (tgt := 177) C0.hx C0.hb dX16_way_145 (by decide) (fun hc24 => ?_) (fun hc24 => ?_)
  · replace h := (if_neg hc24).symm.trans h
    refine lv_iconst (v := (1 : Int32)) C0.hx C0.hb dX16_way_177 (by decide) ?_
    refine lv_istore (lv' := [(11, .int ((1 : Int32))), (10, .int (s0)), (0, g_rf G (l0)), (1, g_rf G (l1)), (2, g_rf G (l2)), (3, .int (l3)), (4, .int (l4)), (5, .int (l5)), (6, .int (l6)), (7, .int (l7)), (8, .int (l8)), (9, .int (l9))]) C0.hx C0.hb dX16_way_178 hl (by decide) rfl (fun ls hl => ?_)
    have hz := w_l_X16_way_180 (l := l) (e := e) (below := below) C0 kt41 kt52 g_fuel _ _ _ _ _ _ _ _ _ _ _ _ _ _ _ _ h hW (lv_sub hl [2, 3, 4, 5, 6, 7, 8, 9, 10, 11, 1, 0] rfl)
    exact hz
  · replace h := (if_pos hc24).symm.trans h
    refine lv_iload C0.hx C0.hb dX16_way_148 (lv_at hl 9 rfl) ?_
    refine lv_iload C0.hx C0.hb dX16_way_150 (lv_at hl 6 rfl) ?_
    refine lv_iconst (v := (1 : Int32)) C0.hx C0.hb dX16_way_152 (by decide) ?_
    refine lv_isub C0.hx C0.hb dX16_way_153 ?_
    refine lv_icmp_ne (tgt := 177) C0.hx C0.hb dX16_way_154 (by decide) (fun hc25 => ?_) (fun hc25 => ?_)
    · replace h := (if_neg hc25).symm.trans h
      refine lv_iconst (v := (1 : Int32)) C0.hx C0.hb dX16_way_177 (by decide) ?_
      refine lv_istore (lv' := [(11, .int ((1 : Int32))), (10, .int (s0)), (0, g_rf G (l0)), (1, g_rf G (l1)), (2, g_rf G (l2)), (3, .int (l3)), (4, .int (l4)), (5, .int (l5)), (6, .int (l6)), (7, .int (l7)), (8, .int (l8)), (9, .int (l9))]) C0.hx C0.hb dX16_way_178 hl (by decide) rfl (fun ls hl => ?_)
      have hz := w_l_X16_way_180 (l := l) (e := e) (below := below) C0 kt41 kt52 g_fuel _ _ _ _ _ _ _ _ _ _ _ _ _ _ _ _ h hW (lv_sub hl [2, 3, 4, 5, 6, 7, 8, 9, 10, 11, 1, 0] rfl)
      exact hz
    · replace h := (if_pos hc25).symm.trans h
      refine h_aload_n C0.hx C0.hb dX16_way_157 rfl (lv_at hl 1 rfl) ?_
      obtain ⟨hk26, h⟩ := g_if h
      refine hf_X16_8 C0 hW hk26 tf_X16_35 dX16_way_158 ?_
      refine lv_iload C0.hx C0.hb dX16_way_161 (lv_at hl 10 rfl) ?_
      refine lv_iload C0.hx C0.hb dX16_way_163 (lv_at hl 0 rfl) ?_
      obtain ⟨hk27, h⟩ := g_if h
      obtain ⟨hn28, h⟩ := g_if h
      refine hs_60 C0 hW hk27 hn28 dX16_way_165 (fun H locs hW => ?_)
      refine h_fwi hW ?_
      refine h_aload_n C0.hx C0.hb dX16_way_166 rfl (lv_at hl 1 rfl) ?_
      refine hf_X16_9 C0 hW hk26 tf_X16_38 dX16_way_167 ?_
      refine lv_iload C0.hx C0.hb dX16_way_170 (lv_at hl 10 rfl) ?_
      refine lv_iconst (v := (1 : Int32)) C0.hx C0.hb dX16_way_172 (by decide) ?_
      obtain ⟨hk29, h⟩ := g_if h
      obtain ⟨hn30, h⟩ := g_if h
      refine hs_60 C0 hW hk29 hn30 dX16_way_173 (fun H locs hW => ?_)
      refine h_fwi hW ?_
      refine lv_goto (tgt := 335) C0.hx C0.hb dX16_way_174 (by decide) ?_
      refine lv_iinc (v := l8 + (-1 : Int32)) (lv' := [(8, .int (l8 + (-1 : Int32))), (10, .int (s0)), (0, g_rf G (l0)), (1, g_rf G (l1)), (2, g_rf G (l2)), (3, .int (l3)), (4, .int (l4)), (5, .int (l5)), (6, .int (l6)), (7, .int (l7)), (9, .int (l9))]) C0.hx C0.hb dX16_way_335 hl (k := 9) rfl rfl (by decide) rfl (fun ls hl => ?_)
      refine lv_goto (tgt := 52) C0.hx C0.hb dX16_way_338 (by decide) ?_
      have hz := kt52 _ _ _ _ _ _ _ _ _ _ _ _ _ h hW (lv_sub hl [2, 3, 4, 5, 6, 7, 8, 9, 0] rfl)
      exact hz
set_option maxRecDepth 100000 in
set_option maxHeartbeats 4000000 in
theorem w_l_X16_way_52 {p : Program} {l : Launch} {e : Env} {s : State} {m : MethodId} {args : Array Value} {below : List Frame} {meth : Method} {c : Code} {G : GL} {o : Nat → Int32} {y0 : MS} {x : CS} {q : Int32 × MS} {k41 : Nat → Nat → Nat → Int32 → Int32 → Int32 → Int32 → Int32 → MS → Option (Int32 × MS)}  (C0 : g_X G (List.range 120) p s m args meth c cX16_way 16 RX16 (Option.some Jvm.ClassFile.FieldType.int)) (kt41 : ∀ (l0 : Nat) (l1 : Nat) (l2 : Nat) (l3 : Int32) (l4 : Int32) (l5 : Int32) (l6 : Int32) (l7 : Int32) (y : MS) (H : Heap) (locs : List Loc) (ls : Array Slot), k41 l0 l1 l2 l3 l4 l5 l6 l7 y = some q → h_W G y0 (x, y, o) s.heap H locs → lv_has ls 16 [(0, g_rf G (l0)), (1, g_rf G (l1)), (2, g_rf G (l2)), (3, .int (l3)), (4, .int (l4)), (5, .int (l5)), (6, .int (l6)), (7, .int (l7))] → W p l e (h_lv 2 y0) s m args below meth c H locs (h_nx y - h_nx y0) (h_sl y - h_sl y0) (MQ below (h_Qi G y0 q.1 (x, q.2, o)) args s (h_nx q.2 - h_nx y0) (h_sl q.2 - h_sl y0) (g_A G)) (F0 m 41 ls [])) : ∀ (n : Nat) (l0 : Nat) (l1 : Nat) (l2 : Nat) (l3 : Int32) (l4 : Int32) (l5 : Int32) (l6 : Int32) (l7 : Int32) (l8 : Int32) (y : MS) (H : Heap) (locs : List Loc) (ls : Array Slot), f_l_X16_way_52 k41 n l0 l1 l2 l3 l4 l5 l6 l7 l8 y = some q → h_W G y0 (x, y, o) s.heap H locs → lv_has ls 16 [(0, g_rf G (l0)), (1, g_rf G (l1)), (2, g_rf G (l2)), (3, .int (l3)), (4, .int (l4)), (5, .int (l5)), (6, .int (l6)), (7, .int (l7)), (8, .int (l8))] → W p l e (h_lv 2 y0) s m args below meth c H locs (h_nx y - h_nx y0) (h_sl y - h_sl y0) (MQ below (h_Qi G y0 q.1 (x, q.2, o)) args s (h_nx q.2 - h_nx y0) (h_sl q.2 - h_sl y0) (g_A G)) (F0 m 52 ls []) := by
  intro n
  induction n with
  | zero =>
    intro l0 l1 l2 l3 l4 l5 l6 l7 l8 y H locs ls h hW hl
    exact absurd h (by simp [f_l_X16_way_52])
  | succ n ih =>
    intro l0 l1 l2 l3 l4 l5 l6 l7 l8 y H locs ls h hW hl
    unfold f_l_X16_way_52 at h
    refine lv_iload C0.hx C0.hb dX16_way_52 (lv_at hl 8 rfl) ?_
    refine lv_if_lt (tgt := 341) C0.hx C0.hb dX16_way_54 (by decide) (fun hc9 => ?_) (fun hc9 => ?_)
    · replace h := (if_pos hc9).symm.trans h
      refine lv_iinc (v := l7 + (-1 : Int32)) (lv' := [(7, .int (l7 + (-1 : Int32))), (0, g_rf G (l0)), (1, g_rf G (l1)), (2, g_rf G (l2)), (3, .int (l3)), (4, .int (l4)), (5, .int (l5)), (6, .int (l6)), (8, .int (l8))]) C0.hx C0.hb dX16_way_341 hl (k := 7) rfl rfl (by decide) rfl (fun ls hl => ?_)
      refine lv_goto (tgt := 41) C0.hx C0.hb dX16_way_344 (by decide) ?_
      have hz := kt41 _ _ _ _ _ _ _ _ _ _ _ _ h hW (lv_sub hl [1, 2, 3, 4, 5, 6, 7, 0] rfl)
      exact hz
    · replace h := (if_neg hc9).symm.trans h
      refine lv_bipush (v := (24 : Int32)) C0.hx C0.hb dX16_way_57 (by decide) ?_
      refine lv_iload C0.hx C0.hb dX16_way_59 (lv_at hl 7 rfl) ?_
      refine lv_imul C0.hx C0.hb dX16_way_61 ?_
      refine lv_iload C0.hx C0.hb dX16_way_62 (lv_at hl 8 rfl) ?_
      refine lv_iadd C0.hx C0.hb dX16_way_64 ?_
      refine lv_istore (lv' := [(9, .int (((24 : Int32) * l7) + l8)), (0, g_rf G (l0)), (1, g_rf G (l1)), (2, g_rf G (l2)), (3, .int (l3)), (4, .int (l4)), (5, .int (l5)), (6, .int (l6)), (7, .int (l7)), (8, .int (l8))]) C0.hx C0.hb dX16_way_65 hl (by decide) rfl (fun ls hl => ?_)
      refine h_aload_n C0.hx C0.hb dX16_way_67 rfl (lv_at hl 1 rfl) ?_
      obtain ⟨hk10, h⟩ := g_if h
      refine hf_X16_8 C0 hW hk10 tf_X16_35 dX16_way_68 ?_
      refine lv_iload C0.hx C0.hb dX16_way_71 (lv_at hl 0 rfl) ?_
      refine lv_ldc C0.hx C0.hb C0.hown (C0.hts _ tq_X16_56) dX16_way_73 ?_
      obtain ⟨hk11, h⟩ := g_if h
      obtain ⟨hn12, h⟩ := g_if h
      refine hs_60 C0 hW hk11 hn12 dX16_way_75 (fun H locs hW => ?_)
      refine h_fwi hW ?_
      refine lv_iload C0.hx C0.hb dX16_way_76 (lv_at hl 8 rfl) ?_
      refine lv_iload C0.hx C0.hb dX16_way_78 (lv_at hl 9 rfl) ?_
      refine lv_isub C0.hx C0.hb dX16_way_80 ?_
      refine lv_iload C0.hx C0.hb dX16_way_81 (lv_at hl 7 rfl) ?_
      refine lv_icmp_gt (tgt := 335) C0.hx C0.hb dX16_way_83 (by decide) (fun hc13 => ?_) (fun hc13 => ?_)
      · replace h := (if_pos hc13).symm.trans h
        refine lv_iinc (v := l8 + (-1 : Int32)) (lv' := [(8, .int (l8 + (-1 : Int32))), (9, .int (((24 : Int32) * l7) + l8)), (0, g_rf G (l0)), (1, g_rf G (l1)), (2, g_rf G (l2)), (3, .int (l3)), (4, .int (l4)), (5, .int (l5)), (6, .int (l6)), (7, .int (l7))]) C0.hx C0.hb dX16_way_335 hl (k := 9) rfl rfl (by decide) rfl (fun ls hl => ?_)
        refine lv_goto (tgt := 52) C0.hx C0.hb dX16_way_338 (by decide) ?_
        have hz := ih _ _ _ _ _ _ _ _ _ _ _ _ _ h hW (lv_sub hl [2, 3, 4, 5, 6, 7, 8, 9, 0] rfl)
        exact hz
      · replace h := (if_neg hc13).symm.trans h
        refine lv_iload C0.hx C0.hb dX16_way_86 (lv_at hl 9 rfl) ?_
        refine lv_iload C0.hx C0.hb dX16_way_88 (lv_at hl 8 rfl) ?_
        refine lv_isub C0.hx C0.hb dX16_way_90 ?_
        refine lv_iload C0.hx C0.hb dX16_way_91 (lv_at hl 7 rfl) ?_
        refine lv_icmp_le (tgt := 99) C0.hx C0.hb dX16_way_93 (by decide) (fun hc14 => ?_) (fun hc14 => ?_)
        · replace h := (if_pos hc14).symm.trans h
          refine lv_iload_n C0.hx C0.hb dX16_way_99 rfl (lv_at hl 4 rfl) ?_
          refine lv_if_eq (tgt := 126) C0.hx C0.hb dX16_way_100 (by decide) (fun hc15 => ?_) (fun hc15 => ?_)
          · replace h := (if_pos hc15).symm.trans h
            refine h_aload_n C0.hx C0.hb dX16_way_126 rfl (lv_at hl 2 rfl) ?_
            refine lv_iload C0.hx C0.hb dX16_way_127 (lv_at hl 8 rfl) ?_
            obtain ⟨hk16, h⟩ := g_if h
            obtain ⟨hn17, h⟩ := g_if h
            refine ha_60 C0 hW hk16 hn17 dX16_way_129 ?_
            refine h_aload_n C0.hx C0.hb dX16_way_130 rfl (lv_at hl 3 rfl) ?_
            refine lv_iload C0.hx C0.hb dX16_way_131 (lv_at hl 9 rfl) ?_
            obtain ⟨hk18, h⟩ := g_if h
            obtain ⟨hn19, h⟩ := g_if h
            refine ha_60 C0 hW hk18 hn19 dX16_way_133 ?_
            obtain ⟨q20, hq20, h⟩ := Option.bind_eq_some_iff.mp h
            refine h_calli hW (h_runS (As := [.int (h_I (h_wi y (h_R y l0 8) (((24 : Int32) * l7) + l8).toNatClampNeg (1000000 : Int32)) l1 l7.toNatClampNeg), .int (h_I (h_wi y (h_R y l0 8) (((24 : Int32) * l7) + l8).toNatClampNeg (1000000 : Int32)) l2 l8.toNatClampNeg)]) (rest := []) C0 hW (c_l_X16_apart hq20) cy_X16_apart (by omega) tm_X16_61 tz_X16_apart rfl hl.1 rfl (Nat.le_of_ble_eq_true rfl) dX16_way_134) (fun H locs hW => ?_)
            have hz := w_l_X16_way_137 (l := l) (e := e) (below := below) C0 kt41 ih _ _ _ _ _ _ _ _ _ _ _ _ _ _ _ h hW (lv_sub hl [1, 2, 3, 4, 5, 6, 7, 8, 9, 0] rfl)
            exact hz
          · replace h := (if_neg hc15).symm.trans h
            refine h_aload_n C0.hx C0.hb dX16_way_103 rfl (lv_at hl 2 rfl) ?_
            refine lv_iload C0.hx C0.hb dX16_way_104 (lv_at hl 8 rfl) ?_
            obtain ⟨q21, hq21, h⟩ := Option.bind_eq_some_iff.mp h
            refine h_calli hW (h_runS (As := [g_rf G (l1), .int (l7)]) (rest := []) C0 hW (c_l_X16_contour hq21) cy_X16_contour (by omega) tm_X16_57 tz_X16_contour rfl hl.1 rfl (Nat.le_of_ble_eq_true rfl) dX16_way_106) (fun H locs hW => ?_)
            refine h_aload_n C0.hx C0.hb dX16_way_109 rfl (lv_at hl 3 rfl) ?_
            refine lv_iload C0.hx C0.hb dX16_way_110 (lv_at hl 9 rfl) ?_
            obtain ⟨q22, hq22, h⟩ := Option.bind_eq_some_iff.mp h
            refine h_calli hW (h_runS (As := [g_rf G (l2), .int (l8)]) (rest := [.int (q21)]) C0 hW (c_l_X16_contour hq22) cy_X16_contour (by omega) tm_X16_57 tz_X16_contour rfl hl.1 rfl (Nat.le_of_ble_eq_true rfl) dX16_way_112) (fun H locs hW => ?_)
            refine lv_icmp_eq (tgt := 122) C0.hx C0.hb dX16_way_115 (by decide) (fun hc23 => ?_) (fun hc23 => ?_)
            · replace h := (if_pos hc23).symm.trans h
              refine lv_iconst (v := (0 : Int32)) C0.hx C0.hb dX16_way_122 (by decide) ?_
              refine lv_goto (tgt := 137) C0.hx C0.hb dX16_way_123 (by decide) ?_
              have hz := w_l_X16_way_137 (l := l) (e := e) (below := below) C0 kt41 ih _ _ _ _ _ _ _ _ _ _ _ _ _ _ _ h hW (lv_sub hl [1, 2, 3, 4, 5, 6, 7, 8, 9, 0] rfl)
              exact hz
            · replace h := (if_neg hc23).symm.trans h
              refine lv_iconst (v := (1 : Int32)) C0.hx C0.hb dX16_way_118 (by decide) ?_
              refine lv_goto (tgt := 137) C0.hx C0.hb dX16_way_119 (by decide) ?_
              have hz := w_l_X16_way_137 (l := l) (e := e) (below := below) C0 kt41 ih _ _ _ _ _ _ _ _ _ _ _ _ _ _ _ h hW (lv_sub hl [1, 2, 3, 4, 5, 6, 7, 8, 9, 0] rfl)
              exact hz
        · replace h := (if_neg hc14).symm.trans h
          refine lv_goto (tgt := 335) C0.hx C0.hb dX16_way_96 (by decide) ?_
          refine lv_iinc (v := l8 + (-1 : Int32)) (lv' := [(8, .int (l8 + (-1 : Int32))), (9, .int (((24 : Int32) * l7) + l8)), (0, g_rf G (l0)), (1, g_rf G (l1)), (2, g_rf G (l2)), (3, .int (l3)), (4, .int (l4)), (5, .int (l5)), (6, .int (l6)), (7, .int (l7))]) C0.hx C0.hb dX16_way_335 hl (k := 9) rfl rfl (by decide) rfl (fun ls hl => ?_)
          refine lv_goto (tgt := 52) C0.hx C0.hb dX16_way_338 (by decide) ?_
          have hz := ih _ _ _ _ _ _ _ _ _ _ _ _ _ h hW (lv_sub hl [2, 3, 4, 5, 6, 7, 8, 9, 0] rfl)
          exact hz
set_option maxRecDepth 100000 in
set_option maxHeartbeats 4000000 in
theorem w_l_X16_way_41 {p : Program} {l : Launch} {e : Env} {s : State} {m : MethodId} {args : Array Value} {below : List Frame} {meth : Method} {c : Code} {G : GL} {o : Nat → Int32} {y0 : MS} {x : CS} {q : Int32 × MS}  (C0 : g_X G (List.range 120) p s m args meth c cX16_way 16 RX16 (Option.some Jvm.ClassFile.FieldType.int))  : ∀ (n : Nat) (l0 : Nat) (l1 : Nat) (l2 : Nat) (l3 : Int32) (l4 : Int32) (l5 : Int32) (l6 : Int32) (l7 : Int32) (y : MS) (H : Heap) (locs : List Loc) (ls : Array Slot), f_l_X16_way_41 n l0 l1 l2 l3 l4 l5 l6 l7 y = some q → h_W G y0 (x, y, o) s.heap H locs → lv_has ls 16 [(0, g_rf G (l0)), (1, g_rf G (l1)), (2, g_rf G (l2)), (3, .int (l3)), (4, .int (l4)), (5, .int (l5)), (6, .int (l6)), (7, .int (l7))] → W p l e (h_lv 2 y0) s m args below meth c H locs (h_nx y - h_nx y0) (h_sl y - h_sl y0) (MQ below (h_Qi G y0 q.1 (x, q.2, o)) args s (h_nx q.2 - h_nx y0) (h_sl q.2 - h_sl y0) (g_A G)) (F0 m 41 ls []) := by
  intro n
  induction n with
  | zero =>
    intro l0 l1 l2 l3 l4 l5 l6 l7 y H locs ls h hW hl
    exact absurd h (by simp [f_l_X16_way_41])
  | succ n ih =>
    intro l0 l1 l2 l3 l4 l5 l6 l7 y H locs ls h hW hl
    unfold f_l_X16_way_41 at h
    refine lv_iload C0.hx C0.hb dX16_way_41 (lv_at hl 7 rfl) ?_
    refine lv_if_lt (tgt := 347) C0.hx C0.hb dX16_way_43 (by decide) (fun hc5 => ?_) (fun hc5 => ?_)
    · replace h := (if_pos hc5).symm.trans h
      refine h_aload_n C0.hx C0.hb dX16_way_347 rfl (lv_at hl 0 rfl) ?_
      obtain ⟨hk6, h⟩ := g_if h
      refine hf_X16_8 C0 hW hk6 tf_X16_35 dX16_way_348 ?_
      refine lv_iconst (v := (0 : Int32)) C0.hx C0.hb dX16_way_351 (by decide) ?_
      obtain ⟨hk7, h⟩ := g_if h
      obtain ⟨hn8, h⟩ := g_if h
      refine ha_60 C0 hW hk7 hn8 dX16_way_352 ?_
      obtain rfl := Option.some.inj h
      exact h_iret C0 hW rfl rfl dX16_way_353
    · replace h := (if_neg hc5).symm.trans h
      refine lv_iload C0.hx C0.hb dX16_way_46 (lv_at hl 5 rfl) ?_
      refine lv_iconst (v := (1 : Int32)) C0.hx C0.hb dX16_way_48 (by decide) ?_
      refine lv_isub C0.hx C0.hb dX16_way_49 ?_
      refine lv_istore (lv' := [(8, .int (l5 - (1 : Int32))), (0, g_rf G (l0)), (1, g_rf G (l1)), (2, g_rf G (l2)), (3, .int (l3)), (4, .int (l4)), (5, .int (l5)), (6, .int (l6)), (7, .int (l7))]) C0.hx C0.hb dX16_way_50 hl (by decide) rfl (fun ls hl => ?_)
      have hz := w_l_X16_way_52 (l := l) (e := e) (below := below) C0 ih g_fuel _ _ _ _ _ _ _ _ _ _ _ _ _ h hW (lv_sub hl [1, 2, 3, 4, 5, 6, 7, 8, 0] rfl)
      exact hz
set_option maxRecDepth 100000 in
set_option maxHeartbeats 4000000 in
theorem c_l_X16_way {l : Launch} {G : GL} {o : Nat → Int32} {x : CS} {y : MS} {t : Nat} {p1 : Nat} {p2 : Nat} {p3 : Int32} {q : Int32 × MS} (h : f_l_X16_way t p1 p2 p3 y = some q) : Met l yX16_way (.code yX16_way cX16_way 16 (Option.some Jvm.ClassFile.FieldType.int) :: gT) (h_lv 2 y) (va_Pc [g_rf G (t), g_rf G (p1), g_rf G (p2), .int (p3)] (h_P G (x, y, o))) (h_Qi G y q.1 (x, q.2, o)) (h_nx q.2 - h_nx y) (h_sl q.2 - h_sl y) (g_A G) := by
  unfold f_l_X16_way at h
  refine h_entry (by decide) (by simp [lg_sl, g_catQ, h_ki, h_kr, h_kn, h_kl, h_kd]) (fun p e s m args below meth c ls C0 hl hW hin_ => ?_)
  have hl : lv_has ls 16 [(0, g_rf G (t)), (1, g_rf G (p1)), (2, g_rf G (p2)), (3, .int (p3))] := by simpa [lv_args, g_catQ, h_ki, h_kr, h_kn, h_kl, h_kd] using hl
  refine h_aload_n C0.hx C0.hb dX16_way_0 rfl (lv_at hl 1 rfl) ?_
  obtain ⟨hk1, h⟩ := g_if h
  refine hl_60 C0 hW hk1 dX16_way_1 ?_
  refine lv_istore (lv' := [(4, .int (nI (h_N y p1))), (0, g_rf G (t)), (1, g_rf G (p1)), (2, g_rf G (p2)), (3, .int (p3))]) C0.hx C0.hb dX16_way_2 hl (by decide) rfl (fun ls hl => ?_)
  refine h_aload_n C0.hx C0.hb dX16_way_4 rfl (lv_at hl 3 rfl) ?_
  obtain ⟨hk2, h⟩ := g_if h
  refine hl_60 C0 hW hk2 dX16_way_5 ?_
  refine lv_istore (lv' := [(5, .int (nI (h_N y p2))), (4, .int (nI (h_N y p1))), (0, g_rf G (t)), (1, g_rf G (p1)), (2, g_rf G (p2)), (3, .int (p3))]) C0.hx C0.hb dX16_way_6 hl (by decide) rfl (fun ls hl => ?_)
  refine h_aload_n C0.hx C0.hb dX16_way_8 rfl (lv_at hl 2 rfl) ?_
  obtain ⟨hk3, h⟩ := g_if h
  refine hf_X16_0 C0 hW hk3 tf_X16_7 dX16_way_9 ?_
  refine lv_iload C0.hx C0.hb dX16_way_12 (lv_at hl 1 rfl) ?_
  refine lv_iload C0.hx C0.hb dX16_way_14 (lv_at hl 0 rfl) ?_
  refine lv_icmp_ge (tgt := 27) C0.hx C0.hb dX16_way_16 (by decide) (fun hc4 => ?_) (fun hc4 => ?_)
  · replace h := (if_pos hc4).symm.trans h
    refine lv_iload C0.hx C0.hb dX16_way_27 (lv_at hl 1 rfl) ?_
    refine lv_iload C0.hx C0.hb dX16_way_29 (lv_at hl 0 rfl) ?_
    refine lv_isub C0.hx C0.hb dX16_way_31 ?_
    refine lv_iadd C0.hx C0.hb dX16_way_32 ?_
    refine lv_istore (lv' := [(6, .int ((h_I y t 0) + ((nI (h_N y p1)) - (nI (h_N y p2))))), (5, .int (nI (h_N y p2))), (4, .int (nI (h_N y p1))), (0, g_rf G (t)), (1, g_rf G (p1)), (2, g_rf G (p2)), (3, .int (p3))]) C0.hx C0.hb dX16_way_33 hl (by decide) rfl (fun ls hl => ?_)
    refine lv_iload C0.hx C0.hb dX16_way_35 (lv_at hl 2 rfl) ?_
    refine lv_iconst (v := (1 : Int32)) C0.hx C0.hb dX16_way_37 (by decide) ?_
    refine lv_isub C0.hx C0.hb dX16_way_38 ?_
    refine lv_istore (lv' := [(7, .int ((nI (h_N y p1)) - (1 : Int32))), (6, .int ((h_I y t 0) + ((nI (h_N y p1)) - (nI (h_N y p2))))), (5, .int (nI (h_N y p2))), (4, .int (nI (h_N y p1))), (0, g_rf G (t)), (1, g_rf G (p1)), (2, g_rf G (p2)), (3, .int (p3))]) C0.hx C0.hb dX16_way_39 hl (by decide) rfl (fun ls hl => ?_)
    have hz := w_l_X16_way_41 (l := l) (e := e) (below := below) C0 g_fuel _ _ _ _ _ _ _ _ _ _ _ _ h hW (lv_sub hl [4, 5, 6, 7, 3, 2, 1, 0] rfl)
    exact hz
  · replace h := (if_neg hc4).symm.trans h
    refine lv_iload C0.hx C0.hb dX16_way_19 (lv_at hl 0 rfl) ?_
    refine lv_iload C0.hx C0.hb dX16_way_21 (lv_at hl 1 rfl) ?_
    refine lv_isub C0.hx C0.hb dX16_way_23 ?_
    refine lv_goto (tgt := 32) C0.hx C0.hb dX16_way_24 (by decide) ?_
    refine lv_iadd C0.hx C0.hb dX16_way_32 ?_
    refine lv_istore (lv' := [(6, .int ((h_I y t 0) + ((nI (h_N y p2)) - (nI (h_N y p1))))), (5, .int (nI (h_N y p2))), (4, .int (nI (h_N y p1))), (0, g_rf G (t)), (1, g_rf G (p1)), (2, g_rf G (p2)), (3, .int (p3))]) C0.hx C0.hb dX16_way_33 hl (by decide) rfl (fun ls hl => ?_)
    refine lv_iload C0.hx C0.hb dX16_way_35 (lv_at hl 2 rfl) ?_
    refine lv_iconst (v := (1 : Int32)) C0.hx C0.hb dX16_way_37 (by decide) ?_
    refine lv_isub C0.hx C0.hb dX16_way_38 ?_
    refine lv_istore (lv' := [(7, .int ((nI (h_N y p1)) - (1 : Int32))), (6, .int ((h_I y t 0) + ((nI (h_N y p2)) - (nI (h_N y p1))))), (5, .int (nI (h_N y p2))), (4, .int (nI (h_N y p1))), (0, g_rf G (t)), (1, g_rf G (p1)), (2, g_rf G (p2)), (3, .int (p3))]) C0.hx C0.hb dX16_way_39 hl (by decide) rfl (fun ls hl => ?_)
    have hz := w_l_X16_way_41 (l := l) (e := e) (below := below) C0 g_fuel _ _ _ _ _ _ _ _ _ _ _ _ h hW (lv_sub hl [4, 5, 6, 7, 3, 2, 1, 0] rfl)
    exact hz
set_option maxRecDepth 100000 in
set_option maxHeartbeats 4000000 in
theorem c_l_X16_far {l : Launch} {G : GL} {o : Nat → Int32} {x : CS} {y : MS} {t : Nat} {p1 : Nat} {p2 : Nat} {q : Int32 × MS} (h : f_l_X16_far t p1 p2 y = some q) : Met l yX16_far (.code yX16_far cX16_far 3 (Option.some Jvm.ClassFile.FieldType.int) :: gT) (h_lv 3 y) (va_Pc [g_rf G (t), g_rf G (p1), g_rf G (p2)] (h_P G (x, y, o))) (h_Qi G y q.1 (x, q.2, o)) (h_nx q.2 - h_nx y) (h_sl q.2 - h_sl y) (g_A G) := by
  unfold f_l_X16_far at h
  refine h_entry (by decide) (by simp [lg_sl, g_catQ, h_ki, h_kr, h_kn, h_kl, h_kd]) (fun p e s m args below meth c ls C0 hl hW hin_ => ?_)
  have hl : lv_has ls 3 [(0, g_rf G (t)), (1, g_rf G (p1)), (2, g_rf G (p2))] := by simpa [lv_args, g_catQ, h_ki, h_kr, h_kn, h_kl, h_kd] using hl
  refine h_aload_n C0.hx C0.hb dX16_far_0 rfl (lv_at hl 0 rfl) ?_
  refine h_aload_n C0.hx C0.hb dX16_far_1 rfl (lv_at hl 1 rfl) ?_
  refine h_aload_n C0.hx C0.hb dX16_far_2 rfl (lv_at hl 2 rfl) ?_
  refine lv_iconst (v := (0 : Int32)) C0.hx C0.hb dX16_far_3 (by decide) ?_
  obtain ⟨hk1, h⟩ := g_if h
  obtain ⟨q2, hq2, h⟩ := Option.bind_eq_some_iff.mp h
  refine h_calli hW (h_runV (As := [g_rf G (p1), g_rf G (p2), .int ((0 : Int32))]) (rest := []) C0 hW (hW.rf (h_ne hk1 (by decide))) (h_recv C0 hW (h_ne hk1 (by decide)) (h_c53 hk1) rfl) (c_l_X16_way hq2) cy_X16_way (by omega) tm_X16_65 ti_X16_way ts_X16_way rfl hl.1 rfl (Nat.le_of_ble_eq_true rfl) dX16_far_4) (fun H locs hW => ?_)
  obtain rfl := Option.some.inj h
  exact h_iret C0 hW rfl rfl dX16_far_7
set_option maxRecDepth 100000 in
set_option maxHeartbeats 4000000 in
theorem w_l_X16_meant_13 {p : Program} {l : Launch} {e : Env} {s : State} {m : MethodId} {args : Array Value} {below : List Frame} {meth : Method} {c : Code} {G : GL} {o : Nat → Int32} {y0 : MS} {x : CS} {q : Int32 × MS}  (C0 : g_X G (List.range 120) p s m args meth c cX16_meant 6 RX16 (Option.some Jvm.ClassFile.FieldType.int))  : ∀ (n : Nat) (l0 : Nat) (l1 : Int32) (l2 : Int32) (l3 : Int32) (l4 : Int32) (y : MS) (H : Heap) (locs : List Loc) (ls : Array Slot), f_l_X16_meant_13 n l0 l1 l2 l3 l4 y = some q → h_W G y0 (x, y, o) s.heap H locs → lv_has ls 6 [(0, g_rf G (l0)), (1, .int (l1)), (2, .int (l2)), (3, .int (l3)), (4, .int (l4))] → W p l e (h_lv 4 y0) s m args below meth c H locs (h_nx y - h_nx y0) (h_sl y - h_sl y0) (MQ below (h_Qi G y0 q.1 (x, q.2, o)) args s (h_nx q.2 - h_nx y0) (h_sl q.2 - h_sl y0) (g_A G)) (F0 m 13 ls []) := by
  intro n
  induction n with
  | zero =>
    intro l0 l1 l2 l3 l4 y H locs ls h hW hl
    exact absurd h (by simp [f_l_X16_meant_13])
  | succ n ih =>
    intro l0 l1 l2 l3 l4 y H locs ls h hW hl
    unfold f_l_X16_meant_13 at h
    refine lv_iload C0.hx C0.hb dX16_meant_13 (lv_at hl 4 rfl) ?_
    refine lv_if_lt (tgt := 87) C0.hx C0.hb dX16_meant_15 (by decide) (fun hc3 => ?_) (fun hc3 => ?_)
    · replace h := (if_pos hc3).symm.trans h
      refine lv_iload_n C0.hx C0.hb dX16_meant_87 rfl (lv_at hl 2 rfl) ?_
      obtain rfl := Option.some.inj h
      exact h_iret C0 hW rfl rfl dX16_meant_88
    · replace h := (if_neg hc3).symm.trans h
      refine h_aload_n C0.hx C0.hb dX16_meant_18 rfl (lv_at hl 0 rfl) ?_
      obtain ⟨hk4, h⟩ := g_if h
      refine hf_X16_4 C0 hW hk4 tf_X16_26 dX16_meant_19 ?_
      obtain ⟨hk5, h⟩ := g_if h
      refine hl_60 C0 hW hk5 dX16_meant_22 ?_
      refine lv_if_eq (tgt := 81) C0.hx C0.hb dX16_meant_23 (by decide) (fun hc6 => ?_) (fun hc6 => ?_)
      · replace h := (if_pos hc6).symm.trans h
        refine lv_iinc (v := l4 + (-1 : Int32)) (lv' := [(4, .int (l4 + (-1 : Int32))), (0, g_rf G (l0)), (1, .int (l1)), (2, .int (l2)), (3, .int (l3))]) C0.hx C0.hb dX16_meant_81 hl (k := 4) rfl rfl (by decide) rfl (fun ls hl => ?_)
        refine lv_goto (tgt := 13) C0.hx C0.hb dX16_meant_84 (by decide) ?_
        have hz := ih _ _ _ _ _ _ _ _ _ h hW (lv_sub hl [1, 2, 3, 4, 0] rfl)
        exact hz
      · replace h := (if_neg hc6).symm.trans h
        refine h_aload_n C0.hx C0.hb dX16_meant_26 rfl (lv_at hl 0 rfl) ?_
        refine hf_X16_3 C0 hW hk4 tf_X16_22 dX16_meant_27 ?_
        refine lv_iload C0.hx C0.hb dX16_meant_30 (lv_at hl 4 rfl) ?_
        obtain ⟨hk7, h⟩ := g_if h
        obtain ⟨hn8, h⟩ := g_if h
        refine ha_62 C0 hW hk7 hn8 dX16_meant_32 ?_
        refine lv_if_ne (tgt := 81) C0.hx C0.hb dX16_meant_33 (by decide) (fun hc9 => ?_) (fun hc9 => ?_)
        · replace h := (if_neg hc9).symm.trans h
          refine lv_iinc (v := l4 + (-1 : Int32)) (lv' := [(4, .int (l4 + (-1 : Int32))), (0, g_rf G (l0)), (1, .int (l1)), (2, .int (l2)), (3, .int (l3))]) C0.hx C0.hb dX16_meant_81 hl (k := 4) rfl rfl (by decide) rfl (fun ls hl => ?_)
          refine lv_goto (tgt := 13) C0.hx C0.hb dX16_meant_84 (by decide) ?_
          have hz := ih _ _ _ _ _ _ _ _ _ h hW (lv_sub hl [1, 2, 3, 4, 0] rfl)
          exact hz
        · replace h := (if_pos hc9).symm.trans h
          refine lv_iload C0.hx C0.hb dX16_meant_36 (lv_at hl 4 rfl) ?_
          refine lv_iload_n C0.hx C0.hb dX16_meant_38 rfl (lv_at hl 1 rfl) ?_
          refine lv_icmp_ne (tgt := 45) C0.hx C0.hb dX16_meant_39 (by decide) (fun hc10 => ?_) (fun hc10 => ?_)
          · replace h := (if_neg hc10).symm.trans h
            refine h_aload_n C0.hx C0.hb dX16_meant_45 rfl (lv_at hl 0 rfl) ?_
            refine h_aload_n C0.hx C0.hb dX16_meant_46 rfl (lv_at hl 0 rfl) ?_
            refine hf_X16_2 C0 hW hk4 tf_X16_18 dX16_meant_47 ?_
            refine lv_iload C0.hx C0.hb dX16_meant_50 (lv_at hl 4 rfl) ?_
            obtain ⟨hk11, h⟩ := g_if h
            obtain ⟨hn12, h⟩ := g_if h
            refine ha_63 C0 hW hk11 hn12 dX16_meant_52 ?_
            refine h_aload_n C0.hx C0.hb dX16_meant_53 rfl (lv_at hl 0 rfl) ?_
            refine hf_X16_4 C0 hW hk4 tf_X16_26 dX16_meant_54 ?_
            obtain ⟨q13, hq13, h⟩ := Option.bind_eq_some_iff.mp h
            refine h_calli hW (h_runV (As := [g_rf G (h_R y (h_R y l0 2) l4.toNatClampNeg), g_rf G (h_R y l0 4)]) (rest := []) C0 hW (hW.rf (h_ne hk4 (by decide))) (h_recv C0 hW (h_ne hk4 (by decide)) (h_c53 hk4) rfl) (c_l_X16_far hq13) cy_X16_far (by omega) tm_X16_69 ti_X16_far ts_X16_far rfl hl.1 rfl (Nat.le_of_ble_eq_true rfl) dX16_meant_57) (fun H locs hW => ?_)
            refine lv_istore (lv' := [(5, .int (q13.1)), (0, g_rf G (l0)), (1, .int (l1)), (2, .int (l2)), (3, .int (l3)), (4, .int (l4))]) C0.hx C0.hb dX16_meant_60 hl (by decide) rfl (fun ls hl => ?_)
            refine lv_iload_n C0.hx C0.hb dX16_meant_62 rfl (lv_at hl 3 rfl) ?_
            refine lv_if_lt (tgt := 75) C0.hx C0.hb dX16_meant_63 (by decide) (fun hc14 => ?_) (fun hc14 => ?_)
            · replace h := (if_pos hc14).symm.trans h
              refine lv_iload C0.hx C0.hb dX16_meant_75 (lv_at hl 5 rfl) ?_
              refine lv_istore_n (lv' := [(2, .int (l4)), (5, .int (q13.1)), (0, g_rf G (l0)), (1, .int (l1)), (3, .int (l3)), (4, .int (l4))]) C0.hx C0.hb dX16_meant_77 rfl hl (by decide) rfl (fun ls hl => ?_)
              refine lv_iload C0.hx C0.hb dX16_meant_78 (lv_at hl 1 rfl) ?_
              refine lv_istore_n (lv' := [(3, .int (q13.1)), (2, .int (l4)), (5, .int (q13.1)), (0, g_rf G (l0)), (1, .int (l1)), (4, .int (l4))]) C0.hx C0.hb dX16_meant_80 rfl hl (by decide) rfl (fun ls hl => ?_)
              refine lv_iinc (v := l4 + (-1 : Int32)) (lv' := [(4, .int (l4 + (-1 : Int32))), (3, .int (q13.1)), (2, .int (l4)), (5, .int (q13.1)), (0, g_rf G (l0)), (1, .int (l1))]) C0.hx C0.hb dX16_meant_81 hl (k := 5) rfl rfl (by decide) rfl (fun ls hl => ?_)
              refine lv_goto (tgt := 13) C0.hx C0.hb dX16_meant_84 (by decide) ?_
              have hz := ih _ _ _ _ _ _ _ _ _ h hW (lv_sub hl [4, 5, 2, 1, 0] rfl)
              exact hz
            · replace h := (if_neg hc14).symm.trans h
              refine lv_iload C0.hx C0.hb dX16_meant_66 (lv_at hl 0 rfl) ?_
              refine lv_iload_n C0.hx C0.hb dX16_meant_68 rfl (lv_at hl 4 rfl) ?_
              refine lv_icmp_le (tgt := 75) C0.hx C0.hb dX16_meant_69 (by decide) (fun hc15 => ?_) (fun hc15 => ?_)
              · replace h := (if_pos hc15).symm.trans h
                refine lv_iload C0.hx C0.hb dX16_meant_75 (lv_at hl 5 rfl) ?_
                refine lv_istore_n (lv' := [(2, .int (l4)), (5, .int (q13.1)), (0, g_rf G (l0)), (1, .int (l1)), (3, .int (l3)), (4, .int (l4))]) C0.hx C0.hb dX16_meant_77 rfl hl (by decide) rfl (fun ls hl => ?_)
                refine lv_iload C0.hx C0.hb dX16_meant_78 (lv_at hl 1 rfl) ?_
                refine lv_istore_n (lv' := [(3, .int (q13.1)), (2, .int (l4)), (5, .int (q13.1)), (0, g_rf G (l0)), (1, .int (l1)), (4, .int (l4))]) C0.hx C0.hb dX16_meant_80 rfl hl (by decide) rfl (fun ls hl => ?_)
                refine lv_iinc (v := l4 + (-1 : Int32)) (lv' := [(4, .int (l4 + (-1 : Int32))), (3, .int (q13.1)), (2, .int (l4)), (5, .int (q13.1)), (0, g_rf G (l0)), (1, .int (l1))]) C0.hx C0.hb dX16_meant_81 hl (k := 5) rfl rfl (by decide) rfl (fun ls hl => ?_)
                refine lv_goto (tgt := 13) C0.hx C0.hb dX16_meant_84 (by decide) ?_
                have hz := ih _ _ _ _ _ _ _ _ _ h hW (lv_sub hl [4, 5, 2, 1, 0] rfl)
                exact hz
              · replace h := (if_neg hc15).symm.trans h
                refine lv_goto (tgt := 81) C0.hx C0.hb dX16_meant_72 (by decide) ?_
                refine lv_iinc (v := l4 + (-1 : Int32)) (lv' := [(4, .int (l4 + (-1 : Int32))), (5, .int (q13.1)), (0, g_rf G (l0)), (1, .int (l1)), (2, .int (l2)), (3, .int (l3))]) C0.hx C0.hb dX16_meant_81 hl (k := 5) rfl rfl (by decide) rfl (fun ls hl => ?_)
                refine lv_goto (tgt := 13) C0.hx C0.hb dX16_meant_84 (by decide) ?_
                have hz := ih _ _ _ _ _ _ _ _ _ h hW (lv_sub hl [2, 3, 4, 5, 0] rfl)
                exact hz
          · replace h := (if_pos hc10).symm.trans h
            refine lv_goto (tgt := 81) C0.hx C0.hb dX16_meant_42 (by decide) ?_
            refine lv_iinc (v := l4 + (-1 : Int32)) (lv' := [(4, .int (l4 + (-1 : Int32))), (0, g_rf G (l0)), (1, .int (l1)), (2, .int (l2)), (3, .int (l3))]) C0.hx C0.hb dX16_meant_81 hl (k := 4) rfl rfl (by decide) rfl (fun ls hl => ?_)
            refine lv_goto (tgt := 13) C0.hx C0.hb dX16_meant_84 (by decide) ?_
            have hz := ih _ _ _ _ _ _ _ _ _ h hW (lv_sub hl [1, 2, 3, 4, 0] rfl)
            exact hz
set_option maxRecDepth 100000 in
set_option maxHeartbeats 4000000 in
theorem c_l_X16_meant {l : Launch} {G : GL} {o : Nat → Int32} {x : CS} {y : MS} {t : Nat} {p1 : Int32} {q : Int32 × MS} (h : f_l_X16_meant t p1 y = some q) : Met l yX16_meant (.code yX16_meant cX16_meant 6 (Option.some Jvm.ClassFile.FieldType.int) :: gT) (h_lv 4 y) (va_Pc [g_rf G (t), .int (p1)] (h_P G (x, y, o))) (h_Qi G y q.1 (x, q.2, o)) (h_nx q.2 - h_nx y) (h_sl q.2 - h_sl y) (g_A G) := by
  unfold f_l_X16_meant at h
  refine h_entry (by decide) (by simp [lg_sl, g_catQ, h_ki, h_kr, h_kn, h_kl, h_kd]) (fun p e s m args below meth c ls C0 hl hW hin_ => ?_)
  have hl : lv_has ls 6 [(0, g_rf G (t)), (1, .int (p1))] := by simpa [lv_args, g_catQ, h_ki, h_kr, h_kn, h_kl, h_kd] using hl
  refine lv_iconst (v := (-1 : Int32)) C0.hx C0.hb dX16_meant_0 (by decide) ?_
  refine lv_istore_n (lv' := [(2, .int ((-1 : Int32))), (0, g_rf G (t)), (1, .int (p1))]) C0.hx C0.hb dX16_meant_1 rfl hl (by decide) rfl (fun ls hl => ?_)
  refine lv_iconst (v := (0 : Int32)) C0.hx C0.hb dX16_meant_2 (by decide) ?_
  refine lv_istore_n (lv' := [(3, .int ((0 : Int32))), (2, .int ((-1 : Int32))), (0, g_rf G (t)), (1, .int (p1))]) C0.hx C0.hb dX16_meant_3 rfl hl (by decide) rfl (fun ls hl => ?_)
  refine h_aload_n C0.hx C0.hb dX16_meant_4 rfl (lv_at hl 2 rfl) ?_
  obtain ⟨hk1, h⟩ := g_if h
  refine hf_X16_2 C0 hW hk1 tf_X16_18 dX16_meant_5 ?_
  obtain ⟨hk2, h⟩ := g_if h
  refine hl_63 C0 hW hk2 dX16_meant_8 ?_
  refine lv_iconst (v := (1 : Int32)) C0.hx C0.hb dX16_meant_9 (by decide) ?_
  refine lv_isub C0.hx C0.hb dX16_meant_10 ?_
  refine lv_istore (lv' := [(4, .int ((nI (h_N y (h_R y t 2))) - (1 : Int32))), (3, .int ((0 : Int32))), (2, .int ((-1 : Int32))), (0, g_rf G (t)), (1, .int (p1))]) C0.hx C0.hb dX16_meant_11 hl (by decide) rfl (fun ls hl => ?_)
  have hz := w_l_X16_meant_13 (l := l) (e := e) (below := below) C0 g_fuel _ _ _ _ _ _ _ _ _ h hW (lv_sub hl [3, 4, 2, 1, 0] rfl)
  exact hz
