set_option maxRecDepth 100000 in
set_option maxHeartbeats 4000000 in
theorem w_X13_begin_24 {p : Program} {l : Launch} {e : Env} {s : State} {m : MethodId} {args : Array Value} {below : List Frame} {meth : Method} {c : Code} {G : GL} {ids : List Nat} {x : CS} {o : Nat → Int32}  {q : MS}   (C0 : g_X G ids p s m args meth c cX13_begin 3 RX13 (Option.none : Option Jvm.ClassFile.FieldType))  : ∀ (n : Nat) (l0 : Nat) (l2 : Int32) (y : MS) (H : Heap) (locs : List Loc) (ls : Array Slot), kd l0 = 14 → f_X13_begin_24 n l0 l2 y = some q → g_W G ids (x, y, o) s.heap H locs → lv_has ls 3 [(0, .ref (g_ad G (l0))), (2, .int (l2))] → W p l e (g_rm 2 0 0) s m args below meth c H locs 0 0 (MQ below (g_Qv G ids (x, q, o)) args s 0 0 (g_A G)) (F0 m 24 ls []) := by
  intro n
  induction n with
  | zero =>
    intro l0 l2 y H locs ls hk_l0 h hW hl
    exact absurd h (by simp [f_X13_begin_24])
  | succ n ih =>
    intro l0 l2 y H locs ls hk_l0 h hW hl
    unfold f_X13_begin_24 at h
    refine lv_iload_n C0.hx C0.hb dX13_begin_24 rfl (lv_at hl 1 rfl) ?_
    refine lv_bipush (v := (8 : Int32)) C0.hx C0.hb dX13_begin_25 (by decide) ?_
    refine lv_icmp_ge (tgt := 43) C0.hx C0.hb dX13_begin_27 (by decide) (fun hc1 => ?_) (fun hc1 => ?_)
    · replace h := (if_pos hc1).symm.trans h
      refine lv_aload_n C0.hx C0.hb dX13_begin_43 rfl (lv_at hl 0 rfl) ?_
      refine gf_X13_0 C0 hW (C0.mem (kl14 hk_l0)) hk_l0 tf_X13_9 dX13_begin_44 ?_
      refine lv_bipush (v := (8 : Int32)) C0.hx C0.hb dX13_begin_47 (by decide) ?_
      refine lv_iconst (v := (0 : Int32)) C0.hx C0.hb dX13_begin_49 (by decide) ?_
      obtain ⟨hb2, h⟩ := g_if h
      refine gs_33 C0 hW (C0.mem (kl33 (ko14_0 hk_l0))) (ko14_0 hk_l0) hb2 dX13_begin_50 (fun H locs hW => ?_)
      refine lv_aload_n C0.hx C0.hb dX13_begin_51 rfl (lv_at hl 0 rfl) ?_
      refine lv_iconst (v := (0 : Int32)) C0.hx C0.hb dX13_begin_52 (by decide) ?_
      refine gp_X13_3 C0 hW (C0.mem (kl14 hk_l0)) hk_l0 tf_X13_29 dX13_begin_53 (fun H locs hW => ?_)
      refine lv_aload_n C0.hx C0.hb dX13_begin_56 rfl (lv_at hl 0 rfl) ?_
      refine lv_iconst (v := (0 : Int32)) C0.hx C0.hb dX13_begin_57 (by decide) ?_
      refine gp_X13_4 C0 hW (C0.mem (kl14 hk_l0)) hk_l0 tf_X13_33 dX13_begin_58 (fun H locs hW => ?_)
      obtain rfl := Option.some.inj h
      exact g_vret C0 hW rfl dX13_begin_61
    · replace h := (if_neg hc1).symm.trans h
      refine lv_aload_n C0.hx C0.hb dX13_begin_30 rfl (lv_at hl 0 rfl) ?_
      refine gf_X13_2 C0 hW (C0.mem (kl14 hk_l0)) hk_l0 tf_X13_18 dX13_begin_31 ?_
      refine lv_iload_n C0.hx C0.hb dX13_begin_34 rfl (lv_at hl 1 rfl) ?_
      refine lv_iconst (v := (0 : Int32)) C0.hx C0.hb dX13_begin_35 (by decide) ?_
      obtain ⟨hb3, h⟩ := g_if h
      refine gs_32 C0 hW (C0.mem (kl32 (ko14_2 hk_l0))) (ko14_2 hk_l0) hb3 dX13_begin_36 (fun H locs hW => ?_)
      refine lv_iinc (v := l2 + (1 : Int32)) (lv' := [(2, .int (l2 + (1 : Int32))), (0, .ref (g_ad G (l0)))]) C0.hx C0.hb dX13_begin_37 hl (k := 1) rfl rfl (by decide) rfl (fun ls hl => ?_)
      refine lv_goto (tgt := 24) C0.hx C0.hb dX13_begin_40 (by decide) ?_
      exact ih _ _ _ _ _ _ hk_l0 h hW (lv_sub hl [1, 0] rfl)
set_option maxRecDepth 100000 in
set_option maxHeartbeats 4000000 in
theorem c_X13_begin {l : Launch} {G : GL} {ids : List Nat} {x : CS} {o : Nat → Int32} {y : MS} {t : Nat} {p1 : Nat} {q : MS}   (hk_t : kd t = 14) (hk_p1 : kd p1 = 13) (h : f_X13_begin t p1 y = some q) : Met l yX13_begin (.code yX13_begin cX13_begin 3 (Option.none : Option Jvm.ClassFile.FieldType) :: gT) (g_rm 2 0 0) (va_Pc [.ref (g_ad G (t)), .ref (g_ad G (p1))] (g_P G ids (x, y, o))) (g_Qv G ids (x, q, o)) 0 0 (g_A G) := by
  unfold f_X13_begin at h
  refine g_entry (by decide) (Nat.le_of_ble_eq_true rfl) (fun p e s m args below meth c ls C0 hl hW _ => ?_)
  have hl : lv_has ls 3 [(0, .ref (g_ad G (t))), (1, .ref (g_ad G (p1)))] := hl
  refine lv_aload_n C0.hx C0.hb dX13_begin_0 rfl (lv_at hl 1 rfl) ?_
  refine gfN_X14_3 C0 hW (C0.mem (kl13 hk_p1)) hk_p1 tfN_X13_21 dX13_begin_1 ?_
  refine lv_aload_n C0.hx C0.hb dX13_begin_4 rfl (lv_at hl 0 rfl) ?_
  refine gf_X13_0 C0 hW (C0.mem (kl14 hk_t)) hk_t tf_X13_9 dX13_begin_5 ?_
  refine g_callv hW (g_runSN (As := [.ref (g_ad G (p1 + 1)), .ref (g_ad G (t + 1))]) (rest := []) C0 hW (c_X14_copy33 (ko13_3 hk_p1) (ko14_0 hk_t)) (g_cwOf (n := 2) tc_X14_copy tn_X14 md_X14_copy (by decide) (by omega)) tmN_X13_24 tz_X14_copy rfl hl.1 rfl (Nat.le_of_ble_eq_true rfl) dX13_begin_8) (fun H locs hW => ?_)
  refine lv_aload_n C0.hx C0.hb dX13_begin_11 rfl (lv_at hl 1 rfl) ?_
  refine gfN_X14_4 C0 hW (C0.mem (kl13 hk_p1)) hk_p1 tfN_X13_28 dX13_begin_12 ?_
  refine lv_aload_n C0.hx C0.hb dX13_begin_15 rfl (lv_at hl 0 rfl) ?_
  refine gf_X13_1 C0 hW (C0.mem (kl14 hk_t)) hk_t tf_X13_15 dX13_begin_16 ?_
  refine g_callv hW (g_runSN (As := [.ref (g_ad G (p1 + 2)), .ref (g_ad G (t + 2))]) (rest := []) C0 hW (c_X14_copy34 (ko13_4 hk_p1) (ko14_1 hk_t)) (g_cwOf (n := 2) tc_X14_copy tn_X14 md_X14_copy (by decide) (by omega)) tmN_X13_24 tz_X14_copy rfl hl.1 rfl (Nat.le_of_ble_eq_true rfl) dX13_begin_19) (fun H locs hW => ?_)
  refine lv_iconst (v := (0 : Int32)) C0.hx C0.hb dX13_begin_22 (by decide) ?_
  refine lv_istore_n (lv' := [(2, .int ((0 : Int32))), (0, .ref (g_ad G (t))), (1, .ref (g_ad G (p1)))]) C0.hx C0.hb dX13_begin_23 rfl hl (by decide) rfl (fun ls hl => ?_)
  exact w_X13_begin_24 C0 g_fuel _ _ _ _ _ _ hk_t h hW (lv_sub hl [1, 0] rfl)
set_option maxRecDepth 100000 in
set_option maxHeartbeats 4000000 in
theorem c_X13_become {l : Launch} {G : GL} {ids : List Nat} {x : CS} {o : Nat → Int32} {y : MS} {t : Nat} {p1 : Nat} {q : MS}   (hk_t : kd t = 14) (hk_p1 : kd p1 = 14) (h : f_X13_become t p1 y = some q) : Met l yX13_become (.code yX13_become cX13_become 2 (Option.none : Option Jvm.ClassFile.FieldType) :: gT) (g_rm 2 0 0) (va_Pc [.ref (g_ad G (t)), .ref (g_ad G (p1))] (g_P G ids (x, y, o))) (g_Qv G ids (x, q, o)) 0 0 (g_A G) := by
  unfold f_X13_become at h
  refine g_entry (by decide) (Nat.le_of_ble_eq_true rfl) (fun p e s m args below meth c ls C0 hl hW _ => ?_)
  have hl : lv_has ls 2 [(0, .ref (g_ad G (t))), (1, .ref (g_ad G (p1)))] := hl
  refine lv_aload_n C0.hx C0.hb dX13_become_0 rfl (lv_at hl 1 rfl) ?_
  refine gf_X13_0 C0 hW (C0.mem (kl14 hk_p1)) hk_p1 tf_X13_9 dX13_become_1 ?_
  refine lv_aload_n C0.hx C0.hb dX13_become_4 rfl (lv_at hl 0 rfl) ?_
  refine gf_X13_0 C0 hW (C0.mem (kl14 hk_t)) hk_t tf_X13_9 dX13_become_5 ?_
  refine g_callv hW (g_runSN (As := [.ref (g_ad G (p1 + 1)), .ref (g_ad G (t + 1))]) (rest := []) C0 hW (c_X14_copy33 (ko14_0 hk_p1) (ko14_0 hk_t)) (g_cwOf (n := 2) tc_X14_copy tn_X14 md_X14_copy (by decide) (by omega)) tmN_X13_24 tz_X14_copy rfl hl.1 rfl (Nat.le_of_ble_eq_true rfl) dX13_become_8) (fun H locs hW => ?_)
  refine lv_aload_n C0.hx C0.hb dX13_become_11 rfl (lv_at hl 1 rfl) ?_
  refine gf_X13_1 C0 hW (C0.mem (kl14 hk_p1)) hk_p1 tf_X13_15 dX13_become_12 ?_
  refine lv_aload_n C0.hx C0.hb dX13_become_15 rfl (lv_at hl 0 rfl) ?_
  refine gf_X13_1 C0 hW (C0.mem (kl14 hk_t)) hk_t tf_X13_15 dX13_become_16 ?_
  refine g_callv hW (g_runSN (As := [.ref (g_ad G (p1 + 2)), .ref (g_ad G (t + 2))]) (rest := []) C0 hW (c_X14_copy34 (ko14_1 hk_p1) (ko14_1 hk_t)) (g_cwOf (n := 2) tc_X14_copy tn_X14 md_X14_copy (by decide) (by omega)) tmN_X13_24 tz_X14_copy rfl hl.1 rfl (Nat.le_of_ble_eq_true rfl) dX13_become_19) (fun H locs hW => ?_)
  refine lv_aload_n C0.hx C0.hb dX13_become_22 rfl (lv_at hl 1 rfl) ?_
  refine gf_X13_2 C0 hW (C0.mem (kl14 hk_p1)) hk_p1 tf_X13_18 dX13_become_23 ?_
  refine lv_aload_n C0.hx C0.hb dX13_become_26 rfl (lv_at hl 0 rfl) ?_
  refine gf_X13_2 C0 hW (C0.mem (kl14 hk_t)) hk_t tf_X13_18 dX13_become_27 ?_
  refine g_callv hW (g_runSN (As := [.ref (g_ad G (p1 + 3)), .ref (g_ad G (t + 3))]) (rest := []) C0 hW (c_X14_copy32 (ko14_2 hk_p1) (ko14_2 hk_t)) (g_cwOf (n := 2) tc_X14_copy tn_X14 md_X14_copy (by decide) (by omega)) tmN_X13_24 tz_X14_copy rfl hl.1 rfl (Nat.le_of_ble_eq_true rfl) dX13_become_30) (fun H locs hW => ?_)
  refine lv_aload_n C0.hx C0.hb dX13_become_33 rfl (lv_at hl 0 rfl) ?_
  refine lv_aload_n C0.hx C0.hb dX13_become_34 rfl (lv_at hl 1 rfl) ?_
  refine gf_X13_3 C0 hW (C0.mem (kl14 hk_p1)) hk_p1 tf_X13_29 dX13_become_35 ?_
  refine gp_X13_3 C0 hW (C0.mem (kl14 hk_t)) hk_t tf_X13_29 dX13_become_38 (fun H locs hW => ?_)
  refine lv_aload_n C0.hx C0.hb dX13_become_41 rfl (lv_at hl 0 rfl) ?_
  refine lv_aload_n C0.hx C0.hb dX13_become_42 rfl (lv_at hl 1 rfl) ?_
  refine gf_X13_4 C0 hW (C0.mem (kl14 hk_p1)) hk_p1 tf_X13_33 dX13_become_43 ?_
  refine gp_X13_4 C0 hW (C0.mem (kl14 hk_t)) hk_t tf_X13_33 dX13_become_46 (fun H locs hW => ?_)
  obtain rfl := Option.some.inj h
  exact g_vret C0 hW rfl dX13_become_49
set_option maxRecDepth 100000 in
set_option maxHeartbeats 4000000 in
theorem c_X14_begin {l : Launch} {G : GL} {ids : List Nat} {x : CS} {o : Nat → Int32} {y : MS} {t : Nat} {q : MS}   (hk_t : kd t = 13) (h : f_X14_begin t y = some q) : Met l yX14_begin (.code yX14_begin cX14_begin 1 (Option.none : Option Jvm.ClassFile.FieldType) :: gT) (g_rm 0 0 0) (va_Pc [.ref (g_ad G (t))] (g_P G ids (x, y, o))) (g_Qv G ids (x, q, o)) 0 0 (g_A G) := by
  unfold f_X14_begin at h
  refine g_entry (by decide) (Nat.le_of_ble_eq_true rfl) (fun p e s m args below meth c ls C0 hl hW _ => ?_)
  have hl : lv_has ls 1 [(0, .ref (g_ad G (t)))] := hl
  refine lv_aload_n C0.hx C0.hb dX14_begin_0 rfl (lv_at hl 0 rfl) ?_
  refine lv_iconst (v := (4 : Int32)) C0.hx C0.hb dX14_begin_1 (by decide) ?_
  refine gp_X14_0 C0 hW (C0.mem (kl13 hk_t)) hk_t tf_X14_9 dX14_begin_2 (fun H locs hW => ?_)
  refine lv_aload_n C0.hx C0.hb dX14_begin_5 rfl (lv_at hl 0 rfl) ?_
  refine lv_bipush (v := (6 : Int32)) C0.hx C0.hb dX14_begin_6 (by decide) ?_
  refine gp_X14_1 C0 hW (C0.mem (kl13 hk_t)) hk_t tf_X14_15 dX14_begin_8 (fun H locs hW => ?_)
  refine lv_aload_n C0.hx C0.hb dX14_begin_11 rfl (lv_at hl 0 rfl) ?_
  refine lv_iconst (v := (0 : Int32)) C0.hx C0.hb dX14_begin_12 (by decide) ?_
  refine gp_X14_2 C0 hW (C0.mem (kl13 hk_t)) hk_t tf_X14_52 dX14_begin_13 (fun H locs hW => ?_)
  refine lv_aload_n C0.hx C0.hb dX14_begin_16 rfl (lv_at hl 0 rfl) ?_
  refine lv_iconst (v := (0 : Int32)) C0.hx C0.hb dX14_begin_17 (by decide) ?_
  refine gp_X14_5 C0 hW (C0.mem (kl13 hk_t)) hk_t tf_X14_55 dX14_begin_18 (fun H locs hW => ?_)
  refine lv_aload_n C0.hx C0.hb dX14_begin_21 rfl (lv_at hl 0 rfl) ?_
  refine lv_iconst (v := (0 : Int32)) C0.hx C0.hb dX14_begin_22 (by decide) ?_
  refine gp_X14_12 C0 hW (C0.mem (kl13 hk_t)) hk_t tf_X14_58 dX14_begin_23 (fun H locs hW => ?_)
  obtain rfl := Option.some.inj h
  exact g_vret C0 hW rfl dX14_begin_26
set_option maxRecDepth 100000 in
set_option maxHeartbeats 4000000 in
theorem c_X14_become {l : Launch} {G : GL} {ids : List Nat} {x : CS} {o : Nat → Int32} {y : MS} {t : Nat} {p1 : Nat} {q : MS}   (hk_t : kd t = 13) (hk_p1 : kd p1 = 13) (h : f_X14_become t p1 y = some q) : Met l yX14_become (.code yX14_become cX14_become 2 (Option.none : Option Jvm.ClassFile.FieldType) :: gT) (g_rm 2 0 0) (va_Pc [.ref (g_ad G (t)), .ref (g_ad G (p1))] (g_P G ids (x, y, o))) (g_Qv G ids (x, q, o)) 0 0 (g_A G) := by
  unfold f_X14_become at h
  refine g_entry (by decide) (Nat.le_of_ble_eq_true rfl) (fun p e s m args below meth c ls C0 hl hW _ => ?_)
  have hl : lv_has ls 2 [(0, .ref (g_ad G (t))), (1, .ref (g_ad G (p1)))] := hl
  refine lv_aload_n C0.hx C0.hb dX14_become_0 rfl (lv_at hl 0 rfl) ?_
  refine lv_aload_n C0.hx C0.hb dX14_become_1 rfl (lv_at hl 1 rfl) ?_
  refine gf_X14_0 C0 hW (C0.mem (kl13 hk_p1)) hk_p1 tf_X14_9 dX14_become_2 ?_
  refine gp_X14_0 C0 hW (C0.mem (kl13 hk_t)) hk_t tf_X14_9 dX14_become_5 (fun H locs hW => ?_)
  refine lv_aload_n C0.hx C0.hb dX14_become_8 rfl (lv_at hl 0 rfl) ?_
  refine lv_aload_n C0.hx C0.hb dX14_become_9 rfl (lv_at hl 1 rfl) ?_
  refine gf_X14_1 C0 hW (C0.mem (kl13 hk_p1)) hk_p1 tf_X14_15 dX14_become_10 ?_
  refine gp_X14_1 C0 hW (C0.mem (kl13 hk_t)) hk_t tf_X14_15 dX14_become_13 (fun H locs hW => ?_)
  refine lv_aload_n C0.hx C0.hb dX14_become_16 rfl (lv_at hl 0 rfl) ?_
  refine lv_aload_n C0.hx C0.hb dX14_become_17 rfl (lv_at hl 1 rfl) ?_
  refine gf_X14_2 C0 hW (C0.mem (kl13 hk_p1)) hk_p1 tf_X14_52 dX14_become_18 ?_
  refine gp_X14_2 C0 hW (C0.mem (kl13 hk_t)) hk_t tf_X14_52 dX14_become_21 (fun H locs hW => ?_)
  refine lv_aload_n C0.hx C0.hb dX14_become_24 rfl (lv_at hl 0 rfl) ?_
  refine lv_aload_n C0.hx C0.hb dX14_become_25 rfl (lv_at hl 1 rfl) ?_
  refine gf_X14_5 C0 hW (C0.mem (kl13 hk_p1)) hk_p1 tf_X14_55 dX14_become_26 ?_
  refine gp_X14_5 C0 hW (C0.mem (kl13 hk_t)) hk_t tf_X14_55 dX14_become_29 (fun H locs hW => ?_)
  refine lv_aload_n C0.hx C0.hb dX14_become_32 rfl (lv_at hl 0 rfl) ?_
  refine lv_aload_n C0.hx C0.hb dX14_become_33 rfl (lv_at hl 1 rfl) ?_
  refine gf_X14_12 C0 hW (C0.mem (kl13 hk_p1)) hk_p1 tf_X14_58 dX14_become_34 ?_
  refine gp_X14_12 C0 hW (C0.mem (kl13 hk_t)) hk_t tf_X14_58 dX14_become_37 (fun H locs hW => ?_)
  refine lv_aload_n C0.hx C0.hb dX14_become_40 rfl (lv_at hl 1 rfl) ?_
  refine gf_X14_3 C0 hW (C0.mem (kl13 hk_p1)) hk_p1 tf_X14_18 dX14_become_41 ?_
  refine lv_aload_n C0.hx C0.hb dX14_become_44 rfl (lv_at hl 0 rfl) ?_
  refine gf_X14_3 C0 hW (C0.mem (kl13 hk_t)) hk_t tf_X14_18 dX14_become_45 ?_
  refine g_callv hW (g_runS (As := [.ref (g_ad G (p1 + 1)), .ref (g_ad G (t + 1))]) (rest := []) C0 hW (c_X14_copy33 (ko13_3 hk_p1) (ko13_3 hk_t)) (g_cwOf (n := 2) tc_X14_copy tn_X14 md_X14_copy (by decide) (by omega)) tm_X14_67 tz_X14_copy rfl hl.1 rfl (Nat.le_of_ble_eq_true rfl) dX14_become_48) (fun H locs hW => ?_)
  refine lv_aload_n C0.hx C0.hb dX14_become_51 rfl (lv_at hl 1 rfl) ?_
  refine gf_X14_4 C0 hW (C0.mem (kl13 hk_p1)) hk_p1 tf_X14_22 dX14_become_52 ?_
  refine lv_aload_n C0.hx C0.hb dX14_become_55 rfl (lv_at hl 0 rfl) ?_
  refine gf_X14_4 C0 hW (C0.mem (kl13 hk_t)) hk_t tf_X14_22 dX14_become_56 ?_
  refine g_callv hW (g_runS (As := [.ref (g_ad G (p1 + 2)), .ref (g_ad G (t + 2))]) (rest := []) C0 hW (c_X14_copy34 (ko13_4 hk_p1) (ko13_4 hk_t)) (g_cwOf (n := 2) tc_X14_copy tn_X14 md_X14_copy (by decide) (by omega)) tm_X14_67 tz_X14_copy rfl hl.1 rfl (Nat.le_of_ble_eq_true rfl) dX14_become_59) (fun H locs hW => ?_)
  refine lv_aload_n C0.hx C0.hb dX14_become_62 rfl (lv_at hl 1 rfl) ?_
  refine gf_X14_6 C0 hW (C0.mem (kl13 hk_p1)) hk_p1 tf_X14_25 dX14_become_63 ?_
  refine lv_aload_n C0.hx C0.hb dX14_become_66 rfl (lv_at hl 0 rfl) ?_
  refine gf_X14_6 C0 hW (C0.mem (kl13 hk_t)) hk_t tf_X14_25 dX14_become_67 ?_
  refine g_callv hW (g_runS (As := [.ref (g_ad G (p1 + 3)), .ref (g_ad G (t + 3))]) (rest := []) C0 hW (c_X14_copy35 (ko13_6 hk_p1) (ko13_6 hk_t)) (g_cwOf (n := 2) tc_X14_copy tn_X14 md_X14_copy (by decide) (by omega)) tm_X14_67 tz_X14_copy rfl hl.1 rfl (Nat.le_of_ble_eq_true rfl) dX14_become_70) (fun H locs hW => ?_)
  refine lv_aload_n C0.hx C0.hb dX14_become_73 rfl (lv_at hl 1 rfl) ?_
  refine gf_X14_7 C0 hW (C0.mem (kl13 hk_p1)) hk_p1 tf_X14_28 dX14_become_74 ?_
  refine lv_aload_n C0.hx C0.hb dX14_become_77 rfl (lv_at hl 0 rfl) ?_
  refine gf_X14_7 C0 hW (C0.mem (kl13 hk_t)) hk_t tf_X14_28 dX14_become_78 ?_
  refine g_callv hW (g_runS (As := [.ref (g_ad G (p1 + 4)), .ref (g_ad G (t + 4))]) (rest := []) C0 hW (c_X14_copy35 (ko13_7 hk_p1) (ko13_7 hk_t)) (g_cwOf (n := 2) tc_X14_copy tn_X14 md_X14_copy (by decide) (by omega)) tm_X14_67 tz_X14_copy rfl hl.1 rfl (Nat.le_of_ble_eq_true rfl) dX14_become_81) (fun H locs hW => ?_)
  refine lv_aload_n C0.hx C0.hb dX14_become_84 rfl (lv_at hl 1 rfl) ?_
  refine gf_X14_8 C0 hW (C0.mem (kl13 hk_p1)) hk_p1 tf_X14_31 dX14_become_85 ?_
  refine lv_aload_n C0.hx C0.hb dX14_become_88 rfl (lv_at hl 0 rfl) ?_
  refine gf_X14_8 C0 hW (C0.mem (kl13 hk_t)) hk_t tf_X14_31 dX14_become_89 ?_
  refine g_callv hW (g_runS (As := [.ref (g_ad G (p1 + 5)), .ref (g_ad G (t + 5))]) (rest := []) C0 hW (c_X14_copy35 (ko13_8 hk_p1) (ko13_8 hk_t)) (g_cwOf (n := 2) tc_X14_copy tn_X14 md_X14_copy (by decide) (by omega)) tm_X14_67 tz_X14_copy rfl hl.1 rfl (Nat.le_of_ble_eq_true rfl) dX14_become_92) (fun H locs hW => ?_)
  refine lv_aload_n C0.hx C0.hb dX14_become_95 rfl (lv_at hl 1 rfl) ?_
  refine gf_X14_9 C0 hW (C0.mem (kl13 hk_p1)) hk_p1 tf_X14_34 dX14_become_96 ?_
  refine lv_aload_n C0.hx C0.hb dX14_become_99 rfl (lv_at hl 0 rfl) ?_
  refine gf_X14_9 C0 hW (C0.mem (kl13 hk_t)) hk_t tf_X14_34 dX14_become_100 ?_
  refine g_callv hW (g_runS (As := [.ref (g_ad G (p1 + 6)), .ref (g_ad G (t + 6))]) (rest := []) C0 hW (c_X14_copy35 (ko13_9 hk_p1) (ko13_9 hk_t)) (g_cwOf (n := 2) tc_X14_copy tn_X14 md_X14_copy (by decide) (by omega)) tm_X14_67 tz_X14_copy rfl hl.1 rfl (Nat.le_of_ble_eq_true rfl) dX14_become_103) (fun H locs hW => ?_)
  refine lv_aload_n C0.hx C0.hb dX14_become_106 rfl (lv_at hl 1 rfl) ?_
  refine gf_X14_10 C0 hW (C0.mem (kl13 hk_p1)) hk_p1 tf_X14_37 dX14_become_107 ?_
  refine lv_aload_n C0.hx C0.hb dX14_become_110 rfl (lv_at hl 0 rfl) ?_
  refine gf_X14_10 C0 hW (C0.mem (kl13 hk_t)) hk_t tf_X14_37 dX14_become_111 ?_
  refine g_callv hW (g_runS (As := [.ref (g_ad G (p1 + 7)), .ref (g_ad G (t + 7))]) (rest := []) C0 hW (c_X14_copy35 (ko13_10 hk_p1) (ko13_10 hk_t)) (g_cwOf (n := 2) tc_X14_copy tn_X14 md_X14_copy (by decide) (by omega)) tm_X14_67 tz_X14_copy rfl hl.1 rfl (Nat.le_of_ble_eq_true rfl) dX14_become_114) (fun H locs hW => ?_)
  refine lv_aload_n C0.hx C0.hb dX14_become_117 rfl (lv_at hl 1 rfl) ?_
  refine gf_X14_11 C0 hW (C0.mem (kl13 hk_p1)) hk_p1 tf_X14_40 dX14_become_118 ?_
  refine lv_aload_n C0.hx C0.hb dX14_become_121 rfl (lv_at hl 0 rfl) ?_
  refine gf_X14_11 C0 hW (C0.mem (kl13 hk_t)) hk_t tf_X14_40 dX14_become_122 ?_
  refine g_callv hW (g_runS (As := [.ref (g_ad G (p1 + 8)), .ref (g_ad G (t + 8))]) (rest := []) C0 hW (c_X14_copy35 (ko13_11 hk_p1) (ko13_11 hk_t)) (g_cwOf (n := 2) tc_X14_copy tn_X14 md_X14_copy (by decide) (by omega)) tm_X14_67 tz_X14_copy rfl hl.1 rfl (Nat.le_of_ble_eq_true rfl) dX14_become_125) (fun H locs hW => ?_)
  refine lv_aload_n C0.hx C0.hb dX14_become_128 rfl (lv_at hl 1 rfl) ?_
  refine gf_X14_13 C0 hW (C0.mem (kl13 hk_p1)) hk_p1 tf_X14_43 dX14_become_129 ?_
  refine lv_aload_n C0.hx C0.hb dX14_become_132 rfl (lv_at hl 0 rfl) ?_
  refine gf_X14_13 C0 hW (C0.mem (kl13 hk_t)) hk_t tf_X14_43 dX14_become_133 ?_
  refine g_callv hW (g_runS (As := [.ref (g_ad G (p1 + 9)), .ref (g_ad G (t + 9))]) (rest := []) C0 hW (c_X14_copy36 (ko13_13 hk_p1) (ko13_13 hk_t)) (g_cwOf (n := 2) tc_X14_copy tn_X14 md_X14_copy (by decide) (by omega)) tm_X14_67 tz_X14_copy rfl hl.1 rfl (Nat.le_of_ble_eq_true rfl) dX14_become_136) (fun H locs hW => ?_)
  refine lv_aload_n C0.hx C0.hb dX14_become_139 rfl (lv_at hl 1 rfl) ?_
  refine gf_X14_14 C0 hW (C0.mem (kl13 hk_p1)) hk_p1 tf_X14_46 dX14_become_140 ?_
  refine lv_aload_n C0.hx C0.hb dX14_become_143 rfl (lv_at hl 0 rfl) ?_
  refine gf_X14_14 C0 hW (C0.mem (kl13 hk_t)) hk_t tf_X14_46 dX14_become_144 ?_
  refine g_callv hW (g_runS (As := [.ref (g_ad G (p1 + 10)), .ref (g_ad G (t + 10))]) (rest := []) C0 hW (c_X14_copy36 (ko13_14 hk_p1) (ko13_14 hk_t)) (g_cwOf (n := 2) tc_X14_copy tn_X14 md_X14_copy (by decide) (by omega)) tm_X14_67 tz_X14_copy rfl hl.1 rfl (Nat.le_of_ble_eq_true rfl) dX14_become_147) (fun H locs hW => ?_)
  refine lv_aload_n C0.hx C0.hb dX14_become_150 rfl (lv_at hl 1 rfl) ?_
  refine gf_X14_15 C0 hW (C0.mem (kl13 hk_p1)) hk_p1 tf_X14_49 dX14_become_151 ?_
  refine lv_aload_n C0.hx C0.hb dX14_become_154 rfl (lv_at hl 0 rfl) ?_
  refine gf_X14_15 C0 hW (C0.mem (kl13 hk_t)) hk_t tf_X14_49 dX14_become_155 ?_
  refine g_callv hW (g_runS (As := [.ref (g_ad G (p1 + 11)), .ref (g_ad G (t + 11))]) (rest := []) C0 hW (c_X14_copy36 (ko13_15 hk_p1) (ko13_15 hk_t)) (g_cwOf (n := 2) tc_X14_copy tn_X14 md_X14_copy (by decide) (by omega)) tm_X14_67 tz_X14_copy rfl hl.1 rfl (Nat.le_of_ble_eq_true rfl) dX14_become_158) (fun H locs hW => ?_)
  obtain rfl := Option.some.inj h
  exact g_vret C0 hW rfl dX14_become_161
set_option maxRecDepth 100000 in
set_option maxHeartbeats 4000000 in
theorem c_X15_thrown {l : Launch} {G : GL} {ids : List Nat} {x : CS} {o : Nat → Int32} {y : MS}  {q : Int32}    (h : f_X15_thrown y = some q) : Met l yX15_thrown (.code yX15_thrown cX15_thrown 1 (Option.some Jvm.ClassFile.FieldType.int) :: gT) (g_rm 0 0 0) (va_Pc [.ref (g_ad G (120))] (g_P G ids (x, y, o))) (g_Qi G ids q (x, y, o)) 0 0 (g_A G) := by
  unfold f_X15_thrown at h
  refine g_entry (by decide) (Nat.le_of_ble_eq_true rfl) (fun p e s m args below meth c ls C0 hl hW _ => ?_)
  have hl : lv_has ls 1 [(0, .ref (g_ad G (120)))] := hl
  refine lv_aload_n C0.hx C0.hb dX15_thrown_0 rfl (lv_at hl 0 rfl) ?_
  refine gf_X15_0 C0 hW (C0.mem (i := 120) (Nat.le_of_ble_eq_true rfl)) k_120 tf_X15_62 dX15_thrown_1 ?_
  obtain rfl := Option.some.inj h
  exact g_iret C0 hW rfl rfl rfl dX15_thrown_4
set_option maxRecDepth 100000 in
set_option maxHeartbeats 4000000 in
theorem c_X15_no {l : Launch} {G : GL} {ids : List Nat} {x : CS} {o : Nat → Int32} {y : MS} {p1 : Int32} {q : Int32 × MS}    (h : f_X15_no p1 y = some q) : Met l yX15_no (.code yX15_no cX15_no 2 (Option.some Jvm.ClassFile.FieldType.int) :: gT) (g_rm 0 0 0) (va_Pc [.ref (g_ad G (120)), .int (p1)] (g_P G ids (x, y, o))) (g_Qi G ids q.1 (x, q.2, o)) 0 0 (g_A G) := by
  unfold f_X15_no at h
  refine g_entry (by decide) (Nat.le_of_ble_eq_true rfl) (fun p e s m args below meth c ls C0 hl hW _ => ?_)
  have hl : lv_has ls 2 [(0, .ref (g_ad G (120))), (1, .int (p1))] := hl
  refine lv_aload_n C0.hx C0.hb dX15_no_0 rfl (lv_at hl 0 rfl) ?_
  refine lv_iload_n C0.hx C0.hb dX15_no_1 rfl (lv_at hl 1 rfl) ?_
  refine gp_X15_0 C0 hW (C0.mem (i := 120) (Nat.le_of_ble_eq_true rfl)) k_120 tf_X15_62 dX15_no_2 (fun H locs hW => ?_)
  refine lv_iconst (v := (0 : Int32)) C0.hx C0.hb dX15_no_5 (by decide) ?_
  obtain rfl := Option.some.inj h
  exact g_iret C0 hW rfl rfl rfl dX15_no_6
set_option maxRecDepth 100000 in
set_option maxHeartbeats 4000000 in
theorem c_X15_isNot {l : Launch} {G : GL} {ids : List Nat} {x : CS} {o : Nat → Int32} {y : MS} {p1 : Int32} {q : Int32 × MS}    (h : f_X15_isNot p1 y = some q) : Met l yX15_isNot (.code yX15_isNot cX15_isNot 2 (Option.some Jvm.ClassFile.FieldType.boolean) :: gT) (g_rm 0 0 0) (va_Pc [.ref (g_ad G (120)), .int (p1)] (g_P G ids (x, y, o))) (g_Qi G ids q.1 (x, q.2, o)) 0 0 (g_A G) := by
  unfold f_X15_isNot at h
  refine g_entry (by decide) (Nat.le_of_ble_eq_true rfl) (fun p e s m args below meth c ls C0 hl hW _ => ?_)
  have hl : lv_has ls 2 [(0, .ref (g_ad G (120))), (1, .int (p1))] := hl
  refine lv_aload_n C0.hx C0.hb dX15_isNot_0 rfl (lv_at hl 0 rfl) ?_
  refine lv_iload_n C0.hx C0.hb dX15_isNot_1 rfl (lv_at hl 1 rfl) ?_
  refine gp_X15_0 C0 hW (C0.mem (i := 120) (Nat.le_of_ble_eq_true rfl)) k_120 tf_X15_62 dX15_isNot_2 (fun H locs hW => ?_)
  refine lv_iconst (v := (0 : Int32)) C0.hx C0.hb dX15_isNot_5 (by decide) ?_
  obtain rfl := Option.some.inj h
  exact g_iret C0 hW rfl (g_bool (Or.inl rfl)).1 rfl dX15_isNot_6
set_option maxRecDepth 100000 in
set_option maxHeartbeats 4000000 in
theorem c_X15_ok {l : Launch} {G : GL} {ids : List Nat} {x : CS} {o : Nat → Int32} {y : MS} {p1 : Int32} {q : Int32 × MS}    (h : f_X15_ok p1 y = some q) : Met l yX15_ok (.code yX15_ok cX15_ok 2 (Option.some Jvm.ClassFile.FieldType.int) :: gT) (g_rm 0 0 0) (va_Pc [.ref (g_ad G (120)), .int (p1)] (g_P G ids (x, y, o))) (g_Qi G ids q.1 (x, q.2, o)) 0 0 (g_A G) := by
  unfold f_X15_ok at h
  refine g_entry (by decide) (Nat.le_of_ble_eq_true rfl) (fun p e s m args below meth c ls C0 hl hW _ => ?_)
  have hl : lv_has ls 2 [(0, .ref (g_ad G (120))), (1, .int (p1))] := hl
  refine lv_aload_n C0.hx C0.hb dX15_ok_0 rfl (lv_at hl 0 rfl) ?_
  refine lv_iconst (v := (0 : Int32)) C0.hx C0.hb dX15_ok_1 (by decide) ?_
  refine gp_X15_0 C0 hW (C0.mem (i := 120) (Nat.le_of_ble_eq_true rfl)) k_120 tf_X15_62 dX15_ok_2 (fun H locs hW => ?_)
  refine lv_iload_n C0.hx C0.hb dX15_ok_5 rfl (lv_at hl 1 rfl) ?_
  obtain rfl := Option.some.inj h
  exact g_iret C0 hW rfl rfl rfl dX15_ok_6
set_option maxRecDepth 100000 in
set_option maxHeartbeats 4000000 in
theorem c_X15_isIn {l : Launch} {G : GL} {ids : List Nat} {x : CS} {o : Nat → Int32} {y : MS} {p1 : Int32} {p2 : Int32} {p3 : Int32} {q : Int32}    (h : f_X15_isIn p1 p2 p3 = some q) : Met l yX15_isIn (.code yX15_isIn cX15_isIn 3 (Option.some Jvm.ClassFile.FieldType.boolean) :: gT) (g_rm 0 0 0) (va_Pc [.int (p1), .int (p2), .int (p3)] (g_P G ids (x, y, o))) (g_Qi G ids q (x, y, o)) 0 0 (g_A G) := by
  unfold f_X15_isIn at h
  refine g_entry (by decide) (Nat.le_of_ble_eq_true rfl) (fun p e s m args below meth c ls C0 hl hW _ => ?_)
  have hl : lv_has ls 3 [(0, .int (p1)), (1, .int (p2)), (2, .int (p3))] := hl
  refine lv_iload_n C0.hx C0.hb dX15_isIn_0 rfl (lv_at hl 0 rfl) ?_
  refine lv_iload_n C0.hx C0.hb dX15_isIn_1 rfl (lv_at hl 1 rfl) ?_
  refine lv_icmp_lt (tgt := 14) C0.hx C0.hb dX15_isIn_2 (by decide) (fun hc1 => ?_) (fun hc1 => ?_)
  · replace h := (if_pos hc1).symm.trans h
    refine lv_iconst (v := (0 : Int32)) C0.hx C0.hb dX15_isIn_14 (by decide) ?_
    obtain rfl := Option.some.inj h
    exact g_iret C0 hW rfl (g_bool (Or.inl rfl)).1 rfl dX15_isIn_15
  · replace h := (if_neg hc1).symm.trans h
    refine lv_iload_n C0.hx C0.hb dX15_isIn_5 rfl (lv_at hl 0 rfl) ?_
    refine lv_iload_n C0.hx C0.hb dX15_isIn_6 rfl (lv_at hl 2 rfl) ?_
    refine lv_icmp_gt (tgt := 14) C0.hx C0.hb dX15_isIn_7 (by decide) (fun hc2 => ?_) (fun hc2 => ?_)
    · replace h := (if_pos hc2).symm.trans h
      refine lv_iconst (v := (0 : Int32)) C0.hx C0.hb dX15_isIn_14 (by decide) ?_
      obtain rfl := Option.some.inj h
      exact g_iret C0 hW rfl (g_bool (Or.inl rfl)).1 rfl dX15_isIn_15
    · replace h := (if_neg hc2).symm.trans h
      refine lv_iconst (v := (1 : Int32)) C0.hx C0.hb dX15_isIn_10 (by decide) ?_
      refine lv_goto (tgt := 15) C0.hx C0.hb dX15_isIn_11 (by decide) ?_
      obtain rfl := Option.some.inj h
      exact g_iret C0 hW rfl (g_bool (Or.inr rfl)).1 rfl dX15_isIn_15
set_option maxRecDepth 100000 in
set_option maxHeartbeats 4000000 in
theorem c_X15_isLetter {l : Launch} {G : GL} {ids : List Nat} {x : CS} {o : Nat → Int32} {y : MS} {p1 : Int32} {q : Int32}    (h : f_X15_isLetter p1 = some q) : Met l yX15_isLetter (.code yX15_isLetter cX15_isLetter 1 (Option.some Jvm.ClassFile.FieldType.boolean) :: gT) (g_rm 1 0 0) (va_Pc [.int (p1)] (g_P G ids (x, y, o))) (g_Qi G ids q (x, y, o)) 0 0 (g_A G) := by
  unfold f_X15_isLetter at h
  refine g_entry (by decide) (Nat.le_of_ble_eq_true rfl) (fun p e s m args below meth c ls C0 hl hW _ => ?_)
  have hl : lv_has ls 1 [(0, .int (p1))] := hl
  refine lv_iload_n C0.hx C0.hb dX15_isLetter_0 rfl (lv_at hl 0 rfl) ?_
  refine lv_bipush (v := (97 : Int32)) C0.hx C0.hb dX15_isLetter_1 (by decide) ?_
  refine lv_bipush (v := (122 : Int32)) C0.hx C0.hb dX15_isLetter_3 (by decide) ?_
  obtain ⟨q1, hq1, h⟩ := Option.bind_eq_some_iff.mp h
  refine g_calli hW (g_runS (As := [.int (p1), .int ((97 : Int32)), .int ((122 : Int32))]) (rest := []) C0 hW (c_X15_isIn hq1) (g_cwOf (n := 3) tc_X15_isIn tn_X15 md_X15_isIn (by decide) (by omega)) tm_X15_65 tz_X15_isIn rfl hl.1 rfl (Nat.le_of_ble_eq_true rfl) dX15_isLetter_5) (fun H locs hW => ?_)
  obtain ⟨hb2, h⟩ := g_if h
  obtain rfl := Option.some.inj h
  exact g_iret C0 hW rfl (g_bool hb2).1 rfl dX15_isLetter_8
set_option maxRecDepth 100000 in
set_option maxHeartbeats 4000000 in
theorem c_X15_isDigit {l : Launch} {G : GL} {ids : List Nat} {x : CS} {o : Nat → Int32} {y : MS} {p1 : Int32} {q : Int32}    (h : f_X15_isDigit p1 = some q) : Met l yX15_isDigit (.code yX15_isDigit cX15_isDigit 1 (Option.some Jvm.ClassFile.FieldType.boolean) :: gT) (g_rm 1 0 0) (va_Pc [.int (p1)] (g_P G ids (x, y, o))) (g_Qi G ids q (x, y, o)) 0 0 (g_A G) := by
  unfold f_X15_isDigit at h
  refine g_entry (by decide) (Nat.le_of_ble_eq_true rfl) (fun p e s m args below meth c ls C0 hl hW _ => ?_)
  have hl : lv_has ls 1 [(0, .int (p1))] := hl
  refine lv_iload_n C0.hx C0.hb dX15_isDigit_0 rfl (lv_at hl 0 rfl) ?_
  refine lv_bipush (v := (48 : Int32)) C0.hx C0.hb dX15_isDigit_1 (by decide) ?_
  refine lv_bipush (v := (57 : Int32)) C0.hx C0.hb dX15_isDigit_3 (by decide) ?_
  obtain ⟨q1, hq1, h⟩ := Option.bind_eq_some_iff.mp h
  refine g_calli hW (g_runS (As := [.int (p1), .int ((48 : Int32)), .int ((57 : Int32))]) (rest := []) C0 hW (c_X15_isIn hq1) (g_cwOf (n := 3) tc_X15_isIn tn_X15 md_X15_isIn (by decide) (by omega)) tm_X15_65 tz_X15_isIn rfl hl.1 rfl (Nat.le_of_ble_eq_true rfl) dX15_isDigit_5) (fun H locs hW => ?_)
  obtain ⟨hb2, h⟩ := g_if h
  obtain rfl := Option.some.inj h
  exact g_iret C0 hW rfl (g_bool hb2).1 rfl dX15_isDigit_8
set_option maxRecDepth 100000 in
set_option maxHeartbeats 4000000 in
theorem c_X15_byteAt {l : Launch} {G : GL} {ids : List Nat} {x : CS} {o : Nat → Int32} {y : MS} {p1 : Int32} {q : Int32}    (h : f_X15_byteAt p1 y = some q) : Met l yX15_byteAt (.code yX15_byteAt cX15_byteAt 2 (Option.some Jvm.ClassFile.FieldType.int) :: gT) (g_rm 0 0 0) (va_Pc [.ref (g_ad G (120)), .int (p1)] (g_P G ids (x, y, o))) (g_Qi G ids q (x, y, o)) 0 0 (g_A G) := by
  unfold f_X15_byteAt at h
  refine g_entry (by decide) (Nat.le_of_ble_eq_true rfl) (fun p e s m args below meth c ls C0 hl hW _ => ?_)
  have hl : lv_has ls 2 [(0, .ref (g_ad G (120))), (1, .int (p1))] := hl
  refine lv_iload_n C0.hx C0.hb dX15_byteAt_0 rfl (lv_at hl 1 rfl) ?_
  refine lv_aload_n C0.hx C0.hb dX15_byteAt_1 rfl (lv_at hl 0 rfl) ?_
  refine gf_X15_2 C0 hW (C0.mem (i := 120) (Nat.le_of_ble_eq_true rfl)) k_120 tf_X15_69 dX15_byteAt_2 ?_
  refine lv_icmp_ge (tgt := 17) C0.hx C0.hb dX15_byteAt_5 (by decide) (fun hc1 => ?_) (fun hc1 => ?_)
  · replace h := (if_pos hc1).symm.trans h
    refine lv_iconst (v := (-1 : Int32)) C0.hx C0.hb dX15_byteAt_17 (by decide) ?_
    obtain rfl := Option.some.inj h
    exact g_iret C0 hW rfl rfl rfl dX15_byteAt_18
  · replace h := (if_neg hc1).symm.trans h
    refine lv_aload_n C0.hx C0.hb dX15_byteAt_8 rfl (lv_at hl 0 rfl) ?_
    refine gf_X15_1 C0 hW (C0.mem (i := 120) (Nat.le_of_ble_eq_true rfl)) k_120 tf_X15_9 dX15_byteAt_9 ?_
    refine lv_iload_n C0.hx C0.hb dX15_byteAt_12 rfl (lv_at hl 1 rfl) ?_
    obtain ⟨hb2, h⟩ := g_if h
    refine ga_30 C0 hW (C0.mem (i := 121) (Nat.le_of_ble_eq_true rfl)) k_121 hb2 dX15_byteAt_13 ?_
    refine lv_goto (tgt := 18) C0.hx C0.hb dX15_byteAt_14 (by decide) ?_
    obtain rfl := Option.some.inj h
    exact g_iret C0 hW rfl rfl rfl dX15_byteAt_18
set_option maxRecDepth 100000 in
set_option maxHeartbeats 4000000 in
theorem w_X15_isWord_13 {p : Program} {l : Launch} {e : Env} {s : State} {m : MethodId} {args : Array Value} {below : List Frame} {meth : Method} {c : Code} {G : GL} {ids : List Nat} {x : CS} {o : Nat → Int32} {y : MS} {q : Int32}   (C0 : g_X G ids p s m args meth c cX15_isWord 5 RX15 (Option.some Jvm.ClassFile.FieldType.boolean))  : ∀ (n : Nat) (l1 : Int32) (l2 : Int32) (l3 : Nat) (l4 : Int32)  (H : Heap) (locs : List Loc) (ls : Array Slot),  f_X15_isWord_13 y n l1 l2 l3 l4 = some q → g_W G ids (x, y, o) s.heap H locs → lv_has ls 5 [(0, .ref (g_ad G (120))), (1, .int (l1)), (2, .int (l2)), (3, .ref (g_sK G (l3))), (4, .int (l4))] → W p l e (g_rm 11 0 0) s m args below meth c H locs 0 0 (MQ below (g_Qi G ids q (x, y, o)) args s 0 0 (g_A G)) (F0 m 13 ls []) := by
  intro n
  induction n with
  | zero =>
    intro l1 l2 l3 l4 H locs ls h hW hl
    exact absurd h (by simp [f_X15_isWord_13])
  | succ n ih =>
    intro l1 l2 l3 l4 H locs ls h hW hl
    unfold f_X15_isWord_13 at h
    refine lv_iload C0.hx C0.hb dX15_isWord_13 (lv_at hl 4 rfl) ?_
    refine lv_iload_n C0.hx C0.hb dX15_isWord_15 rfl (lv_at hl 2 rfl) ?_
    refine lv_icmp_ge (tgt := 45) C0.hx C0.hb dX15_isWord_16 (by decide) (fun hc4 => ?_) (fun hc4 => ?_)
    · replace h := (if_pos hc4).symm.trans h
      refine lv_iconst (v := (1 : Int32)) C0.hx C0.hb dX15_isWord_45 (by decide) ?_
      obtain rfl := Option.some.inj h
      exact g_iret C0 hW rfl (g_bool (Or.inr rfl)).1 rfl dX15_isWord_46
    · replace h := (if_neg hc4).symm.trans h
      refine lv_aload_n C0.hx C0.hb dX15_isWord_19 rfl (lv_at hl 3 rfl) ?_
      refine lv_iload C0.hx C0.hb dX15_isWord_20 (lv_at hl 4 rfl) ?_
      obtain ⟨hs8, h⟩ := g_if h
      obtain ⟨q5, hq5, h⟩ := Option.bind_eq_some_iff.mp h
      refine g_calli hW (g_runR (As := [.int (l4)]) (rest := []) C0 hW (c_J0_charAt_5068e hq5) (g_cwOf (n := 1) tc_J0_charAt_5068e tn_J0 md_J0_charAt_5068e (by decide) (by omega)) tm_X15_77 ti_J0_charAt_5068e ts_J0_charAt_5068e (g_srecv C0 hW hs8) rfl hl.1 rfl (Nat.le_of_ble_eq_true rfl) dX15_isWord_22) (fun H locs hW => ?_)
      refine lv_aload_n C0.hx C0.hb dX15_isWord_25 rfl (lv_at hl 0 rfl) ?_
      refine gf_X15_1 C0 hW (C0.mem (i := 120) (Nat.le_of_ble_eq_true rfl)) k_120 tf_X15_9 dX15_isWord_26 ?_
      refine lv_iload_n C0.hx C0.hb dX15_isWord_29 rfl (lv_at hl 1 rfl) ?_
      refine lv_iload C0.hx C0.hb dX15_isWord_30 (lv_at hl 4 rfl) ?_
      refine lv_iadd C0.hx C0.hb dX15_isWord_32 ?_
      obtain ⟨hb6, h⟩ := g_if h
      refine ga_30 C0 hW (C0.mem (i := 121) (Nat.le_of_ble_eq_true rfl)) k_121 hb6 dX15_isWord_33 ?_
      refine lv_icmp_eq (tgt := 39) C0.hx C0.hb dX15_isWord_34 (by decide) (fun hc7 => ?_) (fun hc7 => ?_)
      · replace h := (if_pos hc7).symm.trans h
        refine lv_iinc (v := l4 + (1 : Int32)) (lv' := [(4, .int (l4 + (1 : Int32))), (0, .ref (g_ad G (120))), (1, .int (l1)), (2, .int (l2)), (3, .ref (g_sK G (l3)))]) C0.hx C0.hb dX15_isWord_39 hl (k := 4) rfl rfl (by decide) rfl (fun ls hl => ?_)
        refine lv_goto (tgt := 13) C0.hx C0.hb dX15_isWord_42 (by decide) ?_
        exact ih _ _ _ _ _ _ _ h hW (lv_sub hl [1, 2, 3, 4, 0] rfl)
      · replace h := (if_neg hc7).symm.trans h
        refine lv_iconst (v := (0 : Int32)) C0.hx C0.hb dX15_isWord_37 (by decide) ?_
        obtain rfl := Option.some.inj h
        exact g_iret C0 hW rfl (g_bool (Or.inl rfl)).1 rfl dX15_isWord_38
set_option maxRecDepth 100000 in
set_option maxHeartbeats 4000000 in
theorem c_X15_isWord {l : Launch} {G : GL} {ids : List Nat} {x : CS} {o : Nat → Int32} {y : MS} {p1 : Int32} {p2 : Int32} {p3 : Nat} {q : Int32}    (h : f_X15_isWord p1 p2 p3 y = some q) : Met l yX15_isWord (.code yX15_isWord cX15_isWord 5 (Option.some Jvm.ClassFile.FieldType.boolean) :: gT) (g_rm 11 0 0) (va_Pc [.ref (g_ad G (120)), .int (p1), .int (p2), .ref (g_sK G (p3))] (g_P G ids (x, y, o))) (g_Qi G ids q (x, y, o)) 0 0 (g_A G) := by
  unfold f_X15_isWord at h
  refine g_entry (by decide) (Nat.le_of_ble_eq_true rfl) (fun p e s m args below meth c ls C0 hl hW _ => ?_)
  have hl : lv_has ls 5 [(0, .ref (g_ad G (120))), (1, .int (p1)), (2, .int (p2)), (3, .ref (g_sK G (p3)))] := hl
  refine lv_aload_n C0.hx C0.hb dX15_isWord_0 rfl (lv_at hl 3 rfl) ?_
  obtain ⟨hs3, h⟩ := g_if h
  obtain ⟨q1, hq1, h⟩ := Option.bind_eq_some_iff.mp h
  refine g_calli hW (g_runR (As := []) (rest := []) C0 hW (c_J0_length_8abf5 hq1) (g_cwOf (n := 0) tc_J0_length_8abf5 tn_J0 md_J0_length_8abf5 (by decide) (by omega)) tm_X15_72 ti_J0_length_8abf5 ts_J0_length_8abf5 (g_srecv C0 hW hs3) rfl hl.1 rfl (Nat.le_of_ble_eq_true rfl) dX15_isWord_1) (fun H locs hW => ?_)
  refine lv_iload_n C0.hx C0.hb dX15_isWord_4 rfl (lv_at hl 2 rfl) ?_
  refine lv_icmp_eq (tgt := 10) C0.hx C0.hb dX15_isWord_5 (by decide) (fun hc2 => ?_) (fun hc2 => ?_)
  · replace h := (if_pos hc2).symm.trans h
    refine lv_iconst (v := (0 : Int32)) C0.hx C0.hb dX15_isWord_10 (by decide) ?_
    refine lv_istore (lv' := [(4, .int ((0 : Int32))), (0, .ref (g_ad G (120))), (1, .int (p1)), (2, .int (p2)), (3, .ref (g_sK G (p3)))]) C0.hx C0.hb dX15_isWord_11 hl (by decide) rfl (fun ls hl => ?_)
    exact w_X15_isWord_13 C0 g_fuel _ _ _ _ _ _ _ h hW (lv_sub hl [1, 2, 3, 4, 0] rfl)
  · replace h := (if_neg hc2).symm.trans h
    refine lv_iconst (v := (0 : Int32)) C0.hx C0.hb dX15_isWord_8 (by decide) ?_
    obtain rfl := Option.some.inj h
    exact g_iret C0 hW rfl (g_bool (Or.inl rfl)).1 rfl dX15_isWord_9
set_option maxRecDepth 100000 in
set_option maxHeartbeats 4000000 in
theorem w_X15_keyword_2 {p : Program} {l : Launch} {e : Env} {s : State} {m : MethodId} {args : Array Value} {below : List Frame} {meth : Method} {c : Code} {G : GL} {ids : List Nat} {x : CS} {o : Nat → Int32} {y : MS} {q : Int32}   (C0 : g_X G ids p s m args meth c cX15_keyword 4 RX15 (Option.some Jvm.ClassFile.FieldType.int))  : ∀ (n : Nat) (l1 : Int32) (l2 : Int32) (l3 : Int32)  (H : Heap) (locs : List Loc) (ls : Array Slot),  f_X15_keyword_2 y n l1 l2 l3 = some q → g_W G ids (x, y, o) s.heap H locs → lv_has ls 4 [(0, .ref (g_ad G (120))), (1, .int (l1)), (2, .int (l2)), (3, .int (l3))] → W p l e (g_rm 12 0 0) s m args below meth c H locs 0 0 (MQ below (g_Qi G ids q (x, y, o)) args s 0 0 (g_A G)) (F0 m 2 ls []) := by
  intro n
  induction n with
  | zero =>
    intro l1 l2 l3 H locs ls h hW hl
    exact absurd h (by simp [f_X15_keyword_2])
  | succ n ih =>
    intro l1 l2 l3 H locs ls h hW hl
    unfold f_X15_keyword_2 at h
    refine lv_iload_n C0.hx C0.hb dX15_keyword_2 rfl (lv_at hl 3 rfl) ?_
    refine g_TOLD C0 hW tf_X15_81 dX15_keyword_3 ?_
    refine g_TOLDlen C0 hW dX15_keyword_6 ?_
    refine lv_icmp_ge (tgt := 32) C0.hx C0.hb dX15_keyword_7 (by decide) (fun hc1 => ?_) (fun hc1 => ?_)
    · replace h := (if_pos hc1).symm.trans h
      refine lv_iload_n C0.hx C0.hb dX15_keyword_32 rfl (lv_at hl 2 rfl) ?_
      refine lv_bipush (v := (10 : Int32)) C0.hx C0.hb dX15_keyword_33 (by decide) ?_
      refine lv_icmp_le (tgt := 43) C0.hx C0.hb dX15_keyword_35 (by decide) (fun hc2 => ?_) (fun hc2 => ?_)
      · replace h := (if_pos hc2).symm.trans h
        refine lv_bipush (v := (30 : Int32)) C0.hx C0.hb dX15_keyword_43 (by decide) ?_
        obtain rfl := Option.some.inj h
        exact g_iret C0 hW rfl rfl rfl dX15_keyword_45
      · replace h := (if_neg hc2).symm.trans h
        refine lv_bipush (v := (32 : Int32)) C0.hx C0.hb dX15_keyword_38 (by decide) ?_
        refine lv_goto (tgt := 45) C0.hx C0.hb dX15_keyword_40 (by decide) ?_
        obtain rfl := Option.some.inj h
        exact g_iret C0 hW rfl rfl rfl dX15_keyword_45
    · replace h := (if_neg hc1).symm.trans h
      refine lv_aload_n C0.hx C0.hb dX15_keyword_10 rfl (lv_at hl 0 rfl) ?_
      refine lv_iload_n C0.hx C0.hb dX15_keyword_11 rfl (lv_at hl 1 rfl) ?_
      refine lv_iload_n C0.hx C0.hb dX15_keyword_12 rfl (lv_at hl 2 rfl) ?_
      refine g_TOLD C0 hW tf_X15_81 dX15_keyword_13 ?_
      refine lv_iload_n C0.hx C0.hb dX15_keyword_16 rfl (lv_at hl 3 rfl) ?_
      obtain ⟨hb3, h⟩ := g_if h
      refine g_TOLDat C0 hW hb3 dX15_keyword_17 ?_
      obtain ⟨q4, hq4, h⟩ := Option.bind_eq_some_iff.mp h
      refine g_calli hW (g_runV (As := [.int (l1), .int (l2), .ref (g_sK G (46 + l3.toNatClampNeg))]) (rest := []) C0 hW (c_X15_isWord hq4) (g_cwOf (n := 3) tc_X15_isWord tn_X15 md_X15_isWord (by decide) (by omega)) tm_X15_85 ti_X15_isWord ts_X15_isWord (C0.mem (i := 120) (Nat.le_of_ble_eq_true rfl)) (g_c12 k_120) rfl rfl hl.1 rfl (Nat.le_of_ble_eq_true rfl) dX15_keyword_18) (fun H locs hW => ?_)
      refine lv_if_eq (tgt := 26) C0.hx C0.hb dX15_keyword_21 (by decide) (fun hc5 => ?_) (fun hc5 => ?_)
      · replace h := (if_pos hc5).symm.trans h
        refine lv_iinc (v := l3 + (1 : Int32)) (lv' := [(3, .int (l3 + (1 : Int32))), (0, .ref (g_ad G (120))), (1, .int (l1)), (2, .int (l2))]) C0.hx C0.hb dX15_keyword_26 hl (k := 3) rfl rfl (by decide) rfl (fun ls hl => ?_)
        refine lv_goto (tgt := 2) C0.hx C0.hb dX15_keyword_29 (by decide) ?_
        exact ih _ _ _ _ _ _ h hW (lv_sub hl [1, 2, 3, 0] rfl)
      · replace h := (if_neg hc5).symm.trans h
        refine lv_iload_n C0.hx C0.hb dX15_keyword_24 rfl (lv_at hl 3 rfl) ?_
        obtain rfl := Option.some.inj h
        exact g_iret C0 hW rfl rfl rfl dX15_keyword_25
set_option maxRecDepth 100000 in
set_option maxHeartbeats 4000000 in
theorem c_X15_keyword {l : Launch} {G : GL} {ids : List Nat} {x : CS} {o : Nat → Int32} {y : MS} {p1 : Int32} {p2 : Int32} {q : Int32}    (h : f_X15_keyword p1 p2 y = some q) : Met l yX15_keyword (.code yX15_keyword cX15_keyword 4 (Option.some Jvm.ClassFile.FieldType.int) :: gT) (g_rm 12 0 0) (va_Pc [.ref (g_ad G (120)), .int (p1), .int (p2)] (g_P G ids (x, y, o))) (g_Qi G ids q (x, y, o)) 0 0 (g_A G) := by
  unfold f_X15_keyword at h
  refine g_entry (by decide) (Nat.le_of_ble_eq_true rfl) (fun p e s m args below meth c ls C0 hl hW _ => ?_)
  have hl : lv_has ls 4 [(0, .ref (g_ad G (120))), (1, .int (p1)), (2, .int (p2))] := hl
  refine lv_iconst (v := (0 : Int32)) C0.hx C0.hb dX15_keyword_0 (by decide) ?_
  refine lv_istore_n (lv' := [(3, .int ((0 : Int32))), (0, .ref (g_ad G (120))), (1, .int (p1)), (2, .int (p2))]) C0.hx C0.hb dX15_keyword_1 rfl hl (by decide) rfl (fun ls hl => ?_)
  exact w_X15_keyword_2 C0 g_fuel _ _ _ _ _ _ h hW (lv_sub hl [1, 2, 3, 0] rfl)
set_option maxRecDepth 100000 in
set_option maxHeartbeats 4000000 in
theorem c_X15_symbol {l : Launch} {G : GL} {ids : List Nat} {x : CS} {o : Nat → Int32} {y : MS} {p1 : Int32} {q : Int32}    (h : f_X15_symbol p1 = some q) : Met l yX15_symbol (.code yX15_symbol cX15_symbol 1 (Option.some Jvm.ClassFile.FieldType.int) :: gT) (g_rm 0 0 0) (va_Pc [.int (p1)] (g_P G ids (x, y, o))) (g_Qi G ids q (x, y, o)) 0 0 (g_A G) := by
  unfold f_X15_symbol at h
  refine g_entry (by decide) (Nat.le_of_ble_eq_true rfl) (fun p e s m args below meth c ls C0 hl hW _ => ?_)
  have hl : lv_has ls 1 [(0, .int (p1))] := hl
  refine lv_iload_n C0.hx C0.hb dX15_symbol_0 rfl (lv_at hl 0 rfl) ?_
  by_cases hc1 : p1 = (40 : Int32)
  · replace h := (if_pos hc1).symm.trans h
    refine lv_tableIn (tgt := 232) C0.hx C0.hb dX15_symbol_1 (by rw [hc1]; decide) (by rw [hc1]; decide) (by rw [hc1]; rfl) (by decide) ?_
    refine lv_bipush (v := (49 : Int32)) C0.hx C0.hb dX15_symbol_232 (by decide) ?_
    obtain rfl := Option.some.inj h
    exact g_iret C0 hW rfl rfl rfl dX15_symbol_234
  · replace h := (if_neg hc1).symm.trans h
    by_cases hc2 : p1 = (41 : Int32)
    · replace h := (if_pos hc2).symm.trans h
      refine lv_tableIn (tgt := 235) C0.hx C0.hb dX15_symbol_1 (by rw [hc2]; decide) (by rw [hc2]; decide) (by rw [hc2]; rfl) (by decide) ?_
      refine lv_bipush (v := (50 : Int32)) C0.hx C0.hb dX15_symbol_235 (by decide) ?_
      obtain rfl := Option.some.inj h
      exact g_iret C0 hW rfl rfl rfl dX15_symbol_237
    · replace h := (if_neg hc2).symm.trans h
      by_cases hc3 : p1 = (42 : Int32)
      · replace h := (if_pos hc3).symm.trans h
        refine lv_tableIn (tgt := 256) C0.hx C0.hb dX15_symbol_1 (by rw [hc3]; decide) (by rw [hc3]; decide) (by rw [hc3]; rfl) (by decide) ?_
        refine lv_bipush (v := (42 : Int32)) C0.hx C0.hb dX15_symbol_256 (by decide) ?_
        obtain rfl := Option.some.inj h
        exact g_iret C0 hW rfl rfl rfl dX15_symbol_258
      · replace h := (if_neg hc3).symm.trans h
        by_cases hc4 : p1 = (43 : Int32)
        · replace h := (if_pos hc4).symm.trans h
          refine lv_tableIn (tgt := 250) C0.hx C0.hb dX15_symbol_1 (by rw [hc4]; decide) (by rw [hc4]; decide) (by rw [hc4]; rfl) (by decide) ?_
          refine lv_bipush (v := (40 : Int32)) C0.hx C0.hb dX15_symbol_250 (by decide) ?_
          obtain rfl := Option.some.inj h
          exact g_iret C0 hW rfl rfl rfl dX15_symbol_252
        · replace h := (if_neg hc4).symm.trans h
          by_cases hc5 : p1 = (44 : Int32)
          · replace h := (if_pos hc5).symm.trans h
            refine lv_tableIn (tgt := 247) C0.hx C0.hb dX15_symbol_1 (by rw [hc5]; decide) (by rw [hc5]; decide) (by rw [hc5]; rfl) (by decide) ?_
            refine lv_bipush (v := (54 : Int32)) C0.hx C0.hb dX15_symbol_247 (by decide) ?_
            obtain rfl := Option.some.inj h
            exact g_iret C0 hW rfl rfl rfl dX15_symbol_249
          · replace h := (if_neg hc5).symm.trans h
            by_cases hc6 : p1 = (45 : Int32)
            · replace h := (if_pos hc6).symm.trans h
              refine lv_tableIn (tgt := 253) C0.hx C0.hb dX15_symbol_1 (by rw [hc6]; decide) (by rw [hc6]; decide) (by rw [hc6]; rfl) (by decide) ?_
              refine lv_bipush (v := (41 : Int32)) C0.hx C0.hb dX15_symbol_253 (by decide) ?_
              obtain rfl := Option.some.inj h
              exact g_iret C0 hW rfl rfl rfl dX15_symbol_255
            · replace h := (if_neg hc6).symm.trans h
              by_cases hc7 : p1 = (46 : Int32)
              · replace h := (if_pos hc7).symm.trans h
                refine lv_tableIn (tgt := 271) C0.hx C0.hb dX15_symbol_1 (by rw [hc7]; decide) (by rw [hc7]; decide) (by rw [hc7]; rfl) (by decide) ?_
                refine lv_bipush (v := (32 : Int32)) C0.hx C0.hb dX15_symbol_271 (by decide) ?_
                obtain rfl := Option.some.inj h
                exact g_iret C0 hW rfl rfl rfl dX15_symbol_273
              · replace h := (if_neg hc7).symm.trans h
                by_cases hc8 : p1 = (47 : Int32)
                · replace h := (if_pos hc8).symm.trans h
                  refine lv_tableIn (tgt := 259) C0.hx C0.hb dX15_symbol_1 (by rw [hc8]; decide) (by rw [hc8]; decide) (by rw [hc8]; rfl) (by decide) ?_
                  refine lv_bipush (v := (43 : Int32)) C0.hx C0.hb dX15_symbol_259 (by decide) ?_
                  obtain rfl := Option.some.inj h
                  exact g_iret C0 hW rfl rfl rfl dX15_symbol_261
                · replace h := (if_neg hc8).symm.trans h
                  by_cases hc9 : p1 = (48 : Int32)
                  · replace h := (if_pos hc9).symm.trans h
                    refine lv_tableIn (tgt := 271) C0.hx C0.hb dX15_symbol_1 (by rw [hc9]; decide) (by rw [hc9]; decide) (by rw [hc9]; rfl) (by decide) ?_
                    refine lv_bipush (v := (32 : Int32)) C0.hx C0.hb dX15_symbol_271 (by decide) ?_
                    obtain rfl := Option.some.inj h
                    exact g_iret C0 hW rfl rfl rfl dX15_symbol_273
                  · replace h := (if_neg hc9).symm.trans h
                    by_cases hc10 : p1 = (49 : Int32)
                    · replace h := (if_pos hc10).symm.trans h
                      refine lv_tableIn (tgt := 271) C0.hx C0.hb dX15_symbol_1 (by rw [hc10]; decide) (by rw [hc10]; decide) (by rw [hc10]; rfl) (by decide) ?_
                      refine lv_bipush (v := (32 : Int32)) C0.hx C0.hb dX15_symbol_271 (by decide) ?_
                      obtain rfl := Option.some.inj h
                      exact g_iret C0 hW rfl rfl rfl dX15_symbol_273
                    · replace h := (if_neg hc10).symm.trans h
                      by_cases hc11 : p1 = (50 : Int32)
                      · replace h := (if_pos hc11).symm.trans h
                        refine lv_tableIn (tgt := 271) C0.hx C0.hb dX15_symbol_1 (by rw [hc11]; decide) (by rw [hc11]; decide) (by rw [hc11]; rfl) (by decide) ?_
                        refine lv_bipush (v := (32 : Int32)) C0.hx C0.hb dX15_symbol_271 (by decide) ?_
                        obtain rfl := Option.some.inj h
                        exact g_iret C0 hW rfl rfl rfl dX15_symbol_273
                      · replace h := (if_neg hc11).symm.trans h
                        by_cases hc12 : p1 = (51 : Int32)
                        · replace h := (if_pos hc12).symm.trans h
                          refine lv_tableIn (tgt := 271) C0.hx C0.hb dX15_symbol_1 (by rw [hc12]; decide) (by rw [hc12]; decide) (by rw [hc12]; rfl) (by decide) ?_
                          refine lv_bipush (v := (32 : Int32)) C0.hx C0.hb dX15_symbol_271 (by decide) ?_
                          obtain rfl := Option.some.inj h
                          exact g_iret C0 hW rfl rfl rfl dX15_symbol_273
                        · replace h := (if_neg hc12).symm.trans h
                          by_cases hc13 : p1 = (52 : Int32)
                          · replace h := (if_pos hc13).symm.trans h
                            refine lv_tableIn (tgt := 271) C0.hx C0.hb dX15_symbol_1 (by rw [hc13]; decide) (by rw [hc13]; decide) (by rw [hc13]; rfl) (by decide) ?_
                            refine lv_bipush (v := (32 : Int32)) C0.hx C0.hb dX15_symbol_271 (by decide) ?_
                            obtain rfl := Option.some.inj h
                            exact g_iret C0 hW rfl rfl rfl dX15_symbol_273
                          · replace h := (if_neg hc13).symm.trans h
                            by_cases hc14 : p1 = (53 : Int32)
                            · replace h := (if_pos hc14).symm.trans h
                              refine lv_tableIn (tgt := 271) C0.hx C0.hb dX15_symbol_1 (by rw [hc14]; decide) (by rw [hc14]; decide) (by rw [hc14]; rfl) (by decide) ?_
                              refine lv_bipush (v := (32 : Int32)) C0.hx C0.hb dX15_symbol_271 (by decide) ?_
                              obtain rfl := Option.some.inj h
                              exact g_iret C0 hW rfl rfl rfl dX15_symbol_273
                            · replace h := (if_neg hc14).symm.trans h
                              by_cases hc15 : p1 = (54 : Int32)
                              · replace h := (if_pos hc15).symm.trans h
                                refine lv_tableIn (tgt := 271) C0.hx C0.hb dX15_symbol_1 (by rw [hc15]; decide) (by rw [hc15]; decide) (by rw [hc15]; rfl) (by decide) ?_
                                refine lv_bipush (v := (32 : Int32)) C0.hx C0.hb dX15_symbol_271 (by decide) ?_
                                obtain rfl := Option.some.inj h
                                exact g_iret C0 hW rfl rfl rfl dX15_symbol_273
                              · replace h := (if_neg hc15).symm.trans h
                                by_cases hc16 : p1 = (55 : Int32)
                                · replace h := (if_pos hc16).symm.trans h
                                  refine lv_tableIn (tgt := 271) C0.hx C0.hb dX15_symbol_1 (by rw [hc16]; decide) (by rw [hc16]; decide) (by rw [hc16]; rfl) (by decide) ?_
                                  refine lv_bipush (v := (32 : Int32)) C0.hx C0.hb dX15_symbol_271 (by decide) ?_
                                  obtain rfl := Option.some.inj h
                                  exact g_iret C0 hW rfl rfl rfl dX15_symbol_273
                                · replace h := (if_neg hc16).symm.trans h
                                  by_cases hc17 : p1 = (56 : Int32)
                                  · replace h := (if_pos hc17).symm.trans h
                                    refine lv_tableIn (tgt := 271) C0.hx C0.hb dX15_symbol_1 (by rw [hc17]; decide) (by rw [hc17]; decide) (by rw [hc17]; rfl) (by decide) ?_
                                    refine lv_bipush (v := (32 : Int32)) C0.hx C0.hb dX15_symbol_271 (by decide) ?_
                                    obtain rfl := Option.some.inj h
                                    exact g_iret C0 hW rfl rfl rfl dX15_symbol_273
                                  · replace h := (if_neg hc17).symm.trans h
                                    by_cases hc18 : p1 = (57 : Int32)
                                    · replace h := (if_pos hc18).symm.trans h
                                      refine lv_tableIn (tgt := 271) C0.hx C0.hb dX15_symbol_1 (by rw [hc18]; decide) (by rw [hc18]; decide) (by rw [hc18]; rfl) (by decide) ?_
                                      refine lv_bipush (v := (32 : Int32)) C0.hx C0.hb dX15_symbol_271 (by decide) ?_
                                      obtain rfl := Option.some.inj h
                                      exact g_iret C0 hW rfl rfl rfl dX15_symbol_273
                                    · replace h := (if_neg hc18).symm.trans h
                                      by_cases hc19 : p1 = (58 : Int32)
                                      · replace h := (if_pos hc19).symm.trans h
                                        refine lv_tableIn (tgt := 271) C0.hx C0.hb dX15_symbol_1 (by rw [hc19]; decide) (by rw [hc19]; decide) (by rw [hc19]; rfl) (by decide) ?_
                                        refine lv_bipush (v := (32 : Int32)) C0.hx C0.hb dX15_symbol_271 (by decide) ?_
                                        obtain rfl := Option.some.inj h
                                        exact g_iret C0 hW rfl rfl rfl dX15_symbol_273
                                      · replace h := (if_neg hc19).symm.trans h
                                        by_cases hc20 : p1 = (59 : Int32)
                                        · replace h := (if_pos hc20).symm.trans h
                                          refine lv_tableIn (tgt := 244) C0.hx C0.hb dX15_symbol_1 (by rw [hc20]; decide) (by rw [hc20]; decide) (by rw [hc20]; rfl) (by decide) ?_
                                          refine lv_bipush (v := (53 : Int32)) C0.hx C0.hb dX15_symbol_244 (by decide) ?_
                                          obtain rfl := Option.some.inj h
                                          exact g_iret C0 hW rfl rfl rfl dX15_symbol_246
                                        · replace h := (if_neg hc20).symm.trans h
                                          by_cases hc21 : p1 = (60 : Int32)
                                          · replace h := (if_pos hc21).symm.trans h
                                            refine lv_tableIn (tgt := 262) C0.hx C0.hb dX15_symbol_1 (by rw [hc21]; decide) (by rw [hc21]; decide) (by rw [hc21]; rfl) (by decide) ?_
                                            refine lv_bipush (v := (44 : Int32)) C0.hx C0.hb dX15_symbol_262 (by decide) ?_
                                            obtain rfl := Option.some.inj h
                                            exact g_iret C0 hW rfl rfl rfl dX15_symbol_264
                                          · replace h := (if_neg hc21).symm.trans h
                                            by_cases hc22 : p1 = (61 : Int32)
                                            · replace h := (if_pos hc22).symm.trans h
                                              refine lv_tableIn (tgt := 268) C0.hx C0.hb dX15_symbol_1 (by rw [hc22]; decide) (by rw [hc22]; decide) (by rw [hc22]; rfl) (by decide) ?_
                                              refine lv_bipush (v := (46 : Int32)) C0.hx C0.hb dX15_symbol_268 (by decide) ?_
                                              obtain rfl := Option.some.inj h
                                              exact g_iret C0 hW rfl rfl rfl dX15_symbol_270
                                            · replace h := (if_neg hc22).symm.trans h
                                              by_cases hc23 : p1 = (62 : Int32)
                                              · replace h := (if_pos hc23).symm.trans h
                                                refine lv_tableIn (tgt := 265) C0.hx C0.hb dX15_symbol_1 (by rw [hc23]; decide) (by rw [hc23]; decide) (by rw [hc23]; rfl) (by decide) ?_
                                                refine lv_bipush (v := (45 : Int32)) C0.hx C0.hb dX15_symbol_265 (by decide) ?_
                                                obtain rfl := Option.some.inj h
                                                exact g_iret C0 hW rfl rfl rfl dX15_symbol_267
                                              · replace h := (if_neg hc23).symm.trans h
                                                by_cases hc24 : p1 = (63 : Int32)
                                                · replace h := (if_pos hc24).symm.trans h
                                                  refine lv_tableIn (tgt := 271) C0.hx C0.hb dX15_symbol_1 (by rw [hc24]; decide) (by rw [hc24]; decide) (by rw [hc24]; rfl) (by decide) ?_
                                                  refine lv_bipush (v := (32 : Int32)) C0.hx C0.hb dX15_symbol_271 (by decide) ?_
                                                  obtain rfl := Option.some.inj h
                                                  exact g_iret C0 hW rfl rfl rfl dX15_symbol_273
                                                · replace h := (if_neg hc24).symm.trans h
                                                  by_cases hc25 : p1 = (64 : Int32)
                                                  · replace h := (if_pos hc25).symm.trans h
                                                    refine lv_tableIn (tgt := 271) C0.hx C0.hb dX15_symbol_1 (by rw [hc25]; decide) (by rw [hc25]; decide) (by rw [hc25]; rfl) (by decide) ?_
                                                    refine lv_bipush (v := (32 : Int32)) C0.hx C0.hb dX15_symbol_271 (by decide) ?_
                                                    obtain rfl := Option.some.inj h
                                                    exact g_iret C0 hW rfl rfl rfl dX15_symbol_273
                                                  · replace h := (if_neg hc25).symm.trans h
                                                    by_cases hc26 : p1 = (65 : Int32)
                                                    · replace h := (if_pos hc26).symm.trans h
                                                      refine lv_tableIn (tgt := 271) C0.hx C0.hb dX15_symbol_1 (by rw [hc26]; decide) (by rw [hc26]; decide) (by rw [hc26]; rfl) (by decide) ?_
                                                      refine lv_bipush (v := (32 : Int32)) C0.hx C0.hb dX15_symbol_271 (by decide) ?_
                                                      obtain rfl := Option.some.inj h
                                                      exact g_iret C0 hW rfl rfl rfl dX15_symbol_273
                                                    · replace h := (if_neg hc26).symm.trans h
                                                      by_cases hc27 : p1 = (66 : Int32)
                                                      · replace h := (if_pos hc27).symm.trans h
                                                        refine lv_tableIn (tgt := 271) C0.hx C0.hb dX15_symbol_1 (by rw [hc27]; decide) (by rw [hc27]; decide) (by rw [hc27]; rfl) (by decide) ?_
                                                        refine lv_bipush (v := (32 : Int32)) C0.hx C0.hb dX15_symbol_271 (by decide) ?_
                                                        obtain rfl := Option.some.inj h
                                                        exact g_iret C0 hW rfl rfl rfl dX15_symbol_273
                                                      · replace h := (if_neg hc27).symm.trans h
                                                        by_cases hc28 : p1 = (67 : Int32)
                                                        · replace h := (if_pos hc28).symm.trans h
                                                          refine lv_tableIn (tgt := 271) C0.hx C0.hb dX15_symbol_1 (by rw [hc28]; decide) (by rw [hc28]; decide) (by rw [hc28]; rfl) (by decide) ?_
                                                          refine lv_bipush (v := (32 : Int32)) C0.hx C0.hb dX15_symbol_271 (by decide) ?_
                                                          obtain rfl := Option.some.inj h
                                                          exact g_iret C0 hW rfl rfl rfl dX15_symbol_273
                                                        · replace h := (if_neg hc28).symm.trans h
                                                          by_cases hc29 : p1 = (68 : Int32)
                                                          · replace h := (if_pos hc29).symm.trans h
                                                            refine lv_tableIn (tgt := 271) C0.hx C0.hb dX15_symbol_1 (by rw [hc29]; decide) (by rw [hc29]; decide) (by rw [hc29]; rfl) (by decide) ?_
                                                            refine lv_bipush (v := (32 : Int32)) C0.hx C0.hb dX15_symbol_271 (by decide) ?_
                                                            obtain rfl := Option.some.inj h
                                                            exact g_iret C0 hW rfl rfl rfl dX15_symbol_273
                                                          · replace h := (if_neg hc29).symm.trans h
                                                            by_cases hc30 : p1 = (69 : Int32)
                                                            · replace h := (if_pos hc30).symm.trans h
                                                              refine lv_tableIn (tgt := 271) C0.hx C0.hb dX15_symbol_1 (by rw [hc30]; decide) (by rw [hc30]; decide) (by rw [hc30]; rfl) (by decide) ?_
                                                              refine lv_bipush (v := (32 : Int32)) C0.hx C0.hb dX15_symbol_271 (by decide) ?_
                                                              obtain rfl := Option.some.inj h
                                                              exact g_iret C0 hW rfl rfl rfl dX15_symbol_273
                                                            · replace h := (if_neg hc30).symm.trans h
                                                              by_cases hc31 : p1 = (70 : Int32)
                                                              · replace h := (if_pos hc31).symm.trans h
                                                                refine lv_tableIn (tgt := 271) C0.hx C0.hb dX15_symbol_1 (by rw [hc31]; decide) (by rw [hc31]; decide) (by rw [hc31]; rfl) (by decide) ?_
                                                                refine lv_bipush (v := (32 : Int32)) C0.hx C0.hb dX15_symbol_271 (by decide) ?_
                                                                obtain rfl := Option.some.inj h
                                                                exact g_iret C0 hW rfl rfl rfl dX15_symbol_273
                                                              · replace h := (if_neg hc31).symm.trans h
                                                                by_cases hc32 : p1 = (71 : Int32)
                                                                · replace h := (if_pos hc32).symm.trans h
                                                                  refine lv_tableIn (tgt := 271) C0.hx C0.hb dX15_symbol_1 (by rw [hc32]; decide) (by rw [hc32]; decide) (by rw [hc32]; rfl) (by decide) ?_
                                                                  refine lv_bipush (v := (32 : Int32)) C0.hx C0.hb dX15_symbol_271 (by decide) ?_
                                                                  obtain rfl := Option.some.inj h
                                                                  exact g_iret C0 hW rfl rfl rfl dX15_symbol_273
                                                                · replace h := (if_neg hc32).symm.trans h
                                                                  by_cases hc33 : p1 = (72 : Int32)
                                                                  · replace h := (if_pos hc33).symm.trans h
                                                                    refine lv_tableIn (tgt := 271) C0.hx C0.hb dX15_symbol_1 (by rw [hc33]; decide) (by rw [hc33]; decide) (by rw [hc33]; rfl) (by decide) ?_
                                                                    refine lv_bipush (v := (32 : Int32)) C0.hx C0.hb dX15_symbol_271 (by decide) ?_
                                                                    obtain rfl := Option.some.inj h
                                                                    exact g_iret C0 hW rfl rfl rfl dX15_symbol_273
                                                                  · replace h := (if_neg hc33).symm.trans h
                                                                    by_cases hc34 : p1 = (73 : Int32)
                                                                    · replace h := (if_pos hc34).symm.trans h
                                                                      refine lv_tableIn (tgt := 271) C0.hx C0.hb dX15_symbol_1 (by rw [hc34]; decide) (by rw [hc34]; decide) (by rw [hc34]; rfl) (by decide) ?_
                                                                      refine lv_bipush (v := (32 : Int32)) C0.hx C0.hb dX15_symbol_271 (by decide) ?_
                                                                      obtain rfl := Option.some.inj h
                                                                      exact g_iret C0 hW rfl rfl rfl dX15_symbol_273
                                                                    · replace h := (if_neg hc34).symm.trans h
                                                                      by_cases hc35 : p1 = (74 : Int32)
                                                                      · replace h := (if_pos hc35).symm.trans h
                                                                        refine lv_tableIn (tgt := 271) C0.hx C0.hb dX15_symbol_1 (by rw [hc35]; decide) (by rw [hc35]; decide) (by rw [hc35]; rfl) (by decide) ?_
                                                                        refine lv_bipush (v := (32 : Int32)) C0.hx C0.hb dX15_symbol_271 (by decide) ?_
                                                                        obtain rfl := Option.some.inj h
                                                                        exact g_iret C0 hW rfl rfl rfl dX15_symbol_273
                                                                      · replace h := (if_neg hc35).symm.trans h
                                                                        by_cases hc36 : p1 = (75 : Int32)
                                                                        · replace h := (if_pos hc36).symm.trans h
                                                                          refine lv_tableIn (tgt := 271) C0.hx C0.hb dX15_symbol_1 (by rw [hc36]; decide) (by rw [hc36]; decide) (by rw [hc36]; rfl) (by decide) ?_
                                                                          refine lv_bipush (v := (32 : Int32)) C0.hx C0.hb dX15_symbol_271 (by decide) ?_
                                                                          obtain rfl := Option.some.inj h
                                                                          exact g_iret C0 hW rfl rfl rfl dX15_symbol_273
                                                                        · replace h := (if_neg hc36).symm.trans h
                                                                          by_cases hc37 : p1 = (76 : Int32)
                                                                          · replace h := (if_pos hc37).symm.trans h
                                                                            refine lv_tableIn (tgt := 271) C0.hx C0.hb dX15_symbol_1 (by rw [hc37]; decide) (by rw [hc37]; decide) (by rw [hc37]; rfl) (by decide) ?_
                                                                            refine lv_bipush (v := (32 : Int32)) C0.hx C0.hb dX15_symbol_271 (by decide) ?_
                                                                            obtain rfl := Option.some.inj h
                                                                            exact g_iret C0 hW rfl rfl rfl dX15_symbol_273
                                                                          · replace h := (if_neg hc37).symm.trans h
                                                                            by_cases hc38 : p1 = (77 : Int32)
                                                                            · replace h := (if_pos hc38).symm.trans h
                                                                              refine lv_tableIn (tgt := 271) C0.hx C0.hb dX15_symbol_1 (by rw [hc38]; decide) (by rw [hc38]; decide) (by rw [hc38]; rfl) (by decide) ?_
                                                                              refine lv_bipush (v := (32 : Int32)) C0.hx C0.hb dX15_symbol_271 (by decide) ?_
                                                                              obtain rfl := Option.some.inj h
                                                                              exact g_iret C0 hW rfl rfl rfl dX15_symbol_273
                                                                            · replace h := (if_neg hc38).symm.trans h
                                                                              by_cases hc39 : p1 = (78 : Int32)
                                                                              · replace h := (if_pos hc39).symm.trans h
                                                                                refine lv_tableIn (tgt := 271) C0.hx C0.hb dX15_symbol_1 (by rw [hc39]; decide) (by rw [hc39]; decide) (by rw [hc39]; rfl) (by decide) ?_
                                                                                refine lv_bipush (v := (32 : Int32)) C0.hx C0.hb dX15_symbol_271 (by decide) ?_
                                                                                obtain rfl := Option.some.inj h
                                                                                exact g_iret C0 hW rfl rfl rfl dX15_symbol_273
                                                                              · replace h := (if_neg hc39).symm.trans h
                                                                                by_cases hc40 : p1 = (79 : Int32)
                                                                                · replace h := (if_pos hc40).symm.trans h
                                                                                  refine lv_tableIn (tgt := 271) C0.hx C0.hb dX15_symbol_1 (by rw [hc40]; decide) (by rw [hc40]; decide) (by rw [hc40]; rfl) (by decide) ?_
                                                                                  refine lv_bipush (v := (32 : Int32)) C0.hx C0.hb dX15_symbol_271 (by decide) ?_
                                                                                  obtain rfl := Option.some.inj h
                                                                                  exact g_iret C0 hW rfl rfl rfl dX15_symbol_273
                                                                                · replace h := (if_neg hc40).symm.trans h
                                                                                  by_cases hc41 : p1 = (80 : Int32)
                                                                                  · replace h := (if_pos hc41).symm.trans h
                                                                                    refine lv_tableIn (tgt := 271) C0.hx C0.hb dX15_symbol_1 (by rw [hc41]; decide) (by rw [hc41]; decide) (by rw [hc41]; rfl) (by decide) ?_
                                                                                    refine lv_bipush (v := (32 : Int32)) C0.hx C0.hb dX15_symbol_271 (by decide) ?_
                                                                                    obtain rfl := Option.some.inj h
                                                                                    exact g_iret C0 hW rfl rfl rfl dX15_symbol_273
                                                                                  · replace h := (if_neg hc41).symm.trans h
                                                                                    by_cases hc42 : p1 = (81 : Int32)
                                                                                    · replace h := (if_pos hc42).symm.trans h
                                                                                      refine lv_tableIn (tgt := 271) C0.hx C0.hb dX15_symbol_1 (by rw [hc42]; decide) (by rw [hc42]; decide) (by rw [hc42]; rfl) (by decide) ?_
                                                                                      refine lv_bipush (v := (32 : Int32)) C0.hx C0.hb dX15_symbol_271 (by decide) ?_
                                                                                      obtain rfl := Option.some.inj h
                                                                                      exact g_iret C0 hW rfl rfl rfl dX15_symbol_273
                                                                                    · replace h := (if_neg hc42).symm.trans h
                                                                                      by_cases hc43 : p1 = (82 : Int32)
                                                                                      · replace h := (if_pos hc43).symm.trans h
                                                                                        refine lv_tableIn (tgt := 271) C0.hx C0.hb dX15_symbol_1 (by rw [hc43]; decide) (by rw [hc43]; decide) (by rw [hc43]; rfl) (by decide) ?_
                                                                                        refine lv_bipush (v := (32 : Int32)) C0.hx C0.hb dX15_symbol_271 (by decide) ?_
                                                                                        obtain rfl := Option.some.inj h
                                                                                        exact g_iret C0 hW rfl rfl rfl dX15_symbol_273
                                                                                      · replace h := (if_neg hc43).symm.trans h
                                                                                        by_cases hc44 : p1 = (83 : Int32)
                                                                                        · replace h := (if_pos hc44).symm.trans h
                                                                                          refine lv_tableIn (tgt := 271) C0.hx C0.hb dX15_symbol_1 (by rw [hc44]; decide) (by rw [hc44]; decide) (by rw [hc44]; rfl) (by decide) ?_
                                                                                          refine lv_bipush (v := (32 : Int32)) C0.hx C0.hb dX15_symbol_271 (by decide) ?_
                                                                                          obtain rfl := Option.some.inj h
                                                                                          exact g_iret C0 hW rfl rfl rfl dX15_symbol_273
                                                                                        · replace h := (if_neg hc44).symm.trans h
                                                                                          by_cases hc45 : p1 = (84 : Int32)
                                                                                          · replace h := (if_pos hc45).symm.trans h
                                                                                            refine lv_tableIn (tgt := 271) C0.hx C0.hb dX15_symbol_1 (by rw [hc45]; decide) (by rw [hc45]; decide) (by rw [hc45]; rfl) (by decide) ?_
                                                                                            refine lv_bipush (v := (32 : Int32)) C0.hx C0.hb dX15_symbol_271 (by decide) ?_
                                                                                            obtain rfl := Option.some.inj h
                                                                                            exact g_iret C0 hW rfl rfl rfl dX15_symbol_273
                                                                                          · replace h := (if_neg hc45).symm.trans h
                                                                                            by_cases hc46 : p1 = (85 : Int32)
                                                                                            · replace h := (if_pos hc46).symm.trans h
                                                                                              refine lv_tableIn (tgt := 271) C0.hx C0.hb dX15_symbol_1 (by rw [hc46]; decide) (by rw [hc46]; decide) (by rw [hc46]; rfl) (by decide) ?_
                                                                                              refine lv_bipush (v := (32 : Int32)) C0.hx C0.hb dX15_symbol_271 (by decide) ?_
                                                                                              obtain rfl := Option.some.inj h
                                                                                              exact g_iret C0 hW rfl rfl rfl dX15_symbol_273
                                                                                            · replace h := (if_neg hc46).symm.trans h
                                                                                              by_cases hc47 : p1 = (86 : Int32)
                                                                                              · replace h := (if_pos hc47).symm.trans h
                                                                                                refine lv_tableIn (tgt := 271) C0.hx C0.hb dX15_symbol_1 (by rw [hc47]; decide) (by rw [hc47]; decide) (by rw [hc47]; rfl) (by decide) ?_
                                                                                                refine lv_bipush (v := (32 : Int32)) C0.hx C0.hb dX15_symbol_271 (by decide) ?_
                                                                                                obtain rfl := Option.some.inj h
                                                                                                exact g_iret C0 hW rfl rfl rfl dX15_symbol_273
                                                                                              · replace h := (if_neg hc47).symm.trans h
                                                                                                by_cases hc48 : p1 = (87 : Int32)
                                                                                                · replace h := (if_pos hc48).symm.trans h
                                                                                                  refine lv_tableIn (tgt := 271) C0.hx C0.hb dX15_symbol_1 (by rw [hc48]; decide) (by rw [hc48]; decide) (by rw [hc48]; rfl) (by decide) ?_
                                                                                                  refine lv_bipush (v := (32 : Int32)) C0.hx C0.hb dX15_symbol_271 (by decide) ?_
                                                                                                  obtain rfl := Option.some.inj h
                                                                                                  exact g_iret C0 hW rfl rfl rfl dX15_symbol_273
                                                                                                · replace h := (if_neg hc48).symm.trans h
                                                                                                  by_cases hc49 : p1 = (88 : Int32)
                                                                                                  · replace h := (if_pos hc49).symm.trans h
                                                                                                    refine lv_tableIn (tgt := 271) C0.hx C0.hb dX15_symbol_1 (by rw [hc49]; decide) (by rw [hc49]; decide) (by rw [hc49]; rfl) (by decide) ?_
                                                                                                    refine lv_bipush (v := (32 : Int32)) C0.hx C0.hb dX15_symbol_271 (by decide) ?_
                                                                                                    obtain rfl := Option.some.inj h
                                                                                                    exact g_iret C0 hW rfl rfl rfl dX15_symbol_273
                                                                                                  · replace h := (if_neg hc49).symm.trans h
                                                                                                    by_cases hc50 : p1 = (89 : Int32)
                                                                                                    · replace h := (if_pos hc50).symm.trans h
                                                                                                      refine lv_tableIn (tgt := 271) C0.hx C0.hb dX15_symbol_1 (by rw [hc50]; decide) (by rw [hc50]; decide) (by rw [hc50]; rfl) (by decide) ?_
                                                                                                      refine lv_bipush (v := (32 : Int32)) C0.hx C0.hb dX15_symbol_271 (by decide) ?_
                                                                                                      obtain rfl := Option.some.inj h
                                                                                                      exact g_iret C0 hW rfl rfl rfl dX15_symbol_273
                                                                                                    · replace h := (if_neg hc50).symm.trans h
                                                                                                      by_cases hc51 : p1 = (90 : Int32)
                                                                                                      · replace h := (if_pos hc51).symm.trans h
                                                                                                        refine lv_tableIn (tgt := 271) C0.hx C0.hb dX15_symbol_1 (by rw [hc51]; decide) (by rw [hc51]; decide) (by rw [hc51]; rfl) (by decide) ?_
                                                                                                        refine lv_bipush (v := (32 : Int32)) C0.hx C0.hb dX15_symbol_271 (by decide) ?_
                                                                                                        obtain rfl := Option.some.inj h
                                                                                                        exact g_iret C0 hW rfl rfl rfl dX15_symbol_273
                                                                                                      · replace h := (if_neg hc51).symm.trans h
                                                                                                        by_cases hc52 : p1 = (91 : Int32)
                                                                                                        · replace h := (if_pos hc52).symm.trans h
                                                                                                          refine lv_tableIn (tgt := 238) C0.hx C0.hb dX15_symbol_1 (by rw [hc52]; decide) (by rw [hc52]; decide) (by rw [hc52]; rfl) (by decide) ?_
                                                                                                          refine lv_bipush (v := (51 : Int32)) C0.hx C0.hb dX15_symbol_238 (by decide) ?_
                                                                                                          obtain rfl := Option.some.inj h
                                                                                                          exact g_iret C0 hW rfl rfl rfl dX15_symbol_240
                                                                                                        · replace h := (if_neg hc52).symm.trans h
                                                                                                          by_cases hc53 : p1 = (92 : Int32)
                                                                                                          · replace h := (if_pos hc53).symm.trans h
                                                                                                            refine lv_tableIn (tgt := 271) C0.hx C0.hb dX15_symbol_1 (by rw [hc53]; decide) (by rw [hc53]; decide) (by rw [hc53]; rfl) (by decide) ?_
                                                                                                            refine lv_bipush (v := (32 : Int32)) C0.hx C0.hb dX15_symbol_271 (by decide) ?_
                                                                                                            obtain rfl := Option.some.inj h
                                                                                                            exact g_iret C0 hW rfl rfl rfl dX15_symbol_273
                                                                                                          · replace h := (if_neg hc53).symm.trans h
                                                                                                            by_cases hc54 : p1 = (93 : Int32)
                                                                                                            · replace h := (if_pos hc54).symm.trans h
                                                                                                              refine lv_tableIn (tgt := 241) C0.hx C0.hb dX15_symbol_1 (by rw [hc54]; decide) (by rw [hc54]; decide) (by rw [hc54]; rfl) (by decide) ?_
                                                                                                              refine lv_bipush (v := (52 : Int32)) C0.hx C0.hb dX15_symbol_241 (by decide) ?_
                                                                                                              obtain rfl := Option.some.inj h
                                                                                                              exact g_iret C0 hW rfl rfl rfl dX15_symbol_243
                                                                                                            · replace h := (if_neg hc54).symm.trans h
                                                                                                              refine lv_tableOut (tgt := 271) C0.hx C0.hb dX15_symbol_1 (g_sw_X15_symbol_1 hc1 hc2 hc3 hc4 hc5 hc6 hc7 hc8 hc9 hc10 hc11 hc12 hc13 hc14 hc15 hc16 hc17 hc18 hc19 hc20 hc21 hc22 hc23 hc24 hc25 hc26 hc27 hc28 hc29 hc30 hc31 hc32 hc33 hc34 hc35 hc36 hc37 hc38 hc39 hc40 hc41 hc42 hc43 hc44 hc45 hc46 hc47 hc48 hc49 hc50 hc51 hc52 hc53 hc54) (by decide) ?_
                                                                                                              refine lv_bipush (v := (32 : Int32)) C0.hx C0.hb dX15_symbol_271 (by decide) ?_
                                                                                                              obtain rfl := Option.some.inj h
                                                                                                              exact g_iret C0 hW rfl rfl rfl dX15_symbol_273
set_option maxRecDepth 100000 in
set_option maxHeartbeats 4000000 in
theorem w_X15_read_239 {p : Program} {l : Launch} {e : Env} {s : State} {m : MethodId} {args : Array Value} {below : List Frame} {meth : Method} {c : Code} {G : GL} {ids : List Nat} {x : CS} {o : Nat → Int32}  {q : Int32 × MS}   (C0 : g_X G ids p s m args meth c cX15_read 6 RX15 (Option.some Jvm.ClassFile.FieldType.int))  : ∀  (l1 : Int32) (l2 : Int32) (l4 : Int32) (y : MS) (H : Heap) (locs : List Loc) (ls : Array Slot),  f_X15_read_239 l1 l2 l4 y = some q → g_W G ids (x, y, o) s.heap H locs → lv_has ls 6 [(0, .ref (g_ad G (120))), (1, .int (l1)), (2, .int (l2)), (4, .int (l4))] → W p l e (g_rm 13 0 0) s m args below meth c H locs 0 0 (MQ below (g_Qi G ids q.1 (x, q.2, o)) args s 0 0 (g_A G)) (F0 m 239 ls []) := by
  intro l1 l2 l4 y H locs ls h hW hl
  unfold f_X15_read_239 at h
  refine lv_aload_n C0.hx C0.hb dX15_read_239 rfl (lv_at hl 0 rfl) ?_
  refine gf_X15_7 C0 hW (C0.mem (i := 120) (Nat.le_of_ble_eq_true rfl)) k_120 tf_X15_26 dX15_read_240 ?_
  refine lv_iload_n C0.hx C0.hb dX15_read_243 rfl (lv_at hl 2 rfl) ?_
  refine lv_iload C0.hx C0.hb dX15_read_244 (lv_at hl 3 rfl) ?_
  refine lv_iload_n C0.hx C0.hb dX15_read_246 rfl (lv_at hl 1 rfl) ?_
  refine lv_isub C0.hx C0.hb dX15_read_247 ?_
  obtain ⟨hb17, h⟩ := g_if h
  refine gs_31 C0 hW (C0.mem (i := 125) (Nat.le_of_ble_eq_true rfl)) k_125 hb17 dX15_read_248 (fun H locs hW => ?_)
  refine lv_iload C0.hx C0.hb dX15_read_249 (lv_at hl 3 rfl) ?_
  obtain rfl := Option.some.inj h
  exact g_iret C0 hW rfl rfl rfl dX15_read_251
set_option maxRecDepth 100000 in
set_option maxHeartbeats 4000000 in
theorem w_X15_read_235 {p : Program} {l : Launch} {e : Env} {s : State} {m : MethodId} {args : Array Value} {below : List Frame} {meth : Method} {c : Code} {G : GL} {ids : List Nat} {x : CS} {o : Nat → Int32}  {q : Int32 × MS}   (C0 : g_X G ids p s m args meth c cX15_read 6 RX15 (Option.some Jvm.ClassFile.FieldType.int))  : ∀  (l1 : Int32) (l2 : Int32) (l4 : Int32) (s0 : Int32) (s1 : Int32) (y : MS) (H : Heap) (locs : List Loc) (ls : Array Slot),  f_X15_read_235 l1 l2 l4 s0 s1 y = some q → g_W G ids (x, y, o) s.heap H locs → lv_has ls 6 [(0, .ref (g_ad G (120))), (1, .int (l1)), (2, .int (l2)), (4, .int (l4))] → W p l e (g_rm 13 0 0) s m args below meth c H locs 0 0 (MQ below (g_Qi G ids q.1 (x, q.2, o)) args s 0 0 (g_A G)) (F0 m 235 ls [.int (s0), .int (s1), .ref (g_ad G (122))]) := by
  intro l1 l2 l4 s0 s1 y H locs ls h hW hl
  unfold f_X15_read_235 at h
  obtain ⟨hb33, h⟩ := g_if h
  refine gs_31 C0 hW (C0.mem (i := 122) (Nat.le_of_ble_eq_true rfl)) k_122 hb33 dX15_read_235 (fun H locs hW => ?_)
  refine lv_iinc (v := l4 + (1 : Int32)) (lv' := [(4, .int (l4 + (1 : Int32))), (0, .ref (g_ad G (120))), (1, .int (l1)), (2, .int (l2))]) C0.hx C0.hb dX15_read_236 hl (k := 3) rfl rfl (by decide) rfl (fun ls hl => ?_)
  exact w_X15_read_239 C0 _ _ _ _ _ _ _ h hW (lv_sub hl [1, 2, 3, 0] rfl)
set_option maxRecDepth 100000 in
set_option maxHeartbeats 4000000 in
theorem w_X15_read_201 {p : Program} {l : Launch} {e : Env} {s : State} {m : MethodId} {args : Array Value} {below : List Frame} {meth : Method} {c : Code} {G : GL} {ids : List Nat} {x : CS} {o : Nat → Int32}  {q : Int32 × MS}   (C0 : g_X G ids p s m args meth c cX15_read 6 RX15 (Option.some Jvm.ClassFile.FieldType.int))  : ∀  (l1 : Int32) (l2 : Int32) (l4 : Int32) (y : MS) (H : Heap) (locs : List Loc) (ls : Array Slot),  f_X15_read_201 l1 l2 l4 y = some q → g_W G ids (x, y, o) s.heap H locs → lv_has ls 6 [(0, .ref (g_ad G (120))), (1, .int (l1)), (2, .int (l2)), (4, .int (l4))] → W p l e (g_rm 13 0 0) s m args below meth c H locs 0 0 (MQ below (g_Qi G ids q.1 (x, q.2, o)) args s 0 0 (g_A G)) (F0 m 201 ls []) := by
  intro l1 l2 l4 y H locs ls h hW hl
  unfold f_X15_read_201 at h
  refine lv_aload_n C0.hx C0.hb dX15_read_201 rfl (lv_at hl 0 rfl) ?_
  refine lv_iload C0.hx C0.hb dX15_read_202 (lv_at hl 3 rfl) ?_
  obtain ⟨q13, hq13, h⟩ := Option.bind_eq_some_iff.mp h
  refine g_calli hW (g_runV (As := [.int (l4)]) (rest := []) C0 hW (c_X15_byteAt hq13) (g_cwOf (n := 1) tc_X15_byteAt tn_X15 md_X15_byteAt (by decide) (by omega)) tm_X15_93 ti_X15_byteAt ts_X15_byteAt (C0.mem (i := 120) (Nat.le_of_ble_eq_true rfl)) (g_c12 k_120) rfl rfl hl.1 rfl (Nat.le_of_ble_eq_true rfl) dX15_read_204) (fun H locs hW => ?_)
  refine lv_bipush (v := (61 : Int32)) C0.hx C0.hb dX15_read_207 (by decide) ?_
  refine lv_icmp_ne (tgt := 239) C0.hx C0.hb dX15_read_209 (by decide) (fun hc14 => ?_) (fun hc14 => ?_)
  · replace h := (if_neg hc14).symm.trans h
    exact w_X15_read_239 C0 _ _ _ _ _ _ _ h hW (lv_sub hl [0, 1, 2, 3] rfl)
  · replace h := (if_pos hc14).symm.trans h
    refine lv_aload_n C0.hx C0.hb dX15_read_212 rfl (lv_at hl 0 rfl) ?_
    refine gf_X15_4 C0 hW (C0.mem (i := 120) (Nat.le_of_ble_eq_true rfl)) k_120 tf_X15_17 dX15_read_213 ?_
    refine lv_iload_n C0.hx C0.hb dX15_read_216 rfl (lv_at hl 2 rfl) ?_
    refine lv_aload_n C0.hx C0.hb dX15_read_217 rfl (lv_at hl 0 rfl) ?_
    refine gf_X15_4 C0 hW (C0.mem (i := 120) (Nat.le_of_ble_eq_true rfl)) k_120 tf_X15_17 dX15_read_218 ?_
    refine lv_iload_n C0.hx C0.hb dX15_read_221 rfl (lv_at hl 2 rfl) ?_
    obtain ⟨hb15, h⟩ := g_if h
    refine ga_31 C0 hW (C0.mem (i := 122) (Nat.le_of_ble_eq_true rfl)) k_122 hb15 dX15_read_222 ?_
    refine lv_bipush (v := (44 : Int32)) C0.hx C0.hb dX15_read_223 (by decide) ?_
    refine lv_icmp_ne (tgt := 233) C0.hx C0.hb dX15_read_225 (by decide) (fun hc16 => ?_) (fun hc16 => ?_)
    · replace h := (if_neg hc16).symm.trans h
      refine lv_bipush (v := (48 : Int32)) C0.hx C0.hb dX15_read_233 (by decide) ?_
      exact w_X15_read_235 C0 _ _ _ _ _ _ _ _ _ h hW (lv_sub hl [0, 1, 2, 3] rfl)
    · replace h := (if_pos hc16).symm.trans h
      refine lv_bipush (v := (47 : Int32)) C0.hx C0.hb dX15_read_228 (by decide) ?_
      refine lv_goto (tgt := 235) C0.hx C0.hb dX15_read_230 (by decide) ?_
      exact w_X15_read_235 C0 _ _ _ _ _ _ _ _ _ h hW (lv_sub hl [0, 1, 2, 3] rfl)
set_option maxRecDepth 100000 in
set_option maxHeartbeats 4000000 in
theorem w_X15_read_165 {p : Program} {l : Launch} {e : Env} {s : State} {m : MethodId} {args : Array Value} {below : List Frame} {meth : Method} {c : Code} {G : GL} {ids : List Nat} {x : CS} {o : Nat → Int32}  {q : Int32 × MS}   (C0 : g_X G ids p s m args meth c cX15_read 6 RX15 (Option.some Jvm.ClassFile.FieldType.int))  : ∀  (l1 : Int32) (l2 : Int32) (l4 : Int32) (s0 : Int32) (s1 : Int32) (y : MS) (H : Heap) (locs : List Loc) (ls : Array Slot),  f_X15_read_165 l1 l2 l4 s0 s1 y = some q → g_W G ids (x, y, o) s.heap H locs → lv_has ls 6 [(0, .ref (g_ad G (120))), (1, .int (l1)), (2, .int (l2)), (4, .int (l4))] → W p l e (g_rm 13 0 0) s m args below meth c H locs 0 0 (MQ below (g_Qi G ids q.1 (x, q.2, o)) args s 0 0 (g_A G)) (F0 m 165 ls [.int (s0), .int (s1), .ref (g_ad G (122))]) := by
  intro l1 l2 l4 s0 s1 y H locs ls h hW hl
  unfold f_X15_read_165 at h
  obtain ⟨hb34, h⟩ := g_if h
  refine gs_31 C0 hW (C0.mem (i := 122) (Nat.le_of_ble_eq_true rfl)) k_122 hb34 dX15_read_165 (fun H locs hW => ?_)
  refine lv_goto (tgt := 239) C0.hx C0.hb dX15_read_166 (by decide) ?_
  exact w_X15_read_239 C0 _ _ _ _ _ _ _ h hW (lv_sub hl [0, 1, 2, 3] rfl)
set_option maxRecDepth 100000 in
set_option maxHeartbeats 4000000 in
theorem w_X15_read_87 {p : Program} {l : Launch} {e : Env} {s : State} {m : MethodId} {args : Array Value} {below : List Frame} {meth : Method} {c : Code} {G : GL} {ids : List Nat} {x : CS} {o : Nat → Int32}  {q : Int32 × MS}   (C0 : g_X G ids p s m args meth c cX15_read 6 RX15 (Option.some Jvm.ClassFile.FieldType.int))  : ∀ (n : Nat) (l1 : Int32) (l2 : Int32) (l4 : Int32) (l5 : Int32) (y : MS) (H : Heap) (locs : List Loc) (ls : Array Slot),  f_X15_read_87 n l1 l2 l4 l5 y = some q → g_W G ids (x, y, o) s.heap H locs → lv_has ls 6 [(0, .ref (g_ad G (120))), (1, .int (l1)), (2, .int (l2)), (4, .int (l4)), (5, .int (l5))] → W p l e (g_rm 13 0 0) s m args below meth c H locs 0 0 (MQ below (g_Qi G ids q.1 (x, q.2, o)) args s 0 0 (g_A G)) (F0 m 87 ls []) := by
  intro n
  induction n with
  | zero =>
    intro l1 l2 l4 l5 y H locs ls h hW hl
    exact absurd h (by simp [f_X15_read_87])
  | succ n ih =>
    intro l1 l2 l4 l5 y H locs ls h hW hl
    unfold f_X15_read_87 at h
    refine lv_aload_n C0.hx C0.hb dX15_read_87 rfl (lv_at hl 0 rfl) ?_
    refine lv_iload C0.hx C0.hb dX15_read_88 (lv_at hl 3 rfl) ?_
    obtain ⟨q18, hq18, h⟩ := Option.bind_eq_some_iff.mp h
    refine g_calli hW (g_runV (As := [.int (l4)]) (rest := []) C0 hW (c_X15_byteAt hq18) (g_cwOf (n := 1) tc_X15_byteAt tn_X15 md_X15_byteAt (by decide) (by omega)) tm_X15_93 ti_X15_byteAt ts_X15_byteAt (C0.mem (i := 120) (Nat.le_of_ble_eq_true rfl)) (g_c12 k_120) rfl rfl hl.1 rfl (Nat.le_of_ble_eq_true rfl) dX15_read_90) (fun H locs hW => ?_)
    obtain ⟨q19, hq19, h⟩ := Option.bind_eq_some_iff.mp h
    refine g_calli hW (g_runS (As := [.int (q18)]) (rest := []) C0 hW (c_X15_isDigit hq19) (g_cwOf (n := 1) tc_X15_isDigit tn_X15 md_X15_isDigit (by decide) (by omega)) tm_X15_97 tz_X15_isDigit rfl hl.1 rfl (Nat.le_of_ble_eq_true rfl) dX15_read_93) (fun H locs hW => ?_)
    refine lv_if_eq (tgt := 136) C0.hx C0.hb dX15_read_96 (by decide) (fun hc20 => ?_) (fun hc20 => ?_)
    · replace h := (if_pos hc20).symm.trans h
      refine lv_aload_n C0.hx C0.hb dX15_read_136 rfl (lv_at hl 0 rfl) ?_
      refine gf_X15_5 C0 hW (C0.mem (i := 120) (Nat.le_of_ble_eq_true rfl)) k_120 tf_X15_20 dX15_read_137 ?_
      refine lv_iload_n C0.hx C0.hb dX15_read_140 rfl (lv_at hl 2 rfl) ?_
      refine lv_iload C0.hx C0.hb dX15_read_141 (lv_at hl 4 rfl) ?_
      obtain ⟨hb21, h⟩ := g_if h
      refine gs_31 C0 hW (C0.mem (i := 123) (Nat.le_of_ble_eq_true rfl)) k_123 hb21 dX15_read_143 (fun H locs hW => ?_)
      refine lv_aload_n C0.hx C0.hb dX15_read_144 rfl (lv_at hl 0 rfl) ?_
      refine gf_X15_4 C0 hW (C0.mem (i := 120) (Nat.le_of_ble_eq_true rfl)) k_120 tf_X15_17 dX15_read_145 ?_
      refine lv_iload_n C0.hx C0.hb dX15_read_148 rfl (lv_at hl 2 rfl) ?_
      refine lv_iload C0.hx C0.hb dX15_read_149 (lv_at hl 3 rfl) ?_
      refine lv_iload_n C0.hx C0.hb dX15_read_151 rfl (lv_at hl 1 rfl) ?_
      refine lv_isub C0.hx C0.hb dX15_read_152 ?_
      refine lv_bipush (v := (6 : Int32)) C0.hx C0.hb dX15_read_153 (by decide) ?_
      refine lv_icmp_le (tgt := 163) C0.hx C0.hb dX15_read_155 (by decide) (fun hc22 => ?_) (fun hc22 => ?_)
      · replace h := (if_pos hc22).symm.trans h
        refine lv_bipush (v := (31 : Int32)) C0.hx C0.hb dX15_read_163 (by decide) ?_
        exact w_X15_read_165 C0 _ _ _ _ _ _ _ _ _ h hW (lv_sub hl [0, 1, 2, 3] rfl)
      · replace h := (if_neg hc22).symm.trans h
        refine lv_bipush (v := (32 : Int32)) C0.hx C0.hb dX15_read_158 (by decide) ?_
        refine lv_goto (tgt := 165) C0.hx C0.hb dX15_read_160 (by decide) ?_
        exact w_X15_read_165 C0 _ _ _ _ _ _ _ _ _ h hW (lv_sub hl [0, 1, 2, 3] rfl)
    · replace h := (if_neg hc20).symm.trans h
      refine lv_iload C0.hx C0.hb dX15_read_99 (lv_at hl 3 rfl) ?_
      refine lv_iload_n C0.hx C0.hb dX15_read_101 rfl (lv_at hl 1 rfl) ?_
      refine lv_isub C0.hx C0.hb dX15_read_102 ?_
      refine lv_bipush (v := (7 : Int32)) C0.hx C0.hb dX15_read_103 (by decide) ?_
      refine lv_icmp_ge (tgt := 126) C0.hx C0.hb dX15_read_105 (by decide) (fun hc23 => ?_) (fun hc23 => ?_)
      · replace h := (if_pos hc23).symm.trans h
        refine lv_iload C0.hx C0.hb dX15_read_126 (lv_at hl 4 rfl) ?_
        refine lv_istore (lv' := [(5, .int (l5)), (0, .ref (g_ad G (120))), (1, .int (l1)), (2, .int (l2)), (4, .int (l4))]) C0.hx C0.hb dX15_read_128 hl (by decide) rfl (fun ls hl => ?_)
        refine lv_iinc (v := l4 + (1 : Int32)) (lv' := [(4, .int (l4 + (1 : Int32))), (5, .int (l5)), (0, .ref (g_ad G (120))), (1, .int (l1)), (2, .int (l2))]) C0.hx C0.hb dX15_read_130 hl (k := 4) rfl rfl (by decide) rfl (fun ls hl => ?_)
        refine lv_goto (tgt := 87) C0.hx C0.hb dX15_read_133 (by decide) ?_
        exact ih _ _ _ _ _ _ _ _ h hW (lv_sub hl [2, 3, 4, 0, 1] rfl)
      · replace h := (if_neg hc23).symm.trans h
        refine lv_bipush (v := (10 : Int32)) C0.hx C0.hb dX15_read_108 (by decide) ?_
        refine lv_iload C0.hx C0.hb dX15_read_110 (lv_at hl 4 rfl) ?_
        refine lv_imul C0.hx C0.hb dX15_read_112 ?_
        refine lv_aload_n C0.hx C0.hb dX15_read_113 rfl (lv_at hl 0 rfl) ?_
        refine lv_iload C0.hx C0.hb dX15_read_114 (lv_at hl 3 rfl) ?_
        obtain ⟨q24, hq24, h⟩ := Option.bind_eq_some_iff.mp h
        refine g_calli hW (g_runV (As := [.int (l4)]) (rest := [.int ((10 : Int32) * l5)]) C0 hW (c_X15_byteAt hq24) (g_cwOf (n := 1) tc_X15_byteAt tn_X15 md_X15_byteAt (by decide) (by omega)) tm_X15_93 ti_X15_byteAt ts_X15_byteAt (C0.mem (i := 120) (Nat.le_of_ble_eq_true rfl)) (g_c12 k_120) rfl rfl hl.1 rfl (Nat.le_of_ble_eq_true rfl) dX15_read_116) (fun H locs hW => ?_)
        refine lv_iadd C0.hx C0.hb dX15_read_119 ?_
        refine lv_bipush (v := (48 : Int32)) C0.hx C0.hb dX15_read_120 (by decide) ?_
        refine lv_isub C0.hx C0.hb dX15_read_122 ?_
        refine lv_goto (tgt := 128) C0.hx C0.hb dX15_read_123 (by decide) ?_
        refine lv_istore (lv' := [(5, .int ((((10 : Int32) * l5) + q24) - (48 : Int32))), (0, .ref (g_ad G (120))), (1, .int (l1)), (2, .int (l2)), (4, .int (l4))]) C0.hx C0.hb dX15_read_128 hl (by decide) rfl (fun ls hl => ?_)
        refine lv_iinc (v := l4 + (1 : Int32)) (lv' := [(4, .int (l4 + (1 : Int32))), (5, .int ((((10 : Int32) * l5) + q24) - (48 : Int32))), (0, .ref (g_ad G (120))), (1, .int (l1)), (2, .int (l2))]) C0.hx C0.hb dX15_read_130 hl (k := 4) rfl rfl (by decide) rfl (fun ls hl => ?_)
        refine lv_goto (tgt := 87) C0.hx C0.hb dX15_read_133 (by decide) ?_
        exact ih _ _ _ _ _ _ _ _ h hW (lv_sub hl [2, 3, 4, 0, 1] rfl)
set_option maxRecDepth 100000 in
set_option maxHeartbeats 4000000 in
theorem w_X15_read_26 {p : Program} {l : Launch} {e : Env} {s : State} {m : MethodId} {args : Array Value} {below : List Frame} {meth : Method} {c : Code} {G : GL} {ids : List Nat} {x : CS} {o : Nat → Int32}  {q : Int32 × MS}   (C0 : g_X G ids p s m args meth c cX15_read 6 RX15 (Option.some Jvm.ClassFile.FieldType.int))  : ∀ (n : Nat) (l1 : Int32) (l2 : Int32) (l4 : Int32) (y : MS) (H : Heap) (locs : List Loc) (ls : Array Slot),  f_X15_read_26 n l1 l2 l4 y = some q → g_W G ids (x, y, o) s.heap H locs → lv_has ls 6 [(0, .ref (g_ad G (120))), (1, .int (l1)), (2, .int (l2)), (4, .int (l4))] → W p l e (g_rm 13 0 0) s m args below meth c H locs 0 0 (MQ below (g_Qi G ids q.1 (x, q.2, o)) args s 0 0 (g_A G)) (F0 m 26 ls []) := by
  intro n
  induction n with
  | zero =>
    intro l1 l2 l4 y H locs ls h hW hl
    exact absurd h (by simp [f_X15_read_26])
  | succ n ih =>
    intro l1 l2 l4 y H locs ls h hW hl
    unfold f_X15_read_26 at h
    refine lv_aload_n C0.hx C0.hb dX15_read_26 rfl (lv_at hl 0 rfl) ?_
    refine lv_iload C0.hx C0.hb dX15_read_27 (lv_at hl 3 rfl) ?_
    obtain ⟨q25, hq25, h⟩ := Option.bind_eq_some_iff.mp h
    refine g_calli hW (g_runV (As := [.int (l4)]) (rest := []) C0 hW (c_X15_byteAt hq25) (g_cwOf (n := 1) tc_X15_byteAt tn_X15 md_X15_byteAt (by decide) (by omega)) tm_X15_93 ti_X15_byteAt ts_X15_byteAt (C0.mem (i := 120) (Nat.le_of_ble_eq_true rfl)) (g_c12 k_120) rfl rfl hl.1 rfl (Nat.le_of_ble_eq_true rfl) dX15_read_29) (fun H locs hW => ?_)
    obtain ⟨q26, hq26, h⟩ := Option.bind_eq_some_iff.mp h
    refine g_calli hW (g_runS (As := [.int (q25)]) (rest := []) C0 hW (c_X15_isLetter hq26) (g_cwOf (n := 1) tc_X15_isLetter tn_X15 md_X15_isLetter (by decide) (by omega)) tm_X15_89 tz_X15_isLetter rfl hl.1 rfl (Nat.le_of_ble_eq_true rfl) dX15_read_32) (fun H locs hW => ?_)
    refine lv_if_ne (tgt := 50) C0.hx C0.hb dX15_read_35 (by decide) (fun hc27 => ?_) (fun hc27 => ?_)
    · replace h := (if_neg hc27).symm.trans h
      refine lv_iinc (v := l4 + (1 : Int32)) (lv' := [(4, .int (l4 + (1 : Int32))), (0, .ref (g_ad G (120))), (1, .int (l1)), (2, .int (l2))]) C0.hx C0.hb dX15_read_50 hl (k := 3) rfl rfl (by decide) rfl (fun ls hl => ?_)
      refine lv_goto (tgt := 26) C0.hx C0.hb dX15_read_53 (by decide) ?_
      exact ih _ _ _ _ _ _ _ h hW (lv_sub hl [1, 2, 3, 0] rfl)
    · replace h := (if_pos hc27).symm.trans h
      refine lv_aload_n C0.hx C0.hb dX15_read_38 rfl (lv_at hl 0 rfl) ?_
      refine lv_iload C0.hx C0.hb dX15_read_39 (lv_at hl 3 rfl) ?_
      obtain ⟨q28, hq28, h⟩ := Option.bind_eq_some_iff.mp h
      refine g_calli hW (g_runV (As := [.int (l4)]) (rest := []) C0 hW (c_X15_byteAt hq28) (g_cwOf (n := 1) tc_X15_byteAt tn_X15 md_X15_byteAt (by decide) (by omega)) tm_X15_93 ti_X15_byteAt ts_X15_byteAt (C0.mem (i := 120) (Nat.le_of_ble_eq_true rfl)) (g_c12 k_120) rfl rfl hl.1 rfl (Nat.le_of_ble_eq_true rfl) dX15_read_41) (fun H locs hW => ?_)
      obtain ⟨q29, hq29, h⟩ := Option.bind_eq_some_iff.mp h
      refine g_calli hW (g_runS (As := [.int (q28)]) (rest := []) C0 hW (c_X15_isDigit hq29) (g_cwOf (n := 1) tc_X15_isDigit tn_X15 md_X15_isDigit (by decide) (by omega)) tm_X15_97 tz_X15_isDigit rfl hl.1 rfl (Nat.le_of_ble_eq_true rfl) dX15_read_44) (fun H locs hW => ?_)
      refine lv_if_eq (tgt := 56) C0.hx C0.hb dX15_read_47 (by decide) (fun hc30 => ?_) (fun hc30 => ?_)
      · replace h := (if_pos hc30).symm.trans h
        refine lv_aload_n C0.hx C0.hb dX15_read_56 rfl (lv_at hl 0 rfl) ?_
        refine gf_X15_4 C0 hW (C0.mem (i := 120) (Nat.le_of_ble_eq_true rfl)) k_120 tf_X15_17 dX15_read_57 ?_
        refine lv_iload_n C0.hx C0.hb dX15_read_60 rfl (lv_at hl 2 rfl) ?_
        refine lv_aload_n C0.hx C0.hb dX15_read_61 rfl (lv_at hl 0 rfl) ?_
        refine lv_iload_n C0.hx C0.hb dX15_read_62 rfl (lv_at hl 1 rfl) ?_
        refine lv_iload C0.hx C0.hb dX15_read_63 (lv_at hl 3 rfl) ?_
        refine lv_iload_n C0.hx C0.hb dX15_read_65 rfl (lv_at hl 1 rfl) ?_
        refine lv_isub C0.hx C0.hb dX15_read_66 ?_
        obtain ⟨q31, hq31, h⟩ := Option.bind_eq_some_iff.mp h
        refine g_calli hW (g_runV (As := [.int (l1), .int (l4 - l1)]) (rest := [.int (l2), .ref (g_ad G (122))]) C0 hW (c_X15_keyword hq31) (g_cwOf (n := 2) tc_X15_keyword tn_X15 md_X15_keyword (by decide) (by omega)) tm_X15_100 ti_X15_keyword ts_X15_keyword (C0.mem (i := 120) (Nat.le_of_ble_eq_true rfl)) (g_c12 k_120) rfl rfl hl.1 rfl (Nat.le_of_ble_eq_true rfl) dX15_read_67) (fun H locs hW => ?_)
        obtain ⟨hb32, h⟩ := g_if h
        refine gs_31 C0 hW (C0.mem (i := 122) (Nat.le_of_ble_eq_true rfl)) k_122 hb32 dX15_read_70 (fun H locs hW => ?_)
        refine lv_goto (tgt := 239) C0.hx C0.hb dX15_read_71 (by decide) ?_
        exact w_X15_read_239 C0 _ _ _ _ _ _ _ h hW (lv_sub hl [0, 1, 2, 3] rfl)
      · replace h := (if_neg hc30).symm.trans h
        refine lv_iinc (v := l4 + (1 : Int32)) (lv' := [(4, .int (l4 + (1 : Int32))), (0, .ref (g_ad G (120))), (1, .int (l1)), (2, .int (l2))]) C0.hx C0.hb dX15_read_50 hl (k := 3) rfl rfl (by decide) rfl (fun ls hl => ?_)
        refine lv_goto (tgt := 26) C0.hx C0.hb dX15_read_53 (by decide) ?_
        exact ih _ _ _ _ _ _ _ h hW (lv_sub hl [1, 2, 3, 0] rfl)
set_option maxRecDepth 100000 in
set_option maxHeartbeats 4000000 in
theorem c_X15_read {l : Launch} {G : GL} {ids : List Nat} {x : CS} {o : Nat → Int32} {y : MS} {p1 : Int32} {p2 : Int32} {q : Int32 × MS}    (h : f_X15_read p1 p2 y = some q) : Met l yX15_read (.code yX15_read cX15_read 6 (Option.some Jvm.ClassFile.FieldType.int) :: gT) (g_rm 13 0 0) (va_Pc [.ref (g_ad G (120)), .int (p1), .int (p2)] (g_P G ids (x, y, o))) (g_Qi G ids q.1 (x, q.2, o)) 0 0 (g_A G) := by
  unfold f_X15_read at h
  refine g_entry (by decide) (Nat.le_of_ble_eq_true rfl) (fun p e s m args below meth c ls C0 hl hW _ => ?_)
  have hl : lv_has ls 6 [(0, .ref (g_ad G (120))), (1, .int (p1)), (2, .int (p2))] := hl
  refine lv_aload_n C0.hx C0.hb dX15_read_0 rfl (lv_at hl 0 rfl) ?_
  refine gf_X15_1 C0 hW (C0.mem (i := 120) (Nat.le_of_ble_eq_true rfl)) k_120 tf_X15_9 dX15_read_1 ?_
  refine lv_iload_n C0.hx C0.hb dX15_read_4 rfl (lv_at hl 1 rfl) ?_
  obtain ⟨hb1, h⟩ := g_if h
  refine ga_30 C0 hW (C0.mem (i := 121) (Nat.le_of_ble_eq_true rfl)) k_121 hb1 dX15_read_5 ?_
  refine lv_istore_n (lv' := [(3, .int (y 121 p1.toNatClampNeg)), (0, .ref (g_ad G (120))), (1, .int (p1)), (2, .int (p2))]) C0.hx C0.hb dX15_read_6 rfl hl (by decide) rfl (fun ls hl => ?_)
  refine lv_iload_n C0.hx C0.hb dX15_read_7 rfl (lv_at hl 2 rfl) ?_
  refine lv_iconst (v := (1 : Int32)) C0.hx C0.hb dX15_read_8 (by decide) ?_
  refine lv_iadd C0.hx C0.hb dX15_read_9 ?_
  refine lv_istore (lv' := [(4, .int (p1 + (1 : Int32))), (3, .int (y 121 p1.toNatClampNeg)), (0, .ref (g_ad G (120))), (1, .int (p1)), (2, .int (p2))]) C0.hx C0.hb dX15_read_10 hl (by decide) rfl (fun ls hl => ?_)
  refine lv_aload_n C0.hx C0.hb dX15_read_12 rfl (lv_at hl 2 rfl) ?_
  refine gf_X15_6 C0 hW (C0.mem (i := 120) (Nat.le_of_ble_eq_true rfl)) k_120 tf_X15_23 dX15_read_13 ?_
  refine lv_iload_n C0.hx C0.hb dX15_read_16 rfl (lv_at hl 4 rfl) ?_
  refine lv_iload_n C0.hx C0.hb dX15_read_17 rfl (lv_at hl 3 rfl) ?_
  obtain ⟨hb2, h⟩ := g_if h
  refine gs_31 C0 hW (C0.mem (i := 124) (Nat.le_of_ble_eq_true rfl)) k_124 hb2 dX15_read_18 (fun H locs hW => ?_)
  refine lv_iload_n C0.hx C0.hb dX15_read_19 rfl (lv_at hl 1 rfl) ?_
  obtain ⟨q3, hq3, h⟩ := Option.bind_eq_some_iff.mp h
  refine g_calli hW (g_runS (As := [.int (y 121 p1.toNatClampNeg)]) (rest := []) C0 hW (c_X15_isLetter hq3) (g_cwOf (n := 1) tc_X15_isLetter tn_X15 md_X15_isLetter (by decide) (by omega)) tm_X15_89 tz_X15_isLetter rfl hl.1 rfl (Nat.le_of_ble_eq_true rfl) dX15_read_20) (fun H locs hW => ?_)
  refine lv_if_eq (tgt := 74) C0.hx C0.hb dX15_read_23 (by decide) (fun hc4 => ?_) (fun hc4 => ?_)
  · replace h := (if_pos hc4).symm.trans h
    refine lv_iload_n C0.hx C0.hb dX15_read_74 rfl (lv_at hl 1 rfl) ?_
    obtain ⟨q5, hq5, h⟩ := Option.bind_eq_some_iff.mp h
    refine g_calli hW (g_runS (As := [.int (y 121 p1.toNatClampNeg)]) (rest := []) C0 hW (c_X15_isDigit hq5) (g_cwOf (n := 1) tc_X15_isDigit tn_X15 md_X15_isDigit (by decide) (by omega)) tm_X15_97 tz_X15_isDigit rfl hl.1 rfl (Nat.le_of_ble_eq_true rfl) dX15_read_75) (fun H locs hW => ?_)
    refine lv_if_eq (tgt := 169) C0.hx C0.hb dX15_read_78 (by decide) (fun hc6 => ?_) (fun hc6 => ?_)
    · replace h := (if_pos hc6).symm.trans h
      refine lv_aload_n C0.hx C0.hb dX15_read_169 rfl (lv_at hl 2 rfl) ?_
      refine gf_X15_4 C0 hW (C0.mem (i := 120) (Nat.le_of_ble_eq_true rfl)) k_120 tf_X15_17 dX15_read_170 ?_
      refine lv_iload_n C0.hx C0.hb dX15_read_173 rfl (lv_at hl 4 rfl) ?_
      refine lv_iload_n C0.hx C0.hb dX15_read_174 rfl (lv_at hl 1 rfl) ?_
      obtain ⟨q7, hq7, h⟩ := Option.bind_eq_some_iff.mp h
      refine g_calli hW (g_runS (As := [.int (y 121 p1.toNatClampNeg)]) (rest := [.int (p2), .ref (g_ad G (122))]) C0 hW (c_X15_symbol hq7) (g_cwOf (n := 1) tc_X15_symbol tn_X15 md_X15_symbol (by decide) (by omega)) tm_X15_104 tz_X15_symbol rfl hl.1 rfl (Nat.le_of_ble_eq_true rfl) dX15_read_175) (fun H locs hW => ?_)
      obtain ⟨hb8, h⟩ := g_if h
      refine gs_31 C0 hW (C0.mem (i := 122) (Nat.le_of_ble_eq_true rfl)) k_122 hb8 dX15_read_178 (fun H locs hW => ?_)
      refine lv_aload_n C0.hx C0.hb dX15_read_179 rfl (lv_at hl 2 rfl) ?_
      refine gf_X15_4 C0 hW (C0.mem (i := 120) (Nat.le_of_ble_eq_true rfl)) k_120 tf_X15_17 dX15_read_180 ?_
      refine lv_iload_n C0.hx C0.hb dX15_read_183 rfl (lv_at hl 4 rfl) ?_
      obtain ⟨hb9, h⟩ := g_if h
      refine ga_31 C0 hW (C0.mem (i := 122) (Nat.le_of_ble_eq_true rfl)) k_122 hb9 dX15_read_184 ?_
      refine lv_bipush (v := (44 : Int32)) C0.hx C0.hb dX15_read_185 (by decide) ?_
      refine lv_icmp_eq (tgt := 201) C0.hx C0.hb dX15_read_187 (by decide) (fun hc10 => ?_) (fun hc10 => ?_)
      · replace h := (if_pos hc10).symm.trans h
        exact w_X15_read_201 C0 _ _ _ _ _ _ _ h hW (lv_sub hl [2, 3, 4, 0] rfl)
      · replace h := (if_neg hc10).symm.trans h
        refine lv_aload_n C0.hx C0.hb dX15_read_190 rfl (lv_at hl 2 rfl) ?_
        refine gf_X15_4 C0 hW (C0.mem (i := 120) (Nat.le_of_ble_eq_true rfl)) k_120 tf_X15_17 dX15_read_191 ?_
        refine lv_iload_n C0.hx C0.hb dX15_read_194 rfl (lv_at hl 4 rfl) ?_
        obtain ⟨hb11, h⟩ := g_if h
        refine ga_31 C0 hW (C0.mem (i := 122) (Nat.le_of_ble_eq_true rfl)) k_122 hb11 dX15_read_195 ?_
        refine lv_bipush (v := (45 : Int32)) C0.hx C0.hb dX15_read_196 (by decide) ?_
        refine lv_icmp_ne (tgt := 239) C0.hx C0.hb dX15_read_198 (by decide) (fun hc12 => ?_) (fun hc12 => ?_)
        · replace h := (if_neg hc12).symm.trans h
          exact w_X15_read_239 C0 _ _ _ _ _ _ _ h hW (lv_sub hl [2, 3, 4, 0] rfl)
        · replace h := (if_pos hc12).symm.trans h
          exact w_X15_read_201 C0 _ _ _ _ _ _ _ h hW (lv_sub hl [2, 3, 4, 0] rfl)
    · replace h := (if_neg hc6).symm.trans h
      refine lv_iload_n C0.hx C0.hb dX15_read_81 rfl (lv_at hl 1 rfl) ?_
      refine lv_bipush (v := (48 : Int32)) C0.hx C0.hb dX15_read_82 (by decide) ?_
      refine lv_isub C0.hx C0.hb dX15_read_84 ?_
      refine lv_istore (lv' := [(5, .int ((y 121 p1.toNatClampNeg) - (48 : Int32))), (4, .int (p1 + (1 : Int32))), (3, .int (y 121 p1.toNatClampNeg)), (0, .ref (g_ad G (120))), (1, .int (p1)), (2, .int (p2))]) C0.hx C0.hb dX15_read_85 hl (by decide) rfl (fun ls hl => ?_)
      exact w_X15_read_87 C0 g_fuel _ _ _ _ _ _ _ _ h hW (lv_sub hl [3, 4, 5, 1, 0] rfl)
  · replace h := (if_neg hc4).symm.trans h
    exact w_X15_read_26 C0 g_fuel _ _ _ _ _ _ _ h hW (lv_sub hl [2, 3, 4, 0] rfl)
set_option maxRecDepth 100000 in
set_option maxHeartbeats 4000000 in
theorem w_X15_skip_2 {p : Program} {l : Launch} {e : Env} {s : State} {m : MethodId} {args : Array Value} {below : List Frame} {meth : Method} {c : Code} {G : GL} {ids : List Nat} {x : CS} {o : Nat → Int32} {y : MS} {q : Int32}   (C0 : g_X G ids p s m args meth c cX15_skip 3 RX15 (Option.some Jvm.ClassFile.FieldType.int))  : ∀ (n : Nat) (l2 : Int32)  (H : Heap) (locs : List Loc) (ls : Array Slot),  f_X15_skip_2 y n l2 = some q → g_W G ids (x, y, o) s.heap H locs → lv_has ls 3 [(0, .ref (g_ad G (120))), (2, .int (l2))] → W p l e (g_rm 1 0 0) s m args below meth c H locs 0 0 (MQ below (g_Qi G ids q (x, y, o)) args s 0 0 (g_A G)) (F0 m 2 ls []) := by
  intro n
  induction n with
  | zero =>
    intro l2 H locs ls h hW hl
    exact absurd h (by simp [f_X15_skip_2])
  | succ n ih =>
    intro l2 H locs ls h hW hl
    unfold f_X15_skip_2 at h
    refine lv_aload_n C0.hx C0.hb dX15_skip_2 rfl (lv_at hl 0 rfl) ?_
    refine lv_iload_n C0.hx C0.hb dX15_skip_3 rfl (lv_at hl 1 rfl) ?_
    obtain ⟨q1, hq1, h⟩ := Option.bind_eq_some_iff.mp h
    refine g_calli hW (g_runV (As := [.int (l2)]) (rest := []) C0 hW (c_X15_byteAt hq1) (g_cwOf (n := 1) tc_X15_byteAt tn_X15 md_X15_byteAt (by decide) (by omega)) tm_X15_93 ti_X15_byteAt ts_X15_byteAt (C0.mem (i := 120) (Nat.le_of_ble_eq_true rfl)) (g_c12 k_120) rfl rfl hl.1 rfl (Nat.le_of_ble_eq_true rfl) dX15_skip_4) (fun H locs hW => ?_)
    refine lv_bipush (v := (32 : Int32)) C0.hx C0.hb dX15_skip_7 (by decide) ?_
    refine lv_icmp_eq (tgt := 22) C0.hx C0.hb dX15_skip_9 (by decide) (fun hc2 => ?_) (fun hc2 => ?_)
    · replace h := (if_pos hc2).symm.trans h
      refine lv_iinc (v := l2 + (1 : Int32)) (lv' := [(2, .int (l2 + (1 : Int32))), (0, .ref (g_ad G (120)))]) C0.hx C0.hb dX15_skip_22 hl (k := 1) rfl rfl (by decide) rfl (fun ls hl => ?_)
      refine lv_goto (tgt := 2) C0.hx C0.hb dX15_skip_25 (by decide) ?_
      exact ih _ _ _ _ h hW (lv_sub hl [1, 0] rfl)
    · replace h := (if_neg hc2).symm.trans h
      refine lv_aload_n C0.hx C0.hb dX15_skip_12 rfl (lv_at hl 0 rfl) ?_
      refine lv_iload_n C0.hx C0.hb dX15_skip_13 rfl (lv_at hl 1 rfl) ?_
      obtain ⟨q3, hq3, h⟩ := Option.bind_eq_some_iff.mp h
      refine g_calli hW (g_runV (As := [.int (l2)]) (rest := []) C0 hW (c_X15_byteAt hq3) (g_cwOf (n := 1) tc_X15_byteAt tn_X15 md_X15_byteAt (by decide) (by omega)) tm_X15_93 ti_X15_byteAt ts_X15_byteAt (C0.mem (i := 120) (Nat.le_of_ble_eq_true rfl)) (g_c12 k_120) rfl rfl hl.1 rfl (Nat.le_of_ble_eq_true rfl) dX15_skip_14) (fun H locs hW => ?_)
      refine lv_bipush (v := (10 : Int32)) C0.hx C0.hb dX15_skip_17 (by decide) ?_
      refine lv_icmp_ne (tgt := 28) C0.hx C0.hb dX15_skip_19 (by decide) (fun hc4 => ?_) (fun hc4 => ?_)
      · replace h := (if_neg hc4).symm.trans h
        refine lv_iload_n C0.hx C0.hb dX15_skip_28 rfl (lv_at hl 1 rfl) ?_
        obtain rfl := Option.some.inj h
        exact g_iret C0 hW rfl rfl rfl dX15_skip_29
      · replace h := (if_pos hc4).symm.trans h
        refine lv_iinc (v := l2 + (1 : Int32)) (lv' := [(2, .int (l2 + (1 : Int32))), (0, .ref (g_ad G (120)))]) C0.hx C0.hb dX15_skip_22 hl (k := 1) rfl rfl (by decide) rfl (fun ls hl => ?_)
        refine lv_goto (tgt := 2) C0.hx C0.hb dX15_skip_25 (by decide) ?_
        exact ih _ _ _ _ h hW (lv_sub hl [1, 0] rfl)
set_option maxRecDepth 100000 in
set_option maxHeartbeats 4000000 in
theorem c_X15_skip {l : Launch} {G : GL} {ids : List Nat} {x : CS} {o : Nat → Int32} {y : MS} {p1 : Int32} {q : Int32}    (h : f_X15_skip p1 y = some q) : Met l yX15_skip (.code yX15_skip cX15_skip 3 (Option.some Jvm.ClassFile.FieldType.int) :: gT) (g_rm 1 0 0) (va_Pc [.ref (g_ad G (120)), .int (p1)] (g_P G ids (x, y, o))) (g_Qi G ids q (x, y, o)) 0 0 (g_A G) := by
  unfold f_X15_skip at h
  refine g_entry (by decide) (Nat.le_of_ble_eq_true rfl) (fun p e s m args below meth c ls C0 hl hW _ => ?_)
  have hl : lv_has ls 3 [(0, .ref (g_ad G (120))), (1, .int (p1))] := hl
  refine lv_iload_n C0.hx C0.hb dX15_skip_0 rfl (lv_at hl 1 rfl) ?_
  refine lv_istore_n (lv' := [(2, .int (p1)), (0, .ref (g_ad G (120))), (1, .int (p1))]) C0.hx C0.hb dX15_skip_1 rfl hl (by decide) rfl (fun ls hl => ?_)
  exact w_X15_skip_2 C0 g_fuel _ _ _ _ h hW (lv_sub hl [1, 0] rfl)
set_option maxRecDepth 100000 in
set_option maxHeartbeats 4000000 in
theorem w_X15_readAll_65 {p : Program} {l : Launch} {e : Env} {s : State} {m : MethodId} {args : Array Value} {below : List Frame} {meth : Method} {c : Code} {G : GL} {ids : List Nat} {x : CS} {o : Nat → Int32}  {q : MS}   (C0 : g_X G ids p s m args meth c cX15_readAll 3 RX15 (Option.none : Option Jvm.ClassFile.FieldType))  : ∀  (l2 : Int32) (y : MS) (H : Heap) (locs : List Loc) (ls : Array Slot),  f_X15_readAll_65 l2 y = some q → g_W G ids (x, y, o) s.heap H locs → lv_has ls 3 [(0, .ref (g_ad G (120))), (2, .int (l2))] → W p l e (g_rm 14 0 0) s m args below meth c H locs 0 0 (MQ below (g_Qv G ids (x, q, o)) args s 0 0 (g_A G)) (F0 m 65 ls []) := by
  intro l2 y H locs ls h hW hl
  unfold f_X15_readAll_65 at h
  refine lv_aload_n C0.hx C0.hb dX15_readAll_65 rfl (lv_at hl 0 rfl) ?_
  refine gf_X15_4 C0 hW (C0.mem (i := 120) (Nat.le_of_ble_eq_true rfl)) k_120 tf_X15_17 dX15_readAll_66 ?_
  refine lv_iload_n C0.hx C0.hb dX15_readAll_69 rfl (lv_at hl 1 rfl) ?_
  refine lv_bipush (v := (33 : Int32)) C0.hx C0.hb dX15_readAll_70 (by decide) ?_
  obtain ⟨hb6, h⟩ := g_if h
  refine gs_31 C0 hW (C0.mem (i := 122) (Nat.le_of_ble_eq_true rfl)) k_122 hb6 dX15_readAll_72 (fun H locs hW => ?_)
  refine lv_aload_n C0.hx C0.hb dX15_readAll_73 rfl (lv_at hl 0 rfl) ?_
  refine gf_X15_6 C0 hW (C0.mem (i := 120) (Nat.le_of_ble_eq_true rfl)) k_120 tf_X15_23 dX15_readAll_74 ?_
  refine lv_iload_n C0.hx C0.hb dX15_readAll_77 rfl (lv_at hl 1 rfl) ?_
  refine lv_aload_n C0.hx C0.hb dX15_readAll_78 rfl (lv_at hl 0 rfl) ?_
  refine gf_X15_2 C0 hW (C0.mem (i := 120) (Nat.le_of_ble_eq_true rfl)) k_120 tf_X15_69 dX15_readAll_79 ?_
  obtain ⟨hb7, h⟩ := g_if h
  refine gs_31 C0 hW (C0.mem (i := 124) (Nat.le_of_ble_eq_true rfl)) k_124 hb7 dX15_readAll_82 (fun H locs hW => ?_)
  obtain rfl := Option.some.inj h
  exact g_vret C0 hW rfl dX15_readAll_83
set_option maxRecDepth 100000 in
set_option maxHeartbeats 4000000 in
theorem w_X15_readAll_33 {p : Program} {l : Launch} {e : Env} {s : State} {m : MethodId} {args : Array Value} {below : List Frame} {meth : Method} {c : Code} {G : GL} {ids : List Nat} {x : CS} {o : Nat → Int32}  {q : MS} {k8 : Int32 → Int32 → MS → Option (MS)}   (C0 : g_X G ids p s m args meth c cX15_readAll 3 RX15 (Option.none : Option Jvm.ClassFile.FieldType)) (kt8 : ∀ (l1 : Int32) (l2 : Int32) (y : MS) (H : Heap) (locs : List Loc) (ls : Array Slot),  k8 l1 l2 y = some q → g_W G ids (x, y, o) s.heap H locs → lv_has ls 3 [(0, .ref (g_ad G (120))), (1, .int (l1)), (2, .int (l2))] → W p l e (g_rm 14 0 0) s m args below meth c H locs 0 0 (MQ below (g_Qv G ids (x, q, o)) args s 0 0 (g_A G)) (F0 m 8 ls [])) : ∀  (l1 : Int32) (l2 : Int32) (y : MS) (H : Heap) (locs : List Loc) (ls : Array Slot),  f_X15_readAll_33 k8 l1 l2 y = some q → g_W G ids (x, y, o) s.heap H locs → lv_has ls 3 [(0, .ref (g_ad G (120))), (1, .int (l1)), (2, .int (l2))] → W p l e (g_rm 14 0 0) s m args below meth c H locs 0 0 (MQ below (g_Qv G ids (x, q, o)) args s 0 0 (g_A G)) (F0 m 33 ls []) := by
  intro l1 l2 y H locs ls h hW hl
  unfold f_X15_readAll_33 at h
  refine lv_aload_n C0.hx C0.hb dX15_readAll_33 rfl (lv_at hl 0 rfl) ?_
  refine lv_aload_n C0.hx C0.hb dX15_readAll_34 rfl (lv_at hl 0 rfl) ?_
  refine lv_iload_n C0.hx C0.hb dX15_readAll_35 rfl (lv_at hl 1 rfl) ?_
  refine lv_iload_n C0.hx C0.hb dX15_readAll_36 rfl (lv_at hl 2 rfl) ?_
  obtain ⟨q8, hq8, h⟩ := Option.bind_eq_some_iff.mp h
  refine g_calli hW (g_runV (As := [.int (l1), .int (l2)]) (rest := [.ref (g_ad G (120))]) C0 hW (c_X15_read hq8) (g_cwOf (n := 2) tc_X15_read tn_X15 md_X15_read (by decide) (by omega)) tm_X15_110 ti_X15_read ts_X15_read (C0.mem (i := 120) (Nat.le_of_ble_eq_true rfl)) (g_c12 k_120) rfl rfl hl.1 rfl (Nat.le_of_ble_eq_true rfl) dX15_readAll_37) (fun H locs hW => ?_)
  obtain ⟨q9, hq9, h⟩ := Option.bind_eq_some_iff.mp h
  refine g_calli hW (g_runV (As := [.int (q8.1)]) (rest := []) C0 hW (c_X15_skip hq9) (g_cwOf (n := 1) tc_X15_skip tn_X15 md_X15_skip (by decide) (by omega)) tm_X15_107 ti_X15_skip ts_X15_skip (C0.mem (i := 120) (Nat.le_of_ble_eq_true rfl)) (g_c12 k_120) rfl rfl hl.1 rfl (Nat.le_of_ble_eq_true rfl) dX15_readAll_40) (fun H locs hW => ?_)
  refine lv_istore_n (lv' := [(1, .int (q9)), (0, .ref (g_ad G (120))), (2, .int (l2))]) C0.hx C0.hb dX15_readAll_43 rfl hl (by decide) rfl (fun ls hl => ?_)
  refine lv_iload_n C0.hx C0.hb dX15_readAll_44 rfl (lv_at hl 2 rfl) ?_
  refine lv_sipush (v := (400 : Int32)) C0.hx C0.hb dX15_readAll_45 (by decide) ?_
  refine lv_icmp_ne (tgt := 59) C0.hx C0.hb dX15_readAll_48 (by decide) (fun hc10 => ?_) (fun hc10 => ?_)
  · replace h := (if_neg hc10).symm.trans h
    refine lv_iinc (v := l2 + (1 : Int32)) (lv' := [(2, .int (l2 + (1 : Int32))), (1, .int (q9)), (0, .ref (g_ad G (120)))]) C0.hx C0.hb dX15_readAll_59 hl (k := 2) rfl rfl (by decide) rfl (fun ls hl => ?_)
    refine lv_goto (tgt := 8) C0.hx C0.hb dX15_readAll_62 (by decide) ?_
    exact kt8 _ _ _ _ _ _ h hW (lv_sub hl [2, 1, 0] rfl)
  · replace h := (if_pos hc10).symm.trans h
    refine lv_aload_n C0.hx C0.hb dX15_readAll_51 rfl (lv_at hl 1 rfl) ?_
    refine gf_X15_4 C0 hW (C0.mem (i := 120) (Nat.le_of_ble_eq_true rfl)) k_120 tf_X15_17 dX15_readAll_52 ?_
    refine lv_iload_n C0.hx C0.hb dX15_readAll_55 rfl (lv_at hl 2 rfl) ?_
    refine lv_bipush (v := (32 : Int32)) C0.hx C0.hb dX15_readAll_56 (by decide) ?_
    obtain ⟨hb11, h⟩ := g_if h
    refine gs_31 C0 hW (C0.mem (i := 122) (Nat.le_of_ble_eq_true rfl)) k_122 hb11 dX15_readAll_58 (fun H locs hW => ?_)
    refine lv_iinc (v := l2 + (1 : Int32)) (lv' := [(2, .int (l2 + (1 : Int32))), (1, .int (q9)), (0, .ref (g_ad G (120)))]) C0.hx C0.hb dX15_readAll_59 hl (k := 2) rfl rfl (by decide) rfl (fun ls hl => ?_)
    refine lv_goto (tgt := 8) C0.hx C0.hb dX15_readAll_62 (by decide) ?_
    exact kt8 _ _ _ _ _ _ h hW (lv_sub hl [2, 1, 0] rfl)
set_option maxRecDepth 100000 in
set_option maxHeartbeats 4000000 in
theorem w_X15_readAll_8 {p : Program} {l : Launch} {e : Env} {s : State} {m : MethodId} {args : Array Value} {below : List Frame} {meth : Method} {c : Code} {G : GL} {ids : List Nat} {x : CS} {o : Nat → Int32}  {q : MS}   (C0 : g_X G ids p s m args meth c cX15_readAll 3 RX15 (Option.none : Option Jvm.ClassFile.FieldType))  : ∀ (n : Nat) (l1 : Int32) (l2 : Int32) (y : MS) (H : Heap) (locs : List Loc) (ls : Array Slot),  f_X15_readAll_8 n l1 l2 y = some q → g_W G ids (x, y, o) s.heap H locs → lv_has ls 3 [(0, .ref (g_ad G (120))), (1, .int (l1)), (2, .int (l2))] → W p l e (g_rm 14 0 0) s m args below meth c H locs 0 0 (MQ below (g_Qv G ids (x, q, o)) args s 0 0 (g_A G)) (F0 m 8 ls []) := by
  intro n
  induction n with
  | zero =>
    intro l1 l2 y H locs ls h hW hl
    exact absurd h (by simp [f_X15_readAll_8])
  | succ n ih =>
    intro l1 l2 y H locs ls h hW hl
    unfold f_X15_readAll_8 at h
    refine lv_iload_n C0.hx C0.hb dX15_readAll_8 rfl (lv_at hl 1 rfl) ?_
    refine lv_aload_n C0.hx C0.hb dX15_readAll_9 rfl (lv_at hl 0 rfl) ?_
    refine gf_X15_2 C0 hW (C0.mem (i := 120) (Nat.le_of_ble_eq_true rfl)) k_120 tf_X15_69 dX15_readAll_10 ?_
    refine lv_icmp_ge (tgt := 65) C0.hx C0.hb dX15_readAll_13 (by decide) (fun hc2 => ?_) (fun hc2 => ?_)
    · replace h := (if_pos hc2).symm.trans h
      exact w_X15_readAll_65 C0 _ _ _ _ _ h hW (lv_sub hl [0, 2] rfl)
    · replace h := (if_neg hc2).symm.trans h
      refine lv_iload_n C0.hx C0.hb dX15_readAll_16 rfl (lv_at hl 2 rfl) ?_
      refine lv_if_eq (tgt := 33) C0.hx C0.hb dX15_readAll_17 (by decide) (fun hc3 => ?_) (fun hc3 => ?_)
      · replace h := (if_pos hc3).symm.trans h
        exact w_X15_readAll_33 C0 ih _ _ _ _ _ _ h hW (lv_sub hl [0, 1, 2] rfl)
      · replace h := (if_neg hc3).symm.trans h
        refine lv_aload_n C0.hx C0.hb dX15_readAll_20 rfl (lv_at hl 0 rfl) ?_
        refine gf_X15_4 C0 hW (C0.mem (i := 120) (Nat.le_of_ble_eq_true rfl)) k_120 tf_X15_17 dX15_readAll_21 ?_
        refine lv_iload_n C0.hx C0.hb dX15_readAll_24 rfl (lv_at hl 2 rfl) ?_
        refine lv_iconst (v := (1 : Int32)) C0.hx C0.hb dX15_readAll_25 (by decide) ?_
        refine lv_isub C0.hx C0.hb dX15_readAll_26 ?_
        obtain ⟨hb4, h⟩ := g_if h
        refine ga_31 C0 hW (C0.mem (i := 122) (Nat.le_of_ble_eq_true rfl)) k_122 hb4 dX15_readAll_27 ?_
        refine lv_bipush (v := (32 : Int32)) C0.hx C0.hb dX15_readAll_28 (by decide) ?_
        refine lv_icmp_eq (tgt := 65) C0.hx C0.hb dX15_readAll_30 (by decide) (fun hc5 => ?_) (fun hc5 => ?_)
        · replace h := (if_pos hc5).symm.trans h
          exact w_X15_readAll_65 C0 _ _ _ _ _ h hW (lv_sub hl [0, 2] rfl)
        · replace h := (if_neg hc5).symm.trans h
          exact w_X15_readAll_33 C0 ih _ _ _ _ _ _ h hW (lv_sub hl [0, 1, 2] rfl)
set_option maxRecDepth 100000 in
set_option maxHeartbeats 4000000 in
theorem c_X15_readAll {l : Launch} {G : GL} {ids : List Nat} {x : CS} {o : Nat → Int32} {y : MS}  {q : MS}    (h : f_X15_readAll y = some q) : Met l yX15_readAll (.code yX15_readAll cX15_readAll 3 (Option.none : Option Jvm.ClassFile.FieldType) :: gT) (g_rm 14 0 0) (va_Pc [.ref (g_ad G (120))] (g_P G ids (x, y, o))) (g_Qv G ids (x, q, o)) 0 0 (g_A G) := by
  unfold f_X15_readAll at h
  refine g_entry (by decide) (Nat.le_of_ble_eq_true rfl) (fun p e s m args below meth c ls C0 hl hW _ => ?_)
  have hl : lv_has ls 3 [(0, .ref (g_ad G (120)))] := hl
  refine lv_aload_n C0.hx C0.hb dX15_readAll_0 rfl (lv_at hl 0 rfl) ?_
  refine lv_iconst (v := (0 : Int32)) C0.hx C0.hb dX15_readAll_1 (by decide) ?_
  obtain ⟨q1, hq1, h⟩ := Option.bind_eq_some_iff.mp h
  refine g_calli hW (g_runV (As := [.int ((0 : Int32))]) (rest := []) C0 hW (c_X15_skip hq1) (g_cwOf (n := 1) tc_X15_skip tn_X15 md_X15_skip (by decide) (by omega)) tm_X15_107 ti_X15_skip ts_X15_skip (C0.mem (i := 120) (Nat.le_of_ble_eq_true rfl)) (g_c12 k_120) rfl rfl hl.1 rfl (Nat.le_of_ble_eq_true rfl) dX15_readAll_2) (fun H locs hW => ?_)
  refine lv_istore_n (lv' := [(1, .int (q1)), (0, .ref (g_ad G (120)))]) C0.hx C0.hb dX15_readAll_5 rfl hl (by decide) rfl (fun ls hl => ?_)
  refine lv_iconst (v := (0 : Int32)) C0.hx C0.hb dX15_readAll_6 (by decide) ?_
  refine lv_istore_n (lv' := [(2, .int ((0 : Int32))), (1, .int (q1)), (0, .ref (g_ad G (120)))]) C0.hx C0.hb dX15_readAll_7 rfl hl (by decide) rfl (fun ls hl => ?_)
  exact w_X15_readAll_8 C0 g_fuel _ _ _ _ _ _ h hW (lv_sub hl [2, 1, 0] rfl)
set_option maxRecDepth 100000 in
set_option maxHeartbeats 4000000 in
theorem c_X15_is {l : Launch} {G : GL} {ids : List Nat} {x : CS} {o : Nat → Int32} {y : MS} {p1 : Int32} {q : Int32}    (h : f_X15_is p1 y = some q) : Met l yX15_is (.code yX15_is cX15_is 2 (Option.some Jvm.ClassFile.FieldType.boolean) :: gT) (g_rm 0 0 0) (va_Pc [.ref (g_ad G (120)), .int (p1)] (g_P G ids (x, y, o))) (g_Qi G ids q (x, y, o)) 0 0 (g_A G) := by
  unfold f_X15_is at h
  refine g_entry (by decide) (Nat.le_of_ble_eq_true rfl) (fun p e s m args below meth c ls C0 hl hW _ => ?_)
  have hl : lv_has ls 2 [(0, .ref (g_ad G (120))), (1, .int (p1))] := hl
  refine lv_aload_n C0.hx C0.hb dX15_is_0 rfl (lv_at hl 0 rfl) ?_
  refine gf_X15_9 C0 hW (C0.mem (i := 120) (Nat.le_of_ble_eq_true rfl)) k_120 tf_X15_113 dX15_is_1 ?_
  refine lv_if_ne (tgt := 24) C0.hx C0.hb dX15_is_4 (by decide) (fun hc1 => ?_) (fun hc1 => ?_)
  · replace h := (if_neg hc1).symm.trans h
    refine lv_iconst (v := (0 : Int32)) C0.hx C0.hb dX15_is_24 (by decide) ?_
    obtain rfl := Option.some.inj h
    exact g_iret C0 hW rfl (g_bool (Or.inl rfl)).1 rfl dX15_is_25
  · replace h := (if_pos hc1).symm.trans h
    refine lv_aload_n C0.hx C0.hb dX15_is_7 rfl (lv_at hl 0 rfl) ?_
    refine gf_X15_4 C0 hW (C0.mem (i := 120) (Nat.le_of_ble_eq_true rfl)) k_120 tf_X15_17 dX15_is_8 ?_
    refine lv_aload_n C0.hx C0.hb dX15_is_11 rfl (lv_at hl 0 rfl) ?_
    refine gf_X15_8 C0 hW (C0.mem (i := 120) (Nat.le_of_ble_eq_true rfl)) k_120 tf_X15_117 dX15_is_12 ?_
    obtain ⟨hb2, h⟩ := g_if h
    refine ga_31 C0 hW (C0.mem (i := 122) (Nat.le_of_ble_eq_true rfl)) k_122 hb2 dX15_is_15 ?_
    refine lv_iload_n C0.hx C0.hb dX15_is_16 rfl (lv_at hl 1 rfl) ?_
    refine lv_icmp_ne (tgt := 24) C0.hx C0.hb dX15_is_17 (by decide) (fun hc3 => ?_) (fun hc3 => ?_)
    · replace h := (if_neg hc3).symm.trans h
      refine lv_iconst (v := (0 : Int32)) C0.hx C0.hb dX15_is_24 (by decide) ?_
      obtain rfl := Option.some.inj h
      exact g_iret C0 hW rfl (g_bool (Or.inl rfl)).1 rfl dX15_is_25
    · replace h := (if_pos hc3).symm.trans h
      refine lv_iconst (v := (1 : Int32)) C0.hx C0.hb dX15_is_20 (by decide) ?_
      refine lv_goto (tgt := 25) C0.hx C0.hb dX15_is_21 (by decide) ?_
      obtain rfl := Option.some.inj h
      exact g_iret C0 hW rfl (g_bool (Or.inr rfl)).1 rfl dX15_is_25
set_option maxRecDepth 100000 in
set_option maxHeartbeats 4000000 in
theorem c_X15_wrong {l : Launch} {G : GL} {ids : List Nat} {x : CS} {o : Nat → Int32} {y : MS}  {q : MS}    (h : f_X15_wrong y = some q) : Met l yX15_wrong (.code yX15_wrong cX15_wrong 1 (Option.none : Option Jvm.ClassFile.FieldType) :: gT) (g_rm 0 0 0) (va_Pc [.ref (g_ad G (120))] (g_P G ids (x, y, o))) (g_Qv G ids (x, q, o)) 0 0 (g_A G) := by
  unfold f_X15_wrong at h
  refine g_entry (by decide) (Nat.le_of_ble_eq_true rfl) (fun p e s m args below meth c ls C0 hl hW _ => ?_)
  have hl : lv_has ls 1 [(0, .ref (g_ad G (120)))] := hl
  refine lv_aload_n C0.hx C0.hb dX15_wrong_0 rfl (lv_at hl 0 rfl) ?_
  refine gf_X15_9 C0 hW (C0.mem (i := 120) (Nat.le_of_ble_eq_true rfl)) k_120 tf_X15_113 dX15_wrong_1 ?_
  refine lv_if_eq (tgt := 8) C0.hx C0.hb dX15_wrong_4 (by decide) (fun hc1 => ?_) (fun hc1 => ?_)
  · replace h := (if_pos hc1).symm.trans h
    refine lv_aload_n C0.hx C0.hb dX15_wrong_8 rfl (lv_at hl 0 rfl) ?_
    refine lv_iconst (v := (1 : Int32)) C0.hx C0.hb dX15_wrong_9 (by decide) ?_
    refine gp_X15_9 C0 hW (Or.inr rfl) (C0.mem (i := 120) (Nat.le_of_ble_eq_true rfl)) k_120 tf_X15_113 dX15_wrong_10 (fun H locs hW => ?_)
    refine lv_aload_n C0.hx C0.hb dX15_wrong_13 rfl (lv_at hl 0 rfl) ?_
    refine lv_iconst (v := (1 : Int32)) C0.hx C0.hb dX15_wrong_14 (by decide) ?_
    refine gp_X15_10 C0 hW (C0.mem (i := 120) (Nat.le_of_ble_eq_true rfl)) k_120 tf_X15_120 dX15_wrong_15 (fun H locs hW => ?_)
    refine lv_aload_n C0.hx C0.hb dX15_wrong_18 rfl (lv_at hl 0 rfl) ?_
    refine lv_aload_n C0.hx C0.hb dX15_wrong_19 rfl (lv_at hl 0 rfl) ?_
    refine gf_X15_8 C0 hW (C0.mem (i := 120) (Nat.le_of_ble_eq_true rfl)) k_120 tf_X15_117 dX15_wrong_20 ?_
    refine gp_X15_11 C0 hW (C0.mem (i := 120) (Nat.le_of_ble_eq_true rfl)) k_120 tf_X15_123 dX15_wrong_23 (fun H locs hW => ?_)
    obtain rfl := Option.some.inj h
    exact g_vret C0 hW rfl dX15_wrong_26
  · replace h := (if_neg hc1).symm.trans h
    obtain rfl := Option.some.inj h
    exact g_vret C0 hW rfl dX15_wrong_7
set_option maxRecDepth 100000 in
set_option maxHeartbeats 4000000 in
theorem c_X15_take {l : Launch} {G : GL} {ids : List Nat} {x : CS} {o : Nat → Int32} {y : MS} {p1 : Int32} {q : MS}    (h : f_X15_take p1 y = some q) : Met l yX15_take (.code yX15_take cX15_take 2 (Option.none : Option Jvm.ClassFile.FieldType) :: gT) (g_rm 1 0 0) (va_Pc [.ref (g_ad G (120)), .int (p1)] (g_P G ids (x, y, o))) (g_Qv G ids (x, q, o)) 0 0 (g_A G) := by
  unfold f_X15_take at h
  refine g_entry (by decide) (Nat.le_of_ble_eq_true rfl) (fun p e s m args below meth c ls C0 hl hW _ => ?_)
  have hl : lv_has ls 2 [(0, .ref (g_ad G (120))), (1, .int (p1))] := hl
  refine lv_aload_n C0.hx C0.hb dX15_take_0 rfl (lv_at hl 0 rfl) ?_
  refine lv_iload_n C0.hx C0.hb dX15_take_1 rfl (lv_at hl 1 rfl) ?_
  obtain ⟨q1, hq1, h⟩ := Option.bind_eq_some_iff.mp h
  refine g_calli hW (g_runV (As := [.int (p1)]) (rest := []) C0 hW (c_X15_is hq1) (g_cwOf (n := 1) tc_X15_is tn_X15 md_X15_is (by decide) (by omega)) tm_X15_126 ti_X15_is ts_X15_is (C0.mem (i := 120) (Nat.le_of_ble_eq_true rfl)) (g_c12 k_120) rfl rfl hl.1 rfl (Nat.le_of_ble_eq_true rfl) dX15_take_2) (fun H locs hW => ?_)
  refine lv_if_eq (tgt := 21) C0.hx C0.hb dX15_take_5 (by decide) (fun hc2 => ?_) (fun hc2 => ?_)
  · replace h := (if_pos hc2).symm.trans h
    refine lv_aload_n C0.hx C0.hb dX15_take_21 rfl (lv_at hl 0 rfl) ?_
    obtain ⟨q3, hq3, h⟩ := Option.bind_eq_some_iff.mp h
    refine g_callv hW (g_runV (As := []) (rest := []) C0 hW (c_X15_wrong hq3) (g_cwOf (n := 0) tc_X15_wrong tn_X15 md_X15_wrong (by decide) (by omega)) tm_X15_129 ti_X15_wrong ts_X15_wrong (C0.mem (i := 120) (Nat.le_of_ble_eq_true rfl)) (g_c12 k_120) rfl rfl hl.1 rfl (Nat.le_of_ble_eq_true rfl) dX15_take_22) (fun H locs hW => ?_)
    obtain rfl := Option.some.inj h
    exact g_vret C0 hW rfl dX15_take_25
  · replace h := (if_neg hc2).symm.trans h
    refine lv_aload_n C0.hx C0.hb dX15_take_8 rfl (lv_at hl 0 rfl) ?_
    refine lv_dup C0.hx C0.hb dX15_take_9 rfl ?_
    refine gf_X15_8 C0 hW (C0.mem (i := 120) (Nat.le_of_ble_eq_true rfl)) k_120 tf_X15_117 dX15_take_10 ?_
    refine lv_iconst (v := (1 : Int32)) C0.hx C0.hb dX15_take_13 (by decide) ?_
    refine lv_iadd C0.hx C0.hb dX15_take_14 ?_
    refine gp_X15_8 C0 hW (C0.mem (i := 120) (Nat.le_of_ble_eq_true rfl)) k_120 tf_X15_117 dX15_take_15 (fun H locs hW => ?_)
    refine lv_goto (tgt := 25) C0.hx C0.hb dX15_take_18 (by decide) ?_
    obtain rfl := Option.some.inj h
    exact g_vret C0 hW rfl dX15_take_25
set_option maxRecDepth 100000 in
set_option maxHeartbeats 4000000 in
theorem c_X15_takes {l : Launch} {G : GL} {ids : List Nat} {x : CS} {o : Nat → Int32} {y : MS} {p1 : Int32} {q : Int32 × MS}    (h : f_X15_takes p1 y = some q) : Met l yX15_takes (.code yX15_takes cX15_takes 2 (Option.some Jvm.ClassFile.FieldType.boolean) :: gT) (g_rm 1 0 0) (va_Pc [.ref (g_ad G (120)), .int (p1)] (g_P G ids (x, y, o))) (g_Qi G ids q.1 (x, q.2, o)) 0 0 (g_A G) := by
  unfold f_X15_takes at h
  refine g_entry (by decide) (Nat.le_of_ble_eq_true rfl) (fun p e s m args below meth c ls C0 hl hW _ => ?_)
  have hl : lv_has ls 2 [(0, .ref (g_ad G (120))), (1, .int (p1))] := hl
  refine lv_aload_n C0.hx C0.hb dX15_takes_0 rfl (lv_at hl 0 rfl) ?_
  refine lv_iload_n C0.hx C0.hb dX15_takes_1 rfl (lv_at hl 1 rfl) ?_
  obtain ⟨q1, hq1, h⟩ := Option.bind_eq_some_iff.mp h
  refine g_calli hW (g_runV (As := [.int (p1)]) (rest := []) C0 hW (c_X15_is hq1) (g_cwOf (n := 1) tc_X15_is tn_X15 md_X15_is (by decide) (by omega)) tm_X15_126 ti_X15_is ts_X15_is (C0.mem (i := 120) (Nat.le_of_ble_eq_true rfl)) (g_c12 k_120) rfl rfl hl.1 rfl (Nat.le_of_ble_eq_true rfl) dX15_takes_2) (fun H locs hW => ?_)
  refine lv_if_ne (tgt := 10) C0.hx C0.hb dX15_takes_5 (by decide) (fun hc2 => ?_) (fun hc2 => ?_)
  · replace h := (if_neg hc2).symm.trans h
    refine lv_aload_n C0.hx C0.hb dX15_takes_10 rfl (lv_at hl 0 rfl) ?_
    refine lv_dup C0.hx C0.hb dX15_takes_11 rfl ?_
    refine gf_X15_8 C0 hW (C0.mem (i := 120) (Nat.le_of_ble_eq_true rfl)) k_120 tf_X15_117 dX15_takes_12 ?_
    refine lv_iconst (v := (1 : Int32)) C0.hx C0.hb dX15_takes_15 (by decide) ?_
    refine lv_iadd C0.hx C0.hb dX15_takes_16 ?_
    refine gp_X15_8 C0 hW (C0.mem (i := 120) (Nat.le_of_ble_eq_true rfl)) k_120 tf_X15_117 dX15_takes_17 (fun H locs hW => ?_)
    refine lv_iconst (v := (1 : Int32)) C0.hx C0.hb dX15_takes_20 (by decide) ?_
    obtain rfl := Option.some.inj h
    exact g_iret C0 hW rfl (g_bool (Or.inr rfl)).1 rfl dX15_takes_21
  · replace h := (if_pos hc2).symm.trans h
    refine lv_iconst (v := (0 : Int32)) C0.hx C0.hb dX15_takes_8 (by decide) ?_
    obtain rfl := Option.some.inj h
    exact g_iret C0 hW rfl (g_bool (Or.inl rfl)).1 rfl dX15_takes_9
set_option maxRecDepth 100000 in
set_option maxHeartbeats 4000000 in
theorem c_X15_deeper {l : Launch} {G : GL} {ids : List Nat} {x : CS} {o : Nat → Int32} {y : MS}  {q : MS}    (h : f_X15_deeper y = some q) : Met l yX15_deeper (.code yX15_deeper cX15_deeper 1 (Option.none : Option Jvm.ClassFile.FieldType) :: gT) (g_rm 1 0 0) (va_Pc [.ref (g_ad G (120))] (g_P G ids (x, y, o))) (g_Qv G ids (x, q, o)) 0 0 (g_A G) := by
  unfold f_X15_deeper at h
  refine g_entry (by decide) (Nat.le_of_ble_eq_true rfl) (fun p e s m args below meth c ls C0 hl hW _ => ?_)
  have hl : lv_has ls 1 [(0, .ref (g_ad G (120)))] := hl
  refine lv_aload_n C0.hx C0.hb dX15_deeper_0 rfl (lv_at hl 0 rfl) ?_
  refine gf_X15_12 C0 hW (C0.mem (i := 120) (Nat.le_of_ble_eq_true rfl)) k_120 tf_X15_132 dX15_deeper_1 ?_
  refine lv_bipush (v := (8 : Int32)) C0.hx C0.hb dX15_deeper_4 (by decide) ?_
  refine lv_icmp_ne (tgt := 16) C0.hx C0.hb dX15_deeper_6 (by decide) (fun hc1 => ?_) (fun hc1 => ?_)
  · replace h := (if_neg hc1).symm.trans h
    refine lv_aload_n C0.hx C0.hb dX15_deeper_16 rfl (lv_at hl 0 rfl) ?_
    refine lv_dup C0.hx C0.hb dX15_deeper_17 rfl ?_
    refine gf_X15_8 C0 hW (C0.mem (i := 120) (Nat.le_of_ble_eq_true rfl)) k_120 tf_X15_117 dX15_deeper_18 ?_
    refine lv_iconst (v := (1 : Int32)) C0.hx C0.hb dX15_deeper_21 (by decide) ?_
    refine lv_iadd C0.hx C0.hb dX15_deeper_22 ?_
    refine gp_X15_8 C0 hW (C0.mem (i := 120) (Nat.le_of_ble_eq_true rfl)) k_120 tf_X15_117 dX15_deeper_23 (fun H locs hW => ?_)
    refine lv_aload_n C0.hx C0.hb dX15_deeper_26 rfl (lv_at hl 0 rfl) ?_
    refine lv_dup C0.hx C0.hb dX15_deeper_27 rfl ?_
    refine gf_X15_12 C0 hW (C0.mem (i := 120) (Nat.le_of_ble_eq_true rfl)) k_120 tf_X15_132 dX15_deeper_28 ?_
    refine lv_iconst (v := (1 : Int32)) C0.hx C0.hb dX15_deeper_31 (by decide) ?_
    refine lv_iadd C0.hx C0.hb dX15_deeper_32 ?_
    refine gp_X15_12 C0 hW (C0.mem (i := 120) (Nat.le_of_ble_eq_true rfl)) k_120 tf_X15_132 dX15_deeper_33 (fun H locs hW => ?_)
    obtain rfl := Option.some.inj h
    exact g_vret C0 hW rfl dX15_deeper_36
  · replace h := (if_pos hc1).symm.trans h
    refine lv_aload_n C0.hx C0.hb dX15_deeper_9 rfl (lv_at hl 0 rfl) ?_
    obtain ⟨q2, hq2, h⟩ := Option.bind_eq_some_iff.mp h
    refine g_callv hW (g_runV (As := []) (rest := []) C0 hW (c_X15_wrong hq2) (g_cwOf (n := 0) tc_X15_wrong tn_X15 md_X15_wrong (by decide) (by omega)) tm_X15_129 ti_X15_wrong ts_X15_wrong (C0.mem (i := 120) (Nat.le_of_ble_eq_true rfl)) (g_c12 k_120) rfl rfl hl.1 rfl (Nat.le_of_ble_eq_true rfl) dX15_deeper_10) (fun H locs hW => ?_)
    refine lv_goto (tgt := 26) C0.hx C0.hb dX15_deeper_13 (by decide) ?_
    refine lv_aload_n C0.hx C0.hb dX15_deeper_26 rfl (lv_at hl 0 rfl) ?_
    refine lv_dup C0.hx C0.hb dX15_deeper_27 rfl ?_
    refine gf_X15_12 C0 hW (C0.mem (i := 120) (Nat.le_of_ble_eq_true rfl)) k_120 tf_X15_132 dX15_deeper_28 ?_
    refine lv_iconst (v := (1 : Int32)) C0.hx C0.hb dX15_deeper_31 (by decide) ?_
    refine lv_iadd C0.hx C0.hb dX15_deeper_32 ?_
    refine gp_X15_12 C0 hW (C0.mem (i := 120) (Nat.le_of_ble_eq_true rfl)) k_120 tf_X15_132 dX15_deeper_33 (fun H locs hW => ?_)
    obtain rfl := Option.some.inj h
    exact g_vret C0 hW rfl dX15_deeper_36
set_option maxRecDepth 100000 in
set_option maxHeartbeats 4000000 in
theorem c_X15_mark {l : Launch} {G : GL} {ids : List Nat} {x : CS} {o : Nat → Int32} {y : MS} {p1 : Int32} {q : MS}    (h : f_X15_mark p1 y = some q) : Met l yX15_mark (.code yX15_mark cX15_mark 2 (Option.none : Option Jvm.ClassFile.FieldType) :: gT) (g_rm 0 0 0) (va_Pc [.ref (g_ad G (120)), .int (p1)] (g_P G ids (x, y, o))) (g_Qv G ids (x, q, o)) 0 0 (g_A G) := by
  unfold f_X15_mark at h
  refine g_entry (by decide) (Nat.le_of_ble_eq_true rfl) (fun p e s m args below meth c ls C0 hl hW _ => ?_)
  have hl : lv_has ls 2 [(0, .ref (g_ad G (120))), (1, .int (p1))] := hl
  refine lv_aload_n C0.hx C0.hb dX15_mark_0 rfl (lv_at hl 0 rfl) ?_
  refine gf_X15_9 C0 hW (C0.mem (i := 120) (Nat.le_of_ble_eq_true rfl)) k_120 tf_X15_113 dX15_mark_1 ?_
  refine lv_if_ne (tgt := 14) C0.hx C0.hb dX15_mark_4 (by decide) (fun hc1 => ?_) (fun hc1 => ?_)
  · replace h := (if_neg hc1).symm.trans h
    obtain rfl := Option.some.inj h
    exact g_vret C0 hW rfl dX15_mark_14
  · replace h := (if_pos hc1).symm.trans h
    refine lv_aload_n C0.hx C0.hb dX15_mark_7 rfl (lv_at hl 0 rfl) ?_
    refine gf_X15_10 C0 hW (C0.mem (i := 120) (Nat.le_of_ble_eq_true rfl)) k_120 tf_X15_120 dX15_mark_8 ?_
    refine lv_if_eq (tgt := 15) C0.hx C0.hb dX15_mark_11 (by decide) (fun hc2 => ?_) (fun hc2 => ?_)
    · replace h := (if_pos hc2).symm.trans h
      refine lv_aload_n C0.hx C0.hb dX15_mark_15 rfl (lv_at hl 0 rfl) ?_
      refine lv_iload_n C0.hx C0.hb dX15_mark_16 rfl (lv_at hl 1 rfl) ?_
      refine gp_X15_10 C0 hW (C0.mem (i := 120) (Nat.le_of_ble_eq_true rfl)) k_120 tf_X15_120 dX15_mark_17 (fun H locs hW => ?_)
      refine lv_aload_n C0.hx C0.hb dX15_mark_20 rfl (lv_at hl 0 rfl) ?_
      refine lv_aload_n C0.hx C0.hb dX15_mark_21 rfl (lv_at hl 0 rfl) ?_
      refine gf_X15_8 C0 hW (C0.mem (i := 120) (Nat.le_of_ble_eq_true rfl)) k_120 tf_X15_117 dX15_mark_22 ?_
      refine gp_X15_11 C0 hW (C0.mem (i := 120) (Nat.le_of_ble_eq_true rfl)) k_120 tf_X15_123 dX15_mark_25 (fun H locs hW => ?_)
      obtain rfl := Option.some.inj h
      exact g_vret C0 hW rfl dX15_mark_28
    · replace h := (if_neg hc2).symm.trans h
      obtain rfl := Option.some.inj h
      exact g_vret C0 hW rfl dX15_mark_14
set_option maxRecDepth 100000 in
set_option maxHeartbeats 4000000 in
theorem c_X15_node {l : Launch} {G : GL} {ids : List Nat} {x : CS} {o : Nat → Int32} {y : MS} {p1 : Int32} {p2 : Int32} {p3 : Int32} {q : Int32 × MS}    (h : f_X15_node p1 p2 p3 y = some q) : Met l yX15_node (.code yX15_node cX15_node 5 (Option.some Jvm.ClassFile.FieldType.int) :: gT) (g_rm 0 0 0) (va_Pc [.ref (g_ad G (120)), .int (p1), .int (p2), .int (p3)] (g_P G ids (x, y, o))) (g_Qi G ids q.1 (x, q.2, o)) 0 0 (g_A G) := by
  unfold f_X15_node at h
  refine g_entry (by decide) (Nat.le_of_ble_eq_true rfl) (fun p e s m args below meth c ls C0 hl hW _ => ?_)
  have hl : lv_has ls 5 [(0, .ref (g_ad G (120))), (1, .int (p1)), (2, .int (p2)), (3, .int (p3))] := hl
  refine lv_aload_n C0.hx C0.hb dX15_node_0 rfl (lv_at hl 0 rfl) ?_
  refine gf_X15_15 C0 hW (C0.mem (i := 120) (Nat.le_of_ble_eq_true rfl)) k_120 tf_X15_39 dX15_node_1 ?_
  refine gfN_X14_12 C0 hW (C0.mem (i := 139) (Nat.le_of_ble_eq_true rfl)) k_139 tfN_X15_135 dX15_node_4 ?_
  refine lv_istore (lv' := [(4, .int (y 139 12)), (0, .ref (g_ad G (120))), (1, .int (p1)), (2, .int (p2)), (3, .int (p3))]) C0.hx C0.hb dX15_node_7 hl (by decide) rfl (fun ls hl => ?_)
  refine lv_aload_n C0.hx C0.hb dX15_node_9 rfl (lv_at hl 1 rfl) ?_
  refine gf_X15_15 C0 hW (C0.mem (i := 120) (Nat.le_of_ble_eq_true rfl)) k_120 tf_X15_39 dX15_node_10 ?_
  refine gfN_X14_13 C0 hW (C0.mem (i := 139) (Nat.le_of_ble_eq_true rfl)) k_139 tfN_X15_138 dX15_node_13 ?_
  refine lv_iload C0.hx C0.hb dX15_node_16 (lv_at hl 0 rfl) ?_
  refine lv_iload_n C0.hx C0.hb dX15_node_18 rfl (lv_at hl 2 rfl) ?_
  obtain ⟨hb1, h⟩ := g_if h
  refine gs_36 C0 hW (C0.mem (i := 148) (Nat.le_of_ble_eq_true rfl)) k_148 hb1 dX15_node_19 (fun H locs hW => ?_)
  refine lv_aload_n C0.hx C0.hb dX15_node_20 rfl (lv_at hl 1 rfl) ?_
  refine gf_X15_15 C0 hW (C0.mem (i := 120) (Nat.le_of_ble_eq_true rfl)) k_120 tf_X15_39 dX15_node_21 ?_
  refine gfN_X14_14 C0 hW (C0.mem (i := 139) (Nat.le_of_ble_eq_true rfl)) k_139 tfN_X15_141 dX15_node_24 ?_
  refine lv_iload C0.hx C0.hb dX15_node_27 (lv_at hl 0 rfl) ?_
  refine lv_iload_n C0.hx C0.hb dX15_node_29 rfl (lv_at hl 3 rfl) ?_
  obtain ⟨hb2, h⟩ := g_if h
  refine gs_36 C0 hW (C0.mem (i := 149) (Nat.le_of_ble_eq_true rfl)) k_149 hb2 dX15_node_30 (fun H locs hW => ?_)
  refine lv_aload_n C0.hx C0.hb dX15_node_31 rfl (lv_at hl 1 rfl) ?_
  refine gf_X15_15 C0 hW (C0.mem (i := 120) (Nat.le_of_ble_eq_true rfl)) k_120 tf_X15_39 dX15_node_32 ?_
  refine gfN_X14_15 C0 hW (C0.mem (i := 139) (Nat.le_of_ble_eq_true rfl)) k_139 tfN_X15_144 dX15_node_35 ?_
  refine lv_iload C0.hx C0.hb dX15_node_38 (lv_at hl 0 rfl) ?_
  refine lv_iload_n C0.hx C0.hb dX15_node_40 rfl (lv_at hl 4 rfl) ?_
  obtain ⟨hb3, h⟩ := g_if h
  refine gs_36 C0 hW (C0.mem (i := 150) (Nat.le_of_ble_eq_true rfl)) k_150 hb3 dX15_node_41 (fun H locs hW => ?_)
  refine lv_aload_n C0.hx C0.hb dX15_node_42 rfl (lv_at hl 1 rfl) ?_
  refine gf_X15_15 C0 hW (C0.mem (i := 120) (Nat.le_of_ble_eq_true rfl)) k_120 tf_X15_39 dX15_node_43 ?_
  refine lv_dup C0.hx C0.hb dX15_node_46 rfl ?_
  refine gfN_X14_12 C0 hW (C0.mem (i := 139) (Nat.le_of_ble_eq_true rfl)) k_139 tfN_X15_135 dX15_node_47 ?_
  refine lv_iconst (v := (1 : Int32)) C0.hx C0.hb dX15_node_50 (by decide) ?_
  refine lv_iadd C0.hx C0.hb dX15_node_51 ?_
  refine gpN_X14_12 C0 hW (C0.mem (i := 139) (Nat.le_of_ble_eq_true rfl)) k_139 tfN_X15_135 dX15_node_52 (fun H locs hW => ?_)
  refine lv_iload C0.hx C0.hb dX15_node_55 (lv_at hl 0 rfl) ?_
  obtain rfl := Option.some.inj h
  exact g_iret C0 hW rfl rfl rfl dX15_node_57
set_option maxRecDepth 100000 in
set_option maxHeartbeats 4000000 in
theorem w_X15_isSameName_19 {p : Program} {l : Launch} {e : Env} {s : State} {m : MethodId} {args : Array Value} {below : List Frame} {meth : Method} {c : Code} {G : GL} {ids : List Nat} {x : CS} {o : Nat → Int32} {y : MS} {q : Int32}   (C0 : g_X G ids p s m args meth c cX15_isSameName 4 RX15 (Option.some Jvm.ClassFile.FieldType.boolean))  : ∀ (n : Nat) (l1 : Int32) (l2 : Int32) (l3 : Int32)  (H : Heap) (locs : List Loc) (ls : Array Slot),  f_X15_isSameName_19 y n l1 l2 l3 = some q → g_W G ids (x, y, o) s.heap H locs → lv_has ls 4 [(0, .ref (g_ad G (120))), (1, .int (l1)), (2, .int (l2)), (3, .int (l3))] → W p l e (g_rm 0 0 0) s m args below meth c H locs 0 0 (MQ below (g_Qi G ids q (x, y, o)) args s 0 0 (g_A G)) (F0 m 19 ls []) := by
  intro n
  induction n with
  | zero =>
    intro l1 l2 l3 H locs ls h hW hl
    exact absurd h (by simp [f_X15_isSameName_19])
  | succ n ih =>
    intro l1 l2 l3 H locs ls h hW hl
    unfold f_X15_isSameName_19 at h
    refine lv_iload_n C0.hx C0.hb dX15_isSameName_19 rfl (lv_at hl 3 rfl) ?_
    refine lv_aload_n C0.hx C0.hb dX15_isSameName_20 rfl (lv_at hl 0 rfl) ?_
    refine gf_X15_7 C0 hW (C0.mem (i := 120) (Nat.le_of_ble_eq_true rfl)) k_120 tf_X15_26 dX15_isSameName_21 ?_
    refine lv_iload_n C0.hx C0.hb dX15_isSameName_24 rfl (lv_at hl 1 rfl) ?_
    obtain ⟨hb4, h⟩ := g_if h
    refine ga_31 C0 hW (C0.mem (i := 125) (Nat.le_of_ble_eq_true rfl)) k_125 hb4 dX15_isSameName_25 ?_
    refine lv_icmp_ge (tgt := 66) C0.hx C0.hb dX15_isSameName_26 (by decide) (fun hc5 => ?_) (fun hc5 => ?_)
    · replace h := (if_pos hc5).symm.trans h
      refine lv_iconst (v := (1 : Int32)) C0.hx C0.hb dX15_isSameName_66 (by decide) ?_
      obtain rfl := Option.some.inj h
      exact g_iret C0 hW rfl (g_bool (Or.inr rfl)).1 rfl dX15_isSameName_67
    · replace h := (if_neg hc5).symm.trans h
      refine lv_aload_n C0.hx C0.hb dX15_isSameName_29 rfl (lv_at hl 0 rfl) ?_
      refine gf_X15_1 C0 hW (C0.mem (i := 120) (Nat.le_of_ble_eq_true rfl)) k_120 tf_X15_9 dX15_isSameName_30 ?_
      refine lv_aload_n C0.hx C0.hb dX15_isSameName_33 rfl (lv_at hl 0 rfl) ?_
      refine gf_X15_6 C0 hW (C0.mem (i := 120) (Nat.le_of_ble_eq_true rfl)) k_120 tf_X15_23 dX15_isSameName_34 ?_
      refine lv_iload_n C0.hx C0.hb dX15_isSameName_37 rfl (lv_at hl 1 rfl) ?_
      obtain ⟨hb6, h⟩ := g_if h
      refine ga_31 C0 hW (C0.mem (i := 124) (Nat.le_of_ble_eq_true rfl)) k_124 hb6 dX15_isSameName_38 ?_
      refine lv_iload_n C0.hx C0.hb dX15_isSameName_39 rfl (lv_at hl 3 rfl) ?_
      refine lv_iadd C0.hx C0.hb dX15_isSameName_40 ?_
      obtain ⟨hb7, h⟩ := g_if h
      refine ga_30 C0 hW (C0.mem (i := 121) (Nat.le_of_ble_eq_true rfl)) k_121 hb7 dX15_isSameName_41 ?_
      refine lv_aload_n C0.hx C0.hb dX15_isSameName_42 rfl (lv_at hl 0 rfl) ?_
      refine gf_X15_1 C0 hW (C0.mem (i := 120) (Nat.le_of_ble_eq_true rfl)) k_120 tf_X15_9 dX15_isSameName_43 ?_
      refine lv_aload_n C0.hx C0.hb dX15_isSameName_46 rfl (lv_at hl 0 rfl) ?_
      refine gf_X15_6 C0 hW (C0.mem (i := 120) (Nat.le_of_ble_eq_true rfl)) k_120 tf_X15_23 dX15_isSameName_47 ?_
      refine lv_iload_n C0.hx C0.hb dX15_isSameName_50 rfl (lv_at hl 2 rfl) ?_
      obtain ⟨hb8, h⟩ := g_if h
      refine ga_31 C0 hW (C0.mem (i := 124) (Nat.le_of_ble_eq_true rfl)) k_124 hb8 dX15_isSameName_51 ?_
      refine lv_iload_n C0.hx C0.hb dX15_isSameName_52 rfl (lv_at hl 3 rfl) ?_
      refine lv_iadd C0.hx C0.hb dX15_isSameName_53 ?_
      obtain ⟨hb9, h⟩ := g_if h
      refine ga_30 C0 hW (C0.mem (i := 121) (Nat.le_of_ble_eq_true rfl)) k_121 hb9 dX15_isSameName_54 ?_
      refine lv_icmp_eq (tgt := 60) C0.hx C0.hb dX15_isSameName_55 (by decide) (fun hc10 => ?_) (fun hc10 => ?_)
      · replace h := (if_pos hc10).symm.trans h
        refine lv_iinc (v := l3 + (1 : Int32)) (lv' := [(3, .int (l3 + (1 : Int32))), (0, .ref (g_ad G (120))), (1, .int (l1)), (2, .int (l2))]) C0.hx C0.hb dX15_isSameName_60 hl (k := 3) rfl rfl (by decide) rfl (fun ls hl => ?_)
        refine lv_goto (tgt := 19) C0.hx C0.hb dX15_isSameName_63 (by decide) ?_
        exact ih _ _ _ _ _ _ h hW (lv_sub hl [1, 2, 3, 0] rfl)
      · replace h := (if_neg hc10).symm.trans h
        refine lv_iconst (v := (0 : Int32)) C0.hx C0.hb dX15_isSameName_58 (by decide) ?_
        obtain rfl := Option.some.inj h
        exact g_iret C0 hW rfl (g_bool (Or.inl rfl)).1 rfl dX15_isSameName_59
set_option maxRecDepth 100000 in
set_option maxHeartbeats 4000000 in
theorem c_X15_isSameName {l : Launch} {G : GL} {ids : List Nat} {x : CS} {o : Nat → Int32} {y : MS} {p1 : Int32} {p2 : Int32} {q : Int32}    (h : f_X15_isSameName p1 p2 y = some q) : Met l yX15_isSameName (.code yX15_isSameName cX15_isSameName 4 (Option.some Jvm.ClassFile.FieldType.boolean) :: gT) (g_rm 0 0 0) (va_Pc [.ref (g_ad G (120)), .int (p1), .int (p2)] (g_P G ids (x, y, o))) (g_Qi G ids q (x, y, o)) 0 0 (g_A G) := by
  unfold f_X15_isSameName at h
  refine g_entry (by decide) (Nat.le_of_ble_eq_true rfl) (fun p e s m args below meth c ls C0 hl hW _ => ?_)
  have hl : lv_has ls 4 [(0, .ref (g_ad G (120))), (1, .int (p1)), (2, .int (p2))] := hl
  refine lv_aload_n C0.hx C0.hb dX15_isSameName_0 rfl (lv_at hl 0 rfl) ?_
  refine gf_X15_7 C0 hW (C0.mem (i := 120) (Nat.le_of_ble_eq_true rfl)) k_120 tf_X15_26 dX15_isSameName_1 ?_
  refine lv_iload_n C0.hx C0.hb dX15_isSameName_4 rfl (lv_at hl 1 rfl) ?_
  obtain ⟨hb1, h⟩ := g_if h
  refine ga_31 C0 hW (C0.mem (i := 125) (Nat.le_of_ble_eq_true rfl)) k_125 hb1 dX15_isSameName_5 ?_
  refine lv_aload_n C0.hx C0.hb dX15_isSameName_6 rfl (lv_at hl 0 rfl) ?_
  refine gf_X15_7 C0 hW (C0.mem (i := 120) (Nat.le_of_ble_eq_true rfl)) k_120 tf_X15_26 dX15_isSameName_7 ?_
  refine lv_iload_n C0.hx C0.hb dX15_isSameName_10 rfl (lv_at hl 2 rfl) ?_
  obtain ⟨hb2, h⟩ := g_if h
  refine ga_31 C0 hW (C0.mem (i := 125) (Nat.le_of_ble_eq_true rfl)) k_125 hb2 dX15_isSameName_11 ?_
  refine lv_icmp_eq (tgt := 17) C0.hx C0.hb dX15_isSameName_12 (by decide) (fun hc3 => ?_) (fun hc3 => ?_)
  · replace h := (if_pos hc3).symm.trans h
    refine lv_iconst (v := (0 : Int32)) C0.hx C0.hb dX15_isSameName_17 (by decide) ?_
    refine lv_istore_n (lv' := [(3, .int ((0 : Int32))), (0, .ref (g_ad G (120))), (1, .int (p1)), (2, .int (p2))]) C0.hx C0.hb dX15_isSameName_18 rfl hl (by decide) rfl (fun ls hl => ?_)
    exact w_X15_isSameName_19 C0 g_fuel _ _ _ _ _ _ h hW (lv_sub hl [1, 2, 3, 0] rfl)
  · replace h := (if_neg hc3).symm.trans h
    refine lv_iconst (v := (0 : Int32)) C0.hx C0.hb dX15_isSameName_15 (by decide) ?_
    obtain rfl := Option.some.inj h
    exact g_iret C0 hW rfl (g_bool (Or.inl rfl)).1 rfl dX15_isSameName_16
set_option maxRecDepth 100000 in
set_option maxHeartbeats 4000000 in
theorem w_X15_known_2 {p : Program} {l : Launch} {e : Env} {s : State} {m : MethodId} {args : Array Value} {below : List Frame} {meth : Method} {c : Code} {G : GL} {ids : List Nat} {x : CS} {o : Nat → Int32} {y : MS} {q : Int32}   (C0 : g_X G ids p s m args meth c cX15_known 2 RX15 (Option.some Jvm.ClassFile.FieldType.int))  : ∀ (n : Nat) (l1 : Int32)  (H : Heap) (locs : List Loc) (ls : Array Slot),  f_X15_known_2 y n l1 = some q → g_W G ids (x, y, o) s.heap H locs → lv_has ls 2 [(0, .ref (g_ad G (120))), (1, .int (l1))] → W p l e (g_rm 1 0 0) s m args below meth c H locs 0 0 (MQ below (g_Qi G ids q (x, y, o)) args s 0 0 (g_A G)) (F0 m 2 ls []) := by
  intro n
  induction n with
  | zero =>
    intro l1 H locs ls h hW hl
    exact absurd h (by simp [f_X15_known_2])
  | succ n ih =>
    intro l1 H locs ls h hW hl
    unfold f_X15_known_2 at h
    refine lv_iload_n C0.hx C0.hb dX15_known_2 rfl (lv_at hl 1 rfl) ?_
    refine lv_aload_n C0.hx C0.hb dX15_known_3 rfl (lv_at hl 0 rfl) ?_
    refine gf_X15_15 C0 hW (C0.mem (i := 120) (Nat.le_of_ble_eq_true rfl)) k_120 tf_X15_39 dX15_known_4 ?_
    refine gfN_X14_2 C0 hW (C0.mem (i := 139) (Nat.le_of_ble_eq_true rfl)) k_139 tfN_X15_147 dX15_known_7 ?_
    refine lv_icmp_ge (tgt := 38) C0.hx C0.hb dX15_known_10 (by decide) (fun hc1 => ?_) (fun hc1 => ?_)
    · replace h := (if_pos hc1).symm.trans h
      refine lv_iconst (v := (-1 : Int32)) C0.hx C0.hb dX15_known_38 (by decide) ?_
      obtain rfl := Option.some.inj h
      exact g_iret C0 hW rfl rfl rfl dX15_known_39
    · replace h := (if_neg hc1).symm.trans h
      refine lv_aload_n C0.hx C0.hb dX15_known_13 rfl (lv_at hl 0 rfl) ?_
      refine lv_aload_n C0.hx C0.hb dX15_known_14 rfl (lv_at hl 0 rfl) ?_
      refine gf_X15_13 C0 hW (C0.mem (i := 120) (Nat.le_of_ble_eq_true rfl)) k_120 tf_X15_29 dX15_known_15 ?_
      refine lv_iload_n C0.hx C0.hb dX15_known_18 rfl (lv_at hl 1 rfl) ?_
      obtain ⟨hb2, h⟩ := g_if h
      refine ga_32 C0 hW (C0.mem (i := 126) (Nat.le_of_ble_eq_true rfl)) k_126 hb2 dX15_known_19 ?_
      refine lv_aload_n C0.hx C0.hb dX15_known_20 rfl (lv_at hl 0 rfl) ?_
      refine gf_X15_8 C0 hW (C0.mem (i := 120) (Nat.le_of_ble_eq_true rfl)) k_120 tf_X15_117 dX15_known_21 ?_
      obtain ⟨q3, hq3, h⟩ := Option.bind_eq_some_iff.mp h
      refine g_calli hW (g_runV (As := [.int (y 126 l1.toNatClampNeg), .int (y 120 8)]) (rest := []) C0 hW (c_X15_isSameName hq3) (g_cwOf (n := 2) tc_X15_isSameName tn_X15 md_X15_isSameName (by decide) (by omega)) tm_X15_150 ti_X15_isSameName ts_X15_isSameName (C0.mem (i := 120) (Nat.le_of_ble_eq_true rfl)) (g_c12 k_120) rfl rfl hl.1 rfl (Nat.le_of_ble_eq_true rfl) dX15_known_24) (fun H locs hW => ?_)
      refine lv_if_eq (tgt := 32) C0.hx C0.hb dX15_known_27 (by decide) (fun hc4 => ?_) (fun hc4 => ?_)
      · replace h := (if_pos hc4).symm.trans h
        refine lv_iinc (v := l1 + (1 : Int32)) (lv' := [(1, .int (l1 + (1 : Int32))), (0, .ref (g_ad G (120)))]) C0.hx C0.hb dX15_known_32 hl (k := 1) rfl rfl (by decide) rfl (fun ls hl => ?_)
        refine lv_goto (tgt := 2) C0.hx C0.hb dX15_known_35 (by decide) ?_
        exact ih _ _ _ _ h hW (lv_sub hl [1, 0] rfl)
      · replace h := (if_neg hc4).symm.trans h
        refine lv_iload_n C0.hx C0.hb dX15_known_30 rfl (lv_at hl 1 rfl) ?_
        obtain rfl := Option.some.inj h
        exact g_iret C0 hW rfl rfl rfl dX15_known_31
set_option maxRecDepth 100000 in
set_option maxHeartbeats 4000000 in
theorem c_X15_known {l : Launch} {G : GL} {ids : List Nat} {x : CS} {o : Nat → Int32} {y : MS}  {q : Int32}    (h : f_X15_known y = some q) : Met l yX15_known (.code yX15_known cX15_known 2 (Option.some Jvm.ClassFile.FieldType.int) :: gT) (g_rm 1 0 0) (va_Pc [.ref (g_ad G (120))] (g_P G ids (x, y, o))) (g_Qi G ids q (x, y, o)) 0 0 (g_A G) := by
  unfold f_X15_known at h
  refine g_entry (by decide) (Nat.le_of_ble_eq_true rfl) (fun p e s m args below meth c ls C0 hl hW _ => ?_)
  have hl : lv_has ls 2 [(0, .ref (g_ad G (120)))] := hl
  refine lv_iconst (v := (0 : Int32)) C0.hx C0.hb dX15_known_0 (by decide) ?_
  refine lv_istore_n (lv' := [(1, .int ((0 : Int32))), (0, .ref (g_ad G (120)))]) C0.hx C0.hb dX15_known_1 rfl hl (by decide) rfl (fun ls hl => ?_)
  exact w_X15_known_2 C0 g_fuel _ _ _ _ h hW (lv_sub hl [1, 0] rfl)
set_option maxRecDepth 100000 in
set_option maxHeartbeats 4000000 in
theorem w_X15_name_28 {p : Program} {l : Launch} {e : Env} {s : State} {m : MethodId} {args : Array Value} {below : List Frame} {meth : Method} {c : Code} {G : GL} {ids : List Nat} {x : CS} {o : Nat → Int32}  {q : Int32 × MS}   (C0 : g_X G ids p s m args meth c cX15_name 2 RX15 (Option.some Jvm.ClassFile.FieldType.int))  : ∀  (l1 : Int32) (y : MS) (H : Heap) (locs : List Loc) (ls : Array Slot),  f_X15_name_28 l1 y = some q → g_W G ids (x, y, o) s.heap H locs → lv_has ls 2 [(0, .ref (g_ad G (120))), (1, .int (l1))] → W p l e (g_rm 2 0 0) s m args below meth c H locs 0 0 (MQ below (g_Qi G ids q.1 (x, q.2, o)) args s 0 0 (g_A G)) (F0 m 28 ls []) := by
  intro l1 y H locs ls h hW hl
  unfold f_X15_name_28 at h
  refine lv_aload_n C0.hx C0.hb dX15_name_28 rfl (lv_at hl 0 rfl) ?_
  refine lv_bipush (v := (30 : Int32)) C0.hx C0.hb dX15_name_29 (by decide) ?_
  obtain ⟨q6, hq6, h⟩ := Option.bind_eq_some_iff.mp h
  refine g_callv hW (g_runV (As := [.int ((30 : Int32))]) (rest := []) C0 hW (c_X15_take hq6) (g_cwOf (n := 1) tc_X15_take tn_X15 md_X15_take (by decide) (by omega)) tm_X15_161 ti_X15_take ts_X15_take (C0.mem (i := 120) (Nat.le_of_ble_eq_true rfl)) (g_c12 k_120) rfl rfl hl.1 rfl (Nat.le_of_ble_eq_true rfl) dX15_name_31) (fun H locs hW => ?_)
  refine lv_iconst (v := (0 : Int32)) C0.hx C0.hb dX15_name_34 (by decide) ?_
  refine lv_iload_n C0.hx C0.hb dX15_name_35 rfl (lv_at hl 1 rfl) ?_
  refine g_maxR C0 hl.1 (Nat.le_of_ble_eq_true rfl) (by omega) tm_X15_164 (by decide) (by decide) dX15_name_36 ?_
  obtain rfl := Option.some.inj h
  exact g_iret C0 hW rfl rfl rfl dX15_name_39
set_option maxRecDepth 100000 in
set_option maxHeartbeats 4000000 in
theorem w_X15_name_17 {p : Program} {l : Launch} {e : Env} {s : State} {m : MethodId} {args : Array Value} {below : List Frame} {meth : Method} {c : Code} {G : GL} {ids : List Nat} {x : CS} {o : Nat → Int32}  {q : Int32 × MS}   (C0 : g_X G ids p s m args meth c cX15_name 2 RX15 (Option.some Jvm.ClassFile.FieldType.int))  : ∀  (s0 : Int32) (y : MS) (H : Heap) (locs : List Loc) (ls : Array Slot),  f_X15_name_17 s0 y = some q → g_W G ids (x, y, o) s.heap H locs → lv_has ls 2 [(0, .ref (g_ad G (120)))] → W p l e (g_rm 2 0 0) s m args below meth c H locs 0 0 (MQ below (g_Qi G ids q.1 (x, q.2, o)) args s 0 0 (g_A G)) (F0 m 17 ls [.int (s0)]) := by
  intro s0 y H locs ls h hW hl
  unfold f_X15_name_17 at h
  refine lv_istore_n (lv' := [(1, .int (s0)), (0, .ref (g_ad G (120)))]) C0.hx C0.hb dX15_name_17 rfl hl (by decide) rfl (fun ls hl => ?_)
  refine lv_iload_n C0.hx C0.hb dX15_name_18 rfl (lv_at hl 0 rfl) ?_
  refine lv_iconst (v := (-1 : Int32)) C0.hx C0.hb dX15_name_19 (by decide) ?_
  refine lv_icmp_ne (tgt := 28) C0.hx C0.hb dX15_name_20 (by decide) (fun hc4 => ?_) (fun hc4 => ?_)
  · replace h := (if_neg hc4).symm.trans h
    exact w_X15_name_28 C0 _ _ _ _ _ h hW (lv_sub hl [1, 0] rfl)
  · replace h := (if_pos hc4).symm.trans h
    refine lv_aload_n C0.hx C0.hb dX15_name_23 rfl (lv_at hl 1 rfl) ?_
    refine lv_iconst (v := (3 : Int32)) C0.hx C0.hb dX15_name_24 (by decide) ?_
    obtain ⟨q5, hq5, h⟩ := Option.bind_eq_some_iff.mp h
    refine g_callv hW (g_runV (As := [.int ((3 : Int32))]) (rest := []) C0 hW (c_X15_mark hq5) (g_cwOf (n := 1) tc_X15_mark tn_X15 md_X15_mark (by decide) (by omega)) tm_X15_157 ti_X15_mark ts_X15_mark (C0.mem (i := 120) (Nat.le_of_ble_eq_true rfl)) (g_c12 k_120) rfl rfl hl.1 rfl (Nat.le_of_ble_eq_true rfl) dX15_name_25) (fun H locs hW => ?_)
    exact w_X15_name_28 C0 _ _ _ _ _ h hW (lv_sub hl [1, 0] rfl)
set_option maxRecDepth 100000 in
set_option maxHeartbeats 4000000 in
theorem c_X15_name {l : Launch} {G : GL} {ids : List Nat} {x : CS} {o : Nat → Int32} {y : MS}  {q : Int32 × MS}    (h : f_X15_name y = some q) : Met l yX15_name (.code yX15_name cX15_name 2 (Option.some Jvm.ClassFile.FieldType.int) :: gT) (g_rm 2 0 0) (va_Pc [.ref (g_ad G (120))] (g_P G ids (x, y, o))) (g_Qi G ids q.1 (x, q.2, o)) 0 0 (g_A G) := by
  unfold f_X15_name at h
  refine g_entry (by decide) (Nat.le_of_ble_eq_true rfl) (fun p e s m args below meth c ls C0 hl hW _ => ?_)
  have hl : lv_has ls 2 [(0, .ref (g_ad G (120)))] := hl
  refine lv_aload_n C0.hx C0.hb dX15_name_0 rfl (lv_at hl 0 rfl) ?_
  refine lv_bipush (v := (30 : Int32)) C0.hx C0.hb dX15_name_1 (by decide) ?_
  obtain ⟨q1, hq1, h⟩ := Option.bind_eq_some_iff.mp h
  refine g_calli hW (g_runV (As := [.int ((30 : Int32))]) (rest := []) C0 hW (c_X15_is hq1) (g_cwOf (n := 1) tc_X15_is tn_X15 md_X15_is (by decide) (by omega)) tm_X15_126 ti_X15_is ts_X15_is (C0.mem (i := 120) (Nat.le_of_ble_eq_true rfl)) (g_c12 k_120) rfl rfl hl.1 rfl (Nat.le_of_ble_eq_true rfl) dX15_name_3) (fun H locs hW => ?_)
  refine lv_if_eq (tgt := 16) C0.hx C0.hb dX15_name_6 (by decide) (fun hc2 => ?_) (fun hc2 => ?_)
  · replace h := (if_pos hc2).symm.trans h
    refine lv_iconst (v := (0 : Int32)) C0.hx C0.hb dX15_name_16 (by decide) ?_
    exact w_X15_name_17 C0 _ _ _ _ _ h hW (lv_sub hl [0] rfl)
  · replace h := (if_neg hc2).symm.trans h
    refine lv_aload_n C0.hx C0.hb dX15_name_9 rfl (lv_at hl 0 rfl) ?_
    obtain ⟨q3, hq3, h⟩ := Option.bind_eq_some_iff.mp h
    refine g_calli hW (g_runV (As := []) (rest := []) C0 hW (c_X15_known hq3) (g_cwOf (n := 0) tc_X15_known tn_X15 md_X15_known (by decide) (by omega)) tm_X15_154 ti_X15_known ts_X15_known (C0.mem (i := 120) (Nat.le_of_ble_eq_true rfl)) (g_c12 k_120) rfl rfl hl.1 rfl (Nat.le_of_ble_eq_true rfl) dX15_name_10) (fun H locs hW => ?_)
    refine lv_goto (tgt := 17) C0.hx C0.hb dX15_name_13 (by decide) ?_
    exact w_X15_name_17 C0 _ _ _ _ _ h hW (lv_sub hl [0] rfl)
set_option maxRecDepth 100000 in
set_option maxHeartbeats 4000000 in
theorem w_X15_product_23 {p : Program} {l : Launch} {e : Env} {s : State} {m : MethodId} {args : Array Value} {below : List Frame} {meth : Method} {c : Code} {G : GL} {ids : List Nat} {x : CS} {o : Nat → Int32}  {q : Int32 × MS} {k5 : Int32 → MS → Option (Int32 × MS)} {val : MS → Option (Int32 × MS)} {k : Nat} (hval : ∀ (y : MS) (q : Int32 × MS), val y = some q → Met l yX15_value (.code yX15_value cX15_value 2 (Option.some Jvm.ClassFile.FieldType.int) :: gT) (g_rm k 0 0) (va_Pc [.ref (g_ad G 120)] (g_P G ids (x, y, o))) (g_Qi G ids q.1 (x, q.2, o)) 0 0 (g_A G)) (hk0 : 12 ≤ k)  (C0 : g_X G ids p s m args meth c cX15_product 3 RX15 (Option.some Jvm.ClassFile.FieldType.int)) (kt5 : ∀ (l1 : Int32) (y : MS) (H : Heap) (locs : List Loc) (ls : Array Slot),  k5 l1 y = some q → g_W G ids (x, y, o) s.heap H locs → lv_has ls 3 [(0, .ref (g_ad G (120))), (1, .int (l1))] → W p l e (g_rm (k + 1) 0 0) s m args below meth c H locs 0 0 (MQ below (g_Qi G ids q.1 (x, q.2, o)) args s 0 0 (g_A G)) (F0 m 5 ls [])) : ∀  (l1 : Int32) (y : MS) (H : Heap) (locs : List Loc) (ls : Array Slot),  f_X15_product_23 val k5 l1 y = some q → g_W G ids (x, y, o) s.heap H locs → lv_has ls 3 [(0, .ref (g_ad G (120))), (1, .int (l1))] → W p l e (g_rm (k + 1) 0 0) s m args below meth c H locs 0 0 (MQ below (g_Qi G ids q.1 (x, q.2, o)) args s 0 0 (g_A G)) (F0 m 23 ls []) := by
  intro l1 y H locs ls h hW hl
  unfold f_X15_product_23 at h
  refine lv_aload_n C0.hx C0.hb dX15_product_23 rfl (lv_at hl 0 rfl) ?_
  refine gf_X15_4 C0 hW (C0.mem (i := 120) (Nat.le_of_ble_eq_true rfl)) k_120 tf_X15_17 dX15_product_24 ?_
  refine lv_aload_n C0.hx C0.hb dX15_product_27 rfl (lv_at hl 0 rfl) ?_
  refine gf_X15_8 C0 hW (C0.mem (i := 120) (Nat.le_of_ble_eq_true rfl)) k_120 tf_X15_117 dX15_product_28 ?_
  obtain ⟨hb6, h⟩ := g_if h
  refine ga_31 C0 hW (C0.mem (i := 122) (Nat.le_of_ble_eq_true rfl)) k_122 hb6 dX15_product_31 ?_
  refine lv_istore_n (lv' := [(2, .int (y 122 (y 120 8).toNatClampNeg)), (0, .ref (g_ad G (120))), (1, .int (l1))]) C0.hx C0.hb dX15_product_32 rfl hl (by decide) rfl (fun ls hl => ?_)
  refine lv_aload_n C0.hx C0.hb dX15_product_33 rfl (lv_at hl 1 rfl) ?_
  refine lv_dup C0.hx C0.hb dX15_product_34 rfl ?_
  refine gf_X15_8 C0 hW (C0.mem (i := 120) (Nat.le_of_ble_eq_true rfl)) k_120 tf_X15_117 dX15_product_35 ?_
  refine lv_iconst (v := (1 : Int32)) C0.hx C0.hb dX15_product_38 (by decide) ?_
  refine lv_iadd C0.hx C0.hb dX15_product_39 ?_
  refine gp_X15_8 C0 hW (C0.mem (i := 120) (Nat.le_of_ble_eq_true rfl)) k_120 tf_X15_117 dX15_product_40 (fun H locs hW => ?_)
  refine lv_aload_n C0.hx C0.hb dX15_product_43 rfl (lv_at hl 1 rfl) ?_
  refine lv_iload_n C0.hx C0.hb dX15_product_44 rfl (lv_at hl 0 rfl) ?_
  refine lv_iload_n C0.hx C0.hb dX15_product_45 rfl (lv_at hl 2 rfl) ?_
  refine lv_aload_n C0.hx C0.hb dX15_product_46 rfl (lv_at hl 1 rfl) ?_
  obtain ⟨q7, hq7, h⟩ := Option.bind_eq_some_iff.mp h
  refine g_calli hW (g_runV (As := []) (rest := [.int (l1), .int (y 122 (y 120 8).toNatClampNeg), .ref (g_ad G (120))]) C0 hW (hval _ _ hq7) (g_cwOf (n := 0) tc_X15_value tn_X15 md_X15_value (by decide) (by omega)) tm_X15_188 ti_X15_value ts_X15_value (C0.mem (i := 120) (Nat.le_of_ble_eq_true rfl)) (g_c12 k_120) rfl rfl hl.1 rfl (Nat.le_of_ble_eq_true rfl) dX15_product_47) (fun H locs hW => ?_)
  obtain ⟨q8, hq8, h⟩ := Option.bind_eq_some_iff.mp h
  refine g_calli hW (g_runV (As := [.int (y 122 (y 120 8).toNatClampNeg), .int (l1), .int (q7.1)]) (rest := []) C0 hW (c_X15_node hq8) (g_cwOf (n := 3) tc_X15_node tn_X15 md_X15_node (by decide) (by omega)) tm_X15_175 ti_X15_node ts_X15_node (C0.mem (i := 120) (Nat.le_of_ble_eq_true rfl)) (g_c12 k_120) rfl rfl hl.1 rfl (Nat.le_of_ble_eq_true rfl) dX15_product_50) (fun H locs hW => ?_)
  refine lv_istore_n (lv' := [(1, .int (q8.1)), (2, .int (y 122 (y 120 8).toNatClampNeg)), (0, .ref (g_ad G (120)))]) C0.hx C0.hb dX15_product_53 rfl hl (by decide) rfl (fun ls hl => ?_)
  refine lv_goto (tgt := 5) C0.hx C0.hb dX15_product_54 (by decide) ?_
  exact kt5 _ _ _ _ _ h hW (lv_sub hl [2, 0] rfl)
set_option maxRecDepth 100000 in
set_option maxHeartbeats 4000000 in
theorem w_X15_product_5 {p : Program} {l : Launch} {e : Env} {s : State} {m : MethodId} {args : Array Value} {below : List Frame} {meth : Method} {c : Code} {G : GL} {ids : List Nat} {x : CS} {o : Nat → Int32}  {q : Int32 × MS} {val : MS → Option (Int32 × MS)} {k : Nat} (hval : ∀ (y : MS) (q : Int32 × MS), val y = some q → Met l yX15_value (.code yX15_value cX15_value 2 (Option.some Jvm.ClassFile.FieldType.int) :: gT) (g_rm k 0 0) (va_Pc [.ref (g_ad G 120)] (g_P G ids (x, y, o))) (g_Qi G ids q.1 (x, q.2, o)) 0 0 (g_A G)) (hk0 : 12 ≤ k)  (C0 : g_X G ids p s m args meth c cX15_product 3 RX15 (Option.some Jvm.ClassFile.FieldType.int))  : ∀ (n : Nat) (l1 : Int32) (y : MS) (H : Heap) (locs : List Loc) (ls : Array Slot),  f_X15_product_5 val n l1 y = some q → g_W G ids (x, y, o) s.heap H locs → lv_has ls 3 [(0, .ref (g_ad G (120))), (1, .int (l1))] → W p l e (g_rm (k + 1) 0 0) s m args below meth c H locs 0 0 (MQ below (g_Qi G ids q.1 (x, q.2, o)) args s 0 0 (g_A G)) (F0 m 5 ls []) := by
  intro n
  induction n with
  | zero =>
    intro l1 y H locs ls h hW hl
    exact absurd h (by simp [f_X15_product_5])
  | succ n ih =>
    intro l1 y H locs ls h hW hl
    unfold f_X15_product_5 at h
    refine lv_aload_n C0.hx C0.hb dX15_product_5 rfl (lv_at hl 0 rfl) ?_
    refine lv_bipush (v := (42 : Int32)) C0.hx C0.hb dX15_product_6 (by decide) ?_
    obtain ⟨q2, hq2, h⟩ := Option.bind_eq_some_iff.mp h
    refine g_calli hW (g_runV (As := [.int ((42 : Int32))]) (rest := []) C0 hW (c_X15_is hq2) (g_cwOf (n := 1) tc_X15_is tn_X15 md_X15_is (by decide) (by omega)) tm_X15_126 ti_X15_is ts_X15_is (C0.mem (i := 120) (Nat.le_of_ble_eq_true rfl)) (g_c12 k_120) rfl rfl hl.1 rfl (Nat.le_of_ble_eq_true rfl) dX15_product_8) (fun H locs hW => ?_)
    refine lv_if_ne (tgt := 23) C0.hx C0.hb dX15_product_11 (by decide) (fun hc3 => ?_) (fun hc3 => ?_)
    · replace h := (if_neg hc3).symm.trans h
      exact w_X15_product_23 hval (by omega) C0 ih _ _ _ _ _ h hW (lv_sub hl [0, 1] rfl)
    · replace h := (if_pos hc3).symm.trans h
      refine lv_aload_n C0.hx C0.hb dX15_product_14 rfl (lv_at hl 0 rfl) ?_
      refine lv_bipush (v := (43 : Int32)) C0.hx C0.hb dX15_product_15 (by decide) ?_
      obtain ⟨q4, hq4, h⟩ := Option.bind_eq_some_iff.mp h
      refine g_calli hW (g_runV (As := [.int ((43 : Int32))]) (rest := []) C0 hW (c_X15_is hq4) (g_cwOf (n := 1) tc_X15_is tn_X15 md_X15_is (by decide) (by omega)) tm_X15_126 ti_X15_is ts_X15_is (C0.mem (i := 120) (Nat.le_of_ble_eq_true rfl)) (g_c12 k_120) rfl rfl hl.1 rfl (Nat.le_of_ble_eq_true rfl) dX15_product_17) (fun H locs hW => ?_)
      refine lv_if_eq (tgt := 57) C0.hx C0.hb dX15_product_20 (by decide) (fun hc5 => ?_) (fun hc5 => ?_)
      · replace h := (if_pos hc5).symm.trans h
        refine lv_iload_n C0.hx C0.hb dX15_product_57 rfl (lv_at hl 1 rfl) ?_
        obtain rfl := Option.some.inj h
        exact g_iret C0 hW rfl rfl rfl dX15_product_58
      · replace h := (if_neg hc5).symm.trans h
        exact w_X15_product_23 hval (by omega) C0 ih _ _ _ _ _ h hW (lv_sub hl [0, 1] rfl)
set_option maxRecDepth 100000 in
set_option maxHeartbeats 4000000 in
theorem c_X15_product {l : Launch} {G : GL} {ids : List Nat} {x : CS} {o : Nat → Int32} {y : MS}  {q : Int32 × MS} {val : MS → Option (Int32 × MS)} {k : Nat} (hval : ∀ (y : MS) (q : Int32 × MS), val y = some q → Met l yX15_value (.code yX15_value cX15_value 2 (Option.some Jvm.ClassFile.FieldType.int) :: gT) (g_rm k 0 0) (va_Pc [.ref (g_ad G 120)] (g_P G ids (x, y, o))) (g_Qi G ids q.1 (x, q.2, o)) 0 0 (g_A G)) (hk0 : 12 ≤ k)   (h : f_X15_product val y = some q) : Met l yX15_product (.code yX15_product cX15_product 3 (Option.some Jvm.ClassFile.FieldType.int) :: gT) (g_rm (k + 1) 0 0) (va_Pc [.ref (g_ad G (120))] (g_P G ids (x, y, o))) (g_Qi G ids q.1 (x, q.2, o)) 0 0 (g_A G) := by
  unfold f_X15_product at h
  refine g_entry (by decide) (Nat.le_of_ble_eq_true rfl) (fun p e s m args below meth c ls C0 hl hW _ => ?_)
  have hl : lv_has ls 3 [(0, .ref (g_ad G (120)))] := hl
  refine lv_aload_n C0.hx C0.hb dX15_product_0 rfl (lv_at hl 0 rfl) ?_
  obtain ⟨q1, hq1, h⟩ := Option.bind_eq_some_iff.mp h
  refine g_calli hW (g_runV (As := []) (rest := []) C0 hW (hval _ _ hq1) (g_cwOf (n := 0) tc_X15_value tn_X15 md_X15_value (by decide) (by omega)) tm_X15_188 ti_X15_value ts_X15_value (C0.mem (i := 120) (Nat.le_of_ble_eq_true rfl)) (g_c12 k_120) rfl rfl hl.1 rfl (Nat.le_of_ble_eq_true rfl) dX15_product_1) (fun H locs hW => ?_)
  refine lv_istore_n (lv' := [(1, .int (q1.1)), (0, .ref (g_ad G (120)))]) C0.hx C0.hb dX15_product_4 rfl hl (by decide) rfl (fun ls hl => ?_)
  exact w_X15_product_5 hval (by omega) C0 g_fuel _ _ _ _ _ h hW (lv_sub hl [1, 0] rfl)
set_option maxRecDepth 100000 in
set_option maxHeartbeats 4000000 in
theorem w_X15_sum_23 {p : Program} {l : Launch} {e : Env} {s : State} {m : MethodId} {args : Array Value} {below : List Frame} {meth : Method} {c : Code} {G : GL} {ids : List Nat} {x : CS} {o : Nat → Int32}  {q : Int32 × MS} {k5 : Int32 → MS → Option (Int32 × MS)} {val : MS → Option (Int32 × MS)} {k : Nat} (hval : ∀ (y : MS) (q : Int32 × MS), val y = some q → Met l yX15_value (.code yX15_value cX15_value 2 (Option.some Jvm.ClassFile.FieldType.int) :: gT) (g_rm k 0 0) (va_Pc [.ref (g_ad G 120)] (g_P G ids (x, y, o))) (g_Qi G ids q.1 (x, q.2, o)) 0 0 (g_A G)) (hk0 : 12 ≤ k)  (C0 : g_X G ids p s m args meth c cX15_sum 3 RX15 (Option.some Jvm.ClassFile.FieldType.int)) (kt5 : ∀ (l1 : Int32) (y : MS) (H : Heap) (locs : List Loc) (ls : Array Slot),  k5 l1 y = some q → g_W G ids (x, y, o) s.heap H locs → lv_has ls 3 [(0, .ref (g_ad G (120))), (1, .int (l1))] → W p l e (g_rm (k + 2) 0 0) s m args below meth c H locs 0 0 (MQ below (g_Qi G ids q.1 (x, q.2, o)) args s 0 0 (g_A G)) (F0 m 5 ls [])) : ∀  (l1 : Int32) (y : MS) (H : Heap) (locs : List Loc) (ls : Array Slot),  f_X15_sum_23 val k5 l1 y = some q → g_W G ids (x, y, o) s.heap H locs → lv_has ls 3 [(0, .ref (g_ad G (120))), (1, .int (l1))] → W p l e (g_rm (k + 2) 0 0) s m args below meth c H locs 0 0 (MQ below (g_Qi G ids q.1 (x, q.2, o)) args s 0 0 (g_A G)) (F0 m 23 ls []) := by
  intro l1 y H locs ls h hW hl
  unfold f_X15_sum_23 at h
  refine lv_aload_n C0.hx C0.hb dX15_sum_23 rfl (lv_at hl 0 rfl) ?_
  refine gf_X15_4 C0 hW (C0.mem (i := 120) (Nat.le_of_ble_eq_true rfl)) k_120 tf_X15_17 dX15_sum_24 ?_
  refine lv_aload_n C0.hx C0.hb dX15_sum_27 rfl (lv_at hl 0 rfl) ?_
  refine gf_X15_8 C0 hW (C0.mem (i := 120) (Nat.le_of_ble_eq_true rfl)) k_120 tf_X15_117 dX15_sum_28 ?_
  obtain ⟨hb6, h⟩ := g_if h
  refine ga_31 C0 hW (C0.mem (i := 122) (Nat.le_of_ble_eq_true rfl)) k_122 hb6 dX15_sum_31 ?_
  refine lv_istore_n (lv' := [(2, .int (y 122 (y 120 8).toNatClampNeg)), (0, .ref (g_ad G (120))), (1, .int (l1))]) C0.hx C0.hb dX15_sum_32 rfl hl (by decide) rfl (fun ls hl => ?_)
  refine lv_aload_n C0.hx C0.hb dX15_sum_33 rfl (lv_at hl 1 rfl) ?_
  refine lv_dup C0.hx C0.hb dX15_sum_34 rfl ?_
  refine gf_X15_8 C0 hW (C0.mem (i := 120) (Nat.le_of_ble_eq_true rfl)) k_120 tf_X15_117 dX15_sum_35 ?_
  refine lv_iconst (v := (1 : Int32)) C0.hx C0.hb dX15_sum_38 (by decide) ?_
  refine lv_iadd C0.hx C0.hb dX15_sum_39 ?_
  refine gp_X15_8 C0 hW (C0.mem (i := 120) (Nat.le_of_ble_eq_true rfl)) k_120 tf_X15_117 dX15_sum_40 (fun H locs hW => ?_)
  refine lv_aload_n C0.hx C0.hb dX15_sum_43 rfl (lv_at hl 1 rfl) ?_
  refine lv_iload_n C0.hx C0.hb dX15_sum_44 rfl (lv_at hl 0 rfl) ?_
  refine lv_iload_n C0.hx C0.hb dX15_sum_45 rfl (lv_at hl 2 rfl) ?_
  refine lv_aload_n C0.hx C0.hb dX15_sum_46 rfl (lv_at hl 1 rfl) ?_
  obtain ⟨q7, hq7, h⟩ := Option.bind_eq_some_iff.mp h
  refine g_calli hW (g_runV (As := []) (rest := [.int (l1), .int (y 122 (y 120 8).toNatClampNeg), .ref (g_ad G (120))]) C0 hW (c_X15_product hval (by omega) hq7) (g_cwOf (n := 0) tc_X15_product tn_X15 md_X15_product (by decide) (by omega)) tm_X15_190 ti_X15_product ts_X15_product (C0.mem (i := 120) (Nat.le_of_ble_eq_true rfl)) (g_c12 k_120) rfl rfl hl.1 rfl (Nat.le_of_ble_eq_true rfl) dX15_sum_47) (fun H locs hW => ?_)
  obtain ⟨q8, hq8, h⟩ := Option.bind_eq_some_iff.mp h
  refine g_calli hW (g_runV (As := [.int (y 122 (y 120 8).toNatClampNeg), .int (l1), .int (q7.1)]) (rest := []) C0 hW (c_X15_node hq8) (g_cwOf (n := 3) tc_X15_node tn_X15 md_X15_node (by decide) (by omega)) tm_X15_175 ti_X15_node ts_X15_node (C0.mem (i := 120) (Nat.le_of_ble_eq_true rfl)) (g_c12 k_120) rfl rfl hl.1 rfl (Nat.le_of_ble_eq_true rfl) dX15_sum_50) (fun H locs hW => ?_)
  refine lv_istore_n (lv' := [(1, .int (q8.1)), (2, .int (y 122 (y 120 8).toNatClampNeg)), (0, .ref (g_ad G (120)))]) C0.hx C0.hb dX15_sum_53 rfl hl (by decide) rfl (fun ls hl => ?_)
  refine lv_goto (tgt := 5) C0.hx C0.hb dX15_sum_54 (by decide) ?_
  exact kt5 _ _ _ _ _ h hW (lv_sub hl [2, 0] rfl)
set_option maxRecDepth 100000 in
set_option maxHeartbeats 4000000 in
theorem w_X15_sum_5 {p : Program} {l : Launch} {e : Env} {s : State} {m : MethodId} {args : Array Value} {below : List Frame} {meth : Method} {c : Code} {G : GL} {ids : List Nat} {x : CS} {o : Nat → Int32}  {q : Int32 × MS} {val : MS → Option (Int32 × MS)} {k : Nat} (hval : ∀ (y : MS) (q : Int32 × MS), val y = some q → Met l yX15_value (.code yX15_value cX15_value 2 (Option.some Jvm.ClassFile.FieldType.int) :: gT) (g_rm k 0 0) (va_Pc [.ref (g_ad G 120)] (g_P G ids (x, y, o))) (g_Qi G ids q.1 (x, q.2, o)) 0 0 (g_A G)) (hk0 : 12 ≤ k)  (C0 : g_X G ids p s m args meth c cX15_sum 3 RX15 (Option.some Jvm.ClassFile.FieldType.int))  : ∀ (n : Nat) (l1 : Int32) (y : MS) (H : Heap) (locs : List Loc) (ls : Array Slot),  f_X15_sum_5 val n l1 y = some q → g_W G ids (x, y, o) s.heap H locs → lv_has ls 3 [(0, .ref (g_ad G (120))), (1, .int (l1))] → W p l e (g_rm (k + 2) 0 0) s m args below meth c H locs 0 0 (MQ below (g_Qi G ids q.1 (x, q.2, o)) args s 0 0 (g_A G)) (F0 m 5 ls []) := by
  intro n
  induction n with
  | zero =>
    intro l1 y H locs ls h hW hl
    exact absurd h (by simp [f_X15_sum_5])
  | succ n ih =>
    intro l1 y H locs ls h hW hl
    unfold f_X15_sum_5 at h
    refine lv_aload_n C0.hx C0.hb dX15_sum_5 rfl (lv_at hl 0 rfl) ?_
    refine lv_bipush (v := (40 : Int32)) C0.hx C0.hb dX15_sum_6 (by decide) ?_
    obtain ⟨q2, hq2, h⟩ := Option.bind_eq_some_iff.mp h
    refine g_calli hW (g_runV (As := [.int ((40 : Int32))]) (rest := []) C0 hW (c_X15_is hq2) (g_cwOf (n := 1) tc_X15_is tn_X15 md_X15_is (by decide) (by omega)) tm_X15_126 ti_X15_is ts_X15_is (C0.mem (i := 120) (Nat.le_of_ble_eq_true rfl)) (g_c12 k_120) rfl rfl hl.1 rfl (Nat.le_of_ble_eq_true rfl) dX15_sum_8) (fun H locs hW => ?_)
    refine lv_if_ne (tgt := 23) C0.hx C0.hb dX15_sum_11 (by decide) (fun hc3 => ?_) (fun hc3 => ?_)
    · replace h := (if_neg hc3).symm.trans h
      exact w_X15_sum_23 hval (by omega) C0 ih _ _ _ _ _ h hW (lv_sub hl [0, 1] rfl)
    · replace h := (if_pos hc3).symm.trans h
      refine lv_aload_n C0.hx C0.hb dX15_sum_14 rfl (lv_at hl 0 rfl) ?_
      refine lv_bipush (v := (41 : Int32)) C0.hx C0.hb dX15_sum_15 (by decide) ?_
      obtain ⟨q4, hq4, h⟩ := Option.bind_eq_some_iff.mp h
      refine g_calli hW (g_runV (As := [.int ((41 : Int32))]) (rest := []) C0 hW (c_X15_is hq4) (g_cwOf (n := 1) tc_X15_is tn_X15 md_X15_is (by decide) (by omega)) tm_X15_126 ti_X15_is ts_X15_is (C0.mem (i := 120) (Nat.le_of_ble_eq_true rfl)) (g_c12 k_120) rfl rfl hl.1 rfl (Nat.le_of_ble_eq_true rfl) dX15_sum_17) (fun H locs hW => ?_)
      refine lv_if_eq (tgt := 57) C0.hx C0.hb dX15_sum_20 (by decide) (fun hc5 => ?_) (fun hc5 => ?_)
      · replace h := (if_pos hc5).symm.trans h
        refine lv_iload_n C0.hx C0.hb dX15_sum_57 rfl (lv_at hl 1 rfl) ?_
        obtain rfl := Option.some.inj h
        exact g_iret C0 hW rfl rfl rfl dX15_sum_58
      · replace h := (if_neg hc5).symm.trans h
        exact w_X15_sum_23 hval (by omega) C0 ih _ _ _ _ _ h hW (lv_sub hl [0, 1] rfl)
set_option maxRecDepth 100000 in
set_option maxHeartbeats 4000000 in
theorem c_X15_sum {l : Launch} {G : GL} {ids : List Nat} {x : CS} {o : Nat → Int32} {y : MS}  {q : Int32 × MS} {val : MS → Option (Int32 × MS)} {k : Nat} (hval : ∀ (y : MS) (q : Int32 × MS), val y = some q → Met l yX15_value (.code yX15_value cX15_value 2 (Option.some Jvm.ClassFile.FieldType.int) :: gT) (g_rm k 0 0) (va_Pc [.ref (g_ad G 120)] (g_P G ids (x, y, o))) (g_Qi G ids q.1 (x, q.2, o)) 0 0 (g_A G)) (hk0 : 12 ≤ k)   (h : f_X15_sum val y = some q) : Met l yX15_sum (.code yX15_sum cX15_sum 3 (Option.some Jvm.ClassFile.FieldType.int) :: gT) (g_rm (k + 2) 0 0) (va_Pc [.ref (g_ad G (120))] (g_P G ids (x, y, o))) (g_Qi G ids q.1 (x, q.2, o)) 0 0 (g_A G) := by
  unfold f_X15_sum at h
  refine g_entry (by decide) (Nat.le_of_ble_eq_true rfl) (fun p e s m args below meth c ls C0 hl hW _ => ?_)
  have hl : lv_has ls 3 [(0, .ref (g_ad G (120)))] := hl
  refine lv_aload_n C0.hx C0.hb dX15_sum_0 rfl (lv_at hl 0 rfl) ?_
  obtain ⟨q1, hq1, h⟩ := Option.bind_eq_some_iff.mp h
  refine g_calli hW (g_runV (As := []) (rest := []) C0 hW (c_X15_product hval (by omega) hq1) (g_cwOf (n := 0) tc_X15_product tn_X15 md_X15_product (by decide) (by omega)) tm_X15_190 ti_X15_product ts_X15_product (C0.mem (i := 120) (Nat.le_of_ble_eq_true rfl)) (g_c12 k_120) rfl rfl hl.1 rfl (Nat.le_of_ble_eq_true rfl) dX15_sum_1) (fun H locs hW => ?_)
  refine lv_istore_n (lv' := [(1, .int (q1.1)), (0, .ref (g_ad G (120)))]) C0.hx C0.hb dX15_sum_4 rfl hl (by decide) rfl (fun ls hl => ?_)
  exact w_X15_sum_5 hval (by omega) C0 g_fuel _ _ _ _ _ h hW (lv_sub hl [1, 0] rfl)
set_option maxRecDepth 100000 in
set_option maxHeartbeats 4000000 in
theorem c_X15_inBrackets {l : Launch} {G : GL} {ids : List Nat} {x : CS} {o : Nat → Int32} {y : MS}  {q : Int32 × MS} {val : MS → Option (Int32 × MS)} {k : Nat} (hval : ∀ (y : MS) (q : Int32 × MS), val y = some q → Met l yX15_value (.code yX15_value cX15_value 2 (Option.some Jvm.ClassFile.FieldType.int) :: gT) (g_rm k 0 0) (va_Pc [.ref (g_ad G 120)] (g_P G ids (x, y, o))) (g_Qi G ids q.1 (x, q.2, o)) 0 0 (g_A G)) (hk0 : 12 ≤ k)   (h : f_X15_inBrackets val y = some q) : Met l yX15_inBrackets (.code yX15_inBrackets cX15_inBrackets 2 (Option.some Jvm.ClassFile.FieldType.int) :: gT) (g_rm (k + 3) 0 0) (va_Pc [.ref (g_ad G (120))] (g_P G ids (x, y, o))) (g_Qi G ids q.1 (x, q.2, o)) 0 0 (g_A G) := by
  unfold f_X15_inBrackets at h
  refine g_entry (by decide) (Nat.le_of_ble_eq_true rfl) (fun p e s m args below meth c ls C0 hl hW _ => ?_)
  have hl : lv_has ls 2 [(0, .ref (g_ad G (120)))] := hl
  refine lv_aload_n C0.hx C0.hb dX15_inBrackets_0 rfl (lv_at hl 0 rfl) ?_
  obtain ⟨q1, hq1, h⟩ := Option.bind_eq_some_iff.mp h
  refine g_callv hW (g_runV (As := []) (rest := []) C0 hW (c_X15_deeper hq1) (g_cwOf (n := 0) tc_X15_deeper tn_X15 md_X15_deeper (by decide) (by omega)) tm_X15_169 ti_X15_deeper ts_X15_deeper (C0.mem (i := 120) (Nat.le_of_ble_eq_true rfl)) (g_c12 k_120) rfl rfl hl.1 rfl (Nat.le_of_ble_eq_true rfl) dX15_inBrackets_1) (fun H locs hW => ?_)
  refine lv_aload_n C0.hx C0.hb dX15_inBrackets_4 rfl (lv_at hl 0 rfl) ?_
  obtain ⟨q2, hq2, h⟩ := Option.bind_eq_some_iff.mp h
  refine g_calli hW (g_runV (As := []) (rest := []) C0 hW (c_X15_sum hval (by omega) hq2) (g_cwOf (n := 0) tc_X15_sum tn_X15 md_X15_sum (by decide) (by omega)) tm_X15_172 ti_X15_sum ts_X15_sum (C0.mem (i := 120) (Nat.le_of_ble_eq_true rfl)) (g_c12 k_120) rfl rfl hl.1 rfl (Nat.le_of_ble_eq_true rfl) dX15_inBrackets_5) (fun H locs hW => ?_)
  refine lv_istore_n (lv' := [(1, .int (q2.1)), (0, .ref (g_ad G (120)))]) C0.hx C0.hb dX15_inBrackets_8 rfl hl (by decide) rfl (fun ls hl => ?_)
  refine lv_aload_n C0.hx C0.hb dX15_inBrackets_9 rfl (lv_at hl 1 rfl) ?_
  refine lv_bipush (v := (50 : Int32)) C0.hx C0.hb dX15_inBrackets_10 (by decide) ?_
  obtain ⟨q3, hq3, h⟩ := Option.bind_eq_some_iff.mp h
  refine g_callv hW (g_runV (As := [.int ((50 : Int32))]) (rest := []) C0 hW (c_X15_take hq3) (g_cwOf (n := 1) tc_X15_take tn_X15 md_X15_take (by decide) (by omega)) tm_X15_161 ti_X15_take ts_X15_take (C0.mem (i := 120) (Nat.le_of_ble_eq_true rfl)) (g_c12 k_120) rfl rfl hl.1 rfl (Nat.le_of_ble_eq_true rfl) dX15_inBrackets_12) (fun H locs hW => ?_)
  refine lv_aload_n C0.hx C0.hb dX15_inBrackets_15 rfl (lv_at hl 1 rfl) ?_
  refine lv_dup C0.hx C0.hb dX15_inBrackets_16 rfl ?_
  refine gf_X15_12 C0 hW (C0.mem (i := 120) (Nat.le_of_ble_eq_true rfl)) k_120 tf_X15_132 dX15_inBrackets_17 ?_
  refine lv_iconst (v := (1 : Int32)) C0.hx C0.hb dX15_inBrackets_20 (by decide) ?_
  refine lv_isub C0.hx C0.hb dX15_inBrackets_21 ?_
  refine gp_X15_12 C0 hW (C0.mem (i := 120) (Nat.le_of_ble_eq_true rfl)) k_120 tf_X15_132 dX15_inBrackets_22 (fun H locs hW => ?_)
  refine lv_iload_n C0.hx C0.hb dX15_inBrackets_25 rfl (lv_at hl 0 rfl) ?_
  obtain rfl := Option.some.inj h
  exact g_iret C0 hW rfl rfl rfl dX15_inBrackets_26
set_option maxRecDepth 100000 in
set_option maxHeartbeats 4000000 in
theorem c_X15_ofTwo {l : Launch} {G : GL} {ids : List Nat} {x : CS} {o : Nat → Int32} {y : MS} {p1 : Int32} {q : Int32 × MS} {val : MS → Option (Int32 × MS)} {k : Nat} (hval : ∀ (y : MS) (q : Int32 × MS), val y = some q → Met l yX15_value (.code yX15_value cX15_value 2 (Option.some Jvm.ClassFile.FieldType.int) :: gT) (g_rm k 0 0) (va_Pc [.ref (g_ad G 120)] (g_P G ids (x, y, o))) (g_Qi G ids q.1 (x, q.2, o)) 0 0 (g_A G)) (hk0 : 12 ≤ k)   (h : f_X15_ofTwo val p1 y = some q) : Met l yX15_ofTwo (.code yX15_ofTwo cX15_ofTwo 4 (Option.some Jvm.ClassFile.FieldType.int) :: gT) (g_rm (k + 3) 0 0) (va_Pc [.ref (g_ad G (120)), .int (p1)] (g_P G ids (x, y, o))) (g_Qi G ids q.1 (x, q.2, o)) 0 0 (g_A G) := by
  unfold f_X15_ofTwo at h
  refine g_entry (by decide) (Nat.le_of_ble_eq_true rfl) (fun p e s m args below meth c ls C0 hl hW _ => ?_)
  have hl : lv_has ls 4 [(0, .ref (g_ad G (120))), (1, .int (p1))] := hl
  refine lv_aload_n C0.hx C0.hb dX15_ofTwo_0 rfl (lv_at hl 0 rfl) ?_
  refine lv_dup C0.hx C0.hb dX15_ofTwo_1 rfl ?_
  refine gf_X15_8 C0 hW (C0.mem (i := 120) (Nat.le_of_ble_eq_true rfl)) k_120 tf_X15_117 dX15_ofTwo_2 ?_
  refine lv_iconst (v := (1 : Int32)) C0.hx C0.hb dX15_ofTwo_5 (by decide) ?_
  refine lv_iadd C0.hx C0.hb dX15_ofTwo_6 ?_
  refine gp_X15_8 C0 hW (C0.mem (i := 120) (Nat.le_of_ble_eq_true rfl)) k_120 tf_X15_117 dX15_ofTwo_7 (fun H locs hW => ?_)
  refine lv_aload_n C0.hx C0.hb dX15_ofTwo_10 rfl (lv_at hl 0 rfl) ?_
  refine lv_bipush (v := (49 : Int32)) C0.hx C0.hb dX15_ofTwo_11 (by decide) ?_
  obtain ⟨q1, hq1, h⟩ := Option.bind_eq_some_iff.mp h
  refine g_calli hW (g_runV (As := [.int ((49 : Int32))]) (rest := []) C0 hW (c_X15_is hq1) (g_cwOf (n := 1) tc_X15_is tn_X15 md_X15_is (by decide) (by omega)) tm_X15_126 ti_X15_is ts_X15_is (C0.mem (i := 120) (Nat.le_of_ble_eq_true rfl)) (g_c12 k_120) rfl rfl hl.1 rfl (Nat.le_of_ble_eq_true rfl) dX15_ofTwo_13) (fun H locs hW => ?_)
  refine lv_if_ne (tgt := 25) C0.hx C0.hb dX15_ofTwo_16 (by decide) (fun hc2 => ?_) (fun hc2 => ?_)
  · replace h := (if_neg hc2).symm.trans h
    refine lv_aload_n C0.hx C0.hb dX15_ofTwo_25 rfl (lv_at hl 0 rfl) ?_
    obtain ⟨q3, hq3, h⟩ := Option.bind_eq_some_iff.mp h
    refine g_callv hW (g_runV (As := []) (rest := []) C0 hW (c_X15_deeper hq3) (g_cwOf (n := 0) tc_X15_deeper tn_X15 md_X15_deeper (by decide) (by omega)) tm_X15_169 ti_X15_deeper ts_X15_deeper (C0.mem (i := 120) (Nat.le_of_ble_eq_true rfl)) (g_c12 k_120) rfl rfl hl.1 rfl (Nat.le_of_ble_eq_true rfl) dX15_ofTwo_26) (fun H locs hW => ?_)
    refine lv_aload_n C0.hx C0.hb dX15_ofTwo_29 rfl (lv_at hl 0 rfl) ?_
    obtain ⟨q4, hq4, h⟩ := Option.bind_eq_some_iff.mp h
    refine g_calli hW (g_runV (As := []) (rest := []) C0 hW (c_X15_sum hval (by omega) hq4) (g_cwOf (n := 0) tc_X15_sum tn_X15 md_X15_sum (by decide) (by omega)) tm_X15_172 ti_X15_sum ts_X15_sum (C0.mem (i := 120) (Nat.le_of_ble_eq_true rfl)) (g_c12 k_120) rfl rfl hl.1 rfl (Nat.le_of_ble_eq_true rfl) dX15_ofTwo_30) (fun H locs hW => ?_)
    refine lv_istore_n (lv' := [(2, .int (q4.1)), (0, .ref (g_ad G (120))), (1, .int (p1))]) C0.hx C0.hb dX15_ofTwo_33 rfl hl (by decide) rfl (fun ls hl => ?_)
    refine lv_aload_n C0.hx C0.hb dX15_ofTwo_34 rfl (lv_at hl 1 rfl) ?_
    refine lv_bipush (v := (54 : Int32)) C0.hx C0.hb dX15_ofTwo_35 (by decide) ?_
    obtain ⟨q5, hq5, h⟩ := Option.bind_eq_some_iff.mp h
    refine g_callv hW (g_runV (As := [.int ((54 : Int32))]) (rest := []) C0 hW (c_X15_take hq5) (g_cwOf (n := 1) tc_X15_take tn_X15 md_X15_take (by decide) (by omega)) tm_X15_161 ti_X15_take ts_X15_take (C0.mem (i := 120) (Nat.le_of_ble_eq_true rfl)) (g_c12 k_120) rfl rfl hl.1 rfl (Nat.le_of_ble_eq_true rfl) dX15_ofTwo_37) (fun H locs hW => ?_)
    refine lv_aload_n C0.hx C0.hb dX15_ofTwo_40 rfl (lv_at hl 1 rfl) ?_
    obtain ⟨q6, hq6, h⟩ := Option.bind_eq_some_iff.mp h
    refine g_calli hW (g_runV (As := []) (rest := []) C0 hW (c_X15_sum hval (by omega) hq6) (g_cwOf (n := 0) tc_X15_sum tn_X15 md_X15_sum (by decide) (by omega)) tm_X15_172 ti_X15_sum ts_X15_sum (C0.mem (i := 120) (Nat.le_of_ble_eq_true rfl)) (g_c12 k_120) rfl rfl hl.1 rfl (Nat.le_of_ble_eq_true rfl) dX15_ofTwo_41) (fun H locs hW => ?_)
    refine lv_istore_n (lv' := [(3, .int (q6.1)), (2, .int (q4.1)), (0, .ref (g_ad G (120))), (1, .int (p1))]) C0.hx C0.hb dX15_ofTwo_44 rfl hl (by decide) rfl (fun ls hl => ?_)
    refine lv_aload_n C0.hx C0.hb dX15_ofTwo_45 rfl (lv_at hl 2 rfl) ?_
    refine lv_bipush (v := (50 : Int32)) C0.hx C0.hb dX15_ofTwo_46 (by decide) ?_
    obtain ⟨q7, hq7, h⟩ := Option.bind_eq_some_iff.mp h
    refine g_callv hW (g_runV (As := [.int ((50 : Int32))]) (rest := []) C0 hW (c_X15_take hq7) (g_cwOf (n := 1) tc_X15_take tn_X15 md_X15_take (by decide) (by omega)) tm_X15_161 ti_X15_take ts_X15_take (C0.mem (i := 120) (Nat.le_of_ble_eq_true rfl)) (g_c12 k_120) rfl rfl hl.1 rfl (Nat.le_of_ble_eq_true rfl) dX15_ofTwo_48) (fun H locs hW => ?_)
    refine lv_aload_n C0.hx C0.hb dX15_ofTwo_51 rfl (lv_at hl 2 rfl) ?_
    refine lv_dup C0.hx C0.hb dX15_ofTwo_52 rfl ?_
    refine gf_X15_12 C0 hW (C0.mem (i := 120) (Nat.le_of_ble_eq_true rfl)) k_120 tf_X15_132 dX15_ofTwo_53 ?_
    refine lv_iconst (v := (1 : Int32)) C0.hx C0.hb dX15_ofTwo_56 (by decide) ?_
    refine lv_isub C0.hx C0.hb dX15_ofTwo_57 ?_
    refine gp_X15_12 C0 hW (C0.mem (i := 120) (Nat.le_of_ble_eq_true rfl)) k_120 tf_X15_132 dX15_ofTwo_58 (fun H locs hW => ?_)
    refine lv_aload_n C0.hx C0.hb dX15_ofTwo_61 rfl (lv_at hl 2 rfl) ?_
    refine lv_iload_n C0.hx C0.hb dX15_ofTwo_62 rfl (lv_at hl 3 rfl) ?_
    refine lv_iload_n C0.hx C0.hb dX15_ofTwo_63 rfl (lv_at hl 1 rfl) ?_
    refine lv_iload_n C0.hx C0.hb dX15_ofTwo_64 rfl (lv_at hl 0 rfl) ?_
    obtain ⟨q8, hq8, h⟩ := Option.bind_eq_some_iff.mp h
    refine g_calli hW (g_runV (As := [.int (p1), .int (q4.1), .int (q6.1)]) (rest := []) C0 hW (c_X15_node hq8) (g_cwOf (n := 3) tc_X15_node tn_X15 md_X15_node (by decide) (by omega)) tm_X15_175 ti_X15_node ts_X15_node (C0.mem (i := 120) (Nat.le_of_ble_eq_true rfl)) (g_c12 k_120) rfl rfl hl.1 rfl (Nat.le_of_ble_eq_true rfl) dX15_ofTwo_65) (fun H locs hW => ?_)
    obtain rfl := Option.some.inj h
    exact g_iret C0 hW rfl rfl rfl dX15_ofTwo_68
  · replace h := (if_pos hc2).symm.trans h
    refine lv_aload_n C0.hx C0.hb dX15_ofTwo_19 rfl (lv_at hl 0 rfl) ?_
    obtain ⟨q9, hq9, h⟩ := Option.bind_eq_some_iff.mp h
    refine g_callv hW (g_runV (As := []) (rest := []) C0 hW (c_X15_wrong hq9) (g_cwOf (n := 0) tc_X15_wrong tn_X15 md_X15_wrong (by decide) (by omega)) tm_X15_129 ti_X15_wrong ts_X15_wrong (C0.mem (i := 120) (Nat.le_of_ble_eq_true rfl)) (g_c12 k_120) rfl rfl hl.1 rfl (Nat.le_of_ble_eq_true rfl) dX15_ofTwo_20) (fun H locs hW => ?_)
    refine lv_iconst (v := (0 : Int32)) C0.hx C0.hb dX15_ofTwo_23 (by decide) ?_
    obtain rfl := Option.some.inj h
    exact g_iret C0 hW rfl rfl rfl dX15_ofTwo_24
set_option maxRecDepth 100000 in
set_option maxHeartbeats 4000000 in
theorem w_X15_value_157 {p : Program} {l : Launch} {e : Env} {s : State} {m : MethodId} {args : Array Value} {below : List Frame} {meth : Method} {c : Code} {G : GL} {ids : List Nat} {x : CS} {o : Nat → Int32}  {q : Int32 × MS} {val : MS → Option (Int32 × MS)} {k : Nat} (hval : ∀ (y : MS) (q : Int32 × MS), val y = some q → Met l yX15_value (.code yX15_value cX15_value 2 (Option.some Jvm.ClassFile.FieldType.int) :: gT) (g_rm k 0 0) (va_Pc [.ref (g_ad G 120)] (g_P G ids (x, y, o))) (g_Qi G ids q.1 (x, q.2, o)) 0 0 (g_A G)) (hk0 : 12 ≤ k) {k2 : Nat} (hk2 : k + 4 ≤ k2)  (C0 : g_X G ids p s m args meth c cX15_value 2 RX15 (Option.some Jvm.ClassFile.FieldType.int))  : ∀   (y : MS) (H : Heap) (locs : List Loc) (ls : Array Slot),  f_X15_value_157 val y = some q → g_W G ids (x, y, o) s.heap H locs → lv_has ls 2 [(0, .ref (g_ad G (120)))] → W p l e (g_rm k2 0 0) s m args below meth c H locs 0 0 (MQ below (g_Qi G ids q.1 (x, q.2, o)) args s 0 0 (g_A G)) (F0 m 157 ls []) := by
  intro y H locs ls h hW hl
  unfold f_X15_value_157 at h
  refine lv_aload_n C0.hx C0.hb dX15_value_157 rfl (lv_at hl 0 rfl) ?_
  refine lv_aload_n C0.hx C0.hb dX15_value_158 rfl (lv_at hl 0 rfl) ?_
  refine gf_X15_4 C0 hW (C0.mem (i := 120) (Nat.le_of_ble_eq_true rfl)) k_120 tf_X15_17 dX15_value_159 ?_
  refine lv_aload_n C0.hx C0.hb dX15_value_162 rfl (lv_at hl 0 rfl) ?_
  refine gf_X15_8 C0 hW (C0.mem (i := 120) (Nat.le_of_ble_eq_true rfl)) k_120 tf_X15_117 dX15_value_163 ?_
  obtain ⟨hb32, h⟩ := g_if h
  refine ga_31 C0 hW (C0.mem (i := 122) (Nat.le_of_ble_eq_true rfl)) k_122 hb32 dX15_value_166 ?_
  obtain ⟨q33, hq33, h⟩ := Option.bind_eq_some_iff.mp h
  refine g_calli hW (g_runV (As := [.int (y 122 (y 120 8).toNatClampNeg)]) (rest := []) C0 hW (c_X15_ofTwo hval (by omega) hq33) (g_cwOf (n := 1) tc_X15_ofTwo tn_X15 md_X15_ofTwo (by decide) (by omega)) tm_X15_182 ti_X15_ofTwo ts_X15_ofTwo (C0.mem (i := 120) (Nat.le_of_ble_eq_true rfl)) (g_c12 k_120) rfl rfl hl.1 rfl (Nat.le_of_ble_eq_true rfl) dX15_value_167) (fun H locs hW => ?_)
  obtain rfl := Option.some.inj h
  exact g_iret C0 hW rfl rfl rfl dX15_value_170
set_option maxRecDepth 100000 in
set_option maxHeartbeats 4000000 in
theorem w_X15_value_102 {p : Program} {l : Launch} {e : Env} {s : State} {m : MethodId} {args : Array Value} {below : List Frame} {meth : Method} {c : Code} {G : GL} {ids : List Nat} {x : CS} {o : Nat → Int32}  {q : Int32 × MS} {val : MS → Option (Int32 × MS)} {k : Nat} (hval : ∀ (y : MS) (q : Int32 × MS), val y = some q → Met l yX15_value (.code yX15_value cX15_value 2 (Option.some Jvm.ClassFile.FieldType.int) :: gT) (g_rm k 0 0) (va_Pc [.ref (g_ad G 120)] (g_P G ids (x, y, o))) (g_Qi G ids q.1 (x, q.2, o)) 0 0 (g_A G)) (hk0 : 12 ≤ k) {k2 : Nat} (hk2 : k + 4 ≤ k2)  (C0 : g_X G ids p s m args meth c cX15_value 2 RX15 (Option.some Jvm.ClassFile.FieldType.int))  : ∀   (y : MS) (H : Heap) (locs : List Loc) (ls : Array Slot),  f_X15_value_102 val y = some q → g_W G ids (x, y, o) s.heap H locs → lv_has ls 2 [(0, .ref (g_ad G (120)))] → W p l e (g_rm k2 0 0) s m args below meth c H locs 0 0 (MQ below (g_Qi G ids q.1 (x, q.2, o)) args s 0 0 (g_A G)) (F0 m 102 ls []) := by
  intro y H locs ls h hW hl
  unfold f_X15_value_102 at h
  refine lv_aload_n C0.hx C0.hb dX15_value_102 rfl (lv_at hl 0 rfl) ?_
  refine gf_X15_4 C0 hW (C0.mem (i := 120) (Nat.le_of_ble_eq_true rfl)) k_120 tf_X15_17 dX15_value_103 ?_
  refine lv_aload_n C0.hx C0.hb dX15_value_106 rfl (lv_at hl 0 rfl) ?_
  refine gf_X15_8 C0 hW (C0.mem (i := 120) (Nat.le_of_ble_eq_true rfl)) k_120 tf_X15_117 dX15_value_107 ?_
  obtain ⟨hb28, h⟩ := g_if h
  refine ga_31 C0 hW (C0.mem (i := 122) (Nat.le_of_ble_eq_true rfl)) k_122 hb28 dX15_value_110 ?_
  refine lv_istore_n (lv' := [(1, .int (y 122 (y 120 8).toNatClampNeg)), (0, .ref (g_ad G (120)))]) C0.hx C0.hb dX15_value_111 rfl hl (by decide) rfl (fun ls hl => ?_)
  refine lv_aload_n C0.hx C0.hb dX15_value_112 rfl (lv_at hl 1 rfl) ?_
  refine lv_dup C0.hx C0.hb dX15_value_113 rfl ?_
  refine gf_X15_8 C0 hW (C0.mem (i := 120) (Nat.le_of_ble_eq_true rfl)) k_120 tf_X15_117 dX15_value_114 ?_
  refine lv_iconst (v := (1 : Int32)) C0.hx C0.hb dX15_value_117 (by decide) ?_
  refine lv_iadd C0.hx C0.hb dX15_value_118 ?_
  refine gp_X15_8 C0 hW (C0.mem (i := 120) (Nat.le_of_ble_eq_true rfl)) k_120 tf_X15_117 dX15_value_119 (fun H locs hW => ?_)
  refine lv_aload_n C0.hx C0.hb dX15_value_122 rfl (lv_at hl 1 rfl) ?_
  refine lv_bipush (v := (18 : Int32)) C0.hx C0.hb dX15_value_123 (by decide) ?_
  obtain ⟨q29, hq29, h⟩ := Option.bind_eq_some_iff.mp h
  refine g_callv hW (g_runV (As := [.int ((18 : Int32))]) (rest := []) C0 hW (c_X15_take hq29) (g_cwOf (n := 1) tc_X15_take tn_X15 md_X15_take (by decide) (by omega)) tm_X15_161 ti_X15_take ts_X15_take (C0.mem (i := 120) (Nat.le_of_ble_eq_true rfl)) (g_c12 k_120) rfl rfl hl.1 rfl (Nat.le_of_ble_eq_true rfl) dX15_value_125) (fun H locs hW => ?_)
  refine lv_aload_n C0.hx C0.hb dX15_value_128 rfl (lv_at hl 1 rfl) ?_
  refine lv_iload_n C0.hx C0.hb dX15_value_129 rfl (lv_at hl 0 rfl) ?_
  refine lv_aload_n C0.hx C0.hb dX15_value_130 rfl (lv_at hl 1 rfl) ?_
  obtain ⟨q30, hq30, h⟩ := Option.bind_eq_some_iff.mp h
  refine g_calli hW (g_runV (As := []) (rest := [.int (y 122 (y 120 8).toNatClampNeg), .ref (g_ad G (120))]) C0 hW (c_X15_name hq30) (g_cwOf (n := 0) tc_X15_name tn_X15 md_X15_name (by decide) (by omega)) tm_X15_179 ti_X15_name ts_X15_name (C0.mem (i := 120) (Nat.le_of_ble_eq_true rfl)) (g_c12 k_120) rfl rfl hl.1 rfl (Nat.le_of_ble_eq_true rfl) dX15_value_131) (fun H locs hW => ?_)
  refine lv_iconst (v := (0 : Int32)) C0.hx C0.hb dX15_value_134 (by decide) ?_
  obtain ⟨q31, hq31, h⟩ := Option.bind_eq_some_iff.mp h
  refine g_calli hW (g_runV (As := [.int (y 122 (y 120 8).toNatClampNeg), .int (q30.1), .int ((0 : Int32))]) (rest := []) C0 hW (c_X15_node hq31) (g_cwOf (n := 3) tc_X15_node tn_X15 md_X15_node (by decide) (by omega)) tm_X15_175 ti_X15_node ts_X15_node (C0.mem (i := 120) (Nat.le_of_ble_eq_true rfl)) (g_c12 k_120) rfl rfl hl.1 rfl (Nat.le_of_ble_eq_true rfl) dX15_value_135) (fun H locs hW => ?_)
  obtain rfl := Option.some.inj h
  exact g_iret C0 hW rfl rfl rfl dX15_value_138
set_option maxRecDepth 100000 in
set_option maxHeartbeats 4000000 in
theorem w_X15_value_56 {p : Program} {l : Launch} {e : Env} {s : State} {m : MethodId} {args : Array Value} {below : List Frame} {meth : Method} {c : Code} {G : GL} {ids : List Nat} {x : CS} {o : Nat → Int32}  {q : Int32 × MS} {val : MS → Option (Int32 × MS)} {k : Nat} (hval : ∀ (y : MS) (q : Int32 × MS), val y = some q → Met l yX15_value (.code yX15_value cX15_value 2 (Option.some Jvm.ClassFile.FieldType.int) :: gT) (g_rm k 0 0) (va_Pc [.ref (g_ad G 120)] (g_P G ids (x, y, o))) (g_Qi G ids q.1 (x, q.2, o)) 0 0 (g_A G)) (hk0 : 12 ≤ k) {k2 : Nat} (hk2 : k + 4 ≤ k2)  (C0 : g_X G ids p s m args meth c cX15_value 2 RX15 (Option.some Jvm.ClassFile.FieldType.int))  : ∀   (y : MS) (H : Heap) (locs : List Loc) (ls : Array Slot),  f_X15_value_56 val y = some q → g_W G ids (x, y, o) s.heap H locs → lv_has ls 2 [(0, .ref (g_ad G (120)))] → W p l e (g_rm k2 0 0) s m args below meth c H locs 0 0 (MQ below (g_Qi G ids q.1 (x, q.2, o)) args s 0 0 (g_A G)) (F0 m 56 ls []) := by
  intro y H locs ls h hW hl
  unfold f_X15_value_56 at h
  refine lv_aload_n C0.hx C0.hb dX15_value_56 rfl (lv_at hl 0 rfl) ?_
  refine lv_dup C0.hx C0.hb dX15_value_57 rfl ?_
  refine gf_X15_8 C0 hW (C0.mem (i := 120) (Nat.le_of_ble_eq_true rfl)) k_120 tf_X15_117 dX15_value_58 ?_
  refine lv_iconst (v := (1 : Int32)) C0.hx C0.hb dX15_value_61 (by decide) ?_
  refine lv_iadd C0.hx C0.hb dX15_value_62 ?_
  refine gp_X15_8 C0 hW (C0.mem (i := 120) (Nat.le_of_ble_eq_true rfl)) k_120 tf_X15_117 dX15_value_63 (fun H locs hW => ?_)
  refine lv_aload_n C0.hx C0.hb dX15_value_66 rfl (lv_at hl 0 rfl) ?_
  refine lv_aload_n C0.hx C0.hb dX15_value_67 rfl (lv_at hl 0 rfl) ?_
  refine gf_X15_4 C0 hW (C0.mem (i := 120) (Nat.le_of_ble_eq_true rfl)) k_120 tf_X15_17 dX15_value_68 ?_
  refine lv_aload_n C0.hx C0.hb dX15_value_71 rfl (lv_at hl 0 rfl) ?_
  refine gf_X15_8 C0 hW (C0.mem (i := 120) (Nat.le_of_ble_eq_true rfl)) k_120 tf_X15_117 dX15_value_72 ?_
  refine lv_iconst (v := (1 : Int32)) C0.hx C0.hb dX15_value_75 (by decide) ?_
  refine lv_isub C0.hx C0.hb dX15_value_76 ?_
  obtain ⟨hb26, h⟩ := g_if h
  refine ga_31 C0 hW (C0.mem (i := 122) (Nat.le_of_ble_eq_true rfl)) k_122 hb26 dX15_value_77 ?_
  refine lv_iconst (v := (0 : Int32)) C0.hx C0.hb dX15_value_78 (by decide) ?_
  refine lv_iconst (v := (0 : Int32)) C0.hx C0.hb dX15_value_79 (by decide) ?_
  obtain ⟨q27, hq27, h⟩ := Option.bind_eq_some_iff.mp h
  refine g_calli hW (g_runV (As := [.int ((g_mi y 120 8 ((y 120 8) + (1 : Int32))) 122 (((g_mi y 120 8 ((y 120 8) + (1 : Int32))) 120 8) - (1 : Int32)).toNatClampNeg), .int ((0 : Int32)), .int ((0 : Int32))]) (rest := []) C0 hW (c_X15_node hq27) (g_cwOf (n := 3) tc_X15_node tn_X15 md_X15_node (by decide) (by omega)) tm_X15_175 ti_X15_node ts_X15_node (C0.mem (i := 120) (Nat.le_of_ble_eq_true rfl)) (g_c12 k_120) rfl rfl hl.1 rfl (Nat.le_of_ble_eq_true rfl) dX15_value_80) (fun H locs hW => ?_)
  obtain rfl := Option.some.inj h
  exact g_iret C0 hW rfl rfl rfl dX15_value_83
set_option maxRecDepth 100000 in
set_option maxHeartbeats 4000000 in
theorem c_X15_value {l : Launch} {G : GL} {ids : List Nat} {x : CS} {o : Nat → Int32}  : ∀ (n : Nat)  (y : MS) (q : Int32 × MS), f_X15_value n y = some q → Met l yX15_value (.code yX15_value cX15_value 2 (Option.some Jvm.ClassFile.FieldType.int) :: gT) (g_rm (12 + 4 * n) 0 0) (va_Pc [.ref (g_ad G (120))] (g_P G ids (x, y, o))) (g_Qi G ids q.1 (x, q.2, o)) 0 0 (g_A G) := by
  intro n
  induction n with
  | zero =>
    intro y q h
    exact absurd h (by simp [f_X15_value])
  | succ n ihn =>
    intro y q h
    unfold f_X15_value at h
    refine g_entry (by decide) (Nat.le_of_ble_eq_true rfl) (fun p e s m args below meth c ls C0 hl hW _ => ?_)
    have hl : lv_has ls 2 [(0, .ref (g_ad G (120)))] := hl
    refine lv_aload_n C0.hx C0.hb dX15_value_0 rfl (lv_at hl 0 rfl) ?_
    refine lv_bipush (v := (31 : Int32)) C0.hx C0.hb dX15_value_1 (by decide) ?_
    obtain ⟨q1, hq1, h⟩ := Option.bind_eq_some_iff.mp h
    refine g_calli hW (g_runV (As := [.int ((31 : Int32))]) (rest := []) C0 hW (c_X15_is hq1) (g_cwOf (n := 1) tc_X15_is tn_X15 md_X15_is (by decide) (by omega)) tm_X15_126 ti_X15_is ts_X15_is (C0.mem (i := 120) (Nat.le_of_ble_eq_true rfl)) (g_c12 k_120) rfl rfl hl.1 rfl (Nat.le_of_ble_eq_true rfl) dX15_value_3) (fun H locs hW => ?_)
    refine lv_if_eq (tgt := 38) C0.hx C0.hb dX15_value_6 (by decide) (fun hc2 => ?_) (fun hc2 => ?_)
    · replace h := (if_pos hc2).symm.trans h
      refine lv_aload_n C0.hx C0.hb dX15_value_38 rfl (lv_at hl 0 rfl) ?_
      refine lv_bipush (v := (14 : Int32)) C0.hx C0.hb dX15_value_39 (by decide) ?_
      obtain ⟨q3, hq3, h⟩ := Option.bind_eq_some_iff.mp h
      refine g_calli hW (g_runV (As := [.int ((14 : Int32))]) (rest := []) C0 hW (c_X15_is hq3) (g_cwOf (n := 1) tc_X15_is tn_X15 md_X15_is (by decide) (by omega)) tm_X15_126 ti_X15_is ts_X15_is (C0.mem (i := 120) (Nat.le_of_ble_eq_true rfl)) (g_c12 k_120) rfl rfl hl.1 rfl (Nat.le_of_ble_eq_true rfl) dX15_value_41) (fun H locs hW => ?_)
      refine lv_if_ne (tgt := 56) C0.hx C0.hb dX15_value_44 (by decide) (fun hc4 => ?_) (fun hc4 => ?_)
      · replace h := (if_neg hc4).symm.trans h
        exact w_X15_value_56 ihn (by omega) (by omega) C0 _ _ _ _ h hW (lv_sub hl [0] rfl)
      · replace h := (if_pos hc4).symm.trans h
        refine lv_aload_n C0.hx C0.hb dX15_value_47 rfl (lv_at hl 0 rfl) ?_
        refine lv_bipush (v := (15 : Int32)) C0.hx C0.hb dX15_value_48 (by decide) ?_
        obtain ⟨q5, hq5, h⟩ := Option.bind_eq_some_iff.mp h
        refine g_calli hW (g_runV (As := [.int ((15 : Int32))]) (rest := []) C0 hW (c_X15_is hq5) (g_cwOf (n := 1) tc_X15_is tn_X15 md_X15_is (by decide) (by omega)) tm_X15_126 ti_X15_is ts_X15_is (C0.mem (i := 120) (Nat.le_of_ble_eq_true rfl)) (g_c12 k_120) rfl rfl hl.1 rfl (Nat.le_of_ble_eq_true rfl) dX15_value_50) (fun H locs hW => ?_)
        refine lv_if_eq (tgt := 84) C0.hx C0.hb dX15_value_53 (by decide) (fun hc6 => ?_) (fun hc6 => ?_)
        · replace h := (if_pos hc6).symm.trans h
          refine lv_aload_n C0.hx C0.hb dX15_value_84 rfl (lv_at hl 0 rfl) ?_
          refine lv_bipush (v := (16 : Int32)) C0.hx C0.hb dX15_value_85 (by decide) ?_
          obtain ⟨q7, hq7, h⟩ := Option.bind_eq_some_iff.mp h
          refine g_calli hW (g_runV (As := [.int ((16 : Int32))]) (rest := []) C0 hW (c_X15_is hq7) (g_cwOf (n := 1) tc_X15_is tn_X15 md_X15_is (by decide) (by omega)) tm_X15_126 ti_X15_is ts_X15_is (C0.mem (i := 120) (Nat.le_of_ble_eq_true rfl)) (g_c12 k_120) rfl rfl hl.1 rfl (Nat.le_of_ble_eq_true rfl) dX15_value_87) (fun H locs hW => ?_)
          refine lv_if_ne (tgt := 102) C0.hx C0.hb dX15_value_90 (by decide) (fun hc8 => ?_) (fun hc8 => ?_)
          · replace h := (if_neg hc8).symm.trans h
            exact w_X15_value_102 ihn (by omega) (by omega) C0 _ _ _ _ h hW (lv_sub hl [0] rfl)
          · replace h := (if_pos hc8).symm.trans h
            refine lv_aload_n C0.hx C0.hb dX15_value_93 rfl (lv_at hl 0 rfl) ?_
            refine lv_bipush (v := (17 : Int32)) C0.hx C0.hb dX15_value_94 (by decide) ?_
            obtain ⟨q9, hq9, h⟩ := Option.bind_eq_some_iff.mp h
            refine g_calli hW (g_runV (As := [.int ((17 : Int32))]) (rest := []) C0 hW (c_X15_is hq9) (g_cwOf (n := 1) tc_X15_is tn_X15 md_X15_is (by decide) (by omega)) tm_X15_126 ti_X15_is ts_X15_is (C0.mem (i := 120) (Nat.le_of_ble_eq_true rfl)) (g_c12 k_120) rfl rfl hl.1 rfl (Nat.le_of_ble_eq_true rfl) dX15_value_96) (fun H locs hW => ?_)
            refine lv_if_eq (tgt := 139) C0.hx C0.hb dX15_value_99 (by decide) (fun hc10 => ?_) (fun hc10 => ?_)
            · replace h := (if_pos hc10).symm.trans h
              refine lv_aload_n C0.hx C0.hb dX15_value_139 rfl (lv_at hl 0 rfl) ?_
              refine lv_bipush (v := (24 : Int32)) C0.hx C0.hb dX15_value_140 (by decide) ?_
              obtain ⟨q11, hq11, h⟩ := Option.bind_eq_some_iff.mp h
              refine g_calli hW (g_runV (As := [.int ((24 : Int32))]) (rest := []) C0 hW (c_X15_is hq11) (g_cwOf (n := 1) tc_X15_is tn_X15 md_X15_is (by decide) (by omega)) tm_X15_126 ti_X15_is ts_X15_is (C0.mem (i := 120) (Nat.le_of_ble_eq_true rfl)) (g_c12 k_120) rfl rfl hl.1 rfl (Nat.le_of_ble_eq_true rfl) dX15_value_142) (fun H locs hW => ?_)
              refine lv_if_ne (tgt := 157) C0.hx C0.hb dX15_value_145 (by decide) (fun hc12 => ?_) (fun hc12 => ?_)
              · replace h := (if_neg hc12).symm.trans h
                exact w_X15_value_157 ihn (by omega) (by omega) C0 _ _ _ _ h hW (lv_sub hl [0] rfl)
              · replace h := (if_pos hc12).symm.trans h
                refine lv_aload_n C0.hx C0.hb dX15_value_148 rfl (lv_at hl 0 rfl) ?_
                refine lv_bipush (v := (25 : Int32)) C0.hx C0.hb dX15_value_149 (by decide) ?_
                obtain ⟨q13, hq13, h⟩ := Option.bind_eq_some_iff.mp h
                refine g_calli hW (g_runV (As := [.int ((25 : Int32))]) (rest := []) C0 hW (c_X15_is hq13) (g_cwOf (n := 1) tc_X15_is tn_X15 md_X15_is (by decide) (by omega)) tm_X15_126 ti_X15_is ts_X15_is (C0.mem (i := 120) (Nat.le_of_ble_eq_true rfl)) (g_c12 k_120) rfl rfl hl.1 rfl (Nat.le_of_ble_eq_true rfl) dX15_value_151) (fun H locs hW => ?_)
                refine lv_if_eq (tgt := 171) C0.hx C0.hb dX15_value_154 (by decide) (fun hc14 => ?_) (fun hc14 => ?_)
                · replace h := (if_pos hc14).symm.trans h
                  refine lv_aload_n C0.hx C0.hb dX15_value_171 rfl (lv_at hl 0 rfl) ?_
                  refine lv_bipush (v := (49 : Int32)) C0.hx C0.hb dX15_value_172 (by decide) ?_
                  obtain ⟨q15, hq15, h⟩ := Option.bind_eq_some_iff.mp h
                  refine g_calli hW (g_runV (As := [.int ((49 : Int32))]) (rest := []) C0 hW (c_X15_is hq15) (g_cwOf (n := 1) tc_X15_is tn_X15 md_X15_is (by decide) (by omega)) tm_X15_126 ti_X15_is ts_X15_is (C0.mem (i := 120) (Nat.le_of_ble_eq_true rfl)) (g_c12 k_120) rfl rfl hl.1 rfl (Nat.le_of_ble_eq_true rfl) dX15_value_174) (fun H locs hW => ?_)
                  refine lv_if_eq (tgt := 185) C0.hx C0.hb dX15_value_177 (by decide) (fun hc16 => ?_) (fun hc16 => ?_)
                  · replace h := (if_pos hc16).symm.trans h
                    refine lv_aload_n C0.hx C0.hb dX15_value_185 rfl (lv_at hl 0 rfl) ?_
                    refine lv_bipush (v := (41 : Int32)) C0.hx C0.hb dX15_value_186 (by decide) ?_
                    obtain ⟨q17, hq17, h⟩ := Option.bind_eq_some_iff.mp h
                    refine g_calli hW (g_runV (As := [.int ((41 : Int32))]) (rest := []) C0 hW (c_X15_is hq17) (g_cwOf (n := 1) tc_X15_is tn_X15 md_X15_is (by decide) (by omega)) tm_X15_126 ti_X15_is ts_X15_is (C0.mem (i := 120) (Nat.le_of_ble_eq_true rfl)) (g_c12 k_120) rfl rfl hl.1 rfl (Nat.le_of_ble_eq_true rfl) dX15_value_188) (fun H locs hW => ?_)
                    refine lv_if_ne (tgt := 200) C0.hx C0.hb dX15_value_191 (by decide) (fun hc18 => ?_) (fun hc18 => ?_)
                    · replace h := (if_neg hc18).symm.trans h
                      refine lv_aload_n C0.hx C0.hb dX15_value_200 rfl (lv_at hl 0 rfl) ?_
                      obtain ⟨q19, hq19, h⟩ := Option.bind_eq_some_iff.mp h
                      refine g_callv hW (g_runV (As := []) (rest := []) C0 hW (c_X15_deeper hq19) (g_cwOf (n := 0) tc_X15_deeper tn_X15 md_X15_deeper (by decide) (by omega)) tm_X15_169 ti_X15_deeper ts_X15_deeper (C0.mem (i := 120) (Nat.le_of_ble_eq_true rfl)) (g_c12 k_120) rfl rfl hl.1 rfl (Nat.le_of_ble_eq_true rfl) dX15_value_201) (fun H locs hW => ?_)
                      refine lv_aload_n C0.hx C0.hb dX15_value_204 rfl (lv_at hl 0 rfl) ?_
                      obtain ⟨q20, hq20, h⟩ := Option.bind_eq_some_iff.mp h
                      refine g_calli hW (g_runV (As := []) (rest := []) C0 hW (ihn _ _ hq20) (g_cwOf (n := 0) tc_X15_value tn_X15 md_X15_value (by decide) (by omega)) tm_X15_188 ti_X15_value ts_X15_value (C0.mem (i := 120) (Nat.le_of_ble_eq_true rfl)) (g_c12 k_120) rfl rfl hl.1 rfl (Nat.le_of_ble_eq_true rfl) dX15_value_205) (fun H locs hW => ?_)
                      refine lv_istore_n (lv' := [(1, .int (q20.1)), (0, .ref (g_ad G (120)))]) C0.hx C0.hb dX15_value_208 rfl hl (by decide) rfl (fun ls hl => ?_)
                      refine lv_aload_n C0.hx C0.hb dX15_value_209 rfl (lv_at hl 1 rfl) ?_
                      refine lv_dup C0.hx C0.hb dX15_value_210 rfl ?_
                      refine gf_X15_12 C0 hW (C0.mem (i := 120) (Nat.le_of_ble_eq_true rfl)) k_120 tf_X15_132 dX15_value_211 ?_
                      refine lv_iconst (v := (1 : Int32)) C0.hx C0.hb dX15_value_214 (by decide) ?_
                      refine lv_isub C0.hx C0.hb dX15_value_215 ?_
                      refine gp_X15_12 C0 hW (C0.mem (i := 120) (Nat.le_of_ble_eq_true rfl)) k_120 tf_X15_132 dX15_value_216 (fun H locs hW => ?_)
                      refine lv_aload_n C0.hx C0.hb dX15_value_219 rfl (lv_at hl 1 rfl) ?_
                      refine lv_bipush (v := (60 : Int32)) C0.hx C0.hb dX15_value_220 (by decide) ?_
                      refine lv_iload_n C0.hx C0.hb dX15_value_222 rfl (lv_at hl 0 rfl) ?_
                      refine lv_iconst (v := (0 : Int32)) C0.hx C0.hb dX15_value_223 (by decide) ?_
                      obtain ⟨q21, hq21, h⟩ := Option.bind_eq_some_iff.mp h
                      refine g_calli hW (g_runV (As := [.int ((60 : Int32)), .int (q20.1), .int ((0 : Int32))]) (rest := []) C0 hW (c_X15_node hq21) (g_cwOf (n := 3) tc_X15_node tn_X15 md_X15_node (by decide) (by omega)) tm_X15_175 ti_X15_node ts_X15_node (C0.mem (i := 120) (Nat.le_of_ble_eq_true rfl)) (g_c12 k_120) rfl rfl hl.1 rfl (Nat.le_of_ble_eq_true rfl) dX15_value_224) (fun H locs hW => ?_)
                      obtain rfl := Option.some.inj h
                      exact g_iret C0 hW rfl rfl rfl dX15_value_227
                    · replace h := (if_pos hc18).symm.trans h
                      refine lv_aload_n C0.hx C0.hb dX15_value_194 rfl (lv_at hl 0 rfl) ?_
                      obtain ⟨q22, hq22, h⟩ := Option.bind_eq_some_iff.mp h
                      refine g_callv hW (g_runV (As := []) (rest := []) C0 hW (c_X15_wrong hq22) (g_cwOf (n := 0) tc_X15_wrong tn_X15 md_X15_wrong (by decide) (by omega)) tm_X15_129 ti_X15_wrong ts_X15_wrong (C0.mem (i := 120) (Nat.le_of_ble_eq_true rfl)) (g_c12 k_120) rfl rfl hl.1 rfl (Nat.le_of_ble_eq_true rfl) dX15_value_195) (fun H locs hW => ?_)
                      refine lv_iconst (v := (0 : Int32)) C0.hx C0.hb dX15_value_198 (by decide) ?_
                      obtain rfl := Option.some.inj h
                      exact g_iret C0 hW rfl rfl rfl dX15_value_199
                  · replace h := (if_neg hc16).symm.trans h
                    refine lv_aload_n C0.hx C0.hb dX15_value_180 rfl (lv_at hl 0 rfl) ?_
                    obtain ⟨q23, hq23, h⟩ := Option.bind_eq_some_iff.mp h
                    refine g_calli hW (g_runV (As := []) (rest := []) C0 hW (c_X15_inBrackets ihn (by omega) hq23) (g_cwOf (n := 0) tc_X15_inBrackets tn_X15 md_X15_inBrackets (by decide) (by omega)) tm_X15_185 ti_X15_inBrackets ts_X15_inBrackets (C0.mem (i := 120) (Nat.le_of_ble_eq_true rfl)) (g_c12 k_120) rfl rfl hl.1 rfl (Nat.le_of_ble_eq_true rfl) dX15_value_181) (fun H locs hW => ?_)
                    obtain rfl := Option.some.inj h
                    exact g_iret C0 hW rfl rfl rfl dX15_value_184
                · replace h := (if_neg hc14).symm.trans h
                  exact w_X15_value_157 ihn (by omega) (by omega) C0 _ _ _ _ h hW (lv_sub hl [0] rfl)
            · replace h := (if_neg hc10).symm.trans h
              exact w_X15_value_102 ihn (by omega) (by omega) C0 _ _ _ _ h hW (lv_sub hl [0] rfl)
        · replace h := (if_neg hc6).symm.trans h
          exact w_X15_value_56 ihn (by omega) (by omega) C0 _ _ _ _ h hW (lv_sub hl [0] rfl)
    · replace h := (if_neg hc2).symm.trans h
      refine lv_aload_n C0.hx C0.hb dX15_value_9 rfl (lv_at hl 0 rfl) ?_
      refine lv_dup C0.hx C0.hb dX15_value_10 rfl ?_
      refine gf_X15_8 C0 hW (C0.mem (i := 120) (Nat.le_of_ble_eq_true rfl)) k_120 tf_X15_117 dX15_value_11 ?_
      refine lv_iconst (v := (1 : Int32)) C0.hx C0.hb dX15_value_14 (by decide) ?_
      refine lv_iadd C0.hx C0.hb dX15_value_15 ?_
      refine gp_X15_8 C0 hW (C0.mem (i := 120) (Nat.le_of_ble_eq_true rfl)) k_120 tf_X15_117 dX15_value_16 (fun H locs hW => ?_)
      refine lv_aload_n C0.hx C0.hb dX15_value_19 rfl (lv_at hl 0 rfl) ?_
      refine lv_bipush (v := (31 : Int32)) C0.hx C0.hb dX15_value_20 (by decide) ?_
      refine lv_aload_n C0.hx C0.hb dX15_value_22 rfl (lv_at hl 0 rfl) ?_
      refine gf_X15_5 C0 hW (C0.mem (i := 120) (Nat.le_of_ble_eq_true rfl)) k_120 tf_X15_20 dX15_value_23 ?_
      refine lv_aload_n C0.hx C0.hb dX15_value_26 rfl (lv_at hl 0 rfl) ?_
      refine gf_X15_8 C0 hW (C0.mem (i := 120) (Nat.le_of_ble_eq_true rfl)) k_120 tf_X15_117 dX15_value_27 ?_
      refine lv_iconst (v := (1 : Int32)) C0.hx C0.hb dX15_value_30 (by decide) ?_
      refine lv_isub C0.hx C0.hb dX15_value_31 ?_
      obtain ⟨hb24, h⟩ := g_if h
      refine ga_31 C0 hW (C0.mem (i := 123) (Nat.le_of_ble_eq_true rfl)) k_123 hb24 dX15_value_32 ?_
      refine lv_iconst (v := (0 : Int32)) C0.hx C0.hb dX15_value_33 (by decide) ?_
      obtain ⟨q25, hq25, h⟩ := Option.bind_eq_some_iff.mp h
      refine g_calli hW (g_runV (As := [.int ((31 : Int32)), .int ((g_mi y 120 8 ((y 120 8) + (1 : Int32))) 123 (((g_mi y 120 8 ((y 120 8) + (1 : Int32))) 120 8) - (1 : Int32)).toNatClampNeg), .int ((0 : Int32))]) (rest := []) C0 hW (c_X15_node hq25) (g_cwOf (n := 3) tc_X15_node tn_X15 md_X15_node (by decide) (by omega)) tm_X15_175 ti_X15_node ts_X15_node (C0.mem (i := 120) (Nat.le_of_ble_eq_true rfl)) (g_c12 k_120) rfl rfl hl.1 rfl (Nat.le_of_ble_eq_true rfl) dX15_value_34) (fun H locs hW => ?_)
      obtain rfl := Option.some.inj h
      exact g_iret C0 hW rfl rfl rfl dX15_value_37
set_option maxRecDepth 100000 in
set_option maxHeartbeats 4000000 in
theorem w_X15_comparison_33 {p : Program} {l : Launch} {e : Env} {s : State} {m : MethodId} {args : Array Value} {below : List Frame} {meth : Method} {c : Code} {G : GL} {ids : List Nat} {x : CS} {o : Nat → Int32}  {q : Int32 × MS}   (C0 : g_X G ids p s m args meth c cX15_comparison 3 RX15 (Option.some Jvm.ClassFile.FieldType.int))  : ∀   (y : MS) (H : Heap) (locs : List Loc) (ls : Array Slot),  f_X15_comparison_33 y = some q → g_W G ids (x, y, o) s.heap H locs → lv_has ls 3 [(0, .ref (g_ad G (120)))] → W p l e (g_rm 63 0 0) s m args below meth c H locs 0 0 (MQ below (g_Qi G ids q.1 (x, q.2, o)) args s 0 0 (g_A G)) (F0 m 33 ls []) := by
  intro y H locs ls h hW hl
  unfold f_X15_comparison_33 at h
  refine lv_aload_n C0.hx C0.hb dX15_comparison_33 rfl (lv_at hl 0 rfl) ?_
  obtain ⟨q8, hq8, h⟩ := Option.bind_eq_some_iff.mp h
  refine g_callv hW (g_runV (As := []) (rest := []) C0 hW (c_X15_wrong hq8) (g_cwOf (n := 0) tc_X15_wrong tn_X15 md_X15_wrong (by decide) (by omega)) tm_X15_129 ti_X15_wrong ts_X15_wrong (C0.mem (i := 120) (Nat.le_of_ble_eq_true rfl)) (g_c12 k_120) rfl rfl hl.1 rfl (Nat.le_of_ble_eq_true rfl) dX15_comparison_34) (fun H locs hW => ?_)
  refine lv_iconst (v := (0 : Int32)) C0.hx C0.hb dX15_comparison_37 (by decide) ?_
  obtain rfl := Option.some.inj h
  exact g_iret C0 hW rfl rfl rfl dX15_comparison_38
set_option maxRecDepth 100000 in
set_option maxHeartbeats 4000000 in
theorem c_X15_comparison {l : Launch} {G : GL} {ids : List Nat} {x : CS} {o : Nat → Int32} {y : MS}  {q : Int32 × MS}    (h : f_X15_comparison y = some q) : Met l yX15_comparison (.code yX15_comparison cX15_comparison 3 (Option.some Jvm.ClassFile.FieldType.int) :: gT) (g_rm 63 0 0) (va_Pc [.ref (g_ad G (120))] (g_P G ids (x, y, o))) (g_Qi G ids q.1 (x, q.2, o)) 0 0 (g_A G) := by
  unfold f_X15_comparison at h
  refine g_entry (by decide) (Nat.le_of_ble_eq_true rfl) (fun p e s m args below meth c ls C0 hl hW _ => ?_)
  have hl : lv_has ls 3 [(0, .ref (g_ad G (120)))] := hl
  refine lv_aload_n C0.hx C0.hb dX15_comparison_0 rfl (lv_at hl 0 rfl) ?_
  obtain ⟨q1, hq1, h⟩ := Option.bind_eq_some_iff.mp h
  refine g_calli hW (g_runV (As := []) (rest := []) C0 hW (c_X15_sum (c_X15_value 12) (by omega) hq1) (g_cwOf (n := 0) tc_X15_sum tn_X15 md_X15_sum (by decide) (by omega)) tm_X15_172 ti_X15_sum ts_X15_sum (C0.mem (i := 120) (Nat.le_of_ble_eq_true rfl)) (g_c12 k_120) rfl rfl hl.1 rfl (Nat.le_of_ble_eq_true rfl) dX15_comparison_1) (fun H locs hW => ?_)
  refine lv_istore_n (lv' := [(1, .int (q1.1)), (0, .ref (g_ad G (120)))]) C0.hx C0.hb dX15_comparison_4 rfl hl (by decide) rfl (fun ls hl => ?_)
  refine lv_aload_n C0.hx C0.hb dX15_comparison_5 rfl (lv_at hl 1 rfl) ?_
  refine gf_X15_4 C0 hW (C0.mem (i := 120) (Nat.le_of_ble_eq_true rfl)) k_120 tf_X15_17 dX15_comparison_6 ?_
  refine lv_aload_n C0.hx C0.hb dX15_comparison_9 rfl (lv_at hl 1 rfl) ?_
  refine gf_X15_8 C0 hW (C0.mem (i := 120) (Nat.le_of_ble_eq_true rfl)) k_120 tf_X15_117 dX15_comparison_10 ?_
  obtain ⟨hb2, h⟩ := g_if h
  refine ga_31 C0 hW (C0.mem (i := 122) (Nat.le_of_ble_eq_true rfl)) k_122 hb2 dX15_comparison_13 ?_
  refine lv_istore_n (lv' := [(2, .int (q1.2 122 (q1.2 120 8).toNatClampNeg)), (1, .int (q1.1)), (0, .ref (g_ad G (120)))]) C0.hx C0.hb dX15_comparison_14 rfl hl (by decide) rfl (fun ls hl => ?_)
  refine lv_aload_n C0.hx C0.hb dX15_comparison_15 rfl (lv_at hl 2 rfl) ?_
  refine gf_X15_9 C0 hW (C0.mem (i := 120) (Nat.le_of_ble_eq_true rfl)) k_120 tf_X15_113 dX15_comparison_16 ?_
  refine lv_if_ne (tgt := 33) C0.hx C0.hb dX15_comparison_19 (by decide) (fun hc3 => ?_) (fun hc3 => ?_)
  · replace h := (if_neg hc3).symm.trans h
    exact w_X15_comparison_33 C0 _ _ _ _ h hW (lv_sub hl [2] rfl)
  · replace h := (if_pos hc3).symm.trans h
    refine lv_iload_n C0.hx C0.hb dX15_comparison_22 rfl (lv_at hl 0 rfl) ?_
    refine lv_bipush (v := (44 : Int32)) C0.hx C0.hb dX15_comparison_23 (by decide) ?_
    refine lv_bipush (v := (48 : Int32)) C0.hx C0.hb dX15_comparison_25 (by decide) ?_
    obtain ⟨q4, hq4, h⟩ := Option.bind_eq_some_iff.mp h
    refine g_calli hW (g_runS (As := [.int (q1.2 122 (q1.2 120 8).toNatClampNeg), .int ((44 : Int32)), .int ((48 : Int32))]) (rest := []) C0 hW (c_X15_isIn hq4) (g_cwOf (n := 3) tc_X15_isIn tn_X15 md_X15_isIn (by decide) (by omega)) tm_X15_65 tz_X15_isIn rfl hl.1 rfl (Nat.le_of_ble_eq_true rfl) dX15_comparison_27) (fun H locs hW => ?_)
    refine lv_if_ne (tgt := 39) C0.hx C0.hb dX15_comparison_30 (by decide) (fun hc5 => ?_) (fun hc5 => ?_)
    · replace h := (if_neg hc5).symm.trans h
      refine lv_aload_n C0.hx C0.hb dX15_comparison_39 rfl (lv_at hl 2 rfl) ?_
      refine lv_dup C0.hx C0.hb dX15_comparison_40 rfl ?_
      refine gf_X15_8 C0 hW (C0.mem (i := 120) (Nat.le_of_ble_eq_true rfl)) k_120 tf_X15_117 dX15_comparison_41 ?_
      refine lv_iconst (v := (1 : Int32)) C0.hx C0.hb dX15_comparison_44 (by decide) ?_
      refine lv_iadd C0.hx C0.hb dX15_comparison_45 ?_
      refine gp_X15_8 C0 hW (C0.mem (i := 120) (Nat.le_of_ble_eq_true rfl)) k_120 tf_X15_117 dX15_comparison_46 (fun H locs hW => ?_)
      refine lv_aload_n C0.hx C0.hb dX15_comparison_49 rfl (lv_at hl 2 rfl) ?_
      refine lv_iload_n C0.hx C0.hb dX15_comparison_50 rfl (lv_at hl 0 rfl) ?_
      refine lv_iload_n C0.hx C0.hb dX15_comparison_51 rfl (lv_at hl 1 rfl) ?_
      refine lv_aload_n C0.hx C0.hb dX15_comparison_52 rfl (lv_at hl 2 rfl) ?_
      obtain ⟨q6, hq6, h⟩ := Option.bind_eq_some_iff.mp h
      refine g_calli hW (g_runV (As := []) (rest := [.int (q1.1), .int (q1.2 122 (q1.2 120 8).toNatClampNeg), .ref (g_ad G (120))]) C0 hW (c_X15_sum (c_X15_value 12) (by omega) hq6) (g_cwOf (n := 0) tc_X15_sum tn_X15 md_X15_sum (by decide) (by omega)) tm_X15_172 ti_X15_sum ts_X15_sum (C0.mem (i := 120) (Nat.le_of_ble_eq_true rfl)) (g_c12 k_120) rfl rfl hl.1 rfl (Nat.le_of_ble_eq_true rfl) dX15_comparison_53) (fun H locs hW => ?_)
      obtain ⟨q7, hq7, h⟩ := Option.bind_eq_some_iff.mp h
      refine g_calli hW (g_runV (As := [.int (q1.2 122 (q1.2 120 8).toNatClampNeg), .int (q1.1), .int (q6.1)]) (rest := []) C0 hW (c_X15_node hq7) (g_cwOf (n := 3) tc_X15_node tn_X15 md_X15_node (by decide) (by omega)) tm_X15_175 ti_X15_node ts_X15_node (C0.mem (i := 120) (Nat.le_of_ble_eq_true rfl)) (g_c12 k_120) rfl rfl hl.1 rfl (Nat.le_of_ble_eq_true rfl) dX15_comparison_56) (fun H locs hW => ?_)
      obtain rfl := Option.some.inj h
      exact g_iret C0 hW rfl rfl rfl dX15_comparison_59
    · replace h := (if_pos hc5).symm.trans h
      exact w_X15_comparison_33 C0 _ _ _ _ h hW (lv_sub hl [2] rfl)
set_option maxRecDepth 100000 in
set_option maxHeartbeats 4000000 in
theorem w_X15_both_5 {p : Program} {l : Launch} {e : Env} {s : State} {m : MethodId} {args : Array Value} {below : List Frame} {meth : Method} {c : Code} {G : GL} {ids : List Nat} {x : CS} {o : Nat → Int32}  {q : Int32 × MS} {sgl : MS → Option (Int32 × MS)} {k : Nat} (hsgl : ∀ (y : MS) (q : Int32 × MS), sgl y = some q → Met l yX15_single (.code yX15_single cX15_single 2 (Option.some Jvm.ClassFile.FieldType.int) :: gT) (g_rm k 0 0) (va_Pc [.ref (g_ad G 120)] (g_P G ids (x, y, o))) (g_Qi G ids q.1 (x, q.2, o)) 0 0 (g_A G)) (hk0 : 66 ≤ k)  (C0 : g_X G ids p s m args meth c cX15_both 2 RX15 (Option.some Jvm.ClassFile.FieldType.int))  : ∀ (n : Nat) (l1 : Int32) (y : MS) (H : Heap) (locs : List Loc) (ls : Array Slot),  f_X15_both_5 sgl n l1 y = some q → g_W G ids (x, y, o) s.heap H locs → lv_has ls 2 [(0, .ref (g_ad G (120))), (1, .int (l1))] → W p l e (g_rm (k + 1) 0 0) s m args below meth c H locs 0 0 (MQ below (g_Qi G ids q.1 (x, q.2, o)) args s 0 0 (g_A G)) (F0 m 5 ls []) := by
  intro n
  induction n with
  | zero =>
    intro l1 y H locs ls h hW hl
    exact absurd h (by simp [f_X15_both_5])
  | succ n ih =>
    intro l1 y H locs ls h hW hl
    unfold f_X15_both_5 at h
    refine lv_aload_n C0.hx C0.hb dX15_both_5 rfl (lv_at hl 0 rfl) ?_
    refine lv_bipush (v := (22 : Int32)) C0.hx C0.hb dX15_both_6 (by decide) ?_
    obtain ⟨q2, hq2, h⟩ := Option.bind_eq_some_iff.mp h
    refine g_calli hW (g_runV (As := [.int ((22 : Int32))]) (rest := []) C0 hW (c_X15_takes hq2) (g_cwOf (n := 1) tc_X15_takes tn_X15 md_X15_takes (by decide) (by omega)) tm_X15_199 ti_X15_takes ts_X15_takes (C0.mem (i := 120) (Nat.le_of_ble_eq_true rfl)) (g_c12 k_120) rfl rfl hl.1 rfl (Nat.le_of_ble_eq_true rfl) dX15_both_8) (fun H locs hW => ?_)
    refine lv_if_eq (tgt := 29) C0.hx C0.hb dX15_both_11 (by decide) (fun hc3 => ?_) (fun hc3 => ?_)
    · replace h := (if_pos hc3).symm.trans h
      refine lv_iload_n C0.hx C0.hb dX15_both_29 rfl (lv_at hl 1 rfl) ?_
      obtain rfl := Option.some.inj h
      exact g_iret C0 hW rfl rfl rfl dX15_both_30
    · replace h := (if_neg hc3).symm.trans h
      refine lv_aload_n C0.hx C0.hb dX15_both_14 rfl (lv_at hl 0 rfl) ?_
      refine lv_bipush (v := (22 : Int32)) C0.hx C0.hb dX15_both_15 (by decide) ?_
      refine lv_iload_n C0.hx C0.hb dX15_both_17 rfl (lv_at hl 1 rfl) ?_
      refine lv_aload_n C0.hx C0.hb dX15_both_18 rfl (lv_at hl 0 rfl) ?_
      obtain ⟨q4, hq4, h⟩ := Option.bind_eq_some_iff.mp h
      refine g_calli hW (g_runV (As := []) (rest := [.int (l1), .int ((22 : Int32)), .ref (g_ad G (120))]) C0 hW (hsgl _ _ hq4) (g_cwOf (n := 0) tc_X15_single tn_X15 md_X15_single (by decide) (by omega)) tm_X15_193 ti_X15_single ts_X15_single (C0.mem (i := 120) (Nat.le_of_ble_eq_true rfl)) (g_c12 k_120) rfl rfl hl.1 rfl (Nat.le_of_ble_eq_true rfl) dX15_both_19) (fun H locs hW => ?_)
      obtain ⟨q5, hq5, h⟩ := Option.bind_eq_some_iff.mp h
      refine g_calli hW (g_runV (As := [.int ((22 : Int32)), .int (l1), .int (q4.1)]) (rest := []) C0 hW (c_X15_node hq5) (g_cwOf (n := 3) tc_X15_node tn_X15 md_X15_node (by decide) (by omega)) tm_X15_175 ti_X15_node ts_X15_node (C0.mem (i := 120) (Nat.le_of_ble_eq_true rfl)) (g_c12 k_120) rfl rfl hl.1 rfl (Nat.le_of_ble_eq_true rfl) dX15_both_22) (fun H locs hW => ?_)
      refine lv_istore_n (lv' := [(1, .int (q5.1)), (0, .ref (g_ad G (120)))]) C0.hx C0.hb dX15_both_25 rfl hl (by decide) rfl (fun ls hl => ?_)
      refine lv_goto (tgt := 5) C0.hx C0.hb dX15_both_26 (by decide) ?_
      exact ih _ _ _ _ _ h hW (lv_sub hl [1, 0] rfl)
set_option maxRecDepth 100000 in
set_option maxHeartbeats 4000000 in
theorem c_X15_both {l : Launch} {G : GL} {ids : List Nat} {x : CS} {o : Nat → Int32} {y : MS}  {q : Int32 × MS} {sgl : MS → Option (Int32 × MS)} {k : Nat} (hsgl : ∀ (y : MS) (q : Int32 × MS), sgl y = some q → Met l yX15_single (.code yX15_single cX15_single 2 (Option.some Jvm.ClassFile.FieldType.int) :: gT) (g_rm k 0 0) (va_Pc [.ref (g_ad G 120)] (g_P G ids (x, y, o))) (g_Qi G ids q.1 (x, q.2, o)) 0 0 (g_A G)) (hk0 : 66 ≤ k)   (h : f_X15_both sgl y = some q) : Met l yX15_both (.code yX15_both cX15_both 2 (Option.some Jvm.ClassFile.FieldType.int) :: gT) (g_rm (k + 1) 0 0) (va_Pc [.ref (g_ad G (120))] (g_P G ids (x, y, o))) (g_Qi G ids q.1 (x, q.2, o)) 0 0 (g_A G) := by
  unfold f_X15_both at h
  refine g_entry (by decide) (Nat.le_of_ble_eq_true rfl) (fun p e s m args below meth c ls C0 hl hW _ => ?_)
  have hl : lv_has ls 2 [(0, .ref (g_ad G (120)))] := hl
  refine lv_aload_n C0.hx C0.hb dX15_both_0 rfl (lv_at hl 0 rfl) ?_
  obtain ⟨q1, hq1, h⟩ := Option.bind_eq_some_iff.mp h
  refine g_calli hW (g_runV (As := []) (rest := []) C0 hW (hsgl _ _ hq1) (g_cwOf (n := 0) tc_X15_single tn_X15 md_X15_single (by decide) (by omega)) tm_X15_193 ti_X15_single ts_X15_single (C0.mem (i := 120) (Nat.le_of_ble_eq_true rfl)) (g_c12 k_120) rfl rfl hl.1 rfl (Nat.le_of_ble_eq_true rfl) dX15_both_1) (fun H locs hW => ?_)
  refine lv_istore_n (lv' := [(1, .int (q1.1)), (0, .ref (g_ad G (120)))]) C0.hx C0.hb dX15_both_4 rfl hl (by decide) rfl (fun ls hl => ?_)
  exact w_X15_both_5 hsgl (by omega) C0 g_fuel _ _ _ _ _ h hW (lv_sub hl [1, 0] rfl)
set_option maxRecDepth 100000 in
set_option maxHeartbeats 4000000 in
theorem w_X15_test_5 {p : Program} {l : Launch} {e : Env} {s : State} {m : MethodId} {args : Array Value} {below : List Frame} {meth : Method} {c : Code} {G : GL} {ids : List Nat} {x : CS} {o : Nat → Int32}  {q : Int32 × MS} {sgl : MS → Option (Int32 × MS)} {k : Nat} (hsgl : ∀ (y : MS) (q : Int32 × MS), sgl y = some q → Met l yX15_single (.code yX15_single cX15_single 2 (Option.some Jvm.ClassFile.FieldType.int) :: gT) (g_rm k 0 0) (va_Pc [.ref (g_ad G 120)] (g_P G ids (x, y, o))) (g_Qi G ids q.1 (x, q.2, o)) 0 0 (g_A G)) (hk0 : 66 ≤ k)  (C0 : g_X G ids p s m args meth c cX15_test 2 RX15 (Option.some Jvm.ClassFile.FieldType.int))  : ∀ (n : Nat) (l1 : Int32) (y : MS) (H : Heap) (locs : List Loc) (ls : Array Slot),  f_X15_test_5 sgl n l1 y = some q → g_W G ids (x, y, o) s.heap H locs → lv_has ls 2 [(0, .ref (g_ad G (120))), (1, .int (l1))] → W p l e (g_rm (k + 2) 0 0) s m args below meth c H locs 0 0 (MQ below (g_Qi G ids q.1 (x, q.2, o)) args s 0 0 (g_A G)) (F0 m 5 ls []) := by
  intro n
  induction n with
  | zero =>
    intro l1 y H locs ls h hW hl
    exact absurd h (by simp [f_X15_test_5])
  | succ n ih =>
    intro l1 y H locs ls h hW hl
    unfold f_X15_test_5 at h
    refine lv_aload_n C0.hx C0.hb dX15_test_5 rfl (lv_at hl 0 rfl) ?_
    refine lv_bipush (v := (23 : Int32)) C0.hx C0.hb dX15_test_6 (by decide) ?_
    obtain ⟨q2, hq2, h⟩ := Option.bind_eq_some_iff.mp h
    refine g_calli hW (g_runV (As := [.int ((23 : Int32))]) (rest := []) C0 hW (c_X15_takes hq2) (g_cwOf (n := 1) tc_X15_takes tn_X15 md_X15_takes (by decide) (by omega)) tm_X15_199 ti_X15_takes ts_X15_takes (C0.mem (i := 120) (Nat.le_of_ble_eq_true rfl)) (g_c12 k_120) rfl rfl hl.1 rfl (Nat.le_of_ble_eq_true rfl) dX15_test_8) (fun H locs hW => ?_)
    refine lv_if_eq (tgt := 29) C0.hx C0.hb dX15_test_11 (by decide) (fun hc3 => ?_) (fun hc3 => ?_)
    · replace h := (if_pos hc3).symm.trans h
      refine lv_iload_n C0.hx C0.hb dX15_test_29 rfl (lv_at hl 1 rfl) ?_
      obtain rfl := Option.some.inj h
      exact g_iret C0 hW rfl rfl rfl dX15_test_30
    · replace h := (if_neg hc3).symm.trans h
      refine lv_aload_n C0.hx C0.hb dX15_test_14 rfl (lv_at hl 0 rfl) ?_
      refine lv_bipush (v := (23 : Int32)) C0.hx C0.hb dX15_test_15 (by decide) ?_
      refine lv_iload_n C0.hx C0.hb dX15_test_17 rfl (lv_at hl 1 rfl) ?_
      refine lv_aload_n C0.hx C0.hb dX15_test_18 rfl (lv_at hl 0 rfl) ?_
      obtain ⟨q4, hq4, h⟩ := Option.bind_eq_some_iff.mp h
      refine g_calli hW (g_runV (As := []) (rest := [.int (l1), .int ((23 : Int32)), .ref (g_ad G (120))]) C0 hW (c_X15_both hsgl (by omega) hq4) (g_cwOf (n := 0) tc_X15_both tn_X15 md_X15_both (by decide) (by omega)) tm_X15_205 ti_X15_both ts_X15_both (C0.mem (i := 120) (Nat.le_of_ble_eq_true rfl)) (g_c12 k_120) rfl rfl hl.1 rfl (Nat.le_of_ble_eq_true rfl) dX15_test_19) (fun H locs hW => ?_)
      obtain ⟨q5, hq5, h⟩ := Option.bind_eq_some_iff.mp h
      refine g_calli hW (g_runV (As := [.int ((23 : Int32)), .int (l1), .int (q4.1)]) (rest := []) C0 hW (c_X15_node hq5) (g_cwOf (n := 3) tc_X15_node tn_X15 md_X15_node (by decide) (by omega)) tm_X15_175 ti_X15_node ts_X15_node (C0.mem (i := 120) (Nat.le_of_ble_eq_true rfl)) (g_c12 k_120) rfl rfl hl.1 rfl (Nat.le_of_ble_eq_true rfl) dX15_test_22) (fun H locs hW => ?_)
      refine lv_istore_n (lv' := [(1, .int (q5.1)), (0, .ref (g_ad G (120)))]) C0.hx C0.hb dX15_test_25 rfl hl (by decide) rfl (fun ls hl => ?_)
      refine lv_goto (tgt := 5) C0.hx C0.hb dX15_test_26 (by decide) ?_
      exact ih _ _ _ _ _ h hW (lv_sub hl [1, 0] rfl)
set_option maxRecDepth 100000 in
set_option maxHeartbeats 4000000 in
theorem c_X15_test {l : Launch} {G : GL} {ids : List Nat} {x : CS} {o : Nat → Int32} {y : MS}  {q : Int32 × MS} {sgl : MS → Option (Int32 × MS)} {k : Nat} (hsgl : ∀ (y : MS) (q : Int32 × MS), sgl y = some q → Met l yX15_single (.code yX15_single cX15_single 2 (Option.some Jvm.ClassFile.FieldType.int) :: gT) (g_rm k 0 0) (va_Pc [.ref (g_ad G 120)] (g_P G ids (x, y, o))) (g_Qi G ids q.1 (x, q.2, o)) 0 0 (g_A G)) (hk0 : 66 ≤ k)   (h : f_X15_test sgl y = some q) : Met l yX15_test (.code yX15_test cX15_test 2 (Option.some Jvm.ClassFile.FieldType.int) :: gT) (g_rm (k + 2) 0 0) (va_Pc [.ref (g_ad G (120))] (g_P G ids (x, y, o))) (g_Qi G ids q.1 (x, q.2, o)) 0 0 (g_A G) := by
  unfold f_X15_test at h
  refine g_entry (by decide) (Nat.le_of_ble_eq_true rfl) (fun p e s m args below meth c ls C0 hl hW _ => ?_)
  have hl : lv_has ls 2 [(0, .ref (g_ad G (120)))] := hl
  refine lv_aload_n C0.hx C0.hb dX15_test_0 rfl (lv_at hl 0 rfl) ?_
  obtain ⟨q1, hq1, h⟩ := Option.bind_eq_some_iff.mp h
  refine g_calli hW (g_runV (As := []) (rest := []) C0 hW (c_X15_both hsgl (by omega) hq1) (g_cwOf (n := 0) tc_X15_both tn_X15 md_X15_both (by decide) (by omega)) tm_X15_205 ti_X15_both ts_X15_both (C0.mem (i := 120) (Nat.le_of_ble_eq_true rfl)) (g_c12 k_120) rfl rfl hl.1 rfl (Nat.le_of_ble_eq_true rfl) dX15_test_1) (fun H locs hW => ?_)
  refine lv_istore_n (lv' := [(1, .int (q1.1)), (0, .ref (g_ad G (120)))]) C0.hx C0.hb dX15_test_4 rfl hl (by decide) rfl (fun ls hl => ?_)
  exact w_X15_test_5 hsgl (by omega) C0 g_fuel _ _ _ _ _ h hW (lv_sub hl [1, 0] rfl)
set_option maxRecDepth 100000 in
set_option maxHeartbeats 4000000 in
theorem c_X15_single {l : Launch} {G : GL} {ids : List Nat} {x : CS} {o : Nat → Int32}  : ∀ (n : Nat)  (y : MS) (q : Int32 × MS), f_X15_single n y = some q → Met l yX15_single (.code yX15_single cX15_single 2 (Option.some Jvm.ClassFile.FieldType.int) :: gT) (g_rm (66 + 4 * n) 0 0) (va_Pc [.ref (g_ad G (120))] (g_P G ids (x, y, o))) (g_Qi G ids q.1 (x, q.2, o)) 0 0 (g_A G) := by
  intro n
  induction n with
  | zero =>
    intro y q h
    exact absurd h (by simp [f_X15_single])
  | succ n ihn =>
    intro y q h
    unfold f_X15_single at h
    refine g_entry (by decide) (Nat.le_of_ble_eq_true rfl) (fun p e s m args below meth c ls C0 hl hW _ => ?_)
    have hl : lv_has ls 2 [(0, .ref (g_ad G (120)))] := hl
    refine lv_aload_n C0.hx C0.hb dX15_single_0 rfl (lv_at hl 0 rfl) ?_
    refine lv_bipush (v := (21 : Int32)) C0.hx C0.hb dX15_single_1 (by decide) ?_
    obtain ⟨q1, hq1, h⟩ := Option.bind_eq_some_iff.mp h
    refine g_calli hW (g_runV (As := [.int ((21 : Int32))]) (rest := []) C0 hW (c_X15_is hq1) (g_cwOf (n := 1) tc_X15_is tn_X15 md_X15_is (by decide) (by omega)) tm_X15_126 ti_X15_is ts_X15_is (C0.mem (i := 120) (Nat.le_of_ble_eq_true rfl)) (g_c12 k_120) rfl rfl hl.1 rfl (Nat.le_of_ble_eq_true rfl) dX15_single_3) (fun H locs hW => ?_)
    refine lv_if_eq (tgt := 37) C0.hx C0.hb dX15_single_6 (by decide) (fun hc2 => ?_) (fun hc2 => ?_)
    · replace h := (if_pos hc2).symm.trans h
      refine lv_aload_n C0.hx C0.hb dX15_single_37 rfl (lv_at hl 0 rfl) ?_
      refine lv_bipush (v := (51 : Int32)) C0.hx C0.hb dX15_single_38 (by decide) ?_
      obtain ⟨q3, hq3, h⟩ := Option.bind_eq_some_iff.mp h
      refine g_calli hW (g_runV (As := [.int ((51 : Int32))]) (rest := []) C0 hW (c_X15_is hq3) (g_cwOf (n := 1) tc_X15_is tn_X15 md_X15_is (by decide) (by omega)) tm_X15_126 ti_X15_is ts_X15_is (C0.mem (i := 120) (Nat.le_of_ble_eq_true rfl)) (g_c12 k_120) rfl rfl hl.1 rfl (Nat.le_of_ble_eq_true rfl) dX15_single_40) (fun H locs hW => ?_)
      refine lv_if_eq (tgt := 73) C0.hx C0.hb dX15_single_43 (by decide) (fun hc4 => ?_) (fun hc4 => ?_)
      · replace h := (if_pos hc4).symm.trans h
        refine lv_aload_n C0.hx C0.hb dX15_single_73 rfl (lv_at hl 0 rfl) ?_
        refine lv_bipush (v := (19 : Int32)) C0.hx C0.hb dX15_single_74 (by decide) ?_
        obtain ⟨q5, hq5, h⟩ := Option.bind_eq_some_iff.mp h
        refine g_calli hW (g_runV (As := [.int ((19 : Int32))]) (rest := []) C0 hW (c_X15_takes hq5) (g_cwOf (n := 1) tc_X15_takes tn_X15 md_X15_takes (by decide) (by omega)) tm_X15_199 ti_X15_takes ts_X15_takes (C0.mem (i := 120) (Nat.le_of_ble_eq_true rfl)) (g_c12 k_120) rfl rfl hl.1 rfl (Nat.le_of_ble_eq_true rfl) dX15_single_76) (fun H locs hW => ?_)
        refine lv_if_eq (tgt := 94) C0.hx C0.hb dX15_single_79 (by decide) (fun hc6 => ?_) (fun hc6 => ?_)
        · replace h := (if_pos hc6).symm.trans h
          refine lv_aload_n C0.hx C0.hb dX15_single_94 rfl (lv_at hl 0 rfl) ?_
          refine lv_bipush (v := (20 : Int32)) C0.hx C0.hb dX15_single_95 (by decide) ?_
          obtain ⟨q7, hq7, h⟩ := Option.bind_eq_some_iff.mp h
          refine g_calli hW (g_runV (As := [.int ((20 : Int32))]) (rest := []) C0 hW (c_X15_takes hq7) (g_cwOf (n := 1) tc_X15_takes tn_X15 md_X15_takes (by decide) (by omega)) tm_X15_199 ti_X15_takes ts_X15_takes (C0.mem (i := 120) (Nat.le_of_ble_eq_true rfl)) (g_c12 k_120) rfl rfl hl.1 rfl (Nat.le_of_ble_eq_true rfl) dX15_single_97) (fun H locs hW => ?_)
          refine lv_if_eq (tgt := 117) C0.hx C0.hb dX15_single_100 (by decide) (fun hc8 => ?_) (fun hc8 => ?_)
          · replace h := (if_pos hc8).symm.trans h
            refine lv_aload_n C0.hx C0.hb dX15_single_117 rfl (lv_at hl 0 rfl) ?_
            obtain ⟨q9, hq9, h⟩ := Option.bind_eq_some_iff.mp h
            refine g_calli hW (g_runV (As := []) (rest := []) C0 hW (c_X15_comparison hq9) (g_cwOf (n := 0) tc_X15_comparison tn_X15 md_X15_comparison (by decide) (by omega)) tm_X15_202 ti_X15_comparison ts_X15_comparison (C0.mem (i := 120) (Nat.le_of_ble_eq_true rfl)) (g_c12 k_120) rfl rfl hl.1 rfl (Nat.le_of_ble_eq_true rfl) dX15_single_118) (fun H locs hW => ?_)
            obtain rfl := Option.some.inj h
            exact g_iret C0 hW rfl rfl rfl dX15_single_121
          · replace h := (if_neg hc8).symm.trans h
            refine lv_aload_n C0.hx C0.hb dX15_single_103 rfl (lv_at hl 0 rfl) ?_
            refine lv_bipush (v := (20 : Int32)) C0.hx C0.hb dX15_single_104 (by decide) ?_
            refine lv_aload_n C0.hx C0.hb dX15_single_106 rfl (lv_at hl 0 rfl) ?_
            obtain ⟨q10, hq10, h⟩ := Option.bind_eq_some_iff.mp h
            refine g_calli hW (g_runV (As := []) (rest := [.int ((20 : Int32)), .ref (g_ad G (120))]) C0 hW (c_X15_name hq10) (g_cwOf (n := 0) tc_X15_name tn_X15 md_X15_name (by decide) (by omega)) tm_X15_179 ti_X15_name ts_X15_name (C0.mem (i := 120) (Nat.le_of_ble_eq_true rfl)) (g_c12 k_120) rfl rfl hl.1 rfl (Nat.le_of_ble_eq_true rfl) dX15_single_107) (fun H locs hW => ?_)
            refine lv_iconst (v := (0 : Int32)) C0.hx C0.hb dX15_single_110 (by decide) ?_
            obtain ⟨q11, hq11, h⟩ := Option.bind_eq_some_iff.mp h
            refine g_calli hW (g_runV (As := [.int ((20 : Int32)), .int (q10.1), .int ((0 : Int32))]) (rest := []) C0 hW (c_X15_node hq11) (g_cwOf (n := 3) tc_X15_node tn_X15 md_X15_node (by decide) (by omega)) tm_X15_175 ti_X15_node ts_X15_node (C0.mem (i := 120) (Nat.le_of_ble_eq_true rfl)) (g_c12 k_120) rfl rfl hl.1 rfl (Nat.le_of_ble_eq_true rfl) dX15_single_111) (fun H locs hW => ?_)
            refine lv_goto (tgt := 121) C0.hx C0.hb dX15_single_114 (by decide) ?_
            obtain rfl := Option.some.inj h
            exact g_iret C0 hW rfl rfl rfl dX15_single_121
        · replace h := (if_neg hc6).symm.trans h
          refine lv_aload_n C0.hx C0.hb dX15_single_82 rfl (lv_at hl 0 rfl) ?_
          refine lv_bipush (v := (19 : Int32)) C0.hx C0.hb dX15_single_83 (by decide) ?_
          refine lv_aload_n C0.hx C0.hb dX15_single_85 rfl (lv_at hl 0 rfl) ?_
          obtain ⟨q12, hq12, h⟩ := Option.bind_eq_some_iff.mp h
          refine g_calli hW (g_runV (As := []) (rest := [.int ((19 : Int32)), .ref (g_ad G (120))]) C0 hW (c_X15_name hq12) (g_cwOf (n := 0) tc_X15_name tn_X15 md_X15_name (by decide) (by omega)) tm_X15_179 ti_X15_name ts_X15_name (C0.mem (i := 120) (Nat.le_of_ble_eq_true rfl)) (g_c12 k_120) rfl rfl hl.1 rfl (Nat.le_of_ble_eq_true rfl) dX15_single_86) (fun H locs hW => ?_)
          refine lv_iconst (v := (0 : Int32)) C0.hx C0.hb dX15_single_89 (by decide) ?_
          obtain ⟨q13, hq13, h⟩ := Option.bind_eq_some_iff.mp h
          refine g_calli hW (g_runV (As := [.int ((19 : Int32)), .int (q12.1), .int ((0 : Int32))]) (rest := []) C0 hW (c_X15_node hq13) (g_cwOf (n := 3) tc_X15_node tn_X15 md_X15_node (by decide) (by omega)) tm_X15_175 ti_X15_node ts_X15_node (C0.mem (i := 120) (Nat.le_of_ble_eq_true rfl)) (g_c12 k_120) rfl rfl hl.1 rfl (Nat.le_of_ble_eq_true rfl) dX15_single_90) (fun H locs hW => ?_)
          obtain rfl := Option.some.inj h
          exact g_iret C0 hW rfl rfl rfl dX15_single_93
      · replace h := (if_neg hc4).symm.trans h
        refine lv_aload_n C0.hx C0.hb dX15_single_46 rfl (lv_at hl 0 rfl) ?_
        obtain ⟨q14, hq14, h⟩ := Option.bind_eq_some_iff.mp h
        refine g_callv hW (g_runV (As := []) (rest := []) C0 hW (c_X15_deeper hq14) (g_cwOf (n := 0) tc_X15_deeper tn_X15 md_X15_deeper (by decide) (by omega)) tm_X15_169 ti_X15_deeper ts_X15_deeper (C0.mem (i := 120) (Nat.le_of_ble_eq_true rfl)) (g_c12 k_120) rfl rfl hl.1 rfl (Nat.le_of_ble_eq_true rfl) dX15_single_47) (fun H locs hW => ?_)
        refine lv_aload_n C0.hx C0.hb dX15_single_50 rfl (lv_at hl 0 rfl) ?_
        obtain ⟨q15, hq15, h⟩ := Option.bind_eq_some_iff.mp h
        refine g_calli hW (g_runV (As := []) (rest := []) C0 hW (c_X15_test ihn (by omega) hq15) (g_cwOf (n := 0) tc_X15_test tn_X15 md_X15_test (by decide) (by omega)) tm_X15_196 ti_X15_test ts_X15_test (C0.mem (i := 120) (Nat.le_of_ble_eq_true rfl)) (g_c12 k_120) rfl rfl hl.1 rfl (Nat.le_of_ble_eq_true rfl) dX15_single_51) (fun H locs hW => ?_)
        refine lv_istore_n (lv' := [(1, .int (q15.1)), (0, .ref (g_ad G (120)))]) C0.hx C0.hb dX15_single_54 rfl hl (by decide) rfl (fun ls hl => ?_)
        refine lv_aload_n C0.hx C0.hb dX15_single_55 rfl (lv_at hl 1 rfl) ?_
        refine lv_bipush (v := (52 : Int32)) C0.hx C0.hb dX15_single_56 (by decide) ?_
        obtain ⟨q16, hq16, h⟩ := Option.bind_eq_some_iff.mp h
        refine g_callv hW (g_runV (As := [.int ((52 : Int32))]) (rest := []) C0 hW (c_X15_take hq16) (g_cwOf (n := 1) tc_X15_take tn_X15 md_X15_take (by decide) (by omega)) tm_X15_161 ti_X15_take ts_X15_take (C0.mem (i := 120) (Nat.le_of_ble_eq_true rfl)) (g_c12 k_120) rfl rfl hl.1 rfl (Nat.le_of_ble_eq_true rfl) dX15_single_58) (fun H locs hW => ?_)
        refine lv_aload_n C0.hx C0.hb dX15_single_61 rfl (lv_at hl 1 rfl) ?_
        refine lv_dup C0.hx C0.hb dX15_single_62 rfl ?_
        refine gf_X15_12 C0 hW (C0.mem (i := 120) (Nat.le_of_ble_eq_true rfl)) k_120 tf_X15_132 dX15_single_63 ?_
        refine lv_iconst (v := (1 : Int32)) C0.hx C0.hb dX15_single_66 (by decide) ?_
        refine lv_isub C0.hx C0.hb dX15_single_67 ?_
        refine gp_X15_12 C0 hW (C0.mem (i := 120) (Nat.le_of_ble_eq_true rfl)) k_120 tf_X15_132 dX15_single_68 (fun H locs hW => ?_)
        refine lv_iload_n C0.hx C0.hb dX15_single_71 rfl (lv_at hl 0 rfl) ?_
        obtain rfl := Option.some.inj h
        exact g_iret C0 hW rfl rfl rfl dX15_single_72
    · replace h := (if_neg hc2).symm.trans h
      refine lv_aload_n C0.hx C0.hb dX15_single_9 rfl (lv_at hl 0 rfl) ?_
      obtain ⟨q17, hq17, h⟩ := Option.bind_eq_some_iff.mp h
      refine g_callv hW (g_runV (As := []) (rest := []) C0 hW (c_X15_deeper hq17) (g_cwOf (n := 0) tc_X15_deeper tn_X15 md_X15_deeper (by decide) (by omega)) tm_X15_169 ti_X15_deeper ts_X15_deeper (C0.mem (i := 120) (Nat.le_of_ble_eq_true rfl)) (g_c12 k_120) rfl rfl hl.1 rfl (Nat.le_of_ble_eq_true rfl) dX15_single_10) (fun H locs hW => ?_)
      refine lv_aload_n C0.hx C0.hb dX15_single_13 rfl (lv_at hl 0 rfl) ?_
      obtain ⟨q18, hq18, h⟩ := Option.bind_eq_some_iff.mp h
      refine g_calli hW (g_runV (As := []) (rest := []) C0 hW (ihn _ _ hq18) (g_cwOf (n := 0) tc_X15_single tn_X15 md_X15_single (by decide) (by omega)) tm_X15_193 ti_X15_single ts_X15_single (C0.mem (i := 120) (Nat.le_of_ble_eq_true rfl)) (g_c12 k_120) rfl rfl hl.1 rfl (Nat.le_of_ble_eq_true rfl) dX15_single_14) (fun H locs hW => ?_)
      refine lv_istore_n (lv' := [(1, .int (q18.1)), (0, .ref (g_ad G (120)))]) C0.hx C0.hb dX15_single_17 rfl hl (by decide) rfl (fun ls hl => ?_)
      refine lv_aload_n C0.hx C0.hb dX15_single_18 rfl (lv_at hl 1 rfl) ?_
      refine lv_dup C0.hx C0.hb dX15_single_19 rfl ?_
      refine gf_X15_12 C0 hW (C0.mem (i := 120) (Nat.le_of_ble_eq_true rfl)) k_120 tf_X15_132 dX15_single_20 ?_
      refine lv_iconst (v := (1 : Int32)) C0.hx C0.hb dX15_single_23 (by decide) ?_
      refine lv_isub C0.hx C0.hb dX15_single_24 ?_
      refine gp_X15_12 C0 hW (C0.mem (i := 120) (Nat.le_of_ble_eq_true rfl)) k_120 tf_X15_132 dX15_single_25 (fun H locs hW => ?_)
      refine lv_aload_n C0.hx C0.hb dX15_single_28 rfl (lv_at hl 1 rfl) ?_
      refine lv_bipush (v := (21 : Int32)) C0.hx C0.hb dX15_single_29 (by decide) ?_
      refine lv_iload_n C0.hx C0.hb dX15_single_31 rfl (lv_at hl 0 rfl) ?_
      refine lv_iconst (v := (0 : Int32)) C0.hx C0.hb dX15_single_32 (by decide) ?_
      obtain ⟨q19, hq19, h⟩ := Option.bind_eq_some_iff.mp h
      refine g_calli hW (g_runV (As := [.int ((21 : Int32)), .int (q18.1), .int ((0 : Int32))]) (rest := []) C0 hW (c_X15_node hq19) (g_cwOf (n := 3) tc_X15_node tn_X15 md_X15_node (by decide) (by omega)) tm_X15_175 ti_X15_node ts_X15_node (C0.mem (i := 120) (Nat.le_of_ble_eq_true rfl)) (g_c12 k_120) rfl rfl hl.1 rfl (Nat.le_of_ble_eq_true rfl) dX15_single_33) (fun H locs hW => ?_)
      obtain rfl := Option.some.inj h
      exact g_iret C0 hW rfl rfl rfl dX15_single_36
set_option maxRecDepth 100000 in
set_option maxHeartbeats 4000000 in
theorem w_X15_numberIn_33 {p : Program} {l : Launch} {e : Env} {s : State} {m : MethodId} {args : Array Value} {below : List Frame} {meth : Method} {c : Code} {G : GL} {ids : List Nat} {x : CS} {o : Nat → Int32}  {q : Int32 × MS}   (C0 : g_X G ids p s m args meth c cX15_numberIn 4 RX15 (Option.some Jvm.ClassFile.FieldType.int))  : ∀  (l3 : Int32) (y : MS) (H : Heap) (locs : List Loc) (ls : Array Slot),  f_X15_numberIn_33 l3 y = some q → g_W G ids (x, y, o) s.heap H locs → lv_has ls 4 [(0, .ref (g_ad G (120))), (3, .int (l3))] → W p l e (g_rm 2 0 0) s m args below meth c H locs 0 0 (MQ below (g_Qi G ids q.1 (x, q.2, o)) args s 0 0 (g_A G)) (F0 m 33 ls []) := by
  intro l3 y H locs ls h hW hl
  unfold f_X15_numberIn_33 at h
  refine lv_aload_n C0.hx C0.hb dX15_numberIn_33 rfl (lv_at hl 0 rfl) ?_
  refine lv_bipush (v := (31 : Int32)) C0.hx C0.hb dX15_numberIn_34 (by decide) ?_
  obtain ⟨q7, hq7, h⟩ := Option.bind_eq_some_iff.mp h
  refine g_callv hW (g_runV (As := [.int ((31 : Int32))]) (rest := []) C0 hW (c_X15_take hq7) (g_cwOf (n := 1) tc_X15_take tn_X15 md_X15_take (by decide) (by omega)) tm_X15_161 ti_X15_take ts_X15_take (C0.mem (i := 120) (Nat.le_of_ble_eq_true rfl)) (g_c12 k_120) rfl rfl hl.1 rfl (Nat.le_of_ble_eq_true rfl) dX15_numberIn_36) (fun H locs hW => ?_)
  refine lv_iload_n C0.hx C0.hb dX15_numberIn_39 rfl (lv_at hl 1 rfl) ?_
  obtain rfl := Option.some.inj h
  exact g_iret C0 hW rfl rfl rfl dX15_numberIn_40
set_option maxRecDepth 100000 in
set_option maxHeartbeats 4000000 in
theorem c_X15_numberIn {l : Launch} {G : GL} {ids : List Nat} {x : CS} {o : Nat → Int32} {y : MS} {p1 : Int32} {p2 : Int32} {q : Int32 × MS}    (h : f_X15_numberIn p1 p2 y = some q) : Met l yX15_numberIn (.code yX15_numberIn cX15_numberIn 4 (Option.some Jvm.ClassFile.FieldType.int) :: gT) (g_rm 2 0 0) (va_Pc [.ref (g_ad G (120)), .int (p1), .int (p2)] (g_P G ids (x, y, o))) (g_Qi G ids q.1 (x, q.2, o)) 0 0 (g_A G) := by
  unfold f_X15_numberIn at h
  refine g_entry (by decide) (Nat.le_of_ble_eq_true rfl) (fun p e s m args below meth c ls C0 hl hW _ => ?_)
  have hl : lv_has ls 4 [(0, .ref (g_ad G (120))), (1, .int (p1)), (2, .int (p2))] := hl
  refine lv_aload_n C0.hx C0.hb dX15_numberIn_0 rfl (lv_at hl 0 rfl) ?_
  refine gf_X15_5 C0 hW (C0.mem (i := 120) (Nat.le_of_ble_eq_true rfl)) k_120 tf_X15_20 dX15_numberIn_1 ?_
  refine lv_aload_n C0.hx C0.hb dX15_numberIn_4 rfl (lv_at hl 0 rfl) ?_
  refine gf_X15_8 C0 hW (C0.mem (i := 120) (Nat.le_of_ble_eq_true rfl)) k_120 tf_X15_117 dX15_numberIn_5 ?_
  obtain ⟨hb1, h⟩ := g_if h
  refine ga_31 C0 hW (C0.mem (i := 123) (Nat.le_of_ble_eq_true rfl)) k_123 hb1 dX15_numberIn_8 ?_
  refine lv_istore_n (lv' := [(3, .int (y 123 (y 120 8).toNatClampNeg)), (0, .ref (g_ad G (120))), (1, .int (p1)), (2, .int (p2))]) C0.hx C0.hb dX15_numberIn_9 rfl hl (by decide) rfl (fun ls hl => ?_)
  refine lv_aload_n C0.hx C0.hb dX15_numberIn_10 rfl (lv_at hl 1 rfl) ?_
  refine lv_bipush (v := (31 : Int32)) C0.hx C0.hb dX15_numberIn_11 (by decide) ?_
  obtain ⟨q2, hq2, h⟩ := Option.bind_eq_some_iff.mp h
  refine g_calli hW (g_runV (As := [.int ((31 : Int32))]) (rest := []) C0 hW (c_X15_is hq2) (g_cwOf (n := 1) tc_X15_is tn_X15 md_X15_is (by decide) (by omega)) tm_X15_126 ti_X15_is ts_X15_is (C0.mem (i := 120) (Nat.le_of_ble_eq_true rfl)) (g_c12 k_120) rfl rfl hl.1 rfl (Nat.le_of_ble_eq_true rfl) dX15_numberIn_13) (fun H locs hW => ?_)
  refine lv_if_eq (tgt := 33) C0.hx C0.hb dX15_numberIn_16 (by decide) (fun hc3 => ?_) (fun hc3 => ?_)
  · replace h := (if_pos hc3).symm.trans h
    exact w_X15_numberIn_33 C0 _ _ _ _ _ h hW (lv_sub hl [1, 0] rfl)
  · replace h := (if_neg hc3).symm.trans h
    refine lv_iload_n C0.hx C0.hb dX15_numberIn_19 rfl (lv_at hl 0 rfl) ?_
    refine lv_iload_n C0.hx C0.hb dX15_numberIn_20 rfl (lv_at hl 2 rfl) ?_
    refine lv_iload_n C0.hx C0.hb dX15_numberIn_21 rfl (lv_at hl 3 rfl) ?_
    obtain ⟨q4, hq4, h⟩ := Option.bind_eq_some_iff.mp h
    refine g_calli hW (g_runS (As := [.int (y 123 (y 120 8).toNatClampNeg), .int (p1), .int (p2)]) (rest := []) C0 hW (c_X15_isIn hq4) (g_cwOf (n := 3) tc_X15_isIn tn_X15 md_X15_isIn (by decide) (by omega)) tm_X15_65 tz_X15_isIn rfl hl.1 rfl (Nat.le_of_ble_eq_true rfl) dX15_numberIn_22) (fun H locs hW => ?_)
    refine lv_if_ne (tgt := 33) C0.hx C0.hb dX15_numberIn_25 (by decide) (fun hc5 => ?_) (fun hc5 => ?_)
    · replace h := (if_neg hc5).symm.trans h
      exact w_X15_numberIn_33 C0 _ _ _ _ _ h hW (lv_sub hl [1, 0] rfl)
    · replace h := (if_pos hc5).symm.trans h
      refine lv_aload_n C0.hx C0.hb dX15_numberIn_28 rfl (lv_at hl 1 rfl) ?_
      refine lv_iconst (v := (5 : Int32)) C0.hx C0.hb dX15_numberIn_29 (by decide) ?_
      obtain ⟨q6, hq6, h⟩ := Option.bind_eq_some_iff.mp h
      refine g_callv hW (g_runV (As := [.int ((5 : Int32))]) (rest := []) C0 hW (c_X15_mark hq6) (g_cwOf (n := 1) tc_X15_mark tn_X15 md_X15_mark (by decide) (by omega)) tm_X15_157 ti_X15_mark ts_X15_mark (C0.mem (i := 120) (Nat.le_of_ble_eq_true rfl)) (g_c12 k_120) rfl rfl hl.1 rfl (Nat.le_of_ble_eq_true rfl) dX15_numberIn_30) (fun H locs hW => ?_)
      exact w_X15_numberIn_33 C0 _ _ _ _ _ h hW (lv_sub hl [1, 0] rfl)
set_option maxRecDepth 100000 in
set_option maxHeartbeats 4000000 in
theorem w_X15_part_95 {p : Program} {l : Launch} {e : Env} {s : State} {m : MethodId} {args : Array Value} {below : List Frame} {meth : Method} {c : Code} {G : GL} {ids : List Nat} {x : CS} {o : Nat → Int32}  {q : MS}   (C0 : g_X G ids p s m args meth c cX15_part 6 RX15 (Option.none : Option Jvm.ClassFile.FieldType))  : ∀ (n : Nat) (l1 : Int32) (l2 : Int32) (l3 : Int32) (l4 : Int32) (l5 : Int32) (y : MS) (H : Heap) (locs : List Loc) (ls : Array Slot),  f_X15_part_95 n l1 l2 l3 l4 l5 y = some q → g_W G ids (x, y, o) s.heap H locs → lv_has ls 6 [(0, .ref (g_ad G (120))), (1, .int (l1)), (2, .int (l2)), (3, .int (l3)), (4, .int (l4)), (5, .int (l5))] → W p l e (g_rm 3 0 0) s m args below meth c H locs 0 0 (MQ below (g_Qv G ids (x, q, o)) args s 0 0 (g_A G)) (F0 m 95 ls []) := by
  intro n
  induction n with
  | zero =>
    intro l1 l2 l3 l4 l5 y H locs ls h hW hl
    exact absurd h (by simp [f_X15_part_95])
  | succ n ih =>
    intro l1 l2 l3 l4 l5 y H locs ls h hW hl
    unfold f_X15_part_95 at h
    refine lv_iload C0.hx C0.hb dX15_part_95 (lv_at hl 5 rfl) ?_
    refine lv_iload C0.hx C0.hb dX15_part_97 (lv_at hl 4 rfl) ?_
    refine lv_icmp_ge (tgt := 168) C0.hx C0.hb dX15_part_99 (by decide) (fun hc13 => ?_) (fun hc13 => ?_)
    · replace h := (if_pos hc13).symm.trans h
      obtain rfl := Option.some.inj h
      exact g_vret C0 hW rfl dX15_part_168
    · replace h := (if_neg hc13).symm.trans h
      refine lv_aload_n C0.hx C0.hb dX15_part_102 rfl (lv_at hl 0 rfl) ?_
      refine gf_X15_9 C0 hW (C0.mem (i := 120) (Nat.le_of_ble_eq_true rfl)) k_120 tf_X15_113 dX15_part_103 ?_
      refine lv_if_ne (tgt := 168) C0.hx C0.hb dX15_part_106 (by decide) (fun hc14 => ?_) (fun hc14 => ?_)
      · replace h := (if_neg hc14).symm.trans h
        obtain rfl := Option.some.inj h
        exact g_vret C0 hW rfl dX15_part_168
      · replace h := (if_pos hc14).symm.trans h
        refine lv_aload_n C0.hx C0.hb dX15_part_109 rfl (lv_at hl 0 rfl) ?_
        refine gf_X15_10 C0 hW (C0.mem (i := 120) (Nat.le_of_ble_eq_true rfl)) k_120 tf_X15_120 dX15_part_110 ?_
        refine lv_if_ne (tgt := 168) C0.hx C0.hb dX15_part_113 (by decide) (fun hc15 => ?_) (fun hc15 => ?_)
        · replace h := (if_neg hc15).symm.trans h
          obtain rfl := Option.some.inj h
          exact g_vret C0 hW rfl dX15_part_168
        · replace h := (if_pos hc15).symm.trans h
          refine lv_aload_n C0.hx C0.hb dX15_part_116 rfl (lv_at hl 0 rfl) ?_
          refine gf_X15_15 C0 hW (C0.mem (i := 120) (Nat.le_of_ble_eq_true rfl)) k_120 tf_X15_39 dX15_part_117 ?_
          refine gfN_X14_4 C0 hW (C0.mem (i := 139) (Nat.le_of_ble_eq_true rfl)) k_139 tfN_X15_217 dX15_part_120 ?_
          refine lv_bipush (v := (24 : Int32)) C0.hx C0.hb dX15_part_123 (by decide) ?_
          refine lv_iload_n C0.hx C0.hb dX15_part_125 rfl (lv_at hl 1 rfl) ?_
          refine lv_imul C0.hx C0.hb dX15_part_126 ?_
          refine lv_aload_n C0.hx C0.hb dX15_part_127 rfl (lv_at hl 0 rfl) ?_
          refine gf_X15_15 C0 hW (C0.mem (i := 120) (Nat.le_of_ble_eq_true rfl)) k_120 tf_X15_39 dX15_part_128 ?_
          refine gfN_X14_3 C0 hW (C0.mem (i := 139) (Nat.le_of_ble_eq_true rfl)) k_139 tfN_X15_211 dX15_part_131 ?_
          refine lv_iload_n C0.hx C0.hb dX15_part_134 rfl (lv_at hl 1 rfl) ?_
          obtain ⟨hb16, h⟩ := g_if h
          refine ga_33 C0 hW (C0.mem (i := 140) (Nat.le_of_ble_eq_true rfl)) k_140 hb16 dX15_part_135 ?_
          refine lv_iadd C0.hx C0.hb dX15_part_136 ?_
          refine lv_iload_n C0.hx C0.hb dX15_part_137 rfl (lv_at hl 2 rfl) ?_
          refine lv_iload_n C0.hx C0.hb dX15_part_138 rfl (lv_at hl 3 rfl) ?_
          refine lv_iload_n C0.hx C0.hb dX15_part_139 rfl (lv_at hl 2 rfl) ?_
          refine lv_isub C0.hx C0.hb dX15_part_140 ?_
          refine lv_iload C0.hx C0.hb dX15_part_141 (lv_at hl 5 rfl) ?_
          refine lv_imul C0.hx C0.hb dX15_part_143 ?_
          refine lv_iload C0.hx C0.hb dX15_part_144 (lv_at hl 4 rfl) ?_
          obtain ⟨hn17, h⟩ := g_if h
          refine lv_idiv C0.hx C0.hb dX15_part_146 hn17 ?_
          refine lv_iadd C0.hx C0.hb dX15_part_147 ?_
          obtain ⟨hb18, h⟩ := g_if h
          refine gs_34 C0 hW (C0.mem (i := 141) (Nat.le_of_ble_eq_true rfl)) k_141 hb18 dX15_part_148 (fun H locs hW => ?_)
          refine lv_aload_n C0.hx C0.hb dX15_part_149 rfl (lv_at hl 0 rfl) ?_
          refine gf_X15_15 C0 hW (C0.mem (i := 120) (Nat.le_of_ble_eq_true rfl)) k_120 tf_X15_39 dX15_part_150 ?_
          refine gfN_X14_3 C0 hW (C0.mem (i := 139) (Nat.le_of_ble_eq_true rfl)) k_139 tfN_X15_211 dX15_part_153 ?_
          refine lv_iload_n C0.hx C0.hb dX15_part_156 rfl (lv_at hl 1 rfl) ?_
          refine lv_dup2_11 C0.hx C0.hb dX15_part_157 rfl rfl ?_
          obtain ⟨hb19, h⟩ := g_if h
          refine ga_33 C0 hW (C0.mem (i := 140) (Nat.le_of_ble_eq_true rfl)) k_140 hb19 dX15_part_158 ?_
          refine lv_iconst (v := (1 : Int32)) C0.hx C0.hb dX15_part_159 (by decide) ?_
          refine lv_iadd C0.hx C0.hb dX15_part_160 ?_
          obtain ⟨hb20, h⟩ := g_if h
          refine gs_33 C0 hW (C0.mem (i := 140) (Nat.le_of_ble_eq_true rfl)) k_140 hb20 dX15_part_161 (fun H locs hW => ?_)
          refine lv_iinc (v := l5 + (1 : Int32)) (lv' := [(5, .int (l5 + (1 : Int32))), (0, .ref (g_ad G (120))), (1, .int (l1)), (2, .int (l2)), (3, .int (l3)), (4, .int (l4))]) C0.hx C0.hb dX15_part_162 hl (k := 5) rfl rfl (by decide) rfl (fun ls hl => ?_)
          refine lv_goto (tgt := 95) C0.hx C0.hb dX15_part_165 (by decide) ?_
          exact ih _ _ _ _ _ _ _ _ _ h hW (lv_sub hl [1, 2, 3, 4, 5, 0] rfl)
set_option maxRecDepth 100000 in
set_option maxHeartbeats 4000000 in
theorem w_X15_part_63 {p : Program} {l : Launch} {e : Env} {s : State} {m : MethodId} {args : Array Value} {below : List Frame} {meth : Method} {c : Code} {G : GL} {ids : List Nat} {x : CS} {o : Nat → Int32}  {q : MS}   (C0 : g_X G ids p s m args meth c cX15_part 6 RX15 (Option.none : Option Jvm.ClassFile.FieldType))  : ∀  (l1 : Int32) (l2 : Int32) (l3 : Int32) (y : MS) (H : Heap) (locs : List Loc) (ls : Array Slot),  f_X15_part_63 l1 l2 l3 y = some q → g_W G ids (x, y, o) s.heap H locs → lv_has ls 6 [(0, .ref (g_ad G (120))), (1, .int (l1)), (2, .int (l2)), (3, .int (l3))] → W p l e (g_rm 3 0 0) s m args below meth c H locs 0 0 (MQ below (g_Qv G ids (x, q, o)) args s 0 0 (g_A G)) (F0 m 63 ls []) := by
  intro l1 l2 l3 y H locs ls h hW hl
  unfold f_X15_part_63 at h
  refine lv_aload_n C0.hx C0.hb dX15_part_63 rfl (lv_at hl 0 rfl) ?_
  refine lv_iconst (v := (3 : Int32)) C0.hx C0.hb dX15_part_64 (by decide) ?_
  obtain ⟨q10, hq10, h⟩ := Option.bind_eq_some_iff.mp h
  refine g_callv hW (g_runV (As := [.int ((3 : Int32))]) (rest := []) C0 hW (c_X15_take hq10) (g_cwOf (n := 1) tc_X15_take tn_X15 md_X15_take (by decide) (by omega)) tm_X15_161 ti_X15_take ts_X15_take (C0.mem (i := 120) (Nat.le_of_ble_eq_true rfl)) (g_c12 k_120) rfl rfl hl.1 rfl (Nat.le_of_ble_eq_true rfl) dX15_part_65) (fun H locs hW => ?_)
  refine lv_aload_n C0.hx C0.hb dX15_part_68 rfl (lv_at hl 0 rfl) ?_
  refine lv_iconst (v := (1 : Int32)) C0.hx C0.hb dX15_part_69 (by decide) ?_
  refine lv_bipush (v := (9 : Int32)) C0.hx C0.hb dX15_part_70 (by decide) ?_
  refine lv_bipush (v := (24 : Int32)) C0.hx C0.hb dX15_part_72 (by decide) ?_
  refine lv_aload_n C0.hx C0.hb dX15_part_74 rfl (lv_at hl 0 rfl) ?_
  refine gf_X15_15 C0 hW (C0.mem (i := 120) (Nat.le_of_ble_eq_true rfl)) k_120 tf_X15_39 dX15_part_75 ?_
  refine gfN_X14_3 C0 hW (C0.mem (i := 139) (Nat.le_of_ble_eq_true rfl)) k_139 tfN_X15_211 dX15_part_78 ?_
  refine lv_iload_n C0.hx C0.hb dX15_part_81 rfl (lv_at hl 1 rfl) ?_
  obtain ⟨hb11, h⟩ := g_if h
  refine ga_33 C0 hW (C0.mem (i := 140) (Nat.le_of_ble_eq_true rfl)) k_140 hb11 dX15_part_82 ?_
  refine lv_isub C0.hx C0.hb dX15_part_83 ?_
  refine g_minR C0 hl.1 (Nat.le_of_ble_eq_true rfl) (by omega) tm_X15_214 (by decide) (by decide) dX15_part_84 ?_
  obtain ⟨q12, hq12, h⟩ := Option.bind_eq_some_iff.mp h
  refine g_calli hW (g_runV (As := [.int ((1 : Int32)), .int (g_min (9 : Int32) ((24 : Int32) - (q10 140 l1.toNatClampNeg)))]) (rest := []) C0 hW (c_X15_numberIn hq12) (g_cwOf (n := 2) tc_X15_numberIn tn_X15 md_X15_numberIn (by decide) (by omega)) tm_X15_208 ti_X15_numberIn ts_X15_numberIn (C0.mem (i := 120) (Nat.le_of_ble_eq_true rfl)) (g_c12 k_120) rfl rfl hl.1 rfl (Nat.le_of_ble_eq_true rfl) dX15_part_87) (fun H locs hW => ?_)
  refine lv_istore (lv' := [(4, .int (q12.1)), (0, .ref (g_ad G (120))), (1, .int (l1)), (2, .int (l2)), (3, .int (l3))]) C0.hx C0.hb dX15_part_90 hl (by decide) rfl (fun ls hl => ?_)
  refine lv_iconst (v := (0 : Int32)) C0.hx C0.hb dX15_part_92 (by decide) ?_
  refine lv_istore (lv' := [(5, .int ((0 : Int32))), (4, .int (q12.1)), (0, .ref (g_ad G (120))), (1, .int (l1)), (2, .int (l2)), (3, .int (l3))]) C0.hx C0.hb dX15_part_93 hl (by decide) rfl (fun ls hl => ?_)
  exact w_X15_part_95 C0 g_fuel _ _ _ _ _ _ _ _ _ h hW (lv_sub hl [2, 3, 4, 5, 1, 0] rfl)
set_option maxRecDepth 100000 in
set_option maxHeartbeats 4000000 in
theorem c_X15_part {l : Launch} {G : GL} {ids : List Nat} {x : CS} {o : Nat → Int32} {y : MS} {p1 : Int32} {q : MS}    (h : f_X15_part p1 y = some q) : Met l yX15_part (.code yX15_part cX15_part 6 (Option.none : Option Jvm.ClassFile.FieldType) :: gT) (g_rm 3 0 0) (va_Pc [.ref (g_ad G (120)), .int (p1)] (g_P G ids (x, y, o))) (g_Qv G ids (x, q, o)) 0 0 (g_A G) := by
  unfold f_X15_part at h
  refine g_entry (by decide) (Nat.le_of_ble_eq_true rfl) (fun p e s m args below meth c ls C0 hl hW _ => ?_)
  have hl : lv_has ls 6 [(0, .ref (g_ad G (120))), (1, .int (p1))] := hl
  refine lv_iconst (v := (0 : Int32)) C0.hx C0.hb dX15_part_0 (by decide) ?_
  refine lv_istore_n (lv' := [(2, .int ((0 : Int32))), (0, .ref (g_ad G (120))), (1, .int (p1))]) C0.hx C0.hb dX15_part_1 rfl hl (by decide) rfl (fun ls hl => ?_)
  refine lv_iconst (v := (0 : Int32)) C0.hx C0.hb dX15_part_2 (by decide) ?_
  refine lv_istore_n (lv' := [(3, .int ((0 : Int32))), (2, .int ((0 : Int32))), (0, .ref (g_ad G (120))), (1, .int (p1))]) C0.hx C0.hb dX15_part_3 rfl hl (by decide) rfl (fun ls hl => ?_)
  refine lv_aload_n C0.hx C0.hb dX15_part_4 rfl (lv_at hl 2 rfl) ?_
  refine lv_iconst (v := (2 : Int32)) C0.hx C0.hb dX15_part_5 (by decide) ?_
  obtain ⟨q1, hq1, h⟩ := Option.bind_eq_some_iff.mp h
  refine g_calli hW (g_runV (As := [.int ((2 : Int32))]) (rest := []) C0 hW (c_X15_takes hq1) (g_cwOf (n := 1) tc_X15_takes tn_X15 md_X15_takes (by decide) (by omega)) tm_X15_199 ti_X15_takes ts_X15_takes (C0.mem (i := 120) (Nat.le_of_ble_eq_true rfl)) (g_c12 k_120) rfl rfl hl.1 rfl (Nat.le_of_ble_eq_true rfl) dX15_part_6) (fun H locs hW => ?_)
  refine lv_if_eq (tgt := 25) C0.hx C0.hb dX15_part_9 (by decide) (fun hc2 => ?_) (fun hc2 => ?_)
  · replace h := (if_pos hc2).symm.trans h
    refine lv_aload_n C0.hx C0.hb dX15_part_25 rfl (lv_at hl 2 rfl) ?_
    refine lv_iconst (v := (4 : Int32)) C0.hx C0.hb dX15_part_26 (by decide) ?_
    obtain ⟨q3, hq3, h⟩ := Option.bind_eq_some_iff.mp h
    refine g_calli hW (g_runV (As := [.int ((4 : Int32))]) (rest := []) C0 hW (c_X15_takes hq3) (g_cwOf (n := 1) tc_X15_takes tn_X15 md_X15_takes (by decide) (by omega)) tm_X15_199 ti_X15_takes ts_X15_takes (C0.mem (i := 120) (Nat.le_of_ble_eq_true rfl)) (g_c12 k_120) rfl rfl hl.1 rfl (Nat.le_of_ble_eq_true rfl) dX15_part_27) (fun H locs hW => ?_)
    refine lv_if_eq (tgt := 57) C0.hx C0.hb dX15_part_30 (by decide) (fun hc4 => ?_) (fun hc4 => ?_)
    · replace h := (if_pos hc4).symm.trans h
      refine lv_aload_n C0.hx C0.hb dX15_part_57 rfl (lv_at hl 2 rfl) ?_
      refine lv_bipush (v := (6 : Int32)) C0.hx C0.hb dX15_part_58 (by decide) ?_
      obtain ⟨q5, hq5, h⟩ := Option.bind_eq_some_iff.mp h
      refine g_callv hW (g_runV (As := [.int ((6 : Int32))]) (rest := []) C0 hW (c_X15_take hq5) (g_cwOf (n := 1) tc_X15_take tn_X15 md_X15_take (by decide) (by omega)) tm_X15_161 ti_X15_take ts_X15_take (C0.mem (i := 120) (Nat.le_of_ble_eq_true rfl)) (g_c12 k_120) rfl rfl hl.1 rfl (Nat.le_of_ble_eq_true rfl) dX15_part_60) (fun H locs hW => ?_)
      exact w_X15_part_63 C0 _ _ _ _ _ _ _ h hW (lv_sub hl [2, 3, 1, 0] rfl)
    · replace h := (if_neg hc4).symm.trans h
      refine lv_aload_n C0.hx C0.hb dX15_part_33 rfl (lv_at hl 2 rfl) ?_
      refine lv_iconst (v := (1 : Int32)) C0.hx C0.hb dX15_part_34 (by decide) ?_
      refine lv_bipush (v := (40 : Int32)) C0.hx C0.hb dX15_part_35 (by decide) ?_
      obtain ⟨q6, hq6, h⟩ := Option.bind_eq_some_iff.mp h
      refine g_calli hW (g_runV (As := [.int ((1 : Int32)), .int ((40 : Int32))]) (rest := []) C0 hW (c_X15_numberIn hq6) (g_cwOf (n := 2) tc_X15_numberIn tn_X15 md_X15_numberIn (by decide) (by omega)) tm_X15_208 ti_X15_numberIn ts_X15_numberIn (C0.mem (i := 120) (Nat.le_of_ble_eq_true rfl)) (g_c12 k_120) rfl rfl hl.1 rfl (Nat.le_of_ble_eq_true rfl) dX15_part_37) (fun H locs hW => ?_)
      refine lv_istore_n (lv' := [(2, .int (q6.1)), (3, .int ((0 : Int32))), (0, .ref (g_ad G (120))), (1, .int (p1))]) C0.hx C0.hb dX15_part_40 rfl hl (by decide) rfl (fun ls hl => ?_)
      refine lv_aload_n C0.hx C0.hb dX15_part_41 rfl (lv_at hl 2 rfl) ?_
      refine lv_iconst (v := (5 : Int32)) C0.hx C0.hb dX15_part_42 (by decide) ?_
      obtain ⟨q7, hq7, h⟩ := Option.bind_eq_some_iff.mp h
      refine g_callv hW (g_runV (As := [.int ((5 : Int32))]) (rest := []) C0 hW (c_X15_take hq7) (g_cwOf (n := 1) tc_X15_take tn_X15 md_X15_take (by decide) (by omega)) tm_X15_161 ti_X15_take ts_X15_take (C0.mem (i := 120) (Nat.le_of_ble_eq_true rfl)) (g_c12 k_120) rfl rfl hl.1 rfl (Nat.le_of_ble_eq_true rfl) dX15_part_43) (fun H locs hW => ?_)
      refine lv_aload_n C0.hx C0.hb dX15_part_46 rfl (lv_at hl 2 rfl) ?_
      refine lv_iconst (v := (1 : Int32)) C0.hx C0.hb dX15_part_47 (by decide) ?_
      refine lv_bipush (v := (40 : Int32)) C0.hx C0.hb dX15_part_48 (by decide) ?_
      obtain ⟨q8, hq8, h⟩ := Option.bind_eq_some_iff.mp h
      refine g_calli hW (g_runV (As := [.int ((1 : Int32)), .int ((40 : Int32))]) (rest := []) C0 hW (c_X15_numberIn hq8) (g_cwOf (n := 2) tc_X15_numberIn tn_X15 md_X15_numberIn (by decide) (by omega)) tm_X15_208 ti_X15_numberIn ts_X15_numberIn (C0.mem (i := 120) (Nat.le_of_ble_eq_true rfl)) (g_c12 k_120) rfl rfl hl.1 rfl (Nat.le_of_ble_eq_true rfl) dX15_part_50) (fun H locs hW => ?_)
      refine lv_istore_n (lv' := [(3, .int (q8.1)), (2, .int (q6.1)), (0, .ref (g_ad G (120))), (1, .int (p1))]) C0.hx C0.hb dX15_part_53 rfl hl (by decide) rfl (fun ls hl => ?_)
      refine lv_goto (tgt := 63) C0.hx C0.hb dX15_part_54 (by decide) ?_
      exact w_X15_part_63 C0 _ _ _ _ _ _ _ h hW (lv_sub hl [2, 3, 1, 0] rfl)
  · replace h := (if_neg hc2).symm.trans h
    refine lv_aload_n C0.hx C0.hb dX15_part_12 rfl (lv_at hl 2 rfl) ?_
    refine lv_iconst (v := (1 : Int32)) C0.hx C0.hb dX15_part_13 (by decide) ?_
    refine lv_bipush (v := (40 : Int32)) C0.hx C0.hb dX15_part_14 (by decide) ?_
    obtain ⟨q9, hq9, h⟩ := Option.bind_eq_some_iff.mp h
    refine g_calli hW (g_runV (As := [.int ((1 : Int32)), .int ((40 : Int32))]) (rest := []) C0 hW (c_X15_numberIn hq9) (g_cwOf (n := 2) tc_X15_numberIn tn_X15 md_X15_numberIn (by decide) (by omega)) tm_X15_208 ti_X15_numberIn ts_X15_numberIn (C0.mem (i := 120) (Nat.le_of_ble_eq_true rfl)) (g_c12 k_120) rfl rfl hl.1 rfl (Nat.le_of_ble_eq_true rfl) dX15_part_16) (fun H locs hW => ?_)
    refine lv_istore_n (lv' := [(2, .int (q9.1)), (3, .int ((0 : Int32))), (0, .ref (g_ad G (120))), (1, .int (p1))]) C0.hx C0.hb dX15_part_19 rfl hl (by decide) rfl (fun ls hl => ?_)
    refine lv_iload_n C0.hx C0.hb dX15_part_20 rfl (lv_at hl 0 rfl) ?_
    refine lv_istore_n (lv' := [(3, .int (q9.1)), (2, .int (q9.1)), (0, .ref (g_ad G (120))), (1, .int (p1))]) C0.hx C0.hb dX15_part_21 rfl hl (by decide) rfl (fun ls hl => ?_)
    refine lv_goto (tgt := 63) C0.hx C0.hb dX15_part_22 (by decide) ?_
    exact w_X15_part_63 C0 _ _ _ _ _ _ _ h hW (lv_sub hl [2, 3, 1, 0] rfl)
set_option maxRecDepth 100000 in
set_option maxHeartbeats 4000000 in
theorem w_X15_word_106 {p : Program} {l : Launch} {e : Env} {s : State} {m : MethodId} {args : Array Value} {below : List Frame} {meth : Method} {c : Code} {G : GL} {ids : List Nat} {x : CS} {o : Nat → Int32}  {q : MS}   (C0 : g_X G ids p s m args meth c cX15_word 2 RX15 (Option.none : Option Jvm.ClassFile.FieldType))  : ∀ (n : Nat) (l1 : Int32) (y : MS) (H : Heap) (locs : List Loc) (ls : Array Slot),  f_X15_word_106 n l1 y = some q → g_W G ids (x, y, o) s.heap H locs → lv_has ls 2 [(0, .ref (g_ad G (120))), (1, .int (l1))] → W p l e (g_rm 4 0 0) s m args below meth c H locs 0 0 (MQ below (g_Qv G ids (x, q, o)) args s 0 0 (g_A G)) (F0 m 106 ls []) := by
  intro n
  induction n with
  | zero =>
    intro l1 y H locs ls h hW hl
    exact absurd h (by simp [f_X15_word_106])
  | succ n ih =>
    intro l1 y H locs ls h hW hl
    unfold f_X15_word_106 at h
    refine lv_aload_n C0.hx C0.hb dX15_word_106 rfl (lv_at hl 0 rfl) ?_
    refine lv_bipush (v := (54 : Int32)) C0.hx C0.hb dX15_word_107 (by decide) ?_
    obtain ⟨q18, hq18, h⟩ := Option.bind_eq_some_iff.mp h
    refine g_calli hW (g_runV (As := [.int ((54 : Int32))]) (rest := []) C0 hW (c_X15_takes hq18) (g_cwOf (n := 1) tc_X15_takes tn_X15 md_X15_takes (by decide) (by omega)) tm_X15_199 ti_X15_takes ts_X15_takes (C0.mem (i := 120) (Nat.le_of_ble_eq_true rfl)) (g_c12 k_120) rfl rfl hl.1 rfl (Nat.le_of_ble_eq_true rfl) dX15_word_109) (fun H locs hW => ?_)
    refine lv_if_eq (tgt := 123) C0.hx C0.hb dX15_word_112 (by decide) (fun hc19 => ?_) (fun hc19 => ?_)
    · replace h := (if_pos hc19).symm.trans h
      refine lv_aload_n C0.hx C0.hb dX15_word_123 rfl (lv_at hl 0 rfl) ?_
      refine gf_X15_15 C0 hW (C0.mem (i := 120) (Nat.le_of_ble_eq_true rfl)) k_120 tf_X15_39 dX15_word_124 ?_
      refine lv_bipush (v := (8 : Int32)) C0.hx C0.hb dX15_word_127 (by decide) ?_
      refine lv_iload_n C0.hx C0.hb dX15_word_129 rfl (lv_at hl 1 rfl) ?_
      refine lv_iconst (v := (1 : Int32)) C0.hx C0.hb dX15_word_130 (by decide) ?_
      refine lv_iadd C0.hx C0.hb dX15_word_131 ?_
      refine g_minR C0 hl.1 (Nat.le_of_ble_eq_true rfl) (by omega) tm_X15_214 (by decide) (by decide) dX15_word_132 ?_
      refine gpN_X14_2 C0 hW (C0.mem (i := 139) (Nat.le_of_ble_eq_true rfl)) k_139 tfN_X15_147 dX15_word_135 (fun H locs hW => ?_)
      obtain rfl := Option.some.inj h
      exact g_vret C0 hW rfl dX15_word_138
    · replace h := (if_neg hc19).symm.trans h
      refine lv_aload_n C0.hx C0.hb dX15_word_115 rfl (lv_at hl 0 rfl) ?_
      refine lv_iload_n C0.hx C0.hb dX15_word_116 rfl (lv_at hl 1 rfl) ?_
      obtain ⟨q20, hq20, h⟩ := Option.bind_eq_some_iff.mp h
      refine g_callv hW (g_runV (As := [.int (l1)]) (rest := []) C0 hW (c_X15_part hq20) (g_cwOf (n := 1) tc_X15_part tn_X15 md_X15_part (by decide) (by omega)) tm_X15_220 ti_X15_part ts_X15_part (C0.mem (i := 120) (Nat.le_of_ble_eq_true rfl)) (g_c12 k_120) rfl rfl hl.1 rfl (Nat.le_of_ble_eq_true rfl) dX15_word_117) (fun H locs hW => ?_)
      refine lv_goto (tgt := 106) C0.hx C0.hb dX15_word_120 (by decide) ?_
      exact ih _ _ _ _ _ h hW (lv_sub hl [0, 1] rfl)
set_option maxRecDepth 100000 in
set_option maxHeartbeats 4000000 in
theorem w_X15_word_80 {p : Program} {l : Launch} {e : Env} {s : State} {m : MethodId} {args : Array Value} {below : List Frame} {meth : Method} {c : Code} {G : GL} {ids : List Nat} {x : CS} {o : Nat → Int32}  {q : MS}   (C0 : g_X G ids p s m args meth c cX15_word 2 RX15 (Option.none : Option Jvm.ClassFile.FieldType))  : ∀  (l1 : Int32) (y : MS) (H : Heap) (locs : List Loc) (ls : Array Slot),  f_X15_word_80 l1 y = some q → g_W G ids (x, y, o) s.heap H locs → lv_has ls 2 [(0, .ref (g_ad G (120))), (1, .int (l1))] → W p l e (g_rm 4 0 0) s m args below meth c H locs 0 0 (MQ below (g_Qv G ids (x, q, o)) args s 0 0 (g_A G)) (F0 m 80 ls []) := by
  intro l1 y H locs ls h hW hl
  unfold f_X15_word_80 at h
  refine lv_aload_n C0.hx C0.hb dX15_word_80 rfl (lv_at hl 0 rfl) ?_
  refine lv_bipush (v := (30 : Int32)) C0.hx C0.hb dX15_word_81 (by decide) ?_
  obtain ⟨q14, hq14, h⟩ := Option.bind_eq_some_iff.mp h
  refine g_callv hW (g_runV (As := [.int ((30 : Int32))]) (rest := []) C0 hW (c_X15_take hq14) (g_cwOf (n := 1) tc_X15_take tn_X15 md_X15_take (by decide) (by omega)) tm_X15_161 ti_X15_take ts_X15_take (C0.mem (i := 120) (Nat.le_of_ble_eq_true rfl)) (g_c12 k_120) rfl rfl hl.1 rfl (Nat.le_of_ble_eq_true rfl) dX15_word_83) (fun H locs hW => ?_)
  refine lv_aload_n C0.hx C0.hb dX15_word_86 rfl (lv_at hl 0 rfl) ?_
  refine lv_iconst (v := (1 : Int32)) C0.hx C0.hb dX15_word_87 (by decide) ?_
  obtain ⟨q15, hq15, h⟩ := Option.bind_eq_some_iff.mp h
  refine g_callv hW (g_runV (As := [.int ((1 : Int32))]) (rest := []) C0 hW (c_X15_take hq15) (g_cwOf (n := 1) tc_X15_take tn_X15 md_X15_take (by decide) (by omega)) tm_X15_161 ti_X15_take ts_X15_take (C0.mem (i := 120) (Nat.le_of_ble_eq_true rfl)) (g_c12 k_120) rfl rfl hl.1 rfl (Nat.le_of_ble_eq_true rfl) dX15_word_88) (fun H locs hW => ?_)
  refine lv_aload_n C0.hx C0.hb dX15_word_91 rfl (lv_at hl 0 rfl) ?_
  refine gf_X15_15 C0 hW (C0.mem (i := 120) (Nat.le_of_ble_eq_true rfl)) k_120 tf_X15_39 dX15_word_92 ?_
  refine gfN_X14_3 C0 hW (C0.mem (i := 139) (Nat.le_of_ble_eq_true rfl)) k_139 tfN_X15_211 dX15_word_95 ?_
  refine lv_iload_n C0.hx C0.hb dX15_word_98 rfl (lv_at hl 1 rfl) ?_
  refine lv_iconst (v := (0 : Int32)) C0.hx C0.hb dX15_word_99 (by decide) ?_
  obtain ⟨hb16, h⟩ := g_if h
  refine gs_33 C0 hW (C0.mem (i := 140) (Nat.le_of_ble_eq_true rfl)) k_140 hb16 dX15_word_100 (fun H locs hW => ?_)
  refine lv_aload_n C0.hx C0.hb dX15_word_101 rfl (lv_at hl 0 rfl) ?_
  refine lv_iload_n C0.hx C0.hb dX15_word_102 rfl (lv_at hl 1 rfl) ?_
  obtain ⟨q17, hq17, h⟩ := Option.bind_eq_some_iff.mp h
  refine g_callv hW (g_runV (As := [.int (l1)]) (rest := []) C0 hW (c_X15_part hq17) (g_cwOf (n := 1) tc_X15_part tn_X15 md_X15_part (by decide) (by omega)) tm_X15_220 ti_X15_part ts_X15_part (C0.mem (i := 120) (Nat.le_of_ble_eq_true rfl)) (g_c12 k_120) rfl rfl hl.1 rfl (Nat.le_of_ble_eq_true rfl) dX15_word_103) (fun H locs hW => ?_)
  exact w_X15_word_106 C0 g_fuel _ _ _ _ _ h hW (lv_sub hl [0, 1] rfl)
set_option maxRecDepth 100000 in
set_option maxHeartbeats 4000000 in
theorem w_X15_word_55 {p : Program} {l : Launch} {e : Env} {s : State} {m : MethodId} {args : Array Value} {below : List Frame} {meth : Method} {c : Code} {G : GL} {ids : List Nat} {x : CS} {o : Nat → Int32}  {q : MS}   (C0 : g_X G ids p s m args meth c cX15_word 2 RX15 (Option.none : Option Jvm.ClassFile.FieldType))  : ∀  (l1 : Int32) (y : MS) (H : Heap) (locs : List Loc) (ls : Array Slot),  f_X15_word_55 l1 y = some q → g_W G ids (x, y, o) s.heap H locs → lv_has ls 2 [(0, .ref (g_ad G (120))), (1, .int (l1))] → W p l e (g_rm 4 0 0) s m args below meth c H locs 0 0 (MQ below (g_Qv G ids (x, q, o)) args s 0 0 (g_A G)) (F0 m 55 ls []) := by
  intro l1 y H locs ls h hW hl
  unfold f_X15_word_55 at h
  refine lv_aload_n C0.hx C0.hb dX15_word_55 rfl (lv_at hl 0 rfl) ?_
  refine lv_bipush (v := (30 : Int32)) C0.hx C0.hb dX15_word_56 (by decide) ?_
  obtain ⟨q10, hq10, h⟩ := Option.bind_eq_some_iff.mp h
  refine g_calli hW (g_runV (As := [.int ((30 : Int32))]) (rest := []) C0 hW (c_X15_is hq10) (g_cwOf (n := 1) tc_X15_is tn_X15 md_X15_is (by decide) (by omega)) tm_X15_126 ti_X15_is ts_X15_is (C0.mem (i := 120) (Nat.le_of_ble_eq_true rfl)) (g_c12 k_120) rfl rfl hl.1 rfl (Nat.le_of_ble_eq_true rfl) dX15_word_58) (fun H locs hW => ?_)
  refine lv_if_eq (tgt := 80) C0.hx C0.hb dX15_word_61 (by decide) (fun hc11 => ?_) (fun hc11 => ?_)
  · replace h := (if_pos hc11).symm.trans h
    exact w_X15_word_80 C0 _ _ _ _ _ h hW (lv_sub hl [0, 1] rfl)
  · replace h := (if_neg hc11).symm.trans h
    refine lv_iload_n C0.hx C0.hb dX15_word_64 rfl (lv_at hl 1 rfl) ?_
    refine lv_bipush (v := (8 : Int32)) C0.hx C0.hb dX15_word_65 (by decide) ?_
    refine lv_icmp_ge (tgt := 80) C0.hx C0.hb dX15_word_67 (by decide) (fun hc12 => ?_) (fun hc12 => ?_)
    · replace h := (if_pos hc12).symm.trans h
      exact w_X15_word_80 C0 _ _ _ _ _ h hW (lv_sub hl [0, 1] rfl)
    · replace h := (if_neg hc12).symm.trans h
      refine lv_aload_n C0.hx C0.hb dX15_word_70 rfl (lv_at hl 0 rfl) ?_
      refine gf_X15_13 C0 hW (C0.mem (i := 120) (Nat.le_of_ble_eq_true rfl)) k_120 tf_X15_29 dX15_word_71 ?_
      refine lv_iload_n C0.hx C0.hb dX15_word_74 rfl (lv_at hl 1 rfl) ?_
      refine lv_aload_n C0.hx C0.hb dX15_word_75 rfl (lv_at hl 0 rfl) ?_
      refine gf_X15_8 C0 hW (C0.mem (i := 120) (Nat.le_of_ble_eq_true rfl)) k_120 tf_X15_117 dX15_word_76 ?_
      obtain ⟨hb13, h⟩ := g_if h
      refine gs_32 C0 hW (C0.mem (i := 126) (Nat.le_of_ble_eq_true rfl)) k_126 hb13 dX15_word_79 (fun H locs hW => ?_)
      exact w_X15_word_80 C0 _ _ _ _ _ h hW (lv_sub hl [0, 1] rfl)
set_option maxRecDepth 100000 in
set_option maxHeartbeats 4000000 in
theorem w_X15_word_35 {p : Program} {l : Launch} {e : Env} {s : State} {m : MethodId} {args : Array Value} {below : List Frame} {meth : Method} {c : Code} {G : GL} {ids : List Nat} {x : CS} {o : Nat → Int32}  {q : MS}   (C0 : g_X G ids p s m args meth c cX15_word 2 RX15 (Option.none : Option Jvm.ClassFile.FieldType))  : ∀  (l1 : Int32) (y : MS) (H : Heap) (locs : List Loc) (ls : Array Slot),  f_X15_word_35 l1 y = some q → g_W G ids (x, y, o) s.heap H locs → lv_has ls 2 [(0, .ref (g_ad G (120))), (1, .int (l1))] → W p l e (g_rm 4 0 0) s m args below meth c H locs 0 0 (MQ below (g_Qv G ids (x, q, o)) args s 0 0 (g_A G)) (F0 m 35 ls []) := by
  intro l1 y H locs ls h hW hl
  unfold f_X15_word_35 at h
  refine lv_aload_n C0.hx C0.hb dX15_word_35 rfl (lv_at hl 0 rfl) ?_
  refine lv_bipush (v := (30 : Int32)) C0.hx C0.hb dX15_word_36 (by decide) ?_
  obtain ⟨q6, hq6, h⟩ := Option.bind_eq_some_iff.mp h
  refine g_calli hW (g_runV (As := [.int ((30 : Int32))]) (rest := []) C0 hW (c_X15_is hq6) (g_cwOf (n := 1) tc_X15_is tn_X15 md_X15_is (by decide) (by omega)) tm_X15_126 ti_X15_is ts_X15_is (C0.mem (i := 120) (Nat.le_of_ble_eq_true rfl)) (g_c12 k_120) rfl rfl hl.1 rfl (Nat.le_of_ble_eq_true rfl) dX15_word_38) (fun H locs hW => ?_)
  refine lv_if_eq (tgt := 55) C0.hx C0.hb dX15_word_41 (by decide) (fun hc7 => ?_) (fun hc7 => ?_)
  · replace h := (if_pos hc7).symm.trans h
    exact w_X15_word_55 C0 _ _ _ _ _ h hW (lv_sub hl [0, 1] rfl)
  · replace h := (if_neg hc7).symm.trans h
    refine lv_iload_n C0.hx C0.hb dX15_word_44 rfl (lv_at hl 1 rfl) ?_
    refine lv_bipush (v := (8 : Int32)) C0.hx C0.hb dX15_word_45 (by decide) ?_
    refine lv_icmp_ne (tgt := 55) C0.hx C0.hb dX15_word_47 (by decide) (fun hc8 => ?_) (fun hc8 => ?_)
    · replace h := (if_neg hc8).symm.trans h
      exact w_X15_word_55 C0 _ _ _ _ _ h hW (lv_sub hl [0, 1] rfl)
    · replace h := (if_pos hc8).symm.trans h
      refine lv_aload_n C0.hx C0.hb dX15_word_50 rfl (lv_at hl 0 rfl) ?_
      refine lv_iconst (v := (4 : Int32)) C0.hx C0.hb dX15_word_51 (by decide) ?_
      obtain ⟨q9, hq9, h⟩ := Option.bind_eq_some_iff.mp h
      refine g_callv hW (g_runV (As := [.int ((4 : Int32))]) (rest := []) C0 hW (c_X15_mark hq9) (g_cwOf (n := 1) tc_X15_mark tn_X15 md_X15_mark (by decide) (by omega)) tm_X15_157 ti_X15_mark ts_X15_mark (C0.mem (i := 120) (Nat.le_of_ble_eq_true rfl)) (g_c12 k_120) rfl rfl hl.1 rfl (Nat.le_of_ble_eq_true rfl) dX15_word_52) (fun H locs hW => ?_)
      exact w_X15_word_55 C0 _ _ _ _ _ h hW (lv_sub hl [0, 1] rfl)
set_option maxRecDepth 100000 in
set_option maxHeartbeats 4000000 in
theorem c_X15_word {l : Launch} {G : GL} {ids : List Nat} {x : CS} {o : Nat → Int32} {y : MS}  {q : MS}    (h : f_X15_word y = some q) : Met l yX15_word (.code yX15_word cX15_word 2 (Option.none : Option Jvm.ClassFile.FieldType) :: gT) (g_rm 4 0 0) (va_Pc [.ref (g_ad G (120))] (g_P G ids (x, y, o))) (g_Qv G ids (x, q, o)) 0 0 (g_A G) := by
  unfold f_X15_word at h
  refine g_entry (by decide) (Nat.le_of_ble_eq_true rfl) (fun p e s m args below meth c ls C0 hl hW _ => ?_)
  have hl : lv_has ls 2 [(0, .ref (g_ad G (120)))] := hl
  refine lv_bipush (v := (8 : Int32)) C0.hx C0.hb dX15_word_0 (by decide) ?_
  refine lv_aload_n C0.hx C0.hb dX15_word_2 rfl (lv_at hl 0 rfl) ?_
  refine gf_X15_15 C0 hW (C0.mem (i := 120) (Nat.le_of_ble_eq_true rfl)) k_120 tf_X15_39 dX15_word_3 ?_
  refine gfN_X14_2 C0 hW (C0.mem (i := 139) (Nat.le_of_ble_eq_true rfl)) k_139 tfN_X15_147 dX15_word_6 ?_
  refine g_minR C0 hl.1 (Nat.le_of_ble_eq_true rfl) (by omega) tm_X15_214 (by decide) (by decide) dX15_word_9 ?_
  refine lv_istore_n (lv' := [(1, .int (g_min (8 : Int32) (y 139 2))), (0, .ref (g_ad G (120)))]) C0.hx C0.hb dX15_word_12 rfl hl (by decide) rfl (fun ls hl => ?_)
  refine lv_aload_n C0.hx C0.hb dX15_word_13 rfl (lv_at hl 1 rfl) ?_
  refine lv_bipush (v := (30 : Int32)) C0.hx C0.hb dX15_word_14 (by decide) ?_
  obtain ⟨q1, hq1, h⟩ := Option.bind_eq_some_iff.mp h
  refine g_calli hW (g_runV (As := [.int ((30 : Int32))]) (rest := []) C0 hW (c_X15_is hq1) (g_cwOf (n := 1) tc_X15_is tn_X15 md_X15_is (by decide) (by omega)) tm_X15_126 ti_X15_is ts_X15_is (C0.mem (i := 120) (Nat.le_of_ble_eq_true rfl)) (g_c12 k_120) rfl rfl hl.1 rfl (Nat.le_of_ble_eq_true rfl) dX15_word_16) (fun H locs hW => ?_)
  refine lv_if_eq (tgt := 35) C0.hx C0.hb dX15_word_19 (by decide) (fun hc2 => ?_) (fun hc2 => ?_)
  · replace h := (if_pos hc2).symm.trans h
    exact w_X15_word_35 C0 _ _ _ _ _ h hW (lv_sub hl [1, 0] rfl)
  · replace h := (if_neg hc2).symm.trans h
    refine lv_aload_n C0.hx C0.hb dX15_word_22 rfl (lv_at hl 1 rfl) ?_
    obtain ⟨q3, hq3, h⟩ := Option.bind_eq_some_iff.mp h
    refine g_calli hW (g_runV (As := []) (rest := []) C0 hW (c_X15_known hq3) (g_cwOf (n := 0) tc_X15_known tn_X15 md_X15_known (by decide) (by omega)) tm_X15_154 ti_X15_known ts_X15_known (C0.mem (i := 120) (Nat.le_of_ble_eq_true rfl)) (g_c12 k_120) rfl rfl hl.1 rfl (Nat.le_of_ble_eq_true rfl) dX15_word_23) (fun H locs hW => ?_)
    refine lv_iconst (v := (-1 : Int32)) C0.hx C0.hb dX15_word_26 (by decide) ?_
    refine lv_icmp_eq (tgt := 35) C0.hx C0.hb dX15_word_27 (by decide) (fun hc4 => ?_) (fun hc4 => ?_)
    · replace h := (if_pos hc4).symm.trans h
      exact w_X15_word_35 C0 _ _ _ _ _ h hW (lv_sub hl [1, 0] rfl)
    · replace h := (if_neg hc4).symm.trans h
      refine lv_aload_n C0.hx C0.hb dX15_word_30 rfl (lv_at hl 1 rfl) ?_
      refine lv_iconst (v := (2 : Int32)) C0.hx C0.hb dX15_word_31 (by decide) ?_
      obtain ⟨q5, hq5, h⟩ := Option.bind_eq_some_iff.mp h
      refine g_callv hW (g_runV (As := [.int ((2 : Int32))]) (rest := []) C0 hW (c_X15_mark hq5) (g_cwOf (n := 1) tc_X15_mark tn_X15 md_X15_mark (by decide) (by omega)) tm_X15_157 ti_X15_mark ts_X15_mark (C0.mem (i := 120) (Nat.le_of_ble_eq_true rfl)) (g_c12 k_120) rfl rfl hl.1 rfl (Nat.le_of_ble_eq_true rfl) dX15_word_32) (fun H locs hW => ?_)
      exact w_X15_word_35 C0 _ _ _ _ _ h hW (lv_sub hl [1, 0] rfl)
