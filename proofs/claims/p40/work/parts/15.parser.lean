set_option maxRecDepth 100000 in
set_option maxHeartbeats 4000000 in
theorem c_X2_step {l : Launch} {G : GL} {ids : List Nat} {y : MS} {o : Nat → Int32} {x : CS}  {q : CS}  (h162 : 162 ∈ ids) (h163 : 163 ∈ ids)  (h : f_X2_step x = some q) : Met l yX2_step (.code yX2_step cX2_step 1 (Option.none : Option Jvm.ClassFile.FieldType) :: gT) (g_rm 1 0 0) (va_Pc [.ref (g_ad G (162))] (g_P G ids (x, y, o))) (g_Qv G ids (q, y, o)) 0 0 (g_A G) := by
  unfold f_X2_step at h
  refine g_entry (by decide) (Nat.le_of_ble_eq_true rfl) (fun p e s m args below meth c ls C0 hl hW _ => ?_)
  have hl : lv_has ls 1 [(0, .ref (g_ad G (162)))] := hl
  refine lv_aload_n C0.hx C0.hb dX2_step_0 rfl (lv_at hl 0 rfl) ?_
  refine gf_X2_8 C0 hW h162 k_162 tf_X2_34 dX2_step_1 ?_
  refine lv_iconst (v := (1 : Int32)) C0.hx C0.hb dX2_step_4 (by decide) ?_
  refine lv_icmp_eq (tgt := 63) C0.hx C0.hb dX2_step_5 (by decide) (fun hc1 => ?_) (fun hc1 => ?_)
  · replace h := (if_pos hc1).symm.trans h
    obtain rfl := Option.some.inj h
    exact g_vret C0 hW rfl dX2_step_63
  · replace h := (if_neg hc1).symm.trans h
    refine lv_aload_n C0.hx C0.hb dX2_step_8 rfl (lv_at hl 0 rfl) ?_
    refine lv_dup C0.hx C0.hb dX2_step_9 rfl ?_
    refine gf_X2_4 C0 hW h162 k_162 tf_X2_15 dX2_step_10 ?_
    refine lv_iconst (v := (1 : Int32)) C0.hx C0.hb dX2_step_13 (by decide) ?_
    refine lv_iadd C0.hx C0.hb dX2_step_14 ?_
    refine gp_X2_4 C0 hW h162 k_162 tf_X2_15 dX2_step_15 (fun H locs hW => ?_)
    refine lv_aload_n C0.hx C0.hb dX2_step_18 rfl (lv_at hl 0 rfl) ?_
    refine lv_aload_n C0.hx C0.hb dX2_step_19 rfl (lv_at hl 0 rfl) ?_
    refine gf_X2_0 C0 hW h162 k_162 tf_X2_40 dX2_step_20 ?_
    refine lv_aload_n C0.hx C0.hb dX2_step_23 rfl (lv_at hl 0 rfl) ?_
    refine gf_X2_4 C0 hW h162 k_162 tf_X2_15 dX2_step_24 ?_
    obtain ⟨q2, hq2, h⟩ := Option.bind_eq_some_iff.mp h
    refine g_callr hW (g_runV (As := [.int ((g_wi x 162 4 ((x.1 162 4) + (1 : Int32))).1 162 4)]) (rest := [.ref (g_ad G (162))]) C0 hW (c_X8_sign hq2) (g_cwOf (n := 1) tc_X8_sign tn_X8 md_X8_sign (by decide) (by omega)) tm_X2_98 ti_X8_sign ts_X8_sign (C0.mem (i := 3) (Nat.le_of_ble_eq_true rfl)) (g_c3 k_3) rfl rfl hl.1 rfl (Nat.le_of_ble_eq_true rfl) dX2_step_27) (fun H locs hW => ?_)
    refine gp_X2_5 C0 hW h162 k_162 tf_X2_25 dX2_step_30 (fun H locs hW => ?_)
    refine lv_aload_n C0.hx C0.hb dX2_step_33 rfl (lv_at hl 0 rfl) ?_
    refine lv_aload_n C0.hx C0.hb dX2_step_34 rfl (lv_at hl 0 rfl) ?_
    refine gf_X2_0 C0 hW h162 k_162 tf_X2_40 dX2_step_35 ?_
    refine lv_aload_n C0.hx C0.hb dX2_step_38 rfl (lv_at hl 0 rfl) ?_
    refine gf_X2_4 C0 hW h162 k_162 tf_X2_15 dX2_step_39 ?_
    obtain ⟨q3, hq3, h⟩ := Option.bind_eq_some_iff.mp h
    refine g_calli hW (g_runV (As := [.int ((g_wr (g_wi x 162 4 ((x.1 162 4) + (1 : Int32))) 162 5 q2).1 162 4)]) (rest := [.ref (g_ad G (162))]) C0 hW (c_X8_place hq3) (g_cwOf (n := 1) tc_X8_place tn_X8 md_X8_place (by decide) (by omega)) tm_X2_103 ti_X8_place ts_X8_place (C0.mem (i := 3) (Nat.le_of_ble_eq_true rfl)) (g_c3 k_3) rfl rfl hl.1 rfl (Nat.le_of_ble_eq_true rfl) dX2_step_42) (fun H locs hW => ?_)
    refine gp_X2_6 C0 hW h162 k_162 tf_X2_28 dX2_step_45 (fun H locs hW => ?_)
    refine lv_aload_n C0.hx C0.hb dX2_step_48 rfl (lv_at hl 0 rfl) ?_
    refine lv_aload_n C0.hx C0.hb dX2_step_49 rfl (lv_at hl 0 rfl) ?_
    refine gf_X2_0 C0 hW h162 k_162 tf_X2_40 dX2_step_50 ?_
    refine lv_aload_n C0.hx C0.hb dX2_step_53 rfl (lv_at hl 0 rfl) ?_
    refine gf_X2_4 C0 hW h162 k_162 tf_X2_15 dX2_step_54 ?_
    obtain ⟨q4, hq4, h⟩ := Option.bind_eq_some_iff.mp h
    refine g_calli hW (g_runV (As := [.int ((g_wi (g_wr (g_wi x 162 4 ((x.1 162 4) + (1 : Int32))) 162 5 q2) 162 6 q3).1 162 4)]) (rest := [.ref (g_ad G (162))]) C0 hW (c_X8_value hq4) (g_cwOf (n := 1) tc_X8_value tn_X8 md_X8_value (by decide) (by omega)) tm_X2_106 ti_X8_value ts_X8_value (C0.mem (i := 3) (Nat.le_of_ble_eq_true rfl)) (g_c3 k_3) rfl rfl hl.1 rfl (Nat.le_of_ble_eq_true rfl) dX2_step_57) (fun H locs hW => ?_)
    refine gp_X2_7 C0 hW h162 k_162 tf_X2_31 dX2_step_60 (fun H locs hW => ?_)
    obtain rfl := Option.some.inj h
    exact g_vret C0 hW rfl dX2_step_63
set_option maxRecDepth 100000 in
set_option maxHeartbeats 4000000 in
theorem c_X2_refuse {l : Launch} {G : GL} {ids : List Nat} {y : MS} {o : Nat → Int32} {x : CS}  {q : CS}  (h162 : 162 ∈ ids) (h163 : 163 ∈ ids)  (h : f_X2_refuse x = some q) : Met l yX2_refuse (.code yX2_refuse cX2_refuse 1 (Option.none : Option Jvm.ClassFile.FieldType) :: gT) (g_rm 0 0 0) (va_Pc [.ref (g_ad G (162))] (g_P G ids (x, y, o))) (g_Qv G ids (q, y, o)) 0 0 (g_A G) := by
  unfold f_X2_refuse at h
  refine g_entry (by decide) (Nat.le_of_ble_eq_true rfl) (fun p e s m args below meth c ls C0 hl hW _ => ?_)
  have hl : lv_has ls 1 [(0, .ref (g_ad G (162)))] := hl
  refine lv_aload_n C0.hx C0.hb dX2_refuse_0 rfl (lv_at hl 0 rfl) ?_
  refine gf_X2_8 C0 hW h162 k_162 tf_X2_34 dX2_refuse_1 ?_
  refine lv_iconst (v := (1 : Int32)) C0.hx C0.hb dX2_refuse_4 (by decide) ?_
  refine lv_icmp_eq (tgt := 28) C0.hx C0.hb dX2_refuse_5 (by decide) (fun hc1 => ?_) (fun hc1 => ?_)
  · replace h := (if_pos hc1).symm.trans h
    obtain rfl := Option.some.inj h
    exact g_vret C0 hW rfl dX2_refuse_28
  · replace h := (if_neg hc1).symm.trans h
    refine lv_aload_n C0.hx C0.hb dX2_refuse_8 rfl (lv_at hl 0 rfl) ?_
    refine lv_iconst (v := (1 : Int32)) C0.hx C0.hb dX2_refuse_9 (by decide) ?_
    refine gp_X2_8 C0 hW h162 k_162 tf_X2_34 dX2_refuse_10 (fun H locs hW => ?_)
    refine lv_aload_n C0.hx C0.hb dX2_refuse_13 rfl (lv_at hl 0 rfl) ?_
    refine lv_aload_n C0.hx C0.hb dX2_refuse_14 rfl (lv_at hl 0 rfl) ?_
    refine gf_X2_6 C0 hW h162 k_162 tf_X2_28 dX2_refuse_15 ?_
    refine gp_X2_9 C0 hW h162 k_162 tf_X2_37 dX2_refuse_18 (fun H locs hW => ?_)
    refine lv_aload_n C0.hx C0.hb dX2_refuse_21 rfl (lv_at hl 0 rfl) ?_
    refine g_sign C0 hW 45 (by decide) tf_X2_19 dX2_refuse_22 ?_
    refine gp_X2_5 C0 hW h162 k_162 tf_X2_25 dX2_refuse_25 (fun H locs hW => ?_)
    obtain rfl := Option.some.inj h
    exact g_vret C0 hW rfl dX2_refuse_28
set_option maxRecDepth 100000 in
set_option maxHeartbeats 4000000 in
theorem w_X2_wordCalled_2 {p : Program} {l : Launch} {e : Env} {s : State} {m : MethodId} {args : Array Value} {below : List Frame} {meth : Method} {c : Code} {G : GL} {ids : List Nat} {y : MS} {o : Nat → Int32} {x : CS} {q : Int32}  (h162 : 162 ∈ ids) (h163 : 163 ∈ ids) (C0 : g_X G ids p s m args meth c cX2_wordCalled 3 RX2 (Option.some Jvm.ClassFile.FieldType.int))  : ∀ (n : Nat) (l1 : Int32) (l2 : Int32)  (H : Heap) (locs : List Loc) (ls : Array Slot),  f_X2_wordCalled_2 x n l1 l2 = some q → g_W G ids (x, y, o) s.heap H locs → lv_has ls 3 [(0, .ref (g_ad G (162))), (1, .int (l1)), (2, .int (l2))] → W p l e (g_rm 0 0 0) s m args below meth c H locs 0 0 (MQ below (g_Qi G ids q (x, y, o)) args s 0 0 (g_A G)) (F0 m 2 ls []) := by
  intro n
  induction n with
  | zero =>
    intro l1 l2 H locs ls h hW hl
    exact absurd h (by simp [f_X2_wordCalled_2])
  | succ n ih =>
    intro l1 l2 H locs ls h hW hl
    unfold f_X2_wordCalled_2 at h
    refine lv_iload_n C0.hx C0.hb dX2_wordCalled_2 rfl (lv_at hl 2 rfl) ?_
    refine lv_aload_n C0.hx C0.hb dX2_wordCalled_3 rfl (lv_at hl 0 rfl) ?_
    obtain ⟨hk1, h⟩ := g_if h
    refine gf_X2_2 C0 hW h162 k_162 tf_X2_48 dX2_wordCalled_4 ?_
    refine gfN_X9_2 C0 hW (C0.mem (kl9 hk1)) hk1 tfN_X2_133 dX2_wordCalled_7 ?_
    refine lv_icmp_ge (tgt := 40) C0.hx C0.hb dX2_wordCalled_10 (by decide) (fun hc2 => ?_) (fun hc2 => ?_)
    · replace h := (if_pos hc2).symm.trans h
      refine lv_iconst (v := (-1 : Int32)) C0.hx C0.hb dX2_wordCalled_40 (by decide) ?_
      obtain rfl := Option.some.inj h
      exact g_iret C0 hW rfl rfl rfl dX2_wordCalled_41
    · replace h := (if_neg hc2).symm.trans h
      refine lv_iload_n C0.hx C0.hb dX2_wordCalled_13 rfl (lv_at hl 2 rfl) ?_
      refine lv_aload_n C0.hx C0.hb dX2_wordCalled_14 rfl (lv_at hl 0 rfl) ?_
      refine gf_X2_3 C0 hW h162 k_162 tf_X2_9 dX2_wordCalled_15 ?_
      refine gl_29 C0 hW h163 k_163 dX2_wordCalled_18 ?_
      refine lv_icmp_ge (tgt := 40) C0.hx C0.hb dX2_wordCalled_19 (by decide) (fun hc3 => ?_) (fun hc3 => ?_)
      · replace h := (if_pos hc3).symm.trans h
        refine lv_iconst (v := (-1 : Int32)) C0.hx C0.hb dX2_wordCalled_40 (by decide) ?_
        obtain rfl := Option.some.inj h
        exact g_iret C0 hW rfl rfl rfl dX2_wordCalled_41
      · replace h := (if_neg hc3).symm.trans h
        refine lv_aload_n C0.hx C0.hb dX2_wordCalled_22 rfl (lv_at hl 0 rfl) ?_
        refine gf_X2_3 C0 hW h162 k_162 tf_X2_9 dX2_wordCalled_23 ?_
        refine lv_iload_n C0.hx C0.hb dX2_wordCalled_26 rfl (lv_at hl 2 rfl) ?_
        obtain ⟨hb4, h⟩ := g_if h
        refine ga_29 C0 hW h163 k_163 hb4 dX2_wordCalled_27 ?_
        refine lv_iload_n C0.hx C0.hb dX2_wordCalled_28 rfl (lv_at hl 1 rfl) ?_
        refine lv_icmp_ne (tgt := 34) C0.hx C0.hb dX2_wordCalled_29 (by decide) (fun hc5 => ?_) (fun hc5 => ?_)
        · replace h := (if_neg hc5).symm.trans h
          refine lv_iinc (v := l2 + (1 : Int32)) (lv' := [(2, .int (l2 + (1 : Int32))), (0, .ref (g_ad G (162))), (1, .int (l1))]) C0.hx C0.hb dX2_wordCalled_34 hl (k := 2) rfl rfl (by decide) rfl (fun ls hl => ?_)
          refine lv_goto (tgt := 2) C0.hx C0.hb dX2_wordCalled_37 (by decide) ?_
          exact ih _ _ _ _ _ h hW (lv_sub hl [1, 2, 0] rfl)
        · replace h := (if_pos hc5).symm.trans h
          refine lv_iload_n C0.hx C0.hb dX2_wordCalled_32 rfl (lv_at hl 2 rfl) ?_
          obtain rfl := Option.some.inj h
          exact g_iret C0 hW rfl rfl rfl dX2_wordCalled_33
set_option maxRecDepth 100000 in
set_option maxHeartbeats 4000000 in
theorem c_X2_wordCalled {l : Launch} {G : GL} {ids : List Nat} {y : MS} {o : Nat → Int32} {x : CS} {p1 : Int32} {q : Int32}  (h162 : 162 ∈ ids) (h163 : 163 ∈ ids)  (h : f_X2_wordCalled p1 x = some q) : Met l yX2_wordCalled (.code yX2_wordCalled cX2_wordCalled 3 (Option.some Jvm.ClassFile.FieldType.int) :: gT) (g_rm 0 0 0) (va_Pc [.ref (g_ad G (162)), .int (p1)] (g_P G ids (x, y, o))) (g_Qi G ids q (x, y, o)) 0 0 (g_A G) := by
  unfold f_X2_wordCalled at h
  refine g_entry (by decide) (Nat.le_of_ble_eq_true rfl) (fun p e s m args below meth c ls C0 hl hW _ => ?_)
  have hl : lv_has ls 3 [(0, .ref (g_ad G (162))), (1, .int (p1))] := hl
  refine lv_iconst (v := (0 : Int32)) C0.hx C0.hb dX2_wordCalled_0 (by decide) ?_
  refine lv_istore_n (lv' := [(2, .int ((0 : Int32))), (0, .ref (g_ad G (162))), (1, .int (p1))]) C0.hx C0.hb dX2_wordCalled_1 rfl hl (by decide) rfl (fun ls hl => ?_)
  exact w_X2_wordCalled_2 h162 h163 C0 g_fuel _ _ _ _ _ h hW (lv_sub hl [1, 2, 0] rfl)
set_option maxRecDepth 100000 in
set_option maxHeartbeats 4000000 in
theorem c_X2_blame {l : Launch} {G : GL} {ids : List Nat} {y : MS} {o : Nat → Int32} {x : CS} {p1 : Int32} {q : CS}  (h162 : 162 ∈ ids) (h163 : 163 ∈ ids)  (h : f_X2_blame p1 x = some q) : Met l yX2_blame (.code yX2_blame cX2_blame 2 (Option.none : Option Jvm.ClassFile.FieldType) :: gT) (g_rm 0 0 0) (va_Pc [.ref (g_ad G (162)), .int (p1)] (g_P G ids (x, y, o))) (g_Qv G ids (q, y, o)) 0 0 (g_A G) := by
  unfold f_X2_blame at h
  refine g_entry (by decide) (Nat.le_of_ble_eq_true rfl) (fun p e s m args below meth c ls C0 hl hW _ => ?_)
  have hl : lv_has ls 2 [(0, .ref (g_ad G (162))), (1, .int (p1))] := hl
  refine lv_aload_n C0.hx C0.hb dX2_blame_0 rfl (lv_at hl 0 rfl) ?_
  refine gf_X2_8 C0 hW h162 k_162 tf_X2_34 dX2_blame_1 ?_
  refine lv_if_ne (tgt := 20) C0.hx C0.hb dX2_blame_4 (by decide) (fun hc1 => ?_) (fun hc1 => ?_)
  · replace h := (if_neg hc1).symm.trans h
    obtain rfl := Option.some.inj h
    exact g_vret C0 hW rfl dX2_blame_20
  · replace h := (if_pos hc1).symm.trans h
    refine lv_aload_n C0.hx C0.hb dX2_blame_7 rfl (lv_at hl 0 rfl) ?_
    refine lv_iload_n C0.hx C0.hb dX2_blame_8 rfl (lv_at hl 1 rfl) ?_
    refine gp_X2_8 C0 hW h162 k_162 tf_X2_34 dX2_blame_9 (fun H locs hW => ?_)
    refine lv_aload_n C0.hx C0.hb dX2_blame_12 rfl (lv_at hl 0 rfl) ?_
    refine lv_aload_n C0.hx C0.hb dX2_blame_13 rfl (lv_at hl 0 rfl) ?_
    refine gf_X2_6 C0 hW h162 k_162 tf_X2_28 dX2_blame_14 ?_
    refine gp_X2_9 C0 hW h162 k_162 tf_X2_37 dX2_blame_17 (fun H locs hW => ?_)
    obtain rfl := Option.some.inj h
    exact g_vret C0 hW rfl dX2_blame_20
set_option maxRecDepth 100000 in
set_option maxHeartbeats 4000000 in
theorem w_X2_readNewName_90 {p : Program} {l : Launch} {e : Env} {s : State} {m : MethodId} {args : Array Value} {below : List Frame} {meth : Method} {c : Code} {G : GL} {ids : List Nat} {y : MS} {o : Nat → Int32}  {q : CS}  (h162 : 162 ∈ ids) (h163 : 163 ∈ ids) (C0 : g_X G ids p s m args meth c cX2_readNewName 1 RX2 (Option.none : Option Jvm.ClassFile.FieldType))  : ∀   (x : CS) (H : Heap) (locs : List Loc) (ls : Array Slot),  f_X2_readNewName_90 x = some q → g_W G ids (x, y, o) s.heap H locs → lv_has ls 1 [(0, .ref (g_ad G (162)))] → W p l e (g_rm 2 0 0) s m args below meth c H locs 0 0 (MQ below (g_Qv G ids (q, y, o)) args s 0 0 (g_A G)) (F0 m 90 ls []) := by
  intro x H locs ls h hW hl
  unfold f_X2_readNewName_90 at h
  refine lv_aload_n C0.hx C0.hb dX2_readNewName_90 rfl (lv_at hl 0 rfl) ?_
  obtain ⟨q13, hq13, h⟩ := Option.bind_eq_some_iff.mp h
  refine g_callv hW (g_runV (As := []) (rest := []) C0 hW (c_X2_step h162 h163 hq13) (g_cwOf (n := 0) tc_X2_step tn_X2 md_X2_step (by decide) (by omega)) tm_X2_60 ti_X2_step ts_X2_step h162 (g_c11 k_162) rfl rfl hl.1 rfl (Nat.le_of_ble_eq_true rfl) dX2_readNewName_91) (fun H locs hW => ?_)
  obtain rfl := Option.some.inj h
  exact g_vret C0 hW rfl dX2_readNewName_94
set_option maxRecDepth 100000 in
set_option maxHeartbeats 4000000 in
theorem w_X2_readNewName_32 {p : Program} {l : Launch} {e : Env} {s : State} {m : MethodId} {args : Array Value} {below : List Frame} {meth : Method} {c : Code} {G : GL} {ids : List Nat} {y : MS} {o : Nat → Int32}  {q : CS}  (h162 : 162 ∈ ids) (h163 : 163 ∈ ids) (C0 : g_X G ids p s m args meth c cX2_readNewName 1 RX2 (Option.none : Option Jvm.ClassFile.FieldType))  : ∀   (x : CS) (H : Heap) (locs : List Loc) (ls : Array Slot),  f_X2_readNewName_32 x = some q → g_W G ids (x, y, o) s.heap H locs → lv_has ls 1 [(0, .ref (g_ad G (162)))] → W p l e (g_rm 2 0 0) s m args below meth c H locs 0 0 (MQ below (g_Qv G ids (q, y, o)) args s 0 0 (g_A G)) (F0 m 32 ls []) := by
  intro x H locs ls h hW hl
  unfold f_X2_readNewName_32 at h
  refine lv_aload_n C0.hx C0.hb dX2_readNewName_32 rfl (lv_at hl 0 rfl) ?_
  obtain ⟨hk6, h⟩ := g_if h
  refine gf_X2_2 C0 hW h162 k_162 tf_X2_48 dX2_readNewName_33 ?_
  refine gfN_X9_2 C0 hW (C0.mem (kl9 hk6)) hk6 tfN_X2_133 dX2_readNewName_36 ?_
  refine lv_bipush (v := (8 : Int32)) C0.hx C0.hb dX2_readNewName_39 (by decide) ?_
  refine lv_icmp_lt (tgt := 52) C0.hx C0.hb dX2_readNewName_41 (by decide) (fun hc7 => ?_) (fun hc7 => ?_)
  · replace h := (if_pos hc7).symm.trans h
    refine lv_aload_n C0.hx C0.hb dX2_readNewName_52 rfl (lv_at hl 0 rfl) ?_
    refine gf_X2_2 C0 hW h162 k_162 tf_X2_48 dX2_readNewName_53 ?_
    refine gfN_X9_2 C0 hW (C0.mem (kl9 hk6)) hk6 tfN_X2_133 dX2_readNewName_56 ?_
    refine lv_aload_n C0.hx C0.hb dX2_readNewName_59 rfl (lv_at hl 0 rfl) ?_
    refine gf_X2_3 C0 hW h162 k_162 tf_X2_9 dX2_readNewName_60 ?_
    refine gl_29 C0 hW h163 k_163 dX2_readNewName_63 ?_
    refine lv_icmp_ge (tgt := 90) C0.hx C0.hb dX2_readNewName_64 (by decide) (fun hc8 => ?_) (fun hc8 => ?_)
    · replace h := (if_pos hc8).symm.trans h
      exact w_X2_readNewName_90 h162 h163 C0 _ _ _ _ h hW (lv_sub hl [0] rfl)
    · replace h := (if_neg hc8).symm.trans h
      refine lv_aload_n C0.hx C0.hb dX2_readNewName_67 rfl (lv_at hl 0 rfl) ?_
      refine gf_X2_3 C0 hW h162 k_162 tf_X2_9 dX2_readNewName_68 ?_
      refine lv_aload_n C0.hx C0.hb dX2_readNewName_71 rfl (lv_at hl 0 rfl) ?_
      refine gf_X2_2 C0 hW h162 k_162 tf_X2_48 dX2_readNewName_72 ?_
      refine gfN_X9_2 C0 hW (C0.mem (kl9 hk6)) hk6 tfN_X2_133 dX2_readNewName_75 ?_
      refine lv_aload_n C0.hx C0.hb dX2_readNewName_78 rfl (lv_at hl 0 rfl) ?_
      refine gf_X2_7 C0 hW h162 k_162 tf_X2_31 dX2_readNewName_79 ?_
      obtain ⟨hb9, h⟩ := g_if h
      refine gs_29 C0 hW h163 k_163 hb9 dX2_readNewName_82 (fun H locs hW => ?_)
      refine lv_aload_n C0.hx C0.hb dX2_readNewName_83 rfl (lv_at hl 0 rfl) ?_
      obtain ⟨hk10, h⟩ := g_if h
      refine gf_X2_2 C0 hW h162 k_162 tf_X2_48 dX2_readNewName_84 ?_
      obtain ⟨q11, hq11, h⟩ := Option.bind_eq_some_iff.mp h
      refine g_callv hW (g_runV (As := []) (rest := []) C0 hW (c_X9_addWord hk10 hq11) (g_cwOf (n := 0) tc_X9_addWord tn_X9 md_X9_addWord (by decide) (by omega)) tm_X2_136 ti_X9_addWord ts_X9_addWord (C0.mem (kl9 hk10)) (g_c9 hk10) rfl rfl hl.1 rfl (Nat.le_of_ble_eq_true rfl) dX2_readNewName_87) (fun H locs hW => ?_)
      exact w_X2_readNewName_90 h162 h163 C0 _ _ _ _ h hW (lv_sub hl [0] rfl)
  · replace h := (if_neg hc7).symm.trans h
    refine lv_aload_n C0.hx C0.hb dX2_readNewName_44 rfl (lv_at hl 0 rfl) ?_
    refine lv_iconst (v := (4 : Int32)) C0.hx C0.hb dX2_readNewName_45 (by decide) ?_
    obtain ⟨q12, hq12, h⟩ := Option.bind_eq_some_iff.mp h
    refine g_callv hW (g_runV (As := [.int ((4 : Int32))]) (rest := []) C0 hW (c_X2_blame h162 h163 hq12) (g_cwOf (n := 1) tc_X2_blame tn_X2 md_X2_blame (by decide) (by omega)) tm_X2_129 ti_X2_blame ts_X2_blame h162 (g_c11 k_162) rfl rfl hl.1 rfl (Nat.le_of_ble_eq_true rfl) dX2_readNewName_46) (fun H locs hW => ?_)
    refine lv_goto (tgt := 90) C0.hx C0.hb dX2_readNewName_49 (by decide) ?_
    exact w_X2_readNewName_90 h162 h163 C0 _ _ _ _ h hW (lv_sub hl [0] rfl)
set_option maxRecDepth 100000 in
set_option maxHeartbeats 4000000 in
theorem c_X2_readNewName {l : Launch} {G : GL} {ids : List Nat} {y : MS} {o : Nat → Int32} {x : CS}  {q : CS}  (h162 : 162 ∈ ids) (h163 : 163 ∈ ids)  (h : f_X2_readNewName x = some q) : Met l yX2_readNewName (.code yX2_readNewName cX2_readNewName 1 (Option.none : Option Jvm.ClassFile.FieldType) :: gT) (g_rm 2 0 0) (va_Pc [.ref (g_ad G (162))] (g_P G ids (x, y, o))) (g_Qv G ids (q, y, o)) 0 0 (g_A G) := by
  unfold f_X2_readNewName at h
  refine g_entry (by decide) (Nat.le_of_ble_eq_true rfl) (fun p e s m args below meth c ls C0 hl hW _ => ?_)
  have hl : lv_has ls 1 [(0, .ref (g_ad G (162)))] := hl
  refine lv_aload_n C0.hx C0.hb dX2_readNewName_0 rfl (lv_at hl 0 rfl) ?_
  refine gf_X2_5 C0 hW h162 k_162 tf_X2_25 dX2_readNewName_1 ?_
  refine g_sign C0 hW 41 (by decide) tf_X2_123 dX2_readNewName_4 ?_
  refine g_acmp_eq (tgt := 15) C0 dX2_readNewName_7 (by decide) (fun hc1 => ?_) (fun hc1 => ?_)
  · replace h := (if_pos hc1).symm.trans h
    refine lv_aload_n C0.hx C0.hb dX2_readNewName_15 rfl (lv_at hl 0 rfl) ?_
    refine lv_aload_n C0.hx C0.hb dX2_readNewName_16 rfl (lv_at hl 0 rfl) ?_
    refine gf_X2_7 C0 hW h162 k_162 tf_X2_31 dX2_readNewName_17 ?_
    obtain ⟨q2, hq2, h⟩ := Option.bind_eq_some_iff.mp h
    refine g_calli hW (g_runV (As := [.int (x.1 162 7)]) (rest := []) C0 hW (c_X2_wordCalled h162 h163 hq2) (g_cwOf (n := 1) tc_X2_wordCalled tn_X2 md_X2_wordCalled (by decide) (by omega)) tm_X2_126 ti_X2_wordCalled ts_X2_wordCalled h162 (g_c11 k_162) rfl rfl hl.1 rfl (Nat.le_of_ble_eq_true rfl) dX2_readNewName_20) (fun H locs hW => ?_)
    refine lv_iconst (v := (-1 : Int32)) C0.hx C0.hb dX2_readNewName_23 (by decide) ?_
    refine lv_icmp_eq (tgt := 32) C0.hx C0.hb dX2_readNewName_24 (by decide) (fun hc3 => ?_) (fun hc3 => ?_)
    · replace h := (if_pos hc3).symm.trans h
      exact w_X2_readNewName_32 h162 h163 C0 _ _ _ _ h hW (lv_sub hl [0] rfl)
    · replace h := (if_neg hc3).symm.trans h
      refine lv_aload_n C0.hx C0.hb dX2_readNewName_27 rfl (lv_at hl 0 rfl) ?_
      refine lv_iconst (v := (2 : Int32)) C0.hx C0.hb dX2_readNewName_28 (by decide) ?_
      obtain ⟨q4, hq4, h⟩ := Option.bind_eq_some_iff.mp h
      refine g_callv hW (g_runV (As := [.int ((2 : Int32))]) (rest := []) C0 hW (c_X2_blame h162 h163 hq4) (g_cwOf (n := 1) tc_X2_blame tn_X2 md_X2_blame (by decide) (by omega)) tm_X2_129 ti_X2_blame ts_X2_blame h162 (g_c11 k_162) rfl rfl hl.1 rfl (Nat.le_of_ble_eq_true rfl) dX2_readNewName_29) (fun H locs hW => ?_)
      exact w_X2_readNewName_32 h162 h163 C0 _ _ _ _ h hW (lv_sub hl [0] rfl)
  · replace h := (if_neg hc1).symm.trans h
    refine lv_aload_n C0.hx C0.hb dX2_readNewName_10 rfl (lv_at hl 0 rfl) ?_
    obtain ⟨q5, hq5, h⟩ := Option.bind_eq_some_iff.mp h
    refine g_callv hW (g_runV (As := []) (rest := []) C0 hW (c_X2_refuse h162 h163 hq5) (g_cwOf (n := 0) tc_X2_refuse tn_X2 md_X2_refuse (by decide) (by omega)) tm_X2_108 ti_X2_refuse ts_X2_refuse h162 (g_c11 k_162) rfl rfl hl.1 rfl (Nat.le_of_ble_eq_true rfl) dX2_readNewName_11) (fun H locs hW => ?_)
    obtain rfl := Option.some.inj h
    exact g_vret C0 hW rfl dX2_readNewName_14
set_option maxRecDepth 100000 in
set_option maxHeartbeats 4000000 in
theorem c_X2_expect {l : Launch} {G : GL} {ids : List Nat} {y : MS} {o : Nat → Int32} {x : CS} {p1 : Nat} {q : CS}  (h162 : 162 ∈ ids) (h163 : 163 ∈ ids)  (h : f_X2_expect p1 x = some q) : Met l yX2_expect (.code yX2_expect cX2_expect 2 (Option.none : Option Jvm.ClassFile.FieldType) :: gT) (g_rm 2 0 0) (va_Pc [.ref (g_ad G (162)), .ref (g_sg G (p1))] (g_P G ids (x, y, o))) (g_Qv G ids (q, y, o)) 0 0 (g_A G) := by
  unfold f_X2_expect at h
  refine g_entry (by decide) (Nat.le_of_ble_eq_true rfl) (fun p e s m args below meth c ls C0 hl hW _ => ?_)
  have hl : lv_has ls 2 [(0, .ref (g_ad G (162))), (1, .ref (g_sg G (p1)))] := hl
  refine lv_aload_n C0.hx C0.hb dX2_expect_0 rfl (lv_at hl 0 rfl) ?_
  refine gf_X2_5 C0 hW h162 k_162 tf_X2_25 dX2_expect_1 ?_
  refine lv_aload_n C0.hx C0.hb dX2_expect_4 rfl (lv_at hl 1 rfl) ?_
  refine g_acmp_ne (tgt := 15) C0 dX2_expect_5 (by decide) (fun hc1 => ?_) (fun hc1 => ?_)
  · replace h := (if_neg hc1).symm.trans h
    refine lv_aload_n C0.hx C0.hb dX2_expect_15 rfl (lv_at hl 0 rfl) ?_
    obtain ⟨q2, hq2, h⟩ := Option.bind_eq_some_iff.mp h
    refine g_callv hW (g_runV (As := []) (rest := []) C0 hW (c_X2_refuse h162 h163 hq2) (g_cwOf (n := 0) tc_X2_refuse tn_X2 md_X2_refuse (by decide) (by omega)) tm_X2_108 ti_X2_refuse ts_X2_refuse h162 (g_c11 k_162) rfl rfl hl.1 rfl (Nat.le_of_ble_eq_true rfl) dX2_expect_16) (fun H locs hW => ?_)
    obtain rfl := Option.some.inj h
    exact g_vret C0 hW rfl dX2_expect_19
  · replace h := (if_pos hc1).symm.trans h
    refine lv_aload_n C0.hx C0.hb dX2_expect_8 rfl (lv_at hl 0 rfl) ?_
    obtain ⟨q3, hq3, h⟩ := Option.bind_eq_some_iff.mp h
    refine g_callv hW (g_runV (As := []) (rest := []) C0 hW (c_X2_step h162 h163 hq3) (g_cwOf (n := 0) tc_X2_step tn_X2 md_X2_step (by decide) (by omega)) tm_X2_60 ti_X2_step ts_X2_step h162 (g_c11 k_162) rfl rfl hl.1 rfl (Nat.le_of_ble_eq_true rfl) dX2_expect_9) (fun H locs hW => ?_)
    refine lv_goto (tgt := 19) C0.hx C0.hb dX2_expect_12 (by decide) ?_
    obtain rfl := Option.some.inj h
    exact g_vret C0 hW rfl dX2_expect_19
set_option maxRecDepth 100000 in
set_option maxHeartbeats 4000000 in
theorem w_X2_readNumber_36 {p : Program} {l : Launch} {e : Env} {s : State} {m : MethodId} {args : Array Value} {below : List Frame} {meth : Method} {c : Code} {G : GL} {ids : List Nat} {y : MS} {o : Nat → Int32}  {q : Int32 × CS}  (h162 : 162 ∈ ids) (h163 : 163 ∈ ids) (C0 : g_X G ids p s m args meth c cX2_readNumber 4 RX2 (Option.some Jvm.ClassFile.FieldType.int))  : ∀  (l3 : Int32) (x : CS) (H : Heap) (locs : List Loc) (ls : Array Slot),  f_X2_readNumber_36 l3 x = some q → g_W G ids (x, y, o) s.heap H locs → lv_has ls 4 [(0, .ref (g_ad G (162))), (3, .int (l3))] → W p l e (g_rm 2 0 0) s m args below meth c H locs 0 0 (MQ below (g_Qi G ids q.1 (q.2, y, o)) args s 0 0 (g_A G)) (F0 m 36 ls []) := by
  intro l3 x H locs ls h hW hl
  unfold f_X2_readNumber_36 at h
  refine lv_aload_n C0.hx C0.hb dX2_readNumber_36 rfl (lv_at hl 0 rfl) ?_
  obtain ⟨q6, hq6, h⟩ := Option.bind_eq_some_iff.mp h
  refine g_callv hW (g_runV (As := []) (rest := []) C0 hW (c_X2_step h162 h163 hq6) (g_cwOf (n := 0) tc_X2_step tn_X2 md_X2_step (by decide) (by omega)) tm_X2_60 ti_X2_step ts_X2_step h162 (g_c11 k_162) rfl rfl hl.1 rfl (Nat.le_of_ble_eq_true rfl) dX2_readNumber_37) (fun H locs hW => ?_)
  refine lv_iload_n C0.hx C0.hb dX2_readNumber_40 rfl (lv_at hl 1 rfl) ?_
  obtain rfl := Option.some.inj h
  exact g_iret C0 hW rfl rfl rfl dX2_readNumber_41
set_option maxRecDepth 100000 in
set_option maxHeartbeats 4000000 in
theorem w_X2_readNumber_31 {p : Program} {l : Launch} {e : Env} {s : State} {m : MethodId} {args : Array Value} {below : List Frame} {meth : Method} {c : Code} {G : GL} {ids : List Nat} {y : MS} {o : Nat → Int32}  {q : Int32 × CS}  (h162 : 162 ∈ ids) (h163 : 163 ∈ ids) (C0 : g_X G ids p s m args meth c cX2_readNumber 4 RX2 (Option.some Jvm.ClassFile.FieldType.int))  : ∀  (l3 : Int32) (x : CS) (H : Heap) (locs : List Loc) (ls : Array Slot),  f_X2_readNumber_31 l3 x = some q → g_W G ids (x, y, o) s.heap H locs → lv_has ls 4 [(0, .ref (g_ad G (162))), (3, .int (l3))] → W p l e (g_rm 2 0 0) s m args below meth c H locs 0 0 (MQ below (g_Qi G ids q.1 (q.2, y, o)) args s 0 0 (g_A G)) (F0 m 31 ls []) := by
  intro l3 x H locs ls h hW hl
  unfold f_X2_readNumber_31 at h
  refine lv_aload_n C0.hx C0.hb dX2_readNumber_31 rfl (lv_at hl 0 rfl) ?_
  refine lv_iconst (v := (5 : Int32)) C0.hx C0.hb dX2_readNumber_32 (by decide) ?_
  obtain ⟨q5, hq5, h⟩ := Option.bind_eq_some_iff.mp h
  refine g_callv hW (g_runV (As := [.int ((5 : Int32))]) (rest := []) C0 hW (c_X2_blame h162 h163 hq5) (g_cwOf (n := 1) tc_X2_blame tn_X2 md_X2_blame (by decide) (by omega)) tm_X2_129 ti_X2_blame ts_X2_blame h162 (g_c11 k_162) rfl rfl hl.1 rfl (Nat.le_of_ble_eq_true rfl) dX2_readNumber_33) (fun H locs hW => ?_)
  exact w_X2_readNumber_36 h162 h163 C0 _ _ _ _ _ h hW (lv_sub hl [0, 1] rfl)
set_option maxRecDepth 100000 in
set_option maxHeartbeats 4000000 in
theorem c_X2_readNumber {l : Launch} {G : GL} {ids : List Nat} {y : MS} {o : Nat → Int32} {x : CS} {p1 : Int32} {p2 : Int32} {q : Int32 × CS}  (h162 : 162 ∈ ids) (h163 : 163 ∈ ids)  (h : f_X2_readNumber p1 p2 x = some q) : Met l yX2_readNumber (.code yX2_readNumber cX2_readNumber 4 (Option.some Jvm.ClassFile.FieldType.int) :: gT) (g_rm 2 0 0) (va_Pc [.ref (g_ad G (162)), .int (p1), .int (p2)] (g_P G ids (x, y, o))) (g_Qi G ids q.1 (q.2, y, o)) 0 0 (g_A G) := by
  unfold f_X2_readNumber at h
  refine g_entry (by decide) (Nat.le_of_ble_eq_true rfl) (fun p e s m args below meth c ls C0 hl hW _ => ?_)
  have hl : lv_has ls 4 [(0, .ref (g_ad G (162))), (1, .int (p1)), (2, .int (p2))] := hl
  refine lv_aload_n C0.hx C0.hb dX2_readNumber_0 rfl (lv_at hl 0 rfl) ?_
  refine gf_X2_5 C0 hW h162 k_162 tf_X2_25 dX2_readNumber_1 ?_
  refine g_sign C0 hW 42 (by decide) tf_X2_178 dX2_readNumber_4 ?_
  refine g_acmp_eq (tgt := 16) C0 dX2_readNumber_7 (by decide) (fun hc1 => ?_) (fun hc1 => ?_)
  · replace h := (if_pos hc1).symm.trans h
    refine lv_aload_n C0.hx C0.hb dX2_readNumber_16 rfl (lv_at hl 0 rfl) ?_
    refine gf_X2_7 C0 hW h162 k_162 tf_X2_31 dX2_readNumber_17 ?_
    refine lv_istore_n (lv' := [(3, .int (x.1 162 7)), (0, .ref (g_ad G (162))), (1, .int (p1)), (2, .int (p2))]) C0.hx C0.hb dX2_readNumber_20 rfl hl (by decide) rfl (fun ls hl => ?_)
    refine lv_iload_n C0.hx C0.hb dX2_readNumber_21 rfl (lv_at hl 0 rfl) ?_
    refine lv_iload_n C0.hx C0.hb dX2_readNumber_22 rfl (lv_at hl 2 rfl) ?_
    refine lv_icmp_lt (tgt := 31) C0.hx C0.hb dX2_readNumber_23 (by decide) (fun hc2 => ?_) (fun hc2 => ?_)
    · replace h := (if_pos hc2).symm.trans h
      exact w_X2_readNumber_31 h162 h163 C0 _ _ _ _ _ h hW (lv_sub hl [1, 0] rfl)
    · replace h := (if_neg hc2).symm.trans h
      refine lv_iload_n C0.hx C0.hb dX2_readNumber_26 rfl (lv_at hl 0 rfl) ?_
      refine lv_iload_n C0.hx C0.hb dX2_readNumber_27 rfl (lv_at hl 3 rfl) ?_
      refine lv_icmp_le (tgt := 36) C0.hx C0.hb dX2_readNumber_28 (by decide) (fun hc3 => ?_) (fun hc3 => ?_)
      · replace h := (if_pos hc3).symm.trans h
        exact w_X2_readNumber_36 h162 h163 C0 _ _ _ _ _ h hW (lv_sub hl [1, 0] rfl)
      · replace h := (if_neg hc3).symm.trans h
        exact w_X2_readNumber_31 h162 h163 C0 _ _ _ _ _ h hW (lv_sub hl [1, 0] rfl)
  · replace h := (if_neg hc1).symm.trans h
    refine lv_aload_n C0.hx C0.hb dX2_readNumber_10 rfl (lv_at hl 0 rfl) ?_
    obtain ⟨q4, hq4, h⟩ := Option.bind_eq_some_iff.mp h
    refine g_callv hW (g_runV (As := []) (rest := []) C0 hW (c_X2_refuse h162 h163 hq4) (g_cwOf (n := 0) tc_X2_refuse tn_X2 md_X2_refuse (by decide) (by omega)) tm_X2_108 ti_X2_refuse ts_X2_refuse h162 (g_c11 k_162) rfl rfl hl.1 rfl (Nat.le_of_ble_eq_true rfl) dX2_readNumber_11) (fun H locs hW => ?_)
    refine lv_iconst (v := (0 : Int32)) C0.hx C0.hb dX2_readNumber_14 (by decide) ?_
    obtain rfl := Option.some.inj h
    exact g_iret C0 hW rfl rfl rfl dX2_readNumber_15
set_option maxRecDepth 100000 in
set_option maxHeartbeats 4000000 in
theorem w_X2_readPart_98 {p : Program} {l : Launch} {e : Env} {s : State} {m : MethodId} {args : Array Value} {below : List Frame} {meth : Method} {c : Code} {G : GL} {ids : List Nat} {y : MS} {o : Nat → Int32}  {q : CS}  (h162 : 162 ∈ ids) (h163 : 163 ∈ ids) (C0 : g_X G ids p s m args meth c cX2_readPart 4 RX2 (Option.none : Option Jvm.ClassFile.FieldType))  : ∀  (l1 : Nat) (l2 : Int32) (l3 : Int32) (x : CS) (H : Heap) (locs : List Loc) (ls : Array Slot), kd l1 = 5 → f_X2_readPart_98 l1 l2 l3 x = some q → g_W G ids (x, y, o) s.heap H locs → lv_has ls 4 [(0, .ref (g_ad G (162))), (1, .ref (g_ad G (l1))), (2, .int (l2)), (3, .int (l3))] → W p l e (g_rm 3 0 0) s m args below meth c H locs 0 0 (MQ below (g_Qv G ids (q, y, o)) args s 0 0 (g_A G)) (F0 m 98 ls []) := by
  intro l1 l2 l3 x H locs ls hk_l1 h hW hl
  unfold f_X2_readPart_98 at h
  refine lv_aload_n C0.hx C0.hb dX2_readPart_98 rfl (lv_at hl 0 rfl) ?_
  refine g_sign C0 hW 3 (by decide) tf_X2_161 dX2_readPart_99 ?_
  obtain ⟨q13, hq13, h⟩ := Option.bind_eq_some_iff.mp h
  refine g_callv hW (g_runV (As := [.ref (g_sg G (3))]) (rest := []) C0 hW (c_X2_expect h162 h163 hq13) (g_cwOf (n := 1) tc_X2_expect tn_X2 md_X2_expect (by decide) (by omega)) tm_X2_94 ti_X2_expect ts_X2_expect h162 (g_c11 k_162) rfl rfl hl.1 rfl (Nat.le_of_ble_eq_true rfl) dX2_readPart_102) (fun H locs hW => ?_)
  refine lv_aload_n C0.hx C0.hb dX2_readPart_105 rfl (lv_at hl 1 rfl) ?_
  refine lv_iload_n C0.hx C0.hb dX2_readPart_106 rfl (lv_at hl 2 rfl) ?_
  refine lv_iload_n C0.hx C0.hb dX2_readPart_107 rfl (lv_at hl 3 rfl) ?_
  refine lv_aload_n C0.hx C0.hb dX2_readPart_108 rfl (lv_at hl 0 rfl) ?_
  refine lv_iconst (v := (1 : Int32)) C0.hx C0.hb dX2_readPart_109 (by decide) ?_
  refine lv_bipush (v := (9 : Int32)) C0.hx C0.hb dX2_readPart_110 (by decide) ?_
  refine lv_bipush (v := (24 : Int32)) C0.hx C0.hb dX2_readPart_112 (by decide) ?_
  refine lv_aload_n C0.hx C0.hb dX2_readPart_114 rfl (lv_at hl 1 rfl) ?_
  refine gfN_X3_1 C0 hW (C0.mem (kl5 hk_l1)) hk_l1 tfN_X2_164 dX2_readPart_115 ?_
  refine lv_isub C0.hx C0.hb dX2_readPart_118 ?_
  refine g_minR C0 hl.1 (Nat.le_of_ble_eq_true rfl) (by omega) tm_X2_169 (by decide) (by decide) dX2_readPart_119 ?_
  obtain ⟨q14, hq14, h⟩ := Option.bind_eq_some_iff.mp h
  refine g_calli hW (g_runV (As := [.int ((1 : Int32)), .int (g_min (9 : Int32) ((24 : Int32) - (q13.1 l1 1)))]) (rest := [.int (l3), .int (l2), .ref (g_ad G (l1))]) C0 hW (c_X2_readNumber h162 h163 hq14) (g_cwOf (n := 2) tc_X2_readNumber tn_X2 md_X2_readNumber (by decide) (by omega)) tm_X2_75 ti_X2_readNumber ts_X2_readNumber h162 (g_c11 k_162) rfl rfl hl.1 rfl (Nat.le_of_ble_eq_true rfl) dX2_readPart_122) (fun H locs hW => ?_)
  obtain ⟨q15, hq15, h⟩ := Option.bind_eq_some_iff.mp h
  refine g_callv hW (g_runV (As := [.int (l2), .int (l3), .int (q14.1)]) (rest := []) C0 hW (c_X3_addGlide hk_l1 hq15) (g_cwOf (n := 3) tc_X3_addGlide tn_X3 md_X3_addGlide (by decide) (by omega)) tm_X2_174 ti_X3_addGlide ts_X3_addGlide (C0.mem (kl5 hk_l1)) (g_c5 hk_l1) rfl rfl hl.1 rfl (Nat.le_of_ble_eq_true rfl) dX2_readPart_125) (fun H locs hW => ?_)
  obtain rfl := Option.some.inj h
  exact g_vret C0 hW rfl dX2_readPart_128
set_option maxRecDepth 100000 in
set_option maxHeartbeats 4000000 in
theorem c_X2_readPart {l : Launch} {G : GL} {ids : List Nat} {y : MS} {o : Nat → Int32} {x : CS}  {q : CS}  (h162 : 162 ∈ ids) (h163 : 163 ∈ ids)  (h : f_X2_readPart x = some q) : Met l yX2_readPart (.code yX2_readPart cX2_readPart 4 (Option.none : Option Jvm.ClassFile.FieldType) :: gT) (g_rm 3 0 0) (va_Pc [.ref (g_ad G (162))] (g_P G ids (x, y, o))) (g_Qv G ids (q, y, o)) 0 0 (g_A G) := by
  unfold f_X2_readPart at h
  refine g_entry (by decide) (Nat.le_of_ble_eq_true rfl) (fun p e s m args below meth c ls C0 hl hW _ => ?_)
  have hl : lv_has ls 4 [(0, .ref (g_ad G (162)))] := hl
  refine lv_aload_n C0.hx C0.hb dX2_readPart_0 rfl (lv_at hl 0 rfl) ?_
  obtain ⟨hk1, h⟩ := g_if h
  refine gf_X2_2 C0 hW h162 k_162 tf_X2_48 dX2_readPart_1 ?_
  refine lv_aload_n C0.hx C0.hb dX2_readPart_4 rfl (lv_at hl 0 rfl) ?_
  refine gf_X2_2 C0 hW h162 k_162 tf_X2_48 dX2_readPart_5 ?_
  refine gfN_X9_2 C0 hW (C0.mem (kl9 hk1)) hk1 tfN_X2_133 dX2_readPart_8 ?_
  refine lv_iconst (v := (1 : Int32)) C0.hx C0.hb dX2_readPart_11 (by decide) ?_
  refine lv_isub C0.hx C0.hb dX2_readPart_12 ?_
  obtain ⟨q2, hq2, h⟩ := Option.bind_eq_some_iff.mp h
  obtain ⟨hk3, h⟩ := g_if h
  refine g_callr hW (g_runV (As := [.int ((x.1 (x.2 162 2) 2) - (1 : Int32))]) (rest := []) C0 hW (c_X9_word hk1 hq2) (g_cwOf (n := 1) tc_X9_word tn_X9 md_X9_word (by decide) (by omega)) tm_X2_139 ti_X9_word ts_X9_word (C0.mem (kl9 hk1)) (g_c9 hk1) rfl rfl hl.1 rfl (Nat.le_of_ble_eq_true rfl) dX2_readPart_13) (fun H locs hW => ?_)
  refine gfN_X11_0 C0 hW (C0.mem (kl10 hk3)) hk3 tfN_X2_143 dX2_readPart_16 ?_
  refine lv_astore_n (lv' := [(1, .ref (g_ad G (q2 + 1))), (0, .ref (g_ad G (162)))]) C0.hx C0.hb dX2_readPart_19 rfl hl (by decide) rfl (fun ls hl => ?_)
  refine lv_iconst (v := (0 : Int32)) C0.hx C0.hb dX2_readPart_20 (by decide) ?_
  refine lv_istore_n (lv' := [(2, .int ((0 : Int32))), (1, .ref (g_ad G (q2 + 1))), (0, .ref (g_ad G (162)))]) C0.hx C0.hb dX2_readPart_21 rfl hl (by decide) rfl (fun ls hl => ?_)
  refine lv_iconst (v := (0 : Int32)) C0.hx C0.hb dX2_readPart_22 (by decide) ?_
  refine lv_istore_n (lv' := [(3, .int ((0 : Int32))), (2, .int ((0 : Int32))), (1, .ref (g_ad G (q2 + 1))), (0, .ref (g_ad G (162)))]) C0.hx C0.hb dX2_readPart_23 rfl hl (by decide) rfl (fun ls hl => ?_)
  refine lv_aload_n C0.hx C0.hb dX2_readPart_24 rfl (lv_at hl 3 rfl) ?_
  refine gf_X2_5 C0 hW h162 k_162 tf_X2_25 dX2_readPart_25 ?_
  refine g_sign C0 hW 2 (by decide) tf_X2_149 dX2_readPart_28 ?_
  refine g_acmp_ne (tgt := 51) C0 dX2_readPart_31 (by decide) (fun hc4 => ?_) (fun hc4 => ?_)
  · replace h := (if_neg hc4).symm.trans h
    refine lv_aload_n C0.hx C0.hb dX2_readPart_51 rfl (lv_at hl 3 rfl) ?_
    refine gf_X2_5 C0 hW h162 k_162 tf_X2_25 dX2_readPart_52 ?_
    refine g_sign C0 hW 4 (by decide) tf_X2_152 dX2_readPart_55 ?_
    refine g_acmp_ne (tgt := 91) C0 dX2_readPart_58 (by decide) (fun hc5 => ?_) (fun hc5 => ?_)
    · replace h := (if_neg hc5).symm.trans h
      refine lv_aload_n C0.hx C0.hb dX2_readPart_91 rfl (lv_at hl 3 rfl) ?_
      refine g_sign C0 hW 6 (by decide) tf_X2_158 dX2_readPart_92 ?_
      obtain ⟨q6, hq6, h⟩ := Option.bind_eq_some_iff.mp h
      refine g_callv hW (g_runV (As := [.ref (g_sg G (6))]) (rest := []) C0 hW (c_X2_expect h162 h163 hq6) (g_cwOf (n := 1) tc_X2_expect tn_X2 md_X2_expect (by decide) (by omega)) tm_X2_94 ti_X2_expect ts_X2_expect h162 (g_c11 k_162) rfl rfl hl.1 rfl (Nat.le_of_ble_eq_true rfl) dX2_readPart_95) (fun H locs hW => ?_)
      exact w_X2_readPart_98 h162 h163 C0 _ _ _ _ _ _ _ (ko10_0 hk3) h hW (lv_sub hl [3, 2, 1, 0] rfl)
    · replace h := (if_pos hc5).symm.trans h
      refine lv_aload_n C0.hx C0.hb dX2_readPart_61 rfl (lv_at hl 3 rfl) ?_
      obtain ⟨q7, hq7, h⟩ := Option.bind_eq_some_iff.mp h
      refine g_callv hW (g_runV (As := []) (rest := []) C0 hW (c_X2_step h162 h163 hq7) (g_cwOf (n := 0) tc_X2_step tn_X2 md_X2_step (by decide) (by omega)) tm_X2_60 ti_X2_step ts_X2_step h162 (g_c11 k_162) rfl rfl hl.1 rfl (Nat.le_of_ble_eq_true rfl) dX2_readPart_62) (fun H locs hW => ?_)
      refine lv_aload_n C0.hx C0.hb dX2_readPart_65 rfl (lv_at hl 3 rfl) ?_
      refine lv_iconst (v := (1 : Int32)) C0.hx C0.hb dX2_readPart_66 (by decide) ?_
      refine lv_bipush (v := (40 : Int32)) C0.hx C0.hb dX2_readPart_67 (by decide) ?_
      obtain ⟨q8, hq8, h⟩ := Option.bind_eq_some_iff.mp h
      refine g_calli hW (g_runV (As := [.int ((1 : Int32)), .int ((40 : Int32))]) (rest := []) C0 hW (c_X2_readNumber h162 h163 hq8) (g_cwOf (n := 2) tc_X2_readNumber tn_X2 md_X2_readNumber (by decide) (by omega)) tm_X2_75 ti_X2_readNumber ts_X2_readNumber h162 (g_c11 k_162) rfl rfl hl.1 rfl (Nat.le_of_ble_eq_true rfl) dX2_readPart_69) (fun H locs hW => ?_)
      refine lv_istore_n (lv' := [(2, .int (q8.1)), (3, .int ((0 : Int32))), (1, .ref (g_ad G (q2 + 1))), (0, .ref (g_ad G (162)))]) C0.hx C0.hb dX2_readPart_72 rfl hl (by decide) rfl (fun ls hl => ?_)
      refine lv_aload_n C0.hx C0.hb dX2_readPart_73 rfl (lv_at hl 3 rfl) ?_
      refine g_sign C0 hW 5 (by decide) tf_X2_155 dX2_readPart_74 ?_
      obtain ⟨q9, hq9, h⟩ := Option.bind_eq_some_iff.mp h
      refine g_callv hW (g_runV (As := [.ref (g_sg G (5))]) (rest := []) C0 hW (c_X2_expect h162 h163 hq9) (g_cwOf (n := 1) tc_X2_expect tn_X2 md_X2_expect (by decide) (by omega)) tm_X2_94 ti_X2_expect ts_X2_expect h162 (g_c11 k_162) rfl rfl hl.1 rfl (Nat.le_of_ble_eq_true rfl) dX2_readPart_77) (fun H locs hW => ?_)
      refine lv_aload_n C0.hx C0.hb dX2_readPart_80 rfl (lv_at hl 3 rfl) ?_
      refine lv_iconst (v := (1 : Int32)) C0.hx C0.hb dX2_readPart_81 (by decide) ?_
      refine lv_bipush (v := (40 : Int32)) C0.hx C0.hb dX2_readPart_82 (by decide) ?_
      obtain ⟨q10, hq10, h⟩ := Option.bind_eq_some_iff.mp h
      refine g_calli hW (g_runV (As := [.int ((1 : Int32)), .int ((40 : Int32))]) (rest := []) C0 hW (c_X2_readNumber h162 h163 hq10) (g_cwOf (n := 2) tc_X2_readNumber tn_X2 md_X2_readNumber (by decide) (by omega)) tm_X2_75 ti_X2_readNumber ts_X2_readNumber h162 (g_c11 k_162) rfl rfl hl.1 rfl (Nat.le_of_ble_eq_true rfl) dX2_readPart_84) (fun H locs hW => ?_)
      refine lv_istore_n (lv' := [(3, .int (q10.1)), (2, .int (q8.1)), (1, .ref (g_ad G (q2 + 1))), (0, .ref (g_ad G (162)))]) C0.hx C0.hb dX2_readPart_87 rfl hl (by decide) rfl (fun ls hl => ?_)
      refine lv_goto (tgt := 98) C0.hx C0.hb dX2_readPart_88 (by decide) ?_
      exact w_X2_readPart_98 h162 h163 C0 _ _ _ _ _ _ _ (ko10_0 hk3) h hW (lv_sub hl [3, 2, 1, 0] rfl)
  · replace h := (if_pos hc4).symm.trans h
    refine lv_aload_n C0.hx C0.hb dX2_readPart_34 rfl (lv_at hl 3 rfl) ?_
    obtain ⟨q11, hq11, h⟩ := Option.bind_eq_some_iff.mp h
    refine g_callv hW (g_runV (As := []) (rest := []) C0 hW (c_X2_step h162 h163 hq11) (g_cwOf (n := 0) tc_X2_step tn_X2 md_X2_step (by decide) (by omega)) tm_X2_60 ti_X2_step ts_X2_step h162 (g_c11 k_162) rfl rfl hl.1 rfl (Nat.le_of_ble_eq_true rfl) dX2_readPart_35) (fun H locs hW => ?_)
    refine lv_aload_n C0.hx C0.hb dX2_readPart_38 rfl (lv_at hl 3 rfl) ?_
    refine lv_iconst (v := (1 : Int32)) C0.hx C0.hb dX2_readPart_39 (by decide) ?_
    refine lv_bipush (v := (40 : Int32)) C0.hx C0.hb dX2_readPart_40 (by decide) ?_
    obtain ⟨q12, hq12, h⟩ := Option.bind_eq_some_iff.mp h
    refine g_calli hW (g_runV (As := [.int ((1 : Int32)), .int ((40 : Int32))]) (rest := []) C0 hW (c_X2_readNumber h162 h163 hq12) (g_cwOf (n := 2) tc_X2_readNumber tn_X2 md_X2_readNumber (by decide) (by omega)) tm_X2_75 ti_X2_readNumber ts_X2_readNumber h162 (g_c11 k_162) rfl rfl hl.1 rfl (Nat.le_of_ble_eq_true rfl) dX2_readPart_42) (fun H locs hW => ?_)
    refine lv_istore_n (lv' := [(2, .int (q12.1)), (3, .int ((0 : Int32))), (1, .ref (g_ad G (q2 + 1))), (0, .ref (g_ad G (162)))]) C0.hx C0.hb dX2_readPart_45 rfl hl (by decide) rfl (fun ls hl => ?_)
    refine lv_iload_n C0.hx C0.hb dX2_readPart_46 rfl (lv_at hl 0 rfl) ?_
    refine lv_istore_n (lv' := [(3, .int (q12.1)), (2, .int (q12.1)), (1, .ref (g_ad G (q2 + 1))), (0, .ref (g_ad G (162)))]) C0.hx C0.hb dX2_readPart_47 rfl hl (by decide) rfl (fun ls hl => ?_)
    refine lv_goto (tgt := 98) C0.hx C0.hb dX2_readPart_48 (by decide) ?_
    exact w_X2_readPart_98 h162 h163 C0 _ _ _ _ _ _ _ (ko10_0 hk3) h hW (lv_sub hl [3, 2, 1, 0] rfl)
set_option maxRecDepth 100000 in
set_option maxHeartbeats 4000000 in
theorem w_X2_readWord_21 {p : Program} {l : Launch} {e : Env} {s : State} {m : MethodId} {args : Array Value} {below : List Frame} {meth : Method} {c : Code} {G : GL} {ids : List Nat} {y : MS} {o : Nat → Int32}  {q : CS}  (h162 : 162 ∈ ids) (h163 : 163 ∈ ids) (C0 : g_X G ids p s m args meth c cX2_readWord 2 RX2 (Option.none : Option Jvm.ClassFile.FieldType))  : ∀ (n : Nat) (l1 : Int32) (x : CS) (H : Heap) (locs : List Loc) (ls : Array Slot),  f_X2_readWord_21 n l1 x = some q → g_W G ids (x, y, o) s.heap H locs → lv_has ls 2 [(0, .ref (g_ad G (162))), (1, .int (l1))] → W p l e (g_rm 4 0 0) s m args below meth c H locs 0 0 (MQ below (g_Qv G ids (q, y, o)) args s 0 0 (g_A G)) (F0 m 21 ls []) := by
  intro n
  induction n with
  | zero =>
    intro l1 x H locs ls h hW hl
    exact absurd h (by simp [f_X2_readWord_21])
  | succ n ih =>
    intro l1 x H locs ls h hW hl
    unfold f_X2_readWord_21 at h
    refine lv_iload_n C0.hx C0.hb dX2_readWord_21 rfl (lv_at hl 1 rfl) ?_
    refine lv_sipush (v := (400 : Int32)) C0.hx C0.hb dX2_readWord_22 (by decide) ?_
    refine lv_icmp_ge (tgt := 52) C0.hx C0.hb dX2_readWord_25 (by decide) (fun hc5 => ?_) (fun hc5 => ?_)
    · replace h := (if_pos hc5).symm.trans h
      obtain rfl := Option.some.inj h
      exact g_vret C0 hW rfl dX2_readWord_52
    · replace h := (if_neg hc5).symm.trans h
      refine lv_aload_n C0.hx C0.hb dX2_readWord_28 rfl (lv_at hl 0 rfl) ?_
      refine gf_X2_5 C0 hW h162 k_162 tf_X2_25 dX2_readWord_29 ?_
      refine g_sign C0 hW 31 (by decide) tf_X2_120 dX2_readWord_32 ?_
      refine g_acmp_ne (tgt := 52) C0 dX2_readWord_35 (by decide) (fun hc6 => ?_) (fun hc6 => ?_)
      · replace h := (if_neg hc6).symm.trans h
        obtain rfl := Option.some.inj h
        exact g_vret C0 hW rfl dX2_readWord_52
      · replace h := (if_pos hc6).symm.trans h
        refine lv_aload_n C0.hx C0.hb dX2_readWord_38 rfl (lv_at hl 0 rfl) ?_
        obtain ⟨q7, hq7, h⟩ := Option.bind_eq_some_iff.mp h
        refine g_callv hW (g_runV (As := []) (rest := []) C0 hW (c_X2_step h162 h163 hq7) (g_cwOf (n := 0) tc_X2_step tn_X2 md_X2_step (by decide) (by omega)) tm_X2_60 ti_X2_step ts_X2_step h162 (g_c11 k_162) rfl rfl hl.1 rfl (Nat.le_of_ble_eq_true rfl) dX2_readWord_39) (fun H locs hW => ?_)
        refine lv_aload_n C0.hx C0.hb dX2_readWord_42 rfl (lv_at hl 0 rfl) ?_
        obtain ⟨q8, hq8, h⟩ := Option.bind_eq_some_iff.mp h
        refine g_callv hW (g_runV (As := []) (rest := []) C0 hW (c_X2_readPart h162 h163 hq8) (g_cwOf (n := 0) tc_X2_readPart tn_X2 md_X2_readPart (by decide) (by omega)) tm_X2_117 ti_X2_readPart ts_X2_readPart h162 (g_c11 k_162) rfl rfl hl.1 rfl (Nat.le_of_ble_eq_true rfl) dX2_readWord_43) (fun H locs hW => ?_)
        refine lv_iinc (v := l1 + (1 : Int32)) (lv' := [(1, .int (l1 + (1 : Int32))), (0, .ref (g_ad G (162)))]) C0.hx C0.hb dX2_readWord_46 hl (k := 1) rfl rfl (by decide) rfl (fun ls hl => ?_)
        refine lv_goto (tgt := 21) C0.hx C0.hb dX2_readWord_49 (by decide) ?_
        exact ih _ _ _ _ _ h hW (lv_sub hl [1, 0] rfl)
set_option maxRecDepth 100000 in
set_option maxHeartbeats 4000000 in
theorem c_X2_readWord {l : Launch} {G : GL} {ids : List Nat} {y : MS} {o : Nat → Int32} {x : CS}  {q : CS}  (h162 : 162 ∈ ids) (h163 : 163 ∈ ids)  (h : f_X2_readWord x = some q) : Met l yX2_readWord (.code yX2_readWord cX2_readWord 2 (Option.none : Option Jvm.ClassFile.FieldType) :: gT) (g_rm 4 0 0) (va_Pc [.ref (g_ad G (162))] (g_P G ids (x, y, o))) (g_Qv G ids (q, y, o)) 0 0 (g_A G) := by
  unfold f_X2_readWord at h
  refine g_entry (by decide) (Nat.le_of_ble_eq_true rfl) (fun p e s m args below meth c ls C0 hl hW _ => ?_)
  have hl : lv_has ls 2 [(0, .ref (g_ad G (162)))] := hl
  refine lv_aload_n C0.hx C0.hb dX2_readWord_0 rfl (lv_at hl 0 rfl) ?_
  obtain ⟨q1, hq1, h⟩ := Option.bind_eq_some_iff.mp h
  refine g_callv hW (g_runV (As := []) (rest := []) C0 hW (c_X2_step h162 h163 hq1) (g_cwOf (n := 0) tc_X2_step tn_X2 md_X2_step (by decide) (by omega)) tm_X2_60 ti_X2_step ts_X2_step h162 (g_c11 k_162) rfl rfl hl.1 rfl (Nat.le_of_ble_eq_true rfl) dX2_readWord_1) (fun H locs hW => ?_)
  refine lv_aload_n C0.hx C0.hb dX2_readWord_4 rfl (lv_at hl 0 rfl) ?_
  obtain ⟨q2, hq2, h⟩ := Option.bind_eq_some_iff.mp h
  refine g_callv hW (g_runV (As := []) (rest := []) C0 hW (c_X2_readNewName h162 h163 hq2) (g_cwOf (n := 0) tc_X2_readNewName tn_X2 md_X2_readNewName (by decide) (by omega)) tm_X2_111 ti_X2_readNewName ts_X2_readNewName h162 (g_c11 k_162) rfl rfl hl.1 rfl (Nat.le_of_ble_eq_true rfl) dX2_readWord_5) (fun H locs hW => ?_)
  refine lv_aload_n C0.hx C0.hb dX2_readWord_8 rfl (lv_at hl 0 rfl) ?_
  refine g_sign C0 hW 1 (by decide) tf_X2_114 dX2_readWord_9 ?_
  obtain ⟨q3, hq3, h⟩ := Option.bind_eq_some_iff.mp h
  refine g_callv hW (g_runV (As := [.ref (g_sg G (1))]) (rest := []) C0 hW (c_X2_expect h162 h163 hq3) (g_cwOf (n := 1) tc_X2_expect tn_X2 md_X2_expect (by decide) (by omega)) tm_X2_94 ti_X2_expect ts_X2_expect h162 (g_c11 k_162) rfl rfl hl.1 rfl (Nat.le_of_ble_eq_true rfl) dX2_readWord_12) (fun H locs hW => ?_)
  refine lv_aload_n C0.hx C0.hb dX2_readWord_15 rfl (lv_at hl 0 rfl) ?_
  obtain ⟨q4, hq4, h⟩ := Option.bind_eq_some_iff.mp h
  refine g_callv hW (g_runV (As := []) (rest := []) C0 hW (c_X2_readPart h162 h163 hq4) (g_cwOf (n := 0) tc_X2_readPart tn_X2 md_X2_readPart (by decide) (by omega)) tm_X2_117 ti_X2_readPart ts_X2_readPart h162 (g_c11 k_162) rfl rfl hl.1 rfl (Nat.le_of_ble_eq_true rfl) dX2_readWord_16) (fun H locs hW => ?_)
  refine lv_iconst (v := (0 : Int32)) C0.hx C0.hb dX2_readWord_19 (by decide) ?_
  refine lv_istore_n (lv' := [(1, .int ((0 : Int32))), (0, .ref (g_ad G (162)))]) C0.hx C0.hb dX2_readWord_20 rfl hl (by decide) rfl (fun ls hl => ?_)
  exact w_X2_readWord_21 h162 h163 C0 g_fuel _ _ _ _ _ h hW (lv_sub hl [1, 0] rfl)
set_option maxRecDepth 100000 in
set_option maxHeartbeats 4000000 in
theorem w_X2_readKnownName_35 {p : Program} {l : Launch} {e : Env} {s : State} {m : MethodId} {args : Array Value} {below : List Frame} {meth : Method} {c : Code} {G : GL} {ids : List Nat} {y : MS} {o : Nat → Int32}  {q : Int32 × CS}  (h162 : 162 ∈ ids) (h163 : 163 ∈ ids) (C0 : g_X G ids p s m args meth c cX2_readKnownName 2 RX2 (Option.some Jvm.ClassFile.FieldType.int))  : ∀  (l1 : Int32) (x : CS) (H : Heap) (locs : List Loc) (ls : Array Slot),  f_X2_readKnownName_35 l1 x = some q → g_W G ids (x, y, o) s.heap H locs → lv_has ls 2 [(0, .ref (g_ad G (162))), (1, .int (l1))] → W p l e (g_rm 2 0 0) s m args below meth c H locs 0 0 (MQ below (g_Qi G ids q.1 (q.2, y, o)) args s 0 0 (g_A G)) (F0 m 35 ls []) := by
  intro l1 x H locs ls h hW hl
  unfold f_X2_readKnownName_35 at h
  refine lv_aload_n C0.hx C0.hb dX2_readKnownName_35 rfl (lv_at hl 0 rfl) ?_
  obtain ⟨q6, hq6, h⟩ := Option.bind_eq_some_iff.mp h
  refine g_callv hW (g_runV (As := []) (rest := []) C0 hW (c_X2_step h162 h163 hq6) (g_cwOf (n := 0) tc_X2_step tn_X2 md_X2_step (by decide) (by omega)) tm_X2_60 ti_X2_step ts_X2_step h162 (g_c11 k_162) rfl rfl hl.1 rfl (Nat.le_of_ble_eq_true rfl) dX2_readKnownName_36) (fun H locs hW => ?_)
  refine lv_iload_n C0.hx C0.hb dX2_readKnownName_39 rfl (lv_at hl 1 rfl) ?_
  obtain rfl := Option.some.inj h
  exact g_iret C0 hW rfl rfl rfl dX2_readKnownName_40
set_option maxRecDepth 100000 in
set_option maxHeartbeats 4000000 in
theorem c_X2_readKnownName {l : Launch} {G : GL} {ids : List Nat} {y : MS} {o : Nat → Int32} {x : CS}  {q : Int32 × CS}  (h162 : 162 ∈ ids) (h163 : 163 ∈ ids)  (h : f_X2_readKnownName x = some q) : Met l yX2_readKnownName (.code yX2_readKnownName cX2_readKnownName 2 (Option.some Jvm.ClassFile.FieldType.int) :: gT) (g_rm 2 0 0) (va_Pc [.ref (g_ad G (162))] (g_P G ids (x, y, o))) (g_Qi G ids q.1 (q.2, y, o)) 0 0 (g_A G) := by
  unfold f_X2_readKnownName at h
  refine g_entry (by decide) (Nat.le_of_ble_eq_true rfl) (fun p e s m args below meth c ls C0 hl hW _ => ?_)
  have hl : lv_has ls 2 [(0, .ref (g_ad G (162)))] := hl
  refine lv_aload_n C0.hx C0.hb dX2_readKnownName_0 rfl (lv_at hl 0 rfl) ?_
  refine gf_X2_5 C0 hW h162 k_162 tf_X2_25 dX2_readKnownName_1 ?_
  refine g_sign C0 hW 41 (by decide) tf_X2_123 dX2_readKnownName_4 ?_
  refine g_acmp_eq (tgt := 16) C0 dX2_readKnownName_7 (by decide) (fun hc1 => ?_) (fun hc1 => ?_)
  · replace h := (if_pos hc1).symm.trans h
    refine lv_aload_n C0.hx C0.hb dX2_readKnownName_16 rfl (lv_at hl 0 rfl) ?_
    refine lv_aload_n C0.hx C0.hb dX2_readKnownName_17 rfl (lv_at hl 0 rfl) ?_
    refine gf_X2_7 C0 hW h162 k_162 tf_X2_31 dX2_readKnownName_18 ?_
    obtain ⟨q2, hq2, h⟩ := Option.bind_eq_some_iff.mp h
    refine g_calli hW (g_runV (As := [.int (x.1 162 7)]) (rest := []) C0 hW (c_X2_wordCalled h162 h163 hq2) (g_cwOf (n := 1) tc_X2_wordCalled tn_X2 md_X2_wordCalled (by decide) (by omega)) tm_X2_126 ti_X2_wordCalled ts_X2_wordCalled h162 (g_c11 k_162) rfl rfl hl.1 rfl (Nat.le_of_ble_eq_true rfl) dX2_readKnownName_21) (fun H locs hW => ?_)
    refine lv_istore_n (lv' := [(1, .int (q2)), (0, .ref (g_ad G (162)))]) C0.hx C0.hb dX2_readKnownName_24 rfl hl (by decide) rfl (fun ls hl => ?_)
    refine lv_iload_n C0.hx C0.hb dX2_readKnownName_25 rfl (lv_at hl 0 rfl) ?_
    refine lv_iconst (v := (-1 : Int32)) C0.hx C0.hb dX2_readKnownName_26 (by decide) ?_
    refine lv_icmp_ne (tgt := 35) C0.hx C0.hb dX2_readKnownName_27 (by decide) (fun hc3 => ?_) (fun hc3 => ?_)
    · replace h := (if_neg hc3).symm.trans h
      exact w_X2_readKnownName_35 h162 h163 C0 _ _ _ _ _ h hW (lv_sub hl [1, 0] rfl)
    · replace h := (if_pos hc3).symm.trans h
      refine lv_aload_n C0.hx C0.hb dX2_readKnownName_30 rfl (lv_at hl 1 rfl) ?_
      refine lv_iconst (v := (3 : Int32)) C0.hx C0.hb dX2_readKnownName_31 (by decide) ?_
      obtain ⟨q4, hq4, h⟩ := Option.bind_eq_some_iff.mp h
      refine g_callv hW (g_runV (As := [.int ((3 : Int32))]) (rest := []) C0 hW (c_X2_blame h162 h163 hq4) (g_cwOf (n := 1) tc_X2_blame tn_X2 md_X2_blame (by decide) (by omega)) tm_X2_129 ti_X2_blame ts_X2_blame h162 (g_c11 k_162) rfl rfl hl.1 rfl (Nat.le_of_ble_eq_true rfl) dX2_readKnownName_32) (fun H locs hW => ?_)
      exact w_X2_readKnownName_35 h162 h163 C0 _ _ _ _ _ h hW (lv_sub hl [1, 0] rfl)
  · replace h := (if_neg hc1).symm.trans h
    refine lv_aload_n C0.hx C0.hb dX2_readKnownName_10 rfl (lv_at hl 0 rfl) ?_
    obtain ⟨q5, hq5, h⟩ := Option.bind_eq_some_iff.mp h
    refine g_callv hW (g_runV (As := []) (rest := []) C0 hW (c_X2_refuse h162 h163 hq5) (g_cwOf (n := 0) tc_X2_refuse tn_X2 md_X2_refuse (by decide) (by omega)) tm_X2_108 ti_X2_refuse ts_X2_refuse h162 (g_c11 k_162) rfl rfl hl.1 rfl (Nat.le_of_ble_eq_true rfl) dX2_readKnownName_11) (fun H locs hW => ?_)
    refine lv_iconst (v := (-1 : Int32)) C0.hx C0.hb dX2_readKnownName_14 (by decide) ?_
    obtain rfl := Option.some.inj h
    exact g_iret C0 hW rfl rfl rfl dX2_readKnownName_15
set_option maxRecDepth 100000 in
set_option maxHeartbeats 4000000 in
theorem w_X2_readProduct_34 {p : Program} {l : Launch} {e : Env} {s : State} {m : MethodId} {args : Array Value} {below : List Frame} {meth : Method} {c : Code} {G : GL} {ids : List Nat} {y : MS} {o : Nat → Int32}  {q : CS} {k7 : Int32 → Int32 → CS → Option (CS)} {val : Int32 → CS → Option CS} {k : Nat} (hval : ∀ (d : Int32) (x q : CS), val d x = some q → Met l yX2_readValue (.code yX2_readValue cX2_readValue 3 (Option.none : Option Jvm.ClassFile.FieldType) :: gT) (g_rm k 0 0) (va_Pc [.ref (g_ad G 162), .int d] (g_P G ids (x, y, o))) (g_Qv G ids (q, y, o)) 0 0 (g_A G)) (hk0 : 12 ≤ k) (h162 : 162 ∈ ids) (h163 : 163 ∈ ids) (C0 : g_X G ids p s m args meth c cX2_readProduct 4 RX2 (Option.none : Option Jvm.ClassFile.FieldType)) (kt7 : ∀ (l1 : Int32) (l2 : Int32) (x : CS) (H : Heap) (locs : List Loc) (ls : Array Slot),  k7 l1 l2 x = some q → g_W G ids (x, y, o) s.heap H locs → lv_has ls 4 [(0, .ref (g_ad G (162))), (1, .int (l1)), (2, .int (l2))] → W p l e (g_rm (k + 1) 0 0) s m args below meth c H locs 0 0 (MQ below (g_Qv G ids (q, y, o)) args s 0 0 (g_A G)) (F0 m 7 ls [])) : ∀  (l1 : Int32) (l2 : Int32) (x : CS) (H : Heap) (locs : List Loc) (ls : Array Slot),  f_X2_readProduct_34 val k7 l1 l2 x = some q → g_W G ids (x, y, o) s.heap H locs → lv_has ls 4 [(0, .ref (g_ad G (162))), (1, .int (l1)), (2, .int (l2))] → W p l e (g_rm (k + 1) 0 0) s m args below meth c H locs 0 0 (MQ below (g_Qv G ids (q, y, o)) args s 0 0 (g_A G)) (F0 m 34 ls []) := by
  intro l1 l2 x H locs ls h hW hl
  unfold f_X2_readProduct_34 at h
  refine lv_aload_n C0.hx C0.hb dX2_readProduct_34 rfl (lv_at hl 0 rfl) ?_
  refine gf_X2_5 C0 hW h162 k_162 tf_X2_25 dX2_readProduct_35 ?_
  refine lv_astore_n (lv' := [(3, .ref (g_sg G (x.2 162 5))), (0, .ref (g_ad G (162))), (1, .int (l1)), (2, .int (l2))]) C0.hx C0.hb dX2_readProduct_38 rfl hl (by decide) rfl (fun ls hl => ?_)
  refine lv_aload_n C0.hx C0.hb dX2_readProduct_39 rfl (lv_at hl 1 rfl) ?_
  obtain ⟨q5, hq5, h⟩ := Option.bind_eq_some_iff.mp h
  refine g_callv hW (g_runV (As := []) (rest := []) C0 hW (c_X2_step h162 h163 hq5) (g_cwOf (n := 0) tc_X2_step tn_X2 md_X2_step (by decide) (by omega)) tm_X2_60 ti_X2_step ts_X2_step h162 (g_c11 k_162) rfl rfl hl.1 rfl (Nat.le_of_ble_eq_true rfl) dX2_readProduct_40) (fun H locs hW => ?_)
  refine lv_aload_n C0.hx C0.hb dX2_readProduct_43 rfl (lv_at hl 1 rfl) ?_
  refine lv_iload_n C0.hx C0.hb dX2_readProduct_44 rfl (lv_at hl 2 rfl) ?_
  obtain ⟨q6, hq6, h⟩ := Option.bind_eq_some_iff.mp h
  refine g_callv hW (g_runV (As := [.int (l1)]) (rest := []) C0 hW (hval _ _ _ hq6) (g_cwOf (n := 1) tc_X2_readValue tn_X2 md_X2_readValue (by decide) (by omega)) tm_X2_276 ti_X2_readValue ts_X2_readValue h162 (g_c11 k_162) rfl rfl hl.1 rfl (Nat.le_of_ble_eq_true rfl) dX2_readProduct_45) (fun H locs hW => ?_)
  refine lv_aload_n C0.hx C0.hb dX2_readProduct_48 rfl (lv_at hl 1 rfl) ?_
  obtain ⟨hk7, h⟩ := g_if h
  refine gf_X2_1 C0 hW h162 k_162 tf_X2_44 dX2_readProduct_49 ?_
  refine lv_aload_n C0.hx C0.hb dX2_readProduct_52 rfl (lv_at hl 0 rfl) ?_
  refine lv_iconst (v := (0 : Int32)) C0.hx C0.hb dX2_readProduct_53 (by decide) ?_
  obtain ⟨q8, hq8, h⟩ := Option.bind_eq_some_iff.mp h
  refine g_callv hW (g_runV (As := [.ref (g_sg G (x.2 162 5)), .int ((0 : Int32))]) (rest := []) C0 hW (c_X5_addSign hk7 hq8) (g_cwOf (n := 2) tc_X5_addSign tn_X5 md_X5_addSign (by decide) (by omega)) tm_X2_220 ti_X5_addSign ts_X5_addSign (C0.mem (kl7 hk7)) (g_c7 hk7) rfl rfl hl.1 rfl (Nat.le_of_ble_eq_true rfl) dX2_readProduct_54) (fun H locs hW => ?_)
  refine lv_iinc (v := l2 + (1 : Int32)) (lv' := [(2, .int (l2 + (1 : Int32))), (3, .ref (g_sg G (x.2 162 5))), (0, .ref (g_ad G (162))), (1, .int (l1))]) C0.hx C0.hb dX2_readProduct_57 hl (k := 3) rfl rfl (by decide) rfl (fun ls hl => ?_)
  refine lv_goto (tgt := 7) C0.hx C0.hb dX2_readProduct_60 (by decide) ?_
  exact kt7 _ _ _ _ _ _ h hW (lv_sub hl [2, 3, 0] rfl)
set_option maxRecDepth 100000 in
set_option maxHeartbeats 4000000 in
theorem w_X2_readProduct_7 {p : Program} {l : Launch} {e : Env} {s : State} {m : MethodId} {args : Array Value} {below : List Frame} {meth : Method} {c : Code} {G : GL} {ids : List Nat} {y : MS} {o : Nat → Int32}  {q : CS} {val : Int32 → CS → Option CS} {k : Nat} (hval : ∀ (d : Int32) (x q : CS), val d x = some q → Met l yX2_readValue (.code yX2_readValue cX2_readValue 3 (Option.none : Option Jvm.ClassFile.FieldType) :: gT) (g_rm k 0 0) (va_Pc [.ref (g_ad G 162), .int d] (g_P G ids (x, y, o))) (g_Qv G ids (q, y, o)) 0 0 (g_A G)) (hk0 : 12 ≤ k) (h162 : 162 ∈ ids) (h163 : 163 ∈ ids) (C0 : g_X G ids p s m args meth c cX2_readProduct 4 RX2 (Option.none : Option Jvm.ClassFile.FieldType))  : ∀ (n : Nat) (l1 : Int32) (l2 : Int32) (x : CS) (H : Heap) (locs : List Loc) (ls : Array Slot),  f_X2_readProduct_7 val n l1 l2 x = some q → g_W G ids (x, y, o) s.heap H locs → lv_has ls 4 [(0, .ref (g_ad G (162))), (1, .int (l1)), (2, .int (l2))] → W p l e (g_rm (k + 1) 0 0) s m args below meth c H locs 0 0 (MQ below (g_Qv G ids (q, y, o)) args s 0 0 (g_A G)) (F0 m 7 ls []) := by
  intro n
  induction n with
  | zero =>
    intro l1 l2 x H locs ls h hW hl
    exact absurd h (by simp [f_X2_readProduct_7])
  | succ n ih =>
    intro l1 l2 x H locs ls h hW hl
    unfold f_X2_readProduct_7 at h
    refine lv_iload_n C0.hx C0.hb dX2_readProduct_7 rfl (lv_at hl 2 rfl) ?_
    refine lv_sipush (v := (400 : Int32)) C0.hx C0.hb dX2_readProduct_8 (by decide) ?_
    refine lv_icmp_ge (tgt := 63) C0.hx C0.hb dX2_readProduct_11 (by decide) (fun hc2 => ?_) (fun hc2 => ?_)
    · replace h := (if_pos hc2).symm.trans h
      obtain rfl := Option.some.inj h
      exact g_vret C0 hW rfl dX2_readProduct_63
    · replace h := (if_neg hc2).symm.trans h
      refine lv_aload_n C0.hx C0.hb dX2_readProduct_14 rfl (lv_at hl 0 rfl) ?_
      refine gf_X2_5 C0 hW h162 k_162 tf_X2_25 dX2_readProduct_15 ?_
      refine g_sign C0 hW 34 (by decide) tf_X2_279 dX2_readProduct_18 ?_
      refine g_acmp_eq (tgt := 34) C0 dX2_readProduct_21 (by decide) (fun hc3 => ?_) (fun hc3 => ?_)
      · replace h := (if_pos hc3).symm.trans h
        exact w_X2_readProduct_34 hval (by omega) h162 h163 C0 ih _ _ _ _ _ _ h hW (lv_sub hl [0, 1, 2] rfl)
      · replace h := (if_neg hc3).symm.trans h
        refine lv_aload_n C0.hx C0.hb dX2_readProduct_24 rfl (lv_at hl 0 rfl) ?_
        refine gf_X2_5 C0 hW h162 k_162 tf_X2_25 dX2_readProduct_25 ?_
        refine g_sign C0 hW 35 (by decide) tf_X2_282 dX2_readProduct_28 ?_
        refine g_acmp_ne (tgt := 63) C0 dX2_readProduct_31 (by decide) (fun hc4 => ?_) (fun hc4 => ?_)
        · replace h := (if_neg hc4).symm.trans h
          obtain rfl := Option.some.inj h
          exact g_vret C0 hW rfl dX2_readProduct_63
        · replace h := (if_pos hc4).symm.trans h
          exact w_X2_readProduct_34 hval (by omega) h162 h163 C0 ih _ _ _ _ _ _ h hW (lv_sub hl [0, 1, 2] rfl)
set_option maxRecDepth 100000 in
set_option maxHeartbeats 4000000 in
theorem c_X2_readProduct {l : Launch} {G : GL} {ids : List Nat} {y : MS} {o : Nat → Int32} {x : CS} {p1 : Int32} {q : CS} {val : Int32 → CS → Option CS} {k : Nat} (hval : ∀ (d : Int32) (x q : CS), val d x = some q → Met l yX2_readValue (.code yX2_readValue cX2_readValue 3 (Option.none : Option Jvm.ClassFile.FieldType) :: gT) (g_rm k 0 0) (va_Pc [.ref (g_ad G 162), .int d] (g_P G ids (x, y, o))) (g_Qv G ids (q, y, o)) 0 0 (g_A G)) (hk0 : 12 ≤ k) (h162 : 162 ∈ ids) (h163 : 163 ∈ ids)  (h : f_X2_readProduct val p1 x = some q) : Met l yX2_readProduct (.code yX2_readProduct cX2_readProduct 4 (Option.none : Option Jvm.ClassFile.FieldType) :: gT) (g_rm (k + 1) 0 0) (va_Pc [.ref (g_ad G (162)), .int (p1)] (g_P G ids (x, y, o))) (g_Qv G ids (q, y, o)) 0 0 (g_A G) := by
  unfold f_X2_readProduct at h
  refine g_entry (by decide) (Nat.le_of_ble_eq_true rfl) (fun p e s m args below meth c ls C0 hl hW _ => ?_)
  have hl : lv_has ls 4 [(0, .ref (g_ad G (162))), (1, .int (p1))] := hl
  refine lv_aload_n C0.hx C0.hb dX2_readProduct_0 rfl (lv_at hl 0 rfl) ?_
  refine lv_iload_n C0.hx C0.hb dX2_readProduct_1 rfl (lv_at hl 1 rfl) ?_
  obtain ⟨q1, hq1, h⟩ := Option.bind_eq_some_iff.mp h
  refine g_callv hW (g_runV (As := [.int (p1)]) (rest := []) C0 hW (hval _ _ _ hq1) (g_cwOf (n := 1) tc_X2_readValue tn_X2 md_X2_readValue (by decide) (by omega)) tm_X2_276 ti_X2_readValue ts_X2_readValue h162 (g_c11 k_162) rfl rfl hl.1 rfl (Nat.le_of_ble_eq_true rfl) dX2_readProduct_2) (fun H locs hW => ?_)
  refine lv_iconst (v := (0 : Int32)) C0.hx C0.hb dX2_readProduct_5 (by decide) ?_
  refine lv_istore_n (lv' := [(2, .int ((0 : Int32))), (0, .ref (g_ad G (162))), (1, .int (p1))]) C0.hx C0.hb dX2_readProduct_6 rfl hl (by decide) rfl (fun ls hl => ?_)
  exact w_X2_readProduct_7 hval (by omega) h162 h163 C0 g_fuel _ _ _ _ _ _ h hW (lv_sub hl [1, 2, 0] rfl)
set_option maxRecDepth 100000 in
set_option maxHeartbeats 4000000 in
theorem w_X2_readSum_34 {p : Program} {l : Launch} {e : Env} {s : State} {m : MethodId} {args : Array Value} {below : List Frame} {meth : Method} {c : Code} {G : GL} {ids : List Nat} {y : MS} {o : Nat → Int32}  {q : CS} {k7 : Int32 → Int32 → CS → Option (CS)} {val : Int32 → CS → Option CS} {k : Nat} (hval : ∀ (d : Int32) (x q : CS), val d x = some q → Met l yX2_readValue (.code yX2_readValue cX2_readValue 3 (Option.none : Option Jvm.ClassFile.FieldType) :: gT) (g_rm k 0 0) (va_Pc [.ref (g_ad G 162), .int d] (g_P G ids (x, y, o))) (g_Qv G ids (q, y, o)) 0 0 (g_A G)) (hk0 : 12 ≤ k) (h162 : 162 ∈ ids) (h163 : 163 ∈ ids) (C0 : g_X G ids p s m args meth c cX2_readSum 4 RX2 (Option.none : Option Jvm.ClassFile.FieldType)) (kt7 : ∀ (l1 : Int32) (l2 : Int32) (x : CS) (H : Heap) (locs : List Loc) (ls : Array Slot),  k7 l1 l2 x = some q → g_W G ids (x, y, o) s.heap H locs → lv_has ls 4 [(0, .ref (g_ad G (162))), (1, .int (l1)), (2, .int (l2))] → W p l e (g_rm (k + 2) 0 0) s m args below meth c H locs 0 0 (MQ below (g_Qv G ids (q, y, o)) args s 0 0 (g_A G)) (F0 m 7 ls [])) : ∀  (l1 : Int32) (l2 : Int32) (x : CS) (H : Heap) (locs : List Loc) (ls : Array Slot),  f_X2_readSum_34 val k7 l1 l2 x = some q → g_W G ids (x, y, o) s.heap H locs → lv_has ls 4 [(0, .ref (g_ad G (162))), (1, .int (l1)), (2, .int (l2))] → W p l e (g_rm (k + 2) 0 0) s m args below meth c H locs 0 0 (MQ below (g_Qv G ids (q, y, o)) args s 0 0 (g_A G)) (F0 m 34 ls []) := by
  intro l1 l2 x H locs ls h hW hl
  unfold f_X2_readSum_34 at h
  refine lv_aload_n C0.hx C0.hb dX2_readSum_34 rfl (lv_at hl 0 rfl) ?_
  refine gf_X2_5 C0 hW h162 k_162 tf_X2_25 dX2_readSum_35 ?_
  refine lv_astore_n (lv' := [(3, .ref (g_sg G (x.2 162 5))), (0, .ref (g_ad G (162))), (1, .int (l1)), (2, .int (l2))]) C0.hx C0.hb dX2_readSum_38 rfl hl (by decide) rfl (fun ls hl => ?_)
  refine lv_aload_n C0.hx C0.hb dX2_readSum_39 rfl (lv_at hl 1 rfl) ?_
  obtain ⟨q5, hq5, h⟩ := Option.bind_eq_some_iff.mp h
  refine g_callv hW (g_runV (As := []) (rest := []) C0 hW (c_X2_step h162 h163 hq5) (g_cwOf (n := 0) tc_X2_step tn_X2 md_X2_step (by decide) (by omega)) tm_X2_60 ti_X2_step ts_X2_step h162 (g_c11 k_162) rfl rfl hl.1 rfl (Nat.le_of_ble_eq_true rfl) dX2_readSum_40) (fun H locs hW => ?_)
  refine lv_aload_n C0.hx C0.hb dX2_readSum_43 rfl (lv_at hl 1 rfl) ?_
  refine lv_iload_n C0.hx C0.hb dX2_readSum_44 rfl (lv_at hl 2 rfl) ?_
  obtain ⟨q6, hq6, h⟩ := Option.bind_eq_some_iff.mp h
  refine g_callv hW (g_runV (As := [.int (l1)]) (rest := []) C0 hW (c_X2_readProduct hval (by omega) h162 h163 hq6) (g_cwOf (n := 1) tc_X2_readProduct tn_X2 md_X2_readProduct (by decide) (by omega)) tm_X2_267 ti_X2_readProduct ts_X2_readProduct h162 (g_c11 k_162) rfl rfl hl.1 rfl (Nat.le_of_ble_eq_true rfl) dX2_readSum_45) (fun H locs hW => ?_)
  refine lv_aload_n C0.hx C0.hb dX2_readSum_48 rfl (lv_at hl 1 rfl) ?_
  obtain ⟨hk7, h⟩ := g_if h
  refine gf_X2_1 C0 hW h162 k_162 tf_X2_44 dX2_readSum_49 ?_
  refine lv_aload_n C0.hx C0.hb dX2_readSum_52 rfl (lv_at hl 0 rfl) ?_
  refine lv_iconst (v := (0 : Int32)) C0.hx C0.hb dX2_readSum_53 (by decide) ?_
  obtain ⟨q8, hq8, h⟩ := Option.bind_eq_some_iff.mp h
  refine g_callv hW (g_runV (As := [.ref (g_sg G (x.2 162 5)), .int ((0 : Int32))]) (rest := []) C0 hW (c_X5_addSign hk7 hq8) (g_cwOf (n := 2) tc_X5_addSign tn_X5 md_X5_addSign (by decide) (by omega)) tm_X2_220 ti_X5_addSign ts_X5_addSign (C0.mem (kl7 hk7)) (g_c7 hk7) rfl rfl hl.1 rfl (Nat.le_of_ble_eq_true rfl) dX2_readSum_54) (fun H locs hW => ?_)
  refine lv_iinc (v := l2 + (1 : Int32)) (lv' := [(2, .int (l2 + (1 : Int32))), (3, .ref (g_sg G (x.2 162 5))), (0, .ref (g_ad G (162))), (1, .int (l1))]) C0.hx C0.hb dX2_readSum_57 hl (k := 3) rfl rfl (by decide) rfl (fun ls hl => ?_)
  refine lv_goto (tgt := 7) C0.hx C0.hb dX2_readSum_60 (by decide) ?_
  exact kt7 _ _ _ _ _ _ h hW (lv_sub hl [2, 3, 0] rfl)
set_option maxRecDepth 100000 in
set_option maxHeartbeats 4000000 in
theorem w_X2_readSum_7 {p : Program} {l : Launch} {e : Env} {s : State} {m : MethodId} {args : Array Value} {below : List Frame} {meth : Method} {c : Code} {G : GL} {ids : List Nat} {y : MS} {o : Nat → Int32}  {q : CS} {val : Int32 → CS → Option CS} {k : Nat} (hval : ∀ (d : Int32) (x q : CS), val d x = some q → Met l yX2_readValue (.code yX2_readValue cX2_readValue 3 (Option.none : Option Jvm.ClassFile.FieldType) :: gT) (g_rm k 0 0) (va_Pc [.ref (g_ad G 162), .int d] (g_P G ids (x, y, o))) (g_Qv G ids (q, y, o)) 0 0 (g_A G)) (hk0 : 12 ≤ k) (h162 : 162 ∈ ids) (h163 : 163 ∈ ids) (C0 : g_X G ids p s m args meth c cX2_readSum 4 RX2 (Option.none : Option Jvm.ClassFile.FieldType))  : ∀ (n : Nat) (l1 : Int32) (l2 : Int32) (x : CS) (H : Heap) (locs : List Loc) (ls : Array Slot),  f_X2_readSum_7 val n l1 l2 x = some q → g_W G ids (x, y, o) s.heap H locs → lv_has ls 4 [(0, .ref (g_ad G (162))), (1, .int (l1)), (2, .int (l2))] → W p l e (g_rm (k + 2) 0 0) s m args below meth c H locs 0 0 (MQ below (g_Qv G ids (q, y, o)) args s 0 0 (g_A G)) (F0 m 7 ls []) := by
  intro n
  induction n with
  | zero =>
    intro l1 l2 x H locs ls h hW hl
    exact absurd h (by simp [f_X2_readSum_7])
  | succ n ih =>
    intro l1 l2 x H locs ls h hW hl
    unfold f_X2_readSum_7 at h
    refine lv_iload_n C0.hx C0.hb dX2_readSum_7 rfl (lv_at hl 2 rfl) ?_
    refine lv_sipush (v := (400 : Int32)) C0.hx C0.hb dX2_readSum_8 (by decide) ?_
    refine lv_icmp_ge (tgt := 63) C0.hx C0.hb dX2_readSum_11 (by decide) (fun hc2 => ?_) (fun hc2 => ?_)
    · replace h := (if_pos hc2).symm.trans h
      obtain rfl := Option.some.inj h
      exact g_vret C0 hW rfl dX2_readSum_63
    · replace h := (if_neg hc2).symm.trans h
      refine lv_aload_n C0.hx C0.hb dX2_readSum_14 rfl (lv_at hl 0 rfl) ?_
      refine gf_X2_5 C0 hW h162 k_162 tf_X2_25 dX2_readSum_15 ?_
      refine g_sign C0 hW 32 (by decide) tf_X2_270 dX2_readSum_18 ?_
      refine g_acmp_eq (tgt := 34) C0 dX2_readSum_21 (by decide) (fun hc3 => ?_) (fun hc3 => ?_)
      · replace h := (if_pos hc3).symm.trans h
        exact w_X2_readSum_34 hval (by omega) h162 h163 C0 ih _ _ _ _ _ _ h hW (lv_sub hl [0, 1, 2] rfl)
      · replace h := (if_neg hc3).symm.trans h
        refine lv_aload_n C0.hx C0.hb dX2_readSum_24 rfl (lv_at hl 0 rfl) ?_
        refine gf_X2_5 C0 hW h162 k_162 tf_X2_25 dX2_readSum_25 ?_
        refine g_sign C0 hW 33 (by decide) tf_X2_273 dX2_readSum_28 ?_
        refine g_acmp_ne (tgt := 63) C0 dX2_readSum_31 (by decide) (fun hc4 => ?_) (fun hc4 => ?_)
        · replace h := (if_neg hc4).symm.trans h
          obtain rfl := Option.some.inj h
          exact g_vret C0 hW rfl dX2_readSum_63
        · replace h := (if_pos hc4).symm.trans h
          exact w_X2_readSum_34 hval (by omega) h162 h163 C0 ih _ _ _ _ _ _ h hW (lv_sub hl [0, 1, 2] rfl)
set_option maxRecDepth 100000 in
set_option maxHeartbeats 4000000 in
theorem c_X2_readSum {l : Launch} {G : GL} {ids : List Nat} {y : MS} {o : Nat → Int32} {x : CS} {p1 : Int32} {q : CS} {val : Int32 → CS → Option CS} {k : Nat} (hval : ∀ (d : Int32) (x q : CS), val d x = some q → Met l yX2_readValue (.code yX2_readValue cX2_readValue 3 (Option.none : Option Jvm.ClassFile.FieldType) :: gT) (g_rm k 0 0) (va_Pc [.ref (g_ad G 162), .int d] (g_P G ids (x, y, o))) (g_Qv G ids (q, y, o)) 0 0 (g_A G)) (hk0 : 12 ≤ k) (h162 : 162 ∈ ids) (h163 : 163 ∈ ids)  (h : f_X2_readSum val p1 x = some q) : Met l yX2_readSum (.code yX2_readSum cX2_readSum 4 (Option.none : Option Jvm.ClassFile.FieldType) :: gT) (g_rm (k + 2) 0 0) (va_Pc [.ref (g_ad G (162)), .int (p1)] (g_P G ids (x, y, o))) (g_Qv G ids (q, y, o)) 0 0 (g_A G) := by
  unfold f_X2_readSum at h
  refine g_entry (by decide) (Nat.le_of_ble_eq_true rfl) (fun p e s m args below meth c ls C0 hl hW _ => ?_)
  have hl : lv_has ls 4 [(0, .ref (g_ad G (162))), (1, .int (p1))] := hl
  refine lv_aload_n C0.hx C0.hb dX2_readSum_0 rfl (lv_at hl 0 rfl) ?_
  refine lv_iload_n C0.hx C0.hb dX2_readSum_1 rfl (lv_at hl 1 rfl) ?_
  obtain ⟨q1, hq1, h⟩ := Option.bind_eq_some_iff.mp h
  refine g_callv hW (g_runV (As := [.int (p1)]) (rest := []) C0 hW (c_X2_readProduct hval (by omega) h162 h163 hq1) (g_cwOf (n := 1) tc_X2_readProduct tn_X2 md_X2_readProduct (by decide) (by omega)) tm_X2_267 ti_X2_readProduct ts_X2_readProduct h162 (g_c11 k_162) rfl rfl hl.1 rfl (Nat.le_of_ble_eq_true rfl) dX2_readSum_2) (fun H locs hW => ?_)
  refine lv_iconst (v := (0 : Int32)) C0.hx C0.hb dX2_readSum_5 (by decide) ?_
  refine lv_istore_n (lv' := [(2, .int ((0 : Int32))), (0, .ref (g_ad G (162))), (1, .int (p1))]) C0.hx C0.hb dX2_readSum_6 rfl hl (by decide) rfl (fun ls hl => ?_)
  exact w_X2_readSum_7 hval (by omega) h162 h163 C0 g_fuel _ _ _ _ _ _ h hW (lv_sub hl [1, 2, 0] rfl)
set_option maxRecDepth 100000 in
set_option maxHeartbeats 4000000 in
theorem c_X2_requireDepth {l : Launch} {G : GL} {ids : List Nat} {y : MS} {o : Nat → Int32} {x : CS} {p1 : Int32} {q : CS}  (h162 : 162 ∈ ids) (h163 : 163 ∈ ids)  (h : f_X2_requireDepth p1 x = some q) : Met l yX2_requireDepth (.code yX2_requireDepth cX2_requireDepth 2 (Option.none : Option Jvm.ClassFile.FieldType) :: gT) (g_rm 1 0 0) (va_Pc [.ref (g_ad G (162)), .int (p1)] (g_P G ids (x, y, o))) (g_Qv G ids (q, y, o)) 0 0 (g_A G) := by
  unfold f_X2_requireDepth at h
  refine g_entry (by decide) (Nat.le_of_ble_eq_true rfl) (fun p e s m args below meth c ls C0 hl hW _ => ?_)
  have hl : lv_has ls 2 [(0, .ref (g_ad G (162))), (1, .int (p1))] := hl
  refine lv_iload_n C0.hx C0.hb dX2_requireDepth_0 rfl (lv_at hl 1 rfl) ?_
  refine lv_bipush (v := (8 : Int32)) C0.hx C0.hb dX2_requireDepth_1 (by decide) ?_
  refine lv_icmp_lt (tgt := 10) C0.hx C0.hb dX2_requireDepth_3 (by decide) (fun hc1 => ?_) (fun hc1 => ?_)
  · replace h := (if_pos hc1).symm.trans h
    obtain rfl := Option.some.inj h
    exact g_vret C0 hW rfl dX2_requireDepth_10
  · replace h := (if_neg hc1).symm.trans h
    refine lv_aload_n C0.hx C0.hb dX2_requireDepth_6 rfl (lv_at hl 0 rfl) ?_
    obtain ⟨q2, hq2, h⟩ := Option.bind_eq_some_iff.mp h
    refine g_callv hW (g_runV (As := []) (rest := []) C0 hW (c_X2_refuse h162 h163 hq2) (g_cwOf (n := 0) tc_X2_refuse tn_X2 md_X2_refuse (by decide) (by omega)) tm_X2_108 ti_X2_refuse ts_X2_refuse h162 (g_c11 k_162) rfl rfl hl.1 rfl (Nat.le_of_ble_eq_true rfl) dX2_requireDepth_7) (fun H locs hW => ?_)
    obtain rfl := Option.some.inj h
    exact g_vret C0 hW rfl dX2_requireDepth_10
set_option maxRecDepth 100000 in
set_option maxHeartbeats 4000000 in
theorem w_X2_readChoice_23 {p : Program} {l : Launch} {e : Env} {s : State} {m : MethodId} {args : Array Value} {below : List Frame} {meth : Method} {c : Code} {G : GL} {ids : List Nat} {y : MS} {o : Nat → Int32}  {q : CS} {val : Int32 → CS → Option CS} {k : Nat} (hval : ∀ (d : Int32) (x q : CS), val d x = some q → Met l yX2_readValue (.code yX2_readValue cX2_readValue 3 (Option.none : Option Jvm.ClassFile.FieldType) :: gT) (g_rm k 0 0) (va_Pc [.ref (g_ad G 162), .int d] (g_P G ids (x, y, o))) (g_Qv G ids (q, y, o)) 0 0 (g_A G)) (hk0 : 12 ≤ k) (h162 : 162 ∈ ids) (h163 : 163 ∈ ids) (C0 : g_X G ids p s m args meth c cX2_readChoice 3 RX2 (Option.none : Option Jvm.ClassFile.FieldType))  : ∀  (l1 : Int32) (l2 : Nat) (x : CS) (H : Heap) (locs : List Loc) (ls : Array Slot),  f_X2_readChoice_23 val l1 l2 x = some q → g_W G ids (x, y, o) s.heap H locs → lv_has ls 3 [(0, .ref (g_ad G (162))), (1, .int (l1)), (2, .ref (g_sg G (l2)))] → W p l e (g_rm (k + 3) 0 0) s m args below meth c H locs 0 0 (MQ below (g_Qv G ids (q, y, o)) args s 0 0 (g_A G)) (F0 m 23 ls []) := by
  intro l1 l2 x H locs ls h hW hl
  unfold f_X2_readChoice_23 at h
  refine lv_aload_n C0.hx C0.hb dX2_readChoice_23 rfl (lv_at hl 0 rfl) ?_
  refine lv_iload_n C0.hx C0.hb dX2_readChoice_24 rfl (lv_at hl 1 rfl) ?_
  obtain ⟨q4, hq4, h⟩ := Option.bind_eq_some_iff.mp h
  refine g_callv hW (g_runV (As := [.int (l1)]) (rest := []) C0 hW (c_X2_requireDepth h162 h163 hq4) (g_cwOf (n := 1) tc_X2_requireDepth tn_X2 md_X2_requireDepth (by decide) (by omega)) tm_X2_233 ti_X2_requireDepth ts_X2_requireDepth h162 (g_c11 k_162) rfl rfl hl.1 rfl (Nat.le_of_ble_eq_true rfl) dX2_readChoice_25) (fun H locs hW => ?_)
  refine lv_aload_n C0.hx C0.hb dX2_readChoice_28 rfl (lv_at hl 0 rfl) ?_
  obtain ⟨q5, hq5, h⟩ := Option.bind_eq_some_iff.mp h
  refine g_callv hW (g_runV (As := []) (rest := []) C0 hW (c_X2_step h162 h163 hq5) (g_cwOf (n := 0) tc_X2_step tn_X2 md_X2_step (by decide) (by omega)) tm_X2_60 ti_X2_step ts_X2_step h162 (g_c11 k_162) rfl rfl hl.1 rfl (Nat.le_of_ble_eq_true rfl) dX2_readChoice_29) (fun H locs hW => ?_)
  refine lv_aload_n C0.hx C0.hb dX2_readChoice_32 rfl (lv_at hl 0 rfl) ?_
  refine lv_iload_n C0.hx C0.hb dX2_readChoice_33 rfl (lv_at hl 1 rfl) ?_
  refine lv_iconst (v := (1 : Int32)) C0.hx C0.hb dX2_readChoice_34 (by decide) ?_
  refine lv_iadd C0.hx C0.hb dX2_readChoice_35 ?_
  obtain ⟨q6, hq6, h⟩ := Option.bind_eq_some_iff.mp h
  refine g_callv hW (g_runV (As := [.int (l1 + (1 : Int32))]) (rest := []) C0 hW (c_X2_readSum hval (by omega) h162 h163 hq6) (g_cwOf (n := 1) tc_X2_readSum tn_X2 md_X2_readSum (by decide) (by omega)) tm_X2_201 ti_X2_readSum ts_X2_readSum h162 (g_c11 k_162) rfl rfl hl.1 rfl (Nat.le_of_ble_eq_true rfl) dX2_readChoice_36) (fun H locs hW => ?_)
  refine lv_aload_n C0.hx C0.hb dX2_readChoice_39 rfl (lv_at hl 0 rfl) ?_
  refine g_sign C0 hW 31 (by decide) tf_X2_120 dX2_readChoice_40 ?_
  obtain ⟨q7, hq7, h⟩ := Option.bind_eq_some_iff.mp h
  refine g_callv hW (g_runV (As := [.ref (g_sg G (31))]) (rest := []) C0 hW (c_X2_expect h162 h163 hq7) (g_cwOf (n := 1) tc_X2_expect tn_X2 md_X2_expect (by decide) (by omega)) tm_X2_94 ti_X2_expect ts_X2_expect h162 (g_c11 k_162) rfl rfl hl.1 rfl (Nat.le_of_ble_eq_true rfl) dX2_readChoice_43) (fun H locs hW => ?_)
  refine lv_aload_n C0.hx C0.hb dX2_readChoice_46 rfl (lv_at hl 0 rfl) ?_
  refine lv_iload_n C0.hx C0.hb dX2_readChoice_47 rfl (lv_at hl 1 rfl) ?_
  refine lv_iconst (v := (1 : Int32)) C0.hx C0.hb dX2_readChoice_48 (by decide) ?_
  refine lv_iadd C0.hx C0.hb dX2_readChoice_49 ?_
  obtain ⟨q8, hq8, h⟩ := Option.bind_eq_some_iff.mp h
  refine g_callv hW (g_runV (As := [.int (l1 + (1 : Int32))]) (rest := []) C0 hW (c_X2_readSum hval (by omega) h162 h163 hq8) (g_cwOf (n := 1) tc_X2_readSum tn_X2 md_X2_readSum (by decide) (by omega)) tm_X2_201 ti_X2_readSum ts_X2_readSum h162 (g_c11 k_162) rfl rfl hl.1 rfl (Nat.le_of_ble_eq_true rfl) dX2_readChoice_50) (fun H locs hW => ?_)
  refine lv_aload_n C0.hx C0.hb dX2_readChoice_53 rfl (lv_at hl 0 rfl) ?_
  refine g_sign C0 hW 27 (by decide) tf_X2_291 dX2_readChoice_54 ?_
  obtain ⟨q9, hq9, h⟩ := Option.bind_eq_some_iff.mp h
  refine g_callv hW (g_runV (As := [.ref (g_sg G (27))]) (rest := []) C0 hW (c_X2_expect h162 h163 hq9) (g_cwOf (n := 1) tc_X2_expect tn_X2 md_X2_expect (by decide) (by omega)) tm_X2_94 ti_X2_expect ts_X2_expect h162 (g_c11 k_162) rfl rfl hl.1 rfl (Nat.le_of_ble_eq_true rfl) dX2_readChoice_57) (fun H locs hW => ?_)
  refine lv_aload_n C0.hx C0.hb dX2_readChoice_60 rfl (lv_at hl 0 rfl) ?_
  obtain ⟨hk10, h⟩ := g_if h
  refine gf_X2_1 C0 hW h162 k_162 tf_X2_44 dX2_readChoice_61 ?_
  refine lv_aload_n C0.hx C0.hb dX2_readChoice_64 rfl (lv_at hl 2 rfl) ?_
  refine lv_iconst (v := (0 : Int32)) C0.hx C0.hb dX2_readChoice_65 (by decide) ?_
  obtain ⟨q11, hq11, h⟩ := Option.bind_eq_some_iff.mp h
  refine g_callv hW (g_runV (As := [.ref (g_sg G (l2)), .int ((0 : Int32))]) (rest := []) C0 hW (c_X5_addSign hk10 hq11) (g_cwOf (n := 2) tc_X5_addSign tn_X5 md_X5_addSign (by decide) (by omega)) tm_X2_220 ti_X5_addSign ts_X5_addSign (C0.mem (kl7 hk10)) (g_c7 hk10) rfl rfl hl.1 rfl (Nat.le_of_ble_eq_true rfl) dX2_readChoice_66) (fun H locs hW => ?_)
  obtain rfl := Option.some.inj h
  exact g_vret C0 hW rfl dX2_readChoice_69
set_option maxRecDepth 100000 in
set_option maxHeartbeats 4000000 in
theorem c_X2_readChoice {l : Launch} {G : GL} {ids : List Nat} {y : MS} {o : Nat → Int32} {x : CS} {p1 : Int32} {q : CS} {val : Int32 → CS → Option CS} {k : Nat} (hval : ∀ (d : Int32) (x q : CS), val d x = some q → Met l yX2_readValue (.code yX2_readValue cX2_readValue 3 (Option.none : Option Jvm.ClassFile.FieldType) :: gT) (g_rm k 0 0) (va_Pc [.ref (g_ad G 162), .int d] (g_P G ids (x, y, o))) (g_Qv G ids (q, y, o)) 0 0 (g_A G)) (hk0 : 12 ≤ k) (h162 : 162 ∈ ids) (h163 : 163 ∈ ids)  (h : f_X2_readChoice val p1 x = some q) : Met l yX2_readChoice (.code yX2_readChoice cX2_readChoice 3 (Option.none : Option Jvm.ClassFile.FieldType) :: gT) (g_rm (k + 3) 0 0) (va_Pc [.ref (g_ad G (162)), .int (p1)] (g_P G ids (x, y, o))) (g_Qv G ids (q, y, o)) 0 0 (g_A G) := by
  unfold f_X2_readChoice at h
  refine g_entry (by decide) (Nat.le_of_ble_eq_true rfl) (fun p e s m args below meth c ls C0 hl hW _ => ?_)
  have hl : lv_has ls 3 [(0, .ref (g_ad G (162))), (1, .int (p1))] := hl
  refine lv_aload_n C0.hx C0.hb dX2_readChoice_0 rfl (lv_at hl 0 rfl) ?_
  refine gf_X2_5 C0 hW h162 k_162 tf_X2_25 dX2_readChoice_1 ?_
  refine lv_astore_n (lv' := [(2, .ref (g_sg G (x.2 162 5))), (0, .ref (g_ad G (162))), (1, .int (p1))]) C0.hx C0.hb dX2_readChoice_4 rfl hl (by decide) rfl (fun ls hl => ?_)
  refine lv_aload_n C0.hx C0.hb dX2_readChoice_5 rfl (lv_at hl 1 rfl) ?_
  obtain ⟨q1, hq1, h⟩ := Option.bind_eq_some_iff.mp h
  refine g_callv hW (g_runV (As := []) (rest := []) C0 hW (c_X2_step h162 h163 hq1) (g_cwOf (n := 0) tc_X2_step tn_X2 md_X2_step (by decide) (by omega)) tm_X2_60 ti_X2_step ts_X2_step h162 (g_c11 k_162) rfl rfl hl.1 rfl (Nat.le_of_ble_eq_true rfl) dX2_readChoice_6) (fun H locs hW => ?_)
  refine lv_aload_n C0.hx C0.hb dX2_readChoice_9 rfl (lv_at hl 1 rfl) ?_
  refine gf_X2_5 C0 hW h162 k_162 tf_X2_25 dX2_readChoice_10 ?_
  refine g_sign C0 hW 26 (by decide) tf_X2_288 dX2_readChoice_13 ?_
  refine g_acmp_eq (tgt := 23) C0 dX2_readChoice_16 (by decide) (fun hc2 => ?_) (fun hc2 => ?_)
  · replace h := (if_pos hc2).symm.trans h
    exact w_X2_readChoice_23 hval (by omega) h162 h163 C0 _ _ _ _ _ _ h hW (lv_sub hl [1, 2, 0] rfl)
  · replace h := (if_neg hc2).symm.trans h
    refine lv_aload_n C0.hx C0.hb dX2_readChoice_19 rfl (lv_at hl 1 rfl) ?_
    obtain ⟨q3, hq3, h⟩ := Option.bind_eq_some_iff.mp h
    refine g_callv hW (g_runV (As := []) (rest := []) C0 hW (c_X2_refuse h162 h163 hq3) (g_cwOf (n := 0) tc_X2_refuse tn_X2 md_X2_refuse (by decide) (by omega)) tm_X2_108 ti_X2_refuse ts_X2_refuse h162 (g_c11 k_162) rfl rfl hl.1 rfl (Nat.le_of_ble_eq_true rfl) dX2_readChoice_20) (fun H locs hW => ?_)
    exact w_X2_readChoice_23 hval (by omega) h162 h163 C0 _ _ _ _ _ _ h hW (lv_sub hl [1, 2, 0] rfl)
set_option maxRecDepth 100000 in
set_option maxHeartbeats 4000000 in
theorem w_X2_readValue_185 {p : Program} {l : Launch} {e : Env} {s : State} {m : MethodId} {args : Array Value} {below : List Frame} {meth : Method} {c : Code} {G : GL} {ids : List Nat} {y : MS} {o : Nat → Int32}  {q : CS} {val : Int32 → CS → Option CS} {k : Nat} (hval : ∀ (d : Int32) (x q : CS), val d x = some q → Met l yX2_readValue (.code yX2_readValue cX2_readValue 3 (Option.none : Option Jvm.ClassFile.FieldType) :: gT) (g_rm k 0 0) (va_Pc [.ref (g_ad G 162), .int d] (g_P G ids (x, y, o))) (g_Qv G ids (q, y, o)) 0 0 (g_A G)) (hk0 : 12 ≤ k) {k2 : Nat} (hk2 : k + 4 ≤ k2) (h162 : 162 ∈ ids) (h163 : 163 ∈ ids) (C0 : g_X G ids p s m args meth c cX2_readValue 3 RX2 (Option.none : Option Jvm.ClassFile.FieldType))  : ∀   (x : CS) (H : Heap) (locs : List Loc) (ls : Array Slot),  f_X2_readValue_185 val x = some q → g_W G ids (x, y, o) s.heap H locs → lv_has ls 3 [(0, .ref (g_ad G (162)))] → W p l e (g_rm k2 0 0) s m args below meth c H locs 0 0 (MQ below (g_Qv G ids (q, y, o)) args s 0 0 (g_A G)) (F0 m 185 ls []) := by
  intro x H locs ls h hW hl
  unfold f_X2_readValue_185 at h
  refine lv_aload_n C0.hx C0.hb dX2_readValue_185 rfl (lv_at hl 0 rfl) ?_
  obtain ⟨hk26, h⟩ := g_if h
  refine gf_X2_1 C0 hW h162 k_162 tf_X2_44 dX2_readValue_186 ?_
  refine lv_aload_n C0.hx C0.hb dX2_readValue_189 rfl (lv_at hl 0 rfl) ?_
  refine gf_X2_5 C0 hW h162 k_162 tf_X2_25 dX2_readValue_190 ?_
  refine lv_aload_n C0.hx C0.hb dX2_readValue_193 rfl (lv_at hl 0 rfl) ?_
  refine gf_X2_7 C0 hW h162 k_162 tf_X2_31 dX2_readValue_194 ?_
  obtain ⟨q27, hq27, h⟩ := Option.bind_eq_some_iff.mp h
  refine g_callv hW (g_runV (As := [.ref (g_sg G (x.2 162 5)), .int (x.1 162 7)]) (rest := []) C0 hW (c_X5_addSign hk26 hq27) (g_cwOf (n := 2) tc_X5_addSign tn_X5 md_X5_addSign (by decide) (by omega)) tm_X2_220 ti_X5_addSign ts_X5_addSign (C0.mem (kl7 hk26)) (g_c7 hk26) rfl rfl hl.1 rfl (Nat.le_of_ble_eq_true rfl) dX2_readValue_197) (fun H locs hW => ?_)
  refine lv_aload_n C0.hx C0.hb dX2_readValue_200 rfl (lv_at hl 0 rfl) ?_
  obtain ⟨q28, hq28, h⟩ := Option.bind_eq_some_iff.mp h
  refine g_callv hW (g_runV (As := []) (rest := []) C0 hW (c_X2_step h162 h163 hq28) (g_cwOf (n := 0) tc_X2_step tn_X2 md_X2_step (by decide) (by omega)) tm_X2_60 ti_X2_step ts_X2_step h162 (g_c11 k_162) rfl rfl hl.1 rfl (Nat.le_of_ble_eq_true rfl) dX2_readValue_201) (fun H locs hW => ?_)
  refine lv_goto (tgt := 211) C0.hx C0.hb dX2_readValue_204 (by decide) ?_
  obtain rfl := Option.some.inj h
  exact g_vret C0 hW rfl dX2_readValue_211
set_option maxRecDepth 100000 in
set_option maxHeartbeats 4000000 in
theorem w_X2_readValue_124 {p : Program} {l : Launch} {e : Env} {s : State} {m : MethodId} {args : Array Value} {below : List Frame} {meth : Method} {c : Code} {G : GL} {ids : List Nat} {y : MS} {o : Nat → Int32}  {q : CS} {val : Int32 → CS → Option CS} {k : Nat} (hval : ∀ (d : Int32) (x q : CS), val d x = some q → Met l yX2_readValue (.code yX2_readValue cX2_readValue 3 (Option.none : Option Jvm.ClassFile.FieldType) :: gT) (g_rm k 0 0) (va_Pc [.ref (g_ad G 162), .int d] (g_P G ids (x, y, o))) (g_Qv G ids (q, y, o)) 0 0 (g_A G)) (hk0 : 12 ≤ k) {k2 : Nat} (hk2 : k + 4 ≤ k2) (h162 : 162 ∈ ids) (h163 : 163 ∈ ids) (C0 : g_X G ids p s m args meth c cX2_readValue 3 RX2 (Option.none : Option Jvm.ClassFile.FieldType))  : ∀   (x : CS) (H : Heap) (locs : List Loc) (ls : Array Slot),  f_X2_readValue_124 val x = some q → g_W G ids (x, y, o) s.heap H locs → lv_has ls 3 [(0, .ref (g_ad G (162)))] → W p l e (g_rm k2 0 0) s m args below meth c H locs 0 0 (MQ below (g_Qv G ids (q, y, o)) args s 0 0 (g_A G)) (F0 m 124 ls []) := by
  intro x H locs ls h hW hl
  unfold f_X2_readValue_124 at h
  refine lv_aload_n C0.hx C0.hb dX2_readValue_124 rfl (lv_at hl 0 rfl) ?_
  refine gf_X2_5 C0 hW h162 k_162 tf_X2_25 dX2_readValue_125 ?_
  refine lv_astore_n (lv' := [(2, .ref (g_sg G (x.2 162 5))), (0, .ref (g_ad G (162)))]) C0.hx C0.hb dX2_readValue_128 rfl hl (by decide) rfl (fun ls hl => ?_)
  refine lv_aload_n C0.hx C0.hb dX2_readValue_129 rfl (lv_at hl 1 rfl) ?_
  obtain ⟨q21, hq21, h⟩ := Option.bind_eq_some_iff.mp h
  refine g_callv hW (g_runV (As := []) (rest := []) C0 hW (c_X2_step h162 h163 hq21) (g_cwOf (n := 0) tc_X2_step tn_X2 md_X2_step (by decide) (by omega)) tm_X2_60 ti_X2_step ts_X2_step h162 (g_c11 k_162) rfl rfl hl.1 rfl (Nat.le_of_ble_eq_true rfl) dX2_readValue_130) (fun H locs hW => ?_)
  refine lv_aload_n C0.hx C0.hb dX2_readValue_133 rfl (lv_at hl 1 rfl) ?_
  refine g_sign C0 hW 18 (by decide) tf_X2_309 dX2_readValue_134 ?_
  obtain ⟨q22, hq22, h⟩ := Option.bind_eq_some_iff.mp h
  refine g_callv hW (g_runV (As := [.ref (g_sg G (18))]) (rest := []) C0 hW (c_X2_expect h162 h163 hq22) (g_cwOf (n := 1) tc_X2_expect tn_X2 md_X2_expect (by decide) (by omega)) tm_X2_94 ti_X2_expect ts_X2_expect h162 (g_c11 k_162) rfl rfl hl.1 rfl (Nat.le_of_ble_eq_true rfl) dX2_readValue_137) (fun H locs hW => ?_)
  refine lv_aload_n C0.hx C0.hb dX2_readValue_140 rfl (lv_at hl 1 rfl) ?_
  obtain ⟨hk23, h⟩ := g_if h
  refine gf_X2_1 C0 hW h162 k_162 tf_X2_44 dX2_readValue_141 ?_
  refine lv_aload_n C0.hx C0.hb dX2_readValue_144 rfl (lv_at hl 0 rfl) ?_
  refine lv_aload_n C0.hx C0.hb dX2_readValue_145 rfl (lv_at hl 1 rfl) ?_
  obtain ⟨q24, hq24, h⟩ := Option.bind_eq_some_iff.mp h
  refine g_calli hW (g_runV (As := []) (rest := [.ref (g_sg G (x.2 162 5)), .ref (g_ad G (q22.2 162 1))]) C0 hW (c_X2_readKnownName h162 h163 hq24) (g_cwOf (n := 0) tc_X2_readKnownName tn_X2 md_X2_readKnownName (by decide) (by omega)) tm_X2_191 ti_X2_readKnownName ts_X2_readKnownName h162 (g_c11 k_162) rfl rfl hl.1 rfl (Nat.le_of_ble_eq_true rfl) dX2_readValue_146) (fun H locs hW => ?_)
  obtain ⟨q25, hq25, h⟩ := Option.bind_eq_some_iff.mp h
  refine g_callv hW (g_runV (As := [.ref (g_sg G (x.2 162 5)), .int (q24.1)]) (rest := []) C0 hW (c_X5_addSign hk23 hq25) (g_cwOf (n := 2) tc_X5_addSign tn_X5 md_X5_addSign (by decide) (by omega)) tm_X2_220 ti_X5_addSign ts_X5_addSign (C0.mem (kl7 hk23)) (g_c7 hk23) rfl rfl hl.1 rfl (Nat.le_of_ble_eq_true rfl) dX2_readValue_149) (fun H locs hW => ?_)
  refine lv_goto (tgt := 211) C0.hx C0.hb dX2_readValue_152 (by decide) ?_
  obtain rfl := Option.some.inj h
  exact g_vret C0 hW rfl dX2_readValue_211
set_option maxRecDepth 100000 in
set_option maxHeartbeats 4000000 in
theorem w_X2_readValue_96 {p : Program} {l : Launch} {e : Env} {s : State} {m : MethodId} {args : Array Value} {below : List Frame} {meth : Method} {c : Code} {G : GL} {ids : List Nat} {y : MS} {o : Nat → Int32}  {q : CS} {val : Int32 → CS → Option CS} {k : Nat} (hval : ∀ (d : Int32) (x q : CS), val d x = some q → Met l yX2_readValue (.code yX2_readValue cX2_readValue 3 (Option.none : Option Jvm.ClassFile.FieldType) :: gT) (g_rm k 0 0) (va_Pc [.ref (g_ad G 162), .int d] (g_P G ids (x, y, o))) (g_Qv G ids (q, y, o)) 0 0 (g_A G)) (hk0 : 12 ≤ k) {k2 : Nat} (hk2 : k + 4 ≤ k2) (h162 : 162 ∈ ids) (h163 : 163 ∈ ids) (C0 : g_X G ids p s m args meth c cX2_readValue 3 RX2 (Option.none : Option Jvm.ClassFile.FieldType))  : ∀  (l1 : Int32) (x : CS) (H : Heap) (locs : List Loc) (ls : Array Slot),  f_X2_readValue_96 val l1 x = some q → g_W G ids (x, y, o) s.heap H locs → lv_has ls 3 [(0, .ref (g_ad G (162))), (1, .int (l1))] → W p l e (g_rm k2 0 0) s m args below meth c H locs 0 0 (MQ below (g_Qv G ids (q, y, o)) args s 0 0 (g_A G)) (F0 m 96 ls []) := by
  intro l1 x H locs ls h hW hl
  unfold f_X2_readValue_96 at h
  refine lv_aload_n C0.hx C0.hb dX2_readValue_96 rfl (lv_at hl 0 rfl) ?_
  refine lv_iload_n C0.hx C0.hb dX2_readValue_97 rfl (lv_at hl 1 rfl) ?_
  obtain ⟨q20, hq20, h⟩ := Option.bind_eq_some_iff.mp h
  refine g_callv hW (g_runV (As := [.int (l1)]) (rest := []) C0 hW (c_X2_readChoice hval (by omega) h162 h163 hq20) (g_cwOf (n := 1) tc_X2_readChoice tn_X2 md_X2_readChoice (by decide) (by omega)) tm_X2_300 ti_X2_readChoice ts_X2_readChoice h162 (g_c11 k_162) rfl rfl hl.1 rfl (Nat.le_of_ble_eq_true rfl) dX2_readValue_98) (fun H locs hW => ?_)
  refine lv_goto (tgt := 211) C0.hx C0.hb dX2_readValue_101 (by decide) ?_
  obtain rfl := Option.some.inj h
  exact g_vret C0 hW rfl dX2_readValue_211
set_option maxRecDepth 100000 in
set_option maxHeartbeats 4000000 in
theorem c_X2_readValue {l : Launch} {G : GL} {ids : List Nat} {y : MS} {o : Nat → Int32} (h162 : 162 ∈ ids) (h163 : 163 ∈ ids) : ∀ (n : Nat) (p1 : Int32) (x : CS) (q : CS), f_X2_readValue n p1 x = some q → Met l yX2_readValue (.code yX2_readValue cX2_readValue 3 (Option.none : Option Jvm.ClassFile.FieldType) :: gT) (g_rm (12 + 4 * n) 0 0) (va_Pc [.ref (g_ad G (162)), .int (p1)] (g_P G ids (x, y, o))) (g_Qv G ids (q, y, o)) 0 0 (g_A G) := by
  intro n
  induction n with
  | zero =>
    intro p1 x q h
    exact absurd h (by simp [f_X2_readValue])
  | succ n ihn =>
    intro p1 x q h
    unfold f_X2_readValue at h
    refine g_entry (by decide) (Nat.le_of_ble_eq_true rfl) (fun p e s m args below meth c ls C0 hl hW _ => ?_)
    have hl : lv_has ls 3 [(0, .ref (g_ad G (162))), (1, .int (p1))] := hl
    refine lv_aload_n C0.hx C0.hb dX2_readValue_0 rfl (lv_at hl 0 rfl) ?_
    refine gf_X2_5 C0 hW h162 k_162 tf_X2_25 dX2_readValue_1 ?_
    refine g_sign C0 hW 33 (by decide) tf_X2_273 dX2_readValue_4 ?_
    refine g_acmp_ne (tgt := 40) C0 dX2_readValue_7 (by decide) (fun hc1 => ?_) (fun hc1 => ?_)
    · replace h := (if_neg hc1).symm.trans h
      refine lv_aload_n C0.hx C0.hb dX2_readValue_40 rfl (lv_at hl 0 rfl) ?_
      refine gf_X2_5 C0 hW h162 k_162 tf_X2_25 dX2_readValue_41 ?_
      refine g_sign C0 hW 26 (by decide) tf_X2_288 dX2_readValue_44 ?_
      refine g_acmp_ne (tgt := 76) C0 dX2_readValue_47 (by decide) (fun hc2 => ?_) (fun hc2 => ?_)
      · replace h := (if_neg hc2).symm.trans h
        refine lv_aload_n C0.hx C0.hb dX2_readValue_76 rfl (lv_at hl 0 rfl) ?_
        refine gf_X2_5 C0 hW h162 k_162 tf_X2_25 dX2_readValue_77 ?_
        refine g_sign C0 hW 24 (by decide) tf_X2_294 dX2_readValue_80 ?_
        refine g_acmp_eq (tgt := 96) C0 dX2_readValue_83 (by decide) (fun hc3 => ?_) (fun hc3 => ?_)
        · replace h := (if_pos hc3).symm.trans h
          exact w_X2_readValue_96 ihn (by omega) (by omega) h162 h163 C0 _ _ _ _ _ h hW (lv_sub hl [0, 1] rfl)
        · replace h := (if_neg hc3).symm.trans h
          refine lv_aload_n C0.hx C0.hb dX2_readValue_86 rfl (lv_at hl 0 rfl) ?_
          refine gf_X2_5 C0 hW h162 k_162 tf_X2_25 dX2_readValue_87 ?_
          refine g_sign C0 hW 25 (by decide) tf_X2_297 dX2_readValue_90 ?_
          refine g_acmp_ne (tgt := 104) C0 dX2_readValue_93 (by decide) (fun hc4 => ?_) (fun hc4 => ?_)
          · replace h := (if_neg hc4).symm.trans h
            refine lv_aload_n C0.hx C0.hb dX2_readValue_104 rfl (lv_at hl 0 rfl) ?_
            refine gf_X2_5 C0 hW h162 k_162 tf_X2_25 dX2_readValue_105 ?_
            refine g_sign C0 hW 16 (by decide) tf_X2_303 dX2_readValue_108 ?_
            refine g_acmp_eq (tgt := 124) C0 dX2_readValue_111 (by decide) (fun hc5 => ?_) (fun hc5 => ?_)
            · replace h := (if_pos hc5).symm.trans h
              exact w_X2_readValue_124 ihn (by omega) (by omega) h162 h163 C0 _ _ _ _ h hW (lv_sub hl [0] rfl)
            · replace h := (if_neg hc5).symm.trans h
              refine lv_aload_n C0.hx C0.hb dX2_readValue_114 rfl (lv_at hl 0 rfl) ?_
              refine gf_X2_5 C0 hW h162 k_162 tf_X2_25 dX2_readValue_115 ?_
              refine g_sign C0 hW 17 (by decide) tf_X2_306 dX2_readValue_118 ?_
              refine g_acmp_ne (tgt := 155) C0 dX2_readValue_121 (by decide) (fun hc6 => ?_) (fun hc6 => ?_)
              · replace h := (if_neg hc6).symm.trans h
                refine lv_aload_n C0.hx C0.hb dX2_readValue_155 rfl (lv_at hl 0 rfl) ?_
                refine gf_X2_5 C0 hW h162 k_162 tf_X2_25 dX2_readValue_156 ?_
                refine g_sign C0 hW 42 (by decide) tf_X2_178 dX2_readValue_159 ?_
                refine g_acmp_eq (tgt := 185) C0 dX2_readValue_162 (by decide) (fun hc7 => ?_) (fun hc7 => ?_)
                · replace h := (if_pos hc7).symm.trans h
                  exact w_X2_readValue_185 ihn (by omega) (by omega) h162 h163 C0 _ _ _ _ h hW (lv_sub hl [0] rfl)
                · replace h := (if_neg hc7).symm.trans h
                  refine lv_aload_n C0.hx C0.hb dX2_readValue_165 rfl (lv_at hl 0 rfl) ?_
                  refine gf_X2_5 C0 hW h162 k_162 tf_X2_25 dX2_readValue_166 ?_
                  refine g_sign C0 hW 14 (by decide) tf_X2_312 dX2_readValue_169 ?_
                  refine g_acmp_eq (tgt := 185) C0 dX2_readValue_172 (by decide) (fun hc8 => ?_) (fun hc8 => ?_)
                  · replace h := (if_pos hc8).symm.trans h
                    exact w_X2_readValue_185 ihn (by omega) (by omega) h162 h163 C0 _ _ _ _ h hW (lv_sub hl [0] rfl)
                  · replace h := (if_neg hc8).symm.trans h
                    refine lv_aload_n C0.hx C0.hb dX2_readValue_175 rfl (lv_at hl 0 rfl) ?_
                    refine gf_X2_5 C0 hW h162 k_162 tf_X2_25 dX2_readValue_176 ?_
                    refine g_sign C0 hW 15 (by decide) tf_X2_315 dX2_readValue_179 ?_
                    refine g_acmp_ne (tgt := 207) C0 dX2_readValue_182 (by decide) (fun hc9 => ?_) (fun hc9 => ?_)
                    · replace h := (if_neg hc9).symm.trans h
                      refine lv_aload_n C0.hx C0.hb dX2_readValue_207 rfl (lv_at hl 0 rfl) ?_
                      obtain ⟨q10, hq10, h⟩ := Option.bind_eq_some_iff.mp h
                      refine g_callv hW (g_runV (As := []) (rest := []) C0 hW (c_X2_refuse h162 h163 hq10) (g_cwOf (n := 0) tc_X2_refuse tn_X2 md_X2_refuse (by decide) (by omega)) tm_X2_108 ti_X2_refuse ts_X2_refuse h162 (g_c11 k_162) rfl rfl hl.1 rfl (Nat.le_of_ble_eq_true rfl) dX2_readValue_208) (fun H locs hW => ?_)
                      obtain rfl := Option.some.inj h
                      exact g_vret C0 hW rfl dX2_readValue_211
                    · replace h := (if_pos hc9).symm.trans h
                      exact w_X2_readValue_185 ihn (by omega) (by omega) h162 h163 C0 _ _ _ _ h hW (lv_sub hl [0] rfl)
              · replace h := (if_pos hc6).symm.trans h
                exact w_X2_readValue_124 ihn (by omega) (by omega) h162 h163 C0 _ _ _ _ h hW (lv_sub hl [0] rfl)
          · replace h := (if_pos hc4).symm.trans h
            exact w_X2_readValue_96 ihn (by omega) (by omega) h162 h163 C0 _ _ _ _ _ h hW (lv_sub hl [0, 1] rfl)
      · replace h := (if_pos hc2).symm.trans h
        refine lv_aload_n C0.hx C0.hb dX2_readValue_50 rfl (lv_at hl 0 rfl) ?_
        refine lv_iload_n C0.hx C0.hb dX2_readValue_51 rfl (lv_at hl 1 rfl) ?_
        obtain ⟨q11, hq11, h⟩ := Option.bind_eq_some_iff.mp h
        refine g_callv hW (g_runV (As := [.int (p1)]) (rest := []) C0 hW (c_X2_requireDepth h162 h163 hq11) (g_cwOf (n := 1) tc_X2_requireDepth tn_X2 md_X2_requireDepth (by decide) (by omega)) tm_X2_233 ti_X2_requireDepth ts_X2_requireDepth h162 (g_c11 k_162) rfl rfl hl.1 rfl (Nat.le_of_ble_eq_true rfl) dX2_readValue_52) (fun H locs hW => ?_)
        refine lv_aload_n C0.hx C0.hb dX2_readValue_55 rfl (lv_at hl 0 rfl) ?_
        obtain ⟨q12, hq12, h⟩ := Option.bind_eq_some_iff.mp h
        refine g_callv hW (g_runV (As := []) (rest := []) C0 hW (c_X2_step h162 h163 hq12) (g_cwOf (n := 0) tc_X2_step tn_X2 md_X2_step (by decide) (by omega)) tm_X2_60 ti_X2_step ts_X2_step h162 (g_c11 k_162) rfl rfl hl.1 rfl (Nat.le_of_ble_eq_true rfl) dX2_readValue_56) (fun H locs hW => ?_)
        refine lv_aload_n C0.hx C0.hb dX2_readValue_59 rfl (lv_at hl 0 rfl) ?_
        refine lv_iload_n C0.hx C0.hb dX2_readValue_60 rfl (lv_at hl 1 rfl) ?_
        refine lv_iconst (v := (1 : Int32)) C0.hx C0.hb dX2_readValue_61 (by decide) ?_
        refine lv_iadd C0.hx C0.hb dX2_readValue_62 ?_
        obtain ⟨q13, hq13, h⟩ := Option.bind_eq_some_iff.mp h
        refine g_callv hW (g_runV (As := [.int (p1 + (1 : Int32))]) (rest := []) C0 hW (c_X2_readSum ihn (by omega) h162 h163 hq13) (g_cwOf (n := 1) tc_X2_readSum tn_X2 md_X2_readSum (by decide) (by omega)) tm_X2_201 ti_X2_readSum ts_X2_readSum h162 (g_c11 k_162) rfl rfl hl.1 rfl (Nat.le_of_ble_eq_true rfl) dX2_readValue_63) (fun H locs hW => ?_)
        refine lv_aload_n C0.hx C0.hb dX2_readValue_66 rfl (lv_at hl 0 rfl) ?_
        refine g_sign C0 hW 27 (by decide) tf_X2_291 dX2_readValue_67 ?_
        obtain ⟨q14, hq14, h⟩ := Option.bind_eq_some_iff.mp h
        refine g_callv hW (g_runV (As := [.ref (g_sg G (27))]) (rest := []) C0 hW (c_X2_expect h162 h163 hq14) (g_cwOf (n := 1) tc_X2_expect tn_X2 md_X2_expect (by decide) (by omega)) tm_X2_94 ti_X2_expect ts_X2_expect h162 (g_c11 k_162) rfl rfl hl.1 rfl (Nat.le_of_ble_eq_true rfl) dX2_readValue_70) (fun H locs hW => ?_)
        refine lv_goto (tgt := 211) C0.hx C0.hb dX2_readValue_73 (by decide) ?_
        obtain rfl := Option.some.inj h
        exact g_vret C0 hW rfl dX2_readValue_211
    · replace h := (if_pos hc1).symm.trans h
      refine lv_aload_n C0.hx C0.hb dX2_readValue_10 rfl (lv_at hl 0 rfl) ?_
      refine lv_iload_n C0.hx C0.hb dX2_readValue_11 rfl (lv_at hl 1 rfl) ?_
      obtain ⟨q15, hq15, h⟩ := Option.bind_eq_some_iff.mp h
      refine g_callv hW (g_runV (As := [.int (p1)]) (rest := []) C0 hW (c_X2_requireDepth h162 h163 hq15) (g_cwOf (n := 1) tc_X2_requireDepth tn_X2 md_X2_requireDepth (by decide) (by omega)) tm_X2_233 ti_X2_requireDepth ts_X2_requireDepth h162 (g_c11 k_162) rfl rfl hl.1 rfl (Nat.le_of_ble_eq_true rfl) dX2_readValue_12) (fun H locs hW => ?_)
      refine lv_aload_n C0.hx C0.hb dX2_readValue_15 rfl (lv_at hl 0 rfl) ?_
      obtain ⟨q16, hq16, h⟩ := Option.bind_eq_some_iff.mp h
      refine g_callv hW (g_runV (As := []) (rest := []) C0 hW (c_X2_step h162 h163 hq16) (g_cwOf (n := 0) tc_X2_step tn_X2 md_X2_step (by decide) (by omega)) tm_X2_60 ti_X2_step ts_X2_step h162 (g_c11 k_162) rfl rfl hl.1 rfl (Nat.le_of_ble_eq_true rfl) dX2_readValue_16) (fun H locs hW => ?_)
      refine lv_aload_n C0.hx C0.hb dX2_readValue_19 rfl (lv_at hl 0 rfl) ?_
      refine lv_iload_n C0.hx C0.hb dX2_readValue_20 rfl (lv_at hl 1 rfl) ?_
      refine lv_iconst (v := (1 : Int32)) C0.hx C0.hb dX2_readValue_21 (by decide) ?_
      refine lv_iadd C0.hx C0.hb dX2_readValue_22 ?_
      obtain ⟨q17, hq17, h⟩ := Option.bind_eq_some_iff.mp h
      refine g_callv hW (g_runV (As := [.int (p1 + (1 : Int32))]) (rest := []) C0 hW (ihn _ _ _ hq17) (g_cwOf (n := 1) tc_X2_readValue tn_X2 md_X2_readValue (by decide) (by omega)) tm_X2_276 ti_X2_readValue ts_X2_readValue h162 (g_c11 k_162) rfl rfl hl.1 rfl (Nat.le_of_ble_eq_true rfl) dX2_readValue_23) (fun H locs hW => ?_)
      refine lv_aload_n C0.hx C0.hb dX2_readValue_26 rfl (lv_at hl 0 rfl) ?_
      obtain ⟨hk18, h⟩ := g_if h
      refine gf_X2_1 C0 hW h162 k_162 tf_X2_44 dX2_readValue_27 ?_
      refine g_sign C0 hW 43 (by decide) tf_X2_285 dX2_readValue_30 ?_
      refine lv_iconst (v := (0 : Int32)) C0.hx C0.hb dX2_readValue_33 (by decide) ?_
      obtain ⟨q19, hq19, h⟩ := Option.bind_eq_some_iff.mp h
      refine g_callv hW (g_runV (As := [.ref (g_sg G (43)), .int ((0 : Int32))]) (rest := []) C0 hW (c_X5_addSign hk18 hq19) (g_cwOf (n := 2) tc_X5_addSign tn_X5 md_X5_addSign (by decide) (by omega)) tm_X2_220 ti_X5_addSign ts_X5_addSign (C0.mem (kl7 hk18)) (g_c7 hk18) rfl rfl hl.1 rfl (Nat.le_of_ble_eq_true rfl) dX2_readValue_34) (fun H locs hW => ?_)
      refine lv_goto (tgt := 211) C0.hx C0.hb dX2_readValue_37 (by decide) ?_
      obtain rfl := Option.some.inj h
      exact g_vret C0 hW rfl dX2_readValue_211
set_option maxRecDepth 100000 in
set_option maxHeartbeats 4000000 in
theorem w_X2_readBoth_7 {p : Program} {l : Launch} {e : Env} {s : State} {m : MethodId} {args : Array Value} {below : List Frame} {meth : Method} {c : Code} {G : GL} {ids : List Nat} {y : MS} {o : Nat → Int32}  {q : CS} {sgl : Int32 → CS → Option CS} {k : Nat} (hsgl : ∀ (d : Int32) (x q : CS), sgl d x = some q → Met l yX2_readSingle (.code yX2_readSingle cX2_readSingle 3 (Option.none : Option Jvm.ClassFile.FieldType) :: gT) (g_rm k 0 0) (va_Pc [.ref (g_ad G 162), .int d] (g_P G ids (x, y, o))) (g_Qv G ids (q, y, o)) 0 0 (g_A G)) (hk0 : 66 ≤ k) (h162 : 162 ∈ ids) (h163 : 163 ∈ ids) (C0 : g_X G ids p s m args meth c cX2_readBoth 3 RX2 (Option.none : Option Jvm.ClassFile.FieldType))  : ∀ (n : Nat) (l1 : Int32) (l2 : Int32) (x : CS) (H : Heap) (locs : List Loc) (ls : Array Slot),  f_X2_readBoth_7 sgl n l1 l2 x = some q → g_W G ids (x, y, o) s.heap H locs → lv_has ls 3 [(0, .ref (g_ad G (162))), (1, .int (l1)), (2, .int (l2))] → W p l e (g_rm (k + 1) 0 0) s m args below meth c H locs 0 0 (MQ below (g_Qv G ids (q, y, o)) args s 0 0 (g_A G)) (F0 m 7 ls []) := by
  intro n
  induction n with
  | zero =>
    intro l1 l2 x H locs ls h hW hl
    exact absurd h (by simp [f_X2_readBoth_7])
  | succ n ih =>
    intro l1 l2 x H locs ls h hW hl
    unfold f_X2_readBoth_7 at h
    refine lv_iload_n C0.hx C0.hb dX2_readBoth_7 rfl (lv_at hl 2 rfl) ?_
    refine lv_sipush (v := (400 : Int32)) C0.hx C0.hb dX2_readBoth_8 (by decide) ?_
    refine lv_icmp_ge (tgt := 50) C0.hx C0.hb dX2_readBoth_11 (by decide) (fun hc2 => ?_) (fun hc2 => ?_)
    · replace h := (if_pos hc2).symm.trans h
      obtain rfl := Option.some.inj h
      exact g_vret C0 hW rfl dX2_readBoth_50
    · replace h := (if_neg hc2).symm.trans h
      refine lv_aload_n C0.hx C0.hb dX2_readBoth_14 rfl (lv_at hl 0 rfl) ?_
      refine gf_X2_5 C0 hW h162 k_162 tf_X2_25 dX2_readBoth_15 ?_
      refine g_sign C0 hW 22 (by decide) tf_X2_227 dX2_readBoth_18 ?_
      refine g_acmp_ne (tgt := 50) C0 dX2_readBoth_21 (by decide) (fun hc3 => ?_) (fun hc3 => ?_)
      · replace h := (if_neg hc3).symm.trans h
        obtain rfl := Option.some.inj h
        exact g_vret C0 hW rfl dX2_readBoth_50
      · replace h := (if_pos hc3).symm.trans h
        refine lv_aload_n C0.hx C0.hb dX2_readBoth_24 rfl (lv_at hl 0 rfl) ?_
        obtain ⟨q4, hq4, h⟩ := Option.bind_eq_some_iff.mp h
        refine g_callv hW (g_runV (As := []) (rest := []) C0 hW (c_X2_step h162 h163 hq4) (g_cwOf (n := 0) tc_X2_step tn_X2 md_X2_step (by decide) (by omega)) tm_X2_60 ti_X2_step ts_X2_step h162 (g_c11 k_162) rfl rfl hl.1 rfl (Nat.le_of_ble_eq_true rfl) dX2_readBoth_25) (fun H locs hW => ?_)
        refine lv_aload_n C0.hx C0.hb dX2_readBoth_28 rfl (lv_at hl 0 rfl) ?_
        refine lv_iload_n C0.hx C0.hb dX2_readBoth_29 rfl (lv_at hl 1 rfl) ?_
        obtain ⟨q5, hq5, h⟩ := Option.bind_eq_some_iff.mp h
        refine g_callv hW (g_runV (As := [.int (l1)]) (rest := []) C0 hW (hsgl _ _ _ hq5) (g_cwOf (n := 1) tc_X2_readSingle tn_X2 md_X2_readSingle (by decide) (by omega)) tm_X2_224 ti_X2_readSingle ts_X2_readSingle h162 (g_c11 k_162) rfl rfl hl.1 rfl (Nat.le_of_ble_eq_true rfl) dX2_readBoth_30) (fun H locs hW => ?_)
        refine lv_aload_n C0.hx C0.hb dX2_readBoth_33 rfl (lv_at hl 0 rfl) ?_
        obtain ⟨hk6, h⟩ := g_if h
        refine gf_X2_1 C0 hW h162 k_162 tf_X2_44 dX2_readBoth_34 ?_
        refine g_sign C0 hW 22 (by decide) tf_X2_227 dX2_readBoth_37 ?_
        refine lv_iconst (v := (0 : Int32)) C0.hx C0.hb dX2_readBoth_40 (by decide) ?_
        obtain ⟨q7, hq7, h⟩ := Option.bind_eq_some_iff.mp h
        refine g_callv hW (g_runV (As := [.ref (g_sg G (22)), .int ((0 : Int32))]) (rest := []) C0 hW (c_X5_addSign hk6 hq7) (g_cwOf (n := 2) tc_X5_addSign tn_X5 md_X5_addSign (by decide) (by omega)) tm_X2_220 ti_X5_addSign ts_X5_addSign (C0.mem (kl7 hk6)) (g_c7 hk6) rfl rfl hl.1 rfl (Nat.le_of_ble_eq_true rfl) dX2_readBoth_41) (fun H locs hW => ?_)
        refine lv_iinc (v := l2 + (1 : Int32)) (lv' := [(2, .int (l2 + (1 : Int32))), (0, .ref (g_ad G (162))), (1, .int (l1))]) C0.hx C0.hb dX2_readBoth_44 hl (k := 2) rfl rfl (by decide) rfl (fun ls hl => ?_)
        refine lv_goto (tgt := 7) C0.hx C0.hb dX2_readBoth_47 (by decide) ?_
        exact ih _ _ _ _ _ _ h hW (lv_sub hl [1, 2, 0] rfl)
set_option maxRecDepth 100000 in
set_option maxHeartbeats 4000000 in
theorem c_X2_readBoth {l : Launch} {G : GL} {ids : List Nat} {y : MS} {o : Nat → Int32} {x : CS} {p1 : Int32} {q : CS} {sgl : Int32 → CS → Option CS} {k : Nat} (hsgl : ∀ (d : Int32) (x q : CS), sgl d x = some q → Met l yX2_readSingle (.code yX2_readSingle cX2_readSingle 3 (Option.none : Option Jvm.ClassFile.FieldType) :: gT) (g_rm k 0 0) (va_Pc [.ref (g_ad G 162), .int d] (g_P G ids (x, y, o))) (g_Qv G ids (q, y, o)) 0 0 (g_A G)) (hk0 : 66 ≤ k) (h162 : 162 ∈ ids) (h163 : 163 ∈ ids)  (h : f_X2_readBoth sgl p1 x = some q) : Met l yX2_readBoth (.code yX2_readBoth cX2_readBoth 3 (Option.none : Option Jvm.ClassFile.FieldType) :: gT) (g_rm (k + 1) 0 0) (va_Pc [.ref (g_ad G (162)), .int (p1)] (g_P G ids (x, y, o))) (g_Qv G ids (q, y, o)) 0 0 (g_A G) := by
  unfold f_X2_readBoth at h
  refine g_entry (by decide) (Nat.le_of_ble_eq_true rfl) (fun p e s m args below meth c ls C0 hl hW _ => ?_)
  have hl : lv_has ls 3 [(0, .ref (g_ad G (162))), (1, .int (p1))] := hl
  refine lv_aload_n C0.hx C0.hb dX2_readBoth_0 rfl (lv_at hl 0 rfl) ?_
  refine lv_iload_n C0.hx C0.hb dX2_readBoth_1 rfl (lv_at hl 1 rfl) ?_
  obtain ⟨q1, hq1, h⟩ := Option.bind_eq_some_iff.mp h
  refine g_callv hW (g_runV (As := [.int (p1)]) (rest := []) C0 hW (hsgl _ _ _ hq1) (g_cwOf (n := 1) tc_X2_readSingle tn_X2 md_X2_readSingle (by decide) (by omega)) tm_X2_224 ti_X2_readSingle ts_X2_readSingle h162 (g_c11 k_162) rfl rfl hl.1 rfl (Nat.le_of_ble_eq_true rfl) dX2_readBoth_2) (fun H locs hW => ?_)
  refine lv_iconst (v := (0 : Int32)) C0.hx C0.hb dX2_readBoth_5 (by decide) ?_
  refine lv_istore_n (lv' := [(2, .int ((0 : Int32))), (0, .ref (g_ad G (162))), (1, .int (p1))]) C0.hx C0.hb dX2_readBoth_6 rfl hl (by decide) rfl (fun ls hl => ?_)
  exact w_X2_readBoth_7 hsgl (by omega) h162 h163 C0 g_fuel _ _ _ _ _ _ h hW (lv_sub hl [1, 2, 0] rfl)
set_option maxRecDepth 100000 in
set_option maxHeartbeats 4000000 in
theorem w_X2_readTest_7 {p : Program} {l : Launch} {e : Env} {s : State} {m : MethodId} {args : Array Value} {below : List Frame} {meth : Method} {c : Code} {G : GL} {ids : List Nat} {y : MS} {o : Nat → Int32}  {q : CS} {sgl : Int32 → CS → Option CS} {k : Nat} (hsgl : ∀ (d : Int32) (x q : CS), sgl d x = some q → Met l yX2_readSingle (.code yX2_readSingle cX2_readSingle 3 (Option.none : Option Jvm.ClassFile.FieldType) :: gT) (g_rm k 0 0) (va_Pc [.ref (g_ad G 162), .int d] (g_P G ids (x, y, o))) (g_Qv G ids (q, y, o)) 0 0 (g_A G)) (hk0 : 66 ≤ k) (h162 : 162 ∈ ids) (h163 : 163 ∈ ids) (C0 : g_X G ids p s m args meth c cX2_readTest 3 RX2 (Option.none : Option Jvm.ClassFile.FieldType))  : ∀ (n : Nat) (l1 : Int32) (l2 : Int32) (x : CS) (H : Heap) (locs : List Loc) (ls : Array Slot),  f_X2_readTest_7 sgl n l1 l2 x = some q → g_W G ids (x, y, o) s.heap H locs → lv_has ls 3 [(0, .ref (g_ad G (162))), (1, .int (l1)), (2, .int (l2))] → W p l e (g_rm (k + 2) 0 0) s m args below meth c H locs 0 0 (MQ below (g_Qv G ids (q, y, o)) args s 0 0 (g_A G)) (F0 m 7 ls []) := by
  intro n
  induction n with
  | zero =>
    intro l1 l2 x H locs ls h hW hl
    exact absurd h (by simp [f_X2_readTest_7])
  | succ n ih =>
    intro l1 l2 x H locs ls h hW hl
    unfold f_X2_readTest_7 at h
    refine lv_iload_n C0.hx C0.hb dX2_readTest_7 rfl (lv_at hl 2 rfl) ?_
    refine lv_sipush (v := (400 : Int32)) C0.hx C0.hb dX2_readTest_8 (by decide) ?_
    refine lv_icmp_ge (tgt := 50) C0.hx C0.hb dX2_readTest_11 (by decide) (fun hc2 => ?_) (fun hc2 => ?_)
    · replace h := (if_pos hc2).symm.trans h
      obtain rfl := Option.some.inj h
      exact g_vret C0 hW rfl dX2_readTest_50
    · replace h := (if_neg hc2).symm.trans h
      refine lv_aload_n C0.hx C0.hb dX2_readTest_14 rfl (lv_at hl 0 rfl) ?_
      refine gf_X2_5 C0 hW h162 k_162 tf_X2_25 dX2_readTest_15 ?_
      refine g_sign C0 hW 23 (by decide) tf_X2_217 dX2_readTest_18 ?_
      refine g_acmp_ne (tgt := 50) C0 dX2_readTest_21 (by decide) (fun hc3 => ?_) (fun hc3 => ?_)
      · replace h := (if_neg hc3).symm.trans h
        obtain rfl := Option.some.inj h
        exact g_vret C0 hW rfl dX2_readTest_50
      · replace h := (if_pos hc3).symm.trans h
        refine lv_aload_n C0.hx C0.hb dX2_readTest_24 rfl (lv_at hl 0 rfl) ?_
        obtain ⟨q4, hq4, h⟩ := Option.bind_eq_some_iff.mp h
        refine g_callv hW (g_runV (As := []) (rest := []) C0 hW (c_X2_step h162 h163 hq4) (g_cwOf (n := 0) tc_X2_step tn_X2 md_X2_step (by decide) (by omega)) tm_X2_60 ti_X2_step ts_X2_step h162 (g_c11 k_162) rfl rfl hl.1 rfl (Nat.le_of_ble_eq_true rfl) dX2_readTest_25) (fun H locs hW => ?_)
        refine lv_aload_n C0.hx C0.hb dX2_readTest_28 rfl (lv_at hl 0 rfl) ?_
        refine lv_iload_n C0.hx C0.hb dX2_readTest_29 rfl (lv_at hl 1 rfl) ?_
        obtain ⟨q5, hq5, h⟩ := Option.bind_eq_some_iff.mp h
        refine g_callv hW (g_runV (As := [.int (l1)]) (rest := []) C0 hW (c_X2_readBoth hsgl (by omega) h162 h163 hq5) (g_cwOf (n := 1) tc_X2_readBoth tn_X2 md_X2_readBoth (by decide) (by omega)) tm_X2_214 ti_X2_readBoth ts_X2_readBoth h162 (g_c11 k_162) rfl rfl hl.1 rfl (Nat.le_of_ble_eq_true rfl) dX2_readTest_30) (fun H locs hW => ?_)
        refine lv_aload_n C0.hx C0.hb dX2_readTest_33 rfl (lv_at hl 0 rfl) ?_
        obtain ⟨hk6, h⟩ := g_if h
        refine gf_X2_1 C0 hW h162 k_162 tf_X2_44 dX2_readTest_34 ?_
        refine g_sign C0 hW 23 (by decide) tf_X2_217 dX2_readTest_37 ?_
        refine lv_iconst (v := (0 : Int32)) C0.hx C0.hb dX2_readTest_40 (by decide) ?_
        obtain ⟨q7, hq7, h⟩ := Option.bind_eq_some_iff.mp h
        refine g_callv hW (g_runV (As := [.ref (g_sg G (23)), .int ((0 : Int32))]) (rest := []) C0 hW (c_X5_addSign hk6 hq7) (g_cwOf (n := 2) tc_X5_addSign tn_X5 md_X5_addSign (by decide) (by omega)) tm_X2_220 ti_X5_addSign ts_X5_addSign (C0.mem (kl7 hk6)) (g_c7 hk6) rfl rfl hl.1 rfl (Nat.le_of_ble_eq_true rfl) dX2_readTest_41) (fun H locs hW => ?_)
        refine lv_iinc (v := l2 + (1 : Int32)) (lv' := [(2, .int (l2 + (1 : Int32))), (0, .ref (g_ad G (162))), (1, .int (l1))]) C0.hx C0.hb dX2_readTest_44 hl (k := 2) rfl rfl (by decide) rfl (fun ls hl => ?_)
        refine lv_goto (tgt := 7) C0.hx C0.hb dX2_readTest_47 (by decide) ?_
        exact ih _ _ _ _ _ _ h hW (lv_sub hl [1, 2, 0] rfl)
set_option maxRecDepth 100000 in
set_option maxHeartbeats 4000000 in
theorem c_X2_readTest {l : Launch} {G : GL} {ids : List Nat} {y : MS} {o : Nat → Int32} {x : CS} {p1 : Int32} {q : CS} {sgl : Int32 → CS → Option CS} {k : Nat} (hsgl : ∀ (d : Int32) (x q : CS), sgl d x = some q → Met l yX2_readSingle (.code yX2_readSingle cX2_readSingle 3 (Option.none : Option Jvm.ClassFile.FieldType) :: gT) (g_rm k 0 0) (va_Pc [.ref (g_ad G 162), .int d] (g_P G ids (x, y, o))) (g_Qv G ids (q, y, o)) 0 0 (g_A G)) (hk0 : 66 ≤ k) (h162 : 162 ∈ ids) (h163 : 163 ∈ ids)  (h : f_X2_readTest sgl p1 x = some q) : Met l yX2_readTest (.code yX2_readTest cX2_readTest 3 (Option.none : Option Jvm.ClassFile.FieldType) :: gT) (g_rm (k + 2) 0 0) (va_Pc [.ref (g_ad G (162)), .int (p1)] (g_P G ids (x, y, o))) (g_Qv G ids (q, y, o)) 0 0 (g_A G) := by
  unfold f_X2_readTest at h
  refine g_entry (by decide) (Nat.le_of_ble_eq_true rfl) (fun p e s m args below meth c ls C0 hl hW _ => ?_)
  have hl : lv_has ls 3 [(0, .ref (g_ad G (162))), (1, .int (p1))] := hl
  refine lv_aload_n C0.hx C0.hb dX2_readTest_0 rfl (lv_at hl 0 rfl) ?_
  refine lv_iload_n C0.hx C0.hb dX2_readTest_1 rfl (lv_at hl 1 rfl) ?_
  obtain ⟨q1, hq1, h⟩ := Option.bind_eq_some_iff.mp h
  refine g_callv hW (g_runV (As := [.int (p1)]) (rest := []) C0 hW (c_X2_readBoth hsgl (by omega) h162 h163 hq1) (g_cwOf (n := 1) tc_X2_readBoth tn_X2 md_X2_readBoth (by decide) (by omega)) tm_X2_214 ti_X2_readBoth ts_X2_readBoth h162 (g_c11 k_162) rfl rfl hl.1 rfl (Nat.le_of_ble_eq_true rfl) dX2_readTest_2) (fun H locs hW => ?_)
  refine lv_iconst (v := (0 : Int32)) C0.hx C0.hb dX2_readTest_5 (by decide) ?_
  refine lv_istore_n (lv' := [(2, .int ((0 : Int32))), (0, .ref (g_ad G (162))), (1, .int (p1))]) C0.hx C0.hb dX2_readTest_6 rfl hl (by decide) rfl (fun ls hl => ?_)
  exact w_X2_readTest_7 hsgl (by omega) h162 h163 C0 g_fuel _ _ _ _ _ _ h hW (lv_sub hl [1, 2, 0] rfl)
set_option maxRecDepth 100000 in
set_option maxHeartbeats 4000000 in
theorem c_X2_isComparison {l : Launch} {G : GL} {ids : List Nat} {y : MS} {o : Nat → Int32} {x : CS}  {q : Int32}  (h162 : 162 ∈ ids) (h163 : 163 ∈ ids)  (h : f_X2_isComparison x = some q) : Met l yX2_isComparison (.code yX2_isComparison cX2_isComparison 1 (Option.some Jvm.ClassFile.FieldType.boolean) :: gT) (g_rm 0 0 0) (va_Pc [.ref (g_ad G (162))] (g_P G ids (x, y, o))) (g_Qi G ids q (x, y, o)) 0 0 (g_A G) := by
  unfold f_X2_isComparison at h
  refine g_entry (by decide) (Nat.le_of_ble_eq_true rfl) (fun p e s m args below meth c ls C0 hl hW _ => ?_)
  have hl : lv_has ls 1 [(0, .ref (g_ad G (162)))] := hl
  refine lv_aload_n C0.hx C0.hb dX2_isComparison_0 rfl (lv_at hl 0 rfl) ?_
  refine gf_X2_5 C0 hW h162 k_162 tf_X2_25 dX2_isComparison_1 ?_
  refine g_sign C0 hW 36 (by decide) tf_X2_252 dX2_isComparison_4 ?_
  refine g_acmp_eq (tgt := 50) C0 dX2_isComparison_7 (by decide) (fun hc1 => ?_) (fun hc1 => ?_)
  · replace h := (if_pos hc1).symm.trans h
    refine lv_iconst (v := (1 : Int32)) C0.hx C0.hb dX2_isComparison_50 (by decide) ?_
    refine lv_goto (tgt := 55) C0.hx C0.hb dX2_isComparison_51 (by decide) ?_
    obtain rfl := Option.some.inj h
    exact g_iret C0 hW rfl (g_bool (Or.inr rfl)).1 rfl dX2_isComparison_55
  · replace h := (if_neg hc1).symm.trans h
    refine lv_aload_n C0.hx C0.hb dX2_isComparison_10 rfl (lv_at hl 0 rfl) ?_
    refine gf_X2_5 C0 hW h162 k_162 tf_X2_25 dX2_isComparison_11 ?_
    refine g_sign C0 hW 37 (by decide) tf_X2_255 dX2_isComparison_14 ?_
    refine g_acmp_eq (tgt := 50) C0 dX2_isComparison_17 (by decide) (fun hc2 => ?_) (fun hc2 => ?_)
    · replace h := (if_pos hc2).symm.trans h
      refine lv_iconst (v := (1 : Int32)) C0.hx C0.hb dX2_isComparison_50 (by decide) ?_
      refine lv_goto (tgt := 55) C0.hx C0.hb dX2_isComparison_51 (by decide) ?_
      obtain rfl := Option.some.inj h
      exact g_iret C0 hW rfl (g_bool (Or.inr rfl)).1 rfl dX2_isComparison_55
    · replace h := (if_neg hc2).symm.trans h
      refine lv_aload_n C0.hx C0.hb dX2_isComparison_20 rfl (lv_at hl 0 rfl) ?_
      refine gf_X2_5 C0 hW h162 k_162 tf_X2_25 dX2_isComparison_21 ?_
      refine g_sign C0 hW 38 (by decide) tf_X2_258 dX2_isComparison_24 ?_
      refine g_acmp_eq (tgt := 50) C0 dX2_isComparison_27 (by decide) (fun hc3 => ?_) (fun hc3 => ?_)
      · replace h := (if_pos hc3).symm.trans h
        refine lv_iconst (v := (1 : Int32)) C0.hx C0.hb dX2_isComparison_50 (by decide) ?_
        refine lv_goto (tgt := 55) C0.hx C0.hb dX2_isComparison_51 (by decide) ?_
        obtain rfl := Option.some.inj h
        exact g_iret C0 hW rfl (g_bool (Or.inr rfl)).1 rfl dX2_isComparison_55
      · replace h := (if_neg hc3).symm.trans h
        refine lv_aload_n C0.hx C0.hb dX2_isComparison_30 rfl (lv_at hl 0 rfl) ?_
        refine gf_X2_5 C0 hW h162 k_162 tf_X2_25 dX2_isComparison_31 ?_
        refine g_sign C0 hW 39 (by decide) tf_X2_261 dX2_isComparison_34 ?_
        refine g_acmp_eq (tgt := 50) C0 dX2_isComparison_37 (by decide) (fun hc4 => ?_) (fun hc4 => ?_)
        · replace h := (if_pos hc4).symm.trans h
          refine lv_iconst (v := (1 : Int32)) C0.hx C0.hb dX2_isComparison_50 (by decide) ?_
          refine lv_goto (tgt := 55) C0.hx C0.hb dX2_isComparison_51 (by decide) ?_
          obtain rfl := Option.some.inj h
          exact g_iret C0 hW rfl (g_bool (Or.inr rfl)).1 rfl dX2_isComparison_55
        · replace h := (if_neg hc4).symm.trans h
          refine lv_aload_n C0.hx C0.hb dX2_isComparison_40 rfl (lv_at hl 0 rfl) ?_
          refine gf_X2_5 C0 hW h162 k_162 tf_X2_25 dX2_isComparison_41 ?_
          refine g_sign C0 hW 40 (by decide) tf_X2_264 dX2_isComparison_44 ?_
          refine g_acmp_ne (tgt := 54) C0 dX2_isComparison_47 (by decide) (fun hc5 => ?_) (fun hc5 => ?_)
          · replace h := (if_neg hc5).symm.trans h
            refine lv_iconst (v := (0 : Int32)) C0.hx C0.hb dX2_isComparison_54 (by decide) ?_
            obtain rfl := Option.some.inj h
            exact g_iret C0 hW rfl (g_bool (Or.inl rfl)).1 rfl dX2_isComparison_55
          · replace h := (if_pos hc5).symm.trans h
            refine lv_iconst (v := (1 : Int32)) C0.hx C0.hb dX2_isComparison_50 (by decide) ?_
            refine lv_goto (tgt := 55) C0.hx C0.hb dX2_isComparison_51 (by decide) ?_
            obtain rfl := Option.some.inj h
            exact g_iret C0 hW rfl (g_bool (Or.inr rfl)).1 rfl dX2_isComparison_55
set_option maxRecDepth 100000 in
set_option maxHeartbeats 4000000 in
theorem w_X2_readSingle_148 {p : Program} {l : Launch} {e : Env} {s : State} {m : MethodId} {args : Array Value} {below : List Frame} {meth : Method} {c : Code} {G : GL} {ids : List Nat} {y : MS} {o : Nat → Int32}  {q : CS} {sgl : Int32 → CS → Option CS} {k : Nat} (hsgl : ∀ (d : Int32) (x q : CS), sgl d x = some q → Met l yX2_readSingle (.code yX2_readSingle cX2_readSingle 3 (Option.none : Option Jvm.ClassFile.FieldType) :: gT) (g_rm k 0 0) (va_Pc [.ref (g_ad G 162), .int d] (g_P G ids (x, y, o))) (g_Qv G ids (q, y, o)) 0 0 (g_A G)) (hk0 : 66 ≤ k) {k2 : Nat} (hk2 : k + 4 ≤ k2) (h162 : 162 ∈ ids) (h163 : 163 ∈ ids) (C0 : g_X G ids p s m args meth c cX2_readSingle 3 RX2 (Option.none : Option Jvm.ClassFile.FieldType))  : ∀  (l1 : Int32) (l2 : Nat) (x : CS) (H : Heap) (locs : List Loc) (ls : Array Slot),  f_X2_readSingle_148 sgl l1 l2 x = some q → g_W G ids (x, y, o) s.heap H locs → lv_has ls 3 [(0, .ref (g_ad G (162))), (1, .int (l1)), (2, .ref (g_sg G (l2)))] → W p l e (g_rm k2 0 0) s m args below meth c H locs 0 0 (MQ below (g_Qv G ids (q, y, o)) args s 0 0 (g_A G)) (F0 m 148 ls []) := by
  intro l1 l2 x H locs ls h hW hl
  unfold f_X2_readSingle_148 at h
  refine lv_aload_n C0.hx C0.hb dX2_readSingle_148 rfl (lv_at hl 0 rfl) ?_
  refine lv_iload_n C0.hx C0.hb dX2_readSingle_149 rfl (lv_at hl 1 rfl) ?_
  obtain ⟨q23, hq23, h⟩ := Option.bind_eq_some_iff.mp h
  refine g_callv hW (g_runV (As := [.int (l1)]) (rest := []) C0 hW (c_X2_readSum (c_X2_readValue h162 h163 12) (by omega) h162 h163 hq23) (g_cwOf (n := 1) tc_X2_readSum tn_X2 md_X2_readSum (by decide) (by omega)) tm_X2_201 ti_X2_readSum ts_X2_readSum h162 (g_c11 k_162) rfl rfl hl.1 rfl (Nat.le_of_ble_eq_true rfl) dX2_readSingle_150) (fun H locs hW => ?_)
  refine lv_aload_n C0.hx C0.hb dX2_readSingle_153 rfl (lv_at hl 0 rfl) ?_
  obtain ⟨hk24, h⟩ := g_if h
  refine gf_X2_1 C0 hW h162 k_162 tf_X2_44 dX2_readSingle_154 ?_
  refine lv_aload_n C0.hx C0.hb dX2_readSingle_157 rfl (lv_at hl 2 rfl) ?_
  refine lv_iconst (v := (0 : Int32)) C0.hx C0.hb dX2_readSingle_158 (by decide) ?_
  obtain ⟨q25, hq25, h⟩ := Option.bind_eq_some_iff.mp h
  refine g_callv hW (g_runV (As := [.ref (g_sg G (l2)), .int ((0 : Int32))]) (rest := []) C0 hW (c_X5_addSign hk24 hq25) (g_cwOf (n := 2) tc_X5_addSign tn_X5 md_X5_addSign (by decide) (by omega)) tm_X2_220 ti_X5_addSign ts_X5_addSign (C0.mem (kl7 hk24)) (g_c7 hk24) rfl rfl hl.1 rfl (Nat.le_of_ble_eq_true rfl) dX2_readSingle_159) (fun H locs hW => ?_)
  obtain rfl := Option.some.inj h
  exact g_vret C0 hW rfl dX2_readSingle_162
set_option maxRecDepth 100000 in
set_option maxHeartbeats 4000000 in
theorem w_X2_readSingle_96 {p : Program} {l : Launch} {e : Env} {s : State} {m : MethodId} {args : Array Value} {below : List Frame} {meth : Method} {c : Code} {G : GL} {ids : List Nat} {y : MS} {o : Nat → Int32}  {q : CS} {sgl : Int32 → CS → Option CS} {k : Nat} (hsgl : ∀ (d : Int32) (x q : CS), sgl d x = some q → Met l yX2_readSingle (.code yX2_readSingle cX2_readSingle 3 (Option.none : Option Jvm.ClassFile.FieldType) :: gT) (g_rm k 0 0) (va_Pc [.ref (g_ad G 162), .int d] (g_P G ids (x, y, o))) (g_Qv G ids (q, y, o)) 0 0 (g_A G)) (hk0 : 66 ≤ k) {k2 : Nat} (hk2 : k + 4 ≤ k2) (h162 : 162 ∈ ids) (h163 : 163 ∈ ids) (C0 : g_X G ids p s m args meth c cX2_readSingle 3 RX2 (Option.none : Option Jvm.ClassFile.FieldType))  : ∀   (x : CS) (H : Heap) (locs : List Loc) (ls : Array Slot),  f_X2_readSingle_96 sgl x = some q → g_W G ids (x, y, o) s.heap H locs → lv_has ls 3 [(0, .ref (g_ad G (162)))] → W p l e (g_rm k2 0 0) s m args below meth c H locs 0 0 (MQ below (g_Qv G ids (q, y, o)) args s 0 0 (g_A G)) (F0 m 96 ls []) := by
  intro x H locs ls h hW hl
  unfold f_X2_readSingle_96 at h
  refine lv_aload_n C0.hx C0.hb dX2_readSingle_96 rfl (lv_at hl 0 rfl) ?_
  refine gf_X2_5 C0 hW h162 k_162 tf_X2_25 dX2_readSingle_97 ?_
  refine lv_astore_n (lv' := [(2, .ref (g_sg G (x.2 162 5))), (0, .ref (g_ad G (162)))]) C0.hx C0.hb dX2_readSingle_100 rfl hl (by decide) rfl (fun ls hl => ?_)
  refine lv_aload_n C0.hx C0.hb dX2_readSingle_101 rfl (lv_at hl 1 rfl) ?_
  obtain ⟨q19, hq19, h⟩ := Option.bind_eq_some_iff.mp h
  refine g_callv hW (g_runV (As := []) (rest := []) C0 hW (c_X2_step h162 h163 hq19) (g_cwOf (n := 0) tc_X2_step tn_X2 md_X2_step (by decide) (by omega)) tm_X2_60 ti_X2_step ts_X2_step h162 (g_c11 k_162) rfl rfl hl.1 rfl (Nat.le_of_ble_eq_true rfl) dX2_readSingle_102) (fun H locs hW => ?_)
  refine lv_aload_n C0.hx C0.hb dX2_readSingle_105 rfl (lv_at hl 1 rfl) ?_
  obtain ⟨hk20, h⟩ := g_if h
  refine gf_X2_1 C0 hW h162 k_162 tf_X2_44 dX2_readSingle_106 ?_
  refine lv_aload_n C0.hx C0.hb dX2_readSingle_109 rfl (lv_at hl 0 rfl) ?_
  refine lv_aload_n C0.hx C0.hb dX2_readSingle_110 rfl (lv_at hl 1 rfl) ?_
  obtain ⟨q21, hq21, h⟩ := Option.bind_eq_some_iff.mp h
  refine g_calli hW (g_runV (As := []) (rest := [.ref (g_sg G (x.2 162 5)), .ref (g_ad G (q19.2 162 1))]) C0 hW (c_X2_readKnownName h162 h163 hq21) (g_cwOf (n := 0) tc_X2_readKnownName tn_X2 md_X2_readKnownName (by decide) (by omega)) tm_X2_191 ti_X2_readKnownName ts_X2_readKnownName h162 (g_c11 k_162) rfl rfl hl.1 rfl (Nat.le_of_ble_eq_true rfl) dX2_readSingle_111) (fun H locs hW => ?_)
  obtain ⟨q22, hq22, h⟩ := Option.bind_eq_some_iff.mp h
  refine g_callv hW (g_runV (As := [.ref (g_sg G (x.2 162 5)), .int (q21.1)]) (rest := []) C0 hW (c_X5_addSign hk20 hq22) (g_cwOf (n := 2) tc_X5_addSign tn_X5 md_X5_addSign (by decide) (by omega)) tm_X2_220 ti_X5_addSign ts_X5_addSign (C0.mem (kl7 hk20)) (g_c7 hk20) rfl rfl hl.1 rfl (Nat.le_of_ble_eq_true rfl) dX2_readSingle_114) (fun H locs hW => ?_)
  refine lv_goto (tgt := 162) C0.hx C0.hb dX2_readSingle_117 (by decide) ?_
  obtain rfl := Option.some.inj h
  exact g_vret C0 hW rfl dX2_readSingle_162
set_option maxRecDepth 100000 in
set_option maxHeartbeats 4000000 in
theorem c_X2_readSingle {l : Launch} {G : GL} {ids : List Nat} {y : MS} {o : Nat → Int32} (h162 : 162 ∈ ids) (h163 : 163 ∈ ids) : ∀ (n : Nat) (p1 : Int32) (x : CS) (q : CS), f_X2_readSingle n p1 x = some q → Met l yX2_readSingle (.code yX2_readSingle cX2_readSingle 3 (Option.none : Option Jvm.ClassFile.FieldType) :: gT) (g_rm (66 + 4 * n) 0 0) (va_Pc [.ref (g_ad G (162)), .int (p1)] (g_P G ids (x, y, o))) (g_Qv G ids (q, y, o)) 0 0 (g_A G) := by
  intro n
  induction n with
  | zero =>
    intro p1 x q h
    exact absurd h (by simp [f_X2_readSingle])
  | succ n ihn =>
    intro p1 x q h
    unfold f_X2_readSingle at h
    refine g_entry (by decide) (Nat.le_of_ble_eq_true rfl) (fun p e s m args below meth c ls C0 hl hW _ => ?_)
    have hl : lv_has ls 3 [(0, .ref (g_ad G (162))), (1, .int (p1))] := hl
    refine lv_aload_n C0.hx C0.hb dX2_readSingle_0 rfl (lv_at hl 0 rfl) ?_
    refine gf_X2_5 C0 hW h162 k_162 tf_X2_25 dX2_readSingle_1 ?_
    refine g_sign C0 hW 21 (by decide) tf_X2_230 dX2_readSingle_4 ?_
    refine g_acmp_ne (tgt := 40) C0 dX2_readSingle_7 (by decide) (fun hc1 => ?_) (fun hc1 => ?_)
    · replace h := (if_neg hc1).symm.trans h
      refine lv_aload_n C0.hx C0.hb dX2_readSingle_40 rfl (lv_at hl 0 rfl) ?_
      refine gf_X2_5 C0 hW h162 k_162 tf_X2_25 dX2_readSingle_41 ?_
      refine g_sign C0 hW 28 (by decide) tf_X2_236 dX2_readSingle_44 ?_
      refine g_acmp_ne (tgt := 76) C0 dX2_readSingle_47 (by decide) (fun hc2 => ?_) (fun hc2 => ?_)
      · replace h := (if_neg hc2).symm.trans h
        refine lv_aload_n C0.hx C0.hb dX2_readSingle_76 rfl (lv_at hl 0 rfl) ?_
        refine gf_X2_5 C0 hW h162 k_162 tf_X2_25 dX2_readSingle_77 ?_
        refine g_sign C0 hW 19 (by decide) tf_X2_242 dX2_readSingle_80 ?_
        refine g_acmp_eq (tgt := 96) C0 dX2_readSingle_83 (by decide) (fun hc3 => ?_) (fun hc3 => ?_)
        · replace h := (if_pos hc3).symm.trans h
          exact w_X2_readSingle_96 ihn (by omega) (by omega) h162 h163 C0 _ _ _ _ h hW (lv_sub hl [0] rfl)
        · replace h := (if_neg hc3).symm.trans h
          refine lv_aload_n C0.hx C0.hb dX2_readSingle_86 rfl (lv_at hl 0 rfl) ?_
          refine gf_X2_5 C0 hW h162 k_162 tf_X2_25 dX2_readSingle_87 ?_
          refine g_sign C0 hW 20 (by decide) tf_X2_245 dX2_readSingle_90 ?_
          refine g_acmp_ne (tgt := 120) C0 dX2_readSingle_93 (by decide) (fun hc4 => ?_) (fun hc4 => ?_)
          · replace h := (if_neg hc4).symm.trans h
            refine lv_aload_n C0.hx C0.hb dX2_readSingle_120 rfl (lv_at hl 0 rfl) ?_
            refine lv_iload_n C0.hx C0.hb dX2_readSingle_121 rfl (lv_at hl 1 rfl) ?_
            obtain ⟨q5, hq5, h⟩ := Option.bind_eq_some_iff.mp h
            refine g_callv hW (g_runV (As := [.int (p1)]) (rest := []) C0 hW (c_X2_readSum (c_X2_readValue h162 h163 12) (by omega) h162 h163 hq5) (g_cwOf (n := 1) tc_X2_readSum tn_X2 md_X2_readSum (by decide) (by omega)) tm_X2_201 ti_X2_readSum ts_X2_readSum h162 (g_c11 k_162) rfl rfl hl.1 rfl (Nat.le_of_ble_eq_true rfl) dX2_readSingle_122) (fun H locs hW => ?_)
            refine lv_aload_n C0.hx C0.hb dX2_readSingle_125 rfl (lv_at hl 0 rfl) ?_
            refine gf_X2_5 C0 hW h162 k_162 tf_X2_25 dX2_readSingle_126 ?_
            refine lv_astore_n (lv' := [(2, .ref (g_sg G (q5.2 162 5))), (0, .ref (g_ad G (162))), (1, .int (p1))]) C0.hx C0.hb dX2_readSingle_129 rfl hl (by decide) rfl (fun ls hl => ?_)
            refine lv_aload_n C0.hx C0.hb dX2_readSingle_130 rfl (lv_at hl 1 rfl) ?_
            obtain ⟨q6, hq6, h⟩ := Option.bind_eq_some_iff.mp h
            refine g_calli hW (g_runV (As := []) (rest := []) C0 hW (c_X2_isComparison h162 h163 hq6) (g_cwOf (n := 0) tc_X2_isComparison tn_X2 md_X2_isComparison (by decide) (by omega)) tm_X2_248 ti_X2_isComparison ts_X2_isComparison h162 (g_c11 k_162) rfl rfl hl.1 rfl (Nat.le_of_ble_eq_true rfl) dX2_readSingle_131) (fun H locs hW => ?_)
            refine lv_if_eq (tgt := 144) C0.hx C0.hb dX2_readSingle_134 (by decide) (fun hc7 => ?_) (fun hc7 => ?_)
            · replace h := (if_pos hc7).symm.trans h
              refine lv_aload_n C0.hx C0.hb dX2_readSingle_144 rfl (lv_at hl 1 rfl) ?_
              obtain ⟨q8, hq8, h⟩ := Option.bind_eq_some_iff.mp h
              refine g_callv hW (g_runV (As := []) (rest := []) C0 hW (c_X2_refuse h162 h163 hq8) (g_cwOf (n := 0) tc_X2_refuse tn_X2 md_X2_refuse (by decide) (by omega)) tm_X2_108 ti_X2_refuse ts_X2_refuse h162 (g_c11 k_162) rfl rfl hl.1 rfl (Nat.le_of_ble_eq_true rfl) dX2_readSingle_145) (fun H locs hW => ?_)
              exact w_X2_readSingle_148 ihn (by omega) (by omega) h162 h163 C0 _ _ _ _ _ _ h hW (lv_sub hl [1, 2, 0] rfl)
            · replace h := (if_neg hc7).symm.trans h
              refine lv_aload_n C0.hx C0.hb dX2_readSingle_137 rfl (lv_at hl 1 rfl) ?_
              obtain ⟨q9, hq9, h⟩ := Option.bind_eq_some_iff.mp h
              refine g_callv hW (g_runV (As := []) (rest := []) C0 hW (c_X2_step h162 h163 hq9) (g_cwOf (n := 0) tc_X2_step tn_X2 md_X2_step (by decide) (by omega)) tm_X2_60 ti_X2_step ts_X2_step h162 (g_c11 k_162) rfl rfl hl.1 rfl (Nat.le_of_ble_eq_true rfl) dX2_readSingle_138) (fun H locs hW => ?_)
              refine lv_goto (tgt := 148) C0.hx C0.hb dX2_readSingle_141 (by decide) ?_
              exact w_X2_readSingle_148 ihn (by omega) (by omega) h162 h163 C0 _ _ _ _ _ _ h hW (lv_sub hl [1, 2, 0] rfl)
          · replace h := (if_pos hc4).symm.trans h
            exact w_X2_readSingle_96 ihn (by omega) (by omega) h162 h163 C0 _ _ _ _ h hW (lv_sub hl [0] rfl)
      · replace h := (if_pos hc2).symm.trans h
        refine lv_aload_n C0.hx C0.hb dX2_readSingle_50 rfl (lv_at hl 0 rfl) ?_
        refine lv_iload_n C0.hx C0.hb dX2_readSingle_51 rfl (lv_at hl 1 rfl) ?_
        obtain ⟨q10, hq10, h⟩ := Option.bind_eq_some_iff.mp h
        refine g_callv hW (g_runV (As := [.int (p1)]) (rest := []) C0 hW (c_X2_requireDepth h162 h163 hq10) (g_cwOf (n := 1) tc_X2_requireDepth tn_X2 md_X2_requireDepth (by decide) (by omega)) tm_X2_233 ti_X2_requireDepth ts_X2_requireDepth h162 (g_c11 k_162) rfl rfl hl.1 rfl (Nat.le_of_ble_eq_true rfl) dX2_readSingle_52) (fun H locs hW => ?_)
        refine lv_aload_n C0.hx C0.hb dX2_readSingle_55 rfl (lv_at hl 0 rfl) ?_
        obtain ⟨q11, hq11, h⟩ := Option.bind_eq_some_iff.mp h
        refine g_callv hW (g_runV (As := []) (rest := []) C0 hW (c_X2_step h162 h163 hq11) (g_cwOf (n := 0) tc_X2_step tn_X2 md_X2_step (by decide) (by omega)) tm_X2_60 ti_X2_step ts_X2_step h162 (g_c11 k_162) rfl rfl hl.1 rfl (Nat.le_of_ble_eq_true rfl) dX2_readSingle_56) (fun H locs hW => ?_)
        refine lv_aload_n C0.hx C0.hb dX2_readSingle_59 rfl (lv_at hl 0 rfl) ?_
        refine lv_iload_n C0.hx C0.hb dX2_readSingle_60 rfl (lv_at hl 1 rfl) ?_
        refine lv_iconst (v := (1 : Int32)) C0.hx C0.hb dX2_readSingle_61 (by decide) ?_
        refine lv_iadd C0.hx C0.hb dX2_readSingle_62 ?_
        obtain ⟨q12, hq12, h⟩ := Option.bind_eq_some_iff.mp h
        refine g_callv hW (g_runV (As := [.int (p1 + (1 : Int32))]) (rest := []) C0 hW (c_X2_readTest ihn (by omega) h162 h163 hq12) (g_cwOf (n := 1) tc_X2_readTest tn_X2 md_X2_readTest (by decide) (by omega)) tm_X2_207 ti_X2_readTest ts_X2_readTest h162 (g_c11 k_162) rfl rfl hl.1 rfl (Nat.le_of_ble_eq_true rfl) dX2_readSingle_63) (fun H locs hW => ?_)
        refine lv_aload_n C0.hx C0.hb dX2_readSingle_66 rfl (lv_at hl 0 rfl) ?_
        refine g_sign C0 hW 29 (by decide) tf_X2_239 dX2_readSingle_67 ?_
        obtain ⟨q13, hq13, h⟩ := Option.bind_eq_some_iff.mp h
        refine g_callv hW (g_runV (As := [.ref (g_sg G (29))]) (rest := []) C0 hW (c_X2_expect h162 h163 hq13) (g_cwOf (n := 1) tc_X2_expect tn_X2 md_X2_expect (by decide) (by omega)) tm_X2_94 ti_X2_expect ts_X2_expect h162 (g_c11 k_162) rfl rfl hl.1 rfl (Nat.le_of_ble_eq_true rfl) dX2_readSingle_70) (fun H locs hW => ?_)
        refine lv_goto (tgt := 162) C0.hx C0.hb dX2_readSingle_73 (by decide) ?_
        obtain rfl := Option.some.inj h
        exact g_vret C0 hW rfl dX2_readSingle_162
    · replace h := (if_pos hc1).symm.trans h
      refine lv_aload_n C0.hx C0.hb dX2_readSingle_10 rfl (lv_at hl 0 rfl) ?_
      refine lv_iload_n C0.hx C0.hb dX2_readSingle_11 rfl (lv_at hl 1 rfl) ?_
      obtain ⟨q14, hq14, h⟩ := Option.bind_eq_some_iff.mp h
      refine g_callv hW (g_runV (As := [.int (p1)]) (rest := []) C0 hW (c_X2_requireDepth h162 h163 hq14) (g_cwOf (n := 1) tc_X2_requireDepth tn_X2 md_X2_requireDepth (by decide) (by omega)) tm_X2_233 ti_X2_requireDepth ts_X2_requireDepth h162 (g_c11 k_162) rfl rfl hl.1 rfl (Nat.le_of_ble_eq_true rfl) dX2_readSingle_12) (fun H locs hW => ?_)
      refine lv_aload_n C0.hx C0.hb dX2_readSingle_15 rfl (lv_at hl 0 rfl) ?_
      obtain ⟨q15, hq15, h⟩ := Option.bind_eq_some_iff.mp h
      refine g_callv hW (g_runV (As := []) (rest := []) C0 hW (c_X2_step h162 h163 hq15) (g_cwOf (n := 0) tc_X2_step tn_X2 md_X2_step (by decide) (by omega)) tm_X2_60 ti_X2_step ts_X2_step h162 (g_c11 k_162) rfl rfl hl.1 rfl (Nat.le_of_ble_eq_true rfl) dX2_readSingle_16) (fun H locs hW => ?_)
      refine lv_aload_n C0.hx C0.hb dX2_readSingle_19 rfl (lv_at hl 0 rfl) ?_
      refine lv_iload_n C0.hx C0.hb dX2_readSingle_20 rfl (lv_at hl 1 rfl) ?_
      refine lv_iconst (v := (1 : Int32)) C0.hx C0.hb dX2_readSingle_21 (by decide) ?_
      refine lv_iadd C0.hx C0.hb dX2_readSingle_22 ?_
      obtain ⟨q16, hq16, h⟩ := Option.bind_eq_some_iff.mp h
      refine g_callv hW (g_runV (As := [.int (p1 + (1 : Int32))]) (rest := []) C0 hW (ihn _ _ _ hq16) (g_cwOf (n := 1) tc_X2_readSingle tn_X2 md_X2_readSingle (by decide) (by omega)) tm_X2_224 ti_X2_readSingle ts_X2_readSingle h162 (g_c11 k_162) rfl rfl hl.1 rfl (Nat.le_of_ble_eq_true rfl) dX2_readSingle_23) (fun H locs hW => ?_)
      refine lv_aload_n C0.hx C0.hb dX2_readSingle_26 rfl (lv_at hl 0 rfl) ?_
      obtain ⟨hk17, h⟩ := g_if h
      refine gf_X2_1 C0 hW h162 k_162 tf_X2_44 dX2_readSingle_27 ?_
      refine g_sign C0 hW 21 (by decide) tf_X2_230 dX2_readSingle_30 ?_
      refine lv_iconst (v := (0 : Int32)) C0.hx C0.hb dX2_readSingle_33 (by decide) ?_
      obtain ⟨q18, hq18, h⟩ := Option.bind_eq_some_iff.mp h
      refine g_callv hW (g_runV (As := [.ref (g_sg G (21)), .int ((0 : Int32))]) (rest := []) C0 hW (c_X5_addSign hk17 hq18) (g_cwOf (n := 2) tc_X5_addSign tn_X5 md_X5_addSign (by decide) (by omega)) tm_X2_220 ti_X5_addSign ts_X5_addSign (C0.mem (kl7 hk17)) (g_c7 hk17) rfl rfl hl.1 rfl (Nat.le_of_ble_eq_true rfl) dX2_readSingle_34) (fun H locs hW => ?_)
      refine lv_goto (tgt := 162) C0.hx C0.hb dX2_readSingle_37 (by decide) ?_
      obtain rfl := Option.some.inj h
      exact g_vret C0 hW rfl dX2_readSingle_162
set_option maxRecDepth 100000 in
set_option maxHeartbeats 4000000 in
theorem w_X2_readRule_121 {p : Program} {l : Launch} {e : Env} {s : State} {m : MethodId} {args : Array Value} {below : List Frame} {meth : Method} {c : Code} {G : GL} {ids : List Nat} {y : MS} {o : Nat → Int32}  {q : CS}  (h162 : 162 ∈ ids) (h163 : 163 ∈ ids) (C0 : g_X G ids p s m args meth c cX2_readRule 5 RX2 (Option.none : Option Jvm.ClassFile.FieldType))  : ∀  (l1 : Nat) (l2 : Int32) (l3 : Int32) (l4 : Int32) (x : CS) (H : Heap) (locs : List Loc) (ls : Array Slot),  f_X2_readRule_121 l1 l2 l3 l4 x = some q → g_W G ids (x, y, o) s.heap H locs → lv_has ls 5 [(0, .ref (g_ad G (162))), (1, .ref (g_sg G (l1))), (2, .int (l2)), (3, .int (l3)), (4, .int (l4))] → W p l e (g_rm 117 0 0) s m args below meth c H locs 0 0 (MQ below (g_Qv G ids (q, y, o)) args s 0 0 (g_A G)) (F0 m 121 ls []) := by
  intro l1 l2 l3 l4 x H locs ls h hW hl
  unfold f_X2_readRule_121 at h
  refine lv_aload_n C0.hx C0.hb dX2_readRule_121 rfl (lv_at hl 0 rfl) ?_
  obtain ⟨hk18, h⟩ := g_if h
  refine gf_X2_1 C0 hW h162 k_162 tf_X2_44 dX2_readRule_122 ?_
  refine lv_aload_n C0.hx C0.hb dX2_readRule_125 rfl (lv_at hl 1 rfl) ?_
  refine lv_iload_n C0.hx C0.hb dX2_readRule_126 rfl (lv_at hl 2 rfl) ?_
  refine lv_iload_n C0.hx C0.hb dX2_readRule_127 rfl (lv_at hl 3 rfl) ?_
  refine lv_iload C0.hx C0.hb dX2_readRule_128 (lv_at hl 4 rfl) ?_
  obtain ⟨q19, hq19, h⟩ := Option.bind_eq_some_iff.mp h
  refine g_callv hW (g_runV (As := [.ref (g_sg G (l1)), .int (l2), .int (l3), .int (l4)]) (rest := []) C0 hW (c_X5_addRule hk18 hq19) (g_cwOf (n := 4) tc_X5_addRule tn_X5 md_X5_addRule (by decide) (by omega)) tm_X2_210 ti_X5_addRule ts_X5_addRule (C0.mem (kl7 hk18)) (g_c7 hk18) rfl rfl hl.1 rfl (Nat.le_of_ble_eq_true rfl) dX2_readRule_130) (fun H locs hW => ?_)
  obtain rfl := Option.some.inj h
  exact g_vret C0 hW rfl dX2_readRule_133
set_option maxRecDepth 100000 in
set_option maxHeartbeats 4000000 in
theorem w_X2_readRule_93 {p : Program} {l : Launch} {e : Env} {s : State} {m : MethodId} {args : Array Value} {below : List Frame} {meth : Method} {c : Code} {G : GL} {ids : List Nat} {y : MS} {o : Nat → Int32}  {q : CS}  (h162 : 162 ∈ ids) (h163 : 163 ∈ ids) (C0 : g_X G ids p s m args meth c cX2_readRule 5 RX2 (Option.none : Option Jvm.ClassFile.FieldType))  : ∀  (l1 : Nat) (l2 : Int32) (l3 : Int32) (x : CS) (H : Heap) (locs : List Loc) (ls : Array Slot),  f_X2_readRule_93 l1 l2 l3 x = some q → g_W G ids (x, y, o) s.heap H locs → lv_has ls 5 [(0, .ref (g_ad G (162))), (1, .ref (g_sg G (l1))), (2, .int (l2)), (3, .int (l3))] → W p l e (g_rm 117 0 0) s m args below meth c H locs 0 0 (MQ below (g_Qv G ids (q, y, o)) args s 0 0 (g_A G)) (F0 m 93 ls []) := by
  intro l1 l2 l3 x H locs ls h hW hl
  unfold f_X2_readRule_93 at h
  refine lv_aload_n C0.hx C0.hb dX2_readRule_93 rfl (lv_at hl 0 rfl) ?_
  obtain ⟨hk14, h⟩ := g_if h
  refine gf_X2_1 C0 hW h162 k_162 tf_X2_44 dX2_readRule_94 ?_
  refine gfN_X5_5 C0 hW (C0.mem (kl7 hk14)) hk14 tfN_X2_195 dX2_readRule_97 ?_
  refine lv_istore (lv' := [(4, .int (x.1 (x.2 162 1) 5)), (0, .ref (g_ad G (162))), (1, .ref (g_sg G (l1))), (2, .int (l2)), (3, .int (l3))]) C0.hx C0.hb dX2_readRule_100 hl (by decide) rfl (fun ls hl => ?_)
  refine lv_aload_n C0.hx C0.hb dX2_readRule_102 rfl (lv_at hl 1 rfl) ?_
  refine gf_X2_5 C0 hW h162 k_162 tf_X2_25 dX2_readRule_103 ?_
  refine g_sign C0 hW 13 (by decide) tf_X2_204 dX2_readRule_106 ?_
  refine g_acmp_ne (tgt := 121) C0 dX2_readRule_109 (by decide) (fun hc15 => ?_) (fun hc15 => ?_)
  · replace h := (if_neg hc15).symm.trans h
    exact w_X2_readRule_121 h162 h163 C0 _ _ _ _ _ _ _ _ h hW (lv_sub hl [1, 2, 3, 4, 0] rfl)
  · replace h := (if_pos hc15).symm.trans h
    refine lv_aload_n C0.hx C0.hb dX2_readRule_112 rfl (lv_at hl 1 rfl) ?_
    obtain ⟨q16, hq16, h⟩ := Option.bind_eq_some_iff.mp h
    refine g_callv hW (g_runV (As := []) (rest := []) C0 hW (c_X2_step h162 h163 hq16) (g_cwOf (n := 0) tc_X2_step tn_X2 md_X2_step (by decide) (by omega)) tm_X2_60 ti_X2_step ts_X2_step h162 (g_c11 k_162) rfl rfl hl.1 rfl (Nat.le_of_ble_eq_true rfl) dX2_readRule_113) (fun H locs hW => ?_)
    refine lv_aload_n C0.hx C0.hb dX2_readRule_116 rfl (lv_at hl 1 rfl) ?_
    refine lv_iconst (v := (0 : Int32)) C0.hx C0.hb dX2_readRule_117 (by decide) ?_
    obtain ⟨q17, hq17, h⟩ := Option.bind_eq_some_iff.mp h
    refine g_callv hW (g_runV (As := [.int ((0 : Int32))]) (rest := []) C0 hW (c_X2_readTest (c_X2_readSingle h162 h163 12) (by omega) h162 h163 hq17) (g_cwOf (n := 1) tc_X2_readTest tn_X2 md_X2_readTest (by decide) (by omega)) tm_X2_207 ti_X2_readTest ts_X2_readTest h162 (g_c11 k_162) rfl rfl hl.1 rfl (Nat.le_of_ble_eq_true rfl) dX2_readRule_118) (fun H locs hW => ?_)
    exact w_X2_readRule_121 h162 h163 C0 _ _ _ _ _ _ _ _ h hW (lv_sub hl [1, 2, 3, 4, 0] rfl)
set_option maxRecDepth 100000 in
set_option maxHeartbeats 4000000 in
theorem w_X2_readRule_52 {p : Program} {l : Launch} {e : Env} {s : State} {m : MethodId} {args : Array Value} {below : List Frame} {meth : Method} {c : Code} {G : GL} {ids : List Nat} {y : MS} {o : Nat → Int32}  {q : CS}  (h162 : 162 ∈ ids) (h163 : 163 ∈ ids) (C0 : g_X G ids p s m args meth c cX2_readRule 5 RX2 (Option.none : Option Jvm.ClassFile.FieldType))  : ∀   (x : CS) (H : Heap) (locs : List Loc) (ls : Array Slot),  f_X2_readRule_52 x = some q → g_W G ids (x, y, o) s.heap H locs → lv_has ls 5 [(0, .ref (g_ad G (162)))] → W p l e (g_rm 117 0 0) s m args below meth c H locs 0 0 (MQ below (g_Qv G ids (q, y, o)) args s 0 0 (g_A G)) (F0 m 52 ls []) := by
  intro x H locs ls h hW hl
  unfold f_X2_readRule_52 at h
  refine lv_aload_n C0.hx C0.hb dX2_readRule_52 rfl (lv_at hl 0 rfl) ?_
  refine gf_X2_5 C0 hW h162 k_162 tf_X2_25 dX2_readRule_53 ?_
  refine lv_astore_n (lv' := [(1, .ref (g_sg G (x.2 162 5))), (0, .ref (g_ad G (162)))]) C0.hx C0.hb dX2_readRule_56 rfl hl (by decide) rfl (fun ls hl => ?_)
  refine lv_aload_n C0.hx C0.hb dX2_readRule_57 rfl (lv_at hl 1 rfl) ?_
  obtain ⟨q8, hq8, h⟩ := Option.bind_eq_some_iff.mp h
  refine g_callv hW (g_runV (As := []) (rest := []) C0 hW (c_X2_step h162 h163 hq8) (g_cwOf (n := 0) tc_X2_step tn_X2 md_X2_step (by decide) (by omega)) tm_X2_60 ti_X2_step ts_X2_step h162 (g_c11 k_162) rfl rfl hl.1 rfl (Nat.le_of_ble_eq_true rfl) dX2_readRule_58) (fun H locs hW => ?_)
  refine lv_aload_n C0.hx C0.hb dX2_readRule_61 rfl (lv_at hl 1 rfl) ?_
  obtain ⟨q9, hq9, h⟩ := Option.bind_eq_some_iff.mp h
  refine g_calli hW (g_runV (As := []) (rest := []) C0 hW (c_X2_readKnownName h162 h163 hq9) (g_cwOf (n := 0) tc_X2_readKnownName tn_X2 md_X2_readKnownName (by decide) (by omega)) tm_X2_191 ti_X2_readKnownName ts_X2_readKnownName h162 (g_c11 k_162) rfl rfl hl.1 rfl (Nat.le_of_ble_eq_true rfl) dX2_readRule_62) (fun H locs hW => ?_)
  refine lv_istore_n (lv' := [(2, .int (q9.1)), (1, .ref (g_sg G (x.2 162 5))), (0, .ref (g_ad G (162)))]) C0.hx C0.hb dX2_readRule_65 rfl hl (by decide) rfl (fun ls hl => ?_)
  refine lv_aload_n C0.hx C0.hb dX2_readRule_66 rfl (lv_at hl 2 rfl) ?_
  obtain ⟨hk10, h⟩ := g_if h
  refine gf_X2_1 C0 hW h162 k_162 tf_X2_44 dX2_readRule_67 ?_
  refine gfN_X5_5 C0 hW (C0.mem (kl7 hk10)) hk10 tfN_X2_195 dX2_readRule_70 ?_
  refine lv_istore_n (lv' := [(3, .int (q9.2.1 (q9.2.2 162 1) 5)), (2, .int (q9.1)), (1, .ref (g_sg G (x.2 162 5))), (0, .ref (g_ad G (162)))]) C0.hx C0.hb dX2_readRule_73 rfl hl (by decide) rfl (fun ls hl => ?_)
  refine lv_aload_n C0.hx C0.hb dX2_readRule_74 rfl (lv_at hl 2 rfl) ?_
  refine g_sign C0 hW 11 (by decide) tf_X2_187 dX2_readRule_75 ?_
  refine g_acmp_ne (tgt := 93) C0 dX2_readRule_78 (by decide) (fun hc11 => ?_) (fun hc11 => ?_)
  · replace h := (if_neg hc11).symm.trans h
    exact w_X2_readRule_93 h162 h163 C0 _ _ _ _ _ _ _ h hW (lv_sub hl [3, 2, 1, 0] rfl)
  · replace h := (if_pos hc11).symm.trans h
    refine lv_aload_n C0.hx C0.hb dX2_readRule_81 rfl (lv_at hl 3 rfl) ?_
    refine g_sign C0 hW 12 (by decide) tf_X2_198 dX2_readRule_82 ?_
    obtain ⟨q12, hq12, h⟩ := Option.bind_eq_some_iff.mp h
    refine g_callv hW (g_runV (As := [.ref (g_sg G (12))]) (rest := []) C0 hW (c_X2_expect h162 h163 hq12) (g_cwOf (n := 1) tc_X2_expect tn_X2 md_X2_expect (by decide) (by omega)) tm_X2_94 ti_X2_expect ts_X2_expect h162 (g_c11 k_162) rfl rfl hl.1 rfl (Nat.le_of_ble_eq_true rfl) dX2_readRule_85) (fun H locs hW => ?_)
    refine lv_aload_n C0.hx C0.hb dX2_readRule_88 rfl (lv_at hl 3 rfl) ?_
    refine lv_iconst (v := (0 : Int32)) C0.hx C0.hb dX2_readRule_89 (by decide) ?_
    obtain ⟨q13, hq13, h⟩ := Option.bind_eq_some_iff.mp h
    refine g_callv hW (g_runV (As := [.int ((0 : Int32))]) (rest := []) C0 hW (c_X2_readSum (c_X2_readValue h162 h163 12) (by omega) h162 h163 hq13) (g_cwOf (n := 1) tc_X2_readSum tn_X2 md_X2_readSum (by decide) (by omega)) tm_X2_201 ti_X2_readSum ts_X2_readSum h162 (g_c11 k_162) rfl rfl hl.1 rfl (Nat.le_of_ble_eq_true rfl) dX2_readRule_90) (fun H locs hW => ?_)
    exact w_X2_readRule_93 h162 h163 C0 _ _ _ _ _ _ _ h hW (lv_sub hl [3, 2, 1, 0] rfl)
set_option maxRecDepth 100000 in
set_option maxHeartbeats 4000000 in
theorem w_X2_readRule_35 {p : Program} {l : Launch} {e : Env} {s : State} {m : MethodId} {args : Array Value} {below : List Frame} {meth : Method} {c : Code} {G : GL} {ids : List Nat} {y : MS} {o : Nat → Int32}  {q : CS}  (h162 : 162 ∈ ids) (h163 : 163 ∈ ids) (C0 : g_X G ids p s m args meth c cX2_readRule 5 RX2 (Option.none : Option Jvm.ClassFile.FieldType))  : ∀   (x : CS) (H : Heap) (locs : List Loc) (ls : Array Slot),  f_X2_readRule_35 x = some q → g_W G ids (x, y, o) s.heap H locs → lv_has ls 5 [(0, .ref (g_ad G (162)))] → W p l e (g_rm 117 0 0) s m args below meth c H locs 0 0 (MQ below (g_Qv G ids (q, y, o)) args s 0 0 (g_A G)) (F0 m 35 ls []) := by
  intro x H locs ls h hW hl
  unfold f_X2_readRule_35 at h
  refine lv_aload_n C0.hx C0.hb dX2_readRule_35 rfl (lv_at hl 0 rfl) ?_
  obtain ⟨hk5, h⟩ := g_if h
  refine gf_X2_1 C0 hW h162 k_162 tf_X2_44 dX2_readRule_36 ?_
  refine gfN_X5_4 C0 hW (C0.mem (kl7 hk5)) hk5 tfN_X2_190 dX2_readRule_39 ?_
  refine lv_bipush (v := (16 : Int32)) C0.hx C0.hb dX2_readRule_42 (by decide) ?_
  refine lv_icmp_lt (tgt := 52) C0.hx C0.hb dX2_readRule_44 (by decide) (fun hc6 => ?_) (fun hc6 => ?_)
  · replace h := (if_pos hc6).symm.trans h
    exact w_X2_readRule_52 h162 h163 C0 _ _ _ _ h hW (lv_sub hl [0] rfl)
  · replace h := (if_neg hc6).symm.trans h
    refine lv_aload_n C0.hx C0.hb dX2_readRule_47 rfl (lv_at hl 0 rfl) ?_
    refine lv_iconst (v := (4 : Int32)) C0.hx C0.hb dX2_readRule_48 (by decide) ?_
    obtain ⟨q7, hq7, h⟩ := Option.bind_eq_some_iff.mp h
    refine g_callv hW (g_runV (As := [.int ((4 : Int32))]) (rest := []) C0 hW (c_X2_blame h162 h163 hq7) (g_cwOf (n := 1) tc_X2_blame tn_X2 md_X2_blame (by decide) (by omega)) tm_X2_129 ti_X2_blame ts_X2_blame h162 (g_c11 k_162) rfl rfl hl.1 rfl (Nat.le_of_ble_eq_true rfl) dX2_readRule_49) (fun H locs hW => ?_)
    exact w_X2_readRule_52 h162 h163 C0 _ _ _ _ h hW (lv_sub hl [0] rfl)
set_option maxRecDepth 100000 in
set_option maxHeartbeats 4000000 in
theorem c_X2_readRule {l : Launch} {G : GL} {ids : List Nat} {y : MS} {o : Nat → Int32} {x : CS}  {q : CS}  (h162 : 162 ∈ ids) (h163 : 163 ∈ ids)  (h : f_X2_readRule x = some q) : Met l yX2_readRule (.code yX2_readRule cX2_readRule 5 (Option.none : Option Jvm.ClassFile.FieldType) :: gT) (g_rm 117 0 0) (va_Pc [.ref (g_ad G (162))] (g_P G ids (x, y, o))) (g_Qv G ids (q, y, o)) 0 0 (g_A G) := by
  unfold f_X2_readRule at h
  refine g_entry (by decide) (Nat.le_of_ble_eq_true rfl) (fun p e s m args below meth c ls C0 hl hW _ => ?_)
  have hl : lv_has ls 5 [(0, .ref (g_ad G (162)))] := hl
  refine lv_aload_n C0.hx C0.hb dX2_readRule_0 rfl (lv_at hl 0 rfl) ?_
  refine gf_X2_5 C0 hW h162 k_162 tf_X2_25 dX2_readRule_1 ?_
  refine g_sign C0 hW 9 (by decide) tf_X2_181 dX2_readRule_4 ?_
  refine g_acmp_eq (tgt := 35) C0 dX2_readRule_7 (by decide) (fun hc1 => ?_) (fun hc1 => ?_)
  · replace h := (if_pos hc1).symm.trans h
    exact w_X2_readRule_35 h162 h163 C0 _ _ _ _ h hW (lv_sub hl [0] rfl)
  · replace h := (if_neg hc1).symm.trans h
    refine lv_aload_n C0.hx C0.hb dX2_readRule_10 rfl (lv_at hl 0 rfl) ?_
    refine gf_X2_5 C0 hW h162 k_162 tf_X2_25 dX2_readRule_11 ?_
    refine g_sign C0 hW 10 (by decide) tf_X2_184 dX2_readRule_14 ?_
    refine g_acmp_eq (tgt := 35) C0 dX2_readRule_17 (by decide) (fun hc2 => ?_) (fun hc2 => ?_)
    · replace h := (if_pos hc2).symm.trans h
      exact w_X2_readRule_35 h162 h163 C0 _ _ _ _ h hW (lv_sub hl [0] rfl)
    · replace h := (if_neg hc2).symm.trans h
      refine lv_aload_n C0.hx C0.hb dX2_readRule_20 rfl (lv_at hl 0 rfl) ?_
      refine gf_X2_5 C0 hW h162 k_162 tf_X2_25 dX2_readRule_21 ?_
      refine g_sign C0 hW 11 (by decide) tf_X2_187 dX2_readRule_24 ?_
      refine g_acmp_eq (tgt := 35) C0 dX2_readRule_27 (by decide) (fun hc3 => ?_) (fun hc3 => ?_)
      · replace h := (if_pos hc3).symm.trans h
        exact w_X2_readRule_35 h162 h163 C0 _ _ _ _ h hW (lv_sub hl [0] rfl)
      · replace h := (if_neg hc3).symm.trans h
        refine lv_aload_n C0.hx C0.hb dX2_readRule_30 rfl (lv_at hl 0 rfl) ?_
        obtain ⟨q4, hq4, h⟩ := Option.bind_eq_some_iff.mp h
        refine g_callv hW (g_runV (As := []) (rest := []) C0 hW (c_X2_refuse h162 h163 hq4) (g_cwOf (n := 0) tc_X2_refuse tn_X2 md_X2_refuse (by decide) (by omega)) tm_X2_108 ti_X2_refuse ts_X2_refuse h162 (g_c11 k_162) rfl rfl hl.1 rfl (Nat.le_of_ble_eq_true rfl) dX2_readRule_31) (fun H locs hW => ?_)
        obtain rfl := Option.some.inj h
        exact g_vret C0 hW rfl dX2_readRule_34
set_option maxRecDepth 100000 in
set_option maxHeartbeats 4000000 in
theorem w_X2_readLanguage_128 {p : Program} {l : Launch} {e : Env} {s : State} {m : MethodId} {args : Array Value} {below : List Frame} {meth : Method} {c : Code} {G : GL} {ids : List Nat} {y : MS} {o : Nat → Int32}  {q : CS} {k20 : Int32 → CS → Option (CS)}  (h162 : 162 ∈ ids) (h163 : 163 ∈ ids) (C0 : g_X G ids p s m args meth c cX2_readLanguage 2 RX2 (Option.none : Option Jvm.ClassFile.FieldType)) (kt20 : ∀ (l1 : Int32) (x : CS) (H : Heap) (locs : List Loc) (ls : Array Slot),  k20 l1 x = some q → g_W G ids (x, y, o) s.heap H locs → lv_has ls 2 [(0, .ref (g_ad G (162))), (1, .int (l1))] → W p l e (g_rm 118 0 0) s m args below meth c H locs 0 0 (MQ below (g_Qv G ids (q, y, o)) args s 0 0 (g_A G)) (F0 m 20 ls [])) : ∀  (l1 : Int32) (x : CS) (H : Heap) (locs : List Loc) (ls : Array Slot),  f_X2_readLanguage_128 k20 l1 x = some q → g_W G ids (x, y, o) s.heap H locs → lv_has ls 2 [(0, .ref (g_ad G (162))), (1, .int (l1))] → W p l e (g_rm 118 0 0) s m args below meth c H locs 0 0 (MQ below (g_Qv G ids (q, y, o)) args s 0 0 (g_A G)) (F0 m 128 ls []) := by
  intro l1 x H locs ls h hW hl
  unfold f_X2_readLanguage_128 at h
  refine lv_aload_n C0.hx C0.hb dX2_readLanguage_128 rfl (lv_at hl 0 rfl) ?_
  refine g_sign C0 hW 30 (by decide) tf_X2_91 dX2_readLanguage_129 ?_
  obtain ⟨q20, hq20, h⟩ := Option.bind_eq_some_iff.mp h
  refine g_callv hW (g_runV (As := [.ref (g_sg G (30))]) (rest := []) C0 hW (c_X2_expect h162 h163 hq20) (g_cwOf (n := 1) tc_X2_expect tn_X2 md_X2_expect (by decide) (by omega)) tm_X2_94 ti_X2_expect ts_X2_expect h162 (g_c11 k_162) rfl rfl hl.1 rfl (Nat.le_of_ble_eq_true rfl) dX2_readLanguage_132) (fun H locs hW => ?_)
  refine lv_iinc (v := l1 + (1 : Int32)) (lv' := [(1, .int (l1 + (1 : Int32))), (0, .ref (g_ad G (162)))]) C0.hx C0.hb dX2_readLanguage_135 hl (k := 1) rfl rfl (by decide) rfl (fun ls hl => ?_)
  refine lv_goto (tgt := 20) C0.hx C0.hb dX2_readLanguage_138 (by decide) ?_
  exact kt20 _ _ _ _ _ h hW (lv_sub hl [1, 0] rfl)
set_option maxRecDepth 100000 in
set_option maxHeartbeats 4000000 in
theorem w_X2_readLanguage_20 {p : Program} {l : Launch} {e : Env} {s : State} {m : MethodId} {args : Array Value} {below : List Frame} {meth : Method} {c : Code} {G : GL} {ids : List Nat} {y : MS} {o : Nat → Int32}  {q : CS}  (h162 : 162 ∈ ids) (h163 : 163 ∈ ids) (C0 : g_X G ids p s m args meth c cX2_readLanguage 2 RX2 (Option.none : Option Jvm.ClassFile.FieldType))  : ∀ (n : Nat) (l1 : Int32) (x : CS) (H : Heap) (locs : List Loc) (ls : Array Slot),  f_X2_readLanguage_20 n l1 x = some q → g_W G ids (x, y, o) s.heap H locs → lv_has ls 2 [(0, .ref (g_ad G (162))), (1, .int (l1))] → W p l e (g_rm 118 0 0) s m args below meth c H locs 0 0 (MQ below (g_Qv G ids (q, y, o)) args s 0 0 (g_A G)) (F0 m 20 ls []) := by
  intro n
  induction n with
  | zero =>
    intro l1 x H locs ls h hW hl
    exact absurd h (by simp [f_X2_readLanguage_20])
  | succ n ih =>
    intro l1 x H locs ls h hW hl
    unfold f_X2_readLanguage_20 at h
    refine lv_iload_n C0.hx C0.hb dX2_readLanguage_20 rfl (lv_at hl 1 rfl) ?_
    refine lv_sipush (v := (400 : Int32)) C0.hx C0.hb dX2_readLanguage_21 (by decide) ?_
    refine lv_icmp_ge (tgt := 141) C0.hx C0.hb dX2_readLanguage_24 (by decide) (fun hc6 => ?_) (fun hc6 => ?_)
    · replace h := (if_pos hc6).symm.trans h
      obtain rfl := Option.some.inj h
      exact g_vret C0 hW rfl dX2_readLanguage_141
    · replace h := (if_neg hc6).symm.trans h
      refine lv_aload_n C0.hx C0.hb dX2_readLanguage_27 rfl (lv_at hl 0 rfl) ?_
      refine gf_X2_8 C0 hW h162 k_162 tf_X2_34 dX2_readLanguage_28 ?_
      refine lv_iconst (v := (1 : Int32)) C0.hx C0.hb dX2_readLanguage_31 (by decide) ?_
      refine lv_icmp_eq (tgt := 141) C0.hx C0.hb dX2_readLanguage_32 (by decide) (fun hc7 => ?_) (fun hc7 => ?_)
      · replace h := (if_pos hc7).symm.trans h
        obtain rfl := Option.some.inj h
        exact g_vret C0 hW rfl dX2_readLanguage_141
      · replace h := (if_neg hc7).symm.trans h
        refine lv_aload_n C0.hx C0.hb dX2_readLanguage_35 rfl (lv_at hl 0 rfl) ?_
        refine gf_X2_5 C0 hW h162 k_162 tf_X2_25 dX2_readLanguage_36 ?_
        refine g_sign C0 hW 44 (by decide) tf_X2_63 dX2_readLanguage_39 ?_
        refine g_acmp_eq (tgt := 141) C0 dX2_readLanguage_42 (by decide) (fun hc8 => ?_) (fun hc8 => ?_)
        · replace h := (if_pos hc8).symm.trans h
          obtain rfl := Option.some.inj h
          exact g_vret C0 hW rfl dX2_readLanguage_141
        · replace h := (if_neg hc8).symm.trans h
          refine lv_aload_n C0.hx C0.hb dX2_readLanguage_45 rfl (lv_at hl 0 rfl) ?_
          refine gf_X2_5 C0 hW h162 k_162 tf_X2_25 dX2_readLanguage_46 ?_
          refine g_sign C0 hW 0 (by decide) tf_X2_66 dX2_readLanguage_49 ?_
          refine g_acmp_ne (tgt := 62) C0 dX2_readLanguage_52 (by decide) (fun hc9 => ?_) (fun hc9 => ?_)
          · replace h := (if_neg hc9).symm.trans h
            refine lv_aload_n C0.hx C0.hb dX2_readLanguage_62 rfl (lv_at hl 0 rfl) ?_
            refine gf_X2_5 C0 hW h162 k_162 tf_X2_25 dX2_readLanguage_63 ?_
            refine g_sign C0 hW 7 (by decide) tf_X2_72 dX2_readLanguage_66 ?_
            refine g_acmp_ne (tgt := 93) C0 dX2_readLanguage_69 (by decide) (fun hc10 => ?_) (fun hc10 => ?_)
            · replace h := (if_neg hc10).symm.trans h
              refine lv_aload_n C0.hx C0.hb dX2_readLanguage_93 rfl (lv_at hl 0 rfl) ?_
              refine gf_X2_5 C0 hW h162 k_162 tf_X2_25 dX2_readLanguage_94 ?_
              refine g_sign C0 hW 8 (by decide) tf_X2_82 dX2_readLanguage_97 ?_
              refine g_acmp_ne (tgt := 124) C0 dX2_readLanguage_100 (by decide) (fun hc11 => ?_) (fun hc11 => ?_)
              · replace h := (if_neg hc11).symm.trans h
                refine lv_aload_n C0.hx C0.hb dX2_readLanguage_124 rfl (lv_at hl 0 rfl) ?_
                obtain ⟨q12, hq12, h⟩ := Option.bind_eq_some_iff.mp h
                refine g_callv hW (g_runV (As := []) (rest := []) C0 hW (c_X2_readRule h162 h163 hq12) (g_cwOf (n := 0) tc_X2_readRule tn_X2 md_X2_readRule (by decide) (by omega)) tm_X2_88 ti_X2_readRule ts_X2_readRule h162 (g_c11 k_162) rfl rfl hl.1 rfl (Nat.le_of_ble_eq_true rfl) dX2_readLanguage_125) (fun H locs hW => ?_)
                exact w_X2_readLanguage_128 h162 h163 C0 ih _ _ _ _ _ h hW (lv_sub hl [0, 1] rfl)
              · replace h := (if_pos hc11).symm.trans h
                refine lv_aload_n C0.hx C0.hb dX2_readLanguage_103 rfl (lv_at hl 0 rfl) ?_
                obtain ⟨q13, hq13, h⟩ := Option.bind_eq_some_iff.mp h
                refine g_callv hW (g_runV (As := []) (rest := []) C0 hW (c_X2_step h162 h163 hq13) (g_cwOf (n := 0) tc_X2_step tn_X2 md_X2_step (by decide) (by omega)) tm_X2_60 ti_X2_step ts_X2_step h162 (g_c11 k_162) rfl rfl hl.1 rfl (Nat.le_of_ble_eq_true rfl) dX2_readLanguage_104) (fun H locs hW => ?_)
                refine lv_aload_n C0.hx C0.hb dX2_readLanguage_107 rfl (lv_at hl 0 rfl) ?_
                obtain ⟨hk14, h⟩ := g_if h
                refine gf_X2_1 C0 hW h162 k_162 tf_X2_44 dX2_readLanguage_108 ?_
                refine lv_aload_n C0.hx C0.hb dX2_readLanguage_111 rfl (lv_at hl 0 rfl) ?_
                refine lv_iconst (v := (0 : Int32)) C0.hx C0.hb dX2_readLanguage_112 (by decide) ?_
                refine lv_bipush (v := (99 : Int32)) C0.hx C0.hb dX2_readLanguage_113 (by decide) ?_
                obtain ⟨q15, hq15, h⟩ := Option.bind_eq_some_iff.mp h
                refine g_calli hW (g_runV (As := [.int ((0 : Int32)), .int ((99 : Int32))]) (rest := [.ref (g_ad G (q13.2 162 1))]) C0 hW (c_X2_readNumber h162 h163 hq15) (g_cwOf (n := 2) tc_X2_readNumber tn_X2 md_X2_readNumber (by decide) (by omega)) tm_X2_75 ti_X2_readNumber ts_X2_readNumber h162 (g_c11 k_162) rfl rfl hl.1 rfl (Nat.le_of_ble_eq_true rfl) dX2_readLanguage_115) (fun H locs hW => ?_)
                refine gpN_X5_7 C0 hW (C0.mem (kl7 hk14)) hk14 tfN_X2_85 dX2_readLanguage_118 (fun H locs hW => ?_)
                refine lv_goto (tgt := 128) C0.hx C0.hb dX2_readLanguage_121 (by decide) ?_
                exact w_X2_readLanguage_128 h162 h163 C0 ih _ _ _ _ _ h hW (lv_sub hl [0, 1] rfl)
            · replace h := (if_pos hc10).symm.trans h
              refine lv_aload_n C0.hx C0.hb dX2_readLanguage_72 rfl (lv_at hl 0 rfl) ?_
              obtain ⟨q16, hq16, h⟩ := Option.bind_eq_some_iff.mp h
              refine g_callv hW (g_runV (As := []) (rest := []) C0 hW (c_X2_step h162 h163 hq16) (g_cwOf (n := 0) tc_X2_step tn_X2 md_X2_step (by decide) (by omega)) tm_X2_60 ti_X2_step ts_X2_step h162 (g_c11 k_162) rfl rfl hl.1 rfl (Nat.le_of_ble_eq_true rfl) dX2_readLanguage_73) (fun H locs hW => ?_)
              refine lv_aload_n C0.hx C0.hb dX2_readLanguage_76 rfl (lv_at hl 0 rfl) ?_
              obtain ⟨hk17, h⟩ := g_if h
              refine gf_X2_1 C0 hW h162 k_162 tf_X2_44 dX2_readLanguage_77 ?_
              refine lv_aload_n C0.hx C0.hb dX2_readLanguage_80 rfl (lv_at hl 0 rfl) ?_
              refine lv_iconst (v := (0 : Int32)) C0.hx C0.hb dX2_readLanguage_81 (by decide) ?_
              refine lv_bipush (v := (20 : Int32)) C0.hx C0.hb dX2_readLanguage_82 (by decide) ?_
              obtain ⟨q18, hq18, h⟩ := Option.bind_eq_some_iff.mp h
              refine g_calli hW (g_runV (As := [.int ((0 : Int32)), .int ((20 : Int32))]) (rest := [.ref (g_ad G (q16.2 162 1))]) C0 hW (c_X2_readNumber h162 h163 hq18) (g_cwOf (n := 2) tc_X2_readNumber tn_X2 md_X2_readNumber (by decide) (by omega)) tm_X2_75 ti_X2_readNumber ts_X2_readNumber h162 (g_c11 k_162) rfl rfl hl.1 rfl (Nat.le_of_ble_eq_true rfl) dX2_readLanguage_84) (fun H locs hW => ?_)
              refine gpN_X5_6 C0 hW (C0.mem (kl7 hk17)) hk17 tfN_X2_79 dX2_readLanguage_87 (fun H locs hW => ?_)
              refine lv_goto (tgt := 128) C0.hx C0.hb dX2_readLanguage_90 (by decide) ?_
              exact w_X2_readLanguage_128 h162 h163 C0 ih _ _ _ _ _ h hW (lv_sub hl [0, 1] rfl)
          · replace h := (if_pos hc9).symm.trans h
            refine lv_aload_n C0.hx C0.hb dX2_readLanguage_55 rfl (lv_at hl 0 rfl) ?_
            obtain ⟨q19, hq19, h⟩ := Option.bind_eq_some_iff.mp h
            refine g_callv hW (g_runV (As := []) (rest := []) C0 hW (c_X2_readWord h162 h163 hq19) (g_cwOf (n := 0) tc_X2_readWord tn_X2 md_X2_readWord (by decide) (by omega)) tm_X2_69 ti_X2_readWord ts_X2_readWord h162 (g_c11 k_162) rfl rfl hl.1 rfl (Nat.le_of_ble_eq_true rfl) dX2_readLanguage_56) (fun H locs hW => ?_)
            refine lv_goto (tgt := 128) C0.hx C0.hb dX2_readLanguage_59 (by decide) ?_
            exact w_X2_readLanguage_128 h162 h163 C0 ih _ _ _ _ _ h hW (lv_sub hl [0, 1] rfl)
set_option maxRecDepth 100000 in
set_option maxHeartbeats 4000000 in
theorem c_X2_readLanguage {l : Launch} {G : GL} {ids : List Nat} {y : MS} {o : Nat → Int32} {x : CS}  {q : CS}  (h162 : 162 ∈ ids) (h163 : 163 ∈ ids)  (h : f_X2_readLanguage x = some q) : Met l yX2_readLanguage (.code yX2_readLanguage cX2_readLanguage 2 (Option.none : Option Jvm.ClassFile.FieldType) :: gT) (g_rm 118 0 0) (va_Pc [.ref (g_ad G (162))] (g_P G ids (x, y, o))) (g_Qv G ids (q, y, o)) 0 0 (g_A G) := by
  unfold f_X2_readLanguage at h
  refine g_entry (by decide) (Nat.le_of_ble_eq_true rfl) (fun p e s m args below meth c ls C0 hl hW _ => ?_)
  have hl : lv_has ls 2 [(0, .ref (g_ad G (162)))] := hl
  refine lv_aload_n C0.hx C0.hb dX2_readLanguage_0 rfl (lv_at hl 0 rfl) ?_
  obtain ⟨hk1, h⟩ := g_if h
  refine gf_X2_1 C0 hW h162 k_162 tf_X2_44 dX2_readLanguage_1 ?_
  obtain ⟨q2, hq2, h⟩ := Option.bind_eq_some_iff.mp h
  refine g_callv hW (g_runV (As := []) (rest := []) C0 hW (c_X5_clear hk1 hq2) (g_cwOf (n := 0) tc_X5_clear tn_X5 md_X5_clear (by decide) (by omega)) tm_X2_52 ti_X5_clear ts_X5_clear (C0.mem (kl7 hk1)) (g_c7 hk1) rfl rfl hl.1 rfl (Nat.le_of_ble_eq_true rfl) dX2_readLanguage_4) (fun H locs hW => ?_)
  refine lv_aload_n C0.hx C0.hb dX2_readLanguage_7 rfl (lv_at hl 0 rfl) ?_
  obtain ⟨hk3, h⟩ := g_if h
  refine gf_X2_2 C0 hW h162 k_162 tf_X2_48 dX2_readLanguage_8 ?_
  obtain ⟨q4, hq4, h⟩ := Option.bind_eq_some_iff.mp h
  refine g_callv hW (g_runV (As := []) (rest := []) C0 hW (c_X9_clear hk3 hq4) (g_cwOf (n := 0) tc_X9_clear tn_X9 md_X9_clear (by decide) (by omega)) tm_X2_57 ti_X9_clear ts_X9_clear (C0.mem (kl9 hk3)) (g_c9 hk3) rfl rfl hl.1 rfl (Nat.le_of_ble_eq_true rfl) dX2_readLanguage_11) (fun H locs hW => ?_)
  refine lv_aload_n C0.hx C0.hb dX2_readLanguage_14 rfl (lv_at hl 0 rfl) ?_
  obtain ⟨q5, hq5, h⟩ := Option.bind_eq_some_iff.mp h
  refine g_callv hW (g_runV (As := []) (rest := []) C0 hW (c_X2_step h162 h163 hq5) (g_cwOf (n := 0) tc_X2_step tn_X2 md_X2_step (by decide) (by omega)) tm_X2_60 ti_X2_step ts_X2_step h162 (g_c11 k_162) rfl rfl hl.1 rfl (Nat.le_of_ble_eq_true rfl) dX2_readLanguage_15) (fun H locs hW => ?_)
  refine lv_iconst (v := (0 : Int32)) C0.hx C0.hb dX2_readLanguage_18 (by decide) ?_
  refine lv_istore_n (lv' := [(1, .int ((0 : Int32))), (0, .ref (g_ad G (162)))]) C0.hx C0.hb dX2_readLanguage_19 rfl hl (by decide) rfl (fun ls hl => ?_)
  exact w_X2_readLanguage_20 h162 h163 C0 g_fuel _ _ _ _ _ h hW (lv_sub hl [1, 0] rfl)
