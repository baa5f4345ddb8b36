/-! THE LAW'S HELPERS: one call each, in a try -/
theorem k_161 : kd 161 = 38 := by decide
theorem g_tk1 : Cond.castable g_ISE g_ISE ∈ gN := g_nem4 (i := 112) (by decide +kernel) rfl
theorem g_tk2 : Cond.castable g_IAE g_IAE ∈ gN := g_nem4 (i := 192) (by decide +kernel) rfl
theorem g_tk3 : Cond.castable g_IOB g_IOB ∈ gN := g_nem4 (i := 220) (by decide +kernel) rfl
/-- classes of exceptions of which the one isn't the other -/
def g_NC (s : State) : Prop := va_Nc g_ISE g_IOB s ∧ va_Nc g_ISE g_IAE s ∧ va_Nc g_IAE g_IOB s
def g_PL (G : GL) (ids : List Nat) (S : SS) (U : State) : Prop := g_P G ids S U ∧ g_NC U
theorem g_NC.to {s U : State} (h : g_NC s) (hA : s.vm.Alike U.vm) : g_NC U := ⟨h.1.moved hA, h.2.1.moved hA, h.2.2.moved hA⟩
theorem g_blindL {G : GL} {ids : List Nat} {S : SS} {as : List Value} : FrameBlind (va_Pc as (g_PL G ids S)) := fun a U g mk q => ⟨(g_blind (as := as) a U g mk ⟨q.1, q.2.1⟩).1, (g_blind (as := as) a U g mk ⟨q.1, q.2.1⟩).2, g_NC.to (U := U.calling g mk a) q.2.2 (State.WarmedH.refl U).alike⟩
section GH
variable {p : Program} {l : Launch} {e : Env} {R : Room} {s : State} {m : MethodId} {args : Array Value} {below : List Frame} {meth : Method} {c : Code} {H : Heap} {locs : List Loc} {cells slots : Nat} {Q : State → Prop} {G : GL} {ids : List Nat} {S : SS} {cc : ByteArray} {nL pc : Nat} {own : String} {rt : Option FieldType} {ls : Array Slot} {rest : List Value} {idx mc ms : Nat} {Qc : Array Value → State → Outcome → State → Prop}
theorem g_entryL {y : MethodName} {ret : Option FieldType} {rm : Room} {as : List Value} {maxL : Nat} {hh : List (Nat × Nat × Nat × Nat)} (hy : plainName y.cls = true) (hlen : (lg_sl as).length ≤ maxL)
    (body : ∀ (p : Program) (e : Env) (s : State) (m : MethodId) (args : Array Value) (below : List Frame) (meth : Method) (c : Code) (ls : Array Slot), g_X G ids p s m args meth c cc maxL y.cls ret → lv_has ls maxL (lv_args 0 as) → g_W G ids S s.heap s.heap [] → g_NC s → c.exceptionTable.toList = tableOf hh → W p l e rm s m args below meth c s.heap [] 0 0 (MQ below Qc args s mc ms (g_A G)) (F0 m 0 ls [])) : Met l y (.codeWith y cc maxL ret hh :: gT) rm (va_Pc as (g_PL G ids S)) Qc mc ms (g_A G) := by
  refine va_MetW (cc := cc) (maxL := maxL) (ret := ret) hy rfl ?_
  intro p e s m args below meth c s₁ B hml hv
  obtain ⟨rfl, ⟨hP, hD, hI, hG⟩, hnc⟩ := hv
  have hts := atoms_spec (ws := .codeWith y cc maxL ret hh :: gT) B.pre
  rw [lg_entry_eq]
  exact body p e s m _ below meth c _ ⟨B.exec, B.bytes, hml, findClass_of_methodNamed B.named, fun w h => hts w (List.mem_cons_of_mem _ h), B.notSynchronized, B.returns, hI, hG⟩ (lv_entry as hlen) ⟨hP, hD, va_S.rf⟩ hnc (vx_table (x := y) B (hts _ List.mem_cons_self))
end GH
def f_L_feed (p1 : Int32) (p2 : Int32) (p3 : Int32) (p4 : Int32) (p5 : Int32) (x : CS) (o : Nat → Int32) : Option (Int32 × CS × (Nat → Int32)) :=
  (f_X12_feed p1 p2 p3 p4 p5 x).bind fun r => match r with
    | .inl u => if u = 1 then some (1, x, o) else none
    | .inr q1 => some (0, q1.2, upd o 0 q1.1)
set_option maxRecDepth 100000 in
set_option maxHeartbeats 4000000 in
theorem c_L_feed {l : Launch} {G : GL} {ids : List Nat} {x : CS} {y : MS} {o : Nat → Int32} {p1 : Int32} {p2 : Int32} {p3 : Int32} {p4 : Int32} {p5 : Int32} {q : Int32 × CS × (Nat → Int32)} (hfl : l.stackTraces = false) (h161 : 161 ∈ ids) (h : f_L_feed p1 p2 p3 p4 p5 x o = some q) : Met l yL_feed (.codeWith yL_feed cL_feed 8 (Option.some Jvm.ClassFile.FieldType.int) [((0 : Nat), (16 : Nat), (19 : Nat), (13 : Nat))] :: gT) (g_rm 7 1 6) (va_Pc [.ref (g_ad G 0), .int p1, .int p2, .int p3, .int p4, .int p5, .ref (g_ad G 161)] (g_PL G ids (x, y, o))) (g_Qi G ids q.1 (q.2.1, y, q.2.2)) 1 6 (g_A G) := by
  unfold f_L_feed at h
  obtain ⟨r, hr, h⟩ := Option.bind_eq_some_iff.mp h
  refine g_entryL (by decide) (Nat.le_of_ble_eq_true rfl) (fun p e s m args below meth c ls C0 hl hW hnc htab => ?_)
  have hl : lv_has ls 8 [(0, .ref (g_ad G 0)), (1, .int p1), (2, .int p2), (3, .int p3), (4, .int p4), (5, .int p5), (6, .ref (g_ad G 161))] := hl
  refine lv_aload C0.hx C0.hb dL_feed_0 (lv_at hl 6 rfl) ?_
  refine lv_iconst (v := (0 : Int32)) C0.hx C0.hb dL_feed_2 (by decide) ?_
  refine lv_aload_n C0.hx C0.hb dL_feed_3 rfl (lv_at hl 0 rfl) ?_
  refine lv_iload_n C0.hx C0.hb dL_feed_4 rfl (lv_at hl 1 rfl) ?_
  refine lv_iload_n C0.hx C0.hb dL_feed_5 rfl (lv_at hl 2 rfl) ?_
  refine lv_iload_n C0.hx C0.hb dL_feed_6 rfl (lv_at hl 3 rfl) ?_
  refine lv_iload C0.hx C0.hb dL_feed_7 (lv_at hl 4 rfl) ?_
  refine lv_iload C0.hx C0.hb dL_feed_9 (lv_at hl 5 rfl) ?_
  refine vx_calli (g_xrunV (As := [.int p1, .int p2, .int p3, .int p4, .int p5]) (rest := [.int (0 : Int32), .ref (g_ad G 161)]) C0 hW (c_X12_feed hfl hr) (g_cwG (n := 5) tc_X12_feed tn_X12 md_X12_feed (by decide) (by omega) (by decide) (by decide)) tm_L_7 ti_X12_feed ts_X12_feed (C0.mem (i := 0) (Nat.le_of_ble_eq_true rfl)) (g_c1 k_0) rfl rfl hl.1 rfl (Nat.le_of_ble_eq_true rfl) dL_feed_11) hW.2.2 (fun q _ h => h) (fun q h => h) (fun q _ h => h) (fun E ce q9 u t H1 locs1 ht hvm hp hB hz hk hS hc hv hcl => ?_) (fun x1 u t H1 locs1 ht hvm hp hB hz hk hS => ?_)
  · obtain ⟨rfl, hB⟩ := hB
    have hp : r = Sum.inl u := hp
    subst ht
    subst hp
    have hW : g_W G ids (x, y, o) s.heap t.heap locs1 := ⟨hB.1, hB.2, hS⟩
    by_cases hu : u = 1
    · replace h := (if_pos hu).symm.trans h
      subst hu
      obtain rfl := Option.some.inj h
      refine vx_catch (E := g_ex 1) (name := g_ISE) C0.hown [] ⟨0, 16, 19, 13⟩ [] (htab.trans rfl) (fun z hz => by cases hz) (by decide) (by decide) (C0.hts _ tl_L_13) (C0.hN _ g_tk1) hc hv hcl ?_
      refine lv_astore (lv' := [(7, .ref q9), (0, .ref (g_ad G 0)), (1, .int p1), (2, .int p2), (3, .int p3), (4, .int p4), (5, .int p5), (6, .ref (g_ad G 161))]) C0.hx C0.hb dL_feed_19 hl (by decide) rfl (fun ls hl => ?_)
      refine lv_iconst (v := (1 : Int32)) C0.hx C0.hb dL_feed_21 (by decide) ?_
      refine W.widen (k := 1) (n := 6) (by decide) (by decide) ?_
      exact g_iret C0 hW rfl rfl rfl dL_feed_22
    · replace h := (if_neg hu).symm.trans h
      cases h
  · have hp : r = Sum.inr (x1, u) := hp
    subst hp
    subst ht
    have hW : g_W G ids (u, y, o) s.heap t.heap locs1 := ⟨hB.1, hB.2, hS⟩
    obtain rfl := Option.some.inj h
    refine lv_i2l C0.hx C0.hb dL_feed_14 rfl ?_
    refine gs_38 C0 hW h161 k_161 (j := (0 : Int32)) (v := x1) (by decide) dL_feed_15 (fun H locs hW => ?_)
    refine lv_goto (tgt := 23) C0.hx C0.hb dL_feed_16 (by decide) ?_
    refine lv_iconst (v := (0 : Int32)) C0.hx C0.hb dL_feed_23 (by decide) ?_
    refine W.widen (k := 1) (n := 6) (by decide) (by decide) ?_
    exact g_iret C0 hW rfl rfl rfl dL_feed_24
def f_L_trim (p1 : Int32) (x : CS) (o : Nat → Int32) : Option (Int32 × CS × (Nat → Int32)) :=
  (f_X12_trim p1 x).bind fun r => match r with
    | .inl u => if u = 2 then some (1, x, o) else none
    | .inr q1 => some (0, q1.2, upd o 0 q1.1)
set_option maxRecDepth 100000 in
set_option maxHeartbeats 4000000 in
theorem c_L_trim {l : Launch} {G : GL} {ids : List Nat} {x : CS} {y : MS} {o : Nat → Int32} {p1 : Int32} {q : Int32 × CS × (Nat → Int32)} (hfl : l.stackTraces = false) (h161 : 161 ∈ ids) (h : f_L_trim p1 x o = some q) : Met l yL_trim (.codeWith yL_trim cL_trim 4 (Option.some Jvm.ClassFile.FieldType.int) [((0 : Nat), (9 : Nat), (12 : Nat), (19 : Nat))] :: gT) (g_rm 7 1 6) (va_Pc [.ref (g_ad G 0), .int p1, .ref (g_ad G 161)] (g_PL G ids (x, y, o))) (g_Qi G ids q.1 (q.2.1, y, q.2.2)) 1 6 (g_A G) := by
  unfold f_L_trim at h
  obtain ⟨r, hr, h⟩ := Option.bind_eq_some_iff.mp h
  refine g_entryL (by decide) (Nat.le_of_ble_eq_true rfl) (fun p e s m args below meth c ls C0 hl hW hnc htab => ?_)
  have hl : lv_has ls 4 [(0, .ref (g_ad G 0)), (1, .int p1), (2, .ref (g_ad G 161))] := hl
  refine lv_aload_n C0.hx C0.hb dL_trim_0 rfl (lv_at hl 2 rfl) ?_
  refine lv_iconst (v := (0 : Int32)) C0.hx C0.hb dL_trim_1 (by decide) ?_
  refine lv_aload_n C0.hx C0.hb dL_trim_2 rfl (lv_at hl 0 rfl) ?_
  refine lv_iload_n C0.hx C0.hb dL_trim_3 rfl (lv_at hl 1 rfl) ?_
  refine vx_calli (g_xrunV (As := [.int p1]) (rest := [.int (0 : Int32), .ref (g_ad G 161)]) C0 hW (c_X12_trim hfl hr) (g_cwG (n := 1) tc_X12_trim tn_X12 md_X12_trim (by decide) (by omega) (by decide) (by decide)) tm_L_15 ti_X12_trim ts_X12_trim (C0.mem (i := 0) (Nat.le_of_ble_eq_true rfl)) (g_c1 k_0) rfl rfl hl.1 rfl (Nat.le_of_ble_eq_true rfl) dL_trim_4) hW.2.2 (fun q _ h => h) (fun q h => h) (fun q _ h => h) (fun E ce q9 u t H1 locs1 ht hvm hp hB hz hk hS hc hv hcl => ?_) (fun x1 u t H1 locs1 ht hvm hp hB hz hk hS => ?_)
  · obtain ⟨rfl, hB⟩ := hB
    have hp : r = Sum.inl u := hp
    subst ht
    subst hp
    have hW : g_W G ids (x, y, o) s.heap t.heap locs1 := ⟨hB.1, hB.2, hS⟩
    by_cases hu : u = 2
    · replace h := (if_pos hu).symm.trans h
      subst hu
      obtain rfl := Option.some.inj h
      refine vx_catch (E := g_ex 2) (name := g_IAE) C0.hown [] ⟨0, 9, 12, 19⟩ [] (htab.trans rfl) (fun z hz => by cases hz) (by decide) (by decide) (C0.hts _ tl_L_19) (C0.hN _ g_tk2) hc hv hcl ?_
      refine lv_astore_n (lv' := [(3, .ref q9), (0, .ref (g_ad G 0)), (1, .int p1), (2, .ref (g_ad G 161))]) C0.hx C0.hb dL_trim_12 rfl hl (by decide) rfl (fun ls hl => ?_)
      refine lv_iconst (v := (1 : Int32)) C0.hx C0.hb dL_trim_13 (by decide) ?_
      refine W.widen (k := 1) (n := 6) (by decide) (by decide) ?_
      exact g_iret C0 hW rfl rfl rfl dL_trim_14
    · replace h := (if_neg hu).symm.trans h
      cases h
  · have hp : r = Sum.inr (x1, u) := hp
    subst hp
    subst ht
    have hW : g_W G ids (u, y, o) s.heap t.heap locs1 := ⟨hB.1, hB.2, hS⟩
    obtain rfl := Option.some.inj h
    refine lv_i2l C0.hx C0.hb dL_trim_7 rfl ?_
    refine gs_38 C0 hW h161 k_161 (j := (0 : Int32)) (v := x1) (by decide) dL_trim_8 (fun H locs hW => ?_)
    refine lv_goto (tgt := 15) C0.hx C0.hb dL_trim_9 (by decide) ?_
    refine lv_iconst (v := (0 : Int32)) C0.hx C0.hb dL_trim_15 (by decide) ?_
    refine W.widen (k := 1) (n := 6) (by decide) (by decide) ?_
    exact g_iret C0 hW rfl rfl rfl dL_trim_16
def f_L_lengthOf (p1 : Int32) (x : CS) (o : Nat → Int32) : Option (Int32 × CS × (Nat → Int32)) :=
  (f_X12_lengthOf p1 x).bind fun r => match r with
    | .inl u => if u = 3 then some (1, x, o) else none
    | .inr q1 => some (0, x, upd o 0 q1)
set_option maxRecDepth 100000 in
set_option maxHeartbeats 4000000 in
theorem c_L_lengthOf {l : Launch} {G : GL} {ids : List Nat} {x : CS} {y : MS} {o : Nat → Int32} {p1 : Int32} {q : Int32 × CS × (Nat → Int32)} (hfl : l.stackTraces = false) (h161 : 161 ∈ ids) (h : f_L_lengthOf p1 x o = some q) : Met l yL_lengthOf (.codeWith yL_lengthOf cL_lengthOf 4 (Option.some Jvm.ClassFile.FieldType.int) [((0 : Nat), (9 : Nat), (12 : Nat), (24 : Nat))] :: gT) (g_rm 8 1 6) (va_Pc [.ref (g_ad G 0), .int p1, .ref (g_ad G 161)] (g_PL G ids (x, y, o))) (g_Qi G ids q.1 (q.2.1, y, q.2.2)) 1 6 (g_A G) := by
  unfold f_L_lengthOf at h
  obtain ⟨r, hr, h⟩ := Option.bind_eq_some_iff.mp h
  refine g_entryL (by decide) (Nat.le_of_ble_eq_true rfl) (fun p e s m args below meth c ls C0 hl hW hnc htab => ?_)
  have hl : lv_has ls 4 [(0, .ref (g_ad G 0)), (1, .int p1), (2, .ref (g_ad G 161))] := hl
  refine lv_aload_n C0.hx C0.hb dL_lengthOf_0 rfl (lv_at hl 2 rfl) ?_
  refine lv_iconst (v := (0 : Int32)) C0.hx C0.hb dL_lengthOf_1 (by decide) ?_
  refine lv_aload_n C0.hx C0.hb dL_lengthOf_2 rfl (lv_at hl 0 rfl) ?_
  refine lv_iload_n C0.hx C0.hb dL_lengthOf_3 rfl (lv_at hl 1 rfl) ?_
  refine vx_calli (g_xrunV (As := [.int p1]) (rest := [.int (0 : Int32), .ref (g_ad G 161)]) C0 hW (c_X12_lengthOf hfl hr) (g_cwG (n := 1) tc_X12_lengthOf tn_X12 md_X12_lengthOf (by decide) (by omega) (by decide) (by decide)) tm_L_21 ti_X12_lengthOf ts_X12_lengthOf (C0.mem (i := 0) (Nat.le_of_ble_eq_true rfl)) (g_c1 k_0) rfl rfl hl.1 rfl (Nat.le_of_ble_eq_true rfl) dL_lengthOf_4) hW.2.2 (fun q _ h => h) (fun q h => h) (fun q _ h => h) (fun E ce q9 u t H1 locs1 ht hvm hp hB hz hk hS hc hv hcl => ?_) (fun x1 u t H1 locs1 ht hvm hp hB hz hk hS => ?_)
  · obtain ⟨rfl, hB⟩ := hB
    have hp : r = Sum.inl u := hp
    subst ht
    subst hp
    have hW : g_W G ids (x, y, o) s.heap t.heap locs1 := ⟨hB.1, hB.2, hS⟩
    by_cases hu : u = 3
    · replace h := (if_pos hu).symm.trans h
      subst hu
      obtain rfl := Option.some.inj h
      refine vx_catch (E := g_ex 3) (name := g_IOB) C0.hown [] ⟨0, 9, 12, 24⟩ [] (htab.trans rfl) (fun z hz => by cases hz) (by decide) (by decide) (C0.hts _ tl_L_24) (C0.hN _ g_tk3) hc hv hcl ?_
      refine lv_astore_n (lv' := [(3, .ref q9), (0, .ref (g_ad G 0)), (1, .int p1), (2, .ref (g_ad G 161))]) C0.hx C0.hb dL_lengthOf_12 rfl hl (by decide) rfl (fun ls hl => ?_)
      refine lv_iconst (v := (1 : Int32)) C0.hx C0.hb dL_lengthOf_13 (by decide) ?_
      refine W.widen (k := 1) (n := 6) (by decide) (by decide) ?_
      exact g_iret C0 hW rfl rfl rfl dL_lengthOf_14
    · replace h := (if_neg hu).symm.trans h
      cases h
  · have hp : r = Sum.inr x1 := hp
    subst hp
    subst ht
    have hW : g_W G ids (x, y, o) s.heap t.heap locs1 := ⟨hB.1, hB.2, hS⟩
    obtain rfl := Option.some.inj h
    refine lv_i2l C0.hx C0.hb dL_lengthOf_7 rfl ?_
    refine gs_38 C0 hW h161 k_161 (j := (0 : Int32)) (v := x1) (by decide) dL_lengthOf_8 (fun H locs hW => ?_)
    refine lv_goto (tgt := 15) C0.hx C0.hb dL_lengthOf_9 (by decide) ?_
    refine lv_iconst (v := (0 : Int32)) C0.hx C0.hb dL_lengthOf_15 (by decide) ?_
    refine W.widen (k := 1) (n := 6) (by decide) (by decide) ?_
    exact g_iret C0 hW rfl rfl rfl dL_lengthOf_16
def f_L_pitchAt (p1 : Int32) (p2 : Int32) (x : CS) (o : Nat → Int32) : Option (Int32 × CS × (Nat → Int32)) :=
  (f_X12_pitchAt p1 p2 x).bind fun r => match r with
    | .inl u => if u = 3 then some (1, x, o) else none
    | .inr q1 => some (0, x, upd o 0 q1)
set_option maxRecDepth 100000 in
set_option maxHeartbeats 4000000 in
theorem c_L_pitchAt {l : Launch} {G : GL} {ids : List Nat} {x : CS} {y : MS} {o : Nat → Int32} {p1 : Int32} {p2 : Int32} {q : Int32 × CS × (Nat → Int32)} (hfl : l.stackTraces = false) (h161 : 161 ∈ ids) (h : f_L_pitchAt p1 p2 x o = some q) : Met l yL_pitchAt (.codeWith yL_pitchAt cL_pitchAt 5 (Option.some Jvm.ClassFile.FieldType.int) [((0 : Nat), (10 : Nat), (13 : Nat), (24 : Nat))] :: gT) (g_rm 8 2 12) (va_Pc [.ref (g_ad G 0), .int p1, .int p2, .ref (g_ad G 161)] (g_PL G ids (x, y, o))) (g_Qi G ids q.1 (q.2.1, y, q.2.2)) 2 12 (g_A G) := by
  unfold f_L_pitchAt at h
  obtain ⟨r, hr, h⟩ := Option.bind_eq_some_iff.mp h
  refine g_entryL (by decide) (Nat.le_of_ble_eq_true rfl) (fun p e s m args below meth c ls C0 hl hW hnc htab => ?_)
  have hl : lv_has ls 5 [(0, .ref (g_ad G 0)), (1, .int p1), (2, .int p2), (3, .ref (g_ad G 161))] := hl
  refine lv_aload_n C0.hx C0.hb dL_pitchAt_0 rfl (lv_at hl 3 rfl) ?_
  refine lv_iconst (v := (0 : Int32)) C0.hx C0.hb dL_pitchAt_1 (by decide) ?_
  refine lv_aload_n C0.hx C0.hb dL_pitchAt_2 rfl (lv_at hl 0 rfl) ?_
  refine lv_iload_n C0.hx C0.hb dL_pitchAt_3 rfl (lv_at hl 1 rfl) ?_
  refine lv_iload_n C0.hx C0.hb dL_pitchAt_4 rfl (lv_at hl 2 rfl) ?_
  refine vx_calli (g_xrunV (As := [.int p1, .int p2]) (rest := [.int (0 : Int32), .ref (g_ad G 161)]) C0 hW (c_X12_pitchAt hfl hr) (g_cwG (n := 2) tc_X12_pitchAt tn_X12 md_X12_pitchAt (by decide) (by omega) (by decide) (by decide)) tm_L_26 ti_X12_pitchAt ts_X12_pitchAt (C0.mem (i := 0) (Nat.le_of_ble_eq_true rfl)) (g_c1 k_0) rfl rfl hl.1 rfl (Nat.le_of_ble_eq_true rfl) dL_pitchAt_5) hW.2.2 (fun q _ h => h) (fun q h => h) (fun q _ h => h) (fun E ce q9 u t H1 locs1 ht hvm hp hB hz hk hS hc hv hcl => ?_) (fun x1 u t H1 locs1 ht hvm hp hB hz hk hS => ?_)
  · obtain ⟨rfl, hB⟩ := hB
    have hp : r = Sum.inl u := hp
    subst ht
    subst hp
    have hW : g_W G ids (x, y, o) s.heap t.heap locs1 := ⟨hB.1, hB.2, hS⟩
    by_cases hu : u = 3
    · replace h := (if_pos hu).symm.trans h
      subst hu
      obtain rfl := Option.some.inj h
      refine vx_catch (E := g_ex 3) (name := g_IOB) C0.hown [] ⟨0, 10, 13, 24⟩ [] (htab.trans rfl) (fun z hz => by cases hz) (by decide) (by decide) (C0.hts _ tl_L_24) (C0.hN _ g_tk3) hc hv hcl ?_
      refine lv_astore (lv' := [(4, .ref q9), (0, .ref (g_ad G 0)), (1, .int p1), (2, .int p2), (3, .ref (g_ad G 161))]) C0.hx C0.hb dL_pitchAt_13 hl (by decide) rfl (fun ls hl => ?_)
      refine lv_iconst (v := (1 : Int32)) C0.hx C0.hb dL_pitchAt_15 (by decide) ?_
      refine W.widen (k := 2) (n := 12) (by decide) (by decide) ?_
      exact g_iret C0 hW rfl rfl rfl dL_pitchAt_16
    · replace h := (if_neg hu).symm.trans h
      cases h
  · have hp : r = Sum.inr x1 := hp
    subst hp
    subst ht
    have hW : g_W G ids (x, y, o) s.heap t.heap locs1 := ⟨hB.1, hB.2, hS⟩
    obtain rfl := Option.some.inj h
    refine lv_i2l C0.hx C0.hb dL_pitchAt_8 rfl ?_
    refine gs_38 C0 hW h161 k_161 (j := (0 : Int32)) (v := x1) (by decide) dL_pitchAt_9 (fun H locs hW => ?_)
    refine lv_goto (tgt := 17) C0.hx C0.hb dL_pitchAt_10 (by decide) ?_
    refine lv_iconst (v := (0 : Int32)) C0.hx C0.hb dL_pitchAt_17 (by decide) ?_
    refine W.widen (k := 2) (n := 12) (by decide) (by decide) ?_
    exact g_iret C0 hW rfl rfl rfl dL_pitchAt_18
def f_L_contourAt (p1 : Int32) (p2 : Int32) (x : CS) (o : Nat → Int32) : Option (Int32 × CS × (Nat → Int32)) :=
  (f_X12_contourAt p1 p2 x).bind fun r => match r with
    | .inl u => if u = 3 then some (1, x, o) else none
    | .inr q1 => some (0, x, upd o 0 q1)
set_option maxRecDepth 100000 in
set_option maxHeartbeats 4000000 in
theorem c_L_contourAt {l : Launch} {G : GL} {ids : List Nat} {x : CS} {y : MS} {o : Nat → Int32} {p1 : Int32} {p2 : Int32} {q : Int32 × CS × (Nat → Int32)} (hfl : l.stackTraces = false) (h161 : 161 ∈ ids) (h : f_L_contourAt p1 p2 x o = some q) : Met l yL_contourAt (.codeWith yL_contourAt cL_contourAt 5 (Option.some Jvm.ClassFile.FieldType.int) [((0 : Nat), (10 : Nat), (13 : Nat), (24 : Nat))] :: gT) (g_rm 8 2 12) (va_Pc [.ref (g_ad G 0), .int p1, .int p2, .ref (g_ad G 161)] (g_PL G ids (x, y, o))) (g_Qi G ids q.1 (q.2.1, y, q.2.2)) 2 12 (g_A G) := by
  unfold f_L_contourAt at h
  obtain ⟨r, hr, h⟩ := Option.bind_eq_some_iff.mp h
  refine g_entryL (by decide) (Nat.le_of_ble_eq_true rfl) (fun p e s m args below meth c ls C0 hl hW hnc htab => ?_)
  have hl : lv_has ls 5 [(0, .ref (g_ad G 0)), (1, .int p1), (2, .int p2), (3, .ref (g_ad G 161))] := hl
  refine lv_aload_n C0.hx C0.hb dL_contourAt_0 rfl (lv_at hl 3 rfl) ?_
  refine lv_iconst (v := (0 : Int32)) C0.hx C0.hb dL_contourAt_1 (by decide) ?_
  refine lv_aload_n C0.hx C0.hb dL_contourAt_2 rfl (lv_at hl 0 rfl) ?_
  refine lv_iload_n C0.hx C0.hb dL_contourAt_3 rfl (lv_at hl 1 rfl) ?_
  refine lv_iload_n C0.hx C0.hb dL_contourAt_4 rfl (lv_at hl 2 rfl) ?_
  refine vx_calli (g_xrunV (As := [.int p1, .int p2]) (rest := [.int (0 : Int32), .ref (g_ad G 161)]) C0 hW (c_X12_contourAt hfl hr) (g_cwG (n := 2) tc_X12_contourAt tn_X12 md_X12_contourAt (by decide) (by omega) (by decide) (by decide)) tm_L_30 ti_X12_contourAt ts_X12_contourAt (C0.mem (i := 0) (Nat.le_of_ble_eq_true rfl)) (g_c1 k_0) rfl rfl hl.1 rfl (Nat.le_of_ble_eq_true rfl) dL_contourAt_5) hW.2.2 (fun q _ h => h) (fun q h => h) (fun q _ h => h) (fun E ce q9 u t H1 locs1 ht hvm hp hB hz hk hS hc hv hcl => ?_) (fun x1 u t H1 locs1 ht hvm hp hB hz hk hS => ?_)
  · obtain ⟨rfl, hB⟩ := hB
    have hp : r = Sum.inl u := hp
    subst ht
    subst hp
    have hW : g_W G ids (x, y, o) s.heap t.heap locs1 := ⟨hB.1, hB.2, hS⟩
    by_cases hu : u = 3
    · replace h := (if_pos hu).symm.trans h
      subst hu
      obtain rfl := Option.some.inj h
      refine vx_catch (E := g_ex 3) (name := g_IOB) C0.hown [] ⟨0, 10, 13, 24⟩ [] (htab.trans rfl) (fun z hz => by cases hz) (by decide) (by decide) (C0.hts _ tl_L_24) (C0.hN _ g_tk3) hc hv hcl ?_
      refine lv_astore (lv' := [(4, .ref q9), (0, .ref (g_ad G 0)), (1, .int p1), (2, .int p2), (3, .ref (g_ad G 161))]) C0.hx C0.hb dL_contourAt_13 hl (by decide) rfl (fun ls hl => ?_)
      refine lv_iconst (v := (1 : Int32)) C0.hx C0.hb dL_contourAt_15 (by decide) ?_
      refine W.widen (k := 2) (n := 12) (by decide) (by decide) ?_
      exact g_iret C0 hW rfl rfl rfl dL_contourAt_16
    · replace h := (if_neg hu).symm.trans h
      cases h
  · have hp : r = Sum.inr x1 := hp
    subst hp
    subst ht
    have hW : g_W G ids (x, y, o) s.heap t.heap locs1 := ⟨hB.1, hB.2, hS⟩
    obtain rfl := Option.some.inj h
    refine lv_i2l C0.hx C0.hb dL_contourAt_8 rfl ?_
    refine gs_38 C0 hW h161 k_161 (j := (0 : Int32)) (v := x1) (by decide) dL_contourAt_9 (fun H locs hW => ?_)
    refine lv_goto (tgt := 17) C0.hx C0.hb dL_contourAt_10 (by decide) ?_
    refine lv_iconst (v := (0 : Int32)) C0.hx C0.hb dL_contourAt_17 (by decide) ?_
    refine W.widen (k := 2) (n := 12) (by decide) (by decide) ?_
    exact g_iret C0 hW rfl rfl rfl dL_contourAt_18
def f_L_isPruned (p1 : Int32) (x : CS) (o : Nat → Int32) : Option (Int32 × CS × (Nat → Int32)) :=
  (f_X12_isPruned p1 x).bind fun r => match r with
    | .inl u => if u = 3 then some (1, x, o) else none
    | .inr q1 => some (0, x, upd o 0 (if q1 = 0 then 0 else 1))
set_option maxRecDepth 100000 in
set_option maxHeartbeats 4000000 in
theorem c_L_isPruned {l : Launch} {G : GL} {ids : List Nat} {x : CS} {y : MS} {o : Nat → Int32} {p1 : Int32} {q : Int32 × CS × (Nat → Int32)} (hfl : l.stackTraces = false) (h161 : 161 ∈ ids) (h : f_L_isPruned p1 x o = some q) : Met l yL_isPruned (.codeWith yL_isPruned cL_isPruned 4 (Option.some Jvm.ClassFile.FieldType.int) [((0 : Nat), (16 : Nat), (19 : Nat), (24 : Nat))] :: gT) (g_rm 8 1 6) (va_Pc [.ref (g_ad G 0), .int p1, .ref (g_ad G 161)] (g_PL G ids (x, y, o))) (g_Qi G ids q.1 (q.2.1, y, q.2.2)) 1 6 (g_A G) := by
  unfold f_L_isPruned at h
  obtain ⟨r, hr, h⟩ := Option.bind_eq_some_iff.mp h
  refine g_entryL (by decide) (Nat.le_of_ble_eq_true rfl) (fun p e s m args below meth c ls C0 hl hW hnc htab => ?_)
  have hl : lv_has ls 4 [(0, .ref (g_ad G 0)), (1, .int p1), (2, .ref (g_ad G 161))] := hl
  refine lv_aload_n C0.hx C0.hb dL_isPruned_0 rfl (lv_at hl 2 rfl) ?_
  refine lv_iconst (v := (0 : Int32)) C0.hx C0.hb dL_isPruned_1 (by decide) ?_
  refine lv_aload_n C0.hx C0.hb dL_isPruned_2 rfl (lv_at hl 0 rfl) ?_
  refine lv_iload_n C0.hx C0.hb dL_isPruned_3 rfl (lv_at hl 1 rfl) ?_
  refine vx_calli (g_xrunV (As := [.int p1]) (rest := [.int (0 : Int32), .ref (g_ad G 161)]) C0 hW (c_X12_isPruned hfl hr) (g_cwG (n := 1) tc_X12_isPruned tn_X12 md_X12_isPruned (by decide) (by omega) (by decide) (by decide)) tm_L_33 ti_X12_isPruned ts_X12_isPruned (C0.mem (i := 0) (Nat.le_of_ble_eq_true rfl)) (g_c1 k_0) rfl rfl hl.1 rfl (Nat.le_of_ble_eq_true rfl) dL_isPruned_4) hW.2.2 (fun q _ h => h) (fun q h => h) (fun q _ h => h) (fun E ce q9 u t H1 locs1 ht hvm hp hB hz hk hS hc hv hcl => ?_) (fun x1 u t H1 locs1 ht hvm hp hB hz hk hS => ?_)
  · obtain ⟨rfl, hB⟩ := hB
    have hp : r = Sum.inl u := hp
    subst ht
    subst hp
    have hW : g_W G ids (x, y, o) s.heap t.heap locs1 := ⟨hB.1, hB.2, hS⟩
    by_cases hu : u = 3
    · replace h := (if_pos hu).symm.trans h
      subst hu
      obtain rfl := Option.some.inj h
      refine vx_catch (E := g_ex 3) (name := g_IOB) C0.hown [] ⟨0, 16, 19, 24⟩ [] (htab.trans rfl) (fun z hz => by cases hz) (by decide) (by decide) (C0.hts _ tl_L_24) (C0.hN _ g_tk3) hc hv hcl ?_
      refine lv_astore_n (lv' := [(3, .ref q9), (0, .ref (g_ad G 0)), (1, .int p1), (2, .ref (g_ad G 161))]) C0.hx C0.hb dL_isPruned_19 rfl hl (by decide) rfl (fun ls hl => ?_)
      refine lv_iconst (v := (1 : Int32)) C0.hx C0.hb dL_isPruned_20 (by decide) ?_
      refine W.widen (k := 1) (n := 6) (by decide) (by decide) ?_
      exact g_iret C0 hW rfl rfl rfl dL_isPruned_21
    · replace h := (if_neg hu).symm.trans h
      cases h
  · have hp : r = Sum.inr x1 := hp
    subst hp
    subst ht
    have hW : g_W G ids (x, y, o) s.heap t.heap locs1 := ⟨hB.1, hB.2, hS⟩
    obtain rfl := Option.some.inj h
    refine lv_if_eq (tgt := 14) C0.hx C0.hb dL_isPruned_7 (by decide) (fun hc1 => ?_) (fun hc1 => ?_)
    · have e9 : (if x1 = 0 then (0 : Int32) else 1) = 0 := if_pos hc1
      show W p l e _ s m args below meth c _ _ _ _ (MQ below (g_Qi G ids 0 (x, y, upd o 0 (if x1 = 0 then 0 else 1))) args s 1 6 (g_A G)) _
      rw [e9]
      refine lv_lconst (v := (0 : Int64)) C0.hx C0.hb dL_isPruned_14 (by decide) ?_
      refine gs_38 C0 hW h161 k_161 (j := (0 : Int32)) (v := (0 : Int32)) (by decide) dL_isPruned_15 (fun H locs hW => ?_)
      refine lv_goto (tgt := 22) C0.hx C0.hb dL_isPruned_16 (by decide) ?_
      refine lv_iconst (v := (0 : Int32)) C0.hx C0.hb dL_isPruned_22 (by decide) ?_
      refine W.widen (k := 1) (n := 6) (by decide) (by decide) ?_
      exact g_iret C0 hW rfl rfl rfl dL_isPruned_23
    · have e9 : (if x1 = 0 then (0 : Int32) else 1) = 1 := if_neg hc1
      show W p l e _ s m args below meth c _ _ _ _ (MQ below (g_Qi G ids 0 (x, y, upd o 0 (if x1 = 0 then 0 else 1))) args s 1 6 (g_A G)) _
      rw [e9]
      refine lv_lconst (v := (1 : Int64)) C0.hx C0.hb dL_isPruned_10 (by decide) ?_
      refine lv_goto (tgt := 15) C0.hx C0.hb dL_isPruned_11 (by decide) ?_
      refine gs_38 C0 hW h161 k_161 (j := (0 : Int32)) (v := (1 : Int32)) (by decide) dL_isPruned_15 (fun H locs hW => ?_)
      refine lv_goto (tgt := 22) C0.hx C0.hb dL_isPruned_16 (by decide) ?_
      refine lv_iconst (v := (0 : Int32)) C0.hx C0.hb dL_isPruned_22 (by decide) ?_
      refine W.widen (k := 1) (n := 6) (by decide) (by decide) ?_
      exact g_iret C0 hW rfl rfl rfl dL_isPruned_23
def f_L_silentBeats (p1 : Int32) (x : CS) (o : Nat → Int32) : Option (Int32 × CS × (Nat → Int32)) :=
  (f_X12_silentBeats p1 x).bind fun r => match r with
    | .inl u => if u = 3 then some (1, x, o) else none
    | .inr q1 => some (0, x, upd o 0 q1)
set_option maxRecDepth 100000 in
set_option maxHeartbeats 4000000 in
theorem c_L_silentBeats {l : Launch} {G : GL} {ids : List Nat} {x : CS} {y : MS} {o : Nat → Int32} {p1 : Int32} {q : Int32 × CS × (Nat → Int32)} (hfl : l.stackTraces = false) (h161 : 161 ∈ ids) (h : f_L_silentBeats p1 x o = some q) : Met l yL_silentBeats (.codeWith yL_silentBeats cL_silentBeats 4 (Option.some Jvm.ClassFile.FieldType.int) [((0 : Nat), (9 : Nat), (12 : Nat), (24 : Nat))] :: gT) (g_rm 8 1 6) (va_Pc [.ref (g_ad G 0), .int p1, .ref (g_ad G 161)] (g_PL G ids (x, y, o))) (g_Qi G ids q.1 (q.2.1, y, q.2.2)) 1 6 (g_A G) := by
  unfold f_L_silentBeats at h
  obtain ⟨r, hr, h⟩ := Option.bind_eq_some_iff.mp h
  refine g_entryL (by decide) (Nat.le_of_ble_eq_true rfl) (fun p e s m args below meth c ls C0 hl hW hnc htab => ?_)
  have hl : lv_has ls 4 [(0, .ref (g_ad G 0)), (1, .int p1), (2, .ref (g_ad G 161))] := hl
  refine lv_aload_n C0.hx C0.hb dL_silentBeats_0 rfl (lv_at hl 2 rfl) ?_
  refine lv_iconst (v := (0 : Int32)) C0.hx C0.hb dL_silentBeats_1 (by decide) ?_
  refine lv_aload_n C0.hx C0.hb dL_silentBeats_2 rfl (lv_at hl 0 rfl) ?_
  refine lv_iload_n C0.hx C0.hb dL_silentBeats_3 rfl (lv_at hl 1 rfl) ?_
  refine vx_calli (g_xrunV (As := [.int p1]) (rest := [.int (0 : Int32), .ref (g_ad G 161)]) C0 hW (c_X12_silentBeats hfl hr) (g_cwG (n := 1) tc_X12_silentBeats tn_X12 md_X12_silentBeats (by decide) (by omega) (by decide) (by decide)) tm_L_37 ti_X12_silentBeats ts_X12_silentBeats (C0.mem (i := 0) (Nat.le_of_ble_eq_true rfl)) (g_c1 k_0) rfl rfl hl.1 rfl (Nat.le_of_ble_eq_true rfl) dL_silentBeats_4) hW.2.2 (fun q _ h => h) (fun q h => h) (fun q _ h => h) (fun E ce q9 u t H1 locs1 ht hvm hp hB hz hk hS hc hv hcl => ?_) (fun x1 u t H1 locs1 ht hvm hp hB hz hk hS => ?_)
  · obtain ⟨rfl, hB⟩ := hB
    have hp : r = Sum.inl u := hp
    subst ht
    subst hp
    have hW : g_W G ids (x, y, o) s.heap t.heap locs1 := ⟨hB.1, hB.2, hS⟩
    by_cases hu : u = 3
    · replace h := (if_pos hu).symm.trans h
      subst hu
      obtain rfl := Option.some.inj h
      refine vx_catch (E := g_ex 3) (name := g_IOB) C0.hown [] ⟨0, 9, 12, 24⟩ [] (htab.trans rfl) (fun z hz => by cases hz) (by decide) (by decide) (C0.hts _ tl_L_24) (C0.hN _ g_tk3) hc hv hcl ?_
      refine lv_astore_n (lv' := [(3, .ref q9), (0, .ref (g_ad G 0)), (1, .int p1), (2, .ref (g_ad G 161))]) C0.hx C0.hb dL_silentBeats_12 rfl hl (by decide) rfl (fun ls hl => ?_)
      refine lv_iconst (v := (1 : Int32)) C0.hx C0.hb dL_silentBeats_13 (by decide) ?_
      refine W.widen (k := 1) (n := 6) (by decide) (by decide) ?_
      exact g_iret C0 hW rfl rfl rfl dL_silentBeats_14
    · replace h := (if_neg hu).symm.trans h
      cases h
  · have hp : r = Sum.inr x1 := hp
    subst hp
    subst ht
    have hW : g_W G ids (x, y, o) s.heap t.heap locs1 := ⟨hB.1, hB.2, hS⟩
    obtain rfl := Option.some.inj h
    refine lv_i2l C0.hx C0.hb dL_silentBeats_7 rfl ?_
    refine gs_38 C0 hW h161 k_161 (j := (0 : Int32)) (v := x1) (by decide) dL_silentBeats_8 (fun H locs hW => ?_)
    refine lv_goto (tgt := 15) C0.hx C0.hb dL_silentBeats_9 (by decide) ?_
    refine lv_iconst (v := (0 : Int32)) C0.hx C0.hb dL_silentBeats_15 (by decide) ?_
    refine W.widen (k := 1) (n := 6) (by decide) (by decide) ?_
    exact g_iret C0 hW rfl rfl rfl dL_silentBeats_16
def f_L_distanceBetween (p1 : Int32) (p2 : Int32) (x : CS) (o : Nat → Int32) : Option (Int32 × CS × (Nat → Int32)) :=
  (f_X12_distanceBetween p1 p2 x).bind fun r => match r with
    | .inl u => if u = 3 then some (1, x, o) else none
    | .inr q1 => some (0, q1.2, upd o 0 q1.1)
set_option maxRecDepth 100000 in
set_option maxHeartbeats 4000000 in
theorem c_L_distanceBetween {l : Launch} {G : GL} {ids : List Nat} {x : CS} {y : MS} {o : Nat → Int32} {p1 : Int32} {p2 : Int32} {q : Int32 × CS × (Nat → Int32)} (hfl : l.stackTraces = false) (h161 : 161 ∈ ids) (h : f_L_distanceBetween p1 p2 x o = some q) : Met l yL_distanceBetween (.codeWith yL_distanceBetween cL_distanceBetween 5 (Option.some Jvm.ClassFile.FieldType.int) [((0 : Nat), (10 : Nat), (13 : Nat), (24 : Nat))] :: gT) (g_rm 8 2 12) (va_Pc [.ref (g_ad G 0), .int p1, .int p2, .ref (g_ad G 161)] (g_PL G ids (x, y, o))) (g_Qi G ids q.1 (q.2.1, y, q.2.2)) 2 12 (g_A G) := by
  unfold f_L_distanceBetween at h
  obtain ⟨r, hr, h⟩ := Option.bind_eq_some_iff.mp h
  refine g_entryL (by decide) (Nat.le_of_ble_eq_true rfl) (fun p e s m args below meth c ls C0 hl hW hnc htab => ?_)
  have hl : lv_has ls 5 [(0, .ref (g_ad G 0)), (1, .int p1), (2, .int p2), (3, .ref (g_ad G 161))] := hl
  refine lv_aload_n C0.hx C0.hb dL_distanceBetween_0 rfl (lv_at hl 3 rfl) ?_
  refine lv_iconst (v := (0 : Int32)) C0.hx C0.hb dL_distanceBetween_1 (by decide) ?_
  refine lv_aload_n C0.hx C0.hb dL_distanceBetween_2 rfl (lv_at hl 0 rfl) ?_
  refine lv_iload_n C0.hx C0.hb dL_distanceBetween_3 rfl (lv_at hl 1 rfl) ?_
  refine lv_iload_n C0.hx C0.hb dL_distanceBetween_4 rfl (lv_at hl 2 rfl) ?_
  refine vx_calli (g_xrunV (As := [.int p1, .int p2]) (rest := [.int (0 : Int32), .ref (g_ad G 161)]) C0 hW (c_X12_distanceBetween hfl hr) (g_cwG (n := 2) tc_X12_distanceBetween tn_X12 md_X12_distanceBetween (by decide) (by omega) (by decide) (by decide)) tm_L_40 ti_X12_distanceBetween ts_X12_distanceBetween (C0.mem (i := 0) (Nat.le_of_ble_eq_true rfl)) (g_c1 k_0) rfl rfl hl.1 rfl (Nat.le_of_ble_eq_true rfl) dL_distanceBetween_5) hW.2.2 (fun q _ h => h) (fun q h => h) (fun q _ h => h) (fun E ce q9 u t H1 locs1 ht hvm hp hB hz hk hS hc hv hcl => ?_) (fun x1 u t H1 locs1 ht hvm hp hB hz hk hS => ?_)
  · obtain ⟨rfl, hB⟩ := hB
    have hp : r = Sum.inl u := hp
    subst ht
    subst hp
    have hW : g_W G ids (x, y, o) s.heap t.heap locs1 := ⟨hB.1, hB.2, hS⟩
    by_cases hu : u = 3
    · replace h := (if_pos hu).symm.trans h
      subst hu
      obtain rfl := Option.some.inj h
      refine vx_catch (E := g_ex 3) (name := g_IOB) C0.hown [] ⟨0, 10, 13, 24⟩ [] (htab.trans rfl) (fun z hz => by cases hz) (by decide) (by decide) (C0.hts _ tl_L_24) (C0.hN _ g_tk3) hc hv hcl ?_
      refine lv_astore (lv' := [(4, .ref q9), (0, .ref (g_ad G 0)), (1, .int p1), (2, .int p2), (3, .ref (g_ad G 161))]) C0.hx C0.hb dL_distanceBetween_13 hl (by decide) rfl (fun ls hl => ?_)
      refine lv_iconst (v := (1 : Int32)) C0.hx C0.hb dL_distanceBetween_15 (by decide) ?_
      refine W.widen (k := 2) (n := 12) (by decide) (by decide) ?_
      exact g_iret C0 hW rfl rfl rfl dL_distanceBetween_16
    · replace h := (if_neg hu).symm.trans h
      cases h
  · have hp : r = Sum.inr (x1, u) := hp
    subst hp
    subst ht
    have hW : g_W G ids (u, y, o) s.heap t.heap locs1 := ⟨hB.1, hB.2, hS⟩
    obtain rfl := Option.some.inj h
    refine lv_i2l C0.hx C0.hb dL_distanceBetween_8 rfl ?_
    refine gs_38 C0 hW h161 k_161 (j := (0 : Int32)) (v := x1) (by decide) dL_distanceBetween_9 (fun H locs hW => ?_)
    refine lv_goto (tgt := 17) C0.hx C0.hb dL_distanceBetween_10 (by decide) ?_
    refine lv_iconst (v := (0 : Int32)) C0.hx C0.hb dL_distanceBetween_17 (by decide) ?_
    refine W.widen (k := 2) (n := 12) (by decide) (by decide) ?_
    exact g_iret C0 hW rfl rfl rfl dL_distanceBetween_18
def f_L_contourBetween (p1 : Int32) (p2 : Int32) (x : CS) (o : Nat → Int32) : Option (Int32 × CS × (Nat → Int32)) :=
  (f_X12_contourBetween p1 p2 x).bind fun r => match r with
    | .inl u => if u = 3 then some (1, x, o) else none
    | .inr q1 => some (0, q1.2, upd o 0 q1.1)
set_option maxRecDepth 100000 in
set_option maxHeartbeats 4000000 in
theorem c_L_contourBetween {l : Launch} {G : GL} {ids : List Nat} {x : CS} {y : MS} {o : Nat → Int32} {p1 : Int32} {p2 : Int32} {q : Int32 × CS × (Nat → Int32)} (hfl : l.stackTraces = false) (h161 : 161 ∈ ids) (h : f_L_contourBetween p1 p2 x o = some q) : Met l yL_contourBetween (.codeWith yL_contourBetween cL_contourBetween 5 (Option.some Jvm.ClassFile.FieldType.int) [((0 : Nat), (10 : Nat), (13 : Nat), (24 : Nat))] :: gT) (g_rm 8 2 12) (va_Pc [.ref (g_ad G 0), .int p1, .int p2, .ref (g_ad G 161)] (g_PL G ids (x, y, o))) (g_Qi G ids q.1 (q.2.1, y, q.2.2)) 2 12 (g_A G) := by
  unfold f_L_contourBetween at h
  obtain ⟨r, hr, h⟩ := Option.bind_eq_some_iff.mp h
  refine g_entryL (by decide) (Nat.le_of_ble_eq_true rfl) (fun p e s m args below meth c ls C0 hl hW hnc htab => ?_)
  have hl : lv_has ls 5 [(0, .ref (g_ad G 0)), (1, .int p1), (2, .int p2), (3, .ref (g_ad G 161))] := hl
  refine lv_aload_n C0.hx C0.hb dL_contourBetween_0 rfl (lv_at hl 3 rfl) ?_
  refine lv_iconst (v := (0 : Int32)) C0.hx C0.hb dL_contourBetween_1 (by decide) ?_
  refine lv_aload_n C0.hx C0.hb dL_contourBetween_2 rfl (lv_at hl 0 rfl) ?_
  refine lv_iload_n C0.hx C0.hb dL_contourBetween_3 rfl (lv_at hl 1 rfl) ?_
  refine lv_iload_n C0.hx C0.hb dL_contourBetween_4 rfl (lv_at hl 2 rfl) ?_
  refine vx_calli (g_xrunV (As := [.int p1, .int p2]) (rest := [.int (0 : Int32), .ref (g_ad G 161)]) C0 hW (c_X12_contourBetween hfl hr) (g_cwG (n := 2) tc_X12_contourBetween tn_X12 md_X12_contourBetween (by decide) (by omega) (by decide) (by decide)) tm_L_43 ti_X12_contourBetween ts_X12_contourBetween (C0.mem (i := 0) (Nat.le_of_ble_eq_true rfl)) (g_c1 k_0) rfl rfl hl.1 rfl (Nat.le_of_ble_eq_true rfl) dL_contourBetween_5) hW.2.2 (fun q _ h => h) (fun q h => h) (fun q _ h => h) (fun E ce q9 u t H1 locs1 ht hvm hp hB hz hk hS hc hv hcl => ?_) (fun x1 u t H1 locs1 ht hvm hp hB hz hk hS => ?_)
  · obtain ⟨rfl, hB⟩ := hB
    have hp : r = Sum.inl u := hp
    subst ht
    subst hp
    have hW : g_W G ids (x, y, o) s.heap t.heap locs1 := ⟨hB.1, hB.2, hS⟩
    by_cases hu : u = 3
    · replace h := (if_pos hu).symm.trans h
      subst hu
      obtain rfl := Option.some.inj h
      refine vx_catch (E := g_ex 3) (name := g_IOB) C0.hown [] ⟨0, 10, 13, 24⟩ [] (htab.trans rfl) (fun z hz => by cases hz) (by decide) (by decide) (C0.hts _ tl_L_24) (C0.hN _ g_tk3) hc hv hcl ?_
      refine lv_astore (lv' := [(4, .ref q9), (0, .ref (g_ad G 0)), (1, .int p1), (2, .int p2), (3, .ref (g_ad G 161))]) C0.hx C0.hb dL_contourBetween_13 hl (by decide) rfl (fun ls hl => ?_)
      refine lv_iconst (v := (1 : Int32)) C0.hx C0.hb dL_contourBetween_15 (by decide) ?_
      refine W.widen (k := 2) (n := 12) (by decide) (by decide) ?_
      exact g_iret C0 hW rfl rfl rfl dL_contourBetween_16
    · replace h := (if_neg hu).symm.trans h
      cases h
  · have hp : r = Sum.inr (x1, u) := hp
    subst hp
    subst ht
    have hW : g_W G ids (u, y, o) s.heap t.heap locs1 := ⟨hB.1, hB.2, hS⟩
    obtain rfl := Option.some.inj h
    refine lv_i2l C0.hx C0.hb dL_contourBetween_8 rfl ?_
    refine gs_38 C0 hW h161 k_161 (j := (0 : Int32)) (v := x1) (by decide) dL_contourBetween_9 (fun H locs hW => ?_)
    refine lv_goto (tgt := 17) C0.hx C0.hb dL_contourBetween_10 (by decide) ?_
    refine lv_iconst (v := (0 : Int32)) C0.hx C0.hb dL_contourBetween_17 (by decide) ?_
    refine W.widen (k := 2) (n := 12) (by decide) (by decide) ?_
    exact g_iret C0 hW rfl rfl rfl dL_contourBetween_18
def f_L_areNear (p1 : Int32) (p2 : Int32) (x : CS) (o : Nat → Int32) : Option (Int32 × CS × (Nat → Int32)) :=
  (f_X12_areNear p1 p2 x).bind fun r => match r with
    | .inl u => if u = 3 then some (1, x, o) else none
    | .inr q1 => some (0, q1.2, upd o 0 (if q1.1 = 0 then 0 else 1))
set_option maxRecDepth 100000 in
set_option maxHeartbeats 4000000 in
theorem c_L_areNear {l : Launch} {G : GL} {ids : List Nat} {x : CS} {y : MS} {o : Nat → Int32} {p1 : Int32} {p2 : Int32} {q : Int32 × CS × (Nat → Int32)} (hfl : l.stackTraces = false) (h161 : 161 ∈ ids) (h : f_L_areNear p1 p2 x o = some q) : Met l yL_areNear (.codeWith yL_areNear cL_areNear 5 (Option.some Jvm.ClassFile.FieldType.int) [((0 : Nat), (17 : Nat), (20 : Nat), (24 : Nat))] :: gT) (g_rm 8 2 12) (va_Pc [.ref (g_ad G 0), .int p1, .int p2, .ref (g_ad G 161)] (g_PL G ids (x, y, o))) (g_Qi G ids q.1 (q.2.1, y, q.2.2)) 2 12 (g_A G) := by
  unfold f_L_areNear at h
  obtain ⟨r, hr, h⟩ := Option.bind_eq_some_iff.mp h
  refine g_entryL (by decide) (Nat.le_of_ble_eq_true rfl) (fun p e s m args below meth c ls C0 hl hW hnc htab => ?_)
  have hl : lv_has ls 5 [(0, .ref (g_ad G 0)), (1, .int p1), (2, .int p2), (3, .ref (g_ad G 161))] := hl
  refine lv_aload_n C0.hx C0.hb dL_areNear_0 rfl (lv_at hl 3 rfl) ?_
  refine lv_iconst (v := (0 : Int32)) C0.hx C0.hb dL_areNear_1 (by decide) ?_
  refine lv_aload_n C0.hx C0.hb dL_areNear_2 rfl (lv_at hl 0 rfl) ?_
  refine lv_iload_n C0.hx C0.hb dL_areNear_3 rfl (lv_at hl 1 rfl) ?_
  refine lv_iload_n C0.hx C0.hb dL_areNear_4 rfl (lv_at hl 2 rfl) ?_
  refine vx_calli (g_xrunV (As := [.int p1, .int p2]) (rest := [.int (0 : Int32), .ref (g_ad G 161)]) C0 hW (c_X12_areNear hfl hr) (g_cwG (n := 2) tc_X12_areNear tn_X12 md_X12_areNear (by decide) (by omega) (by decide) (by decide)) tm_L_46 ti_X12_areNear ts_X12_areNear (C0.mem (i := 0) (Nat.le_of_ble_eq_true rfl)) (g_c1 k_0) rfl rfl hl.1 rfl (Nat.le_of_ble_eq_true rfl) dL_areNear_5) hW.2.2 (fun q _ h => h) (fun q h => h) (fun q _ h => h) (fun E ce q9 u t H1 locs1 ht hvm hp hB hz hk hS hc hv hcl => ?_) (fun x1 u t H1 locs1 ht hvm hp hB hz hk hS => ?_)
  · obtain ⟨rfl, hB⟩ := hB
    have hp : r = Sum.inl u := hp
    subst ht
    subst hp
    have hW : g_W G ids (x, y, o) s.heap t.heap locs1 := ⟨hB.1, hB.2, hS⟩
    by_cases hu : u = 3
    · replace h := (if_pos hu).symm.trans h
      subst hu
      obtain rfl := Option.some.inj h
      refine vx_catch (E := g_ex 3) (name := g_IOB) C0.hown [] ⟨0, 17, 20, 24⟩ [] (htab.trans rfl) (fun z hz => by cases hz) (by decide) (by decide) (C0.hts _ tl_L_24) (C0.hN _ g_tk3) hc hv hcl ?_
      refine lv_astore (lv' := [(4, .ref q9), (0, .ref (g_ad G 0)), (1, .int p1), (2, .int p2), (3, .ref (g_ad G 161))]) C0.hx C0.hb dL_areNear_20 hl (by decide) rfl (fun ls hl => ?_)
      refine lv_iconst (v := (1 : Int32)) C0.hx C0.hb dL_areNear_22 (by decide) ?_
      refine W.widen (k := 2) (n := 12) (by decide) (by decide) ?_
      exact g_iret C0 hW rfl rfl rfl dL_areNear_23
    · replace h := (if_neg hu).symm.trans h
      cases h
  · have hp : r = Sum.inr (x1, u) := hp
    subst hp
    subst ht
    have hW : g_W G ids (u, y, o) s.heap t.heap locs1 := ⟨hB.1, hB.2, hS⟩
    obtain rfl := Option.some.inj h
    refine lv_if_eq (tgt := 15) C0.hx C0.hb dL_areNear_8 (by decide) (fun hc1 => ?_) (fun hc1 => ?_)
    · have e9 : (if x1 = 0 then (0 : Int32) else 1) = 0 := if_pos hc1
      show W p l e _ s m args below meth c _ _ _ _ (MQ below (g_Qi G ids 0 (u, y, upd o 0 (if x1 = 0 then 0 else 1))) args s 2 12 (g_A G)) _
      rw [e9]
      refine lv_lconst (v := (0 : Int64)) C0.hx C0.hb dL_areNear_15 (by decide) ?_
      refine gs_38 C0 hW h161 k_161 (j := (0 : Int32)) (v := (0 : Int32)) (by decide) dL_areNear_16 (fun H locs hW => ?_)
      refine lv_goto (tgt := 24) C0.hx C0.hb dL_areNear_17 (by decide) ?_
      refine lv_iconst (v := (0 : Int32)) C0.hx C0.hb dL_areNear_24 (by decide) ?_
      refine W.widen (k := 2) (n := 12) (by decide) (by decide) ?_
      exact g_iret C0 hW rfl rfl rfl dL_areNear_25
    · have e9 : (if x1 = 0 then (0 : Int32) else 1) = 1 := if_neg hc1
      show W p l e _ s m args below meth c _ _ _ _ (MQ below (g_Qi G ids 0 (u, y, upd o 0 (if x1 = 0 then 0 else 1))) args s 2 12 (g_A G)) _
      rw [e9]
      refine lv_lconst (v := (1 : Int64)) C0.hx C0.hb dL_areNear_11 (by decide) ?_
      refine lv_goto (tgt := 16) C0.hx C0.hb dL_areNear_12 (by decide) ?_
      refine gs_38 C0 hW h161 k_161 (j := (0 : Int32)) (v := (1 : Int32)) (by decide) dL_areNear_16 (fun H locs hW => ?_)
      refine lv_goto (tgt := 24) C0.hx C0.hb dL_areNear_17 (by decide) ?_
      refine lv_iconst (v := (0 : Int32)) C0.hx C0.hb dL_areNear_24 (by decide) ?_
      refine W.widen (k := 2) (n := 12) (by decide) (by decide) ?_
      exact g_iret C0 hW rfl rfl rfl dL_areNear_25
def f_L_nearestTo (p1 : Int32) (x : CS) (o : Nat → Int32) : Option (Int32 × CS × (Nat → Int32)) :=
  (f_X12_nearestTo p1 x).bind fun r => match r with
    | .inl u => if u = 3 then some (1, x, o) else if u = 1 then some (2, x, o) else none
    | .inr q1 => some (0, q1.2, upd o 0 q1.1)
set_option maxRecDepth 100000 in
set_option maxHeartbeats 4000000 in
theorem c_L_nearestTo {l : Launch} {G : GL} {ids : List Nat} {x : CS} {y : MS} {o : Nat → Int32} {p1 : Int32} {q : Int32 × CS × (Nat → Int32)} (hfl : l.stackTraces = false) (h161 : 161 ∈ ids) (h : f_L_nearestTo p1 x o = some q) : Met l yL_nearestTo (.codeWith yL_nearestTo cL_nearestTo 4 (Option.some Jvm.ClassFile.FieldType.int) [((0 : Nat), (9 : Nat), (12 : Nat), (24 : Nat)), ((0 : Nat), (9 : Nat), (15 : Nat), (13 : Nat))] :: gT) (g_rm 8 2 12) (va_Pc [.ref (g_ad G 0), .int p1, .ref (g_ad G 161)] (g_PL G ids (x, y, o))) (g_Qi G ids q.1 (q.2.1, y, q.2.2)) 2 12 (g_A G) := by
  unfold f_L_nearestTo at h
  obtain ⟨r, hr, h⟩ := Option.bind_eq_some_iff.mp h
  refine g_entryL (by decide) (Nat.le_of_ble_eq_true rfl) (fun p e s m args below meth c ls C0 hl hW hnc htab => ?_)
  have hl : lv_has ls 4 [(0, .ref (g_ad G 0)), (1, .int p1), (2, .ref (g_ad G 161))] := hl
  refine lv_aload_n C0.hx C0.hb dL_nearestTo_0 rfl (lv_at hl 2 rfl) ?_
  refine lv_iconst (v := (0 : Int32)) C0.hx C0.hb dL_nearestTo_1 (by decide) ?_
  refine lv_aload_n C0.hx C0.hb dL_nearestTo_2 rfl (lv_at hl 0 rfl) ?_
  refine lv_iload_n C0.hx C0.hb dL_nearestTo_3 rfl (lv_at hl 1 rfl) ?_
  refine vx_calli (g_xrunV (As := [.int p1]) (rest := [.int (0 : Int32), .ref (g_ad G 161)]) C0 hW (c_X12_nearestTo hfl hr) (g_cwG (n := 1) tc_X12_nearestTo tn_X12 md_X12_nearestTo (by decide) (by omega) (by decide) (by decide)) tm_L_50 ti_X12_nearestTo ts_X12_nearestTo (C0.mem (i := 0) (Nat.le_of_ble_eq_true rfl)) (g_c1 k_0) rfl rfl hl.1 rfl (Nat.le_of_ble_eq_true rfl) dL_nearestTo_4) hW.2.2 (fun q _ h => h) (fun q h => h) (fun q _ h => h) (fun E ce q9 u t H1 locs1 ht hvm hp hB hz hk hS hc hv hcl => ?_) (fun x1 u t H1 locs1 ht hvm hp hB hz hk hS => ?_)
  · obtain ⟨rfl, hB⟩ := hB
    have hp : r = Sum.inl u := hp
    subst ht
    subst hp
    have hW : g_W G ids (x, y, o) s.heap t.heap locs1 := ⟨hB.1, hB.2, hS⟩
    by_cases hu : u = 3
    · replace h := (if_pos hu).symm.trans h
      subst hu
      obtain rfl := Option.some.inj h
      refine vx_catch (E := g_ex 3) (name := g_IOB) C0.hown [] ⟨0, 9, 12, 24⟩ [⟨0, 9, 15, 13⟩] (htab.trans rfl) (fun z hz => by cases hz) (by decide) (by decide) (C0.hts _ tl_L_24) (C0.hN _ g_tk3) hc hv hcl ?_
      refine lv_astore_n (lv' := [(3, .ref q9), (0, .ref (g_ad G 0)), (1, .int p1), (2, .ref (g_ad G 161))]) C0.hx C0.hb dL_nearestTo_12 rfl hl (by decide) rfl (fun ls hl => ?_)
      refine lv_iconst (v := (1 : Int32)) C0.hx C0.hb dL_nearestTo_13 (by decide) ?_
      refine W.widen (k := 2) (n := 12) (by decide) (by decide) ?_
      exact g_iret C0 hW rfl rfl rfl dL_nearestTo_14
    · replace h := (if_neg hu).symm.trans h
      by_cases hu : u = 1
      · replace h := (if_pos hu).symm.trans h
        subst hu
        obtain rfl := Option.some.inj h
        refine vx_catch (E := g_ex 1) (name := g_ISE) C0.hown [⟨0, 9, 12, 24⟩] ⟨0, 9, 15, 13⟩ [] (htab.trans rfl) (fun z hz => by rcases List.mem_singleton.mp hz with rfl; exact Or.inr ⟨by decide, g_IOB, C0.hts _ tl_L_24, hnc.1⟩) (by decide) (by decide) (C0.hts _ tl_L_13) (C0.hN _ g_tk1) hc hv hcl ?_
        refine lv_astore_n (lv' := [(3, .ref q9), (0, .ref (g_ad G 0)), (1, .int p1), (2, .ref (g_ad G 161))]) C0.hx C0.hb dL_nearestTo_15 rfl hl (by decide) rfl (fun ls hl => ?_)
        refine lv_iconst (v := (2 : Int32)) C0.hx C0.hb dL_nearestTo_16 (by decide) ?_
        refine W.widen (k := 2) (n := 12) (by decide) (by decide) ?_
        exact g_iret C0 hW rfl rfl rfl dL_nearestTo_17
      · replace h := (if_neg hu).symm.trans h
        cases h
  · have hp : r = Sum.inr (x1, u) := hp
    subst hp
    subst ht
    have hW : g_W G ids (u, y, o) s.heap t.heap locs1 := ⟨hB.1, hB.2, hS⟩
    obtain rfl := Option.some.inj h
    refine lv_i2l C0.hx C0.hb dL_nearestTo_7 rfl ?_
    refine gs_38 C0 hW h161 k_161 (j := (0 : Int32)) (v := x1) (by decide) dL_nearestTo_8 (fun H locs hW => ?_)
    refine lv_goto (tgt := 18) C0.hx C0.hb dL_nearestTo_9 (by decide) ?_
    refine lv_iconst (v := (0 : Int32)) C0.hx C0.hb dL_nearestTo_18 (by decide) ?_
    refine W.widen (k := 2) (n := 12) (by decide) (by decide) ?_
    exact g_iret C0 hW rfl rfl rfl dL_nearestTo_19
def f_L_isNeedless (p1 : Int32) (x : CS) (o : Nat → Int32) : Option (Int32 × CS × (Nat → Int32)) :=
  (f_X12_isNeedless p1 x).bind fun r => match r with
    | .inl u => if u = 3 then some (1, x, o) else none
    | .inr q1 => some (0, q1.2, upd o 0 (if q1.1 = 0 then 0 else 1))
set_option maxRecDepth 100000 in
set_option maxHeartbeats 4000000 in
theorem c_L_isNeedless {l : Launch} {G : GL} {ids : List Nat} {x : CS} {y : MS} {o : Nat → Int32} {p1 : Int32} {q : Int32 × CS × (Nat → Int32)} (hfl : l.stackTraces = false) (h161 : 161 ∈ ids) (h : f_L_isNeedless p1 x o = some q) : Met l yL_isNeedless (.codeWith yL_isNeedless cL_isNeedless 4 (Option.some Jvm.ClassFile.FieldType.int) [((0 : Nat), (16 : Nat), (19 : Nat), (24 : Nat))] :: gT) (g_rm 8 1 6) (va_Pc [.ref (g_ad G 0), .int p1, .ref (g_ad G 161)] (g_PL G ids (x, y, o))) (g_Qi G ids q.1 (q.2.1, y, q.2.2)) 1 6 (g_A G) := by
  unfold f_L_isNeedless at h
  obtain ⟨r, hr, h⟩ := Option.bind_eq_some_iff.mp h
  refine g_entryL (by decide) (Nat.le_of_ble_eq_true rfl) (fun p e s m args below meth c ls C0 hl hW hnc htab => ?_)
  have hl : lv_has ls 4 [(0, .ref (g_ad G 0)), (1, .int p1), (2, .ref (g_ad G 161))] := hl
  refine lv_aload_n C0.hx C0.hb dL_isNeedless_0 rfl (lv_at hl 2 rfl) ?_
  refine lv_iconst (v := (0 : Int32)) C0.hx C0.hb dL_isNeedless_1 (by decide) ?_
  refine lv_aload_n C0.hx C0.hb dL_isNeedless_2 rfl (lv_at hl 0 rfl) ?_
  refine lv_iload_n C0.hx C0.hb dL_isNeedless_3 rfl (lv_at hl 1 rfl) ?_
  refine vx_calli (g_xrunV (As := [.int p1]) (rest := [.int (0 : Int32), .ref (g_ad G 161)]) C0 hW (c_X12_isNeedless hfl hr) (g_cwG (n := 1) tc_X12_isNeedless tn_X12 md_X12_isNeedless (by decide) (by omega) (by decide) (by decide)) tm_L_53 ti_X12_isNeedless ts_X12_isNeedless (C0.mem (i := 0) (Nat.le_of_ble_eq_true rfl)) (g_c1 k_0) rfl rfl hl.1 rfl (Nat.le_of_ble_eq_true rfl) dL_isNeedless_4) hW.2.2 (fun q _ h => h) (fun q h => h) (fun q _ h => h) (fun E ce q9 u t H1 locs1 ht hvm hp hB hz hk hS hc hv hcl => ?_) (fun x1 u t H1 locs1 ht hvm hp hB hz hk hS => ?_)
  · obtain ⟨rfl, hB⟩ := hB
    have hp : r = Sum.inl u := hp
    subst ht
    subst hp
    have hW : g_W G ids (x, y, o) s.heap t.heap locs1 := ⟨hB.1, hB.2, hS⟩
    by_cases hu : u = 3
    · replace h := (if_pos hu).symm.trans h
      subst hu
      obtain rfl := Option.some.inj h
      refine vx_catch (E := g_ex 3) (name := g_IOB) C0.hown [] ⟨0, 16, 19, 24⟩ [] (htab.trans rfl) (fun z hz => by cases hz) (by decide) (by decide) (C0.hts _ tl_L_24) (C0.hN _ g_tk3) hc hv hcl ?_
      refine lv_astore_n (lv' := [(3, .ref q9), (0, .ref (g_ad G 0)), (1, .int p1), (2, .ref (g_ad G 161))]) C0.hx C0.hb dL_isNeedless_19 rfl hl (by decide) rfl (fun ls hl => ?_)
      refine lv_iconst (v := (1 : Int32)) C0.hx C0.hb dL_isNeedless_20 (by decide) ?_
      refine W.widen (k := 1) (n := 6) (by decide) (by decide) ?_
      exact g_iret C0 hW rfl rfl rfl dL_isNeedless_21
    · replace h := (if_neg hu).symm.trans h
      cases h
  · have hp : r = Sum.inr (x1, u) := hp
    subst hp
    subst ht
    have hW : g_W G ids (u, y, o) s.heap t.heap locs1 := ⟨hB.1, hB.2, hS⟩
    obtain rfl := Option.some.inj h
    refine lv_if_eq (tgt := 14) C0.hx C0.hb dL_isNeedless_7 (by decide) (fun hc1 => ?_) (fun hc1 => ?_)
    · have e9 : (if x1 = 0 then (0 : Int32) else 1) = 0 := if_pos hc1
      show W p l e _ s m args below meth c _ _ _ _ (MQ below (g_Qi G ids 0 (u, y, upd o 0 (if x1 = 0 then 0 else 1))) args s 1 6 (g_A G)) _
      rw [e9]
      refine lv_lconst (v := (0 : Int64)) C0.hx C0.hb dL_isNeedless_14 (by decide) ?_
      refine gs_38 C0 hW h161 k_161 (j := (0 : Int32)) (v := (0 : Int32)) (by decide) dL_isNeedless_15 (fun H locs hW => ?_)
      refine lv_goto (tgt := 22) C0.hx C0.hb dL_isNeedless_16 (by decide) ?_
      refine lv_iconst (v := (0 : Int32)) C0.hx C0.hb dL_isNeedless_22 (by decide) ?_
      refine W.widen (k := 1) (n := 6) (by decide) (by decide) ?_
      exact g_iret C0 hW rfl rfl rfl dL_isNeedless_23
    · have e9 : (if x1 = 0 then (0 : Int32) else 1) = 1 := if_neg hc1
      show W p l e _ s m args below meth c _ _ _ _ (MQ below (g_Qi G ids 0 (u, y, upd o 0 (if x1 = 0 then 0 else 1))) args s 1 6 (g_A G)) _
      rw [e9]
      refine lv_lconst (v := (1 : Int64)) C0.hx C0.hb dL_isNeedless_10 (by decide) ?_
      refine lv_goto (tgt := 15) C0.hx C0.hb dL_isNeedless_11 (by decide) ?_
      refine gs_38 C0 hW h161 k_161 (j := (0 : Int32)) (v := (1 : Int32)) (by decide) dL_isNeedless_15 (fun H locs hW => ?_)
      refine lv_goto (tgt := 22) C0.hx C0.hb dL_isNeedless_16 (by decide) ?_
      refine lv_iconst (v := (0 : Int32)) C0.hx C0.hb dL_isNeedless_22 (by decide) ?_
      refine W.widen (k := 1) (n := 6) (by decide) (by decide) ?_
      exact g_iret C0 hW rfl rfl rfl dL_isNeedless_23
def f_L_heardPitch (p1 : Int32) (x : CS) (o : Nat → Int32) : Option (Int32 × CS × (Nat → Int32)) :=
  (f_X12_heardPitch p1 x).bind fun r => match r with
    | .inl u => if u = 3 then some (1, x, o) else none
    | .inr q1 => some (0, x, upd o 0 q1)
set_option maxRecDepth 100000 in
set_option maxHeartbeats 4000000 in
theorem c_L_heardPitch {l : Launch} {G : GL} {ids : List Nat} {x : CS} {y : MS} {o : Nat → Int32} {p1 : Int32} {q : Int32 × CS × (Nat → Int32)} (hfl : l.stackTraces = false) (h161 : 161 ∈ ids) (h : f_L_heardPitch p1 x o = some q) : Met l yL_heardPitch (.codeWith yL_heardPitch cL_heardPitch 4 (Option.some Jvm.ClassFile.FieldType.int) [((0 : Nat), (9 : Nat), (12 : Nat), (24 : Nat))] :: gT) (g_rm 8 1 6) (va_Pc [.ref (g_ad G 0), .int p1, .ref (g_ad G 161)] (g_PL G ids (x, y, o))) (g_Qi G ids q.1 (q.2.1, y, q.2.2)) 1 6 (g_A G) := by
  unfold f_L_heardPitch at h
  obtain ⟨r, hr, h⟩ := Option.bind_eq_some_iff.mp h
  refine g_entryL (by decide) (Nat.le_of_ble_eq_true rfl) (fun p e s m args below meth c ls C0 hl hW hnc htab => ?_)
  have hl : lv_has ls 4 [(0, .ref (g_ad G 0)), (1, .int p1), (2, .ref (g_ad G 161))] := hl
  refine lv_aload_n C0.hx C0.hb dL_heardPitch_0 rfl (lv_at hl 2 rfl) ?_
  refine lv_iconst (v := (0 : Int32)) C0.hx C0.hb dL_heardPitch_1 (by decide) ?_
  refine lv_aload_n C0.hx C0.hb dL_heardPitch_2 rfl (lv_at hl 0 rfl) ?_
  refine lv_iload_n C0.hx C0.hb dL_heardPitch_3 rfl (lv_at hl 1 rfl) ?_
  refine vx_calli (g_xrunV (As := [.int p1]) (rest := [.int (0 : Int32), .ref (g_ad G 161)]) C0 hW (c_X12_heardPitch hfl hr) (g_cwG (n := 1) tc_X12_heardPitch tn_X12 md_X12_heardPitch (by decide) (by omega) (by decide) (by decide)) tm_L_56 ti_X12_heardPitch ts_X12_heardPitch (C0.mem (i := 0) (Nat.le_of_ble_eq_true rfl)) (g_c1 k_0) rfl rfl hl.1 rfl (Nat.le_of_ble_eq_true rfl) dL_heardPitch_4) hW.2.2 (fun q _ h => h) (fun q h => h) (fun q _ h => h) (fun E ce q9 u t H1 locs1 ht hvm hp hB hz hk hS hc hv hcl => ?_) (fun x1 u t H1 locs1 ht hvm hp hB hz hk hS => ?_)
  · obtain ⟨rfl, hB⟩ := hB
    have hp : r = Sum.inl u := hp
    subst ht
    subst hp
    have hW : g_W G ids (x, y, o) s.heap t.heap locs1 := ⟨hB.1, hB.2, hS⟩
    by_cases hu : u = 3
    · replace h := (if_pos hu).symm.trans h
      subst hu
      obtain rfl := Option.some.inj h
      refine vx_catch (E := g_ex 3) (name := g_IOB) C0.hown [] ⟨0, 9, 12, 24⟩ [] (htab.trans rfl) (fun z hz => by cases hz) (by decide) (by decide) (C0.hts _ tl_L_24) (C0.hN _ g_tk3) hc hv hcl ?_
      refine lv_astore_n (lv' := [(3, .ref q9), (0, .ref (g_ad G 0)), (1, .int p1), (2, .ref (g_ad G 161))]) C0.hx C0.hb dL_heardPitch_12 rfl hl (by decide) rfl (fun ls hl => ?_)
      refine lv_iconst (v := (1 : Int32)) C0.hx C0.hb dL_heardPitch_13 (by decide) ?_
      refine W.widen (k := 1) (n := 6) (by decide) (by decide) ?_
      exact g_iret C0 hW rfl rfl rfl dL_heardPitch_14
    · replace h := (if_neg hu).symm.trans h
      cases h
  · have hp : r = Sum.inr x1 := hp
    subst hp
    subst ht
    have hW : g_W G ids (x, y, o) s.heap t.heap locs1 := ⟨hB.1, hB.2, hS⟩
    obtain rfl := Option.some.inj h
    refine lv_i2l C0.hx C0.hb dL_heardPitch_7 rfl ?_
    refine gs_38 C0 hW h161 k_161 (j := (0 : Int32)) (v := x1) (by decide) dL_heardPitch_8 (fun H locs hW => ?_)
    refine lv_goto (tgt := 15) C0.hx C0.hb dL_heardPitch_9 (by decide) ?_
    refine lv_iconst (v := (0 : Int32)) C0.hx C0.hb dL_heardPitch_15 (by decide) ?_
    refine W.widen (k := 1) (n := 6) (by decide) (by decide) ?_
    exact g_iret C0 hW rfl rfl rfl dL_heardPitch_16
def f_L_distanceTo (p1 : Int32) (x : CS) (o : Nat → Int32) : Option (Int32 × CS × (Nat → Int32)) :=
  (f_X12_distanceTo p1 x).bind fun r => match r with
    | .inl u => if u = 3 then some (1, x, o) else if u = 1 then some (2, x, o) else none
    | .inr q1 => some (0, x, upd o 0 q1)
set_option maxRecDepth 100000 in
set_option maxHeartbeats 4000000 in
theorem c_L_distanceTo {l : Launch} {G : GL} {ids : List Nat} {x : CS} {y : MS} {o : Nat → Int32} {p1 : Int32} {q : Int32 × CS × (Nat → Int32)} (hfl : l.stackTraces = false) (h161 : 161 ∈ ids) (h : f_L_distanceTo p1 x o = some q) : Met l yL_distanceTo (.codeWith yL_distanceTo cL_distanceTo 4 (Option.some Jvm.ClassFile.FieldType.int) [((0 : Nat), (9 : Nat), (12 : Nat), (24 : Nat)), ((0 : Nat), (9 : Nat), (15 : Nat), (13 : Nat))] :: gT) (g_rm 8 2 12) (va_Pc [.ref (g_ad G 0), .int p1, .ref (g_ad G 161)] (g_PL G ids (x, y, o))) (g_Qi G ids q.1 (q.2.1, y, q.2.2)) 2 12 (g_A G) := by
  unfold f_L_distanceTo at h
  obtain ⟨r, hr, h⟩ := Option.bind_eq_some_iff.mp h
  refine g_entryL (by decide) (Nat.le_of_ble_eq_true rfl) (fun p e s m args below meth c ls C0 hl hW hnc htab => ?_)
  have hl : lv_has ls 4 [(0, .ref (g_ad G 0)), (1, .int p1), (2, .ref (g_ad G 161))] := hl
  refine lv_aload_n C0.hx C0.hb dL_distanceTo_0 rfl (lv_at hl 2 rfl) ?_
  refine lv_iconst (v := (0 : Int32)) C0.hx C0.hb dL_distanceTo_1 (by decide) ?_
  refine lv_aload_n C0.hx C0.hb dL_distanceTo_2 rfl (lv_at hl 0 rfl) ?_
  refine lv_iload_n C0.hx C0.hb dL_distanceTo_3 rfl (lv_at hl 1 rfl) ?_
  refine vx_calli (g_xrunV (As := [.int p1]) (rest := [.int (0 : Int32), .ref (g_ad G 161)]) C0 hW (c_X12_distanceTo hfl hr) (g_cwG (n := 1) tc_X12_distanceTo tn_X12 md_X12_distanceTo (by decide) (by omega) (by decide) (by decide)) tm_L_59 ti_X12_distanceTo ts_X12_distanceTo (C0.mem (i := 0) (Nat.le_of_ble_eq_true rfl)) (g_c1 k_0) rfl rfl hl.1 rfl (Nat.le_of_ble_eq_true rfl) dL_distanceTo_4) hW.2.2 (fun q _ h => h) (fun q h => h) (fun q _ h => h) (fun E ce q9 u t H1 locs1 ht hvm hp hB hz hk hS hc hv hcl => ?_) (fun x1 u t H1 locs1 ht hvm hp hB hz hk hS => ?_)
  · obtain ⟨rfl, hB⟩ := hB
    have hp : r = Sum.inl u := hp
    subst ht
    subst hp
    have hW : g_W G ids (x, y, o) s.heap t.heap locs1 := ⟨hB.1, hB.2, hS⟩
    by_cases hu : u = 3
    · replace h := (if_pos hu).symm.trans h
      subst hu
      obtain rfl := Option.some.inj h
      refine vx_catch (E := g_ex 3) (name := g_IOB) C0.hown [] ⟨0, 9, 12, 24⟩ [⟨0, 9, 15, 13⟩] (htab.trans rfl) (fun z hz => by cases hz) (by decide) (by decide) (C0.hts _ tl_L_24) (C0.hN _ g_tk3) hc hv hcl ?_
      refine lv_astore_n (lv' := [(3, .ref q9), (0, .ref (g_ad G 0)), (1, .int p1), (2, .ref (g_ad G 161))]) C0.hx C0.hb dL_distanceTo_12 rfl hl (by decide) rfl (fun ls hl => ?_)
      refine lv_iconst (v := (1 : Int32)) C0.hx C0.hb dL_distanceTo_13 (by decide) ?_
      refine W.widen (k := 2) (n := 12) (by decide) (by decide) ?_
      exact g_iret C0 hW rfl rfl rfl dL_distanceTo_14
    · replace h := (if_neg hu).symm.trans h
      by_cases hu : u = 1
      · replace h := (if_pos hu).symm.trans h
        subst hu
        obtain rfl := Option.some.inj h
        refine vx_catch (E := g_ex 1) (name := g_ISE) C0.hown [⟨0, 9, 12, 24⟩] ⟨0, 9, 15, 13⟩ [] (htab.trans rfl) (fun z hz => by rcases List.mem_singleton.mp hz with rfl; exact Or.inr ⟨by decide, g_IOB, C0.hts _ tl_L_24, hnc.1⟩) (by decide) (by decide) (C0.hts _ tl_L_13) (C0.hN _ g_tk1) hc hv hcl ?_
        refine lv_astore_n (lv' := [(3, .ref q9), (0, .ref (g_ad G 0)), (1, .int p1), (2, .ref (g_ad G 161))]) C0.hx C0.hb dL_distanceTo_15 rfl hl (by decide) rfl (fun ls hl => ?_)
        refine lv_iconst (v := (2 : Int32)) C0.hx C0.hb dL_distanceTo_16 (by decide) ?_
        refine W.widen (k := 2) (n := 12) (by decide) (by decide) ?_
        exact g_iret C0 hW rfl rfl rfl dL_distanceTo_17
      · replace h := (if_neg hu).symm.trans h
        cases h
  · have hp : r = Sum.inr x1 := hp
    subst hp
    subst ht
    have hW : g_W G ids (x, y, o) s.heap t.heap locs1 := ⟨hB.1, hB.2, hS⟩
    obtain rfl := Option.some.inj h
    refine lv_i2l C0.hx C0.hb dL_distanceTo_7 rfl ?_
    refine gs_38 C0 hW h161 k_161 (j := (0 : Int32)) (v := x1) (by decide) dL_distanceTo_8 (fun H locs hW => ?_)
    refine lv_goto (tgt := 18) C0.hx C0.hb dL_distanceTo_9 (by decide) ?_
    refine lv_iconst (v := (0 : Int32)) C0.hx C0.hb dL_distanceTo_18 (by decide) ?_
    refine W.widen (k := 2) (n := 12) (by decide) (by decide) ?_
    exact g_iret C0 hW rfl rfl rfl dL_distanceTo_19
def f_L_contourTo (p1 : Int32) (x : CS) (o : Nat → Int32) : Option (Int32 × CS × (Nat → Int32)) :=
  (f_X12_contourTo p1 x).bind fun r => match r with
    | .inl u => if u = 3 then some (1, x, o) else if u = 1 then some (2, x, o) else none
    | .inr q1 => some (0, q1.2, upd o 0 q1.1)
set_option maxRecDepth 100000 in
set_option maxHeartbeats 4000000 in
theorem c_L_contourTo {l : Launch} {G : GL} {ids : List Nat} {x : CS} {y : MS} {o : Nat → Int32} {p1 : Int32} {q : Int32 × CS × (Nat → Int32)} (hfl : l.stackTraces = false) (h161 : 161 ∈ ids) (h : f_L_contourTo p1 x o = some q) : Met l yL_contourTo (.codeWith yL_contourTo cL_contourTo 4 (Option.some Jvm.ClassFile.FieldType.int) [((0 : Nat), (9 : Nat), (12 : Nat), (24 : Nat)), ((0 : Nat), (9 : Nat), (15 : Nat), (13 : Nat))] :: gT) (g_rm 8 2 12) (va_Pc [.ref (g_ad G 0), .int p1, .ref (g_ad G 161)] (g_PL G ids (x, y, o))) (g_Qi G ids q.1 (q.2.1, y, q.2.2)) 2 12 (g_A G) := by
  unfold f_L_contourTo at h
  obtain ⟨r, hr, h⟩ := Option.bind_eq_some_iff.mp h
  refine g_entryL (by decide) (Nat.le_of_ble_eq_true rfl) (fun p e s m args below meth c ls C0 hl hW hnc htab => ?_)
  have hl : lv_has ls 4 [(0, .ref (g_ad G 0)), (1, .int p1), (2, .ref (g_ad G 161))] := hl
  refine lv_aload_n C0.hx C0.hb dL_contourTo_0 rfl (lv_at hl 2 rfl) ?_
  refine lv_iconst (v := (0 : Int32)) C0.hx C0.hb dL_contourTo_1 (by decide) ?_
  refine lv_aload_n C0.hx C0.hb dL_contourTo_2 rfl (lv_at hl 0 rfl) ?_
  refine lv_iload_n C0.hx C0.hb dL_contourTo_3 rfl (lv_at hl 1 rfl) ?_
  refine vx_calli (g_xrunV (As := [.int p1]) (rest := [.int (0 : Int32), .ref (g_ad G 161)]) C0 hW (c_X12_contourTo hfl hr) (g_cwG (n := 1) tc_X12_contourTo tn_X12 md_X12_contourTo (by decide) (by omega) (by decide) (by decide)) tm_L_62 ti_X12_contourTo ts_X12_contourTo (C0.mem (i := 0) (Nat.le_of_ble_eq_true rfl)) (g_c1 k_0) rfl rfl hl.1 rfl (Nat.le_of_ble_eq_true rfl) dL_contourTo_4) hW.2.2 (fun q _ h => h) (fun q h => h) (fun q _ h => h) (fun E ce q9 u t H1 locs1 ht hvm hp hB hz hk hS hc hv hcl => ?_) (fun x1 u t H1 locs1 ht hvm hp hB hz hk hS => ?_)
  · obtain ⟨rfl, hB⟩ := hB
    have hp : r = Sum.inl u := hp
    subst ht
    subst hp
    have hW : g_W G ids (x, y, o) s.heap t.heap locs1 := ⟨hB.1, hB.2, hS⟩
    by_cases hu : u = 3
    · replace h := (if_pos hu).symm.trans h
      subst hu
      obtain rfl := Option.some.inj h
      refine vx_catch (E := g_ex 3) (name := g_IOB) C0.hown [] ⟨0, 9, 12, 24⟩ [⟨0, 9, 15, 13⟩] (htab.trans rfl) (fun z hz => by cases hz) (by decide) (by decide) (C0.hts _ tl_L_24) (C0.hN _ g_tk3) hc hv hcl ?_
      refine lv_astore_n (lv' := [(3, .ref q9), (0, .ref (g_ad G 0)), (1, .int p1), (2, .ref (g_ad G 161))]) C0.hx C0.hb dL_contourTo_12 rfl hl (by decide) rfl (fun ls hl => ?_)
      refine lv_iconst (v := (1 : Int32)) C0.hx C0.hb dL_contourTo_13 (by decide) ?_
      refine W.widen (k := 2) (n := 12) (by decide) (by decide) ?_
      exact g_iret C0 hW rfl rfl rfl dL_contourTo_14
    · replace h := (if_neg hu).symm.trans h
      by_cases hu : u = 1
      · replace h := (if_pos hu).symm.trans h
        subst hu
        obtain rfl := Option.some.inj h
        refine vx_catch (E := g_ex 1) (name := g_ISE) C0.hown [⟨0, 9, 12, 24⟩] ⟨0, 9, 15, 13⟩ [] (htab.trans rfl) (fun z hz => by rcases List.mem_singleton.mp hz with rfl; exact Or.inr ⟨by decide, g_IOB, C0.hts _ tl_L_24, hnc.1⟩) (by decide) (by decide) (C0.hts _ tl_L_13) (C0.hN _ g_tk1) hc hv hcl ?_
        refine lv_astore_n (lv' := [(3, .ref q9), (0, .ref (g_ad G 0)), (1, .int p1), (2, .ref (g_ad G 161))]) C0.hx C0.hb dL_contourTo_15 rfl hl (by decide) rfl (fun ls hl => ?_)
        refine lv_iconst (v := (2 : Int32)) C0.hx C0.hb dL_contourTo_16 (by decide) ?_
        refine W.widen (k := 2) (n := 12) (by decide) (by decide) ?_
        exact g_iret C0 hW rfl rfl rfl dL_contourTo_17
      · replace h := (if_neg hu).symm.trans h
        cases h
  · have hp : r = Sum.inr (x1, u) := hp
    subst hp
    subst ht
    have hW : g_W G ids (u, y, o) s.heap t.heap locs1 := ⟨hB.1, hB.2, hS⟩
    obtain rfl := Option.some.inj h
    refine lv_i2l C0.hx C0.hb dL_contourTo_7 rfl ?_
    refine gs_38 C0 hW h161 k_161 (j := (0 : Int32)) (v := x1) (by decide) dL_contourTo_8 (fun H locs hW => ?_)
    refine lv_goto (tgt := 18) C0.hx C0.hb dL_contourTo_9 (by decide) ?_
    refine lv_iconst (v := (0 : Int32)) C0.hx C0.hb dL_contourTo_18 (by decide) ?_
    refine W.widen (k := 2) (n := 12) (by decide) (by decide) ?_
    exact g_iret C0 hW rfl rfl rfl dL_contourTo_19
def f_L_stepsTo (p1 : Int32) (x : CS) (o : Nat → Int32) : Option (Int32 × CS × (Nat → Int32)) :=
  (f_X12_stepsTo p1 x).bind fun r => match r with
    | .inl u => if u = 3 then some (1, x, o) else if u = 1 then some (2, x, o) else none
    | .inr q1 => some (0, q1.2, upd o 0 q1.1)
set_option maxRecDepth 100000 in
set_option maxHeartbeats 4000000 in
theorem c_L_stepsTo {l : Launch} {G : GL} {ids : List Nat} {x : CS} {y : MS} {o : Nat → Int32} {p1 : Int32} {q : Int32 × CS × (Nat → Int32)} (hfl : l.stackTraces = false) (h161 : 161 ∈ ids) (h : f_L_stepsTo p1 x o = some q) : Met l yL_stepsTo (.codeWith yL_stepsTo cL_stepsTo 4 (Option.some Jvm.ClassFile.FieldType.int) [((0 : Nat), (9 : Nat), (12 : Nat), (24 : Nat)), ((0 : Nat), (9 : Nat), (15 : Nat), (13 : Nat))] :: gT) (g_rm 8 2 12) (va_Pc [.ref (g_ad G 0), .int p1, .ref (g_ad G 161)] (g_PL G ids (x, y, o))) (g_Qi G ids q.1 (q.2.1, y, q.2.2)) 2 12 (g_A G) := by
  unfold f_L_stepsTo at h
  obtain ⟨r, hr, h⟩ := Option.bind_eq_some_iff.mp h
  refine g_entryL (by decide) (Nat.le_of_ble_eq_true rfl) (fun p e s m args below meth c ls C0 hl hW hnc htab => ?_)
  have hl : lv_has ls 4 [(0, .ref (g_ad G 0)), (1, .int p1), (2, .ref (g_ad G 161))] := hl
  refine lv_aload_n C0.hx C0.hb dL_stepsTo_0 rfl (lv_at hl 2 rfl) ?_
  refine lv_iconst (v := (0 : Int32)) C0.hx C0.hb dL_stepsTo_1 (by decide) ?_
  refine lv_aload_n C0.hx C0.hb dL_stepsTo_2 rfl (lv_at hl 0 rfl) ?_
  refine lv_iload_n C0.hx C0.hb dL_stepsTo_3 rfl (lv_at hl 1 rfl) ?_
  refine vx_calli (g_xrunV (As := [.int p1]) (rest := [.int (0 : Int32), .ref (g_ad G 161)]) C0 hW (c_X12_stepsTo hfl hr) (g_cwG (n := 1) tc_X12_stepsTo tn_X12 md_X12_stepsTo (by decide) (by omega) (by decide) (by decide)) tm_L_65 ti_X12_stepsTo ts_X12_stepsTo (C0.mem (i := 0) (Nat.le_of_ble_eq_true rfl)) (g_c1 k_0) rfl rfl hl.1 rfl (Nat.le_of_ble_eq_true rfl) dL_stepsTo_4) hW.2.2 (fun q _ h => h) (fun q h => h) (fun q _ h => h) (fun E ce q9 u t H1 locs1 ht hvm hp hB hz hk hS hc hv hcl => ?_) (fun x1 u t H1 locs1 ht hvm hp hB hz hk hS => ?_)
  · obtain ⟨rfl, hB⟩ := hB
    have hp : r = Sum.inl u := hp
    subst ht
    subst hp
    have hW : g_W G ids (x, y, o) s.heap t.heap locs1 := ⟨hB.1, hB.2, hS⟩
    by_cases hu : u = 3
    · replace h := (if_pos hu).symm.trans h
      subst hu
      obtain rfl := Option.some.inj h
      refine vx_catch (E := g_ex 3) (name := g_IOB) C0.hown [] ⟨0, 9, 12, 24⟩ [⟨0, 9, 15, 13⟩] (htab.trans rfl) (fun z hz => by cases hz) (by decide) (by decide) (C0.hts _ tl_L_24) (C0.hN _ g_tk3) hc hv hcl ?_
      refine lv_astore_n (lv' := [(3, .ref q9), (0, .ref (g_ad G 0)), (1, .int p1), (2, .ref (g_ad G 161))]) C0.hx C0.hb dL_stepsTo_12 rfl hl (by decide) rfl (fun ls hl => ?_)
      refine lv_iconst (v := (1 : Int32)) C0.hx C0.hb dL_stepsTo_13 (by decide) ?_
      refine W.widen (k := 2) (n := 12) (by decide) (by decide) ?_
      exact g_iret C0 hW rfl rfl rfl dL_stepsTo_14
    · replace h := (if_neg hu).symm.trans h
      by_cases hu : u = 1
      · replace h := (if_pos hu).symm.trans h
        subst hu
        obtain rfl := Option.some.inj h
        refine vx_catch (E := g_ex 1) (name := g_ISE) C0.hown [⟨0, 9, 12, 24⟩] ⟨0, 9, 15, 13⟩ [] (htab.trans rfl) (fun z hz => by rcases List.mem_singleton.mp hz with rfl; exact Or.inr ⟨by decide, g_IOB, C0.hts _ tl_L_24, hnc.1⟩) (by decide) (by decide) (C0.hts _ tl_L_13) (C0.hN _ g_tk1) hc hv hcl ?_
        refine lv_astore_n (lv' := [(3, .ref q9), (0, .ref (g_ad G 0)), (1, .int p1), (2, .ref (g_ad G 161))]) C0.hx C0.hb dL_stepsTo_15 rfl hl (by decide) rfl (fun ls hl => ?_)
        refine lv_iconst (v := (2 : Int32)) C0.hx C0.hb dL_stepsTo_16 (by decide) ?_
        refine W.widen (k := 2) (n := 12) (by decide) (by decide) ?_
        exact g_iret C0 hW rfl rfl rfl dL_stepsTo_17
      · replace h := (if_neg hu).symm.trans h
        cases h
  · have hp : r = Sum.inr (x1, u) := hp
    subst hp
    subst ht
    have hW : g_W G ids (u, y, o) s.heap t.heap locs1 := ⟨hB.1, hB.2, hS⟩
    obtain rfl := Option.some.inj h
    refine lv_i2l C0.hx C0.hb dL_stepsTo_7 rfl ?_
    refine gs_38 C0 hW h161 k_161 (j := (0 : Int32)) (v := x1) (by decide) dL_stepsTo_8 (fun H locs hW => ?_)
    refine lv_goto (tgt := 18) C0.hx C0.hb dL_stepsTo_9 (by decide) ?_
    refine lv_iconst (v := (0 : Int32)) C0.hx C0.hb dL_stepsTo_18 (by decide) ?_
    refine W.widen (k := 2) (n := 12) (by decide) (by decide) ?_
    exact g_iret C0 hW rfl rfl rfl dL_stepsTo_19
def f_L_meantWord  (x : CS) (o : Nat → Int32) : Option (Int32 × CS × (Nat → Int32)) :=
  (f_X12_meantWord x).bind fun r => match r with
    | .inl u => if u = 1 then some (1, x, o) else none
    | .inr q1 => some (0, x, upd o 0 q1)
set_option maxRecDepth 100000 in
set_option maxHeartbeats 4000000 in
theorem c_L_meantWord {l : Launch} {G : GL} {ids : List Nat} {x : CS} {y : MS} {o : Nat → Int32}  {q : Int32 × CS × (Nat → Int32)} (hfl : l.stackTraces = false) (h161 : 161 ∈ ids) (h : f_L_meantWord  x o = some q) : Met l yL_meantWord (.codeWith yL_meantWord cL_meantWord 3 (Option.some Jvm.ClassFile.FieldType.int) [((0 : Nat), (8 : Nat), (11 : Nat), (13 : Nat))] :: gT) (g_rm 8 1 6) (va_Pc [.ref (g_ad G 0), .ref (g_ad G 161)] (g_PL G ids (x, y, o))) (g_Qi G ids q.1 (q.2.1, y, q.2.2)) 1 6 (g_A G) := by
  unfold f_L_meantWord at h
  obtain ⟨r, hr, h⟩ := Option.bind_eq_some_iff.mp h
  refine g_entryL (by decide) (Nat.le_of_ble_eq_true rfl) (fun p e s m args below meth c ls C0 hl hW hnc htab => ?_)
  have hl : lv_has ls 3 [(0, .ref (g_ad G 0)), (1, .ref (g_ad G 161))] := hl
  refine lv_aload_n C0.hx C0.hb dL_meantWord_0 rfl (lv_at hl 1 rfl) ?_
  refine lv_iconst (v := (0 : Int32)) C0.hx C0.hb dL_meantWord_1 (by decide) ?_
  refine lv_aload_n C0.hx C0.hb dL_meantWord_2 rfl (lv_at hl 0 rfl) ?_
  refine vx_calli (g_xrunV (As := []) (rest := [.int (0 : Int32), .ref (g_ad G 161)]) C0 hW (c_X12_meantWord hfl hr) (g_cwG (n := 0) tc_X12_meantWord tn_X12 md_X12_meantWord (by decide) (by omega) (by decide) (by decide)) tm_L_68 ti_X12_meantWord ts_X12_meantWord (C0.mem (i := 0) (Nat.le_of_ble_eq_true rfl)) (g_c1 k_0) rfl rfl hl.1 rfl (Nat.le_of_ble_eq_true rfl) dL_meantWord_3) hW.2.2 (fun q _ h => h) (fun q h => h) (fun q _ h => h) (fun E ce q9 u t H1 locs1 ht hvm hp hB hz hk hS hc hv hcl => ?_) (fun x1 u t H1 locs1 ht hvm hp hB hz hk hS => ?_)
  · obtain ⟨rfl, hB⟩ := hB
    have hp : r = Sum.inl u := hp
    subst ht
    subst hp
    have hW : g_W G ids (x, y, o) s.heap t.heap locs1 := ⟨hB.1, hB.2, hS⟩
    by_cases hu : u = 1
    · replace h := (if_pos hu).symm.trans h
      subst hu
      obtain rfl := Option.some.inj h
      refine vx_catch (E := g_ex 1) (name := g_ISE) C0.hown [] ⟨0, 8, 11, 13⟩ [] (htab.trans rfl) (fun z hz => by cases hz) (by decide) (by decide) (C0.hts _ tl_L_13) (C0.hN _ g_tk1) hc hv hcl ?_
      refine lv_astore_n (lv' := [(2, .ref q9), (0, .ref (g_ad G 0)), (1, .ref (g_ad G 161))]) C0.hx C0.hb dL_meantWord_11 rfl hl (by decide) rfl (fun ls hl => ?_)
      refine lv_iconst (v := (1 : Int32)) C0.hx C0.hb dL_meantWord_12 (by decide) ?_
      refine W.widen (k := 1) (n := 6) (by decide) (by decide) ?_
      exact g_iret C0 hW rfl rfl rfl dL_meantWord_13
    · replace h := (if_neg hu).symm.trans h
      cases h
  · have hp : r = Sum.inr x1 := hp
    subst hp
    subst ht
    have hW : g_W G ids (x, y, o) s.heap t.heap locs1 := ⟨hB.1, hB.2, hS⟩
    obtain rfl := Option.some.inj h
    refine lv_i2l C0.hx C0.hb dL_meantWord_6 rfl ?_
    refine gs_38 C0 hW h161 k_161 (j := (0 : Int32)) (v := x1) (by decide) dL_meantWord_7 (fun H locs hW => ?_)
    refine lv_goto (tgt := 14) C0.hx C0.hb dL_meantWord_8 (by decide) ?_
    refine lv_iconst (v := (0 : Int32)) C0.hx C0.hb dL_meantWord_14 (by decide) ?_
    refine W.widen (k := 1) (n := 6) (by decide) (by decide) ?_
    exact g_iret C0 hW rfl rfl rfl dL_meantWord_15
def f_L_surety  (x : CS) (o : Nat → Int32) : Option (Int32 × CS × (Nat → Int32)) :=
  (f_X12_surety x).bind fun r => match r with
    | .inl u => if u = 1 then some (1, x, o) else none
    | .inr q1 => some (0, x, upd o 0 q1)
set_option maxRecDepth 100000 in
set_option maxHeartbeats 4000000 in
theorem c_L_surety {l : Launch} {G : GL} {ids : List Nat} {x : CS} {y : MS} {o : Nat → Int32}  {q : Int32 × CS × (Nat → Int32)} (hfl : l.stackTraces = false) (h161 : 161 ∈ ids) (h : f_L_surety  x o = some q) : Met l yL_surety (.codeWith yL_surety cL_surety 3 (Option.some Jvm.ClassFile.FieldType.int) [((0 : Nat), (8 : Nat), (11 : Nat), (13 : Nat))] :: gT) (g_rm 8 1 6) (va_Pc [.ref (g_ad G 0), .ref (g_ad G 161)] (g_PL G ids (x, y, o))) (g_Qi G ids q.1 (q.2.1, y, q.2.2)) 1 6 (g_A G) := by
  unfold f_L_surety at h
  obtain ⟨r, hr, h⟩ := Option.bind_eq_some_iff.mp h
  refine g_entryL (by decide) (Nat.le_of_ble_eq_true rfl) (fun p e s m args below meth c ls C0 hl hW hnc htab => ?_)
  have hl : lv_has ls 3 [(0, .ref (g_ad G 0)), (1, .ref (g_ad G 161))] := hl
  refine lv_aload_n C0.hx C0.hb dL_surety_0 rfl (lv_at hl 1 rfl) ?_
  refine lv_iconst (v := (0 : Int32)) C0.hx C0.hb dL_surety_1 (by decide) ?_
  refine lv_aload_n C0.hx C0.hb dL_surety_2 rfl (lv_at hl 0 rfl) ?_
  refine vx_calli (g_xrunV (As := []) (rest := [.int (0 : Int32), .ref (g_ad G 161)]) C0 hW (c_X12_surety hfl hr) (g_cwG (n := 0) tc_X12_surety tn_X12 md_X12_surety (by decide) (by omega) (by decide) (by decide)) tm_L_72 ti_X12_surety ts_X12_surety (C0.mem (i := 0) (Nat.le_of_ble_eq_true rfl)) (g_c1 k_0) rfl rfl hl.1 rfl (Nat.le_of_ble_eq_true rfl) dL_surety_3) hW.2.2 (fun q _ h => h) (fun q h => h) (fun q _ h => h) (fun E ce q9 u t H1 locs1 ht hvm hp hB hz hk hS hc hv hcl => ?_) (fun x1 u t H1 locs1 ht hvm hp hB hz hk hS => ?_)
  · obtain ⟨rfl, hB⟩ := hB
    have hp : r = Sum.inl u := hp
    subst ht
    subst hp
    have hW : g_W G ids (x, y, o) s.heap t.heap locs1 := ⟨hB.1, hB.2, hS⟩
    by_cases hu : u = 1
    · replace h := (if_pos hu).symm.trans h
      subst hu
      obtain rfl := Option.some.inj h
      refine vx_catch (E := g_ex 1) (name := g_ISE) C0.hown [] ⟨0, 8, 11, 13⟩ [] (htab.trans rfl) (fun z hz => by cases hz) (by decide) (by decide) (C0.hts _ tl_L_13) (C0.hN _ g_tk1) hc hv hcl ?_
      refine lv_astore_n (lv' := [(2, .ref q9), (0, .ref (g_ad G 0)), (1, .ref (g_ad G 161))]) C0.hx C0.hb dL_surety_11 rfl hl (by decide) rfl (fun ls hl => ?_)
      refine lv_iconst (v := (1 : Int32)) C0.hx C0.hb dL_surety_12 (by decide) ?_
      refine W.widen (k := 1) (n := 6) (by decide) (by decide) ?_
      exact g_iret C0 hW rfl rfl rfl dL_surety_13
    · replace h := (if_neg hu).symm.trans h
      cases h
  · have hp : r = Sum.inr x1 := hp
    subst hp
    subst ht
    have hW : g_W G ids (x, y, o) s.heap t.heap locs1 := ⟨hB.1, hB.2, hS⟩
    obtain rfl := Option.some.inj h
    refine lv_i2l C0.hx C0.hb dL_surety_6 rfl ?_
    refine gs_38 C0 hW h161 k_161 (j := (0 : Int32)) (v := x1) (by decide) dL_surety_7 (fun H locs hW => ?_)
    refine lv_goto (tgt := 14) C0.hx C0.hb dL_surety_8 (by decide) ?_
    refine lv_iconst (v := (0 : Int32)) C0.hx C0.hb dL_surety_14 (by decide) ?_
    refine W.widen (k := 1) (n := 6) (by decide) (by decide) ?_
    exact g_iret C0 hW rfl rfl rfl dL_surety_15
def f_L_hear (p1 : Int32) (x : CS) (o : Nat → Int32) : Option (Int32 × CS × (Nat → Int32)) :=
  (f_X12_hear p1 x).bind fun r => match r with
    | .inl u => if u = 2 then some (1, x, o) else if u = 1 then some (2, x, o) else none
    | .inr q1 => some (0, q1.2, upd o 0 q1.1)
set_option maxRecDepth 100000 in
set_option maxHeartbeats 4000000 in
theorem c_L_hear {l : Launch} {G : GL} {ids : List Nat} {x : CS} {y : MS} {o : Nat → Int32} {p1 : Int32} {q : Int32 × CS × (Nat → Int32)} (hfl : l.stackTraces = false) (h161 : 161 ∈ ids) (h : f_L_hear p1 x o = some q) : Met l yL_hear (.codeWith yL_hear cL_hear 4 (Option.some Jvm.ClassFile.FieldType.int) [((0 : Nat), (9 : Nat), (12 : Nat), (19 : Nat)), ((0 : Nat), (9 : Nat), (15 : Nat), (13 : Nat))] :: gT) (g_rm 7 1 6) (va_Pc [.ref (g_ad G 0), .int p1, .ref (g_ad G 161)] (g_PL G ids (x, y, o))) (g_Qi G ids q.1 (q.2.1, y, q.2.2)) 1 6 (g_A G) := by
  unfold f_L_hear at h
  obtain ⟨r, hr, h⟩ := Option.bind_eq_some_iff.mp h
  refine g_entryL (by decide) (Nat.le_of_ble_eq_true rfl) (fun p e s m args below meth c ls C0 hl hW hnc htab => ?_)
  have hl : lv_has ls 4 [(0, .ref (g_ad G 0)), (1, .int p1), (2, .ref (g_ad G 161))] := hl
  refine lv_aload_n C0.hx C0.hb dL_hear_0 rfl (lv_at hl 2 rfl) ?_
  refine lv_iconst (v := (0 : Int32)) C0.hx C0.hb dL_hear_1 (by decide) ?_
  refine lv_aload_n C0.hx C0.hb dL_hear_2 rfl (lv_at hl 0 rfl) ?_
  refine lv_iload_n C0.hx C0.hb dL_hear_3 rfl (lv_at hl 1 rfl) ?_
  refine vx_calli (g_xrunV (As := [.int p1]) (rest := [.int (0 : Int32), .ref (g_ad G 161)]) C0 hW (c_X12_hear hfl hr) (g_cwG (n := 1) tc_X12_hear tn_X12 md_X12_hear (by decide) (by omega) (by decide) (by decide)) tm_L_75 ti_X12_hear ts_X12_hear (C0.mem (i := 0) (Nat.le_of_ble_eq_true rfl)) (g_c1 k_0) rfl rfl hl.1 rfl (Nat.le_of_ble_eq_true rfl) dL_hear_4) hW.2.2 (fun q _ h => h) (fun q h => h) (fun q _ h => h) (fun E ce q9 u t H1 locs1 ht hvm hp hB hz hk hS hc hv hcl => ?_) (fun x1 u t H1 locs1 ht hvm hp hB hz hk hS => ?_)
  · obtain ⟨rfl, hB⟩ := hB
    have hp : r = Sum.inl u := hp
    subst ht
    subst hp
    have hW : g_W G ids (x, y, o) s.heap t.heap locs1 := ⟨hB.1, hB.2, hS⟩
    by_cases hu : u = 2
    · replace h := (if_pos hu).symm.trans h
      subst hu
      obtain rfl := Option.some.inj h
      refine vx_catch (E := g_ex 2) (name := g_IAE) C0.hown [] ⟨0, 9, 12, 19⟩ [⟨0, 9, 15, 13⟩] (htab.trans rfl) (fun z hz => by cases hz) (by decide) (by decide) (C0.hts _ tl_L_19) (C0.hN _ g_tk2) hc hv hcl ?_
      refine lv_astore_n (lv' := [(3, .ref q9), (0, .ref (g_ad G 0)), (1, .int p1), (2, .ref (g_ad G 161))]) C0.hx C0.hb dL_hear_12 rfl hl (by decide) rfl (fun ls hl => ?_)
      refine lv_iconst (v := (1 : Int32)) C0.hx C0.hb dL_hear_13 (by decide) ?_
      refine W.widen (k := 1) (n := 6) (by decide) (by decide) ?_
      exact g_iret C0 hW rfl rfl rfl dL_hear_14
    · replace h := (if_neg hu).symm.trans h
      by_cases hu : u = 1
      · replace h := (if_pos hu).symm.trans h
        subst hu
        obtain rfl := Option.some.inj h
        refine vx_catch (E := g_ex 1) (name := g_ISE) C0.hown [⟨0, 9, 12, 19⟩] ⟨0, 9, 15, 13⟩ [] (htab.trans rfl) (fun z hz => by rcases List.mem_singleton.mp hz with rfl; exact Or.inr ⟨by decide, g_IAE, C0.hts _ tl_L_19, hnc.2.1⟩) (by decide) (by decide) (C0.hts _ tl_L_13) (C0.hN _ g_tk1) hc hv hcl ?_
        refine lv_astore_n (lv' := [(3, .ref q9), (0, .ref (g_ad G 0)), (1, .int p1), (2, .ref (g_ad G 161))]) C0.hx C0.hb dL_hear_15 rfl hl (by decide) rfl (fun ls hl => ?_)
        refine lv_iconst (v := (2 : Int32)) C0.hx C0.hb dL_hear_16 (by decide) ?_
        refine W.widen (k := 1) (n := 6) (by decide) (by decide) ?_
        exact g_iret C0 hW rfl rfl rfl dL_hear_17
      · replace h := (if_neg hu).symm.trans h
        cases h
  · have hp : r = Sum.inr (x1, u) := hp
    subst hp
    subst ht
    have hW : g_W G ids (u, y, o) s.heap t.heap locs1 := ⟨hB.1, hB.2, hS⟩
    obtain rfl := Option.some.inj h
    refine lv_i2l C0.hx C0.hb dL_hear_7 rfl ?_
    refine gs_38 C0 hW h161 k_161 (j := (0 : Int32)) (v := x1) (by decide) dL_hear_8 (fun H locs hW => ?_)
    refine lv_goto (tgt := 18) C0.hx C0.hb dL_hear_9 (by decide) ?_
    refine lv_iconst (v := (0 : Int32)) C0.hx C0.hb dL_hear_18 (by decide) ?_
    refine W.widen (k := 1) (n := 6) (by decide) (by decide) ?_
    exact g_iret C0 hW rfl rfl rfl dL_hear_19
def f_L_hearWord (p1 : Int32) (p2 : Int32) (x : CS) (o : Nat → Int32) : Option (Int32 × CS × (Nat → Int32)) :=
  (f_X12_hearWord p1 p2 x).bind fun r => match r with
    | .inl u => if u = 3 then some (1, x, o) else if u = 2 then some (2, x, o) else none
    | .inr q1 => some (0, q1.2, upd o 0 q1.1)
set_option maxRecDepth 100000 in
set_option maxHeartbeats 4000000 in
theorem c_L_hearWord {l : Launch} {G : GL} {ids : List Nat} {x : CS} {y : MS} {o : Nat → Int32} {p1 : Int32} {p2 : Int32} {q : Int32 × CS × (Nat → Int32)} (hfl : l.stackTraces = false) (h161 : 161 ∈ ids) (h : f_L_hearWord p1 p2 x o = some q) : Met l yL_hearWord (.codeWith yL_hearWord cL_hearWord 5 (Option.some Jvm.ClassFile.FieldType.int) [((0 : Nat), (10 : Nat), (13 : Nat), (24 : Nat)), ((0 : Nat), (10 : Nat), (17 : Nat), (19 : Nat))] :: gT) (g_rm 8 2 12) (va_Pc [.ref (g_ad G 0), .int p1, .int p2, .ref (g_ad G 161)] (g_PL G ids (x, y, o))) (g_Qi G ids q.1 (q.2.1, y, q.2.2)) 2 12 (g_A G) := by
  unfold f_L_hearWord at h
  obtain ⟨r, hr, h⟩ := Option.bind_eq_some_iff.mp h
  refine g_entryL (by decide) (Nat.le_of_ble_eq_true rfl) (fun p e s m args below meth c ls C0 hl hW hnc htab => ?_)
  have hl : lv_has ls 5 [(0, .ref (g_ad G 0)), (1, .int p1), (2, .int p2), (3, .ref (g_ad G 161))] := hl
  refine lv_aload_n C0.hx C0.hb dL_hearWord_0 rfl (lv_at hl 3 rfl) ?_
  refine lv_iconst (v := (0 : Int32)) C0.hx C0.hb dL_hearWord_1 (by decide) ?_
  refine lv_aload_n C0.hx C0.hb dL_hearWord_2 rfl (lv_at hl 0 rfl) ?_
  refine lv_iload_n C0.hx C0.hb dL_hearWord_3 rfl (lv_at hl 1 rfl) ?_
  refine lv_iload_n C0.hx C0.hb dL_hearWord_4 rfl (lv_at hl 2 rfl) ?_
  refine vx_calli (g_xrunV (As := [.int p1, .int p2]) (rest := [.int (0 : Int32), .ref (g_ad G 161)]) C0 hW (c_X12_hearWord hfl hr) (g_cwG (n := 2) tc_X12_hearWord tn_X12 md_X12_hearWord (by decide) (by omega) (by decide) (by decide)) tm_L_78 ti_X12_hearWord ts_X12_hearWord (C0.mem (i := 0) (Nat.le_of_ble_eq_true rfl)) (g_c1 k_0) rfl rfl hl.1 rfl (Nat.le_of_ble_eq_true rfl) dL_hearWord_5) hW.2.2 (fun q _ h => h) (fun q h => h) (fun q _ h => h) (fun E ce q9 u t H1 locs1 ht hvm hp hB hz hk hS hc hv hcl => ?_) (fun x1 u t H1 locs1 ht hvm hp hB hz hk hS => ?_)
  · obtain ⟨rfl, hB⟩ := hB
    have hp : r = Sum.inl u := hp
    subst ht
    subst hp
    have hW : g_W G ids (x, y, o) s.heap t.heap locs1 := ⟨hB.1, hB.2, hS⟩
    by_cases hu : u = 3
    · replace h := (if_pos hu).symm.trans h
      subst hu
      obtain rfl := Option.some.inj h
      refine vx_catch (E := g_ex 3) (name := g_IOB) C0.hown [] ⟨0, 10, 13, 24⟩ [⟨0, 10, 17, 19⟩] (htab.trans rfl) (fun z hz => by cases hz) (by decide) (by decide) (C0.hts _ tl_L_24) (C0.hN _ g_tk3) hc hv hcl ?_
      refine lv_astore (lv' := [(4, .ref q9), (0, .ref (g_ad G 0)), (1, .int p1), (2, .int p2), (3, .ref (g_ad G 161))]) C0.hx C0.hb dL_hearWord_13 hl (by decide) rfl (fun ls hl => ?_)
      refine lv_iconst (v := (1 : Int32)) C0.hx C0.hb dL_hearWord_15 (by decide) ?_
      refine W.widen (k := 2) (n := 12) (by decide) (by decide) ?_
      exact g_iret C0 hW rfl rfl rfl dL_hearWord_16
    · replace h := (if_neg hu).symm.trans h
      by_cases hu : u = 2
      · replace h := (if_pos hu).symm.trans h
        subst hu
        obtain rfl := Option.some.inj h
        refine vx_catch (E := g_ex 2) (name := g_IAE) C0.hown [⟨0, 10, 13, 24⟩] ⟨0, 10, 17, 19⟩ [] (htab.trans rfl) (fun z hz => by rcases List.mem_singleton.mp hz with rfl; exact Or.inr ⟨by decide, g_IOB, C0.hts _ tl_L_24, hnc.2.2⟩) (by decide) (by decide) (C0.hts _ tl_L_19) (C0.hN _ g_tk2) hc hv hcl ?_
        refine lv_astore (lv' := [(4, .ref q9), (0, .ref (g_ad G 0)), (1, .int p1), (2, .int p2), (3, .ref (g_ad G 161))]) C0.hx C0.hb dL_hearWord_17 hl (by decide) rfl (fun ls hl => ?_)
        refine lv_iconst (v := (2 : Int32)) C0.hx C0.hb dL_hearWord_19 (by decide) ?_
        refine W.widen (k := 2) (n := 12) (by decide) (by decide) ?_
        exact g_iret C0 hW rfl rfl rfl dL_hearWord_20
      · replace h := (if_neg hu).symm.trans h
        cases h
  · have hp : r = Sum.inr (x1, u) := hp
    subst hp
    subst ht
    have hW : g_W G ids (u, y, o) s.heap t.heap locs1 := ⟨hB.1, hB.2, hS⟩
    obtain rfl := Option.some.inj h
    refine lv_i2l C0.hx C0.hb dL_hearWord_8 rfl ?_
    refine gs_38 C0 hW h161 k_161 (j := (0 : Int32)) (v := x1) (by decide) dL_hearWord_9 (fun H locs hW => ?_)
    refine lv_goto (tgt := 21) C0.hx C0.hb dL_hearWord_10 (by decide) ?_
    refine lv_iconst (v := (0 : Int32)) C0.hx C0.hb dL_hearWord_21 (by decide) ?_
    refine W.widen (k := 2) (n := 12) (by decide) (by decide) ?_
    exact g_iret C0 hW rfl rfl rfl dL_hearWord_22
def f_L_turnPruned (p1 : Int32) (x : CS) (o : Nat → Int32) : Option (Int32 × CS × (Nat → Int32)) :=
  (f_X12_turnPruned p1 x).bind fun r => match r with
    | .inl u => if u = 3 then some (1, x, o) else none
    | .inr q1 => some (0, q1.2, upd o 0 (if q1.1 = 0 then 0 else 1))
set_option maxRecDepth 100000 in
set_option maxHeartbeats 4000000 in
theorem c_L_turnPruned {l : Launch} {G : GL} {ids : List Nat} {x : CS} {y : MS} {o : Nat → Int32} {p1 : Int32} {q : Int32 × CS × (Nat → Int32)} (hfl : l.stackTraces = false) (h161 : 161 ∈ ids) (h : f_L_turnPruned p1 x o = some q) : Met l yL_turnPruned (.codeWith yL_turnPruned cL_turnPruned 4 (Option.some Jvm.ClassFile.FieldType.int) [((0 : Nat), (16 : Nat), (19 : Nat), (24 : Nat))] :: gT) (g_rm 8 1 6) (va_Pc [.ref (g_ad G 0), .int p1, .ref (g_ad G 161)] (g_PL G ids (x, y, o))) (g_Qi G ids q.1 (q.2.1, y, q.2.2)) 1 6 (g_A G) := by
  unfold f_L_turnPruned at h
  obtain ⟨r, hr, h⟩ := Option.bind_eq_some_iff.mp h
  refine g_entryL (by decide) (Nat.le_of_ble_eq_true rfl) (fun p e s m args below meth c ls C0 hl hW hnc htab => ?_)
  have hl : lv_has ls 4 [(0, .ref (g_ad G 0)), (1, .int p1), (2, .ref (g_ad G 161))] := hl
  refine lv_aload_n C0.hx C0.hb dL_turnPruned_0 rfl (lv_at hl 2 rfl) ?_
  refine lv_iconst (v := (0 : Int32)) C0.hx C0.hb dL_turnPruned_1 (by decide) ?_
  refine lv_aload_n C0.hx C0.hb dL_turnPruned_2 rfl (lv_at hl 0 rfl) ?_
  refine lv_iload_n C0.hx C0.hb dL_turnPruned_3 rfl (lv_at hl 1 rfl) ?_
  refine vx_calli (g_xrunV (As := [.int p1]) (rest := [.int (0 : Int32), .ref (g_ad G 161)]) C0 hW (c_X12_turnPruned hfl hr) (g_cwG (n := 1) tc_X12_turnPruned tn_X12 md_X12_turnPruned (by decide) (by omega) (by decide) (by decide)) tm_L_81 ti_X12_turnPruned ts_X12_turnPruned (C0.mem (i := 0) (Nat.le_of_ble_eq_true rfl)) (g_c1 k_0) rfl rfl hl.1 rfl (Nat.le_of_ble_eq_true rfl) dL_turnPruned_4) hW.2.2 (fun q _ h => h) (fun q h => h) (fun q _ h => h) (fun E ce q9 u t H1 locs1 ht hvm hp hB hz hk hS hc hv hcl => ?_) (fun x1 u t H1 locs1 ht hvm hp hB hz hk hS => ?_)
  · obtain ⟨rfl, hB⟩ := hB
    have hp : r = Sum.inl u := hp
    subst ht
    subst hp
    have hW : g_W G ids (x, y, o) s.heap t.heap locs1 := ⟨hB.1, hB.2, hS⟩
    by_cases hu : u = 3
    · replace h := (if_pos hu).symm.trans h
      subst hu
      obtain rfl := Option.some.inj h
      refine vx_catch (E := g_ex 3) (name := g_IOB) C0.hown [] ⟨0, 16, 19, 24⟩ [] (htab.trans rfl) (fun z hz => by cases hz) (by decide) (by decide) (C0.hts _ tl_L_24) (C0.hN _ g_tk3) hc hv hcl ?_
      refine lv_astore_n (lv' := [(3, .ref q9), (0, .ref (g_ad G 0)), (1, .int p1), (2, .ref (g_ad G 161))]) C0.hx C0.hb dL_turnPruned_19 rfl hl (by decide) rfl (fun ls hl => ?_)
      refine lv_iconst (v := (1 : Int32)) C0.hx C0.hb dL_turnPruned_20 (by decide) ?_
      refine W.widen (k := 1) (n := 6) (by decide) (by decide) ?_
      exact g_iret C0 hW rfl rfl rfl dL_turnPruned_21
    · replace h := (if_neg hu).symm.trans h
      cases h
  · have hp : r = Sum.inr (x1, u) := hp
    subst hp
    subst ht
    have hW : g_W G ids (u, y, o) s.heap t.heap locs1 := ⟨hB.1, hB.2, hS⟩
    obtain rfl := Option.some.inj h
    refine lv_if_eq (tgt := 14) C0.hx C0.hb dL_turnPruned_7 (by decide) (fun hc1 => ?_) (fun hc1 => ?_)
    · have e9 : (if x1 = 0 then (0 : Int32) else 1) = 0 := if_pos hc1
      show W p l e _ s m args below meth c _ _ _ _ (MQ below (g_Qi G ids 0 (u, y, upd o 0 (if x1 = 0 then 0 else 1))) args s 1 6 (g_A G)) _
      rw [e9]
      refine lv_lconst (v := (0 : Int64)) C0.hx C0.hb dL_turnPruned_14 (by decide) ?_
      refine gs_38 C0 hW h161 k_161 (j := (0 : Int32)) (v := (0 : Int32)) (by decide) dL_turnPruned_15 (fun H locs hW => ?_)
      refine lv_goto (tgt := 22) C0.hx C0.hb dL_turnPruned_16 (by decide) ?_
      refine lv_iconst (v := (0 : Int32)) C0.hx C0.hb dL_turnPruned_22 (by decide) ?_
      refine W.widen (k := 1) (n := 6) (by decide) (by decide) ?_
      exact g_iret C0 hW rfl rfl rfl dL_turnPruned_23
    · have e9 : (if x1 = 0 then (0 : Int32) else 1) = 1 := if_neg hc1
      show W p l e _ s m args below meth c _ _ _ _ (MQ below (g_Qi G ids 0 (u, y, upd o 0 (if x1 = 0 then 0 else 1))) args s 1 6 (g_A G)) _
      rw [e9]
      refine lv_lconst (v := (1 : Int64)) C0.hx C0.hb dL_turnPruned_10 (by decide) ?_
      refine lv_goto (tgt := 15) C0.hx C0.hb dL_turnPruned_11 (by decide) ?_
      refine gs_38 C0 hW h161 k_161 (j := (0 : Int32)) (v := (1 : Int32)) (by decide) dL_turnPruned_15 (fun H locs hW => ?_)
      refine lv_goto (tgt := 22) C0.hx C0.hb dL_turnPruned_16 (by decide) ?_
      refine lv_iconst (v := (0 : Int32)) C0.hx C0.hb dL_turnPruned_22 (by decide) ?_
      refine W.widen (k := 1) (n := 6) (by decide) (by decide) ?_
      exact g_iret C0 hW rfl rfl rfl dL_turnPruned_23
def f_L_passLessons (p1 : Int32) (x : CS) (o : Nat → Int32) : Option (Int32 × CS × (Nat → Int32)) :=
  (f_X12_passLessons p1 x).bind fun r => match r with
    | .inl u => if u = 2 then some (1, x, o) else none
    | .inr q1 => some (0, q1.2, upd o 0 q1.1)
set_option maxRecDepth 100000 in
set_option maxHeartbeats 4000000 in
theorem c_L_passLessons {l : Launch} {G : GL} {ids : List Nat} {x : CS} {y : MS} {o : Nat → Int32} {p1 : Int32} {q : Int32 × CS × (Nat → Int32)} (hfl : l.stackTraces = false) (h161 : 161 ∈ ids) (h : f_L_passLessons p1 x o = some q) : Met l yL_passLessons (.codeWith yL_passLessons cL_passLessons 4 (Option.some Jvm.ClassFile.FieldType.int) [((0 : Nat), (9 : Nat), (12 : Nat), (19 : Nat))] :: gT) (g_rm 8 1 6) (va_Pc [.ref (g_ad G 0), .int p1, .ref (g_ad G 161)] (g_PL G ids (x, y, o))) (g_Qi G ids q.1 (q.2.1, y, q.2.2)) 1 6 (g_A G) := by
  unfold f_L_passLessons at h
  obtain ⟨r, hr, h⟩ := Option.bind_eq_some_iff.mp h
  refine g_entryL (by decide) (Nat.le_of_ble_eq_true rfl) (fun p e s m args below meth c ls C0 hl hW hnc htab => ?_)
  have hl : lv_has ls 4 [(0, .ref (g_ad G 0)), (1, .int p1), (2, .ref (g_ad G 161))] := hl
  refine lv_aload_n C0.hx C0.hb dL_passLessons_0 rfl (lv_at hl 2 rfl) ?_
  refine lv_iconst (v := (0 : Int32)) C0.hx C0.hb dL_passLessons_1 (by decide) ?_
  refine lv_aload_n C0.hx C0.hb dL_passLessons_2 rfl (lv_at hl 0 rfl) ?_
  refine lv_iload_n C0.hx C0.hb dL_passLessons_3 rfl (lv_at hl 1 rfl) ?_
  refine vx_calli (g_xrunV (As := [.int p1]) (rest := [.int (0 : Int32), .ref (g_ad G 161)]) C0 hW (c_X12_passLessons hfl hr) (g_cwG (n := 1) tc_X12_passLessons tn_X12 md_X12_passLessons (by decide) (by omega) (by decide) (by decide)) tm_L_84 ti_X12_passLessons ts_X12_passLessons (C0.mem (i := 0) (Nat.le_of_ble_eq_true rfl)) (g_c1 k_0) rfl rfl hl.1 rfl (Nat.le_of_ble_eq_true rfl) dL_passLessons_4) hW.2.2 (fun q _ h => h) (fun q h => h) (fun q _ h => h) (fun E ce q9 u t H1 locs1 ht hvm hp hB hz hk hS hc hv hcl => ?_) (fun x1 u t H1 locs1 ht hvm hp hB hz hk hS => ?_)
  · obtain ⟨rfl, hB⟩ := hB
    have hp : r = Sum.inl u := hp
    subst ht
    subst hp
    have hW : g_W G ids (x, y, o) s.heap t.heap locs1 := ⟨hB.1, hB.2, hS⟩
    by_cases hu : u = 2
    · replace h := (if_pos hu).symm.trans h
      subst hu
      obtain rfl := Option.some.inj h
      refine vx_catch (E := g_ex 2) (name := g_IAE) C0.hown [] ⟨0, 9, 12, 19⟩ [] (htab.trans rfl) (fun z hz => by cases hz) (by decide) (by decide) (C0.hts _ tl_L_19) (C0.hN _ g_tk2) hc hv hcl ?_
      refine lv_astore_n (lv' := [(3, .ref q9), (0, .ref (g_ad G 0)), (1, .int p1), (2, .ref (g_ad G 161))]) C0.hx C0.hb dL_passLessons_12 rfl hl (by decide) rfl (fun ls hl => ?_)
      refine lv_iconst (v := (1 : Int32)) C0.hx C0.hb dL_passLessons_13 (by decide) ?_
      refine W.widen (k := 1) (n := 6) (by decide) (by decide) ?_
      exact g_iret C0 hW rfl rfl rfl dL_passLessons_14
    · replace h := (if_neg hu).symm.trans h
      cases h
  · have hp : r = Sum.inr (x1, u) := hp
    subst hp
    subst ht
    have hW : g_W G ids (u, y, o) s.heap t.heap locs1 := ⟨hB.1, hB.2, hS⟩
    obtain rfl := Option.some.inj h
    refine lv_i2l C0.hx C0.hb dL_passLessons_7 rfl ?_
    refine gs_38 C0 hW h161 k_161 (j := (0 : Int32)) (v := x1) (by decide) dL_passLessons_8 (fun H locs hW => ?_)
    refine lv_goto (tgt := 15) C0.hx C0.hb dL_passLessons_9 (by decide) ?_
    refine lv_iconst (v := (0 : Int32)) C0.hx C0.hb dL_passLessons_15 (by decide) ?_
    refine W.widen (k := 1) (n := 6) (by decide) (by decide) ?_
    exact g_iret C0 hW rfl rfl rfl dL_passLessons_16
def f_L_keptAfter (p1 : Int32) (x : CS) (o : Nat → Int32) : Option (Int32 × CS × (Nat → Int32)) :=
  (f_X12_keptAfter p1 x).bind fun r => match r with
    | .inl u => if u = 2 then some (1, x, o) else none
    | .inr q1 => some (0, q1.2, upd o 0 q1.1)
set_option maxRecDepth 100000 in
set_option maxHeartbeats 4000000 in
theorem c_L_keptAfter {l : Launch} {G : GL} {ids : List Nat} {x : CS} {y : MS} {o : Nat → Int32} {p1 : Int32} {q : Int32 × CS × (Nat → Int32)} (hfl : l.stackTraces = false) (h161 : 161 ∈ ids) (h : f_L_keptAfter p1 x o = some q) : Met l yL_keptAfter (.codeWith yL_keptAfter cL_keptAfter 4 (Option.some Jvm.ClassFile.FieldType.int) [((0 : Nat), (9 : Nat), (12 : Nat), (19 : Nat))] :: gT) (g_rm 8 1 6) (va_Pc [.ref (g_ad G 0), .int p1, .ref (g_ad G 161)] (g_PL G ids (x, y, o))) (g_Qi G ids q.1 (q.2.1, y, q.2.2)) 1 6 (g_A G) := by
  unfold f_L_keptAfter at h
  obtain ⟨r, hr, h⟩ := Option.bind_eq_some_iff.mp h
  refine g_entryL (by decide) (Nat.le_of_ble_eq_true rfl) (fun p e s m args below meth c ls C0 hl hW hnc htab => ?_)
  have hl : lv_has ls 4 [(0, .ref (g_ad G 0)), (1, .int p1), (2, .ref (g_ad G 161))] := hl
  refine lv_aload_n C0.hx C0.hb dL_keptAfter_0 rfl (lv_at hl 2 rfl) ?_
  refine lv_iconst (v := (0 : Int32)) C0.hx C0.hb dL_keptAfter_1 (by decide) ?_
  refine lv_aload_n C0.hx C0.hb dL_keptAfter_2 rfl (lv_at hl 0 rfl) ?_
  refine lv_iload_n C0.hx C0.hb dL_keptAfter_3 rfl (lv_at hl 1 rfl) ?_
  refine vx_calli (g_xrunV (As := [.int p1]) (rest := [.int (0 : Int32), .ref (g_ad G 161)]) C0 hW (c_X12_keptAfter hfl hr) (g_cwG (n := 1) tc_X12_keptAfter tn_X12 md_X12_keptAfter (by decide) (by omega) (by decide) (by decide)) tm_L_87 ti_X12_keptAfter ts_X12_keptAfter (C0.mem (i := 0) (Nat.le_of_ble_eq_true rfl)) (g_c1 k_0) rfl rfl hl.1 rfl (Nat.le_of_ble_eq_true rfl) dL_keptAfter_4) hW.2.2 (fun q _ h => h) (fun q h => h) (fun q _ h => h) (fun E ce q9 u t H1 locs1 ht hvm hp hB hz hk hS hc hv hcl => ?_) (fun x1 u t H1 locs1 ht hvm hp hB hz hk hS => ?_)
  · obtain ⟨rfl, hB⟩ := hB
    have hp : r = Sum.inl u := hp
    subst ht
    subst hp
    have hW : g_W G ids (x, y, o) s.heap t.heap locs1 := ⟨hB.1, hB.2, hS⟩
    by_cases hu : u = 2
    · replace h := (if_pos hu).symm.trans h
      subst hu
      obtain rfl := Option.some.inj h
      refine vx_catch (E := g_ex 2) (name := g_IAE) C0.hown [] ⟨0, 9, 12, 19⟩ [] (htab.trans rfl) (fun z hz => by cases hz) (by decide) (by decide) (C0.hts _ tl_L_19) (C0.hN _ g_tk2) hc hv hcl ?_
      refine lv_astore_n (lv' := [(3, .ref q9), (0, .ref (g_ad G 0)), (1, .int p1), (2, .ref (g_ad G 161))]) C0.hx C0.hb dL_keptAfter_12 rfl hl (by decide) rfl (fun ls hl => ?_)
      refine lv_iconst (v := (1 : Int32)) C0.hx C0.hb dL_keptAfter_13 (by decide) ?_
      refine W.widen (k := 1) (n := 6) (by decide) (by decide) ?_
      exact g_iret C0 hW rfl rfl rfl dL_keptAfter_14
    · replace h := (if_neg hu).symm.trans h
      cases h
  · have hp : r = Sum.inr (x1, u) := hp
    subst hp
    subst ht
    have hW : g_W G ids (u, y, o) s.heap t.heap locs1 := ⟨hB.1, hB.2, hS⟩
    obtain rfl := Option.some.inj h
    refine lv_i2l C0.hx C0.hb dL_keptAfter_7 rfl ?_
    refine gs_38 C0 hW h161 k_161 (j := (0 : Int32)) (v := x1) (by decide) dL_keptAfter_8 (fun H locs hW => ?_)
    refine lv_goto (tgt := 15) C0.hx C0.hb dL_keptAfter_9 (by decide) ?_
    refine lv_iconst (v := (0 : Int32)) C0.hx C0.hb dL_keptAfter_15 (by decide) ?_
    refine W.widen (k := 1) (n := 6) (by decide) (by decide) ?_
    exact g_iret C0 hW rfl rfl rfl dL_keptAfter_16
def f_L_lessonsUntilMeant (p1 : Int32) (x : CS) (o : Nat → Int32) : Option (Int32 × CS × (Nat → Int32)) :=
  (f_X12_lessonsUntilMeant p1 x).bind fun r => match r with
    | .inl u => if u = 3 then some (1, x, o) else none
    | .inr q1 => some (0, q1.2, upd o 0 q1.1)
set_option maxRecDepth 100000 in
set_option maxHeartbeats 4000000 in
theorem c_L_lessonsUntilMeant {l : Launch} {G : GL} {ids : List Nat} {x : CS} {y : MS} {o : Nat → Int32} {p1 : Int32} {q : Int32 × CS × (Nat → Int32)} (hfl : l.stackTraces = false) (h161 : 161 ∈ ids) (h : f_L_lessonsUntilMeant p1 x o = some q) : Met l yL_lessonsUntilMeant (.codeWith yL_lessonsUntilMeant cL_lessonsUntilMeant 4 (Option.some Jvm.ClassFile.FieldType.int) [((0 : Nat), (9 : Nat), (12 : Nat), (24 : Nat))] :: gT) (g_rm 8 1 6) (va_Pc [.ref (g_ad G 0), .int p1, .ref (g_ad G 161)] (g_PL G ids (x, y, o))) (g_Qi G ids q.1 (q.2.1, y, q.2.2)) 1 6 (g_A G) := by
  unfold f_L_lessonsUntilMeant at h
  obtain ⟨r, hr, h⟩ := Option.bind_eq_some_iff.mp h
  refine g_entryL (by decide) (Nat.le_of_ble_eq_true rfl) (fun p e s m args below meth c ls C0 hl hW hnc htab => ?_)
  have hl : lv_has ls 4 [(0, .ref (g_ad G 0)), (1, .int p1), (2, .ref (g_ad G 161))] := hl
  refine lv_aload_n C0.hx C0.hb dL_lessonsUntilMeant_0 rfl (lv_at hl 2 rfl) ?_
  refine lv_iconst (v := (0 : Int32)) C0.hx C0.hb dL_lessonsUntilMeant_1 (by decide) ?_
  refine lv_aload_n C0.hx C0.hb dL_lessonsUntilMeant_2 rfl (lv_at hl 0 rfl) ?_
  refine lv_iload_n C0.hx C0.hb dL_lessonsUntilMeant_3 rfl (lv_at hl 1 rfl) ?_
  refine vx_calli (g_xrunV (As := [.int p1]) (rest := [.int (0 : Int32), .ref (g_ad G 161)]) C0 hW (c_X12_lessonsUntilMeant hfl hr) (g_cwG (n := 1) tc_X12_lessonsUntilMeant tn_X12 md_X12_lessonsUntilMeant (by decide) (by omega) (by decide) (by decide)) tm_L_90 ti_X12_lessonsUntilMeant ts_X12_lessonsUntilMeant (C0.mem (i := 0) (Nat.le_of_ble_eq_true rfl)) (g_c1 k_0) rfl rfl hl.1 rfl (Nat.le_of_ble_eq_true rfl) dL_lessonsUntilMeant_4) hW.2.2 (fun q _ h => h) (fun q h => h) (fun q _ h => h) (fun E ce q9 u t H1 locs1 ht hvm hp hB hz hk hS hc hv hcl => ?_) (fun x1 u t H1 locs1 ht hvm hp hB hz hk hS => ?_)
  · obtain ⟨rfl, hB⟩ := hB
    have hp : r = Sum.inl u := hp
    subst ht
    subst hp
    have hW : g_W G ids (x, y, o) s.heap t.heap locs1 := ⟨hB.1, hB.2, hS⟩
    by_cases hu : u = 3
    · replace h := (if_pos hu).symm.trans h
      subst hu
      obtain rfl := Option.some.inj h
      refine vx_catch (E := g_ex 3) (name := g_IOB) C0.hown [] ⟨0, 9, 12, 24⟩ [] (htab.trans rfl) (fun z hz => by cases hz) (by decide) (by decide) (C0.hts _ tl_L_24) (C0.hN _ g_tk3) hc hv hcl ?_
      refine lv_astore_n (lv' := [(3, .ref q9), (0, .ref (g_ad G 0)), (1, .int p1), (2, .ref (g_ad G 161))]) C0.hx C0.hb dL_lessonsUntilMeant_12 rfl hl (by decide) rfl (fun ls hl => ?_)
      refine lv_iconst (v := (1 : Int32)) C0.hx C0.hb dL_lessonsUntilMeant_13 (by decide) ?_
      refine W.widen (k := 1) (n := 6) (by decide) (by decide) ?_
      exact g_iret C0 hW rfl rfl rfl dL_lessonsUntilMeant_14
    · replace h := (if_neg hu).symm.trans h
      cases h
  · have hp : r = Sum.inr (x1, u) := hp
    subst hp
    subst ht
    have hW : g_W G ids (u, y, o) s.heap t.heap locs1 := ⟨hB.1, hB.2, hS⟩
    obtain rfl := Option.some.inj h
    refine lv_i2l C0.hx C0.hb dL_lessonsUntilMeant_7 rfl ?_
    refine gs_38 C0 hW h161 k_161 (j := (0 : Int32)) (v := x1) (by decide) dL_lessonsUntilMeant_8 (fun H locs hW => ?_)
    refine lv_goto (tgt := 15) C0.hx C0.hb dL_lessonsUntilMeant_9 (by decide) ?_
    refine lv_iconst (v := (0 : Int32)) C0.hx C0.hb dL_lessonsUntilMeant_15 (by decide) ?_
    refine W.widen (k := 1) (n := 6) (by decide) (by decide) ?_
    exact g_iret C0 hW rfl rfl rfl dL_lessonsUntilMeant_16
def f_L_bestShift (p1 : Int32) (x : CS) (o : Nat → Int32) : Option (Int32 × CS × (Nat → Int32)) :=
  (f_X12_bestShift p1 x).bind fun r => match r with
    | .inl u => if u = 3 then some (1, x, o) else if u = 1 then some (2, x, o) else none
    | .inr q1 => some (0, q1.2, upd o 0 q1.1)
set_option maxRecDepth 100000 in
set_option maxHeartbeats 4000000 in
theorem c_L_bestShift {l : Launch} {G : GL} {ids : List Nat} {x : CS} {y : MS} {o : Nat → Int32} {p1 : Int32} {q : Int32 × CS × (Nat → Int32)} (hfl : l.stackTraces = false) (h161 : 161 ∈ ids) (h : f_L_bestShift p1 x o = some q) : Met l yL_bestShift (.codeWith yL_bestShift cL_bestShift 4 (Option.some Jvm.ClassFile.FieldType.int) [((0 : Nat), (9 : Nat), (12 : Nat), (24 : Nat)), ((0 : Nat), (9 : Nat), (15 : Nat), (13 : Nat))] :: gT) (g_rm 8 2 12) (va_Pc [.ref (g_ad G 0), .int p1, .ref (g_ad G 161)] (g_PL G ids (x, y, o))) (g_Qi G ids q.1 (q.2.1, y, q.2.2)) 2 12 (g_A G) := by
  unfold f_L_bestShift at h
  obtain ⟨r, hr, h⟩ := Option.bind_eq_some_iff.mp h
  refine g_entryL (by decide) (Nat.le_of_ble_eq_true rfl) (fun p e s m args below meth c ls C0 hl hW hnc htab => ?_)
  have hl : lv_has ls 4 [(0, .ref (g_ad G 0)), (1, .int p1), (2, .ref (g_ad G 161))] := hl
  refine lv_aload_n C0.hx C0.hb dL_bestShift_0 rfl (lv_at hl 2 rfl) ?_
  refine lv_iconst (v := (0 : Int32)) C0.hx C0.hb dL_bestShift_1 (by decide) ?_
  refine lv_aload_n C0.hx C0.hb dL_bestShift_2 rfl (lv_at hl 0 rfl) ?_
  refine lv_iload_n C0.hx C0.hb dL_bestShift_3 rfl (lv_at hl 1 rfl) ?_
  refine vx_calli (g_xrunV (As := [.int p1]) (rest := [.int (0 : Int32), .ref (g_ad G 161)]) C0 hW (c_X12_bestShift hfl hr) (g_cwG (n := 1) tc_X12_bestShift tn_X12 md_X12_bestShift (by decide) (by omega) (by decide) (by decide)) tm_L_93 ti_X12_bestShift ts_X12_bestShift (C0.mem (i := 0) (Nat.le_of_ble_eq_true rfl)) (g_c1 k_0) rfl rfl hl.1 rfl (Nat.le_of_ble_eq_true rfl) dL_bestShift_4) hW.2.2 (fun q _ h => h) (fun q h => h) (fun q _ h => h) (fun E ce q9 u t H1 locs1 ht hvm hp hB hz hk hS hc hv hcl => ?_) (fun x1 u t H1 locs1 ht hvm hp hB hz hk hS => ?_)
  · obtain ⟨rfl, hB⟩ := hB
    have hp : r = Sum.inl u := hp
    subst ht
    subst hp
    have hW : g_W G ids (x, y, o) s.heap t.heap locs1 := ⟨hB.1, hB.2, hS⟩
    by_cases hu : u = 3
    · replace h := (if_pos hu).symm.trans h
      subst hu
      obtain rfl := Option.some.inj h
      refine vx_catch (E := g_ex 3) (name := g_IOB) C0.hown [] ⟨0, 9, 12, 24⟩ [⟨0, 9, 15, 13⟩] (htab.trans rfl) (fun z hz => by cases hz) (by decide) (by decide) (C0.hts _ tl_L_24) (C0.hN _ g_tk3) hc hv hcl ?_
      refine lv_astore_n (lv' := [(3, .ref q9), (0, .ref (g_ad G 0)), (1, .int p1), (2, .ref (g_ad G 161))]) C0.hx C0.hb dL_bestShift_12 rfl hl (by decide) rfl (fun ls hl => ?_)
      refine lv_iconst (v := (1 : Int32)) C0.hx C0.hb dL_bestShift_13 (by decide) ?_
      refine W.widen (k := 2) (n := 12) (by decide) (by decide) ?_
      exact g_iret C0 hW rfl rfl rfl dL_bestShift_14
    · replace h := (if_neg hu).symm.trans h
      by_cases hu : u = 1
      · replace h := (if_pos hu).symm.trans h
        subst hu
        obtain rfl := Option.some.inj h
        refine vx_catch (E := g_ex 1) (name := g_ISE) C0.hown [⟨0, 9, 12, 24⟩] ⟨0, 9, 15, 13⟩ [] (htab.trans rfl) (fun z hz => by rcases List.mem_singleton.mp hz with rfl; exact Or.inr ⟨by decide, g_IOB, C0.hts _ tl_L_24, hnc.1⟩) (by decide) (by decide) (C0.hts _ tl_L_13) (C0.hN _ g_tk1) hc hv hcl ?_
        refine lv_astore_n (lv' := [(3, .ref q9), (0, .ref (g_ad G 0)), (1, .int p1), (2, .ref (g_ad G 161))]) C0.hx C0.hb dL_bestShift_15 rfl hl (by decide) rfl (fun ls hl => ?_)
        refine lv_iconst (v := (2 : Int32)) C0.hx C0.hb dL_bestShift_16 (by decide) ?_
        refine W.widen (k := 2) (n := 12) (by decide) (by decide) ?_
        exact g_iret C0 hW rfl rfl rfl dL_bestShift_17
      · replace h := (if_neg hu).symm.trans h
        cases h
  · have hp : r = Sum.inr (x1, u) := hp
    subst hp
    subst ht
    have hW : g_W G ids (u, y, o) s.heap t.heap locs1 := ⟨hB.1, hB.2, hS⟩
    obtain rfl := Option.some.inj h
    refine lv_i2l C0.hx C0.hb dL_bestShift_7 rfl ?_
    refine gs_38 C0 hW h161 k_161 (j := (0 : Int32)) (v := x1) (by decide) dL_bestShift_8 (fun H locs hW => ?_)
    refine lv_goto (tgt := 18) C0.hx C0.hb dL_bestShift_9 (by decide) ?_
    refine lv_iconst (v := (0 : Int32)) C0.hx C0.hb dL_bestShift_18 (by decide) ?_
    refine W.widen (k := 2) (n := 12) (by decide) (by decide) ?_
    exact g_iret C0 hW rfl rfl rfl dL_bestShift_19
