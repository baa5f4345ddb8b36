/-! rows for the constants of the class files, and contracts of JDK methods that no program lays -/
def g_fill (f : Nat → Int32) (n : Nat) (v : Int32) : Nat → Int32 := fun k => if k < n then v else f k
def g_fuel : Nat := 4096
def g_nan (r : UInt64) : Bool := !decide (r &&& 0x7fffffffffffffff ≤ 0x7ff0000000000000)
theorem g_nanv {r : UInt64} (h : g_nan r = false) : vf_n64 r := by
  unfold g_nan at h
  simpa [vf_n64] using h
theorem g_ne {v c : Int32} {n : Int} (h : ¬ v = c) (hc : c.toInt = n) : ¬ v.toInt = n := fun e => h (Int32.toInt_inj.mp (e.trans hc.symm))
theorem md_J0_checkIndex_df160 : yJ0_checkIndex_df160.cls ≠ "java/lang/invoke/MethodHandle" ∧ yJ0_checkIndex_df160.cls ≠ "java/lang/invoke/VarHandle" ∧ (parseMethodDescriptor yJ0_checkIndex_df160.desc).map (fun d => d.parameters.length) = some 2 := by decide +kernel
theorem md_J7_fill_53178 : yJ7_fill_53178.cls ≠ "java/lang/invoke/MethodHandle" ∧ yJ7_fill_53178.cls ≠ "java/lang/invoke/VarHandle" ∧ (parseMethodDescriptor yJ7_fill_53178.desc).map (fun d => d.parameters.length) = some 2 := by decide +kernel
theorem tnat_copy : Cond.native ⟨"java/lang/System", "arraycopy", "(Ljava/lang/Object;ILjava/lang/Object;II)V"⟩ ∈ gT := g_mem6 (i := 113) (by decide +kernel) rfl
/-- a row copied into another one; a row filled -/
def g_fl (x : CS) (i n : Nat) (v : Int32) : CS := g_wa x i (g_fill (x.1 i) n v)
section GM
variable {p : Program} {l : Launch} {e : Env} {R : Room} {s : State} {m : MethodId} {args : Array Value} {below : List Frame} {meth : Method} {c : Code} {H : Heap} {locs : List Loc} {cells slots : Nat} {Q : State → Prop} {G : GL} {ids : List Nat} {S : SS} {cc : ByteArray} {nL pc : Nat} {own : String} {rt : Option FieldType} {ls : Array Slot} {rest : List Value} {idx : Nat}
theorem g_oklt {j : Int32} {n : Nat} (h : g_ok j n = true) (hn : n < 2 ^ 31) : j.toNatClampNeg < n := by
  obtain ⟨k, h1, h2⟩ := vp_in_of (g_okv h) hn
  rw [h2, nI_clamp (Nat.lt_trans h1 hn)]
  exact h1
theorem g_acmp_eq (C0 : g_X G ids p s m args meth c cc nL own rt) {a b tgt : Nat} {off : Int} (hdg : decode cc pc = .ok (.if_acmp .eq off, 3)) (ht : (pc : Int) + off = (tgt : Int)) (kt : a = b → W p l e R s m args below meth c H locs cells slots Q (F0 m tgt ls rest)) (kf : ¬ a = b → W p l e R s m args below meth c H locs cells slots Q (F0 m (pc + 3) ls rest)) : W p l e R s m args below meth c H locs cells slots Q (F0 m pc ls (.ref (g_sg G b) :: .ref (g_sg G a) :: rest)) :=
  lv_acmp_eq (rx := some (g_sg G a)) (ry := some (g_sg G b)) C0.hx C0.hb hdg ht (fun h => kt (C0.inj.mp (Option.some.inj h))) (fun h => kf (fun e => h (by rw [e])))
theorem g_acmp_ne (C0 : g_X G ids p s m args meth c cc nL own rt) {a b tgt : Nat} {off : Int} (hdg : decode cc pc = .ok (.if_acmp .ne off, 3)) (ht : (pc : Int) + off = (tgt : Int)) (kt : ¬ a = b → W p l e R s m args below meth c H locs cells slots Q (F0 m tgt ls rest)) (kf : a = b → W p l e R s m args below meth c H locs cells slots Q (F0 m (pc + 3) ls rest)) : W p l e R s m args below meth c H locs cells slots Q (F0 m pc ls (.ref (g_sg G b) :: .ref (g_sg G a) :: rest)) :=
  lv_acmp_ne (rx := some (g_sg G a)) (ry := some (g_sg G b)) C0.hx C0.hb hdg ht (fun h => kt (fun e => h (by rw [e]))) (fun h => kf (C0.inj.mp (Option.some.inj h)))
theorem g_sign (C0 : g_X G ids p s m args meth c cc nL own rt) (hW : g_W G ids S s.heap H locs) (k : Nat) (hk : k < 46) (hl : Cond.fieldLink own idx RX6 (g_nm.getD k "") "LGlideWhistles$Sign;" ∈ gT) (hdg : decode cc pc = .ok (.getstatic idx, 3)) (kk : W p l e R s m args below meth c H locs cells slots Q (F0 m (pc + 3) ls (.ref (g_sg G k) :: rest))) : W p l e R s m args below meth c H locs cells slots Q (F0 m pc ls rest) := g_gets C0 hW (C0.sign hk) hl hdg kk
theorem g_X.S2 (C0 : g_X G ids p s m args meth c cc nL own rt) : g_S2 G s s.heap := C0.hG.2.2.2.2.1
theorem g_X.S3 (C0 : g_X G ids p s m args meth c cc nL own rt) : g_S3 G s s.heap := C0.hG.2.2.2.2.2.1
theorem g_X.S4 (C0 : g_X G ids p s m args meth c cc nL own rt) : g_S4 G s s.heap := C0.hG.2.2.2.2.2.2.1
theorem g_SIGNS {host : String} (C0 : g_X G ids p s m args meth c cc nL own rt) (hW : g_W G ids S s.heap H locs) (hl : Cond.fieldLinkNest own idx RX12 "SIGNS" "[LGlideWhistles$Sign;" host ∈ gN) (hdg : decode cc pc = .ok (.getstatic idx, 3)) (kk : W p l e R s m args below meth c H locs cells slots Q (F0 m (pc + 3) ls (.ref (g_st G 0) :: rest))) : W p l e R s m args below meth c H locs cells slots Q (F0 m pc ls rest) := g_getsN C0 hW C0.S2.1.1 hl hdg kk
theorem g_SIGNSat (C0 : g_X G ids p s m args meth c cc nL own rt) (hW : g_W G ids S s.heap H locs) {j : Int32} (hj : g_ok j 46 = true) (hdg : decode cc pc = .ok (.aaload, 1)) (kk : W p l e R s m args below meth c H locs cells slots Q (F0 m (pc + 1) ls (.ref (g_sg G j.toNatClampNeg) :: rest))) : W p l e R s m args below meth c H locs cells slots Q (F0 m pc ls (.int j :: .ref (g_st G 0) :: rest)) := vb_tq C0.hx C0.hb C0.S2.1.2 hW.2.2 (g_okv hj) rfl hdg kk
theorem g_SIGNSlen (C0 : g_X G ids p s m args meth c cc nL own rt) (hW : g_W G ids S s.heap H locs) (hdg : decode cc pc = .ok (.arraylength, 1)) (kk : W p l e R s m args below meth c H locs cells slots Q (F0 m (pc + 1) ls (.int (46 : Int32) :: rest))) : W p l e R s m args below meth c H locs cells slots Q (F0 m pc ls (.ref (g_st G 0) :: rest)) := va_tlen C0.hx C0.hb C0.S2.1.2 hW.2.2 rfl hdg kk
theorem g_SM (C0 : g_X G ids p s m args meth c cc nL own rt) (hW : g_W G ids S s.heap H locs) (hl : Cond.fieldLink own idx RX0 "$SwitchMap$GlideWhistles$Sign" "[I" ∈ gT) (hdg : decode cc pc = .ok (.getstatic idx, 3)) (kk : W p l e R s m args below meth c H locs cells slots Q (F0 m (pc + 3) ls (.ref (g_st G 1) :: rest))) : W p l e R s m args below meth c H locs cells slots Q (F0 m pc ls rest) := g_gets C0 hW C0.S2.2.1.1 hl hdg kk
theorem g_SMat (C0 : g_X G ids p s m args meth c cc nL own rt) (hW : g_W G ids S s.heap H locs) {j : Int32} (hj : g_ok j 46 = true) (hdg : decode cc pc = .ok (.iaload, 1)) (kk : W p l e R s m args below meth c H locs cells slots Q (F0 m (pc + 1) ls (.int (g_sm.getD j.toNatClampNeg 0) :: rest))) : W p l e R s m args below meth c H locs cells slots Q (F0 m pc ls (.int j :: .ref (g_st G 1) :: rest)) := va_ti C0.hx C0.hb C0.S2.2.1.2 hW.2.2 (g_okv hj) rfl hdg kk
theorem g_text {host : String} (C0 : g_X G ids p s m args meth c cc nL own rt) (hW : g_W G ids S s.heap H locs) {k : Nat} (hk : k < 46) (hl : Cond.fieldLinkNest own idx RX6 "text" "Ljava/lang/String;" host ∈ gN) (hdg : decode cc pc = .ok (.getfield idx, 3)) (kk : W p l e R s m args below meth c H locs cells slots Q (F0 m (pc + 3) ls (.ref (g_sK G k) :: rest))) : W p l e R s m args below meth c H locs cells slots Q (F0 m pc ls (.ref (g_sg G k) :: rest)) := by
  obtain ⟨cf, kf, fi, f, cell, h1, h2, h3, h4, h5, h6⟩ := (C0.hG.2.2.2.1 k hk).2.2.2.kept hW.2.2.2.1
  exact va_Wgetf C0.hx C0.hb C0.hown (C0.nestB hl) h1 h2 h3 h4 (v := .ref (g_sK G k)) h5 rfl rfl hdg kk
theorem g_sval (C0 : g_X G ids p s m args meth c cc nL own rt) (hW : g_W G ids S s.heap H locs) {k : Nat} (hk : k < 93) (hl : Cond.fieldLink own idx "java/lang/String" "value" "[B" ∈ gT) (hdg : decode cc pc = .ok (.getfield idx, 3)) (kk : W p l e R s m args below meth c H locs cells slots Q (F0 m (pc + 3) ls (.ref (g_sV G k) :: rest))) : W p l e R s m args below meth c H locs cells slots Q (F0 m pc ls (.ref (g_sK G k) :: rest)) := vk_getf C0.hx C0.hb (C0.S3 k hk).2.2.1 hW.2.2 C0.hown (C0.hts _ hl) (fun _ h => h) hdg kk
theorem g_scod (C0 : g_X G ids p s m args meth c cc nL own rt) (hW : g_W G ids S s.heap H locs) {k : Nat} (hk : k < 93) (hl : Cond.fieldLink own idx "java/lang/String" "coder" "B" ∈ gT) (hdg : decode cc pc = .ok (.getfield idx, 3)) (kk : W p l e R s m args below meth c H locs cells slots Q (F0 m (pc + 3) ls (.int (0 : Int32) :: rest))) : W p l e R s m args below meth c H locs cells slots Q (F0 m pc ls (.ref (g_sK G k) :: rest)) := vk_getf C0.hx C0.hb (C0.S3 k hk).2.1 hW.2.2 C0.hown (C0.hts _ hl) (fun _ h => h) hdg kk
theorem g_slen (C0 : g_X G ids p s m args meth c cc nL own rt) (hW : g_W G ids S s.heap H locs) {k : Nat} (hk : k < 93) (hdg : decode cc pc = .ok (.arraylength, 1)) (kk : W p l e R s m args below meth c H locs cells slots Q (F0 m (pc + 1) ls (.int (nI (g_len.getD k 0)) :: rest))) : W p l e R s m args below meth c H locs cells slots Q (F0 m pc ls (.ref (g_sV G k) :: rest)) := va_tlen C0.hx C0.hb (C0.S3 k hk).2.2.2 hW.2.2 rfl hdg kk
theorem g_sat (C0 : g_X G ids p s m args meth c cc nL own rt) (hW : g_W G ids S s.heap H locs) {k : Nat} (hk : k < 93) {j : Int32} (hj : g_ok j (g_len.getD k 0) = true) (hdg : decode cc pc = .ok (.baload, 1)) (kk : W p l e R s m args below meth c H locs cells slots Q (F0 m (pc + 1) ls (.int ((g_byt.getD k []).getD j.toNatClampNeg 0) :: rest))) : W p l e R s m args below meth c H locs cells slots Q (F0 m pc ls (.int j :: .ref (g_sV G k) :: rest)) := va_tb C0.hx C0.hb (C0.S3 k hk).2.2.2 hW.2.2 (g_okv hj) rfl hdg kk
theorem g_compact (C0 : g_X G ids p s m args meth c cc nL own rt) (hW : g_W G ids S s.heap H locs) (hl : Cond.fieldLink own idx "java/lang/String" "COMPACT_STRINGS" "Z" ∈ gT) (hdg : decode cc pc = .ok (.getstatic idx, 3)) (kk : W p l e R s m args below meth c H locs cells slots Q (F0 m (pc + 3) ls (.int (1 : Int32) :: rest))) : W p l e R s m args below meth c H locs cells slots Q (F0 m pc ls rest) := g_gets C0 hW C0.S4.2.2.1 hl hdg kk
theorem g_srecv (C0 : g_X G ids p s m args meth c cc nL own rt) (hW : g_W G ids S s.heap H locs) {k : Nat} (hk : k < 93) : ∃ cell : Cell, H[g_sK G k]? = some cell ∧ cell.vm.isStatics = false ∧ s.vm.findClass "java/lang/String" = some cell.cls := va_Orecv (C0.S3 k hk).1 hW.2.2
variable {y : MethodName} {bytes : ByteArray} {maxL n mc ms : Nat} {ret : Option FieldType} {rm : Room} {As st0 : List Value} {b ci : Nat} {fs : List Value} {T : u_T} {N : Nat} {Qc : Array Value → State → Outcome → State → Prop}
theorem g_erecv (C0 : g_X G ids p s m args meth c cc nL own rt) (hW : g_W G ids S s.heap H locs) {k : Nat} (hk : k < 46) : ∃ cell : Cell, H[g_sg G k]? = some cell ∧ cell.vm.isStatics = false ∧ s.vm.findClass RX6 = some cell.cls := va_Orecv (C0.hG.2.2.2.1 k hk).2.1 hW.2.2
theorem g_runR (C0 : g_X G ids p s m args meth c cc nL own rt) (hW : g_W G ids S s.heap H locs) (hM : Met l y (.code y bytes maxL ret :: gT) rm (va_Pc (.ref b :: As) (g_P G ids S)) Qc mc ms (g_A G)) (cw : g_cw own idx y bytes maxL n ret rm R mc ms cells slots) (hl : .methodLink own idx y ∈ gT) (h2 : .instanceMethod y ∈ gT) (h3 : .selects y.cls y y ∈ gT) (hrecv : ∃ cell : Cell, H[b]? = some cell ∧ cell.vm.isStatics = false ∧ s.vm.findClass y.cls = some cell.cls) (hn : As.length = n) (hsz : ls.size = nL) (hst : st0 = As.reverse ++ .ref b :: rest) (hcat : (rest.map fun v => v.category).sum ≤ 8) (hdg : decode cc pc = .ok (.invokevirtual idx, 3)) : va_Run p l e R s m args below meth c H locs cells slots mc ms (F0 m pc ls st0) rest (Qc (Value.ref b :: As).toArray) (g_A G) := by
  obtain ⟨w1, w2, w3, w4, w5, w6, w7⟩ := cw
  exact va_runV (As := As) (rest := rest) C0.call hM (cwV n C0.hts (g_goodV hl h2 h3 w2 w1) rfl w3 w4 ⟨rfl, w5⟩ w6) ⟨g_blind, hrecv, fun U hU hw => ⟨rfl, g_pre C0 hW hU hw⟩⟩ rfl hn hsz hst (by simpa using hcat) hdg w7
theorem g_cwOf {k k1 : Nat} (h1 : .code y bytes maxL ret ∈ gT) (h2 : .initialized y.cls ∈ gT) (h3 : y.cls ≠ "java/lang/invoke/MethodHandle" ∧ y.cls ≠ "java/lang/invoke/VarHandle" ∧ (parseMethodDescriptor y.desc).map (fun d => d.parameters.length) = some n) (h4 : maxL ≤ 40) (h5 : k1 + 1 ≤ k) : g_cw own idx y bytes maxL n ret (g_rm k1 0 0) (g_rm k 0 0) 0 0 0 0 := by
  refine ⟨h1, h2, rfl, rfl, h3, ⟨h5, ?_⟩, Nat.le_refl _, Nat.le_refl _⟩
  show 8 + (maxL + 11) + 64 * k1 ≤ 64 * k
  omega
end GM
theorem tsm_ordinal : Cond.sameMethod "GlideWhistles$Sign" "java/lang/Enum" "ordinal" "()I" ∈ gT := g_mem3 (i := 129) (by decide +kernel) rfl
section GJ
variable {l : Launch} {G : GL} {ids : List Nat} {S : SS}
/-- Sign.ordinal() -/
theorem c_Jx29ce0_ordinal_8abf5 {k : Nat} (hk : k < 46) : Met l yJx29ce0_ordinal_8abf5 (.code yJx29ce0_ordinal_8abf5 cJx29ce0_ordinal_8abf5 1 (some .int) :: gT) (g_rm 0 0 0) (va_Pc [.ref (g_sg G k)] (g_P G ids S)) (g_Qi G ids (nI k) S) 0 0 (g_A G) := by
  refine g_entry (by decide) (Nat.le_of_ble_eq_true rfl) (fun p e s m args below meth c ls C0 hl hW _ => ?_)
  have hl : lv_has ls 1 [(0, .ref (g_sg G k))] := hl
  refine lv_aload_n C0.hx C0.hb dJx29ce0_ordinal_8abf5_0 rfl (lv_at hl 0 rfl) ?_
  refine vk_getf C0.hx C0.hb (C0.hG.2.2.2.1 k hk).2.2.1 hW.2.2 C0.hown (C0.hts _ tf_Jx29ce0_7) (fun _ h => h) dJx29ce0_ordinal_8abf5_1 ?_
  exact g_iret C0 hW rfl rfl rfl dJx29ce0_ordinal_8abf5_4
variable {p : Program} {e : Env} {R : Room} {s : State} {m : MethodId} {args : Array Value} {below : List Frame} {meth : Method} {c : Code} {H : Heap} {locs : List Loc} {cells slots : Nat} {Q : State → Prop} {cc : ByteArray} {nL pc : Nat} {own : String} {rt : Option FieldType} {ls : Array Slot} {rest : List Value} {idx : Nat}
theorem g_runO {k k1 k2 : Nat} (hR : R = g_rm k2 0 0) (h0 : 1 ≤ k2) (hz : cells = 0 ∧ slots = 0) (C0 : g_X G ids p s m args meth c cc nL own rt) (hW : g_W G ids S s.heap H locs) (hk : k < 46) (hl : .methodLink own idx ⟨"GlideWhistles$Sign", "ordinal", "()I"⟩ ∈ gT) (hsz : ls.size = nL) (hcat : (rest.map fun v => v.category).sum ≤ 8) (hdg : decode cc pc = .ok (.invokevirtual idx, 3)) (kk : ∀ (H1 : Heap) (locs1 : List Loc), g_W G ids S s.heap H1 locs1 → W p l e R s m args below meth c H1 locs1 cells slots Q (F0 m (pc + 3) ls (.int (nI k) :: rest))) : W p l e R s m args below meth c H locs cells slots Q (F0 m pc ls (.ref (g_sg G k) :: rest)) := by
  subst hR
  obtain ⟨rfl, rfl⟩ := hz
  have hG : GoodIn gT (va_wsU own idx RX6 "java/lang/Enum" ⟨"GlideWhistles$Sign", "ordinal", "()I"⟩ yJx29ce0_ordinal_8abf5 (.code yJx29ce0_ordinal_8abf5 cJx29ce0_ordinal_8abf5 1 (some .int) :: gT)) := fun v hv => by
    unfold va_wsU at hv
    simp only [List.cons_append, List.nil_append, List.mem_cons] at hv
    rcases hv with rfl | rfl | rfl | rfl | rfl | rfl | hv
    · exact g_goodT _ hl
    · exact g_goodT _ tsm_ordinal
    · exact g_goodT _ ts_Jx29ce0_ordinal_8abf5
    · exact g_goodT _ ti_Jx29ce0_ordinal_8abf5
    · exact g_goodT _ tn_Jx29ce0
    · exact g_goodT _ tc_Jx29ce0_ordinal_8abf5
    · exact g_goodT _ hv
  exact g_calli hW (va_runU (As := []) (rest := rest) C0.call (c_Jx29ce0_ordinal_8abf5 (l := l) (G := G) (ids := ids) (S := S) hk) (va_cwU 0 C0.hts hG rfl rfl rfl rfl (by decide +kernel) ⟨by show 0 + 1 ≤ k2; omega, by show 8 + (1 + 11) + 64 * 0 ≤ 64 * k2; omega⟩) ⟨g_blind, g_erecv C0 hW hk, fun U hU hw => ⟨rfl, g_pre C0 hW hU hw⟩⟩ rfl rfl hsz rfl (by simpa using hcat) hdg ⟨Nat.le_refl _, Nat.le_refl _⟩) kk
/-- Preconditions.checkIndex(i, n, ..), inside -/
theorem c_J3_checkIndex_8e157 {i n : Int32} {r : Option Nat} (h1 : ¬ i < 0) (h2 : i < n) : Met l yJ3_checkIndex_8e157 (.code yJ3_checkIndex_8e157 cJ3_checkIndex_8e157 3 (some .int) :: gT) (g_rm 0 0 0) (va_Pc [.int i, .int n, va_rf r] (g_P G ids S)) (g_Qi G ids i S) 0 0 (g_A G) := by
  refine g_entry (by decide) (by cases r <;> exact Nat.le_of_ble_eq_true rfl) (fun p e s m args below meth c ls C0 hl hW _ => ?_)
  have hl : lv_has ls 3 [(0, .int i), (1, .int n), (2, va_rf r)] := hl
  refine lv_iload_n C0.hx C0.hb dJ3_checkIndex_8e157_0 rfl (lv_at hl 0 rfl) ?_
  refine lv_if_lt (tgt := 9) C0.hx C0.hb dJ3_checkIndex_8e157_1 (by decide) (fun hc => absurd hc h1) (fun _ => ?_)
  refine lv_iload_n C0.hx C0.hb dJ3_checkIndex_8e157_4 rfl (lv_at hl 0 rfl) ?_
  refine lv_iload_n C0.hx C0.hb dJ3_checkIndex_8e157_5 rfl (lv_at hl 1 rfl) ?_
  refine lv_icmp_lt (tgt := 16) C0.hx C0.hb dJ3_checkIndex_8e157_6 (by decide) (fun _ => ?_) (fun hc => absurd h2 hc)
  refine lv_iload_n C0.hx C0.hb dJ3_checkIndex_8e157_16 rfl (lv_at hl 0 rfl) ?_
  exact g_iret C0 hW rfl rfl rfl dJ3_checkIndex_8e157_17
/-- String.checkIndex(i, n), inside -/
theorem c_J0_checkIndex_df160 {i n : Int32} (h1 : ¬ i < 0) (h2 : i < n) : Met l yJ0_checkIndex_df160 (.code yJ0_checkIndex_df160 cJ0_checkIndex_df160 2 none :: gT) (g_rm 1 0 0) (va_Pc [.int i, .int n] (g_P G ids S)) (g_Qv G ids S) 0 0 (g_A G) := by
  refine g_entry (by decide) (Nat.le_of_ble_eq_true rfl) (fun p e s m args below meth c ls C0 hl hW _ => ?_)
  have hl : lv_has ls 2 [(0, .int i), (1, .int n)] := hl
  refine lv_iload_n C0.hx C0.hb dJ0_checkIndex_df160_0 rfl (lv_at hl 0 rfl) ?_
  refine lv_iload_n C0.hx C0.hb dJ0_checkIndex_df160_1 rfl (lv_at hl 1 rfl) ?_
  obtain ⟨r, hZ⟩ : ∃ r : Option Nat, va_Z "jdk/internal/util/Preconditions" "SIOOBE_FORMATTER" "Ljava/util/function/BiFunction;" (va_rf r) (g_A G) s s.heap := by
    rcases C0.S4.2.2.2 with h | ⟨t, h⟩
    · exact ⟨none, h⟩
    · exact ⟨some t, h⟩
  refine g_gets C0 hW hZ tf_J0_1053 dJ0_checkIndex_df160_2 ?_
  refine g_calli hW (g_runS (As := [.int i, .int n, va_rf r]) (rest := []) C0 hW (c_J3_checkIndex_8e157 h1 h2) (g_cwOf (n := 3) tc_J3_checkIndex_8e157 tn_J3 (by decide +kernel) (by decide) (Nat.le_refl _)) tm_J0_1059 tz_J3_checkIndex_8e157 rfl hl.1 rfl (by decide) dJ0_checkIndex_df160_5) (fun H locs hW => ?_)
  refine lv_pop C0.hx C0.hb dJ0_checkIndex_df160_8 rfl ?_
  exact g_vret C0 hW rfl dJ0_checkIndex_df160_9
/-- Arrays.fill over the lane -/
theorem c_J7_fill_53178 {x : CS} {z : MS} {o : Nat → Int32} {v : Int32} : Met l yJ7_fill_53178 (.code yJ7_fill_53178 cJ7_fill_53178 4 none :: gT) (g_rm 0 0 0) (va_Pc [.ref (g_ad G 9), .int v] (g_P G ids (x, z, o))) (g_Qv G ids (g_fl x 9 25 v, z, o)) 0 0 (g_A G) := by
  refine g_entry (by decide) (Nat.le_of_ble_eq_true rfl) (fun p e s m args below meth c ls C0 hl hW _ => ?_)
  have hl : lv_has ls 4 [(0, .ref (g_ad G 9)), (1, .int v)] := hl
  have hk : kd 9 = 23 := by decide
  have hi : 9 ∈ ids := C0.mem (by decide)
  refine lv_iconst (v := 0) C0.hx C0.hb dJ7_fill_53178_0 (by decide) ?_
  refine lv_istore_n (lv' := [(2, .int 0), (0, .ref (g_ad G 9)), (1, .int v)]) C0.hx C0.hb dJ7_fill_53178_1 rfl hl (by decide) rfl (fun ls hl => ?_)
  refine lv_aload_n C0.hx C0.hb dJ7_fill_53178_2 rfl (lv_at hl 1 rfl) ?_
  refine gl_23 C0 hW hi hk dJ7_fill_53178_3 ?_
  refine lv_istore_n (lv' := [(3, .int 25), (2, .int 0), (0, .ref (g_ad G 9)), (1, .int v)]) C0.hx C0.hb dJ7_fill_53178_4 rfl hl (by decide) rfl (fun ls hl => ?_)
  have key : ∀ (n j : Nat) (H : Heap) (locs : List Loc) (ls : Array Slot), j + n = 25 → g_W G ids (g_wa x 9 (g_fill (x.1 9) j v), z, o) s.heap H locs → lv_has ls 4 [(3, .int 25), (2, .int (nI j)), (0, .ref (g_ad G 9)), (1, .int v)] → W p l e (g_rm 0 0 0) s m args below meth c H locs 0 0 (MQ below (g_Qv G ids (g_wa x 9 (g_fill (x.1 9) 25 v), z, o)) args s 0 0 (g_A G)) (F0 m 5 ls []) := by
    intro n
    induction n with
    | zero =>
      intro j H locs ls hj hW hl
      obtain rfl : j = 25 := by omega
      refine lv_iload_n C0.hx C0.hb dJ7_fill_53178_5 rfl (lv_at hl 1 rfl) ?_
      refine lv_iload_n C0.hx C0.hb dJ7_fill_53178_6 rfl (lv_at hl 0 rfl) ?_
      refine lv_icmp_ge (tgt := 20) C0.hx C0.hb dJ7_fill_53178_7 (by decide) (fun _ => ?_) (fun hc => absurd (by decide) hc)
      exact g_vret C0 hW rfl dJ7_fill_53178_20
    | succ n ih =>
      intro j H locs ls hj hW hl
      have hlt : j < 25 := by omega
      refine lv_iload_n C0.hx C0.hb dJ7_fill_53178_5 rfl (lv_at hl 1 rfl) ?_
      refine lv_iload_n C0.hx C0.hb dJ7_fill_53178_6 rfl (lv_at hl 0 rfl) ?_
      refine lv_icmp_ge (tgt := 20) C0.hx C0.hb dJ7_fill_53178_7 (by decide) (fun hc => absurd hc (nI_ge (b := 25) hlt (by decide))) (fun _ => ?_)
      refine lv_aload_n C0.hx C0.hb dJ7_fill_53178_10 rfl (lv_at hl 2 rfl) ?_
      refine lv_iload_n C0.hx C0.hb dJ7_fill_53178_11 rfl (lv_at hl 1 rfl) ?_
      refine lv_iload_n C0.hx C0.hb dJ7_fill_53178_12 rfl (lv_at hl 3 rfl) ?_
      have hok : g_ok (nI j) 25 = true := decide_eq_true (by rw [nI_toInt (Nat.lt_trans hlt (by decide))]; omega)
      refine gs_23 C0 hW hi hk hok dJ7_fill_53178_13 (fun H locs hW => ?_)
      have hst : g_wi (g_wa x 9 (g_fill (x.1 9) j v)) 9 (nI j).toNatClampNeg v = g_wa x 9 (g_fill (x.1 9) (j + 1) v) := by
        rw [nI_clamp (Nat.lt_trans hlt (by decide))]
        unfold g_wi g_wa g_fill upd
        simp only
        congr 1
        funext q k
        by_cases hq : q = 9
        · simp only [hq, if_true]
          by_cases h1 : k = j
          · subst h1; simp
          · simp only [h1, if_false]
            by_cases h2 : k < j
            · simp [h2, Nat.lt_succ_of_lt h2]
            · have : ¬ k < j + 1 := by omega
              simp [h2, this]
        · simp [hq]
      rw [hst] at hW
      refine lv_iinc (v := nI (j + 1)) (lv' := [(2, .int (nI (j + 1))), (3, .int 25), (0, .ref (g_ad G 9)), (1, .int v)]) C0.hx C0.hb dJ7_fill_53178_14 hl (k := 1) rfl (nI_1 j) (by decide) rfl (fun ls hl => ?_)
      refine lv_goto (tgt := 5) C0.hx C0.hb dJ7_fill_53178_17 (by decide) ?_
      exact ih (j + 1) _ _ _ (by omega) hW (lv_sub hl [1, 0, 2, 3] rfl)
  have h0 : g_wa x 9 (g_fill (x.1 9) 0 v) = x := by
    unfold g_wa g_fill
    refine Prod.ext ?_ rfl
    funext q
    by_cases hq : q = 9
    · subst hq; simp
    · simp [hq]
  exact key 25 0 _ _ _ rfl (by rw [h0]; exact hW) (lv_sub hl [0, 1, 2, 3] rfl)
end GJ
