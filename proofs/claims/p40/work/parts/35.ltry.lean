/-! THE LAW'S METHODS THAT CATCH; teach, called from the law -/
theorem g_tk1 : Cond.castable g_ISE g_ISE ∈ gN := g_nem3 (i := 21) (by decide +kernel) rfl
theorem h_backW {l : Launch} {R : Room} {p : Program} {e : Env} {below : List Frame} {s : State} {sargs : Array Value} {y : MethodName} {len W : Nat} {ws : List Cond} {rm : Room} {Pc : Array Value → State → Prop} {Qc : Array Value → State → Outcome → State → Prop} {mc ms : Nat} {free : Addr → Prop} {bytes : ByteArray} {maxL : Nat} {ret : Option FieldType} {hh : List (Nat × Nat × Nat × Nat)}
    (hM : Met l y ws rm Pc Qc mc ms free) (hblind : FrameBlind Pc)
    (hframes : rm.frames + 1 ≤ R.frames) (hlocals : W + (maxL + 11) + rm.locals ≤ R.locals)
    (hws : ∀ w ∈ ws, ∀ a' U, s.WarmedH U.vm → w.before a' U = true) (hcode : Cond.codeWith y bytes maxL ret hh ∈ ws) (hinit : ∀ a' U, s.WarmedH U.vm → (Cond.initialized y.cls).before a' U = true) :
    Back l R p e below s sargs y len W (PreOf R rm.cells rm.slots Pc) (PostOf Qc mc ms free) := by
  refine va_ofFreeW (hh := hh) (S := headSpec ws rm) (P := Pc) (K := fun _ _ _ _ _ => True) (Q := fun a st o t => Qc a st o t ∧ ∃ L, FrameEnd st o t L mc ms ∧ ∀ q ∈ L, free q.base) (bytes := bytes) (maxL := maxL) (ret := ret)
    (E := fun a st o t L k n => k = mc ∧ n = ms ∧ ∀ q ∈ L, free q.base) hM hframes hlocals ?_ ?_ (fun _ _ _ _ _ _ _ _ _ => trivial) ?_ ?_
  · intro m meth c A a X hp
    exact ⟨atoms_intro fun w hw => hws w hw _ _ X.warmed, hws _ hcode _ _ X.warmed, hinit _ _ X.warmed, hp.1, hp.2.1⟩
  · intro m meth c A a g mk X hp
    exact hblind _ _ _ _ hp.2.2
  · intro a st o t ⟨hq, L, hF, hL⟩
    exact ⟨L, mc, ms, hF, rfl, rfl, hL⟩
  · intro m meth c A a g mk v t L k n X hp hq hF ⟨e1, e2, hL⟩
    subst e1; subst e2
    exact ⟨g, mk, t, L, rfl, rfl, hq.1, rfl, hL, rfl, rfl⟩
theorem h_runSW0 {p : Program} {l : Launch} {e : Env} {R : Room} {s : State} {m : MethodId} {args : Array Value} {below : List Frame} {meth : Method} {c : Code} {H : Heap} {locs : List Loc} {cells slots : Nat} {y : MethodName} {bytes cc : ByteArray} {maxL nL mc ms n index : Nat} {ret : Option FieldType} {hh : List (Nat × Nat × Nat × Nat)} {ws : List Cond} {rm : Room} {Pc : Array Value → State → Prop} {Qc : Array Value → State → Outcome → State → Prop} {free : Addr → Prop} {Ts : List Cond} {own : String} {As rest : List Value} {g : JFrame}
    (S : CallFix p m c cc nL s args Ts own) (hM : Met l y ws rm Pc Qc mc ms free) (cw : vx_CSW R s args own index y bytes maxL ret hh ws rm rm.cells rm.slots n) (hp : PreS s H Pc As)
    (hg : g.method = m) (hn : As.length = n) (hsize : g.locals.size = nL) (hstack : g.stack = As.reverse ++ rest) (hW : 2 * g.monitorRoom + (rest.map fun v => v.category).sum ≤ 8) (hdg : decode cc g.pc = .ok (.invokestatic index, 3)) (hf : cells + rm.cells ≤ R.cells ∧ slots + rm.slots ≤ R.slots) :
    va_Run p l e R s m args below meth c H locs cells slots mc ms g rest (Qc As.toArray) (free) := by
  obtain ⟨⟨hrc, hrs, hfr, hlo, hws, hcw⟩, hcode, hini, hy, hlen, hl, hstt⟩ := cw
  have hK : Back l R p e below s args y 3 8 (PreOf R rm.cells rm.slots Pc) (PostOf Qc mc ms free) := h_backW (hh := hh) (bytes := bytes) (maxL := maxL) (ret := ret) hM hp.1 hfr hlo hws hcw (fun a' U hW => word_at hW (Or.inl (by first | rfl | simp [Cond.onTables, Cond.keeps, Cond.steady])) hini)
  obtain ⟨hx, hb, hml, ho, -⟩ := S
  intro T hT X
  obtain ⟨v, vm₁, ⟨U', l2, c2, s2⟩, hW₁, X', ⟨g', mk, t, L, e1, e2, hq, h1, hL, h2, h3⟩, st⟩ := vx_callSW X hx (hh := hh) (bytes := bytes) (maxL := maxL) (ret := ret) ho hl hstt hini hcode hy hK hg (hsize.trans hml.symm) (argsL := As) (rest := rest) (fun sig h => hn.trans (hlen sig h)) hstack hW (by rw [hb]; exact hdg)
    (fun vm₁ hW₁ => ⟨hf.1, hf.2, hp.2 (T.setVm vm₁) hT hW₁⟩)
  dsimp only [Pt.U, Pt.locs, Pt.cells, Pt.slots] at X' e1 e2 h1 h2 h3 st
  subst h1; subst h2; subst h3
  exact ⟨v, (T.setVm vm₁).calling g' mk As.toArray, t, U', L, hT, X', hL, e1, e2, hq, st⟩
section HF
variable {p : Program} {l : Launch} {e : Env} {R : Room} {s : State} {m : MethodId} {args : Array Value} {below : List Frame} {meth : Method} {c : Code} {H : Heap} {locs : List Loc} {cells slots : Nat} {Q : State → Prop} {G : GL} {x : CS} {y y0 : MS} {o : Nat → Int32} {cc : ByteArray} {nL pc : Nat} {own : String} {rt : Option FieldType} {ls : Array Slot} {rest : List Value} {idx i k : Nat}

variable {yn : MethodName} {bytes : ByteArray} {maxL n k1 : Nat} {ret : Option FieldType} {hh : List (Nat × Nat × Nat × Nat)} {As st0 : List Value} {Qc : Array Value → State → Outcome → State → Prop} {mc ms : Nat}
theorem h_entryL {as : List Value} (hy : plainName yn.cls = true) (hlen : (lg_sl as).length ≤ maxL)
    (body : ∀ (p : Program) (e : Env) (s : State) (m : MethodId) (args : Array Value) (below : List Frame) (meth : Method) (c : Code) (ls : Array Slot), g_X G (List.range 120) p s m args meth c cc maxL yn.cls ret → lv_has ls maxL (lv_args 0 as) → h_W G y (x, y, o) s.heap s.heap [] → c.exceptionTable.toList = tableOf hh → W p l e (h_lv k y) s m args below meth c s.heap [] (h_nx y - h_nx y) (h_sl y - h_sl y) (MQ below Qc args s mc ms (g_A G)) (F0 m 0 ls [])) : Met l yn (.codeWith yn cc maxL ret hh :: gT) (h_lv k y) (va_Pc as (h_P G (x, y, o))) Qc mc ms (g_A G) := by
  refine va_MetW (cc := cc) (maxL := maxL) (ret := ret) hy rfl ?_
  intro p e s m args below meth c s₁ B hml hv
  obtain ⟨rfl, ⟨hP, hD, hI, hG⟩, hz, hZ⟩ := hv
  have hts := atoms_spec (ws := .codeWith yn cc maxL ret hh :: gT) B.pre
  rw [lg_entry_eq]
  have h9 := body p e s m _ below meth c _ ⟨B.exec, B.bytes, hml, findClass_of_methodNamed B.named, fun w h => hts w (List.mem_cons_of_mem _ h), B.notSynchronized, B.returns, fun i h => List.mem_range.mpr h, hG⟩ (lv_entry as hlen) ⟨⟨hP, hD, va_S.rf⟩, hz, hz, Nat.le_refl _, Nat.le_refl _, hZ⟩ (vx_table (x := yn) B (hts _ List.mem_cons_self))
  rw [Nat.sub_self, Nat.sub_self] at h9
  exact h9
theorem h_runSW (C0 : g_X G (List.range 120) p s m args meth c cc nL own rt) (hW : h_W G y0 (x, y, o) s.heap H locs) (hM : Met l yn (.codeWith yn bytes maxL ret hh :: gT) (h_lv k1 y) (va_Pc As (h_P G (x, y, o))) Qc mc ms (g_A G)) (w1 : .codeWith yn bytes maxL ret hh ∈ gT) (w2 : .initialized yn.cls ∈ gT) (w3 : yn.cls ≠ "java/lang/invoke/MethodHandle" ∧ yn.cls ≠ "java/lang/invoke/VarHandle" ∧ (parseMethodDescriptor yn.desc).map (fun d => d.parameters.length) = some n) (w4 : maxL ≤ 40) (hlev : k1 + 1 ≤ k) (hl : .methodLink own idx yn ∈ gT) (h2 : .static yn ∈ gT) (hn : As.length = n) (hsz : ls.size = nL) (hst : st0 = As.reverse ++ rest) (hcat : (rest.map fun v => v.category).sum ≤ 8) (hdg : decode cc pc = .ok (.invokestatic idx, 3)) : va_Run p l e (h_lv k y0) s m args below meth c H locs (h_nx y - h_nx y0) (h_sl y - h_sl y0) mc ms (F0 m pc ls st0) rest (Qc As.toArray) (g_A G) := by
  have hr := h_rmf (maxL := maxL) hW w4 hlev
  refine h_runSW0 (As := As) (rest := rest) C0.call hM ⟨⟨rfl, rfl, hr.1.1, hr.1.2, pay_in C0.hts (g_good1 w1), List.mem_cons_self⟩, C0.hts _ w1, C0.hts _ w2, ⟨w3.1, w3.2.1⟩, fun sig h => ?_, C0.hts _ hl, C0.hts _ h2⟩ ⟨h_blind, fun U hU hw => ⟨rfl, h_pre C0 hW hU hw⟩⟩ rfl hn hsz hst (by simpa using hcat) hdg hr.2
  have h9 := w3.2.2
  rw [h] at h9
  exact (Option.some.inj h9).symm
theorem h_exok {n sl : Nat} (h : h_Z y) (hr : h_nx y + n ≤ h_cap ∧ h_sl y + sl ≤ h_scap) : h_Z (h_ex y n sl) := ⟨hr.1, hr.2, Nat.le_trans h.2.2.1 (Nat.le_add_right _ _), h.2.2.2.1, fun i hi => ⟨(h.2.2.2.2 i hi).1, Nat.lt_of_lt_of_le (h.2.2.2.2 i hi).2 (Nat.le_add_right _ _)⟩⟩
theorem h_exW {x1 : CS} {n sl : Nat} (hW : h_W G y0 (x, y, o) s.heap H locs) {H1 : Heap} {locs1 : List Loc} (hr : h_nx y + n ≤ h_cap ∧ h_sl y + sl ≤ h_scap) (hB : g_B G (g_is y) (x1, y, o) { s with heap := H1 }) (hS : va_S (g_A G) s.heap H1 locs1) (hz : H.size + n ≤ H1.size) (hs : H1.size ≤ s.heap.size + (h_nx y - h_nx y0 + n)) : h_W G y0 (x1, h_ex y n sl, o) s.heap H1 locs1 ∧ h_nx y - h_nx y0 + n = h_nx (h_ex y n sl) - h_nx y0 ∧ h_sl y - h_sl y0 + sl = h_sl (h_ex y n sl) - h_sl y0 := by
  have h1 : g_b G + h_nx y = H.size + 200 := hW.2.1
  have h2 := hW.2.2.1
  have h3 : h_nx y0 ≤ h_nx y := hW.2.2.2.1
  have h4 : h_sl y0 ≤ h_sl y := hW.2.2.2.2.1
  refine ⟨⟨⟨hB.1, hB.2, hS⟩, ?_, h2, ?_, ?_, h_exok hW.2.2.2.2.2 hr⟩, ?_, ?_⟩
  · show g_b G + (h_nx y + n) = _
    omega
  · show _ ≤ h_nx y + n
    omega
  · show _ ≤ h_sl y + sl
    omega
  · show _ = h_nx y + n - _
    omega
  · show _ = h_sl y + sl - _
    omega
/-- a call of the class that throws what is caught here -/
theorem h_try {S1 T1 : Type} {post : Int32 → S1 → Prop} {B : S1 → State → Prop} {res : Nat ⊕ T1} (C0 : g_X G (List.range 120) p s m args meth c cc nL own rt) (hW : h_W G y0 (x, y, o) s.heap H locs) (hno : ∀ v u, ¬ post v u) (hres : res = Sum.inl 1) (hrm : h_rm y 6 = true) (hM : vx_Met l yn (.code yn bytes maxL ret :: gT) (g_rm k1 1 6) (va_Pc (.ref (g_ad G 0) :: As) (g_PX G (g_is y) (x, y, o) H.size)) (va_Qi post B (g_A G)) (h_XC G (g_is y) H.size (x, y, o) res) 1 6 (g_A G)) (hcls : yn.cls = RX12) (cy : h_cy yn bytes maxL n ret) (hlev : k1 + 1 ≤ k) {xt : ExceptionTableEntry} (htab : c.exceptionTable.toList = [xt]) (hcov : covers xt pc = true) (hct : xt.catchType ≠ 0) (hlk : Cond.classLink own xt.catchType g_ISE ∈ gT) (hl : .methodLink own idx yn ∈ gT) (h2 : .instanceMethod yn ∈ gT) (h3 : .selects yn.cls yn yn ∈ gT) (hn : As.length = n) (hsz : ls.size = nL) (hst : st0 = As.reverse ++ .ref (g_ad G 0) :: rest) (hcat : (rest.map fun v => v.category).sum ≤ 8) (hdg : decode cc pc = .ok (.invokevirtual idx, 3)) (kk : ∀ (H1 : Heap) (locs1 : List Loc) (q9 : Nat), h_W G y0 (x, h_ex y 1 6, o) s.heap H1 locs1 → W p l e (h_lv k y0) s m args below meth c H1 locs1 (h_nx (h_ex y 1 6) - h_nx y0) (h_sl (h_ex y 1 6) - h_sl y0) Q (F0 m xt.handlerPc ls [.ref q9])) : W p l e (h_lv k y0) s m args below meth c H locs (h_nx y - h_nx y0) (h_sl y - h_sl y0) Q (F0 m pc ls st0) := by
  obtain ⟨w1, w2, w3, w4⟩ := cy
  have hr := h_rmv hrm
  have i1 : h_nx y0 ≤ h_nx y := hW.2.2.2.1
  have i2 : h_sl y0 ≤ h_sl y := hW.2.2.2.2.1
  obtain ⟨cell, r1, r2, r3⟩ := g_recv (h_up C0 y) hW.1 (i := 0) (List.mem_append_left _ (by decide)) (g_c1 (by decide)) rfl
  refine vx_calli (vx_runV (As := As) (rest := rest) C0.call hM (cwV n C0.hts (g_goodV hl h2 h3 w2 w1) rfl rfl rfl ⟨rfl, w3⟩ ⟨hlev, by show 8 + (maxL + 11) + 64 * k1 ≤ 64 * k; omega⟩) ⟨g_blindX, ⟨cell, r1, r2, by rw [hcls]; exact r3⟩, fun U hU hw => ⟨rfl, g_pre (h_up C0 y) hW.1 hU hw, by rw [hU]; exact Nat.le_refl _⟩⟩ rfl hn hsz hst (by simpa using hcat) hdg ⟨by show h_nx y - h_nx y0 + 1 ≤ h_cap - h_nx y0; omega, by show h_sl y - h_sl y0 + 6 ≤ h_scap - h_sl y0; omega⟩) hW.1.2.2 (fun q _ h => h) (fun q h => h) (fun q _ h => h) (fun E ce q9 u t H1 locs1 ht hvm hp hB hz hk hS hc hv hcl => ?_) (fun x1 u t H1 locs1 ht hvm hp hB hz hk hS => absurd hp (hno _ _))
  subst ht
  obtain ⟨rfl, hB, hN⟩ := hB
  obtain rfl : u = 1 := by
    have h9 := hp.symm.trans hres
    injection h9
  refine vx_catch (E := g_ex 1) (name := g_ISE) C0.hown [] xt [] htab (fun z hz => by cases hz) hcov hct (C0.hts _ hlk) (C0.hN _ g_tk1) hc hv hcl ?_
  refine h_size (fun hs => ?_)
  obtain ⟨m1, m2, m3⟩ := h_exW (sl := 6) hW ⟨hr.1, hr.2⟩ (H1 := t.heap) ⟨hB.1, hB.2⟩ hS hN hs
  have h9 := kk _ _ q9 m1
  rw [← m2, ← m3] at h9
  exact h9
def h_rm2 (y : MS) : Bool := decide (h_nx y + 2 ≤ h_cap ∧ h_sl y + 18 ≤ h_scap)
theorem h_kteach (C0 : g_X G (List.range 120) p s m args meth c cc nL own rt) (hW : h_W G y0 (x, y, o) s.heap H locs) {q : Int32 × CS} (h0 : g_okRb x = true ∧ h_rm2 y = true) (h1 : g_okRb q.2 = true) (hq : f_X12_teach x = some q) (hl : .methodLink own idx yX12_teach ∈ gT) (hlev : 120 ≤ k) (hcat : (rest.map fun v => v.category).sum ≤ 8) (hsz : ls.size = nL) (hdg : decode cc pc = .ok (.invokevirtual idx, 3)) (kk : ∀ (H1 : Heap) (locs1 : List Loc), h_W G y0 (q.2, h_ex y 2 18, o) s.heap H1 locs1 → W p l e (h_lv k y0) s m args below meth c H1 locs1 (h_nx (h_ex y 2 18) - h_nx y0) (h_sl (h_ex y 2 18) - h_sl y0) Q (F0 m (pc + 3) ls (.int q.1 :: rest))) : W p l e (h_lv k y0) s m args below meth c H locs (h_nx y - h_nx y0) (h_sl y - h_sl y0) Q (F0 m pc ls (.ref (g_ad G 0) :: rest)) := by
  have hr : h_nx y + 2 ≤ h_cap ∧ h_sl y + 18 ≤ h_scap := of_decide_eq_true h0.2
  have i1 : h_nx y0 ≤ h_nx y := hW.2.2.2.1
  have i2 : h_sl y0 ≤ h_sl y := hW.2.2.2.2.1
  have hids : ∀ i ∈ g_is y, i < 120 ∨ 200 ≤ i := fun i hi => by
    rcases List.mem_append.mp hi with h | h
    · exact Or.inl (List.mem_range.mp h)
    · exact Or.inr (hW.2.2.2.2.2.2.2.2.2 i h).1
  have hrun : va_Run p l e (h_lv k y0) s m args below meth c H locs (h_nx y - h_nx y0) (h_sl y - h_sl y0) 2 18 (F0 m pc ls (.ref (g_ad G 0) :: rest)) rest (g_Qt G (g_is y) q.1 (q.2, y, o) (Value.ref (g_ad G 0) :: []).toArray) (g_A G) := by
    refine g_runV (R := h_lv k y0) (cells := h_nx y - h_nx y0) (slots := h_sl y - h_sl y0) (T := TX12) (N := 11) (As := []) (n := 0) (h_up C0 y) hW.1 (c_X12_teach hids (g_okRb_of h0.1) (g_okRb_of h1) hq) ⟨tc_X12_teach, tn_X12, rfl, rfl, by decide +kernel, ⟨hlev, by show 8 + (2 + 11) + 64 * 119 ≤ 64 * k; omega⟩, by show h_nx y - h_nx y0 + 2 ≤ h_cap - h_nx y0; omega, by show h_sl y - h_sl y0 + 18 ≤ h_scap - h_sl y0; omega⟩ hl ti_X12_teach ts_X12_teach (b := 0) (List.mem_append_left _ (by decide)) (g_c1 (by decide)) rfl rfl hsz rfl hcat hdg
  have hrun2 : va_Run p l e (h_lv k y0) s m args below meth c H locs (h_nx y - h_nx y0) (h_sl y - h_sl y0) 2 18 (F0 m pc ls (.ref (g_ad G 0) :: rest)) rest (va_Qi (fun (z : Int32) (_ : Unit) => z = q.1) (fun _ t => g_B G (g_is y) (q.2, y, o) t ∧ H.size + 2 ≤ t.heap.size) (g_A G) (Value.ref (g_ad G 0) :: []).toArray) (g_A G) := by
    intro T hT X
    obtain ⟨v, st₀, t, T', L, e0, X', hL, e1, e2, ⟨⟨⟨r1, u, h3, h4, h5⟩, h6⟩, h7⟩, st⟩ := hrun T hT X
    exact ⟨v, st₀, t, T', L, e0, X', hL, e1, e2, ⟨⟨r1, u, h3, h4, h5, by rw [← e0]; exact h7⟩, h6⟩, st⟩
  refine va_calli hrun2 hW.1.2.2 (fun q _ h => h) (fun q h => h) (fun r1 u t H1 locs1 ht hvm hp hB hz hk hS => ?_)
  subst ht hp
  refine h_size (fun hs => ?_)
  obtain ⟨m1, m2, m3⟩ := h_exW (sl := 18) hW hr (H1 := t.heap) ⟨hB.1.1, hB.1.2⟩ hS hB.2 hs
  have h9 := kk _ _ m1
  rw [← m2, ← m3] at h9
  exact h9
theorem hno_50 (C0 : g_X G (List.range 120) p s m args meth c cc nL own rt) (hW : h_W G y0 (x, y, o) s.heap H locs) (hrm : h_rm y 1 = true) (hl : Cond.classLink own idx RX13 ∈ gT) (hdg : decode cc pc = .ok (.new idx, 3)) (kk : ∀ (H1 : Heap), h_W G y0 (x, h_new y 50 (fun _ => 0) (fun _ => 0) 0 1, o) s.heap H1 locs → W p l e (h_lv k y0) s m args below meth c H1 locs (h_nx (h_new y 50 (fun _ => 0) (fun _ => 0) 0 1) - h_nx y0) (h_sl (h_new y 50 (fun _ => 0) (fun _ => 0) 0 1) - h_sl y0) Q (F0 m (pc + 3) ls (g_rf G (h_nx y) :: rest))) : W p l e (h_lv k y0) s m args below meth c H locs (h_nx y - h_nx y0) (h_sl y - h_sl y0) Q (F0 m pc ls (rest)) :=
  h_newO C0 hW (kd1 := 50) (ci := 13) (T := TX13) (ty := tyX13) (fs := [.int 0]) hrm tu_X13 tyX13_ok hl ta_X13 tn_X13 rfl (fun j hj => by rcases (show j = 0 by omega) with rfl <;> rfl) ((h_c50 (by simp [h_new, h_K])).trans (by simp [h_new, h_I, h_R])) hdg kk
theorem hno_51 (C0 : g_X G (List.range 120) p s m args meth c cc nL own rt) (hW : h_W G y0 (x, y, o) s.heap H locs) (hrm : h_rm y 4 = true) (hl : Cond.classLink own idx RX14 ∈ gT) (hdg : decode cc pc = .ok (.new idx, 3)) (kk : ∀ (H1 : Heap), h_W G y0 (x, h_new y 51 (fun _ => 0) (fun _ => 0) 0 4, o) s.heap H1 locs → W p l e (h_lv k y0) s m args below meth c H1 locs (h_nx (h_new y 51 (fun _ => 0) (fun _ => 0) 0 4) - h_nx y0) (h_sl (h_new y 51 (fun _ => 0) (fun _ => 0) 0 4) - h_sl y0) Q (F0 m (pc + 3) ls (g_rf G (h_nx y) :: rest))) : W p l e (h_lv k y0) s m args below meth c H locs (h_nx y - h_nx y0) (h_sl y - h_sl y0) Q (F0 m pc ls (rest)) :=
  h_newO C0 hW (kd1 := 51) (ci := 14) (T := TX14) (ty := tyX14) (fs := [.int 0, .int 0, g_rf G 0, g_rf G 0]) hrm tu_X14 tyX14_ok hl ta_X14 tn_X14 rfl (fun j hj => by rcases (show j = 0 ∨ j = 1 ∨ j = 2 ∨ j = 3 by omega) with rfl | rfl | rfl | rfl <;> rfl) ((h_c51 (by simp [h_new, h_K])).trans (by simp [h_new, h_I, h_R])) hdg kk
theorem hno_52 (C0 : g_X G (List.range 120) p s m args meth c cc nL own rt) (hW : h_W G y0 (x, y, o) s.heap H locs) (hrm : h_rm y 4 = true) (hl : Cond.classLink own idx RX15 ∈ gT) (hdg : decode cc pc = .ok (.new idx, 3)) (kk : ∀ (H1 : Heap), h_W G y0 (x, h_new y 52 (fun _ => 0) (fun _ => 0) 0 4, o) s.heap H1 locs → W p l e (h_lv k y0) s m args below meth c H1 locs (h_nx (h_new y 52 (fun _ => 0) (fun _ => 0) 0 4) - h_nx y0) (h_sl (h_new y 52 (fun _ => 0) (fun _ => 0) 0 4) - h_sl y0) Q (F0 m (pc + 3) ls (g_rf G (h_nx y) :: rest))) : W p l e (h_lv k y0) s m args below meth c H locs (h_nx y - h_nx y0) (h_sl y - h_sl y0) Q (F0 m pc ls (rest)) :=
  h_newO C0 hW (kd1 := 52) (ci := 15) (T := TX15) (ty := tyX15) (fs := [.int 0, .int 0, g_rf G 0, g_rf G 0]) hrm tu_X15 tyX15_ok hl ta_X15 tn_X15 rfl (fun j hj => by rcases (show j = 0 ∨ j = 1 ∨ j = 2 ∨ j = 3 by omega) with rfl | rfl | rfl | rfl <;> rfl) ((h_c52 (by simp [h_new, h_K])).trans (by simp [h_new, h_I, h_R])) hdg kk
theorem hno_53 (C0 : g_X G (List.range 120) p s m args meth c cc nL own rt) (hW : h_W G y0 (x, y, o) s.heap H locs) (hrm : h_rm y 10 = true) (hl : Cond.classLink own idx RX16 ∈ gT) (hdg : decode cc pc = .ok (.new idx, 3)) (kk : ∀ (H1 : Heap), h_W G y0 (x, h_new y 53 (fun _ => 0) (fun _ => 0) 0 10, o) s.heap H1 locs → W p l e (h_lv k y0) s m args below meth c H1 locs (h_nx (h_new y 53 (fun _ => 0) (fun _ => 0) 0 10) - h_nx y0) (h_sl (h_new y 53 (fun _ => 0) (fun _ => 0) 0 10) - h_sl y0) Q (F0 m (pc + 3) ls (g_rf G (h_nx y) :: rest))) : W p l e (h_lv k y0) s m args below meth c H locs (h_nx y - h_nx y0) (h_sl y - h_sl y0) Q (F0 m pc ls (rest)) :=
  h_newO C0 hW (kd1 := 53) (ci := 16) (T := TX16) (ty := tyX16) (fs := [.int 0, .int 0, g_rf G 0, g_rf G 0, g_rf G 0, .int 0, .int 0, g_rf G 0, g_rf G 0, g_rf G 0]) hrm tu_X16 tyX16_ok hl ta_X16 tn_X16 rfl (fun j hj => by rcases (show j = 0 ∨ j = 1 ∨ j = 2 ∨ j = 3 ∨ j = 4 ∨ j = 5 ∨ j = 6 ∨ j = 7 ∨ j = 8 ∨ j = 9 by omega) with rfl | rfl | rfl | rfl | rfl | rfl | rfl | rfl | rfl | rfl <;> rfl) ((h_c53 (by simp [h_new, h_K])).trans (by simp [h_new, h_I, h_R])) hdg kk
theorem hno_54 (C0 : g_X G (List.range 120) p s m args meth c cc nL own rt) (hW : h_W G y0 (x, y, o) s.heap H locs) (hrm : h_rm y 4 = true) (hl : Cond.classLink own idx RJ4 ∈ gT) (hdg : decode cc pc = .ok (.new idx, 3)) (kk : ∀ (H1 : Heap), h_W G y0 (x, h_new y 54 (fun _ => 0) (fun _ => 0) 0 4, o) s.heap H1 locs → W p l e (h_lv k y0) s m args below meth c H1 locs (h_nx (h_new y 54 (fun _ => 0) (fun _ => 0) 0 4) - h_nx y0) (h_sl (h_new y 54 (fun _ => 0) (fun _ => 0) 0 4) - h_sl y0) Q (F0 m (pc + 3) ls (g_rf G (h_nx y) :: rest))) : W p l e (h_lv k y0) s m args below meth c H locs (h_nx y - h_nx y0) (h_sl y - h_sl y0) Q (F0 m pc ls (rest)) :=
  h_newO C0 hW (kd1 := 54) (ci := 1) (T := TJ4) (ty := tyJ4) (fs := [g_rf G 0, .int 0, .int 0, .int 0]) hrm tu_J4 tyJ4_ok hl ta_J4 tn_J4 rfl (fun j hj => by rcases (show j = 0 ∨ j = 1 ∨ j = 2 ∨ j = 3 by omega) with rfl | rfl | rfl | rfl <;> rfl) ((h_c54 (by simp [h_new, h_K])).trans (by simp [h_new, h_I, h_R])) hdg kk
theorem hno_55 (C0 : g_X G (List.range 120) p s m args meth c cc nL own rt) (hW : h_W G y0 (x, y, o) s.heap H locs) (hrm : h_rm y 4 = true) (hl : Cond.classLink own idx RJ0 ∈ gT) (hdg : decode cc pc = .ok (.new idx, 3)) (kk : ∀ (H1 : Heap), h_W G y0 (x, h_new y 55 (fun _ => 0) (fun _ => 0) 0 4, o) s.heap H1 locs → W p l e (h_lv k y0) s m args below meth c H1 locs (h_nx (h_new y 55 (fun _ => 0) (fun _ => 0) 0 4) - h_nx y0) (h_sl (h_new y 55 (fun _ => 0) (fun _ => 0) 0 4) - h_sl y0) Q (F0 m (pc + 3) ls (g_rf G (h_nx y) :: rest))) : W p l e (h_lv k y0) s m args below meth c H locs (h_nx y - h_nx y0) (h_sl y - h_sl y0) Q (F0 m pc ls (rest)) :=
  h_newO C0 hW (kd1 := 55) (ci := 0) (T := TJ0) (ty := tyJ0) (fs := [g_rf G 0, .int 0, .int 0, .int 0]) hrm tu_J0 tyJ0_ok hl ta_J0 tn_J0 rfl (fun j hj => by rcases (show j = 0 ∨ j = 1 ∨ j = 2 ∨ j = 3 by omega) with rfl | rfl | rfl | rfl <;> rfl) ((h_c55 (by simp [h_new, h_K])).trans (by simp [h_new, h_I, h_R])) hdg kk
end HF
