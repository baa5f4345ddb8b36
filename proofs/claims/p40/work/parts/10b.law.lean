/-! THE LAW'S LAYER: its heap beside the class's; every new cell has the next number, and lies where that number says -/
theorem tu_J0 : ∀ w ∈ u_ws RJ0 TJ0 4, w ∈ gT := by decide +kernel
theorem tu_J4 : ∀ w ∈ u_ws RJ4 TJ4 4, w ∈ gT := by decide +kernel
def h_cap : Nat := 500000
def h_scap : Nat := 7000000
def h_ok (y : MS) : Prop := 200 ≤ h_nx y ∧ (∀ i, h_K y i ≠ 0 → i ∈ h_ids y) ∧ ∀ i ∈ h_ids y, 200 ≤ i ∧ i < h_nx y
def h_Z (y : MS) : Prop := h_nx y ≤ h_cap ∧ h_sl y ≤ h_scap ∧ h_ok y
def h_lv (k : Nat) (y : MS) : Room := { frames := k, cells := h_cap - h_nx y, slots := h_scap - h_sl y, locals := 64 * k }
def h_W (G : GL) (y0 : MS) (S : SS) (H0 H : Heap) (locs : List Loc) : Prop := g_W G (g_is S.2.1) S H0 H locs ∧ g_b G + h_nx S.2.1 = H.size + 200 ∧ g_b G + h_nx y0 = H0.size + 200 ∧ h_nx y0 ≤ h_nx S.2.1 ∧ h_sl y0 ≤ h_sl S.2.1 ∧ h_Z S.2.1
def h_P (G : GL) (S : SS) (U : State) : Prop := g_P G (g_is S.2.1) S U ∧ g_b G + h_nx S.2.1 = U.heap.size + 200 ∧ h_Z S.2.1
def h_B (G : GL) (y0 : MS) (S : SS) (t : State) : Prop := g_B G (g_is S.2.1) S t ∧ g_b G + h_nx S.2.1 = t.heap.size + 200 ∧ h_nx y0 ≤ h_nx S.2.1 ∧ h_sl y0 ≤ h_sl S.2.1 ∧ h_Z S.2.1
def h_Qi (G : GL) (y0 : MS) (r : Int32) (S : SS) : Array Value → State → Outcome → State → Prop := va_Qi (fun (x : Int32) (_ : Unit) => x = r) (fun _ t => h_B G y0 S t) (g_A G)
def h_Qv (G : GL) (y0 : MS) (S : SS) : Array Value → State → Outcome → State → Prop := va_Qv (fun (_ : Unit) => True) (fun _ t => h_B G y0 S t) (g_A G)
def h_Qr (G : GL) (y0 : MS) (v : Value) (S : SS) : Array Value → State → Outcome → State → Prop := va_Qr (fun (_ : Unit) => True) (fun _ q t => .ref q = v ∧ h_B G y0 S t) (g_A G)
/-- a text is a constant (below 200) or of the law's heap; its bytes' row likewise -/
def g_sa (G : GL) (i : Nat) : Nat := if i < 200 then g_sK G i else g_ad G i
def g_va (G : GL) (i : Nat) : Nat := if i < 200 then g_sV G i else g_ad G i
def h_sok (y : MS) (i : Nat) : Bool := decide (i < 93) || decide (h_K y i = 55)
/-- a text whose bytes' row can be had -/
def h_svok (y : MS) (i : Nat) : Bool := decide (i < 93) || (decide (h_K y i = 55) && decide (h_K y (h_R y i 0) = 61))
def h_vok (y : MS) (i : Nat) : Bool := decide (i < 93) || decide (h_K y i = 61)
def h_sv (y : MS) (i : Nat) : Nat := if i < 200 then i else h_R y i 0
def h_sc (y : MS) (i : Nat) : Int32 := if i < 200 then 0 else h_I y i 1
def h_vn (y : MS) (i : Nat) : Nat := if i < 200 then g_len.getD i 0 else h_N y i
def h_vb (y : MS) (i : Nat) : Nat → Int32 := if i < 200 then (fun j => (g_byt.getD i []).getD j 0) else h_I y i
/-- room for a new cell of n slots -/
def h_rm (y : MS) (n : Nat) : Bool := decide (h_nx y < h_cap ∧ h_sl y + n ≤ h_scap)
theorem h_rmv {y : MS} {n : Nat} (h : h_rm y n = true) : h_nx y < h_cap ∧ h_sl y + n ≤ h_scap := of_decide_eq_true h
theorem g_sa_lo {G : GL} {i : Nat} (h : i < 93) : g_sa G i = g_sK G i := if_pos (by omega)
theorem g_va_lo {G : GL} {i : Nat} (h : i < 93) : g_va G i = g_sV G i := if_pos (by omega)
theorem g_sa_hi {G : GL} {i : Nat} (h : 200 ≤ i) : g_sa G i = g_ad G i := if_neg (by omega)
theorem g_va_hi {G : GL} {i : Nat} (h : 200 ≤ i) : g_va G i = g_ad G i := if_neg (by omega)
theorem h_newok {y : MS} {k n sl : Nat} {f : Nat → Int32} {r : Nat → Nat} (h : h_Z y) (hr : h_nx y < h_cap ∧ h_sl y + sl ≤ h_scap) : h_Z (h_new y k f r n sl) := by
  obtain ⟨h1, h2, h3, h4, h5⟩ := h
  refine ⟨hr.1, hr.2, Nat.le_succ_of_le h3, fun i hi => ?_, fun i hi => ?_⟩
  · by_cases e : i = h_nx y
    · exact List.mem_append_right _ (by rw [e]; exact List.mem_singleton.mpr rfl)
    · refine List.mem_append_left _ (h4 i ?_)
      have : h_K (h_new y k f r n sl) i = h_K y i := by simp [h_new, h_K, e]
      rw [← this]; exact hi
  · rcases List.mem_append.mp hi with h | h
    · exact ⟨(h5 i h).1, Nat.lt_succ_of_lt (h5 i h).2⟩
    · rw [List.mem_singleton.mp h]; exact ⟨h3, Nat.lt_succ_self _⟩
theorem h_adn {G : GL} {y : MS} {H : Heap} (h1 : g_b G + h_nx y = H.size + 200) (h2 : 200 ≤ h_nx y) : g_ad G (h_nx y) = H.size := by
  show (if h_nx y < 200 then _ else g_b G + (h_nx y - 200)) = H.size
  rw [if_neg (by omega)]; omega
theorem g_rfn {G : GL} {r : Nat} {C : String} : narrow (.object C) (g_rf G r) = g_rf G r ∧ fits (.object C) (g_rf G r) = true := by
  unfold g_rf; cases g_ro G r <;> exact ⟨rfl, rfl⟩
theorem g_rfa {G : GL} {r : Nat} {t : FieldType} : narrow (.array t) (g_rf G r) = g_rf G r ∧ fits (.array t) (g_rf G r) = true := by
  unfold g_rf; cases g_ro G r <;> exact ⟨rfl, rfl⟩
/-- a call's payer where the callee's room is more than what it makes -/
theorem h_back {l : Launch} {R : Room} {p : Program} {e : Env} {below : List Frame} {s : State} {sargs : Array Value} {y : MethodName} {len W : Nat} {ws : List Cond} {rm : Room} {Pc : Array Value → State → Prop} {Qc : Array Value → State → Outcome → State → Prop} {mc ms : Nat} {free : Addr → Prop} {bytes : ByteArray} {maxL : Nat} {ret : Option FieldType}
    (hM : Met l y ws rm Pc Qc mc ms free) (hblind : FrameBlind Pc)
    (hframes : rm.frames + 1 ≤ R.frames) (hlocals : W + (maxL + 11) + rm.locals ≤ R.locals)
    (hws : ∀ w ∈ ws, ∀ a' U, s.WarmedH U.vm → w.before a' U = true) (hcode : Cond.code y bytes maxL ret ∈ ws) (hinit : ∀ a' U, s.WarmedH U.vm → (Cond.initialized y.cls).before a' U = true) :
    Back l R p e below s sargs y len W (PreOf R rm.cells rm.slots Pc) (PostOf Qc mc ms free) := by
  refine Back.of_free (S := headSpec ws rm) (P := Pc) (K := fun _ _ _ _ _ => True) (Q := fun a st o t => Qc a st o t ∧ ∃ L, FrameEnd st o t L mc ms ∧ ∀ q ∈ L, free q.base) (bytes := bytes) (maxL := maxL) (ret := ret)
    (E := fun a st o t L k n => k = mc ∧ n = ms ∧ ∀ q ∈ L, free q.base) hM hframes hlocals ?_ ?_ (fun _ _ _ _ _ _ _ _ _ => trivial) ?_ ?_
  · intro m meth c A a X hp
    exact ⟨atoms_intro fun w hw => hws w hw _ _ X.warmed, hws _ hcode _ _ X.warmed, hinit _ _ X.warmed, hp.1, hp.2.1⟩
  · intro m meth c A a g mk X hp
    exact hblind _ _ _ _ hp.2.2
  · intro a st o t ⟨hq, L, hF, hL⟩
    exact ⟨L, mc, ms, hF, rfl, rfl, hL⟩
  · intro m meth c A a g mk v t L k n X hp hq hF ⟨e1, e2, hL⟩
    subst e1; subst e2
    exact ⟨g, mk, t, L, rfl, rfl, hq.1, rfl, hL, rfl, rfl⟩
theorem h_runV0 {p : Program} {l : Launch} {e : Env} {R : Room} {s : State} {m : MethodId} {args : Array Value} {below : List Frame} {meth : Method} {c : Code} {H : Heap} {locs : List Loc} {cells slots : Nat} {y : MethodName} {bytes cc : ByteArray} {maxL nL mc ms n index : Nat} {ws : List Cond} {rm : Room} {Pc : Array Value → State → Prop} {Qc : Array Value → State → Outcome → State → Prop} {free : Addr → Prop} {Ts : List Cond} {own : String} {ret : Option FieldType} {C : String} {b : Addr} {As rest : List Value} {g : JFrame}
    (S : CallFix p m c cc nL s args Ts own) (hM : Met l y ws rm Pc Qc mc ms free) (cw : CallW R s args own C index y bytes maxL ret ws rm rm.cells rm.slots n) (hp : PreV s H C b Pc As)
    (hg : g.method = m) (hn : As.length = n) (hsize : g.locals.size = nL) (hstack : g.stack = As.reverse ++ .ref b :: rest) (hW : 2 * g.monitorRoom + (rest.map fun v => v.category).sum ≤ 8) (hdg : decode cc g.pc = .ok (.invokevirtual index, 3)) (hf : cells + rm.cells ≤ R.cells ∧ slots + rm.slots ≤ R.slots) :
    va_Run p l e R s m args below meth c H locs cells slots mc ms g rest (Qc (Value.ref b :: As).toArray) (free) := by
  obtain ⟨⟨-, -, hfr, hlo, hws, hcw, hcode, hini, hy, hlen, hl⟩, hin, hse⟩ := cw
  have hK : Back l R p e below s args y 3 8 (PreOf R rm.cells rm.slots Pc) (PostOf Qc mc ms free) := h_back (bytes := bytes) (maxL := maxL) (ret := ret) hM hp.1 hfr hlo hws hcw (fun a' U hW => word_at hW (Or.inl (by first | rfl | simp [Cond.onTables, Cond.keeps, Cond.steady])) hini)
  obtain ⟨hx, hb, hml, ho, -⟩ := S
  obtain ⟨-, ⟨cellB, hcB, hoB, hclB⟩, hPc⟩ := hp
  intro T hT X
  obtain ⟨v, vm₁, ⟨U', l2, c2, s2⟩, hW₁, X', ⟨g', mk, t, L, e1, e2, hq, h1, hL, h2, h3⟩, st⟩ := callV X hx (C := C) (bytes := bytes) (maxL := maxL) (ret := ret) ho hl hin hse hcode hy hK (by rw [hT]; exact hcB) hoB hclB hg (hsize.trans hml.symm) (argsL := As) (rest := rest) (fun sig h => hn.trans (hlen sig h)) hstack hW (by rw [hb]; exact hdg)
    (fun vm₁ hW₁ => ⟨hf.1, hf.2, hPc (T.setVm vm₁) hT hW₁⟩)
  dsimp only [Pt.U, Pt.locs, Pt.cells, Pt.slots] at X' e1 e2 h1 h2 h3 st
  subst h1; subst h2; subst h3
  exact ⟨v, (T.setVm vm₁).calling g' mk (Value.ref b :: As).toArray, t, U', L, hT, X', hL, e1, e2, hq, st⟩
theorem h_runS0 {p : Program} {l : Launch} {e : Env} {R : Room} {s : State} {m : MethodId} {args : Array Value} {below : List Frame} {meth : Method} {c : Code} {H : Heap} {locs : List Loc} {cells slots : Nat} {y : MethodName} {bytes cc : ByteArray} {maxL nL mc ms n index : Nat} {ws : List Cond} {rm : Room} {Pc : Array Value → State → Prop} {Qc : Array Value → State → Outcome → State → Prop} {free : Addr → Prop} {Ts : List Cond} {own : String} {ret : Option FieldType} {As rest : List Value} {g : JFrame}
    (S : CallFix p m c cc nL s args Ts own) (hM : Met l y ws rm Pc Qc mc ms free) (cw : CallB R s args own index y bytes maxL ret ws rm rm.cells rm.slots n ∧ (Cond.static y).before args s = true) (hp : PreS s H Pc As)
    (hg : g.method = m) (hn : As.length = n) (hsize : g.locals.size = nL) (hstack : g.stack = As.reverse ++ rest) (hW : 2 * g.monitorRoom + (rest.map fun v => v.category).sum ≤ 8) (hdg : decode cc g.pc = .ok (.invokestatic index, 3)) (hf : cells + rm.cells ≤ R.cells ∧ slots + rm.slots ≤ R.slots) :
    va_Run p l e R s m args below meth c H locs cells slots mc ms g rest (Qc As.toArray) (free) := by
  obtain ⟨⟨-, -, hfr, hlo, hws, hcw, hcode, hini, hy, hlen, hl⟩, hstt⟩ := cw
  have hK : Back l R p e below s args y 3 8 (PreOf R rm.cells rm.slots Pc) (PostOf Qc mc ms free) := h_back (bytes := bytes) (maxL := maxL) (ret := ret) hM hp.1 hfr hlo hws hcw (fun a' U hW => word_at hW (Or.inl (by first | rfl | simp [Cond.onTables, Cond.keeps, Cond.steady])) hini)
  obtain ⟨hx, hb, hml, ho, -⟩ := S
  have hPc := hp.2
  intro T hT X
  obtain ⟨v, vm₁, ⟨U', l2, c2, s2⟩, hW₁, X', ⟨g', mk, t, L, e1, e2, hq, h1, hL, h2, h3⟩, st⟩ := callS X hx (bytes := bytes) (maxL := maxL) (ret := ret) ho hl hstt hini hcode hy hK hg (hsize.trans hml.symm) (argsL := As) (rest := rest) (fun sig h => hn.trans (hlen sig h)) hstack hW (by rw [hb]; exact hdg)
    (fun vm₁ hW₁ => ⟨hf.1, hf.2, hPc (T.setVm vm₁) hT hW₁⟩)
  dsimp only [Pt.U, Pt.locs, Pt.cells, Pt.slots] at X' e1 e2 h1 h2 h3 st
  subst h1; subst h2; subst h3
  exact ⟨v, (T.setVm vm₁).calling g' mk As.toArray, t, U', L, hT, X', hL, e1, e2, hq, st⟩
theorem h_runI0 {p : Program} {l : Launch} {e : Env} {R : Room} {s : State} {m : MethodId} {args : Array Value} {below : List Frame} {meth : Method} {c : Code} {H : Heap} {locs : List Loc} {cells slots : Nat} {y : MethodName} {bytes cc : ByteArray} {maxL nL mc ms n index : Nat} {ws : List Cond} {rm : Room} {Pc : Array Value → State → Prop} {Qc : Array Value → State → Outcome → State → Prop} {free : Addr → Prop} {Ts : List Cond} {own : String} {b : Addr} {As rest : List Value} {g : JFrame}
    (S : CallFix p m c cc nL s args Ts own) (hM : Met l y ws rm Pc Qc mc ms free) (cw : CallB R s args own index y bytes maxL none ws rm rm.cells rm.slots n ∧ y.name = "<init>" ∧ (Cond.instanceMethod y).before args s = true) (hp : PreS s H Pc (.ref b :: As))
    (hg : g.method = m) (hn : As.length = n) (hsize : g.locals.size = nL) (hstack : g.stack = As.reverse ++ .ref b :: rest) (hW : 2 * g.monitorRoom + (rest.map fun v => v.category).sum ≤ 8) (hdg : decode cc g.pc = .ok (.invokespecial index, 3)) (hf : cells + rm.cells ≤ R.cells ∧ slots + rm.slots ≤ R.slots) :
    va_Run p l e R s m args below meth c H locs cells slots mc ms g rest (Qc (Value.ref b :: As).toArray) (free) := by
  obtain ⟨⟨-, -, hfr, hlo, hws, hcw, hcode, hini, hy, hlen, hl⟩, hy1, hin⟩ := cw
  have hK : Back l R p e below s args y 3 8 (PreOf R rm.cells rm.slots Pc) (PostOf Qc mc ms free) := h_back (bytes := bytes) (maxL := maxL) (ret := none) hM hp.1 hfr hlo hws hcw (fun a' U hW => word_at hW (Or.inl (by first | rfl | simp [Cond.onTables, Cond.keeps, Cond.steady])) hini)
  obtain ⟨hx, hb, hml, ho, -⟩ := S
  have hPc := hp.2
  intro T hT X
  obtain ⟨v, vm₁, ⟨U', l2, c2, s2⟩, hW₁, X', ⟨g', mk, t, L, e1, e2, hq, h1, hL, h2, h3⟩, st⟩ := callI X hx (bytes := bytes) (maxL := maxL) ho hy1 hl hin hcode hy hK hg (hsize.trans hml.symm) (a := b) (argsL := As) (rest := rest) (fun sig h => hn.trans (hlen sig h)) hstack hW (by rw [hb]; exact hdg)
    (fun vm₁ hW₁ => ⟨hf.1, hf.2, hPc (T.setVm vm₁) hT hW₁⟩)
  dsimp only [Pt.U, Pt.locs, Pt.cells, Pt.slots] at X' e1 e2 h1 h2 h3 st
  subst h1; subst h2; subst h3
  exact ⟨v, (T.setVm vm₁).calling g' mk (Value.ref b :: As).toArray, t, U', L, hT, X', hL, e1, e2, hq, st⟩
theorem h_runVN0 {p : Program} {l : Launch} {e : Env} {R : Room} {s : State} {m : MethodId} {args : Array Value} {below : List Frame} {meth : Method} {c : Code} {H : Heap} {locs : List Loc} {cells slots : Nat} {y : MethodName} {bytes cc : ByteArray} {maxL nL mc ms n index : Nat} {ws : List Cond} {rm : Room} {Pc : Array Value → State → Prop} {Qc : Array Value → State → Outcome → State → Prop} {free : Addr → Prop} {Ts : List Cond} {own : String} {host : String} {ret : Option FieldType} {C : String} {b : Addr} {As rest : List Value} {g : JFrame}
    (S : CallFix p m c cc nL s args Ts own) (hM : Met l y ws rm Pc Qc mc ms free) (cw : va_CN R s args own index y host bytes maxL ret ws rm rm.cells rm.slots n ∧ (Cond.instanceMethod y).before args s = true ∧ (Cond.selects C y y).before args s = true) (hp : PreV s H C b Pc As)
    (hg : g.method = m) (hn : As.length = n) (hsize : g.locals.size = nL) (hstack : g.stack = As.reverse ++ .ref b :: rest) (hW : 2 * g.monitorRoom + (rest.map fun v => v.category).sum ≤ 8) (hdg : decode cc g.pc = .ok (.invokevirtual index, 3)) (hf : cells + rm.cells ≤ R.cells ∧ slots + rm.slots ≤ R.slots) :
    va_Run p l e R s m args below meth c H locs cells slots mc ms g rest (Qc (Value.ref b :: As).toArray) (free) := by
  obtain ⟨⟨⟨-, -, hfr, hlo, hws, hcw⟩, hcode, hini, hy, hlen, hl⟩, hx1, hx2⟩ := cw
  have hK : Back l R p e below s args y 3 8 (PreOf R rm.cells rm.slots Pc) (PostOf Qc mc ms free) := h_back (bytes := bytes) (maxL := maxL) (ret := ret) hM hp.1 hfr hlo hws hcw (fun a' U hW => word_at hW (Or.inl (by first | rfl | simp [Cond.onTables, Cond.keeps, Cond.steady])) hini)
  obtain ⟨hx, hb, hml, ho, -⟩ := S
  obtain ⟨-, ⟨cellB, hcB, hoB, hclB⟩, hPc⟩ := hp
  intro T hT X
  obtain ⟨v, vm₁, ⟨U', l2, c2, s2⟩, hW₁, X', ⟨g', mk, t, L, e1, e2, hq, h1, hL, h2, h3⟩, st⟩ := va_callVN X hx (C := C) (bytes := bytes) (maxL := maxL) (ret := ret) ho hl hx1 hx2 hcode hy hK (by rw [hT]; exact hcB) hoB hclB hg (hsize.trans hml.symm) (argsL := As) (rest := rest) (fun sig h => hn.trans (hlen sig h)) hstack hW (by rw [hb]; exact hdg)
    (fun vm₁ hW₁ => ⟨hf.1, hf.2, hPc (T.setVm vm₁) hT hW₁⟩)
  dsimp only [Pt.U, Pt.locs, Pt.cells, Pt.slots] at X' e1 e2 h1 h2 h3 st
  subst h1; subst h2; subst h3
  exact ⟨v, (T.setVm vm₁).calling g' mk (Value.ref b :: As).toArray, t, U', L, hT, X', hL, e1, e2, hq, st⟩
theorem h_runSN0 {p : Program} {l : Launch} {e : Env} {R : Room} {s : State} {m : MethodId} {args : Array Value} {below : List Frame} {meth : Method} {c : Code} {H : Heap} {locs : List Loc} {cells slots : Nat} {y : MethodName} {bytes cc : ByteArray} {maxL nL mc ms n index : Nat} {ws : List Cond} {rm : Room} {Pc : Array Value → State → Prop} {Qc : Array Value → State → Outcome → State → Prop} {free : Addr → Prop} {Ts : List Cond} {own : String} {host : String} {ret : Option FieldType} {As rest : List Value} {g : JFrame}
    (S : CallFix p m c cc nL s args Ts own) (hM : Met l y ws rm Pc Qc mc ms free) (cw : va_CN R s args own index y host bytes maxL ret ws rm rm.cells rm.slots n ∧ (Cond.static y).before args s = true) (hp : PreS s H Pc As)
    (hg : g.method = m) (hn : As.length = n) (hsize : g.locals.size = nL) (hstack : g.stack = As.reverse ++ rest) (hW : 2 * g.monitorRoom + (rest.map fun v => v.category).sum ≤ 8) (hdg : decode cc g.pc = .ok (.invokestatic index, 3)) (hf : cells + rm.cells ≤ R.cells ∧ slots + rm.slots ≤ R.slots) :
    va_Run p l e R s m args below meth c H locs cells slots mc ms g rest (Qc As.toArray) (free) := by
  obtain ⟨⟨⟨-, -, hfr, hlo, hws, hcw⟩, hcode, hini, hy, hlen, hl⟩, hx1⟩ := cw
  have hK : Back l R p e below s args y 3 8 (PreOf R rm.cells rm.slots Pc) (PostOf Qc mc ms free) := h_back (bytes := bytes) (maxL := maxL) (ret := ret) hM hp.1 hfr hlo hws hcw (fun a' U hW => word_at hW (Or.inl (by first | rfl | simp [Cond.onTables, Cond.keeps, Cond.steady])) hini)
  obtain ⟨hx, hb, hml, ho, -⟩ := S
  have hPc := hp.2
  intro T hT X
  obtain ⟨v, vm₁, ⟨U', l2, c2, s2⟩, hW₁, X', ⟨g', mk, t, L, e1, e2, hq, h1, hL, h2, h3⟩, st⟩ := va_callSN X hx (bytes := bytes) (maxL := maxL) (ret := ret) ho hl hx1 hini hcode hy hK hg (hsize.trans hml.symm) (argsL := As) (rest := rest) (fun sig h => hn.trans (hlen sig h)) hstack hW (by rw [hb]; exact hdg)
    (fun vm₁ hW₁ => ⟨hf.1, hf.2, hPc (T.setVm vm₁) hT hW₁⟩)
  dsimp only [Pt.U, Pt.locs, Pt.cells, Pt.slots] at X' e1 e2 h1 h2 h3 st
  subst h1; subst h2; subst h3
  exact ⟨v, (T.setVm vm₁).calling g' mk As.toArray, t, U', L, hT, X', hL, e1, e2, hq, st⟩
theorem h_runIN0 {p : Program} {l : Launch} {e : Env} {R : Room} {s : State} {m : MethodId} {args : Array Value} {below : List Frame} {meth : Method} {c : Code} {H : Heap} {locs : List Loc} {cells slots : Nat} {y : MethodName} {bytes cc : ByteArray} {maxL nL mc ms n index : Nat} {ws : List Cond} {rm : Room} {Pc : Array Value → State → Prop} {Qc : Array Value → State → Outcome → State → Prop} {free : Addr → Prop} {Ts : List Cond} {own : String} {host : String} {b : Addr} {As rest : List Value} {g : JFrame}
    (S : CallFix p m c cc nL s args Ts own) (hM : Met l y ws rm Pc Qc mc ms free) (cw : va_CN R s args own index y host bytes maxL none ws rm rm.cells rm.slots n ∧ y.name = "<init>" ∧ (Cond.instanceMethod y).before args s = true) (hp : PreS s H Pc (.ref b :: As))
    (hg : g.method = m) (hn : As.length = n) (hsize : g.locals.size = nL) (hstack : g.stack = As.reverse ++ .ref b :: rest) (hW : 2 * g.monitorRoom + (rest.map fun v => v.category).sum ≤ 8) (hdg : decode cc g.pc = .ok (.invokespecial index, 3)) (hf : cells + rm.cells ≤ R.cells ∧ slots + rm.slots ≤ R.slots) :
    va_Run p l e R s m args below meth c H locs cells slots mc ms g rest (Qc (Value.ref b :: As).toArray) (free) := by
  obtain ⟨⟨⟨-, -, hfr, hlo, hws, hcw⟩, hcode, hini, hy, hlen, hl⟩, hx1, hx2⟩ := cw
  have hK : Back l R p e below s args y 3 8 (PreOf R rm.cells rm.slots Pc) (PostOf Qc mc ms free) := h_back (bytes := bytes) (maxL := maxL) (ret := none) hM hp.1 hfr hlo hws hcw (fun a' U hW => word_at hW (Or.inl (by first | rfl | simp [Cond.onTables, Cond.keeps, Cond.steady])) hini)
  obtain ⟨hx, hb, hml, ho, -⟩ := S
  have hPc := hp.2
  intro T hT X
  obtain ⟨v, vm₁, ⟨U', l2, c2, s2⟩, hW₁, X', ⟨g', mk, t, L, e1, e2, hq, h1, hL, h2, h3⟩, st⟩ := va_callIN X hx (bytes := bytes) (maxL := maxL) ho hx1 hl hx2 hcode hy hK hg (hsize.trans hml.symm) (a := b) (argsL := As) (rest := rest) (fun sig h => hn.trans (hlen sig h)) hstack hW (by rw [hb]; exact hdg)
    (fun vm₁ hW₁ => ⟨hf.1, hf.2, hPc (T.setVm vm₁) hT hW₁⟩)
  dsimp only [Pt.U, Pt.locs, Pt.cells, Pt.slots] at X' e1 e2 h1 h2 h3 st
  subst h1; subst h2; subst h3
  exact ⟨v, (T.setVm vm₁).calling g' mk (Value.ref b :: As).toArray, t, U', L, hT, X', hL, e1, e2, hq, st⟩
theorem h_runU0 {p : Program} {l : Launch} {e : Env} {R : Room} {s : State} {m : MethodId} {args : Array Value} {below : List Frame} {meth : Method} {c : Code} {H : Heap} {locs : List Loc} {cells slots : Nat} {y : MethodName} {bytes cc : ByteArray} {maxL nL mc ms n index : Nat} {ws : List Cond} {rm : Room} {Pc : Array Value → State → Prop} {Qc : Array Value → State → Outcome → State → Prop} {free : Addr → Prop} {Ts : List Cond} {own : String} {owner : String} {x : MethodName} {ret : Option FieldType} {C : String} {b : Addr} {As rest : List Value} {g : JFrame}
    (S : CallFix p m c cc nL s args Ts own) (hM : Met l y ws rm Pc Qc mc ms free) (cw : va_CU R s args own C owner index x y bytes maxL ret ws rm rm.cells rm.slots n) (hp : PreV s H C b Pc As)
    (hg : g.method = m) (hn : As.length = n) (hsize : g.locals.size = nL) (hstack : g.stack = As.reverse ++ .ref b :: rest) (hW : 2 * g.monitorRoom + (rest.map fun v => v.category).sum ≤ 8) (hdg : decode cc g.pc = .ok (.invokevirtual index, 3)) (hf : cells + rm.cells ≤ R.cells ∧ slots + rm.slots ≤ R.slots) :
    va_Run p l e R s m args below meth c H locs cells slots mc ms g rest (Qc (Value.ref b :: As).toArray) (free) := by
  obtain ⟨-, -, hfr, hlo, hws, hcw⟩ := cw.back
  have hini := cw.init
  have hK : Back l R p e below s args y 3 8 (PreOf R rm.cells rm.slots Pc) (PostOf Qc mc ms free) := h_back (bytes := bytes) (maxL := maxL) (ret := ret) hM hp.1 hfr hlo hws hcw (fun a' U hW => word_at hW (Or.inl (by first | rfl | simp [Cond.onTables, Cond.keeps, Cond.steady])) hini)
  obtain ⟨hx, hb, hml, ho, -⟩ := S
  obtain ⟨-, ⟨cellB, hcB, hoB, hclB⟩, hPc⟩ := hp
  intro T hT X
  obtain ⟨v, vm₁, ⟨U', l2, c2, s2⟩, hW₁, X', ⟨g', mk, t, L, e1, e2, hq, h1, hL, h2, h3⟩, st⟩ := va_callVU X hx (C := C) (owner := owner) (bytes := bytes) (maxL := maxL) (ret := ret) ho cw.link cw.same cw.decl cw.notMH cw.sel cw.inst cw.code hK (by rw [hT]; exact hcB) hoB hclB hg (hsize.trans hml.symm) (argsL := As) (rest := rest) (fun sig h => hn.trans (cw.len sig h)) hstack hW (by rw [hb]; exact hdg)
    (fun vm₁ hW₁ => ⟨hf.1, hf.2, hPc (T.setVm vm₁) hT hW₁⟩)
  dsimp only [Pt.U, Pt.locs, Pt.cells, Pt.slots] at X' e1 e2 h1 h2 h3 st
  subst h1; subst h2; subst h3
  exact ⟨v, (T.setVm vm₁).calling g' mk (Value.ref b :: As).toArray, t, U', L, hT, X', hL, e1, e2, hq, st⟩
theorem h_runSU0 {p : Program} {l : Launch} {e : Env} {R : Room} {s : State} {m : MethodId} {args : Array Value} {below : List Frame} {meth : Method} {c : Code} {H : Heap} {locs : List Loc} {cells slots : Nat} {y : MethodName} {bytes cc : ByteArray} {maxL nL mc ms n index : Nat} {ret : Option FieldType} {ws : List Cond} {rm : Room} {Pc : Array Value → State → Prop} {Qc : Array Value → State → Outcome → State → Prop} {free : Addr → Prop} {Ts : List Cond} {own C : String} {cC : ClassId} {b : Addr} {As rest : List Value} {g : JFrame}
    (hat : ClassAt s C cC) (S : CallFix p m c cc nL s args Ts own) (hM : Met l y ws rm Pc Qc mc ms free) (cw : va_CS R s args own index y bytes maxL ret ws rm rm.cells rm.slots n) (hp : PreV s H C b Pc As)
    (hg : g.method = m) (hn : As.length = n) (hsize : g.locals.size = nL) (hstack : g.stack = As.reverse ++ .ref b :: rest) (hW : 2 * g.monitorRoom + (rest.map fun v => v.category).sum ≤ 8) (hdg : decode cc g.pc = .ok (.invokespecial index, 3)) (hf : cells + rm.cells ≤ R.cells ∧ slots + rm.slots ≤ R.slots) :
    va_Run p l e R s m args below meth c H locs cells slots mc ms g rest (Qc (Value.ref b :: As).toArray) (free) := by
  obtain ⟨⟨hrc, hrs, hfr, hlo, hws, hcw⟩, hl1, hl2, hl3, hl4, hini, hcode, hno, hlen⟩ := cw
  have hK : Back l R p e below s args y 3 8 (PreOf R rm.cells rm.slots Pc) (PostOf Qc mc ms free) := h_back (bytes := bytes) (maxL := maxL) (ret := ret) hM hp.1 hfr hlo hws hcw (fun a' U hW => word_at hW (Or.inl (by first | rfl | simp [Cond.onTables, Cond.keeps, Cond.steady])) hini)
  obtain ⟨hx, hb, hml, ho, -⟩ := S
  obtain ⟨-, ⟨cellB, hcB, hoB, hclB⟩, hPc⟩ := hp
  obtain ⟨hfc, kB, hkB, -⟩ := hat
  cases hfc.symm.trans hclB
  intro T hT X
  obtain ⟨v, vm₁, ⟨U', l2, c2, s2⟩, hW₁, X', ⟨g', mk, t, L, e1, e2, hq, h1, hL, h2, h3⟩, st⟩ := va_callSU X hx (bytes := bytes) (maxL := maxL) (ret := ret) ho hl1 hl2 hl3 hl4 hcode hno hK (by rw [hT]; exact hcB) hoB hkB hg (hsize.trans hml.symm) (argsL := As) (rest := rest) (fun sig h => hn.trans (hlen sig h)) hstack hW (by rw [hb]; exact hdg)
    (fun vm₁ hW₁ => ⟨hf.1, hf.2, hPc (T.setVm vm₁) hT hW₁⟩)
  dsimp only [Pt.U, Pt.locs, Pt.cells, Pt.slots] at X' e1 e2 h1 h2 h3 st
  subst h1; subst h2; subst h3
  exact ⟨v, (T.setVm vm₁).calling g' mk (Value.ref b :: As).toArray, t, U', L, hT, X', hL, e1, e2, hq, st⟩

section HR
variable {p : Program} {l : Launch} {e : Env} {R : Room} {s : State} {m : MethodId} {args : Array Value} {below : List Frame} {meth : Method} {c : Code} {H : Heap} {locs : List Loc} {cells slots : Nat} {Q : State → Prop} {G : GL} {x : CS} {y y0 : MS} {o : Nat → Int32} {cc : ByteArray} {nL pc : Nat} {own : String} {rt : Option FieldType} {ls : Array Slot} {rest : List Value} {idx : Nat}
theorem h_up (C0 : g_X G (List.range 120) p s m args meth c cc nL own rt) (y : MS) : g_X G (g_is y) p s m args meth c cc nL own rt := ⟨C0.hx, C0.hb, C0.hml, C0.hown, C0.hts, C0.hlk, C0.hr, fun i h => List.mem_append_left _ (List.mem_range.mpr h), C0.hG⟩
theorem h_blind {S : SS} {as : List Value} : FrameBlind (va_Pc as (h_P G S)) := fun a U g mk q => ⟨(g_blind (as := as) a U g mk ⟨q.1, q.2.1⟩).1, (g_blind (as := as) a U g mk ⟨q.1, q.2.1⟩).2, q.2.2.1, q.2.2.2⟩
theorem h_size {g : JFrame} (k : H.size ≤ s.heap.size + cells → W p l e R s m args below meth c H locs cells slots Q g) : W p l e R s m args below meth c H locs cells slots Q g := fun T hT X => k (by rw [← hT]; exact X.heapSize) T hT X
theorem h_comp {A : Nat → Prop} {H0 H1 : Heap} {locs1 : List Loc} (h : va_S A H0 H locs) (h1 : va_S A H H1 locs1) : va_S A H0 H1 locs1 := ⟨Nat.le_trans h.1 h1.1, fun q a b => (h1.2.1 q (Nat.lt_of_lt_of_le a h.1) b).trans (h.2.1 q a b), h1.2.2⟩
theorem h_loc {A : Nat → Prop} {H0 : Heap} (h : va_S A H0 H locs) : va_S A H H locs := ⟨Nat.le_refl _, fun _ _ _ => rfl, h.2.2⟩
theorem h_W.mem (hW : h_W G y0 (x, y, o) s.heap H locs) {i : Nat} (h : h_K y i ≠ 0) : i ∈ g_is y := List.mem_append_right _ (hW.2.2.2.2.2.2.2.2.1 i h)
theorem h_W.hi (hW : h_W G y0 (x, y, o) s.heap H locs) {i : Nat} (h : h_K y i ≠ 0) : 200 ≤ i := (hW.2.2.2.2.2.2.2.2.2 i (hW.2.2.2.2.2.2.2.2.1 i h)).1
theorem h_W.lt (hW : h_W G y0 (x, y, o) s.heap H locs) {i : Nat} (h : h_K y i ≠ 0) : i < h_nx y := (hW.2.2.2.2.2.2.2.2.2 i (hW.2.2.2.2.2.2.2.2.1 i h)).2
theorem h_W.rf (hW : h_W G y0 (x, y, o) s.heap H locs) {i : Nat} (h : h_K y i ≠ 0) : g_rf G i = .ref (g_ad G i) := g_rfp (hW.hi h)
theorem h_W.ro (hW : h_W G y0 (x, y, o) s.heap H locs) {i : Nat} (h : h_K y i ≠ 0) : g_ro G i = some (g_ad G i) := by
  unfold g_ro
  rw [if_neg (by have := hW.hi h; omega)]
theorem h_W.ce (hW : h_W G y0 (x, y, o) s.heap H locs) {i : Nat} (h : h_K y i ≠ 0) {e : va_E} (hc : h_c G y i = e) : g_c G (x, y, o) i = e := (g_cl (hW.hi h)).trans hc
theorem h_ne {y : MS} {i k : Nat} (h : h_K y i = k) (hk : k ≠ 0) : h_K y i ≠ 0 := by rw [h]; exact hk
theorem h_entry {yn : MethodName} {ret : Option FieldType} {as : List Value} {maxL mc ms k : Nat} {Qc : Array Value → State → Outcome → State → Prop} (hy : plainName yn.cls = true) (hlen : (lg_sl as).length ≤ maxL)
    (body : ∀ (p : Program) (e : Env) (s : State) (m : MethodId) (args : Array Value) (below : List Frame) (meth : Method) (c : Code) (ls : Array Slot), g_X G (List.range 120) p s m args meth c cc maxL yn.cls ret → lv_has ls maxL (lv_args 0 as) → h_W G y (x, y, o) s.heap s.heap [] → (yn.name = "<init>" → meth.name = "<init>") → W p l e (h_lv k y) s m args below meth c s.heap [] (h_nx y - h_nx y) (h_sl y - h_sl y) (MQ below Qc args s mc ms (g_A G)) (F0 m 0 ls [])) : Met l yn (.code yn cc maxL ret :: gT) (h_lv k y) (va_Pc as (h_P G (x, y, o))) Qc mc ms (g_A G) := by
  refine Met.ofW (cc := cc) (maxL := maxL) (ret := ret) hy rfl ?_
  intro p e s m args below meth c s₁ B hml hv
  obtain ⟨rfl, ⟨hP, hD, hI, hG⟩, hz, hZ⟩ := hv
  have hts := atoms_spec (ws := .code yn cc maxL ret :: gT) B.pre
  rw [lg_entry_eq]
  have h9 := body p e s m _ below meth c _ ⟨B.exec, B.bytes, hml, findClass_of_methodNamed B.named, fun w h => hts w (List.mem_cons_of_mem _ h), B.notSynchronized, B.returns, fun i h => List.mem_range.mpr h, hG⟩ (lv_entry as hlen) ⟨⟨hP, hD, va_S.rf⟩, hz, hz, Nat.le_refl _, Nat.le_refl _, hZ⟩ (fun h => by rw [← h]; exact (name_of_methodNamed B.named B.method).1)
  rw [Nat.sub_self, Nat.sub_self] at h9
  exact h9
theorem h_end {t : State} (hW : h_W G y0 (x, y, o) s.heap H locs) (ht : t.heap = H) : h_B G y0 (x, y, o) t ∧ va_F (g_A G) s t := ⟨⟨(g_end hW.1 ht).1, by rw [ht]; exact hW.2.1, hW.2.2.2.1, hW.2.2.2.2.1, hW.2.2.2.2.2⟩, (g_end hW.1 ht).2⟩
theorem h_iret (C0 : g_X G (List.range 120) p s m args meth c cc nL own rt) (hW : h_W G y0 (x, y, o) s.heap H locs) {ty : FieldType} {v : Int32} (hrt : rt = some ty) (hn : narrow ty (.int v) = .int v) (hdg : decode cc pc = .ok (.ireturn, 1)) : W p l e R s m args below meth c H locs cells slots (MQ below (h_Qi G y0 v (x, y, o)) args s cells slots (g_A G)) (F0 m pc ls [.int v]) := by
  subst hrt
  exact W.zret C0.hx C0.hb C0.hr hn (fun t ht _ => ⟨⟨v, (), rfl, rfl, (h_end hW ht).1⟩, (h_end hW ht).2⟩) hW.1.2.2.2.2 hdg C0.hlk
theorem h_vret (C0 : g_X G (List.range 120) p s m args meth c cc nL own rt) (hW : h_W G y0 (x, y, o) s.heap H locs) (hrt : rt = none) (hdg : decode cc pc = .ok (.return_, 1)) : W p l e R s m args below meth c H locs cells slots (MQ below (h_Qv G y0 (x, y, o)) args s cells slots (g_A G)) (F0 m pc ls []) := by
  subst hrt
  exact W.vret C0.hx C0.hb C0.hr (fun t ht _ => ⟨⟨(), rfl, trivial, (h_end hW ht).1⟩, (h_end hW ht).2⟩) hW.1.2.2.2.2 hdg C0.hlk
theorem h_aretC (C0 : g_X G (List.range 120) p s m args meth c cc nL own rt) (hW : h_W G y0 (x, y, o) s.heap H locs) {C : String} {v : Value} {a : Nat} (hv : v = .ref a) (hrt : rt = some (.object C)) (hdg : decode cc pc = .ok (.areturn, 1)) : W p l e R s m args below meth c H locs cells slots (MQ below (h_Qr G y0 v (x, y, o)) args s cells slots (g_A G)) (F0 m pc ls [v]) := by
  subst hrt hv
  exact W.aret C0.hx C0.hb C0.hr (Or.inl ⟨_, rfl⟩) (Or.inr ⟨_, rfl⟩) (fun t ht _ => ⟨⟨(), a, rfl, trivial, rfl, (h_end hW ht).1⟩, (h_end hW ht).2⟩) hW.1.2.2.2.2 hdg C0.hlk
theorem h_aretA (C0 : g_X G (List.range 120) p s m args meth c cc nL own rt) (hW : h_W G y0 (x, y, o) s.heap H locs) {ty : FieldType} {v : Value} {a : Nat} (hv : v = .ref a) (hrt : rt = some (.array ty)) (hdg : decode cc pc = .ok (.areturn, 1)) : W p l e R s m args below meth c H locs cells slots (MQ below (h_Qr G y0 v (x, y, o)) args s cells slots (g_A G)) (F0 m pc ls [v]) := by
  subst hrt hv
  exact W.aret C0.hx C0.hb C0.hr (Or.inr ⟨_, rfl⟩) (Or.inr ⟨_, rfl⟩) (fun t ht _ => ⟨⟨(), a, rfl, trivial, rfl, (h_end hW ht).1⟩, (h_end hW ht).2⟩) hW.1.2.2.2.2 hdg C0.hlk
/-- calls of the class: no cell comes -/
theorem h_kK (hW : h_W G y0 (x, y, o) s.heap H locs) {x1 : CS} {t : State} {locs1 : List Loc} (hB : g_B G (g_is y) (x1, y, o) t) (hz : H.size ≤ t.heap.size) (hS : va_S (g_A G) s.heap t.heap locs1) (hs : t.heap.size ≤ s.heap.size + (h_nx y - h_nx y0)) : h_W G y0 (x1, y, o) s.heap t.heap locs1 := by
  refine ⟨⟨hB.1, hB.2, hS⟩, ?_, hW.2.2⟩
  have h1 := hW.2.1
  have h2 := hW.2.2.1
  have h3 := hW.2.2.2.1
  show g_b G + h_nx y = _
  change g_b G + h_nx y = H.size + 200 at h1
  change h_nx y0 ≤ h_nx y at h3
  omega
variable {st0 : List Value} {a0 : Array Value} {mc ms : Nat}
theorem h_kcalli (hW : h_W G y0 (x, y, o) s.heap H locs) {r : Int32} {x1 : CS} (hr : va_Run p l e R s m args below meth c H locs (h_nx y - h_nx y0) slots 0 0 (F0 m pc ls st0) rest (g_Qi G (g_is y) r (x1, y, o) a0) (g_A G)) (kk : ∀ (H1 : Heap) (locs1 : List Loc), h_W G y0 (x1, y, o) s.heap H1 locs1 → W p l e R s m args below meth c H1 locs1 (h_nx y - h_nx y0) slots Q (F0 m (pc + 3) ls (.int r :: rest))) : W p l e R s m args below meth c H locs (h_nx y - h_nx y0) slots Q (F0 m pc ls st0) := by
  refine va_calli hr hW.1.2.2 (fun q _ h => h) (fun q h => h) (fun r1 u t H1 locs1 ht hvm hp hB hz hk hS => ?_)
  subst ht hp
  exact h_size (fun hs => kk _ _ (h_kK hW hB hz hS hs))
theorem h_kcalll (hW : h_W G y0 (x, y, o) s.heap H locs) {r : Int64} {x1 : CS} (hr : va_Run p l e R s m args below meth c H locs (h_nx y - h_nx y0) slots 0 0 (F0 m pc ls st0) rest (g_Ql G (g_is y) r (x1, y, o) a0) (g_A G)) (kk : ∀ (H1 : Heap) (locs1 : List Loc), h_W G y0 (x1, y, o) s.heap H1 locs1 → W p l e R s m args below meth c H1 locs1 (h_nx y - h_nx y0) slots Q (F0 m (pc + 3) ls (.long r :: rest))) : W p l e R s m args below meth c H locs (h_nx y - h_nx y0) slots Q (F0 m pc ls st0) := by
  refine va_calll hr hW.1.2.2 (fun q _ h => h) (fun q h => h) (fun r1 u t H1 locs1 ht hvm hp hB hz hk hS => ?_)
  subst ht hp
  exact h_size (fun hs => kk _ _ (h_kK hW hB hz hS hs))
theorem h_kcalld (hW : h_W G y0 (x, y, o) s.heap H locs) {r : UInt64} {x1 : CS} (hr : va_Run p l e R s m args below meth c H locs (h_nx y - h_nx y0) slots 0 0 (F0 m pc ls st0) rest (g_Qd G (g_is y) r (x1, y, o) a0) (g_A G)) (kk : ∀ (H1 : Heap) (locs1 : List Loc), h_W G y0 (x1, y, o) s.heap H1 locs1 → W p l e R s m args below meth c H1 locs1 (h_nx y - h_nx y0) slots Q (F0 m (pc + 3) ls (.double r :: rest))) : W p l e R s m args below meth c H locs (h_nx y - h_nx y0) slots Q (F0 m pc ls st0) := by
  refine va_calld hr hW.1.2.2 (fun q _ h => h) (fun q h => h) (fun r1 u t H1 locs1 ht hvm hp hB hz hk hS => ?_)
  subst ht hp
  exact h_size (fun hs => kk _ _ (h_kK hW hB hz hS hs))
theorem h_kcallv (hW : h_W G y0 (x, y, o) s.heap H locs) {x1 : CS} (hr : va_Run p l e R s m args below meth c H locs (h_nx y - h_nx y0) slots 0 0 (F0 m pc ls st0) rest (g_Qv G (g_is y) (x1, y, o) a0) (g_A G)) (kk : ∀ (H1 : Heap) (locs1 : List Loc), h_W G y0 (x1, y, o) s.heap H1 locs1 → W p l e R s m args below meth c H1 locs1 (h_nx y - h_nx y0) slots Q (F0 m (pc + 3) ls rest)) : W p l e R s m args below meth c H locs (h_nx y - h_nx y0) slots Q (F0 m pc ls st0) := by
  refine va_callv hr hW.1.2.2 (fun q _ h => h) (fun q h => h) (fun u t H1 locs1 ht hvm hp hB hz hk hS => ?_)
  subst ht
  exact h_size (fun hs => kk _ _ (h_kK hW hB hz hS hs))
/-- calls of the law's own methods -/
theorem h_lK {S1 : SS} (hW : h_W G y0 (x, y, o) s.heap H locs) {t : State} {locs1 : List Loc} (hB : h_B G y S1 t) (hS : va_S (g_A G) s.heap t.heap locs1) : h_W G y0 S1 s.heap t.heap locs1 := ⟨⟨hB.1.1, hB.1.2, hS⟩, hB.2.1, hW.2.2.1, Nat.le_trans hW.2.2.2.1 hB.2.2.1, Nat.le_trans hW.2.2.2.2.1 hB.2.2.2.1, hB.2.2.2.2⟩
theorem h_cnt {S1 : SS} (hW : h_W G y0 (x, y, o) s.heap H locs) {t : State} (hB : h_B G y S1 t) : h_nx y - h_nx y0 + (h_nx S1.2.1 - h_nx y) = h_nx S1.2.1 - h_nx y0 ∧ h_sl y - h_sl y0 + (h_sl S1.2.1 - h_sl y) = h_sl S1.2.1 - h_sl y0 := by
  have h1 : h_nx y0 ≤ h_nx y := hW.2.2.2.1
  have h2 : h_sl y0 ≤ h_sl y := hW.2.2.2.2.1
  have h3 := hB.2.2.1
  have h4 := hB.2.2.2.1
  exact ⟨by omega, by omega⟩
theorem h_calli {S1 : SS} (hW : h_W G y0 (x, y, o) s.heap H locs) {r : Int32} (hr : va_Run p l e R s m args below meth c H locs (h_nx y - h_nx y0) (h_sl y - h_sl y0) (h_nx S1.2.1 - h_nx y) (h_sl S1.2.1 - h_sl y) (F0 m pc ls st0) rest (h_Qi G y r S1 a0) (g_A G)) (kk : ∀ (H1 : Heap) (locs1 : List Loc), h_W G y0 S1 s.heap H1 locs1 → W p l e R s m args below meth c H1 locs1 (h_nx S1.2.1 - h_nx y0) (h_sl S1.2.1 - h_sl y0) Q (F0 m (pc + 3) ls (.int r :: rest))) : W p l e R s m args below meth c H locs (h_nx y - h_nx y0) (h_sl y - h_sl y0) Q (F0 m pc ls st0) := by
  refine va_calli hr hW.1.2.2 (fun q _ h => h) (fun q h => h) (fun r1 u t H1 locs1 ht hvm hp hB hz hk hS => ?_)
  subst ht hp
  rw [(h_cnt hW hB).1, (h_cnt hW hB).2]
  exact kk _ _ (h_lK hW hB hS)
theorem h_callv {S1 : SS} (hW : h_W G y0 (x, y, o) s.heap H locs) (hr : va_Run p l e R s m args below meth c H locs (h_nx y - h_nx y0) (h_sl y - h_sl y0) (h_nx S1.2.1 - h_nx y) (h_sl S1.2.1 - h_sl y) (F0 m pc ls st0) rest (h_Qv G y S1 a0) (g_A G)) (kk : ∀ (H1 : Heap) (locs1 : List Loc), h_W G y0 S1 s.heap H1 locs1 → W p l e R s m args below meth c H1 locs1 (h_nx S1.2.1 - h_nx y0) (h_sl S1.2.1 - h_sl y0) Q (F0 m (pc + 3) ls rest)) : W p l e R s m args below meth c H locs (h_nx y - h_nx y0) (h_sl y - h_sl y0) Q (F0 m pc ls st0) := by
  refine va_callv hr hW.1.2.2 (fun q _ h => h) (fun q h => h) (fun u t H1 locs1 ht hvm hp hB hz hk hS => ?_)
  subst ht
  rw [(h_cnt hW hB).1, (h_cnt hW hB).2]
  exact kk _ _ (h_lK hW hB hS)
theorem h_callr {S1 : SS} (hW : h_W G y0 (x, y, o) s.heap H locs) {v : Value} (hr : va_Run p l e R s m args below meth c H locs (h_nx y - h_nx y0) (h_sl y - h_sl y0) (h_nx S1.2.1 - h_nx y) (h_sl S1.2.1 - h_sl y) (F0 m pc ls st0) rest (h_Qr G y v S1 a0) (g_A G)) (kk : ∀ (H1 : Heap) (locs1 : List Loc), h_W G y0 S1 s.heap H1 locs1 → W p l e R s m args below meth c H1 locs1 (h_nx S1.2.1 - h_nx y0) (h_sl S1.2.1 - h_sl y0) Q (F0 m (pc + 3) ls (v :: rest))) : W p l e R s m args below meth c H locs (h_nx y - h_nx y0) (h_sl y - h_sl y0) Q (F0 m pc ls st0) := by
  refine va_callr hr hW.1.2.2 (fun q _ h => h) (fun q h => h) (fun u ra t H1 locs1 ht hvm hp hB hz hk hS => ?_)
  obtain ⟨rfl, hB⟩ := hB
  subst ht
  rw [(h_cnt hW hB).1, (h_cnt hW hB).2]
  exact kk _ _ (h_lK hW hB hS)
theorem h_pre (C0 : g_X G (List.range 120) p s m args meth c cc nL own rt) (hW : h_W G y0 (x, y, o) s.heap H locs) {U : State} (hU : U.heap = H) (hw : s.WarmedH U.vm) : h_P G (x, y, o) U := ⟨g_pre (h_up C0 y) hW.1 hU hw, by rw [hU]; exact hW.2.1, hW.2.2.2.2.2⟩
theorem h_recv (C0 : g_X G (List.range 120) p s m args meth c cc nL own rt) (hW : h_W G y0 (x, y, o) s.heap H locs) {i ci : Nat} {fs : List Value} {q : vw_C} (hi : h_K y i ≠ 0) (hc : h_c G y i = .inr (ci, fs)) (hcl : vwCl[ci]? = some q) : ∃ cell : Cell, H[g_ad G i]? = some cell ∧ cell.vm.isStatics = false ∧ s.vm.findClass q.1 = some cell.cls := g_recv (h_up C0 y) hW.1 (hW.mem hi) (hW.ce hi hc) hcl
theorem h_srecv (C0 : g_X G (List.range 120) p s m args meth c cc nL own rt) (hW : h_W G y0 (x, y, o) s.heap H locs) {i : Nat} (h : h_sok y i = true) : ∃ cell : Cell, H[g_sa G i]? = some cell ∧ cell.vm.isStatics = false ∧ s.vm.findClass "java/lang/String" = some cell.cls := by
  rcases Bool.or_eq_true_iff.mp h with h1 | h1
  · have h2 := of_decide_eq_true h1
    rw [g_sa_lo h2]
    exact va_Orecv (C0.S3 i h2).1 hW.1.2.2
  · have h2 := h_ne (of_decide_eq_true h1) (by decide)
    rw [g_sa_hi (hW.hi h2)]
    exact h_recv C0 hW h2 (h_c55 (of_decide_eq_true h1)) rfl
/-- words and room of a call of the law's -/
theorem h_rmf {k k1 maxL : Nat} (hW : h_W G y0 (x, y, o) s.heap H locs) (h4 : maxL ≤ 40) (h5 : k1 + 1 ≤ k) : ((h_lv k1 y).frames + 1 ≤ (h_lv k y0).frames ∧ 8 + (maxL + 11) + (h_lv k1 y).locals ≤ (h_lv k y0).locals) ∧ (h_nx y - h_nx y0 + (h_lv k1 y).cells ≤ (h_lv k y0).cells ∧ h_sl y - h_sl y0 + (h_lv k1 y).slots ≤ (h_lv k y0).slots) := by
  have h1 : h_nx y0 ≤ h_nx y := hW.2.2.2.1
  have h2 : h_sl y0 ≤ h_sl y := hW.2.2.2.2.1
  have h3 : h_nx y ≤ h_cap := hW.2.2.2.2.2.1
  have h6 : h_sl y ≤ h_scap := hW.2.2.2.2.2.2.1
  refine ⟨⟨h5, ?_⟩, ?_, ?_⟩
  · show 8 + (maxL + 11) + 64 * k1 ≤ 64 * k
    omega
  · show h_nx y - h_nx y0 + (h_cap - h_nx y) ≤ h_cap - h_nx y0
    omega
  · show h_sl y - h_sl y0 + (h_scap - h_sl y) ≤ h_scap - h_sl y0
    omega
/-- what every call of a method y wants of the tables -/
def h_cy (y : MethodName) (bytes : ByteArray) (maxL n : Nat) (ret : Option FieldType) : Prop := .code y bytes maxL ret ∈ gT ∧ .initialized y.cls ∈ gT ∧ (y.cls ≠ "java/lang/invoke/MethodHandle" ∧ y.cls ≠ "java/lang/invoke/VarHandle" ∧ (parseMethodDescriptor y.desc).map (fun d => d.parameters.length) = some n) ∧ maxL ≤ 40
variable {yn : MethodName} {bytes : ByteArray} {maxL n k k1 : Nat} {ret : Option FieldType} {As : List Value} {a : Nat} {v : Value} {Qc : Array Value → State → Outcome → State → Prop}
theorem h_runV (C0 : g_X G (List.range 120) p s m args meth c cc nL own rt) (hW : h_W G y0 (x, y, o) s.heap H locs) (hv : v = .ref a) (hrv : ∃ cell : Cell, H[a]? = some cell ∧ cell.vm.isStatics = false ∧ s.vm.findClass yn.cls = some cell.cls) (hM : Met l yn (.code yn bytes maxL ret :: gT) (h_lv k1 y) (va_Pc (v :: As) (h_P G (x, y, o))) Qc mc ms (g_A G)) (cy : h_cy yn bytes maxL n ret) (hlev : k1 + 1 ≤ k) (hl : .methodLink own idx yn ∈ gT) (h2 : .instanceMethod yn ∈ gT) (h3 : .selects yn.cls yn yn ∈ gT) (hn : As.length = n) (hsz : ls.size = nL) (hst : st0 = As.reverse ++ v :: rest) (hcat : (rest.map fun v => v.category).sum ≤ 8) (hdg : decode cc pc = .ok (.invokevirtual idx, 3)) : va_Run p l e (h_lv k y0) s m args below meth c H locs (h_nx y - h_nx y0) (h_sl y - h_sl y0) mc ms (F0 m pc ls st0) rest (Qc (v :: As).toArray) (g_A G) := by
  obtain ⟨w1, w2, w3, w4⟩ := cy
  subst hv
  exact h_runV0 (As := As) (rest := rest) C0.call hM (cwV n C0.hts (g_goodV hl h2 h3 w2 w1) rfl rfl rfl ⟨rfl, w3⟩ (h_rmf hW w4 hlev).1) ⟨h_blind, hrv, fun U hU hw => ⟨rfl, h_pre C0 hW hU hw⟩⟩ rfl hn hsz hst (by simpa using hcat) hdg (h_rmf (maxL := maxL) hW w4 hlev).2
theorem h_runVN {host : String} (C0 : g_X G (List.range 120) p s m args meth c cc nL own rt) (hW : h_W G y0 (x, y, o) s.heap H locs) (hv : v = .ref a) (hrv : ∃ cell : Cell, H[a]? = some cell ∧ cell.vm.isStatics = false ∧ s.vm.findClass yn.cls = some cell.cls) (hM : Met l yn (.code yn bytes maxL ret :: gT) (h_lv k1 y) (va_Pc (v :: As) (h_P G (x, y, o))) Qc mc ms (g_A G)) (cy : h_cy yn bytes maxL n ret) (hlev : k1 + 1 ≤ k) (hl : .methodLinkNest own idx yn host ∈ gN) (h2 : .instanceMethod yn ∈ gT) (h3 : .selects yn.cls yn yn ∈ gT) (hn : As.length = n) (hsz : ls.size = nL) (hst : st0 = As.reverse ++ v :: rest) (hcat : (rest.map fun v => v.category).sum ≤ 8) (hdg : decode cc pc = .ok (.invokevirtual idx, 3)) : va_Run p l e (h_lv k y0) s m args below meth c H locs (h_nx y - h_nx y0) (h_sl y - h_sl y0) mc ms (F0 m pc ls st0) rest (Qc (v :: As).toArray) (g_A G) := by
  obtain ⟨w1, w2, w3, w4⟩ := cy
  subst hv
  exact h_runVN0 (As := As) (rest := rest) C0.call hM ⟨va_cnB n C0.hts (g_good1 w1) rfl rfl rfl (C0.nest hl) (C0.hts _ w2) w3 (h_rmf hW w4 hlev).1, C0.hts _ h2, C0.hts _ h3⟩ ⟨h_blind, hrv, fun U hU hw => ⟨rfl, h_pre C0 hW hU hw⟩⟩ rfl hn hsz hst (by simpa using hcat) hdg (h_rmf (maxL := maxL) hW w4 hlev).2
theorem h_runS (C0 : g_X G (List.range 120) p s m args meth c cc nL own rt) (hW : h_W G y0 (x, y, o) s.heap H locs) (hM : Met l yn (.code yn bytes maxL ret :: gT) (h_lv k1 y) (va_Pc As (h_P G (x, y, o))) Qc mc ms (g_A G)) (cy : h_cy yn bytes maxL n ret) (hlev : k1 + 1 ≤ k) (hl : .methodLink own idx yn ∈ gT) (h2 : .static yn ∈ gT) (hn : As.length = n) (hsz : ls.size = nL) (hst : st0 = As.reverse ++ rest) (hcat : (rest.map fun v => v.category).sum ≤ 8) (hdg : decode cc pc = .ok (.invokestatic idx, 3)) : va_Run p l e (h_lv k y0) s m args below meth c H locs (h_nx y - h_nx y0) (h_sl y - h_sl y0) mc ms (F0 m pc ls st0) rest (Qc As.toArray) (g_A G) := by
  obtain ⟨w1, w2, w3, w4⟩ := cy
  exact h_runS0 (As := As) (rest := rest) C0.call hM ⟨callB_of n C0.hts (g_good1 w1) rfl rfl rfl (C0.hts _ w2) (C0.hts _ hl) w3 (h_rmf hW w4 hlev).1, C0.hts _ h2⟩ ⟨h_blind, fun U hU hw => ⟨rfl, h_pre C0 hW hU hw⟩⟩ rfl hn hsz hst (by simpa using hcat) hdg (h_rmf (maxL := maxL) hW w4 hlev).2
theorem h_runSN {host : String} (C0 : g_X G (List.range 120) p s m args meth c cc nL own rt) (hW : h_W G y0 (x, y, o) s.heap H locs) (hM : Met l yn (.code yn bytes maxL ret :: gT) (h_lv k1 y) (va_Pc As (h_P G (x, y, o))) Qc mc ms (g_A G)) (cy : h_cy yn bytes maxL n ret) (hlev : k1 + 1 ≤ k) (hl : .methodLinkNest own idx yn host ∈ gN) (h2 : .static yn ∈ gT) (hn : As.length = n) (hsz : ls.size = nL) (hst : st0 = As.reverse ++ rest) (hcat : (rest.map fun v => v.category).sum ≤ 8) (hdg : decode cc pc = .ok (.invokestatic idx, 3)) : va_Run p l e (h_lv k y0) s m args below meth c H locs (h_nx y - h_nx y0) (h_sl y - h_sl y0) mc ms (F0 m pc ls st0) rest (Qc As.toArray) (g_A G) := by
  obtain ⟨w1, w2, w3, w4⟩ := cy
  exact h_runSN0 (As := As) (rest := rest) C0.call hM ⟨va_cnB n C0.hts (g_good1 w1) rfl rfl rfl (C0.nest hl) (C0.hts _ w2) w3 (h_rmf hW w4 hlev).1, C0.hts _ h2⟩ ⟨h_blind, fun U hU hw => ⟨rfl, h_pre C0 hW hU hw⟩⟩ rfl hn hsz hst (by simpa using hcat) hdg (h_rmf (maxL := maxL) hW w4 hlev).2
theorem h_runI (C0 : g_X G (List.range 120) p s m args meth c cc nL own rt) (hW : h_W G y0 (x, y, o) s.heap H locs) (hv : v = .ref a) (hM : Met l yn (.code yn bytes maxL none :: gT) (h_lv k1 y) (va_Pc (v :: As) (h_P G (x, y, o))) Qc mc ms (g_A G)) (cy : h_cy yn bytes maxL n none) (hlev : k1 + 1 ≤ k) (hl : .methodLink own idx yn ∈ gT) (h2 : .instanceMethod yn ∈ gT) (h3 : yn.name = "<init>") (hn : As.length = n) (hsz : ls.size = nL) (hst : st0 = As.reverse ++ v :: rest) (hcat : (rest.map fun v => v.category).sum ≤ 8) (hdg : decode cc pc = .ok (.invokespecial idx, 3)) : va_Run p l e (h_lv k y0) s m args below meth c H locs (h_nx y - h_nx y0) (h_sl y - h_sl y0) mc ms (F0 m pc ls st0) rest (Qc (v :: As).toArray) (g_A G) := by
  obtain ⟨w1, w2, w3, w4⟩ := cy
  subst hv
  exact h_runI0 (As := As) (rest := rest) C0.call hM ⟨callB_of n C0.hts (g_good1 w1) rfl rfl rfl (C0.hts _ w2) (C0.hts _ hl) w3 (h_rmf hW w4 hlev).1, h3, C0.hts _ h2⟩ ⟨h_blind, fun U hU hw => ⟨rfl, h_pre C0 hW hU hw⟩⟩ rfl hn hsz hst (by simpa using hcat) hdg (h_rmf (maxL := maxL) hW w4 hlev).2
theorem h_runIN {host : String} (C0 : g_X G (List.range 120) p s m args meth c cc nL own rt) (hW : h_W G y0 (x, y, o) s.heap H locs) (hv : v = .ref a) (hM : Met l yn (.code yn bytes maxL none :: gT) (h_lv k1 y) (va_Pc (v :: As) (h_P G (x, y, o))) Qc mc ms (g_A G)) (cy : h_cy yn bytes maxL n none) (hlev : k1 + 1 ≤ k) (hl : .methodLinkNest own idx yn host ∈ gN) (h2 : .instanceMethod yn ∈ gT) (h3 : yn.name = "<init>") (hn : As.length = n) (hsz : ls.size = nL) (hst : st0 = As.reverse ++ v :: rest) (hcat : (rest.map fun v => v.category).sum ≤ 8) (hdg : decode cc pc = .ok (.invokespecial idx, 3)) : va_Run p l e (h_lv k y0) s m args below meth c H locs (h_nx y - h_nx y0) (h_sl y - h_sl y0) mc ms (F0 m pc ls st0) rest (Qc (v :: As).toArray) (g_A G) := by
  obtain ⟨w1, w2, w3, w4⟩ := cy
  subst hv
  exact h_runIN0 (As := As) (rest := rest) C0.call hM ⟨va_cnB n C0.hts (g_good1 w1) rfl rfl rfl (C0.nest hl) (C0.hts _ w2) w3 (h_rmf hW w4 hlev).1, h3, C0.hts _ h2⟩ ⟨h_blind, fun U hU hw => ⟨rfl, h_pre C0 hW hU hw⟩⟩ rfl hn hsz hst (by simpa using hcat) hdg (h_rmf (maxL := maxL) hW w4 hlev).2
/-- a class's method, called from the law -/
theorem h_krunV {Sx : SS} (C0 : g_X G (List.range 120) p s m args meth c cc nL own rt) (hW : h_W G y0 (x, y, o) s.heap H locs) (hM : Met l yn (.code yn bytes maxL ret :: gT) (g_rm k1 0 0) (va_Pc (.ref (g_ad G 0) :: As) (g_P G (g_is y) (x, y, o))) Qc 0 0 (g_A G)) (hcls : yn.cls = RX12) (cy : h_cy yn bytes maxL n ret) (hlev : k1 + 1 ≤ k) (hl : .methodLink own idx yn ∈ gT) (h2 : .instanceMethod yn ∈ gT) (h3 : .selects yn.cls yn yn ∈ gT) (hn : As.length = n) (hsz : ls.size = nL) (hst : st0 = As.reverse ++ .ref (g_ad G 0) :: rest) (hcat : (rest.map fun v => v.category).sum ≤ 8) (hdg : decode cc pc = .ok (.invokevirtual idx, 3)) : va_Run p l e (h_lv k y0) s m args below meth c H locs (h_nx y - h_nx y0) (h_sl y - h_sl y0) 0 0 (F0 m pc ls st0) rest (Qc (Value.ref (g_ad G 0) :: As).toArray) (g_A G) := by
  obtain ⟨w1, w2, w3, w4⟩ := cy
  have h1 : h_nx y ≤ h_cap := hW.2.2.2.2.2.1
  have h6 : h_sl y ≤ h_scap := hW.2.2.2.2.2.2.1
  refine g_runV (T := TX12) (N := 11) (h_up C0 y) hW.1 hM ⟨w1, w2, rfl, rfl, w3, ⟨hlev, ?_⟩, ?_, ?_⟩ hl h2 h3 (b := 0) (List.mem_append_left _ (by decide)) (g_c1 (by decide)) (by rw [hcls]; rfl) hn hsz hst hcat hdg
  · show 8 + (maxL + 11) + 64 * k1 ≤ 64 * k
    omega
  · show h_nx y - h_nx y0 + 0 ≤ h_cap - h_nx y0
    omega
  · show h_sl y - h_sl y0 + 0 ≤ h_scap - h_sl y0
    omega
end HR
