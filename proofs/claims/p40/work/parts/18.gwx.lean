/-! THROWS, with the heap behind them: at least one cell more than the N that were there -/
section GXA
variable {p : Program} {l : Launch} {e : Env} {R : Room} {s : State} {m : MethodId} {args : Array Value} {below : List Frame} {meth : Method} {c : Code} {H : Heap} {locs : List Loc} {cells slots : Nat} {Q : State → Prop}
variable {mc ms : Nat} {free : Addr → Prop} {A0 A1 : Nat → Prop} {H0 : Heap} {a : Array Value} {ls : Array Slot} {st0 rest : List Value}
variable {Qc : Array Value → State → Outcome → State → Prop} {XC : String → State → State → Prop}
theorem h_throwS {cc : ByteArray} {pc : Nat} (hexec : p.tables.exec = Jvm.exec) (hb : c.code = cc) (hl : l.stackTraces = false) {own cls text : String} {names : List String} {ik is ic mc ms sa : Nat} {A : Nat → Prop}
    (hown : s.vm.findClass own = some m.cls) (hcls : Bundle.fit cls = true) (hnames : ∀ n ∈ names, Bundle.fit n = true)
    (hk : (Cond.classLink own ik cls).before args s = true) (hini : (Cond.initialized cls).before args s = true) (hstr : vk_R own is text sa s) (hat : ∀ w ∈ vx_atS own ic cls names, w.before args s = true)
    (hgood : ∀ w ∈ Cond.classLink own ik cls :: Cond.initialized cls :: vx_atS own ic cls names, vx_ot w = true)
    (hU : vx_Zq Bundle.tN "UNASSIGNED_STACK" Bundle.steD A s s.heap) (hN : vx_Zq Bundle.tN "SUPPRESSED_SENTINEL" Bundle.listD A s s.heap) (hS : va_S A s.heap H locs) (hsize : ls.size = c.maxLocals)
    (d0 : decode cc pc = .ok (.new ik, 3)) (d3 : decode cc (pc + 3) = .ok (.dup, 1)) (d4 : decode cc (pc + 4) = .ok (.ldc is, 2)) (d6 : decode cc (pc + 6) = .ok (.invokespecial ic, 3)) (d9 : decode cc (pc + 9) = .ok (.athrow, 1))
    (hout : ∀ x ∈ c.exceptionTable.toList, covers x (pc + 9) = false)
    (hRframes : names.length + 3 < R.frames) (hRlocals : (rest.map fun v => v.category).sum + (13 * (names.length + 1) + 43) ≤ R.locals) (hRcells : cells + 1 ≤ R.cells) (hRslots : slots + 6 ≤ R.slots) (hlocks : meth.locks = false)
    (hx : ∀ t : State, s.vm.Alike t.vm → H.size + 1 ≤ t.heap.size → (∀ q : Nat, q < H.size → t.heap[q]? = H[q]?) → XC cls s t)
    (hf : ∀ z ∈ locs, free z.base) (hc : cells + 1 ≤ mc) (hs : slots + 6 ≤ ms) :
    W p l e R s m args below meth c H locs cells slots (vx_MQ below Qc XC args s mc ms free) (F0 m pc ls rest) := by
  intro T hT X
  have htr : e.platform.stackTraces = false := (show e.platform.stackTraces = l.stackTraces by rw [X.admits.platform]).trans hl
  have Y := vx_rebase X (R' := { frames := R.frames, locals := R.locals, cells := 1, slots := 6 }) (Nat.le_refl _) (Nat.le_refl _) hRcells hRslots
  obtain ⟨s', hA⟩ : ∃ z, z = (T.setVm s.vm).setFrames (.invoking m args :: below) := ⟨_, rfl⟩
  rw [← hA] at Y
  have hvm : s'.vm = s.vm := by rw [hA]; rfl
  have hhp : s'.heap = H := by rw [hA]; exact hT
  have hW0 : s.WarmedH s'.vm := by rw [hvm]; exact State.WarmedH.refl s
  have hat' : ∀ w ∈ vx_atS own ic cls names, w.before args s' = true := fun w hw => vx_ot_at hW0 hvm.symm (hgood w (List.mem_cons_of_mem _ (List.mem_cons_of_mem _ hw))) (hat w hw)
  have hk' : (Cond.classLink own ik cls).before args s' = true := vx_ot_at hW0 hvm.symm (hgood _ List.mem_cons_self) hk
  have hini' : (Cond.initialized cls).before args s' = true := vx_ot_at hW0 hvm.symm (hgood _ (List.mem_cons_of_mem _ List.mem_cons_self)) hini
  have hU' : vx_Zq Bundle.tN "UNASSIGNED_STACK" Bundle.steD A s' s'.heap := by rw [hhp]; exact vx_Zq.moved hW0.alike (hU.kept hS.2.1)
  have hN' : vx_Zq Bundle.tN "SUPPRESSED_SENTINEL" Bundle.listD A s' s'.heap := by rw [hhp]; exact vx_Zq.moved hW0.alike (hN.kept hS.2.1)
  have h : ∀ w ∈ Bundle.ownAtoms own ic cls names, w.before args s' = true := vx_own hat' (vx_isRefq hU'.1) (vx_isRefq hN'.1) hU'.2.word hN'.2.word
  have hown' : s'.vm.findClass own = some m.cls := by rw [hvm]; exact hown
  have hins : (Cond.instantiable cls 6).before args s' = true := h _ (by simp [Bundle.ownAtoms])
  obtain ⟨vm₁, cX, kX, hfX, hkX, -, -, X₁, st1⟩ := Y.newCold hexec (own := own) (C := cls) (index := ik) (n := 6) hown' hk' hins hini'
    (g := F0 m pc ls rest) rfl (by rw [hb]; exact d0) (Nat.le_refl _) (Nat.le_refl _)
  generalize hT1 : (T.setVm vm₁).pushCell { cls := cX, slots := kX.instanceTypes.map defaultValue, vm := .none } = T1 at X₁ st1
  have hcat : (Value.ref T.heap.size).category = 1 := rfl
  have hcellA : T1.heap[T.heap.size]? = some (freshCell cX kX) := by rw [← hT1]; exact State.heap_pushCell_size _ _
  have d3' : decode c.code (pc + 3) = .ok (.dup, 1) := by rw [hb]; exact d3
  have d4' : decode c.code (pc + 4) = .ok (.ldc is, 2) := by rw [hb]; exact d4
  have hstr' : vk_R own is text sa s' := vk_R.warm hW0 hstr
  obtain ⟨U, hsteps, hrun, hend, hW, hsame, ce, hce, hO⟩ := X₁.ctorThrowS hexec htr (own := own) (cls := cls) (names := names) (ic := ic) hown' hcls hnames h (fun x hx => nomatch hx) hfX hkX hcellA (by rw [hhp, hT]; exact Nat.le_refl _) (msg := .ref sa) rfl
    (g := { method := m, pc := pc + 6, locals := ls, stack := .ref sa :: .ref T.heap.size :: .ref T.heap.size :: rest, locked := none }) rfl hsize rfl rfl (rest := rest) rfl
    (by rw [hb]; exact d6) (by rw [hb]; exact d9) hout hRframes (by simp only [List.map_cons, List.sum_cons, hcat]; omega) hlocks
  obtain ⟨f1, f2⟩ := vx_frame hsame
  rw [hhp] at f1 f2
  have hWs : s.WarmedH U.vm := State.WarmedH.trans hW0 hW
  have hcl : s.vm.findClass cls = some ce.cls := by
    have h9 := hO.cls
    rw [hvm] at h9
    exact h9
  have hall : s.sameButNew ({ U with vm := s.vm } : State) locs mc ms := by
    subst hA
    obtain ⟨e1, e2⟩ := hsame
    rw [State.setFrames_setFrames] at e1
    have h2 : (T.setVm s.vm).sameButNew ({ U with vm := s.vm } : State) [] (0 + 1) (0 + 6) := ⟨e1, e2⟩
    have h3 := X.same.trans h2
    rw [List.append_nil] at h3
    exact h3.mono hc hs
  refine ⟨U, ?_, .threw T.heap.size, hrun, hend, Or.inr ⟨T.heap.size, rfl, cls, ce, locs, hx U hWs.alike (by rw [← hT]; exact (Array.getElem?_eq_some_iff.mp hce).1) (fun q hq => f2 q hq (fun z hz => nomatch hz)), hce, hO.vm, hcl, hWs, hall, hf⟩⟩
  refine st1 _ ?_
  show Steps p.tables e below (T1.setTop { method := m, pc := pc + 3, locals := ls, stack := .ref T.heap.size :: rest, locked := none }) _
  jvm_step X₁.here [X₁.here.top, hexec, d3', Value.category]
  exact X₁.ldcString hexec (own := own) (text := text) (index := is) (a := sa) hown' hstr'.1 hstr'.2
    (g := { method := m, pc := pc + 4, locals := ls, stack := .ref T.heap.size :: .ref T.heap.size :: rest, locked := none }) rfl d4' _ hsteps
end GXA
def g_PX (G : GL) (ids : List Nat) (S : SS) (N : Nat) (U : State) : Prop := g_P G ids S U ∧ N ≤ U.heap.size
def h_XC (G : GL) (ids : List Nat) (N : Nat) (S : SS) {T : Type} (res : Nat ⊕ T) : String → State → State → Prop := vx_X (fun u : Nat => res = Sum.inl u) (fun E u t => E = g_ex u ∧ g_B G ids S t ∧ N + 1 ≤ t.heap.size) (g_A G)
theorem g_blindX {G : GL} {ids : List Nat} {S : SS} {N : Nat} {as : List Value} : FrameBlind (va_Pc as (g_PX G ids S N)) := fun a U g mk q => ⟨(g_blind (as := as) a U g mk ⟨q.1, q.2.1⟩).1, (g_blind (as := as) a U g mk ⟨q.1, q.2.1⟩).2, q.2.2⟩
section GXB
variable {p : Program} {l : Launch} {e : Env} {R : Room} {s : State} {m : MethodId} {args : Array Value} {below : List Frame} {meth : Method} {c : Code} {H : Heap} {locs : List Loc} {cells slots : Nat} {Q : State → Prop} {G : GL} {ids : List Nat} {S : SS} {cc : ByteArray} {nL pc : Nat} {own : String} {rt : Option FieldType} {ls : Array Slot} {rest : List Value} {idx mc ms : Nat} {A : Type} {Qc : Array Value → State → Outcome → State → Prop} {N : Nat}
theorem h_entryX {y : MethodName} {ret : Option FieldType} {rm : Room} {as : List Value} {maxL : Nat} {XC : String → State → State → Prop} (hy : plainName y.cls = true) (hlen : (lg_sl as).length ≤ maxL)
    (body : ∀ (p : Program) (e : Env) (s : State) (m : MethodId) (args : Array Value) (below : List Frame) (meth : Method) (c : Code) (ls : Array Slot), g_X G ids p s m args meth c cc maxL y.cls ret → lv_has ls maxL (lv_args 0 as) → g_W G ids S s.heap s.heap [] → (∀ x ∈ c.exceptionTable.toList, False) → N ≤ s.heap.size → W p l e rm s m args below meth c s.heap [] 0 0 (vx_MQ below Qc XC args s mc ms (g_A G)) (F0 m 0 ls [])) : vx_Met l y (.code y cc maxL ret :: gT) rm (va_Pc as (g_PX G ids S N)) Qc XC mc ms (g_A G) := by
  refine vx_ofW (cc := cc) (maxL := maxL) (ret := ret) hy rfl ?_
  intro p e s m args below meth c s₁ B hml ht hv
  obtain ⟨rfl, ⟨hP, hD, hI, hG⟩, hN⟩ := hv
  have hts := atoms_spec (ws := .code y cc maxL ret :: gT) B.pre
  rw [lg_entry_eq]
  exact body p e s m _ below meth c _ ⟨B.exec, B.bytes, hml, findClass_of_methodNamed B.named, fun w h => hts w (List.mem_cons_of_mem _ h), B.notSynchronized, B.returns, hI, hG⟩ (lv_entry as hlen) ⟨hP, hD, va_S.rf⟩ ht hN
theorem h_xout {T : Type} {res : Nat ⊕ T} {S0 : SS} {u : Nat} {ce : Cell} {q : Addr} (C0 : g_X G ids p s m args meth c cc nL own rt) (hW : g_W G ids S0 s.heap H locs) (hN : N + 1 ≤ H.size) (hnt : ∀ x ∈ c.exceptionTable.toList, False) (hres : res = Sum.inl u) (hc : H[q]? = some ce) (hv : ce.vm = .none) (hcl : s.vm.findClass (g_ex u) = some ce.cls) (h1 : cells ≤ mc) (h2 : slots ≤ ms) : vx_W p l e R s m args below meth c H locs cells slots (vx_MQ below Qc (h_XC G ids N S0 res) args s mc ms (g_A G)) (F0 m pc ls rest) q :=
  vx_out (E := g_ex u) (fun x hx => (hnt x hx).elim) C0.hlk hc hv hcl (fun t ht _ => ⟨u, hres, ⟨rfl, (g_end hW ht).1, by rw [ht]; exact hN⟩, (g_end hW ht).2⟩) hW.2.2.2.2 h1 h2
theorem h_xthrow {T : Type} {res : Nat ⊕ T} {cd ik is ic : Nat} {text : String} (C0 : g_X G ids p s m args meth c cc nL RX12 rt) (hW : g_W G ids S s.heap H locs) (hN : N ≤ s.heap.size) (hnt : ∀ x ∈ c.exceptionTable.toList, False) (hfl : l.stackTraces = false) (hres : res = Sum.inl cd) (hms : (RX12, is, text) ∈ g_ms) (hfit : Bundle.fit (g_ex cd) = true) (hk : Cond.classLink RX12 ik (g_ex cd) ∈ gT) (hini : Cond.initialized (g_ex cd) ∈ gT) (hA : ∀ w ∈ (vx_atS RX12 ic (g_ex cd) g_up).filter goodWord, w ∈ gT) (hB : ∀ w ∈ (vx_atS RX12 ic (g_ex cd) g_up).filter (fun w => !goodWord w), w ∈ gN) (hC : ∀ w ∈ Cond.classLink RX12 ik (g_ex cd) :: Cond.initialized (g_ex cd) :: vx_atS RX12 ic (g_ex cd) g_up, vx_ot w = true) (hsz : ls.size = nL) (hcat : (rest.map fun v => v.category).sum ≤ 8)
    (d0 : decode cc pc = .ok (.new ik, 3)) (d3 : decode cc (pc + 3) = .ok (.dup, 1)) (d4 : decode cc (pc + 4) = .ok (.ldc is, 2)) (d6 : decode cc (pc + 6) = .ok (.invokespecial ic, 3)) (d9 : decode cc (pc + 9) = .ok (.athrow, 1)) (hR1 : 5 < R.frames) (hR2 : 100 ≤ R.locals) (hR3 : cells + 1 ≤ R.cells) (hR4 : slots + 6 ≤ R.slots) (h1 : cells + 1 ≤ mc) (h2 : slots + 6 ≤ ms) : W p l e R s m args below meth c H locs cells slots (vx_MQ below Qc (h_XC G ids N S res) args s mc ms (g_A G)) (F0 m pc ls rest) := by
  obtain ⟨sa, hsa⟩ := C0.hG.2.2.2.2.2.2.2.2.1 _ hms
  refine h_throwS (names := g_up) (sa := sa) C0.hx C0.hb hfl C0.hown hfit (by decide +kernel) (C0.hts _ hk) (C0.hts _ hini) hsa (vx_hat (fun w h => C0.hts w (hA w h)) hB C0.hN) hC C0.hG.2.2.2.2.2.2.1.1 C0.hG.2.2.2.2.2.2.1.2.1 hW.2.2 (hsz.trans C0.hml.symm) d0 d3 d4 d6 d9 (fun x hx => (hnt x hx).elim) hR1 ?_ hR3 hR4 C0.hlk (fun t ht hz hq => ⟨cd, hres, ⟨rfl, ⟨hW.1.kept (fun k q hkq => hq _ (va_at.lt (hW.1 k q hkq))), hW.2.1⟩, by have := hW.2.2.1; omega⟩, ?_⟩) hW.2.2.2.2 h1 h2
  · show _ + (13 * (2 + 1) + 43) ≤ _
    omega
  · exact ⟨by have := hW.2.2.1; omega, fun q hq1 hq2 => (hq q (Nat.lt_of_lt_of_le hq1 hW.2.2.1)).trans (hW.2.2.2.1 q hq1 hq2)⟩
theorem h_xcallv {T : Type} {res : Nat ⊕ T} {r : Nat ⊕ Unit} {S0 : SS} {a0 : Array Value} {st0 : List Value} {mc1 ms1 : Nat} (C0 : g_X G ids p s m args meth c cc nL own rt) (hW : g_W G ids S0 s.heap H locs) (hN : N ≤ s.heap.size) (hnt : ∀ x ∈ c.exceptionTable.toList, False) (hr : vx_Run p l e R s m args below meth c H locs cells slots mc1 ms1 (F0 m pc ls st0) rest (g_Xv G ids r S0 a0) (h_XC G ids N S0 r) (g_A G)) (hres : ∀ u, r = Sum.inl u → res = Sum.inl u) (h1 : cells + mc1 ≤ mc) (h2 : slots + ms1 ≤ ms) (kk : r = Sum.inr () → ∀ (H1 : Heap) (locs1 : List Loc), g_W G ids S0 s.heap H1 locs1 → W p l e R s m args below meth c H1 locs1 (cells + mc1) (slots + ms1) (vx_MQ below Qc (h_XC G ids N S0 res) args s mc ms (g_A G)) (F0 m (pc + 3) ls rest)) : W p l e R s m args below meth c H locs cells slots (vx_MQ below Qc (h_XC G ids N S0 res) args s mc ms (g_A G)) (F0 m pc ls st0) := by
  refine vx_callv hr hW.2.2 (fun q _ h => h) (fun q h => h) (fun q _ h => h) (fun E ce q9 u t H1 locs1 ht hvm hp hB hz hk hS hc hv hcl => ?_) (fun u t H1 locs1 ht hvm hp hB hz hk hS => ?_)
  · obtain ⟨rfl, hB⟩ := hB
    subst ht
    exact h_xout C0 ⟨hB.1.1, hB.1.2, hS⟩ hB.2 hnt (hres u hp) hc hv hcl h1 h2
  · subst ht
    exact kk hp _ _ ⟨hB.1, hB.2, hS⟩
variable {y : MethodName} {bytes : ByteArray} {maxL n : Nat} {ret : Option FieldType} {rm : Room} {As st0 : List Value} {b ci : Nat} {fs : List Value} {T : u_T} {N : Nat} {XC : String → State → State → Prop}
theorem h_xrunV (C0 : g_X G ids p s m args meth c cc nL own rt) (hW : g_W G ids S s.heap H locs) (hN : N ≤ s.heap.size) (hM : vx_Met l y (.code y bytes maxL ret :: gT) rm (va_Pc (.ref (g_ad G b) :: As) (g_PX G ids S N)) Qc XC mc ms (g_A G)) (cw : g_cw own idx y bytes maxL n ret rm R mc ms cells slots) (hl : .methodLink own idx y ∈ gT) (h2 : .instanceMethod y ∈ gT) (h3 : .selects y.cls y y ∈ gT) (hi : b ∈ ids) (hc : g_c G S b = .inr (ci, fs)) (hcl : vwCl[ci]? = some (y.cls, T, N)) (hn : As.length = n) (hsz : ls.size = nL) (hst : st0 = As.reverse ++ .ref (g_ad G b) :: rest) (hcat : (rest.map fun v => v.category).sum ≤ 8) (hdg : decode cc pc = .ok (.invokevirtual idx, 3)) : vx_Run p l e R s m args below meth c H locs cells slots mc ms (F0 m pc ls st0) rest (Qc (Value.ref (g_ad G b) :: As).toArray) XC (g_A G) := by
  obtain ⟨w1, w2, w3, w4, w5, w6, w7⟩ := cw
  exact vx_runV (As := As) (rest := rest) C0.call hM (cwV n C0.hts (g_goodV hl h2 h3 w2 w1) rfl w3 w4 ⟨rfl, w5⟩ w6) ⟨g_blindX, g_recv C0 hW hi hc hcl, fun U hU hw => ⟨rfl, g_pre C0 hW hU hw, by rw [hU]; exact Nat.le_trans hN hW.2.2.1⟩⟩ rfl hn hsz hst (by simpa using hcat) hdg w7
theorem h_xrunS (C0 : g_X G ids p s m args meth c cc nL own rt) (hW : g_W G ids S s.heap H locs) (hN : N ≤ s.heap.size) (hM : vx_Met l y (.code y bytes maxL ret :: gT) rm (va_Pc As (g_PX G ids S N)) Qc XC mc ms (g_A G)) (cw : g_cw own idx y bytes maxL n ret rm R mc ms cells slots) (hl : .methodLink own idx y ∈ gT) (h2 : .static y ∈ gT) (hn : As.length = n) (hsz : ls.size = nL) (hst : st0 = As.reverse ++ rest) (hcat : (rest.map fun v => v.category).sum ≤ 8) (hdg : decode cc pc = .ok (.invokestatic idx, 3)) : vx_Run p l e R s m args below meth c H locs cells slots mc ms (F0 m pc ls st0) rest (Qc As.toArray) XC (g_A G) := by
  obtain ⟨w1, w2, w3, w4, w5, w6, w7⟩ := cw
  exact vx_runS (As := As) (rest := rest) C0.call hM ⟨callB_of n C0.hts (g_good1 w1) rfl w3 w4 (C0.hts _ w2) (C0.hts _ hl) w5 w6, C0.hts _ h2⟩ ⟨g_blindX, fun U hU hw => ⟨rfl, g_pre C0 hW hU hw, by rw [hU]; exact Nat.le_trans hN hW.2.2.1⟩⟩ rfl hn hsz hst (by simpa using hcat) hdg w7
end GXB
/-! four methods of the class that may throw what the law catches, with their throws -/
def fx_X12_hear_10 (x : CS) : Option (Nat ⊕ (Int32 × CS)) :=
  some (Sum.inl 2)
def fx_X12_hear (p1 : Int32) (x : CS) : Option (Nat ⊕ (Int32 × CS)) :=
  if p1 < 0 then (fx_X12_hear_10 x) else (if p1 ≤ (40 : Int32) then (if (x.1 14 1) < (24 : Int32) then ((f_X3_add 14 p1 x).bind fun q4 => if kd (q4.2 0 6) = 7 then (if kd (q4.2 0 7) = 9 then ((f_X1_measureAll (q4.2 0 6) (q4.2 0 7) q4).bind fun q7 => some (Sum.inr ((q7.1 14 1, q7)))) else none) else none) else (some (Sum.inl 1))) else (fx_X12_hear_10 x))
def fx_X12_requireMeant (p1 : Int32) : Option (Nat ⊕ (Unit)) :=
  if p1 = (-1 : Int32) then (some (Sum.inl 1)) else (some (Sum.inr (())))
def fx_X12_meantWord (x : CS) : Option (Nat ⊕ (Int32)) :=
  if kd (x.2 0 7) = 9 then ((f_X1_meantOf (x.2 0 7) x).bind fun q2 => (fx_X12_requireMeant q2).bind fun q3 => g_sb q3 (fun _ => some (Sum.inr (q2)))) else none
def fx_X12_surety (x : CS) : Option (Nat ⊕ (Int32)) :=
  if kd (x.2 0 7) = 9 then ((f_X1_meantOf (x.2 0 7) x).bind fun q2 => (fx_X12_requireMeant q2).bind fun q3 => g_sb q3 (fun _ => (f_X9_closestKept (x.2 0 7) q2 x).bind fun q4 => if q4 = (-1 : Int32) then (some (Sum.inr ((-1 : Int32)))) else ((f_X9_word (x.2 0 7) q4 x).bind fun q6 => if kd (q6) = 10 then ((f_X9_word (x.2 0 7) q2 x).bind fun q8 => if kd (q8) = 10 then (some (Sum.inr ((x.1 q6 2) - (x.1 q8 2)))) else none) else none))) else none
set_option maxRecDepth 100000 in
set_option maxHeartbeats 4000000 in
theorem wx_X12_hear_10 {N : Nat} {p : Program} {l : Launch} {e : Env} {s : State} {m : MethodId} {args : Array Value} {below : List Frame} {meth : Method} {c : Code} {G : GL} {ids : List Nat} {y : MS} {o : Nat → Int32} {x : CS} {q : Nat ⊕ (Int32 × CS)}  (hN : N ≤ s.heap.size) (hnt : ∀ x ∈ c.exceptionTable.toList, False) (hfl : l.stackTraces = false) (C0 : g_X G ids p s m args meth c cX12_hear 2 RX12 (Option.some Jvm.ClassFile.FieldType.int))  : ∀    (H : Heap) (locs : List Loc) (ls : Array Slot),  fx_X12_hear_10 x = some q → g_W G ids (x, y, o) s.heap H locs → lv_has ls 2 [] → W p l e (g_rm 6 1 6) s m args below meth c H locs 0 0 (vx_MQ below (g_XiC G ids q y o) (h_XC G ids N (x, y, o) q) args s 1 6 (g_A G)) (F0 m 10 ls []) := by
  intro H locs ls h hW hl
  unfold fx_X12_hear_10 at h
  obtain rfl := Option.some.inj h
  exact h_xthrow (cd := 2) C0 hW hN hnt hfl rfl (List.mem_of_getElem? (i := 3) rfl) (by decide +kernel) tl_X12_89 tn_java_lang_IllegalArgumentException g_hatA93 g_hatB93 g_hatC93 hl.1 (Nat.le_of_ble_eq_true rfl) dX12_hear_10 dX12_hear_13 dX12_hear_14 dX12_hear_16 dX12_hear_19 (by show 5 < 6; omega) (by show 100 ≤ 64 * 6; omega) (by decide) (by decide) (by decide) (by decide)
set_option maxRecDepth 100000 in
set_option maxHeartbeats 4000000 in
theorem cx_X12_hear {N : Nat} {l : Launch} {G : GL} {ids : List Nat} {y : MS} {o : Nat → Int32} {x : CS} {p1 : Int32} {q : Nat ⊕ (Int32 × CS)}  (hfl : l.stackTraces = false)  (h : fx_X12_hear p1 x = some q) : vx_Met l yX12_hear (.code yX12_hear cX12_hear 2 (Option.some Jvm.ClassFile.FieldType.int) :: gT) (g_rm 6 1 6) (va_Pc [.ref (g_ad G (0)), .int (p1)] (g_PX G ids (x, y, o) N)) (g_XiC G ids q y o) (h_XC G ids N (x, y, o) q) 1 6 (g_A G) := by
  unfold fx_X12_hear at h
  refine h_entryX (by decide) (Nat.le_of_ble_eq_true rfl) (fun p e s m args below meth c ls C0 hl hW hnt hN => ?_)
  have hl : lv_has ls 2 [(0, .ref (g_ad G (0))), (1, .int (p1))] := hl
  refine lv_iload_n C0.hx C0.hb dX12_hear_0 rfl (lv_at hl 1 rfl) ?_
  refine lv_if_lt (tgt := 10) C0.hx C0.hb dX12_hear_1 (by decide) (fun hc1 => ?_) (fun hc1 => ?_)
  · replace h := (if_pos hc1).symm.trans h
    exact wx_X12_hear_10 hN hnt hfl C0 _ _ _ h hW (lv_sub hl [] rfl)
  · replace h := (if_neg hc1).symm.trans h
    refine lv_iload_n C0.hx C0.hb dX12_hear_4 rfl (lv_at hl 1 rfl) ?_
    refine lv_bipush (v := (40 : Int32)) C0.hx C0.hb dX12_hear_5 (by decide) ?_
    refine lv_icmp_le (tgt := 20) C0.hx C0.hb dX12_hear_7 (by decide) (fun hc2 => ?_) (fun hc2 => ?_)
    · replace h := (if_pos hc2).symm.trans h
      refine lv_aload_n C0.hx C0.hb dX12_hear_20 rfl (lv_at hl 0 rfl) ?_
      refine gf_X12_3 C0 hW (C0.mem (i := 0) (Nat.le_of_ble_eq_true rfl)) k_0 tf_X12_35 dX12_hear_21 ?_
      refine gfN_X3_1 C0 hW (C0.mem (i := 14) (Nat.le_of_ble_eq_true rfl)) k_14 tfN_X12_128 dX12_hear_24 ?_
      refine lv_bipush (v := (24 : Int32)) C0.hx C0.hb dX12_hear_27 (by decide) ?_
      refine lv_icmp_lt (tgt := 42) C0.hx C0.hb dX12_hear_29 (by decide) (fun hc3 => ?_) (fun hc3 => ?_)
      · replace h := (if_pos hc3).symm.trans h
        refine lv_aload_n C0.hx C0.hb dX12_hear_42 rfl (lv_at hl 0 rfl) ?_
        refine gf_X12_3 C0 hW (C0.mem (i := 0) (Nat.le_of_ble_eq_true rfl)) k_0 tf_X12_35 dX12_hear_43 ?_
        refine lv_iload_n C0.hx C0.hb dX12_hear_46 rfl (lv_at hl 1 rfl) ?_
        obtain ⟨q4, hq4, h⟩ := Option.bind_eq_some_iff.mp h
        refine g_callv hW (g_runV (As := [.int (p1)]) (rest := []) C0 hW (c_X3_add k_14 hq4) (g_cwG (n := 1) tc_X3_add tn_X3 md_X3_add (by decide) (by omega) (by decide) (by decide)) tm_X12_204 ti_X3_add ts_X3_add (C0.mem (i := 14) (Nat.le_of_ble_eq_true rfl)) (g_c5 k_14) rfl rfl hl.1 rfl (Nat.le_of_ble_eq_true rfl) dX12_hear_47) (fun H locs hW => ?_)
        refine lv_aload_n C0.hx C0.hb dX12_hear_50 rfl (lv_at hl 0 rfl) ?_
        refine gf_X12_5 C0 hW (C0.mem (i := 0) (Nat.le_of_ble_eq_true rfl)) k_0 tf_X12_47 dX12_hear_51 ?_
        refine lv_aload_n C0.hx C0.hb dX12_hear_54 rfl (lv_at hl 0 rfl) ?_
        obtain ⟨hk5, h⟩ := g_if h
        refine gf_X12_6 C0 hW (C0.mem (i := 0) (Nat.le_of_ble_eq_true rfl)) k_0 tf_X12_54 dX12_hear_55 ?_
        refine lv_aload_n C0.hx C0.hb dX12_hear_58 rfl (lv_at hl 0 rfl) ?_
        obtain ⟨hk6, h⟩ := g_if h
        refine gf_X12_7 C0 hW (C0.mem (i := 0) (Nat.le_of_ble_eq_true rfl)) k_0 tf_X12_61 dX12_hear_59 ?_
        obtain ⟨q7, hq7, h⟩ := Option.bind_eq_some_iff.mp h
        refine g_callv hW (g_runV (As := [.ref (g_ad G (q4.2 0 6)), .ref (g_ad G (q4.2 0 7))]) (rest := []) C0 hW (c_X1_measureAll hk5 hk6 hq7) (g_cwG (n := 2) tc_X1_measureAll tn_X1 md_X1_measureAll (by decide) (by omega) (by decide) (by decide)) tm_X12_207 ti_X1_measureAll ts_X1_measureAll (C0.mem (i := 18) (Nat.le_of_ble_eq_true rfl)) (g_c6 k_18) rfl rfl hl.1 rfl (Nat.le_of_ble_eq_true rfl) dX12_hear_62) (fun H locs hW => ?_)
        refine lv_aload_n C0.hx C0.hb dX12_hear_65 rfl (lv_at hl 0 rfl) ?_
        refine gf_X12_3 C0 hW (C0.mem (i := 0) (Nat.le_of_ble_eq_true rfl)) k_0 tf_X12_35 dX12_hear_66 ?_
        refine gfN_X3_1 C0 hW (C0.mem (i := 14) (Nat.le_of_ble_eq_true rfl)) k_14 tfN_X12_128 dX12_hear_69 ?_
        obtain rfl := Option.some.inj h
        exact g_xiretC C0 hW rfl rfl rfl (by decide) (by decide) dX12_hear_72
      · replace h := (if_neg hc3).symm.trans h
        obtain rfl := Option.some.inj h
        exact h_xthrow (cd := 1) C0 hW hN hnt hfl rfl (List.mem_of_getElem? (i := 4) rfl) (by decide +kernel) tl_X12_78 tn_java_lang_IllegalStateException g_hatA82 g_hatB82 g_hatC82 hl.1 (Nat.le_of_ble_eq_true rfl) dX12_hear_32 dX12_hear_35 dX12_hear_36 dX12_hear_38 dX12_hear_41 (by show 5 < 6; omega) (by show 100 ≤ 64 * 6; omega) (by decide) (by decide) (by decide) (by decide)
    · replace h := (if_neg hc2).symm.trans h
      exact wx_X12_hear_10 hN hnt hfl C0 _ _ _ h hW (lv_sub hl [] rfl)
set_option maxRecDepth 100000 in
set_option maxHeartbeats 4000000 in
theorem cx_X12_requireMeant {N : Nat} {l : Launch} {G : GL} {ids : List Nat} {y : MS} {o : Nat → Int32} {x : CS} {p1 : Int32} {q : Nat ⊕ (Unit)}  (hfl : l.stackTraces = false)  (h : fx_X12_requireMeant p1 = some q) : vx_Met l yX12_requireMeant (.code yX12_requireMeant cX12_requireMeant 1 (Option.none : Option Jvm.ClassFile.FieldType) :: gT) (g_rm 6 1 6) (va_Pc [.int (p1)] (g_PX G ids (x, y, o) N)) (g_Xv G ids q (x, y, o)) (h_XC G ids N (x, y, o) q) 1 6 (g_A G) := by
  unfold fx_X12_requireMeant at h
  refine h_entryX (by decide) (Nat.le_of_ble_eq_true rfl) (fun p e s m args below meth c ls C0 hl hW hnt hN => ?_)
  have hl : lv_has ls 1 [(0, .int (p1))] := hl
  refine lv_iload_n C0.hx C0.hb dX12_requireMeant_0 rfl (lv_at hl 0 rfl) ?_
  refine lv_iconst (v := (-1 : Int32)) C0.hx C0.hb dX12_requireMeant_1 (by decide) ?_
  refine lv_icmp_ne (tgt := 15) C0.hx C0.hb dX12_requireMeant_2 (by decide) (fun hc1 => ?_) (fun hc1 => ?_)
  · replace h := (if_neg hc1).symm.trans h
    obtain rfl := Option.some.inj h
    exact g_xvret C0 hW rfl rfl (by decide) (by decide) dX12_requireMeant_15
  · replace h := (if_pos hc1).symm.trans h
    obtain rfl := Option.some.inj h
    exact h_xthrow (cd := 1) C0 hW hN hnt hfl rfl (List.mem_of_getElem? (i := 9) rfl) (by decide +kernel) tl_X12_78 tn_java_lang_IllegalStateException g_hatA82 g_hatB82 g_hatC82 hl.1 (Nat.le_of_ble_eq_true rfl) dX12_requireMeant_5 dX12_requireMeant_8 dX12_requireMeant_9 dX12_requireMeant_11 dX12_requireMeant_14 (by show 5 < 6; omega) (by show 100 ≤ 64 * 6; omega) (by decide) (by decide) (by decide) (by decide)
set_option maxRecDepth 100000 in
set_option maxHeartbeats 4000000 in
theorem cx_X12_meantWord {N : Nat} {l : Launch} {G : GL} {ids : List Nat} {y : MS} {o : Nat → Int32} {x : CS}  {q : Nat ⊕ (Int32)}  (hfl : l.stackTraces = false)  (h : fx_X12_meantWord x = some q) : vx_Met l yX12_meantWord (.code yX12_meantWord cX12_meantWord 2 (Option.some Jvm.ClassFile.FieldType.int) :: gT) (g_rm 7 1 6) (va_Pc [.ref (g_ad G (0))] (g_PX G ids (x, y, o) N)) (g_Xi G ids q (x, y, o)) (h_XC G ids N (x, y, o) q) 1 6 (g_A G) := by
  unfold fx_X12_meantWord at h
  refine h_entryX (by decide) (Nat.le_of_ble_eq_true rfl) (fun p e s m args below meth c ls C0 hl hW hnt hN => ?_)
  have hl : lv_has ls 2 [(0, .ref (g_ad G (0)))] := hl
  refine lv_aload_n C0.hx C0.hb dX12_meantWord_0 rfl (lv_at hl 0 rfl) ?_
  refine gf_X12_5 C0 hW (C0.mem (i := 0) (Nat.le_of_ble_eq_true rfl)) k_0 tf_X12_47 dX12_meantWord_1 ?_
  refine lv_aload_n C0.hx C0.hb dX12_meantWord_4 rfl (lv_at hl 0 rfl) ?_
  obtain ⟨hk1, h⟩ := g_if h
  refine gf_X12_7 C0 hW (C0.mem (i := 0) (Nat.le_of_ble_eq_true rfl)) k_0 tf_X12_61 dX12_meantWord_5 ?_
  obtain ⟨q2, hq2, h⟩ := Option.bind_eq_some_iff.mp h
  refine g_calli hW (g_runV (As := [.ref (g_ad G (x.2 0 7))]) (rest := []) C0 hW (c_X1_meantOf hk1 hq2) (g_cwG (n := 1) tc_X1_meantOf tn_X1 md_X1_meantOf (by decide) (by omega) (by decide) (by decide)) tm_X12_190 ti_X1_meantOf ts_X1_meantOf (C0.mem (i := 18) (Nat.le_of_ble_eq_true rfl)) (g_c6 k_18) rfl rfl hl.1 rfl (Nat.le_of_ble_eq_true rfl) dX12_meantWord_8) (fun H locs hW => ?_)
  refine lv_istore_n (lv' := [(1, .int (q2)), (0, .ref (g_ad G (0)))]) C0.hx C0.hb dX12_meantWord_11 rfl hl (by decide) rfl (fun ls hl => ?_)
  refine lv_iload_n C0.hx C0.hb dX12_meantWord_12 rfl (lv_at hl 0 rfl) ?_
  obtain ⟨q3, hq3, h⟩ := Option.bind_eq_some_iff.mp h
  refine h_xcallv C0 hW hN hnt (h_xrunS (As := [.int (q2)]) (rest := []) C0 hW hN (cx_X12_requireMeant hfl hq3) (g_cwG (n := 1) tc_X12_requireMeant tn_X12 md_X12_requireMeant (by decide) (by omega) (by decide) (by decide)) tm_X12_194 tz_X12_requireMeant rfl hl.1 rfl (Nat.le_of_ble_eq_true rfl) dX12_meantWord_13) (fun u hu => by subst hu; exact (Option.some.inj h).symm) (by decide) (by decide) (fun hu3 H locs hW => ?_)
  subst hu3
  replace h : (some (Sum.inr (q2))) = some _ := h
  refine lv_iload_n C0.hx C0.hb dX12_meantWord_16 rfl (lv_at hl 0 rfl) ?_
  obtain rfl := Option.some.inj h
  exact g_xiret C0 hW rfl rfl rfl (by decide) (by decide) dX12_meantWord_17
set_option maxRecDepth 100000 in
set_option maxHeartbeats 4000000 in
theorem cx_X12_surety {N : Nat} {l : Launch} {G : GL} {ids : List Nat} {y : MS} {o : Nat → Int32} {x : CS}  {q : Nat ⊕ (Int32)}  (hfl : l.stackTraces = false)  (h : fx_X12_surety x = some q) : vx_Met l yX12_surety (.code yX12_surety cX12_surety 3 (Option.some Jvm.ClassFile.FieldType.int) :: gT) (g_rm 7 1 6) (va_Pc [.ref (g_ad G (0))] (g_PX G ids (x, y, o) N)) (g_Xi G ids q (x, y, o)) (h_XC G ids N (x, y, o) q) 1 6 (g_A G) := by
  unfold fx_X12_surety at h
  refine h_entryX (by decide) (Nat.le_of_ble_eq_true rfl) (fun p e s m args below meth c ls C0 hl hW hnt hN => ?_)
  have hl : lv_has ls 3 [(0, .ref (g_ad G (0)))] := hl
  refine lv_aload_n C0.hx C0.hb dX12_surety_0 rfl (lv_at hl 0 rfl) ?_
  refine gf_X12_5 C0 hW (C0.mem (i := 0) (Nat.le_of_ble_eq_true rfl)) k_0 tf_X12_47 dX12_surety_1 ?_
  refine lv_aload_n C0.hx C0.hb dX12_surety_4 rfl (lv_at hl 0 rfl) ?_
  obtain ⟨hk1, h⟩ := g_if h
  refine gf_X12_7 C0 hW (C0.mem (i := 0) (Nat.le_of_ble_eq_true rfl)) k_0 tf_X12_61 dX12_surety_5 ?_
  obtain ⟨q2, hq2, h⟩ := Option.bind_eq_some_iff.mp h
  refine g_calli hW (g_runV (As := [.ref (g_ad G (x.2 0 7))]) (rest := []) C0 hW (c_X1_meantOf hk1 hq2) (g_cwG (n := 1) tc_X1_meantOf tn_X1 md_X1_meantOf (by decide) (by omega) (by decide) (by decide)) tm_X12_190 ti_X1_meantOf ts_X1_meantOf (C0.mem (i := 18) (Nat.le_of_ble_eq_true rfl)) (g_c6 k_18) rfl rfl hl.1 rfl (Nat.le_of_ble_eq_true rfl) dX12_surety_8) (fun H locs hW => ?_)
  refine lv_istore_n (lv' := [(1, .int (q2)), (0, .ref (g_ad G (0)))]) C0.hx C0.hb dX12_surety_11 rfl hl (by decide) rfl (fun ls hl => ?_)
  refine lv_iload_n C0.hx C0.hb dX12_surety_12 rfl (lv_at hl 0 rfl) ?_
  obtain ⟨q3, hq3, h⟩ := Option.bind_eq_some_iff.mp h
  refine h_xcallv C0 hW hN hnt (h_xrunS (As := [.int (q2)]) (rest := []) C0 hW hN (cx_X12_requireMeant hfl hq3) (g_cwG (n := 1) tc_X12_requireMeant tn_X12 md_X12_requireMeant (by decide) (by omega) (by decide) (by decide)) tm_X12_194 tz_X12_requireMeant rfl hl.1 rfl (Nat.le_of_ble_eq_true rfl) dX12_surety_13) (fun u hu => by subst hu; exact (Option.some.inj h).symm) (by decide) (by decide) (fun hu3 H locs hW => ?_)
  subst hu3
  replace h : ((f_X9_closestKept (x.2 0 7) q2 x).bind fun q4 => if q4 = (-1 : Int32) then (some (Sum.inr ((-1 : Int32)))) else ((f_X9_word (x.2 0 7) q4 x).bind fun q6 => if kd (q6) = 10 then ((f_X9_word (x.2 0 7) q2 x).bind fun q8 => if kd (q8) = 10 then (some (Sum.inr ((x.1 q6 2) - (x.1 q8 2)))) else none) else none)) = some _ := h
  refine lv_aload_n C0.hx C0.hb dX12_surety_16 rfl (lv_at hl 1 rfl) ?_
  refine gf_X12_7 C0 hW (C0.mem (i := 0) (Nat.le_of_ble_eq_true rfl)) k_0 tf_X12_61 dX12_surety_17 ?_
  refine lv_iload_n C0.hx C0.hb dX12_surety_20 rfl (lv_at hl 0 rfl) ?_
  obtain ⟨q4, hq4, h⟩ := Option.bind_eq_some_iff.mp h
  refine g_calli hW (g_runV (As := [.int (q2)]) (rest := []) C0 hW (c_X9_closestKept hk1 hq4) (g_cwG (n := 1) tc_X9_closestKept tn_X9 md_X9_closestKept (by decide) (by omega) (by decide) (by decide)) tm_X12_197 ti_X9_closestKept ts_X9_closestKept (C0.mem (kl9 hk1)) (g_c9 hk1) rfl rfl hl.1 rfl (Nat.le_of_ble_eq_true rfl) dX12_surety_21) (fun H locs hW => ?_)
  refine lv_istore_n (lv' := [(2, .int (q4)), (1, .int (q2)), (0, .ref (g_ad G (0)))]) C0.hx C0.hb dX12_surety_24 rfl hl (by decide) rfl (fun ls hl => ?_)
  refine lv_iload_n C0.hx C0.hb dX12_surety_25 rfl (lv_at hl 0 rfl) ?_
  refine lv_iconst (v := (-1 : Int32)) C0.hx C0.hb dX12_surety_26 (by decide) ?_
  refine lv_icmp_ne (tgt := 32) C0.hx C0.hb dX12_surety_27 (by decide) (fun hc5 => ?_) (fun hc5 => ?_)
  · replace h := (if_neg hc5).symm.trans h
    refine lv_aload_n C0.hx C0.hb dX12_surety_32 rfl (lv_at hl 2 rfl) ?_
    refine gf_X12_7 C0 hW (C0.mem (i := 0) (Nat.le_of_ble_eq_true rfl)) k_0 tf_X12_61 dX12_surety_33 ?_
    refine lv_iload_n C0.hx C0.hb dX12_surety_36 rfl (lv_at hl 0 rfl) ?_
    obtain ⟨q6, hq6, h⟩ := Option.bind_eq_some_iff.mp h
    obtain ⟨hk7, h⟩ := g_if h
    refine g_callr hW (g_runV (As := [.int (q4)]) (rest := []) C0 hW (c_X9_word hk1 hq6) (g_cwG (n := 1) tc_X9_word tn_X9 md_X9_word (by decide) (by omega) (by decide) (by decide)) tm_X12_147 ti_X9_word ts_X9_word (C0.mem (kl9 hk1)) (g_c9 hk1) rfl rfl hl.1 rfl (Nat.le_of_ble_eq_true rfl) dX12_surety_37) (fun H locs hW => ?_)
    refine gfN_X11_2 C0 hW (C0.mem (kl10 hk7)) hk7 tfN_X12_184 dX12_surety_40 ?_
    refine lv_aload_n C0.hx C0.hb dX12_surety_43 rfl (lv_at hl 2 rfl) ?_
    refine gf_X12_7 C0 hW (C0.mem (i := 0) (Nat.le_of_ble_eq_true rfl)) k_0 tf_X12_61 dX12_surety_44 ?_
    refine lv_iload_n C0.hx C0.hb dX12_surety_47 rfl (lv_at hl 1 rfl) ?_
    obtain ⟨q8, hq8, h⟩ := Option.bind_eq_some_iff.mp h
    obtain ⟨hk9, h⟩ := g_if h
    refine g_callr hW (g_runV (As := [.int (q2)]) (rest := [.int (x.1 q6 2)]) C0 hW (c_X9_word hk1 hq8) (g_cwG (n := 1) tc_X9_word tn_X9 md_X9_word (by decide) (by omega) (by decide) (by decide)) tm_X12_147 ti_X9_word ts_X9_word (C0.mem (kl9 hk1)) (g_c9 hk1) rfl rfl hl.1 rfl (Nat.le_of_ble_eq_true rfl) dX12_surety_48) (fun H locs hW => ?_)
    refine gfN_X11_2 C0 hW (C0.mem (kl10 hk9)) hk9 tfN_X12_184 dX12_surety_51 ?_
    refine lv_isub C0.hx C0.hb dX12_surety_54 ?_
    obtain rfl := Option.some.inj h
    exact g_xiret C0 hW rfl rfl rfl (by decide) (by decide) dX12_surety_55
  · replace h := (if_pos hc5).symm.trans h
    refine lv_iconst (v := (-1 : Int32)) C0.hx C0.hb dX12_surety_30 (by decide) ?_
    obtain rfl := Option.some.inj h
    exact g_xiret C0 hW rfl rfl rfl (by decide) (by decide) dX12_surety_31
