/-! methods that throw: their contracts, and the rows of a throw, of a call that may throw, and of an end -/
abbrev g_ISE : String := "java/lang/IllegalStateException"
abbrev g_IAE : String := "java/lang/IllegalArgumentException"
abbrev g_IOB : String := "java/lang/IndexOutOfBoundsException"
abbrev g_up : List String := ["java/lang/RuntimeException", "java/lang/Exception"]
def g_ex : Nat → String
  | 1 => g_ISE
  | 2 => g_IAE
  | _ => g_IOB
def g_sb {A T : Type} (r : Nat ⊕ A) (k : A → Option (Nat ⊕ T)) : Option (Nat ⊕ T) := match r with
  | .inl u => some (.inl u)
  | .inr a => k a
theorem g_hatA82 : ∀ w ∈ (vx_atS RX12 82 g_ISE g_up).filter goodWord, w ∈ gT := by decide +kernel
theorem g_hatB82 : ∀ w ∈ (vx_atS RX12 82 g_ISE g_up).filter (fun w => !goodWord w), w ∈ gN := by decide +kernel
theorem g_hatC82 : ∀ w ∈ Cond.classLink RX12 78 g_ISE :: Cond.initialized g_ISE :: (vx_atS RX12 82 g_ISE g_up), vx_ot w = true := by decide +kernel
theorem g_hatA93 : ∀ w ∈ (vx_atS RX12 93 g_IAE g_up).filter goodWord, w ∈ gT := by decide +kernel
theorem g_hatB93 : ∀ w ∈ (vx_atS RX12 93 g_IAE g_up).filter (fun w => !goodWord w), w ∈ gN := by decide +kernel
theorem g_hatC93 : ∀ w ∈ Cond.classLink RX12 89 g_IAE :: Cond.initialized g_IAE :: (vx_atS RX12 93 g_IAE g_up), vx_ot w = true := by decide +kernel
theorem g_hatA249 : ∀ w ∈ (vx_atS RX12 249 g_IOB g_up).filter goodWord, w ∈ gT := by decide +kernel
theorem g_hatB249 : ∀ w ∈ (vx_atS RX12 249 g_IOB g_up).filter (fun w => !goodWord w), w ∈ gN := by decide +kernel
theorem g_hatC249 : ∀ w ∈ Cond.classLink RX12 245 g_IOB :: Cond.initialized g_IOB :: (vx_atS RX12 249 g_IOB g_up), vx_ot w = true := by decide +kernel
def g_XC (G : GL) (ids : List Nat) (S : SS) {T : Type} (res : Nat ⊕ T) : String → State → State → Prop := vx_X (fun u : Nat => res = Sum.inl u) (fun E u t => E = g_ex u ∧ g_B G ids S t) (g_A G)
def g_Xv (G : GL) (ids : List Nat) (res : Nat ⊕ Unit) (S : SS) : Array Value → State → Outcome → State → Prop := va_Qv (fun (u : Unit) => res = Sum.inr u) (fun _ t => g_B G ids S t) (g_A G)
def g_Xi (G : GL) (ids : List Nat) (res : Nat ⊕ Int32) (S : SS) : Array Value → State → Outcome → State → Prop := va_Qi (fun (x : Int32) (_ : Unit) => res = Sum.inr x) (fun _ t => g_B G ids S t) (g_A G)
def g_XiC (G : GL) (ids : List Nat) (res : Nat ⊕ (Int32 × CS)) (y : MS) (o : Nat → Int32) : Array Value → State → Outcome → State → Prop := va_Qi (fun (x : Int32) (u : CS) => res = Sum.inr (x, u)) (fun u t => g_B G ids (u, y, o) t) (g_A G)
section GX
variable {p : Program} {l : Launch} {e : Env} {R : Room} {s : State} {m : MethodId} {args : Array Value} {below : List Frame} {meth : Method} {c : Code} {H : Heap} {locs : List Loc} {cells slots : Nat} {Q : State → Prop} {G : GL} {ids : List Nat} {S : SS} {cc : ByteArray} {nL pc : Nat} {own : String} {rt : Option FieldType} {ls : Array Slot} {rest : List Value} {idx mc ms : Nat} {A : Type} {Qc : Array Value → State → Outcome → State → Prop}
theorem g_entryX {y : MethodName} {ret : Option FieldType} {rm : Room} {as : List Value} {maxL : Nat} {XC : String → State → State → Prop} (hy : plainName y.cls = true) (hlen : (lg_sl as).length ≤ maxL)
    (body : ∀ (p : Program) (e : Env) (s : State) (m : MethodId) (args : Array Value) (below : List Frame) (meth : Method) (c : Code) (ls : Array Slot), g_X G ids p s m args meth c cc maxL y.cls ret → lv_has ls maxL (lv_args 0 as) → g_W G ids S s.heap s.heap [] → (∀ x ∈ c.exceptionTable.toList, False) → W p l e rm s m args below meth c s.heap [] 0 0 (vx_MQ below Qc XC args s mc ms (g_A G)) (F0 m 0 ls [])) : vx_Met l y (.code y cc maxL ret :: gT) rm (va_Pc as (g_P G ids S)) Qc XC mc ms (g_A G) := by
  refine vx_ofW (cc := cc) (maxL := maxL) (ret := ret) hy rfl ?_
  intro p e s m args below meth c s₁ B hml ht hv
  obtain ⟨rfl, hP, hD, hI, hG⟩ := hv
  have hts := atoms_spec (ws := .code y cc maxL ret :: gT) B.pre
  rw [lg_entry_eq]
  exact body p e s m _ below meth c _ ⟨B.exec, B.bytes, hml, findClass_of_methodNamed B.named, fun w h => hts w (List.mem_cons_of_mem _ h), B.notSynchronized, B.returns, hI, hG⟩ (lv_entry as hlen) ⟨hP, hD, va_S.rf⟩ ht
theorem g_xvret {XC : String → State → State → Prop} {res : Nat ⊕ Unit} (C0 : g_X G ids p s m args meth c cc nL own rt) (hW : g_W G ids S s.heap H locs) (hrt : rt = none) (hres : res = Sum.inr ()) (h1 : cells ≤ mc) (h2 : slots ≤ ms) (hdg : decode cc pc = .ok (.return_, 1)) : W p l e R s m args below meth c H locs cells slots (vx_MQ below (g_Xv G ids res S) XC args s mc ms (g_A G)) (F0 m pc ls []) := by
  subst hrt hres
  exact W.widen h1 h2 (vx_ret (W.vret C0.hx C0.hb C0.hr (fun t ht _ => ⟨⟨(), rfl, rfl, (g_end hW ht).1⟩, (g_end hW ht).2⟩) hW.2.2.2.2 hdg C0.hlk))
theorem g_xiret {XC : String → State → State → Prop} {res : Nat ⊕ Int32} (C0 : g_X G ids p s m args meth c cc nL own rt) (hW : g_W G ids S s.heap H locs) {ty : FieldType} {x : Int32} (hrt : rt = some ty) (hn : narrow ty (.int x) = .int x) (hres : res = Sum.inr x) (h1 : cells ≤ mc) (h2 : slots ≤ ms) (hdg : decode cc pc = .ok (.ireturn, 1)) : W p l e R s m args below meth c H locs cells slots (vx_MQ below (g_Xi G ids res S) XC args s mc ms (g_A G)) (F0 m pc ls [.int x]) := by
  subst hrt hres
  exact W.widen h1 h2 (vx_ret (W.zret C0.hx C0.hb C0.hr hn (fun t ht _ => ⟨⟨x, (), rfl, rfl, (g_end hW ht).1⟩, (g_end hW ht).2⟩) hW.2.2.2.2 hdg C0.hlk))
theorem g_xiretC {XC : String → State → State → Prop} {res : Nat ⊕ (Int32 × CS)} {x1 : CS} {y : MS} {o : Nat → Int32} (C0 : g_X G ids p s m args meth c cc nL own rt) (hW : g_W G ids (x1, y, o) s.heap H locs) {ty : FieldType} {x : Int32} (hrt : rt = some ty) (hn : narrow ty (.int x) = .int x) (hres : res = Sum.inr (x, x1)) (h1 : cells ≤ mc) (h2 : slots ≤ ms) (hdg : decode cc pc = .ok (.ireturn, 1)) : W p l e R s m args below meth c H locs cells slots (vx_MQ below (g_XiC G ids res y o) XC args s mc ms (g_A G)) (F0 m pc ls [.int x]) := by
  subst hrt hres
  exact W.widen h1 h2 (vx_ret (W.zret C0.hx C0.hb C0.hr hn (fun t ht _ => ⟨⟨x, x1, rfl, rfl, (g_end hW ht).1⟩, (g_end hW ht).2⟩) hW.2.2.2.2 hdg C0.hlk))
theorem g_xout {T : Type} {res : Nat ⊕ T} {S0 : SS} {u : Nat} {ce : Cell} {q : Addr} (C0 : g_X G ids p s m args meth c cc nL own rt) (hW : g_W G ids S0 s.heap H locs) (hnt : ∀ x ∈ c.exceptionTable.toList, False) (hres : res = Sum.inl u) (hc : H[q]? = some ce) (hv : ce.vm = .none) (hcl : s.vm.findClass (g_ex u) = some ce.cls) (h1 : cells ≤ mc) (h2 : slots ≤ ms) : vx_W p l e R s m args below meth c H locs cells slots (vx_MQ below Qc (g_XC G ids S0 res) args s mc ms (g_A G)) (F0 m pc ls rest) q :=
  vx_out (E := g_ex u) (fun x hx => (hnt x hx).elim) C0.hlk hc hv hcl (fun t ht _ => ⟨u, hres, ⟨rfl, (g_end hW ht).1⟩, (g_end hW ht).2⟩) hW.2.2.2.2 h1 h2
theorem g_xthrow {T : Type} {res : Nat ⊕ T} {cd ik is ic : Nat} {text : String} (C0 : g_X G ids p s m args meth c cc nL RX12 rt) (hW : g_W G ids S s.heap H locs) (hnt : ∀ x ∈ c.exceptionTable.toList, False) (hfl : l.stackTraces = false) (hres : res = Sum.inl cd) (hms : (RX12, is, text) ∈ g_ms) (hfit : Bundle.fit (g_ex cd) = true) (hk : Cond.classLink RX12 ik (g_ex cd) ∈ gT) (hini : Cond.initialized (g_ex cd) ∈ gT) (hA : ∀ w ∈ (vx_atS RX12 ic (g_ex cd) g_up).filter goodWord, w ∈ gT) (hB : ∀ w ∈ (vx_atS RX12 ic (g_ex cd) g_up).filter (fun w => !goodWord w), w ∈ gN) (hC : ∀ w ∈ Cond.classLink RX12 ik (g_ex cd) :: Cond.initialized (g_ex cd) :: vx_atS RX12 ic (g_ex cd) g_up, vx_ot w = true) (hsz : ls.size = nL) (hcat : (rest.map fun v => v.category).sum ≤ 8)
    (d0 : decode cc pc = .ok (.new ik, 3)) (d3 : decode cc (pc + 3) = .ok (.dup, 1)) (d4 : decode cc (pc + 4) = .ok (.ldc is, 2)) (d6 : decode cc (pc + 6) = .ok (.invokespecial ic, 3)) (d9 : decode cc (pc + 9) = .ok (.athrow, 1)) (hR1 : 5 < R.frames) (hR2 : 100 ≤ R.locals) (hR3 : cells + 1 ≤ R.cells) (hR4 : slots + 6 ≤ R.slots) (h1 : cells + 1 ≤ mc) (h2 : slots + 6 ≤ ms) : W p l e R s m args below meth c H locs cells slots (vx_MQ below Qc (g_XC G ids S res) args s mc ms (g_A G)) (F0 m pc ls rest) := by
  obtain ⟨sa, hsa⟩ := C0.hG.2.2.2.2.2.2.2.2.1 _ hms
  refine vx_throwS (names := g_up) (sa := sa) C0.hx C0.hb hfl C0.hown hfit (by decide +kernel) (C0.hts _ hk) (C0.hts _ hini) hsa (vx_hat (fun w h => C0.hts w (hA w h)) hB C0.hN) hC C0.hG.2.2.2.2.2.2.1.1 C0.hG.2.2.2.2.2.2.1.2.1 hW.2.2 (hsz.trans C0.hml.symm) d0 d3 d4 d6 d9 (fun x hx => (hnt x hx).elim) hR1 ?_ hR3 hR4 C0.hlk (fun t ht hz hq => ⟨cd, hres, ⟨rfl, hW.1.kept (fun k q hkq => hq _ (va_at.lt (hW.1 k q hkq))), hW.2.1⟩, ?_⟩) hW.2.2.2.2 h1 h2
  · show _ + (13 * (2 + 1) + 43) ≤ _
    omega
  · exact ⟨Nat.le_trans hW.2.2.1 hz, fun q hq1 hq2 => (hq q (Nat.lt_of_lt_of_le hq1 hW.2.2.1)).trans (hW.2.2.2.1 q hq1 hq2)⟩
theorem g_xthrowW {T : Type} {res : Nat ⊕ T} {cd ik is ic : Nat} {text : String} (C0 : g_X G ids p s m args meth c cc nL RX12 rt) (hW : g_W G ids S s.heap H locs) (hnt : ∀ x ∈ c.exceptionTable.toList, False) (hfl : l.stackTraces = false) (hres : res = Sum.inl cd) (hms : (RX12, is, text) ∈ g_ms) (hfit : Bundle.fit (g_ex cd) = true) (hk : Cond.classLink RX12 ik (g_ex cd) ∈ gT) (hini : Cond.initialized (g_ex cd) ∈ gT) (hA : ∀ w ∈ (vx_atS RX12 ic (g_ex cd) g_up).filter goodWord, w ∈ gT) (hB : ∀ w ∈ (vx_atS RX12 ic (g_ex cd) g_up).filter (fun w => !goodWord w), w ∈ gN) (hC : ∀ w ∈ Cond.classLink RX12 ik (g_ex cd) :: Cond.initialized (g_ex cd) :: vx_atS RX12 ic (g_ex cd) g_up, vx_ot w = true) (hsz : ls.size = nL) (hcat : (rest.map fun v => v.category).sum ≤ 8)
    (d0 : decode cc pc = .ok (.new ik, 3)) (d3 : decode cc (pc + 3) = .ok (.dup, 1)) (d4 : decode cc (pc + 4) = .ok (.ldc_w is, 3)) (d7 : decode cc (pc + 7) = .ok (.invokespecial ic, 3)) (d10 : decode cc (pc + 10) = .ok (.athrow, 1)) (hR1 : 5 < R.frames) (hR2 : 100 ≤ R.locals) (hR3 : cells + 1 ≤ R.cells) (hR4 : slots + 6 ≤ R.slots) (h1 : cells + 1 ≤ mc) (h2 : slots + 6 ≤ ms) : W p l e R s m args below meth c H locs cells slots (vx_MQ below Qc (g_XC G ids S res) args s mc ms (g_A G)) (F0 m pc ls rest) := by
  obtain ⟨sa, hsa⟩ := C0.hG.2.2.2.2.2.2.2.2.1 _ hms
  refine vx_throwSW (names := g_up) (sa := sa) C0.hx C0.hb hfl C0.hown hfit (by decide +kernel) (C0.hts _ hk) (C0.hts _ hini) hsa (vx_hat (fun w h => C0.hts w (hA w h)) hB C0.hN) hC C0.hG.2.2.2.2.2.2.1.1 C0.hG.2.2.2.2.2.2.1.2.1 hW.2.2 (hsz.trans C0.hml.symm) d0 d3 d4 d7 d10 (fun x hx => (hnt x hx).elim) hR1 ?_ hR3 hR4 C0.hlk (fun t ht hz hq => ⟨cd, hres, ⟨rfl, hW.1.kept (fun k q hkq => hq _ (va_at.lt (hW.1 k q hkq))), hW.2.1⟩, ?_⟩) hW.2.2.2.2 h1 h2
  · show _ + (13 * (2 + 1) + 43) ≤ _
    omega
  · exact ⟨Nat.le_trans hW.2.2.1 hz, fun q hq1 hq2 => (hq q (Nat.lt_of_lt_of_le hq1 hW.2.2.1)).trans (hW.2.2.2.1 q hq1 hq2)⟩
theorem g_xcallv {T : Type} {res : Nat ⊕ T} {r : Nat ⊕ Unit} {S0 : SS} {a0 : Array Value} {st0 : List Value} {mc1 ms1 : Nat} (C0 : g_X G ids p s m args meth c cc nL own rt) (hW : g_W G ids S0 s.heap H locs) (hnt : ∀ x ∈ c.exceptionTable.toList, False) (hr : vx_Run p l e R s m args below meth c H locs cells slots mc1 ms1 (F0 m pc ls st0) rest (g_Xv G ids r S0 a0) (g_XC G ids S0 r) (g_A G)) (hres : ∀ u, r = Sum.inl u → res = Sum.inl u) (h1 : cells + mc1 ≤ mc) (h2 : slots + ms1 ≤ ms) (kk : r = Sum.inr () → ∀ (H1 : Heap) (locs1 : List Loc), g_W G ids S0 s.heap H1 locs1 → W p l e R s m args below meth c H1 locs1 (cells + mc1) (slots + ms1) (vx_MQ below Qc (g_XC G ids S0 res) args s mc ms (g_A G)) (F0 m (pc + 3) ls rest)) : W p l e R s m args below meth c H locs cells slots (vx_MQ below Qc (g_XC G ids S0 res) args s mc ms (g_A G)) (F0 m pc ls st0) := by
  refine vx_callv hr hW.2.2 (fun q _ h => h) (fun q h => h) (fun q _ h => h) (fun E ce q9 u t H1 locs1 ht hvm hp hB hz hk hS hc hv hcl => ?_) (fun u t H1 locs1 ht hvm hp hB hz hk hS => ?_)
  · obtain ⟨rfl, hB⟩ := hB
    subst ht
    exact g_xout C0 ⟨hB.1, hB.2, hS⟩ hnt (hres u hp) hc hv hcl h1 h2
  · subst ht
    exact kk hp _ _ ⟨hB.1, hB.2, hS⟩
variable {y : MethodName} {bytes : ByteArray} {maxL n : Nat} {ret : Option FieldType} {rm : Room} {As st0 : List Value} {b ci : Nat} {fs : List Value} {T : u_T} {N : Nat} {XC : String → State → State → Prop}
theorem g_xrunV (C0 : g_X G ids p s m args meth c cc nL own rt) (hW : g_W G ids S s.heap H locs) (hM : vx_Met l y (.code y bytes maxL ret :: gT) rm (va_Pc (.ref (g_ad G b) :: As) (g_P G ids S)) Qc XC mc ms (g_A G)) (cw : g_cw own idx y bytes maxL n ret rm R mc ms cells slots) (hl : .methodLink own idx y ∈ gT) (h2 : .instanceMethod y ∈ gT) (h3 : .selects y.cls y y ∈ gT) (hi : b ∈ ids) (hc : g_c G S b = .inr (ci, fs)) (hcl : vwCl[ci]? = some (y.cls, T, N)) (hn : As.length = n) (hsz : ls.size = nL) (hst : st0 = As.reverse ++ .ref (g_ad G b) :: rest) (hcat : (rest.map fun v => v.category).sum ≤ 8) (hdg : decode cc pc = .ok (.invokevirtual idx, 3)) : vx_Run p l e R s m args below meth c H locs cells slots mc ms (F0 m pc ls st0) rest (Qc (Value.ref (g_ad G b) :: As).toArray) XC (g_A G) := by
  obtain ⟨w1, w2, w3, w4, w5, w6, w7⟩ := cw
  exact vx_runV (As := As) (rest := rest) C0.call hM (cwV n C0.hts (g_goodV hl h2 h3 w2 w1) rfl w3 w4 ⟨rfl, w5⟩ w6) ⟨g_blind, g_recv C0 hW hi hc hcl, fun U hU hw => ⟨rfl, g_pre C0 hW hU hw⟩⟩ rfl hn hsz hst (by simpa using hcat) hdg w7
theorem g_xrunS (C0 : g_X G ids p s m args meth c cc nL own rt) (hW : g_W G ids S s.heap H locs) (hM : vx_Met l y (.code y bytes maxL ret :: gT) rm (va_Pc As (g_P G ids S)) Qc XC mc ms (g_A G)) (cw : g_cw own idx y bytes maxL n ret rm R mc ms cells slots) (hl : .methodLink own idx y ∈ gT) (h2 : .static y ∈ gT) (hn : As.length = n) (hsz : ls.size = nL) (hst : st0 = As.reverse ++ rest) (hcat : (rest.map fun v => v.category).sum ≤ 8) (hdg : decode cc pc = .ok (.invokestatic idx, 3)) : vx_Run p l e R s m args below meth c H locs cells slots mc ms (F0 m pc ls st0) rest (Qc As.toArray) XC (g_A G) := by
  obtain ⟨w1, w2, w3, w4, w5, w6, w7⟩ := cw
  exact vx_runS (As := As) (rest := rest) C0.call hM ⟨callB_of n C0.hts (g_good1 w1) rfl w3 w4 (C0.hts _ w2) (C0.hts _ hl) w5 w6, C0.hts _ h2⟩ ⟨g_blind, fun U hU hw => ⟨rfl, g_pre C0 hW hU hw⟩⟩ rfl hn hsz hst (by simpa using hcat) hdg w7
theorem g_cwG {k k1 u v : Nat} (h1 : .code y bytes maxL ret ∈ gT) (h2 : .initialized y.cls ∈ gT) (h3 : y.cls ≠ "java/lang/invoke/MethodHandle" ∧ y.cls ≠ "java/lang/invoke/VarHandle" ∧ (parseMethodDescriptor y.desc).map (fun d => d.parameters.length) = some n) (h4 : maxL ≤ 40) (h5 : k1 + 1 ≤ k) (h6 : cells + mc ≤ u) (h7 : slots + ms ≤ v) : g_cw own idx y bytes maxL n ret (g_rm k1 mc ms) (g_rm k u v) mc ms cells slots := by
  refine ⟨h1, h2, rfl, rfl, h3, ⟨h5, ?_⟩, h6, h7⟩
  show 8 + (maxL + 11) + 64 * k1 ≤ 64 * k
  omega
end GX
