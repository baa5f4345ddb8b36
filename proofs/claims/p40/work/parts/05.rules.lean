/-! what the class files' constants hold; the method's fixed facts; the rows over the world -/
def g_nm : List String := ["WORD", "IS", "HOLD", "FOR", "GLIDE", "TO", "REST", "BAND", "NEAR", "PRUNE", "RESTORE", "SHIFT", "BY", "WHEN", "LESSON", "KEPT", "DISTANCE", "LENGTH", "OF", "HEARD", "PRUNED", "NOT", "AND", "OR", "MIN", "MAX", "OPEN", "CLOSE", "OPEN_TEST", "CLOSE_TEST", "SEMICOLON", "COMMA", "PLUS", "MINUS", "TIMES", "OVER", "LESS", "GREATER", "EQUAL", "AT_MOST", "AT_LEAST", "NAME", "NUMBER", "NEGATIVE", "END", "WRONG"]
def g_byt : List (List Int32) := [[119, 111, 114, 100], [105, 115], [104, 111, 108, 100], [102, 111, 114], [103, 108, 105, 100, 101], [116, 111], [114, 101, 115, 116], [98, 97, 110, 100], [110, 101, 97, 114], [112, 114, 117, 110, 101], [114, 101, 115, 116, 111, 114, 101], [115, 104, 105, 102, 116], [98, 121], [119, 104, 101, 110], [108, 101, 115, 115, 111, 110], [107, 101, 112, 116], [100, 105, 115, 116, 97, 110, 99, 101], [108, 101, 110, 103, 116, 104], [111, 102], [104, 101, 97, 114, 100], [112, 114, 117, 110, 101, 100], [110, 111, 116], [97, 110, 100], [111, 114], [109, 105, 110], [109, 97, 120], [40], [41], [91], [93], [59], [44], [43], [45], [42], [47], [60], [62], [61], [60, 61], [62, 61], [], [], [], [], [], [119, 111, 114, 100, 32, 119], [32, 105, 115, 32], [], [44, 32], [104, 111, 108, 100, 32], [103, 108, 105, 100, 101, 32], [32, 116, 111, 32], [114, 101, 115, 116], [32, 102, 111, 114, 32], [59, 10], [59], [98, 97, 110, 100, 32], [110, 101, 97, 114, 32, 53, 59, 110, 101, 97, 114, 32], [], [108, 101, 115, 115, 111, 110], [107, 101, 112, 116], [100, 105, 115, 116, 97, 110, 99, 101, 32, 111, 102, 32, 119], [108, 101, 110, 103, 116, 104, 32, 111, 102, 32, 119], [45], [109, 105, 110, 40], [44], [41], [109, 97, 120, 40], [32, 44, 32], [104, 101, 97, 114, 100, 32, 119], [112, 114, 117, 110, 101, 100, 32, 119], [110, 111, 116, 32], [91], [32, 97, 110, 100, 32], [93], [32, 111, 114, 32], [40], [112, 114, 117, 110, 101, 32, 119], [114, 101, 115, 116, 111, 114, 101, 32, 119], [115, 104, 105, 102, 116, 32, 119], [32, 98, 121, 32], [59], [32, 119, 104, 101, 110, 32], [43], [45], [42], [47], [60], [62], [61], [60, 61], [62, 61]]
def g_len : List Nat := g_byt.map List.length
def g_sm : List Int32 := [0, 0, 0, 0, 0, 0, 0, 0, 0, 0, 0, 0, 0, 0, 1, 2, 3, 4, 0, 5, 6, 0, 7, 8, 9, 10, 0, 0, 0, 0, 0, 0, 11, 12, 13, 14, 15, 16, 17, 18, 19, 0, 0, 0, 0, 0]
def g_ms : List (String × Nat × String) := [(RX12, 80, "the tape would be too long"), (RX12, 91, "the tape has no such length"), (RX12, 175, "there is no other word"), (RX12, 200, "there is no such pitch"), (RX12, 202, "no more beats can be heard"), (RX12, 211, "that is too great a shift"), (RX12, 247, "there is no such word"), (RX12, 250, "there is no such beat"), (RX12, 252, "nothing was heard"), (RX12, 254, "no word was meant"), (RX12, 256, "lessons are 1 to 20")]
/-- arrays of arrays of ints can be made; their class -/
def h_AOA (U : State) : Prop := (Cond.arrayOver (.array .int)).before #[] U = true
theorem h_AOA.moved {u U : State} (hvm : u.vm.Alike U.vm) (h : h_AOA u) : h_AOA U := by
  obtain ⟨comp, c, k, h1, h2, h3, h4, h5⟩ := arrayOverA_spec h
  obtain ⟨k', hk', he⟩ := hvm.2.2 _ _ h3
  have hi : (U.vm.classes.findIdx? fun (x : Class) => match x.kind with | .array component _ => component == comp | _ => false) = some c := by
    refine (va_idx_bare U.vm comp).symm.trans ?_
    first | rw [hvm.bare_eq] | rw [← hvm.bare_eq]
    exact (va_idx_bare _ comp).trans h2
  have hkind : k'.kind = .array comp (.array .int) := by rw [he]; exact h4
  have f1 : U.vm.findClass (FieldType.array .int).toString = some comp := by rw [hvm.findClass]; exact h1
  have f2 : U.vm.findClass ("[" ++ (FieldType.array .int).toString) = some c := by rw [hvm.findClass]; exact h5
  unfold h_AOA Cond.before Cond.holds
  simp only [Cond.value]
  rw [f1, Option.bind_some]
  refine (congrArg (fun o : Option Nat => (o.bind (fun c => (U.vm.classes[c]?).map fun (k : Class) => match k.kind with | .array _ ty => decide (ty = FieldType.array .int) && decide (U.vm.findClass ("[" ++ (FieldType.array .int).toString) = some c) | _ => false) == some true)) hi).trans ?_
  simp [hk', hkind, f2]
def h_KA (G : GL) (U : State) : Prop := ∃ kA : Class, U.vm.classes[g_cA G 8]? = some kA ∧ kA.kind = .array (g_cA G 0) (.array .int)
theorem h_KA.moved {G : GL} {u U : State} (hvm : u.vm.Alike U.vm) (h : h_KA G u) : h_KA G U := by
  obtain ⟨k, h1, h2⟩ := h
  obtain ⟨k', hk', he⟩ := hvm.2.2 _ _ h1
  exact ⟨k', hk', by rw [he]; exact h2⟩
/-- private methods of StringBuilder's super class are what a StringBuilder runs -/
def h_slw : List Cond := [.selects "java/lang/StringBuilder" yJ5_ensureCapacityInternal_d00df yJ5_ensureCapacityInternal_d00df, .selects "java/lang/StringBuilder" yJ5_newCapacity_0f7a4 yJ5_newCapacity_0f7a4, .selects "java/lang/StringBuilder" yJ5_putStringAt_47b60 yJ5_putStringAt_47b60, .selects "java/lang/StringBuilder" yJ5_inflateIfNeededFor_a7421 yJ5_inflateIfNeededFor_a7421]
theorem h_slg : ∀ w ∈ h_slw, goodWord w = true := by
  intro w hw
  simp only [h_slw, List.mem_cons, List.not_mem_nil, or_false] at hw
  rcases hw with rfl | rfl | rfl | rfl <;> rfl
def g_ld : List (String × Nat × String × Nat) := [(RL, 52, "word w", 46), (RL, 63, " is ", 47), (RL, 65, "", 48), (RL, 67, ", ", 49), (RL, 69, "hold ", 50), (RL, 71, "glide ", 51), (RL, 73, " to ", 52), (RL, 75, "rest", 53), (RL, 77, " for ", 54), (RL, 79, ";\n", 55), (RL, 81, ";", 56), (RL, 87, "band ", 57), (RL, 92, "near 5;near ", 58), (RX14, 43, "", 59), (RX14, 56, "lesson", 60), (RX14, 58, "kept", 61), (RX14, 60, "distance of w", 62), (RX14, 62, "length of w", 63), (RX14, 64, "-", 64), (RX14, 69, "min(", 65), (RX14, 71, ",", 66), (RX14, 73, ")", 67), (RX14, 75, "max(", 68), (RX14, 77, " , ", 69), (RX14, 79, "heard w", 70), (RX14, 81, "pruned w", 71), (RX14, 83, "not ", 72), (RX14, 85, "[", 73), (RX14, 87, " and ", 74), (RX14, 89, "]", 75), (RX14, 91, " or ", 76), (RX14, 93, "(", 77), (RX15, 39, "prune w", 78), (RX15, 52, "restore w", 79), (RX15, 54, "shift w", 80), (RX15, 56, " by ", 81), (RX15, 61, ";", 82), (RX15, 63, " when ", 83)]
def g_d1 (i : Nat) : Int32 := nI (48 + i % 10)
def g_d2 (i : Nat) : Int32 := nI (48 + i / 10)
def g_S1 (G : GL) (U : State) (H : Heap) : Prop := (∀ i, i < 46 → va_Z RX6 (g_nm.getD i "") "LGlideWhistles$Sign;" (.ref (g_sg G i)) (g_A G) U H ∧ va_O RX6 (g_sg G i) (g_A G) U H ∧ va_OF "java/lang/Enum" "ordinal" "I" (.int (nI i)) (g_sg G i) (g_A G) U H ∧ va_OF RX6 "text" "Ljava/lang/String;" (.ref (g_sK G i)) (g_sg G i) (g_A G) U H)
def g_S2 (G : GL) (U : State) (H : Heap) : Prop := (va_Z RX12 "SIGNS" "[LGlideWhistles$Sign;" (.ref (g_st G 0)) (g_A G) U H ∧ va_T (.object RX6) (g_st G 0) 46 (fun i => .ref (g_sg G i)) (g_A G) U H) ∧ (va_Z RX0 "$SwitchMap$GlideWhistles$Sign" "[I" (.ref (g_st G 1)) (g_A G) U H ∧ va_T .int (g_st G 1) 46 (fun i => .int (g_sm.getD i 0)) (g_A G) U H) ∧ (va_Z RL "SIGNS" "[Ljava/lang/String;" (.ref (g_st G 2)) (g_A G) U H ∧ va_T (.object "java/lang/String") (g_st G 2) 9 (fun i => .ref (g_sK G (84 + i))) (g_A G) U H) ∧ (va_Z "java/lang/Integer" "DigitOnes" "[B" (.ref (g_st G 3)) (g_A G) U H ∧ va_T .byte (g_st G 3) 100 (fun i => .int (g_d1 i)) (g_A G) U H) ∧ (va_Z "java/lang/Integer" "DigitTens" "[B" (.ref (g_st G 4)) (g_A G) U H ∧ va_T .byte (g_st G 4) 100 (fun i => .int (g_d2 i)) (g_A G) U H) ∧ va_T .int (g_st G 5) (g_L G) (fun i => .int (g_xs G i)) (g_A G) U H
def g_S3 (G : GL) (U : State) (H : Heap) : Prop := ∀ i, i < 93 → va_O "java/lang/String" (g_sK G i) (g_A G) U H ∧ va_OF "java/lang/String" "coder" "B" (.int 0) (g_sK G i) (g_A G) U H ∧ va_OF "java/lang/String" "value" "[B" (.ref (g_sV G i)) (g_sK G i) (g_A G) U H ∧ va_T .byte (g_sV G i) (g_len.getD i 0) (fun j => .int ((g_byt.getD i []).getD j 0)) (g_A G) U H
def g_S4 (G : GL) (U : State) (H : Heap) : Prop := vx_Zq Bundle.tN "UNASSIGNED_STACK" Bundle.steD (g_A G) U H ∧ vx_Zq Bundle.tN "SUPPRESSED_SENTINEL" Bundle.listD (g_A G) U H ∧ va_Z "java/lang/String" "COMPACT_STRINGS" "Z" (.int 1) (g_A G) U H ∧ va_Zq "jdk/internal/util/Preconditions" "SIOOBE_FORMATTER" "Ljava/util/function/BiFunction;" (g_A G) U H
def g_S5 (G : GL) (U : State) : Prop := (∀ w ∈ gN, va_Nw w U) ∧ (∀ q ∈ g_ms, ∃ a, vk_R q.1 q.2.1 q.2.2 a U) ∧ (∀ q ∈ g_ld, vk_R q.1 q.2.1 q.2.2.1 (g_sK G q.2.2.2) U) ∧ h_AOA U ∧ va_AO RX15 U ∧ h_KA G U ∧ ∀ w ∈ h_slw, ∀ a : Array Value, w.before a U = true
def g_G (G : GL) (U : State) : Prop := va_K (g_D G) vwCl (g_tys G) U ∧ g_b G ≤ U.heap.size ∧ (∀ i j, g_sg G i = g_sg G j → i = j) ∧ g_S1 G U U.heap ∧ g_S2 G U U.heap ∧ g_S3 G U U.heap ∧ g_S4 G U U.heap ∧ g_S5 G U
theorem g_nest {w : Cond} {s U : State} (h : g_isN w = true) (hW : s.WarmedH U.vm) (hz : va_Nw w s) : va_Nw w U := by
  cases w <;> first | exact va_Nw.warmF hW hz | exact va_Nw.warmM hW hz | exact va_Nw.warmD hW hz | exact va_Nw.warmC hW hz | cases h
theorem g_G_to {G : GL} {s U : State} (h : g_G G s) (hW : s.WarmedH U.vm) (hz : s.heap.size ≤ U.heap.size) (hk : ∀ a : Nat, a < s.heap.size → ¬ g_A G a → U.heap[a]? = s.heap[a]?) : g_G G U := by
  have hA := hW.alike
  obtain ⟨h0, h1, h2, h3, h4, h5, h6, h7⟩ := h
  obtain ⟨⟨a1, a2⟩, ⟨a3, a4⟩, ⟨a5, a6⟩, ⟨a7, a8⟩, ⟨a9, a10⟩, a11⟩ := h4
  obtain ⟨b1, b2, b3, b4⟩ := h6
  refine ⟨va_K.moved hA h0, Nat.le_trans h1 hz, h2, fun i hi => ?_, ⟨⟨(va_Z.moved hA a1).kept hk, (va_T.moved hA a2).kept hk⟩, ⟨(va_Z.moved hA a3).kept hk, (va_T.moved hA a4).kept hk⟩, ⟨(va_Z.moved hA a5).kept hk, (va_T.moved hA a6).kept hk⟩, ⟨(va_Z.moved hA a7).kept hk, (va_T.moved hA a8).kept hk⟩, ⟨(va_Z.moved hA a9).kept hk, (va_T.moved hA a10).kept hk⟩, (va_T.moved hA a11).kept hk⟩, fun i hi => ?_, ⟨(vx_Zq.moved hA b1).kept hk, (vx_Zq.moved hA b2).kept hk, (va_Z.moved hA b3).kept hk, (va_Zq.moved hA b4).kept hk⟩, fun w hw => ?_, fun q hq => ?_, fun q hq => ?_, h_AOA.moved hA h7.2.2.2.1, h7.2.2.2.2.1.moved hA, h_KA.moved hA h7.2.2.2.2.2.1, fun w hw a => word_at hW (good_of_word (h_slg w hw)) (h7.2.2.2.2.2.2 w hw #[])⟩
  · obtain ⟨c1, c2, c3, c4⟩ := h3 i hi
    exact ⟨(va_Z.moved hA c1).kept hk, (va_O.moved hA c2).kept hk, (va_OF.moved hA c3).kept hk, (va_OF.moved hA c4).kept hk⟩
  · obtain ⟨c1, c2, c3, c4⟩ := h5 i hi
    exact ⟨(va_O.moved hA c1).kept hk, (va_OF.moved hA c2).kept hk, (va_OF.moved hA c3).kept hk, (va_T.moved hA c4).kept hk⟩
  · exact g_nest (List.mem_filter.mp hw).2 hW (h7.1 w hw)
  · obtain ⟨a, ha⟩ := h7.2.1 q hq
    exact ⟨a, ha.warm hW⟩
  · exact (h7.2.2.1 q hq).warm hW
/-- a world before a call, behind it -/
def g_P (G : GL) (ids : List Nat) (S : SS) (U : State) : Prop := va_P (g_D G) vwCl (g_wl G ids S) U.heap ∧ va_D (g_A G) (g_wl G ids S) ∧ (∀ i, i < 120 → i ∈ ids) ∧ g_G G U
def g_B (G : GL) (ids : List Nat) (S : SS) (t : State) : Prop := va_P (g_D G) vwCl (g_wl G ids S) t.heap ∧ va_D (g_A G) (g_wl G ids S)
def g_Qi (G : GL) (ids : List Nat) (r : Int32) (S : SS) : Array Value → State → Outcome → State → Prop := va_Qi (fun (x : Int32) (_ : Unit) => x = r) (fun _ t => g_B G ids S t) (g_A G)
def g_Ql (G : GL) (ids : List Nat) (r : Int64) (S : SS) : Array Value → State → Outcome → State → Prop := va_Ql (fun (x : Int64) (_ : Unit) => x = r) (fun _ t => g_B G ids S t) (g_A G)
def g_Qd (G : GL) (ids : List Nat) (r : UInt64) (S : SS) : Array Value → State → Outcome → State → Prop := va_Qd (fun (x : UInt64) (_ : Unit) => x = r) (fun _ t => g_B G ids S t) (g_A G)
def g_Qv (G : GL) (ids : List Nat) (S : SS) : Array Value → State → Outcome → State → Prop := va_Qv (fun (_ : Unit) => True) (fun _ t => g_B G ids S t) (g_A G)
def g_Qr (G : GL) (ids : List Nat) (a : Nat) (S : SS) : Array Value → State → Outcome → State → Prop := va_Qr (fun (_ : Unit) => True) (fun _ q t => q = a ∧ g_B G ids S t) (g_A G)
theorem g_blind {G : GL} {ids : List Nat} {S : SS} {as : List Value} : FrameBlind (va_Pc as (g_P G ids S)) := fun a U g mk q => ⟨q.1, q.2.1, q.2.2.1, q.2.2.2.1, g_G_to (U := U.calling g mk a) q.2.2.2.2 (State.WarmedH.refl U) (Nat.le_refl _) (fun _ _ _ => rfl)⟩
/-- a method's fixed facts -/
def g_X (G : GL) (ids : List Nat) (p : Program) (s : State) (m : MethodId) (args : Array Value) (meth : Method) (c : Code) (cc : ByteArray) (nL : Nat) (own : String) (rt : Option FieldType) : Prop :=
  p.tables.exec = Jvm.exec ∧ c.code = cc ∧ c.maxLocals = nL ∧ s.vm.findClass own = some m.cls ∧ (∀ w ∈ gT, w.before args s = true) ∧ meth.locks = false ∧ meth.sig.returnType = rt ∧ (∀ i, i < 120 → i ∈ ids) ∧ g_G G s
def g_rm (k mc ms : Nat) : Room := { frames := k, cells := mc, slots := ms, locals := 64 * k }
section GR
variable {p : Program} {l : Launch} {e : Env} {R : Room} {s : State} {m : MethodId} {args : Array Value} {below : List Frame} {meth : Method} {c : Code} {H : Heap} {locs : List Loc} {cells slots : Nat} {Q : State → Prop} {G : GL} {ids : List Nat} {S : SS} {cc : ByteArray} {nL pc : Nat} {own : String} {rt : Option FieldType} {ls : Array Slot} {rest : List Value}
theorem g_X.hx (C0 : g_X G ids p s m args meth c cc nL own rt) : p.tables.exec = Jvm.exec := C0.1
theorem g_X.hb (C0 : g_X G ids p s m args meth c cc nL own rt) : c.code = cc := C0.2.1
theorem g_X.hml (C0 : g_X G ids p s m args meth c cc nL own rt) : c.maxLocals = nL := C0.2.2.1
theorem g_X.hown (C0 : g_X G ids p s m args meth c cc nL own rt) : s.vm.findClass own = some m.cls := C0.2.2.2.1
theorem g_X.hts (C0 : g_X G ids p s m args meth c cc nL own rt) : ∀ w ∈ gT, w.before args s = true := C0.2.2.2.2.1
theorem g_X.hlk (C0 : g_X G ids p s m args meth c cc nL own rt) : meth.locks = false := C0.2.2.2.2.2.1
theorem g_X.hr (C0 : g_X G ids p s m args meth c cc nL own rt) : meth.sig.returnType = rt := C0.2.2.2.2.2.2.1
theorem g_X.mem (C0 : g_X G ids p s m args meth c cc nL own rt) {i : Nat} (h : i < 120) : i ∈ ids := C0.2.2.2.2.2.2.2.1 i h
theorem g_X.hG (C0 : g_X G ids p s m args meth c cc nL own rt) : g_G G s := C0.2.2.2.2.2.2.2.2
theorem g_X.hK (C0 : g_X G ids p s m args meth c cc nL own rt) : va_K (g_D G) vwCl (g_tys G) s := C0.hG.1
theorem g_X.call (C0 : g_X G ids p s m args meth c cc nL own rt) : CallFix p m c cc nL s args gT own := ⟨C0.hx, C0.hb, C0.hml, C0.hown, C0.hts⟩
theorem g_X.nest (C0 : g_X G ids p s m args meth c cc nL own rt) {w : Cond} (h : w ∈ gN) : va_Nw w s := C0.hG.2.2.2.2.2.2.2.1 w h
theorem g_X.nestB (C0 : g_X G ids p s m args meth c cc nL own rt) {a b d f h : String} {i : Nat} (hm : Cond.fieldLinkNest a i b d f h ∈ gN) : (Cond.fieldLinkNest a i b d f h).before args s = true := va_Nw.use rfl (C0.nest hm)
theorem g_X.hN (C0 : g_X G ids p s m args meth c cc nL own rt) : ∀ w ∈ gN, w.before args s = true := fun w h => by
  have h1 := (List.mem_filter.mp h).2
  have h2 := C0.nest h
  cases w <;> first | exact va_Nw.use rfl h2 | cases h1
theorem g_get (C0 : g_X G ids p s m args meth c cc nL own rt) (hW : g_W G ids S s.heap H locs) {i ci k idx N : Nat} {C : String} {T : u_T} {fs : List Value} {v : Value} (hi : i ∈ ids) (hc : g_c G S i = .inr (ci, fs)) (hcl : vwCl[ci]? = some (C, T, N)) (hk : k < N) (hin : ∀ w ∈ u_ws C T N, w ∈ gT) (hl : Cond.fieldLink own idx (T k).1 (T k).2.1 (T k).2.2.1 ∈ gT) (hv : fs[k]? = some v) (hdg : decode cc pc = .ok (.getfield idx, 3)) (kk : W p l e R s m args below meth c H locs cells slots Q (F0 m (pc + 3) ls (v :: rest))) : W p l e R s m args below meth c H locs cells slots Q (F0 m pc ls (.ref (g_ad G i) :: rest)) := by
  obtain ⟨q0, hq⟩ := List.getElem?_of_mem hi
  exact va_get C0.hx C0.hb C0.hts hin C0.hown C0.hK hW.1 q0 (g_wl_at hq hc) hcl k hk (C0.hts _ hl) (fun _ h => h) hv hdg kk
theorem g_getN (C0 : g_X G ids p s m args meth c cc nL own rt) (hW : g_W G ids S s.heap H locs) {i ci k idx N : Nat} {C host : String} {T : u_T} {fs : List Value} {v : Value} (hi : i ∈ ids) (hc : g_c G S i = .inr (ci, fs)) (hcl : vwCl[ci]? = some (C, T, N)) (hk : k < N) (hin : ∀ w ∈ u_ws C T N, w ∈ gT) (hl : Cond.fieldLinkNest own idx (T k).1 (T k).2.1 (T k).2.2.1 host ∈ gN) (hv : fs[k]? = some v) (hdg : decode cc pc = .ok (.getfield idx, 3)) (kk : W p l e R s m args below meth c H locs cells slots Q (F0 m (pc + 3) ls (v :: rest))) : W p l e R s m args below meth c H locs cells slots Q (F0 m pc ls (.ref (g_ad G i) :: rest)) := by
  obtain ⟨q0, hq⟩ := List.getElem?_of_mem hi
  exact va_getN C0.hx C0.hb C0.hts hin C0.hown C0.hK hW.1 q0 (g_wl_at hq hc) hcl k hk (C0.nestB hl) (fun _ h => h) hv hdg kk
theorem g_put (C0 : g_X G ids p s m args meth c cc nL own rt) (hW : g_W G ids S s.heap H locs) {S1 : SS} {i ci k idx N : Nat} {C : String} {T : u_T} {ty0 : Nat → FieldType} {fs : List Value} {v : Value} {ty : FieldType} (hi : i ∈ ids) (hc : g_c G S i = .inr (ci, fs)) (hc1 : g_c G S1 i = .inr (ci, fs.set k v)) (ho : ∀ j, j ≠ i → g_c G S1 j = g_c G S j) (hcl : vwCl[ci]? = some (C, T, N)) (hk : k < N) (hin : ∀ w ∈ u_ws C T N, w ∈ gT) (hty : ∀ k, k < N → parseFieldDescriptor (T k).2.2.1 = some (ty0 k)) (hnm : ∀ a, a < N → ∀ b, b < N → a ≠ b → (T a).2.1 ≠ (T b).2.1) (hfin : (T k).2.2.2 = false) (hd : parseFieldDescriptor (T k).2.2.1 = some ty) (hn : narrow ty v = v) (hfit : fits ty v = true) (hlen : k < fs.length) (hl : Cond.fieldLink own idx (T k).1 (T k).2.1 (T k).2.2.1 ∈ gT) (hdg : decode cc pc = .ok (.putfield idx, 3)) (kk : ∀ (H1 : Heap) (locs1 : List Loc), g_W G ids S1 s.heap H1 locs1 → W p l e R s m args below meth c H1 locs1 cells slots Q (F0 m (pc + 3) ls rest)) : W p l e R s m args below meth c H locs cells slots Q (F0 m pc ls (v :: .ref (g_ad G i) :: rest)) := by
  obtain ⟨q0, hq⟩ := List.getElem?_of_mem hi
  refine va_put C0.hx C0.hb C0.hts hin ty0 hty hnm C0.hown C0.hK hW.1 hW.2.1 hW.2.2 q0 (g_wl_at hq hc) hcl k hk (C0.hts _ hl) (fun _ h => h) hfin hd hn hfit hlen hdg (fun H1 locs1 hP hD hS => kk H1 locs1 ?_)
  have he := g_set hW.2.1 hq ho
  rw [hc1] at he
  rw [he] at hP hD
  exact ⟨hP, hD, hS⟩
theorem g_putN (C0 : g_X G ids p s m args meth c cc nL own rt) (hW : g_W G ids S s.heap H locs) {S1 : SS} {i ci k idx N : Nat} {C host : String} {T : u_T} {ty0 : Nat → FieldType} {fs : List Value} {v : Value} {ty : FieldType} (hi : i ∈ ids) (hc : g_c G S i = .inr (ci, fs)) (hc1 : g_c G S1 i = .inr (ci, fs.set k v)) (ho : ∀ j, j ≠ i → g_c G S1 j = g_c G S j) (hcl : vwCl[ci]? = some (C, T, N)) (hk : k < N) (hin : ∀ w ∈ u_ws C T N, w ∈ gT) (hty : ∀ k, k < N → parseFieldDescriptor (T k).2.2.1 = some (ty0 k)) (hnm : ∀ a, a < N → ∀ b, b < N → a ≠ b → (T a).2.1 ≠ (T b).2.1) (hfin : (T k).2.2.2 = false) (hd : parseFieldDescriptor (T k).2.2.1 = some ty) (hn : narrow ty v = v) (hfit : fits ty v = true) (hlen : k < fs.length) (hl : Cond.fieldLinkNest own idx (T k).1 (T k).2.1 (T k).2.2.1 host ∈ gN) (hdg : decode cc pc = .ok (.putfield idx, 3)) (kk : ∀ (H1 : Heap) (locs1 : List Loc), g_W G ids S1 s.heap H1 locs1 → W p l e R s m args below meth c H1 locs1 cells slots Q (F0 m (pc + 3) ls rest)) : W p l e R s m args below meth c H locs cells slots Q (F0 m pc ls (v :: .ref (g_ad G i) :: rest)) := by
  obtain ⟨q0, hq⟩ := List.getElem?_of_mem hi
  refine va_putN C0.hx C0.hb C0.hts hin ty0 hty hnm C0.hown C0.hK hW.1 hW.2.1 hW.2.2 q0 (g_wl_at hq hc) hcl k hk (C0.nestB hl) (fun _ h => h) hfin hd hn hfit hlen hdg (fun H1 locs1 hP hD hS => kk H1 locs1 ?_)
  have he := g_set hW.2.1 hq ho
  rw [hc1] at he
  rw [he] at hP hD
  exact ⟨hP, hD, hS⟩
theorem g_alen (C0 : g_X G ids p s m args meth c cc nL own rt) (hW : g_W G ids S s.heap H locs) {i t0 : Nat} {a : vp_A} {ty : FieldType} {v : Int32} (hi : i ∈ ids) (hc : g_c G S i = .inl (g_cA G t0, a)) (ht : (g_tys G)[t0]? = some (g_cA G t0, ty)) (hv : Int32.ofNat a.1 = v) (hdg : decode cc pc = .ok (.arraylength, 1)) (kk : W p l e R s m args below meth c H locs cells slots Q (F0 m (pc + 1) ls (.int v :: rest))) : W p l e R s m args below meth c H locs cells slots Q (F0 m pc ls (.ref (g_ad G i) :: rest)) := by
  obtain ⟨q0, hq⟩ := List.getElem?_of_mem hi
  exact va_alen C0.hx C0.hb C0.hK hW.1 q0 t0 (g_wl_at hq hc) ht hv hdg kk
theorem g_iald (C0 : g_X G ids p s m args meth c cc nL own rt) (hW : g_W G ids S s.heap H locs) {i n : Nat} {f : Nat → Int32} {j : Int32} (hi : i ∈ ids) (hc : g_c G S i = .inl (g_cA G 0, n, .inl f)) (hin : vp_in j n) (hdg : decode cc pc = .ok (.iaload, 1)) (kk : W p l e R s m args below meth c H locs cells slots Q (F0 m (pc + 1) ls (.int (f j.toNatClampNeg) :: rest))) : W p l e R s m args below meth c H locs cells slots Q (F0 m pc ls (.int j :: .ref (g_ad G i) :: rest)) := by
  obtain ⟨q0, hq⟩ := List.getElem?_of_mem hi
  exact va_iald C0.hx C0.hb C0.hK hW.1 q0 0 (g_wl_at hq hc) rfl hin hdg kk
theorem g_cald (C0 : g_X G ids p s m args meth c cc nL own rt) (hW : g_W G ids S s.heap H locs) {i n : Nat} {f : Nat → Int32} {j : Int32} (hi : i ∈ ids) (hc : g_c G S i = .inl (g_cA G 1, n, .inl f)) (hin : vp_in j n) (hdg : decode cc pc = .ok (.caload, 1)) (kk : W p l e R s m args below meth c H locs cells slots Q (F0 m (pc + 1) ls (.int (f j.toNatClampNeg) :: rest))) : W p l e R s m args below meth c H locs cells slots Q (F0 m pc ls (.int j :: .ref (g_ad G i) :: rest)) := by
  obtain ⟨q0, hq⟩ := List.getElem?_of_mem hi
  exact va_cald C0.hx C0.hb C0.hK hW.1 q0 1 (g_wl_at hq hc) rfl hin hdg kk
theorem g_aald (C0 : g_X G ids p s m args meth c cc nL own rt) (hW : g_W G ids S s.heap H locs) {i n t0 : Nat} {C : String} {f : Nat → Option Nat} {j : Int32} {v : Value} (hi : i ∈ ids) (hc : g_c G S i = .inl (g_cA G t0, n, .inr (.inr (.inr (.inr f))))) (ht : (g_tys G)[t0]? = some (g_cA G t0, .object C)) (hin : vp_in j n) (hv : va_rf (f j.toNatClampNeg) = v) (hdg : decode cc pc = .ok (.aaload, 1)) (kk : W p l e R s m args below meth c H locs cells slots Q (F0 m (pc + 1) ls (v :: rest))) : W p l e R s m args below meth c H locs cells slots Q (F0 m pc ls (.int j :: .ref (g_ad G i) :: rest)) := by
  obtain ⟨q0, hq⟩ := List.getElem?_of_mem hi
  subst hv
  exact va_aldq C0.hx C0.hb C0.hK hW.1 q0 t0 (g_wl_at hq hc) ht hin hdg kk
theorem g_iast (C0 : g_X G ids p s m args meth c cc nL own rt) (hW : g_W G ids S s.heap H locs) {S1 : SS} {i n : Nat} {f : Nat → Int32} {j x : Int32} (hi : i ∈ ids) (hc : g_c G S i = .inl (g_cA G 0, n, .inl f)) (hc1 : g_c G S1 i = .inl (g_cA G 0, n, .inl (upd f j.toNatClampNeg x))) (ho : ∀ j, j ≠ i → g_c G S1 j = g_c G S j) (hin : vp_in j n) (hdg : decode cc pc = .ok (.iastore, 1)) (kk : ∀ (H1 : Heap) (locs1 : List Loc), g_W G ids S1 s.heap H1 locs1 → W p l e R s m args below meth c H1 locs1 cells slots Q (F0 m (pc + 1) ls rest)) : W p l e R s m args below meth c H locs cells slots Q (F0 m pc ls (.int x :: .int j :: .ref (g_ad G i) :: rest)) := by
  obtain ⟨q0, hq⟩ := List.getElem?_of_mem hi
  refine va_iast C0.hx C0.hb C0.hK hW.1 hW.2.1 hW.2.2 q0 0 (g_wl_at hq hc) rfl hin hdg (fun H1 locs1 hP hD hS => kk H1 locs1 ?_)
  have he := g_set hW.2.1 hq ho
  rw [hc1] at he
  rw [he] at hP hD
  exact ⟨hP, hD, hS⟩
theorem g_cast (C0 : g_X G ids p s m args meth c cc nL own rt) (hW : g_W G ids S s.heap H locs) {S1 : SS} {i n : Nat} {f : Nat → Int32} {j x : Int32} (hi : i ∈ ids) (hc : g_c G S i = .inl (g_cA G 1, n, .inl f)) (hc1 : g_c G S1 i = .inl (g_cA G 1, n, .inl (upd f j.toNatClampNeg (vp_nar .char x)))) (ho : ∀ j, j ≠ i → g_c G S1 j = g_c G S j) (hin : vp_in j n) (hdg : decode cc pc = .ok (.castore, 1)) (kk : ∀ (H1 : Heap) (locs1 : List Loc), g_W G ids S1 s.heap H1 locs1 → W p l e R s m args below meth c H1 locs1 cells slots Q (F0 m (pc + 1) ls rest)) : W p l e R s m args below meth c H locs cells slots Q (F0 m pc ls (.int x :: .int j :: .ref (g_ad G i) :: rest)) := by
  obtain ⟨q0, hq⟩ := List.getElem?_of_mem hi
  refine va_cast C0.hx C0.hb C0.hK hW.1 hW.2.1 hW.2.2 q0 1 (g_wl_at hq hc) rfl hin hdg (fun H1 locs1 hP hD hS => kk H1 locs1 ?_)
  have he := g_set hW.2.1 hq ho
  rw [hc1] at he
  rw [he] at hP hD
  exact ⟨hP, hD, hS⟩
/-- an array of references is written with a thing of the heap: what the store needs is the kit's -/
theorem g_entry {y : MethodName} {ret : Option FieldType} {rm : Room} {as : List Value} {maxL mc ms : Nat} {Qc : Array Value → State → Outcome → State → Prop} (hy : plainName y.cls = true) (hlen : (lg_sl as).length ≤ maxL)
    (body : ∀ (p : Program) (e : Env) (s : State) (m : MethodId) (args : Array Value) (below : List Frame) (meth : Method) (c : Code) (ls : Array Slot), g_X G ids p s m args meth c cc maxL y.cls ret → lv_has ls maxL (lv_args 0 as) → g_W G ids S s.heap s.heap [] → (y.name = "<init>" → meth.name = "<init>") → W p l e rm s m args below meth c s.heap [] 0 0 (MQ below Qc args s mc ms (g_A G)) (F0 m 0 ls [])) : Met l y (.code y cc maxL ret :: gT) rm (va_Pc as (g_P G ids S)) Qc mc ms (g_A G) := by
  refine Met.ofW (cc := cc) (maxL := maxL) (ret := ret) hy rfl ?_
  intro p e s m args below meth c s₁ B hml hv
  obtain ⟨rfl, hP, hD, hI, hG⟩ := hv
  have hts := atoms_spec (ws := .code y cc maxL ret :: gT) B.pre
  rw [lg_entry_eq]
  exact body p e s m _ below meth c _ ⟨B.exec, B.bytes, hml, findClass_of_methodNamed B.named, fun w h => hts w (List.mem_cons_of_mem _ h), B.notSynchronized, B.returns, hI, hG⟩ (lv_entry as hlen) ⟨hP, hD, va_S.rf⟩ (fun h => by rw [← h]; exact (name_of_methodNamed B.named B.method).1)
theorem g_end {t : State} (hW : g_W G ids S s.heap H locs) (ht : t.heap = H) : g_B G ids S t ∧ va_F (g_A G) s t := ⟨by rw [← ht] at hW; exact ⟨hW.1, hW.2.1⟩, hW.2.2.F ht⟩
theorem g_iret (C0 : g_X G ids p s m args meth c cc nL own rt) (hW : g_W G ids S s.heap H locs) {ty : FieldType} {x r : Int32} (hrt : rt = some ty) (hn : narrow ty (.int x) = .int x) (hxr : x = r) (hdg : decode cc pc = .ok (.ireturn, 1)) : W p l e R s m args below meth c H locs cells slots (MQ below (g_Qi G ids r S) args s cells slots (g_A G)) (F0 m pc ls [.int x]) := by
  subst hrt hxr
  exact W.zret C0.hx C0.hb C0.hr hn (fun t ht _ => ⟨⟨x, (), rfl, rfl, (g_end hW ht).1⟩, (g_end hW ht).2⟩) hW.2.2.2.2 hdg C0.hlk
theorem g_vret (C0 : g_X G ids p s m args meth c cc nL own rt) (hW : g_W G ids S s.heap H locs) (hrt : rt = none) (hdg : decode cc pc = .ok (.return_, 1)) : W p l e R s m args below meth c H locs cells slots (MQ below (g_Qv G ids S) args s cells slots (g_A G)) (F0 m pc ls []) := by
  subst hrt
  exact W.vret C0.hx C0.hb C0.hr (fun t ht _ => ⟨⟨(), rfl, trivial, (g_end hW ht).1⟩, (g_end hW ht).2⟩) hW.2.2.2.2 hdg C0.hlk
theorem g_lret (C0 : g_X G ids p s m args meth c cc nL own rt) (hW : g_W G ids S s.heap H locs) {x r : Int64} (hrt : rt = some .long) (hxr : x = r) (hdg : decode cc pc = .ok (.lreturn, 1)) : W p l e R s m args below meth c H locs cells slots (MQ below (g_Ql G ids r S) args s cells slots (g_A G)) (F0 m pc ls [.long x]) := by
  subst hrt hxr
  exact W.lret C0.hx C0.hb C0.hr (fun t ht _ => ⟨⟨x, (), rfl, rfl, (g_end hW ht).1⟩, (g_end hW ht).2⟩) hW.2.2.2.2 hdg C0.hlk
theorem g_dret (C0 : g_X G ids p s m args meth c cc nL own rt) (hW : g_W G ids S s.heap H locs) {x r : UInt64} (hrt : rt = some .double) (hxr : x = r) (hdg : decode cc pc = .ok (.dreturn, 1)) : W p l e R s m args below meth c H locs cells slots (MQ below (g_Qd G ids r S) args s cells slots (g_A G)) (F0 m pc ls [.double x]) := by
  subst hrt hxr
  exact W.dret C0.hx C0.hb C0.hr (fun t ht _ => ⟨⟨x, (), rfl, rfl, (g_end hW ht).1⟩, (g_end hW ht).2⟩) hW.2.2.2.2 hdg C0.hlk
theorem g_aret (C0 : g_X G ids p s m args meth c cc nL own rt) (hW : g_W G ids S s.heap H locs) {C : String} {a r : Nat} (hrt : rt = some (.object C)) (hxr : a = r) (hdg : decode cc pc = .ok (.areturn, 1)) : W p l e R s m args below meth c H locs cells slots (MQ below (g_Qr G ids r S) args s cells slots (g_A G)) (F0 m pc ls [.ref a]) := by
  subst hrt hxr
  exact W.aret C0.hx C0.hb C0.hr (Or.inl ⟨_, rfl⟩) (Or.inr ⟨_, rfl⟩) (fun t ht _ => ⟨⟨(), a, rfl, trivial, rfl, (g_end hW ht).1⟩, (g_end hW ht).2⟩) hW.2.2.2.2 hdg C0.hlk
theorem g_goodT : GoodIn gT gT := fun w h => ⟨h, good_of_word (List.mem_filter.mp h).2⟩
theorem g_good1 {w : Cond} (h : w ∈ gT) : GoodIn gT (w :: gT) := fun v hv => by
  rcases List.mem_cons.mp hv with rfl | hv
  · exact g_goodT _ h
  · exact g_goodT _ hv
theorem g_goodV {idx : Nat} {C : String} {y : MethodName} {w : Cond} (h1 : .methodLink own idx y ∈ gT) (h2 : .instanceMethod y ∈ gT) (h3 : .selects C y y ∈ gT) (h4 : .initialized C ∈ gT) (h5 : w ∈ gT) : GoodIn gT (wsV own idx C y (w :: gT)) := fun v hv => by
  unfold wsV at hv
  simp only [List.cons_append, List.nil_append, List.mem_cons] at hv
  rcases hv with rfl | rfl | rfl | rfl | rfl | hv
  · exact g_goodT _ h1
  · exact g_goodT _ h2
  · exact g_goodT _ h3
  · exact g_goodT _ h4
  · exact g_goodT _ h5
  · exact g_goodT _ hv
theorem g_pre (C0 : g_X G ids p s m args meth c cc nL own rt) (hW : g_W G ids S s.heap H locs) {U : State} (hU : U.heap = H) (hw : s.WarmedH U.vm) : g_P G ids S U := by
  subst hU
  exact ⟨hW.1, hW.2.1, fun i h => C0.mem h, g_G_to C0.hG hw hW.2.2.1 hW.2.2.2.1⟩
theorem g_recv (C0 : g_X G ids p s m args meth c cc nL own rt) (hW : g_W G ids S s.heap H locs) {i ci : Nat} {fs : List Value} {q : vw_C} (hi : i ∈ ids) (hc : g_c G S i = .inr (ci, fs)) (hcl : vwCl[ci]? = some q) : ∃ cell : Cell, H[g_ad G i]? = some cell ∧ cell.vm.isStatics = false ∧ s.vm.findClass q.1 = some cell.cls := by
  obtain ⟨q0, hq⟩ := List.getElem?_of_mem hi
  exact va_recv C0.hK hW.1 hcl (g_wl_at hq hc)
/-- the words and the room of a call -/
def g_cw (own : String) (idx : Nat) (y : MethodName) (bytes : ByteArray) (maxL n : Nat) (ret : Option FieldType) (rm R : Room) (mc ms cells slots : Nat) : Prop :=
  .code y bytes maxL ret ∈ gT ∧ .initialized y.cls ∈ gT ∧ rm.cells = mc ∧ rm.slots = ms ∧ (y.cls ≠ "java/lang/invoke/MethodHandle" ∧ y.cls ≠ "java/lang/invoke/VarHandle" ∧ (parseMethodDescriptor y.desc).map (fun d => d.parameters.length) = some n) ∧ (rm.frames + 1 ≤ R.frames ∧ 8 + (maxL + 11) + rm.locals ≤ R.locals) ∧ (cells + mc ≤ R.cells ∧ slots + ms ≤ R.slots)
variable {y : MethodName} {bytes : ByteArray} {maxL n idx mc ms : Nat} {ret : Option FieldType} {rm : Room} {As st0 : List Value} {b ci : Nat} {fs : List Value} {T : u_T} {N : Nat} {Qc : Array Value → State → Outcome → State → Prop}
theorem g_runV (C0 : g_X G ids p s m args meth c cc nL own rt) (hW : g_W G ids S s.heap H locs) (hM : Met l y (.code y bytes maxL ret :: gT) rm (va_Pc (.ref (g_ad G b) :: As) (g_P G ids S)) Qc mc ms (g_A G)) (cw : g_cw own idx y bytes maxL n ret rm R mc ms cells slots) (hl : .methodLink own idx y ∈ gT) (h2 : .instanceMethod y ∈ gT) (h3 : .selects y.cls y y ∈ gT) (hi : b ∈ ids) (hc : g_c G S b = .inr (ci, fs)) (hcl : vwCl[ci]? = some (y.cls, T, N)) (hn : As.length = n) (hsz : ls.size = nL) (hst : st0 = As.reverse ++ .ref (g_ad G b) :: rest) (hcat : (rest.map fun v => v.category).sum ≤ 8) (hdg : decode cc pc = .ok (.invokevirtual idx, 3)) : va_Run p l e R s m args below meth c H locs cells slots mc ms (F0 m pc ls st0) rest (Qc (Value.ref (g_ad G b) :: As).toArray) (g_A G) := by
  obtain ⟨w1, w2, w3, w4, w5, w6, w7⟩ := cw
  exact va_runV (As := As) (rest := rest) C0.call hM (cwV n C0.hts (g_goodV hl h2 h3 w2 w1) rfl w3 w4 ⟨rfl, w5⟩ w6) ⟨g_blind, g_recv C0 hW hi hc hcl, fun U hU hw => ⟨rfl, g_pre C0 hW hU hw⟩⟩ rfl hn hsz hst (by simpa using hcat) hdg w7
theorem g_runVN {host : String} (C0 : g_X G ids p s m args meth c cc nL own rt) (hW : g_W G ids S s.heap H locs) (hM : Met l y (.code y bytes maxL ret :: gT) rm (va_Pc (.ref (g_ad G b) :: As) (g_P G ids S)) Qc mc ms (g_A G)) (cw : g_cw own idx y bytes maxL n ret rm R mc ms cells slots) (hl : .methodLinkNest own idx y host ∈ gN) (h2 : .instanceMethod y ∈ gT) (h3 : .selects y.cls y y ∈ gT) (hi : b ∈ ids) (hc : g_c G S b = .inr (ci, fs)) (hcl : vwCl[ci]? = some (y.cls, T, N)) (hn : As.length = n) (hsz : ls.size = nL) (hst : st0 = As.reverse ++ .ref (g_ad G b) :: rest) (hcat : (rest.map fun v => v.category).sum ≤ 8) (hdg : decode cc pc = .ok (.invokevirtual idx, 3)) : va_Run p l e R s m args below meth c H locs cells slots mc ms (F0 m pc ls st0) rest (Qc (Value.ref (g_ad G b) :: As).toArray) (g_A G) := by
  obtain ⟨w1, w2, w3, w4, w5, w6, w7⟩ := cw
  exact va_runVN (As := As) (rest := rest) C0.call hM ⟨va_cnB n C0.hts (g_good1 w1) rfl w3 w4 (C0.nest hl) (C0.hts _ w2) w5 w6, C0.hts _ h2, C0.hts _ h3⟩ ⟨g_blind, g_recv C0 hW hi hc hcl, fun U hU hw => ⟨rfl, g_pre C0 hW hU hw⟩⟩ rfl hn hsz hst (by simpa using hcat) hdg w7
theorem g_runS (C0 : g_X G ids p s m args meth c cc nL own rt) (hW : g_W G ids S s.heap H locs) (hM : Met l y (.code y bytes maxL ret :: gT) rm (va_Pc As (g_P G ids S)) Qc mc ms (g_A G)) (cw : g_cw own idx y bytes maxL n ret rm R mc ms cells slots) (hl : .methodLink own idx y ∈ gT) (h2 : .static y ∈ gT) (hn : As.length = n) (hsz : ls.size = nL) (hst : st0 = As.reverse ++ rest) (hcat : (rest.map fun v => v.category).sum ≤ 8) (hdg : decode cc pc = .ok (.invokestatic idx, 3)) : va_Run p l e R s m args below meth c H locs cells slots mc ms (F0 m pc ls st0) rest (Qc As.toArray) (g_A G) := by
  obtain ⟨w1, w2, w3, w4, w5, w6, w7⟩ := cw
  exact va_runS (As := As) (rest := rest) C0.call hM ⟨callB_of n C0.hts (g_good1 w1) rfl w3 w4 (C0.hts _ w2) (C0.hts _ hl) w5 w6, C0.hts _ h2⟩ ⟨g_blind, fun U hU hw => ⟨rfl, g_pre C0 hW hU hw⟩⟩ rfl hn hsz hst (by simpa using hcat) hdg w7
theorem g_runSN {host : String} (C0 : g_X G ids p s m args meth c cc nL own rt) (hW : g_W G ids S s.heap H locs) (hM : Met l y (.code y bytes maxL ret :: gT) rm (va_Pc As (g_P G ids S)) Qc mc ms (g_A G)) (cw : g_cw own idx y bytes maxL n ret rm R mc ms cells slots) (hl : .methodLinkNest own idx y host ∈ gN) (h2 : .static y ∈ gT) (hn : As.length = n) (hsz : ls.size = nL) (hst : st0 = As.reverse ++ rest) (hcat : (rest.map fun v => v.category).sum ≤ 8) (hdg : decode cc pc = .ok (.invokestatic idx, 3)) : va_Run p l e R s m args below meth c H locs cells slots mc ms (F0 m pc ls st0) rest (Qc As.toArray) (g_A G) := by
  obtain ⟨w1, w2, w3, w4, w5, w6, w7⟩ := cw
  exact va_runSN (As := As) (rest := rest) C0.call hM ⟨va_cnB n C0.hts (g_good1 w1) rfl w3 w4 (C0.nest hl) (C0.hts _ w2) w5 w6, C0.hts _ h2, trivial⟩ ⟨g_blind, fun U hU hw => ⟨rfl, g_pre C0 hW hU hw⟩⟩ rfl hn hsz hst (by simpa using hcat) hdg w7
variable {S1 : SS} {a0 : Array Value}
theorem g_calli (hW : g_W G ids S s.heap H locs) {r : Int32} (hr : va_Run p l e R s m args below meth c H locs cells slots mc ms (F0 m pc ls st0) rest (g_Qi G ids r S1 a0) (g_A G)) (kk : ∀ (H1 : Heap) (locs1 : List Loc), g_W G ids S1 s.heap H1 locs1 → W p l e R s m args below meth c H1 locs1 (cells + mc) (slots + ms) Q (F0 m (pc + 3) ls (.int r :: rest))) : W p l e R s m args below meth c H locs cells slots Q (F0 m pc ls st0) := by
  refine va_calli hr hW.2.2 (fun q _ h => h) (fun q h => h) (fun r1 u t H1 locs1 ht hvm hp hB hz hk hS => ?_)
  subst ht hp
  exact kk _ _ ⟨hB.1, hB.2, hS⟩
theorem g_calll (hW : g_W G ids S s.heap H locs) {r : Int64} (hr : va_Run p l e R s m args below meth c H locs cells slots mc ms (F0 m pc ls st0) rest (g_Ql G ids r S1 a0) (g_A G)) (kk : ∀ (H1 : Heap) (locs1 : List Loc), g_W G ids S1 s.heap H1 locs1 → W p l e R s m args below meth c H1 locs1 (cells + mc) (slots + ms) Q (F0 m (pc + 3) ls (.long r :: rest))) : W p l e R s m args below meth c H locs cells slots Q (F0 m pc ls st0) := by
  refine va_calll hr hW.2.2 (fun q _ h => h) (fun q h => h) (fun r1 u t H1 locs1 ht hvm hp hB hz hk hS => ?_)
  subst ht hp
  exact kk _ _ ⟨hB.1, hB.2, hS⟩
theorem g_calld (hW : g_W G ids S s.heap H locs) {r : UInt64} (hr : va_Run p l e R s m args below meth c H locs cells slots mc ms (F0 m pc ls st0) rest (g_Qd G ids r S1 a0) (g_A G)) (kk : ∀ (H1 : Heap) (locs1 : List Loc), g_W G ids S1 s.heap H1 locs1 → W p l e R s m args below meth c H1 locs1 (cells + mc) (slots + ms) Q (F0 m (pc + 3) ls (.double r :: rest))) : W p l e R s m args below meth c H locs cells slots Q (F0 m pc ls st0) := by
  refine va_calld hr hW.2.2 (fun q _ h => h) (fun q h => h) (fun r1 u t H1 locs1 ht hvm hp hB hz hk hS => ?_)
  subst ht hp
  exact kk _ _ ⟨hB.1, hB.2, hS⟩
theorem g_callv (hW : g_W G ids S s.heap H locs) (hr : va_Run p l e R s m args below meth c H locs cells slots mc ms (F0 m pc ls st0) rest (g_Qv G ids S1 a0) (g_A G)) (kk : ∀ (H1 : Heap) (locs1 : List Loc), g_W G ids S1 s.heap H1 locs1 → W p l e R s m args below meth c H1 locs1 (cells + mc) (slots + ms) Q (F0 m (pc + 3) ls rest)) : W p l e R s m args below meth c H locs cells slots Q (F0 m pc ls st0) := by
  refine va_callv hr hW.2.2 (fun q _ h => h) (fun q h => h) (fun u t H1 locs1 ht hvm hp hB hz hk hS => ?_)
  subst ht
  exact kk _ _ ⟨hB.1, hB.2, hS⟩
theorem g_callr (hW : g_W G ids S s.heap H locs) {r : Nat} (hr : va_Run p l e R s m args below meth c H locs cells slots mc ms (F0 m pc ls st0) rest (g_Qr G ids r S1 a0) (g_A G)) (kk : ∀ (H1 : Heap) (locs1 : List Loc), g_W G ids S1 s.heap H1 locs1 → W p l e R s m args below meth c H1 locs1 (cells + mc) (slots + ms) Q (F0 m (pc + 3) ls (.ref r :: rest))) : W p l e R s m args below meth c H locs cells slots Q (F0 m pc ls st0) := by
  refine va_callr hr hW.2.2 (fun q _ h => h) (fun q h => h) (fun u ra t H1 locs1 ht hvm hp hB hz hk hS => ?_)
  obtain ⟨rfl, hB⟩ := hB
  subst ht
  exact kk _ _ ⟨hB.1, hB.2, hS⟩
theorem g_gets (C0 : g_X G ids p s m args meth c cc nL own rt) (hW : g_W G ids S s.heap H locs) {C nm d : String} {v : Value} (hZ : va_Z C nm d v (g_A G) s s.heap) (hl : Cond.fieldLink own idx C nm d ∈ gT) (hdg : decode cc pc = .ok (.getstatic idx, 3)) (kk : W p l e R s m args below meth c H locs cells slots Q (F0 m (pc + 3) ls (v :: rest))) : W p l e R s m args below meth c H locs cells slots Q (F0 m pc ls rest) :=
  va_gets C0.hx C0.hb hZ hW.2.2 C0.hown (C0.hts _ hl) (fun _ h => h) hdg kk
theorem g_getsN {host : String} (C0 : g_X G ids p s m args meth c cc nL own rt) (hW : g_W G ids S s.heap H locs) {C nm d : String} {v : Value} (hZ : va_Z C nm d v (g_A G) s s.heap) (hl : Cond.fieldLinkNest own idx C nm d host ∈ gN) (hdg : decode cc pc = .ok (.getstatic idx, 3)) (kk : W p l e R s m args below meth c H locs cells slots Q (F0 m (pc + 3) ls (v :: rest))) : W p l e R s m args below meth c H locs cells slots Q (F0 m pc ls rest) :=
  va_getsN C0.hx C0.hb hZ hW.2.2 C0.hown (C0.nestB hl) (fun _ h => h) hdg kk
theorem g_X.sign (C0 : g_X G ids p s m args meth c cc nL own rt) {i : Nat} (h : i < 46) : va_Z RX6 (g_nm.getD i "") "LGlideWhistles$Sign;" (.ref (g_sg G i)) (g_A G) s s.heap := (C0.hG.2.2.2.1 i h).1
theorem g_X.inj (C0 : g_X G ids p s m args meth c cc nL own rt) {i j : Nat} : g_sg G i = g_sg G j ↔ i = j := ⟨C0.hG.2.2.1 i j, fun h => by rw [h]⟩
end GR
