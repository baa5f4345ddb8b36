/-! calls of what StringBuilder inherits; copies of bytes -/
theorem tsm_J5_ensureCapacityInternal_d00df : Cond.sameMethod "java/lang/AbstractStringBuilder" "java/lang/AbstractStringBuilder" "ensureCapacityInternal" "(I)V" ∈ gT := g_mem7 (i := 215) (by decide +kernel) rfl
theorem tsm_J5_newCapacity_0f7a4 : Cond.sameMethod "java/lang/AbstractStringBuilder" "java/lang/AbstractStringBuilder" "newCapacity" "(I)I" ∈ gT := g_mem7 (i := 216) (by decide +kernel) rfl
theorem tsm_J5_putStringAt_47b60 : Cond.sameMethod "java/lang/AbstractStringBuilder" "java/lang/AbstractStringBuilder" "putStringAt" "(ILjava/lang/String;)V" ∈ gT := g_mem7 (i := 217) (by decide +kernel) rfl
theorem tsm_J5_inflateIfNeededFor_a7421 : Cond.sameMethod "java/lang/AbstractStringBuilder" "java/lang/AbstractStringBuilder" "inflateIfNeededFor" "(Ljava/lang/String;)V" ∈ gT := g_mem7 (i := 218) (by decide +kernel) rfl
theorem tsm_J5_isLatin1_aae02 : Cond.sameMethod "java/lang/AbstractStringBuilder" "java/lang/AbstractStringBuilder" "isLatin1" "()Z" ∈ gT := g_mem6 (i := 116) (by decide +kernel) rfl
theorem tsm_J5_getValue_6d5f1 : Cond.sameMethod "java/lang/AbstractStringBuilder" "java/lang/AbstractStringBuilder" "getValue" "()[B" ∈ gT := g_mem7 (i := 66) (by decide +kernel) rfl
theorem tsm_J5_length_8abf5 : Cond.sameMethod "java/lang/AbstractStringBuilder" "java/lang/AbstractStringBuilder" "length" "()I" ∈ gT := g_mem7 (i := 71) (by decide +kernel) rfl
theorem tsm_J5_append_cf1ce : Cond.sameMethod "java/lang/AbstractStringBuilder" "java/lang/AbstractStringBuilder" "append" "(Ljava/lang/String;)Ljava/lang/AbstractStringBuilder;" ∈ gT := g_mem7 (i := 213) (by decide +kernel) rfl
theorem tsm_J5_append_c97b9 : Cond.sameMethod "java/lang/AbstractStringBuilder" "java/lang/AbstractStringBuilder" "append" "(I)Ljava/lang/AbstractStringBuilder;" ∈ gT := g_mem7 (i := 220) (by decide +kernel) rfl
theorem tsup_SB : Cond.superclass "java/lang/StringBuilder" "java/lang/AbstractStringBuilder" ∈ gT := g_mem6 (i := 78) (by decide +kernel) rfl
section HF
variable {p : Program} {l : Launch} {e : Env} {R : Room} {s : State} {m : MethodId} {args : Array Value} {below : List Frame} {meth : Method} {c : Code} {H : Heap} {locs : List Loc} {cells slots : Nat} {Q : State → Prop} {G : GL} {x : CS} {y y0 : MS} {o : Nat → Int32} {cc : ByteArray} {nL pc : Nat} {own : String} {rt : Option FieldType} {ls : Array Slot} {rest : List Value} {idx i k : Nat}

theorem h_sl_J5_ensureCapacityInternal_d00df (C0 : g_X G (List.range 120) p s m args meth c cc nL own rt) : (Cond.selects "java/lang/StringBuilder" yJ5_ensureCapacityInternal_d00df yJ5_ensureCapacityInternal_d00df).before args s = true := C0.hG.2.2.2.2.2.2.2.2.2.2.2.2.2 _ (List.mem_of_getElem? (i := 0) rfl) args
theorem h_sl_J5_newCapacity_0f7a4 (C0 : g_X G (List.range 120) p s m args meth c cc nL own rt) : (Cond.selects "java/lang/StringBuilder" yJ5_newCapacity_0f7a4 yJ5_newCapacity_0f7a4).before args s = true := C0.hG.2.2.2.2.2.2.2.2.2.2.2.2.2 _ (List.mem_of_getElem? (i := 1) rfl) args
theorem h_sl_J5_putStringAt_47b60 (C0 : g_X G (List.range 120) p s m args meth c cc nL own rt) : (Cond.selects "java/lang/StringBuilder" yJ5_putStringAt_47b60 yJ5_putStringAt_47b60).before args s = true := C0.hG.2.2.2.2.2.2.2.2.2.2.2.2.2 _ (List.mem_of_getElem? (i := 2) rfl) args
theorem h_sl_J5_inflateIfNeededFor_a7421 (C0 : g_X G (List.range 120) p s m args meth c cc nL own rt) : (Cond.selects "java/lang/StringBuilder" yJ5_inflateIfNeededFor_a7421 yJ5_inflateIfNeededFor_a7421).before args s = true := C0.hG.2.2.2.2.2.2.2.2.2.2.2.2.2 _ (List.mem_of_getElem? (i := 3) rfl) args
theorem h_sl_J5_isLatin1_aae02 (C0 : g_X G (List.range 120) p s m args meth c cc nL own rt) : (Cond.selects "java/lang/StringBuilder" yJ5_isLatin1_aae02 yJ5_isLatin1_aae02).before args s = true := C0.hts _ ts_J5_isLatin1_aae02
theorem h_sl_J5_getValue_6d5f1 (C0 : g_X G (List.range 120) p s m args meth c cc nL own rt) : (Cond.selects "java/lang/StringBuilder" yJ5_getValue_6d5f1 yJ5_getValue_6d5f1).before args s = true := C0.hts _ ts_J5_getValue_6d5f1
theorem h_sl_J5_length_8abf5 (C0 : g_X G (List.range 120) p s m args meth c cc nL own rt) : (Cond.selects "java/lang/StringBuilder" yJ5_length_8abf5 yJ4_length_8abf5).before args s = true := C0.hts _ ts_J4_length_8abf5

variable {yn xn : MethodName} {bytes b0 : ByteArray} {maxL m0 n k1 : Nat} {ret r0 : Option FieldType} {As : List Value} {a : Nat} {v : Value} {Qc : Array Value → State → Outcome → State → Prop} {st0 : List Value} {mc ms : Nat}
theorem h_runU (C0 : g_X G (List.range 120) p s m args meth c cc nL own rt) (hW : h_W G y0 (x, y, o) s.heap H locs) (hk : h_K y i = 54) (hM : Met l yn (.code yn bytes maxL ret :: gT) (h_lv k1 y) (va_Pc (g_rf G i :: As) (h_P G (x, y, o))) Qc mc ms (g_A G)) (cy : h_cy yn bytes maxL n ret) (hxy : (xn.cls, xn.name, xn.desc) = ("java/lang/AbstractStringBuilder", yn.name, yn.desc)) (hlev : k1 + 1 ≤ k) (hl : .methodLink own idx xn ∈ gT) (hxi : .instanceMethod xn ∈ gT) (hxc : .code xn b0 m0 r0 ∈ gT) (h2 : .instanceMethod yn ∈ gT) (hsm : .sameMethod "java/lang/AbstractStringBuilder" "java/lang/AbstractStringBuilder" xn.name xn.desc ∈ gT) (hse : (Cond.selects "java/lang/StringBuilder" xn yn).before args s = true) (hn : As.length = n) (hsz : ls.size = nL) (hst : st0 = As.reverse ++ g_rf G i :: rest) (hcat : (rest.map fun v => v.category).sum ≤ 8) (hdg : decode cc pc = .ok (.invokevirtual idx, 3)) : va_Run p l e (h_lv k y0) s m args below meth c H locs (h_nx y - h_nx y0) (h_sl y - h_sl y0) mc ms (F0 m pc ls st0) rest (Qc (g_rf G i :: As).toArray) (g_A G) := by
  obtain ⟨w1, w2, w3, w4⟩ := cy
  obtain ⟨e1, e2, e3⟩ : xn.cls = "java/lang/AbstractStringBuilder" ∧ xn.name = yn.name ∧ xn.desc = yn.desc := by
    injection hxy with a1 a2
    injection a2 with a2 a3
    exact ⟨a1, a2, a3⟩
  have hrv := h_recv C0 hW (h_ne hk (by decide)) (h_c54 hk) rfl
  rw [hW.rf (h_ne hk (by decide))] at hM hst ⊢
  have hr := h_rmf (maxL := maxL) hW w4 hlev
  have ex : (⟨"java/lang/AbstractStringBuilder", xn.name, xn.desc⟩ : MethodName) = xn := by
    rw [← e1]
  have hg := g_good1 w1
  refine h_runU0 (C := "java/lang/StringBuilder") (owner := "java/lang/AbstractStringBuilder") (x := xn) (As := As) (rest := rest) C0.call hM ⟨⟨rfl, rfl, hr.1.1, hr.1.2, pay_in C0.hts hg, List.mem_cons_self⟩, C0.hts _ w1, C0.hts _ w2, by decide, fun sig h => ?_, C0.hts _ hl, by rw [e1]; exact C0.hts _ hsm, by rw [ex]; exact va_Decl.of (C0.hts _ hxi) (C0.hts _ hxc), hse, C0.hts _ h2⟩ ⟨h_blind, hrv, fun U hU hw => ⟨rfl, h_pre C0 hW hU hw⟩⟩ rfl hn hsz hst (by simpa using hcat) hdg hr.2
  have h9 := w3.2.2
  rw [e3] at h
  rw [h] at h9
  exact (Option.some.inj h9).symm
theorem h_runSU (C0 : g_X G (List.range 120) p s m args meth c cc nL "java/lang/StringBuilder" rt) (hW : h_W G y0 (x, y, o) s.heap H locs) (hk : h_K y i = 54) (hM : Met l yn (.code yn bytes maxL ret :: gT) (h_lv k1 y) (va_Pc (g_rf G i :: As) (h_P G (x, y, o))) Qc mc ms (g_A G)) (cy : h_cy yn bytes maxL n ret) (hlev : k1 + 1 ≤ k) (hl : .methodLink "java/lang/StringBuilder" idx yn ∈ gT) (h2 : .instanceMethod yn ∈ gT) (hsm : .sameMethod "java/lang/AbstractStringBuilder" "java/lang/AbstractStringBuilder" yn.name yn.desc ∈ gT) (hyc : yn.cls = "java/lang/AbstractStringBuilder" ∧ yn.name ≠ "<init>") (hn : As.length = n) (hsz : ls.size = nL) (hst : st0 = As.reverse ++ g_rf G i :: rest) (hcat : (rest.map fun v => v.category).sum ≤ 8) (hdg : decode cc pc = .ok (.invokespecial idx, 3)) : va_Run p l e (h_lv k y0) s m args below meth c H locs (h_nx y - h_nx y0) (h_sl y - h_sl y0) mc ms (F0 m pc ls st0) rest (Qc (g_rf G i :: As).toArray) (g_A G) := by
  obtain ⟨w1, w2, w3, w4⟩ := cy
  have hrv := h_recv C0 hW (h_ne hk (by decide)) (h_c54 hk) rfl
  rw [hW.rf (h_ne hk (by decide))] at hM hst ⊢
  have hr := h_rmf (maxL := maxL) hW w4 hlev
  obtain ⟨cC, hat⟩ := classAt_of (C0.hts _ ta_J4)
  refine h_runSU0 (C := "java/lang/StringBuilder") hat (As := As) (rest := rest) C0.call hM ⟨⟨rfl, rfl, hr.1.1, hr.1.2, pay_in C0.hts (g_good1 w1), List.mem_cons_self⟩, C0.hts _ hl, by rw [hyc.1]; exact C0.hts _ hsm, by rw [hyc.1]; exact C0.hts _ tsup_SB, C0.hts _ h2, C0.hts _ w2, C0.hts _ w1, hyc.2, fun sig h => ?_⟩ ⟨h_blind, hrv, fun U hU hw => ⟨rfl, h_pre C0 hW hU hw⟩⟩ rfl hn hsz hst (by simpa using hcat) hdg hr.2
  have h9 := w3.2.2
  rw [h] at h9
  exact (Option.some.inj h9).symm
theorem h_krunS (C0 : g_X G (List.range 120) p s m args meth c cc nL own rt) (hW : h_W G y0 (x, y, o) s.heap H locs) (hM : Met l yn (.code yn bytes maxL ret :: gT) (g_rm k1 0 0) (va_Pc As (g_P G (g_is y) (x, y, o))) Qc 0 0 (g_A G)) (cy : h_cy yn bytes maxL n ret) (hlev : k1 + 1 ≤ k) (hl : .methodLink own idx yn ∈ gT) (h2 : .static yn ∈ gT) (hn : As.length = n) (hsz : ls.size = nL) (hst : st0 = As.reverse ++ rest) (hcat : (rest.map fun v => v.category).sum ≤ 8) (hdg : decode cc pc = .ok (.invokestatic idx, 3)) : va_Run p l e (h_lv k y0) s m args below meth c H locs (h_nx y - h_nx y0) (h_sl y - h_sl y0) 0 0 (F0 m pc ls st0) rest (Qc As.toArray) (g_A G) := by
  obtain ⟨w1, w2, w3, w4⟩ := cy
  have h1 : h_nx y ≤ h_cap := hW.2.2.2.2.2.1
  have h6 : h_sl y ≤ h_scap := hW.2.2.2.2.2.2.1
  refine g_runS (h_up C0 y) hW.1 hM ⟨w1, w2, rfl, rfl, w3, ⟨hlev, ?_⟩, ?_, ?_⟩ hl h2 hn hsz hst hcat hdg
  · show 8 + (maxL + 11) + 64 * k1 ≤ 64 * k
    omega
  · show h_nx y - h_nx y0 + 0 ≤ h_cap - h_nx y0
    omega
  · show h_sl y - h_sl y0 + 0 ≤ h_scap - h_sl y0
    omega

variable {sp dp n : Int32} {j : Nat}
theorem h_fitR {f g : Nat → Int32} {sp n : Nat} (e : f = g) (h : ∀ j, j < n → fits .byte (.int (f (sp + j))) = true) : ∀ j, j < n → fits .byte (.int (g (sp + j))) = true := by subst e; exact h
/-- a copy out of a row of bytes that was there before -/
theorem h_copyT {p : Program} {l : Launch} {e : Env} {R : Room} {s : State} {m : MethodId} {args : Array Value} {below : List Frame} {meth : Method} {c : Code} {H : Heap} {locs : List Loc} {cells slots : Nat} {Q : State → Prop} {D : va_G} {cl : List vw_C} {tys : List (ClassId × FieldType)} {ws : va_W} {A : Nat → Prop} {pc : Nat} {ls : Array Slot} {rest : List Value} {a b0 n0 : Nat} {f g : Nat → Int32} {cc : ByteArray} (hexec : p.tables.exec = Jvm.exec) (hb : c.code = cc) (hml : c.maxLocals = ls.size) {own : String} {index : Nat} (hown : s.vm.findClass own = some m.cls) (hlink : (Cond.methodLink own index arraycopyName).before args s = true) (hnat : (Cond.native arraycopyName).before args s = true) (hstat : (Cond.static arraycopyName).before args s = true) (hini : (Cond.initialized "java/lang/System").before args s = true)
    (hK : va_K D cl tys s) (hP : va_P D cl ws H) (hD : va_D A ws) (hS : va_S A s.heap H locs) (hX : va_T .byte b0 n0 (fun j => .int (f j)) A s s.heap) (q1 t1 : Nat) {c1 : ClassId} {n1 : Nat} (ha1 : ws[q1]? = some (a, .inl (c1, n1, .inl g))) (ht1 : tys[t1]? = some (c1, .byte))
    {sp dp n : Int32} (h1 : ¬ sp < 0) (h2 : ¬ dp < 0) (h3 : ¬ n < 0) (h4 : sp.toNatClampNeg + n.toNatClampNeg ≤ n0) (h5 : dp.toNatClampNeg + n.toNatClampNeg ≤ n1) (hfit : ∀ i, i < n.toNatClampNeg → fits .byte (.int (f (sp.toNatClampNeg + i))) = true)
    (hframes : 1 ≤ R.frames) (hlocals : (rest.map fun v => v.category).sum + (nativeFrameWords "java/lang/System" "arraycopy" 5 + 11) ≤ R.locals) (hdg : decode cc pc = .ok (.invokestatic index, 3))
    (kk : ∀ (H1 : Heap) (locs1 : List Loc), va_P D cl (ws.set q1 (a, .inl (c1, n1, .inl (va_cpy f g sp.toNatClampNeg dp.toNatClampNeg n.toNatClampNeg)))) H1 → va_D A (ws.set q1 (a, .inl (c1, n1, .inl (va_cpy f g sp.toNatClampNeg dp.toNatClampNeg n.toNatClampNeg)))) → va_S A s.heap H1 locs1 → H.size ≤ H1.size → W p l e R s m args below meth c H1 locs1 cells slots Q (F0 m (pc + 3) ls rest)) : W p l e R s m args below meth c H locs cells slots Q (F0 m pc ls (.int n :: .int dp :: .ref a :: .int sp :: .ref b0 :: rest)) := by
  have nn : ∀ z : Int32, ¬ z < 0 → z.toInt = (z.toNatClampNeg : Int) := by
    intro z hz
    have hz0 : (0 : Int) ≤ z.toInt := by
      have := Int32.not_lt.mp hz
      simpa using Int32.le_iff_toInt_le.mp this
    show z.toInt = ((z.toInt.toNat : Nat) : Int)
    omega
  intro T hT X
  obtain ⟨scr, hs1, hs2, hs3, hs4, hs5, hs6, hbA⟩ := hX
  have hbl : b0 < s.heap.size := (Array.getElem?_eq_some_iff.mp hs1).1
  have hc0 : H[b0]? = some scr := by rw [hS.2.1 b0 hbl hbA]; exact hs1
  have hc1 : H[a]? = some (vp_cell c1 (n1, .inl g)) := hP q1 _ ha1
  obtain ⟨hs7, k0, hk0, cm0, hkk0⟩ := hs2
  obtain ⟨-, k1, hk1, cm1, hkk1⟩ := (hK.2 t1 _ ht1).1 n1 (fun j => .int (g j))
  obtain ⟨vm', X', step⟩ := X.arraycopy hexec hown hlink hnat hstat hini (src := b0) (dst := a) (cs := scr) (cd := vp_cell c1 (n1, .inl g)) (srcPos := sp) (destPos := dp) (n := n) (by rw [hT]; exact hc0) (by rw [hT]; exact hc1)
    hs7 (fun _ h => by cases h) hs3 (fun h => by cases h) hk0 hk1 hkk0 hkk1 (by simp [refKind]) h1 h2 h3
    (by rw [nn sp h1, nn n h3]; omega)
    (by rw [nn dp h2, nn n h3]; show ¬ _ > ((arrV c1 n1 (fun j => .int (g j))).slots.size : Int); rw [arrV_size]; omega)
    (fun vm₁ _ i hi => by
      have e : scr.slots.getD (sp.toNatClampNeg + i) .null = .int (f (sp.toNatClampNeg + i)) := by
        rw [Array.getD_eq_getD_getElem?, hs6 _ (by omega)]
        rfl
      refine ⟨?_, ?_⟩
      · rw [e]
        exact hfit i hi
      · rw [e]
        exact trivial)
    (g := F0 m pc ls (.int n :: .int dp :: .ref a :: .int sp :: .ref b0 :: rest)) rfl (by rw [hml]) (rest := rest) rfl (by rw [hb]; exact hdg) hframes (by show 2 * 0 + _ + _ ≤ _; omega)
  have e1 : copied scr (vp_cell c1 (n1, .inl g)) sp dp n = vp_cell c1 (n1, .inl (va_cpy f g sp.toNatClampNeg dp.toNatClampNeg n.toNatClampNeg)) := va_copiedX (fun z => .int z) scr c1 f g hs6 h4
  rw [e1] at X' step
  have hl : a < H.size := (Array.getElem?_eq_some_iff.mp hc1).1
  have hheap : ((T.setVm vm').setCell a (vp_cell c1 (n1, .inl (va_cpy f g sp.toNatClampNeg dp.toNatClampNeg n.toNatClampNeg)))).heap = H.setIfInBounds a (vp_cell c1 (n1, .inl (va_cpy f g sp.toNatClampNeg dp.toNatClampNeg n.toNatClampNeg))) := by rw [← hT]; rfl
  have oq : ∀ q : Nat, q ≠ a → (H.setIfInBounds a (vp_cell c1 (n1, .inl (va_cpy f g sp.toNatClampNeg dp.toNatClampNeg n.toNatClampNeg))))[q]? = H[q]? := fun q hq => by simp [Array.getElem?_setIfInBounds, Ne.symm hq]
  obtain ⟨t, a1, b1⟩ := kk _ _ (hP.set hD ha1 (show (H.setIfInBounds a _)[a]? = some _ by simp [Array.getElem?_setIfInBounds, hl]) oq) (hD.set ha1) ⟨by simp; exact hS.1, fun q g1 g2 => by
      rw [oq q (fun e => g2 (by rw [e]; exact hD.2 q1 _ ha1))]
      exact hS.2.1 q g1 g2, fun q hq => by
      rcases List.mem_append.mp hq with h | h
      · exact hS.2.2 q h
      · obtain ⟨z, -, hz⟩ := List.mem_map.mp h
        rw [← hz]
        exact hD.2 q1 _ ha1⟩ (by simp) _ hheap X'
  exact ⟨t, step t a1, b1⟩
theorem h_acopy (C0 : g_X G (List.range 120) p s m args meth c cc nL own rt) (hW : h_W G y0 (x, y, o) s.heap H locs) (hk : h_K y i = 61) (hv : h_vok y j = true) (h3 : (¬ sp < 0 ∧ ¬ dp < 0 ∧ ¬ n < 0) ∧ (sp.toNatClampNeg + n.toNatClampNeg ≤ h_vn y j ∧ dp.toNatClampNeg + n.toNatClampNeg ≤ h_N y i)) (hfb : h_fb (fun z => h_vb y j (sp.toNatClampNeg + z)) n.toNatClampNeg = true) (hsz : ls.size = nL) (hlev : 1 ≤ k) (hcat : (rest.map fun v => v.category).sum ≤ 8) (hl : Cond.methodLink own idx arraycopyName ∈ gT) (hdg : decode cc pc = .ok (.invokestatic idx, 3)) (kk : ∀ (H1 : Heap) (locs1 : List Loc), h_W G y0 (x, h_wa y i (va_cpy (h_vb y j) (h_I y i) sp.toNatClampNeg dp.toNatClampNeg n.toNatClampNeg), o) s.heap H1 locs1 → W p l e (h_lv k y0) s m args below meth c H1 locs1 (h_nx y - h_nx y0) (h_sl y - h_sl y0) Q (F0 m (pc + 3) ls (rest))) : W p l e (h_lv k y0) s m args below meth c H locs (h_nx y - h_nx y0) (h_sl y - h_sl y0) Q (F0 m pc ls (.int n :: .int dp :: .ref (g_va G i) :: .int sp :: .ref (g_va G j) :: rest)) := by
  obtain ⟨⟨n1, n2, n3⟩, n4, n5⟩ := h3
  have hfit : ∀ z, z < n.toNatClampNeg → fits .byte (.int (h_vb y j (sp.toNatClampNeg + z))) = true := h_fbv hfb
  clear hfb
  obtain ⟨q1, hq1⟩ := List.getElem?_of_mem (hW.mem (h_ne hk (by decide)))
  have ha1 := g_wl_at hq1 (hW.ce (h_ne hk (by decide)) (h_c61 hk))
  have hlo : (rest.map fun v => v.category).sum + (nativeFrameWords "java/lang/System" "arraycopy" 5 + 11) ≤ (h_lv k y0).locals := by
    have : nativeFrameWords "java/lang/System" "arraycopy" 5 ≤ 40 := by decide +kernel
    show _ ≤ 64 * k
    omega
  have he' := g_set hW.1.2.1 hq1 (S1 := (x, h_wa y i (va_cpy (h_vb y j) (h_I y i) sp.toNatClampNeg dp.toNatClampNeg n.toNatClampNeg), o)) (fun j hj => h_ca hj)
  rw [show g_c G (x, h_wa y i (va_cpy (h_vb y j) (h_I y i) sp.toNatClampNeg dp.toNatClampNeg n.toNatClampNeg), o) i = .inl (g_cA G 6, h_N y i, .inl (va_cpy (h_vb y j) (h_I y i) sp.toNatClampNeg dp.toNatClampNeg n.toNatClampNeg)) from (g_cl (hW.hi (h_ne hk (by decide)))).trans ((h_c61 (y := h_wa y i (va_cpy (h_vb y j) (h_I y i) sp.toNatClampNeg dp.toNatClampNeg n.toNatClampNeg)) hk).trans (by simp [h_wa, h_I, h_N]))] at he'
  rw [← h_toV hW hk, hW.rf (h_ne hk (by decide))]
  generalize hf : h_vb y j = f at he' hfit kk
  rcases Bool.or_eq_true_iff.mp hv with h1 | h1
  · have h2 := of_decide_eq_true h1
    rw [g_va_lo h2]
    have e1 : h_vn y j = g_len.getD j 0 := if_pos (by omega)
    have e2 : f = (fun z => (g_byt.getD j []).getD z 0) := hf.symm.trans (if_pos (by omega))
    rw [e1] at n4
    subst e2
    refine h_copyT C0.hx C0.hb (C0.hml.trans hsz.symm) C0.hown (C0.hts _ hl) (C0.hts _ tnat_copy) (C0.hts _ tz_java_lang_System_arraycopy) (C0.hts _ tn_J10) C0.hK hW.1.1 hW.1.2.1 hW.1.2.2 (C0.S3 j h2).2.2.2 q1 6 ha1 rfl n1 n2 n3 n4 n5 hfit (show 1 ≤ k from hlev) hlo hdg (fun H1 locs1 hP hD hS hz => ?_)
    rw [he'] at hP hD
    exact h_size (fun hs => kk _ _ (h_kept (y1 := h_wa y i (va_cpy (fun z => (g_byt.getD j []).getD z 0) (h_I y i) sp.toNatClampNeg dp.toNatClampNeg n.toNatClampNeg)) hW ⟨rfl, rfl⟩ ⟨hP, hD, hS⟩ hz hs))
  · have h2 := of_decide_eq_true h1
    have h9 := hW.hi (h_ne h2 (by decide))
    obtain ⟨q0, hq0⟩ := List.getElem?_of_mem (hW.mem (h_ne h2 (by decide)))
    have e1 : h_vn y j = h_N y j := if_neg (by omega)
    have e2 : f = h_I y j := hf.symm.trans (if_neg (by omega))
    rw [e1] at n4
    subst e2
    rw [← h_toV hW h2, hW.rf (h_ne h2 (by decide))]
    refine va_copyi C0.hx C0.hb (C0.hml.trans hsz.symm) C0.hown (C0.hts _ hl) (C0.hts _ tnat_copy) (C0.hts _ tz_java_lang_System_arraycopy) (C0.hts _ tn_J10) C0.hK hW.1.1 hW.1.2.1 (h_loc hW.1.2.2) q0 q1 6 6 (g_wl_at hq0 (hW.ce (h_ne h2 (by decide)) (h_c61 h2))) ha1 rfl rfl rfl n1 n2 n3 n4 n5 hfit (show 1 ≤ k from hlev) hlo hdg (fun H1 locs1 hP hD hS => ?_)
    rw [he'] at hP hD
    exact h_size (fun hs => kk _ _ (h_kept (y1 := h_wa y i (va_cpy (h_I y j) (h_I y i) sp.toNatClampNeg dp.toNatClampNeg n.toNatClampNeg)) hW ⟨rfl, rfl⟩ ⟨hP, hD, h_comp hW.1.2.2 hS⟩ hS.1 hs))
end HF
