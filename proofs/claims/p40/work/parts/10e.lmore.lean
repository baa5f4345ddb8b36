/-! MORE ROWS OF THE LAW'S LAYER: nulls, texts, tables, copies, calls of the JDK -/
theorem g_catQ {G : GL} {i : Nat} : (g_rf G i).category = 1 := by unfold g_rf; cases g_ro G i <;> rfl
theorem g_slQ {G : GL} {i : Nat} {vs : List Value} : (lg_sl (g_rf G i :: vs)).length = 1 + (lg_sl vs).length := by
  unfold lg_sl
  rw [List.flatMap_cons, List.length_append, g_catQ]
  rfl
section HF
variable {p : Program} {l : Launch} {e : Env} {R : Room} {s : State} {m : MethodId} {args : Array Value} {below : List Frame} {meth : Method} {c : Code} {H : Heap} {locs : List Loc} {cells slots : Nat} {Q : State → Prop} {G : GL} {x : CS} {y y0 : MS} {o : Nat → Int32} {cc : ByteArray} {nL pc : Nat} {own : String} {rt : Option FieldType} {ls : Array Slot} {rest : List Value} {idx i k : Nat}

theorem h_aload_n (hx : p.tables.exec = Jvm.exec) (hb : c.code = cc) {q : Fin 4} {r j : Nat} (hdg : decode cc pc = .ok (.aload_n q, 1)) (hi : (q : Nat) = j) (hl : ls[j]? = some (.val (g_rf G r))) (kk : W p l e R s m args below meth c H locs cells slots Q (F0 m (pc + 1) ls (g_rf G r :: rest))) : W p l e R s m args below meth c H locs cells slots Q (F0 m pc ls (rest)) := by
  unfold g_rf at hl kk
  cases h : g_ro G r with
  | none => rw [h] at hl kk; exact lv_aload_nN hx hb hdg hi hl kk
  | some t => rw [h] at hl kk; exact lv_aload_n hx hb hdg hi hl kk
theorem h_aload (hx : p.tables.exec = Jvm.exec) (hb : c.code = cc) {r j : Nat} (hdg : decode cc pc = .ok (.aload j, 2)) (hl : ls[j]? = some (.val (g_rf G r))) (kk : W p l e R s m args below meth c H locs cells slots Q (F0 m (pc + 2) ls (g_rf G r :: rest))) : W p l e R s m args below meth c H locs cells slots Q (F0 m pc ls (rest)) := by
  unfold g_rf at hl kk
  cases h : g_ro G r with
  | none => rw [h] at hl kk; exact lv_aloadN hx hb hdg hl kk
  | some t => rw [h] at hl kk; exact lv_aload hx hb hdg hl kk
theorem h_astore_n (hx : p.tables.exec = Jvm.exec) (hb : c.code = cc) {q : Fin 4} {r j : Nat} {lv lv' : List (Nat × Value)} (hdg : decode cc pc = .ok (.astore_n q, 1)) (hi : (q : Nat) = j) (h : lv_has ls nL lv) (hn : j < nL) (hl : (j, g_rf G r) :: lv.filter (fun q => !(q.1 == j) && !(q.1 + 1 == j && q.2.category == 2)) = lv') (kk : ∀ ls : Array Slot, lv_has ls nL lv' → W p l e R s m args below meth c H locs cells slots Q (F0 m (pc + 1) ls (rest))) : W p l e R s m args below meth c H locs cells slots Q (F0 m pc ls (g_rf G r :: rest)) := by
  unfold g_rf at hl ⊢
  cases h9 : g_ro G r with
  | none => rw [h9] at hl; exact lv_astore_nN hx hb hdg hi h hn hl kk
  | some t => rw [h9] at hl; exact lv_astore_n hx hb hdg hi h hn hl kk
theorem h_astore (hx : p.tables.exec = Jvm.exec) (hb : c.code = cc) {r j : Nat} {lv lv' : List (Nat × Value)} (hdg : decode cc pc = .ok (.astore j, 2)) (h : lv_has ls nL lv) (hn : j < nL) (hl : (j, g_rf G r) :: lv.filter (fun q => !(q.1 == j) && !(q.1 + 1 == j && q.2.category == 2)) = lv') (kk : ∀ ls : Array Slot, lv_has ls nL lv' → W p l e R s m args below meth c H locs cells slots Q (F0 m (pc + 2) ls (rest))) : W p l e R s m args below meth c H locs cells slots Q (F0 m pc ls (g_rf G r :: rest)) := by
  unfold g_rf at hl ⊢
  cases h9 : g_ro G r with
  | none => rw [h9] at hl; exact lv_astoreN hx hb hdg h hn hl kk
  | some t => rw [h9] at hl; exact lv_astore hx hb hdg h hn hl kk
theorem h_null (hx : p.tables.exec = Jvm.exec) (hb : c.code = cc) (hdg : decode cc pc = .ok (.aconst_null, 1)) (kk : W p l e R s m args below meth c H locs cells slots Q (F0 m (pc + 1) ls (g_rf G 0 :: rest))) : W p l e R s m args below meth c H locs cells slots Q (F0 m pc ls (rest)) := lv_null hx hb hdg kk
theorem h_ifnull (hx : p.tables.exec = Jvm.exec) (hb : c.code = cc) {off : Int} {tgt r : Nat} (hdg : decode cc pc = .ok (.ifnull off, 3)) (ht : (pc : Int) + off = (tgt : Int)) (kt : r < 200 → W p l e R s m args below meth c H locs cells slots Q (F0 m tgt ls (rest))) (kf : ¬ r < 200 → W p l e R s m args below meth c H locs cells slots Q (F0 m (pc + 3) ls (rest))) : W p l e R s m args below meth c H locs cells slots Q (F0 m pc ls (g_rf G r :: rest)) := by
  by_cases h : r < 200
  · rw [g_rfl h]; exact lv_ifnullN hx hb hdg ht (kt h)
  · rw [g_rfp (by omega)]; exact lv_ifnull hx hb hdg (kf h)
theorem h_ifnonnull (hx : p.tables.exec = Jvm.exec) (hb : c.code = cc) {off : Int} {tgt r : Nat} (hdg : decode cc pc = .ok (.ifnonnull off, 3)) (ht : (pc : Int) + off = (tgt : Int)) (kt : ¬ r < 200 → W p l e R s m args below meth c H locs cells slots Q (F0 m tgt ls (rest))) (kf : r < 200 → W p l e R s m args below meth c H locs cells slots Q (F0 m (pc + 3) ls (rest))) : W p l e R s m args below meth c H locs cells slots Q (F0 m pc ls (g_rf G r :: rest)) := by
  by_cases h : r < 200
  · rw [g_rfl h]; exact lv_ifnonnullN hx hb hdg (kf h)
  · rw [g_rfp (by omega)]; exact lv_ifnonnull hx hb hdg ht (kt h)
theorem h_toi : Cond.instanceMethod Lib.objectInit ∈ gT := g_mem1 (i := 43) (by decide +kernel) rfl
theorem h_toc : Cond.code Lib.objectInit ⟨#[0xb1]⟩ 1 none ∈ gT := g_mem1 (i := 44) (by decide +kernel) rfl
theorem h_objInit (C0 : g_X G (List.range 120) p s m args meth c cc nL own rt) (hW : h_W G y0 (x, y, o) s.heap H locs) (hk : h_K y i ≠ 0) (hl : Cond.methodLink own idx Lib.objectInit ∈ gT) (hsz : ls.size = nL) (hlev : 1 ≤ k) (hcat : (rest.map fun v => v.category).sum ≤ 8) (hdg : decode cc pc = .ok (.invokespecial idx, 3)) (kk : W p l e (h_lv k y0) s m args below meth c H locs cells slots Q (F0 m (pc + 3) ls (rest))) : W p l e (h_lv k y0) s m args below meth c H locs cells slots Q (F0 m pc ls (g_rf G i :: rest)) := by
  rw [hW.rf hk]
  exact W.objInit C0.hx C0.hb C0.hown (C0.hts _ hl) (C0.hts _ h_toi) (C0.hts _ h_toc) rfl (hsz.trans C0.hml.symm) rfl hdg (show 1 ≤ k from hlev) (by show 2 * 0 + _ + 12 ≤ 64 * k; omega) kk
theorem h_ldc (C0 : g_X G (List.range 120) p s m args meth c cc nL own rt) (hW : h_W G y0 (x, y, o) s.heap H locs) {n : Nat} {tx : String} (hq : (own, idx, tx, n) ∈ g_ld) (hn : n < 93) (hdg : decode cc pc = .ok (.ldc idx, 2)) (kk : W p l e R s m args below meth c H locs cells slots Q (F0 m (pc + 2) ls (.ref (g_sa G n) :: rest))) : W p l e R s m args below meth c H locs cells slots Q (F0 m pc ls (rest)) := by
  rw [g_sa_lo hn] at kk
  exact va_ldcS C0.hx C0.hb C0.hown (C0.hG.2.2.2.2.2.2.2.2.2.1 _ hq) hdg kk

theorem h_toS (hW : h_W G y0 (x, y, o) s.heap H locs) (hk : h_K y i = 55) : g_rf G i = .ref (g_sa G i) := by rw [hW.rf (h_ne hk (by decide)), g_sa_hi (hW.hi (h_ne hk (by decide)))]
theorem h_toV (hW : h_W G y0 (x, y, o) s.heap H locs) (hk : h_K y i = 61) : g_rf G i = .ref (g_va G i) := by rw [hW.rf (h_ne hk (by decide)), g_va_hi (hW.hi (h_ne hk (by decide)))]
theorem h_scod (C0 : g_X G (List.range 120) p s m args meth c cc nL own rt) (hW : h_W G y0 (x, y, o) s.heap H locs) (hk : h_sok y i = true) (hl : Cond.fieldLink own idx "java/lang/String" "coder" "B" ∈ gT) (hdg : decode cc pc = .ok (.getfield idx, 3)) (kk : W p l e R s m args below meth c H locs cells slots Q (F0 m (pc + 3) ls (.int (h_sc y i) :: rest))) : W p l e R s m args below meth c H locs cells slots Q (F0 m pc ls (.ref (g_sa G i) :: rest)) := by
  rcases Bool.or_eq_true_iff.mp hk with h1 | h1
  · have h2 := of_decide_eq_true h1
    rw [g_sa_lo h2]
    rw [show h_sc y i = 0 from if_pos (by omega)] at kk
    exact g_scod (h_up C0 y) hW.1 h2 hl hdg kk
  · have h2 := of_decide_eq_true h1
    have h3 := hW.hi (h_ne h2 (by decide))
    rw [← h_toS hW h2]
    rw [show h_sc y i = h_I y i 1 from if_neg (by omega)] at kk
    exact hf_J0_1 C0 hW h2 hl hdg kk
theorem h_sval (C0 : g_X G (List.range 120) p s m args meth c cc nL own rt) (hW : h_W G y0 (x, y, o) s.heap H locs) (hk : h_svok y i = true) (hl : Cond.fieldLink own idx "java/lang/String" "value" "[B" ∈ gT) (hdg : decode cc pc = .ok (.getfield idx, 3)) (kk : W p l e R s m args below meth c H locs cells slots Q (F0 m (pc + 3) ls (.ref (g_va G (h_sv y i)) :: rest))) : W p l e R s m args below meth c H locs cells slots Q (F0 m pc ls (.ref (g_sa G i) :: rest)) := by
  rcases Bool.or_eq_true_iff.mp hk with h1 | h1
  · have h2 := of_decide_eq_true h1
    rw [g_sa_lo h2]
    rw [show h_sv y i = i from if_pos (by omega), g_va_lo h2] at kk
    exact g_sval (h_up C0 y) hW.1 h2 hl hdg kk
  · obtain ⟨h5, h6⟩ := Bool.and_eq_true_iff.mp h1
    have h2 := of_decide_eq_true h5
    have h3 := hW.hi (h_ne h2 (by decide))
    rw [← h_toS hW h2]
    rw [show h_sv y i = h_R y i 0 from if_neg (by omega), ← h_toV hW (of_decide_eq_true h6)] at kk
    exact hf_J0_0 C0 hW h2 hl hdg kk
theorem h_vlen (C0 : g_X G (List.range 120) p s m args meth c cc nL own rt) (hW : h_W G y0 (x, y, o) s.heap H locs) (hv : h_vok y i = true) (hdg : decode cc pc = .ok (.arraylength, 1)) (kk : W p l e R s m args below meth c H locs cells slots Q (F0 m (pc + 1) ls (.int (nI (h_vn y i)) :: rest))) : W p l e R s m args below meth c H locs cells slots Q (F0 m pc ls (.ref (g_va G i) :: rest)) := by
  rcases Bool.or_eq_true_iff.mp hv with h1 | h1
  · have h2 := of_decide_eq_true h1
    rw [g_va_lo h2]
    rw [show h_vn y i = g_len.getD i 0 from if_pos (by omega)] at kk
    exact g_slen (h_up C0 y) hW.1 h2 hdg kk
  · have h2 := of_decide_eq_true h1
    have h3 := hW.hi (h_ne h2 (by decide))
    rw [← h_toV hW h2]
    rw [show h_vn y i = h_N y i from if_neg (by omega)] at kk
    exact hl_61 C0 hW h2 hdg kk
theorem h_vat (C0 : g_X G (List.range 120) p s m args meth c cc nL own rt) (hW : h_W G y0 (x, y, o) s.heap H locs) {j : Int32} (hv : h_vok y i = true) (hj : g_ok j (h_vn y i) = true) (hdg : decode cc pc = .ok (.baload, 1)) (kk : W p l e R s m args below meth c H locs cells slots Q (F0 m (pc + 1) ls (.int (h_vb y i j.toNatClampNeg) :: rest))) : W p l e R s m args below meth c H locs cells slots Q (F0 m pc ls (.int j :: .ref (g_va G i) :: rest)) := by
  rcases Bool.or_eq_true_iff.mp hv with h1 | h1
  · have h2 := of_decide_eq_true h1
    rw [g_va_lo h2]
    rw [show h_vn y i = g_len.getD i 0 from if_pos (by omega)] at hj
    rw [show h_vb y i = (fun j => (g_byt.getD i []).getD j 0) from if_pos (by omega)] at kk
    exact g_sat (h_up C0 y) hW.1 h2 hj hdg kk
  · have h2 := of_decide_eq_true h1
    have h3 := hW.hi (h_ne h2 (by decide))
    rw [← h_toV hW h2]
    rw [show h_vn y i = h_N y i from if_neg (by omega)] at hj
    rw [show h_vb y i = h_I y i from if_neg (by omega)] at kk
    exact ha_61 C0 hW h2 hj hdg kk
theorem hs_61v (C0 : g_X G (List.range 120) p s m args meth c cc nL own rt) (hW : h_W G y0 (x, y, o) s.heap H locs) {v j : Int32} (hk : h_K y i = 61) (hj : g_ok j (h_N y i) = true) (hdg : decode cc pc = .ok (.bastore, 1)) (kk : ∀ (H1 : Heap) (locs1 : List Loc), h_W G y0 (x, h_wi y i j.toNatClampNeg (vp_nar .byte v), o) s.heap H1 locs1 → W p l e R s m args below meth c H1 locs1 (h_nx y - h_nx y0) (h_sl y - h_sl y0) Q (F0 m (pc + 1) ls (rest))) : W p l e R s m args below meth c H locs (h_nx y - h_nx y0) (h_sl y - h_sl y0) Q (F0 m pc ls (.int v :: .int j :: .ref (g_va G i) :: rest)) := by
  rw [← h_toV hW hk]
  exact hs_61 C0 hW hk hj hdg kk
theorem hca_61v (C0 : g_X G (List.range 120) p s m args meth c cc nL own rt) (hW : h_W G y0 (x, y, o) s.heap H locs) (hk : h_K y i = 61) (hl : Cond.classLink own idx "[B" ∈ gT) (hdg : decode cc pc = .ok (.checkcast idx, 3)) (kk : W p l e R s m args below meth c H locs cells slots Q (F0 m (pc + 3) ls (.ref (g_va G i) :: rest))) : W p l e R s m args below meth c H locs cells slots Q (F0 m pc ls (.ref (g_va G i) :: rest)) := by
  rw [← h_toV hW hk] at kk ⊢
  exact hca_61 C0 hW hk hl hdg kk
theorem hfv_J4 (C0 : g_X G (List.range 120) p s m args meth c cc nL own rt) (hW : h_W G y0 (x, y, o) s.heap H locs) (hk : h_K y i = 54) (hv : h_K y (h_R y i 0) = 61) (hl : Cond.fieldLink own idx "java/lang/AbstractStringBuilder" "value" "[B" ∈ gT) (hdg : decode cc pc = .ok (.getfield idx, 3)) (kk : W p l e R s m args below meth c H locs cells slots Q (F0 m (pc + 3) ls (.ref (g_va G (h_R y i 0)) :: rest))) : W p l e R s m args below meth c H locs cells slots Q (F0 m pc ls (g_rf G i :: rest)) := by
  rw [← h_toV hW hv] at kk
  exact hf_J4_0 C0 hW hk hl hdg kk
theorem hpv_J4 (C0 : g_X G (List.range 120) p s m args meth c cc nL own rt) (hW : h_W G y0 (x, y, o) s.heap H locs) {v : Nat} (hv : h_K y v = 61) (hk : h_K y i = 54) (hl : Cond.fieldLink own idx "java/lang/AbstractStringBuilder" "value" "[B" ∈ gT) (hdg : decode cc pc = .ok (.putfield idx, 3)) (kk : ∀ (H1 : Heap) (locs1 : List Loc), h_W G y0 (x, h_wr y i 0 v, o) s.heap H1 locs1 → W p l e R s m args below meth c H1 locs1 (h_nx y - h_nx y0) (h_sl y - h_sl y0) Q (F0 m (pc + 3) ls (rest))) : W p l e R s m args below meth c H locs (h_nx y - h_nx y0) (h_sl y - h_sl y0) Q (F0 m pc ls (.ref (g_va G v) :: g_rf G i :: rest)) := by
  rw [← h_toV hW hv]
  exact hp_J4_0 C0 hW hk hl hdg kk
theorem hpv_J0 (C0 : g_X G (List.range 120) p s m args meth c cc nL own rt) (hW : h_W G y0 (x, y, o) s.heap H locs) {v : Nat} (hv : h_K y v = 61) (hk : h_K y i = 55) (hl : Cond.fieldLink own idx "java/lang/String" "value" "[B" ∈ gT) (hi1 : meth.name = "<init>") (hi2 : "java/lang/String" = own) (hdg : decode cc pc = .ok (.putfield idx, 3)) (kk : ∀ (H1 : Heap) (locs1 : List Loc), h_W G y0 (x, h_wr y i 0 v, o) s.heap H1 locs1 → W p l e R s m args below meth c H1 locs1 (h_nx y - h_nx y0) (h_sl y - h_sl y0) Q (F0 m (pc + 3) ls (rest))) : W p l e R s m args below meth c H locs (h_nx y - h_nx y0) (h_sl y - h_sl y0) Q (F0 m pc ls (.ref (g_va G v) :: g_rf G i :: rest)) := by
  rw [← h_toV hW hv]
  exact hp_J0_0 C0 hW hk hl hi1 hi2 hdg kk
theorem hn_61v (C0 : g_X G (List.range 120) p s m args meth c cc nL own rt) (hW : h_W G y0 (x, y, o) s.heap H locs) {n : Int32} (hn : ¬ n < 0) (hrm : h_rm y n.toNatClampNeg = true) (hdg : decode cc pc = .ok (.newarray .byte, 2)) (kk : ∀ (H1 : Heap), h_W G y0 (x, (h_new y 61 (fun _ => 0) (fun _ => 0) n.toNatClampNeg n.toNatClampNeg), o) s.heap H1 locs → W p l e (h_lv k y0) s m args below meth c H1 locs (h_nx (h_new y 61 (fun _ => 0) (fun _ => 0) n.toNatClampNeg n.toNatClampNeg) - h_nx y0) (h_sl (h_new y 61 (fun _ => 0) (fun _ => 0) n.toNatClampNeg n.toNatClampNeg) - h_sl y0) Q (F0 m (pc + 2) ls (.ref (g_va G (h_nx y)) :: rest))) : W p l e (h_lv k y0) s m args below meth c H locs (h_nx y - h_nx y0) (h_sl y - h_sl y0) Q (F0 m pc ls (.int n :: rest)) :=
  hn_61 C0 hW hn hrm hdg (fun H1 h1 => by
    have h9 := kk H1 h1
    rw [← h_toV h1 (i := h_nx y) (by simp [h_new, h_K])] at h9
    exact h9)
theorem hcl_61v (C0 : g_X G (List.range 120) p s m args meth c cc nL own rt) (hW : h_W G y0 (x, y, o) s.heap H locs) (hk : h_K y i = 61) (hrm : h_rm y (h_N y i) = true) (hfb : h_fb (h_I y i) (h_N y i) = true) (hlev : 1 ≤ k) (hcat : (rest.map fun v => v.category).sum ≤ 8) (hsz : ls.size = nL) (hl : Cond.methodLink own idx ⟨"[B", "clone", "()Ljava/lang/Object;"⟩ ∈ gT) (hin : Cond.instanceMethod ⟨"java/lang/Object", "clone", "()Ljava/lang/Object;"⟩ ∈ gT) (hse : Cond.selects "[B" ⟨"[B", "clone", "()Ljava/lang/Object;"⟩ ⟨"java/lang/Object", "clone", "()Ljava/lang/Object;"⟩ ∈ gT) (hdg : decode cc pc = .ok (.invokevirtual idx, 3)) (kk : ∀ (H1 : Heap), h_W G y0 (x, (h_new y 61 (h_I y i) (fun _ => 0) (h_N y i) (h_N y i)), o) s.heap H1 locs → W p l e (h_lv k y0) s m args below meth c H1 locs (h_nx (h_new y 61 (h_I y i) (fun _ => 0) (h_N y i) (h_N y i)) - h_nx y0) (h_sl (h_new y 61 (h_I y i) (fun _ => 0) (h_N y i) (h_N y i)) - h_sl y0) Q (F0 m (pc + 3) ls (.ref (g_va G (h_nx y)) :: rest))) : W p l e (h_lv k y0) s m args below meth c H locs (h_nx y - h_nx y0) (h_sl y - h_sl y0) Q (F0 m pc ls (.ref (g_va G i) :: rest)) := by
  rw [← h_toV hW hk]
  exact hcl_61 C0 hW hk hrm hfb hlev hcat hsz hl hin hse hdg (fun H1 h1 => by
    have h9 := kk H1 h1
    rw [← h_toV h1 (i := h_nx y) (by simp [h_new, h_K])] at h9
    exact h9)

theorem tsB_clone : Cond.selects "[B" ⟨"[B", "clone", "()Ljava/lang/Object;"⟩ ⟨"java/lang/Object", "clone", "()Ljava/lang/Object;"⟩ ∈ gT := g_mem6 (i := 107) (by decide +kernel) rfl
theorem h_SG (C0 : g_X G (List.range 120) p s m args meth c cc nL own rt) (hW : h_W G y0 (x, y, o) s.heap H locs) (hl : Cond.fieldLink own idx RL "SIGNS" "[Ljava/lang/String;" ∈ gT) (hdg : decode cc pc = .ok (.getstatic idx, 3)) (kk : W p l e R s m args below meth c H locs cells slots Q (F0 m (pc + 3) ls (.ref (g_st G 2) :: rest))) : W p l e R s m args below meth c H locs cells slots Q (F0 m pc ls (rest)) := va_gets C0.hx C0.hb C0.hG.2.2.2.2.1.2.2.1.1 hW.1.2.2 C0.hown (C0.hts _ hl) (fun _ h => h) hdg kk
theorem h_SGN {host : String} (C0 : g_X G (List.range 120) p s m args meth c cc nL own rt) (hW : h_W G y0 (x, y, o) s.heap H locs) (hl : Cond.fieldLinkNest own idx RL "SIGNS" "[Ljava/lang/String;" host ∈ gN) (hdg : decode cc pc = .ok (.getstatic idx, 3)) (kk : W p l e R s m args below meth c H locs cells slots Q (F0 m (pc + 3) ls (.ref (g_st G 2) :: rest))) : W p l e R s m args below meth c H locs cells slots Q (F0 m pc ls (rest)) := va_getsN C0.hx C0.hb C0.hG.2.2.2.2.1.2.2.1.1 hW.1.2.2 C0.hown (C0.nestB hl) (fun _ h => h) hdg kk
theorem h_D1 (C0 : g_X G (List.range 120) p s m args meth c cc nL own rt) (hW : h_W G y0 (x, y, o) s.heap H locs) (hl : Cond.fieldLink own idx "java/lang/Integer" "DigitOnes" "[B" ∈ gT) (hdg : decode cc pc = .ok (.getstatic idx, 3)) (kk : W p l e R s m args below meth c H locs cells slots Q (F0 m (pc + 3) ls (.ref (g_st G 3) :: rest))) : W p l e R s m args below meth c H locs cells slots Q (F0 m pc ls (rest)) := va_gets C0.hx C0.hb C0.hG.2.2.2.2.1.2.2.2.1.1 hW.1.2.2 C0.hown (C0.hts _ hl) (fun _ h => h) hdg kk
theorem h_D2 (C0 : g_X G (List.range 120) p s m args meth c cc nL own rt) (hW : h_W G y0 (x, y, o) s.heap H locs) (hl : Cond.fieldLink own idx "java/lang/Integer" "DigitTens" "[B" ∈ gT) (hdg : decode cc pc = .ok (.getstatic idx, 3)) (kk : W p l e R s m args below meth c H locs cells slots Q (F0 m (pc + 3) ls (.ref (g_st G 4) :: rest))) : W p l e R s m args below meth c H locs cells slots Q (F0 m pc ls (rest)) := va_gets C0.hx C0.hb C0.hG.2.2.2.2.1.2.2.2.2.1.1 hW.1.2.2 C0.hown (C0.hts _ hl) (fun _ h => h) hdg kk
theorem h_SGat (C0 : g_X G (List.range 120) p s m args meth c cc nL own rt) (hW : h_W G y0 (x, y, o) s.heap H locs) {j : Int32} (hj : g_ok j 9 = true) (hdg : decode cc pc = .ok (.aaload, 1)) (kk : W p l e R s m args below meth c H locs cells slots Q (F0 m (pc + 1) ls (.ref (g_sa G (84 + j.toNatClampNeg)) :: rest))) : W p l e R s m args below meth c H locs cells slots Q (F0 m pc ls (.int j :: .ref (g_st G 2) :: rest)) := by
  refine vb_tq C0.hx C0.hb C0.hG.2.2.2.2.1.2.2.1.2 hW.1.2.2 (g_okv hj) rfl hdg ?_
  have h1 := g_oklt hj (by decide)
  rw [g_sa_lo (by omega)] at kk
  exact kk
theorem h_D1at (C0 : g_X G (List.range 120) p s m args meth c cc nL own rt) (hW : h_W G y0 (x, y, o) s.heap H locs) {j : Int32} (hj : g_ok j 100 = true) (hdg : decode cc pc = .ok (.baload, 1)) (kk : W p l e R s m args below meth c H locs cells slots Q (F0 m (pc + 1) ls (.int (g_d1 j.toNatClampNeg) :: rest))) : W p l e R s m args below meth c H locs cells slots Q (F0 m pc ls (.int j :: .ref (g_st G 3) :: rest)) := va_tb C0.hx C0.hb C0.hG.2.2.2.2.1.2.2.2.1.2 hW.1.2.2 (g_okv hj) rfl hdg kk
theorem h_D2at (C0 : g_X G (List.range 120) p s m args meth c cc nL own rt) (hW : h_W G y0 (x, y, o) s.heap H locs) {j : Int32} (hj : g_ok j 100 = true) (hdg : decode cc pc = .ok (.baload, 1)) (kk : W p l e R s m args below meth c H locs cells slots Q (F0 m (pc + 1) ls (.int (g_d2 j.toNatClampNeg) :: rest))) : W p l e R s m args below meth c H locs cells slots Q (F0 m pc ls (.int j :: .ref (g_st G 4) :: rest)) := va_tb C0.hx C0.hb C0.hG.2.2.2.2.1.2.2.2.2.1.2 hW.1.2.2 (g_okv hj) rfl hdg kk
theorem h_xlen (C0 : g_X G (List.range 120) p s m args meth c cc nL own rt) (hW : h_W G y0 (x, y, o) s.heap H locs) (hdg : decode cc pc = .ok (.arraylength, 1)) (kk : W p l e R s m args below meth c H locs cells slots Q (F0 m (pc + 1) ls (.int (nI (g_L G)) :: rest))) : W p l e R s m args below meth c H locs cells slots Q (F0 m pc ls (.ref (g_st G 5) :: rest)) := va_tlen C0.hx C0.hb C0.hG.2.2.2.2.1.2.2.2.2.2 hW.1.2.2 rfl hdg kk
theorem h_xat (C0 : g_X G (List.range 120) p s m args meth c cc nL own rt) (hW : h_W G y0 (x, y, o) s.heap H locs) {j : Int32} (hj : g_ok j (g_L G) = true) (hdg : decode cc pc = .ok (.iaload, 1)) (kk : W p l e R s m args below meth c H locs cells slots Q (F0 m (pc + 1) ls (.int (g_xs G j.toNatClampNeg) :: rest))) : W p l e R s m args below meth c H locs cells slots Q (F0 m pc ls (.int j :: .ref (g_st G 5) :: rest)) := va_ti C0.hx C0.hb C0.hG.2.2.2.2.1.2.2.2.2.2 hW.1.2.2 (g_okv hj) rfl hdg kk
theorem h_minR (C0 : g_X G (List.range 120) p s m args meth c cc nL own rt) (hW : h_W G y0 (x, y, o) s.heap H locs) {x1 y1 : Int32} (hsz : ls.size = nL) (hlev : 1 ≤ k) (hcat : (rest.map fun v => v.category).sum ≤ 8) (hl : .methodLink own idx yJ9_min_7cf53 ∈ gT) (hdg : decode cc pc = .ok (.invokestatic idx, 3)) (kk : W p l e (h_lv k y0) s m args below meth c H locs (h_nx y - h_nx y0) (h_sl y - h_sl y0) Q (F0 m (pc + 3) ls (.int (if y1 < x1 then y1 else x1) :: rest))) : W p l e (h_lv k y0) s m args below meth c H locs (h_nx y - h_nx y0) (h_sl y - h_sl y0) Q (F0 m pc ls (.int y1 :: .int x1 :: rest)) := by
  have h1 : h_nx y0 ≤ h_nx y := hW.2.2.2.1
  have h2 : h_sl y0 ≤ h_sl y := hW.2.2.2.2.1
  have h3 : h_nx y ≤ h_cap := hW.2.2.2.2.2.1
  have h6 : h_sl y ≤ h_scap := hW.2.2.2.2.2.2.1
  refine va_mmin C0.hx C0.hb (C0.hml.trans hsz.symm) C0.hown (C0.hts _ hl) (C0.hts _ tz_J9_min_7cf53) (C0.hts _ tn_J9) (C0.hts _ tc_J9_min_7cf53) (show 1 ≤ k from hlev) ?_ ?_ ?_ hdg kk
  · show _ ≤ 64 * k
    omega
  · show h_nx y - h_nx y0 ≤ h_cap - h_nx y0
    omega
  · show h_sl y - h_sl y0 ≤ h_scap - h_sl y0
    omega
theorem h_maxR (C0 : g_X G (List.range 120) p s m args meth c cc nL own rt) (hW : h_W G y0 (x, y, o) s.heap H locs) {x1 y1 : Int32} (hsz : ls.size = nL) (hlev : 1 ≤ k) (hcat : (rest.map fun v => v.category).sum ≤ 8) (hl : .methodLink own idx yJ9_max_7cf53 ∈ gT) (hdg : decode cc pc = .ok (.invokestatic idx, 3)) (kk : W p l e (h_lv k y0) s m args below meth c H locs (h_nx y - h_nx y0) (h_sl y - h_sl y0) Q (F0 m (pc + 3) ls (.int (if x1 < y1 then y1 else x1) :: rest))) : W p l e (h_lv k y0) s m args below meth c H locs (h_nx y - h_nx y0) (h_sl y - h_sl y0) Q (F0 m pc ls (.int y1 :: .int x1 :: rest)) := by
  have h1 : h_nx y0 ≤ h_nx y := hW.2.2.2.1
  have h2 : h_sl y0 ≤ h_sl y := hW.2.2.2.2.1
  have h3 : h_nx y ≤ h_cap := hW.2.2.2.2.2.1
  have h6 : h_sl y ≤ h_scap := hW.2.2.2.2.2.2.1
  refine va_mmax C0.hx C0.hb (C0.hml.trans hsz.symm) C0.hown (C0.hts _ hl) (C0.hts _ tz_J9_max_7cf53) (C0.hts _ tn_J9) (C0.hts _ tc_J9_max_7cf53) (show 1 ≤ k from hlev) ?_ ?_ ?_ hdg kk
  · show _ ≤ 64 * k
    omega
  · show h_nx y - h_nx y0 ≤ h_cap - h_nx y0
    omega
  · show h_sl y - h_sl y0 ≤ h_scap - h_sl y0
    omega
theorem h_absR (C0 : g_X G (List.range 120) p s m args meth c cc nL own rt) (hW : h_W G y0 (x, y, o) s.heap H locs) {x1 : Int32} (hsz : ls.size = nL) (hlev : 1 ≤ k) (hcat : (rest.map fun v => v.category).sum ≤ 8) (hl : .methodLink own idx yJ9_abs_0f7a4 ∈ gT) (hdg : decode cc pc = .ok (.invokestatic idx, 3)) (kk : W p l e (h_lv k y0) s m args below meth c H locs (h_nx y - h_nx y0) (h_sl y - h_sl y0) Q (F0 m (pc + 3) ls (.int (if 0 ≤ x1 then x1 else 0 - x1) :: rest))) : W p l e (h_lv k y0) s m args below meth c H locs (h_nx y - h_nx y0) (h_sl y - h_sl y0) Q (F0 m pc ls (.int x1 :: rest)) := by
  have h1 : h_nx y0 ≤ h_nx y := hW.2.2.2.1
  have h2 : h_sl y0 ≤ h_sl y := hW.2.2.2.2.1
  have h3 : h_nx y ≤ h_cap := hW.2.2.2.2.2.1
  have h6 : h_sl y ≤ h_scap := hW.2.2.2.2.2.2.1
  refine va_mabs C0.hx C0.hb (C0.hml.trans hsz.symm) C0.hown (C0.hts _ hl) (C0.hts _ tz_J9_abs_0f7a4) (C0.hts _ tn_J9) (C0.hts _ tc_J9_abs_0f7a4) (show 1 ≤ k from hlev) ?_ ?_ ?_ hdg kk
  · show _ ≤ 64 * k
    omega
  · show h_nx y - h_nx y0 ≤ h_cap - h_nx y0
    omega
  · show h_sl y - h_sl y0 ≤ h_scap - h_sl y0
    omega
end HF
