/-! NEW CELLS OF THE LAW'S HEAP, COPIES, TEXTS -/
section HF
variable {p : Program} {l : Launch} {e : Env} {R : Room} {s : State} {m : MethodId} {args : Array Value} {below : List Frame} {meth : Method} {c : Code} {H : Heap} {locs : List Loc} {cells slots : Nat} {Q : State → Prop} {G : GL} {x : CS} {y y0 : MS} {o : Nat → Int32} {cc : ByteArray} {nL pc : Nat} {own : String} {rt : Option FieldType} {ls : Array Slot} {rest : List Value} {idx i k : Nat}

theorem h_wln {kd1 n sl : Nat} {f : Nat → Int32} {r : Nat → Nat} (hW : h_W G y0 (x, y, o) s.heap H locs) : g_wl G (g_is (h_new y kd1 f r n sl)) (x, h_new y kd1 f r n sl, o) = g_wl G (g_is y) (x, y, o) ++ [(H.size, h_c G (h_new y kd1 f r n sl) (h_nx y))] := by
  have h2 : 200 ≤ h_nx y := hW.2.2.2.2.2.2.2.1
  have h3 := hW.2.2.2.2.2.2.2.2.2
  have e : g_is (h_new y kd1 f r n sl) = g_is y ++ [h_nx y] := by
    unfold g_is
    rw [List.append_assoc]
    rfl
  rw [e]
  unfold g_wl
  rw [List.map_append]
  congr 1
  · refine List.map_congr_left (fun i hi => ?_)
    rw [h_cn]
    rcases List.mem_append.mp hi with h | h
    · have := List.mem_range.mp h
      omega
    · have := (h3 i h).2
      exact Nat.ne_of_lt this
  · show [(g_ad G (h_nx y), g_c G _ (h_nx y))] = _
    rw [h_adn hW.2.1 h2, g_cl h2]
theorem h_mk {kd1 n sl : Nat} {f : Nat → Int32} {r : Nat → Nat} {e1 : va_E} (hW : h_W G y0 (x, y, o) s.heap H locs) (hrm : h_rm y sl = true) (he : h_c G (h_new y kd1 f r n sl) (h_nx y) = e1) {H1 : Heap} (z1 : H1.size = H.size + 1) (o1 : ∀ q : Nat, q < H.size → H1[q]? = H[q]?) (hn : va_at (g_D G) vwCl (H.size, e1) H1) : h_W G y0 (x, h_new y kd1 f r n sl, o) s.heap H1 locs ∧ h_nx y - h_nx y0 + 1 = h_nx (h_new y kd1 f r n sl) - h_nx y0 ∧ h_sl y - h_sl y0 + sl = h_sl (h_new y kd1 f r n sl) - h_sl y0 ∧ g_rf G (h_nx y) = .ref H.size := by
  have h2 : 200 ≤ h_nx y := hW.2.2.2.2.2.2.2.1
  have h4 : h_nx y0 ≤ h_nx y := hW.2.2.2.1
  have h5 : h_sl y0 ≤ h_sl y := hW.2.2.2.2.1
  have h6 : g_b G + h_nx y = H.size + 200 := hW.2.1
  have hrm := h_rmv hrm
  have hwl := h_wln (kd1 := kd1) (n := n) (sl := sl) (f := f) (r := r) hW
  rw [he] at hwl
  have hk : ∀ (k : Nat) (q : Nat × va_E), (g_wl G (g_is y) (x, y, o))[k]? = some q → H1[q.1]? = H[q.1]? := fun k q hq => o1 q.1 (va_at.lt (hW.1.1 k q hq))
  have hS := hW.1.2.2
  refine ⟨⟨⟨?_, ?_, Nat.le_trans hS.1 (by omega), fun q h1 h2 => (o1 q (Nat.lt_of_lt_of_le h1 hS.1)).trans (hS.2.1 q h1 h2), hS.2.2⟩, ?_, hW.2.2.1, ?_, ?_, h_newok hW.2.2.2.2.2 hrm⟩, ?_, ?_, ?_⟩
  · show va_P _ _ (g_wl G (g_is _) _) H1
    rw [hwl]
    refine (hW.1.1.kept hk).app (fun k q hq => ?_)
    have hz : k < 1 := (List.getElem?_eq_some_iff.mp hq).1
    rw [show k = 0 by omega] at hq
    cases hq
    exact hn
  · show va_D _ (g_wl G (g_is _) _)
    rw [hwl]
    exact hW.1.2.1.push hW.1.1 rfl (show g_b G ≤ H.size by omega)
  · show g_b G + (h_nx y + 1) = _
    omega
  · show _ ≤ h_nx y + 1
    omega
  · show _ ≤ h_sl y + sl
    omega
  · show _ = h_nx y + 1 - _
    omega
  · show _ = h_sl y + sl - _
    omega
  · rw [g_rfp (by omega), h_adn hW.2.1 h2]
theorem h_room {n : Nat} (hW : h_W G y0 (x, y, o) s.heap H locs) (hrm : h_rm y n = true) : h_nx y - h_nx y0 + 1 ≤ (h_lv k y0).cells ∧ h_sl y - h_sl y0 + n ≤ (h_lv k y0).slots ∧ n ≤ 7000000 := by
  have h4 : h_nx y0 ≤ h_nx y := hW.2.2.2.1
  have h5 : h_sl y0 ≤ h_sl y := hW.2.2.2.2.1
  have h6 := h_rmv hrm
  refine ⟨?_, ?_, Nat.le_trans (Nat.le_add_left _ _) h6.2⟩
  · show _ ≤ h_cap - h_nx y0
    omega
  · show _ ≤ h_scap - h_sl y0
    omega
theorem h_newO (C0 : g_X G (List.range 120) p s m args meth c cc nL own rt) (hW : h_W G y0 (x, y, o) s.heap H locs) {kd1 ci N : Nat} {C : String} {T : u_T} {ty : Nat → FieldType} {fs : List Value} (hrm : h_rm y N = true) (hin : ∀ w ∈ u_ws C T N, w ∈ gT) (hty : ∀ k, k < N → parseFieldDescriptor (T k).2.2.1 = some (ty k)) (hl : Cond.classLink own idx C ∈ gT) (hins : Cond.instantiable C N ∈ gT) (hini : Cond.initialized C ∈ gT) (hcl : vwCl[ci]? = some (C, T, N)) (hfs : ∀ j, j < N → defaultValue (ty j) = vp_V fs j) (he : h_c G (h_new y kd1 (fun _ => 0) (fun _ => 0) 0 N) (h_nx y) = .inr (ci, fs)) (hdg : decode cc pc = .ok (.new idx, 3)) (kk : ∀ (H1 : Heap), h_W G y0 (x, h_new y kd1 (fun _ => 0) (fun _ => 0) 0 N, o) s.heap H1 locs → W p l e (h_lv k y0) s m args below meth c H1 locs (h_nx (h_new y kd1 (fun _ => 0) (fun _ => 0) 0 N) - h_nx y0) (h_sl (h_new y kd1 (fun _ => 0) (fun _ => 0) 0 N) - h_sl y0) Q (F0 m (pc + 3) ls (g_rf G (h_nx y) :: rest))) : W p l e (h_lv k y0) s m args below meth c H locs (h_nx y - h_nx y0) (h_sl y - h_sl y0) Q (F0 m pc ls (rest)) := by
  have hKn := C0.hK.1 ci _ hcl
  have hr := h_room (k := k) hW hrm
  refine W.newcK C0.hx C0.hb C0.hown (C0.hts _ hl) (C0.hts _ hins) (C0.hts _ hini) rfl hdg hr.1 hr.2.1 hKn.2.1 rfl fun H1 kC hkC e1 z1 o1 => ?_
  obtain ⟨m1, m2, m3, m4⟩ := h_mk hW hrm he z1 o1 ⟨_, hcl, (u_born ty C0.hts hin hKn hkC e1 hty).to hfs⟩
  have h9 := kk H1 m1
  rw [← m2, ← m3, m4] at h9
  exact h9
theorem h_cAp (C0 : g_X G (List.range 120) p s m args meth c cc nL own rt) {t : Nat} {ty : FieldType} {cA : ClassId} (ht : (g_tys G)[t]? = some (g_cA G t, ty)) (h : ∀ U : State, va_RA U (g_cA G t) ty → U.vm.findClass ("[" ++ ty.toString) = some (g_cA G t)) (hf : s.vm.findClass ("[" ++ ty.toString) = some cA) : cA = g_cA G t := Option.some.inj (hf.symm.trans (h s (C0.hK.2 t _ ht).2))
theorem hn_60 (C0 : g_X G (List.range 120) p s m args meth c cc nL own rt) (hW : h_W G y0 (x, y, o) s.heap H locs) {n : Int32} (hn : ¬ n < 0) (hrm : h_rm y n.toNatClampNeg = true) (hdg : decode cc pc = .ok (.newarray .int, 2)) (kk : ∀ (H1 : Heap), h_W G y0 (x, (h_new y 60 (fun _ => 0) (fun _ => 0) n.toNatClampNeg n.toNatClampNeg), o) s.heap H1 locs → W p l e (h_lv k y0) s m args below meth c H1 locs (h_nx (h_new y 60 (fun _ => 0) (fun _ => 0) n.toNatClampNeg n.toNatClampNeg) - h_nx y0) (h_sl (h_new y 60 (fun _ => 0) (fun _ => 0) n.toNatClampNeg n.toNatClampNeg) - h_sl y0) Q (F0 m (pc + 2) ls (g_rf G (h_nx y) :: rest))) : W p l e (h_lv k y0) s m args below meth c H locs (h_nx y - h_nx y0) (h_sl y - h_sl y0) Q (F0 m pc ls (.int n :: rest)) := by
  have hr := h_room (k := k) hW hrm
  refine va_newaK C0.hx C0.hb (C0.hts _ (show Cond.arrayClass (newarray.typeOf .int) ∈ gT from tr_int)) rfl hdg rfl hn rfl (by show _ * 4 ≤ _; omega) hr.1 hr.2.1 rfl fun H1 cA e1 z1 o1 hAr hNm => ?_
  obtain rfl := h_cAp C0 (t := 0) (ty := .int) rfl (fun _ h => h) hNm
  obtain ⟨m1, m2, m3, m4⟩ := h_mk (kd1 := 60) (n := n.toNatClampNeg) (sl := n.toNatClampNeg) (f := fun _ => 0) (r := fun _ => 0) (e1 := .inl (g_cA G 0, n.toNatClampNeg, .inl (fun _ => 0))) hW hrm ((h_c60 (by simp [h_new, h_K])).trans (by simp [h_new, h_I, h_N])) z1 o1 (show H1[H.size]? = some (vp_cell _ _) from e1)
  have h9 := kk H1 m1
  rw [← m2, ← m3, m4] at h9
  exact h9
theorem hn_61 (C0 : g_X G (List.range 120) p s m args meth c cc nL own rt) (hW : h_W G y0 (x, y, o) s.heap H locs) {n : Int32} (hn : ¬ n < 0) (hrm : h_rm y n.toNatClampNeg = true) (hdg : decode cc pc = .ok (.newarray .byte, 2)) (kk : ∀ (H1 : Heap), h_W G y0 (x, (h_new y 61 (fun _ => 0) (fun _ => 0) n.toNatClampNeg n.toNatClampNeg), o) s.heap H1 locs → W p l e (h_lv k y0) s m args below meth c H1 locs (h_nx (h_new y 61 (fun _ => 0) (fun _ => 0) n.toNatClampNeg n.toNatClampNeg) - h_nx y0) (h_sl (h_new y 61 (fun _ => 0) (fun _ => 0) n.toNatClampNeg n.toNatClampNeg) - h_sl y0) Q (F0 m (pc + 2) ls (g_rf G (h_nx y) :: rest))) : W p l e (h_lv k y0) s m args below meth c H locs (h_nx y - h_nx y0) (h_sl y - h_sl y0) Q (F0 m pc ls (.int n :: rest)) := by
  have hr := h_room (k := k) hW hrm
  refine va_newaK C0.hx C0.hb (C0.hts _ (show Cond.arrayClass (newarray.typeOf .byte) ∈ gT from tr_byte)) rfl hdg rfl hn rfl (by show _ * 1 ≤ _; omega) hr.1 hr.2.1 rfl fun H1 cA e1 z1 o1 hAr hNm => ?_
  obtain rfl := h_cAp C0 (t := 6) (ty := .byte) rfl (fun _ h => h) hNm
  obtain ⟨m1, m2, m3, m4⟩ := h_mk (kd1 := 61) (n := n.toNatClampNeg) (sl := n.toNatClampNeg) (f := fun _ => 0) (r := fun _ => 0) (e1 := .inl (g_cA G 6, n.toNatClampNeg, .inl (fun _ => 0))) hW hrm ((h_c61 (by simp [h_new, h_K])).trans (by simp [h_new, h_I, h_N])) z1 o1 (show H1[H.size]? = some (vp_cell _ _) from e1)
  have h9 := kk H1 m1
  rw [← m2, ← m3, m4] at h9
  exact h9
theorem hn_62 (C0 : g_X G (List.range 120) p s m args meth c cc nL own rt) (hW : h_W G y0 (x, y, o) s.heap H locs) {n : Int32} (hn : ¬ n < 0) (hrm : h_rm y n.toNatClampNeg = true) (hdg : decode cc pc = .ok (.newarray .boolean, 2)) (kk : ∀ (H1 : Heap), h_W G y0 (x, (h_new y 62 (fun _ => 0) (fun _ => 0) n.toNatClampNeg n.toNatClampNeg), o) s.heap H1 locs → W p l e (h_lv k y0) s m args below meth c H1 locs (h_nx (h_new y 62 (fun _ => 0) (fun _ => 0) n.toNatClampNeg n.toNatClampNeg) - h_nx y0) (h_sl (h_new y 62 (fun _ => 0) (fun _ => 0) n.toNatClampNeg n.toNatClampNeg) - h_sl y0) Q (F0 m (pc + 2) ls (g_rf G (h_nx y) :: rest))) : W p l e (h_lv k y0) s m args below meth c H locs (h_nx y - h_nx y0) (h_sl y - h_sl y0) Q (F0 m pc ls (.int n :: rest)) := by
  have hr := h_room (k := k) hW hrm
  refine va_newaK C0.hx C0.hb (C0.hts _ (show Cond.arrayClass (newarray.typeOf .boolean) ∈ gT from tr_boolean)) rfl hdg rfl hn rfl (by show _ * 1 ≤ _; omega) hr.1 hr.2.1 rfl fun H1 cA e1 z1 o1 hAr hNm => ?_
  obtain rfl := h_cAp C0 (t := 7) (ty := .boolean) rfl (fun _ h => h) hNm
  obtain ⟨m1, m2, m3, m4⟩ := h_mk (kd1 := 62) (n := n.toNatClampNeg) (sl := n.toNatClampNeg) (f := fun _ => 0) (r := fun _ => 0) (e1 := .inl (g_cA G 7, n.toNatClampNeg, .inl (fun _ => 0))) hW hrm ((h_c62 (by simp [h_new, h_K])).trans (by simp [h_new, h_I, h_N])) z1 o1 (show H1[H.size]? = some (vp_cell _ _) from e1)
  have h9 := kk H1 m1
  rw [← m2, ← m3, m4] at h9
  exact h9
theorem hn_64 (C0 : g_X G (List.range 120) p s m args meth c cc nL own rt) (hW : h_W G y0 (x, y, o) s.heap H locs) {n : Int32} (hn : ¬ n < 0) (hrm : h_rm y n.toNatClampNeg = true) (hl : Cond.classLink own idx RX15 ∈ gT) (hdg : decode cc pc = .ok (.anewarray idx, 3)) (kk : ∀ (H1 : Heap), h_W G y0 (x, (h_new y 64 (fun _ => 0) (fun _ => 0) n.toNatClampNeg n.toNatClampNeg), o) s.heap H1 locs → W p l e (h_lv k y0) s m args below meth c H1 locs (h_nx (h_new y 64 (fun _ => 0) (fun _ => 0) n.toNatClampNeg n.toNatClampNeg) - h_nx y0) (h_sl (h_new y 64 (fun _ => 0) (fun _ => 0) n.toNatClampNeg n.toNatClampNeg) - h_sl y0) Q (F0 m (pc + 3) ls (g_rf G (h_nx y) :: rest))) : W p l e (h_lv k y0) s m args below meth c H locs (h_nx y - h_nx y0) (h_sl y - h_sl y0) Q (F0 m pc ls (.int n :: rest)) := by
  have hr := h_room (k := k) hW hrm
  refine W.anew C0.hx C0.hb C0.hown (C0.hts _ hl) (va_AO.use C0.hG.2.2.2.2.2.2.2.2.2.2.2.1) rfl hdg rfl hn (by omega) hr.1 hr.2.1 fun cA kA comp f1 f2 f3 f4 => ?_
  obtain rfl : cA = g_cA G 9 := Option.some.inj (f1.symm.trans (show s.vm.findClass ("[" ++ (FieldType.object RX15).toString) = some (g_cA G 9) from by obtain ⟨_, _, _, _, _, h⟩ := (C0.hK.2 9 _ rfl).2; exact h))
  generalize hH1 : H.push ({ cls := g_cA G 9, slots := Array.replicate n.toNatClampNeg .null, vm := .none } : Cell) = H1
  have z1 : H1.size = H.size + 1 := by rw [← hH1, Array.size_push]
  have e1 : H1[H.size]? = some (arrV (g_cA G 9) n.toNatClampNeg (fun _ => .null)) := by rw [← hH1, Array.getElem?_push_size, ← arrV_new]
  have o1 : ∀ q : Nat, q < H.size → H1[q]? = H[q]? := fun q hq => by rw [← hH1, Array.getElem?_push, if_neg (Nat.ne_of_lt hq)]
  obtain ⟨m1, m2, m3, m4⟩ := h_mk (kd1 := 64) (n := n.toNatClampNeg) (sl := n.toNatClampNeg) (f := fun _ => 0) (r := fun _ => 0) (e1 := .inl (g_cA G 9, n.toNatClampNeg, .inr (.inr (.inr (.inr (fun _ => none)))))) hW hrm ((h_c64 (by simp [h_new, h_K])).trans (by simp [h_new, h_R, h_N, g_ro])) z1 o1 (by show H1[H.size]? = some (vp_cell _ _); rw [vp_cell_q]; exact e1)
  have h9 := kk H1 m1
  rw [← m2, ← m3, m4] at h9
  exact h9
theorem hn_63 (C0 : g_X G (List.range 120) p s m args meth c cc nL own rt) (hW : h_W G y0 (x, y, o) s.heap H locs) {n : Int32} (hn : ¬ n < 0) (hrm : h_rm y n.toNatClampNeg = true) (hl : Cond.classLink own idx "[I" ∈ gT) (hdg : decode cc pc = .ok (.anewarray idx, 3)) (kk : ∀ (H1 : Heap), h_W G y0 (x, (h_new y 63 (fun _ => 0) (fun _ => 0) n.toNatClampNeg n.toNatClampNeg), o) s.heap H1 locs → W p l e (h_lv k y0) s m args below meth c H1 locs (h_nx (h_new y 63 (fun _ => 0) (fun _ => 0) n.toNatClampNeg n.toNatClampNeg) - h_nx y0) (h_sl (h_new y 63 (fun _ => 0) (fun _ => 0) n.toNatClampNeg n.toNatClampNeg) - h_sl y0) Q (F0 m (pc + 3) ls (g_rf G (h_nx y) :: rest))) : W p l e (h_lv k y0) s m args below meth c H locs (h_nx y - h_nx y0) (h_sl y - h_sl y0) Q (F0 m pc ls (.int n :: rest)) := by
  have hr := h_room (k := k) hW hrm
  refine W.anewA (t := .int) C0.hx C0.hb C0.hown (C0.hts _ hl) C0.hG.2.2.2.2.2.2.2.2.2.2.1 rfl hdg rfl hn (by omega) hr.1 hr.2.1 fun cA kA comp f1 f2 f3 f4 => ?_
  obtain rfl : cA = g_cA G 8 := Option.some.inj (f1.symm.trans (show s.vm.findClass ("[" ++ (FieldType.array .int).toString) = some (g_cA G 8) from (C0.hK.2 8 _ rfl).2))
  generalize hH1 : H.push ({ cls := g_cA G 8, slots := Array.replicate n.toNatClampNeg .null, vm := .none } : Cell) = H1
  have z1 : H1.size = H.size + 1 := by rw [← hH1, Array.size_push]
  have e1 : H1[H.size]? = some (arrV (g_cA G 8) n.toNatClampNeg (fun _ => .null)) := by rw [← hH1, Array.getElem?_push_size, ← arrV_new]
  have o1 : ∀ q : Nat, q < H.size → H1[q]? = H[q]? := fun q hq => by rw [← hH1, Array.getElem?_push, if_neg (Nat.ne_of_lt hq)]
  obtain ⟨m1, m2, m3, m4⟩ := h_mk (kd1 := 63) (n := n.toNatClampNeg) (sl := n.toNatClampNeg) (f := fun _ => 0) (r := fun _ => 0) (e1 := .inl (g_cA G 8, n.toNatClampNeg, .inr (.inr (.inr (.inr (fun _ => none)))))) hW hrm ((h_c63 (by simp [h_new, h_K])).trans (by simp [h_new, h_R, h_N, g_ro])) z1 o1 (by show H1[H.size]? = some (vp_cell _ _); rw [vp_cell_q]; exact e1)
  have h9 := kk H1 m1
  rw [← m2, ← m3, m4] at h9
  exact h9
/-- all of a row's first n are bytes -/
def h_fb (f : Nat → Int32) (n : Nat) : Bool := (List.range n).all (fun j => fits .byte (.int (f j)))
theorem h_fbv {f : Nat → Int32} {n : Nat} (h : h_fb f n = true) : ∀ j, j < n → fits .byte (.int (f j)) = true := fun j hj => List.all_eq_true.mp h j (List.mem_range.mpr hj)
theorem tsmI : Cond.sameMethod "[I" "java/lang/Object" "clone" "()Ljava/lang/Object;" ∈ gT := g_mem4 (i := 19) (by decide +kernel) rfl
theorem tsmB : Cond.sameMethod "[B" "java/lang/Object" "clone" "()Ljava/lang/Object;" ∈ gT := g_mem6 (i := 106) (by decide +kernel) rfl
theorem tnat_clone : Cond.native ⟨"java/lang/Object", "clone", "()Ljava/lang/Object;"⟩ ∈ gT := g_mem4 (i := 20) (by decide +kernel) rfl
theorem tcaI : Cond.castable "[I" "java/lang/Cloneable" ∈ gN := g_nem4 (i := 23) (by decide +kernel) rfl
theorem tcaB : Cond.castable "[B" "java/lang/Cloneable" ∈ gN := g_nem6 (i := 108) (by decide +kernel) rfl
theorem hcl_60 (C0 : g_X G (List.range 120) p s m args meth c cc nL own rt) (hW : h_W G y0 (x, y, o) s.heap H locs) (hk : h_K y i = 60) (hrm : h_rm y (h_N y i) = true) (hlev : 1 ≤ k) (hcat : (rest.map fun v => v.category).sum ≤ 8) (hsz : ls.size = nL) (hl : Cond.methodLink own idx ⟨"[I", "clone", "()Ljava/lang/Object;"⟩ ∈ gT) (hin : Cond.instanceMethod ⟨"java/lang/Object", "clone", "()Ljava/lang/Object;"⟩ ∈ gT) (hse : Cond.selects "[I" ⟨"[I", "clone", "()Ljava/lang/Object;"⟩ ⟨"java/lang/Object", "clone", "()Ljava/lang/Object;"⟩ ∈ gT) (hdg : decode cc pc = .ok (.invokevirtual idx, 3)) (kk : ∀ (H1 : Heap), h_W G y0 (x, (h_new y 60 (h_I y i) (fun _ => 0) (h_N y i) (h_N y i)), o) s.heap H1 locs → W p l e (h_lv k y0) s m args below meth c H1 locs (h_nx (h_new y 60 (h_I y i) (fun _ => 0) (h_N y i) (h_N y i)) - h_nx y0) (h_sl (h_new y 60 (h_I y i) (fun _ => 0) (h_N y i) (h_N y i)) - h_sl y0) Q (F0 m (pc + 3) ls (g_rf G (h_nx y) :: rest))) : W p l e (h_lv k y0) s m args below meth c H locs (h_nx y - h_nx y0) (h_sl y - h_sl y0) Q (F0 m pc ls (g_rf G i :: rest)) := by
  have hr := h_room (k := k) hW hrm
  obtain ⟨q0, hq0⟩ := List.getElem?_of_mem (hW.mem (h_ne hk (by decide)))
  have ha := g_wl_at hq0 (hW.ce (h_ne hk (by decide)) (h_c60 hk))
  rw [hW.rf (h_ne hk (by decide))]
  have hcell : H[g_ad G i]? = some (vp_cell (g_cA G 0) (h_N y i, .inl (h_I y i))) := hW.1.1 q0 _ ha
  have hnm : s.vm.findClass "[I" = some (g_cA G 0) := va_nm_int (C0.hK.2 0 _ rfl).2
  obtain ⟨c0, t0', f1, f2, f3⟩ := Cond.castable_spec (va_Nw.use (A := args) rfl (C0.nest tcaI))
  cases hnm.symm.trans f1
  intro T hT X
  obtain ⟨-, kA, hkA, comp, hkind⟩ := State.isArrayOf_alike X.warmed.alike ((C0.hK.2 0 _ rfl).1 0 (fun _ => .null))
  obtain ⟨-, kS, hkS, compS, hkindS⟩ := (C0.hK.2 0 _ rfl).1 0 (fun _ => .null)
  obtain ⟨vm', X', st⟩ := X.cloneArray C0.hx C0.hown (C0.hts _ hl) (C0.hts _ tsmI) (C0.hts _ tnat_clone) (C0.hts _ hin) (C0.hts _ hse) (a := g_ad G i) (cell := vp_cell (g_cA G 0) (h_N y i, .inl (h_I y i))) (by rw [hT]; exact hcell) (fun k h => by cases h) (fun h => by cases h) hnm f2 f3
    (fun j v hv => by
      have hk' : T.vm.classes[(vp_cell (g_cA G 0) (h_N y i, .inl (h_I y i))).cls]? = some kA := hkA
      have hj : j < h_N y i := by
        have := (Array.getElem?_eq_some_iff.mp hv).1
        rwa [show (vp_cell (g_cA G 0) (h_N y i, .inl (h_I y i))).slots.size = h_N y i from arrV_size _ _ _] at this
      have hv' : v = .int (h_I y i j) := by
        have e := arrV_read (g_cA G 0) (fun j => Value.int (h_I y i j)) hj
        exact (Option.some.inj (e.symm.trans hv)).symm
      rw [hv']
      have e9 : fits .int (.int (h_I y i j)) = true := rfl
      simpa [State.fitsSlot, State.slotType?, hk', hkind] using e9)
    (g := F0 m pc ls (.ref (g_ad G i) :: rest)) rfl (hsz.trans C0.hml.symm) rfl (by rw [C0.hb]; exact hdg) (show 1 ≤ k from hlev) (by show 2 * 0 + _ + 14 ≤ 64 * k; omega) hr.1 (by rw [show (vp_cell (g_cA G 0) (h_N y i, .inl (h_I y i))).slots.size = h_N y i from arrV_size _ _ _]; exact hr.2.1) (hloader := Vm.clonesLoader_of_array hkS hkindS)
  rw [show (vp_cell (g_cA G 0) (h_N y i, .inl (h_I y i))).slots.size = h_N y i from arrV_size _ _ _] at X'
  generalize hH1 : H.push (vp_cell (g_cA G 0) (h_N y i, .inl (h_I y i))) = H1
  have z1 : H1.size = H.size + 1 := by rw [← hH1, Array.size_push]
  have e1 : H1[H.size]? = some (vp_cell (g_cA G 0) (h_N y i, .inl (h_I y i))) := by rw [← hH1, Array.getElem?_push_size]
  have o1 : ∀ q : Nat, q < H.size → H1[q]? = H[q]? := fun q hq => by rw [← hH1, Array.getElem?_push, if_neg (Nat.ne_of_lt hq)]
  obtain ⟨m1, m2, m3, m4⟩ := h_mk (kd1 := 60) (n := h_N y i) (sl := h_N y i) (f := h_I y i) (r := fun _ => 0) (e1 := .inl (g_cA G 0, h_N y i, .inl (h_I y i))) hW hrm ((h_c60 (by simp [h_new, h_K])).trans (by simp [h_new, h_I, h_N])) z1 o1 e1
  have h9 := kk H1 m1
  rw [← m2, ← m3, m4] at h9
  obtain ⟨t, a1, b1⟩ := h9 ((T.setVm vm').pushCell (vp_cell (g_cA G 0) (h_N y i, .inl (h_I y i)))) (by rw [← hH1, ← hT]; rfl) X'
  refine ⟨t, st t ?_, b1⟩
  rw [← hT] at a1
  exact a1
theorem hca_60 (C0 : g_X G (List.range 120) p s m args meth c cc nL own rt) (hW : h_W G y0 (x, y, o) s.heap H locs) (hk : h_K y i = 60) (hl : Cond.classLink own idx "[I" ∈ gT) (hdg : decode cc pc = .ok (.checkcast idx, 3)) (kk : W p l e R s m args below meth c H locs cells slots Q (F0 m (pc + 3) ls (g_rf G i :: rest))) : W p l e R s m args below meth c H locs cells slots Q (F0 m pc ls (g_rf G i :: rest)) := by
  obtain ⟨q0, hq0⟩ := List.getElem?_of_mem (hW.mem (h_ne hk (by decide)))
  rw [hW.rf (h_ne hk (by decide))] at kk ⊢
  exact va_castA C0.hx C0.hb C0.hown (C0.hts _ hl) hW.1.1 q0 (g_wl_at hq0 (hW.ce (h_ne hk (by decide)) (h_c60 hk))) (va_nm_int (C0.hK.2 0 _ rfl).2) hdg kk
theorem hcl_61 (C0 : g_X G (List.range 120) p s m args meth c cc nL own rt) (hW : h_W G y0 (x, y, o) s.heap H locs) (hk : h_K y i = 61) (hrm : h_rm y (h_N y i) = true) (hfb : h_fb (h_I y i) (h_N y i) = true) (hlev : 1 ≤ k) (hcat : (rest.map fun v => v.category).sum ≤ 8) (hsz : ls.size = nL) (hl : Cond.methodLink own idx ⟨"[B", "clone", "()Ljava/lang/Object;"⟩ ∈ gT) (hin : Cond.instanceMethod ⟨"java/lang/Object", "clone", "()Ljava/lang/Object;"⟩ ∈ gT) (hse : Cond.selects "[B" ⟨"[B", "clone", "()Ljava/lang/Object;"⟩ ⟨"java/lang/Object", "clone", "()Ljava/lang/Object;"⟩ ∈ gT) (hdg : decode cc pc = .ok (.invokevirtual idx, 3)) (kk : ∀ (H1 : Heap), h_W G y0 (x, (h_new y 61 (h_I y i) (fun _ => 0) (h_N y i) (h_N y i)), o) s.heap H1 locs → W p l e (h_lv k y0) s m args below meth c H1 locs (h_nx (h_new y 61 (h_I y i) (fun _ => 0) (h_N y i) (h_N y i)) - h_nx y0) (h_sl (h_new y 61 (h_I y i) (fun _ => 0) (h_N y i) (h_N y i)) - h_sl y0) Q (F0 m (pc + 3) ls (g_rf G (h_nx y) :: rest))) : W p l e (h_lv k y0) s m args below meth c H locs (h_nx y - h_nx y0) (h_sl y - h_sl y0) Q (F0 m pc ls (g_rf G i :: rest)) := by
  have hr := h_room (k := k) hW hrm
  obtain ⟨q0, hq0⟩ := List.getElem?_of_mem (hW.mem (h_ne hk (by decide)))
  have ha := g_wl_at hq0 (hW.ce (h_ne hk (by decide)) (h_c61 hk))
  rw [hW.rf (h_ne hk (by decide))]
  have hcell : H[g_ad G i]? = some (vp_cell (g_cA G 6) (h_N y i, .inl (h_I y i))) := hW.1.1 q0 _ ha
  have hnm : s.vm.findClass "[B" = some (g_cA G 6) := va_nm_byte (C0.hK.2 6 _ rfl).2
  obtain ⟨c0, t0', f1, f2, f3⟩ := Cond.castable_spec (va_Nw.use (A := args) rfl (C0.nest tcaB))
  cases hnm.symm.trans f1
  intro T hT X
  obtain ⟨-, kA, hkA, comp, hkind⟩ := State.isArrayOf_alike X.warmed.alike ((C0.hK.2 6 _ rfl).1 0 (fun _ => .null))
  obtain ⟨-, kS, hkS, compS, hkindS⟩ := (C0.hK.2 6 _ rfl).1 0 (fun _ => .null)
  obtain ⟨vm', X', st⟩ := X.cloneArray C0.hx C0.hown (C0.hts _ hl) (C0.hts _ tsmB) (C0.hts _ tnat_clone) (C0.hts _ hin) (C0.hts _ hse) (a := g_ad G i) (cell := vp_cell (g_cA G 6) (h_N y i, .inl (h_I y i))) (by rw [hT]; exact hcell) (fun k h => by cases h) (fun h => by cases h) hnm f2 f3
    (fun j v hv => by
      have hk' : T.vm.classes[(vp_cell (g_cA G 6) (h_N y i, .inl (h_I y i))).cls]? = some kA := hkA
      have hj : j < h_N y i := by
        have := (Array.getElem?_eq_some_iff.mp hv).1
        rwa [show (vp_cell (g_cA G 6) (h_N y i, .inl (h_I y i))).slots.size = h_N y i from arrV_size _ _ _] at this
      have hv' : v = .int (h_I y i j) := by
        have e := arrV_read (g_cA G 6) (fun j => Value.int (h_I y i j)) hj
        exact (Option.some.inj (e.symm.trans hv)).symm
      rw [hv']
      have e9 : fits .byte (.int (h_I y i j)) = true := h_fbv hfb j hj
      simpa [State.fitsSlot, State.slotType?, hk', hkind] using e9)
    (g := F0 m pc ls (.ref (g_ad G i) :: rest)) rfl (hsz.trans C0.hml.symm) rfl (by rw [C0.hb]; exact hdg) (show 1 ≤ k from hlev) (by show 2 * 0 + _ + 14 ≤ 64 * k; omega) hr.1 (by rw [show (vp_cell (g_cA G 6) (h_N y i, .inl (h_I y i))).slots.size = h_N y i from arrV_size _ _ _]; exact hr.2.1) (hloader := Vm.clonesLoader_of_array hkS hkindS)
  rw [show (vp_cell (g_cA G 6) (h_N y i, .inl (h_I y i))).slots.size = h_N y i from arrV_size _ _ _] at X'
  generalize hH1 : H.push (vp_cell (g_cA G 6) (h_N y i, .inl (h_I y i))) = H1
  have z1 : H1.size = H.size + 1 := by rw [← hH1, Array.size_push]
  have e1 : H1[H.size]? = some (vp_cell (g_cA G 6) (h_N y i, .inl (h_I y i))) := by rw [← hH1, Array.getElem?_push_size]
  have o1 : ∀ q : Nat, q < H.size → H1[q]? = H[q]? := fun q hq => by rw [← hH1, Array.getElem?_push, if_neg (Nat.ne_of_lt hq)]
  obtain ⟨m1, m2, m3, m4⟩ := h_mk (kd1 := 61) (n := h_N y i) (sl := h_N y i) (f := h_I y i) (r := fun _ => 0) (e1 := .inl (g_cA G 6, h_N y i, .inl (h_I y i))) hW hrm ((h_c61 (by simp [h_new, h_K])).trans (by simp [h_new, h_I, h_N])) z1 o1 e1
  have h9 := kk H1 m1
  rw [← m2, ← m3, m4] at h9
  obtain ⟨t, a1, b1⟩ := h9 ((T.setVm vm').pushCell (vp_cell (g_cA G 6) (h_N y i, .inl (h_I y i)))) (by rw [← hH1, ← hT]; rfl) X'
  refine ⟨t, st t ?_, b1⟩
  rw [← hT] at a1
  exact a1
theorem hca_61 (C0 : g_X G (List.range 120) p s m args meth c cc nL own rt) (hW : h_W G y0 (x, y, o) s.heap H locs) (hk : h_K y i = 61) (hl : Cond.classLink own idx "[B" ∈ gT) (hdg : decode cc pc = .ok (.checkcast idx, 3)) (kk : W p l e R s m args below meth c H locs cells slots Q (F0 m (pc + 3) ls (g_rf G i :: rest))) : W p l e R s m args below meth c H locs cells slots Q (F0 m pc ls (g_rf G i :: rest)) := by
  obtain ⟨q0, hq0⟩ := List.getElem?_of_mem (hW.mem (h_ne hk (by decide)))
  rw [hW.rf (h_ne hk (by decide))] at kk ⊢
  exact va_castA C0.hx C0.hb C0.hown (C0.hts _ hl) hW.1.1 q0 (g_wl_at hq0 (hW.ce (h_ne hk (by decide)) (h_c61 hk))) (va_nm_byte (C0.hK.2 6 _ rfl).2) hdg kk
end HF
