/-! THE CLAIM OUT OF ONE WALK OF THE LAW'S BODY. Your part is whole_start (and what it stands on); all else here is the same for every law, but numbers. -/
def R_law : String := "GlideWhistlesLaw"
def lw_P (b : Addr) (xs : List Int32) (args : Array Value) (s : State) : Prop := args = #[.ref b] ∧ s.IntsAt b xs ∧ xs.length ≤ 3072 ∧ (Jvm.Cond.and given_1 narrow_1).before args s = true
/-- what a walk over the start with the record d0 says of its end, said of the start itself -/
theorem lw_closed {s t : State} {o : Outcome} {d0 : Drawn} {L : List Loc} {k n : Nat} (hd0 : s.drawn.sameBut d0 lw_cs) (hv : ∃ v, o = .returned v) (hW : (s.setDrawn d0).WarmedH t.vm) (hs : (s.setDrawn d0).sameButNew ({ t with vm := s.vm } : State) L k n) : State.butDraws s t lw_cs (fun t1 => Framed s o t1 L k n) := by
  have h2 : t.drawn = d0 := congrArg State.drawn hs.1
  refine ⟨⟨hv, hW, State.sameButNew.setDrawn hs s.drawn⟩, ?_, by decide⟩
  rw [h2]
  exact hd0
def lw_Q (_ : Array Value) (s : State) (o : Outcome) (t : State) : Prop := o = .returned (some (.int 1)) ∧ State.butDraws s t lw_cs (fun t1 => Framed s o t1 [] 601024 7293034)
def lw_Z (below : List Frame) (a : Array Value) (s : State) : State → Prop := fun t => ∃ o, t.status = .running ∧ Ended t below o ∧ lw_Q a s o t
/-- the law's own end, with 1 on the stack, nothing written that was there before, its room as the claim has it; d0: the record of draws at this point (at the entry s.drawn: begin with 'refine W.base ?_' and 'have hd0 := Drawn.sameBut.refl s.drawn lw_cs') -/
theorem lw_ret {p : Program} {l : Launch} {e : Env} {s : State} {m : MethodId} {below : List Frame} {meth : Method} {c : Code} {b : Nat} {d0 : Drawn} (hd0 : s.drawn.sameBut d0 lw_cs) (hx : p.tables.exec = Jvm.exec) (hb : c.code = code) (hr : meth.sig.returnType = ret) (hlocks : meth.locks = false) {pc : Nat} {H : Heap} {ls : Array Slot} (hdg : decode code pc = .ok (.ireturn, 1)) : W p l e room_1 (s.setDrawn d0) m #[Value.ref b] below meth c H [] 601024 7293034 (lw_Z below #[Value.ref b] s) (F0 m pc ls [.int 1]) := by
  intro T hT X
  obtain ⟨fs, hret, hrun, hended, hW, hframe⟩ := X.leave (v := some (.int 1)) (hlocks := hlocks) (fun h => by rw [hr] at h; cases h)
  have hmeth' : T.vm.method? m = some meth := X.method'
  refine ⟨T.setFrames fs, ?_, .returned (some (.int 1)), hrun, hended, rfl, lw_closed hd0 ⟨_, rfl⟩ hW hframe⟩
  jvm_step X.here [X.here.top, hx, hb, hdg, hmeth', hr, ret, narrow_b1]
  (try refine ⟨rfl, ?_⟩); (try refine ⟨rfl, ?_⟩)
  first | (intro acts; rw [hret _ acts rfl rfl rfl]) | rw [hret _ _ rfl rfl rfl]
  exact Steps.refl _
/-- what holds at the law's entry: the machine, the code, the tables' words (any of lw_tbl by 'hts w (by decide +kernel)'), the script of L ints xs at the cell b, what the Statement gives of the start (any of its parts by flat_of_before) -/
def lw_At (p : Program) (s : State) (m : MethodId) (meth : Method) (c : Code) (b L : Nat) (xs : Nat → Int32) : Prop :=
  p.tables.exec = Jvm.exec ∧ c.code = code ∧ meth.sig.returnType = ret ∧ c.maxLocals = 9 ∧ s.vm.findClass R_law = some m.cls ∧ (∀ w ∈ lw_tbl, w.before #[Value.ref b] s = true) ∧ va_X b L xs s s.heap ∧ b < s.heap.size ∧ meth.locks = false ∧ (Jvm.Cond.and given_1 narrow_1).before #[Value.ref b] s = true
/-! the law's beginning: the two constructors, the row of one long -/
theorem gz_rotD {A : Nat → Prop} {ws : va_W} {x : Nat × va_E} (hD : va_D A (ws ++ [x])) : va_D A (x :: ws) := by
  have key : ∀ (k : Nat) (r : Nat × va_E), (x :: ws)[k]? = some r → ∃ k' : Nat, (ws ++ [x])[k']? = some r ∧ ((k = 0 ∧ k' = ws.length) ∨ (k = k' + 1 ∧ k' < ws.length)) := by
    intro k r hk
    cases k with
    | zero => exact ⟨ws.length, by cases hk; simp, Or.inl ⟨rfl, rfl⟩⟩
    | succ k =>
      have hk : ws[k]? = some r := hk
      have hlt := (List.getElem?_eq_some_iff.mp hk).1
      exact ⟨k, by rw [List.getElem?_append_left hlt]; exact hk, Or.inr ⟨rfl, hlt⟩⟩
  refine ⟨fun i j p q hp hq e => ?_, fun k q hk => ?_⟩
  · obtain ⟨i', hi', ei⟩ := key i p hp
    obtain ⟨j', hj', ej⟩ := key j q hq
    have h := hD.1 i' j' p q hi' hj' e
    omega
  · obtain ⟨k', hk', -⟩ := key k q hk
    exact hD.2 k' q hk'
theorem gz_rotP {D : va_G} {cl : List vw_C} {ws : va_W} {x : Nat × va_E} {H : Heap} (hP : va_P D cl (ws ++ [x]) H) : va_P D cl (x :: ws) H := by
  intro k r hk
  cases k with
  | zero => cases hk; exact hP ws.length _ (by simp)
  | succ k =>
    have hk : ws[k]? = some r := hk
    exact hP k r (by rw [List.getElem?_append_left (List.getElem?_eq_some_iff.mp hk).1]; exact hk)
theorem gz_161 {G : GL} {f : Nat → Nat} {S : SS} {q : Nat} {H0 H : Heap} {locs : List Loc} (hf : ∀ i, i < 161 → f i = g_ad G i) (hq : f 161 = q) (hx : g_okR S.1) (hP : va_P (g_D G) vwCl (g_wl G (List.range 161) S ++ [(q, g_c G S 161)]) H) (hD : va_D (g_A G) (g_wl G (List.range 161) S ++ [(q, g_c G S 161)])) (hS : va_S (g_A G) H0 H locs) : g_W (g_re G f) (List.range 162) S H0 H locs := by
  have e0 : List.range 162 = List.range 161 ++ [161] := by decide
  have ec : g_c (g_re G f) S 161 = g_c G S 161 := (g_c38 k_161).trans (g_c38 k_161).symm
  have e1 : g_wl (g_re G f) (List.range 162) S = g_wl (g_re G f) (List.range 161) S ++ [(q, g_c G S 161)] := by
    rw [e0]
    unfold g_wl
    rw [List.map_append, ← hq, ← ec]
    rfl
  have e2 : (List.range 161).map (g_ad (g_re G f)) = (List.range 161).map (g_ad G) := List.map_congr_left (fun i hi => hf i (List.mem_range.mp hi))
  refine ⟨?_, ?_, hS⟩
  · rw [e1]
    refine va_P.app (g_toP (fun i hi => ?_)) (g_Pr hP)
    exact g_reat (G := G) (f := f) (N := 161) (Or.inr (Or.inl rfl)) hf hx (List.mem_range.mp hi) (g_ofP (g_Pl hP) hi)
  · rw [e1]
    have h1 := g_Dn.mp hD
    rw [List.map_append, g_wl_fst] at h1
    refine g_Dn.mpr ?_
    rw [List.map_append, g_wl_fst, e2]
    exact h1
abbrev gz_rawM : va_E := .inr (13, [.int 0, .null, .int 0, .int 0, .null, .null, .null, .null, .int 0, .int 0, .int 0, .int 0, .int 0, .null, .null, .null, .null, .null, .null, .null])
abbrev gz_rawW : va_E := .inr (10, [.null, .null, .null, .null, .null, .null, .null, .null, .null, .null, .int 0])
def gz_o0 : Nat → Int32 := fun _ => 0
theorem gz_okx : g_okR g_x0 := by
  refine ⟨?_, ?_, ?_, ?_⟩ <;> decide
section GZL
variable {p : Program} {l : Launch} {e : Env} {s : State} {m : MethodId} {below : List Frame} {meth : Method} {c : Code} {Q : State → Prop} {G : GL} {b : Nat} {ls : Array Slot}
set_option maxRecDepth 100000 in
set_option maxHeartbeats 4000000 in
theorem gz_A (C1 : g_X G (List.range 161) p s m #[.ref b] meth c cL_law 9 RL ret) (hkb : g_K true s) (hl : lv_has ls 9 [(0, .ref b)]) (KK : ∀ (f : Nat → Nat) (H : Heap) (locs : List Loc) (ls : Array Slot), va_P (g_D G) vwCl (g_wl (g_re G f) (List.range 120) (g_x0, g_y0, gz_o0)) H → va_D (g_A G) (g_wl (g_re G f) (List.range 120) (g_x0, g_y0, gz_o0)) → va_S (g_A G) s.heap H locs → lv_has ls 9 [(0, .ref b), (1, .ref (f 0))] → W p l e room_1 s m #[.ref b] below meth c H locs 120 6525 Q (F0 m 8 ls [])) : W p l e room_1 s m #[.ref b] below meth c s.heap [] 0 0 Q (F0 m 0 ls []) := by
  have hA : ∀ q : Nat, s.heap.size ≤ q → g_A G q := fun q h => Nat.le_trans C1.hG.2.1 h
  have hS : va_S (g_A G) s.heap s.heap [] := va_S.rf
  have hP : va_P (g_D G) vwCl [] s.heap := fun k q h => absurd h (by simp)
  have hD : va_D (g_A G) [] := ⟨fun i j p q h => absurd h (by simp), fun k q h => absurd h (by simp)⟩
  refine va_new (ci := 10) (fs := [.null, .null, .null, .null, .null, .null, .null, .null, .null, .null, .int 0]) (C := RX12) (T := TX12) (N := 11) C1.hx C1.hb C1.hts tu_X12 tyX12 tyX12_ok C1.hown (C1.hts _ tl_L_8) (C1.hts _ ta_X12) (C1.hts _ tn_X12) C1.hK hP hD hS hA rfl (fun j hj => by rcases (show j = 0 ∨ j = 1 ∨ j = 2 ∨ j = 3 ∨ j = 4 ∨ j = 5 ∨ j = 6 ∨ j = 7 ∨ j = 8 ∨ j = 9 ∨ j = 10 by omega) with rfl | rfl | rfl | rfl | rfl | rfl | rfl | rfl | rfl | rfl | rfl <;> rfl) (Nat.le_of_ble_eq_true rfl) (Nat.le_of_ble_eq_true rfl) dL_law_0 (fun q H hP hD hS => ?_)
  have hP : va_P (g_D G) vwCl ([] ++ [(q, gz_rawW)]) H := hP
  have hD : va_D (g_A G) ([] ++ [(q, gz_rawW)]) := hD
  refine lv_dup C1.hx C1.hb dL_law_3 rfl ?_
  refine g_ctorI (ws := []) (raw := gz_rawW) (As := []) (rest := [.ref q]) C1 hP hD hS hA (fun _ h => h) hkb (c_X12_init rfl) ⟨tc_X12_init, tn_X12, rfl, rfl, md_X12_init, ⟨Nat.le_of_ble_eq_true rfl, Nat.le_of_ble_eq_true rfl⟩, Nat.le_of_ble_eq_true rfl, Nat.le_of_ble_eq_true rfl⟩ tm_L_96 rfl ti_X12_init rfl hl.1 rfl (Nat.le_of_ble_eq_true rfl) dL_law_4 (fun w H locs hw hP hD hS => ?_)
  obtain ⟨t, a1, k, b1, b2, b3, b4, wp, d1, d2, d3, d4, d5, hr, e1, tr, f1, cr, g1, fb, fv, fc, fw, rfl⟩ := hw
  have hP : va_P (g_D G) vwCl (g_LGW G q t a1 k b1 b2 b3 b4 wp d1 d2 d3 d4 d5 hr e1 tr f1 cr g1 fb fv fc fw) H := hP
  have hD : va_D (g_A G) (g_LGW G q t a1 k b1 b2 b3 b4 wp d1 d2 d3 d4 d5 hr e1 tr f1 cr g1 fb fv fc fw) := hD
  refine W.widen (k := 120) (n := 6525) (Nat.le_of_ble_eq_true rfl) (Nat.le_of_ble_eq_true rfl) ?_
  refine lv_astore_n (lv' := [(1, .ref q), (0, .ref b)]) C1.hx C1.hb dL_law_7 rfl hl (by decide) rfl (fun ls hl => ?_)
  have hG1 := g_GWat (y := g_y0) (o := gz_o0) hP
  have hG2 := g_GWfst (G := G) (h0 := q) (t := t) (a1 := a1) (k := k) (b1 := b1) (b2 := b2) (b3 := b3) (b4 := b4) (wp := wp) (d1 := d1) (d2 := d2) (d3 := d3) (d4 := d4) (d5 := d5) (hr := hr) (e1 := e1) (tr := tr) (f1 := f1) (cr := cr) (g1 := g1) (fb := fb) (fv := fv) (fc := fc) (fw := fw)
  have h0 : g_aGW q t a1 k b1 b2 b3 b4 wp d1 d2 d3 d4 d5 hr e1 tr f1 cr g1 fb fv fc fw 0 = q := rfl
  generalize g_aGW q t a1 k b1 b2 b3 b4 wp d1 d2 d3 d4 d5 hr e1 tr f1 cr g1 fb fv fc fw = f at hG1 hG2 h0
  refine KK f H locs ls ?_ ?_ hS ?_
  · exact g_toP (G := g_re G f) (fun i hi => hG1 i (List.mem_range.mp hi))
  · have h1 := g_Dn.mp hD
    rw [hG2] at h1
    refine g_Dn.mpr ?_
    rw [g_wl_fst]
    exact h1
  · rw [h0]
    exact lv_sub hl [1, 0] rfl
set_option maxRecDepth 100000 in
set_option maxHeartbeats 4000000 in
theorem gz_B {f : Nat → Nat} {H : Heap} {locs : List Loc} {y1 : MS} (hy : f_X13_begin 152 127 g_y0 = some y1) (C1 : g_X G (List.range 161) p s m #[.ref b] meth c cL_law 9 RL ret) (hP : va_P (g_D G) vwCl (g_wl (g_re G f) (List.range 120) (g_x0, g_y0, gz_o0)) H) (hD : va_D (g_A G) (g_wl (g_re G f) (List.range 120) (g_x0, g_y0, gz_o0))) (hS : va_S (g_A G) s.heap H locs) (hl : lv_has ls 9 [(0, .ref b), (1, .ref (f 0))]) (KK : ∀ (F : Nat → Nat) (H : Heap) (locs : List Loc) (ls : Array Slot), g_W (g_re G F) (List.range 161) (g_x0, y1, gz_o0) s.heap H locs → lv_has ls 9 [(0, .ref b), (1, .ref (F 0)), (2, .ref (F 120))] → W p l e room_1 s m #[.ref b] below meth c H locs 161 17599 Q (F0 m 16 ls [])) : W p l e room_1 s m #[.ref b] below meth c H locs 120 6525 Q (F0 m 8 ls []) := by
  have hA : ∀ q : Nat, s.heap.size ≤ q → g_A G q := fun q h => Nat.le_trans C1.hG.2.1 h
  obtain ⟨Lc, hLc⟩ : ∃ z, z = g_wl (g_re G f) (List.range 120) (g_x0, g_y0, gz_o0) := ⟨_, rfl⟩
  rw [← hLc] at hP hD
  refine va_new (ci := 13) (fs := [.int 0, .null, .int 0, .int 0, .null, .null, .null, .null, .int 0, .int 0, .int 0, .int 0, .int 0, .null, .null, .null, .null, .null, .null, .null]) (C := RX15) (T := TX15) (N := 20) C1.hx C1.hb C1.hts tu_X15 tyX15 tyX15_ok C1.hown (C1.hts _ tl_L_97) (C1.hts _ ta_X15) (C1.hts _ tn_X15) C1.hK hP hD hS hA rfl (fun j hj => by rcases (show j = 0 ∨ j = 1 ∨ j = 2 ∨ j = 3 ∨ j = 4 ∨ j = 5 ∨ j = 6 ∨ j = 7 ∨ j = 8 ∨ j = 9 ∨ j = 10 ∨ j = 11 ∨ j = 12 ∨ j = 13 ∨ j = 14 ∨ j = 15 ∨ j = 16 ∨ j = 17 ∨ j = 18 ∨ j = 19 by omega) with rfl | rfl | rfl | rfl | rfl | rfl | rfl | rfl | rfl | rfl | rfl | rfl | rfl | rfl | rfl | rfl | rfl | rfl | rfl | rfl <;> rfl) (Nat.le_of_ble_eq_true rfl) (Nat.le_of_ble_eq_true rfl) dL_law_8 (fun q H hP hD hS => ?_)
  have hP : va_P (g_D G) vwCl ((q, gz_rawM) :: Lc) H := gz_rotP hP
  have hD : va_D (g_A G) ((q, gz_rawM) :: Lc) := gz_rotD hD
  refine lv_dup C1.hx C1.hb dL_law_11 rfl ?_
  refine va_callv (va_runI (As := []) (rest := [.ref q]) C1.call (c_X15_init (G := G) (f := f) (h0 := q) (o := gz_o0) hy) ⟨callB_of 0 C1.hts (g_good1 tc_X15_init) rfl rfl rfl (C1.hts _ tn_X15) (C1.hts _ tm_L_99) md_X15_init ⟨Nat.le_of_ble_eq_true rfl, Nat.le_of_ble_eq_true rfl⟩, rfl, C1.hts _ ti_X15_init⟩ ⟨g_blindM, fun U hU hw => ⟨rfl, by rw [hU, ← hLc]; exact hP, by rw [← hLc]; exact hD, by subst hU; exact g_G_to C1.hG hw hS.1 hS.2.1⟩⟩ rfl rfl hl.1 rfl (lv_room (Nat.le_of_ble_eq_true rfl)) dL_law_12 ⟨Nat.le_of_ble_eq_true rfl, Nat.le_of_ble_eq_true rfl⟩) hS (fun a _ h => h) (fun a h => h) (fun F t H1 locs1 ht hvm hw hB hz hk hS => ?_)
  subst ht
  refine W.widen (k := 161) (n := 17599) (Nat.le_of_ble_eq_true rfl) (Nat.le_of_ble_eq_true rfl) ?_
  refine lv_astore_n (lv' := [(2, .ref q), (0, .ref b), (1, .ref (f 0))]) C1.hx C1.hb dL_law_15 rfl hl (by decide) rfl (fun ls hl => ?_)
  refine KK F _ _ ls ⟨hB.1, hB.2, hS⟩ ?_
  rw [hw.2, hw.1 0 (by decide)]
  exact lv_sub hl [1, 2, 0] rfl
set_option maxRecDepth 100000 in
set_option maxHeartbeats 4000000 in
theorem gz_C {F : Nat → Nat} {H : Heap} {locs : List Loc} {y1 : MS} (C1 : g_X G (List.range 161) p s m #[.ref b] meth c cL_law 9 RL ret) (hW : g_W (g_re G F) (List.range 161) (g_x0, y1, gz_o0) s.heap H locs) (hl : lv_has ls 9 [(0, .ref b), (1, .ref (F 0)), (2, .ref (F 120))]) (KK : ∀ (f : Nat → Nat) (H : Heap) (locs : List Loc) (ls : Array Slot), g_W (g_re G f) (List.range 162) (g_x0, y1, gz_o0) s.heap H locs → lv_has ls 9 (g_LV (g_re G f) b (nI (6 * 0))) → W p l e room_1 s m #[.ref b] below meth c H locs 162 17600 Q (F0 m 23 ls [])) : W p l e room_1 s m #[.ref b] below meth c H locs 161 17599 Q (F0 m 16 ls []) := by
  have hA : ∀ q : Nat, s.heap.size ≤ q → g_A G q := fun q h => Nat.le_trans C1.hG.2.1 h
  have C2 : g_X (g_re G F) (List.range 161) p s m #[.ref b] meth c cL_law 9 RL ret := ⟨C1.hx, C1.hb, C1.hml, C1.hown, C1.hts, C1.hlk, C1.hr, fun i h => List.mem_range.mpr h, C1.hG⟩
  refine lv_iconst (v := (1 : Int32)) C2.hx C2.hb dL_law_16 (by decide) ?_
  refine va_newa C2.hx C2.hb (atype := .long) (C2.hts _ tr_long) rfl C2.hK hW.1 hW.2.1 hW.2.2 hA (N' := 1) (a0 := (1, .inr (.inl (fun _ => 0)))) (fun _ => rfl) (by decide) (by decide) (by decide) (Nat.le_of_ble_eq_true rfl) (Nat.le_of_ble_eq_true rfl) dL_law_17 (fun q cA H hK1 hP hD hS => ?_)
  obtain rfl := g_cAeq C2 (t := 2) (ty := .long) rfl hK1
  have ez : (fun k => (gz_o0 k).toInt64) = (fun _ : Nat => (0 : Int64)) := funext (fun _ => by show (0 : Int32).toInt64 = 0; decide)
  have ec : g_c (g_re G F) (g_x0, y1, gz_o0) 161 = .inl (g_cA (g_re G F) 2, 1, .inr (.inl (fun _ => 0))) := (g_c38 k_161).trans (congrArg (fun z : Nat → Int64 => (Sum.inl (g_cA (g_re G F) 2, 1, .inr (.inl z)) : va_E)) ez)
  rw [← ec] at hP hD
  refine lv_astore_n (lv' := [(3, .ref q), (0, .ref b), (1, .ref (F 0)), (2, .ref (F 120))]) C2.hx C2.hb dL_law_19 rfl hl (by decide) rfl (fun ls hl => ?_)
  refine lv_iconst (v := (0 : Int32)) C2.hx C2.hb dL_law_20 (by decide) ?_
  refine lv_istore (lv' := [(4, .int 0), (3, .ref q), (0, .ref b), (1, .ref (F 0)), (2, .ref (F 120))]) C2.hx C2.hb dL_law_21 hl (by decide) rfl (fun ls hl => ?_)
  obtain ⟨f, hf, hq⟩ : ∃ f : Nat → Nat, (∀ i, i < 161 → f i = F i) ∧ f 161 = q := ⟨fun i => if i = 161 then q else F i, fun i hi => if_neg (by omega), if_pos rfl⟩
  have hW := gz_161 (G := g_re G F) (f := f) hf hq gz_okx hP hD hS
  refine KK f H locs ls hW ?_
  have e0 := hf 0 (by decide)
  have e1 := hf 120 (by decide)
  have el : g_LV (g_re G f) b (nI (6 * 0)) = [(0, .ref b), (1, .ref (F 0)), (2, .ref (F 120)), (3, .ref q), (4, .int 0)] := by
    show [(0, Value.ref b), (1, .ref (f 0)), (2, .ref (f 120)), (3, .ref (f 161)), (4, .int (nI (6 * 0)))] = _
    have ez : nI (6 * 0) = 0 := rfl
    rw [e0, e1, hq, ez]
  rw [el]
  exact lv_sub hl [2, 3, 4, 1, 0] rfl
end GZL
theorem gz_fl0 {l : Launch} (hflags : l.flags = flags0) : l.stackTraces = false := by
  unfold Launch.stackTraces
  rw [hflags]
  decide +kernel
/-- from the entry, for every script of at most 3072 ints, the law comes to its end with true -/
theorem whole_start {p : Program} {e : Env} {s : State} {m : MethodId} {below : List Frame} {meth : Method} {c : Code} (l : Launch) (hflags : l.flags = flags0) {b L : Nat} {xs : Nat → Int32} (hL : L ≤ 3072) (C0 : lw_At p s m meth c b L xs) : W p l e room_1 s m #[Value.ref b] below meth c s.heap [] 0 0 (lw_Z below #[Value.ref b] s) (entryFrame m ([Value.ref b] : List Value).toArray 9) := by
  obtain ⟨hx, hb, hr, hml, hown, hts, hX, hbl, hlocks, hgv⟩ := id C0
  obtain ⟨G, hbG, hG, hkb, hnc⟩ := gz_G hgv hts
  obtain ⟨y1, hy, hR⟩ := pp_R1
  have hfl : l.stackTraces = false := gz_fl0 hflags
  have C1 : g_X G (List.range 161) p s m #[Value.ref b] meth c cL_law 9 RL ret := ⟨hx, hb, hml, hown, gz_gT hts, hlocks, hr, fun i h => List.mem_range.mpr h, hG⟩
  have hl := lv_entry ([.ref b]) (n := 9) (Nat.le_of_ble_eq_true rfl)
  rw [lg_entry_eq]
  generalize (lg_sl ([.ref b]) ++ List.replicate (9 - (lg_sl ([.ref b])).length) Slot.unset).toArray = ls at hl ⊢
  have hl : lv_has ls 9 [(0, .ref b)] := hl
  refine gz_A C1 hkb hl (fun f H locs ls hP hD hS hl => ?_)
  refine gz_B hy C1 hP hD hS hl (fun F H locs ls hW hl => ?_)
  refine gz_C C1 hW hl (fun f H locs ls hW hl => ?_)
  have hbA : ¬ g_A (g_re G f) b := by
    show ¬ g_b G ≤ b
    rw [hbG]
    exact Nat.not_le.mpr hbl
  have C2 : g_X (g_re G f) (List.range 162) p s m #[Value.ref b] meth c cL_law 9 RL ret := ⟨hx, hb, hml, hown, gz_gT hts, hlocks, hr, fun i h => List.mem_range.mpr (by omega), hG⟩
  refine w_L_loop hfl hnc hX hbl hbA C2 hL (fun H' locs' ls' hS => ?_) 512 0 162 17600 g_x0 y1 gz_o0 H locs ls (by omega) (by omega) (by omega) (by omega) hR hW hl
  refine va_forget (fun q hq => ?_) ?_
  · have h := hS.2.2 q hq
    have h : g_b G ≤ q.base := h
    rw [hbG] at h
    exact h
  · exact W.base (lw_ret (d0 := s.drawn) (Drawn.sameBut.refl s.drawn lw_cs) hx hb hr hlocks dL_law_1920)
