/-! A METHOD THAT MAKES CELLS FOR A WHILE: the world with more cells, and back -/
theorem g_Dl {A : Nat → Prop} {a b : va_W} (h : va_D A (a ++ b)) : va_D A a := by
  have h1 := g_Dn.mp h
  rw [List.map_append] at h1
  exact g_Dn.mpr ⟨(List.pairwise_append.mp h1.1).1, fun q hq => h1.2 q (List.mem_append_left _ hq)⟩
theorem g_adE {G : GL} {f : Nat → Nat} {ids : List Nat} (hf : ∀ i, i < 120 → f i = g_ad G i) (hids : ∀ i ∈ ids, i < 120 ∨ 200 ≤ i) : ids.map (g_ad (g_re G f)) = ids.map (g_ad G) := List.map_congr_left (fun i hi => by
  rcases hids i hi with h | h
  · exact (g_adre (by omega)).trans (hf i h)
  · exact g_adhi h)
theorem g_shB {G G2 : GL} {f : Nat → Nat} {ids ids2 ks : List Nat} {S : SS} {t : State} (hG : G2 = g_re G f) (hf : ∀ i, i < 120 → f i = g_ad G i) (hids : ∀ i ∈ ids, i < 120 ∨ 200 ≤ i) (hi : ids2 = ids ++ ks) (hx : g_okR S.1) (h : g_B G2 ids2 S t) : g_B G ids S t := by
  subst hG
  subst hi
  obtain ⟨h1, h2⟩ := h
  refine ⟨g_toP (fun i hi => ?_), ?_⟩
  · have h3 := g_ofP (G := g_re G f) h1 (List.mem_append_left ks hi)
    exact g_reat (G := g_re G f) (f := G.2.2.1) (fun j hj => by
      rw [g_adre (by omega), hf j hj]
      exact (if_pos (show j < 200 by omega)).symm) hx (hids i hi) h3
  · have e : g_wl (g_re G f) (ids ++ ks) S = g_wl (g_re G f) ids S ++ g_wl (g_re G f) ks S := by simp [g_wl]
    rw [e] at h2
    have h3 := g_Dn.mp (g_Dl h2)
    rw [g_wl_fst] at h3
    refine g_Dn.mpr ?_
    rw [g_wl_fst]
    rw [g_adE hf hids] at h3
    exact h3
theorem g_ext {G : GL} {f : Nat → Nat} {ids ks : List Nat} {S S1 : SS} {w1 : va_W} {H0 H : Heap} {locs : List Loc} (hids : ∀ i ∈ ids, i < 120 ∨ 200 ≤ i) (hf : ∀ i, i < 120 → f i = g_ad G i) (hx : g_okR S1.1) (hS1 : ∀ i, i < 120 ∨ 200 ≤ i → g_c G S1 i = g_c G S i) (hw : w1 = g_wl (g_re G f) ks S1) (hP : va_P (g_D G) vwCl (g_wl G ids S ++ w1) H) (hD : va_D (g_A G) (g_wl G ids S ++ w1)) (hS : va_S (g_A G) H0 H locs) : g_W (g_re G f) (ids ++ ks) S1 H0 H locs := by
  subst hw
  have e1 : g_wl (g_re G f) (ids ++ ks) S1 = g_wl (g_re G f) ids S1 ++ g_wl (g_re G f) ks S1 := by simp [g_wl]
  have e2 : (g_wl (g_re G f) ids S1).map Prod.fst = (g_wl G ids S).map Prod.fst := by
    rw [g_wl_fst, g_wl_fst]
    exact g_adE hf hids
  refine ⟨?_, ?_, hS⟩
  · rw [e1]
    refine va_P.app (g_toP (fun i hi => ?_)) (g_Pr hP)
    have h1 := g_ofP (g_Pl hP) hi
    rw [← hS1 i (hids i hi)] at h1
    exact g_reat (G := G) (f := f) hf hx (hids i hi) h1
  · rw [e1]
    have h1 := g_Dn.mp hD
    rw [List.map_append, ← e2, ← List.map_append] at h1
    exact g_Dn.mpr h1
def g_pz (x : CS) (b v : Nat) : CS := (fun j => if j = 162 then (fun k => if k = 4 then -1 else if k = 9 then -1 else 0) else if j = 163 then (fun _ => 0) else x.1 j, fun j => if j = 162 then (fun k => if k = 1 then b else if k = 2 then v else if k = 5 then 45 else 0) else x.2 j)
def g_Qt (G : GL) (ids : List Nat) (r : Int32) (S : SS) : Array Value → State → Outcome → State → Prop := fun a st oc t => g_Qi G ids r S a st oc t ∧ st.heap.size + 2 ≤ t.heap.size
section GT
variable {p : Program} {l : Launch} {e : Env} {R : Room} {s : State} {m : MethodId} {args : Array Value} {below : List Frame} {meth : Method} {c : Code} {H : Heap} {locs : List Loc} {cells slots mc ms : Nat} {Q : State → Prop} {G G2 : GL} {f : Nat → Nat} {ids ids2 ks : List Nat} {S : SS} {x : CS} {y : MS} {o : Nat → Int32} {cc : ByteArray} {nL pc : Nat} {own : String} {rt : Option FieldType} {ls : Array Slot} {rest : List Value}
theorem g_consW {Q' : State → Prop} {g : JFrame} (h : ∀ t, Q t → Q' t) (k : W p l e R s m args below meth c H locs cells slots Q g) : W p l e R s m args below meth c H locs cells slots Q' g := fun T hT X => by
  obtain ⟨t, a, b⟩ := k T hT X
  exact ⟨t, a, h t b⟩
theorem g_shMI {r : Int32} {g : JFrame} (hG : G2 = g_re G f) (hf : ∀ i, i < 120 → f i = g_ad G i) (hids : ∀ i ∈ ids, i < 120 ∨ 200 ≤ i) (hi : ids2 = ids ++ ks) (hx : g_okR S.1) (h163 : 163 ∈ ids2) (hz : s.heap.size + 1 ≤ f 163) (k : W p l e R s m args below meth c H locs cells slots (MQ below (g_Qi G2 ids2 r S) args s mc ms (g_A G2)) g) : W p l e R s m args below meth c H locs cells slots (MQ below (g_Qt G ids r S) args s mc ms (g_A G)) g := by
  refine g_consW (fun t h => ?_) k
  obtain ⟨oc, h1, h2, ⟨⟨r1, u, h3, h4, h5⟩, h6⟩, h7⟩ := h
  have h9 := g_shB hG hf hids hi hx h5
  have h10 : g_ad G2 163 < t.heap.size := va_at.lt (g_ofP h5.1 h163)
  subst hG
  refine ⟨oc, h1, h2, ⟨⟨⟨r1, u, h3, h4, h9⟩, h6⟩, ?_⟩, h7⟩
  change f 163 < t.heap.size at h10
  omega
theorem g_newE (C0 : g_X G ids p s m args meth c cc nL own rt) {idx ci N : Nat} {C : String} {T : u_T} {ty : Nat → FieldType} {fs : List Value} {ws : va_W} (hin : ∀ w ∈ u_ws C T N, w ∈ gT) (hty : ∀ k, k < N → parseFieldDescriptor (T k).2.2.1 = some (ty k)) (hl : Cond.classLink own idx C ∈ gT) (hins : Cond.instantiable C N ∈ gT) (hini : Cond.initialized C ∈ gT) (hcl : vwCl[ci]? = some (C, T, N)) (hfs : ∀ j, j < N → defaultValue (ty j) = vp_V fs j) (hP : va_P (g_D G) vwCl ws H) (hD : va_D (g_A G) ws) (hS : va_S (g_A G) s.heap H locs) (hcells : cells + 1 ≤ R.cells) (hslots : slots + N ≤ R.slots) (hdg : decode cc pc = .ok (.new idx, 3)) (kk : ∀ (H1 : Heap), va_P (g_D G) vwCl (ws ++ [(H.size, .inr (ci, fs))]) H1 → va_D (g_A G) (ws ++ [(H.size, .inr (ci, fs))]) → va_S (g_A G) s.heap H1 locs → H1.size = H.size + 1 → W p l e R s m args below meth c H1 locs (cells + 1) (slots + N) Q (F0 m (pc + 3) ls (.ref H.size :: rest))) : W p l e R s m args below meth c H locs cells slots Q (F0 m pc ls rest) := by
  have hKn := C0.hK.1 ci _ hcl
  refine W.newcK C0.hx C0.hb C0.hown (C0.hts _ hl) (C0.hts _ hins) (C0.hts _ hini) rfl hdg hcells hslots hKn.2.1 rfl fun H1 kC hkC e1 z1 o1 => ?_
  have hk : ∀ (k : Nat) (x : Nat × va_E), ws[k]? = some x → H1[x.1]? = H[x.1]? := fun k x hx => o1 x.1 (va_at.lt (hP k x hx))
  refine kk H1 ((hP.kept hk).app (fun k x hx => ?_)) (hD.push hP rfl (Nat.le_trans C0.hG.2.1 hS.1)) ⟨Nat.le_trans hS.1 (by omega), fun x h1 h2 => (o1 x (Nat.lt_of_lt_of_le h1 hS.1)).trans (hS.2.1 x h1 h2), hS.2.2⟩ z1
  have hz : k < 1 := (List.getElem?_eq_some_iff.mp hx).1
  rw [show k = 0 by omega] at hx
  cases hx
  exact ⟨_, hcl, (u_born ty C0.hts hin hKn hkC e1 hty).to hfs⟩
theorem g_Xre (C0 : g_X G ids p s m args meth c cc nL own rt) (hi : ids2 = ids ++ ks) : g_X (g_re G f) ids2 p s m args meth c cc nL own rt := ⟨C0.hx, C0.hb, C0.hml, C0.hown, C0.hts, C0.hlk, C0.hr, fun i h => by rw [hi]; exact List.mem_append_left _ (C0.mem h), C0.hG⟩
end GT
def g_okRb (x : CS) : Bool := decide (x.2 0 6 < 120) && decide (x.2 0 7 < 120) && decide (x.2 0 8 < 120) && decide (x.2 0 9 < 120)
theorem g_okRb_of {x : CS} (h : g_okRb x = true) : g_okR x := by
  simp only [g_okRb, Bool.and_eq_true, decide_eq_true_eq] at h
  exact ⟨h.1.1.1, h.1.1.2, h.1.2, h.2⟩
theorem g_X120 {p : Program} {s : State} {m : MethodId} {args : Array Value} {meth : Method} {c : Code} {G : GL} {ids : List Nat} {cc : ByteArray} {nL : Nat} {own : String} {rt : Option FieldType} (C0 : g_X G ids p s m args meth c cc nL own rt) : g_X G (List.range 120) p s m args meth c cc nL own rt := ⟨C0.hx, C0.hb, C0.hml, C0.hown, C0.hts, C0.hlk, C0.hr, fun i h => List.mem_range.mpr h, C0.hG⟩
def f_X12_teach (x : CS) : Option (Int32 × CS) :=
  (f_X8_readTape x).bind fun q1 => if g_okRb q1 = true then ((f_X2_readLanguage (g_pz q1 (q1.2 0 8) (q1.2 0 9))).bind fun q2 => if ((g_wi (g_wi q2 1 1 (0 : Int32)) 0 10 ((g_wi q2 1 1 (0 : Int32)).1 162 9)).1 162 8) = 0 then ((f_X12_beginAnew (g_wi (g_wi q2 1 1 (0 : Int32)) 0 10 ((g_wi q2 1 1 (0 : Int32)).1 162 9))).bind fun q4 => some ((q4.1 162 8, q4))) else (some (((g_wi (g_wi q2 1 1 (0 : Int32)) 0 10 ((g_wi q2 1 1 (0 : Int32)).1 162 9)).1 162 8, g_wi (g_wi q2 1 1 (0 : Int32)) 0 10 ((g_wi q2 1 1 (0 : Int32)).1 162 9))))) else none
set_option maxRecDepth 100000 in
set_option maxHeartbeats 4000000 in
theorem c_X12_teach {l : Launch} {G : GL} {ids : List Nat} {y : MS} {o : Nat → Int32} {x : CS}  {q : Int32 × CS}  (hids : ∀ i ∈ ids, i < 120 ∨ 200 ≤ i) (hx : g_okR x) (hx2 : g_okR q.2)  (h : f_X12_teach x = some q) : Met l yX12_teach (.code yX12_teach cX12_teach 2 (Option.some Jvm.ClassFile.FieldType.int) :: gT) (g_rm 119 2 18) (va_Pc [.ref (g_ad G (0))] (g_P G ids (x, y, o))) (g_Qt G ids q.1 (q.2, y, o)) 2 18 (g_A G) := by
  unfold f_X12_teach at h
  refine g_entry (by decide) (Nat.le_of_ble_eq_true rfl) (fun p e s m args below meth c ls C0 hl hW _ => ?_)
  have hl : lv_has ls 2 [(0, .ref (g_ad G (0)))] := hl
  refine lv_aload_n C0.hx C0.hb dX12_teach_0 rfl (lv_at hl 0 rfl) ?_
  refine gf_X12_1 C0 hW (C0.mem (i := 0) (Nat.le_of_ble_eq_true rfl)) k_0 tf_X12_21 dX12_teach_1 ?_
  obtain ⟨q1, hq1, h⟩ := Option.bind_eq_some_iff.mp h
  refine g_callv hW (g_runV (As := []) (rest := []) C0 hW (c_X8_readTape hq1) (g_cwG (n := 0) tc_X8_readTape tn_X8 md_X8_readTape (by decide) (by omega) (by decide) (by decide)) tm_X12_94 ti_X8_readTape ts_X8_readTape (C0.mem (i := 3) (Nat.le_of_ble_eq_true rfl)) (g_c3 k_3) rfl rfl hl.1 rfl (Nat.le_of_ble_eq_true rfl) dX12_teach_4) (fun H locs hW => ?_)
  obtain ⟨hb_, h⟩ := g_if h
  have hx1_ := g_okRb_of hb_
  have hS0 := hW.2.2.1
  refine g_newE C0 (ci := 3) (fs := [.null, .null, .null, .null, .int 0, .null, .int 0, .int 0, .int 0, .int 0]) (C := RX2) (T := TX2) (N := 10) (ty := tyX2) tu_X2 tyX2_ok tl_X12_97 ta_X2 tn_X2 rfl (fun j hj => by rcases (show j = 0 ∨ j = 1 ∨ j = 2 ∨ j = 3 ∨ j = 4 ∨ j = 5 ∨ j = 6 ∨ j = 7 ∨ j = 8 ∨ j = 9 by omega) with rfl | rfl | rfl | rfl | rfl | rfl | rfl | rfl | rfl | rfl <;> rfl) hW.1 hW.2.1 hW.2.2 (Nat.le_of_ble_eq_true rfl) (Nat.le_of_ble_eq_true rfl) dX12_teach_7 (fun H9 hP hD hS hz9 => ?_)
  obtain ⟨za1, hza1⟩ : ∃ z : Nat, z = H.size := ⟨_, rfl⟩
  rw [← hza1] at hP hD hz9 ⊢
  rw [← hza1] at hS0
  have hW : g_W G ids (q1, y, o) s.heap H9 locs := ⟨g_Pl hP, g_Dl hD, hS⟩
  refine lv_dup C0.hx C0.hb dX12_teach_10 rfl ?_
  refine lv_aload_n C0.hx C0.hb dX12_teach_11 rfl (lv_at hl 0 rfl) ?_
  refine gf_X12_1 C0 hW (C0.mem (i := 0) (Nat.le_of_ble_eq_true rfl)) k_0 tf_X12_21 dX12_teach_12 ?_
  refine lv_aload_n C0.hx C0.hb dX12_teach_15 rfl (lv_at hl 0 rfl) ?_
  refine gf_X12_8 C0 hW (C0.mem (i := 0) (Nat.le_of_ble_eq_true rfl)) k_0 tf_X12_65 dX12_teach_16 ?_
  refine lv_aload_n C0.hx C0.hb dX12_teach_19 rfl (lv_at hl 0 rfl) ?_
  refine gf_X12_9 C0 hW (C0.mem (i := 0) (Nat.le_of_ble_eq_true rfl)) k_0 tf_X12_68 dX12_teach_20 ?_
  refine g_ctorI (ws := g_wl G ids (q1, y, o)) (raw := .inr (3, [.null, .null, .null, .null, .int 0, .null, .int 0, .int 0, .int 0, .int 0])) (As := [.ref (g_ad G 3), .ref (g_ad G (q1.2 0 8)), .ref (g_ad G (q1.2 0 9))]) (rest := [.ref za1]) (g_X120 C0) hP hD hS (fun q h => Nat.le_trans C0.hG.2.1 h) (fun a h => h) (bo := false) (fun h => absurd h (by decide)) (c_X2_init (a1 := g_ad G 3) (a2 := g_ad G (q1.2 0 8)) (a3 := g_ad G (q1.2 0 9))) (g_cwG (n := 3) tc_X2_init tn_X2 md_X2_init (by decide) (by decide) (by decide) (by decide)) tm_X12_99 rfl ti_X2_init rfl hl.1 rfl (Nat.le_of_ble_eq_true rfl) dX12_teach_23 (fun w1 H locs hL hP hD hS hDA => ?_)
  obtain ⟨za2, rfl⟩ := hL
  have hz2 : za1 < za2 := by
    have a1 : za1 ≠ za2 := fun h => absurd (hDA.1 0 1 _ _ rfl rfl h) (by decide)
    rcases hDA.2 1 _ rfl with ⟨j, e1, hj⟩ | h9
    · cases j with
      | zero => cases hj; exact absurd rfl a1
      | succ j => cases hj
    · rw [hz9] at h9; exact h9
  obtain ⟨f, hfe⟩ : ∃ f, f = (fun i => if i = 162 then za1 else if i = 163 then za2 else g_ad G i) := ⟨_, rfl⟩
  have hf : ∀ i, i < 120 → f i = g_ad G i := fun i hi => by rw [hfe]; show (if i = 162 then za1 else if i = 163 then za2 else g_ad G i) = _; rw [if_neg (by omega), if_neg (by omega)]
  have e1 : f 162 = za1 := by rw [hfe]; rfl
  have e2 : f 163 = za2 := by rw [hfe]; rfl
  have hx1 : g_okR q1 := hx1_
  have hw : g_LParser G za1 (g_ad G 3) (g_ad G (q1.2 0 8)) (g_ad G (q1.2 0 9)) za2 = g_wl (g_re G f) [162, 163] (g_pz q1 (q1.2 0 8) (q1.2 0 9), y, o) := by (show _ = [(f 162, g_c (g_re G f) _ 162), (f 163, g_c (g_re G f) _ 163)]; rw [g_c11 k_162, g_c29 k_163, e1, e2]; show _ = ([(za1, .inr (3, [.ref (f 3), .ref (g_ad (g_re G f) (q1.2 0 8)), .ref (g_ad (g_re G f) (q1.2 0 9)), .ref (f 163), .int (-1), .ref (g_sg G 45), .int 0, .int 0, .int 0, .int (-1)])), (za2, .inl (g_cA G 0, 8, .inl (fun _ => 0)))] : va_W); rw [hf 3 (by decide), g_adre (i := (q1.2 0 8)) (by have := hx1.2.2.1; change (q1.2 0 8) < 120 at this; omega), g_adre (i := (q1.2 0 9)) (by have := hx1.2.2.2; change (q1.2 0 9) < 120 at this; omega), hf (q1.2 0 8) hx1.2.2.1, hf (q1.2 0 9) hx1.2.2.2, e2])
  have hS1 : ∀ i, i < 120 ∨ 200 ≤ i → g_c G (g_pz q1 (q1.2 0 8) (q1.2 0 9), y, o) i = g_c G (q1, y, o) i := fun i hi => g_cc (by simp only [g_pz]; rw [if_neg (by omega), if_neg (by omega)]) (by simp only [g_pz]; rw [if_neg (by omega)]) rfl rfl
  have hx3 : g_okR (g_pz q1 (q1.2 0 8) (q1.2 0 9)) := hx1
  have hW := g_ext hids hf hx3 hS1 hw hP hD hS
  obtain ⟨ids2, hi2⟩ : ∃ z, z = ids ++ [162, 163] := ⟨_, rfl⟩
  rw [← hi2] at hW
  have C0 := g_Xre (f := f) C0 hi2
  have hfa : ∀ i, i < 120 → g_ad (g_re G f) i = g_ad G i := fun i hi => (g_adre (by omega)).trans (hf i hi)
  obtain ⟨G2, hG2⟩ : ∃ z, z = g_re G f := ⟨_, rfl⟩
  rw [← e1]
  have e3 : f 162 = g_ad G2 162 := by rw [hG2]; rfl
  rw [e3]
  rw [← hG2] at hW C0 hfa
  have h162 : 162 ∈ ids2 := by rw [hi2]; simp
  have h163 : 163 ∈ ids2 := by rw [hi2]; simp
  have hl : lv_has ls 2 [(0, .ref (g_ad G2 (0)))] := by rw [hfa 0 (by decide)]; exact hl
  have hz3 : s.heap.size < f 163 := by rw [e2]; omega
  refine g_shMI hG2 hf hids hi2 hx2 h163 hz3 ?_
  refine lv_astore_n (lv' := [(1, .ref (g_ad G2 (162))), (0, .ref (g_ad G2 (0)))]) C0.hx C0.hb dX12_teach_26 rfl hl (by decide) rfl (fun ls hl => ?_)
  refine lv_aload_n C0.hx C0.hb dX12_teach_27 rfl (lv_at hl 0 rfl) ?_
  obtain ⟨q2, hq2, h⟩ := Option.bind_eq_some_iff.mp h
  refine g_callv hW (g_runV (As := []) (rest := []) C0 hW (c_X2_readLanguage h162 h163 hq2) (g_cwG (n := 0) tc_X2_readLanguage tn_X2 md_X2_readLanguage (by decide) (by omega) (by decide) (by decide)) tm_X12_102 ti_X2_readLanguage ts_X2_readLanguage h162 (g_c11 k_162) rfl rfl hl.1 rfl (Nat.le_of_ble_eq_true rfl) dX12_teach_28) (fun H locs hW => ?_)
  refine lv_aload_n C0.hx C0.hb dX12_teach_31 rfl (lv_at hl 1 rfl) ?_
  refine gf_X12_0 C0 hW (C0.mem (i := 0) (Nat.le_of_ble_eq_true rfl)) k_0 tf_X12_10 dX12_teach_32 ?_
  refine lv_iconst (v := (0 : Int32)) C0.hx C0.hb dX12_teach_35 (by decide) ?_
  refine gpN_X7_1 C0 hW (C0.mem (i := 1) (Nat.le_of_ble_eq_true rfl)) k_1 tfN_X12_75 dX12_teach_36 (fun H locs hW => ?_)
  refine lv_aload_n C0.hx C0.hb dX12_teach_39 rfl (lv_at hl 1 rfl) ?_
  refine lv_aload_n C0.hx C0.hb dX12_teach_40 rfl (lv_at hl 0 rfl) ?_
  refine gfN_X2_9 C0 hW h162 k_162 tfN_X12_105 dX12_teach_41 ?_
  refine gp_X12_10 C0 hW (C0.mem (i := 0) (Nat.le_of_ble_eq_true rfl)) k_0 tf_X12_71 dX12_teach_44 (fun H locs hW => ?_)
  refine lv_aload_n C0.hx C0.hb dX12_teach_47 rfl (lv_at hl 0 rfl) ?_
  refine gfN_X2_8 C0 hW h162 k_162 tfN_X12_108 dX12_teach_48 ?_
  refine lv_if_ne (tgt := 58) C0.hx C0.hb dX12_teach_51 (by decide) (fun hc3 => ?_) (fun hc3 => ?_)
  · replace h := (if_neg hc3).symm.trans h
    refine lv_aload_n C0.hx C0.hb dX12_teach_58 rfl (lv_at hl 0 rfl) ?_
    refine gfN_X2_8 C0 hW h162 k_162 tfN_X12_108 dX12_teach_59 ?_
    obtain rfl := Option.some.inj h
    exact g_iret C0 hW rfl rfl rfl dX12_teach_62
  · replace h := (if_pos hc3).symm.trans h
    refine lv_aload_n C0.hx C0.hb dX12_teach_54 rfl (lv_at hl 1 rfl) ?_
    obtain ⟨q4, hq4, h⟩ := Option.bind_eq_some_iff.mp h
    refine g_callv hW (g_runV (As := []) (rest := []) C0 hW (c_X12_beginAnew hq4) (g_cwG (n := 0) tc_X12_beginAnew tn_X12 md_X12_beginAnew (by decide) (by omega) (by decide) (by decide)) tm_X12_111 ti_X12_beginAnew ts_X12_beginAnew (C0.mem (i := 0) (Nat.le_of_ble_eq_true rfl)) (g_c1 k_0) rfl rfl hl.1 rfl (Nat.le_of_ble_eq_true rfl) dX12_teach_55) (fun H locs hW => ?_)
    refine lv_aload_n C0.hx C0.hb dX12_teach_58 rfl (lv_at hl 0 rfl) ?_
    refine gfN_X2_8 C0 hW h162 k_162 tfN_X12_108 dX12_teach_59 ?_
    obtain rfl := Option.some.inj h
    exact g_iret C0 hW rfl rfl rfl dX12_teach_62
