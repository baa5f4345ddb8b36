/-! METHODS THAT MAKE CELLS FOR A WHILE: the world with more cells, and back -/
theorem g_cAeqI {p : Program} {s : State} {m : MethodId} {args : Array Value} {meth : Method} {c : Code} {G : GL} {ids : List Nat} {cc : ByteArray} {nL : Nat} {own : String} {rt : Option FieldType} (C0 : g_X G ids p s m args meth c cc nL own rt) {t : Nat} {ty : FieldType} {cA : ClassId} (ht : (g_tys G)[t]? = some (g_cA G t, ty)) (h : va_K (g_D G) vwCl (g_tys G ++ [(cA, ty)]) s) : cA = g_cA G t :=
  g_cAeq (p := p) (s := s) (m := m) (args := args) (meth := meth) (c := c) (G := G) (cc := cc) (nL := nL) (own := own) (rt := rt) ⟨C0.hx, C0.hb, C0.hml, C0.hown, C0.hts, C0.hlk, C0.hr, fun i h => List.mem_range.mpr h, C0.hG⟩ ht h
theorem g_Dl {A : Nat → Prop} {a b : va_W} (h : va_D A (a ++ b)) : va_D A a := by
  have h1 := g_Dn.mp h
  rw [List.map_append] at h1
  exact g_Dn.mpr ⟨(List.pairwise_append.mp h1.1).1, fun q hq => h1.2 q (List.mem_append_left _ hq)⟩
theorem g_shB {G G2 : GL} {f : Nat → Nat} {ids ids2 ks : List Nat} {S : SS} {t : State} (hG : G2 = g_re G f) (hf : ∀ i, i < 162 → f i = g_ad G i) (hids : ∀ i ∈ ids, i < 162) (hi : ids2 = ids ++ ks) (hx : g_okR S.1) (h : g_B G2 ids2 S t) : g_B G ids S t := by
  subst hG
  subst hi
  obtain ⟨h1, h2⟩ := h
  refine ⟨g_toP (fun i hi => ?_), ?_⟩
  · have h3 := g_ofP (G := g_re G f) h1 (List.mem_append_left ks hi)
    exact g_reat (G := g_re G f) (f := g_ad G) (N := 162) (Or.inr (Or.inr rfl)) (fun j hj => (hf j hj).symm) hx (hids i hi) h3
  · have e : g_wl (g_re G f) (ids ++ ks) S = g_wl (g_re G f) ids S ++ g_wl (g_re G f) ks S := by simp [g_wl]
    rw [e] at h2
    have h3 := g_Dn.mp (g_Dl h2)
    rw [g_wl_fst] at h3
    refine g_Dn.mpr ?_
    rw [g_wl_fst]
    have e2 : ids.map (g_ad G) = ids.map (g_ad (g_re G f)) := List.map_congr_left (fun i hi => (hf i (hids i hi)).symm)
    rw [e2]
    exact h3
theorem g_ext {G : GL} {f : Nat → Nat} {ids ks : List Nat} {S S1 : SS} {w1 : va_W} {H0 H : Heap} {locs : List Loc} (hids : ∀ i ∈ ids, i < 162) (hf : ∀ i, i < 162 → f i = g_ad G i) (hx : g_okR S1.1) (hS1 : ∀ i, i < 162 → g_c G S1 i = g_c G S i) (hw : w1 = g_wl (g_re G f) ks S1) (hP : va_P (g_D G) vwCl (g_wl G ids S ++ w1) H) (hD : va_D (g_A G) (g_wl G ids S ++ w1)) (hS : va_S (g_A G) H0 H locs) : g_W (g_re G f) (ids ++ ks) S1 H0 H locs := by
  subst hw
  have e1 : g_wl (g_re G f) (ids ++ ks) S1 = g_wl (g_re G f) ids S1 ++ g_wl (g_re G f) ks S1 := by simp [g_wl]
  have e2 : (g_wl (g_re G f) ids S1).map Prod.fst = (g_wl G ids S).map Prod.fst := by
    rw [g_wl_fst, g_wl_fst]
    exact List.map_congr_left (fun i hi => hf i (hids i hi))
  refine ⟨?_, ?_, hS⟩
  · rw [e1]
    refine va_P.app (g_toP (fun i hi => ?_)) (g_Pr hP)
    have h1 := g_ofP (g_Pl hP) hi
    rw [← hS1 i (hids i hi)] at h1
    exact g_reat (G := G) (f := f) (N := 162) (Or.inr (Or.inr rfl)) hf hx (hids i hi) h1
  · rw [e1]
    have h1 := g_Dn.mp hD
    rw [List.map_append, ← e2, ← List.map_append] at h1
    exact g_Dn.mpr h1
def g_pz (x : CS) (b v : Nat) : CS := (fun j => if j = 162 then (fun k => if k = 4 then -1 else if k = 9 then -1 else 0) else if j = 163 then (fun _ => 0) else x.1 j, fun j => if j = 162 then (fun k => if k = 1 then b else if k = 2 then v else if k = 5 then 45 else 0) else x.2 j)
theorem k_164 : kd 164 = 39 := by decide
theorem k_165 : kd 165 = 40 := by decide
section GT
variable {p : Program} {l : Launch} {e : Env} {R : Room} {s : State} {m : MethodId} {args : Array Value} {below : List Frame} {meth : Method} {c : Code} {H : Heap} {locs : List Loc} {cells slots mc ms : Nat} {Q : State → Prop} {G G2 : GL} {f : Nat → Nat} {ids ids2 ks : List Nat} {S : SS} {x : CS} {y : MS} {o : Nat → Int32} {cc : ByteArray} {nL pc : Nat} {own : String} {rt : Option FieldType} {ls : Array Slot} {rest : List Value}
theorem g_consW {Q' : State → Prop} {g : JFrame} (h : ∀ t, Q t → Q' t) (k : W p l e R s m args below meth c H locs cells slots Q g) : W p l e R s m args below meth c H locs cells slots Q' g := fun T hT X => by
  obtain ⟨t, a, b⟩ := k T hT X
  exact ⟨t, a, h t b⟩
theorem g_shMI {r : Int32} {g : JFrame} (hG : G2 = g_re G f) (hf : ∀ i, i < 162 → f i = g_ad G i) (hids : ∀ i ∈ ids, i < 162) (hi : ids2 = ids ++ ks) (hx : g_okR S.1) (k : W p l e R s m args below meth c H locs cells slots (MQ below (g_Qi G2 ids2 r S) args s mc ms (g_A G2)) g) : W p l e R s m args below meth c H locs cells slots (MQ below (g_Qi G ids r S) args s mc ms (g_A G)) g := by
  refine g_consW (fun t h => ?_) k
  obtain ⟨oc, h1, h2, ⟨⟨r1, u, h3, h4, h5⟩, h6⟩, h7⟩ := h
  have h9 := g_shB hG hf hids hi hx h5
  subst hG
  exact ⟨oc, h1, h2, ⟨⟨r1, u, h3, h4, h9⟩, h6⟩, h7⟩
theorem g_shML {r : Int64} {g : JFrame} (hG : G2 = g_re G f) (hf : ∀ i, i < 162 → f i = g_ad G i) (hids : ∀ i ∈ ids, i < 162) (hi : ids2 = ids ++ ks) (hx : g_okR S.1) (k : W p l e R s m args below meth c H locs cells slots (MQ below (g_Ql G2 ids2 r S) args s mc ms (g_A G2)) g) : W p l e R s m args below meth c H locs cells slots (MQ below (g_Ql G ids r S) args s mc ms (g_A G)) g := by
  refine g_consW (fun t h => ?_) k
  obtain ⟨oc, h1, h2, ⟨⟨r1, u, h3, h4, h5⟩, h6⟩, h7⟩ := h
  have h9 := g_shB hG hf hids hi hx h5
  subst hG
  exact ⟨oc, h1, h2, ⟨⟨r1, u, h3, h4, h9⟩, h6⟩, h7⟩
theorem g_Xre (C0 : g_X G ids p s m args meth c cc nL own rt) (hi : ids2 = ids ++ ks) : g_X (g_re G f) ids2 p s m args meth c cc nL own rt := ⟨C0.hx, C0.hb, C0.hml, C0.hown, C0.hts, C0.hlk, C0.hr, fun i h => by rw [hi]; exact List.mem_append_left _ (C0.mem h), C0.hG⟩
theorem g_newT (C0 : g_X G ids p s m args meth c cc nL own rt) (hW : g_W G ids (x, y, o) s.heap H locs) (hids : ∀ i ∈ ids, i < 162) (hx : g_okR x) {n : Int32} {N k : Nat} (hk : 161 < k) (hc : ∀ (G : GL) (y : MS), g_c G (x, y, o) k = .inl (g_cA G 0, N, .inl (y k))) (ha : ∀ cA : ClassId, vp_cell cA (N, .inl (fun _ => 0)) = arrV cA N (fun _ => defaultValue .int)) (hn : ¬ n < 0) (hN : n.toNatClampNeg = N) (hbytes : N * componentBytes .int ≤ 536870912) (hcells : cells + 1 ≤ R.cells) (hslots : slots + N ≤ R.slots) (hdg : decode cc pc = .ok (.newarray .int, 2))
    (kk : ∀ (G2 : GL) (f : Nat → Nat) (ids2 : List Nat) (H : Heap), G2 = g_re G f → (∀ i, i < 162 → f i = g_ad G i) → (∀ i, i < 162 → g_ad G2 i = g_ad G i) → ids2 = ids ++ [k] → g_X G2 ids2 p s m args meth c cc nL own rt → g_W G2 ids2 (x, g_ma y k (fun _ => 0), o) s.heap H locs → W p l e R s m args below meth c H locs (cells + 1) (slots + N) Q (F0 m (pc + 2) ls (.ref (g_ad G2 k) :: rest))) : W p l e R s m args below meth c H locs cells slots Q (F0 m pc ls (.int n :: rest)) := by
  refine va_newa C0.hx C0.hb (C0.hts _ (show Cond.arrayClass (newarray.typeOf .int) ∈ gT from tr_int)) rfl C0.hK hW.1 hW.2.1 hW.2.2 (fun q h => Nat.le_trans C0.hG.2.1 h) (a0 := (N, .inl (fun _ => 0))) ha hn hN hbytes hcells hslots hdg (fun q cA H1 hK1 hP1 hD1 hS1 => ?_)
  obtain rfl := g_cAeqI C0 (t := 0) (ty := .int) rfl hK1
  have hf : ∀ i, i < 162 → (fun i => if i = k then q else g_ad G i) i = g_ad G i := fun i hi => if_neg (by omega)
  have hq : (fun i => if i = k then q else g_ad G i) k = q := if_pos rfl
  obtain ⟨f, hfe⟩ : ∃ f, f = (fun i => if i = k then q else g_ad G i) := ⟨_, rfl⟩
  rw [← hfe] at hf hq
  have e : g_c (g_re G f) (x, g_ma y k (fun _ => 0), o) k = .inl (g_cA G 0, N, .inl (fun _ => 0)) := by
    rw [hc]
    simp only [g_ma, if_pos]
    rfl
  have hw : [(q, (.inl (g_cA G 0, N, .inl (fun _ => 0)) : va_E))] = g_wl (g_re G f) [k] (x, g_ma y k (fun _ => 0), o) := by
    show _ = [(f k, _)]
    rw [e, hq]
  have h9 := kk (g_re G f) f (ids ++ [k]) H1 rfl hf hf rfl (g_Xre C0 rfl) (g_ext hids hf hx (fun i hi => g_cma (by omega)) hw hP1 hD1 hS1)
  have e2 : g_ad (g_re G f) k = q := hq
  rw [e2] at h9
  exact h9
end GT
def g_okRb (x : CS) : Bool := decide (x.2 0 6 < 120) && decide (x.2 0 7 < 120) && decide (x.2 0 8 < 120) && decide (x.2 0 9 < 120)
theorem g_okRb_of {x : CS} (h : g_okRb x = true) : g_okR x := by
  simp only [g_okRb, Bool.and_eq_true, decide_eq_true_eq] at h
  exact ⟨h.1.1.1, h.1.1.2, h.1.2, h.2⟩
theorem g_X161 {p : Program} {s : State} {m : MethodId} {args : Array Value} {meth : Method} {c : Code} {G : GL} {ids : List Nat} {cc : ByteArray} {nL : Nat} {own : String} {rt : Option FieldType} (C0 : g_X G ids p s m args meth c cc nL own rt) : g_X G (List.range 161) p s m args meth c cc nL own rt := ⟨C0.hx, C0.hb, C0.hml, C0.hown, C0.hts, C0.hlk, C0.hr, fun i h => List.mem_range.mpr h, C0.hG⟩
def f_X15_feed_81 (k63 : Int32 → Int32 → MS → Option (Int32 × MS)) : Nat → Int32 → Int32 → Int32 → Int32 → MS → Option (Int32 × MS)
  | 0, _, _, _, _, _ => none
  | n + 1, l8, l9, l10, l11, y => if l11 < 0 then (k63 l8 (l9 + (1 : Int32)) y) else (if g_ok (y 120 2) 2000 = true then (f_X15_feed_81 k63 n l8 l9 l10 (l11 + (-8 : Int32)) (g_mi (g_mi y 121 (y 120 2).toNatClampNeg ((l10 >>> (l11 &&& 31)) &&& (255 : Int32))) 120 2 (((g_mi y 121 (y 120 2).toNatClampNeg ((l10 >>> (l11 &&& 31)) &&& (255 : Int32))) 120 2) + (1 : Int32)))) else none)
def f_X15_feed_63  : Nat → Int32 → Int32 → MS → Option (Int32 × MS)
  | 0, _, _, _ => none
  | n + 1, l8, l9, y => if l8 ≤ l9 then (some ((y 120 2, y))) else (if g_ok l9 5 = true then (f_X15_feed_81 (f_X15_feed_63 n) g_fuel l8 l9 (y 164 l9.toNatClampNeg) (24 : Int32) y) else none)
def f_X15_feed (p1 : Int32) (p2 : Int32) (p3 : Int32) (p4 : Int32) (p5 : Int32) (y : MS) : Option (Int32 × MS) :=
  if (((g_mi y 120 0 (0 : Int32)) 120 2) + (20 : Int32)) ≤ (2000 : Int32) then (if g_ok (0 : Int32) 5 = true then (if g_ok (1 : Int32) 5 = true then (if g_ok (2 : Int32) 5 = true then (if g_ok (3 : Int32) 5 = true then (if g_ok (4 : Int32) 5 = true then (f_X15_feed_63 g_fuel (5 : Int32) (0 : Int32) (g_mi (g_mi (g_mi (g_mi (g_mi (g_ma (g_mi y 120 0 (0 : Int32)) 164 (fun _ => 0)) 164 (0 : Int32).toNatClampNeg p1) 164 (1 : Int32).toNatClampNeg p2) 164 (2 : Int32).toNatClampNeg p3) 164 (3 : Int32).toNatClampNeg p4) 164 (4 : Int32).toNatClampNeg p5)) else none) else none) else none) else none) else none) else ((f_X15_no (1 : Int32) (g_mi y 120 0 (0 : Int32))).bind fun q7 => some ((q7.1, q7.2)))
set_option maxRecDepth 100000 in
set_option maxHeartbeats 4000000 in
theorem w_X15_feed_81 {p : Program} {l : Launch} {e : Env} {s : State} {m : MethodId} {args : Array Value} {below : List Frame} {meth : Method} {c : Code} {G : GL} {ids : List Nat} {x : CS} {o : Nat → Int32}  {q : Int32 × MS} {k63 : Int32 → Int32 → MS → Option (Int32 × MS)}  (h164 : 164 ∈ ids) (C0 : g_X G ids p s m args meth c cX15_feed 12 RX15 (Option.some Jvm.ClassFile.FieldType.int)) (kt63 : ∀ (l8 : Int32) (l9 : Int32) (y : MS) (H : Heap) (locs : List Loc) (ls : Array Slot),  k63 l8 l9 y = some q → g_W G ids (x, y, o) s.heap H locs → lv_has ls 12 [(0, .ref (g_ad G (120))), (7, .ref (g_ad G (164))), (8, .int (l8)), (9, .int (l9))] → W p l e (g_rm 1 1 5) s m args below meth c H locs 1 5 (MQ below (g_Qi G ids q.1 (x, q.2, o)) args s 1 5 (g_A G)) (F0 m 63 ls [])) : ∀ (n : Nat) (l8 : Int32) (l9 : Int32) (l10 : Int32) (l11 : Int32) (y : MS) (H : Heap) (locs : List Loc) (ls : Array Slot),  f_X15_feed_81 k63 n l8 l9 l10 l11 y = some q → g_W G ids (x, y, o) s.heap H locs → lv_has ls 12 [(0, .ref (g_ad G (120))), (7, .ref (g_ad G (164))), (8, .int (l8)), (9, .int (l9)), (10, .int (l10)), (11, .int (l11))] → W p l e (g_rm 1 1 5) s m args below meth c H locs 1 5 (MQ below (g_Qi G ids q.1 (x, q.2, o)) args s 1 5 (g_A G)) (F0 m 81 ls []) := by
  intro n
  induction n with
  | zero =>
    intro l8 l9 l10 l11 y H locs ls h hW hl
    exact absurd h (by simp [f_X15_feed_81])
  | succ n ih =>
    intro l8 l9 l10 l11 y H locs ls h hW hl
    unfold f_X15_feed_81 at h
    refine lv_iload C0.hx C0.hb dX15_feed_81 (lv_at hl 5 rfl) ?_
    refine lv_if_lt (tgt := 120) C0.hx C0.hb dX15_feed_83 (by decide) (fun hc10 => ?_) (fun hc10 => ?_)
    · replace h := (if_pos hc10).symm.trans h
      refine lv_iinc (v := l9 + (1 : Int32)) (lv' := [(9, .int (l9 + (1 : Int32))), (0, .ref (g_ad G (120))), (7, .ref (g_ad G (164))), (8, .int (l8)), (10, .int (l10)), (11, .int (l11))]) C0.hx C0.hb dX15_feed_120 hl (k := 3) rfl rfl (by decide) rfl (fun ls hl => ?_)
      refine lv_goto (tgt := 63) C0.hx C0.hb dX15_feed_123 (by decide) ?_
      exact kt63 _ _ _ _ _ _ h hW (lv_sub hl [1, 2, 3, 0] rfl)
    · replace h := (if_neg hc10).symm.trans h
      refine lv_aload_n C0.hx C0.hb dX15_feed_86 rfl (lv_at hl 0 rfl) ?_
      refine gf_X15_1 C0 hW (C0.mem (i := 120) (Nat.le_of_ble_eq_true rfl)) k_120 tf_X15_9 dX15_feed_87 ?_
      refine lv_aload_n C0.hx C0.hb dX15_feed_90 rfl (lv_at hl 0 rfl) ?_
      refine gf_X15_2 C0 hW (C0.mem (i := 120) (Nat.le_of_ble_eq_true rfl)) k_120 tf_X15_69 dX15_feed_91 ?_
      refine lv_iload C0.hx C0.hb dX15_feed_94 (lv_at hl 4 rfl) ?_
      refine lv_iload C0.hx C0.hb dX15_feed_96 (lv_at hl 5 rfl) ?_
      refine lv_ishr C0.hx C0.hb dX15_feed_98 ?_
      refine lv_sipush (v := (255 : Int32)) C0.hx C0.hb dX15_feed_99 (by decide) ?_
      refine lv_iand C0.hx C0.hb dX15_feed_102 ?_
      obtain ⟨hb11, h⟩ := g_if h
      refine gs_30 C0 hW (C0.mem (i := 121) (Nat.le_of_ble_eq_true rfl)) k_121 hb11 dX15_feed_103 (fun H locs hW => ?_)
      refine lv_aload_n C0.hx C0.hb dX15_feed_104 rfl (lv_at hl 0 rfl) ?_
      refine lv_dup C0.hx C0.hb dX15_feed_105 rfl ?_
      refine gf_X15_2 C0 hW (C0.mem (i := 120) (Nat.le_of_ble_eq_true rfl)) k_120 tf_X15_69 dX15_feed_106 ?_
      refine lv_iconst (v := (1 : Int32)) C0.hx C0.hb dX15_feed_109 (by decide) ?_
      refine lv_iadd C0.hx C0.hb dX15_feed_110 ?_
      refine gp_X15_2 C0 hW (C0.mem (i := 120) (Nat.le_of_ble_eq_true rfl)) k_120 tf_X15_69 dX15_feed_111 (fun H locs hW => ?_)
      refine lv_iinc (v := l11 + (-8 : Int32)) (lv' := [(11, .int (l11 + (-8 : Int32))), (0, .ref (g_ad G (120))), (7, .ref (g_ad G (164))), (8, .int (l8)), (9, .int (l9)), (10, .int (l10))]) C0.hx C0.hb dX15_feed_114 hl (k := 5) rfl rfl (by decide) rfl (fun ls hl => ?_)
      refine lv_goto (tgt := 81) C0.hx C0.hb dX15_feed_117 (by decide) ?_
      exact ih _ _ _ _ _ _ _ _ h hW (lv_sub hl [1, 2, 3, 4, 5, 0] rfl)
set_option maxRecDepth 100000 in
set_option maxHeartbeats 4000000 in
theorem w_X15_feed_63 {p : Program} {l : Launch} {e : Env} {s : State} {m : MethodId} {args : Array Value} {below : List Frame} {meth : Method} {c : Code} {G : GL} {ids : List Nat} {x : CS} {o : Nat → Int32}  {q : Int32 × MS}  (h164 : 164 ∈ ids) (C0 : g_X G ids p s m args meth c cX15_feed 12 RX15 (Option.some Jvm.ClassFile.FieldType.int))  : ∀ (n : Nat) (l8 : Int32) (l9 : Int32) (y : MS) (H : Heap) (locs : List Loc) (ls : Array Slot),  f_X15_feed_63 n l8 l9 y = some q → g_W G ids (x, y, o) s.heap H locs → lv_has ls 12 [(0, .ref (g_ad G (120))), (7, .ref (g_ad G (164))), (8, .int (l8)), (9, .int (l9))] → W p l e (g_rm 1 1 5) s m args below meth c H locs 1 5 (MQ below (g_Qi G ids q.1 (x, q.2, o)) args s 1 5 (g_A G)) (F0 m 63 ls []) := by
  intro n
  induction n with
  | zero =>
    intro l8 l9 y H locs ls h hW hl
    exact absurd h (by simp [f_X15_feed_63])
  | succ n ih =>
    intro l8 l9 y H locs ls h hW hl
    unfold f_X15_feed_63 at h
    refine lv_iload C0.hx C0.hb dX15_feed_63 (lv_at hl 3 rfl) ?_
    refine lv_iload C0.hx C0.hb dX15_feed_65 (lv_at hl 2 rfl) ?_
    refine lv_icmp_ge (tgt := 126) C0.hx C0.hb dX15_feed_67 (by decide) (fun hc8 => ?_) (fun hc8 => ?_)
    · replace h := (if_pos hc8).symm.trans h
      refine lv_aload_n C0.hx C0.hb dX15_feed_126 rfl (lv_at hl 0 rfl) ?_
      refine gf_X15_2 C0 hW (C0.mem (i := 120) (Nat.le_of_ble_eq_true rfl)) k_120 tf_X15_69 dX15_feed_127 ?_
      obtain rfl := Option.some.inj h
      exact g_iret C0 hW rfl rfl rfl dX15_feed_130
    · replace h := (if_neg hc8).symm.trans h
      refine lv_aload C0.hx C0.hb dX15_feed_70 (lv_at hl 1 rfl) ?_
      refine lv_iload C0.hx C0.hb dX15_feed_72 (lv_at hl 3 rfl) ?_
      obtain ⟨hb9, h⟩ := g_if h
      refine ga_39 C0 hW h164 k_164 hb9 dX15_feed_74 ?_
      refine lv_istore (lv' := [(10, .int (y 164 l9.toNatClampNeg)), (0, .ref (g_ad G (120))), (7, .ref (g_ad G (164))), (8, .int (l8)), (9, .int (l9))]) C0.hx C0.hb dX15_feed_75 hl (by decide) rfl (fun ls hl => ?_)
      refine lv_bipush (v := (24 : Int32)) C0.hx C0.hb dX15_feed_77 (by decide) ?_
      refine lv_istore (lv' := [(11, .int ((24 : Int32))), (10, .int (y 164 l9.toNatClampNeg)), (0, .ref (g_ad G (120))), (7, .ref (g_ad G (164))), (8, .int (l8)), (9, .int (l9))]) C0.hx C0.hb dX15_feed_79 hl (by decide) rfl (fun ls hl => ?_)
      exact w_X15_feed_81 h164 C0 ih g_fuel _ _ _ _ _ _ _ _ h hW (lv_sub hl [2, 3, 4, 5, 1, 0] rfl)
set_option maxRecDepth 100000 in
set_option maxHeartbeats 4000000 in
theorem c_X15_feed {l : Launch} {G : GL} {ids : List Nat} {x : CS} {o : Nat → Int32} {y : MS} {p1 : Int32} {p2 : Int32} {p3 : Int32} {p4 : Int32} {p5 : Int32} {q : Int32 × MS}  (hids : ∀ i ∈ ids, i < 162) (hx : g_okR x)  (h : f_X15_feed p1 p2 p3 p4 p5 y = some q) : Met l yX15_feed (.code yX15_feed cX15_feed 12 (Option.some Jvm.ClassFile.FieldType.int) :: gT) (g_rm 1 1 5) (va_Pc [.ref (g_ad G (120)), .int (p1), .int (p2), .int (p3), .int (p4), .int (p5)] (g_P G ids (x, y, o))) (g_Qi G ids q.1 (x, q.2, o)) 1 5 (g_A G) := by
  unfold f_X15_feed at h
  refine g_entry (by decide) (Nat.le_of_ble_eq_true rfl) (fun p e s m args below meth c ls C0 hl hW _ => ?_)
  have hl : lv_has ls 12 [(0, .ref (g_ad G (120))), (1, .int (p1)), (2, .int (p2)), (3, .int (p3)), (4, .int (p4)), (5, .int (p5))] := hl
  refine lv_aload_n C0.hx C0.hb dX15_feed_0 rfl (lv_at hl 0 rfl) ?_
  refine lv_iconst (v := (0 : Int32)) C0.hx C0.hb dX15_feed_1 (by decide) ?_
  refine gp_X15_0 C0 hW (C0.mem (i := 120) (Nat.le_of_ble_eq_true rfl)) k_120 tf_X15_62 dX15_feed_2 (fun H locs hW => ?_)
  refine lv_aload_n C0.hx C0.hb dX15_feed_5 rfl (lv_at hl 0 rfl) ?_
  refine gf_X15_2 C0 hW (C0.mem (i := 120) (Nat.le_of_ble_eq_true rfl)) k_120 tf_X15_69 dX15_feed_6 ?_
  refine lv_bipush (v := (20 : Int32)) C0.hx C0.hb dX15_feed_9 (by decide) ?_
  refine lv_iadd C0.hx C0.hb dX15_feed_11 ?_
  refine lv_sipush (v := (2000 : Int32)) C0.hx C0.hb dX15_feed_12 (by decide) ?_
  refine lv_icmp_le (tgt := 24) C0.hx C0.hb dX15_feed_15 (by decide) (fun hc1 => ?_) (fun hc1 => ?_)
  · replace h := (if_pos hc1).symm.trans h
    refine lv_iconst (v := (5 : Int32)) C0.hx C0.hb dX15_feed_24 (by decide) ?_
    refine g_newT (k := 164) (N := 5) C0 hW hids hx (by decide) (fun _ _ => g_c39 k_164) (fun _ => rfl) (by decide) (by decide) (Nat.le_of_ble_eq_true rfl) (Nat.le_of_ble_eq_true rfl) (Nat.le_of_ble_eq_true rfl) dX15_feed_25 (fun G2 f ids2 H hG2 hf hfa hi2 C0 hW => ?_)
    have h164 : 164 ∈ ids2 := by rw [hi2]; simp
    have hl : lv_has ls 12 [(0, .ref (g_ad G2 (120))), (1, .int (p1)), (2, .int (p2)), (3, .int (p3)), (4, .int (p4)), (5, .int (p5))] := by rw [hfa 120 (by decide)]; exact hl
    refine g_shMI hG2 hf hids hi2 hx ?_
    refine lv_dup C0.hx C0.hb dX15_feed_27 rfl ?_
    refine lv_iconst (v := (0 : Int32)) C0.hx C0.hb dX15_feed_28 (by decide) ?_
    refine lv_iload_n C0.hx C0.hb dX15_feed_29 rfl (lv_at hl 1 rfl) ?_
    obtain ⟨hb2, h⟩ := g_if h
    refine gs_39 C0 hW h164 k_164 hb2 dX15_feed_30 (fun H locs hW => ?_)
    refine lv_dup C0.hx C0.hb dX15_feed_31 rfl ?_
    refine lv_iconst (v := (1 : Int32)) C0.hx C0.hb dX15_feed_32 (by decide) ?_
    refine lv_iload_n C0.hx C0.hb dX15_feed_33 rfl (lv_at hl 2 rfl) ?_
    obtain ⟨hb3, h⟩ := g_if h
    refine gs_39 C0 hW h164 k_164 hb3 dX15_feed_34 (fun H locs hW => ?_)
    refine lv_dup C0.hx C0.hb dX15_feed_35 rfl ?_
    refine lv_iconst (v := (2 : Int32)) C0.hx C0.hb dX15_feed_36 (by decide) ?_
    refine lv_iload_n C0.hx C0.hb dX15_feed_37 rfl (lv_at hl 3 rfl) ?_
    obtain ⟨hb4, h⟩ := g_if h
    refine gs_39 C0 hW h164 k_164 hb4 dX15_feed_38 (fun H locs hW => ?_)
    refine lv_dup C0.hx C0.hb dX15_feed_39 rfl ?_
    refine lv_iconst (v := (3 : Int32)) C0.hx C0.hb dX15_feed_40 (by decide) ?_
    refine lv_iload C0.hx C0.hb dX15_feed_41 (lv_at hl 4 rfl) ?_
    obtain ⟨hb5, h⟩ := g_if h
    refine gs_39 C0 hW h164 k_164 hb5 dX15_feed_43 (fun H locs hW => ?_)
    refine lv_dup C0.hx C0.hb dX15_feed_44 rfl ?_
    refine lv_iconst (v := (4 : Int32)) C0.hx C0.hb dX15_feed_45 (by decide) ?_
    refine lv_iload C0.hx C0.hb dX15_feed_46 (lv_at hl 5 rfl) ?_
    obtain ⟨hb6, h⟩ := g_if h
    refine gs_39 C0 hW h164 k_164 hb6 dX15_feed_48 (fun H locs hW => ?_)
    refine lv_astore (lv' := [(6, .ref (g_ad G2 (164))), (0, .ref (g_ad G2 (120))), (1, .int (p1)), (2, .int (p2)), (3, .int (p3)), (4, .int (p4)), (5, .int (p5))]) C0.hx C0.hb dX15_feed_49 hl (by decide) rfl (fun ls hl => ?_)
    refine lv_aload C0.hx C0.hb dX15_feed_51 (lv_at hl 0 rfl) ?_
    refine lv_astore (lv' := [(7, .ref (g_ad G2 (164))), (6, .ref (g_ad G2 (164))), (0, .ref (g_ad G2 (120))), (1, .int (p1)), (2, .int (p2)), (3, .int (p3)), (4, .int (p4)), (5, .int (p5))]) C0.hx C0.hb dX15_feed_53 hl (by decide) rfl (fun ls hl => ?_)
    refine lv_aload C0.hx C0.hb dX15_feed_55 (lv_at hl 0 rfl) ?_
    refine gl_39 C0 hW h164 k_164 dX15_feed_57 ?_
    refine lv_istore (lv' := [(8, .int ((5 : Int32))), (7, .ref (g_ad G2 (164))), (6, .ref (g_ad G2 (164))), (0, .ref (g_ad G2 (120))), (1, .int (p1)), (2, .int (p2)), (3, .int (p3)), (4, .int (p4)), (5, .int (p5))]) C0.hx C0.hb dX15_feed_58 hl (by decide) rfl (fun ls hl => ?_)
    refine lv_iconst (v := (0 : Int32)) C0.hx C0.hb dX15_feed_60 (by decide) ?_
    refine lv_istore (lv' := [(9, .int ((0 : Int32))), (8, .int ((5 : Int32))), (7, .ref (g_ad G2 (164))), (6, .ref (g_ad G2 (164))), (0, .ref (g_ad G2 (120))), (1, .int (p1)), (2, .int (p2)), (3, .int (p3)), (4, .int (p4)), (5, .int (p5))]) C0.hx C0.hb dX15_feed_61 hl (by decide) rfl (fun ls hl => ?_)
    exact w_X15_feed_63 h164 C0 g_fuel _ _ _ _ _ _ h hW (lv_sub hl [4, 2, 1, 0] rfl)
  · replace h := (if_neg hc1).symm.trans h
    refine lv_aload_n C0.hx C0.hb dX15_feed_18 rfl (lv_at hl 0 rfl) ?_
    refine lv_iconst (v := (1 : Int32)) C0.hx C0.hb dX15_feed_19 (by decide) ?_
    obtain ⟨q7, hq7, h⟩ := Option.bind_eq_some_iff.mp h
    refine g_calli hW (g_runV (As := [.int ((1 : Int32))]) (rest := []) C0 hW (c_X15_no hq7) (g_cwG (n := 1) tc_X15_no tn_X15 md_X15_no (by decide) (by omega) (by decide) (by decide)) tm_X15_253 ti_X15_no ts_X15_no (C0.mem (i := 120) (Nat.le_of_ble_eq_true rfl)) (g_c12 k_120) rfl rfl hl.1 rfl (Nat.le_of_ble_eq_true rfl) dX15_feed_20) (fun H locs hW => ?_)
    obtain rfl := Option.some.inj h
    refine W.widen (k := 1) (n := 5) (Nat.le_of_ble_eq_true rfl) (Nat.le_of_ble_eq_true rfl) ?_
    exact g_iret C0 hW rfl rfl rfl dX15_feed_23
def f_X15_digest_294  : Nat → Int64 → Int32 → MS → Option (Int64 × MS)
  | 0, _, _, _ => none
  | n + 1, l2, l4, y => if g_ok (8 : Int32) 10 = true then (if (y 153 (8 : Int32).toNatClampNeg) ≤ l4 then (some ((l2, g_mi y 120 0 (0 : Int32)))) else (if g_ok ((192 : Int32) + l4) 240 = true then (f_X15_digest_294 n ((l2 * (31 : Int64)) + ((y 154 ((192 : Int32) + l4).toNatClampNeg).toInt64)) (l4 + (1 : Int32)) y) else none)) else none
def f_X15_digest_247 (k130 : Int64 → Int32 → MS → Option (Int64 × MS)) : Nat → Int64 → Int32 → Int32 → MS → Option (Int64 × MS)
  | 0, _, _, _, _ => none
  | n + 1, l2, l4, l5, y => if (y 127 2) ≤ l5 then (k130 l2 (l4 + (1 : Int32)) y) else ((f_X15_distance 152 l4 l5 y).bind fun q25 => f_X15_digest_247 k130 n ((l2 * (31 : Int64)) + q25.1.toInt64) l4 (l5 + (1 : Int32)) q25.2)
def f_X15_digest_199 (k130 : Int64 → Int32 → MS → Option (Int64 × MS)) : Nat → Int64 → Int32 → Int32 → MS → Option (Int64 × MS)
  | 0, _, _, _, _ => none
  | n + 1, l2, l4, l5, y => if g_ok l4 10 = true then (if (y 153 l4.toNatClampNeg) ≤ l5 then (f_X15_digest_247 k130 g_fuel l2 l4 (0 : Int32) y) else (if g_ok (((24 : Int32) * l4) + l5) 240 = true then (f_X15_digest_199 k130 n ((l2 * (31 : Int64)) + ((y 154 (((24 : Int32) * l4) + l5).toNatClampNeg).toInt64)) l4 (l5 + (1 : Int32)) y) else none)) else none
def f_X15_digest_130  : Nat → Int64 → Int32 → MS → Option (Int64 × MS)
  | 0, _, _, _ => none
  | n + 1, l2, l4, y => if (y 127 2) ≤ l4 then (f_X15_digest_294 g_fuel l2 (0 : Int32) y) else (if g_ok l4 10 = true then (if g_ok l4 8 = true then ((f_X15_needless l4 y).bind fun q16 => if q16.1 = 0 then (f_X15_digest_199 (f_X15_digest_130 n) g_fuel ((((((l2 * (31 : Int64)) + ((y 153 l4.toNatClampNeg).toInt64)) * (31 : Int64)) + ((y 155 l4.toNatClampNeg).toInt64)) * (31 : Int64)) + ((0 : Int32).toInt64)) l4 (0 : Int32) q16.2) else (f_X15_digest_199 (f_X15_digest_130 n) g_fuel ((((((l2 * (31 : Int64)) + ((y 153 l4.toNatClampNeg).toInt64)) * (31 : Int64)) + ((y 155 l4.toNatClampNeg).toInt64)) * (31 : Int64)) + ((1 : Int32).toInt64)) l4 (0 : Int32) q16.2)) else none) else none)
def f_X15_digest_97  : Nat → Int64 → Int32 → Int32 → MS → Option (Int64 × MS)
  | 0, _, _, _, _ => none
  | n + 1, l2, l5, l6, y => if l5 ≤ l6 then (f_X15_digest_130 g_fuel l2 (0 : Int32) y) else (if g_ok l6 7 = true then (f_X15_digest_97 n ((l2 * (31 : Int64)) + ((y 165 l6.toNatClampNeg).toInt64)) l5 (l6 + (1 : Int32)) y) else none)
def f_X15_digest (y : MS) : Option (Int64 × MS) :=
  if g_ok (0 : Int32) 7 = true then ((f_X15_kept 152 (g_mi (g_ma y 165 (fun _ => 0)) 165 (0 : Int32).toNatClampNeg ((g_ma y 165 (fun _ => 0)) 127 2))).bind fun q2 => if g_ok (1 : Int32) 7 = true then (if g_ok (2 : Int32) 7 = true then (if g_ok (3 : Int32) 7 = true then (if g_ok (4 : Int32) 7 = true then (if g_ok (8 : Int32) 10 = true then (if g_ok (5 : Int32) 7 = true then ((f_X15_meant 152 (-1 : Int32) (g_mi (g_mi (g_mi (g_mi (g_mi (g_mi (g_ma y 165 (fun _ => 0)) 165 (0 : Int32).toNatClampNeg ((g_ma y 165 (fun _ => 0)) 127 2)) 165 (1 : Int32).toNatClampNeg q2) 165 (2 : Int32).toNatClampNeg ((g_mi (g_mi (g_ma y 165 (fun _ => 0)) 165 (0 : Int32).toNatClampNeg ((g_ma y 165 (fun _ => 0)) 127 2)) 165 (1 : Int32).toNatClampNeg q2) 127 5)) 165 (3 : Int32).toNatClampNeg ((g_mi (g_mi (g_mi (g_ma y 165 (fun _ => 0)) 165 (0 : Int32).toNatClampNeg ((g_ma y 165 (fun _ => 0)) 127 2)) 165 (1 : Int32).toNatClampNeg q2) 165 (2 : Int32).toNatClampNeg ((g_mi (g_mi (g_ma y 165 (fun _ => 0)) 165 (0 : Int32).toNatClampNeg ((g_ma y 165 (fun _ => 0)) 127 2)) 165 (1 : Int32).toNatClampNeg q2) 127 5)) 152 3)) 165 (4 : Int32).toNatClampNeg ((g_mi (g_mi (g_mi (g_mi (g_ma y 165 (fun _ => 0)) 165 (0 : Int32).toNatClampNeg ((g_ma y 165 (fun _ => 0)) 127 2)) 165 (1 : Int32).toNatClampNeg q2) 165 (2 : Int32).toNatClampNeg ((g_mi (g_mi (g_ma y 165 (fun _ => 0)) 165 (0 : Int32).toNatClampNeg ((g_ma y 165 (fun _ => 0)) 127 2)) 165 (1 : Int32).toNatClampNeg q2) 127 5)) 165 (3 : Int32).toNatClampNeg ((g_mi (g_mi (g_mi (g_ma y 165 (fun _ => 0)) 165 (0 : Int32).toNatClampNeg ((g_ma y 165 (fun _ => 0)) 127 2)) 165 (1 : Int32).toNatClampNeg q2) 165 (2 : Int32).toNatClampNeg ((g_mi (g_mi (g_ma y 165 (fun _ => 0)) 165 (0 : Int32).toNatClampNeg ((g_ma y 165 (fun _ => 0)) 127 2)) 165 (1 : Int32).toNatClampNeg q2) 127 5)) 152 3)) 152 4)) 165 (5 : Int32).toNatClampNeg ((g_mi (g_mi (g_mi (g_mi (g_mi (g_ma y 165 (fun _ => 0)) 165 (0 : Int32).toNatClampNeg ((g_ma y 165 (fun _ => 0)) 127 2)) 165 (1 : Int32).toNatClampNeg q2) 165 (2 : Int32).toNatClampNeg ((g_mi (g_mi (g_ma y 165 (fun _ => 0)) 165 (0 : Int32).toNatClampNeg ((g_ma y 165 (fun _ => 0)) 127 2)) 165 (1 : Int32).toNatClampNeg q2) 127 5)) 165 (3 : Int32).toNatClampNeg ((g_mi (g_mi (g_mi (g_ma y 165 (fun _ => 0)) 165 (0 : Int32).toNatClampNeg ((g_ma y 165 (fun _ => 0)) 127 2)) 165 (1 : Int32).toNatClampNeg q2) 165 (2 : Int32).toNatClampNeg ((g_mi (g_mi (g_ma y 165 (fun _ => 0)) 165 (0 : Int32).toNatClampNeg ((g_ma y 165 (fun _ => 0)) 127 2)) 165 (1 : Int32).toNatClampNeg q2) 127 5)) 152 3)) 165 (4 : Int32).toNatClampNeg ((g_mi (g_mi (g_mi (g_mi (g_ma y 165 (fun _ => 0)) 165 (0 : Int32).toNatClampNeg ((g_ma y 165 (fun _ => 0)) 127 2)) 165 (1 : Int32).toNatClampNeg q2) 165 (2 : Int32).toNatClampNeg ((g_mi (g_mi (g_ma y 165 (fun _ => 0)) 165 (0 : Int32).toNatClampNeg ((g_ma y 165 (fun _ => 0)) 127 2)) 165 (1 : Int32).toNatClampNeg q2) 127 5)) 165 (3 : Int32).toNatClampNeg ((g_mi (g_mi (g_mi (g_ma y 165 (fun _ => 0)) 165 (0 : Int32).toNatClampNeg ((g_ma y 165 (fun _ => 0)) 127 2)) 165 (1 : Int32).toNatClampNeg q2) 165 (2 : Int32).toNatClampNeg ((g_mi (g_mi (g_ma y 165 (fun _ => 0)) 165 (0 : Int32).toNatClampNeg ((g_ma y 165 (fun _ => 0)) 127 2)) 165 (1 : Int32).toNatClampNeg q2) 127 5)) 152 3)) 152 4)) 153 (8 : Int32).toNatClampNeg))).bind fun q9 => if g_ok (6 : Int32) 7 = true then (f_X15_digest_97 g_fuel (1019 : Int64) (7 : Int32) (0 : Int32) (g_mi q9.2 165 (6 : Int32).toNatClampNeg q9.1)) else none) else none) else none) else none) else none) else none) else none) else none
set_option maxRecDepth 100000 in
set_option maxHeartbeats 4000000 in
theorem w_X15_digest_294 {p : Program} {l : Launch} {e : Env} {s : State} {m : MethodId} {args : Array Value} {below : List Frame} {meth : Method} {c : Code} {G : GL} {ids : List Nat} {x : CS} {o : Nat → Int32}  {q : Int64 × MS}  (h165 : 165 ∈ ids) (C0 : g_X G ids p s m args meth c cX15_digest 8 RX15 (Option.some Jvm.ClassFile.FieldType.long))  : ∀ (n : Nat) (l2 : Int64) (l4 : Int32) (y : MS) (H : Heap) (locs : List Loc) (ls : Array Slot),  f_X15_digest_294 n l2 l4 y = some q → g_W G ids (x, y, o) s.heap H locs → lv_has ls 8 [(0, .ref (g_ad G (120))), (2, .long (l2)), (4, .int (l4))] → W p l e (g_rm 7 1 7) s m args below meth c H locs 1 7 (MQ below (g_Ql G ids q.1 (x, q.2, o)) args s 1 7 (g_A G)) (F0 m 294 ls []) := by
  intro n
  induction n with
  | zero =>
    intro l2 l4 y H locs ls h hW hl
    exact absurd h (by simp [f_X15_digest_294])
  | succ n ih =>
    intro l2 l4 y H locs ls h hW hl
    unfold f_X15_digest_294 at h
    refine lv_iload C0.hx C0.hb dX15_digest_294 (lv_at hl 2 rfl) ?_
    refine lv_aload_n C0.hx C0.hb dX15_digest_296 rfl (lv_at hl 0 rfl) ?_
    refine gf_X15_17 C0 hW (C0.mem (i := 120) (Nat.le_of_ble_eq_true rfl)) k_120 tf_X15_48 dX15_digest_297 ?_
    refine gfN_X13_0 C0 hW (C0.mem (i := 152) (Nat.le_of_ble_eq_true rfl)) k_152 tfN_X15_270 dX15_digest_300 ?_
    refine lv_bipush (v := (8 : Int32)) C0.hx C0.hb dX15_digest_303 (by decide) ?_
    obtain ⟨hb18, h⟩ := g_if h
    refine ga_33 C0 hW (C0.mem (i := 153) (Nat.le_of_ble_eq_true rfl)) k_153 hb18 dX15_digest_305 ?_
    refine lv_icmp_ge (tgt := 337) C0.hx C0.hb dX15_digest_306 (by decide) (fun hc19 => ?_) (fun hc19 => ?_)
    · replace h := (if_pos hc19).symm.trans h
      refine lv_aload_n C0.hx C0.hb dX15_digest_337 rfl (lv_at hl 0 rfl) ?_
      refine lv_iconst (v := (0 : Int32)) C0.hx C0.hb dX15_digest_338 (by decide) ?_
      refine gp_X15_0 C0 hW (C0.mem (i := 120) (Nat.le_of_ble_eq_true rfl)) k_120 tf_X15_62 dX15_digest_339 (fun H locs hW => ?_)
      refine lv_lload_n C0.hx C0.hb dX15_digest_342 rfl (lv_at hl 1 rfl) ?_
      obtain rfl := Option.some.inj h
      exact g_lret C0 hW rfl rfl dX15_digest_343
    · replace h := (if_neg hc19).symm.trans h
      refine lv_lload_n C0.hx C0.hb dX15_digest_309 rfl (lv_at hl 1 rfl) ?_
      refine lv_ldc2 C0.hx C0.hb C0.hown (C0.hts _ tq_X15_364) dX15_digest_310 ?_
      refine lv_lmul C0.hx C0.hb dX15_digest_313 ?_
      refine lv_aload_n C0.hx C0.hb dX15_digest_314 rfl (lv_at hl 0 rfl) ?_
      refine gf_X15_17 C0 hW (C0.mem (i := 120) (Nat.le_of_ble_eq_true rfl)) k_120 tf_X15_48 dX15_digest_315 ?_
      refine gfN_X13_1 C0 hW (C0.mem (i := 152) (Nat.le_of_ble_eq_true rfl)) k_152 tfN_X15_271 dX15_digest_318 ?_
      refine lv_sipush (v := (192 : Int32)) C0.hx C0.hb dX15_digest_321 (by decide) ?_
      refine lv_iload C0.hx C0.hb dX15_digest_324 (lv_at hl 2 rfl) ?_
      refine lv_iadd C0.hx C0.hb dX15_digest_326 ?_
      obtain ⟨hb20, h⟩ := g_if h
      refine ga_34 C0 hW (C0.mem (i := 154) (Nat.le_of_ble_eq_true rfl)) k_154 hb20 dX15_digest_327 ?_
      refine lv_i2l C0.hx C0.hb dX15_digest_328 rfl ?_
      refine lv_ladd C0.hx C0.hb dX15_digest_329 ?_
      refine lv_lstore_n (lv' := [(2, .long ((l2 * (31 : Int64)) + ((y 154 ((192 : Int32) + l4).toNatClampNeg).toInt64))), (0, .ref (g_ad G (120))), (4, .int (l4))]) C0.hx C0.hb dX15_digest_330 rfl hl (by decide) rfl (fun ls hl => ?_)
      refine lv_iinc (v := l4 + (1 : Int32)) (lv' := [(4, .int (l4 + (1 : Int32))), (2, .long ((l2 * (31 : Int64)) + ((y 154 ((192 : Int32) + l4).toNatClampNeg).toInt64))), (0, .ref (g_ad G (120)))]) C0.hx C0.hb dX15_digest_331 hl (k := 2) rfl rfl (by decide) rfl (fun ls hl => ?_)
      refine lv_goto (tgt := 294) C0.hx C0.hb dX15_digest_334 (by decide) ?_
      exact ih _ _ _ _ _ _ h hW (lv_sub hl [2, 1, 0] rfl)
set_option maxRecDepth 100000 in
set_option maxHeartbeats 4000000 in
theorem w_X15_digest_247 {p : Program} {l : Launch} {e : Env} {s : State} {m : MethodId} {args : Array Value} {below : List Frame} {meth : Method} {c : Code} {G : GL} {ids : List Nat} {x : CS} {o : Nat → Int32}  {q : Int64 × MS} {k130 : Int64 → Int32 → MS → Option (Int64 × MS)}  (h165 : 165 ∈ ids) (C0 : g_X G ids p s m args meth c cX15_digest 8 RX15 (Option.some Jvm.ClassFile.FieldType.long)) (kt130 : ∀ (l2 : Int64) (l4 : Int32) (y : MS) (H : Heap) (locs : List Loc) (ls : Array Slot),  k130 l2 l4 y = some q → g_W G ids (x, y, o) s.heap H locs → lv_has ls 8 [(0, .ref (g_ad G (120))), (2, .long (l2)), (4, .int (l4))] → W p l e (g_rm 7 1 7) s m args below meth c H locs 1 7 (MQ below (g_Ql G ids q.1 (x, q.2, o)) args s 1 7 (g_A G)) (F0 m 130 ls [])) : ∀ (n : Nat) (l2 : Int64) (l4 : Int32) (l5 : Int32) (y : MS) (H : Heap) (locs : List Loc) (ls : Array Slot),  f_X15_digest_247 k130 n l2 l4 l5 y = some q → g_W G ids (x, y, o) s.heap H locs → lv_has ls 8 [(0, .ref (g_ad G (120))), (2, .long (l2)), (4, .int (l4)), (5, .int (l5))] → W p l e (g_rm 7 1 7) s m args below meth c H locs 1 7 (MQ below (g_Ql G ids q.1 (x, q.2, o)) args s 1 7 (g_A G)) (F0 m 247 ls []) := by
  intro n
  induction n with
  | zero =>
    intro l2 l4 l5 y H locs ls h hW hl
    exact absurd h (by simp [f_X15_digest_247])
  | succ n ih =>
    intro l2 l4 l5 y H locs ls h hW hl
    unfold f_X15_digest_247 at h
    refine lv_iload C0.hx C0.hb dX15_digest_247 (lv_at hl 3 rfl) ?_
    refine lv_aload_n C0.hx C0.hb dX15_digest_249 rfl (lv_at hl 0 rfl) ?_
    refine gf_X15_14 C0 hW (C0.mem (i := 120) (Nat.le_of_ble_eq_true rfl)) k_120 tf_X15_35 dX15_digest_250 ?_
    refine gfN_X14_2 C0 hW (C0.mem (i := 127) (Nat.le_of_ble_eq_true rfl)) k_127 tfN_X15_147 dX15_digest_253 ?_
    refine lv_icmp_ge (tgt := 285) C0.hx C0.hb dX15_digest_256 (by decide) (fun hc24 => ?_) (fun hc24 => ?_)
    · replace h := (if_pos hc24).symm.trans h
      refine lv_iinc (v := l4 + (1 : Int32)) (lv' := [(4, .int (l4 + (1 : Int32))), (0, .ref (g_ad G (120))), (2, .long (l2)), (5, .int (l5))]) C0.hx C0.hb dX15_digest_285 hl (k := 2) rfl rfl (by decide) rfl (fun ls hl => ?_)
      refine lv_goto (tgt := 130) C0.hx C0.hb dX15_digest_288 (by decide) ?_
      exact kt130 _ _ _ _ _ _ h hW (lv_sub hl [1, 2, 0] rfl)
    · replace h := (if_neg hc24).symm.trans h
      refine lv_lload_n C0.hx C0.hb dX15_digest_259 rfl (lv_at hl 1 rfl) ?_
      refine lv_ldc2 C0.hx C0.hb C0.hown (C0.hts _ tq_X15_364) dX15_digest_260 ?_
      refine lv_lmul C0.hx C0.hb dX15_digest_263 ?_
      refine lv_aload_n C0.hx C0.hb dX15_digest_264 rfl (lv_at hl 0 rfl) ?_
      refine lv_aload_n C0.hx C0.hb dX15_digest_265 rfl (lv_at hl 0 rfl) ?_
      refine gf_X15_17 C0 hW (C0.mem (i := 120) (Nat.le_of_ble_eq_true rfl)) k_120 tf_X15_48 dX15_digest_266 ?_
      refine lv_iload C0.hx C0.hb dX15_digest_269 (lv_at hl 2 rfl) ?_
      refine lv_iload C0.hx C0.hb dX15_digest_271 (lv_at hl 3 rfl) ?_
      obtain ⟨q25, hq25, h⟩ := Option.bind_eq_some_iff.mp h
      refine g_calli hW (g_runV (As := [.ref (g_ad G (152)), .int (l4), .int (l5)]) (rest := [.long (l2 * (31 : Int64))]) C0 hW (c_X15_distance k_152 hq25) (g_cwG (n := 3) tc_X15_distance tn_X15 md_X15_distance (by decide) (by omega) (by decide) (by decide)) tm_X15_296 ti_X15_distance ts_X15_distance (C0.mem (i := 120) (Nat.le_of_ble_eq_true rfl)) (g_c12 k_120) rfl rfl hl.1 rfl (Nat.le_of_ble_eq_true rfl) dX15_digest_273) (fun H locs hW => ?_)
      refine lv_i2l C0.hx C0.hb dX15_digest_276 rfl ?_
      refine lv_ladd C0.hx C0.hb dX15_digest_277 ?_
      refine lv_lstore_n (lv' := [(2, .long ((l2 * (31 : Int64)) + q25.1.toInt64)), (0, .ref (g_ad G (120))), (4, .int (l4)), (5, .int (l5))]) C0.hx C0.hb dX15_digest_278 rfl hl (by decide) rfl (fun ls hl => ?_)
      refine lv_iinc (v := l5 + (1 : Int32)) (lv' := [(5, .int (l5 + (1 : Int32))), (2, .long ((l2 * (31 : Int64)) + q25.1.toInt64)), (0, .ref (g_ad G (120))), (4, .int (l4))]) C0.hx C0.hb dX15_digest_279 hl (k := 3) rfl rfl (by decide) rfl (fun ls hl => ?_)
      refine lv_goto (tgt := 247) C0.hx C0.hb dX15_digest_282 (by decide) ?_
      exact ih _ _ _ _ _ _ _ h hW (lv_sub hl [2, 1, 3, 0] rfl)
set_option maxRecDepth 100000 in
set_option maxHeartbeats 4000000 in
theorem w_X15_digest_199 {p : Program} {l : Launch} {e : Env} {s : State} {m : MethodId} {args : Array Value} {below : List Frame} {meth : Method} {c : Code} {G : GL} {ids : List Nat} {x : CS} {o : Nat → Int32}  {q : Int64 × MS} {k130 : Int64 → Int32 → MS → Option (Int64 × MS)}  (h165 : 165 ∈ ids) (C0 : g_X G ids p s m args meth c cX15_digest 8 RX15 (Option.some Jvm.ClassFile.FieldType.long)) (kt130 : ∀ (l2 : Int64) (l4 : Int32) (y : MS) (H : Heap) (locs : List Loc) (ls : Array Slot),  k130 l2 l4 y = some q → g_W G ids (x, y, o) s.heap H locs → lv_has ls 8 [(0, .ref (g_ad G (120))), (2, .long (l2)), (4, .int (l4))] → W p l e (g_rm 7 1 7) s m args below meth c H locs 1 7 (MQ below (g_Ql G ids q.1 (x, q.2, o)) args s 1 7 (g_A G)) (F0 m 130 ls [])) : ∀ (n : Nat) (l2 : Int64) (l4 : Int32) (l5 : Int32) (y : MS) (H : Heap) (locs : List Loc) (ls : Array Slot),  f_X15_digest_199 k130 n l2 l4 l5 y = some q → g_W G ids (x, y, o) s.heap H locs → lv_has ls 8 [(0, .ref (g_ad G (120))), (2, .long (l2)), (4, .int (l4)), (5, .int (l5))] → W p l e (g_rm 7 1 7) s m args below meth c H locs 1 7 (MQ below (g_Ql G ids q.1 (x, q.2, o)) args s 1 7 (g_A G)) (F0 m 199 ls []) := by
  intro n
  induction n with
  | zero =>
    intro l2 l4 l5 y H locs ls h hW hl
    exact absurd h (by simp [f_X15_digest_199])
  | succ n ih =>
    intro l2 l4 l5 y H locs ls h hW hl
    unfold f_X15_digest_199 at h
    refine lv_iload C0.hx C0.hb dX15_digest_199 (lv_at hl 3 rfl) ?_
    refine lv_aload_n C0.hx C0.hb dX15_digest_201 rfl (lv_at hl 0 rfl) ?_
    refine gf_X15_17 C0 hW (C0.mem (i := 120) (Nat.le_of_ble_eq_true rfl)) k_120 tf_X15_48 dX15_digest_202 ?_
    refine gfN_X13_0 C0 hW (C0.mem (i := 152) (Nat.le_of_ble_eq_true rfl)) k_152 tfN_X15_270 dX15_digest_205 ?_
    refine lv_iload C0.hx C0.hb dX15_digest_208 (lv_at hl 2 rfl) ?_
    obtain ⟨hb21, h⟩ := g_if h
    refine ga_33 C0 hW (C0.mem (i := 153) (Nat.le_of_ble_eq_true rfl)) k_153 hb21 dX15_digest_210 ?_
    refine lv_icmp_ge (tgt := 244) C0.hx C0.hb dX15_digest_211 (by decide) (fun hc22 => ?_) (fun hc22 => ?_)
    · replace h := (if_pos hc22).symm.trans h
      refine lv_iconst (v := (0 : Int32)) C0.hx C0.hb dX15_digest_244 (by decide) ?_
      refine lv_istore (lv' := [(5, .int ((0 : Int32))), (0, .ref (g_ad G (120))), (2, .long (l2)), (4, .int (l4))]) C0.hx C0.hb dX15_digest_245 hl (by decide) rfl (fun ls hl => ?_)
      exact w_X15_digest_247 h165 C0 kt130 g_fuel _ _ _ _ _ _ _ h hW (lv_sub hl [1, 2, 3, 0] rfl)
    · replace h := (if_neg hc22).symm.trans h
      refine lv_lload_n C0.hx C0.hb dX15_digest_214 rfl (lv_at hl 1 rfl) ?_
      refine lv_ldc2 C0.hx C0.hb C0.hown (C0.hts _ tq_X15_364) dX15_digest_215 ?_
      refine lv_lmul C0.hx C0.hb dX15_digest_218 ?_
      refine lv_aload_n C0.hx C0.hb dX15_digest_219 rfl (lv_at hl 0 rfl) ?_
      refine gf_X15_17 C0 hW (C0.mem (i := 120) (Nat.le_of_ble_eq_true rfl)) k_120 tf_X15_48 dX15_digest_220 ?_
      refine gfN_X13_1 C0 hW (C0.mem (i := 152) (Nat.le_of_ble_eq_true rfl)) k_152 tfN_X15_271 dX15_digest_223 ?_
      refine lv_bipush (v := (24 : Int32)) C0.hx C0.hb dX15_digest_226 (by decide) ?_
      refine lv_iload C0.hx C0.hb dX15_digest_228 (lv_at hl 2 rfl) ?_
      refine lv_imul C0.hx C0.hb dX15_digest_230 ?_
      refine lv_iload C0.hx C0.hb dX15_digest_231 (lv_at hl 3 rfl) ?_
      refine lv_iadd C0.hx C0.hb dX15_digest_233 ?_
      obtain ⟨hb23, h⟩ := g_if h
      refine ga_34 C0 hW (C0.mem (i := 154) (Nat.le_of_ble_eq_true rfl)) k_154 hb23 dX15_digest_234 ?_
      refine lv_i2l C0.hx C0.hb dX15_digest_235 rfl ?_
      refine lv_ladd C0.hx C0.hb dX15_digest_236 ?_
      refine lv_lstore_n (lv' := [(2, .long ((l2 * (31 : Int64)) + ((y 154 (((24 : Int32) * l4) + l5).toNatClampNeg).toInt64))), (0, .ref (g_ad G (120))), (4, .int (l4)), (5, .int (l5))]) C0.hx C0.hb dX15_digest_237 rfl hl (by decide) rfl (fun ls hl => ?_)
      refine lv_iinc (v := l5 + (1 : Int32)) (lv' := [(5, .int (l5 + (1 : Int32))), (2, .long ((l2 * (31 : Int64)) + ((y 154 (((24 : Int32) * l4) + l5).toNatClampNeg).toInt64))), (0, .ref (g_ad G (120))), (4, .int (l4))]) C0.hx C0.hb dX15_digest_238 hl (k := 3) rfl rfl (by decide) rfl (fun ls hl => ?_)
      refine lv_goto (tgt := 199) C0.hx C0.hb dX15_digest_241 (by decide) ?_
      exact ih _ _ _ _ _ _ _ h hW (lv_sub hl [2, 1, 3, 0] rfl)
set_option maxRecDepth 100000 in
set_option maxHeartbeats 4000000 in
theorem w_X15_digest_130 {p : Program} {l : Launch} {e : Env} {s : State} {m : MethodId} {args : Array Value} {below : List Frame} {meth : Method} {c : Code} {G : GL} {ids : List Nat} {x : CS} {o : Nat → Int32}  {q : Int64 × MS}  (h165 : 165 ∈ ids) (C0 : g_X G ids p s m args meth c cX15_digest 8 RX15 (Option.some Jvm.ClassFile.FieldType.long))  : ∀ (n : Nat) (l2 : Int64) (l4 : Int32) (y : MS) (H : Heap) (locs : List Loc) (ls : Array Slot),  f_X15_digest_130 n l2 l4 y = some q → g_W G ids (x, y, o) s.heap H locs → lv_has ls 8 [(0, .ref (g_ad G (120))), (2, .long (l2)), (4, .int (l4))] → W p l e (g_rm 7 1 7) s m args below meth c H locs 1 7 (MQ below (g_Ql G ids q.1 (x, q.2, o)) args s 1 7 (g_A G)) (F0 m 130 ls []) := by
  intro n
  induction n with
  | zero =>
    intro l2 l4 y H locs ls h hW hl
    exact absurd h (by simp [f_X15_digest_130])
  | succ n ih =>
    intro l2 l4 y H locs ls h hW hl
    unfold f_X15_digest_130 at h
    refine lv_iload C0.hx C0.hb dX15_digest_130 (lv_at hl 2 rfl) ?_
    refine lv_aload_n C0.hx C0.hb dX15_digest_132 rfl (lv_at hl 0 rfl) ?_
    refine gf_X15_14 C0 hW (C0.mem (i := 120) (Nat.le_of_ble_eq_true rfl)) k_120 tf_X15_35 dX15_digest_133 ?_
    refine gfN_X14_2 C0 hW (C0.mem (i := 127) (Nat.le_of_ble_eq_true rfl)) k_127 tfN_X15_147 dX15_digest_136 ?_
    refine lv_icmp_ge (tgt := 291) C0.hx C0.hb dX15_digest_139 (by decide) (fun hc13 => ?_) (fun hc13 => ?_)
    · replace h := (if_pos hc13).symm.trans h
      refine lv_iconst (v := (0 : Int32)) C0.hx C0.hb dX15_digest_291 (by decide) ?_
      refine lv_istore (lv' := [(4, .int ((0 : Int32))), (0, .ref (g_ad G (120))), (2, .long (l2))]) C0.hx C0.hb dX15_digest_292 hl (by decide) rfl (fun ls hl => ?_)
      exact w_X15_digest_294 h165 C0 g_fuel _ _ _ _ _ _ h hW (lv_sub hl [1, 2, 0] rfl)
    · replace h := (if_neg hc13).symm.trans h
      refine lv_lload_n C0.hx C0.hb dX15_digest_142 rfl (lv_at hl 1 rfl) ?_
      refine lv_ldc2 C0.hx C0.hb C0.hown (C0.hts _ tq_X15_364) dX15_digest_143 ?_
      refine lv_lmul C0.hx C0.hb dX15_digest_146 ?_
      refine lv_aload_n C0.hx C0.hb dX15_digest_147 rfl (lv_at hl 0 rfl) ?_
      refine gf_X15_17 C0 hW (C0.mem (i := 120) (Nat.le_of_ble_eq_true rfl)) k_120 tf_X15_48 dX15_digest_148 ?_
      refine gfN_X13_0 C0 hW (C0.mem (i := 152) (Nat.le_of_ble_eq_true rfl)) k_152 tfN_X15_270 dX15_digest_151 ?_
      refine lv_iload C0.hx C0.hb dX15_digest_154 (lv_at hl 2 rfl) ?_
      obtain ⟨hb14, h⟩ := g_if h
      refine ga_33 C0 hW (C0.mem (i := 153) (Nat.le_of_ble_eq_true rfl)) k_153 hb14 dX15_digest_156 ?_
      refine lv_i2l C0.hx C0.hb dX15_digest_157 rfl ?_
      refine lv_ladd C0.hx C0.hb dX15_digest_158 ?_
      refine lv_ldc2 C0.hx C0.hb C0.hown (C0.hts _ tq_X15_364) dX15_digest_159 ?_
      refine lv_lmul C0.hx C0.hb dX15_digest_162 ?_
      refine lv_aload_n C0.hx C0.hb dX15_digest_163 rfl (lv_at hl 0 rfl) ?_
      refine gf_X15_17 C0 hW (C0.mem (i := 120) (Nat.le_of_ble_eq_true rfl)) k_120 tf_X15_48 dX15_digest_164 ?_
      refine gfN_X13_2 C0 hW (C0.mem (i := 152) (Nat.le_of_ble_eq_true rfl)) k_152 tfN_X15_293 dX15_digest_167 ?_
      refine lv_iload C0.hx C0.hb dX15_digest_170 (lv_at hl 2 rfl) ?_
      obtain ⟨hb15, h⟩ := g_if h
      refine ga_32 C0 hW (C0.mem (i := 155) (Nat.le_of_ble_eq_true rfl)) k_155 hb15 dX15_digest_172 ?_
      refine lv_i2l C0.hx C0.hb dX15_digest_173 rfl ?_
      refine lv_ladd C0.hx C0.hb dX15_digest_174 ?_
      refine lv_ldc2 C0.hx C0.hb C0.hown (C0.hts _ tq_X15_364) dX15_digest_175 ?_
      refine lv_lmul C0.hx C0.hb dX15_digest_178 ?_
      refine lv_aload_n C0.hx C0.hb dX15_digest_179 rfl (lv_at hl 0 rfl) ?_
      refine lv_iload C0.hx C0.hb dX15_digest_180 (lv_at hl 2 rfl) ?_
      obtain ⟨q16, hq16, h⟩ := Option.bind_eq_some_iff.mp h
      refine g_calli hW (g_runV (As := [.int (l4)]) (rest := [.long (((((l2 * (31 : Int64)) + ((y 153 l4.toNatClampNeg).toInt64)) * (31 : Int64)) + ((y 155 l4.toNatClampNeg).toInt64)) * (31 : Int64))]) C0 hW (c_X15_needless hq16) (g_cwG (n := 1) tc_X15_needless tn_X15 md_X15_needless (by decide) (by omega) (by decide) (by decide)) tm_X15_350 ti_X15_needless ts_X15_needless (C0.mem (i := 120) (Nat.le_of_ble_eq_true rfl)) (g_c12 k_120) rfl rfl hl.1 rfl (Nat.le_of_ble_eq_true rfl) dX15_digest_182) (fun H locs hW => ?_)
      refine lv_if_eq (tgt := 192) C0.hx C0.hb dX15_digest_185 (by decide) (fun hc17 => ?_) (fun hc17 => ?_)
      · replace h := (if_pos hc17).symm.trans h
        refine lv_iconst (v := (0 : Int32)) C0.hx C0.hb dX15_digest_192 (by decide) ?_
        refine lv_i2l C0.hx C0.hb dX15_digest_193 rfl ?_
        refine lv_ladd C0.hx C0.hb dX15_digest_194 ?_
        refine lv_lstore_n (lv' := [(2, .long ((((((l2 * (31 : Int64)) + ((y 153 l4.toNatClampNeg).toInt64)) * (31 : Int64)) + ((y 155 l4.toNatClampNeg).toInt64)) * (31 : Int64)) + ((0 : Int32).toInt64))), (0, .ref (g_ad G (120))), (4, .int (l4))]) C0.hx C0.hb dX15_digest_195 rfl hl (by decide) rfl (fun ls hl => ?_)
        refine lv_iconst (v := (0 : Int32)) C0.hx C0.hb dX15_digest_196 (by decide) ?_
        refine lv_istore (lv' := [(5, .int ((0 : Int32))), (2, .long ((((((l2 * (31 : Int64)) + ((y 153 l4.toNatClampNeg).toInt64)) * (31 : Int64)) + ((y 155 l4.toNatClampNeg).toInt64)) * (31 : Int64)) + ((0 : Int32).toInt64))), (0, .ref (g_ad G (120))), (4, .int (l4))]) C0.hx C0.hb dX15_digest_197 hl (by decide) rfl (fun ls hl => ?_)
        exact w_X15_digest_199 h165 C0 ih g_fuel _ _ _ _ _ _ _ h hW (lv_sub hl [2, 1, 3, 0] rfl)
      · replace h := (if_neg hc17).symm.trans h
        refine lv_iconst (v := (1 : Int32)) C0.hx C0.hb dX15_digest_188 (by decide) ?_
        refine lv_goto (tgt := 193) C0.hx C0.hb dX15_digest_189 (by decide) ?_
        refine lv_i2l C0.hx C0.hb dX15_digest_193 rfl ?_
        refine lv_ladd C0.hx C0.hb dX15_digest_194 ?_
        refine lv_lstore_n (lv' := [(2, .long ((((((l2 * (31 : Int64)) + ((y 153 l4.toNatClampNeg).toInt64)) * (31 : Int64)) + ((y 155 l4.toNatClampNeg).toInt64)) * (31 : Int64)) + ((1 : Int32).toInt64))), (0, .ref (g_ad G (120))), (4, .int (l4))]) C0.hx C0.hb dX15_digest_195 rfl hl (by decide) rfl (fun ls hl => ?_)
        refine lv_iconst (v := (0 : Int32)) C0.hx C0.hb dX15_digest_196 (by decide) ?_
        refine lv_istore (lv' := [(5, .int ((0 : Int32))), (2, .long ((((((l2 * (31 : Int64)) + ((y 153 l4.toNatClampNeg).toInt64)) * (31 : Int64)) + ((y 155 l4.toNatClampNeg).toInt64)) * (31 : Int64)) + ((1 : Int32).toInt64))), (0, .ref (g_ad G (120))), (4, .int (l4))]) C0.hx C0.hb dX15_digest_197 hl (by decide) rfl (fun ls hl => ?_)
        exact w_X15_digest_199 h165 C0 ih g_fuel _ _ _ _ _ _ _ h hW (lv_sub hl [2, 1, 3, 0] rfl)
set_option maxRecDepth 100000 in
set_option maxHeartbeats 4000000 in
theorem w_X15_digest_97 {p : Program} {l : Launch} {e : Env} {s : State} {m : MethodId} {args : Array Value} {below : List Frame} {meth : Method} {c : Code} {G : GL} {ids : List Nat} {x : CS} {o : Nat → Int32}  {q : Int64 × MS}  (h165 : 165 ∈ ids) (C0 : g_X G ids p s m args meth c cX15_digest 8 RX15 (Option.some Jvm.ClassFile.FieldType.long))  : ∀ (n : Nat) (l2 : Int64) (l5 : Int32) (l6 : Int32) (y : MS) (H : Heap) (locs : List Loc) (ls : Array Slot),  f_X15_digest_97 n l2 l5 l6 y = some q → g_W G ids (x, y, o) s.heap H locs → lv_has ls 8 [(0, .ref (g_ad G (120))), (2, .long (l2)), (4, .ref (g_ad G (165))), (5, .int (l5)), (6, .int (l6))] → W p l e (g_rm 7 1 7) s m args below meth c H locs 1 7 (MQ below (g_Ql G ids q.1 (x, q.2, o)) args s 1 7 (g_A G)) (F0 m 97 ls []) := by
  intro n
  induction n with
  | zero =>
    intro l2 l5 l6 y H locs ls h hW hl
    exact absurd h (by simp [f_X15_digest_97])
  | succ n ih =>
    intro l2 l5 l6 y H locs ls h hW hl
    unfold f_X15_digest_97 at h
    refine lv_iload C0.hx C0.hb dX15_digest_97 (lv_at hl 4 rfl) ?_
    refine lv_iload C0.hx C0.hb dX15_digest_99 (lv_at hl 3 rfl) ?_
    refine lv_icmp_ge (tgt := 127) C0.hx C0.hb dX15_digest_101 (by decide) (fun hc11 => ?_) (fun hc11 => ?_)
    · replace h := (if_pos hc11).symm.trans h
      refine lv_iconst (v := (0 : Int32)) C0.hx C0.hb dX15_digest_127 (by decide) ?_
      refine lv_istore (lv' := [(4, .int ((0 : Int32))), (0, .ref (g_ad G (120))), (2, .long (l2)), (5, .int (l5)), (6, .int (l6))]) C0.hx C0.hb dX15_digest_128 hl (by decide) rfl (fun ls hl => ?_)
      exact w_X15_digest_130 h165 C0 g_fuel _ _ _ _ _ _ h hW (lv_sub hl [1, 2, 0] rfl)
    · replace h := (if_neg hc11).symm.trans h
      refine lv_aload C0.hx C0.hb dX15_digest_104 (lv_at hl 2 rfl) ?_
      refine lv_iload C0.hx C0.hb dX15_digest_106 (lv_at hl 4 rfl) ?_
      obtain ⟨hb12, h⟩ := g_if h
      refine ga_40 C0 hW h165 k_165 hb12 dX15_digest_108 ?_
      refine lv_istore (lv' := [(7, .int (y 165 l6.toNatClampNeg)), (0, .ref (g_ad G (120))), (2, .long (l2)), (4, .ref (g_ad G (165))), (5, .int (l5)), (6, .int (l6))]) C0.hx C0.hb dX15_digest_109 hl (by decide) rfl (fun ls hl => ?_)
      refine lv_lload_n C0.hx C0.hb dX15_digest_111 rfl (lv_at hl 2 rfl) ?_
      refine lv_ldc2 C0.hx C0.hb C0.hown (C0.hts _ tq_X15_364) dX15_digest_112 ?_
      refine lv_lmul C0.hx C0.hb dX15_digest_115 ?_
      refine lv_iload C0.hx C0.hb dX15_digest_116 (lv_at hl 0 rfl) ?_
      refine lv_i2l C0.hx C0.hb dX15_digest_118 rfl ?_
      refine lv_ladd C0.hx C0.hb dX15_digest_119 ?_
      refine lv_lstore_n (lv' := [(2, .long ((l2 * (31 : Int64)) + ((y 165 l6.toNatClampNeg).toInt64))), (7, .int (y 165 l6.toNatClampNeg)), (0, .ref (g_ad G (120))), (4, .ref (g_ad G (165))), (5, .int (l5)), (6, .int (l6))]) C0.hx C0.hb dX15_digest_120 rfl hl (by decide) rfl (fun ls hl => ?_)
      refine lv_iinc (v := l6 + (1 : Int32)) (lv' := [(6, .int (l6 + (1 : Int32))), (2, .long ((l2 * (31 : Int64)) + ((y 165 l6.toNatClampNeg).toInt64))), (7, .int (y 165 l6.toNatClampNeg)), (0, .ref (g_ad G (120))), (4, .ref (g_ad G (165))), (5, .int (l5))]) C0.hx C0.hb dX15_digest_121 hl (k := 5) rfl rfl (by decide) rfl (fun ls hl => ?_)
      refine lv_goto (tgt := 97) C0.hx C0.hb dX15_digest_124 (by decide) ?_
      exact ih _ _ _ _ _ _ _ h hW (lv_sub hl [3, 1, 4, 5, 0] rfl)
set_option maxRecDepth 100000 in
set_option maxHeartbeats 4000000 in
theorem c_X15_digest {l : Launch} {G : GL} {ids : List Nat} {x : CS} {o : Nat → Int32} {y : MS}  {q : Int64 × MS}  (hids : ∀ i ∈ ids, i < 162) (hx : g_okR x)  (h : f_X15_digest y = some q) : Met l yX15_digest (.code yX15_digest cX15_digest 8 (Option.some Jvm.ClassFile.FieldType.long) :: gT) (g_rm 7 1 7) (va_Pc [.ref (g_ad G (120))] (g_P G ids (x, y, o))) (g_Ql G ids q.1 (x, q.2, o)) 1 7 (g_A G) := by
  unfold f_X15_digest at h
  refine g_entry (by decide) (Nat.le_of_ble_eq_true rfl) (fun p e s m args below meth c ls C0 hl hW _ => ?_)
  have hl : lv_has ls 8 [(0, .ref (g_ad G (120)))] := hl
  refine lv_bipush (v := (7 : Int32)) C0.hx C0.hb dX15_digest_0 (by decide) ?_
  refine g_newT (k := 165) (N := 7) C0 hW hids hx (by decide) (fun _ _ => g_c40 k_165) (fun _ => rfl) (by decide) (by decide) (Nat.le_of_ble_eq_true rfl) (Nat.le_of_ble_eq_true rfl) (Nat.le_of_ble_eq_true rfl) dX15_digest_2 (fun G2 f ids2 H hG2 hf hfa hi2 C0 hW => ?_)
  have h165 : 165 ∈ ids2 := by rw [hi2]; simp
  have hl : lv_has ls 8 [(0, .ref (g_ad G2 (120)))] := by rw [hfa 120 (by decide)]; exact hl
  refine g_shML hG2 hf hids hi2 hx ?_
  refine lv_dup C0.hx C0.hb dX15_digest_4 rfl ?_
  refine lv_iconst (v := (0 : Int32)) C0.hx C0.hb dX15_digest_5 (by decide) ?_
  refine lv_aload_n C0.hx C0.hb dX15_digest_6 rfl (lv_at hl 0 rfl) ?_
  refine gf_X15_14 C0 hW (C0.mem (i := 120) (Nat.le_of_ble_eq_true rfl)) k_120 tf_X15_35 dX15_digest_7 ?_
  refine gfN_X14_2 C0 hW (C0.mem (i := 127) (Nat.le_of_ble_eq_true rfl)) k_127 tfN_X15_147 dX15_digest_10 ?_
  obtain ⟨hb1, h⟩ := g_if h
  refine gs_40 C0 hW h165 k_165 hb1 dX15_digest_13 (fun H locs hW => ?_)
  refine lv_dup C0.hx C0.hb dX15_digest_14 rfl ?_
  refine lv_iconst (v := (1 : Int32)) C0.hx C0.hb dX15_digest_15 (by decide) ?_
  refine lv_aload_n C0.hx C0.hb dX15_digest_16 rfl (lv_at hl 0 rfl) ?_
  refine lv_aload_n C0.hx C0.hb dX15_digest_17 rfl (lv_at hl 0 rfl) ?_
  refine gf_X15_17 C0 hW (C0.mem (i := 120) (Nat.le_of_ble_eq_true rfl)) k_120 tf_X15_48 dX15_digest_18 ?_
  obtain ⟨q2, hq2, h⟩ := Option.bind_eq_some_iff.mp h
  refine g_calli hW (g_runV (As := [.ref (g_ad G2 (152))]) (rest := [.int ((1 : Int32)), .ref (g_ad G2 (165)), .ref (g_ad G2 (165))]) C0 hW (c_X15_kept k_152 hq2) (g_cwG (n := 1) tc_X15_kept tn_X15 md_X15_kept (by decide) (by omega) (by decide) (by decide)) tm_X15_306 ti_X15_kept ts_X15_kept (C0.mem (i := 120) (Nat.le_of_ble_eq_true rfl)) (g_c12 k_120) rfl rfl hl.1 rfl (Nat.le_of_ble_eq_true rfl) dX15_digest_21) (fun H locs hW => ?_)
  obtain ⟨hb3, h⟩ := g_if h
  refine gs_40 C0 hW h165 k_165 hb3 dX15_digest_24 (fun H locs hW => ?_)
  refine lv_dup C0.hx C0.hb dX15_digest_25 rfl ?_
  refine lv_iconst (v := (2 : Int32)) C0.hx C0.hb dX15_digest_26 (by decide) ?_
  refine lv_aload_n C0.hx C0.hb dX15_digest_27 rfl (lv_at hl 0 rfl) ?_
  refine gf_X15_14 C0 hW (C0.mem (i := 120) (Nat.le_of_ble_eq_true rfl)) k_120 tf_X15_35 dX15_digest_28 ?_
  refine gfN_X14_5 C0 hW (C0.mem (i := 127) (Nat.le_of_ble_eq_true rfl)) k_127 tfN_X15_223 dX15_digest_31 ?_
  obtain ⟨hb4, h⟩ := g_if h
  refine gs_40 C0 hW h165 k_165 hb4 dX15_digest_34 (fun H locs hW => ?_)
  refine lv_dup C0.hx C0.hb dX15_digest_35 rfl ?_
  refine lv_iconst (v := (3 : Int32)) C0.hx C0.hb dX15_digest_36 (by decide) ?_
  refine lv_aload_n C0.hx C0.hb dX15_digest_37 rfl (lv_at hl 0 rfl) ?_
  refine gf_X15_17 C0 hW (C0.mem (i := 120) (Nat.le_of_ble_eq_true rfl)) k_120 tf_X15_48 dX15_digest_38 ?_
  refine gfN_X13_3 C0 hW (C0.mem (i := 152) (Nat.le_of_ble_eq_true rfl)) k_152 tfN_X15_303 dX15_digest_41 ?_
  obtain ⟨hb5, h⟩ := g_if h
  refine gs_40 C0 hW h165 k_165 hb5 dX15_digest_44 (fun H locs hW => ?_)
  refine lv_dup C0.hx C0.hb dX15_digest_45 rfl ?_
  refine lv_iconst (v := (4 : Int32)) C0.hx C0.hb dX15_digest_46 (by decide) ?_
  refine lv_aload_n C0.hx C0.hb dX15_digest_47 rfl (lv_at hl 0 rfl) ?_
  refine gf_X15_17 C0 hW (C0.mem (i := 120) (Nat.le_of_ble_eq_true rfl)) k_120 tf_X15_48 dX15_digest_48 ?_
  refine gfN_X13_4 C0 hW (C0.mem (i := 152) (Nat.le_of_ble_eq_true rfl)) k_152 tfN_X15_338 dX15_digest_51 ?_
  obtain ⟨hb6, h⟩ := g_if h
  refine gs_40 C0 hW h165 k_165 hb6 dX15_digest_54 (fun H locs hW => ?_)
  refine lv_dup C0.hx C0.hb dX15_digest_55 rfl ?_
  refine lv_iconst (v := (5 : Int32)) C0.hx C0.hb dX15_digest_56 (by decide) ?_
  refine lv_aload_n C0.hx C0.hb dX15_digest_57 rfl (lv_at hl 0 rfl) ?_
  refine gf_X15_17 C0 hW (C0.mem (i := 120) (Nat.le_of_ble_eq_true rfl)) k_120 tf_X15_48 dX15_digest_58 ?_
  refine gfN_X13_0 C0 hW (C0.mem (i := 152) (Nat.le_of_ble_eq_true rfl)) k_152 tfN_X15_270 dX15_digest_61 ?_
  refine lv_bipush (v := (8 : Int32)) C0.hx C0.hb dX15_digest_64 (by decide) ?_
  obtain ⟨hb7, h⟩ := g_if h
  refine ga_33 C0 hW (C0.mem (i := 153) (Nat.le_of_ble_eq_true rfl)) k_153 hb7 dX15_digest_66 ?_
  obtain ⟨hb8, h⟩ := g_if h
  refine gs_40 C0 hW h165 k_165 hb8 dX15_digest_67 (fun H locs hW => ?_)
  refine lv_dup C0.hx C0.hb dX15_digest_68 rfl ?_
  refine lv_bipush (v := (6 : Int32)) C0.hx C0.hb dX15_digest_69 (by decide) ?_
  refine lv_aload_n C0.hx C0.hb dX15_digest_71 rfl (lv_at hl 0 rfl) ?_
  refine lv_aload_n C0.hx C0.hb dX15_digest_72 rfl (lv_at hl 0 rfl) ?_
  refine gf_X15_17 C0 hW (C0.mem (i := 120) (Nat.le_of_ble_eq_true rfl)) k_120 tf_X15_48 dX15_digest_73 ?_
  refine lv_iconst (v := (-1 : Int32)) C0.hx C0.hb dX15_digest_76 (by decide) ?_
  obtain ⟨q9, hq9, h⟩ := Option.bind_eq_some_iff.mp h
  refine g_calli hW (g_runV (As := [.ref (g_ad G2 (152)), .int ((-1 : Int32))]) (rest := [.int ((6 : Int32)), .ref (g_ad G2 (165)), .ref (g_ad G2 (165))]) C0 hW (c_X15_meant k_152 hq9) (g_cwG (n := 2) tc_X15_meant tn_X15 md_X15_meant (by decide) (by omega) (by decide) (by decide)) tm_X15_310 ti_X15_meant ts_X15_meant (C0.mem (i := 120) (Nat.le_of_ble_eq_true rfl)) (g_c12 k_120) rfl rfl hl.1 rfl (Nat.le_of_ble_eq_true rfl) dX15_digest_77) (fun H locs hW => ?_)
  obtain ⟨hb10, h⟩ := g_if h
  refine gs_40 C0 hW h165 k_165 hb10 dX15_digest_80 (fun H locs hW => ?_)
  refine lv_astore_n (lv' := [(1, .ref (g_ad G2 (165))), (0, .ref (g_ad G2 (120)))]) C0.hx C0.hb dX15_digest_81 rfl hl (by decide) rfl (fun ls hl => ?_)
  refine lv_ldc2 C0.hx C0.hb C0.hown (C0.hts _ tq_X15_362) dX15_digest_82 ?_
  refine lv_lstore_n (lv' := [(2, .long ((1019 : Int64))), (1, .ref (g_ad G2 (165))), (0, .ref (g_ad G2 (120)))]) C0.hx C0.hb dX15_digest_85 rfl hl (by decide) rfl (fun ls hl => ?_)
  refine lv_aload_n C0.hx C0.hb dX15_digest_86 rfl (lv_at hl 1 rfl) ?_
  refine lv_astore (lv' := [(4, .ref (g_ad G2 (165))), (2, .long ((1019 : Int64))), (1, .ref (g_ad G2 (165))), (0, .ref (g_ad G2 (120)))]) C0.hx C0.hb dX15_digest_87 hl (by decide) rfl (fun ls hl => ?_)
  refine lv_aload C0.hx C0.hb dX15_digest_89 (lv_at hl 0 rfl) ?_
  refine gl_40 C0 hW h165 k_165 dX15_digest_91 ?_
  refine lv_istore (lv' := [(5, .int ((7 : Int32))), (4, .ref (g_ad G2 (165))), (2, .long ((1019 : Int64))), (1, .ref (g_ad G2 (165))), (0, .ref (g_ad G2 (120)))]) C0.hx C0.hb dX15_digest_92 hl (by decide) rfl (fun ls hl => ?_)
  refine lv_iconst (v := (0 : Int32)) C0.hx C0.hb dX15_digest_94 (by decide) ?_
  refine lv_istore (lv' := [(6, .int ((0 : Int32))), (5, .int ((7 : Int32))), (4, .ref (g_ad G2 (165))), (2, .long ((1019 : Int64))), (1, .ref (g_ad G2 (165))), (0, .ref (g_ad G2 (120)))]) C0.hx C0.hb dX15_digest_95 hl (by decide) rfl (fun ls hl => ?_)
  exact w_X15_digest_97 h165 C0 g_fuel _ _ _ _ _ _ _ h hW (lv_sub hl [5, 3, 2, 1, 0] rfl)
def f_X12_teach (x : CS) : Option (Int32 × CS) :=
  (f_X8_readTape x).bind fun q1 => if g_okRb q1 = true then ((f_X2_readLanguage (g_pz q1 (q1.2 0 8) (q1.2 0 9))).bind fun q2 => if ((g_wi (g_wi q2 1 1 (0 : Int32)) 0 10 ((g_wi q2 1 1 (0 : Int32)).1 162 9)).1 162 8) = 0 then ((f_X12_beginAnew (g_wi (g_wi q2 1 1 (0 : Int32)) 0 10 ((g_wi q2 1 1 (0 : Int32)).1 162 9))).bind fun q4 => some ((q4.1 162 8, q4))) else (some (((g_wi (g_wi q2 1 1 (0 : Int32)) 0 10 ((g_wi q2 1 1 (0 : Int32)).1 162 9)).1 162 8, g_wi (g_wi q2 1 1 (0 : Int32)) 0 10 ((g_wi q2 1 1 (0 : Int32)).1 162 9))))) else none
set_option maxRecDepth 100000 in
set_option maxHeartbeats 4000000 in
theorem c_X12_teach {l : Launch} {G : GL} {ids : List Nat} {y : MS} {o : Nat → Int32} {x : CS}  {q : Int32 × CS}  (hids : ∀ i ∈ ids, i < 162) (hx : g_okR x) (hx2 : g_okR q.2)  (h : f_X12_teach x = some q) : Met l yX12_teach (.code yX12_teach cX12_teach 2 (Option.some Jvm.ClassFile.FieldType.int) :: gT) (g_rm 119 2 18) (va_Pc [.ref (g_ad G (0))] (g_P G ids (x, y, o))) (g_Qi G ids q.1 (q.2, y, o)) 2 18 (g_A G) := by
  unfold f_X12_teach at h
  refine g_entry (by decide) (Nat.le_of_ble_eq_true rfl) (fun p e s m args below meth c ls C0 hl hW _ => ?_)
  have hl : lv_has ls 2 [(0, .ref (g_ad G (0)))] := hl
  refine lv_aload_n C0.hx C0.hb dX12_teach_0 rfl (lv_at hl 0 rfl) ?_
  refine gf_X12_1 C0 hW (C0.mem (i := 0) (Nat.le_of_ble_eq_true rfl)) k_0 tf_X12_21 dX12_teach_1 ?_
  obtain ⟨q1, hq1, h⟩ := Option.bind_eq_some_iff.mp h
  refine g_callv hW (g_runV (As := []) (rest := []) C0 hW (c_X8_readTape hq1) (g_cwG (n := 0) tc_X8_readTape tn_X8 md_X8_readTape (by decide) (by omega) (by decide) (by decide)) tm_X12_94 ti_X8_readTape ts_X8_readTape (C0.mem (i := 3) (Nat.le_of_ble_eq_true rfl)) (g_c3 k_3) rfl rfl hl.1 rfl (Nat.le_of_ble_eq_true rfl) dX12_teach_4) (fun H locs hW => ?_)
  obtain ⟨hb_, h⟩ := g_if h
  have hx1_ := g_okRb_of hb_
  refine va_new (ci := 1) (fs := [.null, .null, .null, .null, .int 0, .null, .int 0, .int 0, .int 0, .int 0]) (C := RX2) (T := TX2) (N := 10) C0.hx C0.hb C0.hts tu_X2 tyX2 tyX2_ok C0.hown (C0.hts _ tl_X12_97) (C0.hts _ ta_X2) (C0.hts _ tn_X2) C0.hK hW.1 hW.2.1 hW.2.2 (fun q h => Nat.le_trans C0.hG.2.1 h) rfl (fun j hj => by rcases (show j = 0 ∨ j = 1 ∨ j = 2 ∨ j = 3 ∨ j = 4 ∨ j = 5 ∨ j = 6 ∨ j = 7 ∨ j = 8 ∨ j = 9 by omega) with rfl | rfl | rfl | rfl | rfl | rfl | rfl | rfl | rfl | rfl <;> rfl) (Nat.le_of_ble_eq_true rfl) (Nat.le_of_ble_eq_true rfl) dX12_teach_7 (fun za1 H hP hD hS => ?_)
  have hW : g_W G ids (q1, y, o) s.heap H locs := ⟨g_Pl hP, g_Dl hD, hS⟩
  refine lv_dup C0.hx C0.hb dX12_teach_10 rfl ?_
  refine lv_aload_n C0.hx C0.hb dX12_teach_11 rfl (lv_at hl 0 rfl) ?_
  refine gf_X12_1 C0 hW (C0.mem (i := 0) (Nat.le_of_ble_eq_true rfl)) k_0 tf_X12_21 dX12_teach_12 ?_
  refine lv_aload_n C0.hx C0.hb dX12_teach_15 rfl (lv_at hl 0 rfl) ?_
  refine gf_X12_8 C0 hW (C0.mem (i := 0) (Nat.le_of_ble_eq_true rfl)) k_0 tf_X12_65 dX12_teach_16 ?_
  refine lv_aload_n C0.hx C0.hb dX12_teach_19 rfl (lv_at hl 0 rfl) ?_
  refine gf_X12_9 C0 hW (C0.mem (i := 0) (Nat.le_of_ble_eq_true rfl)) k_0 tf_X12_68 dX12_teach_20 ?_
  refine g_ctorI (ws := g_wl G ids (q1, y, o)) (raw := .inr (1, [.null, .null, .null, .null, .int 0, .null, .int 0, .int 0, .int 0, .int 0])) (As := [.ref (g_ad G 3), .ref (g_ad G (q1.2 0 8)), .ref (g_ad G (q1.2 0 9))]) (rest := [.ref za1]) (g_X161 C0) hP hD hS (fun q h => Nat.le_trans C0.hG.2.1 h) (fun a h => h) (bo := false) (fun h => absurd h (by decide)) (c_X2_init (a1 := g_ad G 3) (a2 := g_ad G (q1.2 0 8)) (a3 := g_ad G (q1.2 0 9))) (g_cwG (n := 3) tc_X2_init tn_X2 md_X2_init (by decide) (by decide) (by decide) (by decide)) tm_X12_99 rfl ti_X2_init rfl hl.1 rfl (Nat.le_of_ble_eq_true rfl) dX12_teach_23 (fun w1 H locs hL hP hD hS => ?_)
  obtain ⟨za2, rfl⟩ := hL
  obtain ⟨f, hfe⟩ : ∃ f, f = (fun i => if i = 162 then za1 else if i = 163 then za2 else g_ad G i) := ⟨_, rfl⟩
  have hf : ∀ i, i < 162 → f i = g_ad G i := fun i hi => by rw [hfe]; show (if i = 162 then za1 else if i = 163 then za2 else g_ad G i) = _; rw [if_neg (by omega), if_neg (by omega)]
  have e1 : f 162 = za1 := by rw [hfe]; rfl
  have e2 : f 163 = za2 := by rw [hfe]; rfl
  have hx1 : g_okR q1 := hx1_
  have hw : g_LParser G za1 (g_ad G 3) (g_ad G (q1.2 0 8)) (g_ad G (q1.2 0 9)) za2 = g_wl (g_re G f) [162, 163] (g_pz q1 (q1.2 0 8) (q1.2 0 9), y, o) := by (show _ = [(f 162, g_c (g_re G f) _ 162), (f 163, g_c (g_re G f) _ 163)]; rw [g_c11 k_162, g_c29 k_163, e1, e2]; show _ = ([(za1, .inr (1, [.ref (f 3), .ref (f (q1.2 0 8)), .ref (f (q1.2 0 9)), .ref (f 163), .int (-1), .ref (g_sg G 45), .int 0, .int 0, .int 0, .int (-1)])), (za2, .inl (g_cA G 0, 8, .inl (fun _ => 0)))] : va_W); rw [hf 3 (by decide), hf (q1.2 0 8) (Nat.lt_trans hx1.2.2.1 (by decide)), hf (q1.2 0 9) (Nat.lt_trans hx1.2.2.2 (by decide)), e2])
  have hS1 : ∀ i, i < 162 → g_c G (g_pz q1 (q1.2 0 8) (q1.2 0 9), y, o) i = g_c G (q1, y, o) i := fun i hi => g_cc (by simp only [g_pz]; rw [if_neg (by omega), if_neg (by omega)]) (by simp only [g_pz]; rw [if_neg (by omega)]) rfl rfl
  have hx3 : g_okR (g_pz q1 (q1.2 0 8) (q1.2 0 9)) := hx1
  have hW := g_ext hids hf hx3 hS1 hw hP hD hS
  obtain ⟨ids2, hi2⟩ : ∃ z, z = ids ++ [162, 163] := ⟨_, rfl⟩
  rw [← hi2] at hW
  have C0 := g_Xre (f := f) C0 hi2
  have hfa : ∀ i, i < 162 → g_ad (g_re G f) i = g_ad G i := hf
  obtain ⟨G2, hG2⟩ : ∃ z, z = g_re G f := ⟨_, rfl⟩
  rw [← e1]
  have e3 : f 162 = g_ad G2 162 := by rw [hG2]; rfl
  rw [e3]
  rw [← hG2] at hW C0 hfa
  have h162 : 162 ∈ ids2 := by rw [hi2]; simp
  have h163 : 163 ∈ ids2 := by rw [hi2]; simp
  have hl : lv_has ls 2 [(0, .ref (g_ad G2 (0)))] := by rw [hfa 0 (by decide)]; exact hl
  refine g_shMI hG2 hf hids hi2 hx2 ?_
  refine lv_astore_n (lv' := [(1, .ref (g_ad G2 (162))), (0, .ref (g_ad G2 (0)))]) C0.hx C0.hb dX12_teach_26 rfl hl (by decide) rfl (fun ls hl => ?_)
  refine lv_aload_n C0.hx C0.hb dX12_teach_27 rfl (lv_at hl 0 rfl) ?_
  obtain ⟨q2, hq2, h⟩ := Option.bind_eq_some_iff.mp h
  refine g_callv hW (g_runV (As := []) (rest := []) C0 hW (c_X2_readLanguage h162 h163 hq2) (g_cwG (n := 0) tc_X2_readLanguage tn_X2 md_X2_readLanguage (by decide) (by omega) (by decide) (by decide)) tm_X12_102 ti_X2_readLanguage ts_X2_readLanguage h162 (g_c11 k_162) rfl rfl hl.1 rfl (Nat.le_of_ble_eq_true rfl) dX12_teach_28) (fun H locs hW => ?_)
  refine lv_aload_n C0.hx C0.hb dX12_teach_31 rfl (lv_at hl 1 rfl) ?_
  refine gf_X12_0 C0 hW (C0.mem (i := 0) (Nat.le_of_ble_eq_true rfl)) k_0 tf_X12_10 dX12_teach_32 ?_
  refine lv_iconst (v := (0 : Int32)) C0.hx C0.hb dX12_teach_35 (by decide) ?_
  refine gpN_X7_1 C0 hW (C0.mem (i := 1) (Nat.le_of_ble_eq_true rfl)) k_1 tfN_X12_75 dX12_teach_36 (fun H locs hW => ?_)
  refine lv_aload_n C0.hx C0.hb dX12_teach_39 rfl (lv_at hl 1 rfl) ?_
  refine lv_aload_n C0.hx C0.hb dX12_teach_40 rfl (lv_at hl 0 rfl) ?_
  refine gfN_X2_9 C0 hW h162 k_162 tfN_X12_105 dX12_teach_41 ?_
  refine gp_X12_10 C0 hW (C0.mem (i := 0) (Nat.le_of_ble_eq_true rfl)) k_0 tf_X12_71 dX12_teach_44 (fun H locs hW => ?_)
  refine lv_aload_n C0.hx C0.hb dX12_teach_47 rfl (lv_at hl 0 rfl) ?_
  refine gfN_X2_8 C0 hW h162 k_162 tfN_X12_108 dX12_teach_48 ?_
  refine lv_if_ne (tgt := 58) C0.hx C0.hb dX12_teach_51 (by decide) (fun hc3 => ?_) (fun hc3 => ?_)
  · replace h := (if_neg hc3).symm.trans h
    refine lv_aload_n C0.hx C0.hb dX12_teach_58 rfl (lv_at hl 0 rfl) ?_
    refine gfN_X2_8 C0 hW h162 k_162 tfN_X12_108 dX12_teach_59 ?_
    obtain rfl := Option.some.inj h
    exact g_iret C0 hW rfl rfl rfl dX12_teach_62
  · replace h := (if_pos hc3).symm.trans h
    refine lv_aload_n C0.hx C0.hb dX12_teach_54 rfl (lv_at hl 1 rfl) ?_
    obtain ⟨q4, hq4, h⟩ := Option.bind_eq_some_iff.mp h
    refine g_callv hW (g_runV (As := []) (rest := []) C0 hW (c_X12_beginAnew hq4) (g_cwG (n := 0) tc_X12_beginAnew tn_X12 md_X12_beginAnew (by decide) (by omega) (by decide) (by decide)) tm_X12_111 ti_X12_beginAnew ts_X12_beginAnew (C0.mem (i := 0) (Nat.le_of_ble_eq_true rfl)) (g_c1 k_0) rfl rfl hl.1 rfl (Nat.le_of_ble_eq_true rfl) dX12_teach_55) (fun H locs hW => ?_)
    refine lv_aload_n C0.hx C0.hb dX12_teach_58 rfl (lv_at hl 0 rfl) ?_
    refine gfN_X2_8 C0 hW h162 k_162 tfN_X12_108 dX12_teach_59 ?_
    obtain rfl := Option.some.inj h
    exact g_iret C0 hW rfl rfl rfl dX12_teach_62
