/-! the whole class's and the whole reference's constructor: their lists become the world by numbers -/
def g_re (G : GL) (f : Nat → Nat) : GL := (G.1, G.2.1, f, G.2.2.2)
def g_x0 : CS := (fun i => match kd i with | 1 => (fun k => if k = 10 then -1 else 0) | 7 => (fun k => if k = 6 then 4 else if k = 7 then 6 else 0) | 8 => (fun k => if k = 1 then -1 else 0) | 10 => (fun k => if k = 2 then 999 else 0) | _ => fun _ => 0, fun i => match kd i with | 1 => (fun k => if k = 6 then 20 else if k = 7 then 41 else if k = 8 then 70 else 91) | 8 => (fun _ => 9) | 21 => (fun _ => 44) | 27 => (fun _ => 44) | _ => fun _ => 0)
theorem g_atqV {D : va_G} {cl : List vw_C} {H : Heap} {a n : Nat} {cA : ClassId} {f g : Nat → Option Nat} (h : ∀ j, j < n → f j = g j) (hP : va_at D cl (a, .inl (cA, n, .inr (.inr (.inr (.inr f))))) H) : va_at D cl (a, .inl (cA, n, .inr (.inr (.inr (.inr g))))) H := by
  show H[a]? = some (vp_cell cA (n, .inr (.inr (.inr (.inr g)))))
  rw [← g_arrc h]
  exact hP
theorem g_Dn {A : Nat → Prop} {ws : va_W} : va_D A ws ↔ (ws.map Prod.fst).Nodup ∧ ∀ a ∈ ws.map Prod.fst, A a := by
  constructor
  · intro h
    refine ⟨List.pairwise_iff_getElem.mpr (fun i j hi hj hij he => ?_), fun a ha => ?_⟩
    · have hjl : j < ws.length := by simpa using hj
      have hil : i < ws.length := by simpa using hi
      rw [List.getElem_map, List.getElem_map] at he
      have := h.1 i j _ _ (List.getElem?_eq_getElem hil) (List.getElem?_eq_getElem hjl) he
      omega
    · obtain ⟨q, hq, rfl⟩ := List.mem_map.mp ha
      obtain ⟨k, hk⟩ := List.getElem?_of_mem hq
      exact h.2 k q hk
  · intro h
    refine ⟨fun i j p q hp hq he => ?_, fun k q hk => h.2 _ (List.mem_map.mpr ⟨q, List.mem_of_getElem? hk, rfl⟩)⟩
    obtain ⟨hil, e1⟩ := List.getElem?_eq_some_iff.mp hp
    obtain ⟨hjl, e2⟩ := List.getElem?_eq_some_iff.mp hq
    have hnd := List.pairwise_iff_getElem.mp h.1
    have key : ∀ i j (hi : i < ws.length) (hj : j < ws.length), i < j → ws[i].1 ≠ ws[j].1 := fun i j hi hj hij => by
      have := hnd i j (by simpa using hi) (by simpa using hj) hij
      simpa using this
    rcases Nat.lt_trichotomy i j with h1 | h1 | h1
    · exact absurd (by rw [e1, e2, he]) (key i j hil hjl h1)
    · exact h1
    · exact absurd (by rw [e1, e2, he]) (key j i hjl hil h1)
theorem g_wl_fst {G : GL} {ids : List Nat} {S : SS} : (g_wl G ids S).map Prod.fst = ids.map (g_ad G) := by
  simp [g_wl, Function.comp_def]
theorem g_toP {G : GL} {ids : List Nat} {S : SS} {H : Heap} (h : ∀ i ∈ ids, va_at (g_D G) vwCl (g_ad G i, g_c G S i) H) : va_P (g_D G) vwCl (g_wl G ids S) H := by
  intro k q hk
  obtain ⟨i, hi, rfl⟩ := List.mem_map.mp (List.mem_of_getElem? hk)
  exact h i hi
theorem g_ofP {G : GL} {ids : List Nat} {S : SS} {H : Heap} (h : va_P (g_D G) vwCl (g_wl G ids S) H) {i : Nat} (hi : i ∈ ids) : va_at (g_D G) vwCl (g_ad G i, g_c G S i) H := by
  obtain ⟨k, hk⟩ := List.getElem?_of_mem hi
  exact h k _ (g_wl_at hk rfl)
/-- the references that the class's store holds are cells of the class -/
def g_okR (x : CS) : Prop := x.2 0 6 < 120 ∧ x.2 0 7 < 120 ∧ x.2 0 8 < 120 ∧ x.2 0 9 < 120

theorem g_adre {G : GL} {f : Nat → Nat} {i : Nat} (h : i < 200) : g_ad (g_re G f) i = f i := if_pos h
theorem g_adhi {G : GL} {f : Nat → Nat} {i : Nat} (h : 200 ≤ i) : g_ad (g_re G f) i = g_ad G i := by
  show (if i < 200 then _ else _) = (if i < 200 then _ else _)
  rw [if_neg (by omega), if_neg (by omega)]
  rfl
theorem g_rore {G : GL} {f : Nat → Nat} (r : Nat) : g_ro (g_re G f) r = g_ro G r := by
  unfold g_ro
  by_cases h : r < 200
  · rw [if_pos h, if_pos h]
  · rw [if_neg h, if_neg h, g_adhi (by omega)]
theorem h_cre {G : GL} {f : Nat → Nat} {y : MS} {i : Nat} : h_c (g_re G f) y i = h_c G y i := by
  unfold h_c g_rf
  simp only [g_rore]
  rfl
/-- a cell of the world under another table of addresses that agrees below 120 -/
theorem g_reat {G : GL} {f : Nat → Nat} {S : SS} {H : Heap} {i : Nat} (hf : ∀ j, j < 120 → f j = g_ad G j) (hx : g_okR S.1) (hi : i < 120 ∨ 200 ≤ i) (h : va_at (g_D G) vwCl (g_ad G i, g_c G S i) H) : va_at (g_D G) vwCl (g_ad (g_re G f) i, g_c (g_re G f) S i) H := by
  rcases hi with hi | hi
  rotate_left
  · rw [g_adhi hi, g_cl hi, h_cre]
    rw [g_cl hi] at h
    exact h
  have hb : ∀ r, r < 120 → g_ad (g_re G f) r = g_ad G r := fun r hr => (g_adre (by omega)).trans (hf r hr)
  rw [hb i hi]
  have hkk : kd i = 1 ∨ kd i = 2 ∨ kd i = 3 ∨ kd i = 4 ∨ kd i = 5 ∨ kd i = 6 ∨ kd i = 7 ∨ kd i = 8 ∨ kd i = 9 ∨ kd i = 10 ∨ kd i = 20 ∨ kd i = 21 ∨ kd i = 22 ∨ kd i = 23 ∨ kd i = 24 ∨ kd i = 25 ∨ kd i = 26 ∨ kd i = 27 ∨ kd i = 28 := (by decide +kernel : ∀ i, i < 120 → kd i = 1 ∨ kd i = 2 ∨ kd i = 3 ∨ kd i = 4 ∨ kd i = 5 ∨ kd i = 6 ∨ kd i = 7 ∨ kd i = 8 ∨ kd i = 9 ∨ kd i = 10 ∨ kd i = 20 ∨ kd i = 21 ∨ kd i = 22 ∨ kd i = 23 ∨ kd i = 24 ∨ kd i = 25 ∨ kd i = 26 ∨ kd i = 27 ∨ kd i = 28) i hi
  rcases hkk with hk | hk | hk | hk | hk | hk | hk | hk | hk | hk | hk | hk | hk | hk | hk | hk | hk | hk | hk
  · obtain rfl : i = 0 := (by decide +kernel : ∀ i, i < 120 → kd i = 1 → i = 0) i hi hk
    rw [g_c1 hk] at h ⊢
    rw [hb _ hx.1, hb _ hx.2.1, hb _ hx.2.2.1, hb _ hx.2.2.2, hb 1 (by decide), hb 3 (by decide), hb 8 (by decide), hb 14 (by decide), hb 16 (by decide), hb 18 (by decide)]
    exact h
  · rw [g_c2 hk] at h ⊢
    rw [hb 2 (by decide)]
    exact h
  · rw [g_c3 hk] at h ⊢
    rw [hb 1 (by decide), hb 4 (by decide), hb 5 (by decide), hb 6 (by decide), hb 7 (by decide)]
    exact h
  · rw [g_c4 hk] at h ⊢
    rw [hb 9 (by decide), hb 10 (by decide), hb 12 (by decide)]
    exact h
  · rw [g_c5 hk] at h ⊢
    rw [hb (i + 1) ((by decide +kernel : ∀ i, i < 120 → kd i = 5 → i + 1 < 120) i hi hk)]
    exact h
  · rw [g_c6 hk] at h ⊢
    rw [hb 14 (by decide), hb 8 (by decide), hb 19 (by decide)]
    exact h
  · rw [g_c7 hk] at h ⊢
    rw [hb (i + 1) ((by decide +kernel : ∀ i, i < 120 → kd i = 7 → i + 1 < 120) i hi hk), hb (i + 2) ((by decide +kernel : ∀ i, i < 120 → kd i = 7 → i + 2 < 120) i hi hk), hb (i + 3) ((by decide +kernel : ∀ i, i < 120 → kd i = 7 → i + 3 < 120) i hi hk), hb (i + 4) ((by decide +kernel : ∀ i, i < 120 → kd i = 7 → i + 4 < 120) i hi hk)]
    exact h
  · rw [g_c8 hk] at h ⊢; exact h
  · rw [g_c9 hk] at h ⊢
    rw [hb (i + 1) ((by decide +kernel : ∀ i, i < 120 → kd i = 9 → i + 1 < 120) i hi hk), hb (i + 2) ((by decide +kernel : ∀ i, i < 120 → kd i = 9 → i + 2 < 120) i hi hk)]
    exact h
  · rw [g_c10 hk] at h ⊢
    rw [hb (i + 1) ((by decide +kernel : ∀ i, i < 120 → kd i = 10 → i + 1 < 120) i hi hk)]
    exact h
  · rw [g_c20 hk] at h ⊢; exact h
  · rw [g_c21 hk] at h ⊢; exact h
  · rw [g_c22 hk] at h ⊢; exact h
  · rw [g_c23 hk] at h ⊢; exact h
  · rw [g_c24 hk] at h ⊢; exact h
  · rw [g_c25 hk] at h ⊢; exact h
  · rw [g_c26 hk] at h ⊢
    refine g_atqV (fun j hj => ?_) h
    have h9 := (by decide +kernel : ∀ i, i < 120 → kd i = 26 → i + 4 + 1 * 15 < 120) i hi hk
    rw [hb (i + 4 + 1 * j) (by omega)]
  · rw [g_c27 hk] at h ⊢; exact h
  · rw [g_c28 hk] at h ⊢
    refine g_atqV (fun j hj => ?_) h
    have h9 := (by decide +kernel : ∀ i, i < 120 → kd i = 28 → i + 4 + 3 * 7 < 120) i hi hk
    rw [hb (i + 4 + 3 * j) (by omega)]
abbrev g_LGW (G : GL) (h0 t a1 k b1 b2 b3 b4 wp d1 d2 d3 d4 d5 hr e1 tr f1 cr g1 : Nat) (fb fv fc fw : Nat → Nat) : va_W := (h0, .inr (12, [.ref t, .ref k, .ref wp, .ref hr, .ref tr, .ref cr, .ref (fb 0), .ref (fv 0), .ref (fc 0), .ref (fw 0), .int (-1)])) :: (((((((((g_LTape G t a1 ++ g_LTok G k t b1 b2 b3 b4) ++ g_LWarp G wp d1 d2 d3 d4 d5) ++ g_LRow G hr e1) ++ g_LRow G tr f1) ++ g_LCourse G cr hr wp g1) ++ g_LRB G fb) ++ g_LVoc G fv) ++ g_LRB G fc) ++ g_LVoc G fw)
set_option maxRecDepth 100000 in
set_option maxHeartbeats 4000000 in
theorem c_X12_init {l : Launch} {G : GL} {h0 sz : Nat} {bo : Bool}  (hbo : bo = true) : Met l yX12_init (.code yX12_init cX12_init 1 none :: gT) (g_rm 4 119 6514) (va_Pc [.ref h0] (g_PC G h0 (.inr (12, [.null, .null, .null, .null, .null, .null, .null, .null, .null, .null, .int 0])) sz bo)) (g_QC G h0 (.inr (12, [.null, .null, .null, .null, .null, .null, .null, .null, .null, .null, .int 0])) sz (fun w => ∃ t a1 k b1 b2 b3 b4 wp d1 d2 d3 d4 d5 hr e1 tr f1 cr g1 : Nat, ∃ fb fv fc fw : Nat → Nat, w = g_LGW G h0 t a1 k b1 b2 b3 b4 wp d1 d2 d3 d4 d5 hr e1 tr f1 cr g1 fb fv fc fw)) 119 6514 (va_A [(h0, .inr (12, [.null, .null, .null, .null, .null, .null, .null, .null, .null, .null, .int 0]))] sz) := by
  refine g_entryC (by decide) rfl (Nat.le_of_ble_eq_true rfl) (fun p e s m args below meth c ls C0 hl hsz hP hD hS hA hAg hkb hin => ?_)
  have hl : lv_has ls 1 [(0, .ref h0)] := hl
  refine lv_aload_n C0.hx C0.hb dX12_init_0 rfl (lv_at hl 0 rfl) ?_
  refine W.objInit C0.hx C0.hb C0.hown (C0.hts _ tm_X12_1) (C0.hts _ ti_java_lang_Object__init_) (C0.hts _ tc_java_lang_Object__init_) rfl (by rw [C0.hml]; exact hl.1) rfl dX12_init_1 (Nat.le_of_ble_eq_true rfl) (Nat.le_of_ble_eq_true rfl) ?_
  refine W.eq (g2 := F0 m 4 ls []) rfl ?_
  refine lv_aload_n C0.hx C0.hb dX12_init_4 rfl (lv_at hl 0 rfl) ?_
  refine va_new (ci := 7) (fs := [.null, .int 0]) (C := RX7) (T := TX7) (N := 2) C0.hx C0.hb C0.hts tu_X7 tyX7 tyX7_ok C0.hown (C0.hts _ tl_X12_7) (C0.hts _ ta_X7) (C0.hts _ tn_X7) C0.hK hP hD hS hA rfl (fun j hj => by rcases (show j = 0 ∨ j = 1 by omega) with rfl | rfl <;> rfl) (Nat.le_of_ble_eq_true rfl) (Nat.le_of_ble_eq_true rfl) dX12_init_5 (fun q1 H hP hD hS => ?_)
  refine lv_dup C0.hx C0.hb dX12_init_8 rfl ?_
  refine g_ctorN (ws := [(h0, .inr (12, [.null, .null, .null, .null, .null, .null, .null, .null, .null, .null, .int 0]))]) (raw := .inr (7, [.null, .int 0])) (As := []) (rest := [.ref q1, .ref h0]) C0 hP hD hS hA hAg hkb (c_X7_init  ) (g_cwG (n := 0) tc_X7_init tn_X7 md_X7_init (by decide) (by decide) (by decide) (by decide)) tmN_X12_9 rfl ti_X7_init rfl hl.1 rfl (Nat.le_of_ble_eq_true rfl) dX12_init_9 (fun w2 H locs hL_w2 hP hD hS _ => ?_)
  have hP : va_P (g_D G) vwCl ((h0, .inr (12, [.null, .null, .null, .null, .null, .null, .null, .null, .null, .null, .int 0])) :: w2) H := hP
  have hD : va_D (va_A [(h0, .inr (12, [.null, .null, .null, .null, .null, .null, .null, .null, .null, .null, .int 0]))] sz) ((h0, .inr (12, [.null, .null, .null, .null, .null, .null, .null, .null, .null, .null, .int 0])) :: w2) := hD
  refine va_putF (D := g_D G) (ci := 12) (v := .ref q1) (ty := .object "GlideWhistles$Tape") (C := RX12) (T := TX12) (N := 11) C0.hx C0.hb C0.hts tu_X12 tyX12 tyX12_ok nmX12 C0.hown C0.hK hP hD hS 0 rfl rfl 0 (by decide) (C0.hts _ tf_X12_10) (fun _ h9 => h9) rfl hin rfl (by decide +kernel) rfl rfl (Nat.le_of_ble_eq_true rfl) dX12_init_12 (fun H locs hP hD hS => ?_)
  have hP : va_P (g_D G) vwCl ((h0, .inr (12, [.ref q1, .null, .null, .null, .null, .null, .null, .null, .null, .null, .int 0])) :: w2) H := hP
  have hD : va_D (va_A [(h0, .inr (12, [.null, .null, .null, .null, .null, .null, .null, .null, .null, .null, .int 0]))] sz) ((h0, .inr (12, [.ref q1, .null, .null, .null, .null, .null, .null, .null, .null, .null, .int 0])) :: w2) := hD
  refine lv_aload_n C0.hx C0.hb dX12_init_15 rfl (lv_at hl 0 rfl) ?_
  refine va_new (ci := 8) (fs := [.null, .null, .null, .null, .null, .int 0]) (C := RX8) (T := TX8) (N := 6) C0.hx C0.hb C0.hts tu_X8 tyX8 tyX8_ok C0.hown (C0.hts _ tl_X12_16) (C0.hts _ ta_X8) (C0.hts _ tn_X8) C0.hK hP hD hS hA rfl (fun j hj => by rcases (show j = 0 ∨ j = 1 ∨ j = 2 ∨ j = 3 ∨ j = 4 ∨ j = 5 by omega) with rfl | rfl | rfl | rfl | rfl | rfl <;> rfl) (Nat.le_of_ble_eq_true rfl) (Nat.le_of_ble_eq_true rfl) dX12_init_16 (fun q3 H hP hD hS => ?_)
  refine lv_dup C0.hx C0.hb dX12_init_19 rfl ?_
  refine lv_aload_n C0.hx C0.hb dX12_init_20 rfl (lv_at hl 0 rfl) ?_
  refine va_get (D := g_D G) (ci := 12) (v := .ref q1) (C := RX12) (T := TX12) (N := 11) C0.hx C0.hb C0.hts tu_X12 C0.hown C0.hK hP 0 rfl rfl 0 (by decide) (C0.hts _ tf_X12_10) (fun _ h9 => h9) rfl dX12_init_21 ?_
  refine g_ctorI (ws := (h0, .inr (12, [.ref q1, .null, .null, .null, .null, .null, .null, .null, .null, .null, .int 0])) :: w2) (raw := .inr (8, [.null, .null, .null, .null, .null, .int 0])) (As := [.ref q1]) (rest := [.ref q3, .ref h0]) C0 hP hD hS hA hAg hkb (c_X8_init (a1 := q1) hbo) (g_cwG (n := 1) tc_X8_init tn_X8 md_X8_init (by decide) (by decide) (by decide) (by decide)) tm_X12_18 rfl ti_X8_init rfl hl.1 rfl (Nat.le_of_ble_eq_true rfl) dX12_init_24 (fun w4 H locs hL_w4 hP hD hS _ => ?_)
  have hP : va_P (g_D G) vwCl ((h0, .inr (12, [.ref q1, .null, .null, .null, .null, .null, .null, .null, .null, .null, .int 0])) :: (w2 ++ w4)) H := hP
  have hD : va_D (va_A [(h0, .inr (12, [.null, .null, .null, .null, .null, .null, .null, .null, .null, .null, .int 0]))] sz) ((h0, .inr (12, [.ref q1, .null, .null, .null, .null, .null, .null, .null, .null, .null, .int 0])) :: (w2 ++ w4)) := hD
  refine va_putF (D := g_D G) (ci := 12) (v := .ref q3) (ty := .object "GlideWhistles$Tokens") (C := RX12) (T := TX12) (N := 11) C0.hx C0.hb C0.hts tu_X12 tyX12 tyX12_ok nmX12 C0.hown C0.hK hP hD hS 0 rfl rfl 1 (by decide) (C0.hts _ tf_X12_21) (fun _ h9 => h9) rfl hin rfl (by decide +kernel) rfl rfl (Nat.le_of_ble_eq_true rfl) dX12_init_27 (fun H locs hP hD hS => ?_)
  have hP : va_P (g_D G) vwCl ((h0, .inr (12, [.ref q1, .ref q3, .null, .null, .null, .null, .null, .null, .null, .null, .int 0])) :: (w2 ++ w4)) H := hP
  have hD : va_D (va_A [(h0, .inr (12, [.null, .null, .null, .null, .null, .null, .null, .null, .null, .null, .int 0]))] sz) ((h0, .inr (12, [.ref q1, .ref q3, .null, .null, .null, .null, .null, .null, .null, .null, .int 0])) :: (w2 ++ w4)) := hD
  refine lv_aload_n C0.hx C0.hb dX12_init_30 rfl (lv_at hl 0 rfl) ?_
  refine va_new (ci := 10) (fs := [.null, .null, .null]) (C := RX10) (T := TX10) (N := 3) C0.hx C0.hb C0.hts tu_X10 tyX10 tyX10_ok C0.hown (C0.hts _ tl_X12_25) (C0.hts _ ta_X10) (C0.hts _ tn_X10) C0.hK hP hD hS hA rfl (fun j hj => by rcases (show j = 0 ∨ j = 1 ∨ j = 2 by omega) with rfl | rfl | rfl <;> rfl) (Nat.le_of_ble_eq_true rfl) (Nat.le_of_ble_eq_true rfl) dX12_init_31 (fun q5 H hP hD hS => ?_)
  refine lv_dup C0.hx C0.hb dX12_init_34 rfl ?_
  refine g_ctorN (ws := (h0, .inr (12, [.ref q1, .ref q3, .null, .null, .null, .null, .null, .null, .null, .null, .int 0])) :: (w2 ++ w4)) (raw := .inr (10, [.null, .null, .null])) (As := []) (rest := [.ref q5, .ref h0]) C0 hP hD hS hA hAg hkb (c_X10_init  ) (g_cwG (n := 0) tc_X10_init tn_X10 md_X10_init (by decide) (by decide) (by decide) (by decide)) tmN_X12_27 rfl ti_X10_init rfl hl.1 rfl (Nat.le_of_ble_eq_true rfl) dX12_init_35 (fun w6 H locs hL_w6 hP hD hS _ => ?_)
  have hP : va_P (g_D G) vwCl ((h0, .inr (12, [.ref q1, .ref q3, .null, .null, .null, .null, .null, .null, .null, .null, .int 0])) :: ((w2 ++ w4) ++ w6)) H := hP
  have hD : va_D (va_A [(h0, .inr (12, [.null, .null, .null, .null, .null, .null, .null, .null, .null, .null, .int 0]))] sz) ((h0, .inr (12, [.ref q1, .ref q3, .null, .null, .null, .null, .null, .null, .null, .null, .int 0])) :: ((w2 ++ w4) ++ w6)) := hD
  refine va_putF (D := g_D G) (ci := 12) (v := .ref q5) (ty := .object "GlideWhistles$Warp") (C := RX12) (T := TX12) (N := 11) C0.hx C0.hb C0.hts tu_X12 tyX12 tyX12_ok nmX12 C0.hown C0.hK hP hD hS 0 rfl rfl 2 (by decide) (C0.hts _ tf_X12_28) (fun _ h9 => h9) rfl hin rfl (by decide +kernel) rfl rfl (Nat.le_of_ble_eq_true rfl) dX12_init_38 (fun H locs hP hD hS => ?_)
  have hP : va_P (g_D G) vwCl ((h0, .inr (12, [.ref q1, .ref q3, .ref q5, .null, .null, .null, .null, .null, .null, .null, .int 0])) :: ((w2 ++ w4) ++ w6)) H := hP
  have hD : va_D (va_A [(h0, .inr (12, [.null, .null, .null, .null, .null, .null, .null, .null, .null, .null, .int 0]))] sz) ((h0, .inr (12, [.ref q1, .ref q3, .ref q5, .null, .null, .null, .null, .null, .null, .null, .int 0])) :: ((w2 ++ w4) ++ w6)) := hD
  refine lv_aload_n C0.hx C0.hb dX12_init_41 rfl (lv_at hl 0 rfl) ?_
  refine va_new (ci := 4) (fs := [.null, .int 0]) (C := RX3) (T := TX3) (N := 2) C0.hx C0.hb C0.hts tu_X3 tyX3 tyX3_ok C0.hown (C0.hts _ tl_X12_32) (C0.hts _ ta_X3) (C0.hts _ tn_X3) C0.hK hP hD hS hA rfl (fun j hj => by rcases (show j = 0 ∨ j = 1 by omega) with rfl | rfl <;> rfl) (Nat.le_of_ble_eq_true rfl) (Nat.le_of_ble_eq_true rfl) dX12_init_42 (fun q7 H hP hD hS => ?_)
  refine lv_dup C0.hx C0.hb dX12_init_45 rfl ?_
  refine g_ctorN (ws := (h0, .inr (12, [.ref q1, .ref q3, .ref q5, .null, .null, .null, .null, .null, .null, .null, .int 0])) :: ((w2 ++ w4) ++ w6)) (raw := .inr (4, [.null, .int 0])) (As := []) (rest := [.ref q7, .ref h0]) C0 hP hD hS hA hAg hkb (c_X3_init  ) (g_cwG (n := 0) tc_X3_init tn_X3 md_X3_init (by decide) (by decide) (by decide) (by decide)) tmN_X12_34 rfl ti_X3_init rfl hl.1 rfl (Nat.le_of_ble_eq_true rfl) dX12_init_46 (fun w8 H locs hL_w8 hP hD hS _ => ?_)
  have hP : va_P (g_D G) vwCl ((h0, .inr (12, [.ref q1, .ref q3, .ref q5, .null, .null, .null, .null, .null, .null, .null, .int 0])) :: (((w2 ++ w4) ++ w6) ++ w8)) H := hP
  have hD : va_D (va_A [(h0, .inr (12, [.null, .null, .null, .null, .null, .null, .null, .null, .null, .null, .int 0]))] sz) ((h0, .inr (12, [.ref q1, .ref q3, .ref q5, .null, .null, .null, .null, .null, .null, .null, .int 0])) :: (((w2 ++ w4) ++ w6) ++ w8)) := hD
  refine va_putF (D := g_D G) (ci := 12) (v := .ref q7) (ty := .object "GlideWhistles$Row") (C := RX12) (T := TX12) (N := 11) C0.hx C0.hb C0.hts tu_X12 tyX12 tyX12_ok nmX12 C0.hown C0.hK hP hD hS 0 rfl rfl 3 (by decide) (C0.hts _ tf_X12_35) (fun _ h9 => h9) rfl hin rfl (by decide +kernel) rfl rfl (Nat.le_of_ble_eq_true rfl) dX12_init_49 (fun H locs hP hD hS => ?_)
  have hP : va_P (g_D G) vwCl ((h0, .inr (12, [.ref q1, .ref q3, .ref q5, .ref q7, .null, .null, .null, .null, .null, .null, .int 0])) :: (((w2 ++ w4) ++ w6) ++ w8)) H := hP
  have hD : va_D (va_A [(h0, .inr (12, [.null, .null, .null, .null, .null, .null, .null, .null, .null, .null, .int 0]))] sz) ((h0, .inr (12, [.ref q1, .ref q3, .ref q5, .ref q7, .null, .null, .null, .null, .null, .null, .int 0])) :: (((w2 ++ w4) ++ w6) ++ w8)) := hD
  refine lv_aload_n C0.hx C0.hb dX12_init_52 rfl (lv_at hl 0 rfl) ?_
  refine va_new (ci := 4) (fs := [.null, .int 0]) (C := RX3) (T := TX3) (N := 2) C0.hx C0.hb C0.hts tu_X3 tyX3 tyX3_ok C0.hown (C0.hts _ tl_X12_32) (C0.hts _ ta_X3) (C0.hts _ tn_X3) C0.hK hP hD hS hA rfl (fun j hj => by rcases (show j = 0 ∨ j = 1 by omega) with rfl | rfl <;> rfl) (Nat.le_of_ble_eq_true rfl) (Nat.le_of_ble_eq_true rfl) dX12_init_53 (fun q9 H hP hD hS => ?_)
  refine lv_dup C0.hx C0.hb dX12_init_56 rfl ?_
  refine g_ctorN (ws := (h0, .inr (12, [.ref q1, .ref q3, .ref q5, .ref q7, .null, .null, .null, .null, .null, .null, .int 0])) :: (((w2 ++ w4) ++ w6) ++ w8)) (raw := .inr (4, [.null, .int 0])) (As := []) (rest := [.ref q9, .ref h0]) C0 hP hD hS hA hAg hkb (c_X3_init  ) (g_cwG (n := 0) tc_X3_init tn_X3 md_X3_init (by decide) (by decide) (by decide) (by decide)) tmN_X12_34 rfl ti_X3_init rfl hl.1 rfl (Nat.le_of_ble_eq_true rfl) dX12_init_57 (fun w10 H locs hL_w10 hP hD hS _ => ?_)
  have hP : va_P (g_D G) vwCl ((h0, .inr (12, [.ref q1, .ref q3, .ref q5, .ref q7, .null, .null, .null, .null, .null, .null, .int 0])) :: ((((w2 ++ w4) ++ w6) ++ w8) ++ w10)) H := hP
  have hD : va_D (va_A [(h0, .inr (12, [.null, .null, .null, .null, .null, .null, .null, .null, .null, .null, .int 0]))] sz) ((h0, .inr (12, [.ref q1, .ref q3, .ref q5, .ref q7, .null, .null, .null, .null, .null, .null, .int 0])) :: ((((w2 ++ w4) ++ w6) ++ w8) ++ w10)) := hD
  refine va_putF (D := g_D G) (ci := 12) (v := .ref q9) (ty := .object "GlideWhistles$Row") (C := RX12) (T := TX12) (N := 11) C0.hx C0.hb C0.hts tu_X12 tyX12 tyX12_ok nmX12 C0.hown C0.hK hP hD hS 0 rfl rfl 4 (by decide) (C0.hts _ tf_X12_39) (fun _ h9 => h9) rfl hin rfl (by decide +kernel) rfl rfl (Nat.le_of_ble_eq_true rfl) dX12_init_60 (fun H locs hP hD hS => ?_)
  have hP : va_P (g_D G) vwCl ((h0, .inr (12, [.ref q1, .ref q3, .ref q5, .ref q7, .ref q9, .null, .null, .null, .null, .null, .int 0])) :: ((((w2 ++ w4) ++ w6) ++ w8) ++ w10)) H := hP
  have hD : va_D (va_A [(h0, .inr (12, [.null, .null, .null, .null, .null, .null, .null, .null, .null, .null, .int 0]))] sz) ((h0, .inr (12, [.ref q1, .ref q3, .ref q5, .ref q7, .ref q9, .null, .null, .null, .null, .null, .int 0])) :: ((((w2 ++ w4) ++ w6) ++ w8) ++ w10)) := hD
  refine lv_aload_n C0.hx C0.hb dX12_init_63 rfl (lv_at hl 0 rfl) ?_
  refine va_new (ci := 2) (fs := [.null, .null, .null, .int 0]) (C := RX1) (T := TX1) (N := 4) C0.hx C0.hb C0.hts tu_X1 tyX1 tyX1_ok C0.hown (C0.hts _ tl_X12_42) (C0.hts _ ta_X1) (C0.hts _ tn_X1) C0.hK hP hD hS hA rfl (fun j hj => by rcases (show j = 0 ∨ j = 1 ∨ j = 2 ∨ j = 3 by omega) with rfl | rfl | rfl | rfl <;> rfl) (Nat.le_of_ble_eq_true rfl) (Nat.le_of_ble_eq_true rfl) dX12_init_64 (fun q11 H hP hD hS => ?_)
  refine lv_dup C0.hx C0.hb dX12_init_67 rfl ?_
  refine lv_aload_n C0.hx C0.hb dX12_init_68 rfl (lv_at hl 0 rfl) ?_
  refine va_get (D := g_D G) (ci := 12) (v := .ref q7) (C := RX12) (T := TX12) (N := 11) C0.hx C0.hb C0.hts tu_X12 C0.hown C0.hK hP 0 rfl rfl 3 (by decide) (C0.hts _ tf_X12_35) (fun _ h9 => h9) rfl dX12_init_69 ?_
  refine lv_aload_n C0.hx C0.hb dX12_init_72 rfl (lv_at hl 0 rfl) ?_
  refine va_get (D := g_D G) (ci := 12) (v := .ref q5) (C := RX12) (T := TX12) (N := 11) C0.hx C0.hb C0.hts tu_X12 C0.hown C0.hK hP 0 rfl rfl 2 (by decide) (C0.hts _ tf_X12_28) (fun _ h9 => h9) rfl dX12_init_73 ?_
  refine g_ctorI (ws := (h0, .inr (12, [.ref q1, .ref q3, .ref q5, .ref q7, .ref q9, .null, .null, .null, .null, .null, .int 0])) :: ((((w2 ++ w4) ++ w6) ++ w8) ++ w10)) (raw := .inr (2, [.null, .null, .null, .int 0])) (As := [.ref q7, .ref q5]) (rest := [.ref q11, .ref h0]) C0 hP hD hS hA hAg hkb (c_X1_init (a1 := q7) (a2 := q5) ) (g_cwG (n := 2) tc_X1_init tn_X1 md_X1_init (by decide) (by decide) (by decide) (by decide)) tm_X12_44 rfl ti_X1_init rfl hl.1 rfl (Nat.le_of_ble_eq_true rfl) dX12_init_76 (fun w12 H locs hL_w12 hP hD hS _ => ?_)
  have hP : va_P (g_D G) vwCl ((h0, .inr (12, [.ref q1, .ref q3, .ref q5, .ref q7, .ref q9, .null, .null, .null, .null, .null, .int 0])) :: (((((w2 ++ w4) ++ w6) ++ w8) ++ w10) ++ w12)) H := hP
  have hD : va_D (va_A [(h0, .inr (12, [.null, .null, .null, .null, .null, .null, .null, .null, .null, .null, .int 0]))] sz) ((h0, .inr (12, [.ref q1, .ref q3, .ref q5, .ref q7, .ref q9, .null, .null, .null, .null, .null, .int 0])) :: (((((w2 ++ w4) ++ w6) ++ w8) ++ w10) ++ w12)) := hD
  refine va_putF (D := g_D G) (ci := 12) (v := .ref q11) (ty := .object "GlideWhistles$Course") (C := RX12) (T := TX12) (N := 11) C0.hx C0.hb C0.hts tu_X12 tyX12 tyX12_ok nmX12 C0.hown C0.hK hP hD hS 0 rfl rfl 5 (by decide) (C0.hts _ tf_X12_47) (fun _ h9 => h9) rfl hin rfl (by decide +kernel) rfl rfl (Nat.le_of_ble_eq_true rfl) dX12_init_79 (fun H locs hP hD hS => ?_)
  have hP : va_P (g_D G) vwCl ((h0, .inr (12, [.ref q1, .ref q3, .ref q5, .ref q7, .ref q9, .ref q11, .null, .null, .null, .null, .int 0])) :: (((((w2 ++ w4) ++ w6) ++ w8) ++ w10) ++ w12)) H := hP
  have hD : va_D (va_A [(h0, .inr (12, [.null, .null, .null, .null, .null, .null, .null, .null, .null, .null, .int 0]))] sz) ((h0, .inr (12, [.ref q1, .ref q3, .ref q5, .ref q7, .ref q9, .ref q11, .null, .null, .null, .null, .int 0])) :: (((((w2 ++ w4) ++ w6) ++ w8) ++ w10) ++ w12)) := hD
  refine lv_aload_n C0.hx C0.hb dX12_init_82 rfl (lv_at hl 0 rfl) ?_
  refine va_new (ci := 6) (fs := [.null, .null, .null, .null, .int 0, .int 0, .int 0, .int 0]) (C := RX5) (T := TX5) (N := 8) C0.hx C0.hb C0.hts tu_X5 tyX5 tyX5_ok C0.hown (C0.hts _ tl_X12_51) (C0.hts _ ta_X5) (C0.hts _ tn_X5) C0.hK hP hD hS hA rfl (fun j hj => by rcases (show j = 0 ∨ j = 1 ∨ j = 2 ∨ j = 3 ∨ j = 4 ∨ j = 5 ∨ j = 6 ∨ j = 7 by omega) with rfl | rfl | rfl | rfl | rfl | rfl | rfl | rfl <;> rfl) (Nat.le_of_ble_eq_true rfl) (Nat.le_of_ble_eq_true rfl) dX12_init_83 (fun q13 H hP hD hS => ?_)
  refine lv_dup C0.hx C0.hb dX12_init_86 rfl ?_
  refine g_ctorI (ws := (h0, .inr (12, [.ref q1, .ref q3, .ref q5, .ref q7, .ref q9, .ref q11, .null, .null, .null, .null, .int 0])) :: (((((w2 ++ w4) ++ w6) ++ w8) ++ w10) ++ w12)) (raw := .inr (6, [.null, .null, .null, .null, .int 0, .int 0, .int 0, .int 0])) (As := []) (rest := [.ref q13, .ref h0]) C0 hP hD hS hA hAg hkb (c_X5_init  hbo) (g_cwG (n := 0) tc_X5_init tn_X5 md_X5_init (by decide) (by decide) (by decide) (by decide)) tm_X12_53 rfl ti_X5_init rfl hl.1 rfl (Nat.le_of_ble_eq_true rfl) dX12_init_87 (fun w14 H locs hL_w14 hP hD hS _ => ?_)
  have hP : va_P (g_D G) vwCl ((h0, .inr (12, [.ref q1, .ref q3, .ref q5, .ref q7, .ref q9, .ref q11, .null, .null, .null, .null, .int 0])) :: ((((((w2 ++ w4) ++ w6) ++ w8) ++ w10) ++ w12) ++ w14)) H := hP
  have hD : va_D (va_A [(h0, .inr (12, [.null, .null, .null, .null, .null, .null, .null, .null, .null, .null, .int 0]))] sz) ((h0, .inr (12, [.ref q1, .ref q3, .ref q5, .ref q7, .ref q9, .ref q11, .null, .null, .null, .null, .int 0])) :: ((((((w2 ++ w4) ++ w6) ++ w8) ++ w10) ++ w12) ++ w14)) := hD
  refine va_put (D := g_D G) (ci := 12) (v := .ref q13) (ty := .object "GlideWhistles$RuleBook") (C := RX12) (T := TX12) (N := 11) C0.hx C0.hb C0.hts tu_X12 tyX12 tyX12_ok nmX12 C0.hown C0.hK hP hD hS 0 rfl rfl 6 (by decide) (C0.hts _ tf_X12_54) (fun _ h9 => h9) rfl (by decide +kernel) rfl rfl (Nat.le_of_ble_eq_true rfl) dX12_init_90 (fun H locs hP hD hS => ?_)
  have hP : va_P (g_D G) vwCl ((h0, .inr (12, [.ref q1, .ref q3, .ref q5, .ref q7, .ref q9, .ref q11, .ref q13, .null, .null, .null, .int 0])) :: ((((((w2 ++ w4) ++ w6) ++ w8) ++ w10) ++ w12) ++ w14)) H := hP
  have hD : va_D (va_A [(h0, .inr (12, [.null, .null, .null, .null, .null, .null, .null, .null, .null, .null, .int 0]))] sz) ((h0, .inr (12, [.ref q1, .ref q3, .ref q5, .ref q7, .ref q9, .ref q11, .ref q13, .null, .null, .null, .int 0])) :: ((((((w2 ++ w4) ++ w6) ++ w8) ++ w10) ++ w12) ++ w14)) := hD
  refine lv_aload_n C0.hx C0.hb dX12_init_93 rfl (lv_at hl 0 rfl) ?_
  refine va_new (ci := 9) (fs := [.null, .null, .int 0, .int 0, .int 0]) (C := RX9) (T := TX9) (N := 5) C0.hx C0.hb C0.hts tu_X9 tyX9 tyX9_ok C0.hown (C0.hts _ tl_X12_58) (C0.hts _ ta_X9) (C0.hts _ tn_X9) C0.hK hP hD hS hA rfl (fun j hj => by rcases (show j = 0 ∨ j = 1 ∨ j = 2 ∨ j = 3 ∨ j = 4 by omega) with rfl | rfl | rfl | rfl | rfl <;> rfl) (Nat.le_of_ble_eq_true rfl) (Nat.le_of_ble_eq_true rfl) dX12_init_94 (fun q15 H hP hD hS => ?_)
  refine lv_dup C0.hx C0.hb dX12_init_97 rfl ?_
  refine g_ctorI (ws := (h0, .inr (12, [.ref q1, .ref q3, .ref q5, .ref q7, .ref q9, .ref q11, .ref q13, .null, .null, .null, .int 0])) :: ((((((w2 ++ w4) ++ w6) ++ w8) ++ w10) ++ w12) ++ w14)) (raw := .inr (9, [.null, .null, .int 0, .int 0, .int 0])) (As := []) (rest := [.ref q15, .ref h0]) C0 hP hD hS hA hAg hkb (c_X9_init  hbo) (g_cwG (n := 0) tc_X9_init tn_X9 md_X9_init (by decide) (by decide) (by decide) (by decide)) tm_X12_60 rfl ti_X9_init rfl hl.1 rfl (Nat.le_of_ble_eq_true rfl) dX12_init_98 (fun w16 H locs hL_w16 hP hD hS _ => ?_)
  have hP : va_P (g_D G) vwCl ((h0, .inr (12, [.ref q1, .ref q3, .ref q5, .ref q7, .ref q9, .ref q11, .ref q13, .null, .null, .null, .int 0])) :: (((((((w2 ++ w4) ++ w6) ++ w8) ++ w10) ++ w12) ++ w14) ++ w16)) H := hP
  have hD : va_D (va_A [(h0, .inr (12, [.null, .null, .null, .null, .null, .null, .null, .null, .null, .null, .int 0]))] sz) ((h0, .inr (12, [.ref q1, .ref q3, .ref q5, .ref q7, .ref q9, .ref q11, .ref q13, .null, .null, .null, .int 0])) :: (((((((w2 ++ w4) ++ w6) ++ w8) ++ w10) ++ w12) ++ w14) ++ w16)) := hD
  refine va_put (D := g_D G) (ci := 12) (v := .ref q15) (ty := .object "GlideWhistles$Vocabulary") (C := RX12) (T := TX12) (N := 11) C0.hx C0.hb C0.hts tu_X12 tyX12 tyX12_ok nmX12 C0.hown C0.hK hP hD hS 0 rfl rfl 7 (by decide) (C0.hts _ tf_X12_61) (fun _ h9 => h9) rfl (by decide +kernel) rfl rfl (Nat.le_of_ble_eq_true rfl) dX12_init_101 (fun H locs hP hD hS => ?_)
  have hP : va_P (g_D G) vwCl ((h0, .inr (12, [.ref q1, .ref q3, .ref q5, .ref q7, .ref q9, .ref q11, .ref q13, .ref q15, .null, .null, .int 0])) :: (((((((w2 ++ w4) ++ w6) ++ w8) ++ w10) ++ w12) ++ w14) ++ w16)) H := hP
  have hD : va_D (va_A [(h0, .inr (12, [.null, .null, .null, .null, .null, .null, .null, .null, .null, .null, .int 0]))] sz) ((h0, .inr (12, [.ref q1, .ref q3, .ref q5, .ref q7, .ref q9, .ref q11, .ref q13, .ref q15, .null, .null, .int 0])) :: (((((((w2 ++ w4) ++ w6) ++ w8) ++ w10) ++ w12) ++ w14) ++ w16)) := hD
  refine lv_aload_n C0.hx C0.hb dX12_init_104 rfl (lv_at hl 0 rfl) ?_
  refine va_new (ci := 6) (fs := [.null, .null, .null, .null, .int 0, .int 0, .int 0, .int 0]) (C := RX5) (T := TX5) (N := 8) C0.hx C0.hb C0.hts tu_X5 tyX5 tyX5_ok C0.hown (C0.hts _ tl_X12_51) (C0.hts _ ta_X5) (C0.hts _ tn_X5) C0.hK hP hD hS hA rfl (fun j hj => by rcases (show j = 0 ∨ j = 1 ∨ j = 2 ∨ j = 3 ∨ j = 4 ∨ j = 5 ∨ j = 6 ∨ j = 7 by omega) with rfl | rfl | rfl | rfl | rfl | rfl | rfl | rfl <;> rfl) (Nat.le_of_ble_eq_true rfl) (Nat.le_of_ble_eq_true rfl) dX12_init_105 (fun q17 H hP hD hS => ?_)
  refine lv_dup C0.hx C0.hb dX12_init_108 rfl ?_
  refine g_ctorI (ws := (h0, .inr (12, [.ref q1, .ref q3, .ref q5, .ref q7, .ref q9, .ref q11, .ref q13, .ref q15, .null, .null, .int 0])) :: (((((((w2 ++ w4) ++ w6) ++ w8) ++ w10) ++ w12) ++ w14) ++ w16)) (raw := .inr (6, [.null, .null, .null, .null, .int 0, .int 0, .int 0, .int 0])) (As := []) (rest := [.ref q17, .ref h0]) C0 hP hD hS hA hAg hkb (c_X5_init  hbo) (g_cwG (n := 0) tc_X5_init tn_X5 md_X5_init (by decide) (by decide) (by decide) (by decide)) tm_X12_53 rfl ti_X5_init rfl hl.1 rfl (Nat.le_of_ble_eq_true rfl) dX12_init_109 (fun w18 H locs hL_w18 hP hD hS _ => ?_)
  have hP : va_P (g_D G) vwCl ((h0, .inr (12, [.ref q1, .ref q3, .ref q5, .ref q7, .ref q9, .ref q11, .ref q13, .ref q15, .null, .null, .int 0])) :: ((((((((w2 ++ w4) ++ w6) ++ w8) ++ w10) ++ w12) ++ w14) ++ w16) ++ w18)) H := hP
  have hD : va_D (va_A [(h0, .inr (12, [.null, .null, .null, .null, .null, .null, .null, .null, .null, .null, .int 0]))] sz) ((h0, .inr (12, [.ref q1, .ref q3, .ref q5, .ref q7, .ref q9, .ref q11, .ref q13, .ref q15, .null, .null, .int 0])) :: ((((((((w2 ++ w4) ++ w6) ++ w8) ++ w10) ++ w12) ++ w14) ++ w16) ++ w18)) := hD
  refine va_put (D := g_D G) (ci := 12) (v := .ref q17) (ty := .object "GlideWhistles$RuleBook") (C := RX12) (T := TX12) (N := 11) C0.hx C0.hb C0.hts tu_X12 tyX12 tyX12_ok nmX12 C0.hown C0.hK hP hD hS 0 rfl rfl 8 (by decide) (C0.hts _ tf_X12_65) (fun _ h9 => h9) rfl (by decide +kernel) rfl rfl (Nat.le_of_ble_eq_true rfl) dX12_init_112 (fun H locs hP hD hS => ?_)
  have hP : va_P (g_D G) vwCl ((h0, .inr (12, [.ref q1, .ref q3, .ref q5, .ref q7, .ref q9, .ref q11, .ref q13, .ref q15, .ref q17, .null, .int 0])) :: ((((((((w2 ++ w4) ++ w6) ++ w8) ++ w10) ++ w12) ++ w14) ++ w16) ++ w18)) H := hP
  have hD : va_D (va_A [(h0, .inr (12, [.null, .null, .null, .null, .null, .null, .null, .null, .null, .null, .int 0]))] sz) ((h0, .inr (12, [.ref q1, .ref q3, .ref q5, .ref q7, .ref q9, .ref q11, .ref q13, .ref q15, .ref q17, .null, .int 0])) :: ((((((((w2 ++ w4) ++ w6) ++ w8) ++ w10) ++ w12) ++ w14) ++ w16) ++ w18)) := hD
  refine lv_aload_n C0.hx C0.hb dX12_init_115 rfl (lv_at hl 0 rfl) ?_
  refine va_new (ci := 9) (fs := [.null, .null, .int 0, .int 0, .int 0]) (C := RX9) (T := TX9) (N := 5) C0.hx C0.hb C0.hts tu_X9 tyX9 tyX9_ok C0.hown (C0.hts _ tl_X12_58) (C0.hts _ ta_X9) (C0.hts _ tn_X9) C0.hK hP hD hS hA rfl (fun j hj => by rcases (show j = 0 ∨ j = 1 ∨ j = 2 ∨ j = 3 ∨ j = 4 by omega) with rfl | rfl | rfl | rfl | rfl <;> rfl) (Nat.le_of_ble_eq_true rfl) (Nat.le_of_ble_eq_true rfl) dX12_init_116 (fun q19 H hP hD hS => ?_)
  refine lv_dup C0.hx C0.hb dX12_init_119 rfl ?_
  refine g_ctorI (ws := (h0, .inr (12, [.ref q1, .ref q3, .ref q5, .ref q7, .ref q9, .ref q11, .ref q13, .ref q15, .ref q17, .null, .int 0])) :: ((((((((w2 ++ w4) ++ w6) ++ w8) ++ w10) ++ w12) ++ w14) ++ w16) ++ w18)) (raw := .inr (9, [.null, .null, .int 0, .int 0, .int 0])) (As := []) (rest := [.ref q19, .ref h0]) C0 hP hD hS hA hAg hkb (c_X9_init  hbo) (g_cwG (n := 0) tc_X9_init tn_X9 md_X9_init (by decide) (by decide) (by decide) (by decide)) tm_X12_60 rfl ti_X9_init rfl hl.1 rfl (Nat.le_of_ble_eq_true rfl) dX12_init_120 (fun w20 H locs hL_w20 hP hD hS _ => ?_)
  have hP : va_P (g_D G) vwCl ((h0, .inr (12, [.ref q1, .ref q3, .ref q5, .ref q7, .ref q9, .ref q11, .ref q13, .ref q15, .ref q17, .null, .int 0])) :: (((((((((w2 ++ w4) ++ w6) ++ w8) ++ w10) ++ w12) ++ w14) ++ w16) ++ w18) ++ w20)) H := hP
  have hD : va_D (va_A [(h0, .inr (12, [.null, .null, .null, .null, .null, .null, .null, .null, .null, .null, .int 0]))] sz) ((h0, .inr (12, [.ref q1, .ref q3, .ref q5, .ref q7, .ref q9, .ref q11, .ref q13, .ref q15, .ref q17, .null, .int 0])) :: (((((((((w2 ++ w4) ++ w6) ++ w8) ++ w10) ++ w12) ++ w14) ++ w16) ++ w18) ++ w20)) := hD
  refine va_put (D := g_D G) (ci := 12) (v := .ref q19) (ty := .object "GlideWhistles$Vocabulary") (C := RX12) (T := TX12) (N := 11) C0.hx C0.hb C0.hts tu_X12 tyX12 tyX12_ok nmX12 C0.hown C0.hK hP hD hS 0 rfl rfl 9 (by decide) (C0.hts _ tf_X12_68) (fun _ h9 => h9) rfl (by decide +kernel) rfl rfl (Nat.le_of_ble_eq_true rfl) dX12_init_123 (fun H locs hP hD hS => ?_)
  have hP : va_P (g_D G) vwCl ((h0, .inr (12, [.ref q1, .ref q3, .ref q5, .ref q7, .ref q9, .ref q11, .ref q13, .ref q15, .ref q17, .ref q19, .int 0])) :: (((((((((w2 ++ w4) ++ w6) ++ w8) ++ w10) ++ w12) ++ w14) ++ w16) ++ w18) ++ w20)) H := hP
  have hD : va_D (va_A [(h0, .inr (12, [.null, .null, .null, .null, .null, .null, .null, .null, .null, .null, .int 0]))] sz) ((h0, .inr (12, [.ref q1, .ref q3, .ref q5, .ref q7, .ref q9, .ref q11, .ref q13, .ref q15, .ref q17, .ref q19, .int 0])) :: (((((((((w2 ++ w4) ++ w6) ++ w8) ++ w10) ++ w12) ++ w14) ++ w16) ++ w18) ++ w20)) := hD
  refine lv_aload_n C0.hx C0.hb dX12_init_126 rfl (lv_at hl 0 rfl) ?_
  refine lv_iconst (v := (-1 : Int32)) C0.hx C0.hb dX12_init_127 (by decide) ?_
  refine va_put (D := g_D G) (ci := 12) (v := .int (-1)) (ty := .int) (C := RX12) (T := TX12) (N := 11) C0.hx C0.hb C0.hts tu_X12 tyX12 tyX12_ok nmX12 C0.hown C0.hK hP hD hS 0 rfl rfl 10 (by decide) (C0.hts _ tf_X12_71) (fun _ h9 => h9) rfl (by decide +kernel) rfl rfl (Nat.le_of_ble_eq_true rfl) dX12_init_128 (fun H locs hP hD hS => ?_)
  have hP : va_P (g_D G) vwCl ((h0, .inr (12, [.ref q1, .ref q3, .ref q5, .ref q7, .ref q9, .ref q11, .ref q13, .ref q15, .ref q17, .ref q19, .int (-1)])) :: (((((((((w2 ++ w4) ++ w6) ++ w8) ++ w10) ++ w12) ++ w14) ++ w16) ++ w18) ++ w20)) H := hP
  have hD : va_D (va_A [(h0, .inr (12, [.null, .null, .null, .null, .null, .null, .null, .null, .null, .null, .int 0]))] sz) ((h0, .inr (12, [.ref q1, .ref q3, .ref q5, .ref q7, .ref q9, .ref q11, .ref q13, .ref q15, .ref q17, .ref q19, .int (-1)])) :: (((((((((w2 ++ w4) ++ w6) ++ w8) ++ w10) ++ w12) ++ w14) ++ w16) ++ w18) ++ w20)) := hD
  obtain ⟨a1, rfl⟩ := hL_w2
  obtain ⟨b1, b2, b3, b4, rfl⟩ := hL_w4
  obtain ⟨d1, d2, d3, d4, d5, rfl⟩ := hL_w6
  obtain ⟨e1, rfl⟩ := hL_w8
  obtain ⟨f1, rfl⟩ := hL_w10
  obtain ⟨g1, rfl⟩ := hL_w12
  obtain ⟨fb, hfb, rfl⟩ := hL_w14
  obtain ⟨fv, hfv, rfl⟩ := hL_w16
  obtain ⟨fc, hfc, rfl⟩ := hL_w18
  obtain ⟨fw, hfw, rfl⟩ := hL_w20
  subst hfb
  subst hfv
  subst hfc
  subst hfw
  exact g_endC C0 hP hD hS ⟨_, _, _, _, _, _, _, _, _, _, _, _, _, _, _, _, _, _, _, fb, fv, fc, fw, rfl⟩ (Nat.le_refl _) (Nat.le_refl _) dX12_init_131
