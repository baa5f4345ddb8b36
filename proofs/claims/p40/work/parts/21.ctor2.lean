/-! the whole class's and the whole reference's constructor: their lists become the world by numbers -/
def g_re (G : GL) (f : Nat → Nat) : GL := (G.1, G.2.1, f, G.2.2.2)
def g_x0 : CS := (fun i => match kd i with | 1 => (fun k => if k = 10 then -1 else 0) | 7 => (fun k => if k = 6 then 4 else if k = 7 then 6 else 0) | 8 => (fun k => if k = 1 then -1 else 0) | 10 => (fun k => if k = 2 then 999 else 0) | _ => fun _ => 0, fun i => match kd i with | 1 => (fun k => if k = 6 then 20 else if k = 7 then 41 else if k = 8 then 70 else 91) | 8 => (fun _ => 9) | 21 => (fun _ => 44) | 27 => (fun _ => 44) | _ => fun _ => 0)
def g_y0 : MS := fun i => match kd i with | 12 => (fun k => if k = 3 then -1 else 0) | 13 => (fun k => if k = 0 then 4 else if k = 1 then 6 else 0) | _ => fun _ => 0
theorem g_atqV {D : va_G} {cl : List vw_C} {H : Heap} {a n : Nat} {cA : ClassId} {f g : Nat → Option Nat} (h : ∀ j, j < n → f j = g j) (hP : va_at D cl (a, .inl (cA, n, .inr (.inr (.inr (.inr f))))) H) : va_at D cl (a, .inl (cA, n, .inr (.inr (.inr (.inr g))))) H := by
  show H[a]? = some (vp_cell cA (n, .inr (.inr (.inr (.inr g)))))
  rw [← g_arrc h]
  exact hP
theorem g_Dn {A : Nat → Prop} {ws : va_W} : va_D A ws ↔ (ws.map Prod.fst).Nodup ∧ ∀ a ∈ ws.map Prod.fst, A a := by
  constructor
  · intro h
    refine ⟨List.pairwise_iff_getElem.mpr (fun i j hi hj hij he => ?_), fun a ha => ?_⟩
    · have hjl : j < ws.length := by simpa using hj
      have hil : i < ws.length := by simpa using hi
      rw [List.getElem_map, List.getElem_map] at he
      have := h.1 i j _ _ (List.getElem?_eq_getElem hil) (List.getElem?_eq_getElem hjl) he
      omega
    · obtain ⟨q, hq, rfl⟩ := List.mem_map.mp ha
      obtain ⟨k, hk⟩ := List.getElem?_of_mem hq
      exact h.2 k q hk
  · intro h
    refine ⟨fun i j p q hp hq he => ?_, fun k q hk => h.2 _ (List.mem_map.mpr ⟨q, List.mem_of_getElem? hk, rfl⟩)⟩
    obtain ⟨hil, e1⟩ := List.getElem?_eq_some_iff.mp hp
    obtain ⟨hjl, e2⟩ := List.getElem?_eq_some_iff.mp hq
    have hnd := List.pairwise_iff_getElem.mp h.1
    have key : ∀ i j (hi : i < ws.length) (hj : j < ws.length), i < j → ws[i].1 ≠ ws[j].1 := fun i j hi hj hij => by
      have := hnd i j (by simpa using hi) (by simpa using hj) hij
      simpa using this
    rcases Nat.lt_trichotomy i j with h1 | h1 | h1
    · exact absurd (by rw [e1, e2, he]) (key i j hil hjl h1)
    · exact h1
    · exact absurd (by rw [e1, e2, he]) (key j i hjl hil h1)
theorem g_wl_fst {G : GL} {ids : List Nat} {S : SS} : (g_wl G ids S).map Prod.fst = ids.map (g_ad G) := by
  simp [g_wl, Function.comp_def]
theorem g_toP {G : GL} {ids : List Nat} {S : SS} {H : Heap} (h : ∀ i ∈ ids, va_at (g_D G) vwCl (g_ad G i, g_c G S i) H) : va_P (g_D G) vwCl (g_wl G ids S) H := by
  intro k q hk
  obtain ⟨i, hi, rfl⟩ := List.mem_map.mp (List.mem_of_getElem? hk)
  exact h i hi
theorem g_ofP {G : GL} {ids : List Nat} {S : SS} {H : Heap} (h : va_P (g_D G) vwCl (g_wl G ids S) H) {i : Nat} (hi : i ∈ ids) : va_at (g_D G) vwCl (g_ad G i, g_c G S i) H := by
  obtain ⟨k, hk⟩ := List.getElem?_of_mem hi
  exact h k _ (g_wl_at hk rfl)
/-- the references that the class's store holds are cells of the class -/
def g_okR (x : CS) : Prop := x.2 0 6 < 120 ∧ x.2 0 7 < 120 ∧ x.2 0 8 < 120 ∧ x.2 0 9 < 120

theorem g_adre {G : GL} {f : Nat → Nat} {i : Nat} (h : i < 200) : g_ad (g_re G f) i = f i := if_pos h
theorem g_adhi {G : GL} {f : Nat → Nat} {i : Nat} (h : 200 ≤ i) : g_ad (g_re G f) i = g_ad G i := by
  show (if i < 200 then _ else _) = (if i < 200 then _ else _)
  rw [if_neg (by omega), if_neg (by omega)]
  rfl
theorem g_rore {G : GL} {f : Nat → Nat} (r : Nat) : g_ro (g_re G f) r = g_ro G r := by
  unfold g_ro
  by_cases h : r < 200
  · rw [if_pos h, if_pos h]
  · rw [if_neg h, if_neg h, g_adhi (by omega)]
theorem h_cre {G : GL} {f : Nat → Nat} {y : MS} {i : Nat} : h_c (g_re G f) y i = h_c G y i := by
  unfold h_c g_rf
  simp only [g_rore]
  rfl
/-- a cell of the world under another table of addresses that agrees below 120 -/
theorem g_reat {G : GL} {f : Nat → Nat} {S : SS} {H : Heap} {i : Nat} (hf : ∀ j, j < 120 → f j = g_ad G j) (hx : g_okR S.1) (hi : i < 120 ∨ 200 ≤ i) (h : va_at (g_D G) vwCl (g_ad G i, g_c G S i) H) : va_at (g_D G) vwCl (g_ad (g_re G f) i, g_c (g_re G f) S i) H := by
  rcases hi with hi | hi
  rotate_left
  · rw [g_adhi hi, g_cl hi, h_cre]
    rw [g_cl hi] at h
    exact h
  have hb : ∀ r, r < 120 → g_ad (g_re G f) r = g_ad G r := fun r hr => (g_adre (by omega)).trans (hf r hr)
  rw [hb i hi]
  have hkk : kd i = 1 ∨ kd i = 2 ∨ kd i = 3 ∨ kd i = 4 ∨ kd i = 5 ∨ kd i = 6 ∨ kd i = 7 ∨ kd i = 8 ∨ kd i = 9 ∨ kd i = 10 ∨ kd i = 20 ∨ kd i = 21 ∨ kd i = 22 ∨ kd i = 23 ∨ kd i = 24 ∨ kd i = 25 ∨ kd i = 26 ∨ kd i = 27 ∨ kd i = 28 := (by decide +kernel : ∀ i, i < 120 → kd i = 1 ∨ kd i = 2 ∨ kd i = 3 ∨ kd i = 4 ∨ kd i = 5 ∨ kd i = 6 ∨ kd i = 7 ∨ kd i = 8 ∨ kd i = 9 ∨ kd i = 10 ∨ kd i = 20 ∨ kd i = 21 ∨ kd i = 22 ∨ kd i = 23 ∨ kd i = 24 ∨ kd i = 25 ∨ kd i = 26 ∨ kd i = 27 ∨ kd i = 28) i hi
  rcases hkk with hk | hk | hk | hk | hk | hk | hk | hk | hk | hk | hk | hk | hk | hk | hk | hk | hk | hk | hk
  · obtain rfl : i = 0 := (by decide +kernel : ∀ i, i < 120 → kd i = 1 → i = 0) i hi hk
    rw [g_c1 hk] at h ⊢
    rw [hb _ hx.1, hb _ hx.2.1, hb _ hx.2.2.1, hb _ hx.2.2.2, hb 1 (by decide), hb 3 (by decide), hb 8 (by decide), hb 14 (by decide), hb 16 (by decide), hb 18 (by decide)]
    exact h
  · rw [g_c2 hk] at h ⊢
    rw [hb 2 (by decide)]
    exact h
  · rw [g_c3 hk] at h ⊢
    rw [hb 1 (by decide), hb 4 (by decide), hb 5 (by decide), hb 6 (by decide), hb 7 (by decide)]
    exact h
  · rw [g_c4 hk] at h ⊢
    rw [hb 9 (by decide), hb 10 (by decide), hb 12 (by decide)]
    exact h
  · rw [g_c5 hk] at h ⊢
    rw [hb (i + 1) ((by decide +kernel : ∀ i, i < 120 → kd i = 5 → i + 1 < 120) i hi hk)]
    exact h
  · rw [g_c6 hk] at h ⊢
    rw [hb 14 (by decide), hb 8 (by decide), hb 19 (by decide)]
    exact h
  · rw [g_c7 hk] at h ⊢
    rw [hb (i + 1) ((by decide +kernel : ∀ i, i < 120 → kd i = 7 → i + 1 < 120) i hi hk), hb (i + 2) ((by decide +kernel : ∀ i, i < 120 → kd i = 7 → i + 2 < 120) i hi hk), hb (i + 3) ((by decide +kernel : ∀ i, i < 120 → kd i = 7 → i + 3 < 120) i hi hk), hb (i + 4) ((by decide +kernel : ∀ i, i < 120 → kd i = 7 → i + 4 < 120) i hi hk)]
    exact h
  · rw [g_c8 hk] at h ⊢; exact h
  · rw [g_c9 hk] at h ⊢
    rw [hb (i + 1) ((by decide +kernel : ∀ i, i < 120 → kd i = 9 → i + 1 < 120) i hi hk), hb (i + 2) ((by decide +kernel : ∀ i, i < 120 → kd i = 9 → i + 2 < 120) i hi hk)]
    exact h
  · rw [g_c10 hk] at h ⊢
    rw [hb (i + 1) ((by decide +kernel : ∀ i, i < 120 → kd i = 10 → i + 1 < 120) i hi hk)]
    exact h
  · rw [g_c20 hk] at h ⊢; exact h
  · rw [g_c21 hk] at h ⊢; exact h
  · rw [g_c22 hk] at h ⊢; exact h
  · rw [g_c23 hk] at h ⊢; exact h
  · rw [g_c24 hk] at h ⊢; exact h
  · rw [g_c25 hk] at h ⊢; exact h
  · rw [g_c26 hk] at h ⊢
    refine g_atqV (fun j hj => ?_) h
    have h9 := (by decide +kernel : ∀ i, i < 120 → kd i = 26 → i + 4 + 1 * 15 < 120) i hi hk
    simp only
    rw [hb (i + 4 + 1 * j) (by omega)]
  · rw [g_c27 hk] at h ⊢; exact h
  · rw [g_c28 hk] at h ⊢
    refine g_atqV (fun j hj => ?_) h
    have h9 := (by decide +kernel : ∀ i, i < 120 → kd i = 28 → i + 4 + 3 * 7 < 120) i hi hk
    simp only
    rw [hb (i + 4 + 3 * j) (by omega)]
abbrev g_LGW (G : GL) (h0 t a1 k b1 b2 b3 b4 wp d1 d2 d3 d4 d5 hr e1 tr f1 cr g1 : Nat) (fb fv fc fw : Nat → Nat) : va_W := (h0, .inr (12, [.ref t, .ref k, .ref wp, .ref hr, .ref tr, .ref cr, .ref (fb 0), .ref (fv 0), .ref (fc 0), .ref (fw 0), .int (-1)])) :: (((((((((g_LTape G t a1 ++ g_LTok G k t b1 b2 b3 b4) ++ g_LWarp G wp d1 d2 d3 d4 d5) ++ g_LRow G hr e1) ++ g_LRow G tr f1) ++ g_LCourse G cr hr wp g1) ++ g_LRB G fb) ++ g_LVoc G fv) ++ g_LRB G fc) ++ g_LVoc G fw)
set_option maxRecDepth 100000 in
set_option maxHeartbeats 4000000 in
theorem c_X12_init {l : Launch} {G : GL} {h0 sz : Nat} {bo : Bool}  (hbo : bo = true) : Met l yX12_init (.code yX12_init cX12_init 1 none :: gT) (g_rm 4 119 6514) (va_Pc [.ref h0] (g_PC G h0 (.inr (12, [.null, .null, .null, .null, .null, .null, .null, .null, .null, .null, .int 0])) sz bo)) (g_QC G h0 (.inr (12, [.null, .null, .null, .null, .null, .null, .null, .null, .null, .null, .int 0])) sz (fun w => ∃ t a1 k b1 b2 b3 b4 wp d1 d2 d3 d4 d5 hr e1 tr f1 cr g1 : Nat, ∃ fb fv fc fw : Nat → Nat, w = g_LGW G h0 t a1 k b1 b2 b3 b4 wp d1 d2 d3 d4 d5 hr e1 tr f1 cr g1 fb fv fc fw)) 119 6514 (va_A [(h0, .inr (12, [.null, .null, .null, .null, .null, .null, .null, .null, .null, .null, .int 0]))] sz) := by
  refine g_entryC (by decide) rfl (Nat.le_of_ble_eq_true rfl) (fun p e s m args below meth c ls C0 hl hsz hP hD hS hA hAg hkb hin => ?_)
  have hl : lv_has ls 1 [(0, .ref h0)] := hl
  refine lv_aload_n C0.hx C0.hb dX12_init_0 rfl (lv_at hl 0 rfl) ?_
  refine W.objInit C0.hx C0.hb C0.hown (C0.hts _ tm_X12_1) (C0.hts _ ti_java_lang_Object__init_) (C0.hts _ tc_java_lang_Object__init_) rfl (by rw [C0.hml]; exact hl.1) rfl dX12_init_1 (Nat.le_of_ble_eq_true rfl) (Nat.le_of_ble_eq_true rfl) ?_
  refine W.eq (g2 := F0 m 4 ls []) rfl ?_
  refine lv_aload_n C0.hx C0.hb dX12_init_4 rfl (lv_at hl 0 rfl) ?_
  refine va_new (ci := 7) (fs := [.null, .int 0]) (C := RX7) (T := TX7) (N := 2) C0.hx C0.hb C0.hts tu_X7 tyX7 tyX7_ok C0.hown (C0.hts _ tl_X12_7) (C0.hts _ ta_X7) (C0.hts _ tn_X7) C0.hK hP hD hS hA rfl (fun j hj => by rcases (show j = 0 ∨ j = 1 by omega) with rfl | rfl <;> rfl) (Nat.le_of_ble_eq_true rfl) (Nat.le_of_ble_eq_true rfl) dX12_init_5 (fun q1 H hP hD hS => ?_)
  refine lv_dup C0.hx C0.hb dX12_init_8 rfl ?_
  refine g_ctorN (ws := [(h0, .inr (12, [.null, .null, .null, .null, .null, .null, .null, .null, .null, .null, .int 0]))]) (raw := .inr (7, [.null, .int 0])) (As := []) (rest := [.ref q1, .ref h0]) C0 hP hD hS hA hAg hkb (c_X7_init  ) (g_cwG (n := 0) tc_X7_init tn_X7 md_X7_init (by decide) (by decide) (by decide) (by decide)) tmN_X12_9 rfl ti_X7_init rfl hl.1 rfl (Nat.le_of_ble_eq_true rfl) dX12_init_9 (fun w2 H locs hL_w2 hP hD hS _ => ?_)
  have hP : va_P (g_D G) vwCl ((h0, .inr (12, [.null, .null, .null, .null, .null, .null, .null, .null, .null, .null, .int 0])) :: w2) H := hP
  have hD : va_D (va_A [(h0, .inr (12, [.null, .null, .null, .null, .null, .null, .null, .null, .null, .null, .int 0]))] sz) ((h0, .inr (12, [.null, .null, .null, .null, .null, .null, .null, .null, .null, .null, .int 0])) :: w2) := hD
  refine va_putF (D := g_D G) (ci := 12) (v := .ref q1) (ty := .object "GlideWhistles$Tape") (C := RX12) (T := TX12) (N := 11) C0.hx C0.hb C0.hts tu_X12 tyX12 tyX12_ok nmX12 C0.hown C0.hK hP hD hS 0 rfl rfl 0 (by decide) (C0.hts _ tf_X12_10) (fun _ h9 => h9) rfl hin rfl (by decide +kernel) rfl rfl (Nat.le_of_ble_eq_true rfl) dX12_init_12 (fun H locs hP hD hS => ?_)
  have hP : va_P (g_D G) vwCl ((h0, .inr (12, [.ref q1, .null, .null, .null, .null, .null, .null, .null, .null, .null, .int 0])) :: w2) H := hP
  have hD : va_D (va_A [(h0, .inr (12, [.null, .null, .null, .null, .null, .null, .null, .null, .null, .null, .int 0]))] sz) ((h0, .inr (12, [.ref q1, .null, .null, .null, .null, .null, .null, .null, .null, .null, .int 0])) :: w2) := hD
  refine lv_aload_n C0.hx C0.hb dX12_init_15 rfl (lv_at hl 0 rfl) ?_
  refine va_new (ci := 8) (fs := [.null, .null, .null, .null, .null, .int 0]) (C := RX8) (T := TX8) (N := 6) C0.hx C0.hb C0.hts tu_X8 tyX8 tyX8_ok C0.hown (C0.hts _ tl_X12_16) (C0.hts _ ta_X8) (C0.hts _ tn_X8) C0.hK hP hD hS hA rfl (fun j hj => by rcases (show j = 0 ∨ j = 1 ∨ j = 2 ∨ j = 3 ∨ j = 4 ∨ j = 5 by omega) with rfl | rfl | rfl | rfl | rfl | rfl <;> rfl) (Nat.le_of_ble_eq_true rfl) (Nat.le_of_ble_eq_true rfl) dX12_init_16 (fun q3 H hP hD hS => ?_)
  refine lv_dup C0.hx C0.hb dX12_init_19 rfl ?_
  refine lv_aload_n C0.hx C0.hb dX12_init_20 rfl (lv_at hl 0 rfl) ?_
  refine va_get (D := g_D G) (ci := 12) (v := .ref q1) (C := RX12) (T := TX12) (N := 11) C0.hx C0.hb C0.hts tu_X12 C0.hown C0.hK hP 0 rfl rfl 0 (by decide) (C0.hts _ tf_X12_10) (fun _ h9 => h9) rfl dX12_init_21 ?_
  refine g_ctorI (ws := (h0, .inr (12, [.ref q1, .null, .null, .null, .null, .null, .null, .null, .null, .null, .int 0])) :: w2) (raw := .inr (8, [.null, .null, .null, .null, .null, .int 0])) (As := [.ref q1]) (rest := [.ref q3, .ref h0]) C0 hP hD hS hA hAg hkb (c_X8_init (a1 := q1) hbo) (g_cwG (n := 1) tc_X8_init tn_X8 md_X8_init (by decide) (by decide) (by decide) (by decide)) tm_X12_18 rfl ti_X8_init rfl hl.1 rfl (Nat.le_of_ble_eq_true rfl) dX12_init_24 (fun w4 H locs hL_w4 hP hD hS _ => ?_)
  have hP : va_P (g_D G) vwCl ((h0, .inr (12, [.ref q1, .null, .null, .null, .null, .null, .null, .null, .null, .null, .int 0])) :: (w2 ++ w4)) H := hP
  have hD : va_D (va_A [(h0, .inr (12, [.null, .null, .null, .null, .null, .null, .null, .null, .null, .null, .int 0]))] sz) ((h0, .inr (12, [.ref q1, .null, .null, .null, .null, .null, .null, .null, .null, .null, .int 0])) :: (w2 ++ w4)) := hD
  refine va_putF (D := g_D G) (ci := 12) (v := .ref q3) (ty := .object "GlideWhistles$Tokens") (C := RX12) (T := TX12) (N := 11) C0.hx C0.hb C0.hts tu_X12 tyX12 tyX12_ok nmX12 C0.hown C0.hK hP hD hS 0 rfl rfl 1 (by decide) (C0.hts _ tf_X12_21) (fun _ h9 => h9) rfl hin rfl (by decide +kernel) rfl rfl (Nat.le_of_ble_eq_true rfl) dX12_init_27 (fun H locs hP hD hS => ?_)
  have hP : va_P (g_D G) vwCl ((h0, .inr (12, [.ref q1, .ref q3, .null, .null, .null, .null, .null, .null, .null, .null, .int 0])) :: (w2 ++ w4)) H := hP
  have hD : va_D (va_A [(h0, .inr (12, [.null, .null, .null, .null, .null, .null, .null, .null, .null, .null, .int 0]))] sz) ((h0, .inr (12, [.ref q1, .ref q3, .null, .null, .null, .null, .null, .null, .null, .null, .int 0])) :: (w2 ++ w4)) := hD
  refine lv_aload_n C0.hx C0.hb dX12_init_30 rfl (lv_at hl 0 rfl) ?_
  refine va_new (ci := 10) (fs := [.null, .null, .null]) (C := RX10) (T := TX10) (N := 3) C0.hx C0.hb C0.hts tu_X10 tyX10 tyX10_ok C0.hown (C0.hts _ tl_X12_25) (C0.hts _ ta_X10) (C0.hts _ tn_X10) C0.hK hP hD hS hA rfl (fun j hj => by rcases (show j = 0 ∨ j = 1 ∨ j = 2 by omega) with rfl | rfl | rfl <;> rfl) (Nat.le_of_ble_eq_true rfl) (Nat.le_of_ble_eq_true rfl) dX12_init_31 (fun q5 H hP hD hS => ?_)
  refine lv_dup C0.hx C0.hb dX12_init_34 rfl ?_
  refine g_ctorN (ws := (h0, .inr (12, [.ref q1, .ref q3, .null, .null, .null, .null, .null, .null, .null, .null, .int 0])) :: (w2 ++ w4)) (raw := .inr (10, [.null, .null, .null])) (As := []) (rest := [.ref q5, .ref h0]) C0 hP hD hS hA hAg hkb (c_X10_init  ) (g_cwG (n := 0) tc_X10_init tn_X10 md_X10_init (by decide) (by decide) (by decide) (by decide)) tmN_X12_27 rfl ti_X10_init rfl hl.1 rfl (Nat.le_of_ble_eq_true rfl) dX12_init_35 (fun w6 H locs hL_w6 hP hD hS _ => ?_)
  have hP : va_P (g_D G) vwCl ((h0, .inr (12, [.ref q1, .ref q3, .null, .null, .null, .null, .null, .null, .null, .null, .int 0])) :: ((w2 ++ w4) ++ w6)) H := hP
  have hD : va_D (va_A [(h0, .inr (12, [.null, .null, .null, .null, .null, .null, .null, .null, .null, .null, .int 0]))] sz) ((h0, .inr (12, [.ref q1, .ref q3, .null, .null, .null, .null, .null, .null, .null, .null, .int 0])) :: ((w2 ++ w4) ++ w6)) := hD
  refine va_putF (D := g_D G) (ci := 12) (v := .ref q5) (ty := .object "GlideWhistles$Warp") (C := RX12) (T := TX12) (N := 11) C0.hx C0.hb C0.hts tu_X12 tyX12 tyX12_ok nmX12 C0.hown C0.hK hP hD hS 0 rfl rfl 2 (by decide) (C0.hts _ tf_X12_28) (fun _ h9 => h9) rfl hin rfl (by decide +kernel) rfl rfl (Nat.le_of_ble_eq_true rfl) dX12_init_38 (fun H locs hP hD hS => ?_)
  have hP : va_P (g_D G) vwCl ((h0, .inr (12, [.ref q1, .ref q3, .ref q5, .null, .null, .null, .null, .null, .null, .null, .int 0])) :: ((w2 ++ w4) ++ w6)) H := hP
  have hD : va_D (va_A [(h0, .inr (12, [.null, .null, .null, .null, .null, .null, .null, .null, .null, .null, .int 0]))] sz) ((h0, .inr (12, [.ref q1, .ref q3, .ref q5, .null, .null, .null, .null, .null, .null, .null, .int 0])) :: ((w2 ++ w4) ++ w6)) := hD
  refine lv_aload_n C0.hx C0.hb dX12_init_41 rfl (lv_at hl 0 rfl) ?_
  refine va_new (ci := 4) (fs := [.null, .int 0]) (C := RX3) (T := TX3) (N := 2) C0.hx C0.hb C0.hts tu_X3 tyX3 tyX3_ok C0.hown (C0.hts _ tl_X12_32) (C0.hts _ ta_X3) (C0.hts _ tn_X3) C0.hK hP hD hS hA rfl (fun j hj => by rcases (show j = 0 ∨ j = 1 by omega) with rfl | rfl <;> rfl) (Nat.le_of_ble_eq_true rfl) (Nat.le_of_ble_eq_true rfl) dX12_init_42 (fun q7 H hP hD hS => ?_)
  refine lv_dup C0.hx C0.hb dX12_init_45 rfl ?_
  refine g_ctorN (ws := (h0, .inr (12, [.ref q1, .ref q3, .ref q5, .null, .null, .null, .null, .null, .null, .null, .int 0])) :: ((w2 ++ w4) ++ w6)) (raw := .inr (4, [.null, .int 0])) (As := []) (rest := [.ref q7, .ref h0]) C0 hP hD hS hA hAg hkb (c_X3_init  ) (g_cwG (n := 0) tc_X3_init tn_X3 md_X3_init (by decide) (by decide) (by decide) (by decide)) tmN_X12_34 rfl ti_X3_init rfl hl.1 rfl (Nat.le_of_ble_eq_true rfl) dX12_init_46 (fun w8 H locs hL_w8 hP hD hS _ => ?_)
  have hP : va_P (g_D G) vwCl ((h0, .inr (12, [.ref q1, .ref q3, .ref q5, .null, .null, .null, .null, .null, .null, .null, .int 0])) :: (((w2 ++ w4) ++ w6) ++ w8)) H := hP
  have hD : va_D (va_A [(h0, .inr (12, [.null, .null, .null, .null, .null, .null, .null, .null, .null, .null, .int 0]))] sz) ((h0, .inr (12, [.ref q1, .ref q3, .ref q5, .null, .null, .null, .null, .null, .null, .null, .int 0])) :: (((w2 ++ w4) ++ w6) ++ w8)) := hD
  refine va_putF (D := g_D G) (ci := 12) (v := .ref q7) (ty := .object "GlideWhistles$Row") (C := RX12) (T := TX12) (N := 11) C0.hx C0.hb C0.hts tu_X12 tyX12 tyX12_ok nmX12 C0.hown C0.hK hP hD hS 0 rfl rfl 3 (by decide) (C0.hts _ tf_X12_35) (fun _ h9 => h9) rfl hin rfl (by decide +kernel) rfl rfl (Nat.le_of_ble_eq_true rfl) dX12_init_49 (fun H locs hP hD hS => ?_)
  have hP : va_P (g_D G) vwCl ((h0, .inr (12, [.ref q1, .ref q3, .ref q5, .ref q7, .null, .null, .null, .null, .null, .null, .int 0])) :: (((w2 ++ w4) ++ w6) ++ w8)) H := hP
  have hD : va_D (va_A [(h0, .inr (12, [.null, .null, .null, .null, .null, .null, .null, .null, .null, .null, .int 0]))] sz) ((h0, .inr (12, [.ref q1, .ref q3, .ref q5, .ref q7, .null, .null, .null, .null, .null, .null, .int 0])) :: (((w2 ++ w4) ++ w6) ++ w8)) := hD
  refine lv_aload_n C0.hx C0.hb dX12_init_52 rfl (lv_at hl 0 rfl) ?_
  refine va_new (ci := 4) (fs := [.null, .int 0]) (C := RX3) (T := TX3) (N := 2) C0.hx C0.hb C0.hts tu_X3 tyX3 tyX3_ok C0.hown (C0.hts _ tl_X12_32) (C0.hts _ ta_X3) (C0.hts _ tn_X3) C0.hK hP hD hS hA rfl (fun j hj => by rcases (show j = 0 ∨ j = 1 by omega) with rfl | rfl <;> rfl) (Nat.le_of_ble_eq_true rfl) (Nat.le_of_ble_eq_true rfl) dX12_init_53 (fun q9 H hP hD hS => ?_)
  refine lv_dup C0.hx C0.hb dX12_init_56 rfl ?_
  refine g_ctorN (ws := (h0, .inr (12, [.ref q1, .ref q3, .ref q5, .ref q7, .null, .null, .null, .null, .null, .null, .int 0])) :: (((w2 ++ w4) ++ w6) ++ w8)) (raw := .inr (4, [.null, .int 0])) (As := []) (rest := [.ref q9, .ref h0]) C0 hP hD hS hA hAg hkb (c_X3_init  ) (g_cwG (n := 0) tc_X3_init tn_X3 md_X3_init (by decide) (by decide) (by decide) (by decide)) tmN_X12_34 rfl ti_X3_init rfl hl.1 rfl (Nat.le_of_ble_eq_true rfl) dX12_init_57 (fun w10 H locs hL_w10 hP hD hS _ => ?_)
  have hP : va_P (g_D G) vwCl ((h0, .inr (12, [.ref q1, .ref q3, .ref q5, .ref q7, .null, .null, .null, .null, .null, .null, .int 0])) :: ((((w2 ++ w4) ++ w6) ++ w8) ++ w10)) H := hP
  have hD : va_D (va_A [(h0, .inr (12, [.null, .null, .null, .null, .null, .null, .null, .null, .null, .null, .int 0]))] sz) ((h0, .inr (12, [.ref q1, .ref q3, .ref q5, .ref q7, .null, .null, .null, .null, .null, .null, .int 0])) :: ((((w2 ++ w4) ++ w6) ++ w8) ++ w10)) := hD
  refine va_putF (D := g_D G) (ci := 12) (v := .ref q9) (ty := .object "GlideWhistles$Row") (C := RX12) (T := TX12) (N := 11) C0.hx C0.hb C0.hts tu_X12 tyX12 tyX12_ok nmX12 C0.hown C0.hK hP hD hS 0 rfl rfl 4 (by decide) (C0.hts _ tf_X12_39) (fun _ h9 => h9) rfl hin rfl (by decide +kernel) rfl rfl (Nat.le_of_ble_eq_true rfl) dX12_init_60 (fun H locs hP hD hS => ?_)
  have hP : va_P (g_D G) vwCl ((h0, .inr (12, [.ref q1, .ref q3, .ref q5, .ref q7, .ref q9, .null, .null, .null, .null, .null, .int 0])) :: ((((w2 ++ w4) ++ w6) ++ w8) ++ w10)) H := hP
  have hD : va_D (va_A [(h0, .inr (12, [.null, .null, .null, .null, .null, .null, .null, .null, .null, .null, .int 0]))] sz) ((h0, .inr (12, [.ref q1, .ref q3, .ref q5, .ref q7, .ref q9, .null, .null, .null, .null, .null, .int 0])) :: ((((w2 ++ w4) ++ w6) ++ w8) ++ w10)) := hD
  refine lv_aload_n C0.hx C0.hb dX12_init_63 rfl (lv_at hl 0 rfl) ?_
  refine va_new (ci := 2) (fs := [.null, .null, .null, .int 0]) (C := RX1) (T := TX1) (N := 4) C0.hx C0.hb C0.hts tu_X1 tyX1 tyX1_ok C0.hown (C0.hts _ tl_X12_42) (C0.hts _ ta_X1) (C0.hts _ tn_X1) C0.hK hP hD hS hA rfl (fun j hj => by rcases (show j = 0 ∨ j = 1 ∨ j = 2 ∨ j = 3 by omega) with rfl | rfl | rfl | rfl <;> rfl) (Nat.le_of_ble_eq_true rfl) (Nat.le_of_ble_eq_true rfl) dX12_init_64 (fun q11 H hP hD hS => ?_)
  refine lv_dup C0.hx C0.hb dX12_init_67 rfl ?_
  refine lv_aload_n C0.hx C0.hb dX12_init_68 rfl (lv_at hl 0 rfl) ?_
  refine va_get (D := g_D G) (ci := 12) (v := .ref q7) (C := RX12) (T := TX12) (N := 11) C0.hx C0.hb C0.hts tu_X12 C0.hown C0.hK hP 0 rfl rfl 3 (by decide) (C0.hts _ tf_X12_35) (fun _ h9 => h9) rfl dX12_init_69 ?_
  refine lv_aload_n C0.hx C0.hb dX12_init_72 rfl (lv_at hl 0 rfl) ?_
  refine va_get (D := g_D G) (ci := 12) (v := .ref q5) (C := RX12) (T := TX12) (N := 11) C0.hx C0.hb C0.hts tu_X12 C0.hown C0.hK hP 0 rfl rfl 2 (by decide) (C0.hts _ tf_X12_28) (fun _ h9 => h9) rfl dX12_init_73 ?_
  refine g_ctorI (ws := (h0, .inr (12, [.ref q1, .ref q3, .ref q5, .ref q7, .ref q9, .null, .null, .null, .null, .null, .int 0])) :: ((((w2 ++ w4) ++ w6) ++ w8) ++ w10)) (raw := .inr (2, [.null, .null, .null, .int 0])) (As := [.ref q7, .ref q5]) (rest := [.ref q11, .ref h0]) C0 hP hD hS hA hAg hkb (c_X1_init (a1 := q7) (a2 := q5) ) (g_cwG (n := 2) tc_X1_init tn_X1 md_X1_init (by decide) (by decide) (by decide) (by decide)) tm_X12_44 rfl ti_X1_init rfl hl.1 rfl (Nat.le_of_ble_eq_true rfl) dX12_init_76 (fun w12 H locs hL_w12 hP hD hS _ => ?_)
  have hP : va_P (g_D G) vwCl ((h0, .inr (12, [.ref q1, .ref q3, .ref q5, .ref q7, .ref q9, .null, .null, .null, .null, .null, .int 0])) :: (((((w2 ++ w4) ++ w6) ++ w8) ++ w10) ++ w12)) H := hP
  have hD : va_D (va_A [(h0, .inr (12, [.null, .null, .null, .null, .null, .null, .null, .null, .null, .null, .int 0]))] sz) ((h0, .inr (12, [.ref q1, .ref q3, .ref q5, .ref q7, .ref q9, .null, .null, .null, .null, .null, .int 0])) :: (((((w2 ++ w4) ++ w6) ++ w8) ++ w10) ++ w12)) := hD
  refine va_putF (D := g_D G) (ci := 12) (v := .ref q11) (ty := .object "GlideWhistles$Course") (C := RX12) (T := TX12) (N := 11) C0.hx C0.hb C0.hts tu_X12 tyX12 tyX12_ok nmX12 C0.hown C0.hK hP hD hS 0 rfl rfl 5 (by decide) (C0.hts _ tf_X12_47) (fun _ h9 => h9) rfl hin rfl (by decide +kernel) rfl rfl (Nat.le_of_ble_eq_true rfl) dX12_init_79 (fun H locs hP hD hS => ?_)
  have hP : va_P (g_D G) vwCl ((h0, .inr (12, [.ref q1, .ref q3, .ref q5, .ref q7, .ref q9, .ref q11, .null, .null, .null, .null, .int 0])) :: (((((w2 ++ w4) ++ w6) ++ w8) ++ w10) ++ w12)) H := hP
  have hD : va_D (va_A [(h0, .inr (12, [.null, .null, .null, .null, .null, .null, .null, .null, .null, .null, .int 0]))] sz) ((h0, .inr (12, [.ref q1, .ref q3, .ref q5, .ref q7, .ref q9, .ref q11, .null, .null, .null, .null, .int 0])) :: (((((w2 ++ w4) ++ w6) ++ w8) ++ w10) ++ w12)) := hD
  refine lv_aload_n C0.hx C0.hb dX12_init_82 rfl (lv_at hl 0 rfl) ?_
  refine va_new (ci := 6) (fs := [.null, .null, .null, .null, .int 0, .int 0, .int 0, .int 0]) (C := RX5) (T := TX5) (N := 8) C0.hx C0.hb C0.hts tu_X5 tyX5 tyX5_ok C0.hown (C0.hts _ tl_X12_51) (C0.hts _ ta_X5) (C0.hts _ tn_X5) C0.hK hP hD hS hA rfl (fun j hj => by rcases (show j = 0 ∨ j = 1 ∨ j = 2 ∨ j = 3 ∨ j = 4 ∨ j = 5 ∨ j = 6 ∨ j = 7 by omega) with rfl | rfl | rfl | rfl | rfl | rfl | rfl | rfl <;> rfl) (Nat.le_of_ble_eq_true rfl) (Nat.le_of_ble_eq_true rfl) dX12_init_83 (fun q13 H hP hD hS => ?_)
  refine lv_dup C0.hx C0.hb dX12_init_86 rfl ?_
  refine g_ctorI (ws := (h0, .inr (12, [.ref q1, .ref q3, .ref q5, .ref q7, .ref q9, .ref q11, .null, .null, .null, .null, .int 0])) :: (((((w2 ++ w4) ++ w6) ++ w8) ++ w10) ++ w12)) (raw := .inr (6, [.null, .null, .null, .null, .int 0, .int 0, .int 0, .int 0])) (As := []) (rest := [.ref q13, .ref h0]) C0 hP hD hS hA hAg hkb (c_X5_init  hbo) (g_cwG (n := 0) tc_X5_init tn_X5 md_X5_init (by decide) (by decide) (by decide) (by decide)) tm_X12_53 rfl ti_X5_init rfl hl.1 rfl (Nat.le_of_ble_eq_true rfl) dX12_init_87 (fun w14 H locs hL_w14 hP hD hS _ => ?_)
  have hP : va_P (g_D G) vwCl ((h0, .inr (12, [.ref q1, .ref q3, .ref q5, .ref q7, .ref q9, .ref q11, .null, .null, .null, .null, .int 0])) :: ((((((w2 ++ w4) ++ w6) ++ w8) ++ w10) ++ w12) ++ w14)) H := hP
  have hD : va_D (va_A [(h0, .inr (12, [.null, .null, .null, .null, .null, .null, .null, .null, .null, .null, .int 0]))] sz) ((h0, .inr (12, [.ref q1, .ref q3, .ref q5, .ref q7, .ref q9, .ref q11, .null, .null, .null, .null, .int 0])) :: ((((((w2 ++ w4) ++ w6) ++ w8) ++ w10) ++ w12) ++ w14)) := hD
  refine va_put (D := g_D G) (ci := 12) (v := .ref q13) (ty := .object "GlideWhistles$RuleBook") (C := RX12) (T := TX12) (N := 11) C0.hx C0.hb C0.hts tu_X12 tyX12 tyX12_ok nmX12 C0.hown C0.hK hP hD hS 0 rfl rfl 6 (by decide) (C0.hts _ tf_X12_54) (fun _ h9 => h9) rfl (by decide +kernel) rfl rfl (Nat.le_of_ble_eq_true rfl) dX12_init_90 (fun H locs hP hD hS => ?_)
  have hP : va_P (g_D G) vwCl ((h0, .inr (12, [.ref q1, .ref q3, .ref q5, .ref q7, .ref q9, .ref q11, .ref q13, .null, .null, .null, .int 0])) :: ((((((w2 ++ w4) ++ w6) ++ w8) ++ w10) ++ w12) ++ w14)) H := hP
  have hD : va_D (va_A [(h0, .inr (12, [.null, .null, .null, .null, .null, .null, .null, .null, .null, .null, .int 0]))] sz) ((h0, .inr (12, [.ref q1, .ref q3, .ref q5, .ref q7, .ref q9, .ref q11, .ref q13, .null, .null, .null, .int 0])) :: ((((((w2 ++ w4) ++ w6) ++ w8) ++ w10) ++ w12) ++ w14)) := hD
  refine lv_aload_n C0.hx C0.hb dX12_init_93 rfl (lv_at hl 0 rfl) ?_
  refine va_new (ci := 9) (fs := [.null, .null, .int 0, .int 0, .int 0]) (C := RX9) (T := TX9) (N := 5) C0.hx C0.hb C0.hts tu_X9 tyX9 tyX9_ok C0.hown (C0.hts _ tl_X12_58) (C0.hts _ ta_X9) (C0.hts _ tn_X9) C0.hK hP hD hS hA rfl (fun j hj => by rcases (show j = 0 ∨ j = 1 ∨ j = 2 ∨ j = 3 ∨ j = 4 by omega) with rfl | rfl | rfl | rfl | rfl <;> rfl) (Nat.le_of_ble_eq_true rfl) (Nat.le_of_ble_eq_true rfl) dX12_init_94 (fun q15 H hP hD hS => ?_)
  refine lv_dup C0.hx C0.hb dX12_init_97 rfl ?_
  refine g_ctorI (ws := (h0, .inr (12, [.ref q1, .ref q3, .ref q5, .ref q7, .ref q9, .ref q11, .ref q13, .null, .null, .null, .int 0])) :: ((((((w2 ++ w4) ++ w6) ++ w8) ++ w10) ++ w12) ++ w14)) (raw := .inr (9, [.null, .null, .int 0, .int 0, .int 0])) (As := []) (rest := [.ref q15, .ref h0]) C0 hP hD hS hA hAg hkb (c_X9_init  hbo) (g_cwG (n := 0) tc_X9_init tn_X9 md_X9_init (by decide) (by decide) (by decide) (by decide)) tm_X12_60 rfl ti_X9_init rfl hl.1 rfl (Nat.le_of_ble_eq_true rfl) dX12_init_98 (fun w16 H locs hL_w16 hP hD hS _ => ?_)
  have hP : va_P (g_D G) vwCl ((h0, .inr (12, [.ref q1, .ref q3, .ref q5, .ref q7, .ref q9, .ref q11, .ref q13, .null, .null, .null, .int 0])) :: (((((((w2 ++ w4) ++ w6) ++ w8) ++ w10) ++ w12) ++ w14) ++ w16)) H := hP
  have hD : va_D (va_A [(h0, .inr (12, [.null, .null, .null, .null, .null, .null, .null, .null, .null, .null, .int 0]))] sz) ((h0, .inr (12, [.ref q1, .ref q3, .ref q5, .ref q7, .ref q9, .ref q11, .ref q13, .null, .null, .null, .int 0])) :: (((((((w2 ++ w4) ++ w6) ++ w8) ++ w10) ++ w12) ++ w14) ++ w16)) := hD
  refine va_put (D := g_D G) (ci := 12) (v := .ref q15) (ty := .object "GlideWhistles$Vocabulary") (C := RX12) (T := TX12) (N := 11) C0.hx C0.hb C0.hts tu_X12 tyX12 tyX12_ok nmX12 C0.hown C0.hK hP hD hS 0 rfl rfl 7 (by decide) (C0.hts _ tf_X12_61) (fun _ h9 => h9) rfl (by decide +kernel) rfl rfl (Nat.le_of_ble_eq_true rfl) dX12_init_101 (fun H locs hP hD hS => ?_)
  have hP : va_P (g_D G) vwCl ((h0, .inr (12, [.ref q1, .ref q3, .ref q5, .ref q7, .ref q9, .ref q11, .ref q13, .ref q15, .null, .null, .int 0])) :: (((((((w2 ++ w4) ++ w6) ++ w8) ++ w10) ++ w12) ++ w14) ++ w16)) H := hP
  have hD : va_D (va_A [(h0, .inr (12, [.null, .null, .null, .null, .null, .null, .null, .null, .null, .null, .int 0]))] sz) ((h0, .inr (12, [.ref q1, .ref q3, .ref q5, .ref q7, .ref q9, .ref q11, .ref q13, .ref q15, .null, .null, .int 0])) :: (((((((w2 ++ w4) ++ w6) ++ w8) ++ w10) ++ w12) ++ w14) ++ w16)) := hD
  refine lv_aload_n C0.hx C0.hb dX12_init_104 rfl (lv_at hl 0 rfl) ?_
  refine va_new (ci := 6) (fs := [.null, .null, .null, .null, .int 0, .int 0, .int 0, .int 0]) (C := RX5) (T := TX5) (N := 8) C0.hx C0.hb C0.hts tu_X5 tyX5 tyX5_ok C0.hown (C0.hts _ tl_X12_51) (C0.hts _ ta_X5) (C0.hts _ tn_X5) C0.hK hP hD hS hA rfl (fun j hj => by rcases (show j = 0 ∨ j = 1 ∨ j = 2 ∨ j = 3 ∨ j = 4 ∨ j = 5 ∨ j = 6 ∨ j = 7 by omega) with rfl | rfl | rfl | rfl | rfl | rfl | rfl | rfl <;> rfl) (Nat.le_of_ble_eq_true rfl) (Nat.le_of_ble_eq_true rfl) dX12_init_105 (fun q17 H hP hD hS => ?_)
  refine lv_dup C0.hx C0.hb dX12_init_108 rfl ?_
  refine g_ctorI (ws := (h0, .inr (12, [.ref q1, .ref q3, .ref q5, .ref q7, .ref q9, .ref q11, .ref q13, .ref q15, .null, .null, .int 0])) :: (((((((w2 ++ w4) ++ w6) ++ w8) ++ w10) ++ w12) ++ w14) ++ w16)) (raw := .inr (6, [.null, .null, .null, .null, .int 0, .int 0, .int 0, .int 0])) (As := []) (rest := [.ref q17, .ref h0]) C0 hP hD hS hA hAg hkb (c_X5_init  hbo) (g_cwG (n := 0) tc_X5_init tn_X5 md_X5_init (by decide) (by decide) (by decide) (by decide)) tm_X12_53 rfl ti_X5_init rfl hl.1 rfl (Nat.le_of_ble_eq_true rfl) dX12_init_109 (fun w18 H locs hL_w18 hP hD hS _ => ?_)
  have hP : va_P (g_D G) vwCl ((h0, .inr (12, [.ref q1, .ref q3, .ref q5, .ref q7, .ref q9, .ref q11, .ref q13, .ref q15, .null, .null, .int 0])) :: ((((((((w2 ++ w4) ++ w6) ++ w8) ++ w10) ++ w12) ++ w14) ++ w16) ++ w18)) H := hP
  have hD : va_D (va_A [(h0, .inr (12, [.null, .null, .null, .null, .null, .null, .null, .null, .null, .null, .int 0]))] sz) ((h0, .inr (12, [.ref q1, .ref q3, .ref q5, .ref q7, .ref q9, .ref q11, .ref q13, .ref q15, .null, .null, .int 0])) :: ((((((((w2 ++ w4) ++ w6) ++ w8) ++ w10) ++ w12) ++ w14) ++ w16) ++ w18)) := hD
  refine va_put (D := g_D G) (ci := 12) (v := .ref q17) (ty := .object "GlideWhistles$RuleBook") (C := RX12) (T := TX12) (N := 11) C0.hx C0.hb C0.hts tu_X12 tyX12 tyX12_ok nmX12 C0.hown C0.hK hP hD hS 0 rfl rfl 8 (by decide) (C0.hts _ tf_X12_65) (fun _ h9 => h9) rfl (by decide +kernel) rfl rfl (Nat.le_of_ble_eq_true rfl) dX12_init_112 (fun H locs hP hD hS => ?_)
  have hP : va_P (g_D G) vwCl ((h0, .inr (12, [.ref q1, .ref q3, .ref q5, .ref q7, .ref q9, .ref q11, .ref q13, .ref q15, .ref q17, .null, .int 0])) :: ((((((((w2 ++ w4) ++ w6) ++ w8) ++ w10) ++ w12) ++ w14) ++ w16) ++ w18)) H := hP
  have hD : va_D (va_A [(h0, .inr (12, [.null, .null, .null, .null, .null, .null, .null, .null, .null, .null, .int 0]))] sz) ((h0, .inr (12, [.ref q1, .ref q3, .ref q5, .ref q7, .ref q9, .ref q11, .ref q13, .ref q15, .ref q17, .null, .int 0])) :: ((((((((w2 ++ w4) ++ w6) ++ w8) ++ w10) ++ w12) ++ w14) ++ w16) ++ w18)) := hD
  refine lv_aload_n C0.hx C0.hb dX12_init_115 rfl (lv_at hl 0 rfl) ?_
  refine va_new (ci := 9) (fs := [.null, .null, .int 0, .int 0, .int 0]) (C := RX9) (T := TX9) (N := 5) C0.hx C0.hb C0.hts tu_X9 tyX9 tyX9_ok C0.hown (C0.hts _ tl_X12_58) (C0.hts _ ta_X9) (C0.hts _ tn_X9) C0.hK hP hD hS hA rfl (fun j hj => by rcases (show j = 0 ∨ j = 1 ∨ j = 2 ∨ j = 3 ∨ j = 4 by omega) with rfl | rfl | rfl | rfl | rfl <;> rfl) (Nat.le_of_ble_eq_true rfl) (Nat.le_of_ble_eq_true rfl) dX12_init_116 (fun q19 H hP hD hS => ?_)
  refine lv_dup C0.hx C0.hb dX12_init_119 rfl ?_
  refine g_ctorI (ws := (h0, .inr (12, [.ref q1, .ref q3, .ref q5, .ref q7, .ref q9, .ref q11, .ref q13, .ref q15, .ref q17, .null, .int 0])) :: ((((((((w2 ++ w4) ++ w6) ++ w8) ++ w10) ++ w12) ++ w14) ++ w16) ++ w18)) (raw := .inr (9, [.null, .null, .int 0, .int 0, .int 0])) (As := []) (rest := [.ref q19, .ref h0]) C0 hP hD hS hA hAg hkb (c_X9_init  hbo) (g_cwG (n := 0) tc_X9_init tn_X9 md_X9_init (by decide) (by decide) (by decide) (by decide)) tm_X12_60 rfl ti_X9_init rfl hl.1 rfl (Nat.le_of_ble_eq_true rfl) dX12_init_120 (fun w20 H locs hL_w20 hP hD hS _ => ?_)
  have hP : va_P (g_D G) vwCl ((h0, .inr (12, [.ref q1, .ref q3, .ref q5, .ref q7, .ref q9, .ref q11, .ref q13, .ref q15, .ref q17, .null, .int 0])) :: (((((((((w2 ++ w4) ++ w6) ++ w8) ++ w10) ++ w12) ++ w14) ++ w16) ++ w18) ++ w20)) H := hP
  have hD : va_D (va_A [(h0, .inr (12, [.null, .null, .null, .null, .null, .null, .null, .null, .null, .null, .int 0]))] sz) ((h0, .inr (12, [.ref q1, .ref q3, .ref q5, .ref q7, .ref q9, .ref q11, .ref q13, .ref q15, .ref q17, .null, .int 0])) :: (((((((((w2 ++ w4) ++ w6) ++ w8) ++ w10) ++ w12) ++ w14) ++ w16) ++ w18) ++ w20)) := hD
  refine va_put (D := g_D G) (ci := 12) (v := .ref q19) (ty := .object "GlideWhistles$Vocabulary") (C := RX12) (T := TX12) (N := 11) C0.hx C0.hb C0.hts tu_X12 tyX12 tyX12_ok nmX12 C0.hown C0.hK hP hD hS 0 rfl rfl 9 (by decide) (C0.hts _ tf_X12_68) (fun _ h9 => h9) rfl (by decide +kernel) rfl rfl (Nat.le_of_ble_eq_true rfl) dX12_init_123 (fun H locs hP hD hS => ?_)
  have hP : va_P (g_D G) vwCl ((h0, .inr (12, [.ref q1, .ref q3, .ref q5, .ref q7, .ref q9, .ref q11, .ref q13, .ref q15, .ref q17, .ref q19, .int 0])) :: (((((((((w2 ++ w4) ++ w6) ++ w8) ++ w10) ++ w12) ++ w14) ++ w16) ++ w18) ++ w20)) H := hP
  have hD : va_D (va_A [(h0, .inr (12, [.null, .null, .null, .null, .null, .null, .null, .null, .null, .null, .int 0]))] sz) ((h0, .inr (12, [.ref q1, .ref q3, .ref q5, .ref q7, .ref q9, .ref q11, .ref q13, .ref q15, .ref q17, .ref q19, .int 0])) :: (((((((((w2 ++ w4) ++ w6) ++ w8) ++ w10) ++ w12) ++ w14) ++ w16) ++ w18) ++ w20)) := hD
  refine lv_aload_n C0.hx C0.hb dX12_init_126 rfl (lv_at hl 0 rfl) ?_
  refine lv_iconst (v := (-1 : Int32)) C0.hx C0.hb dX12_init_127 (by decide) ?_
  refine va_put (D := g_D G) (ci := 12) (v := .int (-1)) (ty := .int) (C := RX12) (T := TX12) (N := 11) C0.hx C0.hb C0.hts tu_X12 tyX12 tyX12_ok nmX12 C0.hown C0.hK hP hD hS 0 rfl rfl 10 (by decide) (C0.hts _ tf_X12_71) (fun _ h9 => h9) rfl (by decide +kernel) rfl rfl (Nat.le_of_ble_eq_true rfl) dX12_init_128 (fun H locs hP hD hS => ?_)
  have hP : va_P (g_D G) vwCl ((h0, .inr (12, [.ref q1, .ref q3, .ref q5, .ref q7, .ref q9, .ref q11, .ref q13, .ref q15, .ref q17, .ref q19, .int (-1)])) :: (((((((((w2 ++ w4) ++ w6) ++ w8) ++ w10) ++ w12) ++ w14) ++ w16) ++ w18) ++ w20)) H := hP
  have hD : va_D (va_A [(h0, .inr (12, [.null, .null, .null, .null, .null, .null, .null, .null, .null, .null, .int 0]))] sz) ((h0, .inr (12, [.ref q1, .ref q3, .ref q5, .ref q7, .ref q9, .ref q11, .ref q13, .ref q15, .ref q17, .ref q19, .int (-1)])) :: (((((((((w2 ++ w4) ++ w6) ++ w8) ++ w10) ++ w12) ++ w14) ++ w16) ++ w18) ++ w20)) := hD
  obtain ⟨a1, rfl⟩ := hL_w2
  obtain ⟨b1, b2, b3, b4, rfl⟩ := hL_w4
  obtain ⟨d1, d2, d3, d4, d5, rfl⟩ := hL_w6
  obtain ⟨e1, rfl⟩ := hL_w8
  obtain ⟨f1, rfl⟩ := hL_w10
  obtain ⟨g1, rfl⟩ := hL_w12
  obtain ⟨fb, hfb, rfl⟩ := hL_w14
  obtain ⟨fv, hfv, rfl⟩ := hL_w16
  obtain ⟨fc, hfc, rfl⟩ := hL_w18
  obtain ⟨fw, hfw, rfl⟩ := hL_w20
  subst hfb
  subst hfv
  subst hfc
  subst hfw
  exact g_endC C0 hP hD hS ⟨_, _, _, _, _, _, _, _, _, _, _, _, _, _, _, _, _, _, _, fb, fv, fc, fw, rfl⟩ (Nat.le_refl _) (Nat.le_refl _) dX12_init_131
def g_aGW (h0 t a1 k b1 b2 b3 b4 wp d1 d2 d3 d4 d5 hr e1 tr f1 cr g1 : Nat) (fb fv fc fw : Nat → Nat) : Nat → Nat := fun i => if i < 20 then g_lst [h0, t, a1, k, b1, b2, b3, b4, wp, d1, d2, d3, d4, d5, hr, e1, tr, f1, cr, g1] i else if i < 41 then fb (i - 20) else if i < 70 then fv (i - 41) else if i < 91 then fc (i - 70) else fw (i - 91)
theorem g_Pl {D : va_G} {cl : List vw_C} {a b : va_W} {H : Heap} (h : va_P D cl (a ++ b) H) : va_P D cl a H := fun k q hk => h k q (by rw [List.getElem?_append_left (List.getElem?_eq_some_iff.mp hk).1]; exact hk)
theorem g_Pr {D : va_G} {cl : List vw_C} {a b : va_W} {H : Heap} (h : va_P D cl (a ++ b) H) : va_P D cl b H := fun k q hk => h (a.length + k) q (by rw [List.getElem?_append_right (by omega)]; simpa using hk)
set_option maxRecDepth 100000 in
set_option maxHeartbeats 4000000 in
theorem g_RB20at {G : GL} {H : Heap} {f fb : Nat → Nat} {y : MS} {o : Nat → Int32} (hf : ∀ j, j < 21 → f (20 + j) = fb j) (hP : va_P (g_D G) vwCl (g_LRB G fb) H) : ∀ i, 20 ≤ i → i < 41 → va_at (g_D G) vwCl (f i, g_c (g_re G f) (g_x0, y, o) i) H := by
  have e20 : f 20 = fb 0 := hf 0 (by decide)
  have e21 : f 21 = fb 1 := hf 1 (by decide)
  have e22 : f 22 = fb 2 := hf 2 (by decide)
  have e23 : f 23 = fb 3 := hf 3 (by decide)
  have e24 : f 24 = fb 4 := hf 4 (by decide)
  have e25 : f 25 = fb 5 := hf 5 (by decide)
  have e26 : f 26 = fb 6 := hf 6 (by decide)
  have e27 : f 27 = fb 7 := hf 7 (by decide)
  have e28 : f 28 = fb 8 := hf 8 (by decide)
  have e29 : f 29 = fb 9 := hf 9 (by decide)
  have e30 : f 30 = fb 10 := hf 10 (by decide)
  have e31 : f 31 = fb 11 := hf 11 (by decide)
  have e32 : f 32 = fb 12 := hf 12 (by decide)
  have e33 : f 33 = fb 13 := hf 13 (by decide)
  have e34 : f 34 = fb 14 := hf 14 (by decide)
  have e35 : f 35 = fb 15 := hf 15 (by decide)
  have e36 : f 36 = fb 16 := hf 16 (by decide)
  have e37 : f 37 = fb 17 := hf 17 (by decide)
  have e38 : f 38 = fb 18 := hf 18 (by decide)
  have e39 : f 39 = fb 19 := hf 19 (by decide)
  have e40 : f 40 = fb 20 := hf 20 (by decide)
  intro i h1 h2
  obtain ⟨j, rfl⟩ : ∃ j, i = 20 + j := ⟨i - 20, by omega⟩
  have hj : j < 21 := by omega
  clear h1 h2
  revert j
  have h_0 : ∀ j, j < 0 → va_at (g_D G) vwCl (f (20 + j), g_c (g_re G f) (g_x0, y, o) (20 + j)) H := lt_0
  have h_1 := lt_s h_0 (by
    show va_at (g_D G) vwCl (f 20, g_c (g_re G f) (g_x0, y, o) 20) H
    rw [g_c7 (by decide : kd 20 = 7), e20]
    show va_at (g_D G) vwCl (fb 0, .inr (6, [.ref (f 21), .ref (f 22), .ref (f 23), .ref (f 24), .int 0, .int 0, .int 4, .int 6])) H
    rw [e21, e22, e23, e24]
    exact hP 0 _ rfl)
  have h_2 := lt_s h_1 (by
    show va_at (g_D G) vwCl (f 21, g_c (g_re G f) (g_x0, y, o) 21) H
    rw [g_c26 (by decide : kd 21 = 26), e21]
    refine g_atqV (fun j hj => ?_) (hP 1 _ rfl)
    show some (fb (5 + j)) = some (g_ad (g_re G f) (21 + 4 + 1 * j))
    rw [g_adre (by omega)]
    have h9 := hf (5 + 1 * j) (by omega)
    rw [show 21 + 4 + 1 * j = 20 + (5 + 1 * j) by omega, h9]; simp)
  have h_3 := lt_s h_2 (by
    show va_at (g_D G) vwCl (f 22, g_c (g_re G f) (g_x0, y, o) 22) H
    rw [g_c8 (by decide : kd 22 = 8), e22]
    show va_at (g_D G) vwCl (fb 2, .inr (5, [.ref (g_sg G 9), .int (-1), .int 0, .int 0, .int 0])) H
    exact hP 2 _ rfl)
  have h_4 := lt_s h_3 (by
    show va_at (g_D G) vwCl (f 23, g_c (g_re G f) (g_x0, y, o) 23) H
    rw [g_c27 (by decide : kd 23 = 27), e23]
    show va_at (g_D G) vwCl (fb 3, .inl (g_cA G 3, 400, .inr (.inr (.inr (.inr (fun _ => some (g_sg G 44))))))) H
    exact hP 3 _ rfl)
  have h_5 := lt_s h_4 (by
    show va_at (g_D G) vwCl (f 24, g_c (g_re G f) (g_x0, y, o) 24) H
    rw [g_c25 (by decide : kd 24 = 25), e24]
    show va_at (g_D G) vwCl (fb 4, .inl (g_cA G 0, 400, .inl (fun _ => 0))) H
    exact hP 4 _ rfl)
  have h_6 := lt_s h_5 (by
    show va_at (g_D G) vwCl (f 25, g_c (g_re G f) (g_x0, y, o) 25) H
    rw [g_c8 (by decide : kd 25 = 8), e25]
    show va_at (g_D G) vwCl (fb 5, .inr (5, [.ref (g_sg G 9), .int (-1), .int 0, .int 0, .int 0])) H
    exact hP 5 _ rfl)
  have h_7 := lt_s h_6 (by
    show va_at (g_D G) vwCl (f 26, g_c (g_re G f) (g_x0, y, o) 26) H
    rw [g_c8 (by decide : kd 26 = 8), e26]
    show va_at (g_D G) vwCl (fb 6, .inr (5, [.ref (g_sg G 9), .int (-1), .int 0, .int 0, .int 0])) H
    exact hP 6 _ rfl)
  have h_8 := lt_s h_7 (by
    show va_at (g_D G) vwCl (f 27, g_c (g_re G f) (g_x0, y, o) 27) H
    rw [g_c8 (by decide : kd 27 = 8), e27]
    show va_at (g_D G) vwCl (fb 7, .inr (5, [.ref (g_sg G 9), .int (-1), .int 0, .int 0, .int 0])) H
    exact hP 7 _ rfl)
  have h_9 := lt_s h_8 (by
    show va_at (g_D G) vwCl (f 28, g_c (g_re G f) (g_x0, y, o) 28) H
    rw [g_c8 (by decide : kd 28 = 8), e28]
    show va_at (g_D G) vwCl (fb 8, .inr (5, [.ref (g_sg G 9), .int (-1), .int 0, .int 0, .int 0])) H
    exact hP 8 _ rfl)
  have h_10 := lt_s h_9 (by
    show va_at (g_D G) vwCl (f 29, g_c (g_re G f) (g_x0, y, o) 29) H
    rw [g_c8 (by decide : kd 29 = 8), e29]
    show va_at (g_D G) vwCl (fb 9, .inr (5, [.ref (g_sg G 9), .int (-1), .int 0, .int 0, .int 0])) H
    exact hP 9 _ rfl)
  have h_11 := lt_s h_10 (by
    show va_at (g_D G) vwCl (f 30, g_c (g_re G f) (g_x0, y, o) 30) H
    rw [g_c8 (by decide : kd 30 = 8), e30]
    show va_at (g_D G) vwCl (fb 10, .inr (5, [.ref (g_sg G 9), .int (-1), .int 0, .int 0, .int 0])) H
    exact hP 10 _ rfl)
  have h_12 := lt_s h_11 (by
    show va_at (g_D G) vwCl (f 31, g_c (g_re G f) (g_x0, y, o) 31) H
    rw [g_c8 (by decide : kd 31 = 8), e31]
    show va_at (g_D G) vwCl (fb 11, .inr (5, [.ref (g_sg G 9), .int (-1), .int 0, .int 0, .int 0])) H
    exact hP 11 _ rfl)
  have h_13 := lt_s h_12 (by
    show va_at (g_D G) vwCl (f 32, g_c (g_re G f) (g_x0, y, o) 32) H
    rw [g_c8 (by decide : kd 32 = 8), e32]
    show va_at (g_D G) vwCl (fb 12, .inr (5, [.ref (g_sg G 9), .int (-1), .int 0, .int 0, .int 0])) H
    exact hP 12 _ rfl)
  have h_14 := lt_s h_13 (by
    show va_at (g_D G) vwCl (f 33, g_c (g_re G f) (g_x0, y, o) 33) H
    rw [g_c8 (by decide : kd 33 = 8), e33]
    show va_at (g_D G) vwCl (fb 13, .inr (5, [.ref (g_sg G 9), .int (-1), .int 0, .int 0, .int 0])) H
    exact hP 13 _ rfl)
  have h_15 := lt_s h_14 (by
    show va_at (g_D G) vwCl (f 34, g_c (g_re G f) (g_x0, y, o) 34) H
    rw [g_c8 (by decide : kd 34 = 8), e34]
    show va_at (g_D G) vwCl (fb 14, .inr (5, [.ref (g_sg G 9), .int (-1), .int 0, .int 0, .int 0])) H
    exact hP 14 _ rfl)
  have h_16 := lt_s h_15 (by
    show va_at (g_D G) vwCl (f 35, g_c (g_re G f) (g_x0, y, o) 35) H
    rw [g_c8 (by decide : kd 35 = 8), e35]
    show va_at (g_D G) vwCl (fb 15, .inr (5, [.ref (g_sg G 9), .int (-1), .int 0, .int 0, .int 0])) H
    exact hP 15 _ rfl)
  have h_17 := lt_s h_16 (by
    show va_at (g_D G) vwCl (f 36, g_c (g_re G f) (g_x0, y, o) 36) H
    rw [g_c8 (by decide : kd 36 = 8), e36]
    show va_at (g_D G) vwCl (fb 16, .inr (5, [.ref (g_sg G 9), .int (-1), .int 0, .int 0, .int 0])) H
    exact hP 16 _ rfl)
  have h_18 := lt_s h_17 (by
    show va_at (g_D G) vwCl (f 37, g_c (g_re G f) (g_x0, y, o) 37) H
    rw [g_c8 (by decide : kd 37 = 8), e37]
    show va_at (g_D G) vwCl (fb 17, .inr (5, [.ref (g_sg G 9), .int (-1), .int 0, .int 0, .int 0])) H
    exact hP 17 _ rfl)
  have h_19 := lt_s h_18 (by
    show va_at (g_D G) vwCl (f 38, g_c (g_re G f) (g_x0, y, o) 38) H
    rw [g_c8 (by decide : kd 38 = 8), e38]
    show va_at (g_D G) vwCl (fb 18, .inr (5, [.ref (g_sg G 9), .int (-1), .int 0, .int 0, .int 0])) H
    exact hP 18 _ rfl)
  have h_20 := lt_s h_19 (by
    show va_at (g_D G) vwCl (f 39, g_c (g_re G f) (g_x0, y, o) 39) H
    rw [g_c8 (by decide : kd 39 = 8), e39]
    show va_at (g_D G) vwCl (fb 19, .inr (5, [.ref (g_sg G 9), .int (-1), .int 0, .int 0, .int 0])) H
    exact hP 19 _ rfl)
  have h_21 := lt_s h_20 (by
    show va_at (g_D G) vwCl (f 40, g_c (g_re G f) (g_x0, y, o) 40) H
    rw [g_c8 (by decide : kd 40 = 8), e40]
    show va_at (g_D G) vwCl (fb 20, .inr (5, [.ref (g_sg G 9), .int (-1), .int 0, .int 0, .int 0])) H
    exact hP 20 _ rfl)
  exact h_21
set_option maxRecDepth 100000 in
set_option maxHeartbeats 4000000 in
theorem g_RB70at {G : GL} {H : Heap} {f fb : Nat → Nat} {y : MS} {o : Nat → Int32} (hf : ∀ j, j < 21 → f (70 + j) = fb j) (hP : va_P (g_D G) vwCl (g_LRB G fb) H) : ∀ i, 70 ≤ i → i < 91 → va_at (g_D G) vwCl (f i, g_c (g_re G f) (g_x0, y, o) i) H := by
  have e70 : f 70 = fb 0 := hf 0 (by decide)
  have e71 : f 71 = fb 1 := hf 1 (by decide)
  have e72 : f 72 = fb 2 := hf 2 (by decide)
  have e73 : f 73 = fb 3 := hf 3 (by decide)
  have e74 : f 74 = fb 4 := hf 4 (by decide)
  have e75 : f 75 = fb 5 := hf 5 (by decide)
  have e76 : f 76 = fb 6 := hf 6 (by decide)
  have e77 : f 77 = fb 7 := hf 7 (by decide)
  have e78 : f 78 = fb 8 := hf 8 (by decide)
  have e79 : f 79 = fb 9 := hf 9 (by decide)
  have e80 : f 80 = fb 10 := hf 10 (by decide)
  have e81 : f 81 = fb 11 := hf 11 (by decide)
  have e82 : f 82 = fb 12 := hf 12 (by decide)
  have e83 : f 83 = fb 13 := hf 13 (by decide)
  have e84 : f 84 = fb 14 := hf 14 (by decide)
  have e85 : f 85 = fb 15 := hf 15 (by decide)
  have e86 : f 86 = fb 16 := hf 16 (by decide)
  have e87 : f 87 = fb 17 := hf 17 (by decide)
  have e88 : f 88 = fb 18 := hf 18 (by decide)
  have e89 : f 89 = fb 19 := hf 19 (by decide)
  have e90 : f 90 = fb 20 := hf 20 (by decide)
  intro i h1 h2
  obtain ⟨j, rfl⟩ : ∃ j, i = 70 + j := ⟨i - 70, by omega⟩
  have hj : j < 21 := by omega
  clear h1 h2
  revert j
  have h_0 : ∀ j, j < 0 → va_at (g_D G) vwCl (f (70 + j), g_c (g_re G f) (g_x0, y, o) (70 + j)) H := lt_0
  have h_1 := lt_s h_0 (by
    show va_at (g_D G) vwCl (f 70, g_c (g_re G f) (g_x0, y, o) 70) H
    rw [g_c7 (by decide : kd 70 = 7), e70]
    show va_at (g_D G) vwCl (fb 0, .inr (6, [.ref (f 71), .ref (f 72), .ref (f 73), .ref (f 74), .int 0, .int 0, .int 4, .int 6])) H
    rw [e71, e72, e73, e74]
    exact hP 0 _ rfl)
  have h_2 := lt_s h_1 (by
    show va_at (g_D G) vwCl (f 71, g_c (g_re G f) (g_x0, y, o) 71) H
    rw [g_c26 (by decide : kd 71 = 26), e71]
    refine g_atqV (fun j hj => ?_) (hP 1 _ rfl)
    show some (fb (5 + j)) = some (g_ad (g_re G f) (71 + 4 + 1 * j))
    rw [g_adre (by omega)]
    have h9 := hf (5 + 1 * j) (by omega)
    rw [show 71 + 4 + 1 * j = 70 + (5 + 1 * j) by omega, h9]; simp)
  have h_3 := lt_s h_2 (by
    show va_at (g_D G) vwCl (f 72, g_c (g_re G f) (g_x0, y, o) 72) H
    rw [g_c8 (by decide : kd 72 = 8), e72]
    show va_at (g_D G) vwCl (fb 2, .inr (5, [.ref (g_sg G 9), .int (-1), .int 0, .int 0, .int 0])) H
    exact hP 2 _ rfl)
  have h_4 := lt_s h_3 (by
    show va_at (g_D G) vwCl (f 73, g_c (g_re G f) (g_x0, y, o) 73) H
    rw [g_c27 (by decide : kd 73 = 27), e73]
    show va_at (g_D G) vwCl (fb 3, .inl (g_cA G 3, 400, .inr (.inr (.inr (.inr (fun _ => some (g_sg G 44))))))) H
    exact hP 3 _ rfl)
  have h_5 := lt_s h_4 (by
    show va_at (g_D G) vwCl (f 74, g_c (g_re G f) (g_x0, y, o) 74) H
    rw [g_c25 (by decide : kd 74 = 25), e74]
    show va_at (g_D G) vwCl (fb 4, .inl (g_cA G 0, 400, .inl (fun _ => 0))) H
    exact hP 4 _ rfl)
  have h_6 := lt_s h_5 (by
    show va_at (g_D G) vwCl (f 75, g_c (g_re G f) (g_x0, y, o) 75) H
    rw [g_c8 (by decide : kd 75 = 8), e75]
    show va_at (g_D G) vwCl (fb 5, .inr (5, [.ref (g_sg G 9), .int (-1), .int 0, .int 0, .int 0])) H
    exact hP 5 _ rfl)
  have h_7 := lt_s h_6 (by
    show va_at (g_D G) vwCl (f 76, g_c (g_re G f) (g_x0, y, o) 76) H
    rw [g_c8 (by decide : kd 76 = 8), e76]
    show va_at (g_D G) vwCl (fb 6, .inr (5, [.ref (g_sg G 9), .int (-1), .int 0, .int 0, .int 0])) H
    exact hP 6 _ rfl)
  have h_8 := lt_s h_7 (by
    show va_at (g_D G) vwCl (f 77, g_c (g_re G f) (g_x0, y, o) 77) H
    rw [g_c8 (by decide : kd 77 = 8), e77]
    show va_at (g_D G) vwCl (fb 7, .inr (5, [.ref (g_sg G 9), .int (-1), .int 0, .int 0, .int 0])) H
    exact hP 7 _ rfl)
  have h_9 := lt_s h_8 (by
    show va_at (g_D G) vwCl (f 78, g_c (g_re G f) (g_x0, y, o) 78) H
    rw [g_c8 (by decide : kd 78 = 8), e78]
    show va_at (g_D G) vwCl (fb 8, .inr (5, [.ref (g_sg G 9), .int (-1), .int 0, .int 0, .int 0])) H
    exact hP 8 _ rfl)
  have h_10 := lt_s h_9 (by
    show va_at (g_D G) vwCl (f 79, g_c (g_re G f) (g_x0, y, o) 79) H
    rw [g_c8 (by decide : kd 79 = 8), e79]
    show va_at (g_D G) vwCl (fb 9, .inr (5, [.ref (g_sg G 9), .int (-1), .int 0, .int 0, .int 0])) H
    exact hP 9 _ rfl)
  have h_11 := lt_s h_10 (by
    show va_at (g_D G) vwCl (f 80, g_c (g_re G f) (g_x0, y, o) 80) H
    rw [g_c8 (by decide : kd 80 = 8), e80]
    show va_at (g_D G) vwCl (fb 10, .inr (5, [.ref (g_sg G 9), .int (-1), .int 0, .int 0, .int 0])) H
    exact hP 10 _ rfl)
  have h_12 := lt_s h_11 (by
    show va_at (g_D G) vwCl (f 81, g_c (g_re G f) (g_x0, y, o) 81) H
    rw [g_c8 (by decide : kd 81 = 8), e81]
    show va_at (g_D G) vwCl (fb 11, .inr (5, [.ref (g_sg G 9), .int (-1), .int 0, .int 0, .int 0])) H
    exact hP 11 _ rfl)
  have h_13 := lt_s h_12 (by
    show va_at (g_D G) vwCl (f 82, g_c (g_re G f) (g_x0, y, o) 82) H
    rw [g_c8 (by decide : kd 82 = 8), e82]
    show va_at (g_D G) vwCl (fb 12, .inr (5, [.ref (g_sg G 9), .int (-1), .int 0, .int 0, .int 0])) H
    exact hP 12 _ rfl)
  have h_14 := lt_s h_13 (by
    show va_at (g_D G) vwCl (f 83, g_c (g_re G f) (g_x0, y, o) 83) H
    rw [g_c8 (by decide : kd 83 = 8), e83]
    show va_at (g_D G) vwCl (fb 13, .inr (5, [.ref (g_sg G 9), .int (-1), .int 0, .int 0, .int 0])) H
    exact hP 13 _ rfl)
  have h_15 := lt_s h_14 (by
    show va_at (g_D G) vwCl (f 84, g_c (g_re G f) (g_x0, y, o) 84) H
    rw [g_c8 (by decide : kd 84 = 8), e84]
    show va_at (g_D G) vwCl (fb 14, .inr (5, [.ref (g_sg G 9), .int (-1), .int 0, .int 0, .int 0])) H
    exact hP 14 _ rfl)
  have h_16 := lt_s h_15 (by
    show va_at (g_D G) vwCl (f 85, g_c (g_re G f) (g_x0, y, o) 85) H
    rw [g_c8 (by decide : kd 85 = 8), e85]
    show va_at (g_D G) vwCl (fb 15, .inr (5, [.ref (g_sg G 9), .int (-1), .int 0, .int 0, .int 0])) H
    exact hP 15 _ rfl)
  have h_17 := lt_s h_16 (by
    show va_at (g_D G) vwCl (f 86, g_c (g_re G f) (g_x0, y, o) 86) H
    rw [g_c8 (by decide : kd 86 = 8), e86]
    show va_at (g_D G) vwCl (fb 16, .inr (5, [.ref (g_sg G 9), .int (-1), .int 0, .int 0, .int 0])) H
    exact hP 16 _ rfl)
  have h_18 := lt_s h_17 (by
    show va_at (g_D G) vwCl (f 87, g_c (g_re G f) (g_x0, y, o) 87) H
    rw [g_c8 (by decide : kd 87 = 8), e87]
    show va_at (g_D G) vwCl (fb 17, .inr (5, [.ref (g_sg G 9), .int (-1), .int 0, .int 0, .int 0])) H
    exact hP 17 _ rfl)
  have h_19 := lt_s h_18 (by
    show va_at (g_D G) vwCl (f 88, g_c (g_re G f) (g_x0, y, o) 88) H
    rw [g_c8 (by decide : kd 88 = 8), e88]
    show va_at (g_D G) vwCl (fb 18, .inr (5, [.ref (g_sg G 9), .int (-1), .int 0, .int 0, .int 0])) H
    exact hP 18 _ rfl)
  have h_20 := lt_s h_19 (by
    show va_at (g_D G) vwCl (f 89, g_c (g_re G f) (g_x0, y, o) 89) H
    rw [g_c8 (by decide : kd 89 = 8), e89]
    show va_at (g_D G) vwCl (fb 19, .inr (5, [.ref (g_sg G 9), .int (-1), .int 0, .int 0, .int 0])) H
    exact hP 19 _ rfl)
  have h_21 := lt_s h_20 (by
    show va_at (g_D G) vwCl (f 90, g_c (g_re G f) (g_x0, y, o) 90) H
    rw [g_c8 (by decide : kd 90 = 8), e90]
    show va_at (g_D G) vwCl (fb 20, .inr (5, [.ref (g_sg G 9), .int (-1), .int 0, .int 0, .int 0])) H
    exact hP 20 _ rfl)
  exact h_21
set_option maxRecDepth 100000 in
set_option maxHeartbeats 4000000 in
theorem g_Voc41at {G : GL} {H : Heap} {f fv : Nat → Nat} {y : MS} {o : Nat → Int32} (hf : ∀ j, j < 29 → f (41 + j) = fv j) (hP : va_P (g_D G) vwCl (g_LVoc G fv) H) : ∀ i, 41 ≤ i → i < 70 → va_at (g_D G) vwCl (f i, g_c (g_re G f) (g_x0, y, o) i) H := by
  have e41 : f 41 = fv 0 := hf 0 (by decide)
  have e42 : f 42 = fv 1 := hf 1 (by decide)
  have e43 : f 43 = fv 2 := hf 2 (by decide)
  have e44 : f 44 = fv 3 := hf 3 (by decide)
  have e45 : f 45 = fv 4 := hf 4 (by decide)
  have e46 : f 46 = fv 5 := hf 5 (by decide)
  have e47 : f 47 = fv 6 := hf 6 (by decide)
  have e48 : f 48 = fv 7 := hf 7 (by decide)
  have e49 : f 49 = fv 8 := hf 8 (by decide)
  have e50 : f 50 = fv 9 := hf 9 (by decide)
  have e51 : f 51 = fv 10 := hf 10 (by decide)
  have e52 : f 52 = fv 11 := hf 11 (by decide)
  have e53 : f 53 = fv 12 := hf 12 (by decide)
  have e54 : f 54 = fv 13 := hf 13 (by decide)
  have e55 : f 55 = fv 14 := hf 14 (by decide)
  have e56 : f 56 = fv 15 := hf 15 (by decide)
  have e57 : f 57 = fv 16 := hf 16 (by decide)
  have e58 : f 58 = fv 17 := hf 17 (by decide)
  have e59 : f 59 = fv 18 := hf 18 (by decide)
  have e60 : f 60 = fv 19 := hf 19 (by decide)
  have e61 : f 61 = fv 20 := hf 20 (by decide)
  have e62 : f 62 = fv 21 := hf 21 (by decide)
  have e63 : f 63 = fv 22 := hf 22 (by decide)
  have e64 : f 64 = fv 23 := hf 23 (by decide)
  have e65 : f 65 = fv 24 := hf 24 (by decide)
  have e66 : f 66 = fv 25 := hf 25 (by decide)
  have e67 : f 67 = fv 26 := hf 26 (by decide)
  have e68 : f 68 = fv 27 := hf 27 (by decide)
  have e69 : f 69 = fv 28 := hf 28 (by decide)
  intro i h1 h2
  obtain ⟨j, rfl⟩ : ∃ j, i = 41 + j := ⟨i - 41, by omega⟩
  have hj : j < 29 := by omega
  clear h1 h2
  revert j
  have h_0 : ∀ j, j < 0 → va_at (g_D G) vwCl (f (41 + j), g_c (g_re G f) (g_x0, y, o) (41 + j)) H := lt_0
  have h_1 := lt_s h_0 (by
    show va_at (g_D G) vwCl (f 41, g_c (g_re G f) (g_x0, y, o) 41) H
    rw [g_c9 (by decide : kd 41 = 9), e41]
    show va_at (g_D G) vwCl (fv 0, .inr (9, [.ref (f 42), .ref (f 43), .int 0, .int 0, .int 0])) H
    rw [e42, e43]
    exact hP 0 _ rfl)
  have h_2 := lt_s h_1 (by
    show va_at (g_D G) vwCl (f 42, g_c (g_re G f) (g_x0, y, o) 42) H
    rw [g_c28 (by decide : kd 42 = 28), e42]
    refine g_atqV (fun j hj => ?_) (hP 1 _ rfl)
    show some (fv (5 + 3 * j)) = some (g_ad (g_re G f) (42 + 4 + 3 * j))
    rw [g_adre (by omega)]
    have h9 := hf (5 + 3 * j) (by omega)
    rw [show 42 + 4 + 3 * j = 41 + (5 + 3 * j) by omega, h9])
  have h_3 := lt_s h_2 (by
    show va_at (g_D G) vwCl (f 43, g_c (g_re G f) (g_x0, y, o) 43) H
    rw [g_c10 (by decide : kd 43 = 10), e43]
    show va_at (g_D G) vwCl (fv 2, .inr (11, [.ref (f 44), .int 0, .int 999])) H
    rw [e44]
    exact hP 2 _ rfl)
  have h_4 := lt_s h_3 (by
    show va_at (g_D G) vwCl (f 44, g_c (g_re G f) (g_x0, y, o) 44) H
    rw [g_c5 (by decide : kd 44 = 5), e44]
    show va_at (g_D G) vwCl (fv 3, .inr (4, [.ref (f 45), .int 0])) H
    rw [e45]
    exact hP 3 _ rfl)
  have h_5 := lt_s h_4 (by
    show va_at (g_D G) vwCl (f 45, g_c (g_re G f) (g_x0, y, o) 45) H
    rw [g_c24 (by decide : kd 45 = 24), e45]
    show va_at (g_D G) vwCl (fv 4, .inl (g_cA G 0, 24, .inl (fun _ => 0))) H
    exact hP 4 _ rfl)
  have h_6 := lt_s h_5 (by
    show va_at (g_D G) vwCl (f 46, g_c (g_re G f) (g_x0, y, o) 46) H
    rw [g_c10 (by decide : kd 46 = 10), e46]
    show va_at (g_D G) vwCl (fv 5, .inr (11, [.ref (f 47), .int 0, .int 999])) H
    rw [e47]
    exact hP 5 _ rfl)
  have h_7 := lt_s h_6 (by
    show va_at (g_D G) vwCl (f 47, g_c (g_re G f) (g_x0, y, o) 47) H
    rw [g_c5 (by decide : kd 47 = 5), e47]
    show va_at (g_D G) vwCl (fv 6, .inr (4, [.ref (f 48), .int 0])) H
    rw [e48]
    exact hP 6 _ rfl)
  have h_8 := lt_s h_7 (by
    show va_at (g_D G) vwCl (f 48, g_c (g_re G f) (g_x0, y, o) 48) H
    rw [g_c24 (by decide : kd 48 = 24), e48]
    show va_at (g_D G) vwCl (fv 7, .inl (g_cA G 0, 24, .inl (fun _ => 0))) H
    exact hP 7 _ rfl)
  have h_9 := lt_s h_8 (by
    show va_at (g_D G) vwCl (f 49, g_c (g_re G f) (g_x0, y, o) 49) H
    rw [g_c10 (by decide : kd 49 = 10), e49]
    show va_at (g_D G) vwCl (fv 8, .inr (11, [.ref (f 50), .int 0, .int 999])) H
    rw [e50]
    exact hP 8 _ rfl)
  have h_10 := lt_s h_9 (by
    show va_at (g_D G) vwCl (f 50, g_c (g_re G f) (g_x0, y, o) 50) H
    rw [g_c5 (by decide : kd 50 = 5), e50]
    show va_at (g_D G) vwCl (fv 9, .inr (4, [.ref (f 51), .int 0])) H
    rw [e51]
    exact hP 9 _ rfl)
  have h_11 := lt_s h_10 (by
    show va_at (g_D G) vwCl (f 51, g_c (g_re G f) (g_x0, y, o) 51) H
    rw [g_c24 (by decide : kd 51 = 24), e51]
    show va_at (g_D G) vwCl (fv 10, .inl (g_cA G 0, 24, .inl (fun _ => 0))) H
    exact hP 10 _ rfl)
  have h_12 := lt_s h_11 (by
    show va_at (g_D G) vwCl (f 52, g_c (g_re G f) (g_x0, y, o) 52) H
    rw [g_c10 (by decide : kd 52 = 10), e52]
    show va_at (g_D G) vwCl (fv 11, .inr (11, [.ref (f 53), .int 0, .int 999])) H
    rw [e53]
    exact hP 11 _ rfl)
  have h_13 := lt_s h_12 (by
    show va_at (g_D G) vwCl (f 53, g_c (g_re G f) (g_x0, y, o) 53) H
    rw [g_c5 (by decide : kd 53 = 5), e53]
    show va_at (g_D G) vwCl (fv 12, .inr (4, [.ref (f 54), .int 0])) H
    rw [e54]
    exact hP 12 _ rfl)
  have h_14 := lt_s h_13 (by
    show va_at (g_D G) vwCl (f 54, g_c (g_re G f) (g_x0, y, o) 54) H
    rw [g_c24 (by decide : kd 54 = 24), e54]
    show va_at (g_D G) vwCl (fv 13, .inl (g_cA G 0, 24, .inl (fun _ => 0))) H
    exact hP 13 _ rfl)
  have h_15 := lt_s h_14 (by
    show va_at (g_D G) vwCl (f 55, g_c (g_re G f) (g_x0, y, o) 55) H
    rw [g_c10 (by decide : kd 55 = 10), e55]
    show va_at (g_D G) vwCl (fv 14, .inr (11, [.ref (f 56), .int 0, .int 999])) H
    rw [e56]
    exact hP 14 _ rfl)
  have h_16 := lt_s h_15 (by
    show va_at (g_D G) vwCl (f 56, g_c (g_re G f) (g_x0, y, o) 56) H
    rw [g_c5 (by decide : kd 56 = 5), e56]
    show va_at (g_D G) vwCl (fv 15, .inr (4, [.ref (f 57), .int 0])) H
    rw [e57]
    exact hP 15 _ rfl)
  have h_17 := lt_s h_16 (by
    show va_at (g_D G) vwCl (f 57, g_c (g_re G f) (g_x0, y, o) 57) H
    rw [g_c24 (by decide : kd 57 = 24), e57]
    show va_at (g_D G) vwCl (fv 16, .inl (g_cA G 0, 24, .inl (fun _ => 0))) H
    exact hP 16 _ rfl)
  have h_18 := lt_s h_17 (by
    show va_at (g_D G) vwCl (f 58, g_c (g_re G f) (g_x0, y, o) 58) H
    rw [g_c10 (by decide : kd 58 = 10), e58]
    show va_at (g_D G) vwCl (fv 17, .inr (11, [.ref (f 59), .int 0, .int 999])) H
    rw [e59]
    exact hP 17 _ rfl)
  have h_19 := lt_s h_18 (by
    show va_at (g_D G) vwCl (f 59, g_c (g_re G f) (g_x0, y, o) 59) H
    rw [g_c5 (by decide : kd 59 = 5), e59]
    show va_at (g_D G) vwCl (fv 18, .inr (4, [.ref (f 60), .int 0])) H
    rw [e60]
    exact hP 18 _ rfl)
  have h_20 := lt_s h_19 (by
    show va_at (g_D G) vwCl (f 60, g_c (g_re G f) (g_x0, y, o) 60) H
    rw [g_c24 (by decide : kd 60 = 24), e60]
    show va_at (g_D G) vwCl (fv 19, .inl (g_cA G 0, 24, .inl (fun _ => 0))) H
    exact hP 19 _ rfl)
  have h_21 := lt_s h_20 (by
    show va_at (g_D G) vwCl (f 61, g_c (g_re G f) (g_x0, y, o) 61) H
    rw [g_c10 (by decide : kd 61 = 10), e61]
    show va_at (g_D G) vwCl (fv 20, .inr (11, [.ref (f 62), .int 0, .int 999])) H
    rw [e62]
    exact hP 20 _ rfl)
  have h_22 := lt_s h_21 (by
    show va_at (g_D G) vwCl (f 62, g_c (g_re G f) (g_x0, y, o) 62) H
    rw [g_c5 (by decide : kd 62 = 5), e62]
    show va_at (g_D G) vwCl (fv 21, .inr (4, [.ref (f 63), .int 0])) H
    rw [e63]
    exact hP 21 _ rfl)
  have h_23 := lt_s h_22 (by
    show va_at (g_D G) vwCl (f 63, g_c (g_re G f) (g_x0, y, o) 63) H
    rw [g_c24 (by decide : kd 63 = 24), e63]
    show va_at (g_D G) vwCl (fv 22, .inl (g_cA G 0, 24, .inl (fun _ => 0))) H
    exact hP 22 _ rfl)
  have h_24 := lt_s h_23 (by
    show va_at (g_D G) vwCl (f 64, g_c (g_re G f) (g_x0, y, o) 64) H
    rw [g_c10 (by decide : kd 64 = 10), e64]
    show va_at (g_D G) vwCl (fv 23, .inr (11, [.ref (f 65), .int 0, .int 999])) H
    rw [e65]
    exact hP 23 _ rfl)
  have h_25 := lt_s h_24 (by
    show va_at (g_D G) vwCl (f 65, g_c (g_re G f) (g_x0, y, o) 65) H
    rw [g_c5 (by decide : kd 65 = 5), e65]
    show va_at (g_D G) vwCl (fv 24, .inr (4, [.ref (f 66), .int 0])) H
    rw [e66]
    exact hP 24 _ rfl)
  have h_26 := lt_s h_25 (by
    show va_at (g_D G) vwCl (f 66, g_c (g_re G f) (g_x0, y, o) 66) H
    rw [g_c24 (by decide : kd 66 = 24), e66]
    show va_at (g_D G) vwCl (fv 25, .inl (g_cA G 0, 24, .inl (fun _ => 0))) H
    exact hP 25 _ rfl)
  have h_27 := lt_s h_26 (by
    show va_at (g_D G) vwCl (f 67, g_c (g_re G f) (g_x0, y, o) 67) H
    rw [g_c10 (by decide : kd 67 = 10), e67]
    show va_at (g_D G) vwCl (fv 26, .inr (11, [.ref (f 68), .int 0, .int 999])) H
    rw [e68]
    exact hP 26 _ rfl)
  have h_28 := lt_s h_27 (by
    show va_at (g_D G) vwCl (f 68, g_c (g_re G f) (g_x0, y, o) 68) H
    rw [g_c5 (by decide : kd 68 = 5), e68]
    show va_at (g_D G) vwCl (fv 27, .inr (4, [.ref (f 69), .int 0])) H
    rw [e69]
    exact hP 27 _ rfl)
  have h_29 := lt_s h_28 (by
    show va_at (g_D G) vwCl (f 69, g_c (g_re G f) (g_x0, y, o) 69) H
    rw [g_c24 (by decide : kd 69 = 24), e69]
    show va_at (g_D G) vwCl (fv 28, .inl (g_cA G 0, 24, .inl (fun _ => 0))) H
    exact hP 28 _ rfl)
  exact h_29
set_option maxRecDepth 100000 in
set_option maxHeartbeats 4000000 in
theorem g_Voc91at {G : GL} {H : Heap} {f fv : Nat → Nat} {y : MS} {o : Nat → Int32} (hf : ∀ j, j < 29 → f (91 + j) = fv j) (hP : va_P (g_D G) vwCl (g_LVoc G fv) H) : ∀ i, 91 ≤ i → i < 120 → va_at (g_D G) vwCl (f i, g_c (g_re G f) (g_x0, y, o) i) H := by
  have e91 : f 91 = fv 0 := hf 0 (by decide)
  have e92 : f 92 = fv 1 := hf 1 (by decide)
  have e93 : f 93 = fv 2 := hf 2 (by decide)
  have e94 : f 94 = fv 3 := hf 3 (by decide)
  have e95 : f 95 = fv 4 := hf 4 (by decide)
  have e96 : f 96 = fv 5 := hf 5 (by decide)
  have e97 : f 97 = fv 6 := hf 6 (by decide)
  have e98 : f 98 = fv 7 := hf 7 (by decide)
  have e99 : f 99 = fv 8 := hf 8 (by decide)
  have e100 : f 100 = fv 9 := hf 9 (by decide)
  have e101 : f 101 = fv 10 := hf 10 (by decide)
  have e102 : f 102 = fv 11 := hf 11 (by decide)
  have e103 : f 103 = fv 12 := hf 12 (by decide)
  have e104 : f 104 = fv 13 := hf 13 (by decide)
  have e105 : f 105 = fv 14 := hf 14 (by decide)
  have e106 : f 106 = fv 15 := hf 15 (by decide)
  have e107 : f 107 = fv 16 := hf 16 (by decide)
  have e108 : f 108 = fv 17 := hf 17 (by decide)
  have e109 : f 109 = fv 18 := hf 18 (by decide)
  have e110 : f 110 = fv 19 := hf 19 (by decide)
  have e111 : f 111 = fv 20 := hf 20 (by decide)
  have e112 : f 112 = fv 21 := hf 21 (by decide)
  have e113 : f 113 = fv 22 := hf 22 (by decide)
  have e114 : f 114 = fv 23 := hf 23 (by decide)
  have e115 : f 115 = fv 24 := hf 24 (by decide)
  have e116 : f 116 = fv 25 := hf 25 (by decide)
  have e117 : f 117 = fv 26 := hf 26 (by decide)
  have e118 : f 118 = fv 27 := hf 27 (by decide)
  have e119 : f 119 = fv 28 := hf 28 (by decide)
  intro i h1 h2
  obtain ⟨j, rfl⟩ : ∃ j, i = 91 + j := ⟨i - 91, by omega⟩
  have hj : j < 29 := by omega
  clear h1 h2
  revert j
  have h_0 : ∀ j, j < 0 → va_at (g_D G) vwCl (f (91 + j), g_c (g_re G f) (g_x0, y, o) (91 + j)) H := lt_0
  have h_1 := lt_s h_0 (by
    show va_at (g_D G) vwCl (f 91, g_c (g_re G f) (g_x0, y, o) 91) H
    rw [g_c9 (by decide : kd 91 = 9), e91]
    show va_at (g_D G) vwCl (fv 0, .inr (9, [.ref (f 92), .ref (f 93), .int 0, .int 0, .int 0])) H
    rw [e92, e93]
    exact hP 0 _ rfl)
  have h_2 := lt_s h_1 (by
    show va_at (g_D G) vwCl (f 92, g_c (g_re G f) (g_x0, y, o) 92) H
    rw [g_c28 (by decide : kd 92 = 28), e92]
    refine g_atqV (fun j hj => ?_) (hP 1 _ rfl)
    show some (fv (5 + 3 * j)) = some (g_ad (g_re G f) (92 + 4 + 3 * j))
    rw [g_adre (by omega)]
    have h9 := hf (5 + 3 * j) (by omega)
    rw [show 92 + 4 + 3 * j = 91 + (5 + 3 * j) by omega, h9])
  have h_3 := lt_s h_2 (by
    show va_at (g_D G) vwCl (f 93, g_c (g_re G f) (g_x0, y, o) 93) H
    rw [g_c10 (by decide : kd 93 = 10), e93]
    show va_at (g_D G) vwCl (fv 2, .inr (11, [.ref (f 94), .int 0, .int 999])) H
    rw [e94]
    exact hP 2 _ rfl)
  have h_4 := lt_s h_3 (by
    show va_at (g_D G) vwCl (f 94, g_c (g_re G f) (g_x0, y, o) 94) H
    rw [g_c5 (by decide : kd 94 = 5), e94]
    show va_at (g_D G) vwCl (fv 3, .inr (4, [.ref (f 95), .int 0])) H
    rw [e95]
    exact hP 3 _ rfl)
  have h_5 := lt_s h_4 (by
    show va_at (g_D G) vwCl (f 95, g_c (g_re G f) (g_x0, y, o) 95) H
    rw [g_c24 (by decide : kd 95 = 24), e95]
    show va_at (g_D G) vwCl (fv 4, .inl (g_cA G 0, 24, .inl (fun _ => 0))) H
    exact hP 4 _ rfl)
  have h_6 := lt_s h_5 (by
    show va_at (g_D G) vwCl (f 96, g_c (g_re G f) (g_x0, y, o) 96) H
    rw [g_c10 (by decide : kd 96 = 10), e96]
    show va_at (g_D G) vwCl (fv 5, .inr (11, [.ref (f 97), .int 0, .int 999])) H
    rw [e97]
    exact hP 5 _ rfl)
  have h_7 := lt_s h_6 (by
    show va_at (g_D G) vwCl (f 97, g_c (g_re G f) (g_x0, y, o) 97) H
    rw [g_c5 (by decide : kd 97 = 5), e97]
    show va_at (g_D G) vwCl (fv 6, .inr (4, [.ref (f 98), .int 0])) H
    rw [e98]
    exact hP 6 _ rfl)
  have h_8 := lt_s h_7 (by
    show va_at (g_D G) vwCl (f 98, g_c (g_re G f) (g_x0, y, o) 98) H
    rw [g_c24 (by decide : kd 98 = 24), e98]
    show va_at (g_D G) vwCl (fv 7, .inl (g_cA G 0, 24, .inl (fun _ => 0))) H
    exact hP 7 _ rfl)
  have h_9 := lt_s h_8 (by
    show va_at (g_D G) vwCl (f 99, g_c (g_re G f) (g_x0, y, o) 99) H
    rw [g_c10 (by decide : kd 99 = 10), e99]
    show va_at (g_D G) vwCl (fv 8, .inr (11, [.ref (f 100), .int 0, .int 999])) H
    rw [e100]
    exact hP 8 _ rfl)
  have h_10 := lt_s h_9 (by
    show va_at (g_D G) vwCl (f 100, g_c (g_re G f) (g_x0, y, o) 100) H
    rw [g_c5 (by decide : kd 100 = 5), e100]
    show va_at (g_D G) vwCl (fv 9, .inr (4, [.ref (f 101), .int 0])) H
    rw [e101]
    exact hP 9 _ rfl)
  have h_11 := lt_s h_10 (by
    show va_at (g_D G) vwCl (f 101, g_c (g_re G f) (g_x0, y, o) 101) H
    rw [g_c24 (by decide : kd 101 = 24), e101]
    show va_at (g_D G) vwCl (fv 10, .inl (g_cA G 0, 24, .inl (fun _ => 0))) H
    exact hP 10 _ rfl)
  have h_12 := lt_s h_11 (by
    show va_at (g_D G) vwCl (f 102, g_c (g_re G f) (g_x0, y, o) 102) H
    rw [g_c10 (by decide : kd 102 = 10), e102]
    show va_at (g_D G) vwCl (fv 11, .inr (11, [.ref (f 103), .int 0, .int 999])) H
    rw [e103]
    exact hP 11 _ rfl)
  have h_13 := lt_s h_12 (by
    show va_at (g_D G) vwCl (f 103, g_c (g_re G f) (g_x0, y, o) 103) H
    rw [g_c5 (by decide : kd 103 = 5), e103]
    show va_at (g_D G) vwCl (fv 12, .inr (4, [.ref (f 104), .int 0])) H
    rw [e104]
    exact hP 12 _ rfl)
  have h_14 := lt_s h_13 (by
    show va_at (g_D G) vwCl (f 104, g_c (g_re G f) (g_x0, y, o) 104) H
    rw [g_c24 (by decide : kd 104 = 24), e104]
    show va_at (g_D G) vwCl (fv 13, .inl (g_cA G 0, 24, .inl (fun _ => 0))) H
    exact hP 13 _ rfl)
  have h_15 := lt_s h_14 (by
    show va_at (g_D G) vwCl (f 105, g_c (g_re G f) (g_x0, y, o) 105) H
    rw [g_c10 (by decide : kd 105 = 10), e105]
    show va_at (g_D G) vwCl (fv 14, .inr (11, [.ref (f 106), .int 0, .int 999])) H
    rw [e106]
    exact hP 14 _ rfl)
  have h_16 := lt_s h_15 (by
    show va_at (g_D G) vwCl (f 106, g_c (g_re G f) (g_x0, y, o) 106) H
    rw [g_c5 (by decide : kd 106 = 5), e106]
    show va_at (g_D G) vwCl (fv 15, .inr (4, [.ref (f 107), .int 0])) H
    rw [e107]
    exact hP 15 _ rfl)
  have h_17 := lt_s h_16 (by
    show va_at (g_D G) vwCl (f 107, g_c (g_re G f) (g_x0, y, o) 107) H
    rw [g_c24 (by decide : kd 107 = 24), e107]
    show va_at (g_D G) vwCl (fv 16, .inl (g_cA G 0, 24, .inl (fun _ => 0))) H
    exact hP 16 _ rfl)
  have h_18 := lt_s h_17 (by
    show va_at (g_D G) vwCl (f 108, g_c (g_re G f) (g_x0, y, o) 108) H
    rw [g_c10 (by decide : kd 108 = 10), e108]
    show va_at (g_D G) vwCl (fv 17, .inr (11, [.ref (f 109), .int 0, .int 999])) H
    rw [e109]
    exact hP 17 _ rfl)
  have h_19 := lt_s h_18 (by
    show va_at (g_D G) vwCl (f 109, g_c (g_re G f) (g_x0, y, o) 109) H
    rw [g_c5 (by decide : kd 109 = 5), e109]
    show va_at (g_D G) vwCl (fv 18, .inr (4, [.ref (f 110), .int 0])) H
    rw [e110]
    exact hP 18 _ rfl)
  have h_20 := lt_s h_19 (by
    show va_at (g_D G) vwCl (f 110, g_c (g_re G f) (g_x0, y, o) 110) H
    rw [g_c24 (by decide : kd 110 = 24), e110]
    show va_at (g_D G) vwCl (fv 19, .inl (g_cA G 0, 24, .inl (fun _ => 0))) H
    exact hP 19 _ rfl)
  have h_21 := lt_s h_20 (by
    show va_at (g_D G) vwCl (f 111, g_c (g_re G f) (g_x0, y, o) 111) H
    rw [g_c10 (by decide : kd 111 = 10), e111]
    show va_at (g_D G) vwCl (fv 20, .inr (11, [.ref (f 112), .int 0, .int 999])) H
    rw [e112]
    exact hP 20 _ rfl)
  have h_22 := lt_s h_21 (by
    show va_at (g_D G) vwCl (f 112, g_c (g_re G f) (g_x0, y, o) 112) H
    rw [g_c5 (by decide : kd 112 = 5), e112]
    show va_at (g_D G) vwCl (fv 21, .inr (4, [.ref (f 113), .int 0])) H
    rw [e113]
    exact hP 21 _ rfl)
  have h_23 := lt_s h_22 (by
    show va_at (g_D G) vwCl (f 113, g_c (g_re G f) (g_x0, y, o) 113) H
    rw [g_c24 (by decide : kd 113 = 24), e113]
    show va_at (g_D G) vwCl (fv 22, .inl (g_cA G 0, 24, .inl (fun _ => 0))) H
    exact hP 22 _ rfl)
  have h_24 := lt_s h_23 (by
    show va_at (g_D G) vwCl (f 114, g_c (g_re G f) (g_x0, y, o) 114) H
    rw [g_c10 (by decide : kd 114 = 10), e114]
    show va_at (g_D G) vwCl (fv 23, .inr (11, [.ref (f 115), .int 0, .int 999])) H
    rw [e115]
    exact hP 23 _ rfl)
  have h_25 := lt_s h_24 (by
    show va_at (g_D G) vwCl (f 115, g_c (g_re G f) (g_x0, y, o) 115) H
    rw [g_c5 (by decide : kd 115 = 5), e115]
    show va_at (g_D G) vwCl (fv 24, .inr (4, [.ref (f 116), .int 0])) H
    rw [e116]
    exact hP 24 _ rfl)
  have h_26 := lt_s h_25 (by
    show va_at (g_D G) vwCl (f 116, g_c (g_re G f) (g_x0, y, o) 116) H
    rw [g_c24 (by decide : kd 116 = 24), e116]
    show va_at (g_D G) vwCl (fv 25, .inl (g_cA G 0, 24, .inl (fun _ => 0))) H
    exact hP 25 _ rfl)
  have h_27 := lt_s h_26 (by
    show va_at (g_D G) vwCl (f 117, g_c (g_re G f) (g_x0, y, o) 117) H
    rw [g_c10 (by decide : kd 117 = 10), e117]
    show va_at (g_D G) vwCl (fv 26, .inr (11, [.ref (f 118), .int 0, .int 999])) H
    rw [e118]
    exact hP 26 _ rfl)
  have h_28 := lt_s h_27 (by
    show va_at (g_D G) vwCl (f 118, g_c (g_re G f) (g_x0, y, o) 118) H
    rw [g_c5 (by decide : kd 118 = 5), e118]
    show va_at (g_D G) vwCl (fv 27, .inr (4, [.ref (f 119), .int 0])) H
    rw [e119]
    exact hP 27 _ rfl)
  have h_29 := lt_s h_28 (by
    show va_at (g_D G) vwCl (f 119, g_c (g_re G f) (g_x0, y, o) 119) H
    rw [g_c24 (by decide : kd 119 = 24), e119]
    show va_at (g_D G) vwCl (fv 28, .inl (g_cA G 0, 24, .inl (fun _ => 0))) H
    exact hP 28 _ rfl)
  exact h_29
set_option maxRecDepth 100000 in
set_option maxHeartbeats 4000000 in
theorem g_GWat {G : GL} {H : Heap} {h0 t a1 k b1 b2 b3 b4 wp d1 d2 d3 d4 d5 hr e1 tr f1 cr g1 : Nat} {fb fv fc fw : Nat → Nat} {y : MS} {o : Nat → Int32} (hP : va_P (g_D G) vwCl (g_LGW G h0 t a1 k b1 b2 b3 b4 wp d1 d2 d3 d4 d5 hr e1 tr f1 cr g1 fb fv fc fw) H) : ∀ i, i < 120 → va_at (g_D G) vwCl (g_aGW h0 t a1 k b1 b2 b3 b4 wp d1 d2 d3 d4 d5 hr e1 tr f1 cr g1 fb fv fc fw i, g_c (g_re G (g_aGW h0 t a1 k b1 b2 b3 b4 wp d1 d2 d3 d4 d5 hr e1 tr f1 cr g1 fb fv fc fw)) (g_x0, y, o) i) H := by
  have q0 := hP 0 _ rfl
  have hP := g_Pr (a := [_]) hP
  have p10 := g_Pr hP
  have hP := g_Pl hP
  have p9 := g_Pr hP
  have hP := g_Pl hP
  have p8 := g_Pr hP
  have hP := g_Pl hP
  have p7 := g_Pr hP
  have hP := g_Pl hP
  obtain ⟨f, hfe⟩ : ∃ f, f = g_aGW h0 t a1 k b1 b2 b3 b4 wp d1 d2 d3 d4 d5 hr e1 tr f1 cr g1 fb fv fc fw := ⟨_, rfl⟩
  rw [← hfe]
  have e0 : f 0 = h0 := by rw [hfe]; rfl
  have e1 : f 1 = t := by rw [hfe]; rfl
  have e2 : f 2 = a1 := by rw [hfe]; rfl
  have e3 : f 3 = k := by rw [hfe]; rfl
  have e4 : f 4 = b1 := by rw [hfe]; rfl
  have e5 : f 5 = b2 := by rw [hfe]; rfl
  have e6 : f 6 = b3 := by rw [hfe]; rfl
  have e7 : f 7 = b4 := by rw [hfe]; rfl
  have e8 : f 8 = wp := by rw [hfe]; rfl
  have e9 : f 9 = d1 := by rw [hfe]; rfl
  have e10 : f 10 = d2 := by rw [hfe]; rfl
  have e11 : f 11 = d3 := by rw [hfe]; rfl
  have e12 : f 12 = d4 := by rw [hfe]; rfl
  have e13 : f 13 = d5 := by rw [hfe]; rfl
  have e14 : f 14 = hr := by rw [hfe]; rfl
  have e15 : f 15 = e1 := by rw [hfe]; rfl
  have e16 : f 16 = tr := by rw [hfe]; rfl
  have e17 : f 17 = f1 := by rw [hfe]; rfl
  have e18 : f 18 = cr := by rw [hfe]; rfl
  have e19 : f 19 = g1 := by rw [hfe]; rfl
  have hf20 : ∀ j, j < 21 → f (20 + j) = fb j := fun j hj => by rw [hfe]; unfold g_aGW;  rw [if_neg (by omega), if_pos (by omega)]; congr 1; omega
  have hf41 : ∀ j, j < 29 → f (41 + j) = fv j := fun j hj => by rw [hfe]; unfold g_aGW;  rw [if_neg (by omega), if_neg (by omega), if_pos (by omega)]; congr 1; omega
  have hf70 : ∀ j, j < 21 → f (70 + j) = fc j := fun j hj => by rw [hfe]; unfold g_aGW;  rw [if_neg (by omega), if_neg (by omega), if_neg (by omega), if_pos (by omega)]; congr 1; omega
  have hf91 : ∀ j, j < 29 → f (91 + j) = fw j := fun j hj => by rw [hfe]; unfold g_aGW;  rw [if_neg (by omega), if_neg (by omega), if_neg (by omega), if_neg (by omega)]; congr 1; omega
  have e20 : f 20 = fb 0 := hf20 0 (by decide)
  have e41 : f 41 = fv 0 := hf41 0 (by decide)
  have e70 : f 70 = fc 0 := hf70 0 (by decide)
  have e91 : f 91 = fw 0 := hf91 0 (by decide)
  have h_0 : ∀ i, i < 0 → va_at (g_D G) vwCl (f i, g_c (g_re G f) (g_x0, y, o) i) H := lt_0
  have h_1 := lt_s h_0 (by
    rw [g_c1 (by decide : kd 0 = 1), e0]
    show va_at (g_D G) vwCl (h0, .inr (12, [.ref (f 1), .ref (f 3), .ref (f 8), .ref (f 14), .ref (f 16), .ref (f 18), .ref (f 20), .ref (f 41), .ref (f 70), .ref (f 91), .int (-1)])) H
    rw [e1, e3, e8, e14, e16, e18, e20, e41, e70, e91]
    exact q0)
  have h_2 := lt_s h_1 (by
    rw [g_c2 (by decide : kd 1 = 2), e1]
    show va_at (g_D G) vwCl (t, .inr (7, [.ref (f 2), .int 0])) H
    rw [e2]
    exact hP 0 _ rfl)
  have h_3 := lt_s h_2 (by
    rw [g_c20 (by decide : kd 2 = 20), e2]
    show va_at (g_D G) vwCl (a1, .inl (g_cA G 1, 2000, .inl (fun _ => 0))) H
    exact hP 1 _ rfl)
  have h_4 := lt_s h_3 (by
    rw [g_c3 (by decide : kd 3 = 3), e3]
    show va_at (g_D G) vwCl (k, .inr (8, [.ref (f 1), .ref (f 4), .ref (f 5), .ref (f 6), .ref (f 7), .int 0])) H
    rw [e1, e4, e5, e6, e7]
    exact hP 2 _ rfl)
  have h_5 := lt_s h_4 (by
    rw [g_c21 (by decide : kd 4 = 21), e4]
    show va_at (g_D G) vwCl (b1, .inl (g_cA G 3, 401, .inr (.inr (.inr (.inr (fun _ => some (g_sg G 44))))))) H
    exact hP 3 _ rfl)
  have h_6 := lt_s h_5 (by
    rw [g_c22 (by decide : kd 5 = 22), e5]
    show va_at (g_D G) vwCl (b2, .inl (g_cA G 0, 401, .inl (fun _ => 0))) H
    exact hP 4 _ rfl)
  have h_7 := lt_s h_6 (by
    rw [g_c22 (by decide : kd 6 = 22), e6]
    show va_at (g_D G) vwCl (b3, .inl (g_cA G 0, 401, .inl (fun _ => 0))) H
    exact hP 5 _ rfl)
  have h_8 := lt_s h_7 (by
    rw [g_c22 (by decide : kd 7 = 22), e7]
    show va_at (g_D G) vwCl (b4, .inl (g_cA G 0, 401, .inl (fun _ => 0))) H
    exact hP 6 _ rfl)
  have h_9 := lt_s h_8 (by
    rw [g_c4 (by decide : kd 8 = 4), e8]
    show va_at (g_D G) vwCl (wp, .inr (10, [.ref (f 9), .ref (f 10), .ref (f 12)])) H
    rw [e9, e10, e12]
    exact hP 7 _ rfl)
  have h_10 := lt_s h_9 (by
    rw [g_c23 (by decide : kd 9 = 23), e9]
    show va_at (g_D G) vwCl (d1, .inl (g_cA G 0, 25, .inl (fun _ => 0))) H
    exact hP 8 _ rfl)
  have h_11 := lt_s h_10 (by
    rw [g_c5 (by decide : kd 10 = 5), e10]
    show va_at (g_D G) vwCl (d2, .inr (4, [.ref (f 11), .int 0])) H
    rw [e11]
    exact hP 9 _ rfl)
  have h_12 := lt_s h_11 (by
    rw [g_c24 (by decide : kd 11 = 24), e11]
    show va_at (g_D G) vwCl (d3, .inl (g_cA G 0, 24, .inl (fun _ => 0))) H
    exact hP 10 _ rfl)
  have h_13 := lt_s h_12 (by
    rw [g_c5 (by decide : kd 12 = 5), e12]
    show va_at (g_D G) vwCl (d4, .inr (4, [.ref (f 13), .int 0])) H
    rw [e13]
    exact hP 11 _ rfl)
  have h_14 := lt_s h_13 (by
    rw [g_c24 (by decide : kd 13 = 24), e13]
    show va_at (g_D G) vwCl (d5, .inl (g_cA G 0, 24, .inl (fun _ => 0))) H
    exact hP 12 _ rfl)
  have h_15 := lt_s h_14 (by
    rw [g_c5 (by decide : kd 14 = 5), e14]
    show va_at (g_D G) vwCl (hr, .inr (4, [.ref (f 15), .int 0])) H
    rw [e15]
    exact hP 13 _ rfl)
  have h_16 := lt_s h_15 (by
    rw [g_c24 (by decide : kd 15 = 24), e15]
    show va_at (g_D G) vwCl (e1, .inl (g_cA G 0, 24, .inl (fun _ => 0))) H
    exact hP 14 _ rfl)
  have h_17 := lt_s h_16 (by
    rw [g_c5 (by decide : kd 16 = 5), e16]
    show va_at (g_D G) vwCl (tr, .inr (4, [.ref (f 17), .int 0])) H
    rw [e17]
    exact hP 15 _ rfl)
  have h_18 := lt_s h_17 (by
    rw [g_c24 (by decide : kd 17 = 24), e17]
    show va_at (g_D G) vwCl (f1, .inl (g_cA G 0, 24, .inl (fun _ => 0))) H
    exact hP 16 _ rfl)
  have h_19 := lt_s h_18 (by
    rw [g_c6 (by decide : kd 18 = 6), e18]
    show va_at (g_D G) vwCl (cr, .inr (2, [.ref (f 14), .ref (f 8), .ref (f 19), .int 0])) H
    rw [e14, e8, e19]
    exact hP 17 _ rfl)
  have h_20 := lt_s h_19 (by
    rw [g_c25 (by decide : kd 19 = 25), e19]
    show va_at (g_D G) vwCl (g1, .inl (g_cA G 0, 400, .inl (fun _ => 0))) H
    exact hP 18 _ rfl)
  intro i hi
  rcases (show i < 20 ∨ (20 ≤ i ∧ i < 20 + 21) ∨ (41 ≤ i ∧ i < 41 + 29) ∨ (70 ≤ i ∧ i < 70 + 21) ∨ (91 ≤ i ∧ i < 91 + 29) by omega) with h | h | h | h | h
  · exact h_20 i h
  · exact g_RB20at hf20 p7 i h.1 h.2
  · exact g_Voc41at hf41 p8 i h.1 h.2
  · exact g_RB70at hf70 p9 i h.1 h.2
  · exact g_Voc91at hf91 p10 i h.1 h.2
set_option maxRecDepth 100000 in
set_option maxHeartbeats 4000000 in
theorem g_GWfst {G : GL} {h0 t a1 k b1 b2 b3 b4 wp d1 d2 d3 d4 d5 hr e1 tr f1 cr g1 : Nat} {fb fv fc fw : Nat → Nat} : (g_LGW G h0 t a1 k b1 b2 b3 b4 wp d1 d2 d3 d4 d5 hr e1 tr f1 cr g1 fb fv fc fw).map Prod.fst = (List.range 120).map (g_aGW h0 t a1 k b1 b2 b3 b4 wp d1 d2 d3 d4 d5 hr e1 tr f1 cr g1 fb fv fc fw) := by
  have h1 : List.range 120 = List.range 20 ++ ((List.range 21).map (fun j => 20 + j) ++ ((List.range 29).map (fun j => 41 + j) ++ ((List.range 21).map (fun j => 70 + j) ++ (List.range 29).map (fun j => 91 + j)))) := by decide
  have hf20 : (List.range 21).map (fun j => g_aGW h0 t a1 k b1 b2 b3 b4 wp d1 d2 d3 d4 d5 hr e1 tr f1 cr g1 fb fv fc fw (20 + j)) = (List.range 21).map fb := List.map_congr_left (fun j hj => by have := List.mem_range.mp hj; unfold g_aGW; rw [if_neg (by omega), if_pos (by omega)]; congr 1; omega)
  have hf41 : (List.range 29).map (fun j => g_aGW h0 t a1 k b1 b2 b3 b4 wp d1 d2 d3 d4 d5 hr e1 tr f1 cr g1 fb fv fc fw (41 + j)) = (List.range 29).map fv := List.map_congr_left (fun j hj => by have := List.mem_range.mp hj; unfold g_aGW; rw [if_neg (by omega), if_neg (by omega), if_pos (by omega)]; congr 1; omega)
  have hf70 : (List.range 21).map (fun j => g_aGW h0 t a1 k b1 b2 b3 b4 wp d1 d2 d3 d4 d5 hr e1 tr f1 cr g1 fb fv fc fw (70 + j)) = (List.range 21).map fc := List.map_congr_left (fun j hj => by have := List.mem_range.mp hj; unfold g_aGW; rw [if_neg (by omega), if_neg (by omega), if_neg (by omega), if_pos (by omega)]; congr 1; omega)
  have hf91 : (List.range 29).map (fun j => g_aGW h0 t a1 k b1 b2 b3 b4 wp d1 d2 d3 d4 d5 hr e1 tr f1 cr g1 fb fv fc fw (91 + j)) = (List.range 29).map fw := List.map_congr_left (fun j hj => by have := List.mem_range.mp hj; unfold g_aGW; rw [if_neg (by omega), if_neg (by omega), if_neg (by omega), if_neg (by omega)]; congr 1; omega)
  have h0 : (List.range 20).map (g_aGW h0 t a1 k b1 b2 b3 b4 wp d1 d2 d3 d4 d5 hr e1 tr f1 cr g1 fb fv fc fw) = [h0, t, a1, k, b1, b2, b3, b4, wp, d1, d2, d3, d4, d5, hr, e1, tr, f1, cr, g1] := rfl
  rw [h1]
  simp only [List.map_append, List.map_map, Function.comp_def]
  rw [hf20, hf41, hf70, hf91, h0]
  rfl
