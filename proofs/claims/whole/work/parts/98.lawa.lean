/-! the law's cases -/
def g_LV (G : GL) (b : Nat) (i : Int32) : List (Nat × Value) := [(0, .ref b), (1, .ref (g_ad G 0)), (2, .ref (g_ad G 120)), (3, .ref (g_ad G 161)), (4, .int i)]
theorem g_cmp0 {a : Int64} : lg_cmp a a = 0 := by simp [lg_cmp]
theorem g_cwL {own : String} {idx : Nat} {y : MethodName} {bytes : ByteArray} {maxL n mc ms cells slots k1 : Nat} {ret : Option FieldType} (h1 : .code y bytes maxL ret ∈ gT) (h2 : .initialized y.cls ∈ gT) (h3 : y.cls ≠ "java/lang/invoke/MethodHandle" ∧ y.cls ≠ "java/lang/invoke/VarHandle" ∧ (parseMethodDescriptor y.desc).map (fun d => d.parameters.length) = some n) (h4 : maxL ≤ 40) (h5 : k1 ≤ 1000) (h6 : cells + mc ≤ 601024) (h7 : slots + ms ≤ 7293034) : g_cw own idx y bytes maxL n ret (g_rm k1 mc ms) room_1 mc ms cells slots := by
  refine ⟨h1, h2, rfl, rfl, h3, ⟨?_, ?_⟩, h6, h7⟩
  · show k1 + 1 ≤ 2048
    omega
  · show 8 + (maxL + 11) + 64 * k1 ≤ 84000
    omega
theorem g_goodS {own : String} {idx : Nat} {y : MethodName} {w : Cond} (h1 : .methodLink own idx y ∈ gT) (h2 : .static y ∈ gT) (h3 : .initialized y.cls ∈ gT) (h4 : w ∈ gT) : GoodIn gT (va_wsS own idx y (w :: gT)) := fun v hv => by
  unfold va_wsS at hv
  simp only [List.cons_append, List.nil_append, List.mem_cons] at hv
  rcases hv with rfl | rfl | rfl | rfl | hv
  · exact g_goodT _ h1
  · exact g_goodT _ h2
  · exact g_goodT _ h3
  · exact g_goodT _ h4
  · exact g_goodT _ hv
section GLW
variable {p : Program} {l : Launch} {e : Env} {s : State} {m : MethodId} {below : List Frame} {meth : Method} {c : Code} {H : Heap} {locs : List Loc} {cells slots : Nat} {Q : State → Prop} {G : GL} {b L : Nat} {xs : Nat → Int32} {x : CS} {y : MS} {o : Nat → Int32} {ls : Array Slot} {i : Int32}
theorem w_L_errorAt (C0 : g_X G (List.range 162) p s m #[.ref b] meth c cL_law 9 RL ret) (hW : g_W G (List.range 162) (x, y, o) s.heap H locs) (hR : pp_R x y) (hl : lv_has ls 9 (g_LV G b i)) (hcl : cells + 900 ≤ 601024) (hsl : slots + 13000 ≤ 7293034) (K : ∀ (x' : CS) (y' : MS) (o' : Nat → Int32) (H' : Heap) (locs' : List Loc) (ls' : Array Slot), pp_R x' y' → g_W G (List.range 162) (x', y', o') s.heap H' locs' → lv_has ls' 9 (g_LV G b i) → W p l e room_1 s m #[.ref b] below meth c H' locs' (cells + 900) (slots + 13000) Q (F0 m 1913 ls' [])) : W p l e room_1 s m #[.ref b] below meth c H locs cells slots Q (F0 m 377 ls []) := by
  obtain ⟨r, y1, h1, h2, h3⟩ := pp_o3 hR
  refine lv_aload_n C0.hx C0.hb dL_law_377 rfl (lv_at hl 1 rfl) ?_
  refine g_calli hW (g_runV (As := []) (rest := []) C0 hW (c_X12_errorAt h1) (g_cwL (n := 0) tc_X12_errorAt tn_X12 ⟨by decide, by decide, by decide +kernel⟩ (by decide) (by decide) (by omega) (by omega)) tm_L_117 ti_X12_errorAt ts_X12_errorAt (C0.mem (i := 0) (Nat.le_of_ble_eq_true rfl)) (g_c1 k_0) rfl rfl hl.1 rfl (Nat.le_of_ble_eq_true rfl) dL_law_378) (fun H locs hW => ?_)
  refine lv_aload_n C0.hx C0.hb dL_law_381 rfl (lv_at hl 2 rfl) ?_
  refine g_calli hW (g_runV (As := []) (rest := [.int r]) C0 hW (c_X15_errorAt h2) (g_cwL (n := 0) tc_X15_errorAt tn_X15 ⟨by decide, by decide, by decide +kernel⟩ (by decide) (by decide) (by omega) (by omega)) tm_L_120 ti_X15_errorAt ts_X15_errorAt (C0.mem (i := 120) (Nat.le_of_ble_eq_true rfl)) (g_c12 k_120) rfl rfl hl.1 rfl (Nat.le_of_ble_eq_true rfl) dL_law_382) (fun H locs hW => ?_)
  refine lv_icmp_eq (tgt := 1913) C0.hx C0.hb dL_law_385 (by decide) (fun _ => ?_) (fun hc => absurd rfl hc)
  refine W.widen (k := cells + 900) (n := slots + 13000) (by omega) (by omega) ?_
  exact K x y1 o H locs ls h3 hW hl
theorem w_L_words (C0 : g_X G (List.range 162) p s m #[.ref b] meth c cL_law 9 RL ret) (hW : g_W G (List.range 162) (x, y, o) s.heap H locs) (hR : pp_R x y) (hl : lv_has ls 9 (g_LV G b i)) (hcl : cells + 900 ≤ 601024) (hsl : slots + 13000 ≤ 7293034) (K : ∀ (x' : CS) (y' : MS) (o' : Nat → Int32) (H' : Heap) (locs' : List Loc) (ls' : Array Slot), pp_R x' y' → g_W G (List.range 162) (x', y', o') s.heap H' locs' → lv_has ls' 9 (g_LV G b i) → W p l e room_1 s m #[.ref b] below meth c H' locs' (cells + 900) (slots + 13000) Q (F0 m 1913 ls' [])) : W p l e room_1 s m #[.ref b] below meth c H locs cells slots Q (F0 m 390 ls []) := by
  obtain ⟨r, y1, h1, h2, h3⟩ := pp_o4 hR
  refine lv_aload_n C0.hx C0.hb dL_law_390 rfl (lv_at hl 1 rfl) ?_
  refine g_calli hW (g_runV (As := []) (rest := []) C0 hW (c_X12_words h1) (g_cwL (n := 0) tc_X12_words tn_X12 ⟨by decide, by decide, by decide +kernel⟩ (by decide) (by decide) (by omega) (by omega)) tm_L_121 ti_X12_words ts_X12_words (C0.mem (i := 0) (Nat.le_of_ble_eq_true rfl)) (g_c1 k_0) rfl rfl hl.1 rfl (Nat.le_of_ble_eq_true rfl) dL_law_391) (fun H locs hW => ?_)
  refine lv_aload_n C0.hx C0.hb dL_law_394 rfl (lv_at hl 2 rfl) ?_
  refine g_calli hW (g_runV (As := []) (rest := [.int r]) C0 hW (c_X15_words h2) (g_cwL (n := 0) tc_X15_words tn_X15 ⟨by decide, by decide, by decide +kernel⟩ (by decide) (by decide) (by omega) (by omega)) tm_L_124 ti_X15_words ts_X15_words (C0.mem (i := 120) (Nat.le_of_ble_eq_true rfl)) (g_c12 k_120) rfl rfl hl.1 rfl (Nat.le_of_ble_eq_true rfl) dL_law_395) (fun H locs hW => ?_)
  refine lv_icmp_eq (tgt := 1913) C0.hx C0.hb dL_law_398 (by decide) (fun _ => ?_) (fun hc => absurd rfl hc)
  refine W.widen (k := cells + 900) (n := slots + 13000) (by omega) (by omega) ?_
  exact K x y1 o H locs ls h3 hW hl
theorem w_L_keptWords (C0 : g_X G (List.range 162) p s m #[.ref b] meth c cL_law 9 RL ret) (hW : g_W G (List.range 162) (x, y, o) s.heap H locs) (hR : pp_R x y) (hl : lv_has ls 9 (g_LV G b i)) (hcl : cells + 900 ≤ 601024) (hsl : slots + 13000 ≤ 7293034) (K : ∀ (x' : CS) (y' : MS) (o' : Nat → Int32) (H' : Heap) (locs' : List Loc) (ls' : Array Slot), pp_R x' y' → g_W G (List.range 162) (x', y', o') s.heap H' locs' → lv_has ls' 9 (g_LV G b i) → W p l e room_1 s m #[.ref b] below meth c H' locs' (cells + 900) (slots + 13000) Q (F0 m 1913 ls' [])) : W p l e room_1 s m #[.ref b] below meth c H locs cells slots Q (F0 m 403 ls []) := by
  obtain ⟨r, y1, h1, h2, h3⟩ := pp_o5 hR
  refine lv_aload_n C0.hx C0.hb dL_law_403 rfl (lv_at hl 1 rfl) ?_
  refine g_calli hW (g_runV (As := []) (rest := []) C0 hW (c_X12_keptWords h1) (g_cwL (n := 0) tc_X12_keptWords tn_X12 ⟨by decide, by decide, by decide +kernel⟩ (by decide) (by decide) (by omega) (by omega)) tm_L_125 ti_X12_keptWords ts_X12_keptWords (C0.mem (i := 0) (Nat.le_of_ble_eq_true rfl)) (g_c1 k_0) rfl rfl hl.1 rfl (Nat.le_of_ble_eq_true rfl) dL_law_404) (fun H locs hW => ?_)
  refine lv_aload_n C0.hx C0.hb dL_law_407 rfl (lv_at hl 2 rfl) ?_
  refine g_calli hW (g_runV (As := []) (rest := [.int r]) C0 hW (c_X15_keptWords h2) (g_cwL (n := 0) tc_X15_keptWords tn_X15 ⟨by decide, by decide, by decide +kernel⟩ (by decide) (by decide) (by omega) (by omega)) tm_L_128 ti_X15_keptWords ts_X15_keptWords (C0.mem (i := 120) (Nat.le_of_ble_eq_true rfl)) (g_c12 k_120) rfl rfl hl.1 rfl (Nat.le_of_ble_eq_true rfl) dL_law_408) (fun H locs hW => ?_)
  refine lv_icmp_eq (tgt := 1913) C0.hx C0.hb dL_law_411 (by decide) (fun _ => ?_) (fun hc => absurd rfl hc)
  refine W.widen (k := cells + 900) (n := slots + 13000) (by omega) (by omega) ?_
  exact K x y1 o H locs ls h3 hW hl
theorem w_L_rules (C0 : g_X G (List.range 162) p s m #[.ref b] meth c cL_law 9 RL ret) (hW : g_W G (List.range 162) (x, y, o) s.heap H locs) (hR : pp_R x y) (hl : lv_has ls 9 (g_LV G b i)) (hcl : cells + 900 ≤ 601024) (hsl : slots + 13000 ≤ 7293034) (K : ∀ (x' : CS) (y' : MS) (o' : Nat → Int32) (H' : Heap) (locs' : List Loc) (ls' : Array Slot), pp_R x' y' → g_W G (List.range 162) (x', y', o') s.heap H' locs' → lv_has ls' 9 (g_LV G b i) → W p l e room_1 s m #[.ref b] below meth c H' locs' (cells + 900) (slots + 13000) Q (F0 m 1913 ls' [])) : W p l e room_1 s m #[.ref b] below meth c H locs cells slots Q (F0 m 416 ls []) := by
  obtain ⟨r, y1, h1, h2, h3⟩ := pp_o6 hR
  refine lv_aload_n C0.hx C0.hb dL_law_416 rfl (lv_at hl 1 rfl) ?_
  refine g_calli hW (g_runV (As := []) (rest := []) C0 hW (c_X12_rules h1) (g_cwL (n := 0) tc_X12_rules tn_X12 ⟨by decide, by decide, by decide +kernel⟩ (by decide) (by decide) (by omega) (by omega)) tm_L_129 ti_X12_rules ts_X12_rules (C0.mem (i := 0) (Nat.le_of_ble_eq_true rfl)) (g_c1 k_0) rfl rfl hl.1 rfl (Nat.le_of_ble_eq_true rfl) dL_law_417) (fun H locs hW => ?_)
  refine lv_aload_n C0.hx C0.hb dL_law_420 rfl (lv_at hl 2 rfl) ?_
  refine g_calli hW (g_runV (As := []) (rest := [.int r]) C0 hW (c_X15_rules h2) (g_cwL (n := 0) tc_X15_rules tn_X15 ⟨by decide, by decide, by decide +kernel⟩ (by decide) (by decide) (by omega) (by omega)) tm_L_132 ti_X15_rules ts_X15_rules (C0.mem (i := 120) (Nat.le_of_ble_eq_true rfl)) (g_c12 k_120) rfl rfl hl.1 rfl (Nat.le_of_ble_eq_true rfl) dL_law_421) (fun H locs hW => ?_)
  refine lv_icmp_eq (tgt := 1913) C0.hx C0.hb dL_law_424 (by decide) (fun _ => ?_) (fun hc => absurd rfl hc)
  refine W.widen (k := cells + 900) (n := slots + 13000) (by omega) (by omega) ?_
  exact K x y1 o H locs ls h3 hW hl
theorem w_L_lessons (C0 : g_X G (List.range 162) p s m #[.ref b] meth c cL_law 9 RL ret) (hW : g_W G (List.range 162) (x, y, o) s.heap H locs) (hR : pp_R x y) (hl : lv_has ls 9 (g_LV G b i)) (hcl : cells + 900 ≤ 601024) (hsl : slots + 13000 ≤ 7293034) (K : ∀ (x' : CS) (y' : MS) (o' : Nat → Int32) (H' : Heap) (locs' : List Loc) (ls' : Array Slot), pp_R x' y' → g_W G (List.range 162) (x', y', o') s.heap H' locs' → lv_has ls' 9 (g_LV G b i) → W p l e room_1 s m #[.ref b] below meth c H' locs' (cells + 900) (slots + 13000) Q (F0 m 1913 ls' [])) : W p l e room_1 s m #[.ref b] below meth c H locs cells slots Q (F0 m 429 ls []) := by
  obtain ⟨r, y1, h1, h2, h3⟩ := pp_o7 hR
  refine lv_aload_n C0.hx C0.hb dL_law_429 rfl (lv_at hl 1 rfl) ?_
  refine g_calli hW (g_runV (As := []) (rest := []) C0 hW (c_X12_lessons h1) (g_cwL (n := 0) tc_X12_lessons tn_X12 ⟨by decide, by decide, by decide +kernel⟩ (by decide) (by decide) (by omega) (by omega)) tm_L_133 ti_X12_lessons ts_X12_lessons (C0.mem (i := 0) (Nat.le_of_ble_eq_true rfl)) (g_c1 k_0) rfl rfl hl.1 rfl (Nat.le_of_ble_eq_true rfl) dL_law_430) (fun H locs hW => ?_)
  refine lv_aload_n C0.hx C0.hb dL_law_433 rfl (lv_at hl 2 rfl) ?_
  refine g_calli hW (g_runV (As := []) (rest := [.int r]) C0 hW (c_X15_lessons h2) (g_cwL (n := 0) tc_X15_lessons tn_X15 ⟨by decide, by decide, by decide +kernel⟩ (by decide) (by decide) (by omega) (by omega)) tm_L_136 ti_X15_lessons ts_X15_lessons (C0.mem (i := 120) (Nat.le_of_ble_eq_true rfl)) (g_c12 k_120) rfl rfl hl.1 rfl (Nat.le_of_ble_eq_true rfl) dL_law_434) (fun H locs hW => ?_)
  refine lv_icmp_eq (tgt := 1913) C0.hx C0.hb dL_law_437 (by decide) (fun _ => ?_) (fun hc => absurd rfl hc)
  refine W.widen (k := cells + 900) (n := slots + 13000) (by omega) (by omega) ?_
  exact K x y1 o H locs ls h3 hW hl
theorem w_L_rulesCarriedOut (C0 : g_X G (List.range 162) p s m #[.ref b] meth c cL_law 9 RL ret) (hW : g_W G (List.range 162) (x, y, o) s.heap H locs) (hR : pp_R x y) (hl : lv_has ls 9 (g_LV G b i)) (hcl : cells + 900 ≤ 601024) (hsl : slots + 13000 ≤ 7293034) (K : ∀ (x' : CS) (y' : MS) (o' : Nat → Int32) (H' : Heap) (locs' : List Loc) (ls' : Array Slot), pp_R x' y' → g_W G (List.range 162) (x', y', o') s.heap H' locs' → lv_has ls' 9 (g_LV G b i) → W p l e room_1 s m #[.ref b] below meth c H' locs' (cells + 900) (slots + 13000) Q (F0 m 1913 ls' [])) : W p l e room_1 s m #[.ref b] below meth c H locs cells slots Q (F0 m 442 ls []) := by
  obtain ⟨r, y1, h1, h2, h3⟩ := pp_o8 hR
  refine lv_aload_n C0.hx C0.hb dL_law_442 rfl (lv_at hl 1 rfl) ?_
  refine g_calli hW (g_runV (As := []) (rest := []) C0 hW (c_X12_rulesCarriedOut h1) (g_cwL (n := 0) tc_X12_rulesCarriedOut tn_X12 ⟨by decide, by decide, by decide +kernel⟩ (by decide) (by decide) (by omega) (by omega)) tm_L_137 ti_X12_rulesCarriedOut ts_X12_rulesCarriedOut (C0.mem (i := 0) (Nat.le_of_ble_eq_true rfl)) (g_c1 k_0) rfl rfl hl.1 rfl (Nat.le_of_ble_eq_true rfl) dL_law_443) (fun H locs hW => ?_)
  refine lv_aload_n C0.hx C0.hb dL_law_446 rfl (lv_at hl 2 rfl) ?_
  refine g_calli hW (g_runV (As := []) (rest := [.int r]) C0 hW (c_X15_rulesCarriedOut h2) (g_cwL (n := 0) tc_X15_rulesCarriedOut tn_X15 ⟨by decide, by decide, by decide +kernel⟩ (by decide) (by decide) (by omega) (by omega)) tm_L_140 ti_X15_rulesCarriedOut ts_X15_rulesCarriedOut (C0.mem (i := 120) (Nat.le_of_ble_eq_true rfl)) (g_c12 k_120) rfl rfl hl.1 rfl (Nat.le_of_ble_eq_true rfl) dL_law_447) (fun H locs hW => ?_)
  refine lv_icmp_eq (tgt := 1913) C0.hx C0.hb dL_law_450 (by decide) (fun _ => ?_) (fun hc => absurd rfl hc)
  refine W.widen (k := cells + 900) (n := slots + 13000) (by omega) (by omega) ?_
  exact K x y1 o H locs ls h3 hW hl
theorem w_L_heardBeats (C0 : g_X G (List.range 162) p s m #[.ref b] meth c cL_law 9 RL ret) (hW : g_W G (List.range 162) (x, y, o) s.heap H locs) (hR : pp_R x y) (hl : lv_has ls 9 (g_LV G b i)) (hcl : cells + 900 ≤ 601024) (hsl : slots + 13000 ≤ 7293034) (K : ∀ (x' : CS) (y' : MS) (o' : Nat → Int32) (H' : Heap) (locs' : List Loc) (ls' : Array Slot), pp_R x' y' → g_W G (List.range 162) (x', y', o') s.heap H' locs' → lv_has ls' 9 (g_LV G b i) → W p l e room_1 s m #[.ref b] below meth c H' locs' (cells + 900) (slots + 13000) Q (F0 m 1913 ls' [])) : W p l e room_1 s m #[.ref b] below meth c H locs cells slots Q (F0 m 455 ls []) := by
  obtain ⟨r, y1, h1, h2, h3⟩ := pp_o9 hR
  refine lv_aload_n C0.hx C0.hb dL_law_455 rfl (lv_at hl 1 rfl) ?_
  refine g_calli hW (g_runV (As := []) (rest := []) C0 hW (c_X12_heardBeats h1) (g_cwL (n := 0) tc_X12_heardBeats tn_X12 ⟨by decide, by decide, by decide +kernel⟩ (by decide) (by decide) (by omega) (by omega)) tm_L_141 ti_X12_heardBeats ts_X12_heardBeats (C0.mem (i := 0) (Nat.le_of_ble_eq_true rfl)) (g_c1 k_0) rfl rfl hl.1 rfl (Nat.le_of_ble_eq_true rfl) dL_law_456) (fun H locs hW => ?_)
  refine lv_aload_n C0.hx C0.hb dL_law_459 rfl (lv_at hl 2 rfl) ?_
  refine g_calli hW (g_runV (As := []) (rest := [.int r]) C0 hW (c_X15_heardBeats h2) (g_cwL (n := 0) tc_X15_heardBeats tn_X15 ⟨by decide, by decide, by decide +kernel⟩ (by decide) (by decide) (by omega) (by omega)) tm_L_144 ti_X15_heardBeats ts_X15_heardBeats (C0.mem (i := 120) (Nat.le_of_ble_eq_true rfl)) (g_c12 k_120) rfl rfl hl.1 rfl (Nat.le_of_ble_eq_true rfl) dL_law_460) (fun H locs hW => ?_)
  refine lv_icmp_eq (tgt := 1913) C0.hx C0.hb dL_law_463 (by decide) (fun _ => ?_) (fun hc => absurd rfl hc)
  refine W.widen (k := cells + 900) (n := slots + 13000) (by omega) (by omega) ?_
  exact K x y1 o H locs ls h3 hW hl
theorem w_L_forget (C0 : g_X G (List.range 162) p s m #[.ref b] meth c cL_law 9 RL ret) (hW : g_W G (List.range 162) (x, y, o) s.heap H locs) (hR : pp_R x y) (hl : lv_has ls 9 (g_LV G b i)) (hcl : cells + 900 ≤ 601024) (hsl : slots + 13000 ≤ 7293034) (K : ∀ (x' : CS) (y' : MS) (o' : Nat → Int32) (H' : Heap) (locs' : List Loc) (ls' : Array Slot), pp_R x' y' → g_W G (List.range 162) (x', y', o') s.heap H' locs' → lv_has ls' 9 (g_LV G b i) → W p l e room_1 s m #[.ref b] below meth c H' locs' (cells + 900) (slots + 13000) Q (F0 m 1913 ls' [])) : W p l e room_1 s m #[.ref b] below meth c H locs cells slots Q (F0 m 1545 ls []) := by
  obtain ⟨r, x1, y1, h1, h2, h3⟩ := pp_o28 hR
  refine lv_aload_n C0.hx C0.hb dL_law_1545 rfl (lv_at hl 1 rfl) ?_
  refine g_calli hW (g_runV (As := []) (rest := []) C0 hW (c_X12_forget h1) (g_cwL (n := 0) tc_X12_forget tn_X12 ⟨by decide, by decide, by decide +kernel⟩ (by decide) (by decide) (by omega) (by omega)) tm_L_201 ti_X12_forget ts_X12_forget (C0.mem (i := 0) (Nat.le_of_ble_eq_true rfl)) (g_c1 k_0) rfl rfl hl.1 rfl (Nat.le_of_ble_eq_true rfl) dL_law_1546) (fun H locs hW => ?_)
  refine lv_aload_n C0.hx C0.hb dL_law_1549 rfl (lv_at hl 2 rfl) ?_
  refine g_calli hW (g_runV (As := []) (rest := [.int r]) C0 hW (c_X15_forget h2) (g_cwL (n := 0) tc_X15_forget tn_X15 ⟨by decide, by decide, by decide +kernel⟩ (by decide) (by decide) (by omega) (by omega)) tm_L_204 ti_X15_forget ts_X15_forget (C0.mem (i := 120) (Nat.le_of_ble_eq_true rfl)) (g_c12 k_120) rfl rfl hl.1 rfl (Nat.le_of_ble_eq_true rfl) dL_law_1550) (fun H locs hW => ?_)
  refine lv_icmp_eq (tgt := 1913) C0.hx C0.hb dL_law_1553 (by decide) (fun _ => ?_) (fun hc => absurd rfl hc)
  refine W.widen (k := cells + 900) (n := slots + 13000) (by omega) (by omega) ?_
  exact K x1 y1 o H locs ls h3 hW hl
theorem w_L_pruneNeedless (C0 : g_X G (List.range 162) p s m #[.ref b] meth c cL_law 9 RL ret) (hW : g_W G (List.range 162) (x, y, o) s.heap H locs) (hR : pp_R x y) (hl : lv_has ls 9 (g_LV G b i)) (hcl : cells + 900 ≤ 601024) (hsl : slots + 13000 ≤ 7293034) (K : ∀ (x' : CS) (y' : MS) (o' : Nat → Int32) (H' : Heap) (locs' : List Loc) (ls' : Array Slot), pp_R x' y' → g_W G (List.range 162) (x', y', o') s.heap H' locs' → lv_has ls' 9 (g_LV G b i) → W p l e room_1 s m #[.ref b] below meth c H' locs' (cells + 900) (slots + 13000) Q (F0 m 1913 ls' [])) : W p l e room_1 s m #[.ref b] below meth c H locs cells slots Q (F0 m 1621 ls []) := by
  obtain ⟨r, x1, y1, h1, h2, h3⟩ := pp_o30 hR
  refine lv_aload_n C0.hx C0.hb dL_law_1621 rfl (lv_at hl 1 rfl) ?_
  refine g_calli hW (g_runV (As := []) (rest := []) C0 hW (c_X12_pruneNeedless h1) (g_cwL (n := 0) tc_X12_pruneNeedless tn_X12 ⟨by decide, by decide, by decide +kernel⟩ (by decide) (by decide) (by omega) (by omega)) tm_L_208 ti_X12_pruneNeedless ts_X12_pruneNeedless (C0.mem (i := 0) (Nat.le_of_ble_eq_true rfl)) (g_c1 k_0) rfl rfl hl.1 rfl (Nat.le_of_ble_eq_true rfl) dL_law_1622) (fun H locs hW => ?_)
  refine lv_aload_n C0.hx C0.hb dL_law_1625 rfl (lv_at hl 2 rfl) ?_
  refine g_calli hW (g_runV (As := []) (rest := [.int r]) C0 hW (c_X15_pruneNeedless h2) (g_cwL (n := 0) tc_X15_pruneNeedless tn_X15 ⟨by decide, by decide, by decide +kernel⟩ (by decide) (by decide) (by omega) (by omega)) tm_L_211 ti_X15_pruneNeedless ts_X15_pruneNeedless (C0.mem (i := 120) (Nat.le_of_ble_eq_true rfl)) (g_c12 k_120) rfl rfl hl.1 rfl (Nat.le_of_ble_eq_true rfl) dL_law_1626) (fun H locs hW => ?_)
  refine lv_icmp_eq (tgt := 1913) C0.hx C0.hb dL_law_1629 (by decide) (fun _ => ?_) (fun hc => absurd rfl hc)
  refine W.widen (k := cells + 900) (n := slots + 13000) (by omega) (by omega) ?_
  exact K x1 y1 o H locs ls h3 hW hl
theorem w_L_teach (C0 : g_X G (List.range 162) p s m #[.ref b] meth c cL_law 9 RL ret) (hW : g_W G (List.range 162) (x, y, o) s.heap H locs) (hR : pp_R x y) (hl : lv_has ls 9 (g_LV G b i)) (hcl : cells + 900 ≤ 601024) (hsl : slots + 13000 ≤ 7293034) (K : ∀ (x' : CS) (y' : MS) (o' : Nat → Int32) (H' : Heap) (locs' : List Loc) (ls' : Array Slot), pp_R x' y' → g_W G (List.range 162) (x', y', o') s.heap H' locs' → lv_has ls' 9 (g_LV G b i) → W p l e room_1 s m #[.ref b] below meth c H' locs' (cells + 900) (slots + 13000) Q (F0 m 1913 ls' [])) : W p l e room_1 s m #[.ref b] below meth c H locs cells slots Q (F0 m 364 ls []) := by
  obtain ⟨r, x1, y1, h1, h2, h3⟩ := pp_oT hR
  refine lv_aload_n C0.hx C0.hb dL_law_364 rfl (lv_at hl 1 rfl) ?_
  refine g_calli hW (g_runV (As := []) (rest := []) C0 hW (c_X12_teach (fun j hj => List.mem_range.mp hj) hR.ok h3.ok h1) (g_cwL (n := 0) tc_X12_teach tn_X12 ⟨by decide, by decide, by decide +kernel⟩ (by decide) (by decide) (by omega) (by omega)) tm_L_113 ti_X12_teach ts_X12_teach (C0.mem (i := 0) (Nat.le_of_ble_eq_true rfl)) (g_c1 k_0) rfl rfl hl.1 rfl (Nat.le_of_ble_eq_true rfl) dL_law_365) (fun H locs hW => ?_)
  refine lv_aload_n C0.hx C0.hb dL_law_368 rfl (lv_at hl 2 rfl) ?_
  refine g_calli hW (g_runV (As := []) (rest := [.int r]) C0 hW (c_X15_teach h2) (g_cwL (n := 0) tc_X15_teach tn_X15 ⟨by decide, by decide, by decide +kernel⟩ (by decide) (by decide) (by omega) (by omega)) tm_L_116 ti_X15_teach ts_X15_teach (C0.mem (i := 120) (Nat.le_of_ble_eq_true rfl)) (g_c12 k_120) rfl rfl hl.1 rfl (Nat.le_of_ble_eq_true rfl) dL_law_369) (fun H locs hW => ?_)
  refine lv_icmp_eq (tgt := 1913) C0.hx C0.hb dL_law_372 (by decide) (fun _ => ?_) (fun hc => absurd rfl hc)
  refine W.widen (k := cells + 900) (n := slots + 13000) (by omega) (by omega) ?_
  exact K x1 y1 o H locs ls h3 hW hl
end GLW
