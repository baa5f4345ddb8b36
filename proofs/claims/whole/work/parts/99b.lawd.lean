/-! the law: booleans, the mean, the digest -/
section GLW
variable {p : Program} {l : Launch} {e : Env} {s : State} {m : MethodId} {below : List Frame} {meth : Method} {c : Code} {H : Heap} {locs : List Loc} {cells slots : Nat} {Q : State → Prop} {G : GL} {b L : Nat} {xs : Nat → Int32} {x : CS} {y : MS} {o : Nat → Int32} {ls : Array Slot} {i : Int32}
theorem g_01_isPruned {p1 k : Int32} {x x1 : CS} {o o1 : Nat → Int32} (h : f_L_isPruned p1 x o = some (k, x1, o1)) (hk : k = 0) : o1 0 = 0 ∨ o1 0 = 1 := by
  unfold f_L_isPruned at h
  obtain ⟨r, -, h⟩ := Option.bind_eq_some_iff.mp h
  rcases r with u | q
  · have h : (if u = 3 then some (1, x, o) else none) = some (k, x1, o1) := h
    by_cases hu : u = 3
    · rw [if_pos hu] at h
      have h1 : (1 : Int32) = k := congrArg Prod.fst (Option.some.inj h)
      exact absurd (h1.trans hk) (by decide)
    · rw [if_neg hu] at h
      cases h
  · have h2 : (if q = 0 then (0 : Int32) else 1) = o1 0 := congrArg (fun z : Int32 × CS × (Nat → Int32) => z.2.2 0) (Option.some.inj h)
    rw [← h2]
    split
    · exact Or.inl rfl
    · exact Or.inr rfl
theorem g_01_areNear {p1 p2 k : Int32} {x x1 : CS} {o o1 : Nat → Int32} (h : f_L_areNear p1 p2 x o = some (k, x1, o1)) (hk : k = 0) : o1 0 = 0 ∨ o1 0 = 1 := by
  unfold f_L_areNear at h
  obtain ⟨r, -, h⟩ := Option.bind_eq_some_iff.mp h
  rcases r with u | q
  · have h : (if u = 3 then some (1, x, o) else none) = some (k, x1, o1) := h
    by_cases hu : u = 3
    · rw [if_pos hu] at h
      have h1 : (1 : Int32) = k := congrArg Prod.fst (Option.some.inj h)
      exact absurd (h1.trans hk) (by decide)
    · rw [if_neg hu] at h
      cases h
  · have h2 : (if q.1 = 0 then (0 : Int32) else 1) = o1 0 := congrArg (fun z : Int32 × CS × (Nat → Int32) => z.2.2 0) (Option.some.inj h)
    rw [← h2]
    split
    · exact Or.inl rfl
    · exact Or.inr rfl
theorem g_01_isNeedless {p1 k : Int32} {x x1 : CS} {o o1 : Nat → Int32} (h : f_L_isNeedless p1 x o = some (k, x1, o1)) (hk : k = 0) : o1 0 = 0 ∨ o1 0 = 1 := by
  unfold f_L_isNeedless at h
  obtain ⟨r, -, h⟩ := Option.bind_eq_some_iff.mp h
  rcases r with u | q
  · have h : (if u = 3 then some (1, x, o) else none) = some (k, x1, o1) := h
    by_cases hu : u = 3
    · rw [if_pos hu] at h
      have h1 : (1 : Int32) = k := congrArg Prod.fst (Option.some.inj h)
      exact absurd (h1.trans hk) (by decide)
    · rw [if_neg hu] at h
      cases h
  · have h2 : (if q.1 = 0 then (0 : Int32) else 1) = o1 0 := congrArg (fun z : Int32 × CS × (Nat → Int32) => z.2.2 0) (Option.some.inj h)
    rw [← h2]
    split
    · exact Or.inl rfl
    · exact Or.inr rfl
theorem g_01_turnPruned {p1 k : Int32} {x x1 : CS} {o o1 : Nat → Int32} (h : f_L_turnPruned p1 x o = some (k, x1, o1)) (hk : k = 0) : o1 0 = 0 ∨ o1 0 = 1 := by
  unfold f_L_turnPruned at h
  obtain ⟨r, -, h⟩ := Option.bind_eq_some_iff.mp h
  rcases r with u | q
  · have h : (if u = 3 then some (1, x, o) else none) = some (k, x1, o1) := h
    by_cases hu : u = 3
    · rw [if_pos hu] at h
      have h1 : (1 : Int32) = k := congrArg Prod.fst (Option.some.inj h)
      exact absurd (h1.trans hk) (by decide)
    · rw [if_neg hu] at h
      cases h
  · have h2 : (if q.1 = 0 then (0 : Int32) else 1) = o1 0 := congrArg (fun z : Int32 × CS × (Nat → Int32) => z.2.2 0) (Option.some.inj h)
    rw [← h2]
    split
    · exact Or.inl rfl
    · exact Or.inr rfl
theorem w_L_isPruned (C0 : g_X G (List.range 162) p s m #[.ref b] meth c cL_law 9 RL ret) (hW : g_W G (List.range 162) (x, y, o) s.heap H locs) (hR : pp_R x y) (hl : lv_has ls 9 (g_LV G b i)) (hcl : cells + 900 ≤ 601024) (hsl : slots + 13000 ≤ 7293034) (hfl : l.stackTraces = false) (hnc : g_NC s) (hX : va_X b L xs s s.heap) (hbl : b < s.heap.size) (hbA : ¬ g_A G b) (hin : ∀ j : Nat, j ≤ 5 → vp_in (i + nI j) L) (K : ∀ (x' : CS) (y' : MS) (o' : Nat → Int32) (H' : Heap) (locs' : List Loc) (ls' : Array Slot), pp_R x' y' → g_W G (List.range 162) (x', y', o') s.heap H' locs' → lv_has ls' 9 (g_LV G b i) → W p l e room_1 s m #[.ref b] below meth c H' locs' (cells + 900) (slots + 13000) Q (F0 m 1913 ls' [])) : W p l e room_1 s m #[.ref b] below meth c H locs cells slots Q (F0 m 660 ls []) := by
  obtain ⟨k, x1, o1, r, y1, h1, h2, h3, h4, h5⟩ := pp_o13 (p := xs (i + 1).toNatClampNeg) (o := o) hR
  refine lv_aload_n C0.hx C0.hb dL_law_660 rfl (lv_at hl 1 rfl) ?_
  refine lv_aload_n C0.hx C0.hb dL_law_661 rfl (lv_at hl 0 rfl) ?_
  refine lv_iload C0.hx C0.hb dL_law_662 (lv_at hl 4 rfl) ?_
  refine lv_iconst (v := (1 : Int32)) C0.hx C0.hb dL_law_664 (by decide) ?_
  refine lv_iadd C0.hx C0.hb dL_law_665 ?_
  refine va_sld C0.hx C0.hb hX hbl hbA hW.2.2 (hin 1 (by decide)) dL_law_666 ?_
  refine lv_aload_n C0.hx C0.hb dL_law_667 rfl (lv_at hl 3 rfl) ?_
  refine g_calli hW (vx_runSW (As := [.ref (g_ad G 0), .int (xs (i + 1).toNatClampNeg), .ref (g_ad G 161)]) (rest := []) C0.call (c_L_isPruned hfl (List.mem_range.mpr (by decide)) h1) (vx_cwSW 3 C0.hts (g_goodS tm_L_155 tz_L_isPruned tn_L tc_L_isPruned) rfl rfl rfl ⟨by decide, by decide, by decide +kernel⟩ ⟨Nat.le_of_ble_eq_true rfl, Nat.le_of_ble_eq_true rfl⟩) ⟨g_blindL, fun U hU hw => ⟨rfl, g_pre C0 hW hU hw, g_NC.to hnc hw.alike⟩⟩ rfl rfl hl.1 rfl (Nat.le_of_ble_eq_true rfl) dL_law_668 ⟨by simp only [room_1]; omega, by simp only [room_1]; omega⟩) (fun H locs hW => ?_)
  refine lv_istore (lv' := (5, .int k) :: g_LV G b i) C0.hx C0.hb dL_law_671 hl (by decide) rfl (fun ls hl => ?_)
  have hl : lv_has ls 9 [(5, .int k), (0, .ref b), (1, .ref (g_ad G 0)), (2, .ref (g_ad G 120)), (3, .ref (g_ad G 161)), (4, .int i)] := hl
  refine lv_aload_n C0.hx C0.hb dL_law_673 rfl (lv_at hl 3 rfl) ?_
  refine lv_aload_n C0.hx C0.hb dL_law_674 rfl (lv_at hl 1 rfl) ?_
  refine lv_iload C0.hx C0.hb dL_law_675 (lv_at hl 5 rfl) ?_
  refine lv_iconst (v := (1 : Int32)) C0.hx C0.hb dL_law_677 (by decide) ?_
  refine lv_iadd C0.hx C0.hb dL_law_678 ?_
  refine va_sld C0.hx C0.hb hX hbl hbA hW.2.2 (hin 1 (by decide)) dL_law_679 ?_
  refine g_calli hW (g_runV (As := [.int (xs (i + 1).toNatClampNeg)]) (rest := []) C0 hW (c_X15_isPruned h2) (g_cwL (n := 1) tc_X15_isPruned tn_X15 ⟨by decide, by decide, by decide +kernel⟩ (by decide) (by decide) (by omega) (by omega)) tm_L_157 ti_X15_isPruned ts_X15_isPruned (C0.mem (i := 120) (Nat.le_of_ble_eq_true rfl)) (g_c12 k_120) rfl rfl hl.1 rfl (Nat.le_of_ble_eq_true rfl) dL_law_680) (fun H locs hW => ?_)
  refine lv_istore (lv' := [(6, .int r), (5, .int k), (0, .ref b), (1, .ref (g_ad G 0)), (2, .ref (g_ad G 120)), (3, .ref (g_ad G 161)), (4, .int i)]) C0.hx C0.hb dL_law_683 hl (by decide) rfl (fun ls hl => ?_)
  refine lv_aload_n C0.hx C0.hb dL_law_685 rfl (lv_at hl 4 rfl) ?_
  refine g_calli hW (g_runV (As := []) (rest := []) C0 hW (c_X15_thrown (q := y1 120 0) rfl) (g_cwL (n := 0) tc_X15_thrown tn_X15 ⟨by decide, by decide, by decide +kernel⟩ (by decide) (by decide) (by omega) (by omega)) tm_L_106 ti_X15_thrown ts_X15_thrown (C0.mem (i := 120) (Nat.le_of_ble_eq_true rfl)) (g_c12 k_120) rfl rfl hl.1 rfl (Nat.le_of_ble_eq_true rfl) dL_law_686) (fun H locs hW => ?_)
  refine lv_iload C0.hx C0.hb dL_law_689 (lv_at hl 1 rfl) ?_
  refine lv_icmp_eq (tgt := 696) C0.hx C0.hb dL_law_691 (by decide) (fun _ => ?_) (fun hc => absurd h3 hc)
  refine lv_iload C0.hx C0.hb dL_law_696 (lv_at hl 1 rfl) ?_
  refine lv_if_ne (tgt := 720) C0.hx C0.hb dL_law_698 (by decide) (fun hc => ?_) (fun hc => ?_)
  · refine lv_goto (tgt := 1913) C0.hx C0.hb dL_law_720 (by decide) ?_
    refine W.widen (k := cells + 900) (n := slots + 13000) (by omega) (by omega) ?_
    exact K x1 y1 o1 H locs ls h5 hW (lv_sub hl [2, 3, 4, 5, 6] rfl)
  · have hk : k = 0 := hc
    have h0 := h4 hk
    refine lv_aload_n C0.hx C0.hb dL_law_701 rfl (lv_at hl 5 rfl) ?_
    refine lv_iconst (v := (0 : Int32)) C0.hx C0.hb dL_law_702 (by decide) ?_
    refine ga_38 C0 hW (List.mem_range.mpr (by decide)) k_161 (by decide) dL_law_703 ?_
    refine lv_iload C0.hx C0.hb dL_law_704 (lv_at hl 0 rfl) ?_
    have h01 := g_01_isPruned h1 hk
    refine lv_if_eq (tgt := 713) C0.hx C0.hb dL_law_706 (by decide) (fun hr => ?_) (fun hr => ?_)
    · refine lv_lconst (v := (0 : Int64)) C0.hx C0.hb dL_law_713 (by decide) ?_
      refine W.lcmp C0.hx C0.hb dL_law_714 ?_
      refine lv_if_eq (tgt := 720) C0.hx C0.hb dL_law_715 (by decide) (fun hc => ?_) (fun hc => absurd (by show lg_cmp (o1 0).toInt64 0 = 0; rw [h0, hr]; decide) hc)
      refine lv_goto (tgt := 1913) C0.hx C0.hb dL_law_720 (by decide) ?_
      refine W.widen (k := cells + 900) (n := slots + 13000) (by omega) (by omega) ?_
      exact K x1 y1 o1 H locs ls h5 hW (lv_sub hl [2, 3, 4, 5, 6] rfl)
    · have h11 : o1 0 = 1 := h01.resolve_left (fun q => hr (h0.symm.trans q))
      refine lv_lconst (v := (1 : Int64)) C0.hx C0.hb dL_law_709 (by decide) ?_
      refine lv_goto (tgt := 714) C0.hx C0.hb dL_law_710 (by decide) ?_
      refine W.lcmp C0.hx C0.hb dL_law_714 ?_
      refine lv_if_eq (tgt := 720) C0.hx C0.hb dL_law_715 (by decide) (fun hc => ?_) (fun hc => absurd (by show lg_cmp (o1 0).toInt64 1 = 0; rw [h11]; decide) hc)
      refine lv_goto (tgt := 1913) C0.hx C0.hb dL_law_720 (by decide) ?_
      refine W.widen (k := cells + 900) (n := slots + 13000) (by omega) (by omega) ?_
      exact K x1 y1 o1 H locs ls h5 hW (lv_sub hl [2, 3, 4, 5, 6] rfl)
theorem w_L_areNear (C0 : g_X G (List.range 162) p s m #[.ref b] meth c cL_law 9 RL ret) (hW : g_W G (List.range 162) (x, y, o) s.heap H locs) (hR : pp_R x y) (hl : lv_has ls 9 (g_LV G b i)) (hcl : cells + 900 ≤ 601024) (hsl : slots + 13000 ≤ 7293034) (hfl : l.stackTraces = false) (hnc : g_NC s) (hX : va_X b L xs s s.heap) (hbl : b < s.heap.size) (hbA : ¬ g_A G b) (hin : ∀ j : Nat, j ≤ 5 → vp_in (i + nI j) L) (K : ∀ (x' : CS) (y' : MS) (o' : Nat → Int32) (H' : Heap) (locs' : List Loc) (ls' : Array Slot), pp_R x' y' → g_W G (List.range 162) (x', y', o') s.heap H' locs' → lv_has ls' 9 (g_LV G b i) → W p l e room_1 s m #[.ref b] below meth c H' locs' (cells + 900) (slots + 13000) Q (F0 m 1913 ls' [])) : W p l e room_1 s m #[.ref b] below meth c H locs cells slots Q (F0 m 915 ls []) := by
  obtain ⟨k, x1, o1, r, y1, h1, h2, h3, h4, h5⟩ := pp_o17 (p := xs (i + 1).toNatClampNeg) (q := xs (i + 2).toNatClampNeg) (o := o) hR
  refine lv_aload_n C0.hx C0.hb dL_law_915 rfl (lv_at hl 1 rfl) ?_
  refine lv_aload_n C0.hx C0.hb dL_law_916 rfl (lv_at hl 0 rfl) ?_
  refine lv_iload C0.hx C0.hb dL_law_917 (lv_at hl 4 rfl) ?_
  refine lv_iconst (v := (1 : Int32)) C0.hx C0.hb dL_law_919 (by decide) ?_
  refine lv_iadd C0.hx C0.hb dL_law_920 ?_
  refine va_sld C0.hx C0.hb hX hbl hbA hW.2.2 (hin 1 (by decide)) dL_law_921 ?_
  refine lv_aload_n C0.hx C0.hb dL_law_922 rfl (lv_at hl 0 rfl) ?_
  refine lv_iload C0.hx C0.hb dL_law_923 (lv_at hl 4 rfl) ?_
  refine lv_iconst (v := (2 : Int32)) C0.hx C0.hb dL_law_925 (by decide) ?_
  refine lv_iadd C0.hx C0.hb dL_law_926 ?_
  refine va_sld C0.hx C0.hb hX hbl hbA hW.2.2 (hin 2 (by decide)) dL_law_927 ?_
  refine lv_aload_n C0.hx C0.hb dL_law_928 rfl (lv_at hl 3 rfl) ?_
  refine g_calli hW (vx_runSW (As := [.ref (g_ad G 0), .int (xs (i + 1).toNatClampNeg), .int (xs (i + 2).toNatClampNeg), .ref (g_ad G 161)]) (rest := []) C0.call (c_L_areNear hfl (List.mem_range.mpr (by decide)) h1) (vx_cwSW 4 C0.hts (g_goodS tm_L_167 tz_L_areNear tn_L tc_L_areNear) rfl rfl rfl ⟨by decide, by decide, by decide +kernel⟩ ⟨Nat.le_of_ble_eq_true rfl, Nat.le_of_ble_eq_true rfl⟩) ⟨g_blindL, fun U hU hw => ⟨rfl, g_pre C0 hW hU hw, g_NC.to hnc hw.alike⟩⟩ rfl rfl hl.1 rfl (Nat.le_of_ble_eq_true rfl) dL_law_929 ⟨by simp only [room_1]; omega, by simp only [room_1]; omega⟩) (fun H locs hW => ?_)
  refine lv_istore (lv' := (5, .int k) :: g_LV G b i) C0.hx C0.hb dL_law_932 hl (by decide) rfl (fun ls hl => ?_)
  have hl : lv_has ls 9 [(5, .int k), (0, .ref b), (1, .ref (g_ad G 0)), (2, .ref (g_ad G 120)), (3, .ref (g_ad G 161)), (4, .int i)] := hl
  refine lv_aload_n C0.hx C0.hb dL_law_934 rfl (lv_at hl 3 rfl) ?_
  refine lv_aload_n C0.hx C0.hb dL_law_935 rfl (lv_at hl 1 rfl) ?_
  refine lv_iload C0.hx C0.hb dL_law_936 (lv_at hl 5 rfl) ?_
  refine lv_iconst (v := (1 : Int32)) C0.hx C0.hb dL_law_938 (by decide) ?_
  refine lv_iadd C0.hx C0.hb dL_law_939 ?_
  refine va_sld C0.hx C0.hb hX hbl hbA hW.2.2 (hin 1 (by decide)) dL_law_940 ?_
  refine lv_aload_n C0.hx C0.hb dL_law_941 rfl (lv_at hl 1 rfl) ?_
  refine lv_iload C0.hx C0.hb dL_law_942 (lv_at hl 5 rfl) ?_
  refine lv_iconst (v := (2 : Int32)) C0.hx C0.hb dL_law_944 (by decide) ?_
  refine lv_iadd C0.hx C0.hb dL_law_945 ?_
  refine va_sld C0.hx C0.hb hX hbl hbA hW.2.2 (hin 2 (by decide)) dL_law_946 ?_
  refine g_calli hW (g_runV (As := [.int (xs (i + 1).toNatClampNeg), .int (xs (i + 2).toNatClampNeg)]) (rest := []) C0 hW (c_X15_areNear h2) (g_cwL (n := 2) tc_X15_areNear tn_X15 ⟨by decide, by decide, by decide +kernel⟩ (by decide) (by decide) (by omega) (by omega)) tm_L_169 ti_X15_areNear ts_X15_areNear (C0.mem (i := 120) (Nat.le_of_ble_eq_true rfl)) (g_c12 k_120) rfl rfl hl.1 rfl (Nat.le_of_ble_eq_true rfl) dL_law_947) (fun H locs hW => ?_)
  refine lv_istore (lv' := [(6, .int r), (5, .int k), (0, .ref b), (1, .ref (g_ad G 0)), (2, .ref (g_ad G 120)), (3, .ref (g_ad G 161)), (4, .int i)]) C0.hx C0.hb dL_law_950 hl (by decide) rfl (fun ls hl => ?_)
  refine lv_aload_n C0.hx C0.hb dL_law_952 rfl (lv_at hl 4 rfl) ?_
  refine g_calli hW (g_runV (As := []) (rest := []) C0 hW (c_X15_thrown (q := y1 120 0) rfl) (g_cwL (n := 0) tc_X15_thrown tn_X15 ⟨by decide, by decide, by decide +kernel⟩ (by decide) (by decide) (by omega) (by omega)) tm_L_106 ti_X15_thrown ts_X15_thrown (C0.mem (i := 120) (Nat.le_of_ble_eq_true rfl)) (g_c12 k_120) rfl rfl hl.1 rfl (Nat.le_of_ble_eq_true rfl) dL_law_953) (fun H locs hW => ?_)
  refine lv_iload C0.hx C0.hb dL_law_956 (lv_at hl 1 rfl) ?_
  refine lv_icmp_eq (tgt := 963) C0.hx C0.hb dL_law_958 (by decide) (fun _ => ?_) (fun hc => absurd h3 hc)
  refine lv_iload C0.hx C0.hb dL_law_963 (lv_at hl 1 rfl) ?_
  refine lv_if_ne (tgt := 987) C0.hx C0.hb dL_law_965 (by decide) (fun hc => ?_) (fun hc => ?_)
  · refine lv_goto (tgt := 1913) C0.hx C0.hb dL_law_987 (by decide) ?_
    refine W.widen (k := cells + 900) (n := slots + 13000) (by omega) (by omega) ?_
    exact K x1 y1 o1 H locs ls h5 hW (lv_sub hl [2, 3, 4, 5, 6] rfl)
  · have hk : k = 0 := hc
    have h0 := h4 hk
    refine lv_aload_n C0.hx C0.hb dL_law_968 rfl (lv_at hl 5 rfl) ?_
    refine lv_iconst (v := (0 : Int32)) C0.hx C0.hb dL_law_969 (by decide) ?_
    refine ga_38 C0 hW (List.mem_range.mpr (by decide)) k_161 (by decide) dL_law_970 ?_
    refine lv_iload C0.hx C0.hb dL_law_971 (lv_at hl 0 rfl) ?_
    have h01 := g_01_areNear h1 hk
    refine lv_if_eq (tgt := 980) C0.hx C0.hb dL_law_973 (by decide) (fun hr => ?_) (fun hr => ?_)
    · refine lv_lconst (v := (0 : Int64)) C0.hx C0.hb dL_law_980 (by decide) ?_
      refine W.lcmp C0.hx C0.hb dL_law_981 ?_
      refine lv_if_eq (tgt := 987) C0.hx C0.hb dL_law_982 (by decide) (fun hc => ?_) (fun hc => absurd (by show lg_cmp (o1 0).toInt64 0 = 0; rw [h0, hr]; decide) hc)
      refine lv_goto (tgt := 1913) C0.hx C0.hb dL_law_987 (by decide) ?_
      refine W.widen (k := cells + 900) (n := slots + 13000) (by omega) (by omega) ?_
      exact K x1 y1 o1 H locs ls h5 hW (lv_sub hl [2, 3, 4, 5, 6] rfl)
    · have h11 : o1 0 = 1 := h01.resolve_left (fun q => hr (h0.symm.trans q))
      refine lv_lconst (v := (1 : Int64)) C0.hx C0.hb dL_law_976 (by decide) ?_
      refine lv_goto (tgt := 981) C0.hx C0.hb dL_law_977 (by decide) ?_
      refine W.lcmp C0.hx C0.hb dL_law_981 ?_
      refine lv_if_eq (tgt := 987) C0.hx C0.hb dL_law_982 (by decide) (fun hc => ?_) (fun hc => absurd (by show lg_cmp (o1 0).toInt64 1 = 0; rw [h11]; decide) hc)
      refine lv_goto (tgt := 1913) C0.hx C0.hb dL_law_987 (by decide) ?_
      refine W.widen (k := cells + 900) (n := slots + 13000) (by omega) (by omega) ?_
      exact K x1 y1 o1 H locs ls h5 hW (lv_sub hl [2, 3, 4, 5, 6] rfl)
theorem w_L_isNeedless (C0 : g_X G (List.range 162) p s m #[.ref b] meth c cL_law 9 RL ret) (hW : g_W G (List.range 162) (x, y, o) s.heap H locs) (hR : pp_R x y) (hl : lv_has ls 9 (g_LV G b i)) (hcl : cells + 900 ≤ 601024) (hsl : slots + 13000 ≤ 7293034) (hfl : l.stackTraces = false) (hnc : g_NC s) (hX : va_X b L xs s s.heap) (hbl : b < s.heap.size) (hbA : ¬ g_A G b) (hin : ∀ j : Nat, j ≤ 5 → vp_in (i + nI j) L) (K : ∀ (x' : CS) (y' : MS) (o' : Nat → Int32) (H' : Heap) (locs' : List Loc) (ls' : Array Slot), pp_R x' y' → g_W G (List.range 162) (x', y', o') s.heap H' locs' → lv_has ls' 9 (g_LV G b i) → W p l e room_1 s m #[.ref b] below meth c H' locs' (cells + 900) (slots + 13000) Q (F0 m 1913 ls' [])) : W p l e room_1 s m #[.ref b] below meth c H locs cells slots Q (F0 m 1046 ls []) := by
  obtain ⟨k, x1, o1, r, y1, h1, h2, h3, h4, h5⟩ := pp_o19 (p := xs (i + 1).toNatClampNeg) (o := o) hR
  refine lv_aload_n C0.hx C0.hb dL_law_1046 rfl (lv_at hl 1 rfl) ?_
  refine lv_aload_n C0.hx C0.hb dL_law_1047 rfl (lv_at hl 0 rfl) ?_
  refine lv_iload C0.hx C0.hb dL_law_1048 (lv_at hl 4 rfl) ?_
  refine lv_iconst (v := (1 : Int32)) C0.hx C0.hb dL_law_1050 (by decide) ?_
  refine lv_iadd C0.hx C0.hb dL_law_1051 ?_
  refine va_sld C0.hx C0.hb hX hbl hbA hW.2.2 (hin 1 (by decide)) dL_law_1052 ?_
  refine lv_aload_n C0.hx C0.hb dL_law_1053 rfl (lv_at hl 3 rfl) ?_
  refine g_calli hW (vx_runSW (As := [.ref (g_ad G 0), .int (xs (i + 1).toNatClampNeg), .ref (g_ad G 161)]) (rest := []) C0.call (c_L_isNeedless hfl (List.mem_range.mpr (by decide)) h1) (vx_cwSW 3 C0.hts (g_goodS tm_L_173 tz_L_isNeedless tn_L tc_L_isNeedless) rfl rfl rfl ⟨by decide, by decide, by decide +kernel⟩ ⟨Nat.le_of_ble_eq_true rfl, Nat.le_of_ble_eq_true rfl⟩) ⟨g_blindL, fun U hU hw => ⟨rfl, g_pre C0 hW hU hw, g_NC.to hnc hw.alike⟩⟩ rfl rfl hl.1 rfl (Nat.le_of_ble_eq_true rfl) dL_law_1054 ⟨by simp only [room_1]; omega, by simp only [room_1]; omega⟩) (fun H locs hW => ?_)
  refine lv_istore (lv' := (5, .int k) :: g_LV G b i) C0.hx C0.hb dL_law_1057 hl (by decide) rfl (fun ls hl => ?_)
  have hl : lv_has ls 9 [(5, .int k), (0, .ref b), (1, .ref (g_ad G 0)), (2, .ref (g_ad G 120)), (3, .ref (g_ad G 161)), (4, .int i)] := hl
  refine lv_aload_n C0.hx C0.hb dL_law_1059 rfl (lv_at hl 3 rfl) ?_
  refine lv_aload_n C0.hx C0.hb dL_law_1060 rfl (lv_at hl 1 rfl) ?_
  refine lv_iload C0.hx C0.hb dL_law_1061 (lv_at hl 5 rfl) ?_
  refine lv_iconst (v := (1 : Int32)) C0.hx C0.hb dL_law_1063 (by decide) ?_
  refine lv_iadd C0.hx C0.hb dL_law_1064 ?_
  refine va_sld C0.hx C0.hb hX hbl hbA hW.2.2 (hin 1 (by decide)) dL_law_1065 ?_
  refine g_calli hW (g_runV (As := [.int (xs (i + 1).toNatClampNeg)]) (rest := []) C0 hW (c_X15_isNeedless h2) (g_cwL (n := 1) tc_X15_isNeedless tn_X15 ⟨by decide, by decide, by decide +kernel⟩ (by decide) (by decide) (by omega) (by omega)) tm_L_175 ti_X15_isNeedless ts_X15_isNeedless (C0.mem (i := 120) (Nat.le_of_ble_eq_true rfl)) (g_c12 k_120) rfl rfl hl.1 rfl (Nat.le_of_ble_eq_true rfl) dL_law_1066) (fun H locs hW => ?_)
  refine lv_istore (lv' := [(6, .int r), (5, .int k), (0, .ref b), (1, .ref (g_ad G 0)), (2, .ref (g_ad G 120)), (3, .ref (g_ad G 161)), (4, .int i)]) C0.hx C0.hb dL_law_1069 hl (by decide) rfl (fun ls hl => ?_)
  refine lv_aload_n C0.hx C0.hb dL_law_1071 rfl (lv_at hl 4 rfl) ?_
  refine g_calli hW (g_runV (As := []) (rest := []) C0 hW (c_X15_thrown (q := y1 120 0) rfl) (g_cwL (n := 0) tc_X15_thrown tn_X15 ⟨by decide, by decide, by decide +kernel⟩ (by decide) (by decide) (by omega) (by omega)) tm_L_106 ti_X15_thrown ts_X15_thrown (C0.mem (i := 120) (Nat.le_of_ble_eq_true rfl)) (g_c12 k_120) rfl rfl hl.1 rfl (Nat.le_of_ble_eq_true rfl) dL_law_1072) (fun H locs hW => ?_)
  refine lv_iload C0.hx C0.hb dL_law_1075 (lv_at hl 1 rfl) ?_
  refine lv_icmp_eq (tgt := 1082) C0.hx C0.hb dL_law_1077 (by decide) (fun _ => ?_) (fun hc => absurd h3 hc)
  refine lv_iload C0.hx C0.hb dL_law_1082 (lv_at hl 1 rfl) ?_
  refine lv_if_ne (tgt := 1106) C0.hx C0.hb dL_law_1084 (by decide) (fun hc => ?_) (fun hc => ?_)
  · refine lv_goto (tgt := 1913) C0.hx C0.hb dL_law_1106 (by decide) ?_
    refine W.widen (k := cells + 900) (n := slots + 13000) (by omega) (by omega) ?_
    exact K x1 y1 o1 H locs ls h5 hW (lv_sub hl [2, 3, 4, 5, 6] rfl)
  · have hk : k = 0 := hc
    have h0 := h4 hk
    refine lv_aload_n C0.hx C0.hb dL_law_1087 rfl (lv_at hl 5 rfl) ?_
    refine lv_iconst (v := (0 : Int32)) C0.hx C0.hb dL_law_1088 (by decide) ?_
    refine ga_38 C0 hW (List.mem_range.mpr (by decide)) k_161 (by decide) dL_law_1089 ?_
    refine lv_iload C0.hx C0.hb dL_law_1090 (lv_at hl 0 rfl) ?_
    have h01 := g_01_isNeedless h1 hk
    refine lv_if_eq (tgt := 1099) C0.hx C0.hb dL_law_1092 (by decide) (fun hr => ?_) (fun hr => ?_)
    · refine lv_lconst (v := (0 : Int64)) C0.hx C0.hb dL_law_1099 (by decide) ?_
      refine W.lcmp C0.hx C0.hb dL_law_1100 ?_
      refine lv_if_eq (tgt := 1106) C0.hx C0.hb dL_law_1101 (by decide) (fun hc => ?_) (fun hc => absurd (by show lg_cmp (o1 0).toInt64 0 = 0; rw [h0, hr]; decide) hc)
      refine lv_goto (tgt := 1913) C0.hx C0.hb dL_law_1106 (by decide) ?_
      refine W.widen (k := cells + 900) (n := slots + 13000) (by omega) (by omega) ?_
      exact K x1 y1 o1 H locs ls h5 hW (lv_sub hl [2, 3, 4, 5, 6] rfl)
    · have h11 : o1 0 = 1 := h01.resolve_left (fun q => hr (h0.symm.trans q))
      refine lv_lconst (v := (1 : Int64)) C0.hx C0.hb dL_law_1095 (by decide) ?_
      refine lv_goto (tgt := 1100) C0.hx C0.hb dL_law_1096 (by decide) ?_
      refine W.lcmp C0.hx C0.hb dL_law_1100 ?_
      refine lv_if_eq (tgt := 1106) C0.hx C0.hb dL_law_1101 (by decide) (fun hc => ?_) (fun hc => absurd (by show lg_cmp (o1 0).toInt64 1 = 0; rw [h11]; decide) hc)
      refine lv_goto (tgt := 1913) C0.hx C0.hb dL_law_1106 (by decide) ?_
      refine W.widen (k := cells + 900) (n := slots + 13000) (by omega) (by omega) ?_
      exact K x1 y1 o1 H locs ls h5 hW (lv_sub hl [2, 3, 4, 5, 6] rfl)
theorem w_L_turnPruned (C0 : g_X G (List.range 162) p s m #[.ref b] meth c cL_law 9 RL ret) (hW : g_W G (List.range 162) (x, y, o) s.heap H locs) (hR : pp_R x y) (hl : lv_has ls 9 (g_LV G b i)) (hcl : cells + 900 ≤ 601024) (hsl : slots + 13000 ≤ 7293034) (hfl : l.stackTraces = false) (hnc : g_NC s) (hX : va_X b L xs s s.heap) (hbl : b < s.heap.size) (hbA : ¬ g_A G b) (hin : ∀ j : Nat, j ≤ 5 → vp_in (i + nI j) L) (K : ∀ (x' : CS) (y' : MS) (o' : Nat → Int32) (H' : Heap) (locs' : List Loc) (ls' : Array Slot), pp_R x' y' → g_W G (List.range 162) (x', y', o') s.heap H' locs' → lv_has ls' 9 (g_LV G b i) → W p l e room_1 s m #[.ref b] below meth c H' locs' (cells + 900) (slots + 13000) Q (F0 m 1913 ls' [])) : W p l e room_1 s m #[.ref b] below meth c H locs cells slots Q (F0 m 1558 ls []) := by
  obtain ⟨k, x1, o1, r, y1, h1, h2, h3, h4, h5⟩ := pp_o29 (p := xs (i + 1).toNatClampNeg) (o := o) hR
  refine lv_aload_n C0.hx C0.hb dL_law_1558 rfl (lv_at hl 1 rfl) ?_
  refine lv_aload_n C0.hx C0.hb dL_law_1559 rfl (lv_at hl 0 rfl) ?_
  refine lv_iload C0.hx C0.hb dL_law_1560 (lv_at hl 4 rfl) ?_
  refine lv_iconst (v := (1 : Int32)) C0.hx C0.hb dL_law_1562 (by decide) ?_
  refine lv_iadd C0.hx C0.hb dL_law_1563 ?_
  refine va_sld C0.hx C0.hb hX hbl hbA hW.2.2 (hin 1 (by decide)) dL_law_1564 ?_
  refine lv_aload_n C0.hx C0.hb dL_law_1565 rfl (lv_at hl 3 rfl) ?_
  refine g_calli hW (vx_runSW (As := [.ref (g_ad G 0), .int (xs (i + 1).toNatClampNeg), .ref (g_ad G 161)]) (rest := []) C0.call (c_L_turnPruned hfl (List.mem_range.mpr (by decide)) h1) (vx_cwSW 3 C0.hts (g_goodS tm_L_205 tz_L_turnPruned tn_L tc_L_turnPruned) rfl rfl rfl ⟨by decide, by decide, by decide +kernel⟩ ⟨Nat.le_of_ble_eq_true rfl, Nat.le_of_ble_eq_true rfl⟩) ⟨g_blindL, fun U hU hw => ⟨rfl, g_pre C0 hW hU hw, g_NC.to hnc hw.alike⟩⟩ rfl rfl hl.1 rfl (Nat.le_of_ble_eq_true rfl) dL_law_1566 ⟨by simp only [room_1]; omega, by simp only [room_1]; omega⟩) (fun H locs hW => ?_)
  refine lv_istore (lv' := (5, .int k) :: g_LV G b i) C0.hx C0.hb dL_law_1569 hl (by decide) rfl (fun ls hl => ?_)
  have hl : lv_has ls 9 [(5, .int k), (0, .ref b), (1, .ref (g_ad G 0)), (2, .ref (g_ad G 120)), (3, .ref (g_ad G 161)), (4, .int i)] := hl
  refine lv_aload_n C0.hx C0.hb dL_law_1571 rfl (lv_at hl 3 rfl) ?_
  refine lv_aload_n C0.hx C0.hb dL_law_1572 rfl (lv_at hl 1 rfl) ?_
  refine lv_iload C0.hx C0.hb dL_law_1573 (lv_at hl 5 rfl) ?_
  refine lv_iconst (v := (1 : Int32)) C0.hx C0.hb dL_law_1575 (by decide) ?_
  refine lv_iadd C0.hx C0.hb dL_law_1576 ?_
  refine va_sld C0.hx C0.hb hX hbl hbA hW.2.2 (hin 1 (by decide)) dL_law_1577 ?_
  refine g_calli hW (g_runV (As := [.int (xs (i + 1).toNatClampNeg)]) (rest := []) C0 hW (c_X15_turnPruned h2) (g_cwL (n := 1) tc_X15_turnPruned tn_X15 ⟨by decide, by decide, by decide +kernel⟩ (by decide) (by decide) (by omega) (by omega)) tm_L_207 ti_X15_turnPruned ts_X15_turnPruned (C0.mem (i := 120) (Nat.le_of_ble_eq_true rfl)) (g_c12 k_120) rfl rfl hl.1 rfl (Nat.le_of_ble_eq_true rfl) dL_law_1578) (fun H locs hW => ?_)
  refine lv_istore (lv' := [(6, .int r), (5, .int k), (0, .ref b), (1, .ref (g_ad G 0)), (2, .ref (g_ad G 120)), (3, .ref (g_ad G 161)), (4, .int i)]) C0.hx C0.hb dL_law_1581 hl (by decide) rfl (fun ls hl => ?_)
  refine lv_aload_n C0.hx C0.hb dL_law_1583 rfl (lv_at hl 4 rfl) ?_
  refine g_calli hW (g_runV (As := []) (rest := []) C0 hW (c_X15_thrown (q := y1 120 0) rfl) (g_cwL (n := 0) tc_X15_thrown tn_X15 ⟨by decide, by decide, by decide +kernel⟩ (by decide) (by decide) (by omega) (by omega)) tm_L_106 ti_X15_thrown ts_X15_thrown (C0.mem (i := 120) (Nat.le_of_ble_eq_true rfl)) (g_c12 k_120) rfl rfl hl.1 rfl (Nat.le_of_ble_eq_true rfl) dL_law_1584) (fun H locs hW => ?_)
  refine lv_iload C0.hx C0.hb dL_law_1587 (lv_at hl 1 rfl) ?_
  refine lv_icmp_eq (tgt := 1594) C0.hx C0.hb dL_law_1589 (by decide) (fun _ => ?_) (fun hc => absurd h3 hc)
  refine lv_iload C0.hx C0.hb dL_law_1594 (lv_at hl 1 rfl) ?_
  refine lv_if_ne (tgt := 1618) C0.hx C0.hb dL_law_1596 (by decide) (fun hc => ?_) (fun hc => ?_)
  · refine lv_goto (tgt := 1913) C0.hx C0.hb dL_law_1618 (by decide) ?_
    refine W.widen (k := cells + 900) (n := slots + 13000) (by omega) (by omega) ?_
    exact K x1 y1 o1 H locs ls h5 hW (lv_sub hl [2, 3, 4, 5, 6] rfl)
  · have hk : k = 0 := hc
    have h0 := h4 hk
    refine lv_aload_n C0.hx C0.hb dL_law_1599 rfl (lv_at hl 5 rfl) ?_
    refine lv_iconst (v := (0 : Int32)) C0.hx C0.hb dL_law_1600 (by decide) ?_
    refine ga_38 C0 hW (List.mem_range.mpr (by decide)) k_161 (by decide) dL_law_1601 ?_
    refine lv_iload C0.hx C0.hb dL_law_1602 (lv_at hl 0 rfl) ?_
    have h01 := g_01_turnPruned h1 hk
    refine lv_if_eq (tgt := 1611) C0.hx C0.hb dL_law_1604 (by decide) (fun hr => ?_) (fun hr => ?_)
    · refine lv_lconst (v := (0 : Int64)) C0.hx C0.hb dL_law_1611 (by decide) ?_
      refine W.lcmp C0.hx C0.hb dL_law_1612 ?_
      refine lv_if_eq (tgt := 1618) C0.hx C0.hb dL_law_1613 (by decide) (fun hc => ?_) (fun hc => absurd (by show lg_cmp (o1 0).toInt64 0 = 0; rw [h0, hr]; decide) hc)
      refine lv_goto (tgt := 1913) C0.hx C0.hb dL_law_1618 (by decide) ?_
      refine W.widen (k := cells + 900) (n := slots + 13000) (by omega) (by omega) ?_
      exact K x1 y1 o1 H locs ls h5 hW (lv_sub hl [2, 3, 4, 5, 6] rfl)
    · have h11 : o1 0 = 1 := h01.resolve_left (fun q => hr (h0.symm.trans q))
      refine lv_lconst (v := (1 : Int64)) C0.hx C0.hb dL_law_1607 (by decide) ?_
      refine lv_goto (tgt := 1612) C0.hx C0.hb dL_law_1608 (by decide) ?_
      refine W.lcmp C0.hx C0.hb dL_law_1612 ?_
      refine lv_if_eq (tgt := 1618) C0.hx C0.hb dL_law_1613 (by decide) (fun hc => ?_) (fun hc => absurd (by show lg_cmp (o1 0).toInt64 1 = 0; rw [h11]; decide) hc)
      refine lv_goto (tgt := 1913) C0.hx C0.hb dL_law_1618 (by decide) ?_
      refine W.widen (k := cells + 900) (n := slots + 13000) (by omega) (by omega) ?_
      exact K x1 y1 o1 H locs ls h5 hW (lv_sub hl [2, 3, 4, 5, 6] rfl)
theorem w_L_meanLength (C0 : g_X G (List.range 162) p s m #[.ref b] meth c cL_law 9 RL ret) (hW : g_W G (List.range 162) (x, y, o) s.heap H locs) (hR : pp_R x y) (hl : lv_has ls 9 (g_LV G b i)) (hcl : cells + 900 ≤ 601024) (hsl : slots + 13000 ≤ 7293034) (K : ∀ (x' : CS) (y' : MS) (o' : Nat → Int32) (H' : Heap) (locs' : List Loc) (ls' : Array Slot), pp_R x' y' → g_W G (List.range 162) (x', y', o') s.heap H' locs' → lv_has ls' 9 (g_LV G b i) → W p l e room_1 s m #[.ref b] below meth c H' locs' (cells + 900) (slots + 13000) Q (F0 m 1913 ls' [])) : W p l e room_1 s m #[.ref b] below meth c H locs cells slots Q (F0 m 1858 ls []) := by
  obtain ⟨r, y1, h1, h2, h3⟩ := pp_o35 hR
  refine lv_aload_n C0.hx C0.hb dL_law_1858 rfl (lv_at hl 1 rfl) ?_
  refine g_calld hW (g_runV (As := []) (rest := []) C0 hW (c_X12_meanLength h1) (g_cwL (n := 0) tc_X12_meanLength tn_X12 ⟨by decide, by decide, by decide +kernel⟩ (by decide) (by decide) (by omega) (by omega)) tm_L_224 ti_X12_meanLength ts_X12_meanLength (C0.mem (i := 0) (Nat.le_of_ble_eq_true rfl)) (g_c1 k_0) rfl rfl hl.1 rfl (Nat.le_of_ble_eq_true rfl) dL_law_1859) (fun H locs hW => ?_)
  refine lv_dstore (lv' := [(5, .double r), (0, .ref b), (1, .ref (g_ad G 0)), (2, .ref (g_ad G 120)), (3, .ref (g_ad G 161)), (4, .int i)]) C0.hx C0.hb dL_law_1862 hl (by decide) rfl (fun ls hl => ?_)
  refine lv_aload_n C0.hx C0.hb dL_law_1864 rfl (lv_at hl 3 rfl) ?_
  refine g_calld hW (g_runV (As := []) (rest := []) C0 hW (c_X15_meanLength h2) (g_cwL (n := 0) tc_X15_meanLength tn_X15 ⟨by decide, by decide, by decide +kernel⟩ (by decide) (by decide) (by omega) (by omega)) tm_L_228 ti_X15_meanLength ts_X15_meanLength (C0.mem (i := 120) (Nat.le_of_ble_eq_true rfl)) (g_c12 k_120) rfl rfl hl.1 rfl (Nat.le_of_ble_eq_true rfl) dL_law_1865) (fun H locs hW => ?_)
  refine lv_dstore (lv' := [(7, .double r), (5, .double r), (0, .ref b), (1, .ref (g_ad G 0)), (2, .ref (g_ad G 120)), (3, .ref (g_ad G 161)), (4, .int i)]) C0.hx C0.hb dL_law_1868 hl (by decide) rfl (fun ls hl => ?_)
  refine lv_dload C0.hx C0.hb dL_law_1870 (lv_at hl 1 rfl) ?_
  refine lv_dload C0.hx C0.hb dL_law_1872 (lv_at hl 0 rfl) ?_
  refine lv_dcmp C0.hx C0.hb dL_law_1874 ?_
  refine lv_if_eq (tgt := 1896) C0.hx C0.hb dL_law_1875 (by decide) (fun _ => ?_) (fun hc => ?_)
  · refine lv_goto (tgt := 1913) C0.hx C0.hb dL_law_1896 (by decide) ?_
    refine W.widen (k := cells + 900) (n := slots + 13000) (by omega) (by omega) ?_
    exact K x y1 o H locs ls h3 hW (lv_sub hl [2, 3, 4, 5, 6] rfl)
  · refine lv_dload C0.hx C0.hb dL_law_1878 (lv_at hl 1 rfl) ?_
    refine lv_dload C0.hx C0.hb dL_law_1880 (lv_at hl 1 rfl) ?_
    refine lv_dcmp C0.hx C0.hb dL_law_1882 ?_
    refine lv_if_eq (tgt := 1894) C0.hx C0.hb dL_law_1883 (by decide) (fun h9 => absurd h9 hc) (fun _ => ?_)
    refine lv_dload C0.hx C0.hb dL_law_1886 (lv_at hl 0 rfl) ?_
    refine lv_dload C0.hx C0.hb dL_law_1888 (lv_at hl 0 rfl) ?_
    refine lv_dcmp C0.hx C0.hb dL_law_1890 ?_
    refine lv_if_ne (tgt := 1896) C0.hx C0.hb dL_law_1891 (by decide) (fun _ => ?_) (fun h9 => absurd h9 hc)
    refine lv_goto (tgt := 1913) C0.hx C0.hb dL_law_1896 (by decide) ?_
    refine W.widen (k := cells + 900) (n := slots + 13000) (by omega) (by omega) ?_
    exact K x y1 o H locs ls h3 hW (lv_sub hl [2, 3, 4, 5, 6] rfl)
theorem w_L_digest (C0 : g_X G (List.range 162) p s m #[.ref b] meth c cL_law 9 RL ret) (hW : g_W G (List.range 162) (x, y, o) s.heap H locs) (hR : pp_R x y) (hl : lv_has ls 9 (g_LV G b i)) (hcl : cells + 900 ≤ 601024) (hsl : slots + 13000 ≤ 7293034) (K : ∀ (x' : CS) (y' : MS) (o' : Nat → Int32) (H' : Heap) (locs' : List Loc) (ls' : Array Slot), pp_R x' y' → g_W G (List.range 162) (x', y', o') s.heap H' locs' → lv_has ls' 9 (g_LV G b i) → W p l e room_1 s m #[.ref b] below meth c H' locs' (cells + 900) (slots + 13000) Q (F0 m 1913 ls' [])) : W p l e room_1 s m #[.ref b] below meth c H locs cells slots Q (F0 m 1899 ls []) := by
  obtain ⟨r, x1, y1, h1, h2, h3⟩ := pp_o36 hR
  refine lv_aload_n C0.hx C0.hb dL_law_1899 rfl (lv_at hl 1 rfl) ?_
  refine g_calll hW (g_runV (As := []) (rest := []) C0 hW (c_X12_digest h1) (g_cwL (n := 0) tc_X12_digest tn_X12 ⟨by decide, by decide, by decide +kernel⟩ (by decide) (by decide) (by omega) (by omega)) tm_L_229 ti_X12_digest ts_X12_digest (C0.mem (i := 0) (Nat.le_of_ble_eq_true rfl)) (g_c1 k_0) rfl rfl hl.1 rfl (Nat.le_of_ble_eq_true rfl) dL_law_1900) (fun H locs hW => ?_)
  refine lv_aload_n C0.hx C0.hb dL_law_1903 rfl (lv_at hl 2 rfl) ?_
  refine g_calll hW (g_runV (As := []) (rest := [.long r]) C0 hW (c_X15_digest (fun j hj => List.mem_range.mp hj) h3.ok h2) (g_cwL (n := 0) tc_X15_digest tn_X15 ⟨by decide, by decide, by decide +kernel⟩ (by decide) (by decide) (by omega) (by omega)) tm_L_233 ti_X15_digest ts_X15_digest (C0.mem (i := 120) (Nat.le_of_ble_eq_true rfl)) (g_c12 k_120) rfl rfl hl.1 rfl (Nat.le_of_ble_eq_true rfl) dL_law_1904) (fun H locs hW => ?_)
  refine W.lcmp C0.hx C0.hb dL_law_1907 ?_
  refine lv_if_eq (tgt := 1913) C0.hx C0.hb dL_law_1908 (by decide) (fun hc => ?_) (fun hc => absurd g_cmp0 hc)
  refine W.widen (k := cells + 900) (n := slots + 13000) (by omega) (by omega) ?_
  exact K x1 y1 o H locs ls h3 hW hl
end GLW
