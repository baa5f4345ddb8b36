set_option maxRecDepth 100000 in
set_option maxHeartbeats 4000000 in
theorem g_Voc91at {G : GL} {H : Heap} {f fv : Nat → Nat} {y : MS} {o : Nat → Int32} (hf : ∀ j, j < 29 → f (91 + j) = fv j) (hP : va_P (g_D G) vwCl (g_LVoc G fv) H) : ∀ i, 91 ≤ i → i < 120 → va_at (g_D G) vwCl (f i, g_c (g_re G f) (g_x0, y, o) i) H := by
  have e91 : f 91 = fv 0 := hf 0 (by decide)
  have e92 : f 92 = fv 1 := hf 1 (by decide)
  have e93 : f 93 = fv 2 := hf 2 (by decide)
  have e94 : f 94 = fv 3 := hf 3 (by decide)
  have e95 : f 95 = fv 4 := hf 4 (by decide)
  have e96 : f 96 = fv 5 := hf 5 (by decide)
  have e97 : f 97 = fv 6 := hf 6 (by decide)
  have e98 : f 98 = fv 7 := hf 7 (by decide)
  have e99 : f 99 = fv 8 := hf 8 (by decide)
  have e100 : f 100 = fv 9 := hf 9 (by decide)
  have e101 : f 101 = fv 10 := hf 10 (by decide)
  have e102 : f 102 = fv 11 := hf 11 (by decide)
  have e103 : f 103 = fv 12 := hf 12 (by decide)
  have e104 : f 104 = fv 13 := hf 13 (by decide)
  have e105 : f 105 = fv 14 := hf 14 (by decide)
  have e106 : f 106 = fv 15 := hf 15 (by decide)
  have e107 : f 107 = fv 16 := hf 16 (by decide)
  have e108 : f 108 = fv 17 := hf 17 (by decide)
  have e109 : f 109 = fv 18 := hf 18 (by decide)
  have e110 : f 110 = fv 19 := hf 19 (by decide)
  have e111 : f 111 = fv 20 := hf 20 (by decide)
  have e112 : f 112 = fv 21 := hf 21 (by decide)
  have e113 : f 113 = fv 22 := hf 22 (by decide)
  have e114 : f 114 = fv 23 := hf 23 (by decide)
  have e115 : f 115 = fv 24 := hf 24 (by decide)
  have e116 : f 116 = fv 25 := hf 25 (by decide)
  have e117 : f 117 = fv 26 := hf 26 (by decide)
  have e118 : f 118 = fv 27 := hf 27 (by decide)
  have e119 : f 119 = fv 28 := hf 28 (by decide)
  rw [g_LVoce] at hP
  intro i h1 h2
  obtain ⟨j, rfl⟩ : ∃ j, i = 91 + j := ⟨i - 91, by omega⟩
  have hj : j < 29 := by omega
  clear h1 h2
  revert j
  have h_0 : ∀ j, j < 0 → va_at (g_D G) vwCl (f (91 + j), g_c (g_re G f) (g_x0, y, o) (91 + j)) H := lt_0
  have h_1 := lt_s h_0 (by
    show va_at (g_D G) vwCl (f 91, g_c (g_re G f) (g_x0, y, o) 91) H
    rw [g_c9 (by decide : kd 91 = 9), e91]
    show va_at (g_D G) vwCl (fv 0, .inr (7, [.ref (f 92), .ref (f 93), .int 0, .int 0, .int 0])) H
    rw [e92, e93]
    exact hP 0 _ rfl)
  have h_2 := lt_s h_1 (by
    show va_at (g_D G) vwCl (f 92, g_c (g_re G f) (g_x0, y, o) 92) H
    rw [g_c28 (by decide : kd 92 = 28), e92]
    refine g_atqV (fun j hj => ?_) (hP 1 _ rfl)
    show some (fv (5 + 3 * j)) = some (f (92 + 4 + 3 * j))
    have h9 := hf (5 + 3 * j) (by omega)
    rw [show 92 + 4 + 3 * j = 91 + (5 + 3 * j) by omega, h9])
  have h_3 := lt_s h_2 (by
    show va_at (g_D G) vwCl (f 93, g_c (g_re G f) (g_x0, y, o) 93) H
    rw [g_c10 (by decide : kd 93 = 10), e93]
    show va_at (g_D G) vwCl (fv 2, .inr (9, [.ref (f 94), .int 0, .int 999])) H
    rw [e94]
    exact hP 2 _ rfl)
  have h_4 := lt_s h_3 (by
    show va_at (g_D G) vwCl (f 94, g_c (g_re G f) (g_x0, y, o) 94) H
    rw [g_c5 (by decide : kd 94 = 5), e94]
    show va_at (g_D G) vwCl (fv 3, .inr (2, [.ref (f 95), .int 0])) H
    rw [e95]
    exact hP 3 _ rfl)
  have h_5 := lt_s h_4 (by
    show va_at (g_D G) vwCl (f 95, g_c (g_re G f) (g_x0, y, o) 95) H
    rw [g_c24 (by decide : kd 95 = 24), e95]
    show va_at (g_D G) vwCl (fv 4, .inl (g_cA G 0, 24, .inl (fun _ => 0))) H
    exact hP 4 _ rfl)
  have h_6 := lt_s h_5 (by
    show va_at (g_D G) vwCl (f 96, g_c (g_re G f) (g_x0, y, o) 96) H
    rw [g_c10 (by decide : kd 96 = 10), e96]
    show va_at (g_D G) vwCl (fv 5, .inr (9, [.ref (f 97), .int 0, .int 999])) H
    rw [e97]
    exact hP 5 _ rfl)
  have h_7 := lt_s h_6 (by
    show va_at (g_D G) vwCl (f 97, g_c (g_re G f) (g_x0, y, o) 97) H
    rw [g_c5 (by decide : kd 97 = 5), e97]
    show va_at (g_D G) vwCl (fv 6, .inr (2, [.ref (f 98), .int 0])) H
    rw [e98]
    exact hP 6 _ rfl)
  have h_8 := lt_s h_7 (by
    show va_at (g_D G) vwCl (f 98, g_c (g_re G f) (g_x0, y, o) 98) H
    rw [g_c24 (by decide : kd 98 = 24), e98]
    show va_at (g_D G) vwCl (fv 7, .inl (g_cA G 0, 24, .inl (fun _ => 0))) H
    exact hP 7 _ rfl)
  have h_9 := lt_s h_8 (by
    show va_at (g_D G) vwCl (f 99, g_c (g_re G f) (g_x0, y, o) 99) H
    rw [g_c10 (by decide : kd 99 = 10), e99]
    show va_at (g_D G) vwCl (fv 8, .inr (9, [.ref (f 100), .int 0, .int 999])) H
    rw [e100]
    exact hP 8 _ rfl)
  have h_10 := lt_s h_9 (by
    show va_at (g_D G) vwCl (f 100, g_c (g_re G f) (g_x0, y, o) 100) H
    rw [g_c5 (by decide : kd 100 = 5), e100]
    show va_at (g_D G) vwCl (fv 9, .inr (2, [.ref (f 101), .int 0])) H
    rw [e101]
    exact hP 9 _ rfl)
  have h_11 := lt_s h_10 (by
    show va_at (g_D G) vwCl (f 101, g_c (g_re G f) (g_x0, y, o) 101) H
    rw [g_c24 (by decide : kd 101 = 24), e101]
    show va_at (g_D G) vwCl (fv 10, .inl (g_cA G 0, 24, .inl (fun _ => 0))) H
    exact hP 10 _ rfl)
  have h_12 := lt_s h_11 (by
    show va_at (g_D G) vwCl (f 102, g_c (g_re G f) (g_x0, y, o) 102) H
    rw [g_c10 (by decide : kd 102 = 10), e102]
    show va_at (g_D G) vwCl (fv 11, .inr (9, [.ref (f 103), .int 0, .int 999])) H
    rw [e103]
    exact hP 11 _ rfl)
  have h_13 := lt_s h_12 (by
    show va_at (g_D G) vwCl (f 103, g_c (g_re G f) (g_x0, y, o) 103) H
    rw [g_c5 (by decide : kd 103 = 5), e103]
    show va_at (g_D G) vwCl (fv 12, .inr (2, [.ref (f 104), .int 0])) H
    rw [e104]
    exact hP 12 _ rfl)
  have h_14 := lt_s h_13 (by
    show va_at (g_D G) vwCl (f 104, g_c (g_re G f) (g_x0, y, o) 104) H
    rw [g_c24 (by decide : kd 104 = 24), e104]
    show va_at (g_D G) vwCl (fv 13, .inl (g_cA G 0, 24, .inl (fun _ => 0))) H
    exact hP 13 _ rfl)
  have h_15 := lt_s h_14 (by
    show va_at (g_D G) vwCl (f 105, g_c (g_re G f) (g_x0, y, o) 105) H
    rw [g_c10 (by decide : kd 105 = 10), e105]
    show va_at (g_D G) vwCl (fv 14, .inr (9, [.ref (f 106), .int 0, .int 999])) H
    rw [e106]
    exact hP 14 _ rfl)
  have h_16 := lt_s h_15 (by
    show va_at (g_D G) vwCl (f 106, g_c (g_re G f) (g_x0, y, o) 106) H
    rw [g_c5 (by decide : kd 106 = 5), e106]
    show va_at (g_D G) vwCl (fv 15, .inr (2, [.ref (f 107), .int 0])) H
    rw [e107]
    exact hP 15 _ rfl)
  have h_17 := lt_s h_16 (by
    show va_at (g_D G) vwCl (f 107, g_c (g_re G f) (g_x0, y, o) 107) H
    rw [g_c24 (by decide : kd 107 = 24), e107]
    show va_at (g_D G) vwCl (fv 16, .inl (g_cA G 0, 24, .inl (fun _ => 0))) H
    exact hP 16 _ rfl)
  have h_18 := lt_s h_17 (by
    show va_at (g_D G) vwCl (f 108, g_c (g_re G f) (g_x0, y, o) 108) H
    rw [g_c10 (by decide : kd 108 = 10), e108]
    show va_at (g_D G) vwCl (fv 17, .inr (9, [.ref (f 109), .int 0, .int 999])) H
    rw [e109]
    exact hP 17 _ rfl)
  have h_19 := lt_s h_18 (by
    show va_at (g_D G) vwCl (f 109, g_c (g_re G f) (g_x0, y, o) 109) H
    rw [g_c5 (by decide : kd 109 = 5), e109]
    show va_at (g_D G) vwCl (fv 18, .inr (2, [.ref (f 110), .int 0])) H
    rw [e110]
    exact hP 18 _ rfl)
  have h_20 := lt_s h_19 (by
    show va_at (g_D G) vwCl (f 110, g_c (g_re G f) (g_x0, y, o) 110) H
    rw [g_c24 (by decide : kd 110 = 24), e110]
    show va_at (g_D G) vwCl (fv 19, .inl (g_cA G 0, 24, .inl (fun _ => 0))) H
    exact hP 19 _ rfl)
  have h_21 := lt_s h_20 (by
    show va_at (g_D G) vwCl (f 111, g_c (g_re G f) (g_x0, y, o) 111) H
    rw [g_c10 (by decide : kd 111 = 10), e111]
    show va_at (g_D G) vwCl (fv 20, .inr (9, [.ref (f 112), .int 0, .int 999])) H
    rw [e112]
    exact hP 20 _ rfl)
  have h_22 := lt_s h_21 (by
    show va_at (g_D G) vwCl (f 112, g_c (g_re G f) (g_x0, y, o) 112) H
    rw [g_c5 (by decide : kd 112 = 5), e112]
    show va_at (g_D G) vwCl (fv 21, .inr (2, [.ref (f 113), .int 0])) H
    rw [e113]
    exact hP 21 _ rfl)
  have h_23 := lt_s h_22 (by
    show va_at (g_D G) vwCl (f 113, g_c (g_re G f) (g_x0, y, o) 113) H
    rw [g_c24 (by decide : kd 113 = 24), e113]
    show va_at (g_D G) vwCl (fv 22, .inl (g_cA G 0, 24, .inl (fun _ => 0))) H
    exact hP 22 _ rfl)
  have h_24 := lt_s h_23 (by
    show va_at (g_D G) vwCl (f 114, g_c (g_re G f) (g_x0, y, o) 114) H
    rw [g_c10 (by decide : kd 114 = 10), e114]
    show va_at (g_D G) vwCl (fv 23, .inr (9, [.ref (f 115), .int 0, .int 999])) H
    rw [e115]
    exact hP 23 _ rfl)
  have h_25 := lt_s h_24 (by
    show va_at (g_D G) vwCl (f 115, g_c (g_re G f) (g_x0, y, o) 115) H
    rw [g_c5 (by decide : kd 115 = 5), e115]
    show va_at (g_D G) vwCl (fv 24, .inr (2, [.ref (f 116), .int 0])) H
    rw [e116]
    exact hP 24 _ rfl)
  have h_26 := lt_s h_25 (by
    show va_at (g_D G) vwCl (f 116, g_c (g_re G f) (g_x0, y, o) 116) H
    rw [g_c24 (by decide : kd 116 = 24), e116]
    show va_at (g_D G) vwCl (fv 25, .inl (g_cA G 0, 24, .inl (fun _ => 0))) H
    exact hP 25 _ rfl)
  have h_27 := lt_s h_26 (by
    show va_at (g_D G) vwCl (f 117, g_c (g_re G f) (g_x0, y, o) 117) H
    rw [g_c10 (by decide : kd 117 = 10), e117]
    show va_at (g_D G) vwCl (fv 26, .inr (9, [.ref (f 118), .int 0, .int 999])) H
    rw [e118]
    exact hP 26 _ rfl)
  have h_28 := lt_s h_27 (by
    show va_at (g_D G) vwCl (f 118, g_c (g_re G f) (g_x0, y, o) 118) H
    rw [g_c5 (by decide : kd 118 = 5), e118]
    show va_at (g_D G) vwCl (fv 27, .inr (2, [.ref (f 119), .int 0])) H
    rw [e119]
    exact hP 27 _ rfl)
  have h_29 := lt_s h_28 (by
    show va_at (g_D G) vwCl (f 119, g_c (g_re G f) (g_x0, y, o) 119) H
    rw [g_c24 (by decide : kd 119 = 24), e119]
    show va_at (g_D G) vwCl (fv 28, .inl (g_cA G 0, 24, .inl (fun _ => 0))) H
    exact hP 28 _ rfl)
  exact h_29
