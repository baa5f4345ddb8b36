theorem g_LVoce (G : GL) (f : Nat → Nat) : g_LVoc G f = [(f 0, .inr (7, [.ref (f 1), .ref (f 2), .int 0, .int 0, .int 0])), (f 1, .inl (g_cA G 4, 8, .inr (.inr (.inr (.inr (fun k => some (f (5 + 3 * k)))))))), (f 2, .inr (9, [.ref (f 3), .int 0, .int 999])), (f 3, .inr (2, [.ref (f 4), .int 0])), (f 4, .inl (g_cA G 0, 24, .inl (fun _ => 0))), (f 5, .inr (9, [.ref (f 6), .int 0, .int 999])), (f 6, .inr (2, [.ref (f 7), .int 0])), (f 7, .inl (g_cA G 0, 24, .inl (fun _ => 0))), (f 8, .inr (9, [.ref (f 9), .int 0, .int 999])), (f 9, .inr (2, [.ref (f 10), .int 0])), (f 10, .inl (g_cA G 0, 24, .inl (fun _ => 0))), (f 11, .inr (9, [.ref (f 12), .int 0, .int 999])), (f 12, .inr (2, [.ref (f 13), .int 0])), (f 13, .inl (g_cA G 0, 24, .inl (fun _ => 0))), (f 14, .inr (9, [.ref (f 15), .int 0, .int 999])), (f 15, .inr (2, [.ref (f 16), .int 0])), (f 16, .inl (g_cA G 0, 24, .inl (fun _ => 0))), (f 17, .inr (9, [.ref (f 18), .int 0, .int 999])), (f 18, .inr (2, [.ref (f 19), .int 0])), (f 19, .inl (g_cA G 0, 24, .inl (fun _ => 0))), (f 20, .inr (9, [.ref (f 21), .int 0, .int 999])), (f 21, .inr (2, [.ref (f 22), .int 0])), (f 22, .inl (g_cA G 0, 24, .inl (fun _ => 0))), (f 23, .inr (9, [.ref (f 24), .int 0, .int 999])), (f 24, .inr (2, [.ref (f 25), .int 0])), (f 25, .inl (g_cA G 0, 24, .inl (fun _ => 0))), (f 26, .inr (9, [.ref (f 27), .int 0, .int 999])), (f 27, .inr (2, [.ref (f 28), .int 0])), (f 28, .inl (g_cA G 0, 24, .inl (fun _ => 0)))] := by
  simp only [g_LVoc, g_LWord, g_LRow, List.append_assoc, List.cons_append, List.nil_append]
set_option maxRecDepth 100000 in
set_option maxHeartbeats 4000000 in
theorem g_Voc41at {G : GL} {H : Heap} {f fv : Nat → Nat} {y : MS} {o : Nat → Int32} (hf : ∀ j, j < 29 → f (41 + j) = fv j) (hP : va_P (g_D G) vwCl (g_LVoc G fv) H) : ∀ i, 41 ≤ i → i < 70 → va_at (g_D G) vwCl (f i, g_c (g_re G f) (g_x0, y, o) i) H := by
  have e41 : f 41 = fv 0 := hf 0 (by decide)
  have e42 : f 42 = fv 1 := hf 1 (by decide)
  have e43 : f 43 = fv 2 := hf 2 (by decide)
  have e44 : f 44 = fv 3 := hf 3 (by decide)
  have e45 : f 45 = fv 4 := hf 4 (by decide)
  have e46 : f 46 = fv 5 := hf 5 (by decide)
  have e47 : f 47 = fv 6 := hf 6 (by decide)
  have e48 : f 48 = fv 7 := hf 7 (by decide)
  have e49 : f 49 = fv 8 := hf 8 (by decide)
  have e50 : f 50 = fv 9 := hf 9 (by decide)
  have e51 : f 51 = fv 10 := hf 10 (by decide)
  have e52 : f 52 = fv 11 := hf 11 (by decide)
  have e53 : f 53 = fv 12 := hf 12 (by decide)
  have e54 : f 54 = fv 13 := hf 13 (by decide)
  have e55 : f 55 = fv 14 := hf 14 (by decide)
  have e56 : f 56 = fv 15 := hf 15 (by decide)
  have e57 : f 57 = fv 16 := hf 16 (by decide)
  have e58 : f 58 = fv 17 := hf 17 (by decide)
  have e59 : f 59 = fv 18 := hf 18 (by decide)
  have e60 : f 60 = fv 19 := hf 19 (by decide)
  have e61 : f 61 = fv 20 := hf 20 (by decide)
  have e62 : f 62 = fv 21 := hf 21 (by decide)
  have e63 : f 63 = fv 22 := hf 22 (by decide)
  have e64 : f 64 = fv 23 := hf 23 (by decide)
  have e65 : f 65 = fv 24 := hf 24 (by decide)
  have e66 : f 66 = fv 25 := hf 25 (by decide)
  have e67 : f 67 = fv 26 := hf 26 (by decide)
  have e68 : f 68 = fv 27 := hf 27 (by decide)
  have e69 : f 69 = fv 28 := hf 28 (by decide)
  rw [g_LVoce] at hP
  intro i h1 h2
  obtain ⟨j, rfl⟩ : ∃ j, i = 41 + j := ⟨i - 41, by omega⟩
  have hj : j < 29 := by omega
  clear h1 h2
  revert j
  have h_0 : ∀ j, j < 0 → va_at (g_D G) vwCl (f (41 + j), g_c (g_re G f) (g_x0, y, o) (41 + j)) H := lt_0
  have h_1 := lt_s h_0 (by
    show va_at (g_D G) vwCl (f 41, g_c (g_re G f) (g_x0, y, o) 41) H
    rw [g_c9 (by decide : kd 41 = 9), e41]
    show va_at (g_D G) vwCl (fv 0, .inr (7, [.ref (f 42), .ref (f 43), .int 0, .int 0, .int 0])) H
    rw [e42, e43]
    exact hP 0 _ rfl)
  have h_2 := lt_s h_1 (by
    show va_at (g_D G) vwCl (f 42, g_c (g_re G f) (g_x0, y, o) 42) H
    rw [g_c28 (by decide : kd 42 = 28), e42]
    refine g_atqV (fun j hj => ?_) (hP 1 _ rfl)
    show some (fv (5 + 3 * j)) = some (f (42 + 4 + 3 * j))
    have h9 := hf (5 + 3 * j) (by omega)
    rw [show 42 + 4 + 3 * j = 41 + (5 + 3 * j) by omega, h9])
  have h_3 := lt_s h_2 (by
    show va_at (g_D G) vwCl (f 43, g_c (g_re G f) (g_x0, y, o) 43) H
    rw [g_c10 (by decide : kd 43 = 10), e43]
    show va_at (g_D G) vwCl (fv 2, .inr (9, [.ref (f 44), .int 0, .int 999])) H
    rw [e44]
    exact hP 2 _ rfl)
  have h_4 := lt_s h_3 (by
    show va_at (g_D G) vwCl (f 44, g_c (g_re G f) (g_x0, y, o) 44) H
    rw [g_c5 (by decide : kd 44 = 5), e44]
    show va_at (g_D G) vwCl (fv 3, .inr (2, [.ref (f 45), .int 0])) H
    rw [e45]
    exact hP 3 _ rfl)
  have h_5 := lt_s h_4 (by
    show va_at (g_D G) vwCl (f 45, g_c (g_re G f) (g_x0, y, o) 45) H
    rw [g_c24 (by decide : kd 45 = 24), e45]
    show va_at (g_D G) vwCl (fv 4, .inl (g_cA G 0, 24, .inl (fun _ => 0))) H
    exact hP 4 _ rfl)
  have h_6 := lt_s h_5 (by
    show va_at (g_D G) vwCl (f 46, g_c (g_re G f) (g_x0, y, o) 46) H
    rw [g_c10 (by decide : kd 46 = 10), e46]
    show va_at (g_D G) vwCl (fv 5, .inr (9, [.ref (f 47), .int 0, .int 999])) H
    rw [e47]
    exact hP 5 _ rfl)
  have h_7 := lt_s h_6 (by
    show va_at (g_D G) vwCl (f 47, g_c (g_re G f) (g_x0, y, o) 47) H
    rw [g_c5 (by decide : kd 47 = 5), e47]
    show va_at (g_D G) vwCl (fv 6, .inr (2, [.ref (f 48), .int 0])) H
    rw [e48]
    exact hP 6 _ rfl)
  have h_8 := lt_s h_7 (by
    show va_at (g_D G) vwCl (f 48, g_c (g_re G f) (g_x0, y, o) 48) H
    rw [g_c24 (by decide : kd 48 = 24), e48]
    show va_at (g_D G) vwCl (fv 7, .inl (g_cA G 0, 24, .inl (fun _ => 0))) H
    exact hP 7 _ rfl)
  have h_9 := lt_s h_8 (by
    show va_at (g_D G) vwCl (f 49, g_c (g_re G f) (g_x0, y, o) 49) H
    rw [g_c10 (by decide : kd 49 = 10), e49]
    show va_at (g_D G) vwCl (fv 8, .inr (9, [.ref (f 50), .int 0, .int 999])) H
    rw [e50]
    exact hP 8 _ rfl)
  have h_10 := lt_s h_9 (by
    show va_at (g_D G) vwCl (f 50, g_c (g_re G f) (g_x0, y, o) 50) H
    rw [g_c5 (by decide : kd 50 = 5), e50]
    show va_at (g_D G) vwCl (fv 9, .inr (2, [.ref (f 51), .int 0])) H
    rw [e51]
    exact hP 9 _ rfl)
  have h_11 := lt_s h_10 (by
    show va_at (g_D G) vwCl (f 51, g_c (g_re G f) (g_x0, y, o) 51) H
    rw [g_c24 (by decide : kd 51 = 24), e51]
    show va_at (g_D G) vwCl (fv 10, .inl (g_cA G 0, 24, .inl (fun _ => 0))) H
    exact hP 10 _ rfl)
  have h_12 := lt_s h_11 (by
    show va_at (g_D G) vwCl (f 52, g_c (g_re G f) (g_x0, y, o) 52) H
    rw [g_c10 (by decide : kd 52 = 10), e52]
    show va_at (g_D G) vwCl (fv 11, .inr (9, [.ref (f 53), .int 0, .int 999])) H
    rw [e53]
    exact hP 11 _ rfl)
  have h_13 := lt_s h_12 (by
    show va_at (g_D G) vwCl (f 53, g_c (g_re G f) (g_x0, y, o) 53) H
    rw [g_c5 (by decide : kd 53 = 5), e53]
    show va_at (g_D G) vwCl (fv 12, .inr (2, [.ref (f 54), .int 0])) H
    rw [e54]
    exact hP 12 _ rfl)
  have h_14 := lt_s h_13 (by
    show va_at (g_D G) vwCl (f 54, g_c (g_re G f) (g_x0, y, o) 54) H
    rw [g_c24 (by decide : kd 54 = 24), e54]
    show va_at (g_D G) vwCl (fv 13, .inl (g_cA G 0, 24, .inl (fun _ => 0))) H
    exact hP 13 _ rfl)
  have h_15 := lt_s h_14 (by
    show va_at (g_D G) vwCl (f 55, g_c (g_re G f) (g_x0, y, o) 55) H
    rw [g_c10 (by decide : kd 55 = 10), e55]
    show va_at (g_D G) vwCl (fv 14, .inr (9, [.ref (f 56), .int 0, .int 999])) H
    rw [e56]
    exact hP 14 _ rfl)
  have h_16 := lt_s h_15 (by
    show va_at (g_D G) vwCl (f 56, g_c (g_re G f) (g_x0, y, o) 56) H
    rw [g_c5 (by decide : kd 56 = 5), e56]
    show va_at (g_D G) vwCl (fv 15, .inr (2, [.ref (f 57), .int 0])) H
    rw [e57]
    exact hP 15 _ rfl)
  have h_17 := lt_s h_16 (by
    show va_at (g_D G) vwCl (f 57, g_c (g_re G f) (g_x0, y, o) 57) H
    rw [g_c24 (by decide : kd 57 = 24), e57]
    show va_at (g_D G) vwCl (fv 16, .inl (g_cA G 0, 24, .inl (fun _ => 0))) H
    exact hP 16 _ rfl)
  have h_18 := lt_s h_17 (by
    show va_at (g_D G) vwCl (f 58, g_c (g_re G f) (g_x0, y, o) 58) H
    rw [g_c10 (by decide : kd 58 = 10), e58]
    show va_at (g_D G) vwCl (fv 17, .inr (9, [.ref (f 59), .int 0, .int 999])) H
    rw [e59]
    exact hP 17 _ rfl)
  have h_19 := lt_s h_18 (by
    show va_at (g_D G) vwCl (f 59, g_c (g_re G f) (g_x0, y, o) 59) H
    rw [g_c5 (by decide : kd 59 = 5), e59]
    show va_at (g_D G) vwCl (fv 18, .inr (2, [.ref (f 60), .int 0])) H
    rw [e60]
    exact hP 18 _ rfl)
  have h_20 := lt_s h_19 (by
    show va_at (g_D G) vwCl (f 60, g_c (g_re G f) (g_x0, y, o) 60) H
    rw [g_c24 (by decide : kd 60 = 24), e60]
    show va_at (g_D G) vwCl (fv 19, .inl (g_cA G 0, 24, .inl (fun _ => 0))) H
    exact hP 19 _ rfl)
  have h_21 := lt_s h_20 (by
    show va_at (g_D G) vwCl (f 61, g_c (g_re G f) (g_x0, y, o) 61) H
    rw [g_c10 (by decide : kd 61 = 10), e61]
    show va_at (g_D G) vwCl (fv 20, .inr (9, [.ref (f 62), .int 0, .int 999])) H
    rw [e62]
    exact hP 20 _ rfl)
  have h_22 := lt_s h_21 (by
    show va_at (g_D G) vwCl (f 62, g_c (g_re G f) (g_x0, y, o) 62) H
    rw [g_c5 (by decide : kd 62 = 5), e62]
    show va_at (g_D G) vwCl (fv 21, .inr (2, [.ref (f 63), .int 0])) H
    rw [e63]
    exact hP 21 _ rfl)
  have h_23 := lt_s h_22 (by
    show va_at (g_D G) vwCl (f 63, g_c (g_re G f) (g_x0, y, o) 63) H
    rw [g_c24 (by decide : kd 63 = 24), e63]
    show va_at (g_D G) vwCl (fv 22, .inl (g_cA G 0, 24, .inl (fun _ => 0))) H
    exact hP 22 _ rfl)
  have h_24 := lt_s h_23 (by
    show va_at (g_D G) vwCl (f 64, g_c (g_re G f) (g_x0, y, o) 64) H
    rw [g_c10 (by decide : kd 64 = 10), e64]
    show va_at (g_D G) vwCl (fv 23, .inr (9, [.ref (f 65), .int 0, .int 999])) H
    rw [e65]
    exact hP 23 _ rfl)
  have h_25 := lt_s h_24 (by
    show va_at (g_D G) vwCl (f 65, g_c (g_re G f) (g_x0, y, o) 65) H
    rw [g_c5 (by decide : kd 65 = 5), e65]
    show va_at (g_D G) vwCl (fv 24, .inr (2, [.ref (f 66), .int 0])) H
    rw [e66]
    exact hP 24 _ rfl)
  have h_26 := lt_s h_25 (by
    show va_at (g_D G) vwCl (f 66, g_c (g_re G f) (g_x0, y, o) 66) H
    rw [g_c24 (by decide : kd 66 = 24), e66]
    show va_at (g_D G) vwCl (fv 25, .inl (g_cA G 0, 24, .inl (fun _ => 0))) H
    exact hP 25 _ rfl)
  have h_27 := lt_s h_26 (by
    show va_at (g_D G) vwCl (f 67, g_c (g_re G f) (g_x0, y, o) 67) H
    rw [g_c10 (by decide : kd 67 = 10), e67]
    show va_at (g_D G) vwCl (fv 26, .inr (9, [.ref (f 68), .int 0, .int 999])) H
    rw [e68]
    exact hP 26 _ rfl)
  have h_28 := lt_s h_27 (by
    show va_at (g_D G) vwCl (f 68, g_c (g_re G f) (g_x0, y, o) 68) H
    rw [g_c5 (by decide : kd 68 = 5), e68]
    show va_at (g_D G) vwCl (fv 27, .inr (2, [.ref (f 69), .int 0])) H
    rw [e69]
    exact hP 27 _ rfl)
  have h_29 := lt_s h_28 (by
    show va_at (g_D G) vwCl (f 69, g_c (g_re G f) (g_x0, y, o) 69) H
    rw [g_c24 (by decide : kd 69 = 24), e69]
    show va_at (g_D G) vwCl (fv 28, .inl (g_cA G 0, 24, .inl (fun _ => 0))) H
    exact hP 28 _ rfl)
  exact h_29
