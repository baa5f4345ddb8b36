set_option maxRecDepth 100000 in
set_option maxHeartbeats 4000000 in
theorem g_RB70at {G : GL} {H : Heap} {f fb : Nat → Nat} {y : MS} {o : Nat → Int32} (hf : ∀ j, j < 21 → f (70 + j) = fb j) (hP : va_P (g_D G) vwCl (g_LRB G fb) H) : ∀ i, 70 ≤ i → i < 91 → va_at (g_D G) vwCl (f i, g_c (g_re G f) (g_x0, y, o) i) H := by
  have e70 : f 70 = fb 0 := hf 0 (by decide)
  have e71 : f 71 = fb 1 := hf 1 (by decide)
  have e72 : f 72 = fb 2 := hf 2 (by decide)
  have e73 : f 73 = fb 3 := hf 3 (by decide)
  have e74 : f 74 = fb 4 := hf 4 (by decide)
  have e75 : f 75 = fb 5 := hf 5 (by decide)
  have e76 : f 76 = fb 6 := hf 6 (by decide)
  have e77 : f 77 = fb 7 := hf 7 (by decide)
  have e78 : f 78 = fb 8 := hf 8 (by decide)
  have e79 : f 79 = fb 9 := hf 9 (by decide)
  have e80 : f 80 = fb 10 := hf 10 (by decide)
  have e81 : f 81 = fb 11 := hf 11 (by decide)
  have e82 : f 82 = fb 12 := hf 12 (by decide)
  have e83 : f 83 = fb 13 := hf 13 (by decide)
  have e84 : f 84 = fb 14 := hf 14 (by decide)
  have e85 : f 85 = fb 15 := hf 15 (by decide)
  have e86 : f 86 = fb 16 := hf 16 (by decide)
  have e87 : f 87 = fb 17 := hf 17 (by decide)
  have e88 : f 88 = fb 18 := hf 18 (by decide)
  have e89 : f 89 = fb 19 := hf 19 (by decide)
  have e90 : f 90 = fb 20 := hf 20 (by decide)
  rw [g_LRBe] at hP
  intro i h1 h2
  obtain ⟨j, rfl⟩ : ∃ j, i = 70 + j := ⟨i - 70, by omega⟩
  have hj : j < 21 := by omega
  clear h1 h2
  revert j
  have h_0 : ∀ j, j < 0 → va_at (g_D G) vwCl (f (70 + j), g_c (g_re G f) (g_x0, y, o) (70 + j)) H := lt_0
  have h_1 := lt_s h_0 (by
    show va_at (g_D G) vwCl (f 70, g_c (g_re G f) (g_x0, y, o) 70) H
    rw [g_c7 (by decide : kd 70 = 7), e70]
    show va_at (g_D G) vwCl (fb 0, .inr (4, [.ref (f 71), .ref (f 72), .ref (f 73), .ref (f 74), .int 0, .int 0, .int 4, .int 6])) H
    rw [e71, e72, e73, e74]
    exact hP 0 _ rfl)
  have h_2 := lt_s h_1 (by
    show va_at (g_D G) vwCl (f 71, g_c (g_re G f) (g_x0, y, o) 71) H
    rw [g_c26 (by decide : kd 71 = 26), e71]
    refine g_atqV (fun j hj => ?_) (hP 1 _ rfl)
    show some (fb (5 + j)) = some (f (71 + 4 + 1 * j))
    have h9 := hf (5 + 1 * j) (by omega)
    rw [show 71 + 4 + 1 * j = 70 + (5 + 1 * j) by omega, h9]; simp)
  have h_3 := lt_s h_2 (by
    show va_at (g_D G) vwCl (f 72, g_c (g_re G f) (g_x0, y, o) 72) H
    rw [g_c8 (by decide : kd 72 = 8), e72]
    show va_at (g_D G) vwCl (fb 2, .inr (3, [.ref (g_sg G 9), .int (-1), .int 0, .int 0, .int 0])) H
    exact hP 2 _ rfl)
  have h_4 := lt_s h_3 (by
    show va_at (g_D G) vwCl (f 73, g_c (g_re G f) (g_x0, y, o) 73) H
    rw [g_c27 (by decide : kd 73 = 27), e73]
    show va_at (g_D G) vwCl (fb 3, .inl (g_cA G 3, 400, .inr (.inr (.inr (.inr (fun _ => some (g_sg G 44))))))) H
    exact hP 3 _ rfl)
  have h_5 := lt_s h_4 (by
    show va_at (g_D G) vwCl (f 74, g_c (g_re G f) (g_x0, y, o) 74) H
    rw [g_c25 (by decide : kd 74 = 25), e74]
    show va_at (g_D G) vwCl (fb 4, .inl (g_cA G 0, 400, .inl (fun _ => 0))) H
    exact hP 4 _ rfl)
  have h_6 := lt_s h_5 (by
    show va_at (g_D G) vwCl (f 75, g_c (g_re G f) (g_x0, y, o) 75) H
    rw [g_c8 (by decide : kd 75 = 8), e75]
    show va_at (g_D G) vwCl (fb 5, .inr (3, [.ref (g_sg G 9), .int (-1), .int 0, .int 0, .int 0])) H
    exact hP 5 _ rfl)
  have h_7 := lt_s h_6 (by
    show va_at (g_D G) vwCl (f 76, g_c (g_re G f) (g_x0, y, o) 76) H
    rw [g_c8 (by decide : kd 76 = 8), e76]
    show va_at (g_D G) vwCl (fb 6, .inr (3, [.ref (g_sg G 9), .int (-1), .int 0, .int 0, .int 0])) H
    exact hP 6 _ rfl)
  have h_8 := lt_s h_7 (by
    show va_at (g_D G) vwCl (f 77, g_c (g_re G f) (g_x0, y, o) 77) H
    rw [g_c8 (by decide : kd 77 = 8), e77]
    show va_at (g_D G) vwCl (fb 7, .inr (3, [.ref (g_sg G 9), .int (-1), .int 0, .int 0, .int 0])) H
    exact hP 7 _ rfl)
  have h_9 := lt_s h_8 (by
    show va_at (g_D G) vwCl (f 78, g_c (g_re G f) (g_x0, y, o) 78) H
    rw [g_c8 (by decide : kd 78 = 8), e78]
    show va_at (g_D G) vwCl (fb 8, .inr (3, [.ref (g_sg G 9), .int (-1), .int 0, .int 0, .int 0])) H
    exact hP 8 _ rfl)
  have h_10 := lt_s h_9 (by
    show va_at (g_D G) vwCl (f 79, g_c (g_re G f) (g_x0, y, o) 79) H
    rw [g_c8 (by decide : kd 79 = 8), e79]
    show va_at (g_D G) vwCl (fb 9, .inr (3, [.ref (g_sg G 9), .int (-1), .int 0, .int 0, .int 0])) H
    exact hP 9 _ rfl)
  have h_11 := lt_s h_10 (by
    show va_at (g_D G) vwCl (f 80, g_c (g_re G f) (g_x0, y, o) 80) H
    rw [g_c8 (by decide : kd 80 = 8), e80]
    show va_at (g_D G) vwCl (fb 10, .inr (3, [.ref (g_sg G 9), .int (-1), .int 0, .int 0, .int 0])) H
    exact hP 10 _ rfl)
  have h_12 := lt_s h_11 (by
    show va_at (g_D G) vwCl (f 81, g_c (g_re G f) (g_x0, y, o) 81) H
    rw [g_c8 (by decide : kd 81 = 8), e81]
    show va_at (g_D G) vwCl (fb 11, .inr (3, [.ref (g_sg G 9), .int (-1), .int 0, .int 0, .int 0])) H
    exact hP 11 _ rfl)
  have h_13 := lt_s h_12 (by
    show va_at (g_D G) vwCl (f 82, g_c (g_re G f) (g_x0, y, o) 82) H
    rw [g_c8 (by decide : kd 82 = 8), e82]
    show va_at (g_D G) vwCl (fb 12, .inr (3, [.ref (g_sg G 9), .int (-1), .int 0, .int 0, .int 0])) H
    exact hP 12 _ rfl)
  have h_14 := lt_s h_13 (by
    show va_at (g_D G) vwCl (f 83, g_c (g_re G f) (g_x0, y, o) 83) H
    rw [g_c8 (by decide : kd 83 = 8), e83]
    show va_at (g_D G) vwCl (fb 13, .inr (3, [.ref (g_sg G 9), .int (-1), .int 0, .int 0, .int 0])) H
    exact hP 13 _ rfl)
  have h_15 := lt_s h_14 (by
    show va_at (g_D G) vwCl (f 84, g_c (g_re G f) (g_x0, y, o) 84) H
    rw [g_c8 (by decide : kd 84 = 8), e84]
    show va_at (g_D G) vwCl (fb 14, .inr (3, [.ref (g_sg G 9), .int (-1), .int 0, .int 0, .int 0])) H
    exact hP 14 _ rfl)
  have h_16 := lt_s h_15 (by
    show va_at (g_D G) vwCl (f 85, g_c (g_re G f) (g_x0, y, o) 85) H
    rw [g_c8 (by decide : kd 85 = 8), e85]
    show va_at (g_D G) vwCl (fb 15, .inr (3, [.ref (g_sg G 9), .int (-1), .int 0, .int 0, .int 0])) H
    exact hP 15 _ rfl)
  have h_17 := lt_s h_16 (by
    show va_at (g_D G) vwCl (f 86, g_c (g_re G f) (g_x0, y, o) 86) H
    rw [g_c8 (by decide : kd 86 = 8), e86]
    show va_at (g_D G) vwCl (fb 16, .inr (3, [.ref (g_sg G 9), .int (-1), .int 0, .int 0, .int 0])) H
    exact hP 16 _ rfl)
  have h_18 := lt_s h_17 (by
    show va_at (g_D G) vwCl (f 87, g_c (g_re G f) (g_x0, y, o) 87) H
    rw [g_c8 (by decide : kd 87 = 8), e87]
    show va_at (g_D G) vwCl (fb 17, .inr (3, [.ref (g_sg G 9), .int (-1), .int 0, .int 0, .int 0])) H
    exact hP 17 _ rfl)
  have h_19 := lt_s h_18 (by
    show va_at (g_D G) vwCl (f 88, g_c (g_re G f) (g_x0, y, o) 88) H
    rw [g_c8 (by decide : kd 88 = 8), e88]
    show va_at (g_D G) vwCl (fb 18, .inr (3, [.ref (g_sg G 9), .int (-1), .int 0, .int 0, .int 0])) H
    exact hP 18 _ rfl)
  have h_20 := lt_s h_19 (by
    show va_at (g_D G) vwCl (f 89, g_c (g_re G f) (g_x0, y, o) 89) H
    rw [g_c8 (by decide : kd 89 = 8), e89]
    show va_at (g_D G) vwCl (fb 19, .inr (3, [.ref (g_sg G 9), .int (-1), .int 0, .int 0, .int 0])) H
    exact hP 19 _ rfl)
  have h_21 := lt_s h_20 (by
    show va_at (g_D G) vwCl (f 90, g_c (g_re G f) (g_x0, y, o) 90) H
    rw [g_c8 (by decide : kd 90 = 8), e90]
    show va_at (g_D G) vwCl (fb 20, .inr (3, [.ref (g_sg G 9), .int (-1), .int 0, .int 0, .int 0])) H
    exact hP 20 _ rfl)
  exact h_21
