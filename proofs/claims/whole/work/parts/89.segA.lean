/-! the class world by numbers -/
def g_aGW (h0 t a1 k b1 b2 b3 b4 wp d1 d2 d3 d4 d5 hr e1 tr f1 cr g1 : Nat) (fb fv fc fw : Nat → Nat) : Nat → Nat := fun i => if i < 20 then g_lst [h0, t, a1, k, b1, b2, b3, b4, wp, d1, d2, d3, d4, d5, hr, e1, tr, f1, cr, g1] i else if i < 41 then fb (i - 20) else if i < 70 then fv (i - 41) else if i < 91 then fc (i - 70) else fw (i - 91)
theorem g_LRBe (G : GL) (f : Nat → Nat) : g_LRB G f = [(f 0, .inr (4, [.ref (f 1), .ref (f 2), .ref (f 3), .ref (f 4), .int 0, .int 0, .int 4, .int 6])), (f 1, .inl (g_cA G 5, 16, .inr (.inr (.inr (.inr (fun k => some (f (5 + k)))))))), (f 2, .inr (3, [.ref (g_sg G 9), .int (-1), .int 0, .int 0, .int 0])), (f 3, .inl (g_cA G 3, 400, .inr (.inr (.inr (.inr (fun _ => some (g_sg G 44))))))), (f 4, .inl (g_cA G 0, 400, .inl (fun _ => 0))), (f 5, .inr (3, [.ref (g_sg G 9), .int (-1), .int 0, .int 0, .int 0])), (f 6, .inr (3, [.ref (g_sg G 9), .int (-1), .int 0, .int 0, .int 0])), (f 7, .inr (3, [.ref (g_sg G 9), .int (-1), .int 0, .int 0, .int 0])), (f 8, .inr (3, [.ref (g_sg G 9), .int (-1), .int 0, .int 0, .int 0])), (f 9, .inr (3, [.ref (g_sg G 9), .int (-1), .int 0, .int 0, .int 0])), (f 10, .inr (3, [.ref (g_sg G 9), .int (-1), .int 0, .int 0, .int 0])), (f 11, .inr (3, [.ref (g_sg G 9), .int (-1), .int 0, .int 0, .int 0])), (f 12, .inr (3, [.ref (g_sg G 9), .int (-1), .int 0, .int 0, .int 0])), (f 13, .inr (3, [.ref (g_sg G 9), .int (-1), .int 0, .int 0, .int 0])), (f 14, .inr (3, [.ref (g_sg G 9), .int (-1), .int 0, .int 0, .int 0])), (f 15, .inr (3, [.ref (g_sg G 9), .int (-1), .int 0, .int 0, .int 0])), (f 16, .inr (3, [.ref (g_sg G 9), .int (-1), .int 0, .int 0, .int 0])), (f 17, .inr (3, [.ref (g_sg G 9), .int (-1), .int 0, .int 0, .int 0])), (f 18, .inr (3, [.ref (g_sg G 9), .int (-1), .int 0, .int 0, .int 0])), (f 19, .inr (3, [.ref (g_sg G 9), .int (-1), .int 0, .int 0, .int 0])), (f 20, .inr (3, [.ref (g_sg G 9), .int (-1), .int 0, .int 0, .int 0]))] := by
  simp only [g_LRB, g_LRule, List.append_assoc, List.cons_append, List.nil_append]
set_option maxRecDepth 100000 in
set_option maxHeartbeats 4000000 in
theorem g_RB20at {G : GL} {H : Heap} {f fb : Nat → Nat} {y : MS} {o : Nat → Int32} (hf : ∀ j, j < 21 → f (20 + j) = fb j) (hP : va_P (g_D G) vwCl (g_LRB G fb) H) : ∀ i, 20 ≤ i → i < 41 → va_at (g_D G) vwCl (f i, g_c (g_re G f) (g_x0, y, o) i) H := by
  have e20 : f 20 = fb 0 := hf 0 (by decide)
  have e21 : f 21 = fb 1 := hf 1 (by decide)
  have e22 : f 22 = fb 2 := hf 2 (by decide)
  have e23 : f 23 = fb 3 := hf 3 (by decide)
  have e24 : f 24 = fb 4 := hf 4 (by decide)
  have e25 : f 25 = fb 5 := hf 5 (by decide)
  have e26 : f 26 = fb 6 := hf 6 (by decide)
  have e27 : f 27 = fb 7 := hf 7 (by decide)
  have e28 : f 28 = fb 8 := hf 8 (by decide)
  have e29 : f 29 = fb 9 := hf 9 (by decide)
  have e30 : f 30 = fb 10 := hf 10 (by decide)
  have e31 : f 31 = fb 11 := hf 11 (by decide)
  have e32 : f 32 = fb 12 := hf 12 (by decide)
  have e33 : f 33 = fb 13 := hf 13 (by decide)
  have e34 : f 34 = fb 14 := hf 14 (by decide)
  have e35 : f 35 = fb 15 := hf 15 (by decide)
  have e36 : f 36 = fb 16 := hf 16 (by decide)
  have e37 : f 37 = fb 17 := hf 17 (by decide)
  have e38 : f 38 = fb 18 := hf 18 (by decide)
  have e39 : f 39 = fb 19 := hf 19 (by decide)
  have e40 : f 40 = fb 20 := hf 20 (by decide)
  rw [g_LRBe] at hP
  intro i h1 h2
  obtain ⟨j, rfl⟩ : ∃ j, i = 20 + j := ⟨i - 20, by omega⟩
  have hj : j < 21 := by omega
  clear h1 h2
  revert j
  have h_0 : ∀ j, j < 0 → va_at (g_D G) vwCl (f (20 + j), g_c (g_re G f) (g_x0, y, o) (20 + j)) H := lt_0
  have h_1 := lt_s h_0 (by
    show va_at (g_D G) vwCl (f 20, g_c (g_re G f) (g_x0, y, o) 20) H
    rw [g_c7 (by decide : kd 20 = 7), e20]
    show va_at (g_D G) vwCl (fb 0, .inr (4, [.ref (f 21), .ref (f 22), .ref (f 23), .ref (f 24), .int 0, .int 0, .int 4, .int 6])) H
    rw [e21, e22, e23, e24]
    exact hP 0 _ rfl)
  have h_2 := lt_s h_1 (by
    show va_at (g_D G) vwCl (f 21, g_c (g_re G f) (g_x0, y, o) 21) H
    rw [g_c26 (by decide : kd 21 = 26), e21]
    refine g_atqV (fun j hj => ?_) (hP 1 _ rfl)
    show some (fb (5 + j)) = some (f (21 + 4 + 1 * j))
    have h9 := hf (5 + 1 * j) (by omega)
    rw [show 21 + 4 + 1 * j = 20 + (5 + 1 * j) by omega, h9]; simp)
  have h_3 := lt_s h_2 (by
    show va_at (g_D G) vwCl (f 22, g_c (g_re G f) (g_x0, y, o) 22) H
    rw [g_c8 (by decide : kd 22 = 8), e22]
    show va_at (g_D G) vwCl (fb 2, .inr (3, [.ref (g_sg G 9), .int (-1), .int 0, .int 0, .int 0])) H
    exact hP 2 _ rfl)
  have h_4 := lt_s h_3 (by
    show va_at (g_D G) vwCl (f 23, g_c (g_re G f) (g_x0, y, o) 23) H
    rw [g_c27 (by decide : kd 23 = 27), e23]
    show va_at (g_D G) vwCl (fb 3, .inl (g_cA G 3, 400, .inr (.inr (.inr (.inr (fun _ => some (g_sg G 44))))))) H
    exact hP 3 _ rfl)
  have h_5 := lt_s h_4 (by
    show va_at (g_D G) vwCl (f 24, g_c (g_re G f) (g_x0, y, o) 24) H
    rw [g_c25 (by decide : kd 24 = 25), e24]
    show va_at (g_D G) vwCl (fb 4, .inl (g_cA G 0, 400, .inl (fun _ => 0))) H
    exact hP 4 _ rfl)
  have h_6 := lt_s h_5 (by
    show va_at (g_D G) vwCl (f 25, g_c (g_re G f) (g_x0, y, o) 25) H
    rw [g_c8 (by decide : kd 25 = 8), e25]
    show va_at (g_D G) vwCl (fb 5, .inr (3, [.ref (g_sg G 9), .int (-1), .int 0, .int 0, .int 0])) H
    exact hP 5 _ rfl)
  have h_7 := lt_s h_6 (by
    show va_at (g_D G) vwCl (f 26, g_c (g_re G f) (g_x0, y, o) 26) H
    rw [g_c8 (by decide : kd 26 = 8), e26]
    show va_at (g_D G) vwCl (fb 6, .inr (3, [.ref (g_sg G 9), .int (-1), .int 0, .int 0, .int 0])) H
    exact hP 6 _ rfl)
  have h_8 := lt_s h_7 (by
    show va_at (g_D G) vwCl (f 27, g_c (g_re G f) (g_x0, y, o) 27) H
    rw [g_c8 (by decide : kd 27 = 8), e27]
    show va_at (g_D G) vwCl (fb 7, .inr (3, [.ref (g_sg G 9), .int (-1), .int 0, .int 0, .int 0])) H
    exact hP 7 _ rfl)
  have h_9 := lt_s h_8 (by
    show va_at (g_D G) vwCl (f 28, g_c (g_re G f) (g_x0, y, o) 28) H
    rw [g_c8 (by decide : kd 28 = 8), e28]
    show va_at (g_D G) vwCl (fb 8, .inr (3, [.ref (g_sg G 9), .int (-1), .int 0, .int 0, .int 0])) H
    exact hP 8 _ rfl)
  have h_10 := lt_s h_9 (by
    show va_at (g_D G) vwCl (f 29, g_c (g_re G f) (g_x0, y, o) 29) H
    rw [g_c8 (by decide : kd 29 = 8), e29]
    show va_at (g_D G) vwCl (fb 9, .inr (3, [.ref (g_sg G 9), .int (-1), .int 0, .int 0, .int 0])) H
    exact hP 9 _ rfl)
  have h_11 := lt_s h_10 (by
    show va_at (g_D G) vwCl (f 30, g_c (g_re G f) (g_x0, y, o) 30) H
    rw [g_c8 (by decide : kd 30 = 8), e30]
    show va_at (g_D G) vwCl (fb 10, .inr (3, [.ref (g_sg G 9), .int (-1), .int 0, .int 0, .int 0])) H
    exact hP 10 _ rfl)
  have h_12 := lt_s h_11 (by
    show va_at (g_D G) vwCl (f 31, g_c (g_re G f) (g_x0, y, o) 31) H
    rw [g_c8 (by decide : kd 31 = 8), e31]
    show va_at (g_D G) vwCl (fb 11, .inr (3, [.ref (g_sg G 9), .int (-1), .int 0, .int 0, .int 0])) H
    exact hP 11 _ rfl)
  have h_13 := lt_s h_12 (by
    show va_at (g_D G) vwCl (f 32, g_c (g_re G f) (g_x0, y, o) 32) H
    rw [g_c8 (by decide : kd 32 = 8), e32]
    show va_at (g_D G) vwCl (fb 12, .inr (3, [.ref (g_sg G 9), .int (-1), .int 0, .int 0, .int 0])) H
    exact hP 12 _ rfl)
  have h_14 := lt_s h_13 (by
    show va_at (g_D G) vwCl (f 33, g_c (g_re G f) (g_x0, y, o) 33) H
    rw [g_c8 (by decide : kd 33 = 8), e33]
    show va_at (g_D G) vwCl (fb 13, .inr (3, [.ref (g_sg G 9), .int (-1), .int 0, .int 0, .int 0])) H
    exact hP 13 _ rfl)
  have h_15 := lt_s h_14 (by
    show va_at (g_D G) vwCl (f 34, g_c (g_re G f) (g_x0, y, o) 34) H
    rw [g_c8 (by decide : kd 34 = 8), e34]
    show va_at (g_D G) vwCl (fb 14, .inr (3, [.ref (g_sg G 9), .int (-1), .int 0, .int 0, .int 0])) H
    exact hP 14 _ rfl)
  have h_16 := lt_s h_15 (by
    show va_at (g_D G) vwCl (f 35, g_c (g_re G f) (g_x0, y, o) 35) H
    rw [g_c8 (by decide : kd 35 = 8), e35]
    show va_at (g_D G) vwCl (fb 15, .inr (3, [.ref (g_sg G 9), .int (-1), .int 0, .int 0, .int 0])) H
    exact hP 15 _ rfl)
  have h_17 := lt_s h_16 (by
    show va_at (g_D G) vwCl (f 36, g_c (g_re G f) (g_x0, y, o) 36) H
    rw [g_c8 (by decide : kd 36 = 8), e36]
    show va_at (g_D G) vwCl (fb 16, .inr (3, [.ref (g_sg G 9), .int (-1), .int 0, .int 0, .int 0])) H
    exact hP 16 _ rfl)
  have h_18 := lt_s h_17 (by
    show va_at (g_D G) vwCl (f 37, g_c (g_re G f) (g_x0, y, o) 37) H
    rw [g_c8 (by decide : kd 37 = 8), e37]
    show va_at (g_D G) vwCl (fb 17, .inr (3, [.ref (g_sg G 9), .int (-1), .int 0, .int 0, .int 0])) H
    exact hP 17 _ rfl)
  have h_19 := lt_s h_18 (by
    show va_at (g_D G) vwCl (f 38, g_c (g_re G f) (g_x0, y, o) 38) H
    rw [g_c8 (by decide : kd 38 = 8), e38]
    show va_at (g_D G) vwCl (fb 18, .inr (3, [.ref (g_sg G 9), .int (-1), .int 0, .int 0, .int 0])) H
    exact hP 18 _ rfl)
  have h_20 := lt_s h_19 (by
    show va_at (g_D G) vwCl (f 39, g_c (g_re G f) (g_x0, y, o) 39) H
    rw [g_c8 (by decide : kd 39 = 8), e39]
    show va_at (g_D G) vwCl (fb 19, .inr (3, [.ref (g_sg G 9), .int (-1), .int 0, .int 0, .int 0])) H
    exact hP 19 _ rfl)
  have h_21 := lt_s h_20 (by
    show va_at (g_D G) vwCl (f 40, g_c (g_re G f) (g_x0, y, o) 40) H
    rw [g_c8 (by decide : kd 40 = 8), e40]
    show va_at (g_D G) vwCl (fb 20, .inr (3, [.ref (g_sg G 9), .int (-1), .int 0, .int 0, .int 0])) H
    exact hP 20 _ rfl)
  exact h_21