def g_aGW (h0 t a1 k b1 b2 b3 b4 wp d1 d2 d3 d4 d5 hr e1 tr f1 cr g1 : Nat) (fb fv fc fw : Nat → Nat) : Nat → Nat := fun i => if i < 20 then g_lst [h0, t, a1, k, b1, b2, b3, b4, wp, d1, d2, d3, d4, d5, hr, e1, tr, f1, cr, g1] i else if i < 41 then fb (i - 20) else if i < 70 then fv (i - 41) else if i < 91 then fc (i - 70) else fw (i - 91)
theorem g_LRBe (G : GL) (f : Nat → Nat) : g_LRB G f = [(f 0, .inr (6, [.ref (f 1), .ref (f 2), .ref (f 3), .ref (f 4), .int 0, .int 0, .int 4, .int 6])), (f 1, .inl (g_cA G 5, 16, .inr (.inr (.inr (.inr (fun k => some (f (5 + k)))))))), (f 2, .inr (5, [.ref (g_sg G 9), .int (-1), .int 0, .int 0, .int 0])), (f 3, .inl (g_cA G 3, 400, .inr (.inr (.inr (.inr (fun _ => some (g_sg G 44))))))), (f 4, .inl (g_cA G 0, 400, .inl (fun _ => 0))), (f 5, .inr (5, [.ref (g_sg G 9), .int (-1), .int 0, .int 0, .int 0])), (f 6, .inr (5, [.ref (g_sg G 9), .int (-1), .int 0, .int 0, .int 0])), (f 7, .inr (5, [.ref (g_sg G 9), .int (-1), .int 0, .int 0, .int 0])), (f 8, .inr (5, [.ref (g_sg G 9), .int (-1), .int 0, .int 0, .int 0])), (f 9, .inr (5, [.ref (g_sg G 9), .int (-1), .int 0, .int 0, .int 0])), (f 10, .inr (5, [.ref (g_sg G 9), .int (-1), .int 0, .int 0, .int 0])), (f 11, .inr (5, [.ref (g_sg G 9), .int (-1), .int 0, .int 0, .int 0])), (f 12, .inr (5, [.ref (g_sg G 9), .int (-1), .int 0, .int 0, .int 0])), (f 13, .inr (5, [.ref (g_sg G 9), .int (-1), .int 0, .int 0, .int 0])), (f 14, .inr (5, [.ref (g_sg G 9), .int (-1), .int 0, .int 0, .int 0])), (f 15, .inr (5, [.ref (g_sg G 9), .int (-1), .int 0, .int 0, .int 0])), (f 16, .inr (5, [.ref (g_sg G 9), .int (-1), .int 0, .int 0, .int 0])), (f 17, .inr (5, [.ref (g_sg G 9), .int (-1), .int 0, .int 0, .int 0])), (f 18, .inr (5, [.ref (g_sg G 9), .int (-1), .int 0, .int 0, .int 0])), (f 19, .inr (5, [.ref (g_sg G 9), .int (-1), .int 0, .int 0, .int 0])), (f 20, .inr (5, [.ref (g_sg G 9), .int (-1), .int 0, .int 0, .int 0]))] := by
  simp only [g_LRB, g_LRule, List.append_assoc, List.cons_append, List.nil_append]
theorem g_LVoce (G : GL) (f : Nat → Nat) : g_LVoc G f = [(f 0, .inr (9, [.ref (f 1), .ref (f 2), .int 0, .int 0, .int 0])), (f 1, .inl (g_cA G 4, 8, .inr (.inr (.inr (.inr (fun k => some (f (5 + 3 * k)))))))), (f 2, .inr (11, [.ref (f 3), .int 0, .int 999])), (f 3, .inr (4, [.ref (f 4), .int 0])), (f 4, .inl (g_cA G 0, 24, .inl (fun _ => 0))), (f 5, .inr (11, [.ref (f 6), .int 0, .int 999])), (f 6, .inr (4, [.ref (f 7), .int 0])), (f 7, .inl (g_cA G 0, 24, .inl (fun _ => 0))), (f 8, .inr (11, [.ref (f 9), .int 0, .int 999])), (f 9, .inr (4, [.ref (f 10), .int 0])), (f 10, .inl (g_cA G 0, 24, .inl (fun _ => 0))), (f 11, .inr (11, [.ref (f 12), .int 0, .int 999])), (f 12, .inr (4, [.ref (f 13), .int 0])), (f 13, .inl (g_cA G 0, 24, .inl (fun _ => 0))), (f 14, .inr (11, [.ref (f 15), .int 0, .int 999])), (f 15, .inr (4, [.ref (f 16), .int 0])), (f 16, .inl (g_cA G 0, 24, .inl (fun _ => 0))), (f 17, .inr (11, [.ref (f 18), .int 0, .int 999])), (f 18, .inr (4, [.ref (f 19), .int 0])), (f 19, .inl (g_cA G 0, 24, .inl (fun _ => 0))), (f 20, .inr (11, [.ref (f 21), .int 0, .int 999])), (f 21, .inr (4, [.ref (f 22), .int 0])), (f 22, .inl (g_cA G 0, 24, .inl (fun _ => 0))), (f 23, .inr (11, [.ref (f 24), .int 0, .int 999])), (f 24, .inr (4, [.ref (f 25), .int 0])), (f 25, .inl (g_cA G 0, 24, .inl (fun _ => 0))), (f 26, .inr (11, [.ref (f 27), .int 0, .int 999])), (f 27, .inr (4, [.ref (f 28), .int 0])), (f 28, .inl (g_cA G 0, 24, .inl (fun _ => 0)))] := by
  simp only [g_LVoc, g_LWord, g_LRow, List.append_assoc, List.cons_append, List.nil_append]
theorem g_Pl {D : va_G} {cl : List vw_C} {a b : va_W} {H : Heap} (h : va_P D cl (a ++ b) H) : va_P D cl a H := fun k q hk => h k q (by rw [List.getElem?_append_left (List.getElem?_eq_some_iff.mp hk).1]; exact hk)
theorem g_Pr {D : va_G} {cl : List vw_C} {a b : va_W} {H : Heap} (h : va_P D cl (a ++ b) H) : va_P D cl b H := fun k q hk => h (a.length + k) q (by rw [List.getElem?_append_right (by omega)]; simpa using hk)
set_option maxRecDepth 100000 in
set_option maxHeartbeats 4000000 in
theorem g_RB20at {G : GL} {H : Heap} {f fb : Nat → Nat} {y : MS} {o : Nat → Int32} (hf : ∀ j, j < 21 → f (20 + j) = fb j) (hP : va_P (g_D G) vwCl (g_LRB G fb) H) : ∀ i, 20 ≤ i → i < 41 → va_at (g_D G) vwCl (f i, g_c (g_re G f) (g_x0, y, o) i) H := by
  have e20 : f 20 = fb 0 := hf 0 (by decide)
  have e21 : f 21 = fb 1 := hf 1 (by decide)
  have e22 : f 22 = fb 2 := hf 2 (by decide)
  have e23 : f 23 = fb 3 := hf 3 (by decide)
  have e24 : f 24 = fb 4 := hf 4 (by decide)
  have e25 : f 25 = fb 5 := hf 5 (by decide)
  have e26 : f 26 = fb 6 := hf 6 (by decide)
  have e27 : f 27 = fb 7 := hf 7 (by decide)
  have e28 : f 28 = fb 8 := hf 8 (by decide)
  have e29 : f 29 = fb 9 := hf 9 (by decide)
  have e30 : f 30 = fb 10 := hf 10 (by decide)
  have e31 : f 31 = fb 11 := hf 11 (by decide)
  have e32 : f 32 = fb 12 := hf 12 (by decide)
  have e33 : f 33 = fb 13 := hf 13 (by decide)
  have e34 : f 34 = fb 14 := hf 14 (by decide)
  have e35 : f 35 = fb 15 := hf 15 (by decide)
  have e36 : f 36 = fb 16 := hf 16 (by decide)
  have e37 : f 37 = fb 17 := hf 17 (by decide)
  have e38 : f 38 = fb 18 := hf 18 (by decide)
  have e39 : f 39 = fb 19 := hf 19 (by decide)
  have e40 : f 40 = fb 20 := hf 20 (by decide)
  rw [g_LRBe] at hP
  intro i h1 h2
  obtain ⟨j, rfl⟩ : ∃ j, i = 20 + j := ⟨i - 20, by omega⟩
  have hj : j < 21 := by omega
  clear h1 h2
  revert j
  have h_0 : ∀ j, j < 0 → va_at (g_D G) vwCl (f (20 + j), g_c (g_re G f) (g_x0, y, o) (20 + j)) H := lt_0
  have h_1 := lt_s h_0 (by
    show va_at (g_D G) vwCl (f 20, g_c (g_re G f) (g_x0, y, o) 20) H
    rw [g_c7 (by decide : kd 20 = 7), e20]
    show va_at (g_D G) vwCl (fb 0, .inr (6, [.ref (g_ad (g_re G f) 21), .ref (g_ad (g_re G f) 22), .ref (g_ad (g_re G f) 23), .ref (g_ad (g_re G f) 24), .int 0, .int 0, .int 4, .int 6])) H
    rw [g_adre (show (21 : Nat) < 200 by decide), e21, g_adre (show (22 : Nat) < 200 by decide), e22, g_adre (show (23 : Nat) < 200 by decide), e23, g_adre (show (24 : Nat) < 200 by decide), e24]
    exact hP 0 _ rfl)
  have h_2 := lt_s h_1 (by
    show va_at (g_D G) vwCl (f 21, g_c (g_re G f) (g_x0, y, o) 21) H
    rw [g_c26 (by decide : kd 21 = 26), e21]
    refine g_atqV (fun j hj => ?_) (hP 1 _ rfl)
    show some (fb (5 + j)) = some (g_ad (g_re G f) (21 + 4 + 1 * j))
    rw [g_adre (by omega)]
    have h9 := hf (5 + 1 * j) (by omega)
    rw [show 21 + 4 + 1 * j = 20 + (5 + 1 * j) by omega, h9]; simp)
  have h_3 := lt_s h_2 (by
    show va_at (g_D G) vwCl (f 22, g_c (g_re G f) (g_x0, y, o) 22) H
    rw [g_c8 (by decide : kd 22 = 8), e22]
    show va_at (g_D G) vwCl (fb 2, .inr (5, [.ref (g_sg G 9), .int (-1), .int 0, .int 0, .int 0])) H
    exact hP 2 _ rfl)
  have h_4 := lt_s h_3 (by
    show va_at (g_D G) vwCl (f 23, g_c (g_re G f) (g_x0, y, o) 23) H
    rw [g_c27 (by decide : kd 23 = 27), e23]
    show va_at (g_D G) vwCl (fb 3, .inl (g_cA G 3, 400, .inr (.inr (.inr (.inr (fun _ => some (g_sg G 44))))))) H
    exact hP 3 _ rfl)
  have h_5 := lt_s h_4 (by
    show va_at (g_D G) vwCl (f 24, g_c (g_re G f) (g_x0, y, o) 24) H
    rw [g_c25 (by decide : kd 24 = 25), e24]
    show va_at (g_D G) vwCl (fb 4, .inl (g_cA G 0, 400, .inl (fun _ => 0))) H
    exact hP 4 _ rfl)
  have h_6 := lt_s h_5 (by
    show va_at (g_D G) vwCl (f 25, g_c (g_re G f) (g_x0, y, o) 25) H
    rw [g_c8 (by decide : kd 25 = 8), e25]
    show va_at (g_D G) vwCl (fb 5, .inr (5, [.ref (g_sg G 9), .int (-1), .int 0, .int 0, .int 0])) H
    exact hP 5 _ rfl)
  have h_7 := lt_s h_6 (by
    show va_at (g_D G) vwCl (f 26, g_c (g_re G f) (g_x0, y, o) 26) H
    rw [g_c8 (by decide : kd 26 = 8), e26]
    show va_at (g_D G) vwCl (fb 6, .inr (5, [.ref (g_sg G 9), .int (-1), .int 0, .int 0, .int 0])) H
    exact hP 6 _ rfl)
  have h_8 := lt_s h_7 (by
    show va_at (g_D G) vwCl (f 27, g_c (g_re G f) (g_x0, y, o) 27) H
    rw [g_c8 (by decide : kd 27 = 8), e27]
    show va_at (g_D G) vwCl (fb 7, .inr (5, [.ref (g_sg G 9), .int (-1), .int 0, .int 0, .int 0])) H
    exact hP 7 _ rfl)
  have h_9 := lt_s h_8 (by
    show va_at (g_D G) vwCl (f 28, g_c (g_re G f) (g_x0, y, o) 28) H
    rw [g_c8 (by decide : kd 28 = 8), e28]
    show va_at (g_D G) vwCl (fb 8, .inr (5, [.ref (g_sg G 9), .int (-1), .int 0, .int 0, .int 0])) H
    exact hP 8 _ rfl)
  have h_10 := lt_s h_9 (by
    show va_at (g_D G) vwCl (f 29, g_c (g_re G f) (g_x0, y, o) 29) H
    rw [g_c8 (by decide : kd 29 = 8), e29]
    show va_at (g_D G) vwCl (fb 9, .inr (5, [.ref (g_sg G 9), .int (-1), .int 0, .int 0, .int 0])) H
    exact hP 9 _ rfl)
  have h_11 := lt_s h_10 (by
    show va_at (g_D G) vwCl (f 30, g_c (g_re G f) (g_x0, y, o) 30) H
    rw [g_c8 (by decide : kd 30 = 8), e30]
    show va_at (g_D G) vwCl (fb 10, .inr (5, [.ref (g_sg G 9), .int (-1), .int 0, .int 0, .int 0])) H
    exact hP 10 _ rfl)
  have h_12 := lt_s h_11 (by
    show va_at (g_D G) vwCl (f 31, g_c (g_re G f) (g_x0, y, o) 31) H
    rw [g_c8 (by decide : kd 31 = 8), e31]
    show va_at (g_D G) vwCl (fb 11, .inr (5, [.ref (g_sg G 9), .int (-1), .int 0, .int 0, .int 0])) H
    exact hP 11 _ rfl)
  have h_13 := lt_s h_12 (by
    show va_at (g_D G) vwCl (f 32, g_c (g_re G f) (g_x0, y, o) 32) H
    rw [g_c8 (by decide : kd 32 = 8), e32]
    show va_at (g_D G) vwCl (fb 12, .inr (5, [.ref (g_sg G 9), .int (-1), .int 0, .int 0, .int 0])) H
    exact hP 12 _ rfl)
  have h_14 := lt_s h_13 (by
    show va_at (g_D G) vwCl (f 33, g_c (g_re G f) (g_x0, y, o) 33) H
    rw [g_c8 (by decide : kd 33 = 8), e33]
    show va_at (g_D G) vwCl (fb 13, .inr (5, [.ref (g_sg G 9), .int (-1), .int 0, .int 0, .int 0])) H
    exact hP 13 _ rfl)
  have h_15 := lt_s h_14 (by
    show va_at (g_D G) vwCl (f 34, g_c (g_re G f) (g_x0, y, o) 34) H
    rw [g_c8 (by decide : kd 34 = 8), e34]
    show va_at (g_D G) vwCl (fb 14, .inr (5, [.ref (g_sg G 9), .int (-1), .int 0, .int 0, .int 0])) H
    exact hP 14 _ rfl)
  have h_16 := lt_s h_15 (by
    show va_at (g_D G) vwCl (f 35, g_c (g_re G f) (g_x0, y, o) 35) H
    rw [g_c8 (by decide : kd 35 = 8), e35]
    show va_at (g_D G) vwCl (fb 15, .inr (5, [.ref (g_sg G 9), .int (-1), .int 0, .int 0, .int 0])) H
    exact hP 15 _ rfl)
  have h_17 := lt_s h_16 (by
    show va_at (g_D G) vwCl (f 36, g_c (g_re G f) (g_x0, y, o) 36) H
    rw [g_c8 (by decide : kd 36 = 8), e36]
    show va_at (g_D G) vwCl (fb 16, .inr (5, [.ref (g_sg G 9), .int (-1), .int 0, .int 0, .int 0])) H
    exact hP 16 _ rfl)
  have h_18 := lt_s h_17 (by
    show va_at (g_D G) vwCl (f 37, g_c (g_re G f) (g_x0, y, o) 37) H
    rw [g_c8 (by decide : kd 37 = 8), e37]
    show va_at (g_D G) vwCl (fb 17, .inr (5, [.ref (g_sg G 9), .int (-1), .int 0, .int 0, .int 0])) H
    exact hP 17 _ rfl)
  have h_19 := lt_s h_18 (by
    show va_at (g_D G) vwCl (f 38, g_c (g_re G f) (g_x0, y, o) 38) H
    rw [g_c8 (by decide : kd 38 = 8), e38]
    show va_at (g_D G) vwCl (fb 18, .inr (5, [.ref (g_sg G 9), .int (-1), .int 0, .int 0, .int 0])) H
    exact hP 18 _ rfl)
  have h_20 := lt_s h_19 (by
    show va_at (g_D G) vwCl (f 39, g_c (g_re G f) (g_x0, y, o) 39) H
    rw [g_c8 (by decide : kd 39 = 8), e39]
    show va_at (g_D G) vwCl (fb 19, .inr (5, [.ref (g_sg G 9), .int (-1), .int 0, .int 0, .int 0])) H
    exact hP 19 _ rfl)
  have h_21 := lt_s h_20 (by
    show va_at (g_D G) vwCl (f 40, g_c (g_re G f) (g_x0, y, o) 40) H
    rw [g_c8 (by decide : kd 40 = 8), e40]
    show va_at (g_D G) vwCl (fb 20, .inr (5, [.ref (g_sg G 9), .int (-1), .int 0, .int 0, .int 0])) H
    exact hP 20 _ rfl)
  exact h_21
set_option maxRecDepth 100000 in
set_option maxHeartbeats 4000000 in
theorem g_RB70at {G : GL} {H : Heap} {f fb : Nat → Nat} {y : MS} {o : Nat → Int32} (hf : ∀ j, j < 21 → f (70 + j) = fb j) (hP : va_P (g_D G) vwCl (g_LRB G fb) H) : ∀ i, 70 ≤ i → i < 91 → va_at (g_D G) vwCl (f i, g_c (g_re G f) (g_x0, y, o) i) H := by
  have e70 : f 70 = fb 0 := hf 0 (by decide)
  have e71 : f 71 = fb 1 := hf 1 (by decide)
  have e72 : f 72 = fb 2 := hf 2 (by decide)
  have e73 : f 73 = fb 3 := hf 3 (by decide)
  have e74 : f 74 = fb 4 := hf 4 (by decide)
  have e75 : f 75 = fb 5 := hf 5 (by decide)
  have e76 : f 76 = fb 6 := hf 6 (by decide)
  have e77 : f 77 = fb 7 := hf 7 (by decide)
  have e78 : f 78 = fb 8 := hf 8 (by decide)
  have e79 : f 79 = fb 9 := hf 9 (by decide)
  have e80 : f 80 = fb 10 := hf 10 (by decide)
  have e81 : f 81 = fb 11 := hf 11 (by decide)
  have e82 : f 82 = fb 12 := hf 12 (by decide)
  have e83 : f 83 = fb 13 := hf 13 (by decide)
  have e84 : f 84 = fb 14 := hf 14 (by decide)
  have e85 : f 85 = fb 15 := hf 15 (by decide)
  have e86 : f 86 = fb 16 := hf 16 (by decide)
  have e87 : f 87 = fb 17 := hf 17 (by decide)
  have e88 : f 88 = fb 18 := hf 18 (by decide)
  have e89 : f 89 = fb 19 := hf 19 (by decide)
  have e90 : f 90 = fb 20 := hf 20 (by decide)
  rw [g_LRBe] at hP
  intro i h1 h2
  obtain ⟨j, rfl⟩ : ∃ j, i = 70 + j := ⟨i - 70, by omega⟩
  have hj : j < 21 := by omega
  clear h1 h2
  revert j
  have h_0 : ∀ j, j < 0 → va_at (g_D G) vwCl (f (70 + j), g_c (g_re G f) (g_x0, y, o) (70 + j)) H := lt_0
  have h_1 := lt_s h_0 (by
    show va_at (g_D G) vwCl (f 70, g_c (g_re G f) (g_x0, y, o) 70) H
    rw [g_c7 (by decide : kd 70 = 7), e70]
    show va_at (g_D G) vwCl (fb 0, .inr (6, [.ref (g_ad (g_re G f) 71), .ref (g_ad (g_re G f) 72), .ref (g_ad (g_re G f) 73), .ref (g_ad (g_re G f) 74), .int 0, .int 0, .int 4, .int 6])) H
    rw [g_adre (show (71 : Nat) < 200 by decide), e71, g_adre (show (72 : Nat) < 200 by decide), e72, g_adre (show (73 : Nat) < 200 by decide), e73, g_adre (show (74 : Nat) < 200 by decide), e74]
    exact hP 0 _ rfl)
  have h_2 := lt_s h_1 (by
    show va_at (g_D G) vwCl (f 71, g_c (g_re G f) (g_x0, y, o) 71) H
    rw [g_c26 (by decide : kd 71 = 26), e71]
    refine g_atqV (fun j hj => ?_) (hP 1 _ rfl)
    show some (fb (5 + j)) = some (g_ad (g_re G f) (71 + 4 + 1 * j))
    rw [g_adre (by omega)]
    have h9 := hf (5 + 1 * j) (by omega)
    rw [show 71 + 4 + 1 * j = 70 + (5 + 1 * j) by omega, h9]; simp)
  have h_3 := lt_s h_2 (by
    show va_at (g_D G) vwCl (f 72, g_c (g_re G f) (g_x0, y, o) 72) H
    rw [g_c8 (by decide : kd 72 = 8), e72]
    show va_at (g_D G) vwCl (fb 2, .inr (5, [.ref (g_sg G 9), .int (-1), .int 0, .int 0, .int 0])) H
    exact hP 2 _ rfl)
  have h_4 := lt_s h_3 (by
    show va_at (g_D G) vwCl (f 73, g_c (g_re G f) (g_x0, y, o) 73) H
    rw [g_c27 (by decide : kd 73 = 27), e73]
    show va_at (g_D G) vwCl (fb 3, .inl (g_cA G 3, 400, .inr (.inr (.inr (.inr (fun _ => some (g_sg G 44))))))) H
    exact hP 3 _ rfl)
  have h_5 := lt_s h_4 (by
    show va_at (g_D G) vwCl (f 74, g_c (g_re G f) (g_x0, y, o) 74) H
    rw [g_c25 (by decide : kd 74 = 25), e74]
    show va_at (g_D G) vwCl (fb 4, .inl (g_cA G 0, 400, .inl (fun _ => 0))) H
    exact hP 4 _ rfl)
  have h_6 := lt_s h_5 (by
    show va_at (g_D G) vwCl (f 75, g_c (g_re G f) (g_x0, y, o) 75) H
    rw [g_c8 (by decide : kd 75 = 8), e75]
    show va_at (g_D G) vwCl (fb 5, .inr (5, [.ref (g_sg G 9), .int (-1), .int 0, .int 0, .int 0])) H
    exact hP 5 _ rfl)
  have h_7 := lt_s h_6 (by
    show va_at (g_D G) vwCl (f 76, g_c (g_re G f) (g_x0, y, o) 76) H
    rw [g_c8 (by decide : kd 76 = 8), e76]
    show va_at (g_D G) vwCl (fb 6, .inr (5, [.ref (g_sg G 9), .int (-1), .int 0, .int 0, .int 0])) H
    exact hP 6 _ rfl)
  have h_8 := lt_s h_7 (by
    show va_at (g_D G) vwCl (f 77, g_c (g_re G f) (g_x0, y, o) 77) H
    rw [g_c8 (by decide : kd 77 = 8), e77]
    show va_at (g_D G) vwCl (fb 7, .inr (5, [.ref (g_sg G 9), .int (-1), .int 0, .int 0, .int 0])) H
    exact hP 7 _ rfl)
  have h_9 := lt_s h_8 (by
    show va_at (g_D G) vwCl (f 78, g_c (g_re G f) (g_x0, y, o) 78) H
    rw [g_c8 (by decide : kd 78 = 8), e78]
    show va_at (g_D G) vwCl (fb 8, .inr (5, [.ref (g_sg G 9), .int (-1), .int 0, .int 0, .int 0])) H
    exact hP 8 _ rfl)
  have h_10 := lt_s h_9 (by
    show va_at (g_D G) vwCl (f 79, g_c (g_re G f) (g_x0, y, o) 79) H
    rw [g_c8 (by decide : kd 79 = 8), e79]
    show va_at (g_D G) vwCl (fb 9, .inr (5, [.ref (g_sg G 9), .int (-1), .int 0, .int 0, .int 0])) H
    exact hP 9 _ rfl)
  have h_11 := lt_s h_10 (by
    show va_at (g_D G) vwCl (f 80, g_c (g_re G f) (g_x0, y, o) 80) H
    rw [g_c8 (by decide : kd 80 = 8), e80]
    show va_at (g_D G) vwCl (fb 10, .inr (5, [.ref (g_sg G 9), .int (-1), .int 0, .int 0, .int 0])) H
    exact hP 10 _ rfl)
  have h_12 := lt_s h_11 (by
    show va_at (g_D G) vwCl (f 81, g_c (g_re G f) (g_x0, y, o) 81) H
    rw [g_c8 (by decide : kd 81 = 8), e81]
    show va_at (g_D G) vwCl (fb 11, .inr (5, [.ref (g_sg G 9), .int (-1), .int 0, .int 0, .int 0])) H
    exact hP 11 _ rfl)
  have h_13 := lt_s h_12 (by
    show va_at (g_D G) vwCl (f 82, g_c (g_re G f) (g_x0, y, o) 82) H
    rw [g_c8 (by decide : kd 82 = 8), e82]
    show va_at (g_D G) vwCl (fb 12, .inr (5, [.ref (g_sg G 9), .int (-1), .int 0, .int 0, .int 0])) H
    exact hP 12 _ rfl)
  have h_14 := lt_s h_13 (by
    show va_at (g_D G) vwCl (f 83, g_c (g_re G f) (g_x0, y, o) 83) H
    rw [g_c8 (by decide : kd 83 = 8), e83]
    show va_at (g_D G) vwCl (fb 13, .inr (5, [.ref (g_sg G 9), .int (-1), .int 0, .int 0, .int 0])) H
    exact hP 13 _ rfl)
  have h_15 := lt_s h_14 (by
    show va_at (g_D G) vwCl (f 84, g_c (g_re G f) (g_x0, y, o) 84) H
    rw [g_c8 (by decide : kd 84 = 8), e84]
    show va_at (g_D G) vwCl (fb 14, .inr (5, [.ref (g_sg G 9), .int (-1), .int 0, .int 0, .int 0])) H
    exact hP 14 _ rfl)
  have h_16 := lt_s h_15 (by
    show va_at (g_D G) vwCl (f 85, g_c (g_re G f) (g_x0, y, o) 85) H
    rw [g_c8 (by decide : kd 85 = 8), e85]
    show va_at (g_D G) vwCl (fb 15, .inr (5, [.ref (g_sg G 9), .int (-1), .int 0, .int 0, .int 0])) H
    exact hP 15 _ rfl)
  have h_17 := lt_s h_16 (by
    show va_at (g_D G) vwCl (f 86, g_c (g_re G f) (g_x0, y, o) 86) H
    rw [g_c8 (by decide : kd 86 = 8), e86]
    show va_at (g_D G) vwCl (fb 16, .inr (5, [.ref (g_sg G 9), .int (-1), .int 0, .int 0, .int 0])) H
    exact hP 16 _ rfl)
  have h_18 := lt_s h_17 (by
    show va_at (g_D G) vwCl (f 87, g_c (g_re G f) (g_x0, y, o) 87) H
    rw [g_c8 (by decide : kd 87 = 8), e87]
    show va_at (g_D G) vwCl (fb 17, .inr (5, [.ref (g_sg G 9), .int (-1), .int 0, .int 0, .int 0])) H
    exact hP 17 _ rfl)
  have h_19 := lt_s h_18 (by
    show va_at (g_D G) vwCl (f 88, g_c (g_re G f) (g_x0, y, o) 88) H
    rw [g_c8 (by decide : kd 88 = 8), e88]
    show va_at (g_D G) vwCl (fb 18, .inr (5, [.ref (g_sg G 9), .int (-1), .int 0, .int 0, .int 0])) H
    exact hP 18 _ rfl)
  have h_20 := lt_s h_19 (by
    show va_at (g_D G) vwCl (f 89, g_c (g_re G f) (g_x0, y, o) 89) H
    rw [g_c8 (by decide : kd 89 = 8), e89]
    show va_at (g_D G) vwCl (fb 19, .inr (5, [.ref (g_sg G 9), .int (-1), .int 0, .int 0, .int 0])) H
    exact hP 19 _ rfl)
  have h_21 := lt_s h_20 (by
    show va_at (g_D G) vwCl (f 90, g_c (g_re G f) (g_x0, y, o) 90) H
    rw [g_c8 (by decide : kd 90 = 8), e90]
    show va_at (g_D G) vwCl (fb 20, .inr (5, [.ref (g_sg G 9), .int (-1), .int 0, .int 0, .int 0])) H
    exact hP 20 _ rfl)
  exact h_21
set_option maxRecDepth 100000 in
set_option maxHeartbeats 4000000 in
theorem g_Voc41at {G : GL} {H : Heap} {f fv : Nat → Nat} {y : MS} {o : Nat → Int32} (hf : ∀ j, j < 29 → f (41 + j) = fv j) (hP : va_P (g_D G) vwCl (g_LVoc G fv) H) : ∀ i, 41 ≤ i → i < 70 → va_at (g_D G) vwCl (f i, g_c (g_re G f) (g_x0, y, o) i) H := by
  have e41 : f 41 = fv 0 := hf 0 (by decide)
  have e42 : f 42 = fv 1 := hf 1 (by decide)
  have e43 : f 43 = fv 2 := hf 2 (by decide)
  have e44 : f 44 = fv 3 := hf 3 (by decide)
  have e45 : f 45 = fv 4 := hf 4 (by decide)
  have e46 : f 46 = fv 5 := hf 5 (by decide)
  have e47 : f 47 = fv 6 := hf 6 (by decide)
  have e48 : f 48 = fv 7 := hf 7 (by decide)
  have e49 : f 49 = fv 8 := hf 8 (by decide)
  have e50 : f 50 = fv 9 := hf 9 (by decide)
  have e51 : f 51 = fv 10 := hf 10 (by decide)
  have e52 : f 52 = fv 11 := hf 11 (by decide)
  have e53 : f 53 = fv 12 := hf 12 (by decide)
  have e54 : f 54 = fv 13 := hf 13 (by decide)
  have e55 : f 55 = fv 14 := hf 14 (by decide)
  have e56 : f 56 = fv 15 := hf 15 (by decide)
  have e57 : f 57 = fv 16 := hf 16 (by decide)
  have e58 : f 58 = fv 17 := hf 17 (by decide)
  have e59 : f 59 = fv 18 := hf 18 (by decide)
  have e60 : f 60 = fv 19 := hf 19 (by decide)
  have e61 : f 61 = fv 20 := hf 20 (by decide)
  have e62 : f 62 = fv 21 := hf 21 (by decide)
  have e63 : f 63 = fv 22 := hf 22 (by decide)
  have e64 : f 64 = fv 23 := hf 23 (by decide)
  have e65 : f 65 = fv 24 := hf 24 (by decide)
  have e66 : f 66 = fv 25 := hf 25 (by decide)
  have e67 : f 67 = fv 26 := hf 26 (by decide)
  have e68 : f 68 = fv 27 := hf 27 (by decide)
  have e69 : f 69 = fv 28 := hf 28 (by decide)
  rw [g_LVoce] at hP
  intro i h1 h2
  obtain ⟨j, rfl⟩ : ∃ j, i = 41 + j := ⟨i - 41, by omega⟩
  have hj : j < 29 := by omega
  clear h1 h2
  revert j
  have h_0 : ∀ j, j < 0 → va_at (g_D G) vwCl (f (41 + j), g_c (g_re G f) (g_x0, y, o) (41 + j)) H := lt_0
  have h_1 := lt_s h_0 (by
    show va_at (g_D G) vwCl (f 41, g_c (g_re G f) (g_x0, y, o) 41) H
    rw [g_c9 (by decide : kd 41 = 9), e41]
    show va_at (g_D G) vwCl (fv 0, .inr (9, [.ref (g_ad (g_re G f) 42), .ref (g_ad (g_re G f) 43), .int 0, .int 0, .int 0])) H
    rw [g_adre (show (42 : Nat) < 200 by decide), e42, g_adre (show (43 : Nat) < 200 by decide), e43]
    exact hP 0 _ rfl)
  have h_2 := lt_s h_1 (by
    show va_at (g_D G) vwCl (f 42, g_c (g_re G f) (g_x0, y, o) 42) H
    rw [g_c28 (by decide : kd 42 = 28), e42]
    refine g_atqV (fun j hj => ?_) (hP 1 _ rfl)
    show some (fv (5 + 3 * j)) = some (g_ad (g_re G f) (42 + 4 + 3 * j))
    rw [g_adre (by omega)]
    have h9 := hf (5 + 3 * j) (by omega)
    rw [show 42 + 4 + 3 * j = 41 + (5 + 3 * j) by omega, h9])
  have h_3 := lt_s h_2 (by
    show va_at (g_D G) vwCl (f 43, g_c (g_re G f) (g_x0, y, o) 43) H
    rw [g_c10 (by decide : kd 43 = 10), e43]
    show va_at (g_D G) vwCl (fv 2, .inr (11, [.ref (g_ad (g_re G f) 44), .int 0, .int 999])) H
    rw [g_adre (show (44 : Nat) < 200 by decide), e44]
    exact hP 2 _ rfl)
  have h_4 := lt_s h_3 (by
    show va_at (g_D G) vwCl (f 44, g_c (g_re G f) (g_x0, y, o) 44) H
    rw [g_c5 (by decide : kd 44 = 5), e44]
    show va_at (g_D G) vwCl (fv 3, .inr (4, [.ref (g_ad (g_re G f) 45), .int 0])) H
    rw [g_adre (show (45 : Nat) < 200 by decide), e45]
    exact hP 3 _ rfl)
  have h_5 := lt_s h_4 (by
    show va_at (g_D G) vwCl (f 45, g_c (g_re G f) (g_x0, y, o) 45) H
    rw [g_c24 (by decide : kd 45 = 24), e45]
    show va_at (g_D G) vwCl (fv 4, .inl (g_cA G 0, 24, .inl (fun _ => 0))) H
    exact hP 4 _ rfl)
  have h_6 := lt_s h_5 (by
    show va_at (g_D G) vwCl (f 46, g_c (g_re G f) (g_x0, y, o) 46) H
    rw [g_c10 (by decide : kd 46 = 10), e46]
    show va_at (g_D G) vwCl (fv 5, .inr (11, [.ref (g_ad (g_re G f) 47), .int 0, .int 999])) H
    rw [g_adre (show (47 : Nat) < 200 by decide), e47]
    exact hP 5 _ rfl)
  have h_7 := lt_s h_6 (by
    show va_at (g_D G) vwCl (f 47, g_c (g_re G f) (g_x0, y, o) 47) H
    rw [g_c5 (by decide : kd 47 = 5), e47]
    show va_at (g_D G) vwCl (fv 6, .inr (4, [.ref (g_ad (g_re G f) 48), .int 0])) H
    rw [g_adre (show (48 : Nat) < 200 by decide), e48]
    exact hP 6 _ rfl)
  have h_8 := lt_s h_7 (by
    show va_at (g_D G) vwCl (f 48, g_c (g_re G f) (g_x0, y, o) 48) H
    rw [g_c24 (by decide : kd 48 = 24), e48]
    show va_at (g_D G) vwCl (fv 7, .inl (g_cA G 0, 24, .inl (fun _ => 0))) H
    exact hP 7 _ rfl)
  have h_9 := lt_s h_8 (by
    show va_at (g_D G) vwCl (f 49, g_c (g_re G f) (g_x0, y, o) 49) H
    rw [g_c10 (by decide : kd 49 = 10), e49]
    show va_at (g_D G) vwCl (fv 8, .inr (11, [.ref (g_ad (g_re G f) 50), .int 0, .int 999])) H
    rw [g_adre (show (50 : Nat) < 200 by decide), e50]
    exact hP 8 _ rfl)
  have h_10 := lt_s h_9 (by
    show va_at (g_D G) vwCl (f 50, g_c (g_re G f) (g_x0, y, o) 50) H
    rw [g_c5 (by decide : kd 50 = 5), e50]
    show va_at (g_D G) vwCl (fv 9, .inr (4, [.ref (g_ad (g_re G f) 51), .int 0])) H
    rw [g_adre (show (51 : Nat) < 200 by decide), e51]
    exact hP 9 _ rfl)
  have h_11 := lt_s h_10 (by
    show va_at (g_D G) vwCl (f 51, g_c (g_re G f) (g_x0, y, o) 51) H
    rw [g_c24 (by decide : kd 51 = 24), e51]
    show va_at (g_D G) vwCl (fv 10, .inl (g_cA G 0, 24, .inl (fun _ => 0))) H
    exact hP 10 _ rfl)
  have h_12 := lt_s h_11 (by
    show va_at (g_D G) vwCl (f 52, g_c (g_re G f) (g_x0, y, o) 52) H
    rw [g_c10 (by decide : kd 52 = 10), e52]
    show va_at (g_D G) vwCl (fv 11, .inr (11, [.ref (g_ad (g_re G f) 53), .int 0, .int 999])) H
    rw [g_adre (show (53 : Nat) < 200 by decide), e53]
    exact hP 11 _ rfl)
  have h_13 := lt_s h_12 (by
    show va_at (g_D G) vwCl (f 53, g_c (g_re G f) (g_x0, y, o) 53) H
    rw [g_c5 (by decide : kd 53 = 5), e53]
    show va_at (g_D G) vwCl (fv 12, .inr (4, [.ref (g_ad (g_re G f) 54), .int 0])) H
    rw [g_adre (show (54 : Nat) < 200 by decide), e54]
    exact hP 12 _ rfl)
  have h_14 := lt_s h_13 (by
    show va_at (g_D G) vwCl (f 54, g_c (g_re G f) (g_x0, y, o) 54) H
    rw [g_c24 (by decide : kd 54 = 24), e54]
    show va_at (g_D G) vwCl (fv 13, .inl (g_cA G 0, 24, .inl (fun _ => 0))) H
    exact hP 13 _ rfl)
  have h_15 := lt_s h_14 (by
    show va_at (g_D G) vwCl (f 55, g_c (g_re G f) (g_x0, y, o) 55) H
    rw [g_c10 (by decide : kd 55 = 10), e55]
    show va_at (g_D G) vwCl (fv 14, .inr (11, [.ref (g_ad (g_re G f) 56), .int 0, .int 999])) H
    rw [g_adre (show (56 : Nat) < 200 by decide), e56]
    exact hP 14 _ rfl)
  have h_16 := lt_s h_15 (by
    show va_at (g_D G) vwCl (f 56, g_c (g_re G f) (g_x0, y, o) 56) H
    rw [g_c5 (by decide : kd 56 = 5), e56]
    show va_at (g_D G) vwCl (fv 15, .inr (4, [.ref (g_ad (g_re G f) 57), .int 0])) H
    rw [g_adre (show (57 : Nat) < 200 by decide), e57]
    exact hP 15 _ rfl)
  have h_17 := lt_s h_16 (by
    show va_at (g_D G) vwCl (f 57, g_c (g_re G f) (g_x0, y, o) 57) H
    rw [g_c24 (by decide : kd 57 = 24), e57]
    show va_at (g_D G) vwCl (fv 16, .inl (g_cA G 0, 24, .inl (fun _ => 0))) H
    exact hP 16 _ rfl)
  have h_18 := lt_s h_17 (by
    show va_at (g_D G) vwCl (f 58, g_c (g_re G f) (g_x0, y, o) 58) H
    rw [g_c10 (by decide : kd 58 = 10), e58]
    show va_at (g_D G) vwCl (fv 17, .inr (11, [.ref (g_ad (g_re G f) 59), .int 0, .int 999])) H
    rw [g_adre (show (59 : Nat) < 200 by decide), e59]
    exact hP 17 _ rfl)
  have h_19 := lt_s h_18 (by
    show va_at (g_D G) vwCl (f 59, g_c (g_re G f) (g_x0, y, o) 59) H
    rw [g_c5 (by decide : kd 59 = 5), e59]
    show va_at (g_D G) vwCl (fv 18, .inr (4, [.ref (g_ad (g_re G f) 60), .int 0])) H
    rw [g_adre (show (60 : Nat) < 200 by decide), e60]
    exact hP 18 _ rfl)
  have h_20 := lt_s h_19 (by
    show va_at (g_D G) vwCl (f 60, g_c (g_re G f) (g_x0, y, o) 60) H
    rw [g_c24 (by decide : kd 60 = 24), e60]
    show va_at (g_D G) vwCl (fv 19, .inl (g_cA G 0, 24, .inl (fun _ => 0))) H
    exact hP 19 _ rfl)
  have h_21 := lt_s h_20 (by
    show va_at (g_D G) vwCl (f 61, g_c (g_re G f) (g_x0, y, o) 61) H
    rw [g_c10 (by decide : kd 61 = 10), e61]
    show va_at (g_D G) vwCl (fv 20, .inr (11, [.ref (g_ad (g_re G f) 62), .int 0, .int 999])) H
    rw [g_adre (show (62 : Nat) < 200 by decide), e62]
    exact hP 20 _ rfl)
  have h_22 := lt_s h_21 (by
    show va_at (g_D G) vwCl (f 62, g_c (g_re G f) (g_x0, y, o) 62) H
    rw [g_c5 (by decide : kd 62 = 5), e62]
    show va_at (g_D G) vwCl (fv 21, .inr (4, [.ref (g_ad (g_re G f) 63), .int 0])) H
    rw [g_adre (show (63 : Nat) < 200 by decide), e63]
    exact hP 21 _ rfl)
  have h_23 := lt_s h_22 (by
    show va_at (g_D G) vwCl (f 63, g_c (g_re G f) (g_x0, y, o) 63) H
    rw [g_c24 (by decide : kd 63 = 24), e63]
    show va_at (g_D G) vwCl (fv 22, .inl (g_cA G 0, 24, .inl (fun _ => 0))) H
    exact hP 22 _ rfl)
  have h_24 := lt_s h_23 (by
    show va_at (g_D G) vwCl (f 64, g_c (g_re G f) (g_x0, y, o) 64) H
    rw [g_c10 (by decide : kd 64 = 10), e64]
    show va_at (g_D G) vwCl (fv 23, .inr (11, [.ref (g_ad (g_re G f) 65), .int 0, .int 999])) H
    rw [g_adre (show (65 : Nat) < 200 by decide), e65]
    exact hP 23 _ rfl)
  have h_25 := lt_s h_24 (by
    show va_at (g_D G) vwCl (f 65, g_c (g_re G f) (g_x0, y, o) 65) H
    rw [g_c5 (by decide : kd 65 = 5), e65]
    show va_at (g_D G) vwCl (fv 24, .inr (4, [.ref (g_ad (g_re G f) 66), .int 0])) H
    rw [g_adre (show (66 : Nat) < 200 by decide), e66]
    exact hP 24 _ rfl)
  have h_26 := lt_s h_25 (by
    show va_at (g_D G) vwCl (f 66, g_c (g_re G f) (g_x0, y, o) 66) H
    rw [g_c24 (by decide : kd 66 = 24), e66]
    show va_at (g_D G) vwCl (fv 25, .inl (g_cA G 0, 24, .inl (fun _ => 0))) H
    exact hP 25 _ rfl)
  have h_27 := lt_s h_26 (by
    show va_at (g_D G) vwCl (f 67, g_c (g_re G f) (g_x0, y, o) 67) H
    rw [g_c10 (by decide : kd 67 = 10), e67]
    show va_at (g_D G) vwCl (fv 26, .inr (11, [.ref (g_ad (g_re G f) 68), .int 0, .int 999])) H
    rw [g_adre (show (68 : Nat) < 200 by decide), e68]
    exact hP 26 _ rfl)
  have h_28 := lt_s h_27 (by
    show va_at (g_D G) vwCl (f 68, g_c (g_re G f) (g_x0, y, o) 68) H
    rw [g_c5 (by decide : kd 68 = 5), e68]
    show va_at (g_D G) vwCl (fv 27, .inr (4, [.ref (g_ad (g_re G f) 69), .int 0])) H
    rw [g_adre (show (69 : Nat) < 200 by decide), e69]
    exact hP 27 _ rfl)
  have h_29 := lt_s h_28 (by
    show va_at (g_D G) vwCl (f 69, g_c (g_re G f) (g_x0, y, o) 69) H
    rw [g_c24 (by decide : kd 69 = 24), e69]
    show va_at (g_D G) vwCl (fv 28, .inl (g_cA G 0, 24, .inl (fun _ => 0))) H
    exact hP 28 _ rfl)
  exact h_29
set_option maxRecDepth 100000 in
set_option maxHeartbeats 4000000 in
theorem g_Voc91at {G : GL} {H : Heap} {f fv : Nat → Nat} {y : MS} {o : Nat → Int32} (hf : ∀ j, j < 29 → f (91 + j) = fv j) (hP : va_P (g_D G) vwCl (g_LVoc G fv) H) : ∀ i, 91 ≤ i → i < 120 → va_at (g_D G) vwCl (f i, g_c (g_re G f) (g_x0, y, o) i) H := by
  have e91 : f 91 = fv 0 := hf 0 (by decide)
  have e92 : f 92 = fv 1 := hf 1 (by decide)
  have e93 : f 93 = fv 2 := hf 2 (by decide)
  have e94 : f 94 = fv 3 := hf 3 (by decide)
  have e95 : f 95 = fv 4 := hf 4 (by decide)
  have e96 : f 96 = fv 5 := hf 5 (by decide)
  have e97 : f 97 = fv 6 := hf 6 (by decide)
  have e98 : f 98 = fv 7 := hf 7 (by decide)
  have e99 : f 99 = fv 8 := hf 8 (by decide)
  have e100 : f 100 = fv 9 := hf 9 (by decide)
  have e101 : f 101 = fv 10 := hf 10 (by decide)
  have e102 : f 102 = fv 11 := hf 11 (by decide)
  have e103 : f 103 = fv 12 := hf 12 (by decide)
  have e104 : f 104 = fv 13 := hf 13 (by decide)
  have e105 : f 105 = fv 14 := hf 14 (by decide)
  have e106 : f 106 = fv 15 := hf 15 (by decide)
  have e107 : f 107 = fv 16 := hf 16 (by decide)
  have e108 : f 108 = fv 17 := hf 17 (by decide)
  have e109 : f 109 = fv 18 := hf 18 (by decide)
  have e110 : f 110 = fv 19 := hf 19 (by decide)
  have e111 : f 111 = fv 20 := hf 20 (by decide)
  have e112 : f 112 = fv 21 := hf 21 (by decide)
  have e113 : f 113 = fv 22 := hf 22 (by decide)
  have e114 : f 114 = fv 23 := hf 23 (by decide)
  have e115 : f 115 = fv 24 := hf 24 (by decide)
  have e116 : f 116 = fv 25 := hf 25 (by decide)
  have e117 : f 117 = fv 26 := hf 26 (by decide)
  have e118 : f 118 = fv 27 := hf 27 (by decide)
  have e119 : f 119 = fv 28 := hf 28 (by decide)
  rw [g_LVoce] at hP
  intro i h1 h2
  obtain ⟨j, rfl⟩ : ∃ j, i = 91 + j := ⟨i - 91, by omega⟩
  have hj : j < 29 := by omega
  clear h1 h2
  revert j
  have h_0 : ∀ j, j < 0 → va_at (g_D G) vwCl (f (91 + j), g_c (g_re G f) (g_x0, y, o) (91 + j)) H := lt_0
  have h_1 := lt_s h_0 (by
    show va_at (g_D G) vwCl (f 91, g_c (g_re G f) (g_x0, y, o) 91) H
    rw [g_c9 (by decide : kd 91 = 9), e91]
    show va_at (g_D G) vwCl (fv 0, .inr (9, [.ref (g_ad (g_re G f) 92), .ref (g_ad (g_re G f) 93), .int 0, .int 0, .int 0])) H
    rw [g_adre (show (92 : Nat) < 200 by decide), e92, g_adre (show (93 : Nat) < 200 by decide), e93]
    exact hP 0 _ rfl)
  have h_2 := lt_s h_1 (by
    show va_at (g_D G) vwCl (f 92, g_c (g_re G f) (g_x0, y, o) 92) H
    rw [g_c28 (by decide : kd 92 = 28), e92]
    refine g_atqV (fun j hj => ?_) (hP 1 _ rfl)
    show some (fv (5 + 3 * j)) = some (g_ad (g_re G f) (92 + 4 + 3 * j))
    rw [g_adre (by omega)]
    have h9 := hf (5 + 3 * j) (by omega)
    rw [show 92 + 4 + 3 * j = 91 + (5 + 3 * j) by omega, h9])
  have h_3 := lt_s h_2 (by
    show va_at (g_D G) vwCl (f 93, g_c (g_re G f) (g_x0, y, o) 93) H
    rw [g_c10 (by decide : kd 93 = 10), e93]
    show va_at (g_D G) vwCl (fv 2, .inr (11, [.ref (g_ad (g_re G f) 94), .int 0, .int 999])) H
    rw [g_adre (show (94 : Nat) < 200 by decide), e94]
    exact hP 2 _ rfl)
  have h_4 := lt_s h_3 (by
    show va_at (g_D G) vwCl (f 94, g_c (g_re G f) (g_x0, y, o) 94) H
    rw [g_c5 (by decide : kd 94 = 5), e94]
    show va_at (g_D G) vwCl (fv 3, .inr (4, [.ref (g_ad (g_re G f) 95), .int 0])) H
    rw [g_adre (show (95 : Nat) < 200 by decide), e95]
    exact hP 3 _ rfl)
  have h_5 := lt_s h_4 (by
    show va_at (g_D G) vwCl (f 95, g_c (g_re G f) (g_x0, y, o) 95) H
    rw [g_c24 (by decide : kd 95 = 24), e95]
    show va_at (g_D G) vwCl (fv 4, .inl (g_cA G 0, 24, .inl (fun _ => 0))) H
    exact hP 4 _ rfl)
  have h_6 := lt_s h_5 (by
    show va_at (g_D G) vwCl (f 96, g_c (g_re G f) (g_x0, y, o) 96) H
    rw [g_c10 (by decide : kd 96 = 10), e96]
    show va_at (g_D G) vwCl (fv 5, .inr (11, [.ref (g_ad (g_re G f) 97), .int 0, .int 999])) H
    rw [g_adre (show (97 : Nat) < 200 by decide), e97]
    exact hP 5 _ rfl)
  have h_7 := lt_s h_6 (by
    show va_at (g_D G) vwCl (f 97, g_c (g_re G f) (g_x0, y, o) 97) H
    rw [g_c5 (by decide : kd 97 = 5), e97]
    show va_at (g_D G) vwCl (fv 6, .inr (4, [.ref (g_ad (g_re G f) 98), .int 0])) H
    rw [g_adre (show (98 : Nat) < 200 by decide), e98]
    exact hP 6 _ rfl)
  have h_8 := lt_s h_7 (by
    show va_at (g_D G) vwCl (f 98, g_c (g_re G f) (g_x0, y, o) 98) H
    rw [g_c24 (by decide : kd 98 = 24), e98]
    show va_at (g_D G) vwCl (fv 7, .inl (g_cA G 0, 24, .inl (fun _ => 0))) H
    exact hP 7 _ rfl)
  have h_9 := lt_s h_8 (by
    show va_at (g_D G) vwCl (f 99, g_c (g_re G f) (g_x0, y, o) 99) H
    rw [g_c10 (by decide : kd 99 = 10), e99]
    show va_at (g_D G) vwCl (fv 8, .inr (11, [.ref (g_ad (g_re G f) 100), .int 0, .int 999])) H
    rw [g_adre (show (100 : Nat) < 200 by decide), e100]
    exact hP 8 _ rfl)
  have h_10 := lt_s h_9 (by
    show va_at (g_D G) vwCl (f 100, g_c (g_re G f) (g_x0, y, o) 100) H
    rw [g_c5 (by decide : kd 100 = 5), e100]
    show va_at (g_D G) vwCl (fv 9, .inr (4, [.ref (g_ad (g_re G f) 101), .int 0])) H
    rw [g_adre (show (101 : Nat) < 200 by decide), e101]
    exact hP 9 _ rfl)
  have h_11 := lt_s h_10 (by
    show va_at (g_D G) vwCl (f 101, g_c (g_re G f) (g_x0, y, o) 101) H
    rw [g_c24 (by decide : kd 101 = 24), e101]
    show va_at (g_D G) vwCl (fv 10, .inl (g_cA G 0, 24, .inl (fun _ => 0))) H
    exact hP 10 _ rfl)
  have h_12 := lt_s h_11 (by
    show va_at (g_D G) vwCl (f 102, g_c (g_re G f) (g_x0, y, o) 102) H
    rw [g_c10 (by decide : kd 102 = 10), e102]
    show va_at (g_D G) vwCl (fv 11, .inr (11, [.ref (g_ad (g_re G f) 103), .int 0, .int 999])) H
    rw [g_adre (show (103 : Nat) < 200 by decide), e103]
    exact hP 11 _ rfl)
  have h_13 := lt_s h_12 (by
    show va_at (g_D G) vwCl (f 103, g_c (g_re G f) (g_x0, y, o) 103) H
    rw [g_c5 (by decide : kd 103 = 5), e103]
    show va_at (g_D G) vwCl (fv 12, .inr (4, [.ref (g_ad (g_re G f) 104), .int 0])) H
    rw [g_adre (show (104 : Nat) < 200 by decide), e104]
    exact hP 12 _ rfl)
  have h_14 := lt_s h_13 (by
    show va_at (g_D G) vwCl (f 104, g_c (g_re G f) (g_x0, y, o) 104) H
    rw [g_c24 (by decide : kd 104 = 24), e104]
    show va_at (g_D G) vwCl (fv 13, .inl (g_cA G 0, 24, .inl (fun _ => 0))) H
    exact hP 13 _ rfl)
  have h_15 := lt_s h_14 (by
    show va_at (g_D G) vwCl (f 105, g_c (g_re G f) (g_x0, y, o) 105) H
    rw [g_c10 (by decide : kd 105 = 10), e105]
    show va_at (g_D G) vwCl (fv 14, .inr (11, [.ref (g_ad (g_re G f) 106), .int 0, .int 999])) H
    rw [g_adre (show (106 : Nat) < 200 by decide), e106]
    exact hP 14 _ rfl)
  have h_16 := lt_s h_15 (by
    show va_at (g_D G) vwCl (f 106, g_c (g_re G f) (g_x0, y, o) 106) H
    rw [g_c5 (by decide : kd 106 = 5), e106]
    show va_at (g_D G) vwCl (fv 15, .inr (4, [.ref (g_ad (g_re G f) 107), .int 0])) H
    rw [g_adre (show (107 : Nat) < 200 by decide), e107]
    exact hP 15 _ rfl)
  have h_17 := lt_s h_16 (by
    show va_at (g_D G) vwCl (f 107, g_c (g_re G f) (g_x0, y, o) 107) H
    rw [g_c24 (by decide : kd 107 = 24), e107]
    show va_at (g_D G) vwCl (fv 16, .inl (g_cA G 0, 24, .inl (fun _ => 0))) H
    exact hP 16 _ rfl)
  have h_18 := lt_s h_17 (by
    show va_at (g_D G) vwCl (f 108, g_c (g_re G f) (g_x0, y, o) 108) H
    rw [g_c10 (by decide : kd 108 = 10), e108]
    show va_at (g_D G) vwCl (fv 17, .inr (11, [.ref (g_ad (g_re G f) 109), .int 0, .int 999])) H
    rw [g_adre (show (109 : Nat) < 200 by decide), e109]
    exact hP 17 _ rfl)
  have h_19 := lt_s h_18 (by
    show va_at (g_D G) vwCl (f 109, g_c (g_re G f) (g_x0, y, o) 109) H
    rw [g_c5 (by decide : kd 109 = 5), e109]
    show va_at (g_D G) vwCl (fv 18, .inr (4, [.ref (g_ad (g_re G f) 110), .int 0])) H
    rw [g_adre (show (110 : Nat) < 200 by decide), e110]
    exact hP 18 _ rfl)
  have h_20 := lt_s h_19 (by
    show va_at (g_D G) vwCl (f 110, g_c (g_re G f) (g_x0, y, o) 110) H
    rw [g_c24 (by decide : kd 110 = 24), e110]
    show va_at (g_D G) vwCl (fv 19, .inl (g_cA G 0, 24, .inl (fun _ => 0))) H
    exact hP 19 _ rfl)
  have h_21 := lt_s h_20 (by
    show va_at (g_D G) vwCl (f 111, g_c (g_re G f) (g_x0, y, o) 111) H
    rw [g_c10 (by decide : kd 111 = 10), e111]
    show va_at (g_D G) vwCl (fv 20, .inr (11, [.ref (g_ad (g_re G f) 112), .int 0, .int 999])) H
    rw [g_adre (show (112 : Nat) < 200 by decide), e112]
    exact hP 20 _ rfl)
  have h_22 := lt_s h_21 (by
    show va_at (g_D G) vwCl (f 112, g_c (g_re G f) (g_x0, y, o) 112) H
    rw [g_c5 (by decide : kd 112 = 5), e112]
    show va_at (g_D G) vwCl (fv 21, .inr (4, [.ref (g_ad (g_re G f) 113), .int 0])) H
    rw [g_adre (show (113 : Nat) < 200 by decide), e113]
    exact hP 21 _ rfl)
  have h_23 := lt_s h_22 (by
    show va_at (g_D G) vwCl (f 113, g_c (g_re G f) (g_x0, y, o) 113) H
    rw [g_c24 (by decide : kd 113 = 24), e113]
    show va_at (g_D G) vwCl (fv 22, .inl (g_cA G 0, 24, .inl (fun _ => 0))) H
    exact hP 22 _ rfl)
  have h_24 := lt_s h_23 (by
    show va_at (g_D G) vwCl (f 114, g_c (g_re G f) (g_x0, y, o) 114) H
    rw [g_c10 (by decide : kd 114 = 10), e114]
    show va_at (g_D G) vwCl (fv 23, .inr (11, [.ref (g_ad (g_re G f) 115), .int 0, .int 999])) H
    rw [g_adre (show (115 : Nat) < 200 by decide), e115]
    exact hP 23 _ rfl)
  have h_25 := lt_s h_24 (by
    show va_at (g_D G) vwCl (f 115, g_c (g_re G f) (g_x0, y, o) 115) H
    rw [g_c5 (by decide : kd 115 = 5), e115]
    show va_at (g_D G) vwCl (fv 24, .inr (4, [.ref (g_ad (g_re G f) 116), .int 0])) H
    rw [g_adre (show (116 : Nat) < 200 by decide), e116]
    exact hP 24 _ rfl)
  have h_26 := lt_s h_25 (by
    show va_at (g_D G) vwCl (f 116, g_c (g_re G f) (g_x0, y, o) 116) H
    rw [g_c24 (by decide : kd 116 = 24), e116]
    show va_at (g_D G) vwCl (fv 25, .inl (g_cA G 0, 24, .inl (fun _ => 0))) H
    exact hP 25 _ rfl)
  have h_27 := lt_s h_26 (by
    show va_at (g_D G) vwCl (f 117, g_c (g_re G f) (g_x0, y, o) 117) H
    rw [g_c10 (by decide : kd 117 = 10), e117]
    show va_at (g_D G) vwCl (fv 26, .inr (11, [.ref (g_ad (g_re G f) 118), .int 0, .int 999])) H
    rw [g_adre (show (118 : Nat) < 200 by decide), e118]
    exact hP 26 _ rfl)
  have h_28 := lt_s h_27 (by
    show va_at (g_D G) vwCl (f 118, g_c (g_re G f) (g_x0, y, o) 118) H
    rw [g_c5 (by decide : kd 118 = 5), e118]
    show va_at (g_D G) vwCl (fv 27, .inr (4, [.ref (g_ad (g_re G f) 119), .int 0])) H
    rw [g_adre (show (119 : Nat) < 200 by decide), e119]
    exact hP 27 _ rfl)
  have h_29 := lt_s h_28 (by
    show va_at (g_D G) vwCl (f 119, g_c (g_re G f) (g_x0, y, o) 119) H
    rw [g_c24 (by decide : kd 119 = 24), e119]
    show va_at (g_D G) vwCl (fv 28, .inl (g_cA G 0, 24, .inl (fun _ => 0))) H
    exact hP 28 _ rfl)
  exact h_29
set_option maxRecDepth 100000 in
set_option maxHeartbeats 4000000 in
theorem g_GWat {G : GL} {H : Heap} {h0 t a1 k b1 b2 b3 b4 wp d1 d2 d3 d4 d5 hr e1 tr f1 cr g1 : Nat} {fb fv fc fw : Nat → Nat} {y : MS} {o : Nat → Int32} (hP : va_P (g_D G) vwCl (g_LGW G h0 t a1 k b1 b2 b3 b4 wp d1 d2 d3 d4 d5 hr e1 tr f1 cr g1 fb fv fc fw) H) : ∀ i, i < 120 → va_at (g_D G) vwCl (g_aGW h0 t a1 k b1 b2 b3 b4 wp d1 d2 d3 d4 d5 hr e1 tr f1 cr g1 fb fv fc fw i, g_c (g_re G (g_aGW h0 t a1 k b1 b2 b3 b4 wp d1 d2 d3 d4 d5 hr e1 tr f1 cr g1 fb fv fc fw)) (g_x0, y, o) i) H := by
  have q0 := hP 0 _ rfl
  have hP : va_P (g_D G) vwCl (((((((((g_LTape G t a1 ++ g_LTok G k t b1 b2 b3 b4) ++ g_LWarp G wp d1 d2 d3 d4 d5) ++ g_LRow G hr e1) ++ g_LRow G tr f1) ++ g_LCourse G cr hr wp g1) ++ g_LRB G fb) ++ g_LVoc G fv) ++ g_LRB G fc) ++ g_LVoc G fw) H := g_Pr (a := [_]) hP
  have p10 := g_Pr hP
  have hP := g_Pl hP
  have p9 := g_Pr hP
  have hP := g_Pl hP
  have p8 := g_Pr hP
  have hP := g_Pl hP
  have p7 := g_Pr hP
  have hP := g_Pl hP
  simp only [g_LTape, g_LTok, g_LWarp, g_LRow, g_LCourse, List.append_assoc, List.cons_append, List.nil_append] at hP
  obtain ⟨f, hfe⟩ : ∃ f, f = g_aGW h0 t a1 k b1 b2 b3 b4 wp d1 d2 d3 d4 d5 hr e1 tr f1 cr g1 fb fv fc fw := ⟨_, rfl⟩
  rw [← hfe]
  have ez0 : f 0 = h0 := by rw [hfe]; rfl
  have ez1 : f 1 = t := by rw [hfe]; rfl
  have ez2 : f 2 = a1 := by rw [hfe]; rfl
  have ez3 : f 3 = k := by rw [hfe]; rfl
  have ez4 : f 4 = b1 := by rw [hfe]; rfl
  have ez5 : f 5 = b2 := by rw [hfe]; rfl
  have ez6 : f 6 = b3 := by rw [hfe]; rfl
  have ez7 : f 7 = b4 := by rw [hfe]; rfl
  have ez8 : f 8 = wp := by rw [hfe]; rfl
  have ez9 : f 9 = d1 := by rw [hfe]; rfl
  have ez10 : f 10 = d2 := by rw [hfe]; rfl
  have ez11 : f 11 = d3 := by rw [hfe]; rfl
  have ez12 : f 12 = d4 := by rw [hfe]; rfl
  have ez13 : f 13 = d5 := by rw [hfe]; rfl
  have ez14 : f 14 = hr := by rw [hfe]; rfl
  have ez15 : f 15 = e1 := by rw [hfe]; rfl
  have ez16 : f 16 = tr := by rw [hfe]; rfl
  have ez17 : f 17 = f1 := by rw [hfe]; rfl
  have ez18 : f 18 = cr := by rw [hfe]; rfl
  have ez19 : f 19 = g1 := by rw [hfe]; rfl
  have hf20 : ∀ j, j < 21 → f (20 + j) = fb j := fun j hj => by rw [hfe]; unfold g_aGW;  rw [if_neg (by omega), if_pos (by omega)]; congr 1; omega
  have hf41 : ∀ j, j < 29 → f (41 + j) = fv j := fun j hj => by rw [hfe]; unfold g_aGW;  rw [if_neg (by omega), if_neg (by omega), if_pos (by omega)]; congr 1; omega
  have hf70 : ∀ j, j < 21 → f (70 + j) = fc j := fun j hj => by rw [hfe]; unfold g_aGW;  rw [if_neg (by omega), if_neg (by omega), if_neg (by omega), if_pos (by omega)]; congr 1; omega
  have hf91 : ∀ j, j < 29 → f (91 + j) = fw j := fun j hj => by rw [hfe]; unfold g_aGW;  rw [if_neg (by omega), if_neg (by omega), if_neg (by omega), if_neg (by omega)]; congr 1; omega
  have ez20 : f 20 = fb 0 := hf20 0 (by decide)
  have ez41 : f 41 = fv 0 := hf41 0 (by decide)
  have ez70 : f 70 = fc 0 := hf70 0 (by decide)
  have ez91 : f 91 = fw 0 := hf91 0 (by decide)
  have h_0 : ∀ i, i < 0 → va_at (g_D G) vwCl (f i, g_c (g_re G f) (g_x0, y, o) i) H := lt_0
  have h_1 := lt_s h_0 (by
    rw [g_c1 (by decide : kd 0 = 1), ez0]
    show va_at (g_D G) vwCl (h0, .inr (12, [.ref (g_ad (g_re G f) 1), .ref (g_ad (g_re G f) 3), .ref (g_ad (g_re G f) 8), .ref (g_ad (g_re G f) 14), .ref (g_ad (g_re G f) 16), .ref (g_ad (g_re G f) 18), .ref (g_ad (g_re G f) 20), .ref (g_ad (g_re G f) 41), .ref (g_ad (g_re G f) 70), .ref (g_ad (g_re G f) 91), .int (-1)])) H
    rw [g_adre (show (1 : Nat) < 200 by decide), ez1, g_adre (show (3 : Nat) < 200 by decide), ez3, g_adre (show (8 : Nat) < 200 by decide), ez8, g_adre (show (14 : Nat) < 200 by decide), ez14, g_adre (show (16 : Nat) < 200 by decide), ez16, g_adre (show (18 : Nat) < 200 by decide), ez18, g_adre (show (20 : Nat) < 200 by decide), ez20, g_adre (show (41 : Nat) < 200 by decide), ez41, g_adre (show (70 : Nat) < 200 by decide), ez70, g_adre (show (91 : Nat) < 200 by decide), ez91]
    exact q0)
  have h_2 := lt_s h_1 (by
    rw [g_c2 (by decide : kd 1 = 2), ez1]
    show va_at (g_D G) vwCl (t, .inr (7, [.ref (g_ad (g_re G f) 2), .int 0])) H
    rw [g_adre (show (2 : Nat) < 200 by decide), ez2]
    exact hP 0 _ rfl)
  have h_3 := lt_s h_2 (by
    rw [g_c20 (by decide : kd 2 = 20), ez2]
    show va_at (g_D G) vwCl (a1, .inl (g_cA G 1, 2000, .inl (fun _ => 0))) H
    exact hP 1 _ rfl)
  have h_4 := lt_s h_3 (by
    rw [g_c3 (by decide : kd 3 = 3), ez3]
    show va_at (g_D G) vwCl (k, .inr (8, [.ref (g_ad (g_re G f) 1), .ref (g_ad (g_re G f) 4), .ref (g_ad (g_re G f) 5), .ref (g_ad (g_re G f) 6), .ref (g_ad (g_re G f) 7), .int 0])) H
    rw [g_adre (show (1 : Nat) < 200 by decide), ez1, g_adre (show (4 : Nat) < 200 by decide), ez4, g_adre (show (5 : Nat) < 200 by decide), ez5, g_adre (show (6 : Nat) < 200 by decide), ez6, g_adre (show (7 : Nat) < 200 by decide), ez7]
    exact hP 2 _ rfl)
  have h_5 := lt_s h_4 (by
    rw [g_c21 (by decide : kd 4 = 21), ez4]
    show va_at (g_D G) vwCl (b1, .inl (g_cA G 3, 401, .inr (.inr (.inr (.inr (fun _ => some (g_sg G 44))))))) H
    exact hP 3 _ rfl)
  have h_6 := lt_s h_5 (by
    rw [g_c22 (by decide : kd 5 = 22), ez5]
    show va_at (g_D G) vwCl (b2, .inl (g_cA G 0, 401, .inl (fun _ => 0))) H
    exact hP 4 _ rfl)
  have h_7 := lt_s h_6 (by
    rw [g_c22 (by decide : kd 6 = 22), ez6]
    show va_at (g_D G) vwCl (b3, .inl (g_cA G 0, 401, .inl (fun _ => 0))) H
    exact hP 5 _ rfl)
  have h_8 := lt_s h_7 (by
    rw [g_c22 (by decide : kd 7 = 22), ez7]
    show va_at (g_D G) vwCl (b4, .inl (g_cA G 0, 401, .inl (fun _ => 0))) H
    exact hP 6 _ rfl)
  have h_9 := lt_s h_8 (by
    rw [g_c4 (by decide : kd 8 = 4), ez8]
    show va_at (g_D G) vwCl (wp, .inr (10, [.ref (g_ad (g_re G f) 9), .ref (g_ad (g_re G f) 10), .ref (g_ad (g_re G f) 12)])) H
    rw [g_adre (show (9 : Nat) < 200 by decide), ez9, g_adre (show (10 : Nat) < 200 by decide), ez10, g_adre (show (12 : Nat) < 200 by decide), ez12]
    exact hP 7 _ rfl)
  have h_10 := lt_s h_9 (by
    rw [g_c23 (by decide : kd 9 = 23), ez9]
    show va_at (g_D G) vwCl (d1, .inl (g_cA G 0, 25, .inl (fun _ => 0))) H
    exact hP 8 _ rfl)
  have h_11 := lt_s h_10 (by
    rw [g_c5 (by decide : kd 10 = 5), ez10]
    show va_at (g_D G) vwCl (d2, .inr (4, [.ref (g_ad (g_re G f) 11), .int 0])) H
    rw [g_adre (show (11 : Nat) < 200 by decide), ez11]
    exact hP 9 _ rfl)
  have h_12 := lt_s h_11 (by
    rw [g_c24 (by decide : kd 11 = 24), ez11]
    show va_at (g_D G) vwCl (d3, .inl (g_cA G 0, 24, .inl (fun _ => 0))) H
    exact hP 10 _ rfl)
  have h_13 := lt_s h_12 (by
    rw [g_c5 (by decide : kd 12 = 5), ez12]
    show va_at (g_D G) vwCl (d4, .inr (4, [.ref (g_ad (g_re G f) 13), .int 0])) H
    rw [g_adre (show (13 : Nat) < 200 by decide), ez13]
    exact hP 11 _ rfl)
  have h_14 := lt_s h_13 (by
    rw [g_c24 (by decide : kd 13 = 24), ez13]
    show va_at (g_D G) vwCl (d5, .inl (g_cA G 0, 24, .inl (fun _ => 0))) H
    exact hP 12 _ rfl)
  have h_15 := lt_s h_14 (by
    rw [g_c5 (by decide : kd 14 = 5), ez14]
    show va_at (g_D G) vwCl (hr, .inr (4, [.ref (g_ad (g_re G f) 15), .int 0])) H
    rw [g_adre (show (15 : Nat) < 200 by decide), ez15]
    exact hP 13 _ rfl)
  have h_16 := lt_s h_15 (by
    rw [g_c24 (by decide : kd 15 = 24), ez15]
    show va_at (g_D G) vwCl (e1, .inl (g_cA G 0, 24, .inl (fun _ => 0))) H
    exact hP 14 _ rfl)
  have h_17 := lt_s h_16 (by
    rw [g_c5 (by decide : kd 16 = 5), ez16]
    show va_at (g_D G) vwCl (tr, .inr (4, [.ref (g_ad (g_re G f) 17), .int 0])) H
    rw [g_adre (show (17 : Nat) < 200 by decide), ez17]
    exact hP 15 _ rfl)
  have h_18 := lt_s h_17 (by
    rw [g_c24 (by decide : kd 17 = 24), ez17]
    show va_at (g_D G) vwCl (f1, .inl (g_cA G 0, 24, .inl (fun _ => 0))) H
    exact hP 16 _ rfl)
  have h_19 := lt_s h_18 (by
    rw [g_c6 (by decide : kd 18 = 6), ez18]
    show va_at (g_D G) vwCl (cr, .inr (2, [.ref (g_ad (g_re G f) 14), .ref (g_ad (g_re G f) 8), .ref (g_ad (g_re G f) 19), .int 0])) H
    rw [g_adre (show (14 : Nat) < 200 by decide), ez14, g_adre (show (8 : Nat) < 200 by decide), ez8, g_adre (show (19 : Nat) < 200 by decide), ez19]
    exact hP 17 _ rfl)
  have h_20 := lt_s h_19 (by
    rw [g_c25 (by decide : kd 19 = 25), ez19]
    show va_at (g_D G) vwCl (g1, .inl (g_cA G 0, 400, .inl (fun _ => 0))) H
    exact hP 18 _ rfl)
  intro i hi
  rcases (show i < 20 ∨ (20 ≤ i ∧ i < 20 + 21) ∨ (41 ≤ i ∧ i < 41 + 29) ∨ (70 ≤ i ∧ i < 70 + 21) ∨ (91 ≤ i ∧ i < 91 + 29) by omega) with h | h | h | h | h
  · exact h_20 i h
  · exact g_RB20at hf20 p7 i h.1 h.2
  · exact g_Voc41at hf41 p8 i h.1 h.2
  · exact g_RB70at hf70 p9 i h.1 h.2
  · exact g_Voc91at hf91 p10 i h.1 h.2
set_option maxRecDepth 100000 in
set_option maxHeartbeats 4000000 in
theorem g_GWfst {G : GL} {h0 t a1 k b1 b2 b3 b4 wp d1 d2 d3 d4 d5 hr e1 tr f1 cr g1 : Nat} {fb fv fc fw : Nat → Nat} : (g_LGW G h0 t a1 k b1 b2 b3 b4 wp d1 d2 d3 d4 d5 hr e1 tr f1 cr g1 fb fv fc fw).map Prod.fst = (List.range 120).map (g_aGW h0 t a1 k b1 b2 b3 b4 wp d1 d2 d3 d4 d5 hr e1 tr f1 cr g1 fb fv fc fw) := by
  have h1 : List.range 120 = List.range 20 ++ ((List.range 21).map (fun j => 20 + j) ++ ((List.range 29).map (fun j => 41 + j) ++ ((List.range 21).map (fun j => 70 + j) ++ (List.range 29).map (fun j => 91 + j)))) := by decide
  have hf20 : (List.range 21).map (fun j => g_aGW h0 t a1 k b1 b2 b3 b4 wp d1 d2 d3 d4 d5 hr e1 tr f1 cr g1 fb fv fc fw (20 + j)) = (List.range 21).map fb := List.map_congr_left (fun j hj => by have := List.mem_range.mp hj; unfold g_aGW; rw [if_neg (by omega), if_pos (by omega)]; congr 1; omega)
  have hf41 : (List.range 29).map (fun j => g_aGW h0 t a1 k b1 b2 b3 b4 wp d1 d2 d3 d4 d5 hr e1 tr f1 cr g1 fb fv fc fw (41 + j)) = (List.range 29).map fv := List.map_congr_left (fun j hj => by have := List.mem_range.mp hj; unfold g_aGW; rw [if_neg (by omega), if_neg (by omega), if_pos (by omega)]; congr 1; omega)
  have hf70 : (List.range 21).map (fun j => g_aGW h0 t a1 k b1 b2 b3 b4 wp d1 d2 d3 d4 d5 hr e1 tr f1 cr g1 fb fv fc fw (70 + j)) = (List.range 21).map fc := List.map_congr_left (fun j hj => by have := List.mem_range.mp hj; unfold g_aGW; rw [if_neg (by omega), if_neg (by omega), if_neg (by omega), if_pos (by omega)]; congr 1; omega)
  have hf91 : (List.range 29).map (fun j => g_aGW h0 t a1 k b1 b2 b3 b4 wp d1 d2 d3 d4 d5 hr e1 tr f1 cr g1 fb fv fc fw (91 + j)) = (List.range 29).map fw := List.map_congr_left (fun j hj => by have := List.mem_range.mp hj; unfold g_aGW; rw [if_neg (by omega), if_neg (by omega), if_neg (by omega), if_neg (by omega)]; congr 1; omega)
  have h0 : (List.range 20).map (g_aGW h0 t a1 k b1 b2 b3 b4 wp d1 d2 d3 d4 d5 hr e1 tr f1 cr g1 fb fv fc fw) = [h0, t, a1, k, b1, b2, b3, b4, wp, d1, d2, d3, d4, d5, hr, e1, tr, f1, cr, g1] := rfl
  rw [h1]
  simp only [List.map_append, List.map_map, Function.comp_def]
  rw [hf20, hf41, hf70, hf91, h0]
  have r21 : List.range 21 = [0, 1, 2, 3, 4, 5, 6, 7, 8, 9, 10, 11, 12, 13, 14, 15, 16, 17, 18, 19, 20] := by decide
  have r29 : List.range 29 = [0, 1, 2, 3, 4, 5, 6, 7, 8, 9, 10, 11, 12, 13, 14, 15, 16, 17, 18, 19, 20, 21, 22, 23, 24, 25, 26, 27, 28] := by decide
  simp only [g_LGW, g_LRBe, g_LVoce, g_LTape, g_LTok, g_LWarp, g_LRow, g_LCourse, r21, r29, List.map_append, List.map_cons, List.map_nil, List.append_assoc, List.cons_append, List.nil_append]
