set_option maxRecDepth 100000 in
set_option maxHeartbeats 4000000 in
theorem g_GWat {G : GL} {H : Heap} {h0 t a1 k b1 b2 b3 b4 wp d1 d2 d3 d4 d5 hr e1 tr f1 cr g1 : Nat} {fb fv fc fw : Nat → Nat} {y : MS} {o : Nat → Int32} (hP : va_P (g_D G) vwCl (g_LGW G h0 t a1 k b1 b2 b3 b4 wp d1 d2 d3 d4 d5 hr e1 tr f1 cr g1 fb fv fc fw) H) : ∀ i, i < 120 → va_at (g_D G) vwCl (g_aGW h0 t a1 k b1 b2 b3 b4 wp d1 d2 d3 d4 d5 hr e1 tr f1 cr g1 fb fv fc fw i, g_c (g_re G (g_aGW h0 t a1 k b1 b2 b3 b4 wp d1 d2 d3 d4 d5 hr e1 tr f1 cr g1 fb fv fc fw)) (g_x0, y, o) i) H := by
  have q0 := hP 0 _ rfl
  have hP : va_P (g_D G) vwCl (((((((((g_LTape G t a1 ++ g_LTok G k t b1 b2 b3 b4) ++ g_LWarp G wp d1 d2 d3 d4 d5) ++ g_LRow G hr e1) ++ g_LRow G tr f1) ++ g_LCourse G cr hr wp g1) ++ g_LRB G fb) ++ g_LVoc G fv) ++ g_LRB G fc) ++ g_LVoc G fw) H := g_Pr (a := [_]) hP
  have p10 := g_Pr hP
  have hP := g_Pl hP
  have p9 := g_Pr hP
  have hP := g_Pl hP
  have p8 := g_Pr hP
  have hP := g_Pl hP
  have p7 := g_Pr hP
  have hP := g_Pl hP
  simp only [g_LTape, g_LTok, g_LWarp, g_LRow, g_LCourse, List.append_assoc, List.cons_append, List.nil_append] at hP
  obtain ⟨f, hfe⟩ : ∃ f, f = g_aGW h0 t a1 k b1 b2 b3 b4 wp d1 d2 d3 d4 d5 hr e1 tr f1 cr g1 fb fv fc fw := ⟨_, rfl⟩
  rw [← hfe]
  have ez0 : f 0 = h0 := by rw [hfe]; rfl
  have ez1 : f 1 = t := by rw [hfe]; rfl
  have ez2 : f 2 = a1 := by rw [hfe]; rfl
  have ez3 : f 3 = k := by rw [hfe]; rfl
  have ez4 : f 4 = b1 := by rw [hfe]; rfl
  have ez5 : f 5 = b2 := by rw [hfe]; rfl
  have ez6 : f 6 = b3 := by rw [hfe]; rfl
  have ez7 : f 7 = b4 := by rw [hfe]; rfl
  have ez8 : f 8 = wp := by rw [hfe]; rfl
  have ez9 : f 9 = d1 := by rw [hfe]; rfl
  have ez10 : f 10 = d2 := by rw [hfe]; rfl
  have ez11 : f 11 = d3 := by rw [hfe]; rfl
  have ez12 : f 12 = d4 := by rw [hfe]; rfl
  have ez13 : f 13 = d5 := by rw [hfe]; rfl
  have ez14 : f 14 = hr := by rw [hfe]; rfl
  have ez15 : f 15 = e1 := by rw [hfe]; rfl
  have ez16 : f 16 = tr := by rw [hfe]; rfl
  have ez17 : f 17 = f1 := by rw [hfe]; rfl
  have ez18 : f 18 = cr := by rw [hfe]; rfl
  have ez19 : f 19 = g1 := by rw [hfe]; rfl
  have hf20 : ∀ j, j < 21 → f (20 + j) = fb j := fun j hj => by rw [hfe]; unfold g_aGW;  rw [if_neg (by omega), if_pos (by omega)]; congr 1; omega
  have hf41 : ∀ j, j < 29 → f (41 + j) = fv j := fun j hj => by rw [hfe]; unfold g_aGW;  rw [if_neg (by omega), if_neg (by omega), if_pos (by omega)]; congr 1; omega
  have hf70 : ∀ j, j < 21 → f (70 + j) = fc j := fun j hj => by rw [hfe]; unfold g_aGW;  rw [if_neg (by omega), if_neg (by omega), if_neg (by omega), if_pos (by omega)]; congr 1; omega
  have hf91 : ∀ j, j < 29 → f (91 + j) = fw j := fun j hj => by rw [hfe]; unfold g_aGW;  rw [if_neg (by omega), if_neg (by omega), if_neg (by omega), if_neg (by omega)]; congr 1; omega
  have ez20 : f 20 = fb 0 := hf20 0 (by decide)
  have ez41 : f 41 = fv 0 := hf41 0 (by decide)
  have ez70 : f 70 = fc 0 := hf70 0 (by decide)
  have ez91 : f 91 = fw 0 := hf91 0 (by decide)
  have h_0 : ∀ i, i < 0 → va_at (g_D G) vwCl (f i, g_c (g_re G f) (g_x0, y, o) i) H := lt_0
  have h_1 := lt_s h_0 (by
    rw [g_c1 (by decide : kd 0 = 1), ez0]
    show va_at (g_D G) vwCl (h0, .inr (10, [.ref (f 1), .ref (f 3), .ref (f 8), .ref (f 14), .ref (f 16), .ref (f 18), .ref (f 20), .ref (f 41), .ref (f 70), .ref (f 91), .int (-1)])) H
    rw [ez1, ez3, ez8, ez14, ez16, ez18, ez20, ez41, ez70, ez91]
    exact q0)
  have h_2 := lt_s h_1 (by
    rw [g_c2 (by decide : kd 1 = 2), ez1]
    show va_at (g_D G) vwCl (t, .inr (5, [.ref (f 2), .int 0])) H
    rw [ez2]
    exact hP 0 _ rfl)
  have h_3 := lt_s h_2 (by
    rw [g_c20 (by decide : kd 2 = 20), ez2]
    show va_at (g_D G) vwCl (a1, .inl (g_cA G 1, 2000, .inl (fun _ => 0))) H
    exact hP 1 _ rfl)
  have h_4 := lt_s h_3 (by
    rw [g_c3 (by decide : kd 3 = 3), ez3]
    show va_at (g_D G) vwCl (k, .inr (6, [.ref (f 1), .ref (f 4), .ref (f 5), .ref (f 6), .ref (f 7), .int 0])) H
    rw [ez1, ez4, ez5, ez6, ez7]
    exact hP 2 _ rfl)
  have h_5 := lt_s h_4 (by
    rw [g_c21 (by decide : kd 4 = 21), ez4]
    show va_at (g_D G) vwCl (b1, .inl (g_cA G 3, 401, .inr (.inr (.inr (.inr (fun _ => some (g_sg G 44))))))) H
    exact hP 3 _ rfl)
  have h_6 := lt_s h_5 (by
    rw [g_c22 (by decide : kd 5 = 22), ez5]
    show va_at (g_D G) vwCl (b2, .inl (g_cA G 0, 401, .inl (fun _ => 0))) H
    exact hP 4 _ rfl)
  have h_7 := lt_s h_6 (by
    rw [g_c22 (by decide : kd 6 = 22), ez6]
    show va_at (g_D G) vwCl (b3, .inl (g_cA G 0, 401, .inl (fun _ => 0))) H
    exact hP 5 _ rfl)
  have h_8 := lt_s h_7 (by
    rw [g_c22 (by decide : kd 7 = 22), ez7]
    show va_at (g_D G) vwCl (b4, .inl (g_cA G 0, 401, .inl (fun _ => 0))) H
    exact hP 6 _ rfl)
  have h_9 := lt_s h_8 (by
    rw [g_c4 (by decide : kd 8 = 4), ez8]
    show va_at (g_D G) vwCl (wp, .inr (8, [.ref (f 9), .ref (f 10), .ref (f 12)])) H
    rw [ez9, ez10, ez12]
    exact hP 7 _ rfl)
  have h_10 := lt_s h_9 (by
    rw [g_c23 (by decide : kd 9 = 23), ez9]
    show va_at (g_D G) vwCl (d1, .inl (g_cA G 0, 25, .inl (fun _ => 0))) H
    exact hP 8 _ rfl)
  have h_11 := lt_s h_10 (by
    rw [g_c5 (by decide : kd 10 = 5), ez10]
    show va_at (g_D G) vwCl (d2, .inr (2, [.ref (f 11), .int 0])) H
    rw [ez11]
    exact hP 9 _ rfl)
  have h_12 := lt_s h_11 (by
    rw [g_c24 (by decide : kd 11 = 24), ez11]
    show va_at (g_D G) vwCl (d3, .inl (g_cA G 0, 24, .inl (fun _ => 0))) H
    exact hP 10 _ rfl)
  have h_13 := lt_s h_12 (by
    rw [g_c5 (by decide : kd 12 = 5), ez12]
    show va_at (g_D G) vwCl (d4, .inr (2, [.ref (f 13), .int 0])) H
    rw [ez13]
    exact hP 11 _ rfl)
  have h_14 := lt_s h_13 (by
    rw [g_c24 (by decide : kd 13 = 24), ez13]
    show va_at (g_D G) vwCl (d5, .inl (g_cA G 0, 24, .inl (fun _ => 0))) H
    exact hP 12 _ rfl)
  have h_15 := lt_s h_14 (by
    rw [g_c5 (by decide : kd 14 = 5), ez14]
    show va_at (g_D G) vwCl (hr, .inr (2, [.ref (f 15), .int 0])) H
    rw [ez15]
    exact hP 13 _ rfl)
  have h_16 := lt_s h_15 (by
    rw [g_c24 (by decide : kd 15 = 24), ez15]
    show va_at (g_D G) vwCl (e1, .inl (g_cA G 0, 24, .inl (fun _ => 0))) H
    exact hP 14 _ rfl)
  have h_17 := lt_s h_16 (by
    rw [g_c5 (by decide : kd 16 = 5), ez16]
    show va_at (g_D G) vwCl (tr, .inr (2, [.ref (f 17), .int 0])) H
    rw [ez17]
    exact hP 15 _ rfl)
  have h_18 := lt_s h_17 (by
    rw [g_c24 (by decide : kd 17 = 24), ez17]
    show va_at (g_D G) vwCl (f1, .inl (g_cA G 0, 24, .inl (fun _ => 0))) H
    exact hP 16 _ rfl)
  have h_19 := lt_s h_18 (by
    rw [g_c6 (by decide : kd 18 = 6), ez18]
    show va_at (g_D G) vwCl (cr, .inr (0, [.ref (f 14), .ref (f 8), .ref (f 19), .int 0])) H
    rw [ez14, ez8, ez19]
    exact hP 17 _ rfl)
  have h_20 := lt_s h_19 (by
    rw [g_c25 (by decide : kd 19 = 25), ez19]
    show va_at (g_D G) vwCl (g1, .inl (g_cA G 0, 400, .inl (fun _ => 0))) H
    exact hP 18 _ rfl)
  intro i hi
  rcases (show i < 20 ∨ (20 ≤ i ∧ i < 20 + 21) ∨ (41 ≤ i ∧ i < 41 + 29) ∨ (70 ≤ i ∧ i < 70 + 21) ∨ (91 ≤ i ∧ i < 91 + 29) by omega) with h | h | h | h | h
  · exact h_20 i h
  · exact g_RB20at hf20 p7 i h.1 h.2
  · exact g_Voc41at hf41 p8 i h.1 h.2
  · exact g_RB70at hf70 p9 i h.1 h.2
  · exact g_Voc91at hf91 p10 i h.1 h.2
