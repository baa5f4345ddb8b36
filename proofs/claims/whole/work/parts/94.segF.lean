set_option maxRecDepth 100000 in
set_option maxHeartbeats 4000000 in
theorem g_GWfst {G : GL} {h0 t a1 k b1 b2 b3 b4 wp d1 d2 d3 d4 d5 hr e1 tr f1 cr g1 : Nat} {fb fv fc fw : Nat → Nat} : (g_LGW G h0 t a1 k b1 b2 b3 b4 wp d1 d2 d3 d4 d5 hr e1 tr f1 cr g1 fb fv fc fw).map Prod.fst = (List.range 120).map (g_aGW h0 t a1 k b1 b2 b3 b4 wp d1 d2 d3 d4 d5 hr e1 tr f1 cr g1 fb fv fc fw) := by
  have h1 : List.range 120 = List.range 20 ++ ((List.range 21).map (fun j => 20 + j) ++ ((List.range 29).map (fun j => 41 + j) ++ ((List.range 21).map (fun j => 70 + j) ++ (List.range 29).map (fun j => 91 + j)))) := by decide
  have hf20 : (List.range 21).map (fun j => g_aGW h0 t a1 k b1 b2 b3 b4 wp d1 d2 d3 d4 d5 hr e1 tr f1 cr g1 fb fv fc fw (20 + j)) = (List.range 21).map fb := List.map_congr_left (fun j hj => by have := List.mem_range.mp hj; unfold g_aGW; rw [if_neg (by omega), if_pos (by omega)]; congr 1; omega)
  have hf41 : (List.range 29).map (fun j => g_aGW h0 t a1 k b1 b2 b3 b4 wp d1 d2 d3 d4 d5 hr e1 tr f1 cr g1 fb fv fc fw (41 + j)) = (List.range 29).map fv := List.map_congr_left (fun j hj => by have := List.mem_range.mp hj; unfold g_aGW; rw [if_neg (by omega), if_neg (by omega), if_pos (by omega)]; congr 1; omega)
  have hf70 : (List.range 21).map (fun j => g_aGW h0 t a1 k b1 b2 b3 b4 wp d1 d2 d3 d4 d5 hr e1 tr f1 cr g1 fb fv fc fw (70 + j)) = (List.range 21).map fc := List.map_congr_left (fun j hj => by have := List.mem_range.mp hj; unfold g_aGW; rw [if_neg (by omega), if_neg (by omega), if_neg (by omega), if_pos (by omega)]; congr 1; omega)
  have hf91 : (List.range 29).map (fun j => g_aGW h0 t a1 k b1 b2 b3 b4 wp d1 d2 d3 d4 d5 hr e1 tr f1 cr g1 fb fv fc fw (91 + j)) = (List.range 29).map fw := List.map_congr_left (fun j hj => by have := List.mem_range.mp hj; unfold g_aGW; rw [if_neg (by omega), if_neg (by omega), if_neg (by omega), if_neg (by omega)]; congr 1; omega)
  have h0 : (List.range 20).map (g_aGW h0 t a1 k b1 b2 b3 b4 wp d1 d2 d3 d4 d5 hr e1 tr f1 cr g1 fb fv fc fw) = [h0, t, a1, k, b1, b2, b3, b4, wp, d1, d2, d3, d4, d5, hr, e1, tr, f1, cr, g1] := rfl
  rw [h1]
  simp only [List.map_append, List.map_map, Function.comp_def]
  rw [hf20, hf41, hf70, hf91, h0]
  have r21 : List.range 21 = [0, 1, 2, 3, 4, 5, 6, 7, 8, 9, 10, 11, 12, 13, 14, 15, 16, 17, 18, 19, 20] := by decide
  have r29 : List.range 29 = [0, 1, 2, 3, 4, 5, 6, 7, 8, 9, 10, 11, 12, 13, 14, 15, 16, 17, 18, 19, 20, 21, 22, 23, 24, 25, 26, 27, 28] := by decide
  simp only [g_LGW, g_LRBe, g_LVoce, g_LTape, g_LTok, g_LWarp, g_LRow, g_LCourse, r21, r29, List.map_append, List.map_cons, List.map_nil, List.append_assoc, List.cons_append, List.nil_append]

