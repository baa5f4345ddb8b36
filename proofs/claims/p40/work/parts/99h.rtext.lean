/-! the texts of rules -/
section ZXR
variable {y y0 y' : MS} {i n s t u W : Nat} {B C : List Nat} {r : ZR}
theorem zxS.adv (h : zxS y0 n s B y) (hO : yO y0) (e3 : yG u y y') (e4 : yF (fun _ => False) y y') : zxS y0 (n + u) s B y' := by
  have h54 := h.1.1.1
  have o1 := (h.O hO).1
  have es := e4 s (o1.k h54) (fun q => q)
  refine ⟨h.1.nn o1 e4, h.2.1.tr e3, h.2.2.1.tr e4 h.2.1, h.2.2.2.1, ?_⟩
  rw [es.2.2.1]
  exact h.2.2.2.2
theorem zhr.F (h : zhr W y t r) (hO : yO y) (hF : yF (fun _ => False) y y') : zhr W y' t r := h.E ⟨yP.F hF hO (fun _ _ q => q), fun j hj => hF j (hO.k hj) (fun q => q)⟩
theorem zx_109 (h : zxS y0 n s B y) (hC : zH y i C) (hr : zhr W y0 t r) (hW : W ≤ 8) (hL : B.length + C.length ≤ 90) (hb : yb y0 (n + 145)) (hO : yO y0) (hx : 200 ≤ h_nx y0) : zxT (n + 145) y0 (B ++ C ++ (if r.2.2.2.1 ≠ 0 then pp_tx 83 ++ zibs (zi3 r.2.2.2.2) ++ pp_tx 82 else pp_tx 82)) (f_l_X15_text_109 t i s y) := by
  have l82 := (zxC 82 (by decide)).2.2
  have l83 := (zxC 83 (by decide)).2.2
  unfold f_l_X15_text_109
  obtain ⟨y1, e1, s1⟩ := zx_app (α := Nat × MS) h hC (by omega) (hb.mo (by omega)) hO hx
  have lBC : (B ++ C).length = B.length + C.length := List.length_append
  rw [e1]
  have d1 := s1.nd hO (Or.inr hr.1)
  rw [if_pos (d1.1.trans hr.1)]
  show zxT _ _ _ (if h_R y1 t 3 < 200 then _ else _)
  rw [d1.2.2.1]
  by_cases hf : r.2.2.2.1 = 0
  · rw [if_pos (hr.2.2.2.2.2.2.1 hf), if_neg (fun q => q hf)]
    obtain ⟨y2, e2, s2⟩ := zx_app (α := Nat × MS) s1 (zxH (c := 82) (by decide)) (by omega) (hb.mo (by omega)) hO hx
    rw [e2]
    obtain ⟨i3, y3, e3, h3, g3, f3⟩ := zx_str (α := Nat × MS) s2 (hb.mo (by omega)) hO hx
    rw [e3]
    exact ⟨i3, y3, rfl, h3, g3.mo (by omega), f3⟩
  · have hr1 : zhr W y1 t r := hr.F hO s1.2.2.1
    obtain ⟨hR, h3⟩ := hr1.2.2.2.2.2.2.2 hf
    rw [← d1.2.2.1, if_neg (show ¬ h_R y1 t 3 < 200 by omega), if_pos (show r.2.2.2.1 ≠ 0 from hf)]
    have o1 := (s1.O hO).1
    have x1 : 200 ≤ h_nx y1 := Nat.le_trans hx (s1.O hO).2
    have b1 : yb y1 136 := (hb.g s1.2.1 (by omega)).mo (by omega)
    obtain ⟨y2, e2, s2⟩ := zx_new (α := Nat × MS) (b1.mo (by omega)) o1 x1
    rw [e2]
    obtain ⟨y3, e3, s3⟩ := zx_app (α := Nat × MS) s2 (zxH (c := 83) (by decide)) (by show 0 + _ ≤ 299; omega) (b1.mo (by omega)) o1 x1
    rw [e3]
    have d3 := s3.nd o1 (Or.inr hr1.1)
    have d33 := s3.nd o1 (Or.inl h3.k)
    rw [if_pos (d3.1.trans hr1.1)]
    show zxT _ _ _ (if h_K y3 (h_R y3 t 3) = 51 then (f_l_X14_text 6 (h_R y3 t 3) y3).bind _ else none)
    rw [d3.2.2.1, if_pos (d33.1.trans h3.k)]
    have o3 := (s3.O o1).1
    have x3 : 200 ≤ h_nx y3 := Nat.le_trans x1 (s3.O o1).2
    have l3 := (zp_3 h3.w hW).2.2
    obtain ⟨i4, y4, e4, h4, s4⟩ := zx_txt (α := Nat × MS) s3 o1 (zx3 (n := 2) (h3.P (yP.F s3.2.2.1 o1 (fun _ _ q => q))) hW ((b1.g s3.2.1 (by omega)).mo (by omega)) o3 x3)
    rw [e4]
    obtain ⟨y5, e5, s5⟩ := zx_app (α := Nat × MS) s4 h4 (by show (pp_tx 83).length + _ ≤ 299; omega) (b1.mo (by omega)) o1 x1
    rw [e5]
    have l5 : ([] ++ pp_tx 83 ++ zibs (zi3 r.2.2.2.2)).length = (pp_tx 83).length + (zibs (zi3 r.2.2.2.2)).length := by simp only [List.length_append, List.nil_append]
    obtain ⟨y6, e6, s6⟩ := zx_app (α := Nat × MS) s5 (zxH (c := 82) (by decide)) (by omega) (b1.mo (by omega)) o1 x1
    rw [e6]
    obtain ⟨i7, y7, e7, h7, g7, f7⟩ := zx_str (α := Nat × MS) s6 (b1.mo (by omega)) o1 x1
    rw [e7]
    have s7 := s1.adv hO g7 f7
    have l7 : ([] ++ pp_tx 83 ++ zibs (zi3 r.2.2.2.2) ++ pp_tx 82).length = (pp_tx 83).length + (zibs (zi3 r.2.2.2.2)).length + (pp_tx 82).length := by simp only [List.length_append, List.nil_append]
    obtain ⟨y8, e8, s8⟩ := zx_app (α := Nat × MS) s7 h7 (by omega) (hb.mo (by omega)) hO hx
    rw [e8]
    obtain ⟨i9, y9, e9, h9, g9, f9⟩ := zx_str (α := Nat × MS) s8 (hb.mo (by omega)) hO hx
    rw [e9]
    exact ⟨i9, y9, rfl, h9, g9.mo (by omega), f9⟩
theorem zxk3 : pp_tx 78 = pp_tx 9 ++ [32] ++ [119] ∧ pp_tx 79 = pp_tx 10 ++ [32] ++ [119] ∧ pp_tx 80 = pp_tx 11 ++ [32] ++ [119] ∧ pp_tx 81 = [32] ++ pp_tx 12 ++ [32] ∧ pp_tx 82 = pp_tx 30 ∧ pp_tx 83 = [32] ++ pp_tx 13 ++ [32] := by decide +kernel
theorem zx_rB {c : Nat} (h1 : r.1 ≤ 2) (hc : pp_tx c = pp_tx (9 + r.1) ++ [32] ++ [119]) : zibs (zir r) = [] ++ (pp_tx c ++ zdg r.2.1 ++ (if r.1 = 2 then pp_tx 81 ++ zibs (zi1 r.2.2.1) else [])) ++ (if r.2.2.2.1 ≠ 0 then pp_tx 83 ++ zibs (zi3 r.2.2.2.2) ++ pp_tx 82 else pp_tx 82) := by
  obtain ⟨k78, k79, k80, k81, k82, k83⟩ := zxk3
  rw [hc, k81, k82, k83]
  unfold zir
  simp only [zibsA, zxib, zxin, zxi (s := 9 + r.1) (by omega), zxi (s := 30) (by decide), List.nil_append, List.append_assoc]
  have e1 : zibs (if r.1 = 2 then [(50, 0)] ++ ([(12, 0)] ++ ([(50, 0)] ++ zi1 r.2.2.1)) else []) = if r.1 = 2 then [32] ++ (pp_tx 12 ++ ([32] ++ zibs (zi1 r.2.2.1))) else [] := by
    by_cases q : r.1 = 2
    · rw [if_pos q, if_pos q]
      simp only [zibsA, zxib, zxi (s := 12) (by decide)]
    · rw [if_neg q, if_neg q]; rfl
  have e2 : zibs (if r.2.2.2.1 ≠ 0 then [(50, 0)] ++ ([(13, 0)] ++ ([(50, 0)] ++ zi3 r.2.2.2.2)) else []) ++ pp_tx 30 = if r.2.2.2.1 ≠ 0 then [32] ++ (pp_tx 13 ++ ([32] ++ (zibs (zi3 r.2.2.2.2) ++ pp_tx 30))) else pp_tx 30 := by
    by_cases q : r.2.2.2.1 ≠ 0
    · rw [if_pos q, if_pos q]
      simp only [zibsA, zxib, zxi (s := 13) (by decide), List.append_assoc]
    · rw [if_neg q, if_neg q]; rfl
  rw [e1, e2]
/-- the text of a rule -/
theorem zx_rt (hr : zhr W y t r) (hW : W ≤ 8) (hb : yb y 200) (hO : yO y) (hx : 200 ≤ h_nx y) : zxT 200 y (zibs (zir r)) (f_l_X15_text t y) := by
  obtain ⟨k78, k79, k80, k81, k82, k83⟩ := zxk3
  have l78 := (zxC 78 (by decide)).2.2
  have l79 := (zxC 79 (by decide)).2.2
  have l80 := (zxC 80 (by decide)).2.2
  have l81 := (zxC 81 (by decide)).2.2
  have hwr := hr.w
  have h2 := hr.2.2.1
  have hw8 : r.2.1 < 1000000 := by have := hr.2.2.2.2.1; omega
  have ldg : (zdg r.2.1).length ≤ 6 := (zdg_len hw8).1
  obtain ⟨y1, e1, s1⟩ := zx_new (α := Nat × MS) (hb.mo (by omega)) hO hx
  unfold f_l_X15_text
  rw [e1]
  have d1 := s1.nd hO (Or.inr hr.1)
  have hr1 : zhr W y1 t r := hr.F hO s1.2.2.1
  have o1 := (s1.O hO).1
  have x1 : 200 ≤ h_nx y1 := Nat.le_trans hx (s1.O hO).2
  have b1 : yb y1 190 := (hb.g s1.2.1 (by omega)).mo (by omega)
  rw [if_pos hr1.1, hr1.2.1]
  have h' : r.1 = 0 ∨ r.1 = 1 ∨ r.1 = 2 := by omega
  rcases h' with q | q | q
  · rw [zx_rB (c := 78) h2 (by rw [q]; exact k78), if_neg (show ¬ r.1 = 2 by omega), if_pos (show nI r.1 = 0 by rw [q]; rfl)]
    obtain ⟨y2, e2, s2⟩ := zx_new (α := Nat × MS) (b1.mo (by omega)) o1 x1
    rw [e2]
    obtain ⟨y3, e3, s3⟩ := zx_app (α := Nat × MS) s2 (zxH (c := 78) (by decide)) (by show 0 + _ ≤ 299; omega) (b1.mo (by omega)) o1 x1
    rw [e3]
    have d3 := s3.nd o1 (Or.inr hr1.1)
    rw [if_pos (d3.1.trans hr1.1)]
    obtain ⟨y4, e4, s4⟩ := zx_num (α := Nat × MS) s3 (v := h_I y3 t 1) (by rw [d3.2.1]; exact hr1.2.2.2.1) hw8 (by show (pp_tx 78).length ≤ 290; omega) (b1.mo (by omega)) o1 x1
    rw [e4]
    obtain ⟨i5, y5, e5, h5, g5, f5⟩ := zx_str (α := Nat × MS) s4 (b1.mo (by omega)) o1 x1
    rw [e5]
    have s5 := s1.adv hO g5 f5
    rw [List.append_nil]
    exact (zx_109 s5 h5 hr hW (by show 0 + ([] ++ pp_tx 78 ++ zdg r.2.1).length ≤ 90; simp only [List.length_append, List.nil_append]; omega) (hb.mo (by omega)) hO hx).m (by omega)
  · rw [zx_rB (c := 79) h2 (by rw [q]; exact k79), if_neg (show ¬ r.1 = 2 by omega), if_neg (show ¬ nI r.1 = 0 by rw [q]; decide), if_pos (show nI r.1 = (1 : Int32) by rw [q]; rfl)]
    obtain ⟨y2, e2, s2⟩ := zx_new (α := Nat × MS) (b1.mo (by omega)) o1 x1
    rw [e2]
    obtain ⟨y3, e3, s3⟩ := zx_app (α := Nat × MS) s2 (zxH (c := 79) (by decide)) (by show 0 + _ ≤ 299; omega) (b1.mo (by omega)) o1 x1
    rw [e3]
    have d3 := s3.nd o1 (Or.inr hr1.1)
    rw [if_pos (d3.1.trans hr1.1)]
    obtain ⟨y4, e4, s4⟩ := zx_num (α := Nat × MS) s3 (v := h_I y3 t 1) (by rw [d3.2.1]; exact hr1.2.2.2.1) hw8 (by show (pp_tx 79).length ≤ 290; omega) (b1.mo (by omega)) o1 x1
    rw [e4]
    obtain ⟨i5, y5, e5, h5, g5, f5⟩ := zx_str (α := Nat × MS) s4 (b1.mo (by omega)) o1 x1
    rw [e5]
    have s5 := s1.adv hO g5 f5
    rw [List.append_nil]
    exact (zx_109 s5 h5 hr hW (by show 0 + ([] ++ pp_tx 79 ++ zdg r.2.1).length ≤ 90; simp only [List.length_append, List.nil_append]; omega) (hb.mo (by omega)) hO hx).m (by omega)
  · have hz := hr1.2.2.2.2.2.1 q
    have lz := (zp_1 hz.w hW).1.2.2
    rw [zx_rB (c := 80) h2 (by rw [q]; exact k80), if_pos q, if_neg (show ¬ nI r.1 = 0 by rw [q]; decide), if_neg (show ¬ nI r.1 = (1 : Int32) by rw [q]; decide)]
    obtain ⟨y2, e2, s2⟩ := zx_new (α := Nat × MS) (b1.mo (by omega)) o1 x1
    rw [e2]
    obtain ⟨y3, e3, s3⟩ := zx_app (α := Nat × MS) s2 (zxH (c := 80) (by decide)) (by show 0 + _ ≤ 299; omega) (b1.mo (by omega)) o1 x1
    rw [e3]
    have d3 := s3.nd o1 (Or.inr hr1.1)
    rw [if_pos (d3.1.trans hr1.1)]
    obtain ⟨y4, e4, s4⟩ := zx_num (α := Nat × MS) s3 (v := h_I y3 t 1) (by rw [d3.2.1]; exact hr1.2.2.2.1) hw8 (by show (pp_tx 80).length ≤ 290; omega) (b1.mo (by omega)) o1 x1
    rw [e4]
    obtain ⟨y5, e5, s5⟩ := zx_app (α := Nat × MS) s4 (zxH (c := 81) (by decide)) (by show (pp_tx 80 ++ zdg r.2.1).length + _ ≤ 299; rw [List.length_append]; omega) (b1.mo (by omega)) o1 x1
    rw [e5]
    have d5 := s5.nd o1 (Or.inr hr1.1)
    have d52 := s5.nd o1 (Or.inl hz.k)
    rw [if_pos (d5.1.trans hr1.1)]
    show zxT _ _ _ (if h_K y5 (h_R y5 t 2) = 51 then (f_l_X14_text 6 (h_R y5 t 2) y5).bind _ else none)
    rw [d5.2.2.1, if_pos (d52.1.trans hz.k)]
    have o5 := (s5.O o1).1
    have x5 : 200 ≤ h_nx y5 := Nat.le_trans x1 (s5.O o1).2
    obtain ⟨i6, y6, e6, h6, s6⟩ := zx_txt (α := Nat × MS) s5 o1 (zx1 (n := 4) (hz.P (yP.F s5.2.2.1 o1 (fun _ _ q => q))) hW ((b1.g s5.2.1 (by omega)).mo (by omega)) o5 x5)
    rw [e6]
    have l6 : ([] ++ pp_tx 80 ++ zdg r.2.1 ++ pp_tx 81).length = (pp_tx 80).length + (zdg r.2.1).length + (pp_tx 81).length := by simp only [List.length_append, List.nil_append]
    obtain ⟨y7, e7, s7⟩ := zx_app (α := Nat × MS) s6 h6 (by omega) (b1.mo (by omega)) o1 x1
    rw [e7]
    obtain ⟨i8, y8, e8, h8, g8, f8⟩ := zx_str (α := Nat × MS) s7 (b1.mo (by omega)) o1 x1
    rw [e8]
    have s8 := s1.adv hO g8 f8
    have eB : [] ++ pp_tx 80 ++ zdg r.2.1 ++ pp_tx 81 ++ zibs (zi1 r.2.2.1) = pp_tx 80 ++ zdg r.2.1 ++ (pp_tx 81 ++ zibs (zi1 r.2.2.1)) := by simp only [List.nil_append, List.append_assoc]
    rw [← eB]
    exact (zx_109 s8 h8 hr hW (by show 0 + _ ≤ 90; rw [List.length_append]; omega) (hb.mo (by omega)) hO hx).m (by omega)
end ZXR
