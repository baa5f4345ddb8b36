/-! the shapes of texts of expressions -/
def zxN (c t : Nat) (y : MS) : Option (Nat × MS) := (if h_rm y 4 = true then (if h_K (h_new y 54 (fun _ => 0) (fun _ => 0) 0 4) (h_nx y) = 54 then ((f_l_J4_init_da8c8 (h_nx y) (h_new y 54 (fun _ => 0) (fun _ => 0) 0 4)).bind fun q1 => if h_K q1 (h_nx y) = 54 then ((f_l_J4_append_15ec4 (h_nx y) c q1).bind fun q2 => if h_K q2.2 t = 51 then (if h_K q2.2 q2.1 = 54 then ((f_l_J4_append_bf812 q2.1 (h_I q2.2 t 1) q2.2).bind fun q3 => if h_K q3.2 q3.1 = 54 then ((f_l_J4_toString_0e30d q3.1 q3.2).bind fun q4 => some ((q4.1, q4.2))) else none) else none) else none) else none) else none) else none)
def zxU (c n t : Nat) (y : MS) : Option (Nat × MS) := (if h_rm y 4 = true then (if h_K (h_new y 54 (fun _ => 0) (fun _ => 0) 0 4) (h_nx y) = 54 then ((f_l_J4_init_da8c8 (h_nx y) (h_new y 54 (fun _ => 0) (fun _ => 0) 0 4)).bind fun q1 => if h_K q1 (h_nx y) = 54 then ((f_l_J4_append_15ec4 (h_nx y) c q1).bind fun q2 => if h_K q2.2 t = 51 then (if h_K q2.2 (h_R q2.2 t 2) = 51 then ((f_l_X14_text n (h_R q2.2 t 2) q2.2).bind fun q3 => if h_K q3.2 q2.1 = 54 then ((f_l_J4_append_15ec4 q2.1 q3.1 q3.2).bind fun q4 => if h_K q4.2 q4.1 = 54 then ((f_l_J4_toString_0e30d q4.1 q4.2).bind fun q5 => some ((q5.1, q5.2))) else none) else none) else none) else none) else none) else none) else none)
def zxB (a b c n t : Nat) (y : MS) : Option (Nat × MS) := (if h_rm y 4 = true then (if h_K (h_new y 54 (fun _ => 0) (fun _ => 0) 0 4) (h_nx y) = 54 then ((f_l_J4_init_da8c8 (h_nx y) (h_new y 54 (fun _ => 0) (fun _ => 0) 0 4)).bind fun q1 => if h_K q1 (h_nx y) = 54 then ((f_l_J4_append_15ec4 (h_nx y) a q1).bind fun q2 => if h_K q2.2 t = 51 then (if h_K q2.2 (h_R q2.2 t 2) = 51 then ((f_l_X14_text n (h_R q2.2 t 2) q2.2).bind fun q3 => if h_K q3.2 q2.1 = 54 then ((f_l_J4_append_15ec4 q2.1 q3.1 q3.2).bind fun q4 => if h_K q4.2 q4.1 = 54 then ((f_l_J4_append_15ec4 q4.1 b q4.2).bind fun q5 => if h_K q5.2 t = 51 then (if h_K q5.2 (h_R q5.2 t 3) = 51 then ((f_l_X14_text n (h_R q5.2 t 3) q5.2).bind fun q6 => if h_K q6.2 q5.1 = 54 then ((f_l_J4_append_15ec4 q5.1 q6.1 q6.2).bind fun q7 => if h_K q7.2 q7.1 = 54 then ((f_l_J4_append_15ec4 q7.1 c q7.2).bind fun q8 => if h_K q8.2 q8.1 = 54 then ((f_l_J4_toString_0e30d q8.1 q8.2).bind fun q9 => some ((q9.1, q9.2))) else none) else none) else none) else none) else none) else none) else none) else none) else none) else none) else none) else none)
def zxQ (n t : Nat) (y : MS) : Option (Nat × MS) := (if h_rm y 4 = true then (if h_K (h_new y 54 (fun _ => 0) (fun _ => 0) 0 4) (h_nx y) = 54 then ((f_l_J4_init_da8c8 (h_nx y) (h_new y 54 (fun _ => 0) (fun _ => 0) 0 4)).bind fun q1 => if h_K q1 t = 51 then (if h_K q1 (h_R q1 t 2) = 51 then ((f_l_X14_text n (h_R q1 t 2) q1).bind fun q2 => if h_K q2.2 (h_nx y) = 54 then ((f_l_J4_append_15ec4 (h_nx y) q2.1 q2.2).bind fun q3 => if h_K q3.2 t = 51 then (if g_ok ((h_I q3.2 t 0) - (8 : Int32)) 9 = true then (if h_K q3.2 q3.1 = 54 then ((f_l_J4_append_15ec4 q3.1 (84 + ((h_I q3.2 t 0) - (8 : Int32)).toNatClampNeg) q3.2).bind fun q4 => if h_K q4.2 t = 51 then (if h_K q4.2 (h_R q4.2 t 3) = 51 then ((f_l_X14_text n (h_R q4.2 t 3) q4.2).bind fun q5 => if h_K q5.2 q4.1 = 54 then ((f_l_J4_append_15ec4 q4.1 q5.1 q5.2).bind fun q6 => if h_K q6.2 q6.1 = 54 then ((f_l_J4_toString_0e30d q6.1 q6.2).bind fun q7 => some ((q7.1, q7.2))) else none) else none) else none) else none) else none) else none) else none) else none) else none) else none) else none) else none)
def zxP (n t : Nat) (y : MS) : Option (Nat × MS) := (if h_rm y 4 = true then (if h_K (h_new y 54 (fun _ => 0) (fun _ => 0) 0 4) (h_nx y) = 54 then ((f_l_J4_init_da8c8 (h_nx y) (h_new y 54 (fun _ => 0) (fun _ => 0) 0 4)).bind fun q1 => if h_K q1 (h_nx y) = 54 then ((f_l_J4_append_15ec4 (h_nx y) 77 q1).bind fun q2 => if h_K q2.2 t = 51 then (if h_K q2.2 (h_R q2.2 t 2) = 51 then ((f_l_X14_text n (h_R q2.2 t 2) q2.2).bind fun q3 => if h_K q3.2 q2.1 = 54 then ((f_l_J4_append_15ec4 q2.1 q3.1 q3.2).bind fun q4 => if h_K q4.2 t = 51 then (if g_ok ((h_I q4.2 t 0) - (8 : Int32)) 9 = true then (if h_K q4.2 q4.1 = 54 then ((f_l_J4_append_15ec4 q4.1 (84 + ((h_I q4.2 t 0) - (8 : Int32)).toNatClampNeg) q4.2).bind fun q5 => if h_K q5.2 t = 51 then (if h_K q5.2 (h_R q5.2 t 3) = 51 then ((f_l_X14_text n (h_R q5.2 t 3) q5.2).bind fun q6 => if h_K q6.2 q5.1 = 54 then ((f_l_J4_append_15ec4 q5.1 q6.1 q6.2).bind fun q7 => if h_K q7.2 q7.1 = 54 then ((f_l_J4_append_15ec4 q7.1 67 q7.2).bind fun q8 => if h_K q8.2 q8.1 = 54 then ((f_l_J4_toString_0e30d q8.1 q8.2).bind fun q9 => some ((q9.1, q9.2))) else none) else none) else none) else none) else none) else none) else none) else none) else none) else none) else none) else none) else none) else none)
section ZXS
variable {y : MS} {a b c i m n s t v w W : Nat} {X Y : List Nat}
/-- what a part's text is, wherever it is asked for later -/
def zxA (y : MS) (v : Nat) (X : List Nat) (f : MS → Option (Nat × MS)) : Prop := ∀ z, yF (fun _ => False) y z → yO z → 200 ≤ h_nx z → yb z v → zxT v z X (f z)
theorem zxA.mo {f : MS → Option (Nat × MS)} (h : zxA y v X f) (hv : v ≤ w) : zxA y w X f := fun z h1 h2 h3 h4 => (h z h1 h2 h3 (h4.mo hv)).m hv
theorem zxA.tt {f : MS → Option (Nat × MS)} {y0 : MS} {B : List Nat} (h : zxA y0 v X f) (hS : zxS y0 n s B y) (hO : yO y0) (hx : 200 ≤ h_nx y0) (hb : yb y0 (n + v)) : zxT v y X (f y) := h y hS.2.2.1 (hS.O hO).1 (Nat.le_trans hx (hS.O hO).2) ((hb.g hS.2.1 (by omega)).mo (by omega))
theorem zx_N (hk : h_K y t = 51) (hI : h_I y t 1 = nI m) (hm : m < 1000000) (hc : c < 93) (hb : yb y 10) (hO : yO y) (hx : 200 ≤ h_nx y) : zxT 10 y (pp_tx c ++ zdg m) (zxN c t y) := by
  have lc := (zxC c hc).2.2
  unfold zxN
  obtain ⟨y1, e1, s1⟩ := zx_new (α := Nat × MS) (hb.mo (by omega)) hO hx
  rw [e1, if_pos s1.1.1.1]
  obtain ⟨y2, e2, s2⟩ := zx_app (α := Nat × MS) s1 (zxH hc) (by show 0 + _ ≤ 299; omega) (hb.mo (by omega)) hO hx
  have e2' := fun F => (if_pos s1.1.1.1).symm.trans (e2 F)
  rw [e2']
  have d2 := s2.nd hO (Or.inl hk)
  rw [if_pos (d2.1.trans hk)]
  obtain ⟨y3, e3, s3⟩ := zx_num (α := Nat × MS) s2 (v := h_I y2 t 1) (by rw [d2.2.1]; exact hI) hm (by show (pp_tx c).length ≤ 290; omega) (hb.mo (by omega)) hO hx
  rw [e3]
  obtain ⟨i4, y4, e4, h4, g4, f4⟩ := zx_str (α := Nat × MS) s3 (hb.mo (by omega)) hO hx
  rw [e4]
  exact ⟨i4, y4, rfl, h4, g4.mo (by omega), f4⟩
theorem zx_U (hk : h_K y t = 51) (hk2 : h_K y (h_R y t 2) = 51) (hX : zxA y v X (f_l_X14_text n (h_R y t 2))) (hl : X.length ≤ 120) (hc : c < 93) (hb : yb y (v + 10)) (hO : yO y) (hx : 200 ≤ h_nx y) : zxT (v + 10) y (pp_tx c ++ X) (zxU c n t y) := by
  have lc := (zxC c hc).2.2
  unfold zxU
  obtain ⟨y1, e1, s1⟩ := zx_new (α := Nat × MS) (hb.mo (by omega)) hO hx
  rw [e1]
  obtain ⟨y2, e2, s2⟩ := zx_app (α := Nat × MS) s1 (zxH hc) (by show 0 + _ ≤ 299; omega) (hb.mo (by omega)) hO hx
  rw [e2]
  have d2 := s2.nd hO (Or.inl hk)
  have d22 := s2.nd hO (Or.inl hk2)
  rw [if_pos (d2.1.trans hk)]
  show zxT _ _ _ (if h_K y2 (h_R y2 t 2) = 51 then (f_l_X14_text n (h_R y2 t 2) y2).bind _ else none)
  rw [d2.2.2.1, if_pos (d22.1.trans hk2)]
  obtain ⟨i3, y3, e3, h3, s3⟩ := zx_txt (α := Nat × MS) s2 hO (hX.tt s2 hO hx (hb.mo (by omega)))
  rw [e3]
  obtain ⟨y4, e4, s4⟩ := zx_app (α := Nat × MS) s3 h3 (by show (pp_tx c).length + _ ≤ 299; omega) (hb.mo (by omega)) hO hx
  rw [e4]
  obtain ⟨i5, y5, e5, h5, g5, f5⟩ := zx_str (α := Nat × MS) s4 (hb.mo (by omega)) hO hx
  rw [e5]
  exact ⟨i5, y5, rfl, h5, g5.mo (by omega), f5⟩
theorem zx_B (hk : h_K y t = 51) (hk2 : h_K y (h_R y t 2) = 51) (hk3 : h_K y (h_R y t 3) = 51) (hX : zxA y v X (f_l_X14_text n (h_R y t 2))) (hY : zxA y w Y (f_l_X14_text n (h_R y t 3))) (hl : X.length ≤ 110) (hl2 : Y.length ≤ 110) (ha : a < 93) (hb' : b < 93) (hc : c < 93) (hb : yb y (v + w + 13)) (hO : yO y) (hx : 200 ≤ h_nx y) : zxT (v + w + 13) y (pp_tx a ++ X ++ pp_tx b ++ Y ++ pp_tx c) (zxB a b c n t y) := by
  have la := (zxC a ha).2.2
  have lb := (zxC b hb').2.2
  have lc := (zxC c hc).2.2
  unfold zxB
  obtain ⟨y1, e1, s1⟩ := zx_new (α := Nat × MS) (hb.mo (by omega)) hO hx
  rw [e1]
  obtain ⟨y2, e2, s2⟩ := zx_app (α := Nat × MS) s1 (zxH ha) (by show 0 + _ ≤ 299; omega) (hb.mo (by omega)) hO hx
  rw [e2]
  have d2 := s2.nd hO (Or.inl hk)
  have d22 := s2.nd hO (Or.inl hk2)
  rw [if_pos (d2.1.trans hk)]
  show zxT _ _ _ (if h_K y2 (h_R y2 t 2) = 51 then (f_l_X14_text n (h_R y2 t 2) y2).bind _ else none)
  rw [d2.2.2.1, if_pos (d22.1.trans hk2)]
  obtain ⟨i3, y3, e3, h3, s3⟩ := zx_txt (α := Nat × MS) s2 hO (hX.tt s2 hO hx (hb.mo (by omega)))
  rw [e3]
  obtain ⟨y4, e4, s4⟩ := zx_app (α := Nat × MS) s3 h3 (by show (pp_tx a).length + _ ≤ 299; omega) (hb.mo (by omega)) hO hx
  rw [e4]
  obtain ⟨y5, e5, s5⟩ := zx_app (α := Nat × MS) s4 (zxH hb') (by show (pp_tx a ++ X).length + _ ≤ 299; rw [List.length_append]; omega) (hb.mo (by omega)) hO hx
  rw [e5]
  have d5 := s5.nd hO (Or.inl hk)
  have d53 := s5.nd hO (Or.inl hk3)
  rw [if_pos (d5.1.trans hk)]
  show zxT _ _ _ (if h_K y5 (h_R y5 t 3) = 51 then (f_l_X14_text n (h_R y5 t 3) y5).bind _ else none)
  rw [d5.2.2.1, if_pos (d53.1.trans hk3)]
  obtain ⟨i6, y6, e6, h6, s6⟩ := zx_txt (α := Nat × MS) s5 hO (hY.tt s5 hO hx (hb.mo (by omega)))
  rw [e6]
  have l6 : ([] ++ pp_tx a ++ X ++ pp_tx b).length = (pp_tx a).length + X.length + (pp_tx b).length := by simp only [List.length_append, List.nil_append]
  obtain ⟨y7, e7, s7⟩ := zx_app (α := Nat × MS) s6 h6 (by omega) (hb.mo (by omega)) hO hx
  rw [e7]
  obtain ⟨y8, e8, s8⟩ := zx_app (α := Nat × MS) s7 (zxH hc) (by rw [List.length_append]; omega) (hb.mo (by omega)) hO hx
  rw [e8]
  obtain ⟨i9, y9, e9, h9, g9, f9⟩ := zx_str (α := Nat × MS) s8 (hb.mo (by omega)) hO hx
  rw [e9]
  exact ⟨i9, y9, rfl, h9, g9.mo (by omega), f9⟩
theorem zx_P (hk : h_K y t = 51) (hs : h_I y t 0 = nI s) (hs8 : 8 ≤ s) (hs17 : s < 17) (hk2 : h_K y (h_R y t 2) = 51) (hk3 : h_K y (h_R y t 3) = 51) (hX : zxA y v X (f_l_X14_text n (h_R y t 2))) (hY : zxA y w Y (f_l_X14_text n (h_R y t 3))) (hl : X.length ≤ 110) (hl2 : Y.length ≤ 110) (hb : yb y (v + w + 13)) (hO : yO y) (hx : 200 ≤ h_nx y) : zxT (v + w + 13) y (pp_tx 77 ++ X ++ pp_tx (84 + (s - 8)) ++ Y ++ pp_tx 67) (zxP n t y) := by
  have la := (zxC 77 (by decide)).2.2
  have lb := (zxC (84 + (s - 8)) (by omega)).2.2
  have lc := (zxC 67 (by decide)).2.2
  unfold zxP
  obtain ⟨y1, e1, s1⟩ := zx_new (α := Nat × MS) (hb.mo (by omega)) hO hx
  rw [e1]
  obtain ⟨y2, e2, s2⟩ := zx_app (α := Nat × MS) s1 (zxH (c := 77) (by decide)) (by show 0 + _ ≤ 299; omega) (hb.mo (by omega)) hO hx
  rw [e2]
  have d2 := s2.nd hO (Or.inl hk)
  have d22 := s2.nd hO (Or.inl hk2)
  rw [if_pos (d2.1.trans hk)]
  show zxT _ _ _ (if h_K y2 (h_R y2 t 2) = 51 then (f_l_X14_text n (h_R y2 t 2) y2).bind _ else none)
  rw [d2.2.2.1, if_pos (d22.1.trans hk2)]
  obtain ⟨i3, y3, e3, h3, s3⟩ := zx_txt (α := Nat × MS) s2 hO (hX.tt s2 hO hx (hb.mo (by omega)))
  rw [e3]
  obtain ⟨y4, e4, s4⟩ := zx_app (α := Nat × MS) s3 h3 (by show (pp_tx 77).length + _ ≤ 299; omega) (hb.mo (by omega)) hO hx
  rw [e4]
  have d4 := s4.nd hO (Or.inl hk)
  rw [if_pos (d4.1.trans hk)]
  have hI4 : h_I y4 t 0 - (8 : Int32) = nI (s - 8) := by rw [d4.2.1, hs]; exact pk_sub (b := 8) (by omega)
  show zxT _ _ _ (if g_ok (h_I y4 t 0 - (8 : Int32)) 9 = true then (if h_K y4 _ = 54 then (f_l_J4_append_15ec4 _ (84 + (h_I y4 t 0 - (8 : Int32)).toNatClampNeg) y4).bind _ else none) else none)
  rw [hI4, if_pos ((pp_ok (by omega)).mpr (by omega)), nI_clamp (by omega)]
  obtain ⟨y5, e5, s5⟩ := zx_app (α := Nat × MS) s4 (zxH (c := 84 + (s - 8)) (by omega)) (by show (pp_tx 77 ++ X).length + _ ≤ 299; rw [List.length_append]; omega) (hb.mo (by omega)) hO hx
  rw [e5]
  have d5 := s5.nd hO (Or.inl hk)
  have d53 := s5.nd hO (Or.inl hk3)
  rw [if_pos (d5.1.trans hk)]
  show zxT _ _ _ (if h_K y5 (h_R y5 t 3) = 51 then (f_l_X14_text n (h_R y5 t 3) y5).bind _ else none)
  rw [d5.2.2.1, if_pos (d53.1.trans hk3)]
  obtain ⟨i6, y6, e6, h6, s6⟩ := zx_txt (α := Nat × MS) s5 hO (hY.tt s5 hO hx (hb.mo (by omega)))
  rw [e6]
  have l6 : ([] ++ pp_tx 77 ++ X ++ pp_tx (84 + (s - 8))).length = (pp_tx 77).length + X.length + (pp_tx (84 + (s - 8))).length := by simp only [List.length_append, List.nil_append]
  obtain ⟨y7, e7, s7⟩ := zx_app (α := Nat × MS) s6 h6 (by omega) (hb.mo (by omega)) hO hx
  rw [e7]
  obtain ⟨y8, e8, s8⟩ := zx_app (α := Nat × MS) s7 (zxH (c := 67) (by decide)) (by rw [List.length_append]; omega) (hb.mo (by omega)) hO hx
  rw [e8]
  obtain ⟨i9, y9, e9, h9, g9, f9⟩ := zx_str (α := Nat × MS) s8 (hb.mo (by omega)) hO hx
  rw [e9]
  exact ⟨i9, y9, rfl, h9, g9.mo (by omega), f9⟩
theorem zx_Q (hk : h_K y t = 51) (hs : h_I y t 0 = nI s) (hs8 : 8 ≤ s) (hs17 : s < 17) (hk2 : h_K y (h_R y t 2) = 51) (hk3 : h_K y (h_R y t 3) = 51) (hX : zxA y v X (f_l_X14_text n (h_R y t 2))) (hY : zxA y w Y (f_l_X14_text n (h_R y t 3))) (hl : X.length ≤ 110) (hl2 : Y.length ≤ 110) (hb : yb y (v + w + 13)) (hO : yO y) (hx : 200 ≤ h_nx y) : zxT (v + w + 11) y (X ++ pp_tx (84 + (s - 8)) ++ Y) (zxQ n t y) := by
  have lb := (zxC (84 + (s - 8)) (by omega)).2.2
  unfold zxQ
  obtain ⟨y2, e2, s2⟩ := zx_new (α := Nat × MS) (hb.mo (by omega)) hO hx
  rw [e2]
  have d2 := s2.nd hO (Or.inl hk)
  have d22 := s2.nd hO (Or.inl hk2)
  rw [if_pos (d2.1.trans hk), d2.2.2.1, if_pos (d22.1.trans hk2)]
  obtain ⟨i3, y3, e3, h3, s3⟩ := zx_txt (α := Nat × MS) s2 hO (hX.tt s2 hO hx (hb.mo (by omega)))
  rw [e3]
  obtain ⟨y4, e4, s4⟩ := zx_app (α := Nat × MS) s3 h3 (by show 0 + _ ≤ 299; omega) (hb.mo (by omega)) hO hx
  rw [e4]
  have d4 := s4.nd hO (Or.inl hk)
  rw [if_pos (d4.1.trans hk)]
  have hI4 : h_I y4 t 0 - (8 : Int32) = nI (s - 8) := by rw [d4.2.1, hs]; exact pk_sub (b := 8) (by omega)
  show zxT _ _ _ (if g_ok (h_I y4 t 0 - (8 : Int32)) 9 = true then (if h_K y4 _ = 54 then (f_l_J4_append_15ec4 _ (84 + (h_I y4 t 0 - (8 : Int32)).toNatClampNeg) y4).bind _ else none) else none)
  rw [hI4, if_pos ((pp_ok (by omega)).mpr (by omega)), nI_clamp (by omega)]
  obtain ⟨y5, e5, s5⟩ := zx_app (α := Nat × MS) s4 (zxH (c := 84 + (s - 8)) (by omega)) (by show X.length + _ ≤ 299; omega) (hb.mo (by omega)) hO hx
  rw [e5]
  have d5 := s5.nd hO (Or.inl hk)
  have d53 := s5.nd hO (Or.inl hk3)
  rw [if_pos (d5.1.trans hk)]
  show zxT _ _ _ (if h_K y5 (h_R y5 t 3) = 51 then (f_l_X14_text n (h_R y5 t 3) y5).bind _ else none)
  rw [d5.2.2.1, if_pos (d53.1.trans hk3)]
  obtain ⟨i6, y6, e6, h6, s6⟩ := zx_txt (α := Nat × MS) s5 hO (hY.tt s5 hO hx (hb.mo (by omega)))
  rw [e6]
  have l6 : ([] ++ X ++ pp_tx (84 + (s - 8))).length = X.length + (pp_tx (84 + (s - 8))).length := by simp only [List.length_append, List.nil_append]
  obtain ⟨y7, e7, s7⟩ := zx_app (α := Nat × MS) s6 h6 (by omega) (hb.mo (by omega)) hO hx
  rw [e7]
  obtain ⟨i9, y9, e9, h9, g9, f9⟩ := zx_str (α := Nat × MS) s7 (hb.mo (by omega)) hO hx
  rw [e9]
  exact ⟨i9, y9, rfl, h9, g9.mo (by omega), f9⟩
end ZXS
