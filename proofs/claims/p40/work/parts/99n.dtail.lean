/-! behind the words of a drawn language -/
section ZON
variable {y z : MS} {d sb W g nr hb hn w : Nat} {τ : TI} {P : Nat → Nat → ZP} {M nl : Nat → Nat} {rs : Nat → ZR}
theorem zoT.wi0 {v : Nat} (h : zoT τ W g nr w P M y) : zoT τ W v nr w P M (h_wi y (ti_t τ) 0 (nI v)) := by
  obtain ⟨⟨a1, a2, a3, a4, a5, a6, a7, a8, a9, a10⟩, ⟨b1, b2⟩, ⟨c1, c2, c3⟩, ⟨d1, d2⟩, ⟨f1, f2⟩, n1, ⟨g1, g2⟩, hw⟩ := h
  refine ⟨⟨a1, ?_, ?_, a4, a5, a6, ?_, ?_, a9, a10⟩, ⟨b1, b2⟩, ⟨c1, c2, ?_⟩, ⟨d1, d2⟩, ⟨f1, f2⟩, n1, ⟨g1, g2⟩, fun j hj => ⟨(hw j hj).1.e ⟨rfl, ywi_In (fun q => ?_), rfl, rfl⟩, (hw j hj).2⟩⟩
  · rw [ywi_I, pp_u1]
  · rw [ywi_I, pp_u2 (by decide)]; exact a3
  · rw [ywi_I, pp_u2 (by decide)]; exact a7
  · rw [ywi_I, pp_u2 (by decide)]; exact a8
  · rw [ywi_In (fun q => by rw [q] at c1; omega)]; exact c3
  · have k := (hw j hj).1.1
    rw [q] at k
    omega
theorem zoT.wi1 {v : Nat} (h : zoT τ W g nr w P M y) : zoT τ W g v w P M (h_wi y (ti_t τ) 1 (nI v)) := by
  obtain ⟨⟨a1, a2, a3, a4, a5, a6, a7, a8, a9, a10⟩, ⟨b1, b2⟩, ⟨c1, c2, c3⟩, ⟨d1, d2⟩, ⟨f1, f2⟩, n1, ⟨g1, g2⟩, hw⟩ := h
  refine ⟨⟨a1, ?_, ?_, a4, a5, a6, ?_, ?_, a9, a10⟩, ⟨b1, b2⟩, ⟨c1, c2, ?_⟩, ⟨d1, d2⟩, ⟨f1, f2⟩, n1, ⟨g1, g2⟩, fun j hj => ⟨(hw j hj).1.e ⟨rfl, ywi_In (fun q => ?_), rfl, rfl⟩, (hw j hj).2⟩⟩
  · rw [ywi_I, pp_u2 (by decide)]; exact a2
  · rw [ywi_I, pp_u1]
  · rw [ywi_I, pp_u2 (by decide)]; exact a7
  · rw [ywi_I, pp_u2 (by decide)]; exact a8
  · rw [ywi_In (fun q => by rw [q] at c1; omega)]; exact c3
  · have k := (hw j hj).1.1
    rw [q] at k
    omega
theorem zo_487 (hS : zoS d sb (zibs (zlang P M nl rs W hb g hn nr 0)) y) (hT : zoT τ W g nr W P M y) (hL : zwL P M rs W hb g hn nr 0) (hW : 0 < W) (hb' : yb y 881) : zoZ d sb (ti_t τ) W 881 y (f_l_L_drawn_487 d sb (4 : Int32) (ti_t τ) (nI W) y) := by
  have hW8 := hL.1
  obtain ⟨R, y1, hR, e1, S1, g1, F1, n1⟩ := hS.di (n := 5) (by omega) (by omega)
  have e1' : f_l_X13_next d ((4 : Int32) + 1) y = some (nI R, y1) := e1
  have b1 : yb y1 881 := hb'.g g1 (by omega)
  unfold f_l_L_drawn_487
  rw [if_neg (nI_ne0 (by omega) (by omega)), if_pos hS.1, e1', pp_b, if_pos (show ¬ nI R < 0 from nI_pos (by omega)), nI_clamp (show R < 2 ^ 31 by omega), if_pos (yn_rm (k := 1) (b1.mo (by omega)) (by omega) (by omega))]
  obtain ⟨y2, hy2⟩ : ∃ y2, y2 = h_new y1 64 (fun _ => 0) (fun _ => 0) R R := ⟨_, rfl⟩
  show zoZ d sb (ti_t τ) W 881 y (if h_K (h_new y1 64 (fun _ => 0) (fun _ => 0) R R) (ti_t τ) = 53 then f_l_L_drawn_518 g_fuel d sb (ti_t τ) (nI W) (nI R) 0 (h_wr (h_new y1 64 (fun _ => 0) (fun _ => 0) R R) (ti_t τ) 7 (h_nx y1)) else none)
  rw [← hy2]
  have T1 := hT.F F1
  have k2 : h_K y2 (h_nx y1) = 64 := by rw [hy2]; exact (show h_K (h_new y1 64 (fun _ => 0) (fun _ => 0) R R) (h_nx y1) = 64 from yn_K)
  have N2 : h_N y2 (h_nx y1) = R := by rw [hy2]; exact yn_N
  have g2 : yG 1 y1 y2 := by rw [hy2]; exact yn_G (by omega) (by omega)
  have f2 : yF (fun _ => False) y1 y2 := by rw [hy2]; exact yn_F _
  have F2 : zoF y1 y2 := zoF.of S1.2.2.1 f2 (fun _ q => q.elim)
  have S2 : zoS d sb (zibs (zlang P M nl rs W hb g hn nr 0)) y2 := S1.e g2 f2 ((f2 d (S1.2.2.1.k S1.1) (fun q => q)).1.trans S1.1) (fun _ q => q.elim)
  have T2 := T1.F F2
  have tlt : ti_t τ < h_nx y1 := S1.2.2.1.k T1.1.1
  rw [if_pos T2.1.1]
  obtain ⟨y3, hy3⟩ : ∃ y3, y3 = h_wr y2 (ti_t τ) 7 (h_nx y1) := ⟨_, rfl⟩
  rw [← hy3]
  have g3 : yG 0 y2 y3 := by rw [hy3]; exact ywr_G _ _ _ _
  have f3 : yF (fun j => j = ti_t τ) y2 y3 := by rw [hy3]; exact ywr_F rfl
  have S3 : zoS d sb (zibs (zlang P M nl rs W hb g hn nr 0)) y3 := S2.e g3 f3 (by rw [hy3]; exact S2.1) (fun i q => by rw [q, T2.1.1]; exact ⟨by decide, by decide⟩)
  have T3 : zoT τ W g nr W P M y3 := by
    obtain ⟨⟨a1, a2, a3, a4, a5, a6, a7, a8, a9, a10⟩, ⟨b1, b2⟩, ⟨c1, c2, c3⟩, ⟨d1, d2⟩, ⟨f1, f2⟩, n1, ⟨g1, g2⟩, hw⟩ := T2
    have nw : ti_w τ ≠ ti_t τ := fun q => by rw [q] at b1; omega
    have ew : h_R y3 (ti_w τ) = h_R y2 (ti_w τ) := by rw [hy3]; exact ywr_Rn nw
    have hr : ∀ k, k ≠ 7 → h_R y3 (ti_t τ) k = h_R y2 (ti_t τ) k := fun k hk => by rw [hy3, ywr_R, yup2 hk]
    unfold zoT
    rw [hr 2 (by decide), hr 3 (by decide), hr 4 (by decide), hr 8 (by decide), hr 9 (by decide), ew, hy3]
    exact ⟨⟨a1, a2, a3, a4, a5, a6, a7, a8, a9, a10⟩, ⟨b1, b2⟩, ⟨c1, c2, c3⟩, ⟨d1, d2⟩, ⟨f1, f2⟩, n1, ⟨g1, g2⟩, fun j hj => ⟨(hw j hj).1.e ⟨rfl, rfl, ywr_Rn (fun q => by have k := (hw j hj).1.1; rw [q] at k; omega), rfl⟩, (hw j hj).2⟩⟩
  have G : yG 1 y y3 := ((g1.tr g2).tr g3).mo (by omega)
  refine (zo_518 (ar := h_nx y1) hW (by omega) R g_fuel 0 rs y3 (by omega) (by unfold g_fuel; omega) (by omega) S3 T3 ?_ ?_ ?_ (fun j hj => absurd hj (Nat.not_lt_zero _)) hL ((hb'.g G (by omega)).mo (by omega))).g G (by omega)
  · rw [hy3, ywr_R, yup1]
  · rw [hy3]; exact k2
  · rw [hy3]; exact N2
theorem zxk4 : pp_tx 46 = pp_tx 0 ++ [32] ++ [119] ∧ pp_tx 47 = [32] ++ pp_tx 1 ++ [32] ∧ pp_tx 48 = [] ∧ pp_tx 49 = pp_tx 31 ++ [32] ∧ pp_tx 50 = pp_tx 2 ++ [32] ∧ pp_tx 51 = pp_tx 4 ++ [32] ∧ pp_tx 52 = [32] ++ pp_tx 5 ++ [32] ∧ pp_tx 53 = pp_tx 6 ∧ pp_tx 54 = [32] ++ pp_tx 3 ++ [32] ∧ pp_tx 55 = pp_tx 30 ++ [10] ∧ pp_tx 56 = pp_tx 30 ∧ pp_tx 57 = pp_tx 7 ++ [32] ∧ pp_tx 58 = pp_tx 8 ++ [32] ++ zdg 5 ++ pp_tx 30 ++ pp_tx 8 ++ [32] := by decide +kernel
theorem zo_461 {k : Nat} {v : Int32} (hS : zoS d sb (zibs (zlang P M nl rs W hb g 0 6 0)) y) (hT : zoT τ W g 6 W P M y) (hL : zwL P M rs W hb g 0 6 0) (hW : 0 < W) (hv : v = nI k) (hk : 0 < k) (hk2 : k ≤ 100) (hb' : yb y 896) : zoZ d sb (ti_t τ) W 896 y (f_l_L_drawn_461 d sb (4 : Int32) (ti_t τ) (nI W) v d (ti_t τ) y) := by
  obtain ⟨k46, k47, k48, k49, k50, k51, k52, k53, k54, k55, k56, k57, k58⟩ := zxk4
  have l58 := (zxC 58 (by decide)).2.2
  have l56 := (zxC 56 (by decide)).2.2
  have lB : (zibs (zlang P M nl rs W hb g 0 6 0)).length ≤ 1415 := (zlang_c hL).2.2
  obtain ⟨nr, y1, hnr, e1, S1, g1, F1, n1⟩ := hS.di (n := k) (by omega) (by omega)
  unfold f_l_L_drawn_461
  rw [hv, if_pos hS.1, e1, pp_b]
  have T1 := hT.F F1
  rw [if_pos T1.1.1]
  have T2 := T1.wi1 (v := nr)
  obtain ⟨y2, hy2⟩ : ∃ y2, y2 = h_wi y1 (ti_t τ) 1 (nI nr) := ⟨_, rfl⟩
  rw [← hy2] at T2
  show zoZ d sb (ti_t τ) W 896 y (if h_K (h_wi y1 (ti_t τ) 1 (nI nr)) sb = 54 then (f_l_J4_append_15ec4 sb 58 (h_wi y1 (ti_t τ) 1 (nI nr))).bind _ else none)
  rw [← hy2]
  have g2 : yG 0 y1 y2 := by rw [hy2]; exact ywi_G _ _ _ _
  have f2 : yF (fun j => j = ti_t τ) y1 y2 := by rw [hy2]; exact ywi_F rfl
  have S2 : zoS d sb (zibs (zlang P M nl rs W hb g 0 6 0)) y2 := S1.e g2 f2 (by rw [hy2]; exact S1.1) (fun i q => by rw [q, T1.1.1]; exact ⟨by decide, by decide⟩)
  have b2 : yb y2 896 := (hb'.g g1 (by omega)).g g2 (by omega)
  obtain ⟨y3, e3, S3, g3, F3⟩ := S2.ap (α := Nat × MS) (zxH (c := 58) (by decide)) (by omega) (b2.mo (by omega))
  rw [e3]
  have T3 := T2.F F3
  rw [if_pos T3.1.1]
  have l3 : (zibs (zlang P M nl rs W hb g 0 6 0) ++ pp_tx 58).length ≤ 1430 := by rw [List.length_append]; omega
  obtain ⟨y4, e4, S4, g4, F4⟩ := S3.nu (α := Nat × MS) (v := h_I y3 (ti_t τ) 1) T3.1.2.2.1 (by omega) (by omega) ((b2.g g3 (by omega)).mo (by omega))
  rw [e4]
  have l4 : (zibs (zlang P M nl rs W hb g 0 6 0) ++ pp_tx 58 ++ zdg nr).length ≤ 1436 := by
    have := (zdg_len (n := nr) (by omega)).1
    rw [List.length_append]; omega
  obtain ⟨y5, e5, S5, g5, F5⟩ := S4.ap (α := Nat × MS) (zxH (c := 56) (by decide)) (by omega) (((b2.g g3 (by omega)).g g4 (by omega)).mo (by omega))
  rw [e5]
  have G : yG 15 y y5 := ((((g1.tr g2).tr g3).tr g4).tr g5).mo (by omega)
  have eB : zibs (zlang P M nl rs W hb g 0 6 0) ++ pp_tx 58 ++ zdg nr ++ pp_tx 56 = zibs (zlang P M nl rs W hb g 1 nr 0) := by
    unfold zlang
    have z1 : zle 0 6 = [] := rfl
    have z2 : zle 1 nr = [(8, 0)] ++ [(50, 0)] ++ [(42, 5)] ++ [(30, 0)] ++ [(8, 0)] ++ [(50, 0)] ++ [(42, nr)] ++ [(30, 0)] := rfl
    have z3 : zlr rs 0 = [] := rfl
    rw [z1, z2, z3, k58, k56]
    simp only [zibsA, zxib, zxiu, zxi (s := 8) (by decide), zxi (s := 30) (by decide), List.append_nil, List.append_assoc]
  rw [eB] at S5
  have hL' : zwL P M rs W hb g 1 nr 0 := by
    obtain ⟨l1, l2, l3, l4, l5, l6, l7⟩ := hL
    exact ⟨l1, l2, l3, l4, l5, l6, by show nr ≤ 99; omega⟩
  exact (zo_487 S5 ((T3.F F4).F F5) hL' hW ((hb'.g G (by omega)).mo (by omega))).g G (by omega)
theorem zo_435 (hS : zoS d sb (zibs (zlang P M nl rs W hb g 0 6 0)) y) (hT : zoT τ W g 6 W P M y) (hL : zwL P M rs W hb g 0 6 0) (hW : 0 < W) (hb' : yb y 896) : zoZ d sb (ti_t τ) W 896 y (f_l_L_drawn_435 d sb (4 : Int32) (ti_t τ) (nI W) y) := by
  obtain ⟨k, y1, hk, e1, S1, g1, F1, n1⟩ := hS.di (n := 2) (by omega) (by omega)
  have e1' : f_l_X13_next d (2 : Int32) y = some (nI k, y1) := e1
  have b1 := hb'.g g1 (by omega)
  unfold f_l_L_drawn_435
  rw [if_pos hS.1, e1', pp_b]
  by_cases h0 : k = 0
  · rw [if_pos (show nI k = 0 by rw [h0]; rfl), if_pos S1.1]
    obtain ⟨j, y2, hj, e2, S2, g2, F2, n2⟩ := S1.di (n := 2) (by omega) (by omega)
    have e2' : f_l_X13_next d (2 : Int32) y1 = some (nI j, y2) := e2
    show zoZ d sb (ti_t τ) W 896 y ((f_l_X13_next d (2 : Int32) y1).bind _)
    rw [e2', pp_b]
    have b2 := b1.g g2 (by omega)
    by_cases h1 : j = 0
    · rw [if_pos (show nI j = 0 by rw [h1]; rfl)]
      exact (zo_461 (k := 100) S2 ((hT.F F1).F F2) hL hW rfl (by omega) (by omega) b2).g (g1.tr g2) (by omega)
    · rw [if_neg (show ¬ nI j = 0 from nI_ne0 (by omega) (by omega))]
      exact (zo_461 (k := 20) S2 ((hT.F F1).F F2) hL hW rfl (by omega) (by omega) b2).g (g1.tr g2) (by omega)
  · rw [if_neg (show ¬ nI k = 0 from nI_ne0 (by omega) (by omega))]
    exact (zo_487 S1 (hT.F F1) hL hW (b1.mo (by omega))).g g1 (by omega)
theorem zo_409 {k : Nat} {v : Int32} (hS : zoS d sb (zibs (zlang P M nl rs W 0 4 0 6 0)) y) (hT : zoT τ W 4 6 W P M y) (hL : zwL P M rs W 0 4 0 6 0) (hW : 0 < W) (hv : v = nI k) (hk : 0 < k) (hk2 : k ≤ 21) (hb' : yb y 911) : zoZ d sb (ti_t τ) W 911 y (f_l_L_drawn_409 d sb (4 : Int32) (ti_t τ) (nI W) v d (ti_t τ) y) := by
  obtain ⟨k46, k47, k48, k49, k50, k51, k52, k53, k54, k55, k56, k57, k58⟩ := zxk4
  have l58 := (zxC 57 (by decide)).2.2
  have l56 := (zxC 56 (by decide)).2.2
  have lB : (zibs (zlang P M nl rs W 0 4 0 6 0)).length ≤ 1415 := (zlang_c hL).2.2
  obtain ⟨g, y1, hg, e1, S1, g1, F1, n1⟩ := hS.di (n := k) (by omega) (by omega)
  unfold f_l_L_drawn_409
  rw [hv, if_pos hS.1, e1, pp_b]
  have T1 := hT.F F1
  rw [if_pos T1.1.1]
  have T2 := T1.wi0 (v := g)
  obtain ⟨y2, hy2⟩ : ∃ y2, y2 = h_wi y1 (ti_t τ) 0 (nI g) := ⟨_, rfl⟩
  rw [← hy2] at T2
  show zoZ d sb (ti_t τ) W 911 y (if h_K (h_wi y1 (ti_t τ) 0 (nI g)) sb = 54 then (f_l_J4_append_15ec4 sb 57 (h_wi y1 (ti_t τ) 0 (nI g))).bind _ else none)
  rw [← hy2]
  have g2 : yG 0 y1 y2 := by rw [hy2]; exact ywi_G _ _ _ _
  have f2 : yF (fun j => j = ti_t τ) y1 y2 := by rw [hy2]; exact ywi_F rfl
  have S2 : zoS d sb (zibs (zlang P M nl rs W 0 4 0 6 0)) y2 := S1.e g2 f2 (by rw [hy2]; exact S1.1) (fun i q => by rw [q, T1.1.1]; exact ⟨by decide, by decide⟩)
  have b2 : yb y2 911 := (hb'.g g1 (by omega)).g g2 (by omega)
  obtain ⟨y3, e3, S3, g3, F3⟩ := S2.ap (α := Nat × MS) (zxH (c := 57) (by decide)) (by omega) (b2.mo (by omega))
  rw [e3]
  have T3 := T2.F F3
  rw [if_pos T3.1.1]
  have l3 : (zibs (zlang P M nl rs W 0 4 0 6 0) ++ pp_tx 57).length ≤ 1430 := by rw [List.length_append]; omega
  obtain ⟨y4, e4, S4, g4, F4⟩ := S3.nu (α := Nat × MS) (v := h_I y3 (ti_t τ) 0) T3.1.2.1 (by omega) (by omega) ((b2.g g3 (by omega)).mo (by omega))
  rw [e4]
  have l4 : (zibs (zlang P M nl rs W 0 4 0 6 0) ++ pp_tx 57 ++ zdg g).length ≤ 1436 := by
    have := (zdg_len (n := g) (by omega)).1
    rw [List.length_append]; omega
  obtain ⟨y5, e5, S5, g5, F5⟩ := S4.ap (α := Nat × MS) (zxH (c := 56) (by decide)) (by omega) (((b2.g g3 (by omega)).g g4 (by omega)).mo (by omega))
  rw [e5]
  have G : yG 15 y y5 := ((((g1.tr g2).tr g3).tr g4).tr g5).mo (by omega)
  have eB : zibs (zlang P M nl rs W 0 4 0 6 0) ++ pp_tx 57 ++ zdg g ++ pp_tx 56 = zibs (zlang P M nl rs W 1 g 0 6 0) := by
    unfold zlang
    have z1 : zlb 0 4 = [] := rfl
    have z2 : zlb 1 g = [(7, 0)] ++ [(50, 0)] ++ [(42, g)] ++ [(30, 0)] := rfl
    have z3 : zlr rs 0 = [] := rfl
    have z4 : zle 0 6 = [] := rfl
    rw [z1, z2, z3, z4, k57, k56]
    simp only [zibsA, zxib, zxiu, zxi (s := 7) (by decide), zxi (s := 30) (by decide), List.append_nil, List.append_assoc]
  rw [eB] at S5
  have hL' : zwL P M rs W 1 g 0 6 0 := by
    obtain ⟨l1, l2, l3, l4, l5, l6, l7⟩ := hL
    exact ⟨l1, l2, l3, l4, l5, by show g ≤ 20; omega, l7⟩
  exact (zo_435 S5 ((T3.F F4).F F5) hL' hW ((hb'.g G (by omega)).mo (by omega))).g G (by omega)
end ZON
