/-! the words of a drawn language -/
section ZOV
variable {y z : MS} {d sb : Nat} {τ : TI} {W : Nat}
theorem zlw_c {P P' : Nat → Nat → ZP} {M M' nl nl' : Nat → Nat} : ∀ w, (∀ j, j < w → P' j = P j ∧ M' j = M j ∧ nl' j = nl j) → zlw P' M' nl' w = zlw P M nl w := by
  intro w
  induction w with
  | zero => intro _; rfl
  | succ w ih =>
    intro h
    obtain ⟨h1, h2, h3⟩ := h w (by omega)
    show zlw P' M' nl' w ++ ziw (P' w) (M' w) w (nl' w) = zlw P M nl w ++ ziw (P w) (M w) w (nl w)
    rw [ih (fun j hj => h j (by omega)), h1, h2, h3]
theorem zo_53 (hW : 0 < W) (hW8 : W ≤ 8) : ∀ dd fu w (P : Nat → Nat → ZP) (M nl : Nat → Nat) y, dd = W - w → dd < fu → w ≤ W → zoS d sb (zibs (zlw P M nl w)) y → zoT τ W 4 6 w P M y → (∀ j, j < w → 1 ≤ M j ∧ M j ≤ 3) → (∀ j, j < w → ∀ i, i < M j → zwp (P j i)) → yb y (130 * dd + 911) → zoZ d sb (ti_t τ) W (130 * dd + 911) y (f_l_L_drawn_53 fu d sb (4 : Int32) (ti_t τ) (nI W) (nI w) y) := by
  intro dd
  induction dd with
  | zero =>
    intro fu w P M nl y h1 h2 h3 hS hT hM hP hb
    obtain ⟨f1, rfl⟩ : ∃ f, fu = f + 1 := ⟨fu - 1, by omega⟩
    have e : w = W := by omega
    subst e
    obtain ⟨rs, -⟩ : ∃ rs : Nat → ZR, rs = rs := ⟨fun _ => (0, 0, (0, (0, 0), (0, 0)), 0, (0, (0, 0, (0, (0, 0), (0, 0)), (0, 0)), (0, 0, (0, (0, 0), (0, 0)), (0, 0)))), rfl⟩
    have hL : zwL P M rs w 0 4 0 6 0 := ⟨hW8, hM, hP, by omega, fun k hk => absurd hk (Nat.not_lt_zero _), rfl, rfl⟩
    have eB : zibs (zlw P M nl w) = zibs (zlang P M nl rs w 0 4 0 6 0) := by
      unfold zlang
      have z1 : zlb 0 4 = [] := rfl
      have z3 : zlr rs 0 = [] := rfl
      have z4 : zle 0 6 = [] := rfl
      rw [z1, z3, z4, List.append_nil, List.append_nil, List.append_nil]
    rw [eB] at hS
    obtain ⟨k, y1, hk, e1, S1, g1, F1, n1⟩ := hS.di (n := 2) (by omega) (by omega)
    have e1' : f_l_X13_next d (2 : Int32) y = some (nI k, y1) := e1
    have b1 : yb y1 911 := (hb.g g1 (by omega)).mo (by omega)
    rw [f_l_L_drawn_53, if_pos (nI_le (Nat.le_refl _) (by omega)), if_pos hS.1, e1', pp_b]
    by_cases h0 : k = 0
    · rw [if_pos (show nI k = 0 by rw [h0]; rfl), if_pos S1.1]
      obtain ⟨j, y2, hj, e2, S2, g2, F2, n2⟩ := S1.di (n := 2) (by omega) (by omega)
      have e2' : f_l_X13_next d (2 : Int32) y1 = some (nI j, y2) := e2
      show zoZ d sb (ti_t τ) w _ y ((f_l_X13_next d (2 : Int32) y1).bind _)
      rw [e2', pp_b]
      have b2 := b1.g g2 (by omega)
      by_cases h1 : j = 0
      · rw [if_pos (show nI j = 0 by rw [h1]; rfl)]
        exact (zo_409 (k := 21) S2 ((hT.F F1).F F2) hL hW rfl (by omega) (by omega) b2).g (g1.tr g2) (by omega)
      · rw [if_neg (show ¬ nI j = 0 from nI_ne0 (by omega) (by omega))]
        exact (zo_409 (k := 3) S2 ((hT.F F1).F F2) hL hW rfl (by omega) (by omega) b2).g (g1.tr g2) (by omega)
    · rw [if_neg (show ¬ nI k = 0 from nI_ne0 (by omega) (by omega))]
      exact (zo_435 S1 (hT.F F1) hL hW (b1.mo (by omega))).g g1 (by omega)
  | succ dd ih =>
    intro fu w P M nl y h1 h2 h3 hS hT hM hP hb
    obtain ⟨f1, rfl⟩ : ∃ f, fu = f + 1 := ⟨fu - 1, by omega⟩
    have lB := (zclw (nl := nl) w (by omega) hM hP).2.2
    have l46 := (zxC 46 (by decide)).2.2
    have l47 := (zxC 47 (by decide)).2.2
    have hO := hS.2.2.1
    rw [f_l_L_drawn_53, if_neg (nI_ge (by omega) (by omega)), if_pos (show ¬ (24 : Int32) < 0 by decide)]
    have e24 : (24 : Int32).toNatClampNeg = 24 := rfl
    rw [e24, if_pos (yn_rm (k := 1) (hb.mo (by omega)) (by omega) (by omega))]
    obtain ⟨y1, hy1⟩ : ∃ y1, y1 = h_new y 60 (fun _ => 0) (fun _ => 0) 24 24 := ⟨_, rfl⟩
    rw [← hy1]
    have K1 : h_K y1 (h_nx y) = 60 := by rw [hy1]; exact (show h_K (h_new y 60 (fun _ => 0) (fun _ => 0) 24 24) (h_nx y) = 60 from yn_K)
    have N1 : h_N y1 (h_nx y) = 24 := by rw [hy1]; exact yn_N
    have g1 : yG 1 y y1 := by rw [hy1]; exact yn_G (by omega) (by omega)
    have f1' : yF (fun _ => False) y y1 := by rw [hy1]; exact yn_F _
    have S1 : zoS d sb (zibs (zlw P M nl w)) y1 := hS.e g1 f1' ((f1' d (hO.k hS.1) (fun q => q)).1.trans hS.1) (fun _ q => q.elim)
    rw [if_pos S1.1]
    obtain ⟨k, y2, hk, e2, S2, g2, F2, n2⟩ := S1.di (n := 3) (by omega) (by omega)
    have e2' : f_l_X13_next d (3 : Int32) y1 = some (nI k, y2) := e2
    rw [e2', pp_b]
    have b2 : yb y2 (130 * dd + 1040) := ((hb.g g1 (by omega)).g g2 (by omega)).mo (by omega)
    obtain ⟨y3, e3, S3, g3, F3⟩ := S2.ap (α := Nat × MS) (zxH (y := y2) (c := 46) (by decide)) (by omega) (b2.mo (by omega))
    rw [e3]
    have b3 : yb y3 (130 * dd + 1035) := (b2.g g3 (by omega)).mo (by omega)
    have lB3 : (zibs (zlw P M nl w) ++ pp_tx 46).length ≤ 600 := by rw [List.length_append]; omega
    have ldw := (zdg_len (n := w) (by omega)).1
    obtain ⟨y4, e4, S4, g4, F4⟩ := S3.nu (α := Nat × MS) (v := nI w) rfl (by omega) (by omega) (b3.mo (by omega))
    rw [e4]
    have b4 : yb y4 (130 * dd + 1030) := (b3.g g4 (by omega)).mo (by omega)
    have lB4 : (zibs (zlw P M nl w) ++ pp_tx 46 ++ zdg w).length ≤ 610 := by rw [List.length_append]; omega
    obtain ⟨y5, e5, S5, g5, F5⟩ := S4.ap (α := Nat × MS) (zxH (y := y4) (c := 47) (by decide)) (by omega) (b4.mo (by omega))
    rw [e5]
    have b5 : yb y5 (130 * dd + 1025) := (b4.g g5 (by omega)).mo (by omega)
    have F15 := ((F2.tr F3).tr F4).tr F5
    have er5 := F15.rw6 K1
    obtain ⟨B0, hB0⟩ : ∃ B0, B0 = zibs (zlw P M nl w) ++ pp_tx 46 ++ zdg w ++ pp_tx 47 := ⟨_, rfl⟩
    rw [← hB0] at S5
    have lB0 : B0.length ≤ 700 := by rw [hB0, List.length_append]; omega
    have e1k : (1 : Int32) + nI k = nI (1 + k) := (nI_add (a := 1) (b := k))
    have S5' : zoS d sb (B0 ++ zibs (zij (fun _ => (0, 0, 0, 0)) 0)) y5 := by
      have : B0 ++ zibs (zij (fun _ => (0, 0, 0, 0)) 0) = B0 := List.append_nil _
      rw [this]; exact S5
    obtain ⟨fu', Q, y6, p1, p2, p3, p4, p5, p6, p7, p8⟩ := zo_98 (k53 := f_l_L_drawn_53 f1) (r := h_nx y) (t := ti_t τ) (l3 := (4 : Int32)) (Wv := nI W) (wv := nI w) (Mx := 1 + k) (by omega) (by omega) (1 + k) g_fuel 0 (fun _ => (0, 0, 0, 0)) y5 (by omega) (by unfold g_fuel; omega) (by omega) S5' (er5.1.trans K1) (er5.2.2.2.trans N1) (fun j hj => absurd hj (Nat.not_lt_zero _)) (fun j hj => absurd hj (Nat.not_lt_zero _)) (b5.mo (by omega))
    have p1' : f_l_L_drawn_98 (f_l_L_drawn_53 f1) g_fuel d sb (4 : Int32) (ti_t τ) (nI W) (nI w) (h_nx y) 0 (nI (1 + k)) 0 y5 = f_l_L_drawn_98 (f_l_L_drawn_53 f1) (fu' + 1) d sb (4 : Int32) (ti_t τ) (nI W) (nI w) (h_nx y) (nI (zln Q (1 + k))) (nI (1 + k)) (nI (1 + k)) y6 := p1
    rw [e1k]
    show zoZ d sb (ti_t τ) W _ y (f_l_L_drawn_98 (f_l_L_drawn_53 f1) g_fuel d sb (4 : Int32) (ti_t τ) (nI W) (nI w) (h_nx y) 0 (nI (1 + k)) 0 y5)
    rw [p1', f_l_L_drawn_98, if_pos (nI_le (Nat.le_refl _) (by omega)), if_pos p2.1]
    obtain ⟨o, y7, ho, e7, S7, g7, F7, n7⟩ := p2.di (n := 5) (by omega) (by omega)
    have e7' : f_l_X13_next d (5 : Int32) y6 = some (nI o, y7) := e7
    rw [e7', pp_b]
    have lij := (zcij (Q := Q) k (fun j hj => p5 j (by omega))).2.2
    rw [Nat.add_comm k 1] at lij
    have lB7 : (B0 ++ zibs (zij Q (1 + k))).length ≤ 900 := by rw [List.length_append]; omega
    have zG : zoG (h_nx y) y y7 := by
      intro i hi i0 i1 i2 i3
      have e := f1' i (hO.lt i0) (fun q => q)
      exact e.tr (((F15.G.tr p8).tr F7.G) i hi (by rw [e.1]; exact i0) (by rw [e.1]; exact i1) (by rw [e.1]; exact i2) (by rw [e.1]; exact i3))
    have T7 : zoT τ W 4 6 w P M y7 := hT.e (fun i hi => zG i (fun q => by have := hO.lt (i := i) (by omega); omega) (by omega) (by omega) (by omega) (by omega))
    have er7 := F7.rw6 p3
    have G7 : yG (16 + 35 * (1 + k)) y y7 := (((((g1.tr g2).tr g3).tr g4).tr g5).tr p7 |>.tr g7).mo (by omega)
    have b7 : yb y7 (130 * dd + 917) := (hb.g G7 (by omega)).mo (by omega)
    have fin : ∀ c n, c < 93 → pp_tx c = pp_tx 30 ++ zibs (if n = 1 then [(51, 0)] else []) → zoZ d sb (ti_t τ) W (130 * (dd + 1) + 911) y (f_l_L_drawn_330 (f_l_L_drawn_53 f1) d sb (4 : Int32) (ti_t τ) (nI W) (nI w) (h_nx y) (nI (zln Q (1 + k))) c sb y7) := by
      intro c n hc hcn
      obtain ⟨y8, i1, i2, i3, i4⟩ := zo_330 (k53 := f_l_L_drawn_53 f1) (l3 := (4 : Int32)) (Wv := nI W) (c := c) (Mx := 1 + k) (Q := Q) S7 T7 (er7.1.trans p3) (er7.2.2.2.trans p4) (by omega) (by omega) p5 (fun j hj => by rw [er7.2.1]; exact p6 j hj) (by omega) hW8 hc (by omega) (b7.mo (by omega))
      rw [i1]
      have G8 : yG 127 y y8 := (G7.tr i4).mo (by omega)
      have eB : B0 ++ zibs (zij Q (1 + k)) ++ pp_tx c = zibs (zlw (fun j => if j = w then Q else P j) (fun j => if j = w then 1 + k else M j) (fun j => if j = w then n else nl j) (w + 1)) := by
        obtain ⟨k46, k47, -⟩ := zxk4
        have ew : zlw (fun j => if j = w then Q else P j) (fun j => if j = w then 1 + k else M j) (fun j => if j = w then n else nl j) (w + 1) = zlw P M nl w ++ ziw Q (1 + k) w n := by
          show zlw _ _ _ w ++ ziw (if w = w then Q else P w) (if w = w then 1 + k else M w) w (if w = w then n else nl w) = _
          rw [if_pos rfl, if_pos rfl, if_pos rfl, zlw_c (P := P) (M := M) (nl := nl) w (fun j hj => ⟨if_neg (by omega), if_neg (by omega), if_neg (by omega)⟩)]
        rw [ew, hB0, hcn, k46, k47]
        unfold ziw ziw0
        simp only [zibsA, zxib, zxin, zxi (s := 0) (by decide), zxi (s := 1) (by decide), zxi (s := 30) (by decide), List.append_assoc]
      rw [eB] at i2
      refine (ih f1 (w + 1) (fun j => if j = w then Q else P j) (fun j => if j = w then 1 + k else M j) (fun j => if j = w then n else nl j) y8 (by omega) (by omega) (by omega) i2 i3 (fun j hj => ?_) (fun j hj => ?_) ((hb.g G8 (by omega)).mo (by omega))).g G8 (by omega)
      · by_cases q : j = w
        · rw [if_pos q]; omega
        · rw [if_neg q]; exact hM j (by omega)
      · by_cases q : j = w
        · rw [if_pos q, if_pos q]; exact p5
        · rw [if_neg q, if_neg q]; exact hP j (by omega)
    obtain ⟨k46, k47, k48, k49, k50, k51, k52, k53', k54, k55, k56, k57, k58⟩ := zxk4
    by_cases ho0 : o = 0
    · rw [if_pos (show nI o = 0 by rw [ho0]; rfl)]
      exact fin 55 1 (by decide) (by rw [k55]; rfl)
    · rw [if_neg (show ¬ nI o = 0 from nI_ne0 (by omega) (by omega))]
      exact fin 56 0 (by decide) (by rw [k56]; exact (List.append_nil _).symm)
end ZOV
