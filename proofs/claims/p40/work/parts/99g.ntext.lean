/-! the texts of expressions -/
section ZXN
variable {y : MS} {i n t W : Nat}
theorem zx_eN {s c : Nat} (hk : h_K y t = 51) (hs : h_I y t 0 = nI s) (h : (s = 0 ∧ c = 59) ∨ (s = 3 ∧ c = 62) ∨ (s = 4 ∧ c = 63) ∨ (s = 17 ∧ c = 70) ∨ (s = 18 ∧ c = 71)) : f_l_X14_text (n + 1) t y = zxN c t y := by
  unfold zxN
  rw [f_l_X14_text, if_pos hk, hs]
  rcases h with ⟨rfl, rfl⟩ | ⟨rfl, rfl⟩ | ⟨rfl, rfl⟩ | ⟨rfl, rfl⟩ | ⟨rfl, rfl⟩
  all_goals repeat (first | rfl | rw [if_neg (show ¬ _ = _ by decide)] | rw [if_pos (show _ = _ from rfl)])
theorem zx_eU {s c : Nat} (hk : h_K y t = 51) (hs : h_I y t 0 = nI s) (h : (s = 5 ∧ c = 64) ∨ (s = 19 ∧ c = 72)) : f_l_X14_text (n + 1) t y = zxU c n t y := by
  unfold zxU
  rw [f_l_X14_text, if_pos hk, hs]
  rcases h with ⟨rfl, rfl⟩ | ⟨rfl, rfl⟩
  all_goals repeat (first | rfl | rw [if_neg (show ¬ _ = _ by decide)] | rw [if_pos (show _ = _ from rfl)])
theorem zx_eB {s a b c : Nat} (hk : h_K y t = 51) (hs : h_I y t 0 = nI s) (h : (s = 6 ∧ a = 65 ∧ b = 66 ∧ c = 67) ∨ (s = 7 ∧ a = 68 ∧ b = 69 ∧ c = 67) ∨ (s = 20 ∧ a = 73 ∧ b = 74 ∧ c = 75) ∨ (s = 21 ∧ a = 73 ∧ b = 76 ∧ c = 75)) : f_l_X14_text (n + 1) t y = zxB a b c n t y := by
  unfold zxB
  rw [f_l_X14_text, if_pos hk, hs]
  rcases h with ⟨rfl, rfl, rfl, rfl⟩ | ⟨rfl, rfl, rfl, rfl⟩ | ⟨rfl, rfl, rfl, rfl⟩ | ⟨rfl, rfl, rfl, rfl⟩
  all_goals repeat (first | rfl | rw [if_neg (show ¬ _ = _ by decide)] | rw [if_pos (show _ = _ from rfl)])
theorem zx_eP {s : Nat} (hk : h_K y t = 51) (hs : h_I y t 0 = nI s) (h : s = 8 ∨ s = 9 ∨ s = 10 ∨ s = 11) : f_l_X14_text (n + 1) t y = zxP n t y := by
  unfold zxP
  rw [f_l_X14_text, if_pos hk, hs]
  rcases h with rfl | rfl | rfl | rfl
  all_goals repeat (first | rfl | rw [if_neg (show ¬ _ = _ by decide)] | rw [if_neg (show ¬ (12 : Int32) ≤ _ by decide)] | rw [if_pos (show _ = _ from rfl)])
theorem zx_eQ {s : Nat} (hk : h_K y t = 51) (hs : h_I y t 0 = nI s) (h : s = 12 ∨ s = 13 ∨ s = 14 ∨ s = 15 ∨ s = 16) : f_l_X14_text (n + 1) t y = zxQ n t y := by
  unfold zxQ
  rw [f_l_X14_text, if_pos hk, hs]
  rcases h with rfl | rfl | rfl | rfl | rfl
  all_goals repeat (first | rfl | rw [if_neg (show ¬ _ = _ by decide)] | rw [if_pos (show (12 : Int32) ≤ _ by decide)] | rw [if_pos (show _ = _ from rfl)])
theorem zxi {s : Nat} (h : s < 41) : zibs [(s, 0)] = pp_tx s := by
  show zib (s, 0) ++ [] = _
  rw [List.append_nil]
  exact if_pos h
theorem zxib : zibs [(50, 0)] = [32] := rfl
theorem zxin {m : Nat} : zibs [(41, m)] = [119] ++ zdg m := by
  show zib (41, m) ++ [] = _
  rw [List.append_nil]
  rfl
theorem zxiu {m : Nat} : zibs [(42, m)] = zdg m := by
  show zib (42, m) ++ [] = _
  rw [List.append_nil]
  rfl
theorem zxk : pp_tx 59 = [] ∧ pp_tx 60 = pp_tx 14 ∧ pp_tx 61 = pp_tx 15 ∧ pp_tx 62 = pp_tx 16 ++ [32] ++ pp_tx 18 ++ [32] ++ [119] ∧ pp_tx 63 = pp_tx 17 ++ [32] ++ pp_tx 18 ++ [32] ++ [119] ∧ pp_tx 64 = pp_tx 33 ∧ pp_tx 65 = pp_tx 24 ++ pp_tx 26 ∧ pp_tx 66 = pp_tx 31 ∧ pp_tx 67 = pp_tx 27 ∧ pp_tx 68 = pp_tx 25 ++ pp_tx 26 ∧ pp_tx 69 = [32] ++ pp_tx 31 ++ [32] ∧ pp_tx 70 = pp_tx 19 ++ [32] ++ [119] ∧ pp_tx 71 = pp_tx 20 ++ [32] ++ [119] ∧ pp_tx 72 = pp_tx 21 ++ [32] ∧ pp_tx 73 = pp_tx 28 ∧ pp_tx 74 = [32] ++ pp_tx 22 ++ [32] ∧ pp_tx 75 = pp_tx 29 ∧ pp_tx 76 = [32] ++ pp_tx 23 ++ [32] ∧ pp_tx 77 = pp_tx 26 := by decide +kernel
theorem zxk2 : ∀ s, s < 17 → 8 ≤ s → pp_tx (84 + (s - 8)) = pp_tx (zg s) := by decide +kernel
theorem zxg : ∀ s, s < 22 → s ≠ 0 → s ≠ 5 → zg s < 41 := by decide +kernel
theorem zx0 {e : Z0} (h : zh0 W y i e) (hb : yb y 10) (hO : yO y) (hx : 200 ≤ h_nx y) : zxT 10 y (zibs (zi0 e)) (f_l_X14_text (n + 1) i y) := by
  obtain ⟨h1, h2, h3, h4, h5, h6⟩ := h
  obtain ⟨σ, m⟩ := e
  change h_I y i 0 = nI σ at h2
  change h_I y i 1 = nI m at h3
  change σ < 5 at h4
  change m < 1000000 at h5
  obtain ⟨k59, k60, k61, k62, k63, k64⟩ := zxk
  have h' : σ = 0 ∨ σ = 1 ∨ σ = 2 ∨ σ = 3 ∨ σ = 4 := by omega
  rcases h' with rfl | rfl | rfl | rfl | rfl
  · rw [zx_eN h1 h2 (c := 59) (by omega)]
    have e : zibs (zi0 (0, m)) = pp_tx 59 ++ zdg m := by rw [k59]; exact zxiu
    rw [e]
    exact zx_N h1 h3 h5 (by decide) hb hO hx
  · have e : f_l_X14_text (n + 1) i y = some (60, y) := by
      rw [f_l_X14_text, if_pos h1, h2, if_neg (show ¬ nI 1 = (0 : Int32) by decide), if_pos (show nI 1 = (1 : Int32) from rfl)]
    rw [e]
    have e2 : zibs (zi0 (1, m)) = pp_tx 60 := by rw [k60]; exact zxi (s := 14) (by decide)
    rw [e2]
    exact ⟨60, y, rfl, zxH (by decide), (yG.rf y).mo (by omega), yF.rf _ y⟩
  · have e : f_l_X14_text (n + 1) i y = some (61, y) := by
      rw [f_l_X14_text, if_pos h1, h2, if_neg (show ¬ nI 2 = (0 : Int32) by decide), if_neg (show ¬ nI 2 = (1 : Int32) by decide), if_pos (show nI 2 = (2 : Int32) from rfl)]
    rw [e]
    have e2 : zibs (zi0 (2, m)) = pp_tx 61 := by rw [k61]; exact zxi (s := 15) (by decide)
    rw [e2]
    exact ⟨61, y, rfl, zxH (by decide), (yG.rf y).mo (by omega), yF.rf _ y⟩
  · rw [zx_eN h1 h2 (c := 62) (by omega)]
    have e : zibs (zi0 (3, m)) = pp_tx 62 ++ zdg m := by
      show zibs ([(16, 0)] ++ [(50, 0)] ++ [(18, 0)] ++ [(50, 0)] ++ [(41, m)]) = _
      rw [k62]
      simp only [zibsA, zxin, zxib, zxi (s := 16) (by decide), zxi (s := 18) (by decide), List.append_assoc]
    rw [e]
    exact zx_N h1 h3 h5 (by decide) hb hO hx
  · rw [zx_eN h1 h2 (c := 63) (by omega)]
    have e : zibs (zi0 (4, m)) = pp_tx 63 ++ zdg m := by
      show zibs ([(17, 0)] ++ [(50, 0)] ++ [(18, 0)] ++ [(50, 0)] ++ [(41, m)]) = _
      rw [k63]
      simp only [zibsA, zxin, zxib, zxi (s := 17) (by decide), zxi (s := 18) (by decide), List.append_assoc]
    rw [e]
    exact zx_N h1 h3 h5 (by decide) hb hO hx
theorem zx0A {e : Z0} (h : zh0 W y i e) (hO : yO y) : zxA y 10 (zibs (zi0 e)) (f_l_X14_text (n + 1) i) := fun _ f1 o1 x1 b1 => zx0 (h.P (yP.F f1 hO (fun _ _ q => q))) b1 o1 x1
theorem zx1 {e : Z1} (h : zh1 W y i e) (hW : W ≤ 8) (hb : yb y 33) (hO : yO y) (hx : 200 ≤ h_nx y) : zxT 33 y (zibs (zi1 e)) (f_l_X14_text (n + 2) i y) := by
  have hw := h.w
  obtain ⟨σ, e1, e2⟩ := e
  rcases h with ⟨h1, h2⟩ | ⟨h1, h2, h3, h4, h5, h6⟩
  · change σ = 0 at h1
    subst h1
    exact (zx0 h2 (hb.mo (by omega)) hO hx).m (by omega)
  · change 5 ≤ σ at h1
    change σ < 12 at h2
    change h_I y i 0 = nI σ at h4
    have l1 := (zp_0 h5.w hW).1.2.2
    have hX := zx0A (n := n) h5 hO
    obtain ⟨k59, k60, k61, k62, k63, k64, k65, k66, k67, k68, k69, k70, k71, k72, k73, k74, k75, k76, k77⟩ := zxk
    by_cases q5 : σ = 5
    · subst q5
      rw [zx_eU h3 h4 (c := 64) (by omega)]
      have e : zibs (zi1 (5, e1, e2)) = pp_tx 64 ++ zibs (zi0 e1) := by
        show zibs ([(33, 0)] ++ zi0 e1) = _
        rw [k64, zibsA, zxi (by decide)]
      rw [e]
      exact (zx_U h3 h5.1 hX (by omega) (by decide) (hb.mo (by omega)) hO hx).m (by omega)
    · have h6' := h6 q5
      have l2 := (zp_0 h6'.w hW).1.2.2
      have hY := zx0A (n := n) h6' hO
      by_cases q6 : σ = 6
      · subst q6
        rw [zx_eB h3 h4 (a := 65) (b := 66) (c := 67) (by omega)]
        have e : zibs (zi1 (6, e1, e2)) = pp_tx 65 ++ zibs (zi0 e1) ++ pp_tx 66 ++ zibs (zi0 e2) ++ pp_tx 67 := by
          show zibs ([(24, 0)] ++ [(26, 0)] ++ zi0 e1 ++ [(31, 0)] ++ zi0 e2 ++ [(27, 0)]) = _
          rw [k65, k66, k67]
          simp only [zibsA, zxi (s := 24) (by decide), zxi (s := 26) (by decide), zxi (s := 31) (by decide), zxi (s := 27) (by decide)]
        rw [e]
        exact zx_B h3 h5.1 h6'.1 hX hY (by omega) (by omega) (by decide) (by decide) (by decide) hb hO hx
      · by_cases q7 : σ = 7
        · subst q7
          rw [zx_eB h3 h4 (a := 68) (b := 69) (c := 67) (by omega)]
          have e : zibs (zi1 (7, e1, e2)) = pp_tx 68 ++ zibs (zi0 e1) ++ pp_tx 69 ++ zibs (zi0 e2) ++ pp_tx 67 := by
            show zibs ([(25, 0)] ++ [(26, 0)] ++ zi0 e1 ++ ([(50, 0)] ++ [(31, 0)] ++ [(50, 0)]) ++ zi0 e2 ++ [(27, 0)]) = _
            rw [k68, k69, k67]
            simp only [zibsA, zxib, zxi (s := 25) (by decide), zxi (s := 26) (by decide), zxi (s := 31) (by decide), zxi (s := 27) (by decide)]
          rw [e]
          exact zx_B h3 h5.1 h6'.1 hX hY (by omega) (by omega) (by decide) (by decide) (by decide) hb hO hx
        · rw [zx_eP h3 h4 (by omega)]
          have e : zibs (zi1 (σ, e1, e2)) = pp_tx 77 ++ zibs (zi0 e1) ++ pp_tx (84 + (σ - 8)) ++ zibs (zi0 e2) ++ pp_tx 67 := by
            have ei : zi1 (σ, e1, e2) = [(26, 0)] ++ zi0 e1 ++ [(zg σ, 0)] ++ zi0 e2 ++ [(27, 0)] := by
              unfold zi1
              rw [if_neg (show ¬ σ = 0 by omega), if_neg q5, if_neg q6, if_neg q7]
            rw [ei, k77, k67, zxk2 σ (by omega) (by omega)]
            simp only [zibsA, zxi (s := 26) (by decide), zxi (s := 27) (by decide), zxi (zxg σ (by omega) (by omega) q5)]
          rw [e]
          exact zx_P h3 h4 (by omega) (by omega) h5.1 h6'.1 hX hY (by omega) (by omega) hb hO hx
theorem zx1A {e : Z1} (h : zh1 W y i e) (hW : W ≤ 8) (hO : yO y) : zxA y 33 (zibs (zi1 e)) (f_l_X14_text (n + 2) i) := fun _ f1 o1 x1 b1 => zx1 (h.P (yP.F f1 hO (fun _ _ q => q))) hW b1 o1 x1
theorem zx2 {e : Z2} (h : zh2 W y i e) (hW : W ≤ 8) (hb : yb y 56) (hO : yO y) (hx : 200 ≤ h_nx y) : zxT 54 y (zibs (zi2 e)) (f_l_X14_text (n + 3) i y) := by
  obtain ⟨σ, m, e1, e2⟩ := e
  obtain ⟨h1, h2, h3⟩ := h
  change h_I y i 0 = nI σ at h2
  obtain ⟨k59, k60, k61, k62, k63, k64, k65, k66, k67, k68, k69, k70, k71, k72, k73, k74, k75, k76, k77⟩ := zxk
  rcases h3 with ⟨a1, a2, a3, a4⟩ | ⟨a1, a2, a3, a4⟩
  · change 17 ≤ σ at a1
    change σ < 19 at a2
    change h_I y i 1 = nI m at a3
    change m < W at a4
    have h' : σ = 17 ∨ σ = 18 := by omega
    rcases h' with rfl | rfl
    · rw [zx_eN h1 h2 (c := 70) (by omega)]
      have e : zibs (zi2 (17, m, e1, e2)) = pp_tx 70 ++ zdg m := by
        show zibs ([(19, 0)] ++ [(50, 0)] ++ [(41, m)]) = _
        rw [k70]
        simp only [zibsA, zxin, zxib, zxi (s := 19) (by decide), List.append_assoc]
      rw [e]
      exact (zx_N h1 a3 (by omega) (by decide) (hb.mo (by omega)) hO hx).m (by omega)
    · rw [zx_eN h1 h2 (c := 71) (by omega)]
      have e : zibs (zi2 (18, m, e1, e2)) = pp_tx 71 ++ zdg m := by
        show zibs ([(20, 0)] ++ [(50, 0)] ++ [(41, m)]) = _
        rw [k71]
        simp only [zibsA, zxin, zxib, zxi (s := 20) (by decide), List.append_assoc]
      rw [e]
      exact (zx_N h1 a3 (by omega) (by decide) (hb.mo (by omega)) hO hx).m (by omega)
  · change 12 ≤ σ at a1
    change σ < 17 at a2
    have l1 := (zp_1 a3.w hW).1.2.2
    have l2 := (zp_0 a4.w hW).1.2.2
    rw [zx_eQ h1 h2 (by omega)]
    have e : zibs (zi2 (σ, m, e1, e2)) = zibs (zi1 e1) ++ pp_tx (84 + (σ - 8)) ++ zibs (zi0 e2) := by
      have ei : zi2 (σ, m, e1, e2) = zi1 e1 ++ [(zg σ, 0)] ++ zi0 e2 := by
        unfold zi2
        rw [if_neg (show ¬ 17 ≤ σ by omega)]
      rw [ei, zxk2 σ (by omega) (by omega)]
      simp only [zibsA, zxi (zxg σ (by omega) (by omega) (by omega))]
    rw [e]
    exact zx_Q h1 h2 (by omega) (by omega) a3.k a4.1 (zx1A (n := n) a3 hW hO) (zx0A (n := n + 1) a4 hO) (by omega) (by omega) hb hO hx
theorem zx2A {e : Z2} (h : zh2 W y i e) (hW : W ≤ 8) (hO : yO y) : zxA y 56 (zibs (zi2 e)) (f_l_X14_text (n + 3) i) := fun _ f1 o1 x1 b1 => (zx2 (h.P (yP.F f1 hO (fun _ _ q => q))) hW b1 o1 x1).m (by omega)
theorem zx3 {e : Z3} (h : zh3 W y i e) (hW : W ≤ 8) (hb : yb y 125) (hO : yO y) (hx : 200 ≤ h_nx y) : zxT 125 y (zibs (zi3 e)) (f_l_X14_text (n + 4) i y) := by
  obtain ⟨σ, e1, e2⟩ := e
  obtain ⟨k59, k60, k61, k62, k63, k64, k65, k66, k67, k68, k69, k70, k71, k72, k73, k74, k75, k76, k77⟩ := zxk
  rcases h with ⟨h1, h2⟩ | ⟨h1, h2, h3, h4, h5, h6⟩
  · change σ = 0 at h1
    subst h1
    exact (zx2 h2 hW (hb.mo (by omega)) hO hx).m (by omega)
  · change 19 ≤ σ at h1
    change σ < 22 at h2
    change h_I y i 0 = nI σ at h4
    have l1 := (zp_2 h5.w hW).2.2
    have hX := zx2A (n := n) h5 hW hO
    by_cases q5 : σ = 19
    · subst q5
      rw [zx_eU h3 h4 (c := 72) (by omega)]
      have e : zibs (zi3 (19, e1, e2)) = pp_tx 72 ++ zibs (zi2 e1) := by
        show zibs ([(21, 0)] ++ [(50, 0)] ++ zi2 e1) = _
        rw [k72]
        simp only [zibsA, zxib, zxi (s := 21) (by decide)]
      rw [e]
      exact (zx_U h3 h5.1 hX (by omega) (by decide) (hb.mo (by omega)) hO hx).m (by omega)
    · have h6' := h6 q5
      have l2 := (zp_2 h6'.w hW).2.2
      have hY := zx2A (n := n) h6' hW hO
      have h' : σ = 20 ∨ σ = 21 := by omega
      rcases h' with rfl | rfl
      · rw [zx_eB h3 h4 (a := 73) (b := 74) (c := 75) (by omega)]
        have e : zibs (zi3 (20, e1, e2)) = pp_tx 73 ++ zibs (zi2 e1) ++ pp_tx 74 ++ zibs (zi2 e2) ++ pp_tx 75 := by
          show zibs ([(28, 0)] ++ zi2 e1 ++ ([(50, 0)] ++ [(22, 0)] ++ [(50, 0)]) ++ zi2 e2 ++ [(29, 0)]) = _
          rw [k73, k74, k75]
          simp only [zibsA, zxib, zxi (s := 28) (by decide), zxi (s := 22) (by decide), zxi (s := 29) (by decide)]
        rw [e]
        exact zx_B h3 h5.1 h6'.1 hX hY (by omega) (by omega) (by decide) (by decide) (by decide) hb hO hx
      · rw [zx_eB h3 h4 (a := 73) (b := 76) (c := 75) (by omega)]
        have e : zibs (zi3 (21, e1, e2)) = pp_tx 73 ++ zibs (zi2 e1) ++ pp_tx 76 ++ zibs (zi2 e2) ++ pp_tx 75 := by
          show zibs ([(28, 0)] ++ zi2 e1 ++ ([(50, 0)] ++ [(23, 0)] ++ [(50, 0)]) ++ zi2 e2 ++ [(29, 0)]) = _
          rw [k73, k76, k75]
          simp only [zibsA, zxib, zxi (s := 28) (by decide), zxi (s := 23) (by decide), zxi (s := 29) (by decide)]
        rw [e]
        exact zx_B h3 h5.1 h6'.1 hX hY (by omega) (by omega) (by decide) (by decide) (by decide) hb hO hx
end ZXN
