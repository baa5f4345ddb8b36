/-! a language is taught: from tokens to the class between calls -/
/-- the class between calls, as far as teaching needs it -/
def zcb (x : CS) : Prop := (x.2 0 6 = 20 ∧ x.2 0 7 = 41 ∧ x.2 0 8 = 70 ∧ x.2 0 9 = 91) ∨ (x.2 0 6 = 70 ∧ x.2 0 7 = 91 ∧ x.2 0 8 = 20 ∧ x.2 0 9 = 41)
def zc (x : CS) : Prop := x.1 1 1 = 0 ∧ zcb x
theorem zc_of {A : PV} {les car : Int32} {b v R nr : Nat} {ρs : Nat → QR} {sg : Nat → Nat} {vl : Nat → Int32} {x : CS} (h : pq_R A les car b v R nr ρs sg vl x) : zc x := by
  obtain ⟨-, ⟨h1, h2, h3⟩, -, h4, -⟩ := h
  refine ⟨h4, ?_⟩
  unfold zcb
  rw [h1, h2]
  rcases h3 with ⟨a1, a2, a3, a4⟩ | ⟨a1, a2, a3, a4⟩
  · exact Or.inl ⟨a1, a2, a3, a4⟩
  · exact Or.inr ⟨a1, a2, a3, a4⟩
section ZTA
variable {tS : Nat → Nat} {tV : Nat → Int32} {b v W R g nr s : Nat} {x y z x0 : CS} {nm : Nat → Nat} {P : Nat → Nat → ZP} {M : Nat → Nat} {rs : Nat → ZR}
/-- the first token -/
theorem zst0 (h1 : x.2 4 = tS) (h2 : x.1 7 = tV) (h3 : x.1 162 8 = 0) (h4 : x.1 162 4 = -1) (h7 : x.2 162 1 = b) (h8 : x.2 162 2 = v) (h9 : x.1 b 5 = nI s) (h10 : b = 20 ∨ b = 70) (h11 : v = 41 ∨ v = 91) : ∃ x', f_X2_step x = some x' ∧ zS tS tV b v 0 s x' ∧ zM x x' := by
  have e1 : ∀ (u : CS) (w : Int32), (g_wi u 162 4 w).1 162 4 = w := fun u w => by simp [g_wi, upd]
  refine ⟨g_wi (g_wi (g_wr (g_wi x 162 4 (nI 0)) 162 5 (tS 0)) 162 6 (x.1 5 0)) 162 7 (tV 0), ?_, ⟨?_, ?_, ?_, ?_, ?_, ?_, ?_, ?_, ?_, h10, h11⟩, fun j hj => ?_, fun j hj => ?_⟩
  · unfold f_X2_step
    rw [h3, if_neg (by decide), h4, show (-1 : Int32) + 1 = nI 0 by decide]
    unfold f_X8_sign f_X8_place f_X8_value
    have e2 : ∀ w : Nat, (g_wr (g_wi x 162 4 (nI 0)) 162 5 w).1 162 4 = nI 0 := fun w => by simp [g_wi, g_wr, upd]
    have e3 : ∀ (w : Nat) (u : Int32), (g_wi (g_wr (g_wi x 162 4 (nI 0)) 162 5 w) 162 6 u).1 162 4 = nI 0 := fun w u => by simp [g_wi, g_wr, upd]
    rw [e1, if_neg (nI_pos (by omega)), if_neg (show ¬ (401 : Int32) ≤ nI 0 by decide), if_pos ((pp_ok (by omega)).mpr (by omega)), nI_clamp (by omega), pp_b]
    have e4 : (g_wi x 162 4 (nI 0)).2 4 0 = tS 0 := by rw [← h1]; rfl
    rw [e4, e2, if_neg (nI_pos (by omega)), if_neg (show ¬ (401 : Int32) ≤ nI 0 by decide), if_pos ((pp_ok (by omega)).mpr (by omega)), nI_clamp (by omega), pp_b]
    have e5 : (g_wr (g_wi x 162 4 (nI 0)) 162 5 (tS 0)).1 5 0 = x.1 5 0 := by simp [g_wi, g_wr]
    rw [e5, e3, if_neg (nI_pos (by omega)), if_neg (show ¬ (401 : Int32) ≤ nI 0 by decide), if_pos ((pp_ok (by omega)).mpr (by omega)), nI_clamp (by omega), pp_b]
    have e6 : (g_wi (g_wr (g_wi x 162 4 (nI 0)) 162 5 (tS 0)) 162 6 (x.1 5 0)).1 7 0 = tV 0 := by rw [← h2]; simp [g_wi, g_wr]
    rw [e6]
  · simp [g_wi, g_wr, h1]
  · simp [g_wi, g_wr, h2]
  · simp [g_wi, g_wr, upd, h3]
  · simp [g_wi, g_wr, upd]
  · simp [g_wi, g_wr, va_up]
  · simp [g_wi, g_wr, upd]
  · simp [g_wi, g_wr, va_up, h7]
  · simp [g_wi, g_wr, va_up, h8]
  · have : b ≠ 162 := by omega
    simp [g_wi, g_wr, this, h9]
  · simp [g_wi, g_wr, hj]
  · simp [g_wi, g_wr, hj]
theorem zrl_all {hb hn : Nat} (hx4 : x.2 4 = tS) (hx7 : x.1 7 = tV) (hbb : b = 20 ∨ b = 70) (hvv : v = 41 ∨ v = 91) (hnm : (∀ k, k < 8 → nm k < 1000) ∧ ∀ j k, j < 8 → k < 8 → nm j = nm k → j = k) (hW : W ≤ 8) (hM : ∀ j, j < W → 1 ≤ M j ∧ M j ≤ 3) (hP : ∀ w, w < W → ∀ j, j < M w → zwp (P w j)) (hR : R ≤ 4) (hw : ∀ k, k < R → zwr W (rs k)) (hbg : zbg rs R ≤ 400) (hg : if hb = 1 then g ≤ 20 else g = 4) (hr : if hn = 1 then nr ≤ 99 else nr = 6) (ht : zat tS tV 0 (zLt nm P M rs W hb g hn nr R)) (hi : (zLt nm P M rs W hb g hn nr R).length ≤ 399) (hend : tS (zLt nm P M rs W hb g hn nr R).length = 44) : ∃ x', f_X2_readLanguage (g_pz x b v) = some x' ∧ zLn tS tV b v nm x P M rs W (zLt nm P M rs W hb g hn nr R).length W R g nr x' := by
  obtain ⟨Z, hZ⟩ : ∃ Z, Z = g_pz x b v := ⟨_, rfl⟩
  have z1 : ∀ j, j ≠ 162 → j ≠ 163 → Z.1 j = x.1 j := fun j q1 q2 => by rw [hZ]; unfold g_pz; simp [q1, q2]
  have z2 : ∀ j, j ≠ 162 → Z.2 j = x.2 j := fun j q1 => by rw [hZ]; unfold g_pz; simp [q1]
  have z3 : Z.1 162 8 = 0 ∧ Z.1 162 4 = -1 ∧ Z.2 162 1 = b ∧ Z.2 162 2 = v := by rw [hZ]; exact ⟨rfl, rfl, rfl, rfl⟩
  obtain ⟨Y, hY⟩ : ∃ Y, Y = g_wi (g_wi (g_wi (g_wi (g_wi (g_wi (g_wi Z b 4 0) b 5 0) b 6 4) b 7 6) v 2 0) v 3 0) v 4 0 := ⟨_, rfl⟩
  have nbv : b ≠ v ∧ v ≠ b := by omega
  have y1 : ∀ j, j ≠ b → j ≠ v → Y.1 j = Z.1 j := fun j q1 q2 => by rw [hY]; simp [g_wi, q1, q2]
  have y2 : Y.2 = Z.2 := by rw [hY]; rfl
  have y3 : Y.1 b 4 = 0 ∧ Y.1 b 5 = 0 ∧ Y.1 b 6 = 4 ∧ Y.1 b 7 = 6 := by rw [hY]; simp [g_wi, upd, nbv.1]
  have y4 : Y.1 v 2 = 0 ∧ Y.1 v 3 = 0 ∧ Y.1 v 4 = 0 := by rw [hY]; simp [g_wi, upd]
  obtain ⟨x1, a1, a2, a3⟩ := zst0 (x := Y) (tS := tS) (tV := tV) (b := b) (v := v) (s := 0) (by rw [y2, z2 4 (by omega)]; exact hx4) (by rw [y1 7 (by omega) (by omega), z1 7 (by omega) (by omega)]; exact hx7) (by rw [y1 162 (by omega) (by omega)]; exact z3.1) (by rw [y1 162 (by omega) (by omega)]; exact z3.2.1) (by rw [y2]; exact z3.2.2.1) (by rw [y2]; exact z3.2.2.2) y3.2.1 hbb hvv
  have hL : zLn tS tV b v nm x P M rs W 0 0 0 4 6 x1 := by
    refine ⟨a2, ⟨by omega, by rw [a3.1 v (by omega)]; exact y4.1, fun k hk => by omega, hnm.1, hnm.2⟩, by rw [a3.1 v (by omega)]; exact y4.2.1, by rw [a3.1 v (by omega)]; exact y4.2.2, fun j hj => by omega, ?_, fun k hk => by omega, fun p hp => (by cases hp), fun j q1 q2 q3 q4 => ?_, by omega⟩
    · rw [a3.1 b (by omega)]; exact ⟨y3.1, y3.2.2.1, y3.2.2.2⟩
    · refine ⟨?_, ?_⟩
      · rw [a3.1 j q1, y1 j (by omega) (by omega), z1 j q1 q2]
      · rw [a3.2 j q1, y2, z2 j q1]
  obtain ⟨x2, b1, b2⟩ := zl_all hL hW hM hP hR hw hbg hg hr ht hi hend
  refine ⟨x2, ?_, b2⟩
  rw [← hZ]
  unfold f_X2_readLanguage
  rw [z3.2.2.1, if_pos (pp_k7 hbb)]
  unfold f_X5_clear
  rw [pp_b]
  have e1 : (g_wi (g_wi (g_wi (g_wi Z b 4 0) b 5 0) b 6 4) b 7 6).2 162 2 = v := z3.2.2.2
  rw [e1, if_pos (pp_k9 hvv)]
  unfold f_X9_clear
  rw [pp_b, ← hY, a1, pp_b]
  exact b1
/-- the rules as the class keeps them -/
def zρ (rs : Nat → ZR) (k : Nat) : QR := ((rs k).1, (rs k).2.1, zbg rs k, zbg rs k + (zcs (rs k)).length, zbg rs k + (zcs (rs k)).length + (zct (rs k)).length)
/-- the language that was told -/
def zPV (W g : Nat) (P : Nat → Nat → ZP) (M : Nat → Nat) : PV := (W, fun _ => 0, fun j => zln (P j) (M j), fun j => if j < W then zpi (P j) (M j) else fun _ => 0, 0, fun _ => 0, g)
theorem zTe {n : Nat} (hc : zcb x) (hbv : x.2 0 8 = b ∧ x.2 0 9 = v) (hM : ∀ j, j < W → 1 ≤ M j ∧ M j ≤ 3) (hP : ∀ w, w < W → ∀ j, j < M w → zwp (P w j)) (hw : ∀ k, k < R → zwr W (rs k)) (hbg : zbg rs R ≤ 400) (hg : g ≤ 20) (hr : nr ≤ 99) (h : zLn tS tV b v nm x P M rs W n W R g nr y) : ∃ x', f_X12_beginAnew (g_wi (g_wi y 1 1 0) 0 10 (y.1 162 9)) = some x' ∧ x'.1 162 8 = 0 ∧ pq_R (zPV W g P M) 0 0 b v R nr (zρ rs) (x'.2 (b + 3)) (x'.1 (b + 4)) x' ∧ ∀ k, k < R → zmt (x'.2 (b + 3)) (x'.1 (b + 4)) (zρ rs k) (rs k) := by
  obtain ⟨h1, h2, h3, h4, h5, h6, h7, h8, h9, h10⟩ := h
  have hb := h1.hb
  have hv := h1.hv
  have hW := h2.1
  have o0 := h9 0 (by omega) (by omega) (by omega) (by omega)
  obtain ⟨b', hb'⟩ : ∃ q, q = x.2 0 6 := ⟨_, rfl⟩
  obtain ⟨v', hv'⟩ : ∃ q, q = x.2 0 7 := ⟨_, rfl⟩
  have hc2 := hc
  unfold zcb at hc2
  rw [← hb', ← hv', hbv.1, hbv.2] at hc2
  obtain ⟨Y, hY⟩ : ∃ Y, Y = g_wi (g_wi y 1 1 0) 0 10 (y.1 162 9) := ⟨_, rfl⟩
  have Y2 : Y.2 = y.2 := by rw [hY]; rfl
  have Y1 : ∀ j, j ≠ 0 → j ≠ 1 → Y.1 j = y.1 j := fun j q1 q2 => by rw [hY]; simp [g_wi, q1, q2]
  have Y11 : Y.1 1 1 = 0 := by rw [hY]; simp [g_wi, upd]
  have p6 : Y.2 0 6 = b' := by rw [Y2, o0.2]; exact hb'.symm
  have p7 : Y.2 0 7 = v' := by rw [Y2, o0.2]; exact hv'.symm
  have p8 : Y.2 0 8 = b := by rw [Y2, o0.2]; exact hbv.1
  have p9 : Y.2 0 9 = v := by rw [Y2, o0.2]; exact hbv.2
  have hb2 : b' = 20 ∨ b' = 70 := by omega
  have hv2 : v' = 41 ∨ v' = 91 := by omega
  obtain ⟨X, hX⟩ : ∃ X, X = g_wi (g_wr (g_wr (g_wr (g_wr Y 0 6 b) 0 8 b') 0 7 v) 0 9 v') 14 1 0 := ⟨_, rfl⟩
  have X1 : ∀ j, j ≠ 14 → X.1 j = Y.1 j := fun j q => by rw [hX]; simp [g_wi, g_wr, q]
  have X14 : X.1 14 1 = 0 := by rw [hX]; simp [g_wi, upd]
  have X2 : ∀ j, j ≠ 0 → X.2 j = Y.2 j := fun j q => by rw [hX]; simp [g_wi, g_wr, q]
  have X0 : X.2 0 6 = b ∧ X.2 0 7 = v ∧ X.2 0 8 = b' ∧ X.2 0 9 = v' := by rw [hX]; simp [g_wi, g_wr, va_up]
  have E1 : ∀ j, 20 ≤ j → X.1 j = y.1 j := fun j q => by rw [X1 j (by omega), Y1 j (by omega) (by omega)]
  have E2 : ∀ j, j ≠ 0 → X.2 j = y.2 j := fun j q => by rw [X2 j q, Y2]
  have hln : ∀ j, j < W → 0 < zln (P j) (M j) ∧ zln (P j) (M j) ≤ 24 := fun j hj => by
    have m1 := hM j hj
    have m2 := zlnB (P := P j) (M j) (hP j hj)
    refine ⟨?_, by omega⟩
    obtain ⟨m, hm⟩ : ∃ m, M j = m + 1 := ⟨M j - 1, by omega⟩
    rw [hm]
    have := (hP j hj m (by omega)).2.2.2.2.2.1
    show 0 < zln (P j) m + (P j m).2.2.2
    omega
  refine ⟨X, ?_, ?_, ⟨⟨hW, fun j => Nat.zero_le _, fun j hj => (hln j hj).1, hg⟩, ⟨X0.1, X0.2.1, ?_⟩, ⟨hr, ?_⟩, ?_, ⟨hv, ?_, fun j hj => ⟨?_, ?_, ?_⟩, ?_⟩, ⟨?_, ?_⟩, ⟨hb, by omega, ?_, ?_, fun k hk => ?_⟩, rfl, rfl⟩, fun k hk => ?_⟩
  · rw [← hY]
    unfold f_X12_beginAnew
    rw [p6, p8, if_pos (pp_k7 hb2), if_pos (pp_k7 hb)]
    have c1 : (g_wr (g_wr Y 0 6 b) 0 8 b').2 0 7 = v' := by rw [← p7]; simp [g_wr, va_up]
    have c2 : (g_wr (g_wr Y 0 6 b) 0 8 b').2 0 9 = v := by rw [← p9]; simp [g_wr, va_up]
    rw [c1, c2, if_pos (pp_k9 hv2), if_pos (pp_k9 hv), ← hX]
  · rw [E1 162 (by omega)]; exact h1.2.2.1
  · rw [X0.2.2.1, X0.2.2.2]
    omega
  · rw [E1 b (by omega)]; exact h6.2.2
  · rw [X1 1 (by omega)]; exact Y11
  · rw [E1 v (by omega)]; exact h2.2.1
  · rw [E1 _ (by unfold pp_wd; omega)]; exact (h5 j hj).1
  · rw [E1 _ (by unfold pp_wd; omega)]; exact (h5 j hj).2.1
  · have hj' : j < W := hj
    have a3 := (h5 j hj).2.2
    have ept : pv_pt (zPV W g P M) j = zpi (P j) (M j) := if_pos hj'
    rw [ept]
    refine ⟨?_, (hln j hj).2, zpiB (M j) (hP j hj), fun k hk => ?_⟩
    · rw [E1 _ (by unfold pp_wd; omega)]; exact a3.1
    · rw [E1 _ (by unfold pp_wd; omega)]; exact a3.2 k hk
  · exact ⟨X14, by show (0 : Nat) ≤ 24; omega, fun k => Nat.zero_le _, fun k hk => absurd hk (Nat.not_lt_zero k)⟩
  · rw [E1 v (by omega)]; exact h3
  · rw [E1 v (by omega)]; exact h4
  · rw [E1 b (by omega)]; exact h6.1
  · rw [E1 b (by omega)]; exact h6.2.1
  · obtain ⟨r1, r2, r3, r4, r5, r6⟩ := h7 k hk
    obtain ⟨w1, w2, w3, w4⟩ := hw k hk
    have hle := zbgM rs R hk
    have ep : 20 ≤ pp_rr b k := by unfold pp_rr; omega
    have e3 : X.2 (b + 3) = y.2 (b + 3) := E2 _ (by omega)
    have e4 : X.1 (b + 4) = y.1 (b + 4) := E1 _ (by omega)
    unfold zρ
    refine ⟨w2, Nat.le_add_right _ _, Nat.le_add_right _ _, by show zbg rs k + (zcs (rs k)).length + (zct (rs k)).length ≤ 400; omega, ?_, ?_, ?_, ?_, fun hlt => ?_, ?_, fun p hp => ?_⟩
    · rw [E1 _ ep]; exact r2
    · rw [E1 _ ep]; exact r3
    · rw [E1 _ ep]; exact r4
    · rw [E1 _ ep]; exact r5
    · rw [e3]
      have q : (rs k).2.2.2.1 ≠ 0 := by
        intro q
        have e : zct (rs k) = [] := by unfold zct; rw [if_neg (fun q2 => q2 q)]
        change zbg rs k + (zcs (rs k)).length < zbg rs k + (zcs (rs k)).length + (zct (rs k)).length at hlt
        rw [e] at hlt
        have : zbg rs k + (zcs (rs k)).length < zbg rs k + (zcs (rs k)).length + 0 := hlt
        omega
      have e : zct (rs k) = zc3 (rs k).2.2.2.2 := by unfold zct; rw [if_pos q]
      have rr := r6.r
      rw [e] at rr ⊢
      exact (zok3 (A := zPV W g P M) (les := 0) (w4 q) rr).2.1
    · rw [E2 _ (by omega), e3]
      have hk3 : (rs k).1 = 0 ∨ (rs k).1 = 1 ∨ (rs k).1 = 2 := by omega
      rcases hk3 with q | q | q
      · exact Or.inr (Or.inl ⟨q, by rw [r1, q]⟩)
      · exact Or.inr (Or.inr ⟨q, by rw [r1, q]⟩)
      · refine Or.inl ⟨q, by rw [r1, q], ?_⟩
        have e : zcs (rs k) = zc1 (rs k).2.2.1 := by unfold zcs; rw [if_pos q]
        have rl := r6.l
        rw [e] at rl
        show pp_se (y.2 (b + 3)) (zbg rs k) (zbg rs k + (zcs (rs k)).length)
        rw [e]
        exact (zok1 (A := zPV W g P M) (les := 0) (w3 q) rl).2.1
    · rw [e3, e4]
      change p < zbg rs k + (zcs (rs k)).length + (zct (rs k)).length at hp
      exact h8 p (by omega)
  · obtain ⟨r1, r2, r3, r4, r5, r6⟩ := h7 k hk
    rw [E2 (b + 3) (by omega), E1 (b + 4) (by omega)]
    exact ⟨rfl, rfl, rfl, rfl, r6.l, r6.r⟩
end ZTA
