/-! a single test: not, brackets, a word's test, a comparison -/
section SG2
variable {b v n W : Nat} {x0 xs : CS} {y0 ys : MS} {t : Nat → Nat} {T : Nat}
theorem pp_trC : ∀ s, s < 46 → ((44 ≤ pp_tr s ∧ pp_tr s ≤ 48) ↔ (36 ≤ s ∧ s ≤ 40)) := by decide
theorem pp_isIn {a : Nat} (ha : a < 61) : f_X15_isIn (nI a) 44 48 = some (pp_i (decide (44 ≤ a ∧ a ≤ 48))) := by
  unfold f_X15_isIn
  rw [show (44 : Int32) = nI 44 from rfl, show (48 : Int32) = nI 48 from rfl]
  by_cases h1 : a < 44
  · rw [if_pos ((nI_ltI (by omega) (by omega)).mpr h1), decide_eq_false (by omega)]; rfl
  · rw [if_neg (fun q => h1 ((nI_ltI (by omega) (by omega)).mp q))]
    by_cases h2 : 48 < a
    · rw [if_pos ((nI_ltI (by omega) (by omega)).mpr h2), decide_eq_false (by omega)]; rfl
    · rw [if_neg (fun q => h2 ((nI_ltI (by omega) (by omega)).mp q)), decide_eq_true (by omega)]; rfl
theorem pp_cmpC {x : CS} : f_X2_isComparison x = some (pp_i (decide (36 ≤ x.2 162 5 ∧ x.2 162 5 ≤ 40))) := by
  unfold f_X2_isComparison
  generalize x.2 162 5 = s
  by_cases h1 : s = 36
  · subst h1; rfl
  by_cases h2 : s = 37
  · subst h2; rfl
  by_cases h3 : s = 38
  · subst h3; rfl
  by_cases h4 : s = 39
  · subst h4; rfl
  by_cases h5 : s = 40
  · subst h5; rfl
  rw [if_neg h1, if_neg h2, if_neg h3, if_neg h4, if_neg h5, decide_eq_false (by omega)]; rfl
theorem pp_tks {c k d s : Nat} {x : CS} {y : MS} (hX : pp_CX b v n W x0 xs y0 ys t T) (h : pp_PO b n W x0 xs y0 ys c k d x y) (hs : s < 46) : f_X15_takes (nI (pp_tr s)) y = (if x0.2 4 k = s then some (1, g_mi y 120 8 (y 120 8 + 1)) else some (0, y)) := by
  unfold f_X15_takes
  rw [pp_isP hX h hs, pp_b, pp_if1]
  by_cases e : x0.2 4 k = s
  · rw [if_pos e, if_pos (decide_eq_true e)]
  · rw [if_neg e, if_neg (show ¬ decide (x0.2 4 k = s) = true by rw [decide_eq_false e]; decide)]
theorem pp_snW {f : Nat} {p : Int32} (hX : pp_CX b v n W x0 xs y0 ys t T) : pp_EW b n x0 xs y0 ys (f_X2_readSingle (f + 1) p) (f_X15_single (f + 1)) := by
  intro c x y hw
  obtain ⟨q1, q2, q3, q4, q5⟩ := pp_PWr hX hw
  obtain ⟨h1, h2⟩ := pp_sumVW (f := 11) (p := p) hX hw
  obtain ⟨x1, a1, a2⟩ := pp_addW (s := 45) (w := 0) hX hw (by omega)
  have hk : ∃ k, y 120 8 = nI k ∧ k < 402 := by
    obtain ⟨hC, hE, k, ⟨m1, m2, m3, m4, m5, m6, m7⟩, -⟩ := hw
    have := hX.2.2.1.1
    exact ⟨k, m7, by omega⟩
  obtain ⟨k, hk1, hk2⟩ := hk
  refine ⟨x1, 0, y, ?_, ?_, a2⟩
  · rw [f_X2_readSingle, q3, if_neg (by decide), if_neg (by decide), if_neg (by decide), if_neg (by decide), h1, pp_b, pp_cmpC, q3, pp_b, pp_if1, if_neg (show ¬ decide (36 ≤ 45 ∧ 45 ≤ 40) = true by decide), pp_refW q4, pp_b]
    unfold f_X2_readSingle_148
    rw [h1, pp_b, q1, if_pos (pp_k7 hX.1), a1]; rfl
  · rw [f_X15_single, pp_isW q5, pp_b, if_pos rfl, pp_isW q5, pp_b, if_pos rfl, pp_takesW q5, pp_b, if_pos rfl, pp_takesW q5, pp_b, if_pos rfl]
    unfold f_X15_comparison
    rw [h2, pp_b]
    simp only []
    rw [hk1, if_pos ((pp_ok (by omega)).mpr hk2), q5, if_neg (by decide)]
    unfold f_X15_comparison_33
    rw [pp_wrW q5]; rfl
/-- not test -/
theorem pp_not {c k d f : Nat} {x : CS} {y : MS} (hX : pp_CX b v n W x0 xs y0 ys t T) (h : pp_PO b n W x0 xs y0 ys c k d x y) (hd : d ≤ 8) (hf : 0 < f) (hs : x0.2 4 k ≠ 44) (hs2 : x0.2 4 k ≠ 45) (hS : d < 8 → pp_EX b n W x0 xs y0 ys (d + 1) true (f_X2_readSingle f (nI (d + 1))) (f_X15_single f)) : ∃ x1 r y1, ((f_X2_requireDepth (nI d) x).bind fun q14 => (f_X2_step q14).bind fun q15 => (f_X2_readSingle f (nI d + (1 : Int32)) q15).bind fun q16 => if kd (q16.2 162 1) = 7 then ((f_X5_addSign (q16.2 162 1) 21 (0 : Int32) q16).bind fun q18 => some (q18)) else none) = some x1 ∧ ((f_X15_deeper y).bind fun q17 => (f_X15_single f q17).bind fun q18 => (f_X15_node (21 : Int32) q18.1 (0 : Int32) (g_mi q18.2 120 12 ((q18.2 120 12) - (1 : Int32)))).bind fun q19 => some ((q19.1, q19.2))) = some (r, y1) ∧ ((∃ k1, k < k1 ∧ pp_PO b n W x0 xs y0 ys c k1 d x1 y1 ∧ (x1.1 162 8 = 0 → x.1 162 8 = 0 ∧ pp_SG b x x1 r true)) ∨ pp_PW b n x0 xs y0 ys c x1 y1) := by
  obtain ⟨g, rfl⟩ : ∃ g, f = g + 1 := ⟨f - 1, by omega⟩
  obtain ⟨xa, x1, y1, d1, d2, d3, d4⟩ := pp_dep hX h hd hs hs2
  rw [d1, pp_b, d2, pp_b, d3, pp_b, nI_1]
  have hW : ∀ (xw : CS) (yw : MS) (r : Int32), pp_PW b n x0 xs y0 ys (c + 1) xw yw → ∃ x2 r2 y2, (if kd (xw.2 162 1) = 7 then ((f_X5_addSign (xw.2 162 1) 21 (0 : Int32) xw).bind fun q19 => some (q19)) else none) = some x2 ∧ ((f_X15_node (21 : Int32) r (0 : Int32) (g_mi yw 120 12 ((yw 120 12) - (1 : Int32)))).bind fun q21 => some ((q21.1, q21.2))) = some (r2, y2) ∧ pp_PW b n x0 xs y0 ys c x2 y2 := by
    intro xw yw r hw
    obtain ⟨q1, q2, q3, q4, q5⟩ := pp_PWr hX hw
    obtain ⟨x3, y3, q, n1, n2, n3⟩ := pp_nodW (s := 21) (w := 0) (l := r) (r := 0) (u := 21) hX (pp_PWd (u := yw 120 12 - 1) hw) (by omega)
    rw [q1, if_pos (pp_k7 hX.1), n1, n2]
    exact ⟨_, _, _, rfl, rfl, n3⟩
  rcases d4 with ⟨d5, d6, d7, d8, d9⟩ | hw
  · obtain ⟨x2, r, y2, s1, s2, s3⟩ := hS d5 _ _ _ _ d6
    rw [s1, pp_b, s2, pp_b]
    rcases s3 with ⟨k2, k21, k22, k23⟩ | hw
    · obtain ⟨x3, y3, Z, n1, n2, n3, n4, n5⟩ := pp_nodO (s := 21) (w := 0) (l := r) (r := 0) hX (pp_POd1 k22) (by omega) (fun Z q1 q2 q3 => by
        obtain ⟨-, u2⟩ := k23 q1
        obtain ⟨w1, ⟨S, w2⟩, w3, -⟩ := pp_SGu (s := 21) (w := 0) u2 q2 q3 rfl
        exact Or.inr (Or.inl ⟨_, S, rfl, w2, w1, fun q => w3 rfl⟩))
      rw [(pp_POr hX k22).1, if_pos (pp_k7 hX.1), n1]
      rw [show f_X15_node (21 : Int32) (r, y2).1 0 (g_mi (r, y2).2 120 12 (((r, y2).2 120 12) - (1 : Int32))) = some (nI Z, y3) from n2]
      refine ⟨x3, nI Z, y3, rfl, rfl, Or.inl ⟨k2, by omega, n3, fun q => ?_⟩⟩
      rw [n4] at q
      obtain ⟨u1, u2⟩ := k23 q
      obtain ⟨z1, z2, z3⟩ := n5 q
      refine ⟨d7.symm.trans u1, ?_⟩
      rw [z2]
      exact (pp_SGu (s := 21) (w := 0) u2 z1 z3 rfl).2.2.2.pre d8
    · obtain ⟨x3, r3, y3, e1, e2, e3⟩ := hW x2 y2 r hw
      exact ⟨x3, r3, y3, e1, e2, Or.inr e3⟩
  · obtain ⟨x2, r, y2, h1, h2, hw⟩ := pp_snW (f := g) (p := nI (d + 1)) hX _ _ _ hw
    rw [h1, pp_b, h2, pp_b]
    obtain ⟨x3, r3, y3, e1, e2, e3⟩ := hW x2 y2 r hw
    exact ⟨x3, r3, y3, e1, e2, Or.inr e3⟩
/-- [ test ] -/
theorem pp_brt {c k d f : Nat} {x : CS} {y : MS} (hX : pp_CX b v n W x0 xs y0 ys t T) (h : pp_PO b n W x0 xs y0 ys c k d x y) (hd : d ≤ 8) (hf : 0 < f) (hs : x0.2 4 k ≠ 44) (hs2 : x0.2 4 k ≠ 45) (hS : d < 8 → pp_EX b n W x0 xs y0 ys (d + 1) true (f_X2_readTest (f_X2_readSingle f) (nI (d + 1))) (f_X15_test (f_X15_single f))) : ∃ x1 r y1, ((f_X2_requireDepth (nI d) x).bind fun q10 => (f_X2_step q10).bind fun q11 => (f_X2_readTest (f_X2_readSingle f) (nI d + (1 : Int32)) q11).bind fun q12 => (f_X2_expect 29 q12).bind fun q13 => some (q13)) = some x1 ∧ ((f_X15_deeper y).bind fun q14 => (f_X15_test (f_X15_single f) q14).bind fun q15 => (f_X15_take (52 : Int32) q15.2).bind fun q16 => some ((q15.1, g_mi q16 120 12 ((q16 120 12) - (1 : Int32))))) = some (r, y1) ∧ ((∃ k1, k < k1 ∧ pp_PO b n W x0 xs y0 ys c k1 d x1 y1 ∧ (x1.1 162 8 = 0 → x.1 162 8 = 0 ∧ pp_SG b x x1 r true)) ∨ pp_PW b n x0 xs y0 ys c x1 y1) := by
  obtain ⟨g, rfl⟩ : ∃ g, f = g + 1 := ⟨f - 1, by omega⟩
  obtain ⟨xa, x1, y1, d1, d2, d3, d4⟩ := pp_dep hX h hd hs hs2
  rw [d1, pp_b, d2, pp_b, d3, pp_b, nI_1]
  have hW : ∀ (c' : Nat) (xw : CS) (yw : MS) (r : Int32), pp_PW b n x0 xs y0 ys (c' + 1) xw yw → ∃ x2 r2 y2, ((f_X2_expect 29 xw).bind fun q14 => some q14) = some x2 ∧ ((f_X15_take (52 : Int32) yw).bind fun q3 => some ((r, g_mi q3 120 12 ((q3 120 12) - (1 : Int32))))) = some (r2, y2) ∧ pp_PW b n x0 xs y0 ys c' x2 y2 := by
    intro c' xw yw r hw
    obtain ⟨q1, q2, q3, q4, q5⟩ := pp_PWr hX hw
    rw [pp_expW q4 q3 (by decide), pp_takeW q5]
    exact ⟨_, _, _, rfl, rfl, (pp_PWd hw).m⟩
  rcases d4 with ⟨d5, d6, d7, d8, d9⟩ | hw
  · obtain ⟨x2, r, y2, s1, s2, s3⟩ := hS d5 _ _ _ _ d6
    rw [s1, pp_b, s2, pp_b]
    rcases s3 with ⟨k2, k21, k22, k23⟩ | hw
    · obtain ⟨x3, y3, e1, e2, e3⟩ := pp_exp (s := 29) hX k22 (by omega)
      rw [e1, pp_b]
      show ∃ x1 r y1, _ ∧ Option.bind (f_X15_take (nI (pp_tr 29)) y2) _ = _ ∧ _
      rw [e2, pp_b]
      rcases e3 with ⟨e4, e5, e6, e7⟩ | hw
      · refine ⟨x3, r, _, rfl, rfl, Or.inl ⟨k2 + 1, by omega, (pp_POd1 e5).m.m, fun q => ?_⟩⟩
        rw [e6] at q
        obtain ⟨u1, u2⟩ := k23 q
        exact ⟨d7.symm.trans u1, (u2.pre d8).nc e7⟩
      · exact ⟨x3, r, _, rfl, rfl, Or.inr (pp_PWd hw).m.m⟩
    · obtain ⟨x3, r3, y3, e1, e2, e3⟩ := hW c x2 y2 r hw
      exact ⟨x3, r3, y3, e1, e2, Or.inr e3⟩
  · obtain ⟨x2, r, y2, h1, h2, hw⟩ := pp_tstW hX (pp_bthW hX (pp_snW (f := g) (p := nI (d + 1)) hX)) _ _ _ hw
    rw [h1, pp_b, h2, pp_b]
    obtain ⟨x3, r3, y3, e1, e2, e3⟩ := hW c x2 y2 r hw
    exact ⟨x3, r3, y3, e1, e2, Or.inr e3⟩
/-- sum sign sum -/
theorem pp_cmp {c k d f : Nat} {x : CS} {y : MS} (hX : pp_CX b v n W x0 xs y0 ys t T) (h : pp_PO b n W x0 xs y0 ys c k d x y) (hd : d ≤ 8) (hS : pp_EX b n W x0 xs y0 ys d false (f_X2_readSum (f_X2_readValue 12) (nI d)) (f_X15_sum (f_X15_value 12))) : ∃ x1 r y1, ((f_X2_readSum (f_X2_readValue 12) (nI d) x).bind fun q5 => (f_X2_isComparison q5).bind fun q6 => if q6 = 0 then ((f_X2_refuse q5).bind fun q8 => f_X2_readSingle_148 (f_X2_readSingle f) (nI d) (q5.2 162 5) q8) else ((f_X2_step q5).bind fun q9 => f_X2_readSingle_148 (f_X2_readSingle f) (nI d) (q5.2 162 5) q9)) = some x1 ∧ f_X15_comparison y = some (r, y1) ∧ ((∃ k1, k < k1 ∧ pp_PO b n W x0 xs y0 ys c k1 d x1 y1 ∧ (x1.1 162 8 = 0 → x.1 162 8 = 0 ∧ pp_SG b x x1 r true)) ∨ pp_PW b n x0 xs y0 ys c x1 y1) := by
  have hb := hX.1
  obtain ⟨x1, r, y1, s1, s2, s3⟩ := hS _ _ _ _ h
  unfold f_X15_comparison
  rw [s1, pp_b, s2, pp_b, pp_cmpC, pp_b]
  rcases s3 with ⟨k1, k11, k12, k13⟩ | hw
  · obtain ⟨r1, r2, r3⟩ := pp_POr hX k12
    obtain ⟨p1, p2, p3, p4⟩ := pp_POk k12
    have hn := hX.2.2.1.1
    have hok := (pp_ok (k := k1) (n := 402) (by omega)).mpr (by omega)
    have h46 := pp_sg46 hX.2.2.1 p1
    have hkind : y1 122 k1 = nI (pp_tr (x0.2 4 k1)) := by
      obtain ⟨-, hC, -⟩ := k12
      rw [hC.2.2.2.2.1, h46.2]
    have hin : f_X15_isIn (y1 122 k1) 44 48 = some (pp_i (decide (36 ≤ x0.2 4 k1 ∧ x0.2 4 k1 ≤ 40))) := by
      rw [hkind, pp_isIn (pp_tr61 _ h46.1), decide_eq_decide.mpr (pp_trC _ h46.1)]
    rw [r3, pp_if1]
    simp only []
    rw [p2, if_pos hok, p3, if_pos rfl, nI_clamp (by omega), hin, pp_b, pp_if1]
    by_cases e : 36 ≤ x0.2 4 k1 ∧ x0.2 4 k1 ≤ 40
    · rw [if_pos (decide_eq_true e), if_pos (decide_eq_true e)]
      have ha : pp_ar (x0.2 4 k1) = 2 := by unfold pp_ar; rw [if_neg (by omega), if_pos (by omega)]
      obtain ⟨x2, x3, x4, ra, rb, y3, y4, e1, e2, e3, e4, e5, e6, e7⟩ := pp_bin (bl := false) (bu := false) (xb := x) hX k12 rfl ha k13 hS (fun q => by omega)
      unfold f_X2_readSingle_148
      rw [p2] at e5
      rw [e1, pp_b, e2, pp_b, e3, if_pos (pp_k7 hb), e4, pp_b, e5, pp_b, hkind, e6]
      refine ⟨x4, rb, y4, rfl, rfl, ?_⟩
      rcases e7 with ⟨k3, k31, k32, k33⟩ | hw
      · refine Or.inl ⟨k3, by omega, k32, fun q => ?_⟩
        have := k33 q
        rw [decide_eq_true (by omega)] at this
        exact this
      · exact Or.inr hw
    · rw [if_neg (show ¬ decide (36 ≤ x0.2 4 k1 ∧ x0.2 4 k1 ≤ 40) = true by rw [decide_eq_false e]; decide), if_neg (show ¬ decide (36 ≤ x0.2 4 k1 ∧ x0.2 4 k1 ≤ 40) = true by rw [decide_eq_false e]; decide)]
      obtain ⟨t1, t2, t3, -⟩ := pp_rfs hX k12
      obtain ⟨q1, q2, q3, q4, q5⟩ := pp_PWr hX t3
      obtain ⟨h1, h2⟩ := pp_sumVW (f := 11) (p := nI d) hX t3
      obtain ⟨x2, a1, a2⟩ := pp_addW (s := x0.2 4 k1) (w := 0) hX t3 h46.1
      unfold f_X15_comparison_33 f_X2_readSingle_148
      rw [t1, pp_b, t2, h1, pp_b, q1, if_pos (pp_k7 hb), a1]
      exact ⟨x2, 0, _, rfl, rfl, Or.inr a2.m⟩
  · obtain ⟨q1, q2, q3, q4, q5⟩ := pp_PWr hX hw
    obtain ⟨h1, h2⟩ := pp_sumVW (f := 11) (p := nI d) hX hw
    obtain ⟨x2, a1, a2⟩ := pp_addW (s := 45) (w := 0) hX hw (by omega)
    have hk : ∃ k, y1 120 8 = nI k ∧ k < 402 := by
      obtain ⟨hC, hE, k, ⟨m1, m2, m3, m4, m5, m6, m7⟩, -⟩ := hw
      have := hX.2.2.1.1
      exact ⟨k, m7, by omega⟩
    obtain ⟨k, hk1, hk2⟩ := hk
    rw [q3, pp_if1, if_neg (show ¬ decide (36 ≤ 45 ∧ 45 ≤ 40) = true by decide), pp_refW q4, pp_b]
    simp only []
    unfold f_X15_comparison_33 f_X2_readSingle_148
    rw [hk1, if_pos ((pp_ok (by omega)).mpr hk2), q5, if_neg (by decide), pp_wrW q5, h1, pp_b, q1, if_pos (pp_k7 hb), a1]
    exact ⟨x2, 0, _, rfl, rfl, Or.inr a2⟩
theorem pp_sgl (hX : pp_CX b v n W x0 xs y0 ys t T) : ∀ f d, d ≤ 8 → 10 ≤ f + d → pp_EX b n W x0 xs y0 ys d true (f_X2_readSingle f (nI d)) (f_X15_single f) := by
  intro f
  induction f with
  | zero => intro d h1 h2; omega
  | succ f ih =>
    intro d hd hfd c k x y hP
    have hb := hX.1
    obtain ⟨r1, r2, r3⟩ := pp_POr hX hP
    have i21 : f_X15_is 21 y = some (pp_i (decide (x0.2 4 k = 21))) := pp_isP (s := 21) hX hP (by omega)
    have i28 : f_X15_is 51 y = some (pp_i (decide (x0.2 4 k = 28))) := pp_isP (s := 28) hX hP (by omega)
    have t19 : f_X15_takes 19 y = _ := pp_tks (s := 19) hX hP (by omega)
    have t20 : f_X15_takes 20 y = _ := pp_tks (s := 20) hX hP (by omega)
    rw [f_X2_readSingle, r3, f_X15_single, i21, pp_b, pp_if1, i28, pp_b, pp_if1, t19]
    by_cases e21 : x0.2 4 k = 21
    · rw [if_pos e21, if_pos (decide_eq_true e21)]
      exact pp_not hX hP hd (by omega) (by omega) (by omega) (fun h => ih (d + 1) (by omega) (by omega))
    rw [if_neg e21, if_neg (show ¬ decide (x0.2 4 k = 21) = true by rw [decide_eq_false e21]; decide)]
    by_cases e28 : x0.2 4 k = 28
    · rw [if_pos e28, if_pos (decide_eq_true e28)]
      exact pp_brt hX hP hd (by omega) (by omega) (by omega) (fun h => pp_tst hX (pp_bth hX (ih (d + 1) (by omega) (by omega))))
    rw [if_neg e28, if_neg (show ¬ decide (x0.2 4 k = 28) = true by rw [decide_eq_false e28]; decide)]
    have hof : ∀ s, (s = 19 ∨ s = 20) → x0.2 4 k = s → ∃ x1 r y1, f_X2_readSingle_96 (f_X2_readSingle f) x = some x1 ∧ ((f_X15_name (g_mi y 120 8 (y 120 8 + 1))).bind fun q30 => (f_X15_node (nI (pp_tr s)) q30.1 0 q30.2).bind fun q31 => some ((q31.1, q31.2))) = some (r, y1) ∧ ((∃ k1, k < k1 ∧ pp_PO b n W x0 xs y0 ys c k1 d x1 y1 ∧ (x1.1 162 8 = 0 → x.1 162 8 = 0 ∧ pp_SG b x x1 r true)) ∨ pp_PW b n x0 xs y0 ys c x1 y1) := by
      intro s hs hsk
      obtain ⟨s1, s2, s3, s4⟩ := pp_stp hX hP (by omega) (by omega)
      have hnc : pp_NC b x (pp_sx x (k + 1)) := ⟨by rw [pp_sx1.1 b (by omega)], pp_sx1.2.1 _ (by omega)⟩
      unfold f_X2_readSingle_96
      rw [s1, pp_b, (pp_POr hX s2).1, if_pos (pp_k7 hb), r3, hsk]
      obtain ⟨x3, r, y3, l1, l2, l3⟩ := pp_leafN (s := s) (xb := x) hX s2 (by omega) hnc (fun q => by rw [s3] at q; exact q)
      refine ⟨x3, r, y3, l1, l2, ?_⟩
      rcases l3 with ⟨k3, k31, k32, k33⟩ | hw
      · refine Or.inl ⟨k3, by omega, k32, fun q => ?_⟩
        have := k33 q
        rw [decide_eq_true (by omega)] at this
        exact this
      · exact Or.inr hw
    by_cases e19 : x0.2 4 k = 19
    · rw [if_pos e19, if_pos e19, pp_b, if_neg (show ¬ (1 : Int32) = 0 by decide)]
      exact hof 19 (Or.inl rfl) e19
    rw [if_neg e19, if_neg e19, pp_b, if_pos rfl]
    show ∃ x1 r y1, _ ∧ Option.bind (f_X15_takes 20 y) _ = _ ∧ _
    rw [t20]
    by_cases e20 : x0.2 4 k = 20
    · rw [if_pos e20, if_pos e20, pp_b, if_neg (show ¬ (1 : Int32) = 0 by decide)]
      exact hof 20 (Or.inr rfl) e20
    rw [if_neg e20, if_neg e20, pp_b, if_pos rfl]
    obtain ⟨x1, r, y1, q1, q2, q3⟩ := pp_cmp (f := f) hX hP hd (pp_sum hX (pp_prd hX (pp_val hX 12 d hd (by omega))))
    exact ⟨x1, r, y1, q1, by show Option.bind (f_X15_comparison y) _ = _; rw [q2]; rfl, q3⟩
end SG2
