section VL2
variable {b v n W : Nat} {x0 xs : CS} {y0 ys : MS} {t : Nat → Nat} {T : Nat}
/-- ( sum ) -/
theorem pp_brk {c k d f : Nat} {x : CS} {y : MS} (hX : pp_CX b v n W x0 xs y0 ys t T) (h : pp_PO b n W x0 xs y0 ys c k d x y) (hd : d ≤ 8) (hf : 0 < f) (hs : x0.2 4 k ≠ 44) (hs2 : x0.2 4 k ≠ 45) (hS : d < 8 → pp_EX b n W x0 xs y0 ys (d + 1) false (f_X2_readSum (f_X2_readValue f) (nI (d + 1))) (f_X15_sum (f_X15_value f))) : ∃ x1 r y1, ((f_X2_requireDepth (nI d) x).bind fun q11 => (f_X2_step q11).bind fun q12 => (f_X2_readSum (f_X2_readValue f) (nI d + (1 : Int32)) q12).bind fun q13 => (f_X2_expect 27 q13).bind fun q14 => some q14) = some x1 ∧ f_X15_inBrackets (f_X15_value f) y = some (r, y1) ∧ ((∃ k1, k < k1 ∧ pp_PO b n W x0 xs y0 ys c k1 d x1 y1 ∧ (x1.1 162 8 = 0 → x.1 162 8 = 0 ∧ pp_SG b x x1 r false)) ∨ pp_PW b n x0 xs y0 ys c x1 y1) := by
  obtain ⟨g, rfl⟩ : ∃ g, f = g + 1 := ⟨f - 1, by omega⟩
  obtain ⟨xa, x1, y1, d1, d2, d3, d4⟩ := pp_dep hX h hd hs hs2
  unfold f_X15_inBrackets
  rw [d1, pp_b, d2, pp_b, d3, pp_b, nI_1]
  have hW : ∀ (c' : Nat) (xw : CS) (yw : MS) (r : Int32), pp_PW b n x0 xs y0 ys (c' + 1) xw yw → ∃ x2 r2 y2, ((f_X2_expect 27 xw).bind fun q14 => some q14) = some x2 ∧ ((f_X15_take (50 : Int32) yw).bind fun q3 => some ((r, g_mi q3 120 12 ((q3 120 12) - (1 : Int32))))) = some (r2, y2) ∧ pp_PW b n x0 xs y0 ys c' x2 y2 := by
    intro c' xw yw r hw
    obtain ⟨q1, q2, q3, q4, q5⟩ := pp_PWr hX hw
    rw [pp_expW q4 q3 (by decide), pp_takeW q5]
    exact ⟨_, _, _, rfl, rfl, (pp_PWd hw).m⟩
  rcases d4 with ⟨d5, d6, d7, d8, d9⟩ | hw
  · obtain ⟨x2, r, y2, s1, s2, s3⟩ := hS d5 _ _ _ _ d6
    rw [s1, pp_b, s2, pp_b]
    rcases s3 with ⟨k2, k21, k22, k23⟩ | hw
    · obtain ⟨x3, y3, e1, e2, e3⟩ := pp_exp (s := 27) hX k22 (by omega)
      rw [e1, pp_b]
      show ∃ x1 r y1, _ ∧ Option.bind (f_X15_take (nI (pp_tr 27)) y2) _ = _ ∧ _
      rw [e2, pp_b]
      rcases e3 with ⟨e4, e5, e6, e7⟩ | hw
      · refine ⟨x3, r, _, rfl, rfl, Or.inl ⟨k2 + 1, by omega, (pp_POd1 e5).m.m, fun q => ?_⟩⟩
        rw [e6] at q
        obtain ⟨u1, u2⟩ := k23 q
        exact ⟨d7.symm.trans u1, (u2.pre d8).nc e7⟩
      · exact ⟨x3, r, _, rfl, rfl, Or.inr (pp_PWd hw).m.m⟩
    · obtain ⟨x3, r3, y3, e1, e2, e3⟩ := hW c x2 y2 r hw
      exact ⟨x3, r3, y3, e1, e2, Or.inr e3⟩
  · obtain ⟨h1, h2⟩ := pp_sumVW (f := g) (p := nI (d + 1)) hX hw
    rw [h1, pp_b, h2, pp_b]
    obtain ⟨x3, r3, y3, e1, e2, e3⟩ := hW c x1 y1 0 hw
    exact ⟨x3, r3, y3, e1, e2, Or.inr e3⟩
/-- - value -/
theorem pp_neg {c k d f : Nat} {x : CS} {y : MS} (hX : pp_CX b v n W x0 xs y0 ys t T) (h : pp_PO b n W x0 xs y0 ys c k d x y) (hd : d ≤ 8) (hf : 0 < f) (hs : x0.2 4 k ≠ 44) (hs2 : x0.2 4 k ≠ 45) (hS : d < 8 → pp_EX b n W x0 xs y0 ys (d + 1) false (f_X2_readValue f (nI (d + 1))) (f_X15_value f)) : ∃ x1 r y1, ((f_X2_requireDepth (nI d) x).bind fun q15 => (f_X2_step q15).bind fun q16 => (f_X2_readValue f (nI d + (1 : Int32)) q16).bind fun q17 => if kd (q17.2 162 1) = 7 then ((f_X5_addSign (q17.2 162 1) 43 (0 : Int32) q17).bind fun q19 => some (q19)) else none) = some x1 ∧ ((f_X15_deeper y).bind fun q19 => (f_X15_value f q19).bind fun q20 => (f_X15_node (60 : Int32) q20.1 (0 : Int32) (g_mi q20.2 120 12 ((q20.2 120 12) - (1 : Int32)))).bind fun q21 => some ((q21.1, q21.2))) = some (r, y1) ∧ ((∃ k1, k < k1 ∧ pp_PO b n W x0 xs y0 ys c k1 d x1 y1 ∧ (x1.1 162 8 = 0 → x.1 162 8 = 0 ∧ pp_SG b x x1 r false)) ∨ pp_PW b n x0 xs y0 ys c x1 y1) := by
  obtain ⟨g, rfl⟩ : ∃ g, f = g + 1 := ⟨f - 1, by omega⟩
  obtain ⟨xa, x1, y1, d1, d2, d3, d4⟩ := pp_dep hX h hd hs hs2
  rw [d1, pp_b, d2, pp_b, d3, pp_b, nI_1]
  have hW : ∀ (xw : CS) (yw : MS) (r : Int32), pp_PW b n x0 xs y0 ys (c + 1) xw yw → ∃ x2 r2 y2, (if kd (xw.2 162 1) = 7 then ((f_X5_addSign (xw.2 162 1) 43 (0 : Int32) xw).bind fun q19 => some (q19)) else none) = some x2 ∧ ((f_X15_node (60 : Int32) r (0 : Int32) (g_mi yw 120 12 ((yw 120 12) - (1 : Int32)))).bind fun q21 => some ((q21.1, q21.2))) = some (r2, y2) ∧ pp_PW b n x0 xs y0 ys c x2 y2 := by
    intro xw yw r hw
    obtain ⟨q1, q2, q3, q4, q5⟩ := pp_PWr hX hw
    obtain ⟨x3, y3, q, n1, n2, n3⟩ := pp_nodW (s := 43) (w := 0) (l := r) (r := 0) (u := 60) hX (pp_PWd (u := yw 120 12 - 1) hw) (by omega)
    rw [q1, if_pos (pp_k7 hX.1), n1, n2]
    exact ⟨_, _, _, rfl, rfl, n3⟩
  rcases d4 with ⟨d5, d6, d7, d8, d9⟩ | hw
  · obtain ⟨x2, r, y2, s1, s2, s3⟩ := hS d5 _ _ _ _ d6
    rw [s1, pp_b, s2, pp_b]
    rcases s3 with ⟨k2, k21, k22, k23⟩ | hw
    · obtain ⟨x3, y3, Z, n1, n2, n3, n4, n5⟩ := pp_nodO (s := 43) (w := 0) (l := r) (r := 0) hX (pp_POd1 k22) (by omega) (fun Z q1 q2 q3 => by
        obtain ⟨-, u2⟩ := k23 q1
        obtain ⟨w1, ⟨S, w2⟩, w3, -⟩ := pp_SGu (s := 43) (w := 0) u2 q2 q3 rfl
        exact Or.inr (Or.inl ⟨_, S, rfl, w2, w1, fun q => by omega⟩))
      rw [(pp_POr hX k22).1, if_pos (pp_k7 hX.1), n1]
      rw [show f_X15_node (60 : Int32) (r, y2).1 0 (g_mi (r, y2).2 120 12 (((r, y2).2 120 12) - (1 : Int32))) = some (nI Z, y3) from n2]
      refine ⟨x3, nI Z, y3, rfl, rfl, Or.inl ⟨k2, by omega, n3, fun q => ?_⟩⟩
      rw [n4] at q
      obtain ⟨u1, u2⟩ := k23 q
      obtain ⟨z1, z2, z3⟩ := n5 q
      refine ⟨d7.symm.trans u1, ?_⟩
      rw [z2]
      exact ((pp_SGu (s := 43) (w := 0) u2 z1 z3 rfl).2.2.2.pre d8).f
    · obtain ⟨x3, r3, y3, e1, e2, e3⟩ := hW x2 y2 r hw
      exact ⟨x3, r3, y3, e1, e2, Or.inr e3⟩
  · obtain ⟨h1, h2⟩ := pp_valW (f := g) (p := nI (d + 1)) hX hw
    rw [h1, pp_b, h2, pp_b]
    obtain ⟨x3, r3, y3, e1, e2, e3⟩ := hW x1 y1 0 hw
    exact ⟨x3, r3, y3, e1, e2, Or.inr e3⟩
/-- min ( sum , sum ) -/
theorem pp_cho {c k d f s : Nat} {x : CS} {y : MS} (hX : pp_CX b v n W x0 xs y0 ys t T) (h : pp_PO b n W x0 xs y0 ys c k d x y) (hd : d ≤ 8) (hf : 0 < f) (hsk : x0.2 4 k = s) (hs : s = 24 ∨ s = 25) (hS : d < 8 → pp_EX b n W x0 xs y0 ys (d + 1) false (f_X2_readSum (f_X2_readValue f) (nI (d + 1))) (f_X15_sum (f_X15_value f))) : ∃ x1 r y1, f_X2_readChoice (f_X2_readValue f) (nI d) x = some x1 ∧ f_X15_ofTwo (f_X15_value f) (nI (pp_tr s)) y = some (r, y1) ∧ ((∃ k1, k < k1 ∧ pp_PO b n W x0 xs y0 ys c k1 d x1 y1 ∧ (x1.1 162 8 = 0 → x.1 162 8 = 0 ∧ pp_SG b x x1 r false)) ∨ pp_PW b n x0 xs y0 ys c x1 y1) := by
  obtain ⟨g, rfl⟩ : ∃ g, f = g + 1 := ⟨f - 1, by omega⟩
  have hb := hX.1
  obtain ⟨s1, s2, s3, s4⟩ := pp_stp hX h (by omega) (by omega)
  have hnc : pp_NC b x (pp_sx x (k + 1)) := ⟨by rw [pp_sx1.1 b (by omega)], pp_sx1.2.1 _ (by omega)⟩
  obtain ⟨r1, r2, r3⟩ := pp_POr hX s2
  have his := pp_isP (s := 26) hX s2 (by omega)
  have hsx : x.2 162 5 = s := (pp_POr hX h).2.2.trans hsk
  have ha : pp_ar s = 2 := by rcases hs with rfl | rfl <;> rfl
  unfold f_X2_readChoice f_X15_ofTwo
  rw [s1, pp_b, r3, show (49 : Int32) = nI (pp_tr 26) from rfl, his, pp_b, pp_if1, hsx]
  by_cases e : x0.2 4 (k + 1) = 26
  · rw [if_pos e, if_pos (decide_eq_true e)]
    unfold f_X2_readChoice_23
    obtain ⟨xa, x1, y1, d1, d2, d3, d4⟩ := pp_dep hX s2 hd (by omega) (by omega)
    rw [d1, pp_b, d2, pp_b, d3, pp_b, nI_1]
    -- behind the first sum, all going wrong
    have hW : ∀ (xw : CS) (yw : MS) (l r : Int32), pp_PW b n x0 xs y0 ys (c + 1) xw yw → ∃ x2 r2 y2, (if kd (xw.2 162 1) = 7 then ((f_X5_addSign (xw.2 162 1) s (0 : Int32) xw).bind fun q11 => some (q11)) else none) = some x2 ∧ ((f_X15_node (nI (pp_tr s)) l r (g_mi yw 120 12 ((yw 120 12) - (1 : Int32)))).bind fun q8 => some ((q8.1, q8.2))) = some (r2, y2) ∧ pp_PW b n x0 xs y0 ys c x2 y2 := by
      intro xw yw l r hw
      obtain ⟨q1, q2, q3, q4, q5⟩ := pp_PWr hX hw
      obtain ⟨x3, y3, q, n1, n2, n3⟩ := pp_nodW (s := s) (w := 0) (l := l) (r := r) (u := nI (pp_tr s)) hX (pp_PWd (u := yw 120 12 - 1) hw) (by omega)
      rw [q1, if_pos (pp_k7 hX.1), n1, n2]
      exact ⟨_, _, _, rfl, rfl, n3⟩
    have hW2 : ∀ (xw : CS) (yw : MS) (l r : Int32), pp_PW b n x0 xs y0 ys (c + 1) xw yw → ∃ x2 r2 y2, ((f_X2_expect 27 xw).bind fun q9 => if kd (q9.2 162 1) = 7 then ((f_X5_addSign (q9.2 162 1) s (0 : Int32) q9).bind fun q11 => some (q11)) else none) = some x2 ∧ ((f_X15_take (50 : Int32) yw).bind fun q7 => (f_X15_node (nI (pp_tr s)) l r (g_mi q7 120 12 ((q7 120 12) - (1 : Int32)))).bind fun q8 => some ((q8.1, q8.2))) = some (r2, y2) ∧ pp_PW b n x0 xs y0 ys c x2 y2 := by
      intro xw yw l r hw
      obtain ⟨q1, q2, q3, q4, q5⟩ := pp_PWr hX hw
      rw [pp_expW q4 q3 (by decide), pp_takeW q5, pp_b, pp_b]
      exact hW xw yw l r hw
    have hW3 : ∀ (xw : CS) (yw : MS) (l : Int32), pp_PW b n x0 xs y0 ys (c + 1) xw yw → ∃ x2 r2 y2, ((f_X2_expect 31 xw).bind fun q7 => (f_X2_readSum (f_X2_readValue (g + 1)) (nI (d + 1)) q7).bind fun q8 => (f_X2_expect 27 q8).bind fun q9 => if kd (q9.2 162 1) = 7 then ((f_X5_addSign (q9.2 162 1) s (0 : Int32) q9).bind fun q11 => some (q11)) else none) = some x2 ∧ ((f_X15_take (54 : Int32) yw).bind fun q5 => (f_X15_sum (f_X15_value (g + 1)) q5).bind fun q6 => (f_X15_take (50 : Int32) q6.2).bind fun q7 => (f_X15_node (nI (pp_tr s)) l q6.1 (g_mi q7 120 12 ((q7 120 12) - (1 : Int32)))).bind fun q8 => some ((q8.1, q8.2))) = some (r2, y2) ∧ pp_PW b n x0 xs y0 ys c x2 y2 := by
      intro xw yw l hw
      obtain ⟨q1, q2, q3, q4, q5⟩ := pp_PWr hX hw
      obtain ⟨h1, h2⟩ := pp_sumVW (f := g) (p := nI (d + 1)) hX hw
      rw [pp_expW q4 q3 (by decide), pp_takeW q5, pp_b, pp_b, h1, pp_b, h2, pp_b]
      exact hW2 xw yw l 0 hw
    rcases d4 with ⟨d5, d6, d7, d8, d9⟩ | hw
    · obtain ⟨x2, ra, y2, t1, t2, t3⟩ := hS d5 _ _ _ _ d6
      rw [t1, pp_b, t2, pp_b]
      rcases t3 with ⟨k2, k21, k22, k23⟩ | hw
      · obtain ⟨x3, y3, e1, e2, e3⟩ := pp_exp (s := 31) hX k22 (by omega)
        rw [e1, pp_b]
        show ∃ x1 r y1, _ ∧ Option.bind (f_X15_take (nI (pp_tr 31)) y2) _ = _ ∧ _
        rw [e2, pp_b]
        rcases e3 with ⟨e4, e5, e6, e7⟩ | hw
        · obtain ⟨x4, rb, y4, u1, u2, u3⟩ := hS d5 _ _ _ _ e5
          rw [u1, pp_b, u2, pp_b]
          rcases u3 with ⟨k4, k41, k42, k43⟩ | hw
          · obtain ⟨x5, y5, f1, f2, f3⟩ := pp_exp (s := 27) hX k42 (by omega)
            rw [f1, pp_b]
            show ∃ x1 r y1, _ ∧ Option.bind (f_X15_take (nI (pp_tr 27)) y4) _ = _ ∧ _
            rw [f2, pp_b]
            rcases f3 with ⟨f4, f5, f6, f7⟩ | hw
            · have hsgl : ∀ q : x5.1 162 8 = 0, x.1 162 8 = 0 ∧ pp_SG b x x3 ra false ∧ pp_SG b x3 x5 rb false := fun q => by
                rw [f6] at q
                obtain ⟨v1, v2⟩ := k43 q
                obtain ⟨w1, w2⟩ := k23 (e6.symm.trans v1)
                exact ⟨s3.symm.trans (d7.symm.trans w1), (w2.pre (hnc.tr d8)).nc e7, v2.nc f7⟩
              obtain ⟨x6, y6, Z, n1, n2, n3, n4, n5⟩ := pp_nodO (s := s) (w := 0) (l := ra) (r := rb) hX (pp_POd1 f5).m.m.m (by omega) (fun Z q1 q2 q3 => by
                obtain ⟨-, v2, v3⟩ := hsgl q1
                exact (pp_SGb (W := W) (s := s) (w := 0) v2 v3 q2 q3 ha (fun q => by omega)).1)
              rw [(pp_POr hX f5).1, if_pos (pp_k7 hX.1), n1]
              show ∃ x1 r y1, _ ∧ Option.bind (f_X15_node (nI (pp_tr s)) ra rb (g_mi y5 120 12 ((y5 120 12) - (1 : Int32)))) _ = _ ∧ _
              rw [n2]
              refine ⟨x6, nI Z, y6, rfl, rfl, Or.inl ⟨k4 + 1, by omega, n3, fun q => ?_⟩⟩
              rw [n4] at q
              obtain ⟨v1, v2, v3⟩ := hsgl q
              obtain ⟨z1, z2, z3⟩ := n5 q
              refine ⟨v1, ?_⟩
              rw [z2]
              exact (pp_SGb (W := W) (s := s) (w := 0) v2 v3 z1 z3 ha (fun q => by omega)).2.f
            · obtain ⟨x6, r6, y6, q1, q2, q3⟩ := hW x5 y5 ra rb hw.m.m.m
              exact ⟨x6, r6, y6, q1, q2, Or.inr q3⟩
          · obtain ⟨x6, r6, y6, q1, q2, q3⟩ := hW2 x4 y4 ra rb hw.m.m
            exact ⟨x6, r6, y6, q1, q2, Or.inr q3⟩
        · obtain ⟨h1, h2⟩ := pp_sumVW (f := g) (p := nI (d + 1)) hX hw
          rw [h1, pp_b, h2, pp_b]
          obtain ⟨x6, r6, y6, q1, q2, q3⟩ := hW2 x3 y3 ra 0 hw.m.m
          exact ⟨x6, r6, y6, q1, q2, Or.inr q3⟩
      · obtain ⟨x6, r6, y6, q1, q2, q3⟩ := hW3 x2 y2 ra hw.m
        exact ⟨x6, r6, y6, q1, q2, Or.inr q3⟩
    · obtain ⟨h1, h2⟩ := pp_sumVW (f := g) (p := nI (d + 1)) hX hw
      rw [h1, pp_b, h2, pp_b]
      obtain ⟨x6, r6, y6, q1, q2, q3⟩ := hW3 x1 y1 0 hw.m
      exact ⟨x6, r6, y6, q1, q2, Or.inr q3⟩
  · rw [if_neg e, if_neg (show ¬ decide (x0.2 4 (k + 1) = 26) = true by rw [decide_eq_false e]; decide)]
    obtain ⟨t1, t2, t3, -⟩ := pp_rfs hX s2
    obtain ⟨q1, q2, q3, q4, q5⟩ := pp_PWr hX t3
    rw [t1, pp_b, t2]
    unfold f_X2_readChoice_23
    have hrd : f_X2_requireDepth (nI d) (pp_rx (pp_sx x (k + 1))) = some (pp_rx (pp_sx x (k + 1))) := by
      unfold f_X2_requireDepth
      split
      · rfl
      · rw [pp_refW q4]; rfl
    have hsm := (pp_sumVW (f := g) (p := nI d + 1) hX t3).1
    obtain ⟨x6, o1, o2⟩ := pp_addW (s := s) (w := 0) hX t3.m (by omega)
    rw [hrd, pp_b, pp_stepW q4, pp_b, hsm, pp_b, pp_expW q4 q3 (by decide), pp_b, hsm, pp_b, pp_expW q4 q3 (by decide), pp_b, q1, if_pos (pp_k7 hX.1), o1]
    exact ⟨x6, 0, _, rfl, rfl, Or.inr o2.m⟩
theorem pp_val (hX : pp_CX b v n W x0 xs y0 ys t T) : ∀ f d, d ≤ 8 → 10 ≤ f + d → pp_EX b n W x0 xs y0 ys d false (f_X2_readValue f (nI d)) (f_X15_value f) := by
  intro f
  induction f with
  | zero => intro d h1 h2; omega
  | succ f ih =>
    intro d hd hfd c k x y hP
    have hb := hX.1
    have hS : d < 8 → pp_EX b n W x0 xs y0 ys (d + 1) false (f_X2_readSum (f_X2_readValue f) (nI (d + 1))) (f_X15_sum (f_X15_value f)) := fun h => pp_sum hX (pp_prd hX (ih (d + 1) (by omega) (by omega)))
    obtain ⟨r1, r2, r3⟩ := pp_POr hX hP
    obtain ⟨p1, p2, p3, p4⟩ := pp_POk hP
    have hn := hX.2.2.1.1
    have hok := (pp_ok (k := k) (n := 402) (by omega)).mpr (by omega)
    have hkind : y 122 k = nI (pp_tr (x0.2 4 k)) := by
      obtain ⟨-, hC, -⟩ := hP
      rw [hC.2.2.2.2.1, (pp_sg46 hX.2.2.1 p1).2]
    have i42 : f_X15_is 31 y = some (pp_i (decide (x0.2 4 k = 42))) := pp_isP (s := 42) hX hP (by omega)
    have i14 : f_X15_is 14 y = some (pp_i (decide (x0.2 4 k = 14))) := pp_isP (s := 14) hX hP (by omega)
    have i15 : f_X15_is 15 y = some (pp_i (decide (x0.2 4 k = 15))) := pp_isP (s := 15) hX hP (by omega)
    have i16 : f_X15_is 16 y = some (pp_i (decide (x0.2 4 k = 16))) := pp_isP (s := 16) hX hP (by omega)
    have i17 : f_X15_is 17 y = some (pp_i (decide (x0.2 4 k = 17))) := pp_isP (s := 17) hX hP (by omega)
    have i24 : f_X15_is 24 y = some (pp_i (decide (x0.2 4 k = 24))) := pp_isP (s := 24) hX hP (by omega)
    have i25 : f_X15_is 25 y = some (pp_i (decide (x0.2 4 k = 25))) := pp_isP (s := 25) hX hP (by omega)
    have i26 : f_X15_is 49 y = some (pp_i (decide (x0.2 4 k = 26))) := pp_isP (s := 26) hX hP (by omega)
    have i33 : f_X15_is 41 y = some (pp_i (decide (x0.2 4 k = 33))) := pp_isP (s := 33) hX hP (by omega)
    have y120 : (g_mi y 120 8 (y 120 8 + 1)) 120 8 = nI (k + 1) := by rw [pp_g1, pp_g3, pp_u1, p2, nI_1]
    rw [f_X2_readValue, r3, f_X15_value, i42, pp_b, pp_if1, i14, pp_b, pp_if1, i15, pp_b, pp_if1, i16, pp_b, pp_if1, i17, pp_b, pp_if1, i24, pp_b, pp_if1, i25, pp_b, pp_if1, i26, pp_b, pp_if1, i33, pp_b, pp_if1]
    by_cases e33 : x0.2 4 k = 33
    · simp only [e33, Nat.reduceEqDiff, decide_true, decide_false, if_true, if_false, Bool.false_eq_true]
      exact pp_neg hX hP hd (by omega) (by omega) (by omega) (fun h => ih (d + 1) (by omega) (by omega))
    by_cases e26 : x0.2 4 k = 26
    · simp only [e26, Nat.reduceEqDiff, decide_true, decide_false, if_true, if_false, Bool.false_eq_true]
      obtain ⟨x1, r, y1, q1, q2, q3⟩ := pp_brk hX hP hd (by omega) (by omega) (by omega) hS
      exact ⟨x1, r, y1, q1, by rw [q2]; rfl, q3⟩
    by_cases e24 : x0.2 4 k = 24
    · simp only [e24, Nat.reduceEqDiff, decide_true, decide_false, if_true, if_false, Bool.false_eq_true]
      obtain ⟨x1, r, y1, q1, q2, q3⟩ := pp_cho (s := 24) hX hP hd (by omega) e24 (Or.inl rfl) hS
      refine ⟨x1, r, y1, by unfold f_X2_readValue_96; rw [q1]; rfl, ?_, q3⟩
      unfold f_X15_value_157
      rw [p2, if_pos hok, nI_clamp (by omega), hkind, e24, q2]; rfl
    by_cases e25 : x0.2 4 k = 25
    · simp only [e25, Nat.reduceEqDiff, decide_true, decide_false, if_true, if_false, Bool.false_eq_true]
      obtain ⟨x1, r, y1, q1, q2, q3⟩ := pp_cho (s := 25) hX hP hd (by omega) e25 (Or.inr rfl) hS
      refine ⟨x1, r, y1, by unfold f_X2_readValue_96; rw [q1]; rfl, ?_, q3⟩
      unfold f_X15_value_157
      rw [p2, if_pos hok, nI_clamp (by omega), hkind, e25, q2]; rfl
    have hof : ∀ s, (s = 16 ∨ s = 17) → x0.2 4 k = s → ∃ x1 r y1, f_X2_readValue_124 (f_X2_readValue f) x = some x1 ∧ f_X15_value_102 (f_X15_value f) y = some (r, y1) ∧ ((∃ k1, k < k1 ∧ pp_PO b n W x0 xs y0 ys c k1 d x1 y1 ∧ (x1.1 162 8 = 0 → x.1 162 8 = 0 ∧ pp_SG b x x1 r false)) ∨ pp_PW b n x0 xs y0 ys c x1 y1) := by
      intro s hs hsk
      obtain ⟨s1, s2, s3, s4⟩ := pp_stp hX hP (by omega) (by omega)
      have hnc : pp_NC b x (pp_sx x (k + 1)) := ⟨by rw [pp_sx1.1 b (by omega)], pp_sx1.2.1 _ (by omega)⟩
      obtain ⟨x2, y2, e1, e2, e3⟩ := pp_exp (s := 18) hX s2 (by omega)
      unfold f_X2_readValue_124 f_X15_value_102
      rw [s1, pp_b, e1, pp_b, r3, hsk, p2, if_pos hok, nI_clamp (by omega), hkind, hsk, nI_1]
      rw [p2, nI_1] at e2
      show ∃ x1 r y1, _ ∧ Option.bind (f_X15_take (nI (pp_tr 18)) (g_mi y 120 8 (nI (k + 1)))) _ = _ ∧ _
      rw [e2, pp_b]
      rcases e3 with ⟨e4, e5, e6, e7⟩ | hw
      · obtain ⟨x3, r, y3, l1, l2, l3⟩ := pp_leafN (s := s) (xb := x) hX e5.m (by omega) (hnc.tr e7) (fun q => by rw [e6, s3] at q; exact q)
        rw [(pp_POr hX e5).1, if_pos (pp_k7 hb)]
        refine ⟨x3, r, y3, l1, l2, ?_⟩
        rcases l3 with ⟨k3, k31, k32, k33⟩ | hw
        · exact Or.inl ⟨k3, by omega, k32, fun q => ⟨(k33 q).1, (k33 q).2.f⟩⟩
        · exact Or.inr hw
      · rw [(pp_PWr hX hw).1, if_pos (pp_k7 hb)]
        obtain ⟨x3, r, y3, l1, l2, l3⟩ := pp_leafNW (s := s) hX hw.m (by omega)
        exact ⟨x3, r, y3, l1, l2, Or.inr l3⟩
    by_cases e16 : x0.2 4 k = 16
    · simp only [e16, Nat.reduceEqDiff, decide_true, decide_false, if_true, if_false, Bool.false_eq_true]
      exact hof 16 (Or.inl rfl) e16
    by_cases e17 : x0.2 4 k = 17
    · simp only [e17, Nat.reduceEqDiff, decide_true, decide_false, if_true, if_false, Bool.false_eq_true]
      exact hof 17 (Or.inr rfl) e17
    have hlf : ∀ l : Int32, (x0.2 4 k = 42 ∨ x0.2 4 k = 14 ∨ x0.2 4 k = 15) → (x0.2 4 k = 42 → l = x.1 162 7) → ∃ x1 r y1, f_X2_readValue_185 (f_X2_readValue f) x = some x1 ∧ ((f_X15_node (nI (pp_tr (x0.2 4 k))) l 0 (g_mi y 120 8 (y 120 8 + 1))).bind fun q27 => some ((q27.1, q27.2))) = some (r, y1) ∧ ((∃ k1, k < k1 ∧ pp_PO b n W x0 xs y0 ys c k1 d x1 y1 ∧ (x1.1 162 8 = 0 → x.1 162 8 = 0 ∧ pp_SG b x x1 r false)) ∨ pp_PW b n x0 xs y0 ys c x1 y1) := by
      intro l hs hl
      obtain ⟨x1, y1, Z, q1, q2, q3, q4⟩ := pp_leaf hX hP hs l hl
      refine ⟨x1, nI Z, y1, ?_, by rw [q2]; rfl, Or.inl ⟨k + 1, by omega, q3, q4⟩⟩
      unfold f_X2_readValue_185
      rw [r1, if_pos (pp_k7 hb), r3]
      exact q1
    have h56 : f_X15_value_56 (f_X15_value f) y = ((f_X15_node (nI (pp_tr (x0.2 4 k))) 0 0 (g_mi y 120 8 (y 120 8 + 1))).bind fun q27 => some ((q27.1, q27.2))) := by
      unfold f_X15_value_56
      rw [y120, nI_pred, if_pos hok, nI_clamp (by omega)]
      rw [show (g_mi y 120 8 (y 120 8 + 1)) 122 k = nI (pp_tr (x0.2 4 k)) by rw [pp_g1, pp_g4 (by omega)]; exact hkind]
    by_cases e42 : x0.2 4 k = 42
    · have hnum : (g_mi y 120 8 (y 120 8 + 1)) 123 k = x.1 162 7 := by
        have hkn : k < n := (pp_stp hX hP (by omega) (by omega)).2.2.2
        obtain ⟨⟨er, m1, m2, m3, m4, m5, m6, -⟩, hC, -⟩ := hP
        obtain ⟨-, -, -, -, -, -, -, -, -, q8, -⟩ := hX.2.2.1.2.1 k hkn
        rw [pp_g1, pp_g4 (by omega), hC.2.2.2.2.2.1, m6, q8 e42]
      obtain ⟨x1, r, y1, q1, q2, q3⟩ := hlf (x.1 162 7) (Or.inl e42) (fun _ => rfl)
      rw [e42] at q2
      simp only [e42, Nat.reduceEqDiff, decide_true, decide_false, if_true, if_false, Bool.false_eq_true]
      refine ⟨x1, r, y1, q1, ?_, q3⟩
      rw [y120, nI_pred, if_pos hok, nI_clamp (by omega), hnum]
      exact q2
    by_cases e14 : x0.2 4 k = 14
    · obtain ⟨x1, r, y1, q1, q2, q3⟩ := hlf 0 (Or.inr (Or.inl e14)) (fun q => by omega)
      rw [← h56] at q2
      simp only [e14, Nat.reduceEqDiff, decide_true, decide_false, if_true, if_false, Bool.false_eq_true]
      exact ⟨x1, r, y1, q1, q2, q3⟩
    by_cases e15 : x0.2 4 k = 15
    · obtain ⟨x1, r, y1, q1, q2, q3⟩ := hlf 0 (Or.inr (Or.inr e15)) (fun q => by omega)
      rw [← h56] at q2
      simp only [e15, Nat.reduceEqDiff, decide_true, decide_false, if_true, if_false, Bool.false_eq_true]
      exact ⟨x1, r, y1, q1, q2, q3⟩
    · obtain ⟨t1, t2, t3, -⟩ := pp_rfs hX hP
      simp only [e33, e26, e24, e25, e16, e17, e42, e14, e15, decide_false, if_false, Bool.false_eq_true]
      rw [t1, t2]
      exact ⟨_, _, _, rfl, rfl, Or.inr t3.m⟩
end VL2
