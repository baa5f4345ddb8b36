/-! values and single tests, side by side -/
section VAL
variable {b v n W : Nat} {x0 xs : CS} {y0 ys : MS} {t : Nat → Nat} {T : Nat}
theorem pp_POd {c k d d1 : Nat} {x : CS} {y : MS} (h : pp_PO b n W x0 xs y0 ys c k d x y) : pp_PO b n W x0 xs y0 ys c k d1 x (g_mi y 120 12 (nI d1)) := by
  obtain ⟨⟨er, m1, m2, m3, m4, m5, m6, m7, m8, m9, m10, m11, m12, m13⟩, hC, hE, h8, Z, z1, z2, z3⟩ := h
  have yi : ∀ i, i ≠ 120 → (g_mi y 120 12 (nI d1)) i = y i := fun i hi => by rw [pp_g1, pp_g4 hi]
  have yj : ∀ j, j ≠ 12 → (g_mi y 120 12 (nI d1)) 120 j = y 120 j := fun j hj => by rw [pp_g1, pp_g3, pp_u2 hj]
  have hFE1 : pp_FE b x x y (g_mi y 120 12 (nI d1)) := ⟨fun _ _ _ _ => rfl, fun _ _ => rfl, fun _ _ _ => rfl, fun _ _ => rfl, fun i h1 h2 h3 h4 h5 => yi i h1, fun j _ => by rw [yi 139 (by omega)], fun j hj => yj j (by omega)⟩
  refine ⟨⟨er, m1, by rw [yj 8 (by omega)]; exact m2, m3, m4, m5, m6, by rw [yj 9 (by omega)]; exact m7, by rw [pp_g1, pp_g3, pp_u1], m9, m10, by rw [yj 10 (by omega)]; exact m11, m12, fun q => ?_⟩, ?_, hE.tr hFE1, h8, Z, by rw [yi 139 (by omega)]; exact z1, z2, fun q => ⟨(z3 q).1, ?_⟩⟩
  · obtain ⟨j, j1, j2, j3⟩ := m13 q
    exact ⟨j, j1, by rw [yj 11 (by omega)]; exact j2, j3⟩
  · obtain ⟨c1, c2, c3, c4, c5, c6, c7, c8⟩ := hC
    exact ⟨c1, c2, c3, by rw [yi 121 (by omega)]; exact c4, by rw [yi 122 (by omega)]; exact c5, by rw [yi 123 (by omega)]; exact c6, by rw [yi 124 (by omega)]; exact c7, by rw [yi 125 (by omega)]; exact c8⟩
  · have := (z3 q).2
    unfold pp_BN at *
    rw [yi _ (by omega), yi _ (by omega), yi _ (by omega)]
    exact this
theorem pp_POd1 {c k d : Nat} {x : CS} {y : MS} (h : pp_PO b n W x0 xs y0 ys c k (d + 1) x y) : pp_PO b n W x0 xs y0 ys c k d x (g_mi y 120 12 (y 120 12 - 1)) := by
  rw [(pp_POk h).2.2.2, nI_pred]
  exact pp_POd h
theorem pp_PWd {c : Nat} {x : CS} {y : MS} {u : Int32} (h : pp_PW b n x0 xs y0 ys c x y) : pp_PW b n x0 xs y0 ys c x (g_mi y 120 12 u) := by
  obtain ⟨hC, hE, k, ⟨m1, m2, m3, m4, m5, m6, m7⟩, Z, z1, z2⟩ := h
  have yi : ∀ i, i ≠ 120 → (g_mi y 120 12 u) i = y i := fun i hi => by rw [pp_g1, pp_g4 hi]
  have yj : ∀ j, j ≠ 12 → (g_mi y 120 12 u) 120 j = y 120 j := fun j hj => by rw [pp_g1, pp_g3, pp_u2 hj]
  have hFE1 : pp_FE b x x y (g_mi y 120 12 u) := ⟨fun _ _ _ _ => rfl, fun _ _ => rfl, fun _ _ _ => rfl, fun _ _ => rfl, fun i h1 h2 h3 h4 h5 => yi i h1, fun j _ => by rw [yi 139 (by omega)], fun j hj => yj j (by omega)⟩
  refine ⟨?_, hE.tr hFE1, k, ⟨m1, m2, by rw [yj 9 (by omega)]; exact m3, by rw [yj 10 (by omega)]; exact m4, ?_, m6, by rw [yj 8 (by omega)]; exact m7⟩, Z, by rw [yi 139 (by omega)]; exact z1, z2⟩
  · obtain ⟨c1, c2, c3, c4, c5, c6, c7, c8⟩ := hC
    exact ⟨c1, c2, c3, by rw [yi 121 (by omega)]; exact c4, by rw [yi 122 (by omega)]; exact c5, by rw [yi 123 (by omega)]; exact c6, by rw [yi 124 (by omega)]; exact c7, by rw [yi 125 (by omega)]; exact c8⟩
  · obtain ⟨j, j1, j2, j3⟩ := m5
    exact ⟨j, j1, by rw [yj 11 (by omega)]; exact j2, j3⟩
theorem pp_addW {c s : Nat} {x : CS} {y : MS} {w : Int32} (hX : pp_CX b v n W x0 xs y0 ys t T) (h : pp_PW b n x0 xs y0 ys c x y) (hs : s < 46) : ∃ x1, f_X5_addSign b s w x = some x1 ∧ pp_PW b n x0 xs y0 ys c x1 y := by
  obtain ⟨hb, hv, hF, hMT, r1, r2, hN⟩ := hX
  obtain ⟨hC, hE, k, ⟨m1, m2, m3, m4, m5, m6, m7⟩, Z, z1, z2⟩ := h
  obtain ⟨x1, t1, t2, t3, t4⟩ := pp_addT (x := x) (b := b) (w := w) hs
  have e162 : x1.1 162 = x.1 162 := t2 162 (by omega) (by omega)
  have hFE1 : pp_FE b x x1 y y := ⟨fun i q1 q2 q3 => t2 i q2 q3, t3, fun i q1 q2 => t4 i q2, fun j _ => by rw [t4 162 (by omega)], fun _ _ _ _ _ _ => rfl, fun _ _ => rfl, fun _ _ => rfl⟩
  refine ⟨x1, t1, hC.fe hb hFE1, hE.tr hFE1, k, ⟨by rw [e162]; exact m1, by rw [t4 162 (by omega)]; exact m2, m3, m4, ?_, m6, m7⟩, Z, z1, z2⟩
  obtain ⟨j, j1, j2, j3⟩ := m5
  exact ⟨j, j1, j2, by rw [e162]; exact j3⟩
theorem pp_dep {c k d : Nat} {x : CS} {y : MS} (hX : pp_CX b v n W x0 xs y0 ys t T) (h : pp_PO b n W x0 xs y0 ys c k d x y) (hd : d ≤ 8) (hs : x0.2 4 k ≠ 44) (hs2 : x0.2 4 k ≠ 45) : ∃ xa x1 y1, f_X2_requireDepth (nI d) x = some xa ∧ f_X2_step xa = some x1 ∧ f_X15_deeper y = some y1 ∧ ((d < 8 ∧ pp_PO b n W x0 xs y0 ys (c + 1) (k + 1) (d + 1) x1 y1 ∧ x1.1 162 8 = x.1 162 8 ∧ pp_NC b x x1 ∧ k < n) ∨ pp_PW b n x0 xs y0 ys (c + 1) x1 y1) := by
  obtain ⟨p1, p2, p3, p4⟩ := pp_POk h
  rcases Nat.lt_or_ge d 8 with h8 | h8
  · obtain ⟨s1, s2, s3, s4⟩ := pp_stp hX h hs hs2
    have hb := hX.1
    refine ⟨x, _, g_mi (g_mi y 120 8 (y 120 8 + 1)) 120 12 (nI (d + 1)), ?_, s1, ?_, Or.inl ⟨h8, pp_POd s2, s3, ⟨by rw [pp_sx1.1 b (by omega)], pp_sx1.2.1 _ (by omega)⟩, s4⟩⟩
    · unfold f_X2_requireDepth
      rw [if_pos (show nI d < (8 : Int32) from nI_lt (b := 8) h8 (by omega))]
    · unfold f_X15_deeper
      rw [p4, if_neg (show ¬ nI d = (8 : Int32) by rw [show (8 : Int32) = nI 8 from rfl, nI_eq (by omega) (by omega)]; omega)]
      rw [show (g_mi y 120 8 (y 120 8 + 1)) 120 12 = nI d by rw [pp_g1, pp_g3, pp_u2 (by omega)]; exact p4, nI_1]
  · have e : d = 8 := by omega
    subst e
    obtain ⟨s1, s2, s3, -⟩ := pp_rfs hX h
    obtain ⟨q1, q2, q3, q4, q5⟩ := pp_PWr hX s3
    refine ⟨pp_rx x, pp_rx x, _, ?_, pp_stepW q4, ?_, Or.inr (pp_PWd (u := (pp_ry y) 120 12 + 1) s3)⟩
    · unfold f_X2_requireDepth
      rw [if_neg (by decide), s1]; rfl
    · unfold f_X15_deeper
      rw [p4, if_pos (by decide), s2]; rfl
theorem pp_valW {c f : Nat} {x : CS} {y : MS} {p : Int32} (hX : pp_CX b v n W x0 xs y0 ys t T) (h : pp_PW b n x0 xs y0 ys c x y) : f_X2_readValue (f + 1) p x = some x ∧ f_X15_value (f + 1) y = some (0, y) := by
  obtain ⟨q1, q2, q3, q4, q5⟩ := pp_PWr hX h
  constructor
  · rw [f_X2_readValue, q3, if_neg (by decide), if_neg (by decide), if_neg (by decide), if_neg (by decide), if_neg (by decide), if_neg (by decide), if_neg (by decide), if_neg (by decide), if_neg (by decide), pp_refW q4]; rfl
  · rw [f_X15_value, pp_isW q5, pp_b, if_pos rfl, pp_isW q5, pp_b, if_pos rfl, pp_isW q5, pp_b, if_pos rfl, pp_isW q5, pp_b, if_pos rfl, pp_isW q5, pp_b, if_pos rfl, pp_isW q5, pp_b, if_pos rfl, pp_isW q5, pp_b, if_pos rfl, pp_isW q5, pp_b, if_pos rfl, pp_isW q5, pp_b, if_pos rfl, pp_wrW q5]; rfl
theorem pp_sumVW {c f : Nat} {x : CS} {y : MS} {p : Int32} (hX : pp_CX b v n W x0 xs y0 ys t T) (h : pp_PW b n x0 xs y0 ys c x y) : f_X2_readSum (f_X2_readValue (f + 1)) p x = some x ∧ f_X15_sum (f_X15_value (f + 1)) y = some (0, y) := by
  obtain ⟨h1, h2⟩ := pp_valW (f := f) (p := p) hX h
  obtain ⟨h3, h4⟩ := pp_prdW hX h h1 h2
  exact pp_sumW hX h h3 h4
theorem pp_addX {x : CS} {b s k : Nat} {w : Int32} (hb : b = 20 ∨ b = 70) (hs : s < 46) : ∃ x1, f_X5_addSign b s w x = some x1 ∧ f_X5_addSign b s w (pp_sx x k) = some (pp_sx x1 k) ∧ x1.1 162 = x.1 162 ∧ x1.2 162 = x.2 162 ∧ x1.2 4 = x.2 4 ∧ x1.1 5 = x.1 5 ∧ x1.1 7 = x.1 7 := by
  have e5 : (pp_sx x k).1 b 5 = x.1 b 5 := by rw [pp_sx1.1 b (by omega)]
  by_cases h : x.1 b 5 < 0
  · refine ⟨x, ?_, ?_, rfl, rfl, rfl, rfl, rfl⟩
    · unfold f_X5_addSign; rw [if_pos h]
    · unfold f_X5_addSign; rw [e5, if_pos h]
  · by_cases h2 : (400 : Int32) ≤ x.1 b 5
    · refine ⟨x, ?_, ?_, rfl, rfl, rfl, rfl, rfl⟩
      · unfold f_X5_addSign; rw [if_neg h, if_pos h2]
      · unfold f_X5_addSign; rw [e5, if_neg h, if_pos h2]
    · obtain ⟨Z, hZ, e⟩ := nI_of h
      have hZ4 : Z < 400 := by
        rcases Nat.lt_or_ge Z 400 with h3 | h3
        · exact h3
        · exact absurd (show (400 : Int32) ≤ x.1 b 5 by rw [e]; exact nI_le (a := 400) h3 hZ) h2
      obtain ⟨a1, a2, a3, a4, a5, a6⟩ := pp_ax1 (x := x) (b := b) (Z := Z) (s := s) (w := w)
      have f5 := a1 5 (by omega) (by omega)
      have f7 := a1 7 (by omega) (by omega)
      have f162 := a1 162 (by omega) (by omega)
      have g4 := a3 4 (by omega)
      refine ⟨_, pp_addC e hZ4 hs, ?_, f162, a3 162 (by omega), g4, f5, f7⟩
      rw [pp_addC (e5.trans e) hZ4 hs]
      congr 1
      unfold pp_sx
      rw [f5, f7, g4]
      unfold pp_ax g_wi g_wr
      refine Prod.ext ?_ ?_
      · funext i
        by_cases h1 : i = 162
        · subst h1
          have n1 : ¬ (162 : Nat) = b := by omega
          have n2 : ¬ (162 : Nat) = b + 4 := by omega
          simp [n1, n2]
        · by_cases h2 : i = b
          · subst h2
            have n1 : ¬ (i : Nat) = 162 := by omega
            simp [n1]
          · by_cases h3 : i = b + 4
            · subst h3
              have n1 : ¬ (b + 4 : Nat) = 162 := by omega
              simp [n1]
            · simp [h1, h2, h3]
      · funext i
        by_cases h1 : i = 162
        · subst h1
          have n1 : ¬ (162 : Nat) = b + 3 := by omega
          simp [n1]
        · by_cases h2 : i = b + 3
          · subst h2
            have n1 : ¬ (b + 3 : Nat) = 162 := by omega
            simp [n1]
          · simp [h1, h2]
/-- a leaf without a name -/
theorem pp_leaf {c k d : Nat} {x : CS} {y : MS} (hX : pp_CX b v n W x0 xs y0 ys t T) (h : pp_PO b n W x0 xs y0 ys c k d x y) (hs : x0.2 4 k = 42 ∨ x0.2 4 k = 14 ∨ x0.2 4 k = 15) (l : Int32) (hl : x0.2 4 k = 42 → l = x.1 162 7) : ∃ x1 y1 Z, ((f_X5_addSign b (x0.2 4 k) (x.1 162 7) x).bind fun q27 => (f_X2_step q27).bind fun q28 => some q28) = some x1 ∧ f_X15_node (nI (pp_tr (x0.2 4 k))) l 0 (g_mi y 120 8 (y 120 8 + 1)) = some (nI Z, y1) ∧ pp_PO b n W x0 xs y0 ys c (k + 1) d x1 y1 ∧ (x1.1 162 8 = 0 → x.1 162 8 = 0 ∧ pp_SG b x x1 (nI Z) false) := by
  have hb := hX.1
  obtain ⟨s1, s2, s3, s4⟩ := pp_stp hX h (by omega) (by omega)
  have hnc : pp_NC b x (pp_sx x (k + 1)) := ⟨by rw [pp_sx1.1 b (by omega)], pp_sx1.2.1 _ (by omega)⟩
  obtain ⟨x1, y1, Z, n1, n2, n3, n4, n5⟩ := pp_nodO (s := x0.2 4 k) (w := x.1 162 7) (l := l) (r := 0) hX s2 (by omega) (fun Z q1 q2 q3 => Or.inl (by
    rcases hs with e | e | e
    · exact Or.inr (Or.inr (Or.inl ⟨e, hl e⟩))
    · exact Or.inl e
    · exact Or.inr (Or.inl e)))
  obtain ⟨xa, a1, a2, a3, a4, a5, a6, a7⟩ := pp_addX (x := x) (s := x0.2 4 k) (k := k + 1) (w := x.1 162 7) hb (by omega)
  obtain ⟨⟨er, m1, m2, m3, m4, m5, m6, m7, m8, m9, m10, -⟩, -⟩ := h
  have hn := hX.2.2.1.1
  have hst := pp_stepC (x := xa) (k := k) (er := er) (by rw [a3]; exact m1) (by rw [a3]; exact m10) m9 (by omega)
  rw [a2] at n1
  have e1 := Option.some.inj n1
  refine ⟨x1, y1, Z, ?_, n2, n3, fun q => ?_⟩
  · rw [a1, pp_b, hst, pp_b, ← e1]
  · rw [n4, s3] at q
    obtain ⟨u1, u2, u3⟩ := n5 (by rw [s3]; exact q)
    refine ⟨q, ?_⟩
    rw [u2]
    have := pp_SGl (x := pp_sx x (k + 1)) (s := x0.2 4 k) (w := x.1 162 7) u1 u3 (by rcases hs with e | e | e <;> rw [e] <;> rfl)
    exact (this.pre hnc).f
/-- a leaf with a name, its sign passed -/
theorem pp_leafN {c k d s : Nat} {x xb : CS} {y : MS} (hX : pp_CX b v n W x0 xs y0 ys t T) (h : pp_PO b n W x0 xs y0 ys (c + 1) k d x y) (hs : s = 16 ∨ s = 17 ∨ s = 19 ∨ s = 20) (hnc : pp_NC b xb x) (h8 : x.1 162 8 = 0 → xb.1 162 8 = 0) : ∃ x1 r y1, ((f_X2_readKnownName x).bind fun q24 => (f_X5_addSign b s q24.1 q24.2).bind fun q25 => some q25) = some x1 ∧ ((f_X15_name y).bind fun q30 => (f_X15_node (nI (pp_tr s)) q30.1 0 q30.2).bind fun q31 => some ((q31.1, q31.2))) = some (r, y1) ∧ ((∃ k1, k < k1 ∧ pp_PO b n W x0 xs y0 ys c k1 d x1 y1 ∧ (x1.1 162 8 = 0 → xb.1 162 8 = 0 ∧ pp_SG b xb x1 r (decide (s = 19 ∨ s = 20)))) ∨ pp_PW b n x0 xs y0 ys c x1 y1) := by
  obtain ⟨x1, y1, qc, qm, n1, n2, n3⟩ := pp_nam hX h
  rw [n1, pp_b, n2, pp_b]
  rcases n3 with ⟨k1, k2, k3⟩ | hw
  · obtain ⟨x2, y2, Z, o1, o2, o3, o4, o5⟩ := pp_nodO (s := s) (w := qc) (l := qm) (r := 0) hX k1.m (by omega) (fun Z q1 q2 q3 => by
      obtain ⟨-, w, w1, w2, w3⟩ := k3 q1
      exact Or.inl (Or.inr (Or.inr (Or.inr ⟨hs, by rw [w2, w3], w, w1, w2⟩))))
    refine ⟨x2, nI Z, y2, ?_, ?_, Or.inl ⟨k + 1, by omega, o3, fun q => ?_⟩⟩
    · show Option.bind (f_X5_addSign b s qc x1) _ = _
      rw [o1]; rfl
    · show Option.bind (f_X15_node (nI (pp_tr s)) qm 0 y1) _ = _
      rw [o2]; rfl
    · rw [o4] at q
      obtain ⟨w1, -⟩ := k3 q
      obtain ⟨u1, u2, u3⟩ := o5 q
      refine ⟨h8 w1, ?_⟩
      rw [u2]
      exact (pp_SGl (s := s) (w := qc) u1 u3 (by rcases hs with e | e | e | e <;> rw [e] <;> rfl)).pre (hnc.tr k2)
  · obtain ⟨x2, y2, q, o1, o2, o3⟩ := pp_nodW (s := s) (w := qc) (l := qm) (r := 0) (u := nI (pp_tr s)) hX hw.m (by omega)
    refine ⟨x2, q, y2, ?_, ?_, Or.inr o3⟩
    · show Option.bind (f_X5_addSign b s qc x1) _ = _
      rw [o1]; rfl
    · show Option.bind (f_X15_node (nI (pp_tr s)) qm 0 y1) _ = _
      rw [o2]; rfl
theorem pp_leafNW {c s : Nat} {x : CS} {y : MS} (hX : pp_CX b v n W x0 xs y0 ys t T) (h : pp_PW b n x0 xs y0 ys (c + 1) x y) (hs : s < 46) : ∃ x1 r y1, ((f_X2_readKnownName x).bind fun q24 => (f_X5_addSign b s q24.1 q24.2).bind fun q25 => some q25) = some x1 ∧ ((f_X15_name y).bind fun q30 => (f_X15_node (nI (pp_tr s)) q30.1 0 q30.2).bind fun q31 => some ((q31.1, q31.2))) = some (r, y1) ∧ pp_PW b n x0 xs y0 ys c x1 y1 := by
  obtain ⟨n1, n2⟩ := pp_namW hX h
  obtain ⟨x2, y2, q, o1, o2, o3⟩ := pp_nodW (s := s) (w := -1) (l := 0) (r := 0) (u := nI (pp_tr s)) hX h hs
  rw [n1, pp_b, n2, pp_b]
  refine ⟨x2, q, y2, ?_, ?_, o3⟩
  · show Option.bind (f_X5_addSign b s (-1) x) _ = _
    rw [o1]; rfl
  · show Option.bind (f_X15_node (nI (pp_tr s)) 0 0 y) _ = _
    rw [o2]; rfl
end VAL
