/-! a line of a word -/
theorem pp_SF.m {x x1 : CS} {y y1 : MS} {w : Nat} {u : Int32} (h : pp_SF x x1 y y1) : pp_SF x x1 (g_mi y 140 w u) (g_mi y1 140 w u) := by
  obtain ⟨h1, h2, h3, h4, h5⟩ := h
  refine ⟨h1, h2, h3, fun i hi => ?_, fun j hj => ?_⟩
  · by_cases e : i = 140
    · rw [e, pp_g1, pp_g3, pp_g1, pp_g3, h4 140 (by omega)]
    · rw [pp_g1, pp_g4 e, pp_g1, pp_g4 e]
      exact h4 i hi
  · rw [pp_g1, pp_g4 (by omega), pp_g1, pp_g4 (by omega)]
    exact h5 j hj
section WL
variable {b v n : Nat} {x0 xs : CS} {y0 ys : MS} {t : Nat → Nat} {T : Nat}
theorem pp_kK.m {k w : Nat} {x : CS} {y : MS} {u : Int32} (h : pp_kK n x0 y0 k x y) : pp_kK n x0 y0 k x (g_mi y 140 w u) := h.sf rfl rfl rfl rfl rfl (by rw [pp_g1, pp_g4 (by omega)]) (fun i _ _ => by rw [pp_g1, pp_g4 (by omega)])
theorem pp_LKw {k q w : Nat} {x : CS} {y : MS} (h : pp_LK b v n 1 q x0 xs y0 ys k x y) (hw : w ≤ 8) (hw2 : y 139 2 = nI w) : (∃ u, u ≤ 8 ∧ x.1 v 2 = nI u) ∧ (∀ j, j < w + 1 → j < 8 → ∃ i, i < n ∧ y 126 j = nI i) ∧ (x.1 162 8 = 0 → x.1 v 2 = nI (w + 1) ∧ pp_LD b v n w 1 q x0 x y) := by
  obtain ⟨a1, a2, ⟨hu, -, -, -, ⟨w1, w2, w3, w4⟩⟩, a4⟩ := h
  have ew : w1 = w := (nI_eq (by omega) (by omega)).mp (w3.symm.trans hw2)
  refine ⟨hu, fun j hj hj2 => w4 j (by omega) hj2, fun r => ?_⟩
  obtain ⟨W, hW⟩ := a4 r
  have c := hW
  obtain ⟨c1, c2, c3, -⟩ := c
  have eW : W = w := (nI_eq (by omega) (by omega)).mp (c3.symm.trans hw2)
  rw [eW] at hW c2
  exact ⟨c2, hW⟩
/-- one part -/
theorem pp_wst {k q w : Nat} {x : CS} {y : MS} (h : pp_LK b v n 1 q x0 xs y0 ys k x y) (hb : b = 20 ∨ b = 70) (hv : v = 41 ∨ v = 91) (hF : pp_TF x0 y0 t T n) (r2 : xs.2 162 2 = v) (hw : w ≤ 8) (hw2 : y 139 2 = nI w) : ∃ x1 y1, f_X2_readPart x = some x1 ∧ f_X15_part (nI w) y = some y1 ∧ ((∃ k1, k < k1 ∧ pp_LK b v n 1 1 x0 xs y0 ys k1 x1 y1 ∧ y1 139 2 = nI w) ∨ pp_LQ b v n x0 xs y0 ys x1 y1) := by
  obtain ⟨⟨u, u1, u2⟩, -, hD⟩ := pp_LKw h hw hw2
  obtain ⟨o, o1, o2, o3, o4⟩ := pp_wrd hv u1 u2
  have hr : x.2 162 2 = v := (h.2.1.2.2.1 2 (by omega)).trans r2
  have hwo : x.1 162 8 = 0 → w < 8 ∧ o = pp_wd v w := fun r => by
    obtain ⟨d1, d2⟩ := hD r
    obtain ⟨c1, -⟩ := d2
    have eu : u = w + 1 := (nI_eq (by omega) (by omega)).mp (u2.symm.trans d1)
    exact ⟨by omega, o4 w eu⟩
  obtain ⟨x1, y1, a1, a2, a3, a4⟩ := pp_prt hF hv hr hw o1 o2 o3 h.1 (fun r => by
    obtain ⟨d1, d2⟩ := hD r
    obtain ⟨c1, c2, c3, c4, c5, -⟩ := d2
    obtain ⟨w8, eo⟩ := hwo r
    obtain ⟨-, -, p, l, -, p1, p2⟩ := c5 w (by omega)
    exact ⟨w8, p, l, by rw [eo]; exact p1, p2⟩)
  refine ⟨x1, y1, a1, a2, ?_⟩
  rcases a4 with ⟨k1, k11, k12, k13, k14⟩ | hq
  · exact Or.inl ⟨k1, k11, h.pf hb hv o3 hw2 hw (fun r => (hwo r).2) (by omega) k13 a3 k14, by rw [a3.2.2.2.1 139 (by omega) (by omega) (by omega)]; exact hw2⟩
  · exact Or.inr ⟨hq, h.2.1.tr (pp_FL.pf o3 a3 hv)⟩
/-- the word is done -/
theorem pp_LK.fin {k w : Nat} {x : CS} {y : MS} (h : pp_LK b v n 1 1 x0 xs y0 ys k x y) (hb : b = 20 ∨ b = 70) (hv : v = 41 ∨ v = 91) (hw : w ≤ 8) (hw2 : y 139 2 = nI w) : pp_LK b v n 0 0 x0 xs y0 ys k x (g_mi y 139 2 (nI (min 8 (w + 1)))) := by
  obtain ⟨hu, h6, hD⟩ := pp_LKw h hw hw2
  have yi : ∀ i, i ≠ 139 → (g_mi y 139 2 (nI (min 8 (w + 1)))) i = y i := fun i hi => by rw [pp_g1, pp_g4 hi]
  have yj : ∀ j, j ≠ 2 → (g_mi y 139 2 (nI (min 8 (w + 1)))) 139 j = y 139 j := fun j hj => by rw [pp_g1, pp_g3, pp_u2 hj]
  have y2 : (g_mi y 139 2 (nI (min 8 (w + 1)))) 139 2 = nI (min 8 (w + 1)) := by rw [pp_g1, pp_g3, pp_u1]
  obtain ⟨a1, a2, ⟨-, ⟨u4, u5, u6⟩, ⟨u7, u8, u9⟩, ⟨z1, z2, z3⟩, -⟩, -⟩ := h
  refine ⟨a1.sf rfl rfl rfl rfl rfl (yi 120 (by omega)) (fun i _ _ => yi i (by omega)), a2.tr ⟨fun _ _ _ _ _ => rfl, fun _ _ _ => rfl, fun _ _ => rfl, fun _ _ => rfl, fun i _ _ c => yi i (by omega), fun j _ => by rw [yi 120 (by omega)]⟩, ⟨hu, ⟨u4, u5, u6⟩, ⟨u7, u8, by rw [yj 5 (by omega)]; exact u9⟩, ⟨z1, z2, by rw [yj 12 (by omega)]; exact z3⟩, min 8 (w + 1), by omega, y2, fun j hj hj2 => by rw [yi 126 (by omega)]; exact h6 j (by omega) hj2⟩, fun r => ?_⟩
  obtain ⟨d1, c1, c2, c3, c4, c5, ⟨R, Z, c6, c7, c8⟩, ⟨g, c9, e1, e2⟩, m, e3, e4, e5⟩ := hD r
  have em : min 8 (w + 1) = w + 1 := Nat.min_eq_right c1
  rw [em] at yi yj y2 ⊢
  refine ⟨w + 1, by omega, c2, y2, fun j hj => by rw [yi 126 (by omega)]; exact c4 j (by omega), fun j hj => (c5 j (by omega)).ee (fun q => by omega) (fun _ _ _ => rfl) (by rw [yi 140 (by omega)]) (fun i _ _ => by rw [yi 141 (by omega)]), ⟨R, Z, c6, c7, c8.ee c6 (by omega) (fun _ _ _ => rfl) ⟨rfl, rfl⟩ (fun _ _ _ => rfl) (fun i _ _ => yi i (by omega)) ⟨yj 5 (by omega), yj 12 (by omega)⟩⟩, ⟨g, c9, e1, by rw [yj 0 (by omega)]; exact e2⟩, m, e3, e4, by rw [yj 1 (by omega)]; exact e5⟩
theorem pp_mn8 {w : Nat} (hw : w ≤ 8) : g_min (8 : Int32) (nI w + 1) = nI (min 8 (w + 1)) := by
  rw [show (8 : Int32) = nI 8 from rfl, nI_1, pp_min (by omega) (by omega)]
/-- after a wrong token -/
theorem pp_wlQ {w fc fm : Nat} {x : CS} {y : MS} {i : Int32} (hw : w ≤ 8) (h : pp_LQ b v n x0 xs y0 ys x y) (hfc : 0 < fc) (hfm : 0 < fm) : ∃ x1 y1, f_X2_readWord_21 fc i x = some x1 ∧ f_X15_word_106 fm (nI w) y = some y1 ∧ pp_LQ b v n x0 xs y0 ys x1 y1 := by
  obtain ⟨f, rfl⟩ : ∃ f, fc = f + 1 := ⟨fc - 1, by omega⟩
  obtain ⟨g, rfl⟩ : ∃ g, fm = g + 1 := ⟨fm - 1, by omega⟩
  obtain ⟨q1, q2, q3, -⟩ := pp_Qr h.1
  refine ⟨x, g_mi y 139 2 (nI (min 8 (w + 1))), ?_, ?_, h.1.sf rfl rfl rfl rfl (by rw [pp_g1, pp_g4 (by omega)]) (fun i _ _ => by rw [pp_g1, pp_g4 (by omega)]), h.2.tr ⟨fun _ _ _ _ _ => rfl, fun _ _ _ => rfl, fun _ _ => rfl, fun _ _ => rfl, fun i _ _ c => by rw [pp_g1, pp_g4 (by omega)], fun j _ => by rw [pp_g1, pp_g4 (by omega)]⟩⟩
  · rw [f_X2_readWord_21, q1]
    split
    · rfl
    · rw [if_neg (by decide)]
  · rw [f_X15_word_106, pp_takesW q3, pp_b, if_pos rfl, pp_mn8 hw]
theorem pp_wlp {w : Nat} (hb : b = 20 ∨ b = 70) (hv : v = 41 ∨ v = 91) (hF : pp_TF x0 y0 t T n) (r2 : xs.2 162 2 = v) (hw : w ≤ 8) : ∀ m fc fm i k x y, m = n - k → m < fc → m < fm → i < k → pp_LK b v n 1 1 x0 xs y0 ys k x y → y 139 2 = nI w → ∃ x1 y1, f_X2_readWord_21 fc (nI i) x = some x1 ∧ f_X15_word_106 fm (nI w) y = some y1 ∧ ((∃ k1, k ≤ k1 ∧ pp_LK b v n 0 0 x0 xs y0 ys k1 x1 y1) ∨ pp_LQ b v n x0 xs y0 ys x1 y1) := by
  intro m
  induction m using Nat.strongRecOn with
  | ind m ih =>
    intro fc fm i k x y hm hfc hfm hik h hw2
    obtain ⟨f, rfl⟩ : ∃ f, fc = f + 1 := ⟨fc - 1, by omega⟩
    obtain ⟨g, rfl⟩ : ∃ g, fm = g + 1 := ⟨fm - 1, by omega⟩
    have hn := hF.1
    obtain ⟨k1, k2, k3, k4, -⟩ := pp_Kk h.1
    have h400 : ¬ (400 : Int32) ≤ nI i := nI_ge (b := 400) (by omega) (by omega)
    have htk : f_X15_takes 54 y = _ := pp_ktk (s := 31) hF h.1 (by omega)
    rw [f_X2_readWord_21, if_neg h400, k4, f_X15_word_106, htk]
    by_cases e : x0.2 4 k = 31
    · obtain ⟨s1, s2, s3, s4, s5⟩ := pp_kst hF h.1 (by omega) (by omega)
      rw [if_pos e, if_pos e, s1, pp_b, pp_b, if_neg (show ¬ (1 : Int32) = 0 by decide)]
      have hL := h.sf hb hv (by omega) s2 s3 (fun r => by rw [s4] at r; exact r)
      have hw3 : (g_mi y 120 8 (y 120 8 + 1)) 139 2 = nI w := by rw [pp_g1, pp_g4 (by omega)]; exact hw2
      obtain ⟨x2, y2, p1, p2, p3⟩ := pp_wst hL hb hv hF r2 hw hw3
      rw [p1, pp_b]
      show ∃ x1 y1, _ ∧ Option.bind (f_X15_part (nI w) (g_mi y 120 8 (y 120 8 + 1))) _ = _ ∧ _
      rw [p2, pp_b, nI_1]
      rcases p3 with ⟨k5, p4, p5, p6⟩ | hq
      · have hk5 : k5 ≤ n := (pp_Kk p5.1).1
        obtain ⟨x3, y3, t1, t2, t3⟩ := ih (n - k5) (by omega) f g (i + 1) k5 x2 y2 rfl (by omega) (by omega) (by omega) p5 p6
        refine ⟨x3, y3, t1, t2, ?_⟩
        rcases t3 with ⟨k6, t4, t5⟩ | hq
        · exact Or.inl ⟨k6, by omega, t5⟩
        · exact Or.inr hq
      · obtain ⟨x3, y3, t1, t2, t3⟩ := pp_wlQ (i := nI (i + 1)) (fc := f) (fm := g) hw hq (by omega) (by omega)
        exact ⟨x3, y3, t1, t2, Or.inr t3⟩
    · rw [if_neg e, if_neg e, pp_b, if_pos rfl, pp_mn8 hw]
      exact ⟨x, _, rfl, rfl, Or.inl ⟨k, Nat.le_refl _, h.fin hb hv hw hw2⟩⟩
/-- all the parts -/
theorem pp_wtl {k w : Nat} {x : CS} {y : MS} (h : pp_LK b v n 1 0 x0 xs y0 ys k x y) (hb : b = 20 ∨ b = 70) (hv : v = 41 ∨ v = 91) (hF : pp_TF x0 y0 t T n) (r2 : xs.2 162 2 = v) (hw : w ≤ 8) (hw2 : y 139 2 = nI w) : ∃ x1 y1, ((f_X2_readPart x).bind fun q4 => f_X2_readWord_21 g_fuel (0 : Int32) q4) = some x1 ∧ ((f_X15_part (nI w) y).bind fun q17 => f_X15_word_106 g_fuel (nI w) q17) = some y1 ∧ ((∃ k1, k < k1 ∧ pp_LK b v n 0 0 x0 xs y0 ys k1 x1 y1) ∨ pp_LQ b v n x0 xs y0 ys x1 y1) := by
  have hn := hF.1
  have hg : 402 < g_fuel := by unfold g_fuel; omega
  obtain ⟨x2, y2, p1, p2, p3⟩ := pp_wst h hb hv hF r2 hw hw2
  rw [p1, pp_b, p2, pp_b]
  rcases p3 with ⟨k5, p4, p5, p6⟩ | hq
  · have hk5 : k5 ≤ n := (pp_Kk p5.1).1
    obtain ⟨x3, y3, t1, t2, t3⟩ := pp_wlp hb hv hF r2 hw (n - k5) g_fuel g_fuel 0 k5 x2 y2 rfl (by omega) (by omega) (by omega) p5 p6
    refine ⟨x3, y3, t1, t2, ?_⟩
    rcases t3 with ⟨k6, t4, t5⟩ | hq
    · exact Or.inl ⟨k6, by omega, t5⟩
    · exact Or.inr hq
  · obtain ⟨x3, y3, t1, t2, t3⟩ := pp_wlQ (i := 0) (fc := g_fuel) (fm := g_fuel) hw hq (by omega) (by omega)
    exact ⟨x3, y3, t1, t2, Or.inr t3⟩
theorem pp_wtQ {w : Nat} {x : CS} {y : MS} (h : pp_LQ b v n x0 xs y0 ys x y) (hv : v = 41 ∨ v = 91) (hF : pp_TF x0 y0 t T n) (r2 : xs.2 162 2 = v) (hw : w ≤ 8) (hu : ∃ u, u ≤ 8 ∧ x.1 v 2 = nI u) : ∃ x1 y1, ((f_X2_readPart x).bind fun q4 => f_X2_readWord_21 g_fuel (0 : Int32) q4) = some x1 ∧ ((f_X15_part (nI w) y).bind fun q17 => f_X15_word_106 g_fuel (nI w) q17) = some y1 ∧ pp_LQ b v n x0 xs y0 ys x1 y1 := by
  have hg : 402 < g_fuel := by unfold g_fuel; omega
  obtain ⟨u, u1, u2⟩ := hu
  obtain ⟨o, o1, o2, o3, o4⟩ := pp_wrd hv u1 u2
  have hr : x.2 162 2 = v := (h.2.2.2.1 2 (by omega)).trans r2
  obtain ⟨x1, a1, a2, a3, a4⟩ := pp_prtQ (w := w) hF hv hr hw o1 o2 o3 h.1
  rw [a1, pp_b, a2, pp_b]
  exact pp_wlQ hw ⟨a4, h.2.tr (pp_FL.pf o3 a3 hv)⟩ (by omega) (by omega)
/-- word NAME is parts -/
theorem pp_wln {k : Nat} {x : CS} {y : MS} (h : pp_LK b v n 0 0 x0 xs y0 ys k x y) (hb : b = 20 ∨ b = 70) (hv : v = 41 ∨ v = 91) (hF : pp_TF x0 y0 t T n) (hMT : pp_MT y0 t T) (r1 : xs.2 162 1 = b) (r2 : xs.2 162 2 = v) (hs : x0.2 4 k = 0) : ∃ x1 y1, f_X2_readWord x = some x1 ∧ f_X15_word (g_mi y 120 8 (y 120 8 + 1)) = some y1 ∧ ((∃ k1, k < k1 ∧ pp_LK b v n 0 0 x0 xs y0 ys k1 x1 y1) ∨ pp_LQ b v n x0 xs y0 ys x1 y1) := by
  obtain ⟨s1, s2, s3, s4, s5⟩ := pp_kst hF h.1 (by omega) (by omega)
  have hL := h.sf hb hv (show k ≤ k + 1 by omega) s2 s3 (fun r => by rw [s4] at r; exact r)
  unfold f_X2_readWord
  rw [s1, pp_b]
  revert hL
  generalize pp_sx x (k + 1) = x1
  generalize g_mi y 120 8 (y 120 8 + 1) = y1
  intro hL
  obtain ⟨-, w, w1, w2, -⟩ := pp_LKn hL
  obtain ⟨-, k2, k3, k4, -⟩ := pp_Kk hL.1
  have hok : ∀ u, u ≤ 8 → g_ok (nI u) 10 = true := fun u hu => (pp_ok (by omega)).mpr (by omega)
  have hcl : ∀ u, u ≤ 8 → (nI u).toNatClampNeg = u := fun u hu => nI_clamp (by omega)
  by_cases e : x0.2 4 (k + 1) = 41
  · obtain ⟨x2, y2, w, w1, a1, a2, a3, a4⟩ := pp_nw1 hL hb hv hF hMT r1 r2 e
    have hr2 : x2.2 162 2 = v := (a3.2.1.2.2.1 2 (by omega)).trans r2
    obtain ⟨x3, y3, c1, c2, c3, c4, c5⟩ := pp_nw2 a3 hb hv hF hr2 e w1 a4
    obtain ⟨d1, d2, d3, d4, d5⟩ := pp_kst hF c4 (by omega) (by omega)
    have i41 : f_X15_is 30 y3 = some (pp_i (decide (x0.2 4 (k + 1) = 41))) := pp_kis (s := 41) hF c4 (by omega)
    have htk : f_X15_take 30 y3 = some (g_mi y3 120 8 (y3 120 8 + 1)) := by
      unfold f_X15_take
      rw [i41, decide_eq_true e]; rfl
    obtain ⟨x4, y4, e1, e2, e3, e4⟩ := pp_kex (s := 1) hF d2 (by omega)
    have e2' : f_X15_take 1 (g_mi y3 120 8 (y3 120 8 + 1)) = some y4 := e2
    rw [a1, c1, a2, c2]
    unfold f_X2_readNewName_90 f_X15_word_80
    rw [d1, pp_b, pp_b, e1, pp_b, htk, pp_b, e2', pp_b, if_pos (hok w w1), hcl w w1]
    have hS := (d3.tr e3).m (w := w) (u := 0)
    rcases e4 with ⟨e5, e6, e7, e8⟩ | hq
    · have hL4 := c3.sf hb hv (show k + 1 ≤ k + 1 + 1 + 1 by omega) e7.m hS (fun r => by rw [e8, d4] at r; exact r)
      obtain ⟨x5, y5, t1, t2, t3⟩ := pp_wtl hL4 hb hv hF r2 w1 (by rw [hS.2.2.2.1 139 (by omega), pp_g1, pp_g4 (by omega)]; exact c5)
      refine ⟨x5, y5, t1, t2, ?_⟩
      rcases t3 with ⟨k6, t4, t5⟩ | hq
      · exact Or.inl ⟨k6, by omega, t5⟩
      · exact Or.inr hq
    · have hL4 : pp_LQ b v n x0 xs y0 ys x4 (g_mi y4 140 w 0) := ⟨hq.sf rfl rfl rfl rfl (by rw [pp_g1, pp_g4 (by omega)]) (fun i _ _ => by rw [pp_g1, pp_g4 (by omega)]), c3.2.1.tr (pp_FL.sf hv hS)⟩
      obtain ⟨u, u1, u2⟩ := c3.2.2.1.1
      obtain ⟨x5, y5, t1, t2, t3⟩ := pp_wtQ hL4 hv hF r2 w1 ⟨u, u1, by rw [hS.1 v (by omega)]; exact u2⟩
      exact ⟨x5, y5, t1, t2, Or.inr t3⟩
  · -- no name
    obtain ⟨d1, d2, d3, d4⟩ := pp_krf hL.1
    obtain ⟨q1, q2, q3, -⟩ := pp_Qr d3
    have i41 : f_X15_is 30 y1 = some 0 := by
      have : f_X15_is 30 y1 = some (pp_i (decide (x0.2 4 (k + 1) = 41))) := pp_kis (s := 41) hF hL.1 (by omega)
      rw [this, decide_eq_false e]; rfl
    have hmin : g_min (8 : Int32) (nI w) = nI w := by
      rw [show (8 : Int32) = nI 8 from rfl, pp_min (by omega) (by omega), Nat.min_eq_right w1]
    have htk : f_X15_take 30 y1 = some (pp_ry y1) := by
      unfold f_X15_take
      rw [i41, pp_b, if_pos rfl, d2]; rfl
    have hn : f_X2_readNewName x1 = some (pp_rx x1) := by
      unfold f_X2_readNewName
      rw [k4, if_neg e, d1]; rfl
    obtain ⟨e1, e2⟩ := pp_kexQ (s := 1) (a := 1) d3 (by decide)
    unfold f_X15_word
    rw [hn, pp_b, e1, pp_b, i41, pp_b, if_pos rfl, w2, hmin]
    unfold f_X15_word_35
    rw [i41, pp_b, if_pos rfl]
    unfold f_X15_word_55
    rw [i41, pp_b, if_pos rfl]
    unfold f_X15_word_80
    rw [htk, pp_b, e2, pp_b, if_pos (hok w w1), hcl w w1]
    have hL4 : pp_LQ b v n x0 xs y0 ys (pp_rx x1) (g_mi (pp_ry y1) 140 w 0) := ⟨d3.sf rfl rfl rfl rfl (by rw [pp_g1, pp_g4 (by omega)]) (fun i _ _ => by rw [pp_g1, pp_g4 (by omega)]), (hL.2.1.tr (pp_FL.sf hv d4)).tr ⟨fun _ _ _ _ _ => rfl, fun _ _ _ => rfl, fun _ _ => rfl, fun _ _ => rfl, fun i _ _ c => by rw [pp_g1, pp_g4 (by omega)], fun j _ => by rw [pp_g1, pp_g4 (by omega)]⟩⟩
    obtain ⟨u, u1, u2⟩ := hL.2.2.1.1
    obtain ⟨x5, y5, t1, t2, t3⟩ := pp_wtQ hL4 hv hF r2 w1 ⟨u, u1, by rw [d4.1 v (by omega)]; exact u2⟩
    exact ⟨x5, y5, t1, t2, Or.inr t3⟩
end WL
