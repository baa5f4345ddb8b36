/-! a new word's name -/
def pp_xw (x : CS) (v u : Nat) (q : Int32) : CS := g_wi (g_wi (g_wi (g_wi (g_wi x 163 u q) (pp_wd v u + 1) 1 0) (pp_wd v u) 1 0) (pp_wd v u) 2 (999 : Int32)) v 2 (nI (u + 1))
theorem pp_xw1 {x : CS} {v u : Nat} {q : Int32} (hv : v = 41 ∨ v = 91) (hu : u < 8) : (∀ i, i ≠ 163 → i ≠ v → i ≠ pp_wd v u → i ≠ pp_wd v u + 1 → (pp_xw x v u q).1 i = x.1 i) ∧ (pp_xw x v u q).2 = x.2 ∧ (∀ j, j ≠ 2 → (pp_xw x v u q).1 v j = x.1 v j) ∧ (pp_xw x v u q).1 v 2 = nI (u + 1) ∧ (pp_xw x v u q).1 163 = upd (x.1 163) u q ∧ (pp_xw x v u q).1 (pp_wd v u) 1 = 0 ∧ (pp_xw x v u q).1 (pp_wd v u) 2 = 999 ∧ (pp_xw x v u q).1 (pp_wd v u + 1) 1 = 0 := by
  have hwd : pp_wd v u = v + 1 + 4 + 3 * u := rfl
  refine ⟨fun i h1 h2 h3 h4 => ?_, rfl, fun j hj => ?_, ?_, ?_, ?_, ?_, ?_⟩
  · unfold pp_xw
    rw [pp_c1, pp_c4 h2, pp_c1, pp_c4 h3, pp_c1, pp_c4 h3, pp_c1, pp_c4 h4, pp_c1, pp_c4 h1]
  · unfold pp_xw
    rw [pp_c1, pp_c3, pp_u2 hj, pp_c1, pp_c4 (by omega), pp_c1, pp_c4 (by omega), pp_c1, pp_c4 (by omega), pp_c1, pp_c4 (by omega)]
  · unfold pp_xw
    rw [pp_c1, pp_c3, pp_u1]
  · unfold pp_xw
    rw [pp_c1, pp_c4 (by omega), pp_c1, pp_c4 (by omega), pp_c1, pp_c4 (by omega), pp_c1, pp_c4 (by omega), pp_c1, pp_c3]
  · unfold pp_xw
    rw [pp_c1, pp_c4 (by omega), pp_c1, pp_c3, pp_u2 (by omega), pp_c1, pp_c3, pp_u1]
  · unfold pp_xw
    rw [pp_c1, pp_c4 (by omega), pp_c1, pp_c3, pp_u1]
  · unfold pp_xw
    rw [pp_c1, pp_c4 (by omega), pp_c1, pp_c4 (by omega), pp_c1, pp_c4 (by omega), pp_c1, pp_c3, pp_u1]
theorem pp_wrd {x : CS} {v u : Nat} (hv : v = 41 ∨ v = 91) (hu : u ≤ 8) (h : x.1 v 2 = nI u) : ∃ o, f_X9_word v (x.1 v 2 - 1) x = some o ∧ kd o = 10 ∧ (v < o ∧ o + 2 ≤ v + 28) ∧ ∀ w, u = w + 1 → o = pp_wd v w := by
  rw [h]
  cases u with
  | zero =>
    refine ⟨v + 2, ?_, ?_, by omega, fun w q => by omega⟩
    · unfold f_X9_word
      rw [if_pos (by decide)]
    · rcases hv with rfl | rfl <;> decide
  | succ u =>
    refine ⟨pp_wd v u, ?_, pp_k10 hv (by omega), by unfold pp_wd; omega, fun w q => by rw [show u = w by omega]⟩
    rw [nI_pred]
    exact pp_word (by omega)
def pp_w80 (w : Nat) (y : MS) : Option MS := (f_X15_take (1 : Int32) y).bind fun q15 => if g_ok (nI w) 10 = true then ((f_X15_part (nI w) (g_mi q15 140 (nI w).toNatClampNeg (0 : Int32))).bind fun q17 => f_X15_word_106 g_fuel (nI w) q17) else none
section NW
variable {b v n : Nat} {x0 xs : CS} {y0 ys : MS} {t : Nat → Nat} {T : Nat}
/-- writes in the vocabulary -/
theorem pp_LK.wr {k q q1 : Nat} {x x1 : CS} {y y1 : MS} (h : pp_LK b v n 0 q x0 xs y0 ys k x y) (hb : b = 20 ∨ b = 70) (hv : v = 41 ∨ v = 91) (h1 : ∀ i, i ≠ 163 → (i < v ∨ v + 28 < i) → x1.1 i = x.1 i) (h2 : x1.2 = x.2) (h3 : ∀ j, 2 < j → x1.1 v j = x.1 v j) (h4 : ∃ u, u ≤ 8 ∧ x1.1 v 2 = nI u) (h5 : ∀ i, i ≠ 126 → i ≠ 140 → y1 i = y i) (h6 : ∀ u, y 139 2 = nI u → u ≤ 8 → ∀ j, j < u + 1 → j < 8 → ∃ i, i < n ∧ y1 126 j = nI i) (h7 : x.1 162 8 = 0 → ∃ W, pp_LD b v n W 1 q1 x0 x1 y1) : pp_LK b v n 1 q1 x0 xs y0 ys k x1 y1 := by
  obtain ⟨a1, a2, ⟨-, ⟨u4, u5, u6⟩, ⟨u7, u8, u9⟩, ⟨z1, z2, z3⟩, ⟨w1, w2, w3, -⟩⟩, -⟩ := h
  have e162 : x1.1 162 = x.1 162 := h1 162 (by omega) (by omega)
  have y120 : y1 120 = y 120 := h5 120 (by omega) (by omega)
  refine ⟨a1.sf e162 (by rw [h2]) (by rw [h2]) (h1 5 (by omega) (by omega)) (h1 7 (by omega) (by omega)) y120 (fun i _ _ => h5 i (by omega) (by omega)), a2.tr ⟨fun i _ c _ d => h1 i c d, fun i _ _ => by rw [h2], fun j _ => by rw [h2], h3, fun i _ c d => h5 i c (by omega), fun j _ => by rw [y120]⟩, ⟨h4, ⟨u4, u5, by rw [h1 b (by omega) (by omega)]; exact u6⟩, ⟨u7, u8, by rw [h5 139 (by omega) (by omega)]; exact u9⟩, ⟨z1, z2, by rw [h5 139 (by omega) (by omega)]; exact z3⟩, w1, w2, by rw [h5 139 (by omega) (by omega)]; exact w3, h6 w1 w3 w2⟩, fun r => h7 (by rw [← e162]; exact r)⟩
theorem pp_LKn {k q : Nat} {x : CS} {y : MS} (h : pp_LK b v n 0 q x0 xs y0 ys k x y) : (∃ u, u ≤ 8 ∧ x.1 v 2 = nI u) ∧ ∃ w, w ≤ 8 ∧ y 139 2 = nI w ∧ (∀ j, j < w → ∃ i, i < n ∧ y 126 j = nI i) ∧ (x.1 162 8 = 0 → x.1 v 2 = nI w ∧ pp_LD b v n w 0 q x0 x y) := by
  obtain ⟨a1, a2, ⟨hu, -, -, -, ⟨w1, w2, w3, w4⟩⟩, a4⟩ := h
  refine ⟨hu, w1, w2, w3, fun j hj => w4 j (by omega) (by omega), fun r => ?_⟩
  obtain ⟨W, hW⟩ := a4 r
  have c := hW
  obtain ⟨c1, c2, c3, -⟩ := c
  have eW : w1 = W := (nI_eq (by omega) (by omega)).mp (w3.symm.trans c3)
  rw [eW]
  exact ⟨c2, hW⟩
/-- the name of the new word written down, all being well -/
theorem pp_LDn {W k : Nat} {x : CS} {y : MS} (h : pp_LD b v n W 0 0 x0 x y) (hb : b = 20 ∨ b = 70) (hv : v = 41 ∨ v = 91) (hW : W < 8) (hk : k < n) (hs : x0.2 4 k = 41) (h8 : y 120 8 = nI k) (h7 : x.1 162 7 = x0.1 7 k) : pp_LD b v n W 1 0 x0 (pp_xw x v W (x.1 162 7)) (g_mi (g_mi y 126 W (y 120 8)) 140 W 0) := by
  obtain ⟨f1, f2, f3, f4, f5, f6, f7, f8⟩ := pp_xw1 (x := x) (q := x.1 162 7) hv hW
  have hwd : pp_wd v W = v + 1 + 4 + 3 * W := rfl
  have yi : ∀ i, i ≠ 126 → i ≠ 140 → (g_mi (g_mi y 126 W (y 120 8)) 140 W 0) i = y i := fun i h1 h2 => by rw [pp_g1, pp_g4 h2, pp_g1, pp_g4 h1]
  have y126 : (g_mi (g_mi y 126 W (y 120 8)) 140 W 0) 126 = upd (y 126) W (y 120 8) := by rw [pp_g1, pp_g4 (by omega), pp_g1, pp_g3]
  have y140 : (g_mi (g_mi y 126 W (y 120 8)) 140 W 0) 140 = upd (y 140) W 0 := by rw [pp_g1, pp_g3, pp_g1, pp_g4 (by omega)]
  obtain ⟨a1, a2, a3, a4, a5, ⟨R, Z, a6, a7, a8⟩, ⟨g, a9, c1, c2⟩, m, c3, c4, c5⟩ := h
  refine ⟨by omega, f4, by rw [yi 139 (by omega) (by omega)]; exact a3, fun j hj => ?_, fun j hj => ?_, ⟨R, Z, a6, a7, a8.ee a6 (Nat.le_refl _) (fun i _ _ => f1 i (by omega) (by omega) (by omega) (by omega)) (by rw [f1 b (by omega) (by omega) (by omega) (by omega)]; exact ⟨rfl, rfl⟩) (fun i _ _ => by rw [f2]) (fun i _ _ => yi i (by omega) (by omega)) (by rw [yi 139 (by omega) (by omega)]; exact ⟨rfl, rfl⟩)⟩, ⟨g, a9, by rw [f1 b (by omega) (by omega) (by omega) (by omega)]; exact c1, by rw [yi 139 (by omega) (by omega)]; exact c2⟩, m, c3, by rw [f1 b (by omega) (by omega) (by omega) (by omega)]; exact c4, by rw [yi 139 (by omega) (by omega)]; exact c5⟩
  · rw [f5, y126]
    by_cases ej : j = W
    · subst ej
      exact ⟨k, hk, by rw [pp_u1]; exact h8, hs, by rw [pp_u1]; exact h7⟩
    · rw [pp_u2 ej, pp_u2 ej]
      exact a4 j (by omega)
  · have hwj : pp_wd v j = v + 1 + 4 + 3 * j := rfl
    by_cases ej : j = W
    · subst ej
      exact ⟨f6, f7, fun _ => 0, 0, fun u => by omega, ⟨f8, by omega, fun _ => Nat.zero_le _, fun _ u => by omega⟩, by rw [show (139 + 1 : Nat) = 140 from rfl, y140, pp_u1]; rfl, by omega, fun _ => Nat.zero_le _, fun _ u => by omega⟩
    · exact (a5 j (by omega)).ee (fun u => by omega) (fun i d d' => f1 i (by omega) (by omega) (by omega) (by omega)) (by rw [y140, pp_u2 ej]) (fun i d d' => by rw [yi 141 (by omega) (by omega)])
/-- the first word of a line of a word: is the name known? -/
theorem pp_nw1 {k : Nat} {x : CS} {y : MS} (h : pp_LK b v n 0 0 x0 xs y0 ys k x y) (hb : b = 20 ∨ b = 70) (hv : v = 41 ∨ v = 91) (hF : pp_TF x0 y0 t T n) (hMT : pp_MT y0 t T) (r1 : xs.2 162 1 = b) (r2 : xs.2 162 2 = v) (hs : x0.2 4 k = 41) : ∃ x1 y1 w, w ≤ 8 ∧ f_X2_readNewName x = f_X2_readNewName_32 x1 ∧ f_X15_word y = f_X15_word_35 (nI w) y1 ∧ pp_LK b v n 0 0 x0 xs y0 ys k x1 y1 ∧ y1 139 2 = nI w := by
  obtain ⟨W, hX, hP, -⟩ := h.cx hb hv hF hMT r1 r2
  obtain ⟨-, w, w1, w2, -⟩ := pp_LKn h
  obtain ⟨-, k2, k3, k4, k5, -⟩ := pp_Kk h.1
  have hkn : k < n := (pp_kst hF h.1 (by omega) (by omega)).2.2.2.2
  obtain ⟨oc, om, o1, o2, o3, o4, o5⟩ := pp_kno (x := x) (y := y) hX h.1.2 (pp_POr hX hP).2.1 k2 hkn rfl rfl rfl rfl k5
  have i41 : f_X15_is 30 y = some (pp_i (decide (x0.2 4 k = 41))) := pp_kis (s := 41) hF h.1 (by omega)
  have hmin : g_min (8 : Int32) (nI w) = nI w := by
    rw [show (8 : Int32) = nI 8 from rfl, pp_min (by omega) (by omega), Nat.min_eq_right w1]
  have hC : f_X2_readNewName x = (if pp_en oc = (-1 : Int32) then f_X2_readNewName_32 x else (f_X2_blame (2 : Int32) x).bind fun q4 => f_X2_readNewName_32 q4) := by
    unfold f_X2_readNewName
    rw [k4, if_pos hs, o1, pp_b]
  have hM : f_X15_word y = (if pp_en om = (-1 : Int32) then f_X15_word_35 (nI w) y else (f_X15_mark (2 : Int32) y).bind fun q5 => f_X15_word_35 (nI w) q5) := by
    unfold f_X15_word
    rw [i41, decide_eq_true hs, pp_b, if_neg (show ¬ pp_i true = 0 by decide), o2, pp_b, w2, hmin]
  rw [hC, hM]
  by_cases h0 : x.1 162 8 = 0
  · obtain ⟨e1, -⟩ := o5 h0 hs
    subst e1
    cases oc with
    | none => exact ⟨x, y, w, w1, by rw [if_pos (show pp_en none = (-1 : Int32) from rfl)], by rw [if_pos (show pp_en none = (-1 : Int32) from rfl)], h, w2⟩
    | some c =>
      have hc : ¬ pp_en (some c) = (-1 : Int32) := pp_m1n (by have := o3 c rfl; omega)
      obtain ⟨x1, y1, b1, b2, b3, b4, b5⟩ := pp_kbl (e := 2) h.1 (by omega)
      exact ⟨x1, y1, w, w1, by rw [if_neg hc, show (2 : Int32) = nI 2 from rfl, b1]; rfl, by rw [if_neg hc, show (2 : Int32) = nI 2 from rfl, b2]; rfl, h.sf hb hv (Nat.le_refl _) b4 b3 (fun u => absurd u b5), by rw [b3.2.2.2.1 139 (by omega)]; exact w2⟩
  · obtain ⟨b1, b2⟩ := pp_kb0 (e := 2) h.1 h0
    refine ⟨x, y, w, w1, ?_, ?_, h, w2⟩
    · split
      · rfl
      · rw [b1]; rfl
    · split
      · rfl
      · rw [b2]; rfl
/-- the name written down -/
theorem pp_nw2 {k w : Nat} {x : CS} {y : MS} (h : pp_LK b v n 0 0 x0 xs y0 ys k x y) (hb : b = 20 ∨ b = 70) (hv : v = 41 ∨ v = 91) (hF : pp_TF x0 y0 t T n) (hr : x.2 162 2 = v) (hs : x0.2 4 k = 41) (hw : w ≤ 8) (hw2 : y 139 2 = nI w) : ∃ x1 y1, f_X2_readNewName_32 x = f_X2_readNewName_90 x1 ∧ f_X15_word_35 (nI w) y = f_X15_word_80 (nI w) y1 ∧ pp_LK b v n 1 0 x0 xs y0 ys k x1 (g_mi y1 140 w 0) ∧ pp_kK n x0 y0 k x1 y1 ∧ y1 139 2 = nI w := by
  obtain ⟨⟨u, u1, u2⟩, w', w1, w2, w3, w4⟩ := pp_LKn h
  have ew : w' = w := (nI_eq (by omega) (by omega)).mp (w2.symm.trans hw2)
  subst ew
  obtain ⟨-, k2, k3, k4, k5, -⟩ := pp_Kk h.1
  have hkn : k < n := (pp_kst hF h.1 (by omega) (by omega)).2.2.2.2
  have i41 : ∀ (x2 : CS) (y2 : MS), pp_kK n x0 y0 k x2 y2 → f_X15_is 30 y2 = some 1 := fun x2 y2 h2 => by
    have : f_X15_is 30 y2 = some (pp_i (decide (x0.2 4 k = 41))) := pp_kis (s := 41) hF h2 (by omega)
    rw [this, decide_eq_true hs]; rfl
  have i1 : ¬ (1 : Int32) = 0 := by decide
  -- the class
  have hC : u < 8 → f_X2_readNewName_32 x = f_X2_readNewName_90 (pp_xw x v u (x.1 162 7)) := fun hu => by
    have h8 : ¬ (8 : Int32) ≤ nI u := nI_ge (b := 8) hu (by omega)
    have hok := (pp_ok (k := u) (n := 8) (by omega)).mpr hu
    have e1 : (g_wi x 163 u (x.1 162 7)).2 162 2 = v := hr
    have e2 : (g_wi x 163 u (x.1 162 7)).1 v 2 = nI u := by rw [pp_c1, pp_c4 (by omega)]; exact u2
    have e3 : (g_wi (g_wi (g_wi (g_wi x 163 u (x.1 162 7)) (pp_wd v u + 1) 1 (0 : Int32)) (pp_wd v u) 1 (0 : Int32)) (pp_wd v u) 2 (999 : Int32)).1 v 2 = nI u := by
      rw [pp_c1, pp_c4 (by unfold pp_wd; omega), pp_c1, pp_c4 (by unfold pp_wd; omega), pp_c1, pp_c4 (by unfold pp_wd; omega)]; exact e2
    unfold f_X2_readNewName_32
    rw [hr, if_pos (pp_k9 hv), u2, if_pos (show nI u < (8 : Int32) from nI_lt (b := 8) hu (by omega)), if_neg h8, if_pos hok, nI_clamp (by omega), e1, if_pos (pp_k9 hv)]
    unfold f_X9_addWord
    rw [e2, if_neg h8, pp_word hu, pp_b, if_pos (pp_k10 hv hu), e3, nI_1]
    rfl
  have hC8 : u = 8 → f_X2_readNewName_32 x = (f_X2_blame (4 : Int32) x).bind fun q12 => f_X2_readNewName_90 q12 := fun hu => by
    unfold f_X2_readNewName_32
    rw [hr, if_pos (pp_k9 hv), u2, hu, if_neg (by decide)]
  -- the reference
  have hM : w' < 8 → f_X15_word_35 (nI w') y = f_X15_word_80 (nI w') (g_mi y 126 w' (y 120 8)) := fun hu => by
    have h8 : ¬ (8 : Int32) ≤ nI w' := nI_ge (b := 8) hu (by omega)
    have h8e : ¬ nI w' = (8 : Int32) := fun q => by
      have := (nI_eq (a := w') (b := 8) (by omega) (by omega)).mp q
      omega
    have hok := (pp_ok (k := w') (n := 8) (by omega)).mpr hu
    unfold f_X15_word_35
    rw [i41 x y h.1, pp_b, if_neg i1, if_neg h8e]
    unfold f_X15_word_55
    rw [i41 x y h.1, pp_b, if_neg i1, if_neg h8, if_pos hok, nI_clamp (by omega)]
  have hM8 : w' = 8 → ∀ (x2 : CS) (y2 : MS), f_X15_mark (4 : Int32) y = some y2 → pp_kK n x0 y0 k x2 y2 → f_X15_word_35 (nI w') y = f_X15_word_80 (nI w') y2 := fun hu x2 y2 h2 h3 => by
    unfold f_X15_word_35
    rw [i41 x y h.1, pp_b, if_neg i1, if_pos (by rw [hu]; rfl), h2, pp_b]
    unfold f_X15_word_55
    rw [i41 x2 y2 h3, pp_b, if_neg i1, if_pos (by rw [hu]; decide)]
  have hK : ∀ (x1 : CS), x1 = x ∨ (u < 8 ∧ x1 = pp_xw x v u (x.1 162 7)) → (∀ i, i ≠ 163 → (i < v ∨ v + 28 < i) → x1.1 i = x.1 i) ∧ x1.2 = x.2 ∧ (∀ j, 2 < j → x1.1 v j = x.1 v j) ∧ ∃ u, u ≤ 8 ∧ x1.1 v 2 = nI u := by
    intro x1 hx
    rcases hx with rfl | ⟨hu, rfl⟩
    · exact ⟨fun _ _ _ => rfl, rfl, fun _ _ => rfl, u, u1, u2⟩
    · obtain ⟨f1, f2, f3, f4, f5, f6, f7, f8⟩ := pp_xw1 (x := x) (q := x.1 162 7) hv hu
      have hwd : pp_wd v u = v + 1 + 4 + 3 * u := rfl
      exact ⟨fun i d1 d2 => f1 i d1 (by omega) (by omega) (by omega), f2, fun j hj => f3 j (by omega), u + 1, by omega, f4⟩
  have hY : ∀ (y1 : MS), y1 = y ∨ (w' < 8 ∧ y1 = g_mi y 126 w' (y 120 8)) → (∀ i, i ≠ 126 → y1 i = y i) ∧ ((w' < 8 → y1 126 w' = nI k) → ∀ j, j < w' + 1 → j < 8 → ∃ i, i < n ∧ y1 126 j = nI i) := by
    intro y1 hy
    rcases hy with rfl | ⟨hu, rfl⟩
    · refine ⟨fun _ _ => rfl, fun q j hj hj8 => ?_⟩
      rcases Nat.lt_or_ge j w' with c | c
      · exact w3 j c
      · have e : j = w' := by omega
        exact ⟨k, hkn, by rw [e]; exact q (by omega)⟩
    · refine ⟨fun i hi => by rw [pp_g1, pp_g4 hi], fun q j hj hj8 => ?_⟩
      rcases Nat.lt_or_ge j w' with c | c
      · rw [pp_g1, pp_g3, pp_u2 (by omega)]
        exact w3 j c
      · have e : j = w' := by omega
        exact ⟨k, hkn, by rw [e]; exact q (by omega)⟩
  -- together
  have hfin : ∀ (x1 : CS) (y1 : MS), (x1 = x ∨ (u < 8 ∧ x1 = pp_xw x v u (x.1 162 7))) → (y1 = y ∨ (w' < 8 ∧ y1 = g_mi y 126 w' (y 120 8))) → (w' < 8 → y1 = g_mi y 126 w' (y 120 8)) → (x.1 162 8 = 0 → ∃ W, pp_LD b v n W 1 0 x0 x1 (g_mi y1 140 w' 0)) → pp_LK b v n 1 0 x0 xs y0 ys k x1 (g_mi y1 140 w' 0) ∧ pp_kK n x0 y0 k x1 y1 ∧ y1 139 2 = nI w' := by
    intro x1 y1 hx hy hy2 hD
    obtain ⟨a1, a2, a3, a4⟩ := hK x1 hx
    obtain ⟨b1, b2⟩ := hY y1 hy
    have hq : w' < 8 → y1 126 w' = nI k := fun q => by rw [hy2 q, pp_g1, pp_g3, pp_u1]; exact k2
    refine ⟨h.wr hb hv a1 a2 a3 a4 (fun i d1 d2 => by rw [pp_g1, pp_g4 d2]; exact b1 i d1) (fun u' c1 c2 j hj hj8 => ?_) hD, h.1.sf (a1 162 (by omega) (by omega)) (by rw [a2]) (by rw [a2]) (a1 5 (by omega) (by omega)) (a1 7 (by omega) (by omega)) (b1 120 (by omega)) (fun i _ _ => b1 i (by omega)), by rw [b1 139 (by omega)]; exact hw2⟩
    have eu : u' = w' := (nI_eq (by omega) (by omega)).mp (c1.symm.trans hw2)
    rw [pp_g1, pp_g4 (by omega)]
    exact b2 hq j (by omega) hj8
  by_cases h0 : x.1 162 8 = 0
  · obtain ⟨d1, d2⟩ := w4 h0
    have eu : u = w' := (nI_eq (by omega) (by omega)).mp (u2.symm.trans d1)
    subst eu
    rcases Nat.lt_or_ge u 8 with hu | hu
    · refine ⟨pp_xw x v u (x.1 162 7), g_mi y 126 u (y 120 8), hC hu, hM hu, hfin _ _ (Or.inr ⟨hu, rfl⟩) (Or.inr ⟨hu, rfl⟩) (fun _ => rfl) (fun _ => ⟨u, pp_LDn d2 hb hv hu hkn hs k2 k5⟩)⟩
    · have e8 : u = 8 := by omega
      obtain ⟨x1, y1, b1, b2, b3, b4, b5⟩ := pp_kbl (e := 4) h.1 (by omega)
      have hL := h.sf hb hv (Nat.le_refl _) b4 b3 (fun q => absurd q b5)
      obtain ⟨v1, v2, v3, v4⟩ := pp_LKn hL
      refine ⟨x1, y1, by rw [hC8 e8, show (4 : Int32) = nI 4 from rfl, b1]; rfl, hM8 e8 x1 y1 b2 b4, hL.wr hb hv (fun _ _ _ => rfl) rfl (fun _ _ => rfl) v1 (fun i c1 c2 => by rw [pp_g1, pp_g4 c2]) (fun u' c1 c2 j hj hj8 => ?_) (fun q => absurd q b5), b4, by rw [b3.2.2.2.1 139 (by omega)]; exact w2⟩
      rw [b3.2.2.2.1 139 (by omega)] at c1
      have eu : u' = u := (nI_eq (by omega) (by omega)).mp (c1.symm.trans w2)
      rw [pp_g1, pp_g4 (by omega), b3.2.2.2.1 126 (by omega)]
      exact w3 j (by omega)
  · obtain ⟨b1, b2⟩ := pp_kb0 (e := 4) h.1 h0
    have hx : ∃ x1, (x1 = x ∨ (u < 8 ∧ x1 = pp_xw x v u (x.1 162 7))) ∧ f_X2_readNewName_32 x = f_X2_readNewName_90 x1 := by
      rcases Nat.lt_or_ge u 8 with hu | hu
      · exact ⟨_, Or.inr ⟨hu, rfl⟩, hC hu⟩
      · exact ⟨x, Or.inl rfl, by rw [hC8 (by omega), b1]; rfl⟩
    have hy : ∃ y1, (y1 = y ∨ (w' < 8 ∧ y1 = g_mi y 126 w' (y 120 8))) ∧ (w' < 8 → y1 = g_mi y 126 w' (y 120 8)) ∧ f_X15_word_35 (nI w') y = f_X15_word_80 (nI w') y1 := by
      rcases Nat.lt_or_ge w' 8 with hu | hu
      · exact ⟨_, Or.inr ⟨hu, rfl⟩, fun _ => rfl, hM hu⟩
      · exact ⟨y, Or.inl rfl, fun q => by omega, hM8 (by omega) x y b2 h.1⟩
    obtain ⟨x1, x2, x3⟩ := hx
    obtain ⟨y1, y2, y3, y4⟩ := hy
    exact ⟨x1, y1, x3, y4, hfin x1 y1 x2 y2 y3 (fun q => absurd q h0)⟩
end NW
