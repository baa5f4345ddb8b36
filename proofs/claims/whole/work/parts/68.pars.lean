/-! the parsers, side by side: what they hold, the small steps -/
/-- the frame of an expression: only the parser's own numbers and the code change -/
def pp_FE (b : Nat) (x x1 : CS) (y y1 : MS) : Prop := (∀ i, i ≠ 162 → i ≠ b → i ≠ b + 4 → x1.1 i = x.1 i) ∧ (∀ j, j ≠ 5 → x1.1 b j = x.1 b j) ∧ (∀ i, i ≠ 162 → i ≠ b + 3 → x1.2 i = x.2 i) ∧ (∀ j, j ≠ 5 → x1.2 162 j = x.2 162 j) ∧ (∀ i, i ≠ 120 → i ≠ 139 → i ≠ 148 → i ≠ 149 → i ≠ 150 → y1 i = y i) ∧ (∀ j, j ≠ 12 → y1 139 j = y 139 j) ∧ ∀ j, (j < 8 ∨ 12 < j) → y1 120 j = y 120 j
theorem pp_FE.rf (b : Nat) (x : CS) (y : MS) : pp_FE b x x y y := ⟨fun _ _ _ _ => rfl, fun _ _ => rfl, fun _ _ _ => rfl, fun _ _ => rfl, fun _ _ _ _ _ _ => rfl, fun _ _ => rfl, fun _ _ => rfl⟩
theorem pp_FE.tr {b : Nat} {x x1 x2 : CS} {y y1 y2 : MS} (h : pp_FE b x x1 y y1) (k : pp_FE b x1 x2 y1 y2) : pp_FE b x x2 y y2 :=
  ⟨fun i h1 h2 h3 => (k.1 i h1 h2 h3).trans (h.1 i h1 h2 h3), fun j h1 => (k.2.1 j h1).trans (h.2.1 j h1), fun i h1 h2 => (k.2.2.1 i h1 h2).trans (h.2.2.1 i h1 h2), fun j h1 => (k.2.2.2.1 j h1).trans (h.2.2.2.1 j h1), fun i h1 h2 h3 h4 h5 => (k.2.2.2.2.1 i h1 h2 h3 h4 h5).trans (h.2.2.2.2.1 i h1 h2 h3 h4 h5), fun j h1 => (k.2.2.2.2.2.1 j h1).trans (h.2.2.2.2.2.1 j h1), fun j h1 => (k.2.2.2.2.2.2 j h1).trans (h.2.2.2.2.2.2 j h1)⟩
/-- the tokens are as they were read -/
def pp_TC (x0 : CS) (y0 : MS) (x : CS) (y : MS) : Prop := x.1 5 = x0.1 5 ∧ x.1 7 = x0.1 7 ∧ x.2 4 = x0.2 4 ∧ y 121 = y0 121 ∧ y 122 = y0 122 ∧ y 123 = y0 123 ∧ y 124 = y0 124 ∧ y 125 = y0 125
theorem pp_TC.fe {b : Nat} {x0 x x1 : CS} {y0 y y1 : MS} (h : pp_TC x0 y0 x y) (hb : b = 20 ∨ b = 70) (k : pp_FE b x x1 y y1) : pp_TC x0 y0 x1 y1 := by
  obtain ⟨h1, h2, h3, h4, h5, h6, h7, h8⟩ := h
  obtain ⟨k1, k2, k3, k4, k5, k6⟩ := k
  exact ⟨(k1 5 (by omega) (by omega) (by omega)).trans h1, (k1 7 (by omega) (by omega) (by omega)).trans h2, (k3 4 (by omega) (by omega)).trans h3, (k5 121 (by omega) (by omega) (by omega) (by omega) (by omega)).trans h4, (k5 122 (by omega) (by omega) (by omega) (by omega) (by omega)).trans h5, (k5 123 (by omega) (by omega) (by omega) (by omega) (by omega)).trans h6, (k5 124 (by omega) (by omega) (by omega) (by omega) (by omega)).trans h7, (k5 125 (by omega) (by omega) (by omega) (by omega) (by omega)).trans h8⟩
def pp_EP (n : Nat) (x0 x : CS) (y : MS) : Prop := ∃ j, j ≤ n ∧ y 120 11 = nI j ∧ x.1 162 9 = x0.1 5 j
/-- all goes well up to token k, at depth d; er: an error other than of the grammar, or 0 -/
def pp_MD (n : Nat) (x0 : CS) (x : CS) (y : MS) (k d er : Nat) : Prop := x.1 162 4 = nI k ∧ y 120 8 = nI k ∧ k ≤ n ∧ x.2 162 5 = x0.2 4 k ∧ x.1 162 6 = x0.1 5 k ∧ x.1 162 7 = x0.1 7 k ∧ y 120 9 = 0 ∧ y 120 12 = nI d ∧ (er = 0 ∨ (2 ≤ er ∧ er ≤ 5)) ∧ x.1 162 8 = nI er ∧ y 120 10 = nI er ∧ (er = 0 → x.1 162 9 = -1) ∧ (er ≠ 0 → pp_EP n x0 x y)
/-- a wrong token was met -/
def pp_MW (n : Nat) (x0 : CS) (x : CS) (y : MS) (k : Nat) : Prop := x.1 162 8 = 1 ∧ x.2 162 5 = 45 ∧ y 120 9 = 1 ∧ y 120 10 = 1 ∧ pp_EP n x0 x y ∧ k ≤ n ∧ y 120 8 = nI k
theorem pp_trI : ∀ s, s < 46 → ∀ r, r < 46 → pp_tr s = pp_tr r → s = r := by decide +kernel
theorem pp_tr61 : ∀ s, s < 46 → pp_tr s < 61 := by decide
/-! the class's small steps -/
def pp_sx (x : CS) (k : Nat) : CS := g_wi (g_wi (g_wr (g_wi x 162 4 (nI k)) 162 5 (x.2 4 k)) 162 6 (x.1 5 k)) 162 7 (x.1 7 k)
theorem pp_stepC {x : CS} {k er : Nat} (h4 : x.1 162 4 = nI k) (he : x.1 162 8 = nI er) (he1 : er = 0 ∨ (2 ≤ er ∧ er ≤ 5)) (hk : k + 1 < 401) : f_X2_step x = some (pp_sx x (k + 1)) := by
  have hpl : ∀ z : CS, f_X8_place (nI (k + 1)) z = some (z.1 5 (k + 1)) := fun z => by
    unfold f_X8_place
    rw [if_neg (nI_pos (by omega)), if_neg (show ¬ (401 : Int32) ≤ nI (k + 1) from nI_ge (b := 401) hk (by omega)), if_pos ((pp_ok (by omega)).mpr hk), nI_clamp (by omega)]
  have hva : ∀ z : CS, f_X8_value (nI (k + 1)) z = some (z.1 7 (k + 1)) := fun z => by
    unfold f_X8_value
    rw [if_neg (nI_pos (by omega)), if_neg (show ¬ (401 : Int32) ≤ nI (k + 1) from nI_ge (b := 401) hk (by omega)), if_pos ((pp_ok (by omega)).mpr hk), nI_clamp (by omega)]
  have e1 : (g_wi x 162 4 (nI (k + 1))).1 162 4 = nI (k + 1) := by simp [g_wi, upd]
  have e2 : ∀ u, (g_wr (g_wi x 162 4 (nI (k + 1))) 162 5 u).1 162 4 = nI (k + 1) := fun u => by simp [g_wi, g_wr, upd]
  have e3 : ∀ u w, (g_wi (g_wr (g_wi x 162 4 (nI (k + 1))) 162 5 u) 162 6 w).1 162 4 = nI (k + 1) := fun u w => by simp [g_wi, g_wr, upd]
  unfold f_X2_step
  rw [if_neg (by rw [he, show (1 : Int32) = nI 1 from rfl, nI_eq (by omega) (by omega)]; omega), h4, nI_1, e1, pp_sgn hk, pp_b, e2, hpl, pp_b, e3, hva, pp_b]
  simp [pp_sx, g_wi, g_wr]
theorem pp_sx1 {x : CS} {k : Nat} : (∀ i, i ≠ 162 → (pp_sx x k).1 i = x.1 i) ∧ (∀ i, i ≠ 162 → (pp_sx x k).2 i = x.2 i) ∧ (∀ j, j ≠ 5 → (pp_sx x k).2 162 j = x.2 162 j) ∧ (pp_sx x k).2 162 5 = x.2 4 k ∧ (pp_sx x k).1 162 4 = nI k ∧ (pp_sx x k).1 162 6 = x.1 5 k ∧ (pp_sx x k).1 162 7 = x.1 7 k ∧ (pp_sx x k).1 162 8 = x.1 162 8 ∧ (pp_sx x k).1 162 9 = x.1 162 9 := by
  refine ⟨fun i h => ?_, fun i h => ?_, fun j h => ?_, ?_, ?_, ?_, ?_, ?_, ?_⟩
  · simp [pp_sx, g_wi, g_wr, h]
  · simp [pp_sx, g_wi, g_wr, h]
  · simp [pp_sx, g_wi, g_wr, va_up, h]
  · simp [pp_sx, g_wi, g_wr, va_up]
  · simp [pp_sx, g_wi, g_wr, upd]
  · simp [pp_sx, g_wi, g_wr, upd]
  · simp [pp_sx, g_wi, g_wr, upd]
  · simp [pp_sx, g_wi, g_wr, upd]
  · simp [pp_sx, g_wi, g_wr, upd]
def pp_rx (x : CS) : CS := g_wr (g_wi (g_wi x 162 8 (1 : Int32)) 162 9 (x.1 162 6)) 162 5 45
theorem pp_refC {x : CS} (h : ¬ x.1 162 8 = 1) : f_X2_refuse x = some (pp_rx x) := by
  unfold f_X2_refuse pp_rx
  rw [if_neg h]
  simp [g_wi, upd]
theorem pp_rx1 {x : CS} : (∀ i, i ≠ 162 → (pp_rx x).1 i = x.1 i) ∧ (∀ i, i ≠ 162 → (pp_rx x).2 i = x.2 i) ∧ (∀ j, j ≠ 5 → (pp_rx x).2 162 j = x.2 162 j) ∧ (pp_rx x).2 162 5 = 45 ∧ (pp_rx x).1 162 8 = 1 ∧ (pp_rx x).1 162 9 = x.1 162 6 := by
  refine ⟨fun i h => ?_, fun i h => ?_, fun j h => ?_, ?_, ?_, ?_⟩
  · simp [pp_rx, g_wi, g_wr, h]
  · simp [pp_rx, g_wi, g_wr, h]
  · simp [pp_rx, g_wi, g_wr, va_up, h]
  · simp [pp_rx, g_wi, g_wr, va_up]
  · simp [pp_rx, g_wi, g_wr, upd]
  · simp [pp_rx, g_wi, g_wr, upd]
theorem pp_refW {x : CS} (h : x.1 162 8 = 1) : f_X2_refuse x = some x := by
  unfold f_X2_refuse
  rw [if_pos h]
theorem pp_stepW {x : CS} (h : x.1 162 8 = 1) : f_X2_step x = some x := by
  unfold f_X2_step
  rw [if_pos h]
theorem pp_expW {x : CS} {s : Nat} (h : x.1 162 8 = 1) (h5 : x.2 162 5 = 45) (hs : s ≠ 45) : f_X2_expect s x = some x := by
  unfold f_X2_expect
  rw [if_neg (by rw [h5]; exact fun q => hs q.symm), pp_refW h]; rfl
theorem pp_er1 {er : Nat} (h : er = 0 ∨ (2 ≤ er ∧ er ≤ 5)) : ¬ nI er = 1 := by
  rw [show (1 : Int32) = nI 1 from rfl, nI_eq (by omega) (by omega)]
  omega
/-! the reference's small steps -/
theorem pp_isO {n : Nat} {x0 x : CS} {y0 y : MS} {t : Nat → Nat} {T k d er s : Nat} (hF : pp_TF x0 y0 t T n) (hC : pp_TC x0 y0 x y) (hM : pp_MD n x0 x y k d er) (hs : s < 46) : f_X15_is (nI (pp_tr s)) y = some (pp_i (decide (x0.2 4 k = s))) := by
  obtain ⟨f1, f2, f3, f4, -⟩ := hF
  obtain ⟨m1, m2, m3, m4, m5, m6, m7, -⟩ := hM
  have hk46 : x0.2 4 k < 46 ∧ y0 122 k = nI (pp_tr (x0.2 4 k)) := by
    rcases Nat.lt_or_ge k n with h | h
    · obtain ⟨-, -, -, -, -, -, -, q6, q7, -⟩ := f2 k h
      exact ⟨by omega, q7⟩
    · have e : k = n := by omega
      rw [e]
      exact ⟨by omega, f4⟩
  unfold f_X15_is
  rw [m7, if_pos rfl, m2, if_pos ((pp_ok (by omega)).mpr (by omega)), nI_clamp (by omega), hC.2.2.2.2.1, hk46.2]
  by_cases h : x0.2 4 k = s
  · rw [if_pos (by rw [h]), decide_eq_true h]; rfl
  · rw [if_neg (fun q => h (pp_trI _ hk46.1 _ hs ((nI_eq (by have := pp_tr61 _ hk46.1; omega) (by have := pp_tr61 _ hs; omega)).mp q))), decide_eq_false h]; rfl
theorem pp_isW {y : MS} {a : Int32} (h : y 120 9 = 1) : f_X15_is a y = some 0 := by
  unfold f_X15_is
  rw [h, if_neg (by decide)]
theorem pp_wrW {y : MS} (h : y 120 9 = 1) : f_X15_wrong y = some y := by
  unfold f_X15_wrong
  rw [h, if_neg (by decide)]
theorem pp_takeW {y : MS} {a : Int32} (h : y 120 9 = 1) : f_X15_take a y = some y := by
  unfold f_X15_take
  rw [pp_isW h, pp_b, if_pos rfl, pp_wrW h]; rfl
theorem pp_takesW {y : MS} {a : Int32} (h : y 120 9 = 1) : f_X15_takes a y = some (0, y) := by
  unfold f_X15_takes
  rw [pp_isW h, pp_b, if_pos rfl]
def pp_ry (y : MS) : MS := g_mi (g_mi (g_mi y 120 9 (1 : Int32)) 120 10 (1 : Int32)) 120 11 (y 120 8)
theorem pp_wrO {y : MS} (h : y 120 9 = 0) : f_X15_wrong y = some (pp_ry y) := by
  unfold f_X15_wrong pp_ry
  rw [h, if_pos rfl]
  simp [g_mi, upd]
theorem pp_ry1 {y : MS} : (∀ i, i ≠ 120 → pp_ry y i = y i) ∧ pp_ry y 120 8 = y 120 8 ∧ pp_ry y 120 9 = 1 ∧ pp_ry y 120 10 = 1 ∧ pp_ry y 120 11 = y 120 8 ∧ ∀ j, (j < 8 ∨ 11 < j) → pp_ry y 120 j = y 120 j := by
  refine ⟨fun i h => ?_, ?_, ?_, ?_, ?_, fun j h => ?_⟩
  · simp [pp_ry, g_mi, h]
  · simp [pp_ry, g_mi, upd]
  · simp [pp_ry, g_mi, upd]
  · simp [pp_ry, g_mi, upd]
  · simp [pp_ry, g_mi, upd]
  · have h1 : j ≠ 9 := by omega
    have h2 : j ≠ 10 := by omega
    have h3 : j ≠ 11 := by omega
    simp [pp_ry, g_mi, upd, h1, h2, h3]
/-! the context of an expression: tokens, names, refs; and the two modes -/
def pp_NM (n W : Nat) (x0 xs : CS) (ys : MS) (v : Nat) : Prop := W ≤ 8 ∧ ys 139 2 = nI W ∧ (∀ j, j < W → ∃ k, k < n ∧ ys 126 j = nI k ∧ (xs.1 162 8 = 0 → x0.2 4 k = 41 ∧ xs.1 163 j = x0.1 7 k)) ∧ ∃ Wc, Wc ≤ 8 ∧ xs.1 v 2 = nI Wc ∧ (xs.1 162 8 = 0 → Wc = W)
def pp_CX (b v n W : Nat) (x0 xs : CS) (y0 ys : MS) (t : Nat → Nat) (T : Nat) : Prop := (b = 20 ∨ b = 70) ∧ (v = 41 ∨ v = 91) ∧ pp_TF x0 y0 t T n ∧ pp_MT y0 t T ∧ xs.2 162 1 = b ∧ xs.2 162 2 = v ∧ pp_NM n W x0 xs ys v
def pp_PO (b n W : Nat) (x0 xs : CS) (y0 ys : MS) (c k d : Nat) (x : CS) (y : MS) : Prop := (∃ er, pp_MD n x0 x y k d er) ∧ pp_TC x0 y0 x y ∧ pp_FE b xs x ys y ∧ (x.1 162 8 = 0 → xs.1 162 8 = 0) ∧ ∃ Z, y 139 12 = nI Z ∧ Z + c ≤ k ∧ (x.1 162 8 = 0 → x.1 b 5 = nI Z ∧ pp_BN W x y b 139 Z)
def pp_PW (b n : Nat) (x0 xs : CS) (y0 ys : MS) (c : Nat) (x : CS) (y : MS) : Prop := pp_TC x0 y0 x y ∧ pp_FE b xs x ys y ∧ ∃ k, pp_MW n x0 x y k ∧ ∃ Z, y 139 12 = nI Z ∧ Z + c ≤ k + 1
/-- a stretch of code from the state x to the state x1, whose value stands at r -/
def pp_SG (b : Nat) (x x1 : CS) (r : Int32) (bt : Bool) : Prop := ∃ Z Z1, x.1 b 5 = nI Z ∧ x1.1 b 5 = nI Z1 ∧ Z1 ≤ 400 ∧ (∀ i, i < Z → x1.2 (b + 3) i = x.2 (b + 3) i) ∧ pp_se (x1.2 (b + 3)) Z Z1 ∧ r = nI (Z1 - 1) ∧ (bt = true → pp_bt (x1.2 (b + 3) (Z1 - 1)))
/-- a step behind token k -/
theorem pp_stp {b v n W : Nat} {x0 xs x : CS} {y0 ys y : MS} {t : Nat → Nat} {T c k d : Nat} (hX : pp_CX b v n W x0 xs y0 ys t T) (h : pp_PO b n W x0 xs y0 ys c k d x y) (hs : x0.2 4 k ≠ 44) (hs2 : x0.2 4 k ≠ 45) : f_X2_step x = some (pp_sx x (k + 1)) ∧ pp_PO b n W x0 xs y0 ys (c + 1) (k + 1) d (pp_sx x (k + 1)) (g_mi y 120 8 (y 120 8 + 1)) ∧ (pp_sx x (k + 1)).1 162 8 = x.1 162 8 ∧ k < n := by
  obtain ⟨hb, hv, hF, hMT, r1, r2, hN⟩ := hX
  obtain ⟨⟨er, m1, m2, m3, m4, m5, m6, m7, m8, m9, m10, m11, m12, m13⟩, hC, hE, h8, Z, z1, z2, z3⟩ := h
  have hkn : k < n := by
    rcases Nat.lt_or_ge k n with h | h
    · exact h
    · have e : k = n := by omega
      have := hF.2.2.1
      rw [← e] at this
      omega
  have hn400 := hF.1
  obtain ⟨s1, s2, s3, s4, s5, s6, s7, s8, s9⟩ := pp_sx1 (x := x) (k := k + 1)
  have yi : ∀ i, i ≠ 120 → (g_mi y 120 8 (y 120 8 + 1)) i = y i := fun i hi => by rw [pp_g1, pp_g4 hi]
  have yj : ∀ j, j ≠ 8 → (g_mi y 120 8 (y 120 8 + 1)) 120 j = y 120 j := fun j hj => by rw [pp_g1, pp_g3, pp_u2 hj]
  have hFE1 : pp_FE b x (pp_sx x (k + 1)) y (g_mi y 120 8 (y 120 8 + 1)) := ⟨fun i h1 h2 h3 => s1 i h1, fun j _ => by rw [s1 b (by omega)], fun i h1 h2 => s2 i h1, s3, fun i h1 h2 h3 h4 h5 => yi i h1, fun j _ => by rw [yi 139 (by omega)], fun j hj => yj j (by omega)⟩
  refine ⟨pp_stepC m1 m10 m9 (by omega), ⟨⟨er, s5, ?_, by omega, by rw [s4, hC.2.2.1], by rw [s6, hC.1], by rw [s7, hC.2.1], by rw [yj 9 (by omega)]; exact m7, by rw [yj 12 (by omega)]; exact m8, m9, by rw [s8]; exact m10, by rw [yj 10 (by omega)]; exact m11, by rw [s9]; exact m12, fun q => ?_⟩, hC.fe hb hFE1, hE.tr hFE1, by rw [s8]; exact h8, Z, by rw [yi 139 (by omega)]; exact z1, by omega, fun q => ?_⟩, s8, hkn⟩
  · rw [pp_g1, pp_g3, pp_u1, m2, nI_1]
  · obtain ⟨j, j1, j2, j3⟩ := m13 q
    exact ⟨j, j1, by rw [yj 11 (by omega)]; exact j2, by rw [s9]; exact j3⟩
  · rw [s8] at q
    obtain ⟨q1, q2⟩ := z3 q
    refine ⟨by rw [s1 b (by omega)]; exact q1, ?_⟩
    unfold pp_BN at *
    rw [s2 (b + 3) (by omega), s1 (b + 4) (by omega), yi _ (by omega), yi _ (by omega), yi _ (by omega)]
    exact q2
/-- a wrong token at k -/
theorem pp_rfs {b v n W : Nat} {x0 xs x : CS} {y0 ys y : MS} {t : Nat → Nat} {T c k d : Nat} (hX : pp_CX b v n W x0 xs y0 ys t T) (h : pp_PO b n W x0 xs y0 ys c k d x y) : f_X2_refuse x = some (pp_rx x) ∧ f_X15_wrong y = some (pp_ry y) ∧ pp_PW b n x0 xs y0 ys (c + 1) (pp_rx x) (pp_ry y) ∧ pp_FE b x (pp_rx x) y (pp_ry y) := by
  obtain ⟨hb, hv, hF, hMT, r1, r2, hN⟩ := hX
  obtain ⟨⟨er, m1, m2, m3, m4, m5, m6, m7, m8, m9, m10, m11, m12, m13⟩, hC, hE, h8, Z, z1, z2, z3⟩ := h
  obtain ⟨s1, s2, s3, s4, s5, s6⟩ := pp_rx1 (x := x)
  obtain ⟨q1, q2, q3, q4, q5, q6⟩ := pp_ry1 (y := y)
  have hFE1 : pp_FE b x (pp_rx x) y (pp_ry y) := ⟨fun i h1 h2 h3 => s1 i h1, fun j _ => by rw [s1 b (by omega)], fun i h1 h2 => s2 i h1, s3, fun i h1 h2 h3 h4 h5 => q1 i h1, fun j _ => by rw [q1 139 (by omega)], fun j hj => q6 j (by omega)⟩
  exact ⟨pp_refC (by rw [m10]; exact pp_er1 m9), pp_wrO m7, ⟨hC.fe hb hFE1, hE.tr hFE1, k, ⟨s5, s4, q3, q4, ⟨k, m3, by rw [q5]; exact m2, by rw [s6]; exact m5⟩, m3, by rw [q2]; exact m2⟩, Z, by rw [q1 139 (by omega)]; exact z1, by omega⟩, hFE1⟩
