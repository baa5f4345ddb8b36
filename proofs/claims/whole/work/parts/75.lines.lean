/-! lines of the language: the small steps again, outside of expressions; numbers; beats -/
def pp_kK (n : Nat) (x0 : CS) (y0 : MS) (k : Nat) (x : CS) (y : MS) : Prop := (∃ er, pp_MD n x0 x y k 0 er) ∧ pp_TC x0 y0 x y
def pp_Q (n : Nat) (x0 : CS) (y0 : MS) (x : CS) (y : MS) : Prop := (∃ k, pp_MW n x0 x y k) ∧ pp_TC x0 y0 x y
/-- the frame of a small step -/
def pp_SF (x x1 : CS) (y y1 : MS) : Prop := (∀ i, i ≠ 162 → x1.1 i = x.1 i) ∧ (∀ i, i ≠ 162 → x1.2 i = x.2 i) ∧ (∀ j, j ≠ 5 → x1.2 162 j = x.2 162 j) ∧ (∀ i, i ≠ 120 → y1 i = y i) ∧ ∀ j, (j < 8 ∨ 12 < j) → y1 120 j = y 120 j
theorem pp_SF.rf (x : CS) (y : MS) : pp_SF x x y y := ⟨fun _ _ => rfl, fun _ _ => rfl, fun _ _ => rfl, fun _ _ => rfl, fun _ _ => rfl⟩
theorem pp_SF.tr {x x1 x2 : CS} {y y1 y2 : MS} (h : pp_SF x x1 y y1) (k : pp_SF x1 x2 y1 y2) : pp_SF x x2 y y2 :=
  ⟨fun i h1 => (k.1 i h1).trans (h.1 i h1), fun i h1 => (k.2.1 i h1).trans (h.2.1 i h1), fun j h1 => (k.2.2.1 j h1).trans (h.2.2.1 j h1), fun i h1 => (k.2.2.2.1 i h1).trans (h.2.2.2.1 i h1), fun j h1 => (k.2.2.2.2 j h1).trans (h.2.2.2.2 j h1)⟩
theorem pp_TC.sf {x0 x x1 : CS} {y0 y y1 : MS} (h : pp_TC x0 y0 x y) (k : pp_SF x x1 y y1) : pp_TC x0 y0 x1 y1 := by
  obtain ⟨h1, h2, h3, h4, h5, h6, h7, h8⟩ := h
  obtain ⟨k1, k2, k3, k4, k5⟩ := k
  exact ⟨(k1 5 (by omega)).trans h1, (k1 7 (by omega)).trans h2, (k2 4 (by omega)).trans h3, (k4 121 (by omega)).trans h4, (k4 122 (by omega)).trans h5, (k4 123 (by omega)).trans h6, (k4 124 (by omega)).trans h7, (k4 125 (by omega)).trans h8⟩
section LN
variable {n : Nat} {x0 : CS} {y0 : MS} {t : Nat → Nat} {T : Nat}
theorem pp_Kk {k : Nat} {x : CS} {y : MS} (h : pp_kK n x0 y0 k x y) : k ≤ n ∧ y 120 8 = nI k ∧ y 120 9 = 0 ∧ x.2 162 5 = x0.2 4 k ∧ x.1 162 7 = x0.1 7 k ∧ y 122 k = y0 122 k ∧ y 123 k = y0 123 k := by
  obtain ⟨⟨er, m1, m2, m3, m4, m5, m6, m7, m8, -⟩, c1, c2, c3, c4, c5, c6, -⟩ := h
  exact ⟨m3, m2, m7, m4, m6, by rw [c5], by rw [c6]⟩
theorem pp_Ke {k : Nat} {x : CS} {y : MS} (h : pp_kK n x0 y0 k x y) : (x.1 162 8 = 0 ∧ y 120 10 = 0) ∨ (∃ er, 0 < er ∧ er < 6 ∧ x.1 162 8 = nI er ∧ y 120 10 = nI er) := by
  obtain ⟨⟨er, m1, m2, m3, m4, m5, m6, m7, m8, m9, m10, m11, m12, m13⟩, -⟩ := h
  rcases m9 with rfl | m9
  · exact Or.inl ⟨m10, m11⟩
  · exact Or.inr ⟨er, by omega, by omega, m10, m11⟩
theorem pp_K1 {k : Nat} {x : CS} {y : MS} (h : pp_kK n x0 y0 k x y) : ¬ x.1 162 8 = 1 := by
  obtain ⟨⟨er, m1, m2, m3, m4, m5, m6, m7, m8, m9, m10, -⟩, -⟩ := h
  rw [m10]; exact pp_er1 m9
theorem pp_Qr {x : CS} {y : MS} (h : pp_Q n x0 y0 x y) : x.2 162 5 = 45 ∧ x.1 162 8 = 1 ∧ y 120 9 = 1 ∧ ∃ k, k ≤ n ∧ y 120 8 = nI k := by
  obtain ⟨⟨k, m1, m2, m3, m4, m5, m6, m7⟩, -⟩ := h
  exact ⟨m2, m1, m3, k, m6, m7⟩
theorem pp_Q.sf {x x1 : CS} {y y1 : MS} (h : pp_Q n x0 y0 x y) (h1 : x1.1 162 = x.1 162) (h2 : x1.2 = x.2) (h5 : x1.1 5 = x.1 5) (h7 : x1.1 7 = x.1 7) (h3 : y1 120 = y 120) (h4 : ∀ i, 121 ≤ i → i ≤ 125 → y1 i = y i) : pp_Q n x0 y0 x1 y1 := by
  obtain ⟨⟨k, m1, m2, m3, m4, ⟨j, j1, j2, j3⟩, m6, m7⟩, c1, c2, c3, c4, c5, c6, c7, c8⟩ := h
  exact ⟨⟨k, by rw [h1]; exact m1, by rw [h2]; exact m2, by rw [h3]; exact m3, by rw [h3]; exact m4, ⟨j, j1, by rw [h3]; exact j2, by rw [h1]; exact j3⟩, m6, by rw [h3]; exact m7⟩, h5.trans c1, h7.trans c2, by rw [h2]; exact c3, (h4 _ (by omega) (by omega)).trans c4, (h4 _ (by omega) (by omega)).trans c5, (h4 _ (by omega) (by omega)).trans c6, (h4 _ (by omega) (by omega)).trans c7, (h4 _ (by omega) (by omega)).trans c8⟩
theorem pp_kK.sf {k : Nat} {x x1 : CS} {y y1 : MS} (h : pp_kK n x0 y0 k x y) (h1 : x1.1 162 = x.1 162) (h2 : x1.2 162 = x.2 162) (h24 : x1.2 4 = x.2 4) (h5 : x1.1 5 = x.1 5) (h7 : x1.1 7 = x.1 7) (h3 : y1 120 = y 120) (h4 : ∀ i, 121 ≤ i → i ≤ 125 → y1 i = y i) : pp_kK n x0 y0 k x1 y1 := by
  obtain ⟨⟨er, m1, m2, m3, m4, m5, m6, m7, m8, m9, m10, m11, m12, m13⟩, c1, c2, c3, c4, c5, c6, c7, c8⟩ := h
  refine ⟨⟨er, by rw [h1]; exact m1, by rw [h3]; exact m2, m3, by rw [h2]; exact m4, by rw [h1]; exact m5, by rw [h1]; exact m6, by rw [h3]; exact m7, by rw [h3]; exact m8, m9, by rw [h1]; exact m10, by rw [h3]; exact m11, by rw [h1]; exact m12, fun q => ?_⟩, h5.trans c1, h7.trans c2, by rw [h24]; exact c3, (h4 _ (by omega) (by omega)).trans c4, (h4 _ (by omega) (by omega)).trans c5, (h4 _ (by omega) (by omega)).trans c6, (h4 _ (by omega) (by omega)).trans c7, (h4 _ (by omega) (by omega)).trans c8⟩
  obtain ⟨j, j1, j2, j3⟩ := m13 q
  exact ⟨j, j1, by rw [h3]; exact j2, by rw [h1]; exact j3⟩
theorem pp_kst {k : Nat} {x : CS} {y : MS} (hF : pp_TF x0 y0 t T n) (h : pp_kK n x0 y0 k x y) (hs : x0.2 4 k ≠ 44) (hs2 : x0.2 4 k ≠ 45) : f_X2_step x = some (pp_sx x (k + 1)) ∧ pp_kK n x0 y0 (k + 1) (pp_sx x (k + 1)) (g_mi y 120 8 (y 120 8 + 1)) ∧ pp_SF x (pp_sx x (k + 1)) y (g_mi y 120 8 (y 120 8 + 1)) ∧ (pp_sx x (k + 1)).1 162 8 = x.1 162 8 ∧ k < n := by
  obtain ⟨⟨er, m1, m2, m3, m4, m5, m6, m7, m8, m9, m10, m11, m12, m13⟩, hC⟩ := h
  have hkn : k < n := by
    rcases Nat.lt_or_ge k n with h | h
    · exact h
    · have e : k = n := by omega
      have := hF.2.2.1
      rw [← e] at this
      omega
  have hn400 := hF.1
  obtain ⟨s1, s2, s3, s4, s5, s6, s7, s8, s9⟩ := pp_sx1 (x := x) (k := k + 1)
  have yi : ∀ i, i ≠ 120 → (g_mi y 120 8 (y 120 8 + 1)) i = y i := fun i hi => by rw [pp_g1, pp_g4 hi]
  have yj : ∀ j, j ≠ 8 → (g_mi y 120 8 (y 120 8 + 1)) 120 j = y 120 j := fun j hj => by rw [pp_g1, pp_g3, pp_u2 hj]
  have hS : pp_SF x (pp_sx x (k + 1)) y (g_mi y 120 8 (y 120 8 + 1)) := ⟨s1, s2, s3, yi, fun j hj => yj j (by omega)⟩
  refine ⟨pp_stepC m1 m10 m9 (by omega), ⟨⟨er, s5, ?_, by omega, by rw [s4, hC.2.2.1], by rw [s6, hC.1], by rw [s7, hC.2.1], by rw [yj 9 (by omega)]; exact m7, by rw [yj 12 (by omega)]; exact m8, m9, by rw [s8]; exact m10, by rw [yj 10 (by omega)]; exact m11, by rw [s9]; exact m12, fun q => ?_⟩, hC.sf hS⟩, hS, s8, hkn⟩
  · rw [pp_g1, pp_g3, pp_u1, m2, nI_1]
  · obtain ⟨j, j1, j2, j3⟩ := m13 q
    exact ⟨j, j1, by rw [yj 11 (by omega)]; exact j2, by rw [s9]; exact j3⟩
theorem pp_krf {k : Nat} {x : CS} {y : MS} (h : pp_kK n x0 y0 k x y) : f_X2_refuse x = some (pp_rx x) ∧ f_X15_wrong y = some (pp_ry y) ∧ pp_Q n x0 y0 (pp_rx x) (pp_ry y) ∧ pp_SF x (pp_rx x) y (pp_ry y) := by
  obtain ⟨⟨er, m1, m2, m3, m4, m5, m6, m7, m8, m9, m10, m11, m12, m13⟩, hC⟩ := h
  obtain ⟨s1, s2, s3, s4, s5, s6⟩ := pp_rx1 (x := x)
  obtain ⟨q1, q2, q3, q4, q5, q6⟩ := pp_ry1 (y := y)
  have hS : pp_SF x (pp_rx x) y (pp_ry y) := ⟨s1, s2, s3, q1, fun j hj => q6 j (by omega)⟩
  exact ⟨pp_refC (by rw [m10]; exact pp_er1 m9), pp_wrO m7, ⟨⟨k, s5, s4, q3, q4, ⟨k, m3, by rw [q5]; exact m2, by rw [s6]; exact m5⟩, m3, by rw [q2]; exact m2⟩, hC.sf hS⟩, hS⟩
theorem pp_kis {k s : Nat} {x : CS} {y : MS} (hF : pp_TF x0 y0 t T n) (h : pp_kK n x0 y0 k x y) (hs : s < 46) : f_X15_is (nI (pp_tr s)) y = some (pp_i (decide (x0.2 4 k = s))) := by
  obtain ⟨⟨er, hm⟩, hC⟩ := h
  exact pp_isO hF hC hm hs
theorem pp_ktk {k s : Nat} {x : CS} {y : MS} (hF : pp_TF x0 y0 t T n) (h : pp_kK n x0 y0 k x y) (hs : s < 46) : f_X15_takes (nI (pp_tr s)) y = (if x0.2 4 k = s then some (1, g_mi y 120 8 (y 120 8 + 1)) else some (0, y)) := by
  unfold f_X15_takes
  rw [pp_kis hF h hs, pp_b, pp_if1]
  by_cases e : x0.2 4 k = s
  · rw [if_pos e, if_pos (decide_eq_true e)]
  · rw [if_neg e, if_neg (show ¬ decide (x0.2 4 k = s) = true by rw [decide_eq_false e]; decide)]
theorem pp_kex {k s : Nat} {x : CS} {y : MS} (hF : pp_TF x0 y0 t T n) (h : pp_kK n x0 y0 k x y) (hs : s < 44) : ∃ x1 y1, f_X2_expect s x = some x1 ∧ f_X15_take (nI (pp_tr s)) y = some y1 ∧ pp_SF x x1 y y1 ∧ ((x0.2 4 k = s ∧ k < n ∧ pp_kK n x0 y0 (k + 1) x1 y1 ∧ x1.1 162 8 = x.1 162 8) ∨ pp_Q n x0 y0 x1 y1) := by
  obtain ⟨-, -, -, r3, -⟩ := pp_Kk h
  unfold f_X2_expect f_X15_take
  rw [pp_kis hF h (by omega), pp_b, r3]
  by_cases e : x0.2 4 k = s
  · obtain ⟨s1, s2, s3, s4, s5⟩ := pp_kst hF h (by omega) (by omega)
    rw [if_pos e, s1, decide_eq_true e, if_neg (by decide)]
    exact ⟨_, _, rfl, rfl, s3, Or.inl ⟨e, s5, s2, s4⟩⟩
  · obtain ⟨s1, s2, s3, s4⟩ := pp_krf h
    rw [if_neg e, s1, decide_eq_false e, if_pos (by decide), s2]
    exact ⟨_, _, rfl, rfl, s4, Or.inr s3⟩
theorem pp_kexQ {s : Nat} {x : CS} {y : MS} {a : Int32} (h : pp_Q n x0 y0 x y) (hs : s ≠ 45) : f_X2_expect s x = some x ∧ f_X15_take a y = some y := by
  obtain ⟨q1, q2, q3, -⟩ := pp_Qr h
  exact ⟨pp_expW q2 q1 hs, pp_takeW q3⟩
theorem pp_kbl {k e : Nat} {x : CS} {y : MS} (h : pp_kK n x0 y0 k x y) (he : 2 ≤ e ∧ e ≤ 5) : ∃ x1 y1, f_X2_blame (nI e) x = some x1 ∧ f_X15_mark (nI e) y = some y1 ∧ pp_SF x x1 y y1 ∧ pp_kK n x0 y0 k x1 y1 ∧ x1.1 162 8 ≠ 0 := by
  obtain ⟨⟨er, m1, m2, m3, m4, m5, m6, m7, m8, m9, m10, m11, m12, m13⟩, hC⟩ := h
  by_cases h0 : er = 0
  · subst h0
    have e1 : f_X2_blame (nI e) x = some (g_wi (g_wi x 162 8 (nI e)) 162 9 (x.1 162 6)) := by
      unfold f_X2_blame
      rw [if_pos (by rw [m10]; rfl)]
      simp [g_wi, upd]
    have e2 : f_X15_mark (nI e) y = some (g_mi (g_mi y 120 10 (nI e)) 120 11 (y 120 8)) := by
      unfold f_X15_mark
      rw [m7, if_pos rfl, if_pos (by rw [m11]; rfl)]
      simp [g_mi, upd]
    have xi : ∀ i, i ≠ 162 → (g_wi (g_wi x 162 8 (nI e)) 162 9 (x.1 162 6)).1 i = x.1 i := fun i hi => by rw [pp_c1, pp_c4 hi, pp_c1, pp_c4 hi]
    have xj : ∀ j, j ≠ 8 → j ≠ 9 → (g_wi (g_wi x 162 8 (nI e)) 162 9 (x.1 162 6)).1 162 j = x.1 162 j := fun j h1 h2 => by simp [g_wi, upd, h1, h2]
    have x8 : (g_wi (g_wi x 162 8 (nI e)) 162 9 (x.1 162 6)).1 162 8 = nI e := by simp [g_wi, upd]
    have x9 : (g_wi (g_wi x 162 8 (nI e)) 162 9 (x.1 162 6)).1 162 9 = x.1 162 6 := by simp [g_wi, upd]
    have yi : ∀ i, i ≠ 120 → (g_mi (g_mi y 120 10 (nI e)) 120 11 (y 120 8)) i = y i := fun i hi => by rw [pp_g1, pp_g4 hi, pp_g1, pp_g4 hi]
    have yj : ∀ j, j ≠ 10 → j ≠ 11 → (g_mi (g_mi y 120 10 (nI e)) 120 11 (y 120 8)) 120 j = y 120 j := fun j h1 h2 => by simp [g_mi, upd, h1, h2]
    have y10 : (g_mi (g_mi y 120 10 (nI e)) 120 11 (y 120 8)) 120 10 = nI e := by simp [g_mi, upd]
    have y11 : (g_mi (g_mi y 120 10 (nI e)) 120 11 (y 120 8)) 120 11 = y 120 8 := by simp [g_mi, upd]
    have hS : pp_SF x (g_wi (g_wi x 162 8 (nI e)) 162 9 (x.1 162 6)) y (g_mi (g_mi y 120 10 (nI e)) 120 11 (y 120 8)) := ⟨xi, fun _ _ => rfl, fun _ _ => rfl, yi, fun j hj => yj j (by omega) (by omega)⟩
    have hne : ¬ nI e = (0 : Int32) := nI_ne0 (by omega) (by omega)
    exact ⟨_, _, e1, e2, hS, ⟨⟨e, by rw [xj 4 (by omega) (by omega)]; exact m1, by rw [yj 8 (by omega) (by omega)]; exact m2, m3, m4, by rw [xj 6 (by omega) (by omega)]; exact m5, by rw [xj 7 (by omega) (by omega)]; exact m6, by rw [yj 9 (by omega) (by omega)]; exact m7, by rw [yj 12 (by omega) (by omega)]; exact m8, Or.inr he, x8, y10, fun q => by omega, fun _ => ⟨k, m3, y11.trans m2, x9.trans m5⟩⟩, hC.sf hS⟩, fun q => hne (x8.symm.trans q)⟩
  · have hne : ¬ nI er = (0 : Int32) := nI_ne0 (by omega) (by omega)
    have e1 : f_X2_blame (nI e) x = some x := by
      unfold f_X2_blame
      rw [if_neg (by rw [m10]; exact hne)]
    have e2 : f_X15_mark (nI e) y = some y := by
      unfold f_X15_mark
      rw [m7, if_pos rfl, if_neg (by rw [m11]; exact hne)]
    exact ⟨x, y, e1, e2, pp_SF.rf x y, ⟨⟨er, m1, m2, m3, m4, m5, m6, m7, m8, m9, m10, m11, m12, m13⟩, hC⟩, by rw [m10]; exact hne⟩
/-- with an error before, a further one changes nothing -/
theorem pp_kb0 {k : Nat} {x : CS} {y : MS} {e : Int32} (h : pp_kK n x0 y0 k x y) (h0 : x.1 162 8 ≠ 0) : f_X2_blame e x = some x ∧ f_X15_mark e y = some y := by
  obtain ⟨-, -, m7, -⟩ := pp_Kk h
  rcases pp_Ke h with ⟨q, -⟩ | ⟨er, e1, e2, e3, e4⟩
  · exact absurd q h0
  · refine ⟨?_, ?_⟩
    · unfold f_X2_blame
      rw [if_neg h0]
    · unfold f_X15_mark
      rw [m7, if_pos rfl, if_neg (by rw [e4]; exact nI_ne0 e1 (by omega))]
/-- a number -/
theorem pp_num {k : Nat} {x : CS} {y : MS} {lo hc hm : Int32} (hF : pp_TF x0 y0 t T n) (h : pp_kK n x0 y0 k x y) (hh : x.1 162 8 = 0 → hc = hm) : ∃ x1 y1 qc qm, f_X2_readNumber lo hc x = some (qc, x1) ∧ f_X15_numberIn lo hm y = some (qm, y1) ∧ pp_SF x x1 y y1 ∧ ((k < n ∧ pp_kK n x0 y0 (k + 1) x1 y1 ∧ (x1.1 162 8 = 0 → x.1 162 8 = 0 ∧ qc = qm ∧ ¬ qc < lo ∧ ¬ hc < qc)) ∨ (pp_Q n x0 y0 x1 y1 ∧ qc = 0)) := by
  obtain ⟨k1, k2, k3, k4, k5, k6, k7⟩ := pp_Kk h
  have hn := hF.1
  have hok := (pp_ok (k := k) (n := 402) (by omega)).mpr (by omega)
  have i42 : f_X15_is 31 y = some (pp_i (decide (x0.2 4 k = 42))) := pp_kis (s := 42) hF h (by omega)
  unfold f_X2_readNumber f_X15_numberIn
  rw [k4, k2, if_pos hok, nI_clamp (by omega), i42, pp_b, pp_if1]
  by_cases e : x0.2 4 k = 42
  · rw [if_pos e, if_pos (decide_eq_true e)]
    -- the step behind the number
    have hst : ∀ (x2 : CS) (y2 : MS) (q : Int32), pp_kK n x0 y0 k x2 y2 → ∃ x1 y1, f_X2_readNumber_36 q x2 = some (q, x1) ∧ f_X15_numberIn_33 q y2 = some (q, y1) ∧ pp_SF x2 x1 y2 y1 ∧ k < n ∧ pp_kK n x0 y0 (k + 1) x1 y1 ∧ x1.1 162 8 = x2.1 162 8 := by
      intro x2 y2 q h2
      obtain ⟨s1, s2, s3, s4, s5⟩ := pp_kst hF h2 (by omega) (by omega)
      have i2 : f_X15_is 31 y2 = some (pp_i (decide (x0.2 4 k = 42))) := pp_kis (s := 42) hF h2 (by omega)
      refine ⟨_, _, ?_, ?_, s3, s5, s2, s4⟩
      · unfold f_X2_readNumber_36
        rw [s1]; rfl
      · unfold f_X15_numberIn_33 f_X15_take
        rw [i2, decide_eq_true e]; rfl
    have hkn : k < n := (pp_kst hF h (by omega) (by omega)).2.2.2.2
    have hval : y 123 k = x.1 162 7 := by
      obtain ⟨p, z, a1, a2, a3, a4, a5, a6, a7, a8, -⟩ := hF.2.1 k hkn
      rw [k7, k5, a8 e]
    have hC : ∀ q, q = x.1 162 7 → (if q < lo then f_X2_readNumber_31 q x else if q ≤ hc then f_X2_readNumber_36 q x else f_X2_readNumber_31 q x) = (if (q < lo ∨ hc < q) then f_X2_readNumber_31 q x else f_X2_readNumber_36 q x) := by
      intro q _
      by_cases h1 : q < lo
      · rw [if_pos h1, if_pos (Or.inl h1)]
      · rw [if_neg h1]
        by_cases h2 : q ≤ hc
        · rw [if_pos h2, if_neg (fun u => u.elim h1 (fun u => absurd h2 (Int32.not_le.mpr u)))]
        · rw [if_neg h2, if_pos (Or.inr (Int32.not_le.mp h2))]
    have hM : ∀ q, f_X15_isIn q lo hm = some (pp_i (decide (¬ (q < lo ∨ hm < q)))) := by
      intro q
      unfold f_X15_isIn
      by_cases h1 : q < lo
      · rw [if_pos h1, decide_eq_false (fun u => u (Or.inl h1))]; rfl
      · rw [if_neg h1]
        by_cases h2 : hm < q
        · rw [if_pos h2, decide_eq_false (fun u => u (Or.inr h2))]; rfl
        · rw [if_neg h2, decide_eq_true (show ¬ (q < lo ∨ hm < q) from fun u => u.elim h1 h2)]; rfl
    rw [hC _ rfl, hval, hM, pp_b, pp_if1]
    generalize hq : x.1 162 7 = q
    by_cases h0 : x.1 162 8 = 0
    · have hhe := hh h0
      subst hhe
      by_cases h1 : q < lo ∨ hc < q
      · obtain ⟨x2, y2, b1, b2, b3, b4, b5⟩ := pp_kbl (e := 5) h (by omega)
        obtain ⟨x1, y1, c1, c2, c3, c4, c5, c6⟩ := hst x2 y2 q b4
        rw [if_pos h1, if_neg (show ¬ decide (¬ (q < lo ∨ hc < q)) = true by rw [decide_eq_false (fun u => u h1)]; decide)]
        unfold f_X2_readNumber_31
        rw [show (5 : Int32) = nI 5 from rfl, b1, pp_b, b2, pp_b]
        exact ⟨x1, y1, q, q, c1, c2, b3.tr c3, Or.inl ⟨c4, c5, fun u => absurd (c6.symm.trans u) b5⟩⟩
      · obtain ⟨x1, y1, c1, c2, c3, c4, c5, c6⟩ := hst x y q h
        rw [if_neg h1, if_pos (show decide (¬ (q < lo ∨ hc < q)) = true from decide_eq_true h1)]
        exact ⟨x1, y1, q, q, c1, c2, c3, Or.inl ⟨c4, c5, fun u => ⟨c6.symm.trans u, rfl, fun u => h1 (Or.inl u), fun u => h1 (Or.inr u)⟩⟩⟩
    · obtain ⟨x1, y1, c1, c2, c3, c4, c5, c6⟩ := hst x y q h
      refine ⟨x1, y1, q, q, ?_, ?_, c3, Or.inl ⟨c4, c5, fun u => absurd (c6.symm.trans u) h0⟩⟩
      · split
        · unfold f_X2_readNumber_31
          rw [(pp_kb0 h h0).1]; exact c1
        · exact c1
      · split
        · exact c2
        · rw [(pp_kb0 h h0).2]; exact c2
  · obtain ⟨s1, s2, s3, s4⟩ := pp_krf h
    rw [if_neg e, if_neg (show ¬ decide (x0.2 4 k = 42) = true by rw [decide_eq_false e]; decide), s1]
    unfold f_X15_numberIn_33 f_X15_take
    rw [i42, decide_eq_false e, pp_b, pp_b, if_pos (show pp_i false = 0 from rfl), s2]
    exact ⟨_, _, _, _, rfl, rfl, s4, Or.inr ⟨s3, rfl⟩⟩
theorem pp_numQ {x : CS} {y : MS} {lo hc hm : Int32} (hF : pp_TF x0 y0 t T n) (h : pp_Q n x0 y0 x y) : f_X2_readNumber lo hc x = some (0, x) ∧ ∃ q, f_X15_numberIn lo hm y = some (q, y) := by
  obtain ⟨q1, q2, q3, k, q4, q5⟩ := pp_Qr h
  have hn := hF.1
  refine ⟨?_, y 123 k, ?_⟩
  · unfold f_X2_readNumber
    rw [q1, if_neg (by decide), pp_refW q2]; rfl
  · unfold f_X15_numberIn
    rw [q5, if_pos ((pp_ok (by omega)).mpr (by omega)), pp_isW q3, pp_b, if_pos rfl, nI_clamp (by omega)]
    unfold f_X15_numberIn_33
    rw [pp_takeW q3]; rfl
end LN
