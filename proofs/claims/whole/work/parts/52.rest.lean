/-! lessons, all rules; the state between calls -/
def pp_BK (W g : Nat) (x : CS) (y : MS) (b R Z : Nat) : Prop := (b = 20 ∨ b = 70) ∧ R ≤ 16 ∧ Z ≤ 400 ∧ x.1 b 4 = nI R ∧ y 127 5 = nI R ∧ x.1 b 6 = nI g ∧ pp_BN W x y b 127 Z ∧ ∀ k, k < R → pp_BR W x y b 127 k Z
def pp_Gc (v : Nat) (x x' : CS) : Prop := (∀ i, (i < 9 ∨ 20 ≤ i) → (i < v ∨ v + 29 ≤ i) → x'.1 i = x.1 i) ∧ x'.2 = x.2
def pp_Gm (y y' : MS) : Prop := (∀ i, (i = 121 ∨ (127 ≤ i ∧ i ≤ 138)) → y' i = y i) ∧ y' 120 2 = y 120 2 ∧ y' 120 3 = y 120 3
theorem pp_Gc.rf (v : Nat) (x : CS) : pp_Gc v x x := ⟨fun _ _ _ => rfl, rfl⟩
theorem pp_Gm.rf (y : MS) : pp_Gm y y := ⟨fun _ _ => rfl, rfl, rfl⟩
theorem pp_Gc.tr {v : Nat} {x y z : CS} (h : pp_Gc v x y) (k : pp_Gc v y z) : pp_Gc v x z := ⟨fun i h1 h2 => (k.1 i h1 h2).trans (h.1 i h1 h2), k.2.trans h.2⟩
theorem pp_Gm.tr {x y z : MS} (h : pp_Gm x y) (k : pp_Gm y z) : pp_Gm x z := ⟨fun i h1 => (k.1 i h1).trans (h.1 i h1), k.2.1.trans h.2.1, k.2.2.trans h.2.2⟩
theorem pp_Gc.ofF {v : Nat} {x y : CS} (h : pp_Fc v x y) : pp_Gc v x y := ⟨fun i h1 h2 => h.1 i (by omega) h2, h.2⟩
theorem pp_Gc.ofS {v : Nat} {x y : CS} (h : pp_Sc x y) : pp_Gc v x y := ⟨fun i h1 h2 => h.1 i (by omega), h.2⟩
theorem pp_Gc.wa {v i : Nat} {x y : CS} {f : Nat → Int32} (h : pp_Gc v x y) (h1 : (9 ≤ i ∧ i < 20) ∨ (v ≤ i ∧ i < v + 29)) : pp_Gc v x (g_wa y i f) := ⟨fun j h3 h4 => (pp_c4 (by omega)).trans (h.1 j h3 h4), h.2⟩
theorem pp_Gm.ofF {s : Nat} {y z : MS} (h : pp_Fm s y z) (hs : s = 152 ∨ s = 156) : pp_Gm y z := ⟨fun i h1 => h i (by omega) (by omega) (by omega) (by omega) (by omega), by rw [h 120 (by omega) (by omega) (by omega) (by omega) (by omega)], by rw [h 120 (by omega) (by omega) (by omega) (by omega) (by omega)]⟩
theorem pp_Gm.ma {i : Nat} {x y : MS} {f : Nat → Int32} (h : pp_Gm x y) (hi : 139 ≤ i) : pp_Gm x (g_ma y i f) := ⟨fun j h1 => (pp_g4 (by omega)).trans (h.1 j h1), by rw [pp_g4 (by omega)]; exact h.2.1, by rw [pp_g4 (by omega)]; exact h.2.2⟩
theorem pp_Gm.th {x y : MS} {v : Int32} (h : pp_Gm x y) : pp_Gm x (g_mi y 120 0 v) := ⟨fun j h1 => by rw [pp_g1, pp_g4 (by omega)]; exact h.1 j h1, by rw [pp_g1, pp_g3, pp_u2 (by omega)]; exact h.2.1, by rw [pp_g1, pp_g3, pp_u2 (by omega)]; exact h.2.2⟩
theorem pp_BK.e {W g b R Z v : Nat} {x x1 : CS} {y y1 : MS} (h : pp_BK W g x y b R Z) (hv : v = 41 ∨ v = 91) (h1 : pp_Gc v x x1) (h2 : pp_Gm y y1) : pp_BK W g x1 y1 b R Z := by
  obtain ⟨k1, k2, k3, k4, k5, k6, k7, k8⟩ := h
  have e1 : ∀ i, b ≤ i → i ≤ b + 20 → x1.1 i = x.1 i := fun i h3 h4 => h1.1 i (by omega) (by omega)
  have e2 : ∀ i, 127 ≤ i → i ≤ 127 + 11 → y1 i = y i := fun i h3 h4 => h2.1 i (by omega)
  exact ⟨k1, k2, k3, by rw [e1 b (by omega) (by omega)]; exact k4, by rw [e2 127 (by omega) (by omega)]; exact k5, by rw [e1 b (by omega) (by omega)]; exact k6, k7.e e1 h1.2 e2, fun k hk => (k8 k hk).e (by omega) e1 h1.2 e2⟩
theorem pp_lessL {b v s R Z : Nat} : ∀ d fc fm k c A x y, d = R - k → d < fc → d < fm → k ≤ R → pv_ok A → pp_VC A x v → pp_VM A y s → x.1 v 3 = y s 3 → x.1 v 4 = y s 4 → pp_BK (pv_W A) (pv_g A) x y b R Z → ∃ r A' x' y', f_X1_passOne_5 fc b v (nI c) (nI k) x = some (nI r, x') ∧ f_X15_lesson_4 fm s (nI c) (nI k) y = some (nI r, y') ∧ pv_ok A' ∧ pv_sm A A' ∧ pp_VC A' x' v ∧ pp_VM A' y' s ∧ x'.1 v 3 = y' s 3 ∧ x'.1 v 4 = y' s 4 ∧ pp_Fc v x x' ∧ pp_Fm s y y' := by
  intro d
  induction d with
  | zero =>
    intro fc fm k c A x y hd hfc hfm hk hA hC hM h3 h4 hB
    obtain ⟨f1, rfl⟩ : ∃ fu, fc = fu + 1 := ⟨fc - 1, by omega⟩
    obtain ⟨f2, rfl⟩ : ∃ fu, fm = fu + 1 := ⟨fm - 1, by omega⟩
    have hs := hM.1
    have hv := hC.1
    obtain ⟨k1, k2, k3, k4, k5, k6, k7, k8⟩ := hB
    have e : k = R := by omega
    subst e
    have hle := nI_le (Nat.le_refl k) (show k < 2 ^ 31 by omega)
    refine ⟨c, A, _, _, by rw [f_X1_passOne_5, k4, if_pos hle], by rw [f_X15_lesson_4, k5, if_pos hle], hA, pv_sm.rf A, ?_, ?_, ?_, ?_, ?_, ?_⟩
    · rw [pp_c1, pp_c1, pp_c2]
      refine ⟨hv, ?_, fun j hj => ⟨?_, ?_, ?_⟩, ?_⟩
      · rw [pp_c3, pp_u2 (by omega), pp_c3, pp_u2 (by omega)]; exact hC.2.1
      · rw [pp_c4 (by unfold pp_wd; omega)]; exact (hC.2.2.1 j hj).1
      · rw [pp_c4 (by unfold pp_wd; omega)]; exact (hC.2.2.1 j hj).2.1
      · exact (hC.2.2.1 j hj).2.2.e (pp_c4 (by unfold pp_wd; omega)) (pp_c4 (by unfold pp_wd; omega))
      · exact hC.2.2.2.e (pp_c4 (by omega)) (pp_c4 (by omega))
    · rw [pp_g1, pp_g1, pp_g2]
      exact hM.f (by omega) (by omega) (by omega) (by omega)
    · simp [g_wi, g_mi, upd, h3]
    · simp [g_wi, g_mi, upd, h4]
    · rw [pp_c1, pp_c1]
      exact ((pp_Fc.rf v x).wa (by omega) (by omega)).wa (by omega) (by omega)
    · rw [pp_g1, pp_g1]
      exact ((pp_Fm.rf s y).ma (by omega)).ma (by omega)
  | succ d ih =>
    intro fc fm k c A x y hd hfc hfm hk hA hC hM h3 h4 hB
    obtain ⟨f1, rfl⟩ : ∃ fu, fc = fu + 1 := ⟨fc - 1, by omega⟩
    obtain ⟨f2, rfl⟩ : ∃ fu, fm = fu + 1 := ⟨fm - 1, by omega⟩
    have hs := hM.1
    have hv := hC.1
    have hB0 := hB
    obtain ⟨k1, k2, k3, k4, k5, k6, k7, k8⟩ := hB
    have hkR : k < R := by omega
    obtain ⟨r, A1, x1, y1, xh, q1, q2, q3, q4, q5, q6, q7, q8, q9, q10, q11⟩ := pp_step hA hC hM k1 (show k < 16 by omega) k3 k7 (k8 k hkR) k6 h3
    have hB1 : pp_BK (pv_W A1) (pv_g A1) x1 y1 b R Z := by
      rw [q3.1, q3.2.2.2.2]
      exact hB0.e hv (pp_Gc.ofF q6) (pp_Gm.ofF q8 hs)
    obtain ⟨r', A', x', y', i1, i2, i3, i4, i5, i6, i7, i8, i9, i10⟩ := ih f1 f2 (k + 1) (c + r) A1 x1 y1 (by omega) (by omega) (by omega) (by omega) q2 q4 q5 (by rw [q7, q9]; exact h3) (by rw [q7, q9]; exact h4) hB1
    have hlt := nI_ge hkR (show R < 2 ^ 31 by omega)
    refine ⟨r', A', x', y', ?_, ?_, i3, q3.tr i4, i5, i6, i7, i8, q6.tr i9, q8.tr i10⟩
    · rw [f_X1_passOne_5, k4, if_neg hlt, pp_rule (by omega), pp_b, if_pos (pp_kd8 k1 (by omega)), nI_1]
      rcases q11 with ⟨u1, u2, u3⟩ | ⟨u1, u2⟩
      · rw [u1, pp_b]
        show (if (0 : Int32) = 0 then _ else _) = _
        rw [if_pos rfl]
        rw [u2, Nat.add_zero, u3] at i1
        exact i1
      · rw [u1, pp_b]
        show (if (1 : Int32) = 0 then _ else _) = _
        rw [if_neg (by decide)]
        show Option.bind (f_X1_changes b v (pp_rr b k) xh) _ = _
        rw [u2, pp_b]
        show (if nI r = 0 then _ else _) = _
        rcases Nat.lt_or_ge 0 r with hr | hr
        · have e : r = 1 := by omega
          rw [e] at i1
          rw [if_neg (nI_ne0 hr (by omega)), nI_1]
          exact i1
        · have e : r = 0 := by omega
          rw [e] at i1
          rw [if_pos (by rw [e]; rfl)]
          exact i1
    · rw [f_X15_lesson_4, k5, if_neg hlt, q10, pp_b, nI_1]
      show (if nI r = 0 then _ else _) = _
      rcases Nat.lt_or_ge 0 r with hr | hr
      · have e : r = 1 := by omega
        rw [e] at i2
        rw [if_neg (nI_ne0 hr (by omega)), nI_1]
        exact i2
      · have e : r = 0 := by omega
        rw [e] at i2
        rw [if_pos (by rw [e]; rfl), show nI c + (0 : Int32) = nI (c + 0) from nI_add c 0]
        exact i2
theorem pp_less {b v s R Z : Nat} {A : PV} {x : CS} {y : MS} (hA : pv_ok A) (hC : pp_VC A x v) (hM : pp_VM A y s) (h3 : x.1 v 3 = y s 3) (h4 : x.1 v 4 = y s 4) (hB : pp_BK (pv_W A) (pv_g A) x y b R Z) : ∃ r A' x' y', f_X1_passOne b v x = some (nI r, x') ∧ f_X15_lesson s y = some (nI r, y') ∧ pv_ok A' ∧ pv_sm A A' ∧ pp_VC A' x' v ∧ pp_VM A' y' s ∧ x'.1 v 3 = y' s 3 ∧ x'.1 v 4 = y' s 4 ∧ pp_Fc v x x' ∧ pp_Fm s y y' := by
  have hR := hB.2.1
  exact pp_lessL (R - 0) g_fuel g_fuel 0 0 A x y rfl (by unfold g_fuel; omega) (by unfold g_fuel; omega) (by omega) hA hC hM h3 h4 hB
/-! between calls -/
def pp_T (x : CS) (y : MS) (b v nr T : Nat) : Prop := x.2 0 6 = b ∧ x.2 0 7 = v ∧ ((b = 20 ∧ v = 41 ∧ x.2 0 8 = 70 ∧ x.2 0 9 = 91) ∨ (b = 70 ∧ v = 91 ∧ x.2 0 8 = 20 ∧ x.2 0 9 = 41)) ∧ nr ≤ 99 ∧ x.1 b 7 = nI nr ∧ y 127 1 = nI nr ∧ T ≤ 2000 ∧ x.1 1 1 = nI T ∧ y 120 2 = nI T ∧ (∀ k, k < T → x.1 2 k = y 121 k ∧ ∃ c, c < 256 ∧ y 121 k = nI c) ∧ x.1 0 10 = y 120 3
def pp_R (x : CS) (y : MS) : Prop := ∃ A b v R Z nr T, pv_ok A ∧ pp_T x y b v nr T ∧ pp_VC A x v ∧ pp_VM A y 152 ∧ x.1 v 3 = y 152 3 ∧ x.1 v 4 = y 152 4 ∧ pp_BK (pv_W A) (pv_g A) x y b R Z
theorem pp_T.e {x x1 : CS} {y y1 : MS} {b v nr T : Nat} (h : pp_T x y b v nr T) (h1 : pp_Gc v x x1) (h2 : pp_Gm y y1) : pp_T x1 y1 b v nr T := by
  obtain ⟨k1, k2, k3, k4, k5, k6, k7, k8, k9, k10, k11⟩ := h
  refine ⟨by rw [h1.2]; exact k1, by rw [h1.2]; exact k2, by rw [h1.2]; exact k3, k4, by rw [h1.1 b (by omega) (by omega)]; exact k5, by rw [h2.1 127 (by omega)]; exact k6, k7, by rw [h1.1 1 (by omega) (by omega)]; exact k8, by rw [h2.2.1]; exact k9, fun k hk => ?_, by rw [h1.1 0 (by omega) (by omega), h2.2.2]; exact k11⟩
  rw [h1.1 2 (by omega) (by omega), h2.1 121 (by omega)]
  exact k10 k hk
theorem pp_R.mk {A A' : PV} {x x1 : CS} {y y1 : MS} {b v R Z nr T : Nat} (hT : pp_T x y b v nr T) (hB : pp_BK (pv_W A) (pv_g A) x y b R Z) (h1 : pp_Gc v x x1) (h2 : pp_Gm y y1) (hW : pv_W A' = pv_W A) (hg : pv_g A' = pv_g A) (hA : pv_ok A') (hC : pp_VC A' x1 v) (hM : pp_VM A' y1 152) (h3 : x1.1 v 3 = y1 152 3) (h4 : x1.1 v 4 = y1 152 4) : pp_R x1 y1 :=
  ⟨A', b, v, R, Z, nr, T, hA, hT.e h1 h2, hC, hM, h3, h4, by rw [hW, hg]; exact hB.e hC.1 h1 h2⟩
theorem pp_R.ok {x : CS} {y : MS} (h : pp_R x y) : g_okR x := by
  obtain ⟨A, b, v, R, Z, nr, T, -, hT, -⟩ := h
  obtain ⟨k1, k2, k3, -⟩ := hT
  unfold g_okR
  omega
def pp_OK (fl : Option (Int32 × CS × (Nat → Int32))) (fm : Option (Int32 × MS)) : Prop := ∃ k x' o' r y', fl = some (k, x', o') ∧ fm = some (r, y') ∧ y' 120 0 = k ∧ (k = 0 → o' 0 = r) ∧ pp_R x' y'
