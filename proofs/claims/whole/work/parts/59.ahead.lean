/-! what would be: the spare vocabulary, the state ahead -/
def pp_VK (A : PV) (x : CS) (v k : Nat) : Prop := x.1 v 2 = nI (pv_W A) ∧ ∀ j, j < k → x.1 (pp_wd v j) 1 = nI (pv_pr A j) ∧ x.1 (pp_wd v j) 2 = nI (pv_dh A j) ∧ pp_RC x (pp_wd v j + 1) (pv_pt A j) (pv_ln A j)
theorem pp_VC.fr {A : PV} {x x1 : CS} {v u : Nat} (hA : pv_ok A) (h : pp_VC A x v) (hu : u = 41 ∨ u = 91) (hne : u ≠ v) (hF : pp_Fc u x x1) : pp_VC A x1 v := by
  have hv := h.1
  have hW := hA.1
  refine ⟨hv, ?_, fun j hj => ⟨?_, ?_, ?_⟩, h.2.2.2.e (hF.1 _ (by omega) (by omega)) (hF.1 _ (by omega) (by omega))⟩
  · rw [hF.1 v (by omega) (by omega)]; exact h.2.1
  · rw [hF.1 (pp_wd v j) (by unfold pp_wd; omega) (by unfold pp_wd; omega)]; exact (h.2.2.1 j hj).1
  · rw [hF.1 (pp_wd v j) (by unfold pp_wd; omega) (by unfold pp_wd; omega)]; exact (h.2.2.1 j hj).2.1
  · exact (h.2.2.1 j hj).2.2.e (hF.1 _ (by unfold pp_wd; omega) (by unfold pp_wd; omega)) (hF.1 _ (by unfold pp_wd; omega) (by unfold pp_wd; omega))
theorem pp_cpyL {A : PV} {v u : Nat} (hA : pv_ok A) (hu : u = 41 ∨ u = 91) (hne : u ≠ v) : ∀ d fuel k x, d = pv_W A - k → d < fuel → k ≤ pv_W A → pp_VC A x v → pp_VK A x u k → ∃ x', f_X9_copyFrom_26 fuel u v (nI k) x = some x' ∧ pp_VC A x' u ∧ pp_Fc u x x' ∧ x'.1 u = x.1 u := by
  have hW := hA.1
  intro d
  induction d with
  | zero =>
    intro fuel k x hd hfu hk hC hK
    obtain ⟨fu, rfl⟩ : ∃ fu, fuel = fu + 1 := ⟨fuel - 1, by omega⟩
    have e : k = pv_W A := by omega
    subst e
    exact ⟨x, by rw [f_X9_copyFrom_26, hK.1, if_pos (nI_le (by omega) (by omega))], ⟨hu, hK.1, hK.2, hC.2.2.2⟩, pp_Fc.rf u x, rfl⟩
  | succ d ih =>
    intro fuel k x hd hfu hk hC hK
    obtain ⟨fu, rfl⟩ : ∃ fu, fuel = fu + 1 := ⟨fuel - 1, by omega⟩
    have hv := hC.1
    have hkW : k < pv_W A := by omega
    obtain ⟨c1, c2, c3⟩ := hC.2.2.1 k hkW
    have hp := hA.2.1 k
    obtain ⟨f, e1, e2⟩ := pp_copyR (l0 := pp_wd u k + 1) (l1 := pp_wd v k + 1) (by unfold pp_wd; omega) (by unfold pp_wd; omega) c3
    have n1 : ∀ i, i ≠ pp_wd u k + 1 → i ≠ pp_wd u k + 2 → (g_wa (g_wi x (pp_wd u k + 1) 1 (nI (pv_ln A k))) (pp_wd u k + 1 + 1) f).1 i = x.1 i := fun i h1 h2 => by rw [pp_c4 h2, pp_c1, pp_c4 h1]
    have hku := pp_k10 (j := k) hu (by omega)
    have hkv := pp_k10 (j := k) hv (by omega)
    have s1 : (g_wi (g_wa (g_wi x (pp_wd u k + 1) 1 (nI (pv_ln A k))) (pp_wd u k + 1 + 1) f) (pp_wd u k) 1 (nI (pv_pr A k))).1 (pp_wd v k) 2 = nI (pv_dh A k) := by
      rw [pp_c1, pp_c4 (by unfold pp_wd; omega), n1 _ (by unfold pp_wd; omega) (by unfold pp_wd; omega)]; exact c2
    have n2 : ∀ i, i ≠ pp_wd u k → i ≠ pp_wd u k + 1 → i ≠ pp_wd u k + 2 → (g_wi (g_wi (g_wa (g_wi x (pp_wd u k + 1) 1 (nI (pv_ln A k))) (pp_wd u k + 1 + 1) f) (pp_wd u k) 1 (nI (pv_pr A k))) (pp_wd u k) 2 (nI (pv_dh A k))).1 i = x.1 i := fun i h0 h1 h2 => by rw [pp_c1, pp_c4 h0, pp_c1, pp_c4 h0]; exact n1 i h1 h2
    have n3 : ∀ i, i ≠ pp_wd u k → (g_wi (g_wi (g_wa (g_wi x (pp_wd u k + 1) 1 (nI (pv_ln A k))) (pp_wd u k + 1 + 1) f) (pp_wd u k) 1 (nI (pv_pr A k))) (pp_wd u k) 2 (nI (pv_dh A k))).1 i = (g_wa (g_wi x (pp_wd u k + 1) 1 (nI (pv_ln A k))) (pp_wd u k + 1 + 1) f).1 i := fun i h0 => by rw [pp_c1, pp_c4 h0, pp_c1, pp_c4 h0]
    have hF2 : pp_Fc u x (g_wi (g_wi (g_wa (g_wi x (pp_wd u k + 1) 1 (nI (pv_ln A k))) (pp_wd u k + 1 + 1) f) (pp_wd u k) 1 (nI (pv_pr A k))) (pp_wd u k) 2 (nI (pv_dh A k))) := ⟨fun i h1 h2 => n2 i (by unfold pp_wd; omega) (by unfold pp_wd; omega) (by unfold pp_wd; omega), rfl⟩
    have hK2 : pp_VK A (g_wi (g_wi (g_wa (g_wi x (pp_wd u k + 1) 1 (nI (pv_ln A k))) (pp_wd u k + 1 + 1) f) (pp_wd u k) 1 (nI (pv_pr A k))) (pp_wd u k) 2 (nI (pv_dh A k))) u (k + 1) := by
      refine ⟨by rw [n2 u (by unfold pp_wd; omega) (by unfold pp_wd; omega) (by unfold pp_wd; omega)]; exact hK.1, fun j hj => ?_⟩
      by_cases e : j = k
      · subst e
        refine ⟨by rw [pp_c1, pp_c3, pp_u2 (by omega), pp_c1, pp_c3, pp_u1], by rw [pp_c1, pp_c3, pp_u1], e2.e (n3 _ (by omega)) (n3 _ (by omega))⟩
      · obtain ⟨k1, k2, k3⟩ := hK.2 j (by omega)
        refine ⟨by rw [n2 _ (by unfold pp_wd; omega) (by unfold pp_wd; omega) (by unfold pp_wd; omega)]; exact k1, by rw [n2 _ (by unfold pp_wd; omega) (by unfold pp_wd; omega) (by unfold pp_wd; omega)]; exact k2, k3.e (n2 _ (by unfold pp_wd; omega) (by unfold pp_wd; omega) (by unfold pp_wd; omega)) (n2 _ (by unfold pp_wd; omega) (by unfold pp_wd; omega) (by unfold pp_wd; omega))⟩
    obtain ⟨x', i1, i2, i3, i4⟩ := ih fu (k + 1) _ (by omega) (by omega) (by omega) (hC.fr hA hu hne hF2) hK2
    refine ⟨x', ?_, i2, hF2.tr i3, i4.trans (n2 u (by unfold pp_wd; omega) (by unfold pp_wd; omega) (by unfold pp_wd; omega))⟩
    rw [f_X9_copyFrom_26, hK.1, if_neg (nI_ge hkW (by omega)), pp_word (by omega), pp_b, if_pos hku, pp_word (by omega), pp_b, if_pos hkv, e1, pp_b, pp_word (by omega), pp_b, if_pos hku, pp_word (by omega), pp_b, if_pos hkv, n1 (pp_wd v k) (by unfold pp_wd; omega) (by unfold pp_wd; omega), c1, if_pos (pp_01n hp), pp_word (by omega), pp_b, if_pos hku, pp_word (by omega), pp_b, if_pos hkv, s1, nI_1]
    exact i1
theorem pp_cpyC {A : PV} {x : CS} {v u : Nat} (hA : pv_ok A) (hC : pp_VC A x v) (hu : u = 41 ∨ u = 91) (hne : u ≠ v) : ∃ x', f_X9_copyFrom u v x = some x' ∧ pp_VC A x' u ∧ pp_Fc u x x' ∧ x'.1 u 3 = x.1 v 3 ∧ x'.1 u 4 = x.1 v 4 := by
  have hv := hC.1
  have hF : pp_Fc u x (g_wi (g_wi (g_wi x u 2 (x.1 v 2)) u 3 (x.1 v 3)) u 4 (x.1 v 4)) := by
    rw [pp_c1, pp_c1, pp_c1]
    exact (((pp_Fc.rf u x).wa (by omega) (by omega)).wa (by omega) (by omega)).wa (by omega) (by omega)
  obtain ⟨x', i1, i2, i3, i4⟩ := pp_cpyL hA hu hne (pv_W A - 0) g_fuel 0 _ rfl (by have := hA.1; unfold g_fuel; omega) (by omega) (hC.fr hA hu hne hF) ⟨by simp [g_wi, upd, hC.2.1], fun j hj => absurd hj (Nat.not_lt_zero _)⟩
  refine ⟨x', ?_, i2, hF.tr i3, by rw [i4]; simp [g_wi, upd], by rw [i4]; simp [g_wi, upd]⟩
  unfold f_X9_copyFrom
  have e : ∀ (z : CS) k (w : Int32), z.1 v = x.1 v → (g_wi z u k w).1 v = x.1 v := fun z k w h => by rw [pp_c1, pp_c4 (fun q => hne q.symm)]; exact h
  rw [e _ _ _ rfl, e _ _ _ (e _ _ _ rfl)]
  exact i1
def pp_Y (y : MS) : MS := g_mi (g_mi (g_cp (g_cp (g_cp y 153 157 10) 154 158 240) 155 159 8) 156 3 (y 152 3)) 156 4 (y 152 4)
theorem pp_Ye (y : MS) : f_X13_become 156 152 y = some (pp_Y y) := rfl
theorem pp_Y1 (y : MS) : ∀ i, (i < 156 ∨ 159 < i) → pp_Y y i = y i := by
  intro i hi
  unfold pp_Y g_cp g_mi g_ma
  have h1 : i ≠ 156 := by omega
  have h2 : i ≠ 157 := by omega
  have h3 : i ≠ 158 := by omega
  have h4 : i ≠ 159 := by omega
  simp [h1, h2, h3, h4]
theorem pp_YM {A : PV} {y : MS} (hA : pv_ok A) (h : pp_VM A y 152) : pp_VM A (pp_Y y) 156 ∧ pp_Y y 156 3 = y 152 3 ∧ pp_Y y 156 4 = y 152 4 := by
  have hW := hA.1
  have e157 : ∀ k, k < 10 → pp_Y y 157 k = y 153 k := fun k hk => by simp [pp_Y, g_cp, g_mi, g_ma, va_cpy, hk]
  have e158 : ∀ k, k < 240 → pp_Y y 158 k = y 154 k := fun k hk => by simp [pp_Y, g_cp, g_mi, g_ma, va_cpy, hk]
  have e159 : ∀ k, k < 8 → pp_Y y 159 k = y 155 k := fun k hk => by simp [pp_Y, g_cp, g_mi, g_ma, va_cpy, hk]
  refine ⟨⟨Or.inr rfl, by rw [pp_Y1 y 127 (by omega)]; exact h.2.1, by rw [pp_Y1 y 127 (by omega)]; exact h.2.2.1, fun j hj => ⟨?_, ?_⟩, ?_⟩, by simp [pp_Y, g_mi, upd], by simp [pp_Y, g_mi, upd]⟩
  · show pp_Y y 159 j = _
    rw [e159 j (by omega)]; exact (h.2.2.2.1 j hj).1
  · obtain ⟨r1, r2, r3, r4⟩ := (h.2.2.2.1 j hj).2
    refine ⟨?_, r2, r3, fun k hk => ?_⟩
    · show pp_Y y 157 j = _
      rw [e157 j (by omega)]; exact r1
    · show pp_Y y 158 (24 * j + k) = _
      rw [e158 _ (by omega)]; exact r4 k hk
  · obtain ⟨r1, r2, r3, r4⟩ := h.2.2.2.2
    refine ⟨?_, r2, r3, fun k hk => ?_⟩
    · show pp_Y y 157 8 = _
      rw [e157 8 (by omega)]; exact r1
    · show pp_Y y 158 (24 * 8 + k) = _
      rw [e158 _ (by omega)]; exact r4 k hk
def pp_Fa (y y1 : MS) : Prop := ∀ i, i ≠ 151 → i ≠ 160 → (i < 156 ∨ 159 < i) → y1 i = y i
theorem pp_Fa.tr {x y z : MS} (h : pp_Fa x y) (k : pp_Fa y z) : pp_Fa x z := fun i h1 h2 h3 => (k i h1 h2 h3).trans (h i h1 h2 h3)
theorem pp_Fa.ofF {y z : MS} (h : pp_Fm 156 y z) : pp_Fa y z := fun i h1 h2 h3 => h i h1 h2 (by omega) (by omega) (by omega)
theorem pp_Fa.gm {y z : MS} (h : pp_Fa y z) : pp_Gm y z := ⟨fun i h1 => h i (by omega) (by omega) (by omega), by rw [h 120 (by omega) (by omega) (by omega)], by rw [h 120 (by omega) (by omega) (by omega)]⟩
/-- behind what would be, all is as it was -/
theorem pp_R.ah {A : PV} {x x1 : CS} {y y1 : MS} {b v u R Z nr T : Nat} (hA : pv_ok A) (hT : pp_T x y b v nr T) (hC : pp_VC A x v) (hM : pp_VM A y 152) (h3 : x.1 v 3 = y 152 3) (h4 : x.1 v 4 = y 152 4) (hB : pp_BK (pv_W A) (pv_g A) x y b R Z) (hu : u = 41 ∨ u = 91) (hne : u ≠ v) (hF : pp_Fc u x x1) (hY : pp_Fa y y1) : pp_R x1 y1 := by
  have hv := hC.1
  have hG := hY.gm
  obtain ⟨k1, k2, k3, k4, k5, k6, k7, k8, k9, k10, k11⟩ := hT
  have e1 : ∀ i, (i ≤ 2 ∨ i = b) → x1.1 i = x.1 i := fun i hi => hF.1 i (by have := hB.1; omega) (by have := hB.1; omega)
  refine ⟨A, b, v, R, Z, nr, T, hA, ⟨by rw [hF.2]; exact k1, by rw [hF.2]; exact k2, by rw [hF.2]; exact k3, k4, by rw [e1 b (by omega)]; exact k5, by rw [hG.1 127 (by omega)]; exact k6, k7, by rw [e1 1 (by omega)]; exact k8, by rw [hG.2.1]; exact k9, fun k hk => ?_, by rw [e1 0 (by omega), hG.2.2]; exact k11⟩, hC.fr hA hu hne hF, hM.e ?_ ?_ (hY _ (by omega) (by omega) (by omega)) (hY _ (by omega) (by omega) (by omega)) (hY _ (by omega) (by omega) (by omega)), ?_, ?_, hB.e hu (pp_Gc.ofF hF) hG⟩
  · rw [e1 2 (by omega), hG.1 121 (by omega)]; exact k10 k hk
  · rw [hG.1 127 (by omega)]
  · rw [hG.1 127 (by omega)]
  · rw [hF.1 v (by omega) (by omega), hY 152 (by omega) (by omega) (by omega)]; exact h3
  · rw [hF.1 v (by omega) (by omega), hY 152 (by omega) (by omega) (by omega)]; exact h4
theorem pp_keaL {b u R Z n : Nat} (hu : u = 41 ∨ u = 91) : ∀ d fc fm k A x y, d = n - k → d < fc → d < fm → k ≤ n → n ≤ 20 → pv_ok A → x.2 0 6 = b → x.2 0 9 = u → pp_VC A x u → pp_VM A y 156 → x.1 u 3 = y 156 3 → x.1 u 4 = y 156 4 → pp_BK (pv_W A) (pv_g A) x y b R Z → ∃ r x' y', f_X12_keptAfter_17 fc (nI n) (nI k) x = some (.inr (r, x')) ∧ f_X15_keptAfter_34 fm (nI n) (nI k) y = some (r, y') ∧ pp_Fc u x x' ∧ pp_Fa y y' := by
  intro d
  induction d with
  | zero =>
    intro fc fm k A x y hd hfc hfm hk hn hA h6 h9 hC hM h3 h4 hB
    obtain ⟨f1, rfl⟩ : ∃ fu, fc = fu + 1 := ⟨fc - 1, by omega⟩
    obtain ⟨f2, rfl⟩ : ∃ fu, fm = fu + 1 := ⟨fm - 1, by omega⟩
    have hle := nI_le (show n ≤ k by omega) (show k < 2 ^ 31 by omega)
    refine ⟨nI (pp_kn (pv_pr A) (pv_W A)), x, y, ?_, ?_, pp_Fc.rf u x, fun _ _ _ _ => rfl⟩
    · rw [f_X12_keptAfter_17, if_pos hle, h9, if_pos (pp_k9 hu), pp_keptC hA hC, pp_b]
    · rw [f_X15_keptAfter_34, if_pos hle, pp_keptM hA hM, pp_b]
  | succ d ih =>
    intro fc fm k A x y hd hfc hfm hk hn hA h6 h9 hC hM h3 h4 hB
    obtain ⟨f1, rfl⟩ : ∃ fu, fc = fu + 1 := ⟨fc - 1, by omega⟩
    obtain ⟨f2, rfl⟩ : ∃ fu, fm = fu + 1 := ⟨fm - 1, by omega⟩
    have hlt := nI_ge (show k < n by omega) (show n < 2 ^ 31 by omega)
    obtain ⟨r, A1, x1, y1, q1, q2, q3, q4, q5, q6, q7, q8, q9, q10⟩ := pp_less hA hC hM h3 h4 hB
    have hB1 : pp_BK (pv_W A1) (pv_g A1) x1 y1 b R Z := by
      rw [q4.1, q4.2.2.2.2]
      exact hB.e hC.1 (pp_Gc.ofF q9) (pp_Gm.ofF q10 (Or.inr rfl))
    obtain ⟨r', x', y', i1, i2, i3, i4⟩ := ih f1 f2 (k + 1) A1 x1 y1 (by omega) (by omega) (by omega) (by omega) hn q3 (by rw [q9.2]; exact h6) (by rw [q9.2]; exact h9) q5 q6 q7 q8 hB1
    refine ⟨r', x', y', ?_, ?_, q9.tr i3, (pp_Fa.ofF q10).tr i4⟩
    · rw [f_X12_keptAfter_17, if_neg hlt, h6, if_pos (pp_k7 hB.1), h9, if_pos (pp_k9 hu), q1, pp_b, nI_1]
      exact i1
    · rw [f_X15_keptAfter_34, if_neg hlt, q2, pp_b, nI_1]
      exact i2
theorem pp_untL {b u R Z : Nat} {q : Int32} (hu : u = 41 ∨ u = 91) : ∀ d fc fm k A x y, d = 21 - k → d < fc → d < fm → k ≤ 21 → pv_ok A → x.2 0 6 = b → x.2 0 9 = u → pp_VC A x u → pp_VM A y 156 → x.1 u 3 = y 156 3 → x.1 u 4 = y 156 4 → pp_BK (pv_W A) (pv_g A) x y b R Z → ∃ r x' y', f_X12_lessonsUntilMeant_18 fc q (nI k) x = some (.inr (r, x')) ∧ f_X15_lessonsUntilMeant_32 fm q (nI k) y = some (r, y') ∧ pp_Fc u x x' ∧ pp_Fa y y' := by
  intro d
  induction d with
  | zero =>
    intro fc fm k A x y hd hfc hfm hk hA h6 h9 hC hM h3 h4 hB
    obtain ⟨f1, rfl⟩ : ∃ fu, fc = fu + 1 := ⟨fc - 1, by omega⟩
    obtain ⟨f2, rfl⟩ : ∃ fu, fm = fu + 1 := ⟨fm - 1, by omega⟩
    have hle : (20 : Int32) < nI k := nI_lt (a := 20) (by omega) (by omega)
    exact ⟨-1, x, y, by rw [f_X12_lessonsUntilMeant_18, if_pos hle], by rw [f_X15_lessonsUntilMeant_32, if_pos hle], pp_Fc.rf u x, fun _ _ _ _ => rfl⟩
  | succ d ih =>
    intro fc fm k A x y hd hfc hfm hk hA h6 h9 hC hM h3 h4 hB
    obtain ⟨f1, rfl⟩ : ∃ fu, fc = fu + 1 := ⟨fc - 1, by omega⟩
    obtain ⟨f2, rfl⟩ : ∃ fu, fm = fu + 1 := ⟨fm - 1, by omega⟩
    have hlt : ¬ (20 : Int32) < nI k := nI_nlt (b := k) (a := 20) (by omega) (by omega)
    obtain ⟨f, hf⟩ := pp_meantM (but := none) hA hM (fun b q => by cases q)
    rw [f_X12_lessonsUntilMeant_18, if_neg hlt, h9, if_pos (pp_k9 hu), pp_meantC hA hC, pp_b, f_X15_lessonsUntilMeant_32, if_neg hlt, show (-1 : Int32) = pp_en none from rfl, hf, pp_b]
    show ∃ r x' y', _ ∧ (if pp_en (pv_mt A none) = q then _ else _) = _ ∧ _ ∧ _
    have hFa : pp_Fa y (g_ma y 160 f) := fun i h1 h2 h3 => pp_g4 h2
    by_cases e : pp_en (pv_mt A none) = q
    · rw [if_pos e, if_pos e]
      exact ⟨nI k, x, g_ma y 160 f, rfl, rfl, pp_Fc.rf u x, hFa⟩
    · rw [if_neg e, if_neg e]
      have hM1 : pp_VM A (g_ma y 160 f) 156 := hM.f (by omega) (by omega) (by omega) (by omega)
      have hB0 : pp_BK (pv_W A) (pv_g A) x (g_ma y 160 f) b R Z := hB.e hu (pp_Gc.rf u x) ((pp_Gm.rf y).ma (by omega))
      obtain ⟨r, A1, x1, y1, q1, q2, q3, q4, q5, q6, q7, q8, q9, q10⟩ := pp_less hA hC hM1 (by rw [pp_g4 (by omega)]; exact h3) (by rw [pp_g4 (by omega)]; exact h4) hB0
      have hB1 : pp_BK (pv_W A1) (pv_g A1) x1 y1 b R Z := by
        rw [q4.1, q4.2.2.2.2]
        exact hB0.e hC.1 (pp_Gc.ofF q9) (pp_Gm.ofF q10 (Or.inr rfl))
      obtain ⟨r', x', y', i1, i2, i3, i4⟩ := ih f1 f2 (k + 1) A1 x1 y1 (by omega) (by omega) (by omega) (by omega) q3 (by rw [q9.2]; exact h6) (by rw [q9.2]; exact h9) q5 q6 q7 q8 hB1
      refine ⟨r', x', y', ?_, ?_, q9.tr i3, hFa.tr ((pp_Fa.ofF q10).tr i4)⟩
      · rw [h6, if_pos (pp_k7 hB.1), q1, pp_b, nI_1]
        exact i1
      · show Option.bind (f_X15_lesson 156 (g_ma y 160 f)) _ = _
        rw [q2, pp_b, nI_1]
        exact i2
theorem pp_o32 {p : Int32} {x : CS} {y : MS} {o : Nat → Int32} (h : pp_R x y) : pp_OK (f_L_keptAfter p x o) (f_X15_keptAfter p y) := by
  have h0 := h
  obtain ⟨A, b, v, R, Z, nr, T, hA, hT, hC, hM, h3, h4, hB⟩ := h
  have hW := hA.1
  have hv := hC.1
  have hg : y 127 0 = nI (pv_g A) := hM.2.2.1
  have hg20 := hA.2.2.2
  have hb := hB.1
  have hbg := hB.2.2.2.2.2.1
  rcases pp_in20 (q := p) with ⟨u1, u2⟩ | ⟨n, n0, n20, rfl, u2⟩
  · refine pp_thr (u := 0) (o := o) (r := 0) (k := 1) h0 (by decide) ?_ ?_
    · unfold f_L_keptAfter f_X12_keptAfter
      rw [pp_rlO u1]; rfl
    · unfold f_X15_keptAfter
      rw [u2]; rfl
  · obtain ⟨u, hu⟩ : ∃ u, x.2 0 9 = u := ⟨_, rfl⟩
    have hu2 : (u = 41 ∨ u = 91) ∧ u ≠ v := by have := hT.2.2.1; omega
    obtain ⟨xc, c1, c2, c3, c4, c5⟩ := pp_cpyC hA hC hu2.1 hu2.2
    obtain ⟨m1, m2, m3⟩ := pp_YM hA (hM.th (u := 0))
    have hG1 : pp_Gm (g_mi y 120 0 0) (pp_Y (g_mi y 120 0 0)) := ⟨fun i h1 => pp_Y1 _ i (by omega), by rw [pp_Y1 _ 120 (by omega)], by rw [pp_Y1 _ 120 (by omega)]⟩
    have hBt := hB.e hv (pp_Gc.rf v x) ((pp_Gm.rf y).th (v := 0))
    obtain ⟨r', x', y', i1, i2, i3, i4⟩ := pp_keaL (n := n) (b := b) (R := R) (Z := Z) hu2.1 (n - 0) g_fuel g_fuel 0 A xc (pp_Y (g_mi y 120 0 0)) rfl (by unfold g_fuel; omega) (by unfold g_fuel; omega) (by omega) n20 hA (by rw [c3.2]; exact hT.1) (by rw [c3.2]; exact hu) c2 m1 (by rw [c4, m2, pp_thn (by omega)]; exact h3) (by rw [c5, m3, pp_thn (by omega)]; exact h4) (hBt.e hu2.1 (pp_Gc.ofF c3) hG1)
    have hFa : pp_Fa (g_mi y 120 0 0) y' := pp_Fa.tr (fun i h1 h2 h3 => pp_Y1 _ i h3) i4
    refine pp_fin (o := o) (r := r') (x1 := x') (y1 := y') ?_ ?_ ?_ (pp_R.ah hA (hT.e (pp_Gc.rf v x) ((pp_Gm.rf y).th (v := 0))) hC hM.th (by rw [pp_thn (by omega)]; exact h3) (by rw [pp_thn (by omega)]; exact h4) hBt hu2.1 hu2.2 (c3.tr i3) hFa)
    · unfold f_L_keptAfter f_X12_keptAfter
      rw [pp_rlI n0 n20, pp_b, pp_sb]
      rw [hu, if_pos (pp_k9 hu2.1), hT.2.1, if_pos (pp_k9 hv), c1, pp_b]
      rw [show f_X12_keptAfter_17 g_fuel (nI n) 0 xc = _ from i1]; rfl
    · unfold f_X15_keptAfter
      rw [u2, pp_b, if_neg (by decide), pp_Ye, pp_b]
      exact i2
    · rw [hFa 120 (by omega) (by omega) (by omega)]; exact pp_th0
theorem pp_o33 {p : Int32} {x : CS} {y : MS} {o : Nat → Int32} (h : pp_R x y) : pp_OK (f_L_lessonsUntilMeant p x o) (f_X15_lessonsUntilMeant p y) := by
  have h0 := h
  obtain ⟨A, b, v, R, Z, nr, T, hA, hT, hC, hM, h3, h4, hB⟩ := h
  have hW := hA.1
  have hv := hC.1
  have hg : y 127 0 = nI (pv_g A) := hM.2.2.1
  have hg20 := hA.2.2.2
  have hb := hB.1
  have hbg := hB.2.2.2.2.2.1
  have ho : (p < 0 ∨ nI (pv_W A) ≤ p) → _ := fun q1 => pp_thr (u := 0) (o := o) (r := 0) (k := 1) (fl := f_L_lessonsUntilMeant p x o) (fm := f_X15_lessonsUntilMeant p y) h0 (by decide) (by unfold f_L_lessonsUntilMeant f_X12_lessonsUntilMeant; rw [pp_rqO hT.2.1 hv hC.2.1 q1]; rfl) (by unfold f_X15_lessonsUntilMeant; rw [pp_tolO ((pp_thn (by omega)).trans hM.2.1) hW q1]; rfl)
  rcases pk_ix p (n := pv_W A) (by omega) with q1 | q1 | ⟨j, hj, rfl⟩
  · exact ho (Or.inl q1)
  · exact ho (Or.inr q1)
  · obtain ⟨u, hu⟩ : ∃ u, x.2 0 9 = u := ⟨_, rfl⟩
    have hu2 : (u = 41 ∨ u = 91) ∧ u ≠ v := by have := hT.2.2.1; omega
    obtain ⟨xc, c1, c2, c3, c4, c5⟩ := pp_cpyC hA hC hu2.1 hu2.2
    obtain ⟨m1, m2, m3⟩ := pp_YM hA (hM.th (u := 0))
    have hG1 : pp_Gm (g_mi y 120 0 0) (pp_Y (g_mi y 120 0 0)) := ⟨fun i h1 => pp_Y1 _ i (by omega), by rw [pp_Y1 _ 120 (by omega)], by rw [pp_Y1 _ 120 (by omega)]⟩
    have hBt := hB.e hv (pp_Gc.rf v x) ((pp_Gm.rf y).th (v := 0))
    obtain ⟨r', x', y', i1, i2, i3, i4⟩ := pp_untL (q := nI j) (b := b) (R := R) (Z := Z) hu2.1 (21 - 0) g_fuel g_fuel 0 A xc (pp_Y (g_mi y 120 0 0)) rfl (by unfold g_fuel; omega) (by unfold g_fuel; omega) (by omega) hA (by rw [c3.2]; exact hT.1) (by rw [c3.2]; exact hu) c2 m1 (by rw [c4, m2, pp_thn (by omega)]; exact h3) (by rw [c5, m3, pp_thn (by omega)]; exact h4) (hBt.e hu2.1 (pp_Gc.ofF c3) hG1)
    have hFa : pp_Fa (g_mi y 120 0 0) y' := pp_Fa.tr (fun i h1 h2 h3 => pp_Y1 _ i h3) i4
    refine pp_fin (o := o) (r := r') (x1 := x') (y1 := y') ?_ ?_ ?_ (pp_R.ah hA (hT.e (pp_Gc.rf v x) ((pp_Gm.rf y).th (v := 0))) hC hM.th (by rw [pp_thn (by omega)]; exact h3) (by rw [pp_thn (by omega)]; exact h4) hBt hu2.1 hu2.2 (c3.tr i3) hFa)
    · unfold f_L_lessonsUntilMeant f_X12_lessonsUntilMeant
      rw [pp_rqI hT.2.1 hv hC.2.1 hW hj, pp_b, pp_sb]
      rw [hu, if_pos (pp_k9 hu2.1), hT.2.1, if_pos (pp_k9 hv), c1, pp_b]
      rw [show f_X12_lessonsUntilMeant_18 g_fuel (nI j) 0 xc = _ from i1]; rfl
    · unfold f_X15_lessonsUntilMeant
      rw [pp_tolI ((pp_thn (by omega)).trans hM.2.1) hW hj, pp_b, if_neg (by decide), pp_Ye, pp_b]
      exact i2
    · rw [hFa 120 (by omega) (by omega) (by omega)]; exact pp_th0
