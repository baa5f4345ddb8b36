/-! by hand: what is heard, what is pruned -/
def pp_VD (A : PV) (x : CS) (v k : Nat) : Prop := (v = 41 ∨ v = 91) ∧ x.1 v 2 = nI (pv_W A) ∧ (∀ j, j < pv_W A → x.1 (pp_wd v j) 1 = nI (pv_pr A j) ∧ (j < k → x.1 (pp_wd v j) 2 = nI (pv_dh A j)) ∧ pp_RC x (pp_wd v j + 1) (pv_pt A j) (pv_ln A j)) ∧ pp_RC x 14 (pv_hp A) (pv_hl A)
theorem pp_VD.to {A : PV} {x : CS} {v : Nat} (h : pp_VD A x v (pv_W A)) : pp_VC A x v := ⟨h.1, h.2.1, fun j hj => ⟨(h.2.2.1 j hj).1, (h.2.2.1 j hj).2.1 hj, (h.2.2.1 j hj).2.2⟩, h.2.2.2⟩
theorem pp_measL {A : PV} {b v : Nat} (hb : b = 20 ∨ b = 70) (hA : pv_ok A) : ∀ d fuel k x, d = pv_W A - k → d < fuel → k ≤ pv_W A → pp_VD A x v k → x.1 b 6 = nI (pv_g A) → ∃ x', f_X1_measureAll_2 fuel b v (nI k) x = some x' ∧ pp_VC A x' v ∧ pp_Fc v x x' ∧ x'.1 v = x.1 v := by
  have hW := hA.1
  intro d
  induction d with
  | zero =>
    intro fuel k x hd hfu hk hV hg
    obtain ⟨fu, rfl⟩ : ∃ fu, fuel = fu + 1 := ⟨fuel - 1, by omega⟩
    have e : k = pv_W A := by omega
    refine ⟨x, ?_, (e ▸ hV).to, pp_Fc.rf v x, rfl⟩
    rw [f_X1_measureAll_2, hV.2.1, if_pos (nI_le (by omega) (by omega))]
  | succ d ih =>
    intro fuel k x hd hfu hk hV hg
    obtain ⟨fu, rfl⟩ : ∃ fu, fuel = fu + 1 := ⟨fuel - 1, by omega⟩
    have hv := hV.1
    have hkW : k < pv_W A := by omega
    obtain ⟨x1, hx1, hm⟩ := pp_meas hb hA hv hkW (hV.2.2.1 k hkW).2.2 hV.2.2.2 hg
    have e1 : ∀ i, (i < 9 ∨ i = 14 ∨ i = 15 ∨ 20 ≤ i) → i ≠ pp_wd v k → (g_wi x1 (pp_wd v k) 2 (nI (pv_dh A k))).1 i = x.1 i := fun i h1 h2 => by rw [pp_c1, pp_c4 h2]; exact hx1.1 i h1
    have e2 : (g_wi x1 (pp_wd v k) 2 (nI (pv_dh A k))).1 (pp_wd v k) 1 = x.1 (pp_wd v k) 1 := by rw [pp_c1, pp_c3, pp_u2 (by omega), hx1.1 _ (by unfold pp_wd; omega)]
    have hV1 : pp_VD A (g_wi x1 (pp_wd v k) 2 (nI (pv_dh A k))) v (k + 1) := by
      refine ⟨hv, ?_, fun j hj => ⟨?_, fun hjk => ?_, ?_⟩, ?_⟩
      · rw [e1 v (by omega) (by unfold pp_wd; omega)]; exact hV.2.1
      · by_cases e : j = k
        · rw [e, e2]; exact (hV.2.2.1 k hkW).1
        · rw [e1 _ (by unfold pp_wd; omega) (by unfold pp_wd; omega)]; exact (hV.2.2.1 j hj).1
      · by_cases e : j = k
        · rw [e, pp_c1, pp_c3, pp_u1]
        · rw [e1 _ (by unfold pp_wd; omega) (by unfold pp_wd; omega)]; exact (hV.2.2.1 j hj).2.1 (by omega)
      · exact (hV.2.2.1 j hj).2.2.e (e1 _ (by unfold pp_wd; omega) (by unfold pp_wd; omega)) (e1 _ (by unfold pp_wd; omega) (by unfold pp_wd; omega))
      · exact hV.2.2.2.e (e1 _ (by omega) (by unfold pp_wd; omega)) (e1 _ (by omega) (by unfold pp_wd; omega))
    obtain ⟨x', i1, i2, i3, i4⟩ := ih fu (k + 1) _ (by omega) (by omega) (by omega) hV1 (by rw [e1 b (by omega) (by unfold pp_wd; omega)]; exact hg)
    refine ⟨x', ?_, i2, ?_, ?_⟩
    · rw [f_X1_measureAll_2, hV.2.1, if_neg (nI_ge hkW (by omega)), pp_word (by omega), pp_b, if_pos (pp_k10 hv (by omega)), hm, pp_b, nI_1]
      exact i1
    · refine pp_Fc.tr ?_ i3
      rw [pp_c1]
      exact ((pp_Fc.rf v x).sc hx1).wa (by unfold pp_wd; omega) (by unfold pp_wd; omega)
    · rw [i4, e1 v (by omega) (by unfold pp_wd; omega)]
theorem pp_measA {A : PV} {b v : Nat} {x : CS} (hb : b = 20 ∨ b = 70) (hA : pv_ok A) (hV : pp_VD A x v 0) (hg : x.1 b 6 = nI (pv_g A)) : ∃ x', f_X1_measureAll b v x = some x' ∧ pp_VC A x' v ∧ pp_Fc v x x' ∧ x'.1 v = x.1 v := by
  have hW := hA.1
  exact pp_measL hb hA (pv_W A - 0) g_fuel 0 x rfl (by unfold g_fuel; omega) (by omega) hV hg
def pv_hr (A : PV) (n : Nat) (q : Nat → Nat) : PV := (pv_W A, pv_pr A, pv_ln A, pv_pt A, n, q, pv_g A)
theorem pv_ok.hr {A : PV} {n : Nat} {q : Nat → Nat} (h : pv_ok A) : pv_ok (pv_hr A n q) := h
/-- what was heard is another row -/
theorem pp_VD.hr {A : PV} {x x1 : CS} {v n : Nat} {q : Nat → Nat} (h : pp_VC A x v) (h1 : ∀ i, 20 ≤ i → x1.1 i = x.1 i) (hq : pp_RC x1 14 q n) : pp_VD (pv_hr A n q) x1 v 0 := by
  have hv := h.1
  refine ⟨hv, ?_, fun j hj => ⟨?_, fun h => absurd h (Nat.not_lt_zero _), ?_⟩, hq⟩
  · rw [h1 v (by omega)]; exact h.2.1
  · rw [h1 _ (by unfold pp_wd; omega)]; exact (h.2.2.1 j hj).1
  · exact (h.2.2.1 j hj).2.2.e (h1 _ (by unfold pp_wd; omega)) (h1 _ (by unfold pp_wd; omega))
/-! a word heard; words pruned and kept by hand; lessons that go by -/
theorem pp_rlI {n : Nat} (h0 : 0 < n) (h : n ≤ 20) : f_X12_requireLessons (nI n) = some () := by
  unfold f_X12_requireLessons
  rw [if_neg (show ¬ nI n < (1 : Int32) from nI_nlt (b := 1) (by omega) (by omega)), if_pos (show nI n ≤ (20 : Int32) from nI_le (b := 20) h (by omega))]
/-! what would be: the spare vocabulary, the state ahead -/
def pp_VK (A : PV) (x : CS) (v k : Nat) : Prop := x.1 v 2 = nI (pv_W A) ∧ ∀ j, j < k → x.1 (pp_wd v j) 1 = nI (pv_pr A j) ∧ x.1 (pp_wd v j) 2 = nI (pv_dh A j) ∧ pp_RC x (pp_wd v j + 1) (pv_pt A j) (pv_ln A j)
theorem pp_VC.fr {A : PV} {x x1 : CS} {v u : Nat} (hA : pv_ok A) (h : pp_VC A x v) (hu : u = 41 ∨ u = 91) (hne : u ≠ v) (hF : pp_Fc u x x1) : pp_VC A x1 v := by
  have hv := h.1
  have hW := hA.1
  refine ⟨hv, ?_, fun j hj => ⟨?_, ?_, ?_⟩, h.2.2.2.e (hF.1 _ (by omega) (by omega)) (hF.1 _ (by omega) (by omega))⟩
  · rw [hF.1 v (by omega) (by omega)]; exact h.2.1
  · rw [hF.1 (pp_wd v j) (by unfold pp_wd; omega) (by unfold pp_wd; omega)]; exact (h.2.2.1 j hj).1
  · rw [hF.1 (pp_wd v j) (by unfold pp_wd; omega) (by unfold pp_wd; omega)]; exact (h.2.2.1 j hj).2.1
  · exact (h.2.2.1 j hj).2.2.e (hF.1 _ (by unfold pp_wd; omega) (by unfold pp_wd; omega)) (hF.1 _ (by unfold pp_wd; omega) (by unfold pp_wd; omega))
theorem pp_cpyL {A : PV} {v u : Nat} (hA : pv_ok A) (hu : u = 41 ∨ u = 91) (hne : u ≠ v) : ∀ d fuel k x, d = pv_W A - k → d < fuel → k ≤ pv_W A → pp_VC A x v → pp_VK A x u k → ∃ x', f_X9_copyFrom_26 fuel u v (nI k) x = some x' ∧ pp_VC A x' u ∧ pp_Fc u x x' ∧ x'.1 u = x.1 u := by
  have hW := hA.1
  intro d
  induction d with
  | zero =>
    intro fuel k x hd hfu hk hC hK
    obtain ⟨fu, rfl⟩ : ∃ fu, fuel = fu + 1 := ⟨fuel - 1, by omega⟩
    have e : k = pv_W A := by omega
    subst e
    exact ⟨x, by rw [f_X9_copyFrom_26, hK.1, if_pos (nI_le (by omega) (by omega))], ⟨hu, hK.1, hK.2, hC.2.2.2⟩, pp_Fc.rf u x, rfl⟩
  | succ d ih =>
    intro fuel k x hd hfu hk hC hK
    obtain ⟨fu, rfl⟩ : ∃ fu, fuel = fu + 1 := ⟨fuel - 1, by omega⟩
    have hv := hC.1
    have hkW : k < pv_W A := by omega
    obtain ⟨c1, c2, c3⟩ := hC.2.2.1 k hkW
    have hp := hA.2.1 k
    obtain ⟨f, e1, e2⟩ := pp_copyR (l0 := pp_wd u k + 1) (l1 := pp_wd v k + 1) (by unfold pp_wd; omega) (by unfold pp_wd; omega) c3
    have n1 : ∀ i, i ≠ pp_wd u k + 1 → i ≠ pp_wd u k + 2 → (g_wa (g_wi x (pp_wd u k + 1) 1 (nI (pv_ln A k))) (pp_wd u k + 1 + 1) f).1 i = x.1 i := fun i h1 h2 => by rw [pp_c4 h2, pp_c1, pp_c4 h1]
    have hku := pp_k10 (j := k) hu (by omega)
    have hkv := pp_k10 (j := k) hv (by omega)
    have s1 : (g_wi (g_wa (g_wi x (pp_wd u k + 1) 1 (nI (pv_ln A k))) (pp_wd u k + 1 + 1) f) (pp_wd u k) 1 (nI (pv_pr A k))).1 (pp_wd v k) 2 = nI (pv_dh A k) := by
      rw [pp_c1, pp_c4 (by unfold pp_wd; omega), n1 _ (by unfold pp_wd; omega) (by unfold pp_wd; omega)]; exact c2
    have n2 : ∀ i, i ≠ pp_wd u k → i ≠ pp_wd u k + 1 → i ≠ pp_wd u k + 2 → (g_wi (g_wi (g_wa (g_wi x (pp_wd u k + 1) 1 (nI (pv_ln A k))) (pp_wd u k + 1 + 1) f) (pp_wd u k) 1 (nI (pv_pr A k))) (pp_wd u k) 2 (nI (pv_dh A k))).1 i = x.1 i := fun i h0 h1 h2 => by rw [pp_c1, pp_c4 h0, pp_c1, pp_c4 h0]; exact n1 i h1 h2
    have n3 : ∀ i, i ≠ pp_wd u k → (g_wi (g_wi (g_wa (g_wi x (pp_wd u k + 1) 1 (nI (pv_ln A k))) (pp_wd u k + 1 + 1) f) (pp_wd u k) 1 (nI (pv_pr A k))) (pp_wd u k) 2 (nI (pv_dh A k))).1 i = (g_wa (g_wi x (pp_wd u k + 1) 1 (nI (pv_ln A k))) (pp_wd u k + 1 + 1) f).1 i := fun i h0 => by rw [pp_c1, pp_c4 h0, pp_c1, pp_c4 h0]
    have hF2 : pp_Fc u x (g_wi (g_wi (g_wa (g_wi x (pp_wd u k + 1) 1 (nI (pv_ln A k))) (pp_wd u k + 1 + 1) f) (pp_wd u k) 1 (nI (pv_pr A k))) (pp_wd u k) 2 (nI (pv_dh A k))) := ⟨fun i h1 h2 => n2 i (by unfold pp_wd; omega) (by unfold pp_wd; omega) (by unfold pp_wd; omega), rfl⟩
    have hK2 : pp_VK A (g_wi (g_wi (g_wa (g_wi x (pp_wd u k + 1) 1 (nI (pv_ln A k))) (pp_wd u k + 1 + 1) f) (pp_wd u k) 1 (nI (pv_pr A k))) (pp_wd u k) 2 (nI (pv_dh A k))) u (k + 1) := by
      refine ⟨by rw [n2 u (by unfold pp_wd; omega) (by unfold pp_wd; omega) (by unfold pp_wd; omega)]; exact hK.1, fun j hj => ?_⟩
      by_cases e : j = k
      · subst e
        refine ⟨by rw [pp_c1, pp_c3, pp_u2 (by omega), pp_c1, pp_c3, pp_u1], by rw [pp_c1, pp_c3, pp_u1], e2.e (n3 _ (by omega)) (n3 _ (by omega))⟩
      · obtain ⟨k1, k2, k3⟩ := hK.2 j (by omega)
        refine ⟨by rw [n2 _ (by unfold pp_wd; omega) (by unfold pp_wd; omega) (by unfold pp_wd; omega)]; exact k1, by rw [n2 _ (by unfold pp_wd; omega) (by unfold pp_wd; omega) (by unfold pp_wd; omega)]; exact k2, k3.e (n2 _ (by unfold pp_wd; omega) (by unfold pp_wd; omega) (by unfold pp_wd; omega)) (n2 _ (by unfold pp_wd; omega) (by unfold pp_wd; omega) (by unfold pp_wd; omega))⟩
    obtain ⟨x', i1, i2, i3, i4⟩ := ih fu (k + 1) _ (by omega) (by omega) (by omega) (hC.fr hA hu hne hF2) hK2
    refine ⟨x', ?_, i2, hF2.tr i3, i4.trans (n2 u (by unfold pp_wd; omega) (by unfold pp_wd; omega) (by unfold pp_wd; omega))⟩
    rw [f_X9_copyFrom_26, hK.1, if_neg (nI_ge hkW (by omega)), pp_word (by omega), pp_b, if_pos hku, pp_word (by omega), pp_b, if_pos hkv, e1, pp_b, pp_word (by omega), pp_b, if_pos hku, pp_word (by omega), pp_b, if_pos hkv, n1 (pp_wd v k) (by unfold pp_wd; omega) (by unfold pp_wd; omega), c1, if_pos (pp_01n hp), pp_word (by omega), pp_b, if_pos hku, pp_word (by omega), pp_b, if_pos hkv, s1, nI_1]
    exact i1
theorem pp_cpyC {A : PV} {x : CS} {v u : Nat} (hA : pv_ok A) (hC : pp_VC A x v) (hu : u = 41 ∨ u = 91) (hne : u ≠ v) : ∃ x', f_X9_copyFrom u v x = some x' ∧ pp_VC A x' u ∧ pp_Fc u x x' ∧ x'.1 u 3 = x.1 v 3 ∧ x'.1 u 4 = x.1 v 4 := by
  have hv := hC.1
  have hF : pp_Fc u x (g_wi (g_wi (g_wi x u 2 (x.1 v 2)) u 3 (x.1 v 3)) u 4 (x.1 v 4)) := by
    rw [pp_c1, pp_c1, pp_c1]
    exact (((pp_Fc.rf u x).wa (by omega) (by omega)).wa (by omega) (by omega)).wa (by omega) (by omega)
  obtain ⟨x', i1, i2, i3, i4⟩ := pp_cpyL hA hu hne (pv_W A - 0) g_fuel 0 _ rfl (by have := hA.1; unfold g_fuel; omega) (by omega) (hC.fr hA hu hne hF) ⟨by simp [g_wi, upd, hC.2.1], fun j hj => absurd hj (Nat.not_lt_zero _)⟩
  refine ⟨x', ?_, i2, hF.tr i3, by rw [i4]; simp [g_wi, upd], by rw [i4]; simp [g_wi, upd]⟩
  unfold f_X9_copyFrom
  have e : ∀ (z : CS) k (w : Int32), z.1 v = x.1 v → (g_wi z u k w).1 v = x.1 v := fun z k w h => by rw [pp_c1, pp_c4 (fun q => hne q.symm)]; exact h
  rw [e _ _ _ rfl, e _ _ _ (e _ _ _ rfl)]
  exact i1
/-! the best shift -/
def pv_ds (A : PV) (j : Nat) (d : Int32) : Nat := pp_D (pv_g A) (pv_pt A j) (pv_ln A j) (fun k => pp_hd (pv_hp A k) d) (pv_hl A) / 100
theorem pv_dsB {A : PV} {x : CS} {v j : Nat} {d : Int32} (hA : pv_ok A) (hC : pp_VC A x v) (hj : j < pv_W A) (h0 : pv_hl A ≠ 0) : pv_ds A j d < 4000 := by
  have r1 := (hC.2.2.1 j hj).2.2
  have := pp_gdF (pp_DG (g := pv_g A) (q := fun k => pp_hd (pv_hp A k) d) r1.2.2.1 (fun k => pp_hdB _ _) (hA.2.2.1 j hj) (by omega) r1.2.1 hC.2.2.2.2.1) (by omega)
  unfold pv_ds
  omega
theorem pp_dsC {A : PV} {x : CS} {b v j : Nat} {d : Int32} (hA : pv_ok A) (hC : pp_VC A x v) (hb : b = 20 ∨ b = 70) (h6 : x.2 0 6 = b) (h7 : x.2 0 7 = v) (hg : x.1 b 6 = nI (pv_g A)) (hj : j < pv_W A) (h0 : pv_hl A ≠ 0) : ∃ x', pp_Sc x x' ∧ f_X12_distanceIfShifted (nI j) d x = some (nI (pv_ds A j d), x') := by
  have hW := hA.1
  have hv := hC.1
  obtain ⟨f1, c1, c2⟩ := pp_copyR (l0 := 16) (by omega) (by omega) hC.2.2.2
  obtain ⟨f2, s1, s2⟩ := pp_shiftC (d := d) c2
  have hS : pp_Sc x (g_wa (g_wa (g_wi x 16 1 (nI (pv_hl A))) (16 + 1) f1) (16 + 1) f2) := by
    rw [pp_c1]
    exact (((pp_Sc.rf x).wa (by omega) (by omega) (by omega) (by omega)).wa (by omega) (by omega) (by omega) (by omega)).wa (by omega) (by omega) (by omega) (by omega)
  have hR16 : pp_RC (g_wa (g_wa (g_wi x 16 1 (nI (pv_hl A))) (16 + 1) f1) (16 + 1) f2) 16 (fun k => pp_hd (pv_hp A k) d) (pv_hl A) := ⟨by rw [pp_c4 (by omega)]; exact c2.1, c2.2.1, fun k => pp_hdB _ _, fun k hk => by rw [pp_c3]; exact s2 k hk⟩
  obtain ⟨f3, hf⟩ := pp_distC (g := pv_g A) (by unfold pp_wd; omega) (by unfold pp_wd; omega) (by omega) (by omega) ((hC.2.2.1 j hj).2.2.s hS (by unfold pp_wd; omega)) hR16 (hA.2.2.1 j hj) (by omega) hA.2.2.2
  refine ⟨_, hS.wa (i := 9) (f := f3) (by omega) (by omega) (by omega) (by omega), ?_⟩
  unfold f_X12_distanceIfShifted
  rw [c1, pp_b, s1, pp_b]
  show Option.bind (f_X12_rowOf (nI j) (g_wa (g_wa (g_wi x 16 1 (nI (pv_hl A))) (16 + 1) f1) (16 + 1) f2)) _ = _
  rw [pp_rowO (by rw [hS.2]; exact h7) hv (by omega), pp_b, if_pos (pp_k5 hv (by omega))]
  show (if kd (x.2 0 6) = 7 then Option.bind (f_X10_distance (pp_wd v j + 1) 16 ((g_wa (g_wa (g_wi x 16 1 (nI (pv_hl A))) (16 + 1) f1) (16 + 1) f2).1 (x.2 0 6) 6) _) _ else _) = _
  rw [h6, if_pos (pp_k7 hb), hS.1 b (by omega), hg, hf]
  rfl
