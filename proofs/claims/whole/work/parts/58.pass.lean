/-! a word heard; words pruned and kept by hand; lessons that go by -/
theorem pp_hwM {A : PV} {y : MS} {j n : Nat} {p : Nat → Nat} {d : Int32} (h : pp_RM y 152 j p n) (hj : j < 8) (h8 : y 153 8 = nI n) : ∀ dd fuel k f, dd = n - k → dd < fuel → k ≤ n → (∀ i, i < 192 → f i = y 154 i) → (∀ i, i < k → f (192 + i) = nI (pp_hd (p i) d)) → ∃ f', (∀ i, i < 192 → f' i = y 154 i) ∧ (∀ i, i < n → f' (192 + i) = nI (pp_hd (p i) d)) ∧ f_X15_hearWord_57 fuel (nI j) d (nI k) (g_ma y 154 f) = some (nI n, g_ma y 154 f') := by
  have hn := h.2.1
  have hl : y 153 j = nI n := h.1
  intro dd
  induction dd with
  | zero =>
    intro fuel k f hd hfu hk h1 h2
    obtain ⟨fu, rfl⟩ : ∃ fu, fuel = fu + 1 := ⟨fuel - 1, by omega⟩
    have e : k = n := by omega
    refine ⟨f, h1, fun i hi => h2 i (by omega), ?_⟩
    rw [f_X15_hearWord_57, if_pos ((pp_ok (by omega)).mpr (by omega)), nI_clamp (by omega), pp_g4 (by omega), hl, if_pos (nI_le (by omega) (by omega)), if_pos (by decide)]
    show some (y 153 8, _) = _
    rw [h8]
  | succ dd ih =>
    intro fuel k f hd hfu hk h1 h2
    obtain ⟨fu, rfl⟩ : ∃ fu, fuel = fu + 1 := ⟨fuel - 1, by omega⟩
    have b1 := h.2.2.1 k
    have hfk : y 154 (24 * j + k) = nI (p k) := h.2.2.2 k (by omega)
    obtain ⟨f', i1, i2, i3⟩ := ih fu (k + 1) (upd f (192 + k) (nI (pp_hd (p k) d))) (by omega) (by omega) (by omega) (fun i hi => by rw [pp_u2 (by omega)]; exact h1 i hi) (fun i hi => by
      rcases Nat.lt_or_ge i k with h4 | h4
      · rw [pp_u2 (by omega)]; exact h2 i h4
      · have e2 : i = k := by omega
        rw [e2, pp_u1])
    refine ⟨f', i1, i2, ?_⟩
    rw [f_X15_hearWord_57, if_pos ((pp_ok (by omega)).mpr (by omega)), nI_clamp (by omega), pp_g4 (by omega), hl, if_neg (nI_ge (by omega) (by omega)), show (24 : Int32) * nI j + nI k = nI (24 * j + k) by rw [pp_lit 24, pk_mul, nI_add], if_pos ((pp_ok (by omega)).mpr (by omega)), nI_clamp (by omega), pp_g3, h1 _ (by omega), hfk, pp_held b1, pp_b, show (192 : Int32) + nI k = nI (192 + k) from nI_add 192 k, if_pos ((pp_ok (by omega)).mpr (by omega)), nI_clamp (by omega), nI_1, pp_g1, pp_g2, pp_g3]
    exact i3
theorem pp_in39 {q : Int32} : ((q < -39 ∨ ¬ q ≤ 39) ∧ f_X15_isIn q (-39) 39 = some 0) ∨ (¬ q < -39 ∧ q ≤ 39 ∧ f_X15_isIn q (-39) 39 = some 1) := by
  unfold f_X15_isIn
  by_cases h : q < -39
  · exact Or.inl ⟨Or.inl h, by rw [if_pos h]⟩
  · by_cases h2 : q ≤ 39
    · exact Or.inr ⟨h, h2, by rw [if_neg h, if_neg (fun h3 => Int32.not_le.mpr h3 h2)]⟩
    · exact Or.inl ⟨Or.inr h2, by rw [if_neg h, if_pos (Int32.not_le.mp h2)]⟩
theorem pp_o27 {p q : Int32} {x : CS} {y : MS} {o : Nat → Int32} (h : pp_R x y) : pp_OK (f_L_hearWord p q x o) (f_X15_hearWord p q y) := by
  have h0 := h
  obtain ⟨A, b, v, R, Z, nr, T, hA, hT, hC, hM, h3, h4, hB⟩ := h
  have hW := hA.1
  have hv := hC.1
  have hg : y 127 0 = nI (pv_g A) := hM.2.2.1
  have hg20 := hA.2.2.2
  have hb := hB.1
  have hbg := hB.2.2.2.2.2.1
  have ho : (p < 0 ∨ nI (pv_W A) ≤ p) → _ := fun q1 => pp_thr (u := 0) (o := o) (r := 0) (k := 1) (fl := f_L_hearWord p q x o) (fm := f_X15_hearWord p q y) h0 (by decide) (by unfold f_L_hearWord f_X12_hearWord; rw [pp_rqO hT.2.1 hv hC.2.1 q1]; rfl) (by unfold f_X15_hearWord; rw [pp_tolO ((pp_thn (by omega)).trans hM.2.1) hW q1]; rfl)
  rcases pk_ix p (n := pv_W A) (by omega) with q1 | q1 | ⟨j, hj, rfl⟩
  · exact ho (Or.inl q1)
  · exact ho (Or.inr q1)
  · obtain ⟨a1, a2⟩ := hM.2.2.2.1 j hj
    have a3 := (hC.2.2.1 j hj).2.2
    have hl := a3.2.1
    have hrc := hC.2.2.2
    have hrm := hM.2.2.2.2
    rcases pp_in39 (q := q) with ⟨u1, u2⟩ | ⟨u1, u2, u3⟩
    · refine pp_thr (u := 0) (o := o) (r := 0) (k := 2) h0 (by decide) ?_ ?_
      · unfold f_L_hearWord f_X12_hearWord f_X12_hearWord_17
        rw [pp_rqI hT.2.1 hv hC.2.1 hW hj, pp_b]
        show Option.bind (if q < -39 then _ else _) _ = _
        rcases u1 with u1 | u1
        · rw [if_pos u1]; rfl
        · by_cases q3 : q < -39
          · rw [if_pos q3]; rfl
          · rw [if_neg q3, if_neg u1]; rfl
      · unfold f_X15_hearWord
        rw [pp_tolI ((pp_thn (by omega)).trans hM.2.1) hW hj, pp_b, if_neg (by decide), u2]; rfl
    · obtain ⟨f1, c1, c2⟩ := pp_copyR (l0 := 14) (by unfold pp_wd; omega) (by unfold pp_wd; omega) a3
      obtain ⟨f2, s1, s2⟩ := pp_shiftC (d := q) c2
      have ex1 : ∀ i, i ≠ 14 → i ≠ 15 → (g_wa (g_wa (g_wi x 14 1 (nI (pv_ln A j))) (14 + 1) f1) (14 + 1) f2).1 i = x.1 i := fun i h1 h2 => by rw [pp_c4 (by omega), pp_c4 (by omega), pp_c1]; exact pp_c4 h1
      have hY0 : (g_mi (g_mi y 120 0 0) 153 8 (nI (pv_ln A j))) 154 = y 154 := by rw [pp_g1, pp_g4 (by omega), pp_g1, pp_g4 (by omega)]
      have hYR : pp_RM (g_mi (g_mi y 120 0 0) 153 8 (nI (pv_ln A j))) 152 j (pv_pt A j) (pv_ln A j) := by
        refine ⟨?_, hl, a2.2.2.1, fun k hk => ?_⟩
        · show (g_mi (g_mi y 120 0 0) 153 8 (nI (pv_ln A j))) 153 j = _
          rw [pp_g1, pp_g3, pp_u2 (by omega), pp_thn (by omega)]; exact a2.1
        · show (g_mi (g_mi y 120 0 0) 153 8 (nI (pv_ln A j))) 154 _ = _
          rw [hY0]; exact a2.2.2.2 k hk
      have hY8 : (g_mi (g_mi y 120 0 0) 153 8 (nI (pv_ln A j))) 153 8 = nI (pv_ln A j) := by rw [pp_g1, pp_g3, pp_u1]
      obtain ⟨f', i1, i2, i3⟩ := pp_hwM (A := A) (d := q) hYR (by omega) hY8 (pv_ln A j - 0) g_fuel 0 ((g_mi (g_mi y 120 0 0) 153 8 (nI (pv_ln A j))) 154) rfl (by unfold g_fuel; omega) (by omega) (fun _ _ => rfl) (fun i hi => absurd hi (Nat.not_lt_zero _))
      rw [pp_g5] at i3
      have m1 : ∀ i, i ≠ 120 → i ≠ 153 → i ≠ 154 → (g_ma (g_mi (g_mi y 120 0 0) 153 8 (nI (pv_ln A j))) 154 f') i = y i := fun i h1 h2 h3 => by rw [pp_g4 h3, pp_g1, pp_g4 h2, pp_g1, pp_g4 h1]
      have m2 : (g_ma (g_mi (g_mi y 120 0 0) 153 8 (nI (pv_ln A j))) 154 f') 120 = upd (y 120) 0 0 := by rw [pp_g4 (by omega), pp_g1, pp_g4 (by omega), pp_g1, pp_g3]
      have m3 : (g_ma (g_mi (g_mi y 120 0 0) 153 8 (nI (pv_ln A j))) 154 f') 153 = upd (y 153) 8 (nI (pv_ln A j)) := by rw [pp_g4 (by omega), pp_g1, pp_g3, pp_g1, pp_g4 (by omega)]
      obtain ⟨x', t1, t2, t3⟩ := pp_heard (x1 := g_wa (g_wa (g_wi x 14 1 (nI (pv_ln A j))) (14 + 1) f1) (14 + 1) f2) (y1 := g_ma (g_mi (g_mi y 120 0 0) 153 8 (nI (pv_ln A j))) 154 f') (n := pv_ln A j) (q := fun k => pp_hd (pv_pt A j k) q) hA hT hC hM h3 h4 hB (fun i h1 => ex1 i (by omega) (by omega)) rfl ⟨by rw [pp_c4 (by omega)]; exact c2.1, hl, fun k => pp_hdB _ _, fun k hk => by rw [pp_c3]; exact s2 k hk⟩ m1 (fun k hk => by rw [m2, pp_u2 hk]) (fun i hi => by rw [m3, pp_u2 (by omega)]) (fun i hi => by rw [pp_g3, i1 i hi, hY0]) ⟨by show (g_ma (g_mi (g_mi y 120 0 0) 153 8 (nI (pv_ln A j))) 154 f') 153 8 = _; rw [m3, pp_u1], hl, fun k => pp_hdB _ _, fun k hk => by show (g_ma _ 154 f') 154 (192 + k) = _; rw [pp_g3]; exact i2 k hk⟩
      refine pp_fin (o := o) (r := nI (pv_ln A j)) (x1 := x') (y1 := g_ma (g_mi (g_mi y 120 0 0) 153 8 (nI (pv_ln A j))) 154 f') ?_ ?_ (by rw [m2, pp_u1]) t2
      · unfold f_L_hearWord f_X12_hearWord
        rw [pp_rqI hT.2.1 hv hC.2.1 hW hj, pp_b]
        show Option.bind (if q < -39 then _ else if q ≤ 39 then Option.bind (f_X12_rowOf (nI j) x) _ else _) _ = _
        rw [if_neg u1, if_pos u2, pp_rowO hT.2.1 hv (by omega), pp_b, if_pos (pp_k5 hv (by omega)), c1, pp_b, s1, pp_b]
        show Option.bind (if kd (x.2 0 6) = 7 then (if kd (x.2 0 7) = 9 then Option.bind (f_X1_measureAll (x.2 0 6) (x.2 0 7) _) _ else _) else _) _ = _
        rw [hT.1, hT.2.1, if_pos (pp_k7 hb), if_pos (pp_k9 hv), t1, pp_b, t3]
        rfl
      · unfold f_X15_hearWord
        rw [pp_tolI ((pp_thn (by omega)).trans hM.2.1) hW hj, pp_b, if_neg (by decide), u3, pp_b, if_neg (by decide), if_pos ((pp_ok (by omega)).mpr (by omega)), if_pos (by decide), nI_clamp (by omega)]
        show f_X15_hearWord_57 g_fuel (nI j) q 0 (g_mi (g_mi y 120 0 0) 153 8 ((g_mi y 120 0 0) 153 j)) = _
        rw [pp_thn (show (153 : Nat) ≠ 120 ∨ j ≠ 0 by omega), show y 153 j = nI (pv_ln A j) from a2.1]
        exact i3
theorem pp_o29 {p : Int32} {x : CS} {y : MS} {o : Nat → Int32} (h : pp_R x y) : pp_OK (f_L_turnPruned p x o) (f_X15_turnPruned p y) := by
  have h0 := h
  obtain ⟨A, b, v, R, Z, nr, T, hA, hT, hC, hM, h3, h4, hB⟩ := h
  have hW := hA.1
  have hv := hC.1
  have hg : y 127 0 = nI (pv_g A) := hM.2.2.1
  have hg20 := hA.2.2.2
  have hb := hB.1
  have hbg := hB.2.2.2.2.2.1
  have ho : (p < 0 ∨ nI (pv_W A) ≤ p) → _ := fun q1 => pp_thr (u := 0) (o := o) (r := 0) (k := 1) (fl := f_L_turnPruned p x o) (fm := f_X15_turnPruned p y) h0 (by decide) (by unfold f_L_turnPruned f_X12_turnPruned; rw [pp_rqO hT.2.1 hv hC.2.1 q1]; rfl) (by unfold f_X15_turnPruned; rw [pp_tolO ((pp_thn (by omega)).trans hM.2.1) hW q1]; rfl)
  rcases pk_ix p (n := pv_W A) (by omega) with q1 | q1 | ⟨j, hj, rfl⟩
  · exact ho (Or.inl q1)
  · exact ho (Or.inr q1)
  · obtain ⟨a1, a2⟩ := hM.2.2.2.1 j hj
    have hp := hA.2.1 j
    have hpr : y 155 j = nI (pv_pr A j) := a1
    have hwd : (g_mi y 120 0 0) 155 j = nI (pv_pr A j) := by rw [pp_thn (by omega)]; exact a1
    have hVM := pp_VM.sr (w := j) (v := 1 - pv_pr A j) (hM.th (u := 0))
    have hVC := pp_VC.sr (u := 1 - pv_pr A j) hA hC hj
    refine pp_fin (o := o) (r := nI (1 - pv_pr A j)) (x1 := g_wi x (pp_wd v j) 1 (nI (1 - pv_pr A j))) (y1 := g_mi (g_mi y 120 0 0) (152 + 3) j (nI (1 - pv_pr A j))) ?_ ?_ (by rw [pp_g1, pp_g4 (by omega)]; exact pp_th0) ?_
    · unfold f_L_turnPruned f_X12_turnPruned
      rw [pp_rqI hT.2.1 hv hC.2.1 hW hj, pp_b]
      show Option.bind (if kd (x.2 0 7) = 9 then _ else _) _ = _
      rw [hT.2.1, if_pos (pp_k9 hv), pp_word (by omega), pp_b, if_pos (pp_k10 hv (by omega)), (hC.2.2.1 j hj).1]
      have e : ∀ u : Int32, (g_wi x (pp_wd v j) 1 u).1 (pp_wd v j) 1 = u := fun u => by rw [pp_c1, pp_c3, pp_u1]
      rw [e, e]
      rcases Nat.lt_or_ge 0 (pv_pr A j) with h5 | h5
      · rw [show pv_pr A j = 1 by omega]; rfl
      · rw [show pv_pr A j = 0 by omega]; rfl
    · unfold f_X15_turnPruned
      have hok := (pp_ok (k := j) (n := 8) (by omega)).mpr (by omega)
      rw [pp_tolI ((pp_thn (by omega)).trans hM.2.1) hW hj, pp_b, if_neg (by decide), if_pos hok, if_pos hok, if_pos hok, nI_clamp (by omega), hwd, show (1 : Int32) - nI (pv_pr A j) = nI (1 - pv_pr A j) from pk_sub hp]
      have e : ∀ u : Int32, (g_mi (g_mi y 120 0 0) 155 j u) 155 j = u := fun u => by rw [pp_g1, pp_g3, pp_u1]
      rw [e]
      rcases Nat.lt_or_ge 0 (pv_pr A j) with h5 | h5
      · rw [show pv_pr A j = 1 by omega]; rfl
      · rw [show pv_pr A j = 0 by omega]; rfl
    · refine pp_R.mk (A' := pv_sr A j (1 - pv_pr A j)) hT hB ?_ ?_ rfl rfl (hA.sr (by omega)) hVC hVM ?_ ?_
      · rw [pp_c1]; exact (pp_Gc.rf v x).wa (by unfold pp_wd; omega)
      · rw [pp_g1]; exact (pp_Gm.rf y).th.ma (by omega)
      · rw [pp_c1, pp_c4 (by unfold pp_wd; omega), pp_g1, pp_g4 (by omega), pp_thn (by omega)]; exact h3
      · rw [pp_c1, pp_c4 (by unfold pp_wd; omega), pp_g1, pp_g4 (by omega), pp_thn (by omega)]; exact h4
theorem pp_pruL {b v R Z nr T : Nat} : ∀ d fc fm k c A x y, d = pv_W A - k → d < fc → d < fm → k ≤ pv_W A → pv_ok A → pp_T x y b v nr T → pp_VC A x v → pp_VM A y 152 → x.1 v 3 = y 152 3 → x.1 v 4 = y 152 4 → pp_BK (pv_W A) (pv_g A) x y b R Z → pp_O2 (f_X12_pruneNeedless_4 fc (nI c) (nI k) x) (f_X15_pruneNeedless_4 fm (nI c) (nI k) y) := by
  intro d
  induction d with
  | zero =>
    intro fc fm k c A x y hd hfc hfm hk hA hT hC hM h3 h4 hB
    obtain ⟨f1, rfl⟩ : ∃ fu, fc = fu + 1 := ⟨fc - 1, by omega⟩
    obtain ⟨f2, rfl⟩ : ∃ fu, fm = fu + 1 := ⟨fm - 1, by omega⟩
    have hW := hA.1
    have hle := nI_le (show pv_W A ≤ k by omega) (show k < 2 ^ 31 by omega)
    refine ⟨nI c, x, g_mi y 120 0 0, ?_, ?_, pp_R.th ⟨A, b, v, R, Z, nr, T, hA, hT, hC, hM, h3, h4, hB⟩⟩
    · rw [f_X12_pruneNeedless_4, hT.2.1, if_pos (pp_k9 hC.1), hC.2.1, if_pos hle]
    · rw [f_X15_pruneNeedless_4, hM.2.1, if_pos hle]; rfl
  | succ d ih =>
    intro fc fm k c A x y hd hfc hfm hk hA hT hC hM h3 h4 hB
    obtain ⟨f1, rfl⟩ : ∃ fu, fc = fu + 1 := ⟨fc - 1, by omega⟩
    obtain ⟨f2, rfl⟩ : ∃ fu, fm = fu + 1 := ⟨fm - 1, by omega⟩
    have hW := hA.1
    have hv := hC.1
    have hkW : k < pv_W A := by omega
    have hlt := nI_ge hkW (show pv_W A < 2 ^ 31 by omega)
    have hT0 := hT
    obtain ⟨k1, k2, k3, k4, k5, k6, k7⟩ := hT
    obtain ⟨f, hf⟩ := pp_needC hA hC hB.1 k1 k2 hB.2.2.2.2.2.1 k5 k4 hkW
    obtain ⟨g, hg⟩ := pp_needM hA hM k6 k4 hkW
    have hSc : pp_Sc x (g_wa x 9 f) := (pp_Sc.rf x).wa (by omega) (by omega) (by omega) (by omega)
    have hC1 := hC.s hSc
    have hM1 : pp_VM A (g_ma y 160 g) 152 := hM.f (by omega) (by omega) (by omega) (by omega)
    have hG1 : pp_Gc v x (g_wa x 9 f) := pp_Gc.ofS hSc
    have hG2 : pp_Gm y (g_ma y 160 g) := (pp_Gm.rf y).ma (by omega)
    have h1 := pv_nl1 A nr k
    rw [f_X12_pruneNeedless_4, k2, if_pos (pp_k9 hv), hC.2.1, if_neg hlt, hf, pp_b, f_X15_pruneNeedless_4, hM.2.1, if_neg hlt, hg, pp_b, nI_1, nI_1]
    show pp_O2 (if nI (pv_nl A nr k) = 0 then _ else _) (if nI (pv_nl A nr k) = 0 then _ else _)
    by_cases hz : pv_nl A nr k = 0
    · rw [if_pos (by rw [hz]; rfl), if_pos (by rw [hz]; rfl)]
      exact ih f1 f2 (k + 1) c A (g_wa x 9 f) (g_ma y 160 g) (by omega) (by omega) (by omega) (by omega) hA (hT0.e hG1 hG2) hC1 hM1 (by rw [pp_c4 (by omega), pp_g4 (by omega)]; exact h3) (by rw [pp_c4 (by omega), pp_g4 (by omega)]; exact h4) (hB.e hv hG1 hG2)
    · rw [if_neg (nI_ne0 (by omega) (by omega)), if_neg (nI_ne0 (by omega) (by omega))]
      show pp_O2 (if kd (x.2 0 7) = 9 then Option.bind (f_X9_word (x.2 0 7) (nI k) (g_wa x 9 f)) _ else _) _
      rw [k2, if_pos (pp_k9 hv), pp_word (by omega), pp_b, if_pos (pp_k10 hv (by omega)), if_pos ((pp_ok (by omega)).mpr (by omega)), nI_clamp (by omega)]
      have hC2 := pp_VC.sr (w := k) (u := 1) hA hC1 hkW
      have hM2 := pp_VM.sr (w := k) (v := 1) hM1
      have hG3 : pp_Gc v x (g_wi (g_wa x 9 f) (pp_wd v k) 1 (nI 1)) := by rw [pp_c1]; exact hG1.wa (by unfold pp_wd; omega)
      have hG4 : pp_Gm y (g_mi (g_ma y 160 g) (152 + 3) k (nI 1)) := by rw [pp_g1]; exact hG2.ma (by omega)
      exact ih f1 f2 (k + 1) (c + 1) (pv_sr A k 1) (g_wi (g_wa x 9 f) (pp_wd v k) 1 (nI 1)) (g_mi (g_ma y 160 g) (152 + 3) k (nI 1)) (show d = pv_W A - (k + 1) by omega) (by omega) (by omega) (show k + 1 ≤ pv_W A by omega) (hA.sr (by omega)) (hT0.e hG3 hG4) hC2 hM2 (by rw [pp_c1, pp_c4 (by unfold pp_wd; omega), pp_c4 (by omega), pp_g1, pp_g4 (by omega), pp_g4 (by omega)]; exact h3) (by rw [pp_c1, pp_c4 (by unfold pp_wd; omega), pp_c4 (by omega), pp_g1, pp_g4 (by omega), pp_g4 (by omega)]; exact h4) (hB.e hv hG3 hG4)
theorem pp_o30 {x : CS} {y : MS} (h : pp_R x y) : pp_O2 (f_X12_pruneNeedless x) (f_X15_pruneNeedless y) := by
  have h0 := h
  obtain ⟨A, b, v, R, Z, nr, T, hA, hT, hC, hM, h3, h4, hB⟩ := h
  have hW := hA.1
  have hv := hC.1
  have hg : y 127 0 = nI (pv_g A) := hM.2.2.1
  have hg20 := hA.2.2.2
  have hb := hB.1
  have hbg := hB.2.2.2.2.2.1
  exact pp_pruL (pv_W A - 0) g_fuel g_fuel 0 0 A x y rfl (by unfold g_fuel; omega) (by unfold g_fuel; omega) (by omega) hA hT hC hM h3 h4 hB
theorem pp_in20 {q : Int32} : ((q < 1 ∨ ¬ q ≤ 20) ∧ f_X15_isIn q 1 20 = some 0) ∨ (∃ n, 0 < n ∧ n ≤ 20 ∧ q = nI n ∧ f_X15_isIn q 1 20 = some 1) := by
  unfold f_X15_isIn
  by_cases h : q < 1
  · exact Or.inl ⟨Or.inl h, by rw [if_pos h]⟩
  · by_cases h2 : q ≤ 20
    · have h3 : ¬ q < 0 := fun h4 => h (by
        have h5 := Int32.lt_iff_toInt_lt.mp h4
        rw [Int32.lt_iff_toInt_lt]
        have h6 : (0 : Int32).toInt = 0 := rfl
        have h7 : (1 : Int32).toInt = 1 := rfl
        omega)
      obtain ⟨n, hn, rfl⟩ := nI_of2 (n := 20) rfl h3 h2
      refine Or.inr ⟨n, ?_, hn, rfl, by rw [if_neg h, if_neg (fun h3 => Int32.not_le.mpr h3 h2)]⟩
      rcases Nat.lt_or_ge 0 n with h5 | h5
      · exact h5
      · exact absurd (show nI n < (1 : Int32) by rw [show n = 0 by omega]; decide) h
    · exact Or.inl ⟨Or.inr h2, by rw [if_neg h, if_pos (Int32.not_le.mp h2)]⟩
theorem pp_rlO {q : Int32} (h : q < 1 ∨ ¬ q ≤ 20) : f_X12_requireLessons q = some (.inl 2) := by
  unfold f_X12_requireLessons f_X12_requireLessons_11
  rcases h with h | h
  · rw [if_pos h]
  · by_cases h2 : q < 1
    · rw [if_pos h2]
    · rw [if_neg h2, if_neg h]
theorem pp_rlI {n : Nat} (h0 : 0 < n) (h : n ≤ 20) : f_X12_requireLessons (nI n) = some (.inr ()) := by
  unfold f_X12_requireLessons
  rw [if_neg (show ¬ nI n < (1 : Int32) from nI_nlt (b := 1) (by omega) (by omega)), if_pos (show nI n ≤ (20 : Int32) from nI_le (b := 20) h (by omega))]
theorem pp_pasL {b v R Z nr T n : Nat} : ∀ d fc fm k c A x y, d = n - k → d < fc → d < fm → k ≤ n → n ≤ 20 → pv_ok A → pp_T x y b v nr T → pp_VC A x v → pp_VM A y 152 → x.1 v 3 = y 152 3 → x.1 v 4 = y 152 4 → pp_BK (pv_W A) (pv_g A) x y b R Z → ∃ r x' y', f_X12_passLessons_8 fc (nI n) (nI c) (nI k) x = some (.inr (r, x')) ∧ f_X15_passLessons_25 fm (nI n) (nI c) (nI k) y = some (r, y') ∧ y' 120 0 = y 120 0 ∧ pp_R x' y' := by
  intro d
  induction d with
  | zero =>
    intro fc fm k c A x y hd hfc hfm hk hn hA hT hC hM h3 h4 hB
    obtain ⟨f1, rfl⟩ : ∃ fu, fc = fu + 1 := ⟨fc - 1, by omega⟩
    obtain ⟨f2, rfl⟩ : ∃ fu, fm = fu + 1 := ⟨fm - 1, by omega⟩
    have hle := nI_le (show n ≤ k by omega) (show k < 2 ^ 31 by omega)
    exact ⟨nI c, x, y, by rw [f_X12_passLessons_8, if_pos hle], by rw [f_X15_passLessons_25, if_pos hle], rfl, ⟨A, b, v, R, Z, nr, T, hA, hT, hC, hM, h3, h4, hB⟩⟩
  | succ d ih =>
    intro fc fm k c A x y hd hfc hfm hk hn hA hT hC hM h3 h4 hB
    obtain ⟨f1, rfl⟩ : ∃ fu, fc = fu + 1 := ⟨fc - 1, by omega⟩
    obtain ⟨f2, rfl⟩ : ∃ fu, fm = fu + 1 := ⟨fm - 1, by omega⟩
    have hlt := nI_ge (show k < n by omega) (show n < 2 ^ 31 by omega)
    obtain ⟨r, A1, x1, y1, q1, q2, q3, q4, q5, q6, q7, q8, q9, q10⟩ := pp_less hA hC hM h3 h4 hB
    have hG1 : pp_Gc v x x1 := pp_Gc.ofF q9
    have hG2 : pp_Gm y y1 := pp_Gm.ofF q10 (Or.inl rfl)
    have hB1 : pp_BK (pv_W A1) (pv_g A1) x1 y1 b R Z := by
      rw [q4.1, q4.2.2.2.2]
      exact hB.e hC.1 hG1 hG2
    obtain ⟨r', x', y', i1, i2, i3, i4⟩ := ih f1 f2 (k + 1) (c + r) A1 x1 y1 (by omega) (by omega) (by omega) (by omega) hn q3 (hT.e hG1 hG2) q5 q6 q7 q8 hB1
    refine ⟨r', x', y', ?_, ?_, i3.trans (by rw [q10 120 (by omega) (by omega) (by omega) (by omega) (by omega)]), i4⟩
    · rw [f_X12_passLessons_8, if_neg hlt, hT.1, if_pos (pp_k7 hB.1), hT.2.1, if_pos (pp_k9 hC.1), q1, pp_b, nI_1]
      show f_X12_passLessons_8 f1 (nI n) (nI c + nI r) (nI (k + 1)) x1 = _
      rw [nI_add]; exact i1
    · rw [f_X15_passLessons_25, if_neg hlt, q2, pp_b, nI_1]
      show f_X15_passLessons_25 f2 (nI n) (nI c + nI r) (nI (k + 1)) y1 = _
      rw [nI_add]; exact i2
theorem pp_sb {A T : Type} {a : A} {k : A → Option (Nat ⊕ T)} : g_sb (Sum.inr a) k = k a := rfl
theorem pp_o31 {p : Int32} {x : CS} {y : MS} {o : Nat → Int32} (h : pp_R x y) : pp_OK (f_L_passLessons p x o) (f_X15_passLessons p y) := by
  have h0 := h
  obtain ⟨A, b, v, R, Z, nr, T, hA, hT, hC, hM, h3, h4, hB⟩ := h
  have hW := hA.1
  have hv := hC.1
  have hg : y 127 0 = nI (pv_g A) := hM.2.2.1
  have hg20 := hA.2.2.2
  have hb := hB.1
  have hbg := hB.2.2.2.2.2.1
  rcases pp_in20 (q := p) with ⟨u1, u2⟩ | ⟨n, n0, n20, rfl, u2⟩
  · refine pp_thr (u := 0) (o := o) (r := 0) (k := 1) h0 (by decide) ?_ ?_
    · unfold f_L_passLessons f_X12_passLessons
      rw [pp_rlO u1]; rfl
    · unfold f_X15_passLessons
      rw [u2]; rfl
  · obtain ⟨r', x', y', i1, i2, i3, i4⟩ := pp_pasL (n := n) (n - 0) g_fuel g_fuel 0 0 A x (g_mi y 120 0 0) rfl (by unfold g_fuel; omega) (by unfold g_fuel; omega) (by omega) n20 hA (hT.e (pp_Gc.rf v x) (pp_Gm.rf y).th) hC hM.th (by rw [pp_thn (by omega)]; exact h3) (by rw [pp_thn (by omega)]; exact h4) (hB.e hv (pp_Gc.rf v x) (pp_Gm.rf y).th)
    refine pp_fin (o := o) (r := r') (x1 := x') (y1 := y') ?_ ?_ (i3.trans pp_th0) i4
    · unfold f_L_passLessons f_X12_passLessons
      rw [pp_rlI n0 n20, pp_b, pp_sb]
      rw [show f_X12_passLessons_8 g_fuel (nI n) 0 0 x = _ from i1]; rfl
    · unfold f_X15_passLessons
      rw [u2, pp_b, if_neg (by decide)]
      exact i2
