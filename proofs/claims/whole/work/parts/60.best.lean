/-! the best shift -/
def pv_ds (A : PV) (j : Nat) (d : Int32) : Nat := pp_D (pv_g A) (pv_pt A j) (pv_ln A j) (fun k => pp_hd (pv_hp A k) d) (pv_hl A) / 100
theorem pv_dsB {A : PV} {x : CS} {v j : Nat} {d : Int32} (hA : pv_ok A) (hC : pp_VC A x v) (hj : j < pv_W A) (h0 : pv_hl A ≠ 0) : pv_ds A j d < 4000 := by
  have r1 := (hC.2.2.1 j hj).2.2
  have := pp_gdF (pp_DG (g := pv_g A) (q := fun k => pp_hd (pv_hp A k) d) r1.2.2.1 (fun k => pp_hdB _ _) (hA.2.2.1 j hj) (by omega) r1.2.1 hC.2.2.2.2.1) (by omega)
  unfold pv_ds
  omega
theorem pp_dsC {A : PV} {x : CS} {b v j : Nat} {d : Int32} (hA : pv_ok A) (hC : pp_VC A x v) (hb : b = 20 ∨ b = 70) (h6 : x.2 0 6 = b) (h7 : x.2 0 7 = v) (hg : x.1 b 6 = nI (pv_g A)) (hj : j < pv_W A) (h0 : pv_hl A ≠ 0) : ∃ x', pp_Sc x x' ∧ f_X12_distanceIfShifted (nI j) d x = some (nI (pv_ds A j d), x') := by
  have hW := hA.1
  have hv := hC.1
  obtain ⟨f1, c1, c2⟩ := pp_copyR (l0 := 16) (by omega) (by omega) hC.2.2.2
  obtain ⟨f2, s1, s2⟩ := pp_shiftC (d := d) c2
  have hS : pp_Sc x (g_wa (g_wa (g_wi x 16 1 (nI (pv_hl A))) (16 + 1) f1) (16 + 1) f2) := by
    rw [pp_c1]
    exact (((pp_Sc.rf x).wa (by omega) (by omega) (by omega) (by omega)).wa (by omega) (by omega) (by omega) (by omega)).wa (by omega) (by omega) (by omega) (by omega)
  have hR16 : pp_RC (g_wa (g_wa (g_wi x 16 1 (nI (pv_hl A))) (16 + 1) f1) (16 + 1) f2) 16 (fun k => pp_hd (pv_hp A k) d) (pv_hl A) := ⟨by rw [pp_c4 (by omega)]; exact c2.1, c2.2.1, fun k => pp_hdB _ _, fun k hk => by rw [pp_c3]; exact s2 k hk⟩
  obtain ⟨f3, hf⟩ := pp_distC (g := pv_g A) (by unfold pp_wd; omega) (by unfold pp_wd; omega) (by omega) (by omega) ((hC.2.2.1 j hj).2.2.s hS (by unfold pp_wd; omega)) hR16 (hA.2.2.1 j hj) (by omega) hA.2.2.2
  refine ⟨_, hS.wa (i := 9) (f := f3) (by omega) (by omega) (by omega) (by omega), ?_⟩
  unfold f_X12_distanceIfShifted
  rw [c1, pp_b, s1, pp_b]
  show Option.bind (f_X12_rowOf (nI j) (g_wa (g_wa (g_wi x 16 1 (nI (pv_hl A))) (16 + 1) f1) (16 + 1) f2)) _ = _
  rw [pp_rowO (by rw [hS.2]; exact h7) hv (by omega), pp_b, if_pos (pp_k5 hv (by omega))]
  show (if kd (x.2 0 6) = 7 then Option.bind (f_X10_distance (pp_wd v j + 1) 16 ((g_wa (g_wa (g_wi x 16 1 (nI (pv_hl A))) (16 + 1) f1) (16 + 1) f2).1 (x.2 0 6) 6) _) _ else _) = _
  rw [h6, if_pos (pp_k7 hb), hS.1 b (by omega), hg, hf]
  rfl
def pp_bY (y : MS) (f g : Nat → Int32) : MS := g_ma (g_ma y 154 f) 160 g
theorem pp_bYM {A : PV} {y : MS} {f g : Nat → Int32} (hA : pv_ok A) (h : pp_VM A y 152) (hf : ∀ i, i < 216 → f i = y 154 i) : pp_VM A (pp_bY y f g) 152 := by
  have hW := hA.1
  have e1 : ∀ i, i ≠ 154 → i ≠ 160 → pp_bY y f g i = y i := fun i h1 h2 => by unfold pp_bY; rw [pp_g4 h2, pp_g4 h1]
  have e2 : pp_bY y f g 154 = f := by unfold pp_bY; rw [pp_g4 (by omega), pp_g3]
  refine ⟨Or.inl rfl, by rw [e1 127 (by omega) (by omega)]; exact h.2.1, by rw [e1 127 (by omega) (by omega)]; exact h.2.2.1, fun j hj => ⟨by rw [e1 _ (by omega) (by omega)]; exact (h.2.2.2.1 j hj).1, ?_⟩, ?_⟩
  · obtain ⟨r1, r2, r3, r4⟩ := (h.2.2.2.1 j hj).2
    refine ⟨by rw [e1 _ (by omega) (by omega)]; exact r1, r2, r3, fun k hk => ?_⟩
    show pp_bY y f g 154 (24 * j + k) = _
    rw [e2, hf _ (by omega)]; exact r4 k hk
  · obtain ⟨r1, r2, r3, r4⟩ := h.2.2.2.2
    refine ⟨by rw [e1 _ (by omega) (by omega)]; exact r1, r2, r3, fun k hk => ?_⟩
    show pp_bY y f g 154 (24 * 8 + k) = _
    rw [e2, hf _ (by omega)]; exact r4 k hk
theorem pp_b58 {A : PV} {y : MS} {j : Nat} {k39 : Int32 → Int32 → Int32 → Int32 → MS → Option (Int32 × MS)} {k49 : Int32 → Int32 → Int32 → Int32 → Int32 → MS → Option (Int32 × MS)} {l2 l3 l4 l5 : Int32} (hA : pv_ok A) (hM : pp_VM A y 152) (h9 : y 153 9 = nI (pv_hl A)) (hj : j < pv_W A) (h0 : pv_hl A ≠ 0) : ∀ dd fuel k f g, dd = pv_hl A - k → dd < fuel → k ≤ pv_hl A → (∀ i, i < 216 → f i = y 154 i) → (∀ i, i < k → f (216 + i) = nI (pp_hd (pv_hp A i) (l5 * l4))) → ∃ f' g', (∀ i, i < 216 → f' i = y 154 i) ∧ f_X15_bestShift_58 k39 k49 fuel (nI j) l2 l3 l4 l5 (nI k) (pp_bY y f g) = (if nI (pv_ds A j (l5 * l4)) < l3 then k49 (nI j) (l5 * l4) (nI (pv_ds A j (l5 * l4))) l4 (l5 + (-2 : Int32)) (pp_bY y f' g') else k49 (nI j) l2 l3 l4 (l5 + (-2 : Int32)) (pp_bY y f' g')) := by
  have hW := hA.1
  have hrm := hM.2.2.2.2
  have hhl := hrm.2.1
  have e1 : ∀ f g i, i ≠ 154 → i ≠ 160 → pp_bY y f g i = y i := fun f g i h1 h2 => by unfold pp_bY; rw [pp_g4 h2, pp_g4 h1]
  have e2 : ∀ f g, pp_bY y f g 154 = f := fun f g => by unfold pp_bY; rw [pp_g4 (by omega), pp_g3]
  have hl : y 153 8 = nI (pv_hl A) := hrm.1
  intro dd
  induction dd with
  | zero =>
    intro fuel k f g hd hfu hk h1 h2
    obtain ⟨fu, rfl⟩ : ∃ fu, fuel = fu + 1 := ⟨fuel - 1, by omega⟩
    have hMf := pp_bYM (f := f) (g := g) hA hM h1
    have hR9 : pp_RM (pp_bY y f g) 152 9 (fun k => pp_hd (pv_hp A k) (l5 * l4)) (pv_hl A) := ⟨by rw [e1 _ _ _ (by omega) (by omega)]; exact h9, hhl, fun k => pp_hdB _ _, fun i hi => by show pp_bY y f g 154 (216 + i) = _; rw [e2]; exact h2 i (by omega)⟩
    obtain ⟨g2, hg2⟩ := pp_distM (g := pv_g A) (by omega) (hMf.2.2.2.1 j hj).2 hR9 (by omega) (by omega) (hA.2.2.1 j hj) (by omega) hMf.2.2.1 hA.2.2.2
    refine ⟨f, g2, h1, ?_⟩
    rw [f_X15_bestShift_58, if_pos (by decide)]
    show (if pp_bY y f g 153 8 ≤ nI k then Option.bind (f_X15_distance 152 (nI j) (nI 9) (pp_bY y f g)) _ else _) = _
    rw [e1 _ _ _ (by omega) (by omega), hl, if_pos (nI_le (by omega) (by omega)), hg2, pp_b]
    show (if nI (pv_ds A j (l5 * l4)) < l3 then _ else _) = _
    rw [show g_ma (pp_bY y f g) 160 g2 = pp_bY y f g2 from pp_g2]
    rfl
  | succ dd ih =>
    intro fuel k f g hd hfu hk h1 h2
    obtain ⟨fu, rfl⟩ : ∃ fu, fuel = fu + 1 := ⟨fuel - 1, by omega⟩
    have hfk : f (192 + k) = nI (pv_hp A k) := by rw [h1 _ (by omega)]; exact hrm.2.2.2 k (by omega)
    obtain ⟨f', g', i1, i2⟩ := ih fu (k + 1) (upd f (216 + k) (nI (pp_hd (pv_hp A k) (l5 * l4)))) g (by omega) (by omega) (by omega) (fun i hi => by rw [pp_u2 (by omega)]; exact h1 i hi) (fun i hi => by
      rcases Nat.lt_or_ge i k with h4 | h4
      · rw [pp_u2 (by omega)]; exact h2 i h4
      · have e2 : i = k := by omega
        rw [e2, pp_u1])
    refine ⟨f', g', i1, ?_⟩
    rw [f_X15_bestShift_58, if_pos (by decide)]
    show (if pp_bY y f g 153 8 ≤ nI k then _ else _) = _
    rw [e1 _ _ _ (by omega) (by omega), hl, if_neg (nI_ge (by omega) (by omega)), show (192 : Int32) + nI k = nI (192 + k) from nI_add 192 k, if_pos ((pp_ok (by omega)).mpr (by omega)), nI_clamp (by omega), e2, hfk, pp_held (hrm.2.2.1 k), pp_b, show (216 : Int32) + nI k = nI (216 + k) from nI_add 216 k, if_pos ((pp_ok (by omega)).mpr (by omega)), nI_clamp (by omega), nI_1, pp_g1, e2]
    rw [show g_ma (pp_bY y f g) 154 (upd f (216 + k) (nI (pp_hd (pv_hp A k) (l5 * l4)))) = pp_bY y (upd f (216 + k) (nI (pp_hd (pv_hp A k) (l5 * l4)))) g from by
      unfold pp_bY
      funext i
      unfold g_ma
      by_cases h5 : i = 154
      · subst h5; simp
      · simp [h5]]
    exact i2
theorem pp_b49 {A : PV} {y : MS} {j fuel : Nat} {k39 : Int32 → Int32 → Int32 → Int32 → MS → Option (Int32 × MS)} {l2 l3 l4 l5 : Int32} {f g : Nat → Int32} (hA : pv_ok A) (hM : pp_VM A y 152) (h9 : y 153 9 = nI (pv_hl A)) (hj : j < pv_W A) (h0 : pv_hl A ≠ 0) (h5 : ¬ l5 < -1) (hf : ∀ i, i < 216 → f i = y 154 i) : ∃ f' g', (∀ i, i < 216 → f' i = y 154 i) ∧ f_X15_bestShift_49 k39 (fuel + 1) (nI j) l2 l3 l4 l5 (pp_bY y f g) = (if nI (pv_ds A j (l5 * l4)) < l3 then f_X15_bestShift_49 k39 fuel (nI j) (l5 * l4) (nI (pv_ds A j (l5 * l4))) l4 (l5 + (-2 : Int32)) (pp_bY y f' g') else f_X15_bestShift_49 k39 fuel (nI j) l2 l3 l4 (l5 + (-2 : Int32)) (pp_bY y f' g')) := by
  have hhl := hM.2.2.2.2.2.1
  obtain ⟨f', g', i1, i2⟩ := pp_b58 (k39 := k39) (k49 := f_X15_bestShift_49 k39 fuel) (l2 := l2) (l3 := l3) (l4 := l4) (l5 := l5) hA hM h9 hj h0 (pv_hl A - 0) g_fuel 0 f g rfl (by unfold g_fuel; omega) (by omega) hf (fun i hi => absurd hi (Nat.not_lt_zero _))
  refine ⟨f', g', i1, ?_⟩
  rw [f_X15_bestShift_49, if_neg h5]
  exact i2
/-- both sides of one distance, by the reference -/
theorem pp_b39 {A : PV} {y : MS} {j fuel L k : Nat} {l2 : Int32} {f g : Nat → Int32} (hA : pv_ok A) (hM : pp_VM A y 152) (h9 : y 153 9 = nI (pv_hl A)) (hj : j < pv_W A) (h0 : pv_hl A ≠ 0) (hk : k ≤ 39) (hL : L < 2 ^ 31) (hB : ∀ d, pv_ds A j d < 4000) (hf : ∀ i, i < 216 → f i = y 154 i) : ∃ f' g', (∀ i, i < 216 → f' i = y 154 i) ∧ f_X15_bestShift_39 (fuel + 1) (nI j) l2 (nI L) (nI k) (pp_bY y f g) = f_X15_bestShift_39 fuel (nI j) (if pv_ds A j (-nI k) < (if pv_ds A j (nI k) < L then pv_ds A j (nI k) else L) then -nI k else if pv_ds A j (nI k) < L then nI k else l2) (nI (if pv_ds A j (-nI k) < (if pv_ds A j (nI k) < L then pv_ds A j (nI k) else L) then pv_ds A j (-nI k) else if pv_ds A j (nI k) < L then pv_ds A j (nI k) else L)) (nI (k + 1)) (pp_bY y f' g') := by
  have em : (-1 : Int32) * nI k = -nI k := by rw [Int32.neg_mul, Int32.one_mul]
  have b1 := hB (nI k)
  have b2 := hB (-nI k)
  obtain ⟨f1, g1, i1, i2⟩ := pp_b49 (k39 := f_X15_bestShift_39 fuel) (fuel := 4095) (l2 := l2) (l3 := nI L) (l4 := nI k) (l5 := 1) (f := f) (g := g) hA hM h9 hj h0 (by decide) hf
  rw [Int32.one_mul, show (1 : Int32) + (-2) = -1 by decide] at i2
  have hfin : ∀ m n (f2 g2 : Nat → Int32), f_X15_bestShift_49 (f_X15_bestShift_39 fuel) (4093 + 1) (nI j) m n (nI k) (-3) (pp_bY y f2 g2) = f_X15_bestShift_39 fuel (nI j) m n (nI (k + 1)) (pp_bY y f2 g2) := fun m n f2 g2 => by rw [f_X15_bestShift_49, if_pos (by decide), nI_1]
  have hsec : ∀ (m : Int32) (n : Nat), n < 2 ^ 31 → ∃ f' g', (∀ i, i < 216 → f' i = y 154 i) ∧ f_X15_bestShift_49 (f_X15_bestShift_39 fuel) 4095 (nI j) m (nI n) (nI k) (-1) (pp_bY y f1 g1) = f_X15_bestShift_39 fuel (nI j) (if pv_ds A j (-nI k) < n then -nI k else m) (nI (if pv_ds A j (-nI k) < n then pv_ds A j (-nI k) else n)) (nI (k + 1)) (pp_bY y f' g') := by
    intro m n hn
    obtain ⟨f2, g2, j1, j2⟩ := pp_b49 (k39 := f_X15_bestShift_39 fuel) (fuel := 4094) (l2 := m) (l3 := nI n) (l4 := nI k) (l5 := -1) (f := f1) (g := g1) hA hM h9 hj h0 (by decide) i1
    rw [em, show (-1 : Int32) + (-2) = -3 by decide, hfin, hfin] at j2
    refine ⟨f2, g2, j1, j2.trans ?_⟩
    by_cases h : pv_ds A j (-nI k) < n
    · rw [if_pos (nI_lt h hn), if_pos h, if_pos h]
    · rw [if_neg (nI_nlt (by omega) (by omega)), if_neg h, if_neg h]
  rw [f_X15_bestShift_39, if_neg (show ¬ (39 : Int32) < nI k from nI_nlt (b := k) (a := 39) hk (by omega))]
  rw [show f_X15_bestShift_49 (f_X15_bestShift_39 fuel) g_fuel (nI j) l2 (nI L) (nI k) 1 (pp_bY y f g) = _ from i2]
  by_cases h : pv_ds A j (nI k) < L
  · rw [if_pos (nI_lt h hL), if_pos h, if_pos h]
    exact hsec (nI k) _ (by omega)
  · rw [if_neg (nI_nlt (by omega) (by omega)), if_neg h, if_neg h]
    exact hsec l2 L hL
theorem pp_bL {A : PV} {b v j : Nat} {y : MS} (hA : pv_ok A) (hb : b = 20 ∨ b = 70) (hM : pp_VM A y 152) (h9 : y 153 9 = nI (pv_hl A)) (hj : j < pv_W A) (h0 : pv_hl A ≠ 0) : ∀ dd fc fm k L l2 x f g, dd = 40 - k → dd < fc → dd < fm → k ≤ 40 → L < 2 ^ 31 → pp_VC A x v → x.2 0 6 = b → x.2 0 7 = v → x.1 b 6 = nI (pv_g A) → (∀ i, i < 216 → f i = y 154 i) → ∃ r x' f' g', pp_Sc x x' ∧ (∀ i, i < 216 → f' i = y 154 i) ∧ f_X12_bestShift_21 fc (nI j) l2 (nI L) (nI k) x = some (.inr (r, x')) ∧ f_X15_bestShift_39 fm (nI j) l2 (nI L) (nI k) (pp_bY y f g) = some (r, pp_bY y f' g') := by
  intro dd
  induction dd with
  | zero =>
    intro fc fm k L l2 x f g hd hfc hfm hk hL hC h6 h7 hg hf
    obtain ⟨f1, rfl⟩ : ∃ fu, fc = fu + 1 := ⟨fc - 1, by omega⟩
    obtain ⟨f2, rfl⟩ : ∃ fu, fm = fu + 1 := ⟨fm - 1, by omega⟩
    have hle : (39 : Int32) < nI k := nI_lt (a := 39) (by omega) (by omega)
    exact ⟨l2, x, f, g, pp_Sc.rf x, hf, by rw [f_X12_bestShift_21, if_pos hle], by rw [f_X15_bestShift_39, if_pos hle]⟩
  | succ dd ih =>
    intro fc fm k L l2 x f g hd hfc hfm hk hL hC h6 h7 hg hf
    obtain ⟨f1, rfl⟩ : ∃ fu, fc = fu + 1 := ⟨fc - 1, by omega⟩
    obtain ⟨f2, rfl⟩ : ∃ fu, fm = fu + 1 := ⟨fm - 1, by omega⟩
    have hB : ∀ d, pv_ds A j d < 4000 := fun d => pv_dsB hA hC hj h0
    have b1 := hB (nI k)
    have b2 := hB (-nI k)
    obtain ⟨fa, ga, i1, i2⟩ := pp_b39 (fuel := f2) (L := L) (k := k) (l2 := l2) (f := f) (g := g) hA hM h9 hj h0 (by omega) hL hB hf
    obtain ⟨x1, s1, c1⟩ := pp_dsC (d := nI k) hA hC hb h6 h7 hg hj h0
    obtain ⟨x2, s2, c2⟩ := pp_dsC (d := -nI k) hA (hC.s s1) hb (by rw [s1.2]; exact h6) (by rw [s1.2]; exact h7) (by rw [s1.1 b (by omega)]; exact hg) hj h0
    have s12 := s1.tr s2
    obtain ⟨r, x', f', g', t1, t2, t3, t4⟩ := ih f1 f2 (k + 1) (if pv_ds A j (-nI k) < (if pv_ds A j (nI k) < L then pv_ds A j (nI k) else L) then pv_ds A j (-nI k) else if pv_ds A j (nI k) < L then pv_ds A j (nI k) else L) (if pv_ds A j (-nI k) < (if pv_ds A j (nI k) < L then pv_ds A j (nI k) else L) then -nI k else if pv_ds A j (nI k) < L then nI k else l2) x2 fa ga (by omega) (by omega) (by omega) (by omega) (by (repeat' split) <;> omega) (hC.s s12) (by rw [s12.2]; exact h6) (by rw [s12.2]; exact h7) (by rw [s12.1 b (by omega)]; exact hg) i1
    refine ⟨r, x', f', g', s12.tr t1, t2, ?_, i2.trans t4⟩
    rw [← t3, f_X12_bestShift_21, if_neg (show ¬ (39 : Int32) < nI k from nI_nlt (b := k) (a := 39) (by omega) (by omega)), c1, pp_b]
    unfold f_X12_bestShift_49
    show (if nI L ≤ nI (pv_ds A j (nI k)) then Option.bind (f_X12_distanceIfShifted (nI j) (-nI k) x1) _ else Option.bind (f_X12_distanceIfShifted (nI j) (-nI k) x1) _) = _
    rw [c2, pp_b, pp_b, nI_1]
    by_cases h : pv_ds A j (nI k) < L
    · rw [if_neg (nI_ge h hL)]
      simp only [if_pos h]
      show (if nI (pv_ds A j (nI k)) ≤ nI (pv_ds A j (-nI k)) then _ else _) = _
      by_cases h2 : pv_ds A j (-nI k) < pv_ds A j (nI k)
      · rw [if_neg (nI_ge h2 (by omega))]
        simp only [if_pos h2]
      · rw [if_pos (nI_le (by omega) (by omega))]
        simp only [if_neg h2]
    · rw [if_pos (nI_le (by omega) (by omega))]
      simp only [if_neg h]
      show (if nI L ≤ nI (pv_ds A j (-nI k)) then _ else _) = _
      by_cases h2 : pv_ds A j (-nI k) < L
      · rw [if_neg (nI_ge h2 (by omega))]
        simp only [if_pos h2]
      · rw [if_pos (nI_le (by omega) (by omega))]
        simp only [if_neg h2]
theorem pp_o34 {p : Int32} {x : CS} {y : MS} {o : Nat → Int32} (h : pp_R x y) : pp_OK (f_L_bestShift p x o) (f_X15_bestShift p y) := by
  have h0 := h
  obtain ⟨A, b, v, R, Z, nr, T, hA, hT, hC, hM, h3, h4, hB⟩ := h
  have hW := hA.1
  have hv := hC.1
  have hg : y 127 0 = nI (pv_g A) := hM.2.2.1
  have hg20 := hA.2.2.2
  have hb := hB.1
  have hbg := hB.2.2.2.2.2.1
  have hrm := hM.2.2.2.2
  have hrc := hC.2.2.2
  have ho : (p < 0 ∨ nI (pv_W A) ≤ p) → _ := fun q1 => pp_thrG (x1 := x) (y1 := y) (o := o) (r := 0) (k := 1) (fl := f_L_bestShift p x o) (fm := f_X15_bestShift p y) h0 (by decide) (by unfold f_L_bestShift f_X12_bestShift; rw [pp_rqO hT.2.1 hv hC.2.1 q1]; rfl) (by unfold f_X15_bestShift; rw [pp_ih1 (pp_tolO hM.2.1 hW q1)]; rfl)
  rcases pk_ix p (n := pv_W A) (by omega) with q1 | q1 | ⟨j, hj, rfl⟩
  · exact ho (Or.inl q1)
  · exact ho (Or.inr q1)
  · have hhl := hrc.2.1
    by_cases hz : pv_hl A = 0
    · refine pp_thrG (x1 := x) (y1 := y) (o := o) (r := 0) (k := 2) h0 (by decide) ?_ ?_
      · unfold f_L_bestShift f_X12_bestShift
        rw [pp_rqI hT.2.1 hv hC.2.1 hW hj, pp_b]
        show Option.bind (Option.bind (f_X12_requireSomeHeard x) _) _ = _
        rw [pp_shO (by rw [hrc.1, hz]; rfl)]
        rfl
      · unfold f_X15_bestShift
        rw [pp_ih2 (pp_tolI hM.2.1 hW hj) (by rw [show y 153 8 = nI (pv_hl A) from hrm.1, hz]; rfl)]
        rfl
    · have hz' : ¬ nI (pv_hl A) = 0 := nI_ne0 (by omega) (by omega)
      have hcs := pp_shI (x := x) (by rw [hrc.1]; exact hz')
      have hms := pp_ih3 (pp_tolI hM.2.1 hW hj) (by rw [show y 153 8 = nI (pv_hl A) from hrm.1]; exact hz')
      have hMt := hM.th (u := 0)
      have hrmt := hMt.2.2.2.2
      have hY9 : (g_mi (g_mi y 120 0 0) 153 9 (nI (pv_hl A))) 153 9 = nI (pv_hl A) := by rw [pp_g1, pp_g3, pp_u1]
      have hMY : pp_VM A (g_mi (g_mi y 120 0 0) 153 9 (nI (pv_hl A))) 152 := by
        have q1 : ∀ i, i ≠ 153 → (g_mi (g_mi y 120 0 0) 153 9 (nI (pv_hl A))) i = (g_mi y 120 0 0) i := fun i hi => by rw [pp_g1, pp_g4 hi]
        have q2 : ∀ k, k ≠ 9 → (g_mi (g_mi y 120 0 0) 153 9 (nI (pv_hl A))) 153 k = (g_mi y 120 0 0) 153 k := fun k hk => by rw [pp_g1, pp_g3, pp_u2 hk]
        refine ⟨Or.inl rfl, by rw [q1 127 (by omega)]; exact hMt.2.1, by rw [q1 127 (by omega)]; exact hMt.2.2.1, fun i hi => ⟨by rw [q1 _ (by omega)]; exact (hMt.2.2.2.1 i hi).1, ?_⟩, ?_⟩
        · obtain ⟨r1, r2, r3, r4⟩ := (hMt.2.2.2.1 i hi).2
          exact ⟨by show (g_mi (g_mi y 120 0 0) 153 9 (nI (pv_hl A))) 153 i = _; rw [q2 i (by omega)]; exact r1, r2, r3, fun k hk => by rw [q1 _ (by omega)]; exact r4 k hk⟩
        · obtain ⟨r1, r2, r3, r4⟩ := hrmt
          exact ⟨by show (g_mi (g_mi y 120 0 0) 153 9 (nI (pv_hl A))) 153 8 = _; rw [q2 8 (by omega)]; exact r1, r2, r3, fun k hk => by rw [q1 _ (by omega)]; exact r4 k hk⟩
      have hB2 : ∀ d, pv_ds A j d < 4000 := fun d => pv_dsB hA hC hj hz
      have b0 := hB2 0
      obtain ⟨x1, s1, c1⟩ := pp_dsC (d := 0) hA hC hb hT.1 hT.2.1 hbg hj hz
      obtain ⟨fa, ga, i1, i2⟩ := pp_b39 (fuel := 4095) (L := 536870912) (k := 0) (l2 := 0) (f := (g_mi (g_mi y 120 0 0) 153 9 (nI (pv_hl A))) 154) (g := (g_mi (g_mi y 120 0 0) 153 9 (nI (pv_hl A))) 160) hA hMY hY9 hj hz (by omega) (by omega) hB2 (fun _ _ => rfl)
      have n0 : -nI 0 = (0 : Int32) := by decide
      have n00 : nI 0 = (0 : Int32) := rfl
      rw [n0, n00] at i2
      simp only [if_pos (show pv_ds A j 0 < 536870912 by omega), if_neg (show ¬ pv_ds A j 0 < pv_ds A j 0 by omega)] at i2
      obtain ⟨r, x', f', g', t1, t2, t3, t4⟩ := pp_bL hA hb hMY hY9 hj hz 39 g_fuel 4095 1 (pv_ds A j 0) 0 x1 fa ga rfl (by decide) (by decide) (by decide) (by omega) (hC.s s1) (by rw [s1.2]; exact hT.1) (by rw [s1.2]; exact hT.2.1) (by rw [s1.1 b (by omega)]; exact hbg) i1
      have hfin : ∀ i, i ≠ 153 → i ≠ 154 → i ≠ 160 → (pp_bY (g_mi (g_mi y 120 0 0) 153 9 (nI (pv_hl A))) f' g') i = (g_mi y 120 0 0) i := fun i h1 h2 h3 => by unfold pp_bY; rw [pp_g4 h3, pp_g4 h2, pp_g1, pp_g4 h1]
      refine pp_fin (o := o) (r := r) (x1 := x') (y1 := pp_bY (g_mi (g_mi y 120 0 0) 153 9 (nI (pv_hl A))) f' g') ?_ ?_ (by rw [hfin 120 (by omega) (by omega) (by omega)]; exact pp_th0) ?_
      · unfold f_L_bestShift f_X12_bestShift
        rw [pp_rqI hT.2.1 hv hC.2.1 hW hj, pp_b, pp_sb]
        rw [hcs, pp_b, pp_sb]
        rw [c1, pp_b]
        rw [show f_X12_bestShift_21 g_fuel (nI j) 0 (nI (pv_ds A j 0)) 1 x1 = _ from t3]
        rfl
      · unfold f_X15_bestShift
        rw [hms, pp_b]
        show (if (1 : Int32) = 0 then _ else (if g_ok (8 : Int32) 10 = true then (if g_ok (9 : Int32) 10 = true then f_X15_bestShift_39 g_fuel (nI j) 0 536870912 0 (g_mi (g_mi y 120 0 0) 153 9 ((g_mi y 120 0 0) 153 8)) else _) else _)) = _
        rw [if_neg (by decide), if_pos (by decide), if_pos (by decide), show (g_mi y 120 0 0) 153 8 = nI (pv_hl A) from hrmt.1]
        have e9 : pp_bY (g_mi (g_mi y 120 0 0) 153 9 (nI (pv_hl A))) ((g_mi (g_mi y 120 0 0) 153 9 (nI (pv_hl A))) 154) ((g_mi (g_mi y 120 0 0) 153 9 (nI (pv_hl A))) 160) = g_mi (g_mi y 120 0 0) 153 9 (nI (pv_hl A)) := by unfold pp_bY; rw [pp_g5, pp_g5]
        rw [e9] at i2
        exact i2.trans t4
      · refine pp_R.mk (A' := A) hT hB (pp_Gc.ofS (s1.tr t1)) ⟨fun i h1 => ?_, ?_, ?_⟩ rfl rfl hA (hC.s (s1.tr t1)) (pp_bYM hA hMY t2) ?_ ?_
        · rw [hfin i (by omega) (by omega) (by omega), pp_g1, pp_g4 (by omega)]
        · rw [hfin 120 (by omega) (by omega) (by omega), pp_thn (by omega)]
        · rw [hfin 120 (by omega) (by omega) (by omega), pp_thn (by omega)]
        · rw [(s1.tr t1).1 v (by omega), hfin 152 (by omega) (by omega) (by omega), pp_thn (by omega)]; exact h3
        · rw [(s1.tr t1).1 v (by omega), hfin 152 (by omega) (by omega) (by omega), pp_thn (by omega)]; exact h4
