/-! rows of the class: contours, copies; what only scratch cells have in another state -/
def pp_Sc (x x' : CS) : Prop := (∀ i, (i < 9 ∨ i = 14 ∨ i = 15 ∨ 20 ≤ i) → x'.1 i = x.1 i) ∧ x'.2 = x.2
theorem pp_Sc.rf (x : CS) : pp_Sc x x := ⟨fun _ _ => rfl, rfl⟩
theorem pp_Sc.tr {x y z : CS} (h : pp_Sc x y) (k : pp_Sc y z) : pp_Sc x z := ⟨fun i hi => (k.1 i hi).trans (h.1 i hi), k.2.trans h.2⟩
theorem pp_Sc.wa {x y : CS} {i : Nat} {f : Nat → Int32} (h : pp_Sc x y) (h1 : 9 ≤ i) (h2 : i < 20) (h3 : i ≠ 14) (h4 : i ≠ 15) : pp_Sc x (g_wa y i f) := ⟨fun j hj => (pp_c4 (by omega)).trans (h.1 j hj), h.2⟩
theorem pp_RC.s {x x1 : CS} {t : Nat} {p : Nat → Nat} {n : Nat} (h : pp_RC x t p n) (hs : pp_Sc x x1) (ht : t = 14 ∨ 20 ≤ t) : pp_RC x1 t p n := h.e (hs.1 _ (by omega)) (hs.1 _ (by omega))
theorem pp_contC {x : CS} {t n k : Nat} {p : Nat → Nat} (h : pp_RC x t p n) (hn : 0 < n) (hk : k < 24) : f_X3_contour t (nI k) x = some (pp_ci p n k) := by
  have hn2 := h.2.1
  obtain ⟨n', rfl⟩ : ∃ n', n = n' + 1 := ⟨n - 1, by omega⟩
  unfold f_X3_contour pp_ci
  rw [if_neg (nI_pos (by omega)), h.1, nI_pred]
  by_cases h1 : k + 1 < n' + 1
  · have b1 := h.2.2.1 k
    have b2 := h.2.2.1 (k + 1)
    rw [if_pos (nI_lt (by omega) (by omega)), pp_pitC hk, pp_b, nI_1, pp_pitC (by omega), pp_b, h.2.2.2 k (by omega), h.2.2.2 (k + 1) h1, if_pos h1]
    rcases Nat.lt_trichotomy (p k) (p (k + 1)) with h2 | h2 | h2
    · rw [if_neg (nI_ge h2 (by omega)), if_pos h2]
    · rw [if_pos (nI_le (by omega) (by omega)), if_pos (nI_le (by omega) (by omega)), if_neg (by omega), if_neg (by omega)]
    · rw [if_pos (nI_le (by omega) (by omega)), if_neg (nI_ge h2 (by omega)), if_neg (by omega), if_pos h2]
  · rw [if_neg (nI_nlt (by omega) (by omega)), if_neg h1]
theorem pp_traceL {x : CS} {l0 l1 n : Nat} {p : Nat → Nat} (h0 : l1 ≠ l0 + 1) (h1 : l1 ≠ l0) (h : pp_RC x l1 p n) (hn : 0 < n) : ∀ d fuel k f, d = 24 - k → d < fuel → k ≤ 24 → ∃ f', (∀ j, j < k → f' j = f j) ∧ (∀ j, k ≤ j → j < 24 → f' j = pp_ci p n j) ∧ f_X3_traceContour_10 fuel l0 l1 (nI k) (g_wa x (l0 + 1) f) = some (g_wa x (l0 + 1) f') := by
  intro d
  induction d with
  | zero =>
    intro fuel k f hd hfu hk
    obtain ⟨fu, rfl⟩ : ∃ fu, fuel = fu + 1 := ⟨fuel - 1, by omega⟩
    refine ⟨f, fun _ _ => rfl, fun j hj hj2 => by omega, ?_⟩
    rw [f_X3_traceContour_10, pp_lit 24, if_pos (nI_le (by omega) (by omega))]
  | succ d ih =>
    intro fuel k f hd hfu hk
    obtain ⟨fu, rfl⟩ : ∃ fu, fuel = fu + 1 := ⟨fuel - 1, by omega⟩
    obtain ⟨f', e1, e2, e3⟩ := ih fu (k + 1) (upd f k (pp_ci p n k)) (by omega) (by omega) (by omega)
    refine ⟨f', fun j hj => ?_, fun j hj hj2 => ?_, ?_⟩
    · rw [e1 j (by omega), pp_u2 (by omega)]
    · rcases Nat.lt_or_ge k j with h2 | h2
      · exact e2 j (by omega) hj2
      · have e : j = k := by omega
        rw [e, e1 k (by omega), pp_u1]
    · rw [f_X3_traceContour_10, pp_lit 24, if_neg (nI_ge (by omega) (by omega)), pp_contC (h.e (pp_c4 h0) (pp_c4 (by omega))) hn (by omega), pp_b, if_pos ((pp_ok (by omega)).mpr (by omega)), nI_clamp (by omega), nI_1, pp_c1, pp_c2, pp_c3]
      exact e3
theorem pp_trace {x : CS} {l0 l1 n : Nat} {p : Nat → Nat} (h0 : l1 ≠ l0 + 1) (h1 : l1 ≠ l0) (h2 : l1 + 1 ≠ l0) (h : pp_RC x l1 p n) (hn : 0 < n) : ∃ f, (∀ j, j < 24 → f j = pp_ci p n j) ∧ f_X3_traceContour l0 l1 x = some (g_wa (g_wi x l0 1 (nI n)) (l0 + 1) f) := by
  have hx : pp_RC (g_wi x l0 1 (nI n)) l1 p n := h.e (pp_c4 h1) (pp_c4 h2)
  obtain ⟨f', -, e2, e3⟩ := pp_traceL (x := g_wi x l0 1 (nI n)) (l0 := l0) h0 h1 hx hn (24 - 0) g_fuel 0 ((g_wi x l0 1 (nI n)).1 (l0 + 1)) rfl (by unfold g_fuel; omega) (by omega)
  refine ⟨f', fun j hj => e2 j (by omega) hj, ?_⟩
  have e : g_wa (g_wi x l0 1 (nI n)) (l0 + 1) ((g_wi x l0 1 (nI n)).1 (l0 + 1)) = g_wi x l0 1 (nI n) := by
    rw [pp_c1]
    unfold g_wa
    refine Prod.ext ?_ rfl
    funext j
    show (if j = l0 + 1 then _ else _) = _
    split
    · rename_i hj; rw [hj]
    · rfl
  rw [e] at e3
  unfold f_X3_traceContour
  rw [h.1]
  exact e3
theorem pp_KC {x : CS} {l1 l2 : Nat} {n m g : Nat} {p q : Nat → Nat} (h1 : l1 = 14 ∨ 20 ≤ l1) (h2 : l2 = 14 ∨ 20 ≤ l2) (hA : pp_RC x l1 p n) (hB : pp_RC x l2 q m) (hn0 : 0 < n) (hm0 : 0 < m) (hg : g ≤ 20) : ∃ x', pp_Sc x x' ∧ f_X10_contourDistance l1 l2 (nI g) x = some (nI (pp_K g p n q m / 100), x') := by
  have hn := hA.2.1
  have hm := hB.2.1
  obtain ⟨f1, e1, t1⟩ := pp_trace (l0 := 10) (by omega) (by omega) (by omega) hA hn0
  have hB1 : pp_RC (g_wa (g_wi x 10 1 (nI n)) (10 + 1) f1) l2 q m := by
    rw [pp_c1]
    exact hB.e ((pp_c4 (by omega)).trans (pp_c4 (by omega))) ((pp_c4 (by omega)).trans (pp_c4 (by omega)))
  obtain ⟨f2, e2, t2⟩ := pp_trace (l0 := 12) (by omega) (by omega) (by omega) hB1 hm0
  have hS : pp_Sc x (g_wa (g_wi (g_wa (g_wi x 10 1 (nI n)) (10 + 1) f1) 12 1 (nI m)) (12 + 1) f2) := by
    rw [pp_c1, pp_c1]
    exact ((((pp_Sc.rf x).wa (by omega) (by omega) (by omega) (by omega)).wa (by omega) (by omega) (by omega) (by omega)).wa (by omega) (by omega) (by omega) (by omega)).wa (by omega) (by omega) (by omega) (by omega)
  obtain ⟨f3, t3⟩ := pp_lightC (x := g_wa (g_wi (g_wa (g_wi x 10 1 (nI n)) (10 + 1) f1) 12 1 (nI m)) (12 + 1) f2) (l1 := 10) (l2 := 12) (l4 := 1) (n := n) (m := m) (g := g) (c := fun i j => pp_cc (pp_ci p n i) (pp_ci q m j)) (by omega) (by omega) (by simp [g_wa, g_wi, upd]) (by simp [g_wa, g_wi, upd]) hn0 hm0 hn hm hg (fun f i j hi hj => by
    refine ⟨_, _, pp_pitC (by omega), pp_pitC (by omega), ?_⟩
    have a1 : (g_wa (g_wa (g_wi (g_wa (g_wi x 10 1 (nI n)) (10 + 1) f1) 12 1 (nI m)) (12 + 1) f2) 9 f).1 (10 + 1) i = pp_ci p n i := by
      simp only [g_wa, g_wi]
      exact e1 i (by omega)
    have a2 : (g_wa (g_wa (g_wi (g_wa (g_wi x 10 1 (nI n)) (10 + 1) f1) 12 1 (nI m)) (12 + 1) f2) 9 f).1 (12 + 1) j = pp_ci q m j := by
      simp only [g_wa, g_wi]
      exact e2 j (by omega)
    rw [a1, a2]
    exact pp_wgt1 _ _) (fun i j => pp_ccB _ _)
  have hG := pp_KG (g := g) (p := p) (q := q) hn0 hm0 hn hm
  obtain ⟨e, l⟩ := pp_ttg (by omega) hG
  refine ⟨_, hS.wa (i := 9) (f := f3) (by omega) (by omega) (by omega) (by omega), ?_⟩
  unfold f_X10_contourDistance
  rw [t1, pp_b, t2, pp_b, t3, pp_b]
  show some (nI (pp_tt (pp_K g p n q m)) / nI 64, _) = _
  rw [pk_div (by omega) (by omega) (by omega), e]
  have : (64 * (pp_K g p n q m / 100) + pp_K g p n q m % 100) / 64 = pp_K g p n q m / 100 := by
    unfold pp_gd at hG
    omega
  rw [this]
theorem pp_wae {x : CS} {i : Nat} : g_wa x i (x.1 i) = x := by
  unfold g_wa
  refine Prod.ext ?_ rfl
  funext j
  show (if j = i then _ else _) = _
  split
  · rename_i hj; rw [hj]
  · rfl
theorem pp_copyL {x : CS} {l0 l1 : Nat} (h0 : l1 ≠ l0) : ∀ d fuel k f, d = 24 - k → d < fuel → k ≤ 24 → ∃ f', (∀ j, j < k → f' j = f j) ∧ (∀ j, k ≤ j → j < 24 → f' j = x.1 (l1 + 1) j) ∧ f_X3_copyFrom_10 fuel l0 l1 (nI k) (g_wa x (l0 + 1) f) = some (g_wa x (l0 + 1) f') := by
  intro d
  induction d with
  | zero =>
    intro fuel k f hd hfu hk
    obtain ⟨fu, rfl⟩ : ∃ fu, fuel = fu + 1 := ⟨fuel - 1, by omega⟩
    refine ⟨f, fun _ _ => rfl, fun j hj hj2 => by omega, ?_⟩
    rw [f_X3_copyFrom_10, pp_lit 24, if_pos (nI_le (by omega) (by omega))]
  | succ d ih =>
    intro fuel k f hd hfu hk
    obtain ⟨fu, rfl⟩ : ∃ fu, fuel = fu + 1 := ⟨fuel - 1, by omega⟩
    obtain ⟨f', e1, e2, e3⟩ := ih fu (k + 1) (upd f k (x.1 (l1 + 1) k)) (by omega) (by omega) (by omega)
    refine ⟨f', fun j hj => ?_, fun j hj hj2 => ?_, ?_⟩
    · rw [e1 j (by omega), pp_u2 (by omega)]
    · rcases Nat.lt_or_ge k j with h2 | h2
      · exact e2 j (by omega) hj2
      · have e : j = k := by omega
        rw [e, e1 k (by omega), pp_u1]
    · rw [f_X3_copyFrom_10, pp_lit 24, if_neg (nI_ge (by omega) (by omega)), pp_pitC (by omega), pp_b, if_pos ((pp_ok (by omega)).mpr (by omega)), nI_clamp (by omega), nI_1, pp_c1, pp_c2, pp_c3, pp_c4 (by omega)]
      exact e3
theorem pp_copy {x : CS} {l0 l1 : Nat} (h0 : l1 ≠ l0) (h2 : l1 + 1 ≠ l0) : ∃ f, (∀ j, j < 24 → f j = x.1 (l1 + 1) j) ∧ f_X3_copyFrom l0 l1 x = some (g_wa (g_wi x l0 1 (x.1 l1 1)) (l0 + 1) f) := by
  obtain ⟨f', -, e2, e3⟩ := pp_copyL (x := g_wi x l0 1 (x.1 l1 1)) (l0 := l0) h0 (24 - 0) g_fuel 0 ((g_wi x l0 1 (x.1 l1 1)).1 (l0 + 1)) rfl (by unfold g_fuel; omega) (by omega)
  refine ⟨f', fun j hj => ?_, ?_⟩
  · rw [e2 j (by omega) hj, pp_c1, pp_c4 h2]
  · rw [pp_wae] at e3
    unfold f_X3_copyFrom
    exact e3
theorem pp_copyR {x : CS} {l0 l1 n : Nat} {p : Nat → Nat} (h0 : l1 ≠ l0) (h2 : l1 + 1 ≠ l0) (h : pp_RC x l1 p n) : ∃ f, f_X3_copyFrom l0 l1 x = some (g_wa (g_wi x l0 1 (nI n)) (l0 + 1) f) ∧ pp_RC (g_wa (g_wi x l0 1 (nI n)) (l0 + 1) f) l0 p n := by
  obtain ⟨f, e1, e2⟩ := pp_copy h0 h2
  rw [h.1] at e2
  have hn := h.2.1
  refine ⟨f, e2, ?_, hn, h.2.2.1, fun k hk => ?_⟩
  · rw [pp_c4 (by omega), pp_c1, pp_c3, pp_u1]
  · rw [pp_c3, e1 k (by omega)]
    exact h.2.2.2 k hk

