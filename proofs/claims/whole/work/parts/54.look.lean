/-! calls that only look, the others -/
theorem pp_k7 {b : Nat} (h : b = 20 ∨ b = 70) : kd b = 7 := by rcases h with rfl | rfl <;> decide
def pv_dd (A : PV) (i j : Nat) : Nat := pp_D (pv_g A) (pv_pt A i) (pv_ln A i) (pv_pt A j) (pv_ln A j) / 100
theorem pv_ddB {A : PV} {x : CS} {v i j : Nat} (hA : pv_ok A) (hC : pp_VC A x v) (hi : i < pv_W A) (hj : j < pv_W A) : pv_dd A i j < 4000 := by
  have r1 := (hC.2.2.1 i hi).2.2
  have r2 := (hC.2.2.1 j hj).2.2
  have := pp_gdF (pp_DG (g := pv_g A) r1.2.2.1 r2.2.2.1 (hA.2.2.1 i hi) (hA.2.2.1 j hj) r1.2.1 r2.2.1) (by omega)
  unfold pv_dd
  omega
theorem pp_apartC {A : PV} {x : CS} {b v i j : Nat} (hA : pv_ok A) (hC : pp_VC A x v) (hb : b = 20 ∨ b = 70) (h6 : x.2 0 6 = b) (h7 : x.2 0 7 = v) (hg : x.1 b 6 = nI (pv_g A)) (hi : i < pv_W A) (hj : j < pv_W A) : ∃ f, f_X12_wordsApart (nI i) (nI j) x = some (nI (pv_dd A i j), g_wa x 9 f) := by
  have hW := hA.1
  have hv := hC.1
  obtain ⟨f, hf⟩ := pp_distC (g := pv_g A) (by unfold pp_wd; omega) (by unfold pp_wd; omega) (by unfold pp_wd; omega) (by unfold pp_wd; omega) (hC.2.2.1 i hi).2.2 (hC.2.2.1 j hj).2.2 (hA.2.2.1 i hi) (hA.2.2.1 j hj) hA.2.2.2
  refine ⟨f, ?_⟩
  unfold f_X12_wordsApart
  rw [pp_rowO h7 hv (by omega), pp_b, if_pos (pp_k5 hv (by omega)), pp_rowO h7 hv (by omega), pp_b, if_pos (pp_k5 hv (by omega)), h6, if_pos (pp_k7 hb), hg, hf]
  rfl
theorem pp_apartM {A : PV} {y : MS} {s i j : Nat} (hA : pv_ok A) (hM : pp_VM A y s) (hi : i < pv_W A) (hj : j < pv_W A) : ∃ f, f_X15_distance s (nI i) (nI j) y = some (nI (pv_dd A i j), g_ma y 160 f) := by
  have hW := hA.1
  have hs := hM.1
  exact pp_distM (by omega) (hM.2.2.2.1 i hi).2 (hM.2.2.2.1 j hj).2 (by omega) (by omega) (hA.2.2.1 i hi) (hA.2.2.1 j hj) hM.2.2.1 hA.2.2.2
theorem pv_ddC (A : PV) (i j : Nat) : pv_dd A i j = pv_dd A j i := by
  unfold pv_dd
  rw [pp_DC]
def pv_ne (A : PV) (nr i j : Nat) : Nat := if i = j then 0 else if pv_dd A i j < nr * max (pv_ln A i) (pv_ln A j) / 4 then 1 else 0
theorem pp_nearC {A : PV} {x : CS} {b v i j nr : Nat} (hA : pv_ok A) (hC : pp_VC A x v) (hb : b = 20 ∨ b = 70) (h6 : x.2 0 6 = b) (h7 : x.2 0 7 = v) (hg : x.1 b 6 = nI (pv_g A)) (hn : x.1 b 7 = nI nr) (hn9 : nr ≤ 99) (hi : i < pv_W A) (hj : j < pv_W A) : ∃ f, f_X12_nearEachOther (nI i) (nI j) x = some (nI (pv_ne A nr i j), g_wa x 9 f) := by
  have hW := hA.1
  have hv := hC.1
  have r1 := (hC.2.2.1 i hi).2.2
  have r2 := (hC.2.2.1 j hj).2.2
  have l1 := r1.2.1
  have l2 := r2.2.1
  have hB := pv_ddB hA hC hi hj
  unfold f_X12_nearEachOther pv_ne
  rw [pp_rowO h7 hv (by omega), pp_b, if_pos (pp_k5 hv (by omega)), pp_rowO h7 hv (by omega), pp_b, if_pos (pp_k5 hv (by omega))]
  by_cases e : i = j
  · rw [if_pos (by rw [e]), if_pos e]
    exact ⟨x.1 9, by rw [pp_wae]; rfl⟩
  · rw [if_neg (by rw [nI_eq (by omega) (by omega)]; exact e), if_neg e]
    obtain ⟨f, hf⟩ := pp_apartC hA hC hb h6 h7 hg hi hj
    refine ⟨f, ?_⟩
    have hmx : nr * max (pv_ln A i) (pv_ln A j) ≤ 99 * 24 := Nat.mul_le_mul hn9 (by omega)
    rw [hf, pp_b, r1.1, r2.1, pp_max (by omega) (by omega)]
    show (if kd (x.2 0 6) = 7 then (if ((g_wa x 9 f).1 (x.2 0 6) 7 * _) / 4 ≤ nI (pv_dd A i j) then _ else _) else _) = _
    rw [h6, if_pos (pp_k7 hb), pp_c4 (by omega), hn, pk_mul, pp_lit 4, pk_div (by omega) (by omega) (by omega)]
    by_cases hlt : pv_dd A i j < nr * max (pv_ln A i) (pv_ln A j) / 4
    · rw [if_neg (nI_ge hlt (by omega)), if_pos hlt]; rfl
    · rw [if_pos (nI_le (by omega) (by omega)), if_neg hlt]; rfl
theorem pp_nearM {A : PV} {y : MS} {i j nr : Nat} (hA : pv_ok A) (hM : pp_VM A y 152) (hn : y 127 1 = nI nr) (hn9 : nr ≤ 99) (hi : i < pv_W A) (hj : j < pv_W A) : ∃ f, f_X15_near 152 (nI i) (nI j) y = some (nI (pv_ne A nr i j), g_ma y 160 f) := by
  have hW := hA.1
  have r1 := (hM.2.2.2.1 i hi).2
  have r2 := (hM.2.2.2.1 j hj).2
  have l1 := r1.2.1
  have l2 := r2.2.1
  have hB : pv_dd A i j < 4000 := by
    have := pp_gdF (pp_DG (g := pv_g A) r1.2.2.1 r2.2.2.1 (hA.2.2.1 i hi) (hA.2.2.1 j hj) r1.2.1 r2.2.1) (by omega)
    unfold pv_dd
    omega
  unfold f_X15_near pv_ne
  by_cases e : i = j
  · rw [if_pos (by rw [e]), if_pos e]
    exact ⟨y 160, by rw [pp_g5]; rfl⟩
  · rw [if_neg (by rw [nI_eq (by omega) (by omega)]; exact e), if_neg e]
    obtain ⟨f, hf⟩ := pp_apartM hA hM hi hj
    refine ⟨f, ?_⟩
    have hmx : nr * max (pv_ln A i) (pv_ln A j) ≤ 99 * 24 := Nat.mul_le_mul hn9 (by omega)
    rw [hf, pp_b, if_pos ((pp_ok (by omega)).mpr (by omega)), if_pos ((pp_ok (by omega)).mpr (by omega)), nI_clamp (by omega), nI_clamp (by omega)]
    show (if ((g_ma y 160 f) 127 1 * g_max ((g_ma y 160 f) 153 i) ((g_ma y 160 f) 153 j)) / 4 ≤ nI (pv_dd A i j) then _ else _) = _
    rw [pp_g4 (by omega), pp_g4 (by omega), r1.1, r2.1, hn, pp_max (by omega) (by omega), pk_mul, pp_lit 4, pk_div (by omega) (by omega) (by omega)]
    by_cases hlt : pv_dd A i j < nr * max (pv_ln A i) (pv_ln A j) / 4
    · rw [if_neg (nI_ge hlt (by omega)), if_pos hlt]; rfl
    · rw [if_pos (nI_le (by omega) (by omega)), if_neg hlt]; rfl
theorem pv_ne1 (A : PV) (nr i j : Nat) : pv_ne A nr i j ≤ 1 := by
  unfold pv_ne
  repeat' split
  all_goals omega
/-- only scratch cells have changed: all holds as it did -/
theorem pp_R.sc {x x1 : CS} {y y1 : MS} (h : pp_R x y) (h1 : pp_Sc x x1) (h2 : pp_Gm y y1) (h3 : ∀ i, 152 ≤ i → i ≤ 155 → y1 i = y i) : pp_R x1 y1 := by
  obtain ⟨A, b, v, R, Z, nr, T, hA, hT, hC, hM, k3, k4, hB⟩ := h
  have hv := hC.1
  refine pp_R.mk hT hB (pp_Gc.ofS h1) h2 rfl rfl hA (hC.s h1) (hM.e ?_ ?_ (h3 _ (by omega) (by omega)) (h3 _ (by omega) (by omega)) (h3 _ (by omega) (by omega))) ?_ ?_
  · rw [h2.1 127 (by omega)]
  · rw [h2.1 127 (by omega)]
  · rw [h1.1 v (by omega), h3 152 (by omega) (by omega)]; exact k3
  · rw [h1.1 v (by omega), h3 152 (by omega) (by omega)]; exact k4
theorem pp_R.s9 {x : CS} {y : MS} {f g : Nat → Int32} {u : Int32} (h : pp_R x y) : pp_R (g_wa x 9 f) (g_ma (g_mi y 120 0 u) 160 g) :=
  h.sc ((pp_Sc.rf x).wa (by omega) (by omega) (by omega) (by omega)) ((pp_Gm.rf y).th.ma (by omega)) (fun i _ _ => by rw [pp_g4 (by omega), pp_g1, pp_g4 (by omega)])
theorem pp_R.s8 {x x1 : CS} {y : MS} {g : Nat → Int32} {u : Int32} (h : pp_R x y) (h1 : pp_Sc x x1) : pp_R x1 (g_ma (g_mi y 120 0 u) 160 g) :=
  h.sc h1 ((pp_Gm.rf y).th.ma (by omega)) (fun i _ _ => by rw [pp_g4 (by omega), pp_g1, pp_g4 (by omega)])
theorem pp_VM.th {A : PV} {y : MS} {s : Nat} {u : Int32} (h : pp_VM A y s) : pp_VM A (g_mi y 120 0 u) s := by
  have := h.1
  rw [pp_g1]
  exact h.f (by omega) (by omega) (by omega) (by omega)
theorem pp_o13 {p : Int32} {x : CS} {y : MS} {o : Nat → Int32} (h : pp_R x y) : pp_OK (f_L_isPruned p x o) (f_X15_isPruned p y) := by
  have h0 := h
  obtain ⟨A, b, v, R, Z, nr, T, hA, hT, hC, hM, h3, h4, hB⟩ := h
  have hW := hA.1
  have hv := hC.1
  have hg : y 127 0 = nI (pv_g A) := hM.2.2.1
  have hg20 := hA.2.2.2
  have hb := hB.1
  have hbg := hB.2.2.2.2.2.1
  have ho : (p < 0 ∨ nI (pv_W A) ≤ p) → _ := fun q1 => pp_thr (u := 0) (o := o) (r := 0) (k := 1) (fl := f_L_isPruned p x o) (fm := f_X15_isPruned p y) h0 (by decide) (by unfold f_L_isPruned f_X12_isPruned; rw [pp_rqO hT.2.1 hv hC.2.1 q1]; rfl) (by unfold f_X15_isPruned; rw [pp_tolO ((pp_thn (by omega)).trans hM.2.1) hW q1]; rfl)
  rcases pk_ix p (n := pv_W A) (by omega) with q1 | q1 | ⟨j, hj, rfl⟩
  · exact ho (Or.inl q1)
  · exact ho (Or.inr q1)
  · obtain ⟨a1, a2⟩ := hM.2.2.2.1 j hj
    have hp := hA.2.1 j
    refine pp_fin (o := o) (x1 := x) (y1 := g_mi y 120 0 0) (r := nI (pv_pr A j)) ?_ ?_ pp_th0 h0.th
    · unfold f_L_isPruned f_X12_isPruned
      rw [pp_rqI hT.2.1 hv hC.2.1 hW hj, pp_b]
      show Option.bind (if kd (x.2 0 7) = 9 then _ else _) _ = _
      rw [hT.2.1, if_pos (pp_k9 hv), pp_word (by omega), pp_b, if_pos (pp_k10 hv (by omega)), (hC.2.2.1 j hj).1, if_pos (pp_01n hp), pp_b]
      rcases pp_01n hp with e | e <;> rw [e] <;> rfl
    · unfold f_X15_isPruned
      rw [pp_tolI ((pp_thn (by omega)).trans hM.2.1) hW hj, pp_b, if_neg (by decide), if_pos ((pp_ok (by omega)).mpr (by omega)), nI_clamp (by omega), pp_thn (by omega)]
      show (if y (152 + 3) j = 1 then _ else _) = _
      rw [a1]
      rcases pp_01n hp with e | e <;> rw [e] <;> rfl
def pp_sl (p : Nat → Nat) : Nat → Nat
  | 0 => 0
  | k + 1 => pp_sl p k + (if p k = 0 then 1 else 0)
theorem pp_slS (p : Nat → Nat) (k : Nat) : pp_sl p (k + 1) = pp_sl p k + (if p k = 0 then 1 else 0) := rfl
theorem pp_silC {x : CS} {t n : Nat} {p : Nat → Nat} (h : pp_RC x t p n) : f_X3_countSilent t x = some (nI (pp_sl p n)) := by
  have hn := h.2.1
  have key : ∀ d fuel k, d = n - k → d < fuel → k ≤ n → f_X3_countSilent_4 x fuel t (nI (pp_sl p k)) (nI k) = some (nI (pp_sl p n)) := by
    intro d
    induction d with
    | zero =>
      intro fuel k hd hfu hk
      obtain ⟨fu, rfl⟩ : ∃ fu, fuel = fu + 1 := ⟨fuel - 1, by omega⟩
      have e : k = n := by omega
      rw [f_X3_countSilent_4, h.1, if_pos (nI_le (by omega) (by omega)), e]
    | succ d ih =>
      intro fuel k hd hfu hk
      obtain ⟨fu, rfl⟩ : ∃ fu, fuel = fu + 1 := ⟨fuel - 1, by omega⟩
      have i := ih fu (k + 1) (by omega) (by omega) (by omega)
      have b1 := h.2.2.1 k
      rw [pp_slS] at i
      rw [f_X3_countSilent_4, h.1, if_neg (nI_ge (by omega) (by omega)), pp_pitC (by omega), pp_b, h.2.2.2 k (by omega), nI_1, nI_1]
      by_cases h0 : p k = 0
      · rw [if_pos (by rw [h0]; rfl)]
        rw [if_pos h0] at i
        exact i
      · rw [if_neg (nI_ne0 (by omega) (by omega))]
        rw [if_neg h0] at i
        exact i
  exact key (n - 0) g_fuel 0 rfl (by unfold g_fuel; omega) (by omega)
theorem pp_silM {y : MS} {j n : Nat} {p : Nat → Nat} (h : pp_RM y 152 j p n) (hj : j < 10) : f_X15_silentBeats_23 g_fuel (nI j) 0 0 y = some (nI (pp_sl p n), y) := by
  have hn := h.2.1
  have key : ∀ d fuel k, d = n - k → d < fuel → k ≤ n → f_X15_silentBeats_23 fuel (nI j) (nI (pp_sl p k)) (nI k) y = some (nI (pp_sl p n), y) := by
    intro d
    induction d with
    | zero =>
      intro fuel k hd hfu hk
      obtain ⟨fu, rfl⟩ : ∃ fu, fuel = fu + 1 := ⟨fuel - 1, by omega⟩
      have e : k = n := by omega
      rw [f_X15_silentBeats_23, if_pos ((pp_ok (by omega)).mpr hj), nI_clamp (by omega), h.1, if_pos (nI_le (by omega) (by omega)), e]
    | succ d ih =>
      intro fuel k hd hfu hk
      obtain ⟨fu, rfl⟩ : ∃ fu, fuel = fu + 1 := ⟨fuel - 1, by omega⟩
      have i := ih fu (k + 1) (by omega) (by omega) (by omega)
      have b1 := h.2.2.1 k
      rw [pp_slS] at i
      rw [f_X15_silentBeats_23, if_pos ((pp_ok (by omega)).mpr hj), nI_clamp (by omega), h.1, if_neg (nI_ge (by omega) (by omega)), show (24 : Int32) * nI j + nI k = nI (24 * j + k) by rw [pp_lit 24, pk_mul, nI_add], if_pos ((pp_ok (by omega)).mpr (by omega)), nI_clamp (by omega), h.2.2.2 k (by omega), nI_1, nI_1]
      by_cases h0 : p k = 0
      · rw [if_pos (by rw [h0]; rfl)]
        rw [if_pos h0] at i
        exact i
      · rw [if_neg (nI_ne0 (by omega) (by omega))]
        rw [if_neg h0] at i
        rw [show nI (pp_sl p k) + (0 : Int32) = nI (pp_sl p k + 0) from nI_add _ 0]
        exact i
  exact key (n - 0) g_fuel 0 rfl (by unfold g_fuel; omega) (by omega)
theorem pp_o14 {p : Int32} {x : CS} {y : MS} {o : Nat → Int32} (h : pp_R x y) : pp_OK (f_L_silentBeats p x o) (f_X15_silentBeats p y) := by
  have h0 := h
  obtain ⟨A, b, v, R, Z, nr, T, hA, hT, hC, hM, h3, h4, hB⟩ := h
  have hW := hA.1
  have hv := hC.1
  have hg : y 127 0 = nI (pv_g A) := hM.2.2.1
  have hg20 := hA.2.2.2
  have hb := hB.1
  have hbg := hB.2.2.2.2.2.1
  have ho : (p < 0 ∨ nI (pv_W A) ≤ p) → _ := fun q1 => pp_thr (u := 0) (o := o) (r := 0) (k := 1) (fl := f_L_silentBeats p x o) (fm := f_X15_silentBeats p y) h0 (by decide) (by unfold f_L_silentBeats f_X12_silentBeats; rw [pp_rqO hT.2.1 hv hC.2.1 q1]; rfl) (by unfold f_X15_silentBeats; rw [pp_tolO ((pp_thn (by omega)).trans hM.2.1) hW q1]; rfl)
  rcases pk_ix p (n := pv_W A) (by omega) with q1 | q1 | ⟨j, hj, rfl⟩
  · exact ho (Or.inl q1)
  · exact ho (Or.inr q1)
  · obtain ⟨a1, a2⟩ := hM.2.2.2.1 j hj
    refine pp_fin (o := o) (x1 := x) (y1 := g_mi y 120 0 0) (r := nI (pp_sl (pv_pt A j) (pv_ln A j))) ?_ ?_ pp_th0 h0.th
    · unfold f_L_silentBeats f_X12_silentBeats
      rw [pp_rqI hT.2.1 hv hC.2.1 hW hj, pp_b]
      show Option.bind (Option.bind (f_X12_rowOf (nI j) x) _) _ = _
      rw [pp_rowO hT.2.1 hv (by omega), pp_b, if_pos (pp_k5 hv (by omega)), pp_silC (hC.2.2.1 j hj).2.2]
      rfl
    · unfold f_X15_silentBeats
      rw [pp_tolI ((pp_thn (by omega)).trans hM.2.1) hW hj, pp_b, if_neg (by decide)]
      exact pp_silM (hM.th.2.2.2.1 j hj).2 (by omega)
theorem pp_o15 {p q : Int32} {x : CS} {y : MS} {o : Nat → Int32} (h : pp_R x y) : pp_OK (f_L_distanceBetween p q x o) (f_X15_distanceBetween p q y) := by
  have h0 := h
  obtain ⟨A, b, v, R, Z, nr, T, hA, hT, hC, hM, h3, h4, hB⟩ := h
  have hW := hA.1
  have hv := hC.1
  have hg : y 127 0 = nI (pv_g A) := hM.2.2.1
  have hg20 := hA.2.2.2
  have hb := hB.1
  have hbg := hB.2.2.2.2.2.1
  have ho : (p < 0 ∨ nI (pv_W A) ≤ p) → _ := fun q1 => pp_thr (u := 0) (o := o) (r := 0) (k := 1) (fl := f_L_distanceBetween p q x o) (fm := f_X15_distanceBetween p q y) h0 (by decide) (by unfold f_L_distanceBetween f_X12_distanceBetween; rw [pp_rqO hT.2.1 hv hC.2.1 q1]; rfl) (by unfold f_X15_distanceBetween; rw [pp_tolO ((pp_thn (by omega)).trans hM.2.1) hW q1]; rfl)
  rcases pk_ix p (n := pv_W A) (by omega) with q1 | q1 | ⟨i, hi, rfl⟩
  · exact ho (Or.inl q1)
  · exact ho (Or.inr q1)
  · have hcl : f_L_distanceBetween (nI i) q x o = Option.bind (Option.bind (f_X12_requireWord q x) fun q2 => g_sb q2 (fun _ => (f_X12_wordsApart (nI i) q x).bind fun q3 => some (Sum.inr ((q3.1, q3.2))))) (fun r => match r with | .inl u => if u = 3 then some ((1 : Int32), x, o) else none | .inr r => some ((0 : Int32), r.2, upd o 0 r.1)) := by
      unfold f_L_distanceBetween f_X12_distanceBetween
      rw [pp_rqI hT.2.1 hv hC.2.1 hW hi, pp_b]
      rfl
    have hml : f_X15_distanceBetween (nI i) q y = Option.bind (f_X15_isTold q (g_mi y 120 0 0)) (fun q3 => if q3 = 0 then (f_X15_distanceBetween_34 (g_mi y 120 0 (0 : Int32))) else ((f_X15_distance 152 (nI i) q (g_mi y 120 0 (0 : Int32))).bind fun q5 => some ((q5.1, q5.2)))) := by
      unfold f_X15_distanceBetween
      rw [pp_tolI ((pp_thn (by omega)).trans hM.2.1) hW hi, pp_b, if_neg (by decide)]
    have ho2 : (q < 0 ∨ nI (pv_W A) ≤ q) → _ := fun q1 => pp_thr (u := 0) (o := o) (r := 0) (k := 1) (fl := f_L_distanceBetween (nI i) q x o) (fm := f_X15_distanceBetween (nI i) q y) h0 (by decide) (by rw [hcl, pp_rqO hT.2.1 hv hC.2.1 q1]; rfl) (by rw [hml, pp_tolO ((pp_thn (by omega)).trans hM.2.1) hW q1]; rfl)
    rcases pk_ix q (n := pv_W A) (by omega) with q1 | q1 | ⟨j, hj, rfl⟩
    · exact ho2 (Or.inl q1)
    · exact ho2 (Or.inr q1)
    · rw [pp_rqI hT.2.1 hv hC.2.1 hW hj, pp_b] at hcl
      rw [pp_tolI ((pp_thn (by omega)).trans hM.2.1) hW hj, pp_b, if_neg (by decide)] at hml
      obtain ⟨f, hf⟩ := pp_apartC hA hC hb hT.1 hT.2.1 hbg hi hj
      obtain ⟨g, hgm⟩ := pp_apartM hA (hM.th (u := 0)) hi hj
      refine pp_fin (o := o) (r := nI (pv_dd A i j)) (x1 := g_wa x 9 f) (y1 := g_ma (g_mi y 120 0 0) 160 g) ?_ ?_ ?_ h0.s9
      · rw [hcl]
        show Option.bind (Option.bind (f_X12_wordsApart (nI i) (nI j) x) _) _ = _
        rw [hf]; rfl
      · rw [hml, hgm]; rfl
      · rw [pp_g4 (by omega)]; exact pp_th0
theorem pp_o16 {p q : Int32} {x : CS} {y : MS} {o : Nat → Int32} (h : pp_R x y) : pp_OK (f_L_contourBetween p q x o) (f_X15_contourBetween p q y) := by
  have h0 := h
  obtain ⟨A, b, v, R, Z, nr, T, hA, hT, hC, hM, h3, h4, hB⟩ := h
  have hW := hA.1
  have hv := hC.1
  have hg : y 127 0 = nI (pv_g A) := hM.2.2.1
  have hg20 := hA.2.2.2
  have hb := hB.1
  have hbg := hB.2.2.2.2.2.1
  have ho : (p < 0 ∨ nI (pv_W A) ≤ p) → _ := fun q1 => pp_thr (u := 0) (o := o) (r := 0) (k := 1) (fl := f_L_contourBetween p q x o) (fm := f_X15_contourBetween p q y) h0 (by decide) (by unfold f_L_contourBetween f_X12_contourBetween; rw [pp_rqO hT.2.1 hv hC.2.1 q1]; rfl) (by unfold f_X15_contourBetween; rw [pp_tolO ((pp_thn (by omega)).trans hM.2.1) hW q1]; rfl)
  rcases pk_ix p (n := pv_W A) (by omega) with q1 | q1 | ⟨i, hi, rfl⟩
  · exact ho (Or.inl q1)
  · exact ho (Or.inr q1)
  · have hcl : f_L_contourBetween (nI i) q x o = Option.bind (Option.bind (f_X12_requireWord q x) fun q2 => g_sb q2 (fun _ => (f_X12_rowOf (nI i) x).bind fun q3 => if kd (q3) = 5 then ((f_X12_rowOf q x).bind fun q5 => if kd (q5) = 5 then (if kd (x.2 0 6) = 7 then ((f_X10_contourDistance q3 q5 (x.1 (x.2 0 6) 6) x).bind fun q8 => some (Sum.inr ((q8.1, q8.2)))) else none) else none) else none)) (fun r => match r with | .inl u => if u = 3 then some ((1 : Int32), x, o) else none | .inr r => some ((0 : Int32), r.2, upd o 0 r.1)) := by
      unfold f_L_contourBetween f_X12_contourBetween
      rw [pp_rqI hT.2.1 hv hC.2.1 hW hi, pp_b]
      rfl
    have hml : f_X15_contourBetween (nI i) q y = Option.bind (f_X15_isTold q (g_mi y 120 0 0)) (fun q3 => if q3 = 0 then (f_X15_contourBetween_38 (g_mi y 120 0 (0 : Int32))) else ((f_X15_way 152 (nI i) q (1 : Int32) (g_mi y 120 0 (0 : Int32))).bind fun q5 => some ((q5.1 / (100 : Int32), q5.2)))) := by
      unfold f_X15_contourBetween
      rw [pp_tolI ((pp_thn (by omega)).trans hM.2.1) hW hi, pp_b, if_neg (by decide)]
    have ho2 : (q < 0 ∨ nI (pv_W A) ≤ q) → _ := fun q1 => pp_thr (u := 0) (o := o) (r := 0) (k := 1) (fl := f_L_contourBetween (nI i) q x o) (fm := f_X15_contourBetween (nI i) q y) h0 (by decide) (by rw [hcl, pp_rqO hT.2.1 hv hC.2.1 q1]; rfl) (by rw [hml, pp_tolO ((pp_thn (by omega)).trans hM.2.1) hW q1]; rfl)
    rcases pk_ix q (n := pv_W A) (by omega) with q1 | q1 | ⟨j, hj, rfl⟩
    · exact ho2 (Or.inl q1)
    · exact ho2 (Or.inr q1)
    · rw [pp_rqI hT.2.1 hv hC.2.1 hW hj, pp_b] at hcl
      rw [pp_tolI ((pp_thn (by omega)).trans hM.2.1) hW hj, pp_b, if_neg (by decide)] at hml
      have r1 := (hC.2.2.1 i hi).2.2
      have r2 := (hC.2.2.1 j hj).2.2
      obtain ⟨x1, hx1, hf⟩ := pp_KC (g := pv_g A) (by unfold pp_wd; omega) (by unfold pp_wd; omega) r1 r2 (hA.2.2.1 i hi) (hA.2.2.1 j hj) hg20
      have hMt := hM.th (u := 0)
      obtain ⟨g, hgm⟩ := pp_wayM1 (by omega) (hMt.2.2.2.1 i hi).2 (hMt.2.2.2.1 j hj).2 (by omega) (by omega) (hA.2.2.1 i hi) (hA.2.2.1 j hj) hMt.2.2.1 hg20
      have hB2 := pp_gdF (pp_KG (g := pv_g A) (p := pv_pt A i) (q := pv_pt A j) (hA.2.2.1 i hi) (hA.2.2.1 j hj) r1.2.1 r2.2.1) (by omega)
      refine pp_fin (o := o) (r := nI (pp_K (pv_g A) (pv_pt A i) (pv_ln A i) (pv_pt A j) (pv_ln A j) / 100)) (x1 := x1) (y1 := g_ma (g_mi y 120 0 0) 160 g) ?_ ?_ ?_ (h0.s8 hx1)
      · rw [hcl]
        show Option.bind (Option.bind (f_X12_rowOf (nI i) x) _) _ = _
        rw [pp_rowO hT.2.1 hv (by omega), pp_b, if_pos (pp_k5 hv (by omega)), pp_rowO hT.2.1 hv (by omega), pp_b, if_pos (pp_k5 hv (by omega)), hT.1, if_pos (pp_k7 hb), hbg, hf]
        rfl
      · rw [hml, hgm, pp_b]
        show some (nI _ / nI 100, _) = _
        rw [pk_div (by omega) (by omega) (by omega)]
      · rw [pp_g4 (by omega)]; exact pp_th0
theorem pp_o17 {p q : Int32} {x : CS} {y : MS} {o : Nat → Int32} (h : pp_R x y) : pp_OK (f_L_areNear p q x o) (f_X15_areNear p q y) := by
  have h0 := h
  obtain ⟨A, b, v, R, Z, nr, T, hA, hT, hC, hM, h3, h4, hB⟩ := h
  have hW := hA.1
  have hv := hC.1
  have hg : y 127 0 = nI (pv_g A) := hM.2.2.1
  have hg20 := hA.2.2.2
  have hb := hB.1
  have hbg := hB.2.2.2.2.2.1
  have ho : (p < 0 ∨ nI (pv_W A) ≤ p) → _ := fun q1 => pp_thr (u := 0) (o := o) (r := 0) (k := 1) (fl := f_L_areNear p q x o) (fm := f_X15_areNear p q y) h0 (by decide) (by unfold f_L_areNear f_X12_areNear; rw [pp_rqO hT.2.1 hv hC.2.1 q1]; rfl) (by unfold f_X15_areNear; rw [pp_tolO ((pp_thn (by omega)).trans hM.2.1) hW q1]; rfl)
  rcases pk_ix p (n := pv_W A) (by omega) with q1 | q1 | ⟨i, hi, rfl⟩
  · exact ho (Or.inl q1)
  · exact ho (Or.inr q1)
  · have hcl : f_L_areNear (nI i) q x o = Option.bind (Option.bind (f_X12_requireWord q x) fun q2 => g_sb q2 (fun _ => (f_X12_nearEachOther (nI i) q x).bind fun q3 => if q3.1 = 0 ∨ q3.1 = 1 then (some (Sum.inr ((q3.1, q3.2)))) else none)) (fun r => match r with | .inl u => if u = 3 then some ((1 : Int32), x, o) else none | .inr r => some ((0 : Int32), r.2, upd o 0 (if r.1 = 0 then 0 else 1))) := by
      unfold f_L_areNear f_X12_areNear
      rw [pp_rqI hT.2.1 hv hC.2.1 hW hi, pp_b]
      rfl
    have hml : f_X15_areNear (nI i) q y = Option.bind (f_X15_isTold q (g_mi y 120 0 0)) (fun q3 => if q3 = 0 then (f_X15_areNear_34 (g_mi y 120 0 (0 : Int32))) else ((f_X15_near 152 (nI i) q (g_mi y 120 0 (0 : Int32))).bind fun q5 => if q5.1 = 0 ∨ q5.1 = 1 then (some ((q5.1, q5.2))) else none)) := by
      unfold f_X15_areNear
      rw [pp_tolI ((pp_thn (by omega)).trans hM.2.1) hW hi, pp_b, if_neg (by decide)]
    have ho2 : (q < 0 ∨ nI (pv_W A) ≤ q) → _ := fun q1 => pp_thr (u := 0) (o := o) (r := 0) (k := 1) (fl := f_L_areNear (nI i) q x o) (fm := f_X15_areNear (nI i) q y) h0 (by decide) (by rw [hcl, pp_rqO hT.2.1 hv hC.2.1 q1]; rfl) (by rw [hml, pp_tolO ((pp_thn (by omega)).trans hM.2.1) hW q1]; rfl)
    rcases pk_ix q (n := pv_W A) (by omega) with q1 | q1 | ⟨j, hj, rfl⟩
    · exact ho2 (Or.inl q1)
    · exact ho2 (Or.inr q1)
    · rw [pp_rqI hT.2.1 hv hC.2.1 hW hj, pp_b] at hcl
      rw [pp_tolI ((pp_thn (by omega)).trans hM.2.1) hW hj, pp_b, if_neg (by decide)] at hml
      obtain ⟨k1, k2, k3, k4, k5, k6, k7⟩ := hT
      obtain ⟨f, hf⟩ := pp_nearC hA hC hb k1 k2 hbg k5 k4 hi hj
      obtain ⟨g, hgm⟩ := pp_nearM hA (hM.th (u := 0)) ((pp_thn (by omega)).trans k6) k4 hi hj
      have h1 := pp_01n (pv_ne1 A nr i j)
      refine pp_fin (o := o) (r := nI (pv_ne A nr i j)) (x1 := g_wa x 9 f) (y1 := g_ma (g_mi y 120 0 0) 160 g) ?_ ?_ ?_ h0.s9
      · rw [hcl]
        show Option.bind (Option.bind (f_X12_nearEachOther (nI i) (nI j) x) _) _ = _
        rw [hf, pp_b, if_pos h1, pp_b]
        rcases h1 with e | e <;> rw [e] <;> rfl
      · rw [hml, hgm, pp_b, if_pos h1]
      · rw [pp_g4 (by omega)]; exact pp_th0
