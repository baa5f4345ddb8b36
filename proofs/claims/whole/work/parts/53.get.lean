/-! calls that only look, the short ones -/
theorem pp_R.th {x : CS} {y : MS} {u : Int32} (h : pp_R x y) : pp_R x (g_mi y 120 0 u) := by
  obtain ⟨A, b, v, R, Z, nr, T, hA, hT, hC, hM, h3, h4, hB⟩ := h
  have hM1 : pp_VM A (g_mi y 120 0 u) 152 := by rw [pp_g1]; exact hM.f (by omega) (by omega) (by omega) (by omega)
  exact pp_R.mk hT hB (pp_Gc.rf v x) (pp_Gm.rf y).th rfl rfl hA hC hM1 (by rw [pp_g1, pp_g4 (by omega)]; exact h3) (by rw [pp_g1, pp_g4 (by omega)]; exact h4)
theorem pp_thr {x : CS} {y : MS} {o : Nat → Int32} {fl : Option (Int32 × CS × (Nat → Int32))} {fm : Option (Int32 × MS)} {k u r : Int32} (hR : pp_R x y) (hk : k ≠ 0) (e1 : fl = some (k, x, o)) (e2 : fm = some (r, g_mi (g_mi y 120 0 u) 120 0 k)) : pp_OK fl fm :=
  ⟨k, x, o, r, _, e1, e2, by rw [pp_g1, pp_g3, pp_u1], fun h => absurd h hk, hR.th.th⟩
theorem pp_fin {x1 : CS} {y1 : MS} {o : Nat → Int32} {fl : Option (Int32 × CS × (Nat → Int32))} {fm : Option (Int32 × MS)} {r : Int32} (e1 : fl = some (0, x1, upd o 0 r)) (e2 : fm = some (r, y1)) (h0 : y1 120 0 = 0) (hR : pp_R x1 y1) : pp_OK fl fm :=
  ⟨0, x1, _, r, y1, e1, e2, h0, fun _ => pp_u1, hR⟩
theorem pp_th0 {y : MS} {u : Int32} : (g_mi y 120 0 u) 120 0 = u := by rw [pp_g1, pp_g3, pp_u1]
theorem pp_thn {y : MS} {u : Int32} {i k : Nat} (h : i ≠ 120 ∨ k ≠ 0) : (g_mi y 120 0 u) i k = y i k := by
  rw [pp_g1]
  by_cases hi : i = 120
  · subst hi
    rw [pp_g3, pp_u2 (by omega)]
  · rw [pp_g4 hi]
theorem pp_inO {q : Int32} {n : Nat} (hn : n < 2 ^ 20) (h : q < 0 ∨ nI n ≤ q) : f_X15_isIn q 0 (nI n - 1) = some 0 := by
  unfold f_X15_isIn
  rcases h with h | h
  · rw [if_pos h]
  · by_cases h0 : q < 0
    · rw [if_pos h0]
    · rw [if_neg h0, if_pos]
      rw [Int32.lt_iff_toInt_lt, show (1 : Int32) = nI 1 from rfl, pk_sub_toInt (by omega) (by omega)]
      have := Int32.le_iff_toInt_le.mp h
      rw [nI_toInt (by omega)] at this
      omega
theorem pp_inI {i n : Nat} (hn : n < 2 ^ 20) (h : i < n) : f_X15_isIn (nI i) 0 (nI n - 1) = some 1 := by
  unfold f_X15_isIn
  obtain ⟨n', rfl⟩ : ∃ n', n = n' + 1 := ⟨n - 1, by omega⟩
  rw [if_neg (nI_pos (by omega)), nI_pred, if_neg (nI_nlt (by omega) (by omega))]
theorem pp_tolO {q : Int32} {n : Nat} {y : MS} (hy : y 127 2 = nI n) (hn : n ≤ 8) (h : q < 0 ∨ nI n ≤ q) : f_X15_isTold q y = some 0 := by
  unfold f_X15_isTold
  rw [hy, pp_inO (by omega) h]; rfl
theorem pp_tolI {i n : Nat} {y : MS} (hy : y 127 2 = nI n) (hn : n ≤ 8) (h : i < n) : f_X15_isTold (nI i) y = some 1 := by
  unfold f_X15_isTold
  rw [hy, pp_inI (by omega) h]; rfl
theorem pp_rqO {q : Int32} {v n : Nat} {x : CS} (hv : x.2 0 7 = v) (hv2 : v = 41 ∨ v = 91) (hn : x.1 v 2 = nI n) (h : q < 0 ∨ nI n ≤ q) : f_X12_requireWord q x = some (.inl 3) := by
  unfold f_X12_requireWord f_X12_requireWord_15
  rw [hv, if_pos (pp_k9 hv2), hn]
  rcases h with h | h
  · rw [if_pos h]
  · rw [if_neg (c := q < nI n)]
    · split <;> rfl
    · exact fun q1 => by
        have h1 := Int32.lt_iff_toInt_lt.mp q1
        have h2 := Int32.le_iff_toInt_le.mp h
        omega
theorem pp_rqI {v i n : Nat} {x : CS} (hv : x.2 0 7 = v) (hv2 : v = 41 ∨ v = 91) (hn : x.1 v 2 = nI n) (hn8 : n ≤ 8) (h : i < n) : f_X12_requireWord (nI i) x = some (.inr ()) := by
  unfold f_X12_requireWord
  rw [if_neg (nI_pos (by omega)), hv, if_pos (pp_k9 hv2), hn, if_pos (nI_lt h (by omega))]
theorem pp_rowO {v i : Nat} {x : CS} (hv : x.2 0 7 = v) (hv2 : v = 41 ∨ v = 91) (h : i < 8) : f_X12_rowOf (nI i) x = some (pp_wd v i + 1) := by
  unfold f_X12_rowOf
  rw [hv, if_pos (pp_k9 hv2), pp_word h, pp_b, if_pos (pp_k10 hv2 h)]
theorem pp_o10 {p : Int32} {x : CS} {y : MS} {o : Nat → Int32} (h : pp_R x y) : pp_OK (f_L_lengthOf p x o) (f_X15_lengthOf p y) := by
  have h0 := h
  obtain ⟨A, b, v, R, Z, nr, T, hA, hT, hC, hM, h3, h4, hB⟩ := h
  have hW := hA.1
  have hv := hC.1
  have ho : (p < 0 ∨ nI (pv_W A) ≤ p) → _ := fun q => pp_thr (u := 0) (o := o) (r := 0) (k := 1) (fl := f_L_lengthOf p x o) (fm := f_X15_lengthOf p y) h0 (by decide) (by unfold f_L_lengthOf f_X12_lengthOf; rw [pp_rqO hT.2.1 hv hC.2.1 q]; rfl) (by unfold f_X15_lengthOf; rw [pp_tolO ((pp_thn (by omega)).trans hM.2.1) hW q]; rfl)
  rcases pk_ix p (n := pv_W A) (by omega) with q | q | ⟨j, hj, rfl⟩
  · exact ho (Or.inl q)
  · exact ho (Or.inr q)
  · obtain ⟨a1, a2⟩ := hM.2.2.2.1 j hj
    refine pp_fin (o := o) (x1 := x) (y1 := g_mi y 120 0 0) (r := nI (pv_ln A j)) ?_ ?_ pp_th0 h0.th
    · unfold f_L_lengthOf f_X12_lengthOf
      rw [pp_rqI hT.2.1 hv hC.2.1 hW hj, pp_b]
      show Option.bind (Option.bind (f_X12_rowOf (nI j) x) _) _ = _
      rw [pp_rowO hT.2.1 hv (by omega), pp_b, if_pos (pp_k5 hv (by omega)), (hC.2.2.1 j hj).2.2.1]
      rfl
    · unfold f_X15_lengthOf
      rw [pp_tolI ((pp_thn (by omega)).trans hM.2.1) hW hj, pp_b, if_neg (by decide), if_pos ((pp_ok (by omega)).mpr (by omega)), nI_clamp (by omega), pp_thn (by omega), a2.1]
theorem pp_rbO {q : Int32} {t n : Nat} {x : CS} (hn : x.1 t 1 = nI n) (h : q < 0 ∨ nI n ≤ q) : f_X12_requireBeat t q x = some (.inl 3) := by
  unfold f_X12_requireBeat f_X12_requireBeat_12
  rw [hn]
  rcases h with h | h
  · rw [if_pos h]
  · rw [if_neg (c := q < nI n)]
    · split <;> rfl
    · exact fun q1 => by
        have h1 := Int32.lt_iff_toInt_lt.mp q1
        have h2 := Int32.le_iff_toInt_le.mp h
        omega
theorem pp_rbI {t i n : Nat} {x : CS} (hn : x.1 t 1 = nI n) (hn8 : n ≤ 24) (h : i < n) : f_X12_requireBeat t (nI i) x = some (.inr ()) := by
  unfold f_X12_requireBeat
  rw [if_neg (nI_pos (by omega)), hn, if_pos (nI_lt h (by omega))]
theorem pp_o11 {p q : Int32} {x : CS} {y : MS} {o : Nat → Int32} (h : pp_R x y) : pp_OK (f_L_pitchAt p q x o) (f_X15_pitchAt p q y) := by
  have h0 := h
  obtain ⟨A, b, v, R, Z, nr, T, hA, hT, hC, hM, h3, h4, hB⟩ := h
  have hW := hA.1
  have hv := hC.1
  have ho : (p < 0 ∨ nI (pv_W A) ≤ p) → _ := fun q1 => pp_thr (u := 0) (o := o) (r := 0) (k := 1) (fl := f_L_pitchAt p q x o) (fm := f_X15_pitchAt p q y) h0 (by decide) (by unfold f_L_pitchAt f_X12_pitchAt; rw [pp_rqO hT.2.1 hv hC.2.1 q1]; rfl) (by unfold f_X15_pitchAt f_X15_isBeat; rw [pp_tolO ((pp_thn (by omega)).trans hM.2.1) hW q1]; rfl)
  rcases pk_ix p (n := pv_W A) (by omega) with q1 | q1 | ⟨j, hj, rfl⟩
  · exact ho (Or.inl q1)
  · exact ho (Or.inr q1)
  · obtain ⟨a1, a2⟩ := hM.2.2.2.1 j hj
    have a3 := (hC.2.2.1 j hj).2.2
    have hl := a3.2.1
    have hcl : f_L_pitchAt (nI j) q x o = Option.bind (Option.bind (f_X12_requireBeat (pp_wd v j + 1) q x) fun q4 => g_sb q4 (fun _ => (f_X12_rowOf (nI j) x).bind fun q5 => if kd (q5) = 5 then ((f_X3_pitch q5 q x).bind fun q7 => some (Sum.inr (q7))) else none)) (fun r => match r with | .inl u => if u = 3 then some ((1 : Int32), x, o) else none | .inr r => some ((0 : Int32), x, upd o 0 r)) := by
      unfold f_L_pitchAt f_X12_pitchAt
      rw [pp_rqI hT.2.1 hv hC.2.1 hW hj, pp_b]
      show Option.bind (Option.bind (f_X12_rowOf (nI j) x) _) _ = _
      rw [pp_rowO hT.2.1 hv (by omega), pp_b, if_pos (pp_k5 hv (by omega))]
      rfl
    have hml : f_X15_isBeat (nI j) q (g_mi y 120 0 0) = Option.bind (f_X15_isIn q 0 (nI (pv_ln A j) - 1)) (fun q4 => if q4 = 0 then (some ((0 : Int32))) else (some ((1 : Int32)))) := by
      unfold f_X15_isBeat
      rw [pp_tolI ((pp_thn (by omega)).trans hM.2.1) hW hj, pp_b, if_neg (by decide), if_pos ((pp_ok (by omega)).mpr (by omega)), nI_clamp (by omega), pp_thn (by omega), a2.1]
    have ho2 : (q < 0 ∨ nI (pv_ln A j) ≤ q) → _ := fun q1 => pp_thr (u := 0) (o := o) (r := 0) (k := 1) (fl := f_L_pitchAt (nI j) q x o) (fm := f_X15_pitchAt (nI j) q y) h0 (by decide) (by rw [hcl, pp_rbO a3.1 q1]; rfl) (by unfold f_X15_pitchAt; rw [hml, pp_inO (by omega) q1]; rfl)
    rcases pk_ix q (n := pv_ln A j) (by omega) with q1 | q1 | ⟨i, hi, rfl⟩
    · exact ho2 (Or.inl q1)
    · exact ho2 (Or.inr q1)
    · refine pp_fin (o := o) (x1 := x) (y1 := g_mi y 120 0 0) (r := nI (pv_pt A j i)) ?_ ?_ pp_th0 h0.th
      · rw [hcl, pp_rbI a3.1 hl hi, pp_b]
        show Option.bind (Option.bind (f_X12_rowOf (nI j) x) _) _ = _
        rw [pp_rowO hT.2.1 hv (by omega), pp_b, if_pos (pp_k5 hv (by omega)), pp_pitC (by omega), a3.2.2.2 i hi]
        rfl
      · unfold f_X15_pitchAt
        rw [hml, pp_inI (by omega) hi]
        show (if g_ok ((24 : Int32) * nI j + nI i) 240 = true then _ else _) = _
        rw [show (24 : Int32) * nI j + nI i = nI (24 * j + i) by rw [pp_lit 24, pk_mul, nI_add], if_pos ((pp_ok (by omega)).mpr (by omega)), nI_clamp (by omega), pp_thn (by omega), a2.2.2.2 i hi]
theorem pp_o12 {p q : Int32} {x : CS} {y : MS} {o : Nat → Int32} (h : pp_R x y) : pp_OK (f_L_contourAt p q x o) (f_X15_contourAt p q y) := by
  have h0 := h
  obtain ⟨A, b, v, R, Z, nr, T, hA, hT, hC, hM, h3, h4, hB⟩ := h
  have hW := hA.1
  have hv := hC.1
  have ho : (p < 0 ∨ nI (pv_W A) ≤ p) → _ := fun q1 => pp_thr (u := 0) (o := o) (r := 0) (k := 1) (fl := f_L_contourAt p q x o) (fm := f_X15_contourAt p q y) h0 (by decide) (by unfold f_L_contourAt f_X12_contourAt; rw [pp_rqO hT.2.1 hv hC.2.1 q1]; rfl) (by unfold f_X15_contourAt f_X15_isBeat; rw [pp_tolO ((pp_thn (by omega)).trans hM.2.1) hW q1]; rfl)
  rcases pk_ix p (n := pv_W A) (by omega) with q1 | q1 | ⟨j, hj, rfl⟩
  · exact ho (Or.inl q1)
  · exact ho (Or.inr q1)
  · obtain ⟨a1, a2⟩ := hM.2.2.2.1 j hj
    have a3 := (hC.2.2.1 j hj).2.2
    have hl := a3.2.1
    have hcl : f_L_contourAt (nI j) q x o = Option.bind (Option.bind (f_X12_requireBeat (pp_wd v j + 1) q x) fun q4 => g_sb q4 (fun _ => (f_X12_rowOf (nI j) x).bind fun q5 => if kd (q5) = 5 then ((f_X3_contour q5 q x).bind fun q7 => some (Sum.inr (q7))) else none)) (fun r => match r with | .inl u => if u = 3 then some ((1 : Int32), x, o) else none | .inr r => some ((0 : Int32), x, upd o 0 r)) := by
      unfold f_L_contourAt f_X12_contourAt
      rw [pp_rqI hT.2.1 hv hC.2.1 hW hj, pp_b]
      show Option.bind (Option.bind (f_X12_rowOf (nI j) x) _) _ = _
      rw [pp_rowO hT.2.1 hv (by omega), pp_b, if_pos (pp_k5 hv (by omega))]
      rfl
    have hml : f_X15_isBeat (nI j) q (g_mi y 120 0 0) = Option.bind (f_X15_isIn q 0 (nI (pv_ln A j) - 1)) (fun q4 => if q4 = 0 then (some ((0 : Int32))) else (some ((1 : Int32)))) := by
      unfold f_X15_isBeat
      rw [pp_tolI ((pp_thn (by omega)).trans hM.2.1) hW hj, pp_b, if_neg (by decide), if_pos ((pp_ok (by omega)).mpr (by omega)), nI_clamp (by omega), pp_thn (by omega), a2.1]
    have ho2 : (q < 0 ∨ nI (pv_ln A j) ≤ q) → _ := fun q1 => pp_thr (u := 0) (o := o) (r := 0) (k := 1) (fl := f_L_contourAt (nI j) q x o) (fm := f_X15_contourAt (nI j) q y) h0 (by decide) (by rw [hcl, pp_rbO a3.1 q1]; rfl) (by unfold f_X15_contourAt; rw [hml, pp_inO (by omega) q1]; rfl)
    rcases pk_ix q (n := pv_ln A j) (by omega) with q1 | q1 | ⟨i, hi, rfl⟩
    · exact ho2 (Or.inl q1)
    · exact ho2 (Or.inr q1)
    · refine pp_fin (o := o) (x1 := x) (y1 := g_mi y 120 0 0) (r := pp_ci (pv_pt A j) (pv_ln A j) i) ?_ ?_ pp_th0 h0.th
      · rw [hcl, pp_rbI a3.1 hl hi, pp_b]
        show Option.bind (Option.bind (f_X12_rowOf (nI j) x) _) _ = _
        rw [pp_rowO hT.2.1 hv (by omega), pp_b, if_pos (pp_k5 hv (by omega)), pp_contC a3 (by omega) (by omega)]
        rfl
      · unfold f_X15_contourAt
        rw [hml, pp_inI (by omega) hi]
        show Option.bind (f_X15_contour 152 (nI j) (nI i) (g_mi y 120 0 0)) _ = _
        rw [pp_g1, pp_contM (a2.f (by omega) (by omega)) (by omega) hi]
        rfl
