/-! by hand: what is heard, what is pruned -/
def pp_VD (A : PV) (x : CS) (v k : Nat) : Prop := (v = 41 ∨ v = 91) ∧ x.1 v 2 = nI (pv_W A) ∧ (∀ j, j < pv_W A → x.1 (pp_wd v j) 1 = nI (pv_pr A j) ∧ (j < k → x.1 (pp_wd v j) 2 = nI (pv_dh A j)) ∧ pp_RC x (pp_wd v j + 1) (pv_pt A j) (pv_ln A j)) ∧ pp_RC x 14 (pv_hp A) (pv_hl A)
theorem pp_VD.to {A : PV} {x : CS} {v : Nat} (h : pp_VD A x v (pv_W A)) : pp_VC A x v := ⟨h.1, h.2.1, fun j hj => ⟨(h.2.2.1 j hj).1, (h.2.2.1 j hj).2.1 hj, (h.2.2.1 j hj).2.2⟩, h.2.2.2⟩
theorem pp_measL {A : PV} {b v : Nat} (hb : b = 20 ∨ b = 70) (hA : pv_ok A) : ∀ d fuel k x, d = pv_W A - k → d < fuel → k ≤ pv_W A → pp_VD A x v k → x.1 b 6 = nI (pv_g A) → ∃ x', f_X1_measureAll_2 fuel b v (nI k) x = some x' ∧ pp_VC A x' v ∧ pp_Fc v x x' ∧ x'.1 v = x.1 v := by
  have hW := hA.1
  intro d
  induction d with
  | zero =>
    intro fuel k x hd hfu hk hV hg
    obtain ⟨fu, rfl⟩ : ∃ fu, fuel = fu + 1 := ⟨fuel - 1, by omega⟩
    have e : k = pv_W A := by omega
    refine ⟨x, ?_, (e ▸ hV).to, pp_Fc.rf v x, rfl⟩
    rw [f_X1_measureAll_2, hV.2.1, if_pos (nI_le (by omega) (by omega))]
  | succ d ih =>
    intro fuel k x hd hfu hk hV hg
    obtain ⟨fu, rfl⟩ : ∃ fu, fuel = fu + 1 := ⟨fuel - 1, by omega⟩
    have hv := hV.1
    have hkW : k < pv_W A := by omega
    obtain ⟨x1, hx1, hm⟩ := pp_meas hb hA hv hkW (hV.2.2.1 k hkW).2.2 hV.2.2.2 hg
    have e1 : ∀ i, (i < 9 ∨ i = 14 ∨ i = 15 ∨ 20 ≤ i) → i ≠ pp_wd v k → (g_wi x1 (pp_wd v k) 2 (nI (pv_dh A k))).1 i = x.1 i := fun i h1 h2 => by rw [pp_c1, pp_c4 h2]; exact hx1.1 i h1
    have e2 : (g_wi x1 (pp_wd v k) 2 (nI (pv_dh A k))).1 (pp_wd v k) 1 = x.1 (pp_wd v k) 1 := by rw [pp_c1, pp_c3, pp_u2 (by omega), hx1.1 _ (by unfold pp_wd; omega)]
    have hV1 : pp_VD A (g_wi x1 (pp_wd v k) 2 (nI (pv_dh A k))) v (k + 1) := by
      refine ⟨hv, ?_, fun j hj => ⟨?_, fun hjk => ?_, ?_⟩, ?_⟩
      · rw [e1 v (by omega) (by unfold pp_wd; omega)]; exact hV.2.1
      · by_cases e : j = k
        · rw [e, e2]; exact (hV.2.2.1 k hkW).1
        · rw [e1 _ (by unfold pp_wd; omega) (by unfold pp_wd; omega)]; exact (hV.2.2.1 j hj).1
      · by_cases e : j = k
        · rw [e, pp_c1, pp_c3, pp_u1]
        · rw [e1 _ (by unfold pp_wd; omega) (by unfold pp_wd; omega)]; exact (hV.2.2.1 j hj).2.1 (by omega)
      · exact (hV.2.2.1 j hj).2.2.e (e1 _ (by unfold pp_wd; omega) (by unfold pp_wd; omega)) (e1 _ (by unfold pp_wd; omega) (by unfold pp_wd; omega))
      · exact hV.2.2.2.e (e1 _ (by omega) (by unfold pp_wd; omega)) (e1 _ (by omega) (by unfold pp_wd; omega))
    obtain ⟨x', i1, i2, i3, i4⟩ := ih fu (k + 1) _ (by omega) (by omega) (by omega) hV1 (by rw [e1 b (by omega) (by unfold pp_wd; omega)]; exact hg)
    refine ⟨x', ?_, i2, ?_, ?_⟩
    · rw [f_X1_measureAll_2, hV.2.1, if_neg (nI_ge hkW (by omega)), pp_word (by omega), pp_b, if_pos (pp_k10 hv (by omega)), hm, pp_b, nI_1]
      exact i1
    · refine pp_Fc.tr ?_ i3
      rw [pp_c1]
      exact ((pp_Fc.rf v x).sc hx1).wa (by unfold pp_wd; omega) (by unfold pp_wd; omega)
    · rw [i4, e1 v (by omega) (by unfold pp_wd; omega)]
theorem pp_measA {A : PV} {b v : Nat} {x : CS} (hb : b = 20 ∨ b = 70) (hA : pv_ok A) (hV : pp_VD A x v 0) (hg : x.1 b 6 = nI (pv_g A)) : ∃ x', f_X1_measureAll b v x = some x' ∧ pp_VC A x' v ∧ pp_Fc v x x' ∧ x'.1 v = x.1 v := by
  have hW := hA.1
  exact pp_measL hb hA (pv_W A - 0) g_fuel 0 x rfl (by unfold g_fuel; omega) (by omega) hV hg
def pv_hr (A : PV) (n : Nat) (q : Nat → Nat) : PV := (pv_W A, pv_pr A, pv_ln A, pv_pt A, n, q, pv_g A)
theorem pv_ok.hr {A : PV} {n : Nat} {q : Nat → Nat} (h : pv_ok A) : pv_ok (pv_hr A n q) := h
/-- what was heard is another row -/
theorem pp_VD.hr {A : PV} {x x1 : CS} {v n : Nat} {q : Nat → Nat} (h : pp_VC A x v) (h1 : ∀ i, 20 ≤ i → x1.1 i = x.1 i) (hq : pp_RC x1 14 q n) : pp_VD (pv_hr A n q) x1 v 0 := by
  have hv := h.1
  refine ⟨hv, ?_, fun j hj => ⟨?_, fun h => absurd h (Nat.not_lt_zero _), ?_⟩, hq⟩
  · rw [h1 v (by omega)]; exact h.2.1
  · rw [h1 _ (by unfold pp_wd; omega)]; exact (h.2.2.1 j hj).1
  · exact (h.2.2.1 j hj).2.2.e (h1 _ (by unfold pp_wd; omega)) (h1 _ (by unfold pp_wd; omega))
theorem pp_VM.hr {A : PV} {y y1 : MS} {n : Nat} {q : Nat → Nat} (h : pp_VM A y 152) (h1 : y1 127 = y 127) (h2 : y1 155 = y 155) (h3 : ∀ j, j < 8 → y1 153 j = y 153 j) (h4 : ∀ i, i < 192 → y1 154 i = y 154 i) (hW : pv_W A ≤ 8) (hq : pp_RM y1 152 8 q n) : pp_VM (pv_hr A n q) y1 152 := by
  refine ⟨Or.inl rfl, ?_, ?_, fun j hj => ⟨?_, ?_⟩, hq⟩
  · rw [h1]; exact h.2.1
  · rw [h1]; exact h.2.2.1
  · show y1 155 j = _
    rw [h2]; exact (h.2.2.2.1 j hj).1
  · have hj' : j < pv_W A := hj
    obtain ⟨r1, r2, r3, r4⟩ := (h.2.2.2.1 j hj').2
    refine ⟨?_, r2, r3, fun k hk => ?_⟩
    · show y1 153 j = _
      rw [h3 j (by omega)]; exact r1
    · show y1 154 (24 * j + k) = _
      have hk' : k < pv_ln A j := hk
      have r2' : pv_ln A j ≤ 24 := r2
      rw [h4 _ (by omega)]; exact r4 k hk'
/-- the end of a call that heard something: all words are measured anew -/
theorem pp_heard {A : PV} {x x1 : CS} {y y1 : MS} {b v R Z nr T n : Nat} {q : Nat → Nat} (hA : pv_ok A) (hT : pp_T x y b v nr T) (hC : pp_VC A x v) (hM : pp_VM A y 152) (h3 : x.1 v 3 = y 152 3) (h4 : x.1 v 4 = y 152 4) (hB : pp_BK (pv_W A) (pv_g A) x y b R Z) (hx : ∀ i, (i < 9 ∨ 20 ≤ i) → x1.1 i = x.1 i) (hx2 : x1.2 = x.2) (hq : pp_RC x1 14 q n) (hy : ∀ i, i ≠ 120 → i ≠ 153 → i ≠ 154 → y1 i = y i) (hy2 : ∀ k, k ≠ 0 → y1 120 k = y 120 k) (m3 : ∀ j, j < 8 → y1 153 j = y 153 j) (m4 : ∀ i, i < 192 → y1 154 i = y 154 i) (hqm : pp_RM y1 152 8 q n) : ∃ x', f_X1_measureAll b v x1 = some x' ∧ pp_R x' y1 ∧ x'.1 14 1 = nI n := by
  have hv := hC.1
  have hb := hB.1
  have hD := pp_VD.hr hC (fun i h => hx i (Or.inr h)) hq
  have hVM := pp_VM.hr hM (hy 127 (by omega) (by omega) (by omega)) (hy 155 (by omega) (by omega) (by omega)) m3 m4 hA.1 hqm
  obtain ⟨x', t1, t2, t3, t4⟩ := pp_measA (A := pv_hr A n q) hb hA.hr hD (by rw [hx b (by omega)]; exact hB.2.2.2.2.2.1)
  refine ⟨x', t1, pp_R.mk (A' := pv_hr A n q) hT hB ?_ ?_ rfl rfl hA.hr t2 hVM ?_ ?_, ?_⟩
  · exact ⟨fun i h1 h2 => by rw [t3.1 i (by omega) h2]; exact hx i h1, t3.2.trans hx2⟩
  · exact ⟨fun i h1 => hy i (by omega) (by omega) (by omega), hy2 2 (by omega), hy2 3 (by omega)⟩
  · rw [t4, hx v (by omega), hy 152 (by omega) (by omega) (by omega)]; exact h3
  · rw [t4, hx v (by omega), hy 152 (by omega) (by omega) (by omega)]; exact h4
  · exact t2.2.2.2.1
theorem pp_o28 {x : CS} {y : MS} (h : pp_R x y) : pp_O2 (f_X12_forget x) (f_X15_forget y) := by
  have h0 := h
  obtain ⟨A, b, v, R, Z, nr, T, hA, hT, hC, hM, h3, h4, hB⟩ := h
  have hW := hA.1
  have hv := hC.1
  have hg : y 127 0 = nI (pv_g A) := hM.2.2.1
  have hg20 := hA.2.2.2
  have hb := hB.1
  have hbg := hB.2.2.2.2.2.1
  have hrc := hC.2.2.2
  have hrm := hM.2.2.2.2
  have e1 : ∀ i, i ≠ 14 → (g_wi x 14 1 0).1 i = x.1 i := fun i hi => by rw [pp_c1]; exact pp_c4 hi
  have e2 : ∀ i, i ≠ 120 → i ≠ 153 → (g_mi (g_mi y 153 8 0) 120 0 0) i = y i := fun i h1 h2 => by rw [pp_g1, pp_g4 h1, pp_g1, pp_g4 h2]
  have e3 : (g_mi (g_mi y 153 8 0) 120 0 0) 153 = upd (y 153) 8 0 := by rw [pp_g1, pp_g4 (by omega), pp_g1, pp_g3]
  obtain ⟨x', t1, t2, t3⟩ := pp_heard (x1 := g_wi x 14 1 0) (y1 := g_mi (g_mi y 153 8 0) 120 0 0) (n := 0) (q := pv_hp A) hA hT hC hM h3 h4 hB (fun i h1 => e1 i (by omega)) rfl ⟨by rw [pp_c1, pp_c3, pp_u1]; rfl, by omega, hrc.2.2.1, fun k hk => absurd hk (Nat.not_lt_zero _)⟩ (fun i h1 h2 h3 => e2 i h1 h2) (fun k hk => by rw [pp_thn (Or.inr hk), pp_g1, pp_g4 (by omega)]) (fun j hj => by rw [e3, pp_u2 (by omega)]) (fun i hi => by rw [e2 154 (by omega) (by omega)]) ⟨by show (g_mi (g_mi y 153 8 0) 120 0 0) 153 8 = _; rw [e3, pp_u1]; rfl, by omega, hrc.2.2.1, fun k hk => absurd hk (Nat.not_lt_zero _)⟩
  refine ⟨nI (pv_hl A), x', _, ?_, ?_, t2⟩
  · unfold f_X12_forget
    show (if kd (x.2 0 6) = 7 then (if kd (x.2 0 7) = 9 then Option.bind (f_X1_measureAll (x.2 0 6) (x.2 0 7) _) _ else _) else _) = _
    rw [hT.1, hT.2.1, if_pos (pp_k7 hb), if_pos (pp_k9 hv), t1, hrc.1]
    rfl
  · unfold f_X15_forget
    rw [if_pos (by decide), if_pos (by decide)]
    show some (y (152 + 1) 8, _) = _
    rw [hrm.1]
    rfl
theorem pp_o26 {p : Int32} {x : CS} {y : MS} {o : Nat → Int32} (h : pp_R x y) : pp_OK (f_L_hear p x o) (f_X15_hear p y) := by
  have h0 := h
  obtain ⟨A, b, v, R, Z, nr, T, hA, hT, hC, hM, h3, h4, hB⟩ := h
  have hW := hA.1
  have hv := hC.1
  have hg : y 127 0 = nI (pv_g A) := hM.2.2.1
  have hg20 := hA.2.2.2
  have hb := hB.1
  have hbg := hB.2.2.2.2.2.1
  have hrc := hC.2.2.2
  have hrm := hM.2.2.2.2
  have hl := hrc.2.1
  have hy8 : (g_mi y 120 0 0) 153 8 = nI (pv_hl A) := by rw [pp_thn (by omega)]; exact hrm.1
  rcases pp_in0 (q := p) (n := 40) (by omega) with ⟨q1, q2⟩ | ⟨j, hj, rfl, q2⟩
  · refine pp_thr (u := 0) (o := o) (r := 0) (k := 1) h0 (by decide) ?_ ?_
    · unfold f_L_hear f_X12_hear f_X12_hear_10
      rcases q1 with q1 | q1
      · rw [if_pos q1]; rfl
      · by_cases q3 : p < 0
        · rw [if_pos q3]; rfl
        · rw [if_neg q3, if_neg (show ¬ p ≤ 40 from q1)]; rfl
    · unfold f_X15_hear
      rw [show (40 : Int32) = nI 40 from rfl, q2]; rfl
  · have hml : f_X15_hear (nI j) y = (if (g_mi y 120 0 0) 153 8 = 24 then some (0, g_mi (g_mi y 120 0 0) 120 0 2) else (if g_ok (192 + (g_mi y 120 0 0) 153 8) 240 = true then some ((g_mi (g_mi (g_mi y 120 0 0) 154 (192 + (g_mi y 120 0 0) 153 8).toNatClampNeg (nI j)) 153 8 ((g_mi (g_mi y 120 0 0) 154 (192 + (g_mi y 120 0 0) 153 8).toNatClampNeg (nI j)) 153 8 + 1)) 153 8, g_mi (g_mi (g_mi y 120 0 0) 154 (192 + (g_mi y 120 0 0) 153 8).toNatClampNeg (nI j)) 153 8 ((g_mi (g_mi y 120 0 0) 154 (192 + (g_mi y 120 0 0) 153 8).toNatClampNeg (nI j)) 153 8 + 1)) else none)) := by
      unfold f_X15_hear
      rw [show (40 : Int32) = nI 40 from rfl, q2]
      rfl
    have hcl : f_L_hear (nI j) x o = Option.bind (if x.1 14 1 < 24 then ((f_X3_add 14 (nI j) x).bind fun q4 => if kd (q4.2 0 6) = 7 then (if kd (q4.2 0 7) = 9 then ((f_X1_measureAll (q4.2 0 6) (q4.2 0 7) q4).bind fun q7 => some (Sum.inr ((q7.1 14 1, q7)))) else none) else none) else (some (Sum.inl 1))) (fun r => match r with | .inl u => if u = 2 then some ((1 : Int32), x, o) else if u = 1 then some ((2 : Int32), x, o) else none | .inr r => some ((0 : Int32), r.2, upd o 0 r.1)) := by
      unfold f_L_hear f_X12_hear
      rw [if_neg (nI_pos (by omega)), if_pos (show nI j ≤ (40 : Int32) from nI_le (a := j) (b := 40) hj (by omega))]
      rfl
    rw [hy8] at hml
    rw [hrc.1] at hcl
    by_cases h24 : pv_hl A = 24
    · rw [h24, if_pos (show nI 24 = (24 : Int32) from rfl)] at hml
      rw [h24, if_neg (by decide)] at hcl
      exact pp_thr (u := 0) (o := o) (r := 0) (k := 2) h0 (by decide) (by rw [hcl]; rfl) hml
    · have h24' : ¬ nI (pv_hl A) = 24 := by rw [show (24 : Int32) = nI 24 from rfl, nI_eq (by omega) (by omega)]; exact h24
      have hadd : f_X3_add 14 (nI j) x = some (g_wi (g_wi x 15 (pv_hl A) (nI j)) 14 1 (nI (pv_hl A + 1))) := by
        unfold f_X3_add
        rw [hrc.1, if_neg (nI_pos (by omega)), show (24 : Int32) = nI 24 from rfl, if_neg (nI_ge (by omega) (by omega)), if_pos ((pp_ok (by omega)).mpr (by omega)), nI_clamp (by omega)]
        show some (g_wi (g_wi x 15 (pv_hl A) (nI j)) 14 1 ((g_wi x 15 (pv_hl A) (nI j)).1 14 1 + 1)) = _
        rw [show (g_wi x 15 (pv_hl A) (nI j)).1 14 = x.1 14 by rw [pp_c1]; exact pp_c4 (by omega), hrc.1, nI_1]
      have e192 : (192 : Int32) + nI (pv_hl A) = nI (192 + pv_hl A) := nI_add 192 _
      rw [if_neg h24', e192, if_pos ((pp_ok (by omega)).mpr (by omega)), nI_clamp (by omega)] at hml
      rw [if_pos (show nI (pv_hl A) < (24 : Int32) from nI_lt (b := 24) (by omega) (by omega)), hadd, pp_b] at hcl
      have w153 : (g_mi (g_mi y 120 0 0) 154 (192 + pv_hl A) (nI j)) 153 = y 153 := by rw [pp_g1, pp_g4 (by omega), pp_g1, pp_g4 (by omega)]
      have hy8' : y 153 8 = nI (pv_hl A) := hrm.1
      rw [w153, hy8', nI_1] at hml
      have e1 : ∀ i, i ≠ 14 → i ≠ 15 → (g_wi (g_wi x 15 (pv_hl A) (nI j)) 14 1 (nI (pv_hl A + 1))).1 i = x.1 i := fun i h1 h2 => by rw [pp_c1, pp_c4 h1, pp_c1]; exact pp_c4 h2
      have e15 : (g_wi (g_wi x 15 (pv_hl A) (nI j)) 14 1 (nI (pv_hl A + 1))).1 15 = upd (x.1 15) (pv_hl A) (nI j) := by rw [pp_c1, pp_c4 (by omega), pp_c1, pp_c3]
      have m1 : ∀ i, i ≠ 120 → i ≠ 153 → i ≠ 154 → (g_mi (g_mi (g_mi y 120 0 0) 154 (192 + pv_hl A) (nI j)) 153 8 (nI (pv_hl A + 1))) i = y i := fun i h1 h2 h3 => by rw [pp_g1, pp_g4 h2, pp_g1, pp_g4 h3, pp_g1, pp_g4 h1]
      have m2 : (g_mi (g_mi (g_mi y 120 0 0) 154 (192 + pv_hl A) (nI j)) 153 8 (nI (pv_hl A + 1))) 120 = upd (y 120) 0 0 := by rw [pp_g1, pp_g4 (by omega), pp_g1, pp_g4 (by omega), pp_g1, pp_g3]
      have m3 : (g_mi (g_mi (g_mi y 120 0 0) 154 (192 + pv_hl A) (nI j)) 153 8 (nI (pv_hl A + 1))) 153 = upd (y 153) 8 (nI (pv_hl A + 1)) := by rw [pp_g1, pp_g3, w153]
      have m4 : (g_mi (g_mi (g_mi y 120 0 0) 154 (192 + pv_hl A) (nI j)) 153 8 (nI (pv_hl A + 1))) 154 = upd (y 154) (192 + pv_hl A) (nI j) := by rw [pp_g1, pp_g4 (by omega), pp_g1, pp_g3, pp_g1, pp_g4 (by omega)]
      have hqB : ∀ k, (if k = pv_hl A then j else pv_hp A k) ≤ 40 := fun k => by
        split
        · exact hj
        · exact hrc.2.2.1 k
      obtain ⟨x', t1, t2, t3⟩ := pp_heard (x1 := g_wi (g_wi x 15 (pv_hl A) (nI j)) 14 1 (nI (pv_hl A + 1))) (y1 := g_mi (g_mi (g_mi y 120 0 0) 154 (192 + pv_hl A) (nI j)) 153 8 (nI (pv_hl A + 1))) (n := pv_hl A + 1) (q := fun k => if k = pv_hl A then j else pv_hp A k) hA hT hC hM h3 h4 hB (fun i h1 => e1 i (by omega) (by omega)) rfl ⟨by rw [pp_c1, pp_c3, pp_u1], by omega, hqB, fun k hk => by
          rw [e15]
          show _ = nI (if k = pv_hl A then j else pv_hp A k)
          by_cases e : k = pv_hl A
          · rw [e, pp_u1, if_pos rfl]
          · rw [pp_u2 e, if_neg e]; exact hrc.2.2.2 k (by omega)⟩ m1 (fun k hk => by rw [m2, pp_u2 hk]) (fun i hi => by rw [m3, pp_u2 (by omega)]) (fun i hi => by rw [m4, pp_u2 (by omega)]) ⟨by show (g_mi (g_mi (g_mi y 120 0 0) 154 (192 + pv_hl A) (nI j)) 153 8 (nI (pv_hl A + 1))) 153 8 = _; rw [m3, pp_u1], by omega, hqB, fun k hk => by
          show (g_mi (g_mi (g_mi y 120 0 0) 154 (192 + pv_hl A) (nI j)) 153 8 (nI (pv_hl A + 1))) 154 (24 * 8 + k) = _
          rw [m4]
          show _ = nI (if k = pv_hl A then j else pv_hp A k)
          by_cases e : k = pv_hl A
          · rw [e, pp_u1, if_pos rfl]
          · rw [pp_u2 (by omega), if_neg e]; exact hrm.2.2.2 k (by omega)⟩
      refine pp_fin (o := o) (r := nI (pv_hl A + 1)) (x1 := x') ?_ hml (by rw [m2, pp_u1]) t2 |> fun q => q
      rw [hcl]
      show Option.bind (if kd (x.2 0 6) = 7 then (if kd (x.2 0 7) = 9 then Option.bind (f_X1_measureAll (x.2 0 6) (x.2 0 7) _) _ else _) else _) _ = _
      rw [hT.1, hT.2.1, if_pos (pp_k7 hb), if_pos (pp_k9 hv), t1, pp_b, t3]
      rfl
