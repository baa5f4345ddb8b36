/-! teaching: the end -/
theorem pp_R.mk2 {A : PV} {x x1 : CS} {y y1 : MS} {bb vv R Z nr T : Nat} (hA : pv_ok A) (hT : pp_T x y bb vv nr T) (hC : pp_VC A x vv) (hM : pp_VM A y 152) (h3 : x.1 vv 3 = y 152 3) (h4 : x.1 vv 4 = y 152 4) (hB : pp_BK (pv_W A) (pv_g A) x y bb R Z) (e1 : ∀ i, (i = 14 ∨ i = 15 ∨ (bb ≤ i ∧ i ≤ bb + 20) ∨ (vv ≤ i ∧ i ≤ vv + 28)) → x1.1 i = x.1 i) (e2 : ∀ i, bb ≤ i → i ≤ bb + 20 → x1.2 i = x.2 i) (e0 : ∀ j, x1.2 0 j = x.2 0 j) (e3 : ∀ i, ((127 ≤ i ∧ i ≤ 138) ∨ 152 ≤ i) → y1 i = y i) (f1 : x1.1 1 1 = 0) (f2 : y1 120 2 = 0) (f3 : x1.1 0 10 = y1 120 3) : pp_R x1 y1 := by
  obtain ⟨t1, t2, t3, t4, t5, t6, -⟩ := hT
  obtain ⟨b1, b2, b3, b4, b5, b6, b7, b8⟩ := hB
  refine ⟨A, bb, vv, R, Z, nr, 0, hA, ⟨(e0 6).trans t1, (e0 7).trans t2, by rw [e0, e0]; exact t3, t4, by rw [e1 bb (by omega)]; exact t5, by rw [e3 127 (by omega)]; exact t6, by omega, f1, f2, fun k hk => by omega, f3⟩, ⟨hC.1, by rw [e1 vv (by omega)]; exact hC.2.1, fun j hj => ?_, hC.2.2.2.e (e1 14 (by omega)) (e1 15 (by omega))⟩, hM.e (by rw [e3 127 (by omega)]) (by rw [e3 127 (by omega)]) (e3 _ (by omega)) (e3 _ (by omega)) (e3 _ (by omega)), by rw [e1 vv (by omega), e3 152 (by omega)]; exact h3, by rw [e1 vv (by omega), e3 152 (by omega)]; exact h4, b1, b2, b3, by rw [e1 bb (by omega)]; exact b4, by rw [e3 127 (by omega)]; exact b5, by rw [e1 bb (by omega)]; exact b6, b7.f (Nat.le_refl _) (e1 _ (by omega)) (e2 _ (by omega) (by omega)) (fun i i1 i2 => e3 i (by omega)), fun k hk => ?_⟩
  · obtain ⟨q1, q2, q3⟩ := hC.2.2.1 j hj
    have hw : pp_wd vv j = vv + 1 + 4 + 3 * j := rfl
    have h8 := hA.1
    exact ⟨by rw [e1 _ (by omega)]; exact q1, by rw [e1 _ (by omega)]; exact q2, q3.e (e1 _ (by omega)) (e1 _ (by omega))⟩
  · have hw : pp_rr bb k = bb + 1 + 4 + 1 * k := rfl
    exact (b8 k hk).f (Nat.le_refl _) (Nat.le_refl _) (fun j => by rw [e1 _ (by omega)]) (by rw [e2 _ (by omega) (by omega)]) (fun i _ => by rw [e2 _ (by omega) (by omega)]) (fun i i1 i2 => by rw [e3 i (by omega)])
theorem pp_ex1 {x : CS} : (∀ i, i ≠ 0 → i ≠ 1 → (pp_ex x).1 i = x.1 i) ∧ (pp_ex x).2 = x.2 ∧ (pp_ex x).1 1 1 = 0 ∧ (pp_ex x).1 0 10 = x.1 162 9 := by
  refine ⟨fun i h0 h1 => ?_, rfl, ?_, ?_⟩
  · unfold pp_ex
    rw [pp_c1, pp_c4 h0, pp_c1, pp_c4 h1]
  · unfold pp_ex
    rw [pp_c1, pp_c4 (by omega), pp_c1, pp_c3, pp_u1]
  · unfold pp_ex
    rw [pp_c1, pp_c3, pp_u1]
/-- the text was refused -/
theorem pp_o2e {A : PV} {x x1 x0 : CS} {y y1 y0 : MS} {t : Nat → Nat} {TT n b v bb vv R Z nr T er : Nat} (hA : pv_ok A) (hT : pp_T x y bb vv nr T) (hC : pp_VC A x vv) (hM : pp_VM A y 152) (h3 : x.1 vv 3 = y 152 3) (h4 : x.1 vv 4 = y 152 4) (hB : pp_BK (pv_W A) (pv_g A) x y bb R Z) (hbb : (bb = 20 ∧ vv = 41 ∧ b = 70 ∧ v = 91) ∨ (bb = 70 ∧ vv = 91 ∧ b = 20 ∧ v = 41)) (hF : pp_TF x0 y0 t TT n) (hFT : pp_FT b v x x1 y y1) (he0 : 0 < er) (he6 : er < 6) (q1 : x1.1 162 8 = nI er) (q2 : y1 120 10 = nI er) (q3 : pp_EP n x0 x1 y1) (q4 : y1 124 = y0 124) : pp_O2 (pp_tl x1) (f_X15_teach_70 y1) := by
  obtain ⟨j, j1, j2, j3⟩ := q3
  have hn := hF.1
  obtain ⟨x1e, x2e, x3e, x4e⟩ := pp_ex1 (x := x1)
  have hne : ¬ nI er = 0 := nI_ne0 he0 (by omega)
  have hpl : x0.1 5 j = y0 124 j := by
    rcases Nat.lt_or_ge j n with h | h
    · obtain ⟨p, z, a1, a2, -⟩ := hF.2.1 j h
      rw [a1, a2]
    · have e : j = n := by omega
      obtain ⟨-, -, -, -, p, -, a1, a2⟩ := hF
      rw [e, a1, a2]
  have k1 : (g_mi y1 120 2 (0 : Int32)) 120 10 = nI er := by rw [pp_g1, pp_g3, pp_u2 (by omega)]; exact q2
  have k2 : (g_mi y1 120 2 (0 : Int32)) 120 11 = nI j := by rw [pp_g1, pp_g3, pp_u2 (by omega)]; exact j2
  have k3 : (g_mi y1 120 2 (0 : Int32)) 124 j = x0.1 5 j := by rw [pp_g1, pp_g4 (by omega), q4, hpl]
  have k4 : (g_mi (g_mi y1 120 2 (0 : Int32)) 120 3 (x0.1 5 j)) 120 10 = nI er := by rw [pp_g1, pp_g3, pp_u2 (by omega)]; exact k1
  have x8 : (pp_ex x1).1 162 8 = nI er := by rw [x1e 162 (by omega) (by omega)]; exact q1
  have yi : ∀ i, i ≠ 120 → (g_mi (g_mi y1 120 2 (0 : Int32)) 120 3 (x0.1 5 j)) i = y1 i := fun i hi => by rw [pp_g1, pp_g4 hi, pp_g1, pp_g4 hi]
  refine ⟨nI er, pp_ex x1, g_mi (g_mi y1 120 2 (0 : Int32)) 120 3 (x0.1 5 j), ?_, ?_, pp_R.mk2 hA hT hC hM h3 h4 hB (fun i hi => ?_) (fun i i1 i2 => ?_) (fun l => ?_) (fun i hi => ?_) x3e ?_ ?_⟩
  · unfold pp_tl
    rw [x8, if_neg hne]
  · unfold f_X15_teach_70
    rw [k1, if_neg hne, k2, if_pos ((pp_ok (by omega)).mpr (by omega)), nI_clamp (by omega), k3]
    unfold f_X15_teach_96
    rw [k4, if_neg hne]
  · rw [x1e i (by omega) (by omega)]
    exact hFT.1 i (by omega) (by omega) (by omega) (by omega) (by omega) (by omega) (by omega) (by omega)
  · rw [x2e]
    exact hFT.2.1 i (by omega) (by omega) (by omega)
  · rw [x2e, hFT.2.1 0 (by omega) (by omega) (by omega)]
  · rw [yi i (by omega)]
    exact hFT.2.2.2.1 i (by omega) (by omega) (by omega) (by omega)
  · rw [pp_g1, pp_g3, pp_u2 (by omega), pp_g1, pp_g3, pp_u1]
  · rw [x4e, j3, pp_g1, pp_g3, pp_u1]
/-- the reference takes the new language -/
theorem pp_bec (y : MS) : ∃ z, f_X14_become 127 139 y = some z ∧ z 127 0 = y 139 0 ∧ z 127 1 = y 139 1 ∧ z 127 2 = y 139 2 ∧ z 127 5 = y 139 5 ∧ (∀ k, k < 10 → z 128 k = y 140 k) ∧ (∀ k, k < 240 → z 129 k = y 141 k) ∧ (∀ k, k < 17 → z 130 k = y 142 k ∧ z 131 k = y 143 k ∧ z 132 k = y 144 k ∧ z 133 k = y 145 k ∧ z 134 k = y 146 k ∧ z 135 k = y 147 k) ∧ (∀ k, k < 800 → z 136 k = y 148 k ∧ z 137 k = y 149 k ∧ z 138 k = y 150 k) ∧ ∀ i, (i < 127 ∨ 138 < i) → z i = y i := by
  refine ⟨_, rfl, ?_, ?_, ?_, ?_, ?_, ?_, ?_, ?_, ?_⟩
  · simp [g_cp, g_mi, g_ma, upd]
  · simp [g_cp, g_mi, g_ma, upd]
  · simp [g_cp, g_mi, g_ma, upd]
  · simp [g_cp, g_mi, g_ma, upd]
  · intro k hk
    simp [g_cp, g_mi, g_ma, va_cpy, hk]
  · intro k hk
    simp [g_cp, g_mi, g_ma, va_cpy, hk]
  · intro k hk
    refine ⟨?_, ?_, ?_, ?_, ?_, ?_⟩ <;> simp [g_cp, g_mi, g_ma, va_cpy, hk]
  · intro k hk
    refine ⟨?_, ?_, ?_⟩ <;> simp [g_cp, g_mi, g_ma, va_cpy, hk]
  · intro i hi
    have a0 : i ≠ 127 := by omega
    have a1 : i ≠ 128 := by omega
    have a2 : i ≠ 129 := by omega
    have a3 : i ≠ 130 := by omega
    have a4 : i ≠ 131 := by omega
    have a5 : i ≠ 132 := by omega
    have a6 : i ≠ 133 := by omega
    have a7 : i ≠ 134 := by omega
    have a8 : i ≠ 135 := by omega
    have a9 : i ≠ 136 := by omega
    have b0 : i ≠ 137 := by omega
    have b1 : i ≠ 138 := by omega
    simp [g_cp, g_mi, g_ma, a0, a1, a2, a3, a4, a5, a6, a7, a8, a9, b0, b1]
theorem pp_b13L : ∀ d k fuel (y : MS), d = 8 - k → d < fuel → k ≤ 8 → (∀ j, j < k → y 155 j = 0) → ∃ z, f_X13_begin_24 fuel 152 (nI k) y = some z ∧ (∀ j, j < 8 → z 155 j = 0) ∧ z 153 8 = 0 ∧ (∀ j, j ≠ 8 → z 153 j = y 153 j) ∧ z 152 3 = 0 ∧ z 152 4 = 0 ∧ ∀ i, i ≠ 152 → i ≠ 153 → i ≠ 155 → z i = y i := by
  intro d
  induction d with
  | zero =>
    intro k fuel y hd hf hk hj
    obtain ⟨f, rfl⟩ : ∃ f, fuel = f + 1 := ⟨fuel - 1, by omega⟩
    have e8 : k = 8 := by omega
    subst e8
    refine ⟨_, by rw [f_X13_begin_24, if_pos (by decide), if_pos (by decide)], fun j h => ?_, ?_, fun j h => ?_, ?_, ?_, fun i h1 h2 h3 => ?_⟩
    · rw [pp_g1, pp_g4 (by omega), pp_g1, pp_g4 (by omega), pp_g1, pp_g4 (by omega)]; exact hj j h
    · rw [pp_g1, pp_g4 (by omega), pp_g1, pp_g4 (by omega)]
      simp [g_mi, upd]
    · rw [pp_g1, pp_g4 (by omega), pp_g1, pp_g4 (by omega), pp_g1, pp_g3]
      exact pp_u2 h
    · rw [pp_g1, pp_g3, pp_u2 (by omega), pp_g1, pp_g3, pp_u1]
    · rw [pp_g1, pp_g3, pp_u1]
    · rw [pp_g1, pp_g4 h1, pp_g1, pp_g4 h1, pp_g1, pp_g4 h2]
  | succ d ih =>
    intro k fuel y hd hf hk hj
    obtain ⟨f, rfl⟩ : ∃ f, fuel = f + 1 := ⟨fuel - 1, by omega⟩
    obtain ⟨z, t1, t2, t3, t4, t5, t6, t7⟩ := ih (k + 1) f (g_mi y 155 k 0) (by omega) (by omega) (by omega) (fun j h => by
      rw [pp_g1, pp_g3]
      by_cases e : j = k
      · rw [e, pp_u1]
      · rw [pp_u2 e]; exact hj j (by omega))
    refine ⟨z, ?_, t2, t3, fun j h => by rw [t4 j h, pp_g1, pp_g4 (by omega)], t5, t6, fun i h1 h2 h3 => by rw [t7 i h1 h2 h3, pp_g1, pp_g4 h3]⟩
    rw [f_X13_begin_24, if_neg (show ¬ (8 : Int32) ≤ nI k from nI_ge (b := 8) (by omega) (by omega)), if_pos ((pp_ok (by omega)).mpr (by omega)), nI_clamp (by omega), nI_1]
    exact t1
theorem pp_b13 (y : MS) : ∃ z, f_X13_begin 152 127 y = some z ∧ (∀ j, j < 8 → z 155 j = 0) ∧ z 153 8 = 0 ∧ (∀ j, j < 8 → z 153 j = y 128 j) ∧ (∀ j, j < 240 → z 154 j = y 129 j) ∧ z 152 3 = 0 ∧ z 152 4 = 0 ∧ ∀ i, i ≠ 152 → i ≠ 153 → i ≠ 154 → i ≠ 155 → z i = y i := by
  obtain ⟨z, t1, t2, t3, t4, t5, t6, t7⟩ := pp_b13L 8 0 g_fuel (g_cp (g_cp y 128 153 10) 129 154 240) rfl (by unfold g_fuel; omega) (by omega) (fun j h => by omega)
  refine ⟨z, t1, t2, t3, fun j h => ?_, fun j h => ?_, t5, t6, fun i h1 h2 h3 h4 => ?_⟩
  · rw [t4 j (by omega)]
    have : j < 10 := by omega
    simp [g_cp, g_ma, va_cpy, this]
  · rw [t7 154 (by omega) (by omega) (by omega)]
    simp [g_cp, g_ma, va_cpy, h]
  · rw [t7 i h1 h2 h4]
    simp [g_cp, g_ma, h2, h3]
