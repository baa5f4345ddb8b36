/-! teaching: the start -/
theorem pp_stepN {x : CS} (h4 : x.1 162 4 = -1) (he : x.1 162 8 = 0) : f_X2_step x = some (pp_sx x 0) := by
  have hpl : ∀ z : CS, f_X8_place (nI 0) z = some (z.1 5 0) := fun z => by
    unfold f_X8_place
    rw [if_neg (nI_pos (by omega)), if_neg (show ¬ (401 : Int32) ≤ nI 0 from nI_ge (b := 401) (by omega) (by omega)), if_pos ((pp_ok (by omega)).mpr (by omega)), nI_clamp (by omega)]
  have hva : ∀ z : CS, f_X8_value (nI 0) z = some (z.1 7 0) := fun z => by
    unfold f_X8_value
    rw [if_neg (nI_pos (by omega)), if_neg (show ¬ (401 : Int32) ≤ nI 0 from nI_ge (b := 401) (by omega) (by omega)), if_pos ((pp_ok (by omega)).mpr (by omega)), nI_clamp (by omega)]
  have e0 : (-1 : Int32) + 1 = nI 0 := by decide
  have e1 : (g_wi x 162 4 (nI 0)).1 162 4 = nI 0 := by simp [g_wi, upd]
  have e2 : ∀ u, (g_wr (g_wi x 162 4 (nI 0)) 162 5 u).1 162 4 = nI 0 := fun u => by simp [g_wi, g_wr, upd]
  have e3 : ∀ u w, (g_wi (g_wr (g_wi x 162 4 (nI 0)) 162 5 u) 162 6 w).1 162 4 = nI 0 := fun u w => by simp [g_wi, g_wr, upd]
  unfold f_X2_step
  rw [if_neg (by rw [he]; decide), h4, e0, e1, pp_sgn (k := 0) (by omega), pp_b, e2, hpl, pp_b, e3, hva, pp_b]
  simp [pp_sx, g_wi, g_wr]
def pp_ex (x : CS) : CS := g_wi (g_wi x 1 1 (0 : Int32)) 0 10 (x.1 162 9)
def pp_tl (x : CS) : Option (Int32 × CS) := if (pp_ex x).1 162 8 = 0 then ((f_X12_beginAnew (pp_ex x)).bind fun q4 => some ((q4.1 162 8, q4))) else (some (((pp_ex x).1 162 8, pp_ex x)))
/-- what the reading of a text leaves, in both, as against before -/
def pp_FT (b v : Nat) (x x1 : CS) (y y1 : MS) : Prop := (∀ i, i ≠ 162 → i ≠ 163 → i ≠ 3 → i ≠ 5 → i ≠ 6 → i ≠ 7 → (i < b ∨ b + 20 < i) → (i < v ∨ v + 28 < i) → x1.1 i = x.1 i) ∧ (∀ i, i ≠ 162 → i ≠ 4 → (i < b ∨ b + 20 < i) → x1.2 i = x.2 i) ∧ (x1.1 v 3 = 0 ∧ x1.1 v 4 = 0) ∧ (∀ i, i ≠ 120 → i ≠ 126 → (i < 122 ∨ 125 < i) → (i < 139 ∨ 150 < i) → y1 i = y i) ∧ ∀ j, 0 < j → j < 8 → y1 120 j = y 120 j
theorem pp_wrk {b v : Nat} {x : CS} {y : MS} {t : Nat → Nat} {T : Nat} (hb : b = 20 ∨ b = 70) (hv : v = 41 ∨ v = 91) (hC : pp_CT x t T) (hM : pp_MT y t T) (h8 : x.2 0 8 = b) (h9 : x.2 0 9 = v) (h6 : x.2 0 6 < 120) (h7 : x.2 0 7 < 120) : ∃ n x0 y0 x1 y1 xs ys, f_X12_teach x = pp_tl x1 ∧ f_X15_teach y = f_X15_teach_70 y1 ∧ pp_TF x0 y0 t T n ∧ pp_FT b v x x1 y y1 ∧ ((∃ k1, pp_LK b v n 0 0 x0 xs y0 ys k1 x1 y1) ∨ pp_LQ b v n x0 xs y0 ys x1 y1) := by
  -- the reference's start
  have hbg : ∃ yb, f_X14_begin 139 (g_mi (g_mi (g_mi (g_mi (g_mi y 120 0 (0 : Int32)) 120 8 (0 : Int32)) 120 9 (0 : Int32)) 120 10 (0 : Int32)) 120 12 (0 : Int32)) = some yb ∧ (∀ i, i ≠ 120 → i ≠ 139 → yb i = y i) ∧ (∀ j, 0 < j → j < 8 → yb 120 j = y 120 j) ∧ yb 120 8 = 0 ∧ yb 120 9 = 0 ∧ yb 120 10 = 0 ∧ yb 120 12 = 0 ∧ yb 139 0 = 4 ∧ yb 139 1 = 6 ∧ yb 139 2 = 0 ∧ yb 139 5 = 0 ∧ yb 139 12 = 0 := by
    refine ⟨_, rfl, fun i h1 h2 => ?_, fun j h1 h2 => ?_, ?_, ?_, ?_, ?_, ?_, ?_, ?_, ?_, ?_⟩
    · simp [g_mi, h1, h2]
    · have e0 : j ≠ 0 := by omega
      have e8 : j ≠ 8 := by omega
      have e9 : j ≠ 9 := by omega
      have e10 : j ≠ 10 := by omega
      have e12 : j ≠ 12 := by omega
      simp [g_mi, upd, e0, e8, e9, e10, e12]
    all_goals simp [g_mi, upd]
  obtain ⟨yb, g1, g2, g3, g4, g5, g6, g7, g8, g9, g10, g11, g12⟩ := hbg
  have hMb : pp_MT yb t T := by
    obtain ⟨m1, m2, m3, m4⟩ := hM
    exact ⟨by rw [g3 2 (by omega) (by omega)]; exact m1, m2, m3, fun p hp => by rw [g2 121 (by omega) (by omega)]; exact m4 p hp⟩
  obtain ⟨n, x0, y0, r1, r2, hF, r3, r4⟩ := pp_tape hC hMb
  have hM0 : pp_MT y0 t T := by
    obtain ⟨m1, m2, m3, m4⟩ := hMb
    exact ⟨by rw [r4 120 (by omega)]; exact m1, m2, m3, fun p hp => by rw [r4 121 (by omega)]; exact m4 p hp⟩
  have x20 : ∀ j, x0.2 0 j = x.2 0 j := fun j => by rw [r3.2 0 (by omega)]
  have hok : g_okRb x0 = true := by
    unfold g_okRb
    rw [x20, x20, x20, x20, h8, h9]
    simp only [Bool.and_eq_true, decide_eq_true_eq]
    exact ⟨⟨⟨h6, h7⟩, by omega⟩, by omega⟩
  -- the class's start
  have hz : ∃ z, f_X2_readLanguage (g_pz x0 b v) = f_X2_readLanguage_20 g_fuel (0 : Int32) (pp_sx z 0) ∧ (∀ i, i ≠ 162 → i ≠ 163 → i ≠ b → i ≠ v → z.1 i = x0.1 i) ∧ (∀ i, i ≠ 162 → z.2 i = x0.2 i) ∧ z.2 162 1 = b ∧ z.2 162 2 = v ∧ z.1 162 8 = 0 ∧ z.1 162 9 = -1 ∧ z.1 b 4 = 0 ∧ z.1 b 5 = 0 ∧ z.1 b 6 = 4 ∧ z.1 b 7 = 6 ∧ z.1 v 2 = 0 ∧ z.1 v 3 = 0 ∧ z.1 v 4 = 0 := by
    have hbv : b ≠ v := by omega
    have hbv' : v ≠ b := by omega
    have hb1 : b ≠ 162 := by omega
    have hv1 : v ≠ 162 := by omega
    have hb2 : b ≠ 163 := by omega
    have hv2 : v ≠ 163 := by omega
    have hb1' : 162 ≠ b := by omega
    have hv1' : 162 ≠ v := by omega
    refine ⟨g_wi (g_wi (g_wi (g_wi (g_wi (g_wi (g_wi (g_pz x0 b v) b 4 (0 : Int32)) b 5 (0 : Int32)) b 6 (4 : Int32)) b 7 (6 : Int32)) v 2 (0 : Int32)) v 3 (0 : Int32)) v 4 (0 : Int32), ?_, ?_, ?_, ?_, ?_, ?_, ?_, ?_, ?_, ?_, ?_, ?_, ?_, ?_⟩
    · have p1 : (g_pz x0 b v).2 162 1 = b := by simp [g_pz]
      have p2 : ∀ z : CS, f_X5_clear b z = some (g_wi (g_wi (g_wi (g_wi z b 4 (0 : Int32)) b 5 (0 : Int32)) b 6 (4 : Int32)) b 7 (6 : Int32)) := fun z => rfl
      have p3 : ∀ z : CS, f_X9_clear v z = some (g_wi (g_wi (g_wi z v 2 (0 : Int32)) v 3 (0 : Int32)) v 4 (0 : Int32)) := fun z => rfl
      have p4 : (g_wi (g_wi (g_wi (g_wi (g_pz x0 b v) b 4 (0 : Int32)) b 5 (0 : Int32)) b 6 (4 : Int32)) b 7 (6 : Int32)).2 162 2 = v := by simp [g_wi, g_pz]
      unfold f_X2_readLanguage
      rw [p1, if_pos (pp_k7 hb), p2, pp_b, p4, if_pos (pp_k9 hv), p3, pp_b, pp_stepN (by simp [g_wi, g_pz, upd, hb1', hv1']) (by simp [g_wi, g_pz, upd, hb1', hv1']), pp_b]
    · intro i h1 h2 h3 h4
      simp [g_wi, g_pz, h1, h2, h3, h4]
    · intro i h1
      simp [g_wi, g_pz, h1]
    all_goals simp [g_wi, g_pz, upd, hbv, hbv', hb1, hv1, hb2, hv2, hb1', hv1']
  obtain ⟨z, z1, z2, z3, z4, z5, z6, z7, z8, z9, z10, z11, z12, z13, z14⟩ := hz
  obtain ⟨s1, s2, s3, s4, s5, s6, s7, s8, s9⟩ := pp_sx1 (x := z) (k := 0)
  have yi : ∀ i, (i < 122 ∨ 125 < i) → y0 i = yb i := r4
  have hLD : pp_LD b v n 0 0 0 x0 (pp_sx z 0) y0 := by
    refine ⟨by omega, by rw [s1 v (by omega)]; exact z12, by rw [yi 139 (by omega)]; exact g10, fun j hj => by omega, fun j hj => by omega, ⟨0, 0, by omega, by omega, by rw [s1 b (by omega)]; exact z8, by rw [yi 139 (by omega)]; exact g11, by rw [s1 b (by omega)]; exact z9, by rw [yi 139 (by omega)]; exact g12, fun p hp => by omega, fun k hk => by omega⟩, ⟨4, by omega, by rw [s1 b (by omega)]; exact z10, by rw [yi 139 (by omega)]; exact g8⟩, 6, by omega, by rw [s1 b (by omega)]; exact z11, by rw [yi 139 (by omega)]; exact g9⟩
  have hLK : pp_LK b v n 0 0 x0 (pp_sx z 0) y0 y0 0 (pp_sx z 0) y0 := by
    refine ⟨⟨⟨0, s5, by rw [yi 120 (by omega)]; exact g4, by omega, by rw [s4, z3 4 (by omega)], by rw [s6, z2 5 (by omega) (by omega) (by omega) (by omega)], by rw [s7, z2 7 (by omega) (by omega) (by omega) (by omega)], by rw [yi 120 (by omega)]; exact g5, by rw [yi 120 (by omega)]; exact g7, Or.inl rfl, by rw [s8]; exact z6, by rw [yi 120 (by omega)]; exact g6, fun _ => by rw [s9]; exact z7, fun q => absurd rfl q⟩, by rw [s1 5 (by omega), z2 5 (by omega) (by omega) (by omega) (by omega)], by rw [s1 7 (by omega), z2 7 (by omega) (by omega) (by omega) (by omega)], by rw [s2 4 (by omega), z3 4 (by omega)], rfl, rfl, rfl, rfl, rfl⟩, pp_FL.rf b v _ _, ⟨⟨0, by omega, by rw [s1 v (by omega)]; exact z12⟩, ⟨0, by omega, by rw [s1 b (by omega)]; exact z8⟩, ⟨0, by omega, by rw [yi 139 (by omega)]; exact g11⟩, ⟨0, by omega, by rw [yi 139 (by omega)]; exact g12⟩, 0, by omega, by rw [yi 139 (by omega)]; exact g10, fun j hj => by omega⟩, fun _ => ⟨0, hLD⟩⟩
  obtain ⟨x1, y1, l1, l2, l3⟩ := pp_lng hb hv hF hM0 (by rw [s3 1 (by omega)]; exact z4) (by rw [s3 2 (by omega)]; exact z5) (n - 0) g_fuel g_fuel 0 0 _ _ rfl (by have := hF.1; unfold g_fuel; omega) (by have := hF.1; unfold g_fuel; omega) (by omega) hLK
  have hFL : pp_FL b v (pp_sx z 0) x1 y0 y1 := by
    rcases l3 with ⟨k1, h⟩ | h
    · exact h.2.1
    · exact h.2
  refine ⟨n, x0, y0, x1, y1, pp_sx z 0, y0, ?_, ?_, hF, ⟨fun i h1 h2 h3 h4 h5 h6 h7 h8 => ?_, fun i h1 h2 h3 => ?_, ⟨?_, ?_⟩, fun i h1 h2 h3 h4 => ?_, fun j h1 h2 => ?_⟩, l3⟩
  · unfold f_X12_teach
    rw [r1, pp_b, if_pos hok, x20, x20, h8, h9, z1, show (0 : Int32) = nI 0 from rfl, l1, pp_b]
    rfl
  · unfold f_X15_teach
    rw [g1, pp_b, r2, pp_b, l2]
  · rw [hFL.1 i h1 h2 h7 h8, s1 i h1, z2 i h1 h2 (by omega) (by omega), r3.1 i h3 h4 h5 h6]
  · rw [hFL.2.1 i h1 h3, s2 i h1, z3 i h1, r3.2 i h2]
  · rw [hFL.2.2.2.1 3 (by omega), s1 v (by omega)]; exact z13
  · rw [hFL.2.2.2.1 4 (by omega), s1 v (by omega)]; exact z14
  · rw [hFL.2.2.2.2.1 i h1 h2 h4, yi i h3, g2 i h1 (by omega)]
  · rw [hFL.2.2.2.2.2 j (by omega), yi 120 (by omega), g3 j h1 h2]
