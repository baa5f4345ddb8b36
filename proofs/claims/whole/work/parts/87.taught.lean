/-! teaching, both -/
def pp_sw (x : CS) (b bb v vv : Nat) : CS := g_wi (g_wr (g_wr (g_wr (g_wr x 0 6 b) 0 8 bb) 0 7 v) 0 9 vv) 14 1 (0 : Int32)
theorem pp_sw1 {x : CS} {b bb v vv : Nat} : (∀ i, i ≠ 14 → (pp_sw x b bb v vv).1 i = x.1 i) ∧ (pp_sw x b bb v vv).1 14 1 = 0 ∧ (∀ i, i ≠ 0 → (pp_sw x b bb v vv).2 i = x.2 i) ∧ (pp_sw x b bb v vv).2 0 6 = b ∧ (pp_sw x b bb v vv).2 0 7 = v ∧ (pp_sw x b bb v vv).2 0 8 = bb ∧ (pp_sw x b bb v vv).2 0 9 = vv := by
  refine ⟨fun i h => ?_, ?_, fun i h => ?_, ?_, ?_, ?_, ?_⟩
  · simp [pp_sw, g_wi, g_wr, h]
  · simp [pp_sw, g_wi, upd]
  · simp [pp_sw, g_wi, g_wr, h]
  · simp [pp_sw, g_wi, g_wr, va_up]
  · simp [pp_sw, g_wi, g_wr, va_up]
  · simp [pp_sw, g_wi, g_wr, va_up]
  · simp [pp_sw, g_wi, g_wr, va_up]
theorem pp_anew {x : CS} {b bb v vv : Nat} (hb : b = 20 ∨ b = 70) (hbb : bb = 20 ∨ bb = 70) (hv : v = 41 ∨ v = 91) (hvv : vv = 41 ∨ vv = 91) (h6 : x.2 0 6 = bb) (h7 : x.2 0 7 = vv) (h8 : x.2 0 8 = b) (h9 : x.2 0 9 = v) : f_X12_beginAnew x = some (pp_sw x b bb v vv) := by
  have e7 : (g_wr (g_wr x 0 6 b) 0 8 bb).2 0 7 = vv := by simp [g_wr, va_up, h7]
  have e9 : (g_wr (g_wr x 0 6 b) 0 8 bb).2 0 9 = v := by simp [g_wr, va_up, h9]
  unfold f_X12_beginAnew
  rw [h6, if_pos (pp_k7 hbb), h8, if_pos (pp_k7 hb), e7, if_pos (pp_k9 hvv), e9, if_pos (pp_k9 hv)]
  rfl
theorem pp_o2s {x x1 x0 : CS} {y y1 : MS} {n b v bb vv W : Nat} (hbb : (bb = 20 ∧ vv = 41 ∧ b = 70 ∧ v = 91) ∨ (bb = 70 ∧ vv = 91 ∧ b = 20 ∧ v = 41)) (t6 : x.2 0 6 = bb) (t7 : x.2 0 7 = vv) (t8 : x.2 0 8 = b) (t9 : x.2 0 9 = v) (hFT : pp_FT b v x x1 y y1) (hL : pp_LD b v n W 0 0 x0 x1 y1) (q1 : x1.1 162 8 = 0) (q2 : y1 120 10 = 0) (q3 : x1.1 162 9 = -1) : pp_O2 (pp_tl x1) (f_X15_teach_70 y1) := by
  obtain ⟨x1e, x2e, x3e, x4e⟩ := pp_ex1 (x := x1)
  have x20 : ∀ j, (pp_ex x1).2 0 j = x.2 0 j := fun j => by rw [x2e, hFT.2.1 0 (by omega) (by omega) (by omega)]
  have hnew := pp_anew (x := pp_ex x1) (b := b) (bb := bb) (v := v) (vv := vv) (by omega) (by omega) (by omega) (by omega) ((x20 6).trans t6) ((x20 7).trans t7) ((x20 8).trans t8) ((x20 9).trans t9)
  obtain ⟨w1, w2, w3, w4, w5, w6, w7⟩ := pp_sw1 (x := pp_ex x1) (b := b) (bb := bb) (v := v) (vv := vv)
  have x8 : (pp_ex x1).1 162 8 = 0 := by rw [x1e 162 (by omega) (by omega)]; exact q1
  -- the reference
  have yi : ∀ i, i ≠ 120 → (g_mi (g_mi y1 120 2 (0 : Int32)) 120 3 (-1 : Int32)) i = y1 i := fun i hi => by rw [pp_g1, pp_g4 hi, pp_g1, pp_g4 hi]
  have k1 : (g_mi y1 120 2 (0 : Int32)) 120 10 = 0 := by rw [pp_g1, pp_g3, pp_u2 (by omega)]; exact q2
  have k4 : (g_mi (g_mi y1 120 2 (0 : Int32)) 120 3 (-1 : Int32)) 120 10 = 0 := by rw [pp_g1, pp_g3, pp_u2 (by omega)]; exact k1
  have k2 : (g_mi (g_mi y1 120 2 (0 : Int32)) 120 3 (-1 : Int32)) 120 2 = 0 := by rw [pp_g1, pp_g3, pp_u2 (by omega), pp_g1, pp_g3, pp_u1]
  have k3 : (g_mi (g_mi y1 120 2 (0 : Int32)) 120 3 (-1 : Int32)) 120 3 = -1 := by rw [pp_g1, pp_g3, pp_u1]
  obtain ⟨z, z1, z2, z3, z4, z5, z6, z7, z8, z9, z10⟩ := pp_bec (g_mi (g_mi y1 120 2 (0 : Int32)) 120 3 (-1 : Int32))
  obtain ⟨u, u1, u2, u3, u4, u5, u6, u7, u8⟩ := pp_b13 z
  rw [yi 139 (by omega)] at z2 z3 z4 z5
  rw [yi 140 (by omega)] at z6
  rw [yi 141 (by omega)] at z7
  rw [yi 142 (by omega), yi 143 (by omega), yi 144 (by omega), yi 145 (by omega), yi 146 (by omega), yi 147 (by omega)] at z8
  rw [yi 148 (by omega), yi 149 (by omega), yi 150 (by omega)] at z9
  obtain ⟨c1, c2, c3, c4, c5, ⟨R, Z, c6, c7, d1, d2, d3, d4, d5, d6⟩, ⟨g, c9, e1, e2⟩, m, e3, e4, e5⟩ := hL
  -- the words
  have hrow : ∀ j, j < W → 0 < (y1 140 j).toNatClampNeg ∧ x1.1 (pp_wd v j) 1 = 0 ∧ x1.1 (pp_wd v j) 2 = 999 ∧ pp_RC x1 (pp_wd v j + 1) (fun k => min 40 (y1 141 (24 * j + k)).toNatClampNeg) (y1 140 j).toNatClampNeg ∧ pp_RM y1 139 j (fun k => min 40 (y1 141 (24 * j + k)).toNatClampNeg) (y1 140 j).toNatClampNeg := by
    intro j hj
    obtain ⟨r1, r2, p, l, r3, ⟨s1, s2, s3, s4⟩, v1, v2, v3, v4⟩ := c5 j hj
    have v1' : y1 140 j = nI l := v1
    have el : (y1 140 j).toNatClampNeg = l := by rw [v1', nI_clamp (by omega)]
    have ep : ∀ k, k < l → min 40 (y1 141 (24 * j + k)).toNatClampNeg = p k := fun k hk => by
      have v4' : y1 141 (24 * j + k) = nI (p k) := v4 k hk
      have h40 := v3 k
      rw [v4', nI_clamp (by omega), Nat.min_eq_right h40]
    rw [el]
    exact ⟨r3 (by omega), r1, r2, ⟨s1, s2, fun k => Nat.min_le_left _ _, fun k hk => (s4 k hk).trans (congrArg nI (ep k hk).symm)⟩, v1, v2, fun k => Nat.min_le_left _ _, fun k hk => (v4 k hk).trans (congrArg nI (ep k hk).symm)⟩
  have xe : ∀ i, i ≠ 14 → i ≠ 0 → i ≠ 1 → (pp_sw (pp_ex x1) b bb v vv).1 i = x1.1 i := fun i h1 h2 h3 => by rw [w1 i h1, x1e i h2 h3]
  have xe2 : ∀ i, i ≠ 0 → (pp_sw (pp_ex x1) b bb v vv).2 i = x1.2 i := fun i h1 => by rw [w3 i h1, x2e]
  have ue : ∀ i, i < 127 → i ≠ 120 → u i = y1 i := fun i h1 h2 => by rw [u8 i (by omega) (by omega) (by omega) (by omega), z10 i (by omega), yi i h2]
  have uz : ∀ i, 127 ≤ i → i ≤ 138 → u i = z i := fun i h1 h2 => u8 i (by omega) (by omega) (by omega) (by omega)
  have u120 : u 120 = (g_mi (g_mi y1 120 2 (0 : Int32)) 120 3 (-1 : Int32)) 120 := by rw [u8 120 (by omega) (by omega) (by omega) (by omega), z10 120 (by omega)]
  refine ⟨0, pp_sw (pp_ex x1) b bb v vv, u, ?_, ?_, (W, fun _ => 0, fun j => (y1 140 j).toNatClampNeg, fun j k => min 40 (y1 141 (24 * j + k)).toNatClampNeg, 0, fun _ => 0, g), b, v, R, Z, m, 0, ⟨c1, fun j => by show 0 ≤ 1; omega, fun j hj => (hrow j hj).1, c9⟩, ⟨w4, w5, by rw [w6, w7]; omega, e3, by rw [xe b (by omega) (by omega) (by omega)]; exact e4, by rw [uz 127 (by omega) (by omega)]; exact z3.trans e5, by omega, by rw [w1 1 (by omega)]; exact x3e, by rw [u120]; exact k2, fun k hk => by omega, by rw [w1 0 (by omega), x4e, q3, u120, k3]⟩, ⟨by omega, by rw [xe v (by omega) (by omega) (by omega)]; exact c2, fun j hj => ?_, w2, by show 0 ≤ 24; omega, fun _ => by show 0 ≤ 40; omega, fun k hk => absurd hk (Nat.not_lt_zero k)⟩, ⟨Or.inl rfl, by rw [uz 127 (by omega) (by omega)]; exact z4.trans c3, by rw [uz 127 (by omega) (by omega)]; exact z2.trans e2, fun j hj => ?_, u3, by show 0 ≤ 24; omega, fun _ => by show 0 ≤ 40; omega, fun k hk => absurd hk (Nat.not_lt_zero k)⟩, by rw [xe v (by omega) (by omega) (by omega), hFT.2.2.1.1, u6], by rw [xe v (by omega) (by omega) (by omega), hFT.2.2.1.2, u7], by omega, c6, c7, by rw [xe b (by omega) (by omega) (by omega)]; exact d1, by rw [uz 127 (by omega) (by omega)]; exact z5.trans d2, by rw [xe b (by omega) (by omega) (by omega)]; exact e1, fun p hp => ?_, fun r hr => ?_⟩
  · unfold pp_tl
    rw [if_pos x8, hnew, pp_b, w1 162 (by omega), x8]
  · unfold f_X15_teach_70
    rw [if_pos k1]
    unfold f_X15_teach_96
    rw [if_pos k4, z1, pp_b, u1]; rfl
  · obtain ⟨r1, r2, r3, r4, r5⟩ := hrow j hj
    have hj8 : j < 8 := Nat.lt_of_lt_of_le hj c1
    have hw : pp_wd v j = v + 1 + 4 + 3 * j := rfl
    exact ⟨by rw [xe _ (by omega) (by omega) (by omega)]; exact r2, by rw [xe _ (by omega) (by omega) (by omega)]; exact r3, r4.e (xe _ (by omega) (by omega) (by omega)) (xe _ (by omega) (by omega) (by omega))⟩
  · have hj8 : j < 8 := Nat.lt_of_lt_of_le hj c1
    obtain ⟨r1, r2, r3, r4, r5, r6, r7, r8⟩ := hrow j hj
    refine ⟨u2 j hj8, ?_, r6, r7, fun k hk => ?_⟩
    · show u 153 j = _
      rw [u4 j hj8, z6 j (by omega)]; exact r5
    · show u 154 (24 * j + k) = _
      have hk2 : k < (y1 140 j).toNatClampNeg := hk
      rw [u5 _ (by omega), z7 _ (by omega)]; exact r8 k hk
  · have h8 := d5 p hp
    obtain ⟨a1, a2, a3⟩ := z9 p (by omega)
    show pp_nd W ((pp_sw (pp_ex x1) b bb v vv).2 (b + 3)) ((pp_sw (pp_ex x1) b bb v vv).1 (b + 4)) (u 136) (u 137) (u 138) p
    rw [xe2 _ (by omega), xe _ (by omega) (by omega) (by omega), uz 136 (by omega) (by omega), uz 137 (by omega) (by omega), uz 138 (by omega) (by omega)]
    exact pp_ndE h8 (fun _ _ => rfl) rfl a1 a2 a3
  · have hr16 : r < 16 := by omega
    obtain ⟨a1, a2, a3, a4, a5, a6⟩ := z8 r (by omega)
    have hw : pp_rr b r = b + 1 + 4 + 1 * r := rfl
    have h8 := d6 r hr
    obtain ⟨w, s, mm, e, f1, f2, f3, f4, f5, f6, f7, f8, f9, g1, g2, g3, g4, g5⟩ := h8
    have xr : (pp_sw (pp_ex x1) b bb v vv).1 (pp_rr b r) = x1.1 (pp_rr b r) := xe _ (by omega) (by omega) (by omega)
    have xr2 : (pp_sw (pp_ex x1) b bb v vv).2 (pp_rr b r) = x1.2 (pp_rr b r) := xe2 _ (by omega)
    have xb : (pp_sw (pp_ex x1) b bb v vv).2 (b + 3) = x1.2 (b + 3) := xe2 _ (by omega)
    refine ⟨w, s, mm, e, f1, f2, f3, f4, by rw [xb]; exact f5, by rw [xr]; exact f6, by rw [xr]; exact f7, by rw [xr]; exact f8, by rw [xr]; exact f9, ?_, ?_, ?_, ?_, ?_⟩
    · show u 131 r = _
      rw [uz 131 (by omega) (by omega), a2]; exact g1
    · show u 132 r = _
      rw [uz 132 (by omega) (by omega), a3]; exact g2
    · show u 133 r = _
      rw [uz 133 (by omega) (by omega), a4]; exact g3
    · rw [xb]
      show (_ ∧ u 135 r = _) ∨ (_ ∧ u 135 r = _)
      rw [uz 135 (by omega) (by omega), a6]; exact g4
    · rw [xb, xr2]
      show (_ ∧ u 130 r = _ ∧ _ ∧ u 134 r = _) ∨ (_ ∧ u 130 r = _) ∨ (_ ∧ u 130 r = _)
      rw [uz 130 (by omega) (by omega), uz 134 (by omega) (by omega), a1, a5]; exact g5
theorem pp_oT {x : CS} {y : MS} (h : pp_R x y) : pp_O2 (f_X12_teach x) (f_X15_teach y) := by
  obtain ⟨A, bb, vv, R, Z, nr, T, hA, hT, hC, hM, h3, h4, hB⟩ := h
  obtain ⟨t1, t2, t3, t4, t5, t6, t7, t8, t9, t10, t11⟩ := id hT
  obtain ⟨b, v, hbb, h8, h9⟩ : ∃ b v, ((bb = 20 ∧ vv = 41 ∧ b = 70 ∧ v = 91) ∨ (bb = 70 ∧ vv = 91 ∧ b = 20 ∧ v = 41)) ∧ x.2 0 8 = b ∧ x.2 0 9 = v := by
    rcases t3 with ⟨a1, a2, a3, a4⟩ | ⟨a1, a2, a3, a4⟩
    · exact ⟨70, 91, Or.inl ⟨a1, a2, rfl, rfl⟩, a3, a4⟩
    · exact ⟨20, 41, Or.inr ⟨a1, a2, rfl, rfl⟩, a3, a4⟩
  have ht : ∀ p, p < T → y 121 p = nI (y 121 p).toNatClampNeg ∧ (y 121 p).toNatClampNeg < 256 := fun p hp => by
    obtain ⟨-, c, c1, c2⟩ := t10 p hp
    rw [c2, nI_clamp (by omega)]
    exact ⟨rfl, c1⟩
  have hct : pp_CT x (fun p => (y 121 p).toNatClampNeg) T := ⟨t8, t7, fun p hp => (ht p hp).2, fun p hp => (t10 p hp).1.trans (ht p hp).1⟩
  have hmt : pp_MT y (fun p => (y 121 p).toNatClampNeg) T := ⟨t9, t7, fun p hp => (ht p hp).2, fun p hp => (ht p hp).1⟩
  obtain ⟨n, x0, y0, x1, y1, xs, ys, l1, l2, hF, hFT, l3⟩ := pp_wrk (b := b) (v := v) (by omega) (by omega) hct hmt h8 h9 (by omega) (by omega)
  rw [l1, l2]
  rcases l3 with ⟨k1, hL⟩ | hL
  · obtain ⟨⟨er, m1, m2, m3, m4, m5, m6, m7, m8, m9, m10, m11, m12, m13⟩, hTC⟩ := hL.1
    by_cases e : er = 0
    · subst e
      obtain ⟨W, hW⟩ := hL.2.2.2 m10
      exact pp_o2s hbb t1 t2 h8 h9 hFT hW m10 m11 (m12 rfl)
    · exact pp_o2e hA hT hC hM h3 h4 hB hbb hF hFT (by omega) (by omega) m10 m11 (m13 e) hTC.2.2.2.2.2.2.1
  · obtain ⟨⟨k, m1, m2, m3, m4, m5, m6, m7⟩, hTC⟩ := hL.1
    exact pp_o2e (er := 1) hA hT hC hM h3 h4 hB hbb hF hFT (by omega) (by omega) m1 m4 m5 hTC.2.2.2.2.2.2.1
