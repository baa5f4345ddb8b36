/-! beats of a word, as both count them -/
theorem pp_ndv : ∀ w, w < 400 → ∀ m, m < 10 → 0 < m → -(nI w) / nI m = -(nI (w / m)) := by decide +kernel
theorem pp_bt40 {a c i m : Nat} (ha : a ≤ 40) (hc : c ≤ 40) (hi : i < m) (hm : m ≤ 9) : ∃ e, e ≤ 40 ∧ nI a + ((nI c - nI a) * nI i) / nI m = nI e := by
  rcases Nat.le_total a c with h | h
  · have h1 : (c - a) * i ≤ (c - a) * m := Nat.mul_le_mul_left _ (by omega)
    have h2 : (c - a) * i / m ≤ c - a := Nat.div_le_of_le_mul (by rw [Nat.mul_comm m]; exact h1)
    have h3 : (c - a) * i ≤ 40 * 9 := Nat.mul_le_mul (by omega) (by omega)
    exact ⟨a + (c - a) * i / m, by omega, by rw [pk_sub h, pk_mul, pk_div (by omega) (by omega) (by omega), nI_add]⟩
  · have h1 : (a - c) * i ≤ (a - c) * m := Nat.mul_le_mul_left _ (by omega)
    have h2 : (a - c) * i / m ≤ a - c := Nat.div_le_of_le_mul (by rw [Nat.mul_comm m]; exact h1)
    have h3 : (a - c) * i ≤ 40 * 9 := Nat.mul_le_mul (by omega) (by omega)
    have e : nI c - nI a = -(nI (a - c)) := by rw [← pk_sub h]; exact (Int32.neg_sub).symm
    obtain ⟨u, hu⟩ : ∃ u, u = (a - c) * i / m := ⟨_, rfl⟩
    rw [← hu] at h2
    exact ⟨a - u, by omega, by rw [e, Int32.neg_mul, pk_mul, pp_ndv _ (by omega) _ (by omega) (by omega), ← hu, ← pk_sub (by omega), Int32.sub_eq_add_neg]⟩
/-- the class's beats: always ending, changing one phrase -/
theorem pp_badT {ph : Nat} {p : Int32} {x : CS} : ∃ x1, f_X3_add ph p x = some x1 ∧ (∀ i, i ≠ ph → i ≠ ph + 1 → x1.1 i = x.1 i) ∧ x1.2 = x.2 := by
  by_cases h : x.1 ph 1 < 0
  · exact ⟨x, by unfold f_X3_add; rw [if_pos h], fun _ _ _ => rfl, rfl⟩
  · by_cases h2 : (24 : Int32) ≤ x.1 ph 1
    · exact ⟨x, by unfold f_X3_add; rw [if_neg h, if_pos h2], fun _ _ _ => rfl, rfl⟩
    · obtain ⟨Z, hZ, e⟩ := nI_of h
      have hZ4 : Z < 24 := by
        rcases Nat.lt_or_ge Z 24 with h3 | h3
        · exact h3
        · exact absurd (show (24 : Int32) ≤ x.1 ph 1 by rw [e]; exact nI_le (a := 24) h3 hZ) h2
      refine ⟨g_wi (g_wi x (ph + 1) (nI Z).toNatClampNeg p) ph 1 ((g_wi x (ph + 1) (nI Z).toNatClampNeg p).1 ph 1 + 1), by unfold f_X3_add; rw [if_neg h, if_neg h2, e, if_pos ((pp_ok (by omega)).mpr hZ4)], fun i h1 h2 => ?_, rfl⟩
      simp [g_wi, h1, h2]
theorem pp_quT {a c : Int32} : ∃ q, f_X12_quotient a c = some q := by
  unfold f_X12_quotient
  by_cases h : c = 0
  · exact ⟨0, by rw [if_pos h]⟩
  · exact ⟨a / c, by rw [if_neg h, if_pos h]⟩
theorem pp_glT {ph : Nat} {a c q : Int32} : ∀ d i fuel x, d = 9 - i → d < fuel → i ≤ 9 → ∃ x1, f_X3_addGlide_3 fuel ph a c q (nI i) x = some x1 ∧ (∀ i, i ≠ ph → i ≠ ph + 1 → x1.1 i = x.1 i) ∧ x1.2 = x.2 := by
  intro d
  induction d with
  | zero =>
    intro i fuel x hd hf hi
    obtain ⟨f, rfl⟩ : ∃ f, fuel = f + 1 := ⟨fuel - 1, by omega⟩
    refine ⟨x, ?_, fun _ _ _ => rfl, rfl⟩
    rw [f_X3_addGlide_3]
    split
    · rfl
    · rw [if_pos (show (9 : Int32) ≤ nI i from nI_le (a := 9) (by omega) (by omega))]
  | succ d ih =>
    intro i fuel x hd hf hi
    obtain ⟨f, rfl⟩ : ∃ f, fuel = f + 1 := ⟨fuel - 1, by omega⟩
    by_cases h : q ≤ nI i
    · refine ⟨x, ?_, fun _ _ _ => rfl, rfl⟩
      rw [f_X3_addGlide_3, if_pos h]
    · obtain ⟨u, hu⟩ := pp_quT (a := (c - a) * nI i) (c := q)
      obtain ⟨x1, a1, a2, a3⟩ := pp_badT (ph := ph) (p := a + u) (x := x)
      obtain ⟨x2, b1, b2, b3⟩ := ih (i + 1) f x1 (by omega) (by omega) (by omega)
      refine ⟨x2, ?_, fun j h1 h2 => (b2 j h1 h2).trans (a2 j h1 h2), b3.trans a3⟩
      rw [f_X3_addGlide_3, if_neg h, if_neg (show ¬ (9 : Int32) ≤ nI i from nI_ge (b := 9) (by omega) (by omega)), hu, pp_b, a1, pp_b, nI_1]
      exact b1
theorem pp_gldT {ph : Nat} {a c q : Int32} {x : CS} : ∃ x1, f_X3_addGlide ph a c q x = some x1 ∧ (∀ i, i ≠ ph → i ≠ ph + 1 → x1.1 i = x.1 i) ∧ x1.2 = x.2 := by
  unfold f_X3_addGlide
  exact pp_glT 9 0 g_fuel x rfl (by unfold g_fuel; omega) (by omega)
/-- the frame of the reference's beats of word w -/
def pp_FB (w : Nat) (y y1 : MS) : Prop := (∀ i, i ≠ 140 → i ≠ 141 → y1 i = y i) ∧ (∀ j, j ≠ w → y1 140 j = y 140 j) ∧ ∀ j, (j < 24 * w ∨ 24 * w + 24 ≤ j) → y1 141 j = y 141 j
theorem pp_FB.rf (w : Nat) (y : MS) : pp_FB w y y := ⟨fun _ _ _ => rfl, fun _ _ => rfl, fun _ _ => rfl⟩
theorem pp_FB.tr {w : Nat} {y z u : MS} (h : pp_FB w y z) (k : pp_FB w z u) : pp_FB w y u := ⟨fun i h1 h2 => (k.1 i h1 h2).trans (h.1 i h1 h2), fun j h1 => (k.2.1 j h1).trans (h.2.1 j h1), fun j h1 => (k.2.2 j h1).trans (h.2.2 j h1)⟩
theorem pp_glO {ph w a c m : Nat} (hw : w < 8) (ha : a ≤ 40) (hc : c ≤ 40) (hm : m ≤ 9) : ∀ d i fc fm l x y p, d = m - i → d < fc → d < fm → i ≤ m → l + (m - i) ≤ 24 → pp_RC x ph p l → pp_RM y 139 w p l → y 120 9 = 0 → y 120 10 = 0 → ∃ x1 y1 p1, f_X3_addGlide_3 fc ph (nI a) (nI c) (nI m) (nI i) x = some x1 ∧ f_X15_part_95 fm (nI w) (nI a) (nI c) (nI m) (nI i) y = some y1 ∧ pp_RC x1 ph p1 (l + (m - i)) ∧ pp_RM y1 139 w p1 (l + (m - i)) ∧ (∀ i, i ≠ ph → i ≠ ph + 1 → x1.1 i = x.1 i) ∧ x1.2 = x.2 ∧ pp_FB w y y1 := by
  intro d
  induction d with
  | zero =>
    intro i fc fm l x y p hd hfc hfm hi hl hR hM h9 h10
    obtain ⟨f, rfl⟩ : ∃ f, fc = f + 1 := ⟨fc - 1, by omega⟩
    obtain ⟨g, rfl⟩ : ∃ g, fm = g + 1 := ⟨fm - 1, by omega⟩
    have e : m - i = 0 := by omega
    refine ⟨x, y, p, ?_, ?_, by rw [e]; exact hR, by rw [e]; exact hM, fun _ _ _ => rfl, rfl, pp_FB.rf w y⟩
    · rw [f_X3_addGlide_3, if_pos (nI_le (by omega) (by omega))]
    · rw [f_X15_part_95, if_pos (nI_le (by omega) (by omega))]
  | succ d ih =>
    intro i fc fm l x y p hd hfc hfm hi hl hR hM h9 h10
    obtain ⟨f, rfl⟩ : ∃ f, fc = f + 1 := ⟨fc - 1, by omega⟩
    obtain ⟨g, rfl⟩ : ∃ g, fm = g + 1 := ⟨fm - 1, by omega⟩
    obtain ⟨e, he, hv⟩ := pp_bt40 ha hc (show i < m by omega) hm
    obtain ⟨r1, r2, r3, r4⟩ := hR
    obtain ⟨s1, s2, s3, s4⟩ := hM
    have hle : ¬ nI m ≤ nI i := nI_ge (by omega) (by omega)
    have hm0 : ¬ nI m = 0 := nI_ne0 (by omega) (by omega)
    -- one beat more
    have hC : f_X3_add ph (nI e) x = some (g_wi (g_wi x (ph + 1) l (nI e)) ph 1 (nI (l + 1))) := by
      unfold f_X3_add
      have e1 : (g_wi x (ph + 1) l (nI e)).1 ph 1 = nI l := by rw [pp_c1, pp_c4 (by omega)]; exact r1
      rw [r1, if_neg (nI_pos (by omega)), if_neg (show ¬ (24 : Int32) ≤ nI l from nI_ge (b := 24) (by omega) (by omega)), if_pos ((pp_ok (by omega)).mpr (by omega)), nI_clamp (by omega), e1, nI_1]
    have hok10 := (pp_ok (k := w) (n := 10) (by omega)).mpr (by omega)
    have hix : (24 : Int32) * nI w + nI l = nI (24 * w + l) := by rw [show (24 : Int32) = nI 24 from rfl, pk_mul, nI_add]
    have hok240 := (pp_ok (k := 24 * w + l) (n := 240) (by omega)).mpr (by omega)
    have hq : f_X12_quotient ((nI c - nI a) * nI i) (nI m) = some (((nI c - nI a) * nI i) / nI m) := by
      unfold f_X12_quotient
      rw [if_neg hm0, if_pos hm0]
    have s1' : y 140 w = nI l := s1
    have y1e : (g_mi y 141 (24 * w + l) (nI e)) 140 w = nI l := by rw [pp_g1, pp_g4 (by omega)]; exact s1
    obtain ⟨x1, y1, p1, t1, t2, t3, t4, t5, t6, t7⟩ := ih (i + 1) f g (l + 1) (g_wi (g_wi x (ph + 1) l (nI e)) ph 1 (nI (l + 1))) (g_mi (g_mi y 141 (24 * w + l) (nI e)) 140 w (nI (l + 1))) (fun k => if k = l then e else p k) (by omega) (by omega) (by omega) (by omega) (by omega)
      ⟨by simp [g_wi, upd], by omega, fun k => by
        show (if k = l then e else p k) ≤ 40
        split
        · exact he
        · exact r3 k, fun k hk => by
        show (g_wi (g_wi x (ph + 1) l (nI e)) ph 1 (nI (l + 1))).1 (ph + 1) k = nI (if k = l then e else p k)
        rw [pp_c1, pp_c4 (by omega), pp_c1, pp_c3]
        by_cases q : k = l
        · rw [q, pp_u1, if_pos rfl]
        · rw [pp_u2 q, if_neg q]; exact r4 k (by omega)⟩
      ⟨by
        show (g_mi (g_mi y 141 (24 * w + l) (nI e)) 140 w (nI (l + 1))) 140 w = nI (l + 1)
        rw [pp_g1, pp_g3, pp_u1], by omega, fun k => by
        show (if k = l then e else p k) ≤ 40
        split
        · exact he
        · exact s3 k, fun k hk => by
        show (g_mi (g_mi y 141 (24 * w + l) (nI e)) 140 w (nI (l + 1))) 141 (24 * w + k) = nI (if k = l then e else p k)
        rw [pp_g1, pp_g4 (by omega), pp_g1, pp_g3]
        by_cases q : k = l
        · rw [q, pp_u1, if_pos rfl]
        · rw [pp_u2 (by omega), if_neg q]; exact s4 k (by omega)⟩
      (by rw [pp_g1, pp_g4 (by omega), pp_g1, pp_g4 (by omega)]; exact h9) (by rw [pp_g1, pp_g4 (by omega), pp_g1, pp_g4 (by omega)]; exact h10)
    have el : l + 1 + (m - (i + 1)) = l + (m - i) := by omega
    rw [el] at t3 t4
    refine ⟨x1, y1, p1, ?_, ?_, t3, t4, fun j h1 h2 => ?_, t6.trans rfl, pp_FB.tr ⟨fun j h1 h2 => ?_, fun j h1 => ?_, fun j h1 => ?_⟩ t7⟩
    · rw [f_X3_addGlide_3, if_neg hle, if_neg (show ¬ (9 : Int32) ≤ nI i from nI_ge (b := 9) (by omega) (by omega)), hq, pp_b, hv, hC, pp_b, nI_1]
      exact t1
    · rw [f_X15_part_95, if_neg hle, h9, if_pos rfl, h10, if_pos rfl, if_pos hok10, if_pos hm0, nI_clamp (by omega), s1', hix, if_pos hok240, if_pos hok10, if_pos hok10, nI_clamp (by omega), hv, y1e, nI_1, nI_1]
      exact t2
    · rw [t5 j h1 h2, pp_c1, pp_c4 h1, pp_c1, pp_c4 h2]
    · rw [pp_g1, pp_g4 h1, pp_g1, pp_g4 h2]
    · rw [pp_g1, pp_g3, pp_u2 h1, pp_g1, pp_g4 (by omega)]
    · rw [pp_g1, pp_g4 (by omega), pp_g1, pp_g3, pp_u2 (by omega)]
theorem pp_gldO {ph w a c m l : Nat} {x : CS} {y : MS} {p : Nat → Nat} (hw : w < 8) (ha : a ≤ 40) (hc : c ≤ 40) (hm : m ≤ 9) (hl : l + m ≤ 24) (hR : pp_RC x ph p l) (hM : pp_RM y 139 w p l) (h9 : y 120 9 = 0) (h10 : y 120 10 = 0) : ∃ x1 y1 p1, f_X3_addGlide ph (nI a) (nI c) (nI m) x = some x1 ∧ f_X15_part_95 g_fuel (nI w) (nI a) (nI c) (nI m) 0 y = some y1 ∧ pp_RC x1 ph p1 (l + m) ∧ pp_RM y1 139 w p1 (l + m) ∧ (∀ i, i ≠ ph → i ≠ ph + 1 → x1.1 i = x.1 i) ∧ x1.2 = x.2 ∧ pp_FB w y y1 :=
  pp_glO hw ha hc hm m 0 g_fuel g_fuel l x y p rfl (by unfold g_fuel; omega) (by unfold g_fuel; omega) (by omega) hl hR hM h9 h10
/-- with an error, or nothing to add, the reference adds no beat -/
theorem pp_p95 {w : Nat} {a c q : Int32} {y : MS} (h : ¬ (y 120 9 = 0 ∧ y 120 10 = 0)) : f_X15_part_95 g_fuel (nI w) a c q 0 y = some y := by
  obtain ⟨f, hf⟩ : ∃ f, g_fuel = f + 1 := ⟨g_fuel - 1, by unfold g_fuel; omega⟩
  rw [hf, f_X15_part_95]
  split
  · rfl
  · by_cases h9 : y 120 9 = 0
    · rw [if_pos h9, if_neg (fun q => h ⟨h9, q⟩)]
    · rw [if_neg h9]
