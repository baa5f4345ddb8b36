/-! the law's way from behind: one step at one cell -/
def yD (y : MS) (t ci si : Nat) : Prop := h_K y t = 53 ∧ h_R y t 8 = ci ∧ h_R y t 9 = si ∧ h_K y ci = 60 ∧ h_N y ci = 576 ∧ h_K y si = 60 ∧ h_N y si = 576 ∧ ci ≠ si
theorem yD.c {y : MS} {t ci si k : Nat} {v : Int32} (h : yD y t ci si) {i : Nat} : yD (h_wi y i k v) t ci si := h
/-- what stands at a place of cost and steps: the least way v from there on, or none -/
def yV (fc fs : Nat → Int32) (z v : Nat) : Prop := (v = pp_F ∧ fc z = nI 1000000) ∨ (v ≠ pp_F ∧ v / 100 ≤ 4000 ∧ v % 100 ≤ 60 ∧ fc z = nI (v / 100) ∧ fs z = nI (v % 100))
theorem yV.u {fc fs : Nat → Int32} {z v i : Nat} {a b : Int32} (h : yV fc fs z v) (hi : z ≠ i) : yV (upd fc i a) (upd fs i b) z v := by
  unfold yV at h ⊢
  rw [pp_u2 hi, pp_u2 hi]
  exact h
theorem yV.uc {fc fs : Nat → Int32} {z v i : Nat} {a : Int32} (h : yV fc fs z v) (hi : z ≠ i) : yV (upd fc i a) fs z v := by
  unfold yV at h ⊢
  rw [pp_u2 hi]
  exact h
/-- what is left of v, if a way of x may begin here too: o is the own cost -/
def yM (o x v : Nat) : Nat := if x = pp_F then v else min v (x + (100 * o + 1))
section YW
variable {k41 : Nat → Nat → Nat → Int32 → Int32 → Int32 → Int32 → Int32 → MS → Option (Int32 × MS)} {k52 : Nat → Nat → Nat → Int32 → Int32 → Int32 → Int32 → Int32 → Int32 → MS → Option (Int32 × MS)} {t r1 r2 ci si n m i j o : Nat} {l3 l6 : Int32} {y : MS}
theorem yw_at {i j : Nat} : (24 : Int32) * nI i + nI j = nI (24 * i + j) := by rw [pp_lit 24, pk_mul, nI_add]
theorem yw_step {fu k di dj x v : Nat} (hD : yD y t ci si) (hn : n ≤ 24) (hm : m ≤ 24) (hi : i < n) (hj : j < m) (ho : o ≤ 40) (hk : k < 4) (hdi : nI k &&& (1 : Int32) = nI di) (hdj : nI k >>> ((1 : Int32) &&& 31) = nI dj) (hd : di ≤ 1 ∧ dj ≤ 1 ∧ 0 < di + dj) (hx : (i + di < n ∧ j + dj < m → yV (h_I y ci) (h_I y si) (24 * (i + di) + (j + dj)) x ∧ (x ≠ pp_F → x / 100 ≤ 3900 ∧ x % 100 ≤ 50)) ∧ (¬ (i + di < n ∧ j + dj < m) → x = pp_F)) (hv : yV (h_I y ci) (h_I y si) (24 * i + j) v) : ∃ y', f_l_X16_way_180 k41 k52 (fu + 1) t r1 r2 l3 (nI n) (nI m) l6 (nI i) (nI j) (nI (24 * i + j)) (nI o) (nI k) y = f_l_X16_way_180 k41 k52 fu t r1 r2 l3 (nI n) (nI m) l6 (nI i) (nI j) (nI (24 * i + j)) (nI o) (nI (k + 1)) y' ∧ (y' = y ∨ ∃ a b, y' = h_wi (h_wi y ci (24 * i + j) a) si (24 * i + j) b) ∧ yV (h_I y' ci) (h_I y' si) (24 * i + j) (yM o x v) := by
  obtain ⟨d1, d2, d3, d4, d5, d6, d7, d8⟩ := hD
  obtain ⟨hd1, hd2, hd3⟩ := hd
  have e1 : nI k + (1 : Int32) = nI (k + 1) := nI_1 k
  rw [f_l_X16_way_180, if_neg (show ¬ (4 : Int32) ≤ nI k from nI_ge (b := 4) hk (by omega)), hdi, hdj, nI_add, nI_add, yw_at, e1]
  have hok : ∀ z, z < 576 → g_ok (nI z) (h_N y ci) = true := fun z hz => by rw [d5]; exact (pp_ok (by omega)).mpr hz
  have hos : ∀ z, z < 576 → g_ok (nI z) (h_N y si) = true := fun z hz => by rw [d7]; exact (pp_ok (by omega)).mpr hz
  have hat : 24 * i + j < 576 := by omega
  by_cases q1 : i + di = n
  · have hx0 := hx.2 (by omega)
    refine ⟨y, by rw [if_pos (by rw [q1])], Or.inl rfl, ?_⟩
    unfold yM
    rw [if_pos hx0]
    exact hv
  · rw [if_neg (by rw [nI_eq (by omega) (by omega)]; exact q1)]
    by_cases q2 : j + dj = m
    · have hx0 := hx.2 (by omega)
      refine ⟨y, by rw [if_pos (by rw [q2])], Or.inl rfl, ?_⟩
      unfold yM
      rw [if_pos hx0]
      exact hv
    · rw [if_neg (by rw [nI_eq (by omega) (by omega)]; exact q2)]
      obtain ⟨hxv, hxb⟩ := hx.1 ⟨by omega, by omega⟩
      have hto : 24 * (i + di) + (j + dj) < 576 := by omega
      rw [if_pos d1, d2, if_pos d4, if_pos (hok _ hto), nI_clamp (by omega)]
      unfold yM
      rcases hxv with ⟨hxF, hxc⟩ | ⟨hxF, hx1, hx2, hxc, hxs⟩
      · rw [hxc, if_neg (show ¬ nI 1000000 < (1000000 : Int32) by decide), if_pos hxF]
        exact ⟨y, rfl, Or.inl rfl, hv⟩
      · obtain ⟨b1, b2⟩ := hxb hxF
        have hx3 : x < 400000 := by omega
        rw [if_neg hxF, hxc, if_pos (show nI (x / 100) < (1000000 : Int32) from nI_lt (b := 1000000) (by omega) (by omega)), if_pos (hok _ hto), if_pos (hok _ hat), nI_clamp (by omega), nI_add, if_pos (hok _ hat)]
        have e304 : ∀ its : Int32, f_l_X16_way_304 k41 k52 (f_l_X16_way_180 k41 k52 fu) t r1 r2 l3 (nI n) (nI m) l6 (nI i) (nI j) (nI (24 * i + j)) (nI o) (nI k) (nI (24 * (i + di) + (j + dj))) its y = f_l_X16_way_180 k41 k52 fu t r1 r2 l3 (nI n) (nI m) l6 (nI i) (nI j) (nI (24 * i + j)) (nI o) (nI (k + 1)) (h_wi (h_wi y ci (24 * i + j) its) si (24 * i + j) (nI (x % 100 + 1))) := by
          intro its
          unfold f_l_X16_way_304
          rw [if_pos d1, d2, if_pos d4, if_pos (hok _ hat), nI_clamp (by omega), ywi_R, d3, ywi_K, if_pos d6, ywi_N, if_pos (hos _ hto), if_pos (hos _ hat), nI_clamp (by omega), ywi_In (Ne.symm d8), hxs, e1, nI_1]
        have hnew : yV (h_I (h_wi (h_wi y ci (24 * i + j) (nI (x / 100 + o))) si (24 * i + j) (nI (x % 100 + 1))) ci) (h_I (h_wi (h_wi y ci (24 * i + j) (nI (x / 100 + o))) si (24 * i + j) (nI (x % 100 + 1))) si) (24 * i + j) (x + (100 * o + 1)) := by
          right
          have g1 : (x + (100 * o + 1)) / 100 = x / 100 + o := by omega
          have g2 : (x + (100 * o + 1)) % 100 = x % 100 + 1 := by omega
          refine ⟨by unfold pp_F; omega, by omega, by omega, ?_, ?_⟩
          · rw [ywi_In d8, ywi_I, pp_u1, g1]
          · rw [ywi_I, pp_u1, g2]
        rcases hv with ⟨hvF, hvc⟩ | ⟨hvF, hv1, hv2, hvc, hvs⟩
        · rw [hvc, if_neg (show ¬ nI 1000000 < nI (x / 100 + o) from nI_nlt (by omega) (by omega)), if_neg (show ¬ nI (x / 100 + o) = nI 1000000 by rw [nI_eq (by omega) (by omega)]; omega), e304]
          refine ⟨_, rfl, Or.inr ⟨_, _, rfl⟩, ?_⟩
          rw [show min v (x + (100 * o + 1)) = x + (100 * o + 1) by rw [hvF]; unfold pp_F; omega]
          exact hnew
        · rw [hvc]
          by_cases c1 : v / 100 < x / 100 + o
          · rw [if_pos (nI_lt c1 (by omega))]
            refine ⟨y, rfl, Or.inl rfl, ?_⟩
            rw [show min v (x + (100 * o + 1)) = v by omega]
            exact Or.inr ⟨hvF, hv1, hv2, hvc, hvs⟩
          · rw [if_neg (nI_nlt (by omega) (by omega))]
            by_cases c2 : x / 100 + o = v / 100
            · rw [if_pos (show nI (x / 100 + o) = nI (v / 100) by rw [c2]), d3, if_pos d6, if_pos (hos _ hto), if_pos (hos _ hat), hxs, nI_1, hvs]
              by_cases c3 : x % 100 + 1 < v % 100
              · rw [if_pos (nI_lt c3 (by omega)), e304]
                refine ⟨_, rfl, Or.inr ⟨_, _, rfl⟩, ?_⟩
                rw [show min v (x + (100 * o + 1)) = x + (100 * o + 1) by omega]
                exact hnew
              · rw [if_neg (nI_nlt (by omega) (by omega))]
                refine ⟨y, rfl, Or.inl rfl, ?_⟩
                rw [show min v (x + (100 * o + 1)) = v by omega]
                exact Or.inr ⟨hvF, hv1, hv2, hvc, hvs⟩
            · rw [if_neg (show ¬ nI (x / 100 + o) = nI (v / 100) by rw [nI_eq (by omega) (by omega)]; exact c2), e304]
              refine ⟨_, rfl, Or.inr ⟨_, _, rfl⟩, ?_⟩
              rw [show min v (x + (100 * o + 1)) = x + (100 * o + 1) by omega]
              exact hnew
end YW
