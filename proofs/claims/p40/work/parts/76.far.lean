/-! the law's way from behind, on its heap: far -/
theorem yw_m1 (d : Nat) : nI (d + 1) + (-1 : Int32) = nI d := by rw [← nI_add, Int32.add_assoc]; show nI d + ((1 : Int32) + (-1)) = nI d; rw [show (1 : Int32) + (-1) = 0 by decide, Int32.add_zero]
/-- all that is set fast while a distance is reckoned -/
def yW (c : Nat → Nat → Nat) (p q : Nat → Nat) (w n m t r1 r2 ci si : Nat) (y : MS) : Prop := yD y t ci si ∧ yr y r1 p n ∧ yr y r2 q m ∧ r1 ≠ ci ∧ r1 ≠ si ∧ r2 ≠ ci ∧ r2 ≠ si ∧ 0 < n ∧ 0 < m ∧ w ≤ 60 ∧ (∀ i j, c i j = pp_cp (p i) (q j))
/-- cells behind (i, d) are reckoned -/
def yB (c : Nat → Nat → Nat) (w n m i d ci si : Nat) (y : MS) : Prop := ∀ i' j', i' < n → j' < m → (i < i' ∨ (i' = i ∧ d ≤ j')) → yV (h_I y ci) (h_I y si) (24 * i' + j') (yp c w n m i' j')
/-- only rows of a distance are written -/
def yZ (ci si : Nat) (y y' : MS) : Prop := ∀ i, i ≠ ci → i ≠ si → ye y y' i
theorem yZ.rf (ci si : Nat) (y : MS) : yZ ci si y y := fun i _ _ => ye.rf y i
theorem yZ.tr {ci si : Nat} {y z w : MS} (h : yZ ci si y z) (k : yZ ci si z w) : yZ ci si y w := fun i h1 h2 => (h i h1 h2).tr (k i h1 h2)
theorem yZ.wc {ci si : Nat} {y z : MS} {k : Nat} {v : Int32} (h : yZ ci si y z) : yZ ci si y (h_wi z ci k v) := fun i h1 h2 => (h i h1 h2).tr ⟨rfl, ywi_In h1, rfl, rfl⟩
theorem yZ.ws {ci si : Nat} {y z : MS} {k : Nat} {v : Int32} (h : yZ ci si y z) : yZ ci si y (h_wi z si k v) := fun i h1 h2 => (h i h1 h2).tr ⟨rfl, ywi_In h2, rfl, rfl⟩
section YFAR
variable {c : Nat → Nat → Nat} {p q : Nat → Nat} {w n m t r1 r2 ci si : Nat} {y : MS}
theorem yW.wc (h : yW c p q w n m t r1 r2 ci si y) {k : Nat} {v : Int32} : yW c p q w n m t r1 r2 ci si (h_wi y ci k v) := by
  obtain ⟨h1, h2, h3, h4, h5, h6, h7, h8⟩ := h
  exact ⟨h1, h2.e ⟨rfl, ywi_In h4, rfl, rfl⟩, h3.e ⟨rfl, ywi_In h6, rfl, rfl⟩, h4, h5, h6, h7, h8⟩
theorem yW.ws (h : yW c p q w n m t r1 r2 ci si y) {k : Nat} {v : Int32} : yW c p q w n m t r1 r2 ci si (h_wi y si k v) := by
  obtain ⟨h1, h2, h3, h4, h5, h6, h7, h8⟩ := h
  exact ⟨h1, h2.e ⟨rfl, ywi_In h5, rfl, rfl⟩, h3.e ⟨rfl, ywi_In h7, rfl, rfl⟩, h4, h5, h6, h7, h8⟩
/-- how two heaps of a distance are alike: sizes too -/
def yQ (ci si : Nat) (y y' : MS) : Prop := yZ ci si y y' ∧ h_nx y' = h_nx y ∧ h_sl y' = h_sl y ∧ h_K y' = h_K y ∧ h_N y' = h_N y
theorem yQ.rf (ci si : Nat) (y : MS) : yQ ci si y y := ⟨yZ.rf ci si y, rfl, rfl, rfl, rfl⟩
theorem yQ.tr {y z u : MS} (h : yQ ci si y z) (k : yQ ci si z u) : yQ ci si y u := ⟨h.1.tr k.1, k.2.1.trans h.2.1, k.2.2.1.trans h.2.2.1, k.2.2.2.1.trans h.2.2.2.1, k.2.2.2.2.trans h.2.2.2.2⟩
theorem yQ.wc {y z : MS} {k : Nat} {v : Int32} (h : yQ ci si y z) : yQ ci si y (h_wi z ci k v) := ⟨h.1.wc, h.2⟩
theorem yQ.ws {y z : MS} {k : Nat} {v : Int32} (h : yQ ci si y z) : yQ ci si y (h_wi z si k v) := ⟨h.1.ws, h.2⟩
theorem yw_row {k41 : Nat → Nat → Nat → Int32 → Int32 → Int32 → Int32 → Int32 → MS → Option (Int32 × MS)} {i : Nat} (hi : i < n) : ∀ d fu y, d ≤ m → d < fu → yW c p q w n m t r1 r2 ci si y → yB c w n m i d ci si y → ∃ y', f_l_X16_way_52 k41 fu t r1 r2 0 (nI n) (nI m) (nI w) (nI i) (nI d + (-1)) y = k41 t r1 r2 0 (nI n) (nI m) (nI w) (nI i + (-1)) y' ∧ yW c p q w n m t r1 r2 ci si y' ∧ yB c w n m i 0 ci si y' ∧ yQ ci si y y' := by
  intro d
  induction d with
  | zero =>
    intro fu y hd hfu hW hB
    obtain ⟨f1, rfl⟩ : ∃ f, fu = f + 1 := ⟨fu - 1, by omega⟩
    refine ⟨y, ?_, hW, hB, yQ.rf ci si y⟩
    rw [f_l_X16_way_52, if_pos (show nI 0 + (-1 : Int32) < 0 by decide)]
  | succ j ih =>
    intro fu y hd hfu hW hB
    obtain ⟨f1, rfl⟩ : ∃ f, fu = f + 1 := ⟨fu - 1, by omega⟩
    have hW0 := hW
    obtain ⟨hD, hr1, hr2, n1, n2, n3, n4, hn0, hm0, hw, hc⟩ := hW
    have hn := hr1.2.2.1
    have hm := hr2.2.2.1
    have hj : j < m := by omega
    have hat : 24 * i + j < 576 := by omega
    have hcB : ∀ a b, c a b ≤ 40 := fun a b => by rw [hc]; exact pp_cpB (hr1.2.2.2.1 a) (hr2.2.2.2.1 b)
    obtain ⟨d1, d2, d3, d4, d5, d6, d7, d8⟩ := id hD
    have hok : g_ok (nI (24 * i + j)) (h_N y ci) = true := by rw [d5]; exact (pp_ok (by omega)).mpr hat
    have hos : g_ok (nI (24 * i + j)) (h_N y si) = true := by rw [d7]; exact (pp_ok (by omega)).mpr hat
    -- behind this cell
    have next : ∀ y1, yW c p q w n m t r1 r2 ci si y1 → yQ ci si y y1 → (∀ z, z ≠ 24 * i + j → h_I y1 ci z = h_I y ci z ∧ h_I y1 si z = h_I y si z) → yV (h_I y1 ci) (h_I y1 si) (24 * i + j) (yp c w n m i j) → ∃ y', f_l_X16_way_52 k41 f1 t r1 r2 0 (nI n) (nI m) (nI w) (nI i) (nI j + (-1)) y1 = k41 t r1 r2 0 (nI n) (nI m) (nI w) (nI i + (-1)) y' ∧ yW c p q w n m t r1 r2 ci si y' ∧ yB c w n m i 0 ci si y' ∧ yQ ci si y y' := by
      intro y1 hW1 hQ1 hz hv
      obtain ⟨y', i1, i2, i3, i4⟩ := ih f1 y1 (by omega) (by omega) hW1 (fun i' j' h1 h2 h3 => by
        by_cases e : i' = i ∧ j' = j
        · rw [e.1, e.2]; exact hv
        · have h4 := hB i' j' h1 h2 (by omega)
          have h5 := hz (24 * i' + j') (by omega)
          unfold yV at h4 ⊢
          rw [h5.1, h5.2]
          exact h4)
      exact ⟨y', i1, i2, i3, hQ1.tr i4⟩
    rw [f_l_X16_way_52, yw_m1, if_neg (nI_pos (by omega)), if_pos d1, d2, if_pos d4, yw_at, if_pos hok, nI_clamp (by omega)]
    have z1 : ∀ v z, z ≠ 24 * i + j → h_I (h_wi y ci (24 * i + j) v) ci z = h_I y ci z ∧ h_I (h_wi y ci (24 * i + j) v) si z = h_I y si z := fun v z hz => by
      rw [ywi_I, pp_u2 hz, ywi_In (Ne.symm d8)]
      exact ⟨rfl, rfl⟩
    have vF : yV (h_I (h_wi y ci (24 * i + j) 1000000) ci) (h_I (h_wi y ci (24 * i + j) 1000000) si) (24 * i + j) pp_F := by
      left
      rw [ywi_I, pp_u1]
      exact ⟨rfl, rfl⟩
    have t1 : (nI i - nI j).toInt = (i : Int) - j := pp_toInt_sub (by omega) (by omega)
    have t2 : (nI j - nI i).toInt = (j : Int) - i := pp_toInt_sub (by omega) (by omega)
    have t3 : (nI w).toInt = (w : Int) := nI_toInt (by omega)
    by_cases q1 : w + j < i
    · rw [if_pos (Int32.lt_iff_toInt_lt.mpr (by omega))]
      exact next _ hW0.wc (yQ.rf ci si y).wc (z1 _) (by rw [yp_out hi hj (by unfold pp_ad; omega)]; exact vF)
    · rw [if_neg (fun h => by have := Int32.lt_iff_toInt_lt.mp h; omega)]
      by_cases q2 : w + i < j
      · rw [if_neg (fun h => by have := Int32.le_iff_toInt_le.mp h; omega)]
        exact next _ hW0.wc (yQ.rf ci si y).wc (z1 _) (by rw [yp_out hi hj (by unfold pp_ad; omega)]; exact vF)
      · have had : pp_ad i j ≤ w := by unfold pp_ad; omega
        have hW1 : yW c p q w n m t r1 r2 ci si (h_wi y ci (24 * i + j) 1000000) := hW0.wc
        obtain ⟨hD1, hs1, hs2, -⟩ := id hW1
        rw [if_pos (Int32.le_iff_toInt_le.mpr (by omega)), if_pos (show (0 : Int32) = 0 from rfl), if_pos hs1.1, hs1.2.1, if_pos ((pp_ok (by omega)).mpr hi), if_pos hs2.1, hs2.2.1, if_pos ((pp_ok (by omega)).mpr hj), nI_clamp (by omega), nI_clamp (by omega), hs1.2.2.2.2 i hi, hs2.2.2.2.2 j hj, yw_apart (hr1.2.2.2.1 i) (hr2.2.2.2.1 j), pp_b, ← hc]
        have ho := hcB i j
        obtain ⟨o, hoe⟩ : ∃ o, o = c i j := ⟨_, rfl⟩
        have e1 : nI n - (1 : Int32) = nI (n - 1) := pk_sub (a := n) (b := 1) (by omega)
        have e2 : nI m - (1 : Int32) = nI (m - 1) := pk_sub (a := m) (b := 1) (by omega)
        have mid : ¬ (i + 1 = n ∧ j + 1 = m) → ∃ y', f_l_X16_way_180 k41 (f_l_X16_way_52 k41 f1) g_fuel t r1 r2 0 (nI n) (nI m) (nI w) (nI i) (nI j) (nI (24 * i + j)) (nI (c i j)) 1 (h_wi y ci (24 * i + j) 1000000) = k41 t r1 r2 0 (nI n) (nI m) (nI w) (nI i + (-1)) y' ∧ yW c p q w n m t r1 r2 ci si y' ∧ yB c w n m i 0 ci si y' ∧ yQ ci si y y' := by
          intro hne
          have hx : ∀ (y1 : MS) (di dj : Nat), 0 < di + dj → di ≤ 1 → dj ≤ 1 → (∀ z, z ≠ 24 * i + j → h_I y1 ci z = h_I y ci z ∧ h_I y1 si z = h_I y si z) → (i + di < n ∧ j + dj < m → yV (h_I y1 ci) (h_I y1 si) (24 * (i + di) + (j + dj)) (yx c w n m (i + di) (j + dj)) ∧ (yx c w n m (i + di) (j + dj) ≠ pp_F → yx c w n m (i + di) (j + dj) / 100 ≤ 3900 ∧ yx c w n m (i + di) (j + dj) % 100 ≤ 50)) ∧ (¬ (i + di < n ∧ j + dj < m) → yx c w n m (i + di) (j + dj) = pp_F) := by
            intro y1 di dj h1 h2 h3 hz
            refine ⟨fun h4 => ?_, fun h4 => if_neg h4⟩
            have e : yx c w n m (i + di) (j + dj) = yp c w n m (i + di) (j + dj) := if_pos h4
            rw [e]
            refine ⟨?_, fun h5 => (yp_B hcB hn hm _ _).resolve_left h5⟩
            have h6 := hB (i + di) (j + dj) h4.1 h4.2 (by omega)
            have h7 := hz (24 * (i + di) + (j + dj)) (by omega)
            unfold yV at h6 ⊢
            rw [h7.1, h7.2]
            exact h6
          have stp : ∀ (y1 : MS) (fu k di dj v : Nat), yW c p q w n m t r1 r2 ci si y1 → yQ ci si y y1 → (∀ z, z ≠ 24 * i + j → h_I y1 ci z = h_I y ci z ∧ h_I y1 si z = h_I y si z) → k < 4 → nI k &&& (1 : Int32) = nI di → nI k >>> ((1 : Int32) &&& 31) = nI dj → di ≤ 1 ∧ dj ≤ 1 ∧ 0 < di + dj → yV (h_I y1 ci) (h_I y1 si) (24 * i + j) v → ∃ y2, f_l_X16_way_180 k41 (f_l_X16_way_52 k41 f1) (fu + 1) t r1 r2 0 (nI n) (nI m) (nI w) (nI i) (nI j) (nI (24 * i + j)) (nI (c i j)) (nI k) y1 = f_l_X16_way_180 k41 (f_l_X16_way_52 k41 f1) fu t r1 r2 0 (nI n) (nI m) (nI w) (nI i) (nI j) (nI (24 * i + j)) (nI (c i j)) (nI (k + 1)) y2 ∧ yW c p q w n m t r1 r2 ci si y2 ∧ yQ ci si y y2 ∧ (∀ z, z ≠ 24 * i + j → h_I y2 ci z = h_I y ci z ∧ h_I y2 si z = h_I y si z) ∧ yV (h_I y2 ci) (h_I y2 si) (24 * i + j) (yM (c i j) (yx c w n m (i + di) (j + dj)) v) := by
            intro y1 fu k di dj v hW1 hQ1 hz hk a1 a2 a3 hv
            obtain ⟨y2, s1, s2, s3⟩ := yw_step (k41 := k41) (k52 := f_l_X16_way_52 k41 f1) (r1 := r1) (r2 := r2) (l3 := 0) (l6 := nI w) (fu := fu) hW1.1 hn hm hi hj ho hk a1 a2 a3 (hx y1 di dj a3.2.2 a3.1 a3.2.1 hz) hv
            refine ⟨y2, s1, ?_, ?_, ?_, s3⟩
            · rcases s2 with rfl | ⟨u1, u2, rfl⟩
              · exact hW1
              · exact hW1.wc.ws
            · rcases s2 with rfl | ⟨u1, u2, rfl⟩
              · exact hQ1
              · exact hQ1.wc.ws
            · intro z hz2
              rcases s2 with rfl | ⟨u1, u2, rfl⟩
              · exact hz z hz2
              · rw [ywi_In d8, ywi_I, pp_u2 hz2, ywi_I, pp_u2 hz2, ywi_In (Ne.symm d8)]
                exact hz z hz2
          obtain ⟨y2, a1, a2, a3, a4, a5⟩ := stp _ (4092 + 3) 1 1 0 pp_F hW1 (yQ.rf ci si y).wc (z1 _) (by omega) rfl rfl (by omega) vF
          obtain ⟨y3, b1, b2, b3, b4, b5⟩ := stp y2 (4092 + 2) 2 0 1 _ a2 a3 a4 (by omega) rfl rfl (by omega) a5
          obtain ⟨y4, g1, g2, g3, g4, g5⟩ := stp y3 (4092 + 1) 3 1 1 _ b2 b3 b4 (by omega) rfl rfl (by omega) b5
          rw [show g_fuel = 4092 + 3 + 1 from rfl, show (1 : Int32) = nI 1 from rfl, a1, b1, g1, f_l_X16_way_180, if_pos (show (4 : Int32) ≤ nI (3 + 1) by decide)]
          exact next y4 g2 g3 g4 (by rw [yp_mid hcB hn hm hi hj hne had]; exact g5)
        unfold f_l_X16_way_137
        rw [e1, e2]
        by_cases l1 : i = n - 1
        · rw [if_pos (by rw [l1])]
          by_cases l2 : j = m - 1
          · rw [if_pos (by rw [l2]), if_pos hD1.1, hD1.2.1, if_pos hD1.2.2.2.1, hD1.2.2.2.2.1, if_pos ((pp_ok (by omega)).mpr hat), nI_clamp (by omega)]
            have hD2 : yD (h_wi (h_wi y ci (24 * i + j) 1000000) ci (24 * i + j) (nI (c i j))) t ci si := hD1
            rw [hD2.2.2.1, if_pos hD2.2.2.2.2.2.1, hD2.2.2.2.2.2.2.1, if_pos ((pp_ok (by omega)).mpr hat)]
            refine next _ hW1.wc.ws (yQ.rf ci si y).wc.wc.ws (fun z hz => ?_) ?_
            · rw [ywi_In d8, ywi_I, pp_u2 hz, ywi_I, pp_u2 hz, ywi_I, pp_u2 hz, ywi_In (Ne.symm d8), ywi_In (Ne.symm d8)]
              exact ⟨rfl, rfl⟩
            · rw [yp_last hcB (by omega) (by omega) had]
              right
              rw [ywi_In d8, ywi_I, pp_u1, ywi_I, pp_u1]
              refine ⟨by unfold pp_F; omega, by omega, by omega, ?_, ?_⟩
              · rw [show (100 * c i j + 1) / 100 = c i j by omega]
              · rw [show (100 * c i j + 1) % 100 = 1 by omega]; rfl
          · rw [if_neg (by rw [nI_eq (by omega) (by omega)]; exact l2)]
            exact mid (by omega)
        · rw [if_neg (by rw [nI_eq (by omega) (by omega)]; exact l1)]
          exact mid (by omega)
theorem yw_rows : ∀ d fu y, d ≤ n → d < fu → yW c p q w n m t r1 r2 ci si y → (∀ i' j', d ≤ i' → i' < n → j' < m → yV (h_I y ci) (h_I y si) (24 * i' + j') (yp c w n m i' j')) → ∃ y', f_l_X16_way_41 fu t r1 r2 0 (nI n) (nI m) (nI w) (nI d + (-1)) y = some (h_I y' ci 0, y') ∧ yQ ci si y y' ∧ yV (h_I y' ci) (h_I y' si) 0 (yp c w n m 0 0) := by
  intro d
  induction d with
  | zero =>
    intro fu y hd hfu hW hB
    obtain ⟨f1, rfl⟩ : ∃ f, fu = f + 1 := ⟨fu - 1, by omega⟩
    obtain ⟨hD, hr1, hr2, n1, n2, n3, n4, hn0, hm0, hw, hc⟩ := hW
    obtain ⟨d1, d2, d3, d4, d5, d6, d7, d8⟩ := hD
    refine ⟨y, ?_, yQ.rf ci si y, hB 0 0 (by omega) hn0 hm0⟩
    rw [f_l_X16_way_41, if_pos (show nI 0 + (-1 : Int32) < 0 by decide), if_pos d1, d2, if_pos d4, d5, if_pos (by decide)]
    rfl
  | succ i ih =>
    intro fu y hd hfu hW hB
    obtain ⟨f1, rfl⟩ : ∃ f, fu = f + 1 := ⟨fu - 1, by omega⟩
    have hm := hW.2.2.1.2.2.1
    have hn := hW.2.1.2.2.1
    have hm0 := hW.2.2.2.2.2.2.2.2.1
    obtain ⟨y1, a1, a2, a3, a4⟩ := yw_row (k41 := f_l_X16_way_41 f1) (i := i) (by omega) m g_fuel y (Nat.le_refl _) (by unfold g_fuel; omega) hW (fun i' j' h1 h2 h3 => hB i' j' (by omega) h1 h2)
    obtain ⟨y', b1, b2, b3⟩ := ih f1 y1 (by omega) (by omega) a2 (fun i' j' h1 h2 h3 => a3 i' j' h2 h3 (by omega))
    refine ⟨y', ?_, a4.tr b2, b3⟩
    have e2 : nI m - (1 : Int32) = nI m + (-1) := by
      rw [show nI m - (1 : Int32) = nI (m - 1) from pk_sub (a := m) (b := 1) (by omega), ← yw_m1 (m - 1), show m - 1 + 1 = m by omega]
    rw [f_l_X16_way_41, yw_m1, if_neg (nI_pos (by omega)), e2, a1]
    exact b1
end YFAR
theorem yp_eq {c : Nat → Nat → Nat} {w n m : Nat} : yp c w n m 0 0 = pp_wy c w (n - 1) (m - 1) := by
  unfold yp
  rw [Nat.sub_zero, Nat.sub_zero, ← pg_wy]
  exact pg_rev (fun i j _ _ => rfl)
