/-! a part of a drawn word -/
def zoG (r : Nat) (y z : MS) : Prop := ∀ i, i ≠ r → h_K y i ≠ 0 → h_K y i ≠ 50 → h_K y i ≠ 54 → h_K y i ≠ 61 → ye y z i
def zos (s : Nat) : Nat := if s < 2 then 0 else if s < 4 then 1 else 2
section ZOP
variable {x y z y' : MS} {d sb r s a c n n0 m t : Nat} {B : List Nat} {l3 Wv wv bv : Int32} {k53 : Nat → Nat → Int32 → Nat → Int32 → Int32 → MS → Option (Nat × MS)} {k98 : Nat → Nat → Int32 → Nat → Int32 → Int32 → Nat → Int32 → Int32 → Int32 → MS → Option (Nat × MS)}
theorem zoG.tr (h : zoG r x y) (k : zoG r y z) : zoG r x z := fun i hr h0 h1 h2 h3 => by
  have e := h i hr h0 h1 h2 h3
  exact e.tr (k i hr (by rw [e.1]; exact h0) (by rw [e.1]; exact h1) (by rw [e.1]; exact h2) (by rw [e.1]; exact h3))
theorem zoF.G (h : zoF y z) : zoG r y z := fun i _ h0 h1 h2 h3 => h i h0 h1 h2 h3
theorem zoF.rw6 (h : zoF y z) (hk : h_K y r = 60) : ye y z r := h r (by omega) (by omega) (by omega) (by omega)
theorem zos2 (hs : s < 5) : zos s ≤ 2 := by
  unfold zos
  split
  · omega
  · split <;> omega
theorem zglh {k : Nat} : zgl a a n k = a := by
  unfold zgl
  rw [if_pos (Nat.le_refl _), Nat.sub_self, Nat.zero_mul, Nat.zero_div, Nat.add_zero]
theorem zo_245 (hs : s < 5) (ha : a ≤ 40) (hc : c ≤ 40) (hn : n ≤ 8) (hL : n0 + n ≤ 24) : ∀ dd fu k y, dd = n - k → dd < fu → k ≤ n → h_K y r = 60 → h_N y r = 24 → (∀ j, j < k → h_I y r (n0 + j) = nI (zgl (zpa (zos s, a, c, n)) (zpz (zos s, a, c, n)) n j)) → ∃ y', f_l_L_drawn_245 k53 k98 fu d sb l3 t Wv wv r (nI n0) bv (nI m) (nI s) (nI a) (nI c) (nI n) (nI k) y = k98 d sb l3 t Wv wv r (nI (n0 + n)) bv (nI (m + 1)) y' ∧ h_K y' r = 60 ∧ h_N y' r = 24 ∧ (∀ j, j < n → h_I y' r (n0 + j) = nI (zgl (zpa (zos s, a, c, n)) (zpz (zos s, a, c, n)) n j)) ∧ (∀ j, j < n0 → h_I y' r j = h_I y r j) ∧ yG 0 y y' ∧ yF (fun j => j = r) y y' ∧ (∀ i, h_K y' i = h_K y i) := by
  intro dd
  induction dd with
  | zero =>
    intro fu k y h1 h2 h3 h4 h5 h6
    obtain ⟨f1, rfl⟩ : ∃ f, fu = f + 1 := ⟨fu - 1, by omega⟩
    have e : k = n := by omega
    subst e
    rw [f_l_L_drawn_245, if_pos (nI_le (Nat.le_refl _) (by omega)), nI_add, nI_1]
    exact ⟨y, rfl, h4, h5, h6, fun _ _ => rfl, yG.rf y, yF.rf _ y, fun _ => rfl⟩
  | succ dd ih =>
    intro fu k y h1 h2 h3 h4 h5 h6
    obtain ⟨f1, rfl⟩ : ∃ f, fu = f + 1 := ⟨fu - 1, by omega⟩
    have hok : g_ok (nI n0 + nI k) (h_N y r) = true := by rw [nI_add]; exact (pp_ok (by omega)).mpr (by omega)
    obtain ⟨v, hv⟩ : ∃ v, v = nI (zgl (zpa (zos s, a, c, n)) (zpz (zos s, a, c, n)) n k) := ⟨_, rfl⟩
    have step : f_l_L_drawn_245 k53 k98 (f1 + 1) d sb l3 t Wv wv r (nI n0) bv (nI m) (nI s) (nI a) (nI c) (nI n) (nI k) y = f_l_L_drawn_245 k53 k98 f1 d sb l3 t Wv wv r (nI n0) bv (nI m) (nI s) (nI a) (nI c) (nI n) (nI (k + 1)) (h_wi y r (n0 + k) v) := by
      rw [f_l_L_drawn_245, if_neg (nI_ge (by omega) (by omega))]
      by_cases hs2 : s < 2
      · have e0 : zos s = 0 := if_pos hs2
        have ev : v = nI a := by rw [hv, e0]; exact congrArg nI zglh
        rw [if_neg (show ¬ (2 : Int32) ≤ nI s from (nI_ge (by omega) (by omega) : ¬ nI 2 ≤ nI s)), if_pos h4, if_pos hok, nI_add, nI_clamp (by omega), nI_1, ev]
      · rw [if_pos (show (2 : Int32) ≤ nI s from (nI_le (by omega) (by omega) : nI 2 ≤ nI s))]
        by_cases hs4 : s < 4
        · have e0 : zos s = 1 := by unfold zos; rw [if_neg hs2, if_pos hs4]
          have ev : v = nI a + ((nI k * (nI c - nI a)) / nI n) := by
            rw [hv, e0, Int32.mul_comm (nI k)]
            exact (zglQ ha hc (by omega) (by omega)).symm
          rw [if_neg (show ¬ (4 : Int32) ≤ nI s from (nI_ge (by omega) (by omega) : ¬ nI 4 ≤ nI s)), if_pos (show ¬ nI n = 0 from nI_ne0 (by omega) (by omega)), if_pos h4, if_pos hok, ← ev, nI_add, nI_clamp (by omega), nI_1]
        · have e0 : zos s = 2 := by unfold zos; rw [if_neg hs2, if_neg hs4]
          have ev : v = 0 := by rw [hv, e0]; exact congrArg nI zglh
          rw [if_pos (show (4 : Int32) ≤ nI s from (nI_le (by omega) (by omega) : nI 4 ≤ nI s)), if_pos h4, if_pos hok, nI_add, nI_clamp (by omega), nI_1, ev]
    rw [step]
    obtain ⟨y', i1, i2, i3, i4, i5, i6, i7, i8⟩ := ih f1 (k + 1) (h_wi y r (n0 + k) v) (by omega) (by omega) (by omega) h4 h5 (fun j hj => by
      rw [ywi_I]
      by_cases q : j = k
      · rw [q, pp_u1, hv]
      · rw [pp_u2 (by omega)]; exact h6 j (by omega))
    refine ⟨y', i1, i2, i3, i4, fun j hj => ?_, (yG.tr (ywi_G _ _ _ _) i6).mo (by omega), yF.tr (ywi_F (P := fun j => j = r) rfl) i7 (ywi_G _ _ _ _), i8⟩
    rw [i5 j hj, ywi_I, pp_u2 (by omega)]
/-- what a part leaves -/
def zoQ (d sb r n0 m s a c : Nat) (B : List Nat) (l3 : Int32) (t : Nat) (Wv wv bv : Int32) (k98 : Nat → Nat → Int32 → Nat → Int32 → Int32 → Nat → Int32 → Int32 → Int32 → MS → Option (Nat × MS)) (u n : Nat) (y : MS) (o : Option (Nat × MS)) : Prop := ∃ y', o = k98 d sb l3 t Wv wv r (nI (n0 + n)) bv (nI (m + 1)) y' ∧ zoS d sb B y' ∧ h_K y' r = 60 ∧ h_N y' r = 24 ∧ (∀ j, j < n → h_I y' r (n0 + j) = nI (zgl (zpa (zos s, a, c, n)) (zpz (zos s, a, c, n)) n j)) ∧ (∀ j, j < n0 → h_I y' r j = h_I y r j) ∧ yG u y y' ∧ zoG r y y'
theorem zoQ.g {u v e : Nat} {o : Option (Nat × MS)} (h : zoQ d sb r n0 m s a c B l3 t Wv wv bv k98 u n y' o) (g : yG e y y') (f : zoF y y') (hr : h_K y r = 60) (hv : e + u ≤ v) : zoQ d sb r n0 m s a c B l3 t Wv wv bv k98 v n y o := by
  obtain ⟨y2, h1, h2, h3, h4, h5, h6, h7, h8⟩ := h
  exact ⟨y2, h1, h2, h3, h4, h5, fun j hj => by rw [h6 j hj, (f.rw6 hr).2.1], (g.tr h7).mo hv, f.G.tr h8⟩
theorem zo_230 (hS : zoS d sb B y) (hr : h_K y r = 60) (hrn : h_N y r = 24) (hs : s < 5) (ha : a ≤ 40) (hc : c ≤ 40) (hn : n ≤ 8) (hL : n0 + n ≤ 24) (hB : B.length ≤ 1450) (hb : yb y 10) : zoQ d sb r n0 m s a c (B ++ pp_tx 54 ++ zdg n) l3 t Wv wv bv k98 10 n y (f_l_L_drawn_230 k53 k98 d sb l3 t Wv wv r (nI n0) bv (nI m) (nI s) (nI a) (nI c) (nI n) y) := by
  have l54 := (zxC 54 (by decide)).2.2
  unfold f_l_L_drawn_230
  obtain ⟨y1, e1, S1, g1, F1⟩ := hS.ap (α := Nat × MS) (zxH (c := 54) (by decide)) (by omega) (hb.mo (by omega))
  rw [e1]
  obtain ⟨y2, e2, S2, g2, F2⟩ := S1.nu (α := Nat × MS) (v := nI n) rfl (by omega) (by rw [List.length_append]; omega) ((hb.g g1 (by omega)).mo (by omega))
  rw [e2]
  have er := (F1.tr F2).rw6 hr
  obtain ⟨y3, i1, i2, i3, i4, i5, i6, i7, i8⟩ := zo_245 (k53 := k53) (k98 := k98) (d := d) (sb := sb) (r := r) (m := m) (t := t) (l3 := l3) (Wv := Wv) (wv := wv) (bv := bv) hs ha hc hn hL (n - 0) g_fuel 0 y2 rfl (by unfold g_fuel; omega) (by omega) (er.1.trans hr) (er.2.2.2.trans hrn) (fun j hj => absurd hj (Nat.not_lt_zero _))
  refine ⟨y3, i1, S2.e i6 i7 (by rw [i8]; exact S2.1) (fun i q => by rw [q, er.1, hr]; exact ⟨by decide, by decide⟩), i2, i3, i4, fun j hj => by rw [i5 j hj, er.2.1], ((g1.tr g2).tr i6).mo (by omega), ?_⟩
  intro i hi h0 h1 h2 h3
  have e := (F1.tr F2) i h0 h1 h2 h3
  exact e.tr (i7 i (S2.2.2.1.lt (by rw [e.1]; exact h0)) hi)
theorem zo_167 (hS : zoS d sb B y) (hr : h_K y r = 60) (hrn : h_N y r = 24) (hs : s < 5) (ha : a ≤ 40) (hc : c ≤ 40) (hn : n ≤ 8) (hL : n0 + n ≤ 24) (hB : B.length ≤ 1300) (hb : yb y 35) : zoQ d sb r n0 m s a c (B ++ pp_tx (if m = 0 then 48 else 49) ++ zibs (zipp (zos s, a, c, n))) l3 t Wv wv bv k98 35 n y (f_l_L_drawn_167 k53 k98 d sb l3 t Wv wv r (nI n0) bv (nI m) (nI s) (nI a) (nI c) (nI n) (if m = 0 then 48 else 49) sb y) := by
  obtain ⟨k46, k47, k48, k49, k50, k51, k52, k53', k54, k55, k56, k57, k58⟩ := zxk4
  obtain ⟨e, he⟩ : ∃ e, e = if m = 0 then 48 else 49 := ⟨_, rfl⟩
  have he93 : e < 93 := by rw [he]; split <;> decide
  rw [← he]
  have le := (zxC e he93).2.2
  have l50 := (zxC 50 (by decide)).2.2
  have l51 := (zxC 51 (by decide)).2.2
  have l52 := (zxC 52 (by decide)).2.2
  have l53 := (zxC 53 (by decide)).2.2
  have lda := (zdg_len (n := a) (by omega)).1
  have ldc := (zdg_len (n := c) (by omega)).1
  unfold f_l_L_drawn_167
  obtain ⟨y1, e1, S1, g1, F1⟩ := hS.ap (α := Nat × MS) (zxH (y := y) he93) (by omega) (hb.mo (by omega))
  have b1 : yb y1 30 := hb.g g1 (by omega)
  have lB1 : (B ++ pp_tx e).length ≤ 1315 := by rw [List.length_append]; omega
  have er1 := F1.rw6 hr
  rw [e1]
  by_cases hs2 : s < 2
  · have e0 : zos s = 0 := if_pos hs2
    rw [if_neg (show ¬ (2 : Int32) ≤ nI s from (nI_ge (by omega) (by omega) : ¬ nI 2 ≤ nI s))]
    obtain ⟨y2, e2, S2, g2, F2⟩ := S1.ap (α := Nat × MS) (zxH (y := y1) (c := 50) (by decide)) (by omega) (b1.mo (by omega))
    rw [e2]
    obtain ⟨y3, e3, S3, g3, F3⟩ := S2.nu (α := Nat × MS) (v := nI a) rfl (by omega) (by rw [List.length_append]; omega) ((b1.g g2 (by omega)).mo (by omega))
    rw [e3]
    have er3 := ((F1.tr F2).tr F3).rw6 hr
    have h := zo_230 (k53 := k53) (k98 := k98) (m := m) (t := t) (l3 := l3) (Wv := Wv) (wv := wv) (bv := bv) S3 (er3.1.trans hr) (er3.2.2.2.trans hrn) hs ha hc hn hL (by rw [List.length_append, List.length_append]; omega) (((b1.g g2 (by omega)).g g3 (by omega)).mo (by omega))
    have eB : B ++ pp_tx e ++ pp_tx 50 ++ zdg a ++ pp_tx 54 ++ zdg n = B ++ pp_tx e ++ zibs (zipp (zos s, a, c, n)) := by
      rw [e0]
      show _ = B ++ pp_tx e ++ zibs ([(2, 0)] ++ [(50, 0)] ++ [(42, a)] ++ [(50, 0)] ++ [(3, 0)] ++ [(50, 0)] ++ [(42, n)])
      rw [k50, k54]
      simp only [zibsA, zxib, zxiu, zxi (s := 2) (by decide), zxi (s := 3) (by decide), List.append_assoc]
    rw [eB] at h
    exact h.g ((g1.tr g2).tr g3) ((F1.tr F2).tr F3) hr (by omega)
  · rw [if_pos (show (2 : Int32) ≤ nI s from (nI_le (by omega) (by omega) : nI 2 ≤ nI s))]
    by_cases hs4 : s < 4
    · have e0 : zos s = 1 := by unfold zos; rw [if_neg hs2, if_pos hs4]
      rw [if_neg (show ¬ (4 : Int32) ≤ nI s from (nI_ge (by omega) (by omega) : ¬ nI 4 ≤ nI s))]
      obtain ⟨y2, e2, S2, g2, F2⟩ := S1.ap (α := Nat × MS) (zxH (y := y1) (c := 51) (by decide)) (by omega) (b1.mo (by omega))
      rw [e2]
      have b2 : yb y2 25 := b1.g g2 (by omega)
      have lB2 : (B ++ pp_tx e ++ pp_tx 51).length ≤ 1330 := by rw [List.length_append]; omega
      obtain ⟨y3, e3, S3, g3, F3⟩ := S2.nu (α := Nat × MS) (v := nI a) rfl (by omega) (by omega) (b2.mo (by omega))
      rw [e3]
      have b3 : yb y3 20 := b2.g g3 (by omega)
      have lB3 : (B ++ pp_tx e ++ pp_tx 51 ++ zdg a).length ≤ 1336 := by rw [List.length_append]; omega
      obtain ⟨y4, e4, S4, g4, F4⟩ := S3.ap (α := Nat × MS) (zxH (y := y3) (c := 52) (by decide)) (by omega) (b3.mo (by omega))
      rw [e4]
      have b4 : yb y4 15 := b3.g g4 (by omega)
      have lB4 : (B ++ pp_tx e ++ pp_tx 51 ++ zdg a ++ pp_tx 52).length ≤ 1351 := by rw [List.length_append]; omega
      obtain ⟨y5, e5, S5, g5, F5⟩ := S4.nu (α := Nat × MS) (v := nI c) rfl (by omega) (by omega) (b4.mo (by omega))
      rw [e5]
      have b5 : yb y5 10 := b4.g g5 (by omega)
      have F15 := (((F1.tr F2).tr F3).tr F4).tr F5
      have er3 := F15.rw6 hr
      have h := zo_230 (k53 := k53) (k98 := k98) (m := m) (t := t) (l3 := l3) (Wv := Wv) (wv := wv) (bv := bv) S5 (er3.1.trans hr) (er3.2.2.2.trans hrn) hs ha hc hn hL (by rw [List.length_append]; omega) b5
      have eB : B ++ pp_tx e ++ pp_tx 51 ++ zdg a ++ pp_tx 52 ++ zdg c ++ pp_tx 54 ++ zdg n = B ++ pp_tx e ++ zibs (zipp (zos s, a, c, n)) := by
        rw [e0]
        show _ = B ++ pp_tx e ++ zibs ([(4, 0)] ++ [(50, 0)] ++ [(42, a)] ++ [(50, 0)] ++ [(5, 0)] ++ [(50, 0)] ++ [(42, c)] ++ [(50, 0)] ++ [(3, 0)] ++ [(50, 0)] ++ [(42, n)])
        rw [k51, k52, k54]
        simp only [zibsA, zxib, zxiu, zxi (s := 4) (by decide), zxi (s := 5) (by decide), zxi (s := 3) (by decide), List.append_assoc]
      rw [eB] at h
      exact h.g ((((g1.tr g2).tr g3).tr g4).tr g5) F15 hr (by omega)
    · have e0 : zos s = 2 := by unfold zos; rw [if_neg hs2, if_neg hs4]
      rw [if_pos (show (4 : Int32) ≤ nI s from (nI_le (by omega) (by omega) : nI 4 ≤ nI s))]
      obtain ⟨y2, e2, S2, g2, F2⟩ := S1.ap (α := Nat × MS) (zxH (y := y1) (c := 53) (by decide)) (by omega) (b1.mo (by omega))
      rw [e2]
      have er3 := (F1.tr F2).rw6 hr
      have h := zo_230 (k53 := k53) (k98 := k98) (m := m) (t := t) (l3 := l3) (Wv := Wv) (wv := wv) (bv := bv) S2 (er3.1.trans hr) (er3.2.2.2.trans hrn) hs ha hc hn hL (by rw [List.length_append]; omega) ((b1.g g2 (by omega)).mo (by omega))
      have eB : B ++ pp_tx e ++ pp_tx 53 ++ pp_tx 54 ++ zdg n = B ++ pp_tx e ++ zibs (zipp (zos s, a, c, n)) := by
        rw [e0]
        show _ = B ++ pp_tx e ++ zibs ([(6, 0)] ++ [(50, 0)] ++ [(3, 0)] ++ [(50, 0)] ++ [(42, n)])
        rw [k53', k54]
        simp only [zibsA, zxib, zxiu, zxi (s := 6) (by decide), zxi (s := 3) (by decide), List.append_assoc]
      rw [eB] at h
      exact h.g (g1.tr g2) (F1.tr F2) hr (by omega)
theorem zo_148 {k : Nat} {v : Int32} (hS : zoS d sb B y) (hr : h_K y r = 60) (hrn : h_N y r = 24) (hs : s < 5) (ha : a ≤ 40) (hc : c ≤ 40) (hv : v = nI k) (hk : 0 < k) (hk8 : k ≤ 8) (hL : n0 ≤ 16) (hm : m < 3) (hB : B.length ≤ 1300) (hb : yb y 35) : ∃ n, 1 ≤ n ∧ n ≤ 8 ∧ zoQ d sb r n0 m s a c (B ++ pp_tx (if m = 0 then 48 else 49) ++ zibs (zipp (zos s, a, c, n))) l3 t Wv wv bv k98 35 n y (f_l_L_drawn_148 k53 k98 d sb l3 t Wv wv r (nI n0) bv (nI m) (nI s) (nI a) (nI c) v d (1 : Int32) y) := by
  obtain ⟨j, y1, hj, e1, S1, g1, F1, n1⟩ := hS.di (n := k) (by omega) (by omega)
  unfold f_l_L_drawn_148
  rw [hv, if_pos hS.1, e1, pp_b]
  have er := F1.rw6 hr
  have e2 : (1 : Int32) + nI j = nI (1 + j) := (nI_add (a := 1) (b := j))
  have h := zo_167 (k53 := k53) (k98 := k98) (m := m) (t := t) (l3 := l3) (Wv := Wv) (wv := wv) (bv := bv) (n := 1 + j) (n0 := n0) S1 (er.1.trans hr) (er.2.2.2.trans hrn) hs ha hc (by omega) (by omega) hB (hb.g g1 (by omega))
  refine ⟨1 + j, by omega, by omega, ?_⟩
  rw [← e2] at h
  by_cases h0 : m = 0
  · rw [if_pos (show nI m = 0 by rw [h0]; rfl)]
    rw [if_pos h0] at h ⊢
    exact h.g g1 F1 hr (by omega)
  · rw [if_neg (show ¬ nI m = 0 from nI_ne0 (by omega) (by omega))]
    rw [if_neg h0] at h ⊢
    exact h.g g1 F1 hr (by omega)
end ZOP
