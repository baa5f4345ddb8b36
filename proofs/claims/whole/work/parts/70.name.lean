/-! names -/
def pp_ff (P : Nat → Bool) (W : Nat) : Nat → Option Nat
  | 0 => none
  | d + 1 => if P (W - (d + 1)) = true then some (W - (d + 1)) else pp_ff P W d
theorem pp_ffS (P : Nat → Bool) (W d : Nat) : pp_ff P W (d + 1) = if P (W - (d + 1)) = true then some (W - (d + 1)) else pp_ff P W d := rfl
theorem pp_ffE {P Q : Nat → Bool} {W : Nat} (h : ∀ j, j < W → P j = Q j) : ∀ d, d ≤ W → pp_ff P W d = pp_ff Q W d := by
  intro d
  induction d with
  | zero => intro _; rfl
  | succ d ih =>
    intro hd
    rw [pp_ffS, pp_ffS, h _ (by omega), ih (by omega)]
theorem pp_ffB {P : Nat → Bool} {W w : Nat} : ∀ d, d ≤ W → pp_ff P W d = some w → w < W ∧ P w = true := by
  intro d
  induction d with
  | zero => intro _ h; cases h
  | succ d ih =>
    intro hd h
    rw [pp_ffS] at h
    split at h
    · rename_i hp
      cases h
      exact ⟨by omega, hp⟩
    · exact ih (by omega) h
theorem pp_ffN {P : Nat → Bool} {W : Nat} : ∀ d, d ≤ W → pp_ff P W d = none → ∀ j, W - d ≤ j → j < W → P j = false := by
  intro d
  induction d with
  | zero => intro _ _ j h1 h2; omega
  | succ d ih =>
    intro hd h j h1 h2
    rw [pp_ffS] at h
    split at h
    · cases h
    · rename_i hp
      rcases Nat.lt_or_ge (W - (d + 1)) j with h3 | h3
      · exact ih (by omega) h j (by omega) h2
      · have e : j = W - (d + 1) := by omega
        rw [e]
        simpa using hp
theorem pp_wcC {x : CS} {v Wc : Nat} {q : Int32} (hv : v = 41 ∨ v = 91) (h2 : x.2 162 2 = v) (hW : x.1 v 2 = nI Wc) (hW8 : Wc ≤ 8) : f_X2_wordCalled q x = some (pp_en (pp_ff (fun j => decide (x.1 163 j = q)) Wc Wc)) := by
  have key : ∀ d fuel, d ≤ Wc → d < fuel → f_X2_wordCalled_2 x fuel q (nI (Wc - d)) = some (pp_en (pp_ff (fun j => decide (x.1 163 j = q)) Wc d)) := by
    intro d
    induction d with
    | zero =>
      intro fuel hd hfu
      obtain ⟨fu, rfl⟩ : ∃ fu, fuel = fu + 1 := ⟨fuel - 1, by omega⟩
      rw [f_X2_wordCalled_2, h2, if_pos (pp_k9 hv), hW, if_pos (nI_le (by omega) (by omega))]
      rfl
    | succ d ih =>
      intro fuel hd hfu
      obtain ⟨fu, rfl⟩ : ∃ fu, fuel = fu + 1 := ⟨fuel - 1, by omega⟩
      have i := ih fu (by omega) (by omega)
      rw [pp_ffS, f_X2_wordCalled_2, h2, if_pos (pp_k9 hv), hW, if_neg (nI_ge (by omega) (by omega)), if_neg (show ¬ (8 : Int32) ≤ nI (Wc - (d + 1)) from nI_ge (b := 8) (by omega) (by omega)), if_pos ((pp_ok (by omega)).mpr (by omega)), nI_clamp (by omega), nI_1, show Wc - (d + 1) + 1 = Wc - d by omega]
      by_cases e : x.1 163 (Wc - (d + 1)) = q
      · rw [if_pos e, if_pos (decide_eq_true e)]; rfl
      · rw [if_neg e, if_neg (by rw [decide_eq_false e]; decide)]
        exact i
  have := key Wc g_fuel (Nat.le_refl _) (by unfold g_fuel; omega)
  rw [Nat.sub_self] at this
  exact this
/-- two tokens of one text -/
theorem pp_smM {y : MS} {t : Nat → Nat} {T i k p z q u : Nat} (hM : pp_MT y t T) (hi : i < 402) (hk : k < 402) (i1 : y 124 i = nI p) (i2 : y 125 i = nI z) (i3 : p + z ≤ T) (k1 : y 124 k = nI q) (k2 : y 125 k = nI u) (k3 : q + u ≤ T) : ∃ r : Bool, f_X15_isSameName (nI i) (nI k) y = some (pp_i r) ∧ (r = true ↔ z = u ∧ ∀ c, c < z → t (p + c) = t (q + c)) := by
  have hT := hM.2.1
  have oi := (pp_ok (k := i) (n := 402) (by omega)).mpr hi
  have ok := (pp_ok (k := k) (n := 402) (by omega)).mpr hk
  unfold f_X15_isSameName
  rw [if_pos oi, if_pos ok, nI_clamp (by omega), nI_clamp (by omega), i2, k2]
  by_cases e : z = u
  · subst e
    rw [if_pos rfl]
    have key : ∀ d fuel c, d = z - c → d < fuel → c ≤ z → ∃ r : Bool, f_X15_isSameName_19 y fuel (nI i) (nI k) (nI c) = some (pp_i r) ∧ (r = true ↔ ∀ e, c ≤ e → e < z → t (p + e) = t (q + e)) := by
      intro d
      induction d with
      | zero =>
        intro fuel c hd hfu hc
        obtain ⟨fu, rfl⟩ : ∃ fu, fuel = fu + 1 := ⟨fuel - 1, by omega⟩
        exact ⟨true, by rw [f_X15_isSameName_19, if_pos oi, nI_clamp (by omega), i2, if_pos (nI_le (by omega) (by omega))]; rfl, ⟨fun _ e h1 h2 => by omega, fun _ => rfl⟩⟩
      | succ d ih =>
        intro fuel c hd hfu hc
        obtain ⟨fu, rfl⟩ : ∃ fu, fuel = fu + 1 := ⟨fuel - 1, by omega⟩
        obtain ⟨r, r1, r2⟩ := ih fu (c + 1) (by omega) (by omega) (by omega)
        have b1 := hM.2.2.1 (p + c) (by omega)
        have b2 := hM.2.2.1 (q + c) (by omega)
        rw [f_X15_isSameName_19, if_pos oi, nI_clamp (by omega), i2, if_neg (nI_ge (by omega) (by omega)), if_pos oi, i1, nI_add, if_pos ((pp_ok (by omega)).mpr (by omega)), if_pos ok, nI_clamp (by omega), k1, nI_add, if_pos ((pp_ok (by omega)).mpr (by omega)), nI_clamp (by omega), nI_clamp (by omega), hM.2.2.2 (p + c) (by omega), hM.2.2.2 (q + c) (by omega), nI_1]
        by_cases e : t (p + c) = t (q + c)
        · rw [if_pos (by rw [e])]
          refine ⟨r, r1, r2.trans ⟨fun h f h1 h2 => ?_, fun h f h1 h2 => h f (by omega) h2⟩⟩
          rcases Nat.lt_or_ge c f with h3 | h3
          · exact h f (by omega) h2
          · have e2 : f = c := by omega
            rw [e2]; exact e
        · rw [if_neg (by rw [nI_eq (by omega) (by omega)]; exact e)]
          exact ⟨false, rfl, ⟨fun h => (by cases h), fun h => absurd (h c (Nat.le_refl _) (by omega)) e⟩⟩
    obtain ⟨r, r1, r2⟩ := key (z - 0) g_fuel 0 rfl (by unfold g_fuel; omega) (by omega)
    exact ⟨r, r1, r2.trans ⟨fun h => ⟨rfl, fun c hc => h c (by omega) hc⟩, fun h c _ hc => h.2 c hc⟩⟩
  · rw [if_neg (by rw [nI_eq (by omega) (by omega)]; exact e)]
    exact ⟨false, rfl, ⟨fun h => (by cases h), fun h => absurd h.1 e⟩⟩
/-- the numbers of two names are alike just if their texts are -/
theorem pp_nmE {x0 : CS} {y0 : MS} {t : Nat → Nat} {T i k : Nat} (hi : pp_TK x0 y0 t T i) (hk : pp_TK x0 y0 t T k) (hi4 : i < 401) (hk4 : k < 401) (si : x0.2 4 i = 41) (sk : x0.2 4 k = 41) : (x0.1 7 i = x0.1 7 k) ↔ pp_eqt x0 t i k := by
  obtain ⟨-, -, -, -, -, -, -, -, -, -, i9⟩ := hi
  obtain ⟨-, -, -, -, -, -, -, -, -, -, k9⟩ := hk
  obtain ⟨f, f1, f2, f3, f4, f5⟩ := i9 si
  obtain ⟨g, g1, g2, g3, g4, g5⟩ := k9 sk
  have sym : ∀ {a b}, pp_eqt x0 t a b → pp_eqt x0 t b a := fun {a b} h => ⟨h.1.symm, fun c hc => (h.2 c (by rw [h.1]; exact hc)).symm⟩
  have tr : ∀ {a b c}, pp_eqt x0 t a b → pp_eqt x0 t b c → pp_eqt x0 t a c := fun {a b c} h h2 => ⟨h.1.trans h2.1, fun e he => (h.2 e he).trans (h2.2 e (by rw [← h.1]; exact he))⟩
  constructor
  · intro h
    rw [f2, g2, nI_eq (by omega) (by omega)] at h
    rw [h] at f4
    exact tr (sym f4) g4
  · intro h
    rw [f2, g2]
    congr 1
    rcases Nat.lt_trichotomy f g with h1 | h1 | h1
    · exact absurd (tr f4 h) (g5 f h1 f3)
    · exact h1
    · exact absurd (tr g4 (sym h)) (f5 g h1 g3)
/-- which word is named by token k, by both -/
theorem pp_kno {b v n W : Nat} {x0 xs x : CS} {y0 ys y : MS} {t : Nat → Nat} {T k : Nat} (hX : pp_CX b v n W x0 xs y0 ys t T) (hC : pp_TC x0 y0 x y) (hr : x.2 162 2 = v) (h120 : y 120 8 = nI k) (hkn : k < n) (hy139 : y 139 2 = ys 139 2) (hy126 : y 126 = ys 126) (hx163 : x.1 163 = xs.1 163) (hxv : x.1 v 2 = xs.1 v 2) (h7 : x.1 162 7 = x0.1 7 k) : ∃ oc om : Option Nat, f_X2_wordCalled (x.1 162 7) x = some (pp_en oc) ∧ f_X15_known y = some (pp_en om) ∧ (∀ w, oc = some w → w < 8) ∧ (∀ w, om = some w → w < 8) ∧ (xs.1 162 8 = 0 → x0.2 4 k = 41 → oc = om ∧ ∀ w, om = some w → w < W) := by
  obtain ⟨hb, hv, hF, hMT, r1, r2, hW8, hN1, hN2, Wc, hc1, hc2, hc3⟩ := hX
  have hn := hF.1
  have hMy : pp_MT y t T ∨ True := Or.inr trivial
  have hTK : ∀ i, i < n → pp_TK x0 y0 t T i := hF.2.1
  obtain ⟨pk, zk, -, kq2, -, kq4, kq5, -⟩ := hTK k hkn
  -- the reference
  have hsame : ∀ j, j < W → ∃ r : Bool, f_X15_isSameName (y 126 j) (nI k) y = some (pp_i r) ∧ (xs.1 162 8 = 0 → x0.2 4 k = 41 → (r = true ↔ xs.1 163 j = x0.1 7 k)) := by
    intro j hj
    obtain ⟨tj, t1, t2, t3⟩ := hN2 j hj
    obtain ⟨pj, zj, jq1, jq2, jq3, jq4, jq5, -⟩ := hTK tj t1
    obtain ⟨pk', zk', kr1, kr2, kr3, kr4, kr5, -⟩ := hTK k hkn
    have hTT := hMT.2.1
    have hMY : ∃ T', True := ⟨0, trivial⟩
    -- a tape of y as y0's
    have hcmp : ∀ z : MS, z 121 = y0 121 → z 124 = y0 124 → z 125 = y0 125 → f_X15_isSameName (nI tj) (nI k) z = f_X15_isSameName (nI tj) (nI k) y0 := by
      intro z z1 z2 z3
      have h19 : ∀ fuel c, f_X15_isSameName_19 z fuel (nI tj) (nI k) c = f_X15_isSameName_19 y0 fuel (nI tj) (nI k) c := by
        intro fuel
        induction fuel with
        | zero => intro c; rfl
        | succ fu ih =>
          intro c
          rw [f_X15_isSameName_19, f_X15_isSameName_19, z1, z2, z3, ih]
      unfold f_X15_isSameName
      rw [z3, h19]
    obtain ⟨r, s1, s2⟩ := pp_smM (i := tj) (k := k) hMT (by omega) (by omega) jq2 jq4 jq5 kr2 kr4 kr5
    refine ⟨r, by rw [hy126, t2, hcmp y hC.2.2.2.1 hC.2.2.2.2.2.2.1 hC.2.2.2.2.2.2.2]; exact s1, fun q1 q2 => ?_⟩
    obtain ⟨u1, u2⟩ := t3 q1
    have hnm := pp_nmE (hTK tj t1) (hTK k hkn) (by omega) (by omega) u1 q2
    rw [u2, hnm, s2]
    unfold pp_eqt
    rw [jq3, kr3, jq1, kr1, nI_eq (by omega) (by omega), nI_clamp (by omega), nI_clamp (by omega), nI_clamp (by omega)]
  have hex : ∃ P : Nat → Bool, ∀ j, j < W → f_X15_isSameName (y 126 j) (nI k) y = some (pp_i (P j)) := by
    refine ⟨fun j => match f_X15_isSameName (y 126 j) (nI k) y with | some r => decide (r = 1) | none => false, fun j hj => ?_⟩
    obtain ⟨r, h1, -⟩ := hsame j hj
    show _ = some (pp_i (match f_X15_isSameName (y 126 j) (nI k) y with | some r => decide (r = 1) | none => false))
    rw [h1]
    cases r <;> rfl
  obtain ⟨P, hP⟩ := hex
  have hkM : f_X15_known y = some (pp_en (pp_ff P W W)) := by
    have key : ∀ d fuel, d ≤ W → d < fuel → f_X15_known_2 y fuel (nI (W - d)) = some (pp_en (pp_ff P W d)) := by
      intro d
      induction d with
      | zero =>
        intro fuel hd hfu
        obtain ⟨fu, rfl⟩ : ∃ fu, fuel = fu + 1 := ⟨fuel - 1, by omega⟩
        rw [f_X15_known_2, hy139, hN1, if_pos (nI_le (by omega) (by omega))]
        rfl
      | succ d ih =>
        intro fuel hd hfu
        obtain ⟨fu, rfl⟩ : ∃ fu, fuel = fu + 1 := ⟨fuel - 1, by omega⟩
        have i := ih fu (by omega) (by omega)
        rw [pp_ffS, f_X15_known_2, hy139, hN1, if_neg (nI_ge (by omega) (by omega)), if_pos ((pp_ok (by omega)).mpr (by omega)), nI_clamp (by omega), h120, hP _ (by omega), pp_b, pp_if1, nI_1, show W - (d + 1) + 1 = W - d by omega]
        cases P (W - (d + 1)) with
        | true => rfl
        | false => exact i
    have := key W g_fuel (Nat.le_refl _) (by unfold g_fuel; omega)
    rw [Nat.sub_self] at this
    exact this
  refine ⟨_, _, pp_wcC hv hr (hxv.trans hc2) hc1, hkM, fun w hw => ?_, fun w hw => ?_, fun q1 q2 => ?_⟩
  · have := (pp_ffB Wc (Nat.le_refl _) hw).1; omega
  · have := (pp_ffB W (Nat.le_refl _) hw).1; omega
  · have e := hc3 q1
    subst e
    refine ⟨pp_ffE (fun j hj => ?_) Wc (Nat.le_refl _), fun w hw => (pp_ffB Wc (Nat.le_refl _) hw).1⟩
    obtain ⟨r, s1, s2⟩ := hsame j hj
    have e1 := (hP j hj).symm.trans s1
    have e2 : P j = r := by
      have := Option.some.inj e1
      cases h : P j <;> cases h2 : r <;> rw [h, h2] at this <;> first | rfl | exact absurd this (by decide)
    rw [e2, hx163, h7]
    have s3 := s2 q1 q2
    cases r with
    | true => rw [decide_eq_true (s3.mp rfl)]
    | false => rw [decide_eq_false (fun h => by have := s3.mpr h; cases this)]
/-- an error that is not of the grammar -/
theorem pp_blm {b v n W e : Nat} {x0 xs x : CS} {y0 ys y : MS} {t : Nat → Nat} {T c k d : Nat} (hX : pp_CX b v n W x0 xs y0 ys t T) (h : pp_PO b n W x0 xs y0 ys c k d x y) (he : 2 ≤ e ∧ e ≤ 5) : ∃ x1 y1, f_X2_blame (nI e) x = some x1 ∧ f_X15_mark (nI e) y = some y1 ∧ pp_PO b n W x0 xs y0 ys c k d x1 y1 ∧ x1.1 162 8 ≠ 0 ∧ pp_FE b x x1 y y1 := by
  obtain ⟨hb, hv, hF, hMT, r1, r2, hN⟩ := hX
  obtain ⟨⟨er, m1, m2, m3, m4, m5, m6, m7, m8, m9, m10, m11, m12, m13⟩, hC, hE, h8, Z, z1, z2, z3⟩ := h
  by_cases h0 : er = 0
  · subst h0
    have e1 : f_X2_blame (nI e) x = some (g_wi (g_wi x 162 8 (nI e)) 162 9 (x.1 162 6)) := by
      unfold f_X2_blame
      rw [if_pos (by rw [m10]; rfl)]
      simp [g_wi, upd]
    have e2 : f_X15_mark (nI e) y = some (g_mi (g_mi y 120 10 (nI e)) 120 11 (y 120 8)) := by
      unfold f_X15_mark
      rw [m7, if_pos rfl, if_pos (by rw [m11]; rfl)]
      simp [g_mi, upd]
    have xi : ∀ i, i ≠ 162 → (g_wi (g_wi x 162 8 (nI e)) 162 9 (x.1 162 6)).1 i = x.1 i := fun i hi => by rw [pp_c1, pp_c4 hi, pp_c1, pp_c4 hi]
    have xj : ∀ j, j ≠ 8 → j ≠ 9 → (g_wi (g_wi x 162 8 (nI e)) 162 9 (x.1 162 6)).1 162 j = x.1 162 j := fun j h1 h2 => by simp [g_wi, upd, h1, h2]
    have x8 : (g_wi (g_wi x 162 8 (nI e)) 162 9 (x.1 162 6)).1 162 8 = nI e := by simp [g_wi, upd]
    have x9 : (g_wi (g_wi x 162 8 (nI e)) 162 9 (x.1 162 6)).1 162 9 = x.1 162 6 := by simp [g_wi, upd]
    have yi : ∀ i, i ≠ 120 → (g_mi (g_mi y 120 10 (nI e)) 120 11 (y 120 8)) i = y i := fun i hi => by rw [pp_g1, pp_g4 hi, pp_g1, pp_g4 hi]
    have yj : ∀ j, j ≠ 10 → j ≠ 11 → (g_mi (g_mi y 120 10 (nI e)) 120 11 (y 120 8)) 120 j = y 120 j := fun j h1 h2 => by simp [g_mi, upd, h1, h2]
    have y10 : (g_mi (g_mi y 120 10 (nI e)) 120 11 (y 120 8)) 120 10 = nI e := by simp [g_mi, upd]
    have y11 : (g_mi (g_mi y 120 10 (nI e)) 120 11 (y 120 8)) 120 11 = y 120 8 := by simp [g_mi, upd]
    have hFE1 : pp_FE b x (g_wi (g_wi x 162 8 (nI e)) 162 9 (x.1 162 6)) y (g_mi (g_mi y 120 10 (nI e)) 120 11 (y 120 8)) := ⟨fun i h1 h2 h3 => xi i h1, fun j _ => by rw [xi b (by omega)], fun _ _ _ => rfl, fun _ _ => rfl, fun i h1 h2 h3 h4 h5 => yi i h1, fun j _ => by rw [yi 139 (by omega)], fun j hj => yj j (by omega) (by omega)⟩
    have hne : ¬ nI e = (0 : Int32) := nI_ne0 (by omega) (by omega)
    exact ⟨_, _, e1, e2, ⟨⟨e, by rw [xj 4 (by omega) (by omega)]; exact m1, by rw [yj 8 (by omega) (by omega)]; exact m2, m3, m4, by rw [xj 6 (by omega) (by omega)]; exact m5, by rw [xj 7 (by omega) (by omega)]; exact m6, by rw [yj 9 (by omega) (by omega)]; exact m7, by rw [yj 12 (by omega) (by omega)]; exact m8, Or.inr he, x8, y10, fun q => by omega, fun _ => ⟨k, m3, y11.trans m2, x9.trans m5⟩⟩, hC.fe hb hFE1, hE.tr hFE1, fun q => absurd (x8.symm.trans q) hne, Z, by rw [yi 139 (by omega)]; exact z1, z2, fun q => absurd (x8.symm.trans q) hne⟩, fun q => hne (x8.symm.trans q), hFE1⟩
  · have hne : ¬ nI er = (0 : Int32) := nI_ne0 (by omega) (by omega)
    have e1 : f_X2_blame (nI e) x = some x := by
      unfold f_X2_blame
      rw [if_neg (by rw [m10]; exact hne)]
    have e2 : f_X15_mark (nI e) y = some y := by
      unfold f_X15_mark
      rw [m7, if_pos rfl, if_neg (by rw [m11]; exact hne)]
    exact ⟨x, y, e1, e2, ⟨⟨er, m1, m2, m3, m4, m5, m6, m7, m8, m9, m10, m11, m12, m13⟩, hC, hE, h8, Z, z1, z2, z3⟩, by rw [m10]; exact hne, pp_FE.rf b x y⟩
/-- a name that has to be known -/
theorem pp_nam {b v n W : Nat} {x0 xs x : CS} {y0 ys y : MS} {t : Nat → Nat} {T c k d : Nat} (hX : pp_CX b v n W x0 xs y0 ys t T) (h : pp_PO b n W x0 xs y0 ys c k d x y) : ∃ x1 y1 qc qm, f_X2_readKnownName x = some (qc, x1) ∧ f_X15_name y = some (qm, y1) ∧ ((pp_PO b n W x0 xs y0 ys (c + 1) (k + 1) d x1 y1 ∧ pp_NC b x x1 ∧ (x1.1 162 8 = 0 → x.1 162 8 = 0 ∧ ∃ w, w < W ∧ qc = nI w ∧ qm = nI w)) ∨ pp_PW b n x0 xs y0 ys (c + 1) x1 y1) := by
  have hb := hX.1
  have h0 := h
  obtain ⟨r1, r2, r3⟩ := pp_POr hX h
  have his := pp_isP (s := 41) hX h (by omega)
  have hw8 : ∀ o : Option Nat, (∀ w, o = some w → w < 8) → (pp_en o = -1 ↔ o = none) := fun o ho => by
    cases o with
    | none => exact ⟨fun _ => rfl, fun _ => rfl⟩
    | some w =>
      have := ho w rfl
      exact ⟨fun q => absurd q (pp_m1n (by omega)), fun q => (by cases q)⟩
  unfold f_X2_readKnownName f_X15_name
  rw [show (30 : Int32) = nI (pp_tr 41) from rfl, his, pp_b, pp_if1, r3]
  by_cases e : x0.2 4 k = 41
  · rw [if_pos e, if_pos (decide_eq_true e)]
    have hkn : k < n := (pp_stp hX h (by omega) (by omega)).2.2.2
    obtain ⟨⟨er, m1, m2, m3, m4, m5, m6, m7, m8, m9, m10, m11, m12, m13⟩, hC, hE, h8, Z, z1, z2, z3⟩ := h
    have hv := hX.2.1
    obtain ⟨oc, om, k1, k2, k3, k4, k5⟩ := pp_kno hX hC r2 m2 hkn (hE.2.2.2.2.2.1 2 (by omega)) (hE.2.2.2.2.1 126 (by omega) (by omega) (by omega) (by omega) (by omega)) (hE.1 163 (by omega) (by omega) (by omega)) (by rw [hE.1 v (by omega) (by omega) (by omega)]) m6
    rw [k1, pp_b, k2, pp_b]
    -- behind a possible error 3
    have hfin : ∀ xa ya, pp_PO b n W x0 xs y0 ys c k d xa ya → ∃ x1 y1, f_X2_readKnownName_35 (pp_en oc) xa = some (pp_en oc, x1) ∧ f_X15_name_28 (pp_en om) ya = some (g_max 0 (pp_en om), y1) ∧ pp_PO b n W x0 xs y0 ys (c + 1) (k + 1) d x1 y1 ∧ x1.1 162 8 = xa.1 162 8 ∧ pp_NC b xa x1 := by
      intro xa ya hp
      obtain ⟨s1, s2, s3, s4⟩ := pp_stp hX hp (by omega) (by omega)
      have hisa := pp_isP (s := 41) hX hp (by omega)
      refine ⟨_, _, ?_, ?_, s2, s3, ⟨by rw [pp_sx1.1 b (by omega)], pp_sx1.2.1 _ (by omega)⟩⟩
      · unfold f_X2_readKnownName_35
        rw [s1]; rfl
      · unfold f_X15_name_28 f_X15_take
        rw [show (30 : Int32) = nI (pp_tr 41) from rfl, hisa, pp_b, decide_eq_true e, if_neg (by decide)]
        rfl
    -- which of both blames
    have hbl : ∀ (P Q : Prop) [Decidable P] [Decidable Q], (x.1 162 8 = 0 → (P ↔ Q)) → ∃ xa ya, (if P then (f_X2_blame (3 : Int32) x).bind fun q4 => f_X2_readKnownName_35 (pp_en oc) q4 else f_X2_readKnownName_35 (pp_en oc) x) = f_X2_readKnownName_35 (pp_en oc) xa ∧ (if Q then (f_X15_mark (3 : Int32) y).bind fun q5 => f_X15_name_28 (pp_en om) q5 else f_X15_name_28 (pp_en om) y) = f_X15_name_28 (pp_en om) ya ∧ pp_PO b n W x0 xs y0 ys c k d xa ya ∧ pp_NC b x xa ∧ (xa.1 162 8 = 0 → x.1 162 8 = 0 ∧ ¬ P ∧ ¬ Q) := by
      intro P Q _ _ hPQ
      by_cases hz : x.1 162 8 = 0
      · have hpq := hPQ hz
        by_cases hp : P
        · obtain ⟨xa, ya, a1, a2, a3, a4, a5⟩ := pp_blm (e := 3) hX h0 (by omega)
          rw [if_pos hp, if_pos (hpq.mp hp), show (3 : Int32) = nI 3 from rfl, a1, a2]
          obtain ⟨f1, f2, f3, f4, -⟩ := a5
          -- blame changes no code
          refine ⟨xa, ya, rfl, rfl, a3, ⟨?_, ?_⟩, fun q => absurd q a4⟩
          · have hbl1 : f_X2_blame (nI 3) x = some (g_wi (g_wi x 162 8 (nI 3)) 162 9 ((g_wi x 162 8 (nI 3)).1 162 6)) := by unfold f_X2_blame; rw [if_pos hz]
            rw [a1] at hbl1
            rw [Option.some.inj hbl1, pp_c1, pp_c4 (by omega), pp_c1, pp_c4 (by omega)]
          · have hbl1 : f_X2_blame (nI 3) x = some (g_wi (g_wi x 162 8 (nI 3)) 162 9 ((g_wi x 162 8 (nI 3)).1 162 6)) := by unfold f_X2_blame; rw [if_pos hz]
            rw [a1] at hbl1
            rw [Option.some.inj hbl1]
            rfl
        · rw [if_neg hp, if_neg (fun q => hp (hpq.mpr q))]
          exact ⟨x, y, rfl, rfl, h0, ⟨rfl, rfl⟩, fun q => ⟨q, hp, fun q2 => hp (hpq.mpr q2)⟩⟩
      · have b1 : f_X2_blame (3 : Int32) x = some x := by unfold f_X2_blame; rw [if_neg hz]
        have b2 : f_X15_mark (3 : Int32) y = some y := by
          unfold f_X15_mark
          rw [m7, if_pos rfl, if_neg (by rw [m11, ← m10]; exact hz)]
        refine ⟨x, y, ?_, ?_, h0, ⟨rfl, rfl⟩, fun q => absurd q hz⟩
        · split
          · rw [b1]; rfl
          · rfl
        · split
          · rw [b2]; rfl
          · rfl
    unfold f_X15_name_17
    obtain ⟨xa, ya, b1, b2, b3, b4, b5⟩ := hbl (pp_en oc = -1) (pp_en om = -1) (fun hz => by rw [(k5 (h8 hz) e).1])
    rw [b1, b2]
    obtain ⟨x1, y1, c1, c2, c3, c4, c5⟩ := hfin xa ya b3
    rw [c1, c2]
    refine ⟨x1, y1, _, _, rfl, rfl, Or.inl ⟨c3, b4.tr c5, fun q => ?_⟩⟩
    rw [c4] at q
    obtain ⟨q1, q2, q3⟩ := b5 q
    obtain ⟨j1, j2⟩ := k5 (h8 q1) e
    refine ⟨q1, ?_⟩
    rw [j1]
    cases hom : om with
    | none => exact absurd (by rw [hom]; rfl) q3
    | some w =>
      have hw := j2 w hom
      have hw2 := k4 w hom
      refine ⟨w, hw, rfl, ?_⟩
      show g_max 0 (nI w) = nI w
      rw [show (0 : Int32) = nI 0 from rfl, pp_max (by omega) (by omega), Nat.max_eq_right (by omega)]
  · obtain ⟨s1, s2, s3, -⟩ := pp_rfs hX h
    rw [if_neg e, if_neg (by rw [decide_eq_false e]; decide), s1, pp_b]
    refine ⟨_, pp_ry y, _, 0, rfl, ?_, Or.inr s3⟩
    unfold f_X15_name_17 f_X15_name_28 f_X15_take
    rw [if_neg (by decide), show (30 : Int32) = nI (pp_tr 41) from rfl, his, pp_b, decide_eq_false e, if_pos (by decide), s2]
    rfl
theorem pp_namW {b v n W : Nat} {x0 xs x : CS} {y0 ys y : MS} {t : Nat → Nat} {T c : Nat} (hX : pp_CX b v n W x0 xs y0 ys t T) (h : pp_PW b n x0 xs y0 ys c x y) : f_X2_readKnownName x = some (-1, x) ∧ f_X15_name y = some (0, y) := by
  obtain ⟨r1, r2, r3, r4, r5⟩ := pp_PWr hX h
  constructor
  · unfold f_X2_readKnownName
    rw [r3, if_neg (by decide), pp_refW r4]; rfl
  · unfold f_X15_name f_X15_name_17 f_X15_name_28
    rw [pp_isW r5, pp_b, if_pos rfl, if_neg (by decide), pp_takeW r5]
    rfl
