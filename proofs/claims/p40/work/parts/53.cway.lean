/-! the class's ways -/
def pp_up (c : Nat → Nat → Nat) (w i k : Nat) : Nat := match i with
  | 0 => pp_F
  | i + 1 => pp_wy c w i k
def pp_lw (c : Nat → Nat → Nat) (w i j : Nat) : Nat := match j with
  | 0 => pp_F
  | j + 1 => pp_wy c w i j
def pp_co (c : Nat → Nat → Nat) (w i j : Nat) : Nat := match j with
  | 0 => if i = 0 then 0 else pp_tt pp_F
  | j + 1 => pp_tt (pp_up c w i j)
def pp_LI (c : Nat → Nat → Nat) (w m i j : Nat) (f : Nat → Int32) : Prop := f 0 = nI (pp_tt pp_F) ∧ (∀ k, k < m → k < j → f (k + 1) = nI (pp_tt (pp_wy c w i k))) ∧ ∀ k, k < m → j ≤ k → f (k + 1) = nI (pp_tt (pp_up c w i k))
theorem pp_LIs {c : Nat → Nat → Nat} {w m i j : Nat} {f : Nat → Int32} {v : Int32} (h : pp_LI c w m i j f) (hv : v = nI (pp_tt (pp_wy c w i j))) : pp_LI c w m i (j + 1) (upd f (j + 1) v) := by
  refine ⟨?_, fun k hk hkj => ?_, fun k hk hkj => ?_⟩
  · rw [pp_u2 (by omega)]; exact h.1
  · rcases Nat.lt_or_ge k j with h1 | h1
    · rw [pp_u2 (by omega)]; exact h.2.1 k hk h1
    · have e : k = j := by omega
      rw [e, pp_u1, hv]
  · rw [pp_u2 (by omega)]; exact h.2.2 k hk (by omega)
theorem pp_LIn {c : Nat → Nat → Nat} {w m i : Nat} {f : Nat → Int32} (h : pp_LI c w m i m f) : pp_LI c w m (i + 1) 0 f :=
  ⟨h.1, fun k _ hk => absurd hk (Nat.not_lt_zero _), fun k hk _ => h.2.1 k hk hk⟩
theorem pp_pitC {x : CS} {t k : Nat} (hk : k < 24) : f_X3_pitch t (nI k) x = some (x.1 (t + 1) k) := by
  unfold f_X3_pitch
  rw [if_neg (nI_pos (by omega)), pp_lit 24, if_neg (nI_ge hk (by omega)), if_pos ((pp_ok (by omega)).mpr hk), nI_clamp (by omega)]
theorem pp_wgt0 {p q : Nat} (hp : p ≤ 40) (hq : q ≤ 40) : f_X10_weight (nI p) (nI q) 0 = some (nI (64 * pp_cp p q + 1)) := by
  have key : ∀ p, p < 41 → ∀ q, q < 41 → f_X10_weight (nI p) (nI q) 0 = some (nI (64 * pp_cp p q + 1)) := by decide +kernel
  exact key p (by omega) q (by omega)
theorem pp_wgt1 (a b : Int32) : f_X10_weight a b 1 = some (nI (64 * pp_cc a b + 1)) := by
  unfold f_X10_weight f_X10_weight_14 f_X10_weight_29 pp_cc
  have h : ¬ (1 : Int32) = 0 := by decide
  by_cases e : a = b
  · rw [if_pos e]
    split <;> rfl
  · rw [if_neg e]
    split <;> rfl
theorem pp_ttF2 {c : Nat → Nat → Nat} {w i j : Nat} (hcb : ∀ i j, c i j ≤ 40) (h : i + j ≤ 59) : pp_tt (pp_wy c w i j) ≤ 16777216 := by
  rcases Nat.lt_or_ge w (pp_ad i j) with h1 | h1
  · rw [pp_wO _ _ h1, pp_ttF]; omega
  · have := (pp_ttg (by omega) (pp_wG hcb i j (by omega) h1)).2
    omega
theorem pp_wFG {c : Nat → Nat → Nat} {w i j b : Nat} (hcb : ∀ i j, c i j ≤ 40) (h : i + j ≤ 59) (hb : i + j + 1 ≤ b) : pp_wy c w i j = pp_F ∨ pp_gd b (pp_wy c w i j) := by
  rcases Nat.lt_or_ge w (pp_ad i j) with h1 | h1
  · exact Or.inl (pp_wO _ _ h1)
  · exact Or.inr (pp_gdu (pp_wG hcb i j (by omega) h1) hb)
theorem pp_53s {k28 : Nat → Nat → Int32 → Int32 → Int32 → CS → Option (Int32 × CS)} {l1 l2 : Nat} {l4 : Int32} {c : Nat → Nat → Nat} {m w i j fu : Nat} {x : CS} {f : Nat → Int32} (h9 : l2 ≠ 9) (hl2 : x.1 l2 1 = nI m) (hm : m ≤ 24) (hi : i < 24) (hw0 : w ≤ 100) (hc : ∃ u v, f_X3_pitch l1 (nI i) (g_wa x 9 f) = some u ∧ f_X3_pitch l2 (nI j) (g_wa x 9 f) = some v ∧ f_X10_weight u v l4 = some (nI (64 * c i j + 1))) (hcb : ∀ i j, c i j ≤ 40) (hj : j < m) (hL : pp_LI c w m i j f) : f_X10_lightest_53 k28 (fu + 1) l1 l2 l4 (nI w) (nI i) (nI (pp_co c w i j)) (nI j) (g_wa x 9 f) = f_X10_lightest_53 k28 fu l1 l2 l4 (nI w) (nI i) (nI (pp_co c w i (j + 1))) (nI (j + 1)) (g_wa x 9 (upd f (j + 1) (nI (pp_tt (pp_wy c w i j))))) := by
  obtain ⟨u, v, hu, hv, hwt⟩ := hc
  have hab := hL.2.2 j hj (Nat.le_refl _)
  have hle : f j = nI (pp_tt (pp_lw c w i j)) := by
    cases j with
    | zero => exact hL.1
    | succ j' => exact hL.2.1 j' (by omega) (by omega)
  have e24 : ((25 : Int32) - (1 : Int32)) = nI 24 := by decide
  have hup : pp_tt (pp_up c w i j) ≤ 16777216 := by
    cases i with
    | zero => exact Nat.le_of_eq pp_ttF
    | succ i => exact pp_ttF2 hcb (by omega)
  have hlt : pp_tt (pp_lw c w i j) ≤ 16777216 := by
    cases j with
    | zero => exact Nat.le_of_eq pp_ttF
    | succ j => exact pp_ttF2 hcb (by omega)
  have hco : pp_co c w i j ≤ 16777216 := by
    cases j with
    | zero =>
      show (if i = 0 then 0 else pp_tt pp_F) ≤ _
      split
      · omega
      · exact Nat.le_of_eq pp_ttF
    | succ j =>
      show pp_tt (pp_up c w i j) ≤ _
      cases i with
      | zero => exact Nat.le_of_eq pp_ttF
      | succ i => exact pp_ttF2 hcb (by omega)
  rw [f_X10_lightest_53, pp_c4 h9, hl2, if_neg (nI_ge hj (by omega)), e24, if_neg (nI_ge (by omega) (by omega)), nI_1, if_pos ((pp_ok (by omega)).mpr (by omega)), if_pos ((pp_ok (by omega)).mpr (by omega)), nI_clamp (by omega), nI_clamp (by omega), pp_c3, hab, hle, pp_min (by omega) (by omega), pp_min (by omega) (by omega), pp_lit 16777216, pp_abs (by omega) (by omega)]
  have hout : ∀ l10, f_X10_lightest_128 k28 (f_X10_lightest_53 k28 fu) l1 l2 l4 (nI w) (nI i) (nI j) (nI (pp_tt (pp_up c w i j))) l10 (g_wa x 9 f) = f_X10_lightest_53 k28 fu l1 l2 l4 (nI w) (nI i) (nI (pp_co c w i (j + 1))) (nI (j + 1)) (g_wa x 9 (upd f (j + 1) (nI 16777216))) := by
    intro l10
    unfold f_X10_lightest_128 f_X10_lightest_129
    rw [if_pos rfl, nI_1, if_pos ((pp_ok (by omega)).mpr (by omega)), nI_clamp (by omega), pp_c1, pp_c2, pp_c3]
    rfl
  by_cases hw : pp_ad i j ≤ w
  · have key : ∃ a b, pp_wy c w i j = pp_ce c w i j a ∧ b ≤ 59 ∧ pp_gd b a ∧ min (pp_co c w i j) (min (pp_tt (pp_up c w i j)) (pp_tt (pp_lw c w i j))) = pp_tt a := by
      cases i with
      | zero =>
        cases j with
        | zero => exact ⟨0, 0, rfl, by omega, by unfold pp_gd; omega, by show min 0 _ = _; rw [Nat.zero_min]; rfl⟩
        | succ j =>
          refine ⟨pp_wy c w 0 j, j + 1, rfl, by omega, pp_gdu (pp_wG hcb 0 j (by omega) (by unfold pp_ad at *; omega)) (by omega), ?_⟩
          have := pp_ttF2 (c := c) (w := w) (i := 0) (j := j) hcb (by omega)
          show min (pp_tt pp_F) (min (pp_tt pp_F) (pp_tt (pp_wy c w 0 j))) = _
          rw [pp_ttF]
          omega
      | succ i =>
        cases j with
        | zero =>
          refine ⟨pp_wy c w i 0, i + 1, rfl, by omega, pp_gdu (pp_wG hcb i 0 (by omega) (by unfold pp_ad at *; omega)) (by omega), ?_⟩
          have := pp_ttF2 (c := c) (w := w) (i := i) (j := 0) hcb (by omega)
          show min (pp_tt pp_F) (min (pp_tt (pp_wy c w i 0)) (pp_tt pp_F)) = _
          rw [pp_ttF]
          omega
        | succ j =>
          have hd : pp_gd 58 (pp_wy c w i j) := pp_gdu (pp_wG hcb i j (by omega) (by unfold pp_ad at *; omega)) (by omega)
          have h1 := pp_wFG (c := c) (w := w) (i := i) (j := j + 1) (b := 58) hcb (by omega) (by omega)
          have h2 := pp_wFG (c := c) (w := w) (i := i + 1) (j := j) (b := 58) hcb (by omega) (by omega)
          have m1 := (pp_gdm (by omega) hd h1).2
          have m2 := pp_gdm (by omega) m1 h2
          have e : min (min (pp_wy c w i (j + 1)) (pp_wy c w (i + 1) j)) (pp_wy c w i j) = min (min (pp_wy c w i (j + 1)) (pp_wy c w i j)) (pp_wy c w (i + 1) j) := by omega
          refine ⟨_, 58, pp_w11, by omega, by rw [e]; exact m2.1, ?_⟩
          rw [e, pp_ttm (by omega) (Or.inr m1) h2, pp_ttm (by omega) h1 (Or.inr hd)]
          show min (pp_tt (pp_wy c w i j)) (min (pp_tt (pp_wy c w i (j + 1))) (pp_tt (pp_wy c w (i + 1) j))) = _
          omega
    obtain ⟨a, b, e1, hb, hg, e2⟩ := key
    have hlt2 := (pp_ttg (by omega) hg).2
    rw [e2, if_neg (nI_ge hlt2 (by omega)), if_neg (nI_nlt (by unfold pp_ad at hw; omega) (by omega))]
    unfold f_X10_lightest_129
    rw [if_neg (by decide), hu, pp_b, hv, pp_b, hwt, pp_b, nI_1, if_pos ((pp_ok (by omega)).mpr (by omega)), nI_clamp (by omega), pp_c1, pp_c2, pp_c3, nI_add, e1, pp_tts (hcb _ _) hw hb hg]
    rfl
  · rw [pp_wO i j (by omega), pp_ttF]
    split
    · exact hout _
    · rw [if_pos (nI_lt (by unfold pp_ad at hw; omega) (by omega))]
      exact hout _
theorem pp_53 {k28 : Nat → Nat → Int32 → Int32 → Int32 → CS → Option (Int32 × CS)} {l1 l2 : Nat} {l4 : Int32} {c : Nat → Nat → Nat} {m w i : Nat} {x : CS} (h9 : l2 ≠ 9) (hl2 : x.1 l2 1 = nI m) (hm : m ≤ 24) (hi : i < 24) (hw0 : w ≤ 100) (hc : ∀ f j, j < m → ∃ u v, f_X3_pitch l1 (nI i) (g_wa x 9 f) = some u ∧ f_X3_pitch l2 (nI j) (g_wa x 9 f) = some v ∧ f_X10_weight u v l4 = some (nI (64 * c i j + 1))) (hcb : ∀ i j, c i j ≤ 40) : ∀ d fuel j f, d = m - j → d < fuel → j ≤ m → pp_LI c w m i j f → ∃ f', pp_LI c w m (i + 1) 0 f' ∧ f_X10_lightest_53 k28 fuel l1 l2 l4 (nI w) (nI i) (nI (pp_co c w i j)) (nI j) (g_wa x 9 f) = k28 l1 l2 l4 (nI w) (nI (i + 1)) (g_wa x 9 f') := by
  intro d
  induction d with
  | zero =>
    intro fuel j f hd hfu hj hL
    obtain ⟨fu, rfl⟩ : ∃ fu, fuel = fu + 1 := ⟨fuel - 1, by omega⟩
    have e : j = m := by omega
    refine ⟨f, pp_LIn (e ▸ hL), ?_⟩
    rw [f_X10_lightest_53, pp_c4 h9, hl2, if_pos (nI_le (by omega) (by omega)), nI_1]
  | succ d ih =>
    intro fuel j f hd hfu hj hL
    obtain ⟨fu, rfl⟩ : ∃ fu, fuel = fu + 1 := ⟨fuel - 1, by omega⟩
    obtain ⟨f', h1, h2⟩ := ih fu (j + 1) _ (by omega) (by omega) (by omega) (pp_LIs hL rfl)
    exact ⟨f', h1, by rw [pp_53s h9 hl2 hm hi hw0 (hc f j (by omega)) hcb (by omega) hL, h2]⟩
theorem pp_28 {l1 l2 : Nat} {l4 : Int32} {c : Nat → Nat → Nat} {n m w : Nat} {x : CS} (h8 : l1 ≠ 9) (h9 : l2 ≠ 9) (hl1 : x.1 l1 1 = nI n) (hl2 : x.1 l2 1 = nI m) (hn0 : 0 < n) (hm0 : 0 < m) (hn : n ≤ 24) (hm : m ≤ 24) (hw0 : w ≤ 100) (hc : ∀ f i j, i < n → j < m → ∃ u v, f_X3_pitch l1 (nI i) (g_wa x 9 f) = some u ∧ f_X3_pitch l2 (nI j) (g_wa x 9 f) = some v ∧ f_X10_weight u v l4 = some (nI (64 * c i j + 1))) (hcb : ∀ i j, c i j ≤ 40) : ∀ d fuel i f, d = n - i → d < fuel → i ≤ n → pp_LI c w m i 0 f → ∃ f', f_X10_lightest_28 fuel l1 l2 l4 (nI w) (nI i) (g_wa x 9 f) = some (nI (pp_tt (pp_wy c w (n - 1) (m - 1))), g_wa x 9 f') := by
  intro d
  induction d with
  | zero =>
    intro fuel i f hd hfu hi hL
    obtain ⟨fu, rfl⟩ : ∃ fu, fuel = fu + 1 := ⟨fuel - 1, by omega⟩
    obtain ⟨n', rfl⟩ : ∃ n', n = n' + 1 := ⟨n - 1, by omega⟩
    have e : i = n' + 1 := by omega
    subst e
    obtain ⟨m', rfl⟩ : ∃ m', m = m' + 1 := ⟨m - 1, by omega⟩
    refine ⟨f, ?_⟩
    rw [f_X10_lightest_28, pp_c4 h8, hl1, if_pos (nI_le (by omega) (by omega)), pp_c4 h9, hl2, if_neg (nI_pos (by omega)), pp_lit 25, if_neg (nI_ge (by omega) (by omega)), if_pos ((pp_ok (by omega)).mpr (by omega)), nI_clamp (by omega), pp_c3, hL.2.2 m' (by omega) (by omega)]
    rfl
  | succ d ih =>
    intro fuel i f hd hfu hi hL
    obtain ⟨fu, rfl⟩ : ∃ fu, fuel = fu + 1 := ⟨fuel - 1, by omega⟩
    obtain ⟨f1, h1, h2⟩ := pp_53 (k28 := f_X10_lightest_28 fu) (l1 := l1) h9 hl2 hm (show i < 24 by omega) hw0 (fun f j hj => hc f i j (by omega) hj) hcb (m - 0) g_fuel 0 f rfl (by unfold g_fuel; omega) (by omega) hL
    obtain ⟨f', h3⟩ := ih fu (i + 1) f1 (by omega) (by omega) (by omega) h1
    refine ⟨f', ?_⟩
    rw [f_X10_lightest_28, pp_c4 h8, hl1, if_neg (nI_ge (by omega) (by omega))]
    have z : (0 : Int32) = nI 0 := rfl
    cases i with
    | zero =>
      rw [if_pos nI_0]
      exact h2.trans h3
    | succ i =>
      rw [if_neg (nI_ne0 (by omega) (by omega))]
      exact h2.trans h3
/-- a row of the class: n beats with pitches p -/
def pp_RC (x : CS) (t : Nat) (p : Nat → Nat) (n : Nat) : Prop := x.1 t 1 = nI n ∧ n ≤ 24 ∧ (∀ k, p k ≤ 40) ∧ ∀ k, k < n → x.1 (t + 1) k = nI (p k)
theorem pp_RC.e {x x1 : CS} {t : Nat} {p : Nat → Nat} {n : Nat} (h : pp_RC x t p n) (h1 : x1.1 t = x.1 t) (h2 : x1.1 (t + 1) = x.1 (t + 1)) : pp_RC x1 t p n := by
  refine ⟨?_, h.2.1, h.2.2.1, fun k hk => ?_⟩
  · rw [h1]; exact h.1
  · rw [h2]; exact h.2.2.2 k hk
theorem pp_lightC {x : CS} {l1 l2 : Nat} {l4 : Int32} {c : Nat → Nat → Nat} {n m g : Nat} (h8 : l1 ≠ 9) (h9 : l2 ≠ 9) (hl1 : x.1 l1 1 = nI n) (hl2 : x.1 l2 1 = nI m) (hn0 : 0 < n) (hm0 : 0 < m) (hn : n ≤ 24) (hm : m ≤ 24) (hg : g ≤ 20) (hc : ∀ f i j, i < n → j < m → ∃ u v, f_X3_pitch l1 (nI i) (g_wa x 9 f) = some u ∧ f_X3_pitch l2 (nI j) (g_wa x 9 f) = some v ∧ f_X10_weight u v l4 = some (nI (64 * c i j + 1))) (hcb : ∀ i j, c i j ≤ 40) : ∃ f', f_X10_lightest l1 l2 (nI g) l4 x = some (nI (pp_tt (pp_wy c (g + pp_ad n m) (n - 1) (m - 1))), g_wa x 9 f') := by
  have had : pp_ad n m ≤ 24 := by unfold pp_ad; omega
  have hL : pp_LI c (g + pp_ad n m) m 0 0 (g_fill (x.1 9) 25 16777216) := by
    have hv : ∀ k, k < 25 → g_fill (x.1 9) 25 16777216 k = nI (pp_tt pp_F) := fun k hk => by
      unfold g_fill
      rw [if_pos hk, pp_ttF]
      rfl
    exact ⟨hv 0 (by omega), fun k _ h => absurd h (Nat.not_lt_zero _), fun k hk _ => hv (k + 1) (by omega)⟩
  obtain ⟨f', h⟩ := pp_28 (l4 := l4) h8 h9 hl1 hl2 hn0 hm0 hn hm (show g + pp_ad n m ≤ 100 by omega) hc hcb (n - 0) g_fuel 0 _ rfl (by unfold g_fuel; omega) (by omega) hL
  refine ⟨f', ?_⟩
  unfold f_X10_lightest
  rw [hl1, hl2, pp_abs (by omega) (by omega), nI_add]
  exact h
theorem pp_lightC0 {x : CS} {l1 l2 : Nat} {n m g : Nat} {p q : Nat → Nat} (h1 : l1 ≠ 9) (h2 : l1 ≠ 8) (h3 : l2 ≠ 9) (h4 : l2 ≠ 8) (hA : pp_RC x l1 p n) (hB : pp_RC x l2 q m) (hn0 : 0 < n) (hm0 : 0 < m) (hg : g ≤ 20) : ∃ f', f_X10_lightest l1 l2 (nI g) 0 x = some (nI (pp_tt (pp_D g p n q m)), g_wa x 9 f') :=
  pp_lightC h1 h3 hA.1 hB.1 hn0 hm0 hA.2.1 hB.2.1 hg (fun f i j hi hj => by
    have hn := hA.2.1
    have hm := hB.2.1
    refine ⟨_, _, pp_pitC (by omega), pp_pitC (by omega), ?_⟩
    rw [pp_c4 (by omega), pp_c4 (by omega), hA.2.2.2 i hi, hB.2.2.2 j hj]
    exact pp_wgt0 (hA.2.2.1 i) (hB.2.2.1 j)) (fun i j => pp_cpB (hA.2.2.1 i) (hB.2.2.1 j))
theorem pp_distC {x : CS} {l1 l2 : Nat} {n m g : Nat} {p q : Nat → Nat} (h1 : l1 ≠ 9) (h2 : l1 ≠ 8) (h3 : l2 ≠ 9) (h4 : l2 ≠ 8) (hA : pp_RC x l1 p n) (hB : pp_RC x l2 q m) (hn0 : 0 < n) (hm0 : 0 < m) (hg : g ≤ 20) : ∃ f', f_X10_distance l1 l2 (nI g) x = some (nI (pp_D g p n q m / 100), g_wa x 9 f') := by
  obtain ⟨f, hf⟩ := pp_lightC0 h1 h2 h3 h4 hA hB hn0 hm0 hg
  have hG := pp_DG (g := g) hA.2.2.1 hB.2.2.1 hn0 hm0 hA.2.1 hB.2.1
  obtain ⟨e, l⟩ := pp_ttg (by omega) hG
  refine ⟨f, ?_⟩
  unfold f_X10_distance
  rw [hf, pp_b]
  show some (nI _ / nI 64, _) = _
  rw [pk_div (by omega) (by omega) (by omega), e]
  have : (64 * (pp_D g p n q m / 100) + pp_D g p n q m % 100) / 64 = pp_D g p n q m / 100 := by
    unfold pp_gd at hG
    omega
  rw [this]
theorem pp_stepsC {x : CS} {l1 l2 : Nat} {n m g : Nat} {p q : Nat → Nat} (h1 : l1 ≠ 9) (h2 : l1 ≠ 8) (h3 : l2 ≠ 9) (h4 : l2 ≠ 8) (hA : pp_RC x l1 p n) (hB : pp_RC x l2 q m) (hn0 : 0 < n) (hm0 : 0 < m) (hg : g ≤ 20) : ∃ f', f_X10_fewestSteps l1 l2 (nI g) x = some (nI (pp_D g p n q m % 100), g_wa x 9 f') := by
  obtain ⟨f, hf⟩ := pp_lightC0 h1 h2 h3 h4 hA hB hn0 hm0 hg
  have hG := pp_DG (g := g) hA.2.2.1 hB.2.2.1 hn0 hm0 hA.2.1 hB.2.1
  obtain ⟨e, l⟩ := pp_ttg (by omega) hG
  refine ⟨f, ?_⟩
  unfold f_X10_fewestSteps
  rw [hf, pp_b]
  show some (nI _ - nI _ / nI 64 * nI 64, _) = _
  rw [pk_rem (by omega) (by omega) (by omega), e]
  have : (64 * (pp_D g p n q m / 100) + pp_D g p n q m % 100) % 64 = pp_D g p n q m % 100 := by
    unfold pp_gd at hG
    omega
  rw [this]

