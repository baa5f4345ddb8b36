/-! line by line -/
def pp_lc (x : CS) : Option CS := if (x.2 162 5) = 0 then f_X2_readWord x else (if (x.2 162 5) = 7 then ((f_X2_step x).bind fun q16 => if kd (q16.2 162 1) = 7 then ((f_X2_readNumber (0 : Int32) (20 : Int32) q16).bind fun q18 => some (g_wi q18.2 (q16.2 162 1) 6 q18.1)) else none) else (if (x.2 162 5) = 8 then ((f_X2_step x).bind fun q13 => if kd (q13.2 162 1) = 7 then ((f_X2_readNumber (0 : Int32) (99 : Int32) q13).bind fun q15 => some (g_wi q15.2 (q13.2 162 1) 7 q15.1)) else none) else f_X2_readRule x))
theorem pp_lcE {f : Nat} {i : Int32} {x : CS} (h1 : ¬ (400 : Int32) ≤ i) (h2 : ¬ x.1 162 8 = 1) (h3 : ¬ x.2 162 5 = 44) : f_X2_readLanguage_20 (f + 1) i x = (pp_lc x).bind fun q => f_X2_readLanguage_128 (f_X2_readLanguage_20 f) i q := by
  rw [f_X2_readLanguage_20, if_neg h1, if_neg h2, if_neg h3]
  unfold pp_lc
  by_cases e0 : x.2 162 5 = 0
  · rw [if_pos e0, if_pos e0]
  · rw [if_neg e0, if_neg e0]
    by_cases e7 : x.2 162 5 = 7
    · rw [if_pos e7, if_pos e7]
      cases f_X2_step x with
      | none => rfl
      | some q =>
        simp only [Option.bind_some]
        by_cases hk : kd (q.2 162 1) = 7
        · simp only [if_pos hk]
          cases f_X2_readNumber (0 : Int32) (20 : Int32) q with
          | none => rfl
          | some q => rfl
        · simp only [if_neg hk]; rfl
    · rw [if_neg e7, if_neg e7]
      by_cases e8 : x.2 162 5 = 8
      · rw [if_pos e8, if_pos e8]
        cases f_X2_step x with
        | none => rfl
        | some q =>
          simp only [Option.bind_some]
          by_cases hk : kd (q.2 162 1) = 7
          · simp only [if_pos hk]
            cases f_X2_readNumber (0 : Int32) (99 : Int32) q with
            | none => rfl
            | some q => rfl
          · simp only [if_neg hk]; rfl
      · rw [if_neg e8, if_neg e8]
section LL
variable {b v n : Nat} {x0 xs : CS} {y0 ys : MS} {t : Nat → Nat} {T : Nat}
/-- band, near -/
theorem pp_LK.nm {k j i : Nat} {x : CS} {y : MS} {u u' : Int32} (h : pp_LK b v n 0 0 x0 xs y0 ys k x y) (hb : b = 20 ∨ b = 70) (hv : v = 41 ∨ v = 91) (hj : (j = 6 ∧ i = 0) ∨ (j = 7 ∧ i = 1)) (hu : x.1 162 8 = 0 → u = u' ∧ ∃ g, u = nI g ∧ (j = 6 → g ≤ 20) ∧ (j = 7 → g ≤ 99)) : pp_LK b v n 0 0 x0 xs y0 ys k (g_wi x b j u) (g_mi y 139 i u') := by
  have xi : ∀ l, l ≠ b → (g_wi x b j u).1 l = x.1 l := fun l hl => by rw [pp_c1, pp_c4 hl]
  have xj : ∀ l, l ≠ j → (g_wi x b j u).1 b l = x.1 b l := fun l hl => by rw [pp_c1, pp_c3, pp_u2 hl]
  have xu : (g_wi x b j u).1 b j = u := by rw [pp_c1, pp_c3, pp_u1]
  have yi : ∀ l, l ≠ 139 → (g_mi y 139 i u') l = y l := fun l hl => by rw [pp_g1, pp_g4 hl]
  have yj : ∀ l, l ≠ i → (g_mi y 139 i u') 139 l = y 139 l := fun l hl => by rw [pp_g1, pp_g3, pp_u2 hl]
  have yu : (g_mi y 139 i u') 139 i = u' := by rw [pp_g1, pp_g3, pp_u1]
  obtain ⟨hK, hf, ⟨⟨p1, p2, p3⟩, ⟨u1, u2, u3⟩, ⟨u7, u8, u9⟩, ⟨z1, z2, z3⟩, ⟨w1, w2, w3, w4⟩⟩, hD⟩ := h
  refine ⟨hK.sf (xi 162 (by omega)) rfl rfl (xi 5 (by omega)) (xi 7 (by omega)) (yi 120 (by omega)) (fun l _ _ => yi l (by omega)), hf.tr ⟨fun l _ _ c d => xi l (by omega), fun _ _ _ => rfl, fun _ _ => rfl, fun l _ => by rw [xi v (by omega)], fun l _ _ c => yi l (by omega), fun l _ => by rw [yi 120 (by omega)]⟩, ⟨⟨p1, p2, by rw [xi v (by omega)]; exact p3⟩, ⟨u1, u2, by rw [xj 4 (by omega)]; exact u3⟩, ⟨u7, u8, by rw [yj 5 (by omega)]; exact u9⟩, ⟨z1, z2, by rw [yj 12 (by omega)]; exact z3⟩, w1, w2, by rw [yj 2 (by omega)]; exact w3, fun l hl hl2 => by rw [yi 126 (by omega)]; exact w4 l hl hl2⟩, fun r => ?_⟩
  rw [xi 162 (by omega)] at r
  obtain ⟨W, c1, c2, c3, c4, c5, ⟨R, Z, c6, c7, c8⟩, ⟨g, c9, e1, e2⟩, m, e3, e4, e5⟩ := hD r
  obtain ⟨r1, gu, r2, r3, r4⟩ := hu r
  subst r1
  refine ⟨W, c1, by rw [xi v (by omega)]; exact c2, by rw [yj 2 (by omega)]; exact c3, fun l hl => by rw [yi 126 (by omega), xi 163 (by omega)]; exact c4 l hl, fun l hl => (c5 l hl).ee (fun q => q) (fun i i1 i2 => xi i (by unfold pp_wd at i1 i2; omega)) (by rw [yi 140 (by omega)]) (fun i _ _ => by rw [yi 141 (by omega)]), ⟨R, Z, c6, c7, c8.ee c6 (Nat.le_refl _) (fun i _ _ => xi i (by omega)) ⟨xj 4 (by omega), xj 5 (by omega)⟩ (fun _ _ _ => rfl) (fun i _ _ => yi i (by omega)) ⟨yj 5 (by omega), yj 12 (by omega)⟩⟩, ?_, ?_⟩
  · rcases hj with ⟨rfl, rfl⟩ | ⟨rfl, rfl⟩
    · exact ⟨gu, r3 rfl, xu.trans r2, yu.trans r2⟩
    · exact ⟨g, c9, (xj 6 (by omega)).trans e1, (yj 0 (by omega)).trans e2⟩
  · rcases hj with ⟨rfl, rfl⟩ | ⟨rfl, rfl⟩
    · exact ⟨m, e3, (xj 7 (by omega)).trans e4, (yj 1 (by omega)).trans e5⟩
    · exact ⟨gu, r4 rfl, xu.trans r2, yu.trans r2⟩
theorem pp_nml {k j i : Nat} {x : CS} {y : MS} {hi : Int32} (h : pp_LK b v n 0 0 x0 xs y0 ys k x y) (hb : b = 20 ∨ b = 70) (hv : v = 41 ∨ v = 91) (hF : pp_TF x0 y0 t T n) (r1 : xs.2 162 1 = b) (hs : x0.2 4 k < 40) (hj : (j = 6 ∧ i = 0 ∧ hi = 20) ∨ (j = 7 ∧ i = 1 ∧ hi = 99)) : ∃ x1 y1, ((f_X2_step x).bind fun q16 => if kd (q16.2 162 1) = 7 then ((f_X2_readNumber (0 : Int32) hi q16).bind fun q18 => some (g_wi q18.2 (q16.2 162 1) j q18.1)) else none) = some x1 ∧ ((f_X15_numberIn (0 : Int32) hi (g_mi y 120 8 (y 120 8 + 1))).bind fun q17 => some (g_mi q17.2 139 i q17.1)) = some y1 ∧ ((∃ k1, k < k1 ∧ pp_LK b v n 0 0 x0 xs y0 ys k1 x1 y1) ∨ pp_LQ b v n x0 xs y0 ys x1 y1) := by
  obtain ⟨s1, s2, s3, s4, s5⟩ := pp_kst hF h.1 (by omega) (by omega)
  have hL := h.sf hb hv (show k ≤ k + 1 by omega) s2 s3 (fun r => by rw [s4] at r; exact r)
  have hr : (pp_sx x (k + 1)).2 162 1 = b := (hL.2.1.2.2.1 1 (by omega)).trans r1
  obtain ⟨x2, y2, qc, qm, n1, n2, n3, n4⟩ := pp_num (lo := 0) (hc := hi) (hm := hi) hF s2 (fun _ => rfl)
  rw [s1, pp_b, hr, if_pos (pp_k7 hb), n1, pp_b, n2, pp_b]
  rcases n4 with ⟨n5, n6, n7⟩ | ⟨hq, n8⟩
  · have hL2 := hL.sf hb hv (show k + 1 ≤ k + 1 + 1 by omega) n6 n3 (fun r => (n7 r).1)
    refine ⟨_, _, rfl, rfl, Or.inl ⟨k + 1 + 1, by omega, hL2.nm hb hv (by omega) (fun r => ?_)⟩⟩
    obtain ⟨m1, m2, m3, m4⟩ := n7 r
    obtain ⟨g, g1, g2⟩ := nI_of (x := qc) m3
    refine ⟨m2, g, g2, fun q => ?_, fun q => ?_⟩
    · rcases hj with ⟨_, _, e⟩ | ⟨_, _, e⟩
      · rcases Nat.lt_or_ge 20 g with u | u
        · exact absurd (show hi < qc by rw [e, g2]; exact nI_lt (a := 20) u g1) m4
        · exact u
      · omega
    · rcases hj with ⟨_, _, e⟩ | ⟨_, _, e⟩
      · omega
      · rcases Nat.lt_or_ge 99 g with u | u
        · exact absurd (show hi < qc by rw [e, g2]; exact nI_lt (a := 99) u g1) m4
        · exact u
  · refine ⟨_, _, rfl, rfl, Or.inr ⟨hq.sf (by rw [pp_c1, pp_c4 (by omega)]) rfl (by rw [pp_c1, pp_c4 (by omega)]) (by rw [pp_c1, pp_c4 (by omega)]) (by rw [pp_g1, pp_g4 (by omega)]) (fun l _ _ => by rw [pp_g1, pp_g4 (by omega)]), (hL.2.1.tr (pp_FL.sf hv n3)).tr ⟨fun l _ _ c d => by rw [pp_c1, pp_c4 (by omega)], fun _ _ _ => rfl, fun _ _ => rfl, fun l _ => by rw [pp_c1, pp_c4 (by omega)], fun l _ _ c => by rw [pp_g1, pp_g4 (by omega)], fun l _ => by rw [pp_g1, pp_g4 (by omega)]⟩⟩⟩
/-- a line -/
theorem pp_lin {k : Nat} {x : CS} {y : MS} (h : pp_LK b v n 0 0 x0 xs y0 ys k x y) (hb : b = 20 ∨ b = 70) (hv : v = 41 ∨ v = 91) (hF : pp_TF x0 y0 t T n) (hMT : pp_MT y0 t T) (r1 : xs.2 162 1 = b) (r2 : xs.2 162 2 = v) : ∃ x1 y1, pp_lc x = some x1 ∧ f_X15_line y = some y1 ∧ ((∃ k1, k < k1 ∧ pp_LK b v n 0 0 x0 xs y0 ys k1 x1 y1) ∨ pp_LQ b v n x0 xs y0 ys x1 y1) := by
  obtain ⟨-, -, -, k4, -⟩ := pp_Kk h.1
  have t0 : f_X15_takes 0 y = _ := pp_ktk (s := 0) hF h.1 (by omega)
  have t7 : f_X15_takes 7 y = _ := pp_ktk (s := 7) hF h.1 (by omega)
  have t8 : f_X15_takes 8 y = _ := pp_ktk (s := 8) hF h.1 (by omega)
  have i9 : f_X15_is 9 y = some (pp_i (decide (x0.2 4 k = 9))) := pp_kis (s := 9) hF h.1 (by omega)
  have i10 : f_X15_is 10 y = some (pp_i (decide (x0.2 4 k = 10))) := pp_kis (s := 10) hF h.1 (by omega)
  have i11 : f_X15_is 11 y = some (pp_i (decide (x0.2 4 k = 11))) := pp_kis (s := 11) hF h.1 (by omega)
  unfold pp_lc f_X15_line
  rw [k4, t0]
  by_cases e0 : x0.2 4 k = 0
  · rw [if_pos e0, if_pos e0, pp_b, if_neg (show ¬ (1 : Int32) = 0 by decide)]
    obtain ⟨x1, y1, g1, g2, g3⟩ := pp_wln h hb hv hF hMT r1 r2 e0
    exact ⟨x1, y1, g1, by rw [g2]; rfl, g3⟩
  rw [if_neg e0, if_neg e0, pp_b, if_pos rfl]
  show ∃ x1 y1, _ ∧ Option.bind (f_X15_takes 7 y) _ = _ ∧ _
  rw [t7]
  by_cases e7 : x0.2 4 k = 7
  · rw [if_pos e7, if_pos e7, pp_b, if_neg (show ¬ (1 : Int32) = 0 by decide)]
    exact pp_nml h hb hv hF r1 (by omega) (Or.inl ⟨rfl, rfl, rfl⟩)
  rw [if_neg e7, if_neg e7, pp_b, if_pos rfl]
  show ∃ x1 y1, _ ∧ Option.bind (f_X15_takes 8 y) _ = _ ∧ _
  rw [t8]
  by_cases e8 : x0.2 4 k = 8
  · rw [if_pos e8, if_pos e8, pp_b, if_neg (show ¬ (1 : Int32) = 0 by decide)]
    exact pp_nml h hb hv hF r1 (by omega) (Or.inr ⟨rfl, rfl, rfl⟩)
  rw [if_neg e8, if_neg e8, pp_b, if_pos rfl]
  show ∃ x1 y1, _ ∧ Option.bind (f_X15_is 9 y) _ = _ ∧ _
  rw [i9, pp_b, pp_if1, i10, pp_b, pp_if1, i11, pp_b, pp_if1]
  by_cases e9 : x0.2 4 k = 9
  · rw [if_pos (decide_eq_true e9)]
    obtain ⟨x1, y1, g1, g2, g3⟩ := pp_rln h hb hv hF hMT r1 r2 e9 (Or.inl rfl)
    have g2' : f_X15_rule 0 y = some y1 := g2
    exact ⟨x1, y1, g1, by show (f_X15_rule 0 y).bind _ = _; rw [g2']; rfl, g3⟩
  rw [if_neg (show ¬ decide (x0.2 4 k = 9) = true by rw [decide_eq_false e9]; decide)]
  by_cases e10 : x0.2 4 k = 10
  · rw [if_pos (decide_eq_true e10)]
    obtain ⟨x1, y1, g1, g2, g3⟩ := pp_rln h hb hv hF hMT r1 r2 e10 (Or.inr (Or.inl rfl))
    have g2' : f_X15_rule 1 y = some y1 := g2
    exact ⟨x1, y1, g1, by show (f_X15_rule 1 y).bind _ = _; rw [g2']; rfl, g3⟩
  rw [if_neg (show ¬ decide (x0.2 4 k = 10) = true by rw [decide_eq_false e10]; decide)]
  by_cases e11 : x0.2 4 k = 11
  · rw [if_pos (decide_eq_true e11)]
    obtain ⟨x1, y1, g1, g2, g3⟩ := pp_rln h hb hv hF hMT r1 r2 e11 (Or.inr (Or.inr rfl))
    have g2' : f_X15_rule 2 y = some y1 := g2
    exact ⟨x1, y1, g1, by show (f_X15_rule 2 y).bind _ = _; rw [g2']; rfl, g3⟩
  rw [if_neg (show ¬ decide (x0.2 4 k = 11) = true by rw [decide_eq_false e11]; decide)]
  obtain ⟨d1, d2, d3, d4⟩ := pp_krf h.1
  refine ⟨_, _, ?_, ?_, Or.inr ⟨d3, h.2.1.tr (pp_FL.sf hv d4)⟩⟩
  · unfold f_X2_readRule
    rw [k4, if_neg e9, if_neg e10, if_neg e11, d1]; rfl
  · show (f_X15_wrong y).bind _ = _
    rw [d2]; rfl
/-- all lines, up to the end or to a wrong token -/
theorem pp_lng (hb : b = 20 ∨ b = 70) (hv : v = 41 ∨ v = 91) (hF : pp_TF x0 y0 t T n) (hMT : pp_MT y0 t T) (r1 : xs.2 162 1 = b) (r2 : xs.2 162 2 = v) : ∀ m fc fm i k x y, m = n - k → m + 1 < fc → m + 1 < fm → 2 * i ≤ k → pp_LK b v n 0 0 x0 xs y0 ys k x y → ∃ x1 y1, f_X2_readLanguage_20 fc (nI i) x = some x1 ∧ f_X15_teach_36 fm y = f_X15_teach_70 y1 ∧ ((∃ k1, pp_LK b v n 0 0 x0 xs y0 ys k1 x1 y1) ∨ pp_LQ b v n x0 xs y0 ys x1 y1) := by
  intro m
  induction m using Nat.strongRecOn with
  | ind m ih =>
    intro fc fm i k x y hm hfc hfm hik h
    obtain ⟨f, rfl⟩ : ∃ f, fc = f + 1 := ⟨fc - 1, by omega⟩
    obtain ⟨g, rfl⟩ : ∃ g, fm = g + 1 := ⟨fm - 1, by omega⟩
    have hn := hF.1
    obtain ⟨k1, k2, k3, k4, k5, k6, k7⟩ := pp_Kk h.1
    have h46 := pp_sg46 hF k1
    have h400 : ¬ (400 : Int32) ≤ nI i := nI_ge (b := 400) (by omega) (by omega)
    have hok := (pp_ok (k := k) (n := 402) (by omega)).mpr (by omega)
    rw [f_X15_teach_36, k3, if_pos rfl, k2, if_pos hok, nI_clamp (by omega), k6, h46.2]
    by_cases e : x0.2 4 k = 44
    · rw [if_pos (by rw [e]; rfl)]
      refine ⟨x, y, ?_, rfl, Or.inl ⟨k, h⟩⟩
      rw [f_X2_readLanguage_20, if_neg h400, if_neg (pp_K1 h.1), if_pos (by rw [k4]; exact e)]
    · have e33 : ¬ nI (pp_tr (x0.2 4 k)) = 33 := fun q => by
        have q2 := (nI_eq (a := pp_tr (x0.2 4 k)) (b := pp_tr 44) (by have := pp_tr61 _ h46.1; omega) (by decide)).mp q
        exact e (pp_trI _ h46.1 44 (by omega) q2)
      rw [if_neg e33, pp_lcE h400 (pp_K1 h.1) (by rw [k4]; exact e)]
      obtain ⟨x1, y1, g1, g2, g3⟩ := pp_lin h hb hv hF hMT r1 r2
      rw [g1, pp_b, g2, pp_b]
      unfold f_X2_readLanguage_128
      -- the end of a wrong text
      have hQ : ∀ (x2 : CS) (y2 : MS), pp_LQ b v n x0 xs y0 ys x2 y2 → ∃ x3 y3, f_X2_readLanguage_20 f (nI i + 1) x2 = some x3 ∧ f_X15_teach_36 g y2 = f_X15_teach_70 y3 ∧ ((∃ k1, pp_LK b v n 0 0 x0 xs y0 ys k1 x3 y3) ∨ pp_LQ b v n x0 xs y0 ys x3 y3) := by
        intro x2 y2 hq
        obtain ⟨q1, q2, q3, -⟩ := pp_Qr hq.1
        obtain ⟨f', rfl⟩ : ∃ f', f = f' + 1 := ⟨f - 1, by omega⟩
        obtain ⟨g', rfl⟩ : ∃ g', g = g' + 1 := ⟨g - 1, by omega⟩
        refine ⟨x2, y2, ?_, ?_, Or.inr hq⟩
        · rw [f_X2_readLanguage_20, nI_1, if_neg (show ¬ (400 : Int32) ≤ nI (i + 1) from nI_ge (b := 400) (by omega) (by omega)), if_pos q2]
        · rw [f_X15_teach_36, q3, if_neg (by decide)]
      rcases g3 with ⟨k8, g4, g5⟩ | hq
      · obtain ⟨x2, y2, e1, e2, e3, e4⟩ := pp_kex (s := 30) hF g5.1 (by omega)
        have e2' : f_X15_take 53 y1 = some y2 := e2
        rw [e1, pp_b, e2', pp_b]
        rcases e4 with ⟨e5, e6, e7, e8⟩ | hq
        · have hL2 := g5.sf hb hv (show k8 ≤ k8 + 1 by omega) e7 e3 (fun r => by rw [e8] at r; exact r)
          rw [nI_1]
          exact ih (n - (k8 + 1)) (by omega) f g (i + 1) (k8 + 1) x2 y2 rfl (by omega) (by omega) (by omega) hL2
        · exact hQ x2 y2 ⟨hq, g5.2.1.tr (pp_FL.sf hv e3)⟩
      · obtain ⟨e1, e2⟩ := pp_kexQ (s := 30) (a := 53) hq.1 (by decide)
        rw [e1, pp_b, e2, pp_b]
        exact hQ x1 y1 hq
end LL
