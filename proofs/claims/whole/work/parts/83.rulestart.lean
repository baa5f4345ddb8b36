/-! a rule from its first word on -/
section RS
variable {b v n W R Za : Nat} {x0 xs xa : CS} {y0 ys ya : MS} {t : Nat → Nat} {T : Nat}
/-- is there room for one more rule? -/
theorem pp_rl0 {k : Nat} {x : CS} {y : MS} {p : Int32} (h : pp_LK b v n 0 0 x0 xs y0 ys k x y) (hb : b = 20 ∨ b = 70) (hv : v = 41 ∨ v = 91) (r1 : xs.2 162 1 = b) : ∃ x1 y1 R, f_X2_readRule_35 x = f_X2_readRule_52 x1 ∧ f_X15_rule p y = f_X15_rule_24 p (nI R) y1 ∧ pp_LK b v n 0 0 x0 xs y0 ys k x1 y1 ∧ R ≤ 16 ∧ y1 139 5 = nI R ∧ (x1.1 162 8 = 0 → R < 16) := by
  obtain ⟨hK, hf, ⟨-, ⟨u, u1, u2⟩, ⟨R, u8, u9⟩, -⟩, hD⟩ := id h
  have hr : x.2 162 1 = b := (hf.2.2.1 1 (by omega)).trans r1
  have hmin : g_min (16 : Int32) (nI R) = nI R := by
    rw [show (16 : Int32) = nI 16 from rfl, pp_min (by omega) (by omega), Nat.min_eq_right u8]
  have hC : f_X2_readRule_35 x = (if nI u < (16 : Int32) then f_X2_readRule_52 x else (f_X2_blame (4 : Int32) x).bind fun q7 => f_X2_readRule_52 q7) := by
    unfold f_X2_readRule_35
    rw [hr, if_pos (pp_k7 hb), u2]
  have hM : f_X15_rule p y = (if nI R = (16 : Int32) then (f_X15_mark (4 : Int32) y).bind fun q2 => f_X15_rule_24 p (nI R) q2 else f_X15_rule_24 p (nI R) y) := by
    unfold f_X15_rule
    rw [u9, hmin]
  rw [hC, hM]
  have e16 : nI R = (16 : Int32) ↔ R = 16 := nI_eq (b := 16) (by omega) (by omega)
  have l16 : nI u < (16 : Int32) ↔ u < 16 := nI_ltI (b := 16) (by omega) (by omega)
  by_cases h0 : x.1 162 8 = 0
  · obtain ⟨W, -, -, -, -, -, ⟨R', Z, c6, c7, d1, d2, -⟩, -⟩ := hD h0
    have eR : R' = R := (nI_eq (by omega) (by omega)).mp (d2.symm.trans u9)
    have eu : u = R' := (nI_eq (by omega) (by omega)).mp (u2.symm.trans d1)
    subst eR
    subst eu
    rcases Nat.lt_or_ge u 16 with q | q
    · exact ⟨x, y, u, by rw [if_pos (l16.mpr q)], by rw [if_neg (fun r => by have := e16.mp r; omega)], h, u8, u9, fun _ => q⟩
    · obtain ⟨x1, y1, b1, b2, b3, b4, b5⟩ := pp_kbl (e := 4) hK (by omega)
      exact ⟨x1, y1, u, by rw [if_neg (fun r => by have := l16.mp r; omega), show (4 : Int32) = nI 4 from rfl, b1]; rfl, by rw [if_pos (e16.mpr (by omega)), show (4 : Int32) = nI 4 from rfl, b2]; rfl, h.sf hb hv (Nat.le_refl _) b4 b3 (fun r => absurd r b5), u8, by rw [b3.2.2.2.1 139 (by omega)]; exact u9, fun r => absurd r b5⟩
  · obtain ⟨b1, b2⟩ := pp_kb0 (e := 4) hK h0
    refine ⟨x, y, R, ?_, ?_, h, u8, u9, fun r => absurd r h0⟩
    · split
      · rfl
      · rw [b1]; rfl
    · split
      · rw [b2]; rfl
      · rfl
/-- by how much -/
theorem pp_t1W {ka l1 : Nat} {l2 l3 : Int32} {x : CS} {y : MS} (h : pp_SW b v n W R x0 xa y0 ya t T x y) (hL : pp_LK b v n 0 0 x0 xs y0 ys ka xa ya) (hR : R ≤ 16) : ∃ x1 y1, ((f_X2_expect 12 x).bind fun q12 => (f_X2_readSum (f_X2_readValue 12) (0 : Int32) q12).bind fun q13 => f_X2_readRule_93 l1 l2 l3 q13) = some x1 ∧ ((f_X15_take (12 : Int32) y).bind fun q8 => (f_X15_sum (f_X15_value 12) q8).bind fun q9 => if g_ok (nI R) 17 = true then (f_X15_rule_97 (nI R) (g_mi q9.2 146 R q9.1)) else none) = some y1 ∧ pp_LQ b v n x0 xs y0 ys x1 y1 := by
  obtain ⟨q1, q2, q3, q4, q5⟩ := pp_PWr h.1 h.2.1
  have hok := (pp_ok (k := R) (n := 17) (by omega)).mpr (by omega)
  obtain ⟨s1, s2⟩ := pp_sumVW (f := 11) (p := 0) h.1 h.2.1
  obtain ⟨X2, P2⟩ := pp_reW h.1 h.2.1 (y1 := g_mi y 146 R 0) (fun i hi => by rw [pp_g1, pp_g4 (by omega)])
  rw [pp_expW q4 q3 (by decide), pp_takeW q5, pp_b, pp_b, s1, pp_b, s2, pp_b, if_pos hok]
  exact pp_t2W (W := W) (t := t) (T := T) ⟨X2, P2, h.2.2.tr (pp_FR.wr (by omega) (by omega))⟩ hL hR
theorem pp_t1O {k ka : Nat} {l2 : Int32} {x : CS} {y : MS} (h : pp_ST b v n W R Za x0 xa y0 ya t T k x y) (hL : pp_LK b v n 0 0 x0 xs y0 ys ka xa ya) (hR5 : ya 139 5 = nI R) (hZ : xa.1 162 8 = 0 → R < 16 ∧ xa.1 b 5 = nI Za ∧ Za ≤ 400 ∧ pp_LD b v n W 0 0 x0 xa ya) (hR : R ≤ 16) (hN : x.1 162 8 = 0 → ∃ w s, w < W ∧ x.1 b 5 = nI s ∧ s ≤ 400 ∧ l2 = nI w ∧ y 143 R = nI w ∧ y 144 R = nI s ∧ y 142 R = 2) : ∃ x1 y1, ((f_X2_expect 12 x).bind fun q12 => (f_X2_readSum (f_X2_readValue 12) (0 : Int32) q12).bind fun q13 => f_X2_readRule_93 11 l2 (x.1 b 5) q13) = some x1 ∧ ((f_X15_take (12 : Int32) y).bind fun q8 => (f_X15_sum (f_X15_value 12) q8).bind fun q9 => if g_ok (nI R) 17 = true then (f_X15_rule_97 (nI R) (g_mi q9.2 146 R q9.1)) else none) = some y1 ∧ ((∃ k1, k ≤ k1 ∧ pp_LK b v n 0 0 x0 xs y0 ys k1 x1 y1) ∨ pp_LQ b v n x0 xs y0 ys x1 y1) := by
  obtain ⟨hX, hP, hFR, hD⟩ := id h
  obtain ⟨hb, hv, -⟩ := id hX
  have hok := (pp_ok (k := R) (n := 17) (by omega)).mpr (by omega)
  obtain ⟨x2, y2, e1, e2, e3⟩ := pp_exp (s := 12) hX hP (by omega)
  have e2' : f_X15_take 12 y = some y2 := e2
  rcases e3 with ⟨e4, e5, e6, e7⟩ | hw
  · obtain ⟨x3, r, y3, t1, t2, t3⟩ := pp_sum hX (pp_prd hX (pp_val hX 12 0 (by omega) (by omega))) _ _ _ _ e5
    have t1' : f_X2_readSum (f_X2_readValue 12) 0 x2 = some x3 := t1
    rw [e1, pp_b, e2', pp_b, t1', pp_b, t2, pp_b, if_pos hok]
    have yo : ∀ i, (i < 142 ∨ 147 < i) → (g_mi y3 146 R r) i = y3 i := fun i hi => by rw [pp_g1, pp_g4 (by omega)]
    rcases t3 with ⟨k2, t4, t5, t6⟩ | hw
    · have hE := t5.2.2.1
      obtain ⟨X2, P2⟩ := pp_re hX t5 yo
      have hST : pp_ST b v n W R Za x0 xa y0 ya t T k2 x3 (g_mi y3 146 R r) := by
        refine ⟨X2, P2, (hFR.tr (pp_FR.fe hE)).tr (pp_FR.wr (by omega) (by omega)), fun q => ?_⟩
        obtain ⟨v1, Z, Z1, v2, v3, v4, v5, v6, v7, v8⟩ := t6 q
        rw [e6] at v1
        obtain ⟨d1, Zc, d2, d3, d4, d5⟩ := hD v1
        have v61 := v6.1
        have eZ : Z = Zc := (nI_eq (by omega) (by omega)).mp (v2.symm.trans (e7.1.trans d4))
        subst eZ
        exact ⟨d1, Z1, by omega, v4, v3, fun i hi => by rw [v5 i (by omega), e7.2]; exact d5 i hi⟩
      obtain ⟨x4, y4, g1, g2, g3⟩ := pp_t2O (l1 := 11) (l2 := l2) (l3 := x.1 b 5) hST hL hR5 hZ hR (fun q => by
        obtain ⟨v1, Z, Z1, v2, v3, v4, v5, v6, v7, v8⟩ := t6 q
        rw [e6] at v1
        obtain ⟨w, s, f1, f2, f3, f4, f5, f6, f7⟩ := hN v1
        have v61 := v6.1
        have eZ : Z = s := (nI_eq (by omega) (by omega)).mp (v2.symm.trans (e7.1.trans f2))
        subst eZ
        have ye : ∀ i, 142 ≤ i → i ≤ 147 → y3 i = y i := fun i i1 i2 => hE.2.2.2.2.1 i (by omega) (by omega) (by omega) (by omega) (by omega)
        refine ⟨w, Z, Z1, f1, by omega, v3, v4, v6.2.1, Or.inr v6, f4, f2, ?_, ?_, Or.inl ⟨rfl, ?_, v6, ?_⟩⟩
        · rw [pp_g1, pp_g4 (by omega), ye 143 (by omega) (by omega)]; exact f5
        · rw [pp_g1, pp_g4 (by omega), ye 144 (by omega) (by omega)]; exact f6
        · rw [pp_g1, pp_g4 (by omega), ye 142 (by omega) (by omega)]; exact f7
        · rw [pp_g1, pp_g3, pp_u1]; exact v7)
      refine ⟨x4, y4, g1, g2, ?_⟩
      rcases g3 with ⟨k3, g4, g5⟩ | hq
      · exact Or.inl ⟨k3, by omega, g5⟩
      · exact Or.inr hq
    · have hE := hw.2.1
      obtain ⟨X2, P2⟩ := pp_reW hX hw yo
      obtain ⟨x4, y4, g1, g2, g3⟩ := pp_t2W (l1 := 11) (l2 := l2) (l3 := x.1 b 5) (W := W) (t := t) (T := T) ⟨X2, P2, (hFR.tr (pp_FR.fe hE)).tr (pp_FR.wr (by omega) (by omega))⟩ hL hR
      exact ⟨x4, y4, g1, g2, Or.inr g3⟩
  · have hE := hw.2.1
    obtain ⟨q1, q2, q3, q4, q5⟩ := pp_PWr hX hw
    obtain ⟨s1, s2⟩ := pp_sumVW (f := 11) (p := 0) hX hw
    obtain ⟨X2, P2⟩ := pp_reW hX hw (y1 := g_mi y2 146 R 0) (fun i hi => by rw [pp_g1, pp_g4 (by omega)])
    rw [e1, pp_b, e2', pp_b, s1, pp_b, s2, pp_b, if_pos hok]
    obtain ⟨x4, y4, g1, g2, g3⟩ := pp_t2W (l1 := 11) (l2 := l2) (l3 := x.1 b 5) (W := W) (t := t) (T := T) ⟨X2, P2, (hFR.tr (pp_FR.fe hE)).tr (pp_FR.wr (by omega) (by omega))⟩ hL hR
    exact ⟨x4, y4, g1, g2, Or.inr g3⟩
/-- prune, keep, shift -/
theorem pp_rln {k s : Nat} {x : CS} {y : MS} (h : pp_LK b v n 0 0 x0 xs y0 ys k x y) (hb : b = 20 ∨ b = 70) (hv : v = 41 ∨ v = 91) (hF : pp_TF x0 y0 t T n) (hMT : pp_MT y0 t T) (r1 : xs.2 162 1 = b) (r2 : xs.2 162 2 = v) (hs : x0.2 4 k = s) (hs2 : s = 9 ∨ s = 10 ∨ s = 11) : ∃ x1 y1, f_X2_readRule x = some x1 ∧ f_X15_rule (nI (s - 9)) y = some y1 ∧ ((∃ k1, k < k1 ∧ pp_LK b v n 0 0 x0 xs y0 ys k1 x1 y1) ∨ pp_LQ b v n x0 xs y0 ys x1 y1) := by
  obtain ⟨xa, ya, R, a1, a2, hL, hR, hR5, hR16⟩ := pp_rl0 (p := nI (s - 9)) h hb hv r1
  have hrd : f_X2_readRule x = f_X2_readRule_35 x := by
    obtain ⟨-, -, -, k4, -⟩ := pp_Kk h.1
    unfold f_X2_readRule
    rw [k4, hs]
    rcases hs2 with rfl | rfl | rfl <;> rfl
  rw [hrd, a1, a2]
  obtain ⟨W, hX, hP, hLD⟩ := hL.cx hb hv hF hMT r1 r2
  obtain ⟨Za, hZ⟩ : ∃ Za, xa.1 162 8 = 0 → R < 16 ∧ xa.1 b 5 = nI Za ∧ Za ≤ 400 ∧ pp_LD b v n W 0 0 x0 xa ya := by
    by_cases h0 : xa.1 162 8 = 0
    · have c := hLD h0
      obtain ⟨-, -, -, -, -, ⟨R', Z, c6, c7, d1, d2, d3, d4, -⟩, -⟩ := id c
      exact ⟨Z, fun _ => ⟨hR16 h0, d3, c7, c⟩⟩
    · exact ⟨0, fun q => absurd q h0⟩
  obtain ⟨r3, r4, r5⟩ := pp_POr hX hP
  have hok := (pp_ok (k := R) (n := 17) (by omega)).mpr (by omega)
  obtain ⟨s1, s2, s3, s4⟩ := pp_stp hX hP (by omega) (by omega)
  have hE1 := s2.2.2.1
  have y12 : (g_mi ya 120 8 (ya 120 8 + 1)) 139 12 = ya 139 12 := by rw [pp_g1, pp_g4 (by omega)]
  have hnc : pp_NC b xa (pp_sx xa (k + 1)) := ⟨by rw [pp_sx1.1 b (by omega)], pp_sx1.2.1 _ (by omega)⟩
  unfold f_X2_readRule_52 f_X15_rule_24
  rw [s1, pp_b, if_pos hok, if_pos hok, nI_clamp (by omega), y12, r5, hs]
  obtain ⟨X2, P2⟩ := pp_re hX s2 (y1 := g_mi (g_mi (g_mi ya 120 8 (ya 120 8 + 1)) 144 R (ya 139 12)) 142 R (nI (s - 9))) (fun i hi => by rw [pp_g1, pp_g4 (by omega), pp_g1, pp_g4 (by omega)])
  have hF2 : pp_FR b R xa (pp_sx xa (k + 1)) ya (g_mi (g_mi (g_mi ya 120 8 (ya 120 8 + 1)) 144 R (ya 139 12)) 142 R (nI (s - 9))) := ((pp_FR.fe hE1).tr (pp_FR.wr (by omega) (by omega))).tr (pp_FR.wr (by omega) (by omega))
  have y142 : (g_mi (g_mi (g_mi ya 120 8 (ya 120 8 + 1)) 144 R (ya 139 12)) 142 R (nI (s - 9))) 142 R = nI (s - 9) := by rw [pp_g1, pp_g3, pp_u1]
  have y144 : (g_mi (g_mi (g_mi ya 120 8 (ya 120 8 + 1)) 144 R (ya 139 12)) 142 R (nI (s - 9))) 144 R = ya 139 12 := by rw [pp_g1, pp_g4 (by omega), pp_g1, pp_g3, pp_u1]
  revert X2 P2 hF2 y142 y144
  generalize g_mi (g_mi (g_mi ya 120 8 (ya 120 8 + 1)) 144 R (ya 139 12)) 142 R (nI (s - 9)) = y2
  intro X2 P2 hF2 y142 y144
  obtain ⟨x3, y3, qc, qm, n1, n2, n3⟩ := pp_nam X2 P2
  rw [n1, pp_b, n2, pp_b, if_pos hok]
  have yo : ∀ i, (i < 142 ∨ 147 < i) → (g_mi y3 143 R qm) i = y3 i := fun i hi => by rw [pp_g1, pp_g4 (by omega)]
  have e11 : nI (s - 9) = (2 : Int32) ↔ s = 11 := by
    rw [show (2 : Int32) = nI 2 from rfl, nI_eq (by omega) (by omega)]
    omega
  rcases n3 with ⟨n4, n5, n6⟩ | hw
  · have hE := n4.2.2.1
    obtain ⟨X3, P3⟩ := pp_re X2 n4 yo
    have hr3 : x3.2 162 1 = b := (pp_POr X3 P3).1
    have ye : ∀ i, 142 ≤ i → i ≤ 147 → y3 i = y2 i := fun i i1 i2 => hE.2.2.2.2.1 i (by omega) (by omega) (by omega) (by omega) (by omega)
    have hST : pp_ST b v n W R Za x0 xa y0 ya t T (k + 1 + 1) x3 (g_mi y3 143 R qm) := by
      refine ⟨X3, P3, (hF2.tr (pp_FR.fe hE)).tr (pp_FR.wr (by omega) (by omega)), fun q => ?_⟩
      obtain ⟨v1, -⟩ := n6 q
      rw [s3] at v1
      obtain ⟨z1, z2, z3, -⟩ := hZ v1
      exact ⟨v1, Za, Nat.le_refl _, z3, by rw [n5.1, hnc.1]; exact z2, fun i _ => by rw [n5.2, hnc.2]⟩
    have hNN : x3.1 162 8 = 0 → ∃ w u, w < W ∧ x3.1 b 5 = nI u ∧ u ≤ 400 ∧ qc = nI w ∧ (g_mi y3 143 R qm) 143 R = nI w ∧ (g_mi y3 143 R qm) 144 R = nI u ∧ (g_mi y3 143 R qm) 142 R = nI (s - 9) := fun q => by
      obtain ⟨v1, w, v2, v3, v4⟩ := n6 q
      rw [s3] at v1
      obtain ⟨z1, z2, z3, -, -, -, -, -, ⟨R', Z, -, c7, -, -, d3, d4, -⟩, -⟩ := hZ v1
      have eZ : Z = Za := (nI_eq (by omega) (by omega)).mp (d3.symm.trans z2)
      subst eZ
      exact ⟨w, Z, v2, by rw [n5.1, hnc.1]; exact z2, z3, v3, by rw [pp_g1, pp_g3, pp_u1]; exact v4, by rw [pp_g1, pp_g4 (by omega), ye 144 (by omega) (by omega), y144]; exact d4, by rw [pp_g1, pp_g4 (by omega), ye 142 (by omega) (by omega), y142]⟩
    by_cases e : s = 11
    · rw [hr3, if_pos (pp_k7 hb), if_pos e, if_pos (e11.mpr e), e]
      obtain ⟨x4, y4, g1, g2, g3⟩ := pp_t1O (l2 := qc) hST hL hR5 hZ hR (fun q => by
        obtain ⟨w, u, f1, f2, f3, f4, f5, f6, f7⟩ := hNN q
        exact ⟨w, u, f1, f2, f3, f4, f5, f6, by rw [f7, e]; rfl⟩)
      refine ⟨x4, y4, g1, g2, ?_⟩
      rcases g3 with ⟨k3, g4, g5⟩ | hq
      · exact Or.inl ⟨k3, by omega, g5⟩
      · exact Or.inr hq
    · rw [hr3, if_pos (pp_k7 hb), if_neg e, if_neg (fun q => e (e11.mp q))]
      obtain ⟨x4, y4, g1, g2, g3⟩ := pp_t2O (l1 := s) (l2 := qc) (l3 := x3.1 b 5) hST hL hR5 hZ hR (fun q => by
        obtain ⟨w, u, f1, f2, f3, f4, f5, f6, f7⟩ := hNN q
        refine ⟨w, u, u, f1, Nat.le_refl _, f2, f3, fun i i1 i2 => by omega, Or.inl rfl, f4, f2, f5, f6, ?_⟩
        rcases hs2 with rfl | rfl | rfl
        · exact Or.inr (Or.inl ⟨rfl, f7⟩)
        · exact Or.inr (Or.inr ⟨rfl, f7⟩)
        · exact absurd rfl e)
      refine ⟨x4, y4, g1, g2, ?_⟩
      rcases g3 with ⟨k3, g4, g5⟩ | hq
      · exact Or.inl ⟨k3, by omega, g5⟩
      · exact Or.inr hq
  · have hE := hw.2.1
    obtain ⟨X3, P3⟩ := pp_reW X2 hw yo
    have hr3 : x3.2 162 1 = b := (pp_PWr X3 P3).1
    have hSW : pp_SW b v n W R x0 xa y0 ya t T x3 (g_mi y3 143 R qm) := ⟨X3, P3, (hF2.tr (pp_FR.fe hE)).tr (pp_FR.wr (by omega) (by omega))⟩
    by_cases e : s = 11
    · rw [hr3, if_pos (pp_k7 hb), if_pos e, if_pos (e11.mpr e)]
      obtain ⟨x4, y4, g1, g2, g3⟩ := pp_t1W (l1 := s) (l2 := qc) (l3 := x3.1 b 5) hSW hL hR
      exact ⟨x4, y4, g1, g2, Or.inr g3⟩
    · rw [hr3, if_pos (pp_k7 hb), if_neg e, if_neg (fun q => e (e11.mp q))]
      obtain ⟨x4, y4, g1, g2, g3⟩ := pp_t2W (l1 := s) (l2 := qc) (l3 := x3.1 b 5) hSW hL hR
      exact ⟨x4, y4, g1, g2, Or.inr g3⟩
end RS
