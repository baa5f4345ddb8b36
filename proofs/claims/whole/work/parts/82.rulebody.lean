/-! the body of a rule -/
theorem pp_nuj {sg : Nat → Nat} {s m e : Nat} (h : pp_nu sg s m) (hm : m = s ∨ pp_se sg s m) (h2 : pp_se sg m e) : pp_nu sg s e := by
  obtain ⟨-, h3, -⟩ := h2
  rcases hm with rfl | ⟨-, -, h5⟩
  · exact h3
  · intro k hk1 hk2
    rcases Nat.lt_or_ge k m with q | q
    · exact h k hk1 q
    · have := h3 k q hk2
      omega
def pp_ST (b v n W R Za : Nat) (x0 xa : CS) (y0 ya : MS) (t : Nat → Nat) (T k : Nat) (x : CS) (y : MS) : Prop := pp_CX b v n W x0 x y0 y t T ∧ pp_PO b n W x0 x y0 y 0 k 0 x y ∧ pp_FR b R xa x ya y ∧ (x.1 162 8 = 0 → xa.1 162 8 = 0 ∧ ∃ Z, Za ≤ Z ∧ Z ≤ 400 ∧ x.1 b 5 = nI Z ∧ ∀ i, i < Za → x.2 (b + 3) i = xa.2 (b + 3) i)
def pp_SW (b v n W R : Nat) (x0 xa : CS) (y0 ya : MS) (t : Nat → Nat) (T : Nat) (x : CS) (y : MS) : Prop := pp_CX b v n W x0 x y0 y t T ∧ pp_PW b n x0 x y0 y 0 x y ∧ pp_FR b R xa x ya y
section RB
variable {b v n W R Za : Nat} {x0 xs xa : CS} {y0 ys ya : MS} {t : Nat → Nat} {T : Nat}
theorem pp_SW.lq {ka : Nat} {x : CS} {y : MS} (h : pp_SW b v n W R x0 xa y0 ya t T x y) (hL : pp_LK b v n 0 0 x0 xs y0 ys ka xa ya) : pp_LQ b v n x0 xs y0 ys x y ∧ (∃ u, u ≤ 16 ∧ x.1 b 4 = nI u) := by
  obtain ⟨hX, ⟨hC, hE, k, hM, -⟩, hR⟩ := h
  obtain ⟨-, hf, ⟨-, ⟨u, u1, u2⟩, -⟩, -⟩ := hL
  exact ⟨⟨⟨⟨k, hM⟩, hC⟩, hf.tr (pp_FL.fr hX.1 hX.2.1 hR)⟩, u, u1, by rw [hR.2.1 4 (by omega)]; exact u2⟩
theorem pp_ST.lk {k ka : Nat} {x : CS} {y : MS} (h : pp_ST b v n W R Za x0 xa y0 ya t T k x y) (hL : pp_LK b v n 0 0 x0 xs y0 ys ka xa ya) (hR5 : ya 139 5 = nI R) (hZ : xa.1 162 8 = 0 → xa.1 b 5 = nI Za ∧ Za ≤ 400 ∧ pp_LD b v n W 0 0 x0 xa ya) (hR : R ≤ 16) : pp_LK b v n 0 0 x0 xs y0 ys k x y ∧ (x.1 162 8 = 0 → pp_LD b v n W 0 0 x0 x y) := by
  obtain ⟨hX, ⟨hM, hC, hE, h8, Z', z1, z2, z3⟩, hF, hD⟩ := h
  obtain ⟨hb, hv, -⟩ := id hX
  obtain ⟨-, hf, ⟨⟨p1, p2, p3⟩, ⟨u, u1, u2⟩, ⟨u7, u8, u9⟩, -, ⟨w1, w2, w3, w4⟩⟩, -⟩ := hL
  obtain ⟨f1, f2, f3, f4, f5, f6, f7, f8⟩ := id hF
  have hLD : x.1 162 8 = 0 → pp_LD b v n W 0 0 x0 x y := by
    intro r
    obtain ⟨r1, Z, r2, r3, r4, r5⟩ := hD r
    obtain ⟨q1, q2, c1, c2, c3, c4, c5, ⟨R', Zb, c6, c7, d1, d2, d3, d4, d5, d6⟩, ⟨g, c9, e1, e2⟩, m, e3, e4, e5⟩ := hZ r1
    have eR : R' = R := (nI_eq (by omega) (by omega)).mp (d2.symm.trans hR5)
    subst eR
    have eZ : Zb = Za := (nI_eq (by omega) (by omega)).mp (d3.symm.trans q1)
    subst eZ
    obtain ⟨s1, s2⟩ := z3 r
    have e12 : y 139 12 = nI Z := z1.trans (s1.symm.trans r4)
    have eZ' : Z' = Z := by
      obtain ⟨er, m1, m2, m3, -⟩ := hM
      have hn := hX.2.2.1.1
      exact (nI_eq (by omega) (by omega)).mp (z1.symm.trans e12)
    subst eZ'
    refine ⟨c1, by rw [f1 v (by omega) (by omega) (by omega)]; exact c2, by rw [f7 2 (by omega)]; exact c3, fun j hj => by rw [f5 126 (by omega) (by omega) (by omega), f1 163 (by omega) (by omega) (by omega)]; exact c4 j hj, fun j hj => (c5 j hj).ee (fun q => q) (fun i i1 i2 => f1 i (by unfold pp_wd at i1 i2; omega) (by unfold pp_wd at i1 i2; omega) (by unfold pp_wd at i1 i2; omega)) (by rw [f5 140 (by omega) (by omega) (by omega)]) (fun i _ _ => by rw [f5 141 (by omega) (by omega) (by omega)]), ⟨R', Z', c6, r3, by rw [f2 4 (by omega)]; exact d1, by rw [f7 5 (by omega)]; exact d2, r4, e12, s2, fun k hk => ?_⟩, ⟨g, c9, by rw [f2 6 (by omega)]; exact e1, by rw [f7 0 (by omega)]; exact e2⟩, m, e3, by rw [f2 7 (by omega)]; exact e4, by rw [f7 1 (by omega)]; exact e5⟩
    have hrr : pp_rr b k = b + 1 + 4 + 1 * k := rfl
    exact (d6 k hk).f (Nat.le_refl _) r2 (fun j => by rw [f1 _ (by omega) (by omega) (by omega)]) (by rw [f3 _ (by omega) (by omega)]) r5 (fun i i1 i2 => f6 i (by omega) (by omega) k (by omega))
  refine ⟨⟨⟨hM, hC⟩, hf.tr (pp_FL.fr hb hv hF), ⟨⟨p1, p2, by rw [f1 v (by omega) (by omega) (by omega)]; exact p3⟩, ⟨u, u1, by rw [f2 4 (by omega)]; exact u2⟩, ⟨u7, u8, by rw [f7 5 (by omega)]; exact u9⟩, ⟨Z', by omega, z1⟩, w1, w2, by rw [f7 2 (by omega)]; exact w3, fun j hj hj2 => by rw [f5 126 (by omega) (by omega) (by omega)]; exact w4 j hj hj2⟩, fun r => ⟨W, hLD r⟩⟩, hLD⟩
/-- what is known before the test is read -/
def pp_NP (b W R l1 : Nat) (l2 l3 : Int32) (x : CS) (y : MS) : Prop := ∃ w s m, w < W ∧ s ≤ m ∧ x.1 b 5 = nI m ∧ m ≤ 400 ∧ pp_nu (x.2 (b + 3)) s m ∧ (m = s ∨ pp_se (x.2 (b + 3)) s m) ∧ l2 = nI w ∧ l3 = nI s ∧ y 143 R = nI w ∧ y 144 R = nI s ∧ ((l1 = 11 ∧ y 142 R = 2 ∧ pp_se (x.2 (b + 3)) s m ∧ y 146 R = nI (m - 1)) ∨ (l1 = 9 ∧ y 142 R = 0) ∨ (l1 = 10 ∧ y 142 R = 1))
theorem pp_t2W {ka l1 : Nat} {l2 l3 : Int32} {x : CS} {y : MS} (h : pp_SW b v n W R x0 xa y0 ya t T x y) (hL : pp_LK b v n 0 0 x0 xs y0 ys ka xa ya) (hR : R ≤ 16) : ∃ x1 y1, f_X2_readRule_93 l1 l2 l3 x = some x1 ∧ f_X15_rule_97 (nI R) y = some y1 ∧ pp_LQ b v n x0 xs y0 ys x1 y1 := by
  obtain ⟨q1, q2, q3, q4, q5⟩ := pp_PWr h.1 h.2.1
  have hb := h.1.1
  obtain ⟨a1, a2⟩ := h.lq hL
  unfold f_X2_readRule_93 f_X15_rule_97
  rw [q1, if_pos (pp_k7 hb), q3, if_neg (by decide), pp_takesW q5, pp_b, if_pos rfl]
  exact pp_rl9Q hb h.1.2.1 a1 a2 q1 hR
theorem pp_t2O {k ka l1 : Nat} {l2 l3 : Int32} {x : CS} {y : MS} (h : pp_ST b v n W R Za x0 xa y0 ya t T k x y) (hL : pp_LK b v n 0 0 x0 xs y0 ys ka xa ya) (hR5 : ya 139 5 = nI R) (hZ : xa.1 162 8 = 0 → R < 16 ∧ xa.1 b 5 = nI Za ∧ Za ≤ 400 ∧ pp_LD b v n W 0 0 x0 xa ya) (hR : R ≤ 16) (hN : x.1 162 8 = 0 → pp_NP b W R l1 l2 l3 x y) : ∃ x1 y1, f_X2_readRule_93 l1 l2 l3 x = some x1 ∧ f_X15_rule_97 (nI R) y = some y1 ∧ ((∃ k1, k ≤ k1 ∧ pp_LK b v n 0 0 x0 xs y0 ys k1 x1 y1) ∨ pp_LQ b v n x0 xs y0 ys x1 y1) := by
  obtain ⟨hX, hP, hFR, hD⟩ := id h
  obtain ⟨hb, hv, -⟩ := id hX
  obtain ⟨r1, r2, r3⟩ := pp_POr hX hP
  have htk : f_X15_takes 13 y = _ := pp_tks (s := 13) hX hP (by omega)
  obtain ⟨hLK, hLD⟩ := h.lk hL hR5 (fun q => (hZ q).2) hR
  have y5 : ∀ {z : MS}, pp_FR b R xa x ya z → z 139 5 = nI R := fun hz => by rw [hz.2.2.2.2.2.2.1 5 (by omega)]; exact hR5
  unfold f_X2_readRule_93 f_X15_rule_97
  rw [r1, if_pos (pp_k7 hb), r3, htk]
  by_cases e : x0.2 4 k = 13
  · obtain ⟨s1, s2, s3, s4⟩ := pp_stp hX hP (by omega) (by omega)
    rw [if_pos e, if_pos e, s1, pp_b, pp_b, if_neg (show ¬ (1 : Int32) = 0 by decide)]
    obtain ⟨x2, r, y2, t1, t2, t3⟩ := pp_tst hX (pp_bth hX (pp_sgl hX 12 0 (by omega) (by omega))) _ _ _ _ s2
    have t1' : f_X2_readTest (f_X2_readSingle 12) 0 (pp_sx x (k + 1)) = some x2 := t1
    rw [t1', pp_b]
    show ∃ x1 y1, _ ∧ Option.bind (f_X15_test (f_X15_single 12) (g_mi y 120 8 (y 120 8 + 1))) _ = _ ∧ _
    rw [t2, pp_b]
    rcases t3 with ⟨k2, t4, t5, t6⟩ | hw
    · have hE := t5.2.2.1
      obtain ⟨X2, P2⟩ := pp_re hX t5 (y1 := y2) (fun _ _ => rfl)
      have hST : pp_ST b v n W R Za x0 xa y0 ya t T k2 x2 y2 := by
        refine ⟨X2, P2, hFR.tr (pp_FR.fe hE), fun q => ?_⟩
        obtain ⟨v1, Z, Z1, v2, v3, v4, v5, v6, v7, v8⟩ := t6 q
        rw [s3] at v1
        obtain ⟨d1, Zc, d2, d3, d4, d5⟩ := hD v1
        have eZ : Z = Zc := by
          have hz : (pp_sx x (k + 1)).1 b 5 = x.1 b 5 := by rw [pp_sx1.1 b (by omega)]
          have hZ4 : Z ≤ 400 := by have := v6.1; omega
          exact (nI_eq (by omega) (by omega)).mp (v2.symm.trans (hz.trans d4))
        subst eZ
        have := v6.1
        exact ⟨d1, Z1, by omega, v4, v3, fun i hi => by rw [v5 i (by omega), pp_sx1.2.1 (b + 3) (by omega)]; exact d5 i hi⟩
      obtain ⟨hLK2, hLD2⟩ := hST.lk hL hR5 (fun q => (hZ q).2) hR
      obtain ⟨x3, y3, g1, g2, g3⟩ := pp_rl9 (l1 := l1) (l2 := l2) (l3 := l3) (l4 := x.1 b 5) (s0 := r) hb hv hLK2 (pp_POr X2 P2).1 hR (by rw [hST.2.2.1.2.2.2.2.2.2.1 5 (by omega)]; exact hR5) (fun q => by
        obtain ⟨v1, Z, Z1, v2, v3, v4, v5, v6, v7, v8⟩ := t6 q
        rw [s3] at v1
        refine ⟨(hZ (hD v1).1).1, fun W' Z' hW' hZ' hZ4 => ?_⟩
        obtain ⟨w, s, m, f1, f2, f3, f4, f5, f6, f7, f8, f9, g1, g2⟩ := hN v1
        have hz : (pp_sx x (k + 1)).1 b 5 = x.1 b 5 := by rw [pp_sx1.1 b (by omega)]
        have v61 := v6.1
        have eZ : Z = m := (nI_eq (by omega) (by omega)).mp (v2.symm.trans (hz.trans f3))
        subst eZ
        have hc := hW'
        obtain ⟨c1, -, c3, -, -, ⟨R', Zb, -, c7, -, -, d3, d4, -⟩, -⟩ := hc
        have hc2 := hLD2 q
        obtain ⟨c1', -, c3', -⟩ := hc2
        have eW : W' = W := (nI_eq (by omega) (by omega)).mp (c3.symm.trans c3')
        subst eW
        have eZ1 : Z1 = Z' := (nI_eq (by omega) (by omega)).mp (v3.symm.trans (d3.trans (d4.symm.trans hZ')))
        subst eZ1
        have hp : ∀ i, i < Z → x.2 (b + 3) i = x2.2 (b + 3) i := fun i hi => by rw [v5 i hi, pp_sx1.2.1 (b + 3) (by omega)]
        have ye : ∀ i, 142 ≤ i → i ≤ 147 → y2 i = y i := fun i i1 i2 => hE.2.2.2.2.1 i (by omega) (by omega) (by omega) (by omega) (by omega)
        refine ⟨w, s, Z, f1, f2, by omega, pp_nuj (f5.e hp) (f6.elim Or.inl (fun u => Or.inr (u.e hp))) v6, f7, f8, f3, by rw [ye 143 (by omega) (by omega)]; exact f9, by rw [ye 144 (by omega) (by omega)]; exact g1, Or.inr ⟨v6, v7⟩, ?_⟩
        rw [ye 142 (by omega) (by omega), ye 146 (by omega) (by omega)]
        rcases g2 with ⟨i1, i2, i3, i4⟩ | g2
        · exact Or.inl ⟨i1, i2, i3.e hp, i4⟩
        · exact Or.inr g2)
      exact ⟨x3, y3, g1, g2, Or.inl ⟨k2, by omega, g3⟩⟩
    · have hE := hw.2.1
      obtain ⟨X2, P2⟩ := pp_reW hX hw (y1 := y2) (fun _ _ => rfl)
      have hSW : pp_SW b v n W R x0 xa y0 ya t T x2 y2 := ⟨X2, P2, hFR.tr (pp_FR.fe hE)⟩
      obtain ⟨a1, a2⟩ := hSW.lq hL
      obtain ⟨x3, y3, g1, g2, g3⟩ := pp_rl9Q (l1 := l1) (l2 := l2) (l3 := l3) (l4 := x.1 b 5) (s0 := r) hb hv a1 a2 (pp_PWr X2 P2).1 hR
      exact ⟨x3, y3, g1, g2, Or.inr g3⟩
  · rw [if_neg e, if_neg e, pp_b, if_pos rfl]
    obtain ⟨x3, y3, g1, g2, g3⟩ := pp_rl9 (l1 := l1) (l2 := l2) (l3 := l3) (l4 := x.1 b 5) (s0 := -1) hb hv hLK r1 hR (y5 hFR) (fun q => by
      refine ⟨(hZ (hD q).1).1, fun W' Z' hW' hZ' hZ4 => ?_⟩
      obtain ⟨w, s, m, f1, f2, f3, f4, f5, f6, f7, f8, f9, g1, g2⟩ := hN q
      have hc := hW'
      obtain ⟨c1, -, c3, -, -, ⟨R', Zb, -, c7, -, -, d3, d4, -⟩, -⟩ := hc
      have hc2 := hLD q
      obtain ⟨c1', -, c3', -⟩ := hc2
      have eW : W' = W := (nI_eq (by omega) (by omega)).mp (c3.symm.trans c3')
      subst eW
      have eZ1 : m = Z' := (nI_eq (by omega) (by omega)).mp (f3.symm.trans (d3.trans (d4.symm.trans hZ')))
      subst eZ1
      exact ⟨w, s, m, f1, f2, Nat.le_refl _, f5, f7, f8, f3, f9, g1, Or.inl ⟨rfl, rfl⟩, g2⟩)
    exact ⟨x3, y3, g1, g2, Or.inl ⟨k, Nat.le_refl _, g3⟩⟩
end RB
