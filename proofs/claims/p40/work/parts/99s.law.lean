/-! the law answers 1 -/
section ZLA
variable {y z : MS} {L : Nat} {xs : Nat → Int32}
theorem zl_cell (hL : L ≤ 260) {p : Nat} (hp : p < 100) : ∃ v, f_l_L_cell L xs (nI p) = some v := by
  unfold f_l_L_cell
  by_cases h : L ≤ p
  · rw [if_pos (nI_le h (by omega))]
    exact ⟨_, rfl⟩
  · rw [if_neg (nI_ge (by omega) (by omega)), if_pos ((pp_ok (by omega)).mpr (by omega))]
    exact ⟨_, rfl⟩
theorem zl_10 (hL : L ≤ 260) : ∀ dd fu l x y, dd = 2 - l → dd < fu → l ≤ 2 → zc x → yO y → 200 ≤ h_nx y → yb y (3200 * dd) → ∃ q, f_l_L_law_10 L xs fu (nI l) x y = some q ∧ q.1 = 1 := by
  intro dd
  induction dd with
  | zero =>
    intro fu l x y h1 h2 h3 hx hO hn hb
    obtain ⟨f1, rfl⟩ : ∃ f, fu = f + 1 := ⟨fu - 1, by omega⟩
    have e : l = 2 := by omega
    subst e
    rw [f_l_L_law_10, if_pos (show (2 : Int32) ≤ nI 2 by decide)]
    exact ⟨_, rfl, rfl⟩
  | succ dd ih =>
    intro fu l x y h1 h2 h3 hx hO hn hb
    obtain ⟨f1, rfl⟩ : ∃ f, fu = f + 1 := ⟨fu - 1, by omega⟩
    obtain ⟨v1, c1⟩ := zl_cell (xs := xs) hL (p := l) (by omega)
    obtain ⟨v2, c2⟩ := zl_cell (xs := xs) hL (p := l + 3) (by omega)
    obtain ⟨v3, c3⟩ := zl_cell (xs := xs) hL (p := l + 6) (by omega)
    have a3 : nI l + (3 : Int32) = nI (l + 3) := (nI_add (a := l) (b := 3))
    have a6 : nI l + (6 : Int32) = nI (l + 6) := (nI_add (a := l) (b := 6))
    rw [f_l_L_law_10, if_neg (show ¬ (2 : Int32) ≤ nI l from (nI_ge (by omega) (by omega) : ¬ nI 2 ≤ nI l)), if_pos (yn_rm (k := 1) (hb.mo (by omega)) (by omega) (by omega)), c1, pp_b, a3, c2, pp_b, a6, c3, pp_b, if_pos yn_K]
    obtain ⟨y1, hy1⟩ : ∃ y1, y1 = h_wi (h_new y 50 (fun _ => 0) (fun _ => 0) 0 1) (h_nx y) 0 ((v1 ^^^ (v2 * (31 : Int32))) ^^^ (v3 * (1009 : Int32))) := ⟨_, rfl⟩
    have ed : f_l_X13_init (h_nx y) ((v1 ^^^ (v2 * (31 : Int32))) ^^^ (v3 * (1009 : Int32))) (h_new y 50 (fun _ => 0) (fun _ => 0) 0 1) = some y1 := by
      unfold f_l_X13_init
      rw [if_pos yn_K, hy1]
    rw [ed, pp_b]
    have g1 : yG 1 y y1 := by rw [hy1]; exact ywi_G' (yn_G (by omega) (by omega))
    have k1 : h_K y1 (h_nx y) = 50 := by rw [hy1]; exact (show h_K (h_new y 50 (fun _ => 0) (fun _ => 0) 0 1) (h_nx y) = 50 from yn_K)
    have o1 := g1.2.2.2.2 hO
    have n1 : 200 ≤ h_nx y1 := Nat.le_trans hn g1.1
    have b1 : yb y1 (3200 * dd + 3199) := (hb.g g1 (by omega)).mo (by omega)
    obtain ⟨y2, e2, s2⟩ := zx_new (α := Int32 × CS × MS) (b1.mo (by omega)) o1 n1
    rw [e2]
    have S2 : zoS (h_nx y) (h_nx y1) [] y2 := ⟨(s2.2.2.1 _ (o1.k k1) (fun q => q)).1.trans k1, s2.1, (s2.O o1).1, Nat.le_trans n1 (s2.O o1).2⟩
    have b2 : yb y2 (3200 * dd + 3197) := (b1.g s2.2.1 (by omega)).mo (by omega)
    obtain ⟨W, t, hW, hW8, y3, P, M, nl, rs, hb', g, hn', nr, R, τ, e3, g3, d3, T3, τt, Z3, L3, B3⟩ := zo_drawn S2 (b2.mo (by omega))
    rw [e3, pp_b, if_pos B3.1.1]
    have o3 := T3.1
    have n3 : 200 ≤ h_nx y3 := Nat.le_trans S2.2.2.2 g3.1
    have b3 : yb y3 (3200 * dd + 1227) := (b2.g g3 (by omega)).mo (by omega)
    have l3 : (zibs (zlang P M nl rs W hb' g hn' nr R)).length ≤ 1415 := (zlang_c L3).2.2
    have N3 := B3.2.1.2.2.2
    obtain ⟨i4, y4, e4, h4, g4, f4, -⟩ := ztoS (u := 5) B3 (by omega) (by omega) (by omega) (b3.mo (by omega)) o3 n3
    show ∃ q : Int32 × CS × MS, ((f_l_J4_toString_0e30d (h_nx y1) y3).bind _) = some q ∧ q.1 = 1
    rw [e4, pp_b]
    have o4 := g4.2.2.2.2 o3
    have b4 : yb y4 (3200 * dd + 1221) := (b3.g g4 (by omega)).mo (by omega)
    obtain ⟨x5, y5, bb, vv, e5, p5, m5, g5, f5⟩ := zTaught L3 hx o4 h4 (b4.mo (by omega))
    show ∃ q : Int32 × CS × MS, ((f_l_L_taught i4 x y4).bind _) = some q ∧ q.1 = 1
    rw [e5, pp_b, if_pos rfl]
    show ∃ q : Int32 × CS × MS, ((f_X12_words x5).bind _) = some q ∧ q.1 = 1
    have g45 := g4.tr g5
    have f45 : yF (fun _ => False) y3 y5 := f4.tr f5 g4
    have T5 := T3.n g45 f45
    have R5 : zR R nr bb vv (h_nx y) (zρ rs) (x5.2 (bb + 3)) (x5.1 (bb + 4)) rs (zPV W g P M) 0 0 x5 y5 τ := by
      refine ⟨p5, T5, (f45 _ (o3.k d3) (fun q => q)).1.trans d3, fun k hk => ?_, m5, L3.2.2.2.1⟩
      have kr := T3.2.2.2.1.2.2.2.2.2.2.1
      rw [(f45 _ (o3.k kr) (fun q => q)).2.2.1]
      exact (Z3 k hk).F o3 f45
    rw [pq_words p5, pp_b]
    have b5 : yb y5 (3200 * dd + 1218) := (b4.g g5 (by omega)).mo (by omega)
    obtain ⟨A', les', car', x6, y6, τ', r6, g6, e6⟩ := zk_six (L := L) (xs := xs) (k10 := f_l_L_law_10 L xs f1) (l2 := nI l) hW 6 g_fuel 0 (zPV W g P M) 0 0 x5 y5 τ rfl (by unfold g_fuel; omega) (by omega) R5 rfl τt (b5.mo (by omega))
    show ∃ q : Int32 × CS × MS, f_l_L_law_94 L xs (f_l_L_law_10 L xs f1) g_fuel (nI l) (h_nx y) t (nI W) (nI 0) x5 y5 = some q ∧ q.1 = 1
    rw [e6, nI_1]
    exact ih f1 (l + 1) x6 y6 (by omega) (by omega) (by omega) (zc_of r6.1) r6.2.1.1 (Nat.le_trans n3 (Nat.le_trans g45.1 g6.1)) ((b5.g g6 (by omega)).mo (by omega))
theorem lw_pure (hL : L ≤ 260) (xs : Nat → Int32) : ∃ q, f_l_L_law L xs g_x0 h_y1 = some q ∧ q.1 = 1 := by
  unfold f_l_L_law
  refine zl_10 hL 2 g_fuel 0 g_x0 h_y1 rfl (by unfold g_fuel; omega) (by omega) ⟨rfl, Or.inl ⟨rfl, rfl, rfl, rfl⟩⟩ (fun _ _ => rfl) (by decide) ⟨by decide, by decide⟩
end ZLA
