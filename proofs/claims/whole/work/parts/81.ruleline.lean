/-! a line of a rule -/
def pp_FR (b R : Nat) (x x1 : CS) (y y1 : MS) : Prop := (∀ i, i ≠ 162 → i ≠ b → i ≠ b + 4 → x1.1 i = x.1 i) ∧ (∀ j, j ≠ 5 → x1.1 b j = x.1 b j) ∧ (∀ i, i ≠ 162 → i ≠ b + 3 → x1.2 i = x.2 i) ∧ (∀ j, j ≠ 5 → x1.2 162 j = x.2 162 j) ∧ (∀ i, i ≠ 120 → i ≠ 139 → (i < 142 ∨ 150 < i) → y1 i = y i) ∧ (∀ i, 142 ≤ i → i ≤ 147 → ∀ j, j ≠ R → y1 i j = y i j) ∧ (∀ j, j ≠ 12 → y1 139 j = y 139 j) ∧ ∀ j, (j < 8 ∨ 12 < j) → y1 120 j = y 120 j
theorem pp_FR.fe {b R : Nat} {x x1 : CS} {y y1 : MS} (h : pp_FE b x x1 y y1) : pp_FR b R x x1 y y1 := by
  obtain ⟨h1, h2, h3, h4, h5, h6, h7⟩ := h
  exact ⟨h1, h2, h3, h4, fun i a c d => h5 i a c (by omega) (by omega) (by omega), fun i a c j _ => by rw [h5 i (by omega) (by omega) (by omega) (by omega) (by omega)], h6, h7⟩
theorem pp_FR.tr {b R : Nat} {x x1 x2 : CS} {y y1 y2 : MS} (h : pp_FR b R x x1 y y1) (k : pp_FR b R x1 x2 y1 y2) : pp_FR b R x x2 y y2 :=
  ⟨fun i a c d => (k.1 i a c d).trans (h.1 i a c d), fun j a => (k.2.1 j a).trans (h.2.1 j a), fun i a c => (k.2.2.1 i a c).trans (h.2.2.1 i a c), fun j a => (k.2.2.2.1 j a).trans (h.2.2.2.1 j a), fun i a c d => (k.2.2.2.2.1 i a c d).trans (h.2.2.2.2.1 i a c d), fun i a c j d => (k.2.2.2.2.2.1 i a c j d).trans (h.2.2.2.2.2.1 i a c j d), fun j a => (k.2.2.2.2.2.2.1 j a).trans (h.2.2.2.2.2.2.1 j a), fun j a => (k.2.2.2.2.2.2.2 j a).trans (h.2.2.2.2.2.2.2 j a)⟩
theorem pp_FR.wr {b R i : Nat} {x : CS} {y : MS} {u : Int32} (h1 : 142 ≤ i) (h2 : i ≤ 147) : pp_FR b R x x y (g_mi y i R u) := by
  refine ⟨fun _ _ _ _ => rfl, fun _ _ => rfl, fun _ _ _ => rfl, fun _ _ => rfl, fun j a c d => by rw [pp_g1, pp_g4 (by omega)], fun j a c l d => ?_, fun j _ => by rw [pp_g1, pp_g4 (by omega)], fun j _ => by rw [pp_g1, pp_g4 (by omega)]⟩
  by_cases e : j = i
  · rw [e, pp_g1, pp_g3, pp_u2 d]
  · rw [pp_g1, pp_g4 e]
theorem pp_FL.fr {b v R : Nat} {x x1 : CS} {y y1 : MS} (hb : b = 20 ∨ b = 70) (hv : v = 41 ∨ v = 91) (h : pp_FR b R x x1 y y1) : pp_FL b v x x1 y y1 := by
  obtain ⟨h1, h2, h3, h4, h5, h6, h7, h8⟩ := h
  exact ⟨fun i a c d e => h1 i a (by omega) (by omega), fun i a c => h3 i a (by omega), h4, fun j _ => by rw [h1 v (by omega) (by omega) (by omega)], fun i a c d => h5 i a (by omega) (by omega), h8⟩
section RL
variable {b v n W : Nat} {x0 xs : CS} {y0 ys : MS} {t : Nat → Nat} {T : Nat}
theorem pp_re {c k d : Nat} {x : CS} {y y1 : MS} (hX : pp_CX b v n W x0 xs y0 ys t T) (h : pp_PO b n W x0 xs y0 ys c k d x y) (hy : ∀ i, (i < 142 ∨ 147 < i) → y1 i = y i) : pp_CX b v n W x0 x y0 y1 t T ∧ pp_PO b n W x0 x y0 y1 0 k d x y1 := by
  obtain ⟨hr1, hr2, -⟩ := pp_POr hX h
  obtain ⟨hb, hv, hF, hMT, r1, r2, n1, n2, n3, Wc, n4, n5, n6⟩ := hX
  obtain ⟨⟨er, m1, m2, m3, m4, m5, m6, m7, m8, m9, m10, m11, m12, m13⟩, ⟨c1, c2, c3, c4, c5, c6, c7, c8⟩, ⟨f1, f2, f3, f4, f5, f6, f7⟩, h8, Z, z1, z2, z3⟩ := h
  refine ⟨⟨hb, hv, hF, hMT, hr1, hr2, n1, by rw [hy 139 (by omega), f6 2 (by omega)]; exact n2, fun j hj => ?_, Wc, n4, by rw [f1 v (by omega) (by omega) (by omega)]; exact n5, fun q => n6 (h8 q)⟩, ⟨⟨er, m1, by rw [hy 120 (by omega)]; exact m2, m3, m4, m5, m6, by rw [hy 120 (by omega)]; exact m7, by rw [hy 120 (by omega)]; exact m8, m9, m10, by rw [hy 120 (by omega)]; exact m11, m12, fun q => ?_⟩, ⟨c1, c2, c3, (hy 121 (by omega)).trans c4, (hy 122 (by omega)).trans c5, (hy 123 (by omega)).trans c6, (hy 124 (by omega)).trans c7, (hy 125 (by omega)).trans c8⟩, pp_FE.rf b x y1, fun q => q, Z, by rw [hy 139 (by omega)]; exact z1, by omega, fun q => ⟨(z3 q).1, (z3 q).2.f (Nat.le_refl _) rfl rfl (fun i _ _ => hy i (by omega))⟩⟩⟩
  · obtain ⟨i, i1, i2, i3⟩ := n3 j hj
    refine ⟨i, i1, by rw [hy 126 (by omega), f5 126 (by omega) (by omega) (by omega) (by omega) (by omega)]; exact i2, fun q => ?_⟩
    rw [f1 163 (by omega) (by omega) (by omega)]
    exact i3 (h8 q)
  · obtain ⟨j, j1, j2, j3⟩ := m13 q
    exact ⟨j, j1, by rw [hy 120 (by omega)]; exact j2, j3⟩
theorem pp_reW {c : Nat} {x : CS} {y y1 : MS} (hX : pp_CX b v n W x0 xs y0 ys t T) (h : pp_PW b n x0 xs y0 ys c x y) (hy : ∀ i, (i < 142 ∨ 147 < i) → y1 i = y i) : pp_CX b v n W x0 x y0 y1 t T ∧ pp_PW b n x0 x y0 y1 0 x y1 := by
  obtain ⟨hr1, hr2, -, hx8, -⟩ := pp_PWr hX h
  have hne : ¬ x.1 162 8 = 0 := by rw [hx8]; decide
  obtain ⟨hb, hv, hF, hMT, r1, r2, n1, n2, n3, Wc, n4, n5, n6⟩ := hX
  obtain ⟨⟨c1, c2, c3, c4, c5, c6, c7, c8⟩, ⟨f1, f2, f3, f4, f5, f6, f7⟩, k, ⟨m1, m2, m3, m4, ⟨j, j1, j2, j3⟩, m6, m7⟩, Z, z1, z2⟩ := h
  refine ⟨⟨hb, hv, hF, hMT, hr1, hr2, n1, by rw [hy 139 (by omega), f6 2 (by omega)]; exact n2, fun j hj => ?_, Wc, n4, by rw [f1 v (by omega) (by omega) (by omega)]; exact n5, fun q => absurd q hne⟩, ⟨c1, c2, c3, (hy 121 (by omega)).trans c4, (hy 122 (by omega)).trans c5, (hy 123 (by omega)).trans c6, (hy 124 (by omega)).trans c7, (hy 125 (by omega)).trans c8⟩, pp_FE.rf b x y1, k, ⟨m1, m2, by rw [hy 120 (by omega)]; exact m3, by rw [hy 120 (by omega)]; exact m4, ⟨j, j1, by rw [hy 120 (by omega)]; exact j2, j3⟩, m6, by rw [hy 120 (by omega)]; exact m7⟩, Z, by rw [hy 139 (by omega)]; exact z1, by omega⟩
  obtain ⟨i, i1, i2, i3⟩ := n3 j hj
  exact ⟨i, i1, by rw [hy 126 (by omega), f5 126 (by omega) (by omega) (by omega) (by omega) (by omega)]; exact i2, fun q => absurd q hne⟩
/-- the class's new rule -/
theorem pp_adr {u l1 : Nat} {l2 l3 l4 : Int32} {x : CS} (hb : b = 20 ∨ b = 70) (hu : u ≤ 16) (h : x.1 b 4 = nI u) : ∃ x1, f_X5_addRule b l1 l2 l3 l4 x = some x1 ∧ (∀ i, (i < b ∨ b + 20 < i) → x1.1 i = x.1 i ∧ x1.2 i = x.2 i) ∧ (∀ j, j ≠ 4 → x1.1 b j = x.1 b j) ∧ (∃ u, u ≤ 16 ∧ x1.1 b 4 = nI u) ∧ (∀ i, b < i → i < b + 5 → x1.1 i = x.1 i ∧ x1.2 i = x.2 i) ∧ (u < 16 → x1.1 b 4 = nI (u + 1) ∧ (∀ k, k ≠ u → x1.1 (pp_rr b k) = x.1 (pp_rr b k) ∧ x1.2 (pp_rr b k) = x.2 (pp_rr b k)) ∧ x1.2 (pp_rr b u) 0 = l1 ∧ x1.1 (pp_rr b u) 1 = l2 ∧ x1.1 (pp_rr b u) 2 = l3 ∧ x1.1 (pp_rr b u) 3 = l4 ∧ x1.1 (pp_rr b u) 4 = x.1 b 5) := by
  have hrr : ∀ k, pp_rr b k = b + 1 + 4 + 1 * k := fun k => rfl
  rcases Nat.lt_or_ge u 16 with h16 | h16
  · have hr := hrr u
    have g5 : (g_wi (g_wi (g_wi (g_wr x (pp_rr b u) 0 l1) (pp_rr b u) 1 l2) (pp_rr b u) 2 l3) (pp_rr b u) 3 l4).1 b 5 = x.1 b 5 := by
      rw [pp_c1, pp_c4 (by omega), pp_c1, pp_c4 (by omega), pp_c1, pp_c4 (by omega)]; rfl
    have g4 : (g_wi (g_wi (g_wi (g_wi (g_wr x (pp_rr b u) 0 l1) (pp_rr b u) 1 l2) (pp_rr b u) 2 l3) (pp_rr b u) 3 l4) (pp_rr b u) 4 (x.1 b 5)).1 b 4 = nI u := by
      rw [pp_c1, pp_c4 (by omega), pp_c1, pp_c4 (by omega), pp_c1, pp_c4 (by omega), pp_c1, pp_c4 (by omega)]; exact h
    refine ⟨g_wi (g_wi (g_wi (g_wi (g_wi (g_wr x (pp_rr b u) 0 l1) (pp_rr b u) 1 l2) (pp_rr b u) 2 l3) (pp_rr b u) 3 l4) (pp_rr b u) 4 (x.1 b 5)) b 4 (nI (u + 1)), ?_, ?_, ?_, ⟨u + 1, by omega, by rw [pp_c1, pp_c3, pp_u1]⟩, ?_, fun _ => ⟨by rw [pp_c1, pp_c3, pp_u1], ?_, ?_, ?_, ?_, ?_, ?_⟩⟩
    · unfold f_X5_addRule
      rw [h, if_neg (show ¬ (16 : Int32) ≤ nI u from nI_ge (b := 16) h16 (by omega)), pp_rule h16, pp_b, if_pos (pp_kd8 hb h16), g5, g4, nI_1]
    · intro i hi
      refine ⟨?_, ?_⟩
      · rw [pp_c1, pp_c4 (by omega), pp_c1, pp_c4 (by omega), pp_c1, pp_c4 (by omega), pp_c1, pp_c4 (by omega), pp_c1, pp_c4 (by omega)]; rfl
      · show (g_wr x (pp_rr b u) 0 l1).2 i = x.2 i
        have : i ≠ pp_rr b u := by omega
        simp [g_wr, this]
    · intro j hj
      rw [pp_c1, pp_c3, pp_u2 hj, pp_c1, pp_c4 (by omega), pp_c1, pp_c4 (by omega), pp_c1, pp_c4 (by omega), pp_c1, pp_c4 (by omega)]; rfl
    · intro i hi hi2
      refine ⟨?_, ?_⟩
      · rw [pp_c1, pp_c4 (by omega), pp_c1, pp_c4 (by omega), pp_c1, pp_c4 (by omega), pp_c1, pp_c4 (by omega), pp_c1, pp_c4 (by omega)]; rfl
      · show (g_wr x (pp_rr b u) 0 l1).2 i = x.2 i
        have : i ≠ pp_rr b u := by omega
        simp [g_wr, this]
    · intro k hk
      have hk2 : pp_rr b k ≠ pp_rr b u := by have := hrr k; omega
      have hk3 : pp_rr b k ≠ b := by have := hrr k; omega
      refine ⟨?_, ?_⟩
      · rw [pp_c1, pp_c4 hk3, pp_c1, pp_c4 hk2, pp_c1, pp_c4 hk2, pp_c1, pp_c4 hk2, pp_c1, pp_c4 hk2]; rfl
      · show (g_wr x (pp_rr b u) 0 l1).2 (pp_rr b k) = x.2 (pp_rr b k)
        simp [g_wr, hk2]
    · show (g_wr x (pp_rr b u) 0 l1).2 (pp_rr b u) 0 = l1
      simp [g_wr, va_up]
    · rw [pp_c1, pp_c4 (by omega), pp_c1, pp_c3, pp_u2 (by omega), pp_c1, pp_c3, pp_u2 (by omega), pp_c1, pp_c3, pp_u2 (by omega), pp_c1, pp_c3, pp_u1]
    · rw [pp_c1, pp_c4 (by omega), pp_c1, pp_c3, pp_u2 (by omega), pp_c1, pp_c3, pp_u2 (by omega), pp_c1, pp_c3, pp_u1]
    · rw [pp_c1, pp_c4 (by omega), pp_c1, pp_c3, pp_u2 (by omega), pp_c1, pp_c3, pp_u1]
    · rw [pp_c1, pp_c4 (by omega), pp_c1, pp_c3, pp_u1]
  · refine ⟨x, ?_, fun _ _ => ⟨rfl, rfl⟩, fun _ _ => rfl, ⟨u, hu, h⟩, fun _ _ _ => ⟨rfl, rfl⟩, fun q => by omega⟩
    unfold f_X5_addRule
    rw [h, if_pos (show (16 : Int32) ≤ nI u from nI_le (a := 16) h16 (by omega))]
/-- the reference's new rule -/
def pp_yr (y : MS) (R : Nat) (s0 : Int32) : MS := g_mi (g_mi (g_mi y 147 R s0) 145 R (y 139 12)) 139 5 (nI (min 16 (R + 1)))
theorem pp_adm {R : Nat} {s0 : Int32} {y : MS} (hR : R ≤ 16) : f_X15_rule_122 (nI R) s0 (nI R) y = some (pp_yr y R s0) := by
  have hok := (pp_ok (k := R) (n := 17) (by omega)).mpr (by omega)
  have e1 : (g_mi y 147 R s0) 139 12 = y 139 12 := by rw [pp_g1, pp_g4 (by omega)]
  unfold f_X15_rule_122
  rw [if_pos hok, if_pos hok, nI_clamp (by omega), e1, nI_1, show (16 : Int32) = nI 16 from rfl, pp_min (by omega) (by omega)]
  rfl
theorem pp_yr1 {R : Nat} {s0 : Int32} {y : MS} : (∀ i, i ≠ 139 → i ≠ 145 → i ≠ 147 → pp_yr y R s0 i = y i) ∧ (∀ j, j ≠ 5 → pp_yr y R s0 139 j = y 139 j) ∧ pp_yr y R s0 139 5 = nI (min 16 (R + 1)) ∧ pp_yr y R s0 145 = upd (y 145) R (y 139 12) ∧ pp_yr y R s0 147 = upd (y 147) R s0 := by
  refine ⟨fun i h1 h2 h3 => ?_, fun j hj => ?_, ?_, ?_, ?_⟩
  · unfold pp_yr; rw [pp_g1, pp_g4 h1, pp_g1, pp_g4 h2, pp_g1, pp_g4 h3]
  · unfold pp_yr; rw [pp_g1, pp_g3, pp_u2 hj, pp_g1, pp_g4 (by omega), pp_g1, pp_g4 (by omega)]
  · unfold pp_yr; rw [pp_g1, pp_g3, pp_u1]
  · unfold pp_yr; rw [pp_g1, pp_g4 (by omega), pp_g1, pp_g3, pp_g1, pp_g4 (by omega)]
  · unfold pp_yr; rw [pp_g1, pp_g4 (by omega), pp_g1, pp_g4 (by omega), pp_g1, pp_g3]
theorem pp_rl9Q {R l1 : Nat} {l2 l3 l4 s0 : Int32} {x : CS} {y : MS} (hb : b = 20 ∨ b = 70) (hv : v = 41 ∨ v = 91) (h : pp_LQ b v n x0 xs y0 ys x y) (hu : ∃ u, u ≤ 16 ∧ x.1 b 4 = nI u) (hr : x.2 162 1 = b) (hR : R ≤ 16) : ∃ x1 y1, f_X2_readRule_121 l1 l2 l3 l4 x = some x1 ∧ f_X15_rule_122 (nI R) s0 (nI R) y = some y1 ∧ pp_LQ b v n x0 xs y0 ys x1 y1 := by
  obtain ⟨u, u1, u2⟩ := hu
  obtain ⟨x1, a1, a2, a3, a4, a5, -⟩ := pp_adr (l1 := l1) (l2 := l2) (l3 := l3) (l4 := l4) hb u1 u2
  obtain ⟨b1, b2, b3, b4, b5⟩ := pp_yr1 (y := y) (R := R) (s0 := s0)
  refine ⟨x1, _, ?_, pp_adm hR, ?_⟩
  · unfold f_X2_readRule_121
    rw [hr, if_pos (pp_k7 hb), a1]; rfl
  · have hfl : pp_FL b v x x1 y (pp_yr y R s0) := ⟨fun i _ _ c d => (a2 i c).1, fun i _ c => (a2 i c).2, fun j _ => by rw [(a2 162 (by omega)).2], fun j _ => by rw [(a2 v (by omega)).1], fun i c d e => b1 i (by omega) (by omega) (by omega), fun j _ => by rw [b1 120 (by omega) (by omega) (by omega)]⟩
    refine ⟨?_, h.2.tr hfl⟩
    obtain ⟨⟨k, m1, m2, m3, m4, ⟨j, j1, j2, j3⟩, m6, m7⟩, c1, c2, c3, c4, c5, c6, c7, c8⟩ := h.1
    have e162 : x1.1 162 = x.1 162 := (a2 162 (by omega)).1
    have y120 := b1 120 (by omega) (by omega) (by omega)
    exact ⟨⟨k, by rw [e162]; exact m1, by rw [(a2 162 (by omega)).2]; exact m2, by rw [y120]; exact m3, by rw [y120]; exact m4, ⟨j, j1, by rw [y120]; exact j2, by rw [e162]; exact j3⟩, m6, by rw [y120]; exact m7⟩, (a2 5 (by omega)).1.trans c1, (a2 7 (by omega)).1.trans c2, (a2 4 (by omega)).2.trans c3, (b1 121 (by omega) (by omega) (by omega)).trans c4, (b1 122 (by omega) (by omega) (by omega)).trans c5, (b1 123 (by omega) (by omega) (by omega)).trans c6, (b1 124 (by omega) (by omega) (by omega)).trans c7, (b1 125 (by omega) (by omega) (by omega)).trans c8⟩
/-- what the rule will say -/
def pp_NR (b W R Z l1 : Nat) (l2 l3 l4 s0 : Int32) (x : CS) (y : MS) : Prop := ∃ w s m, w < W ∧ s ≤ m ∧ m ≤ Z ∧ pp_nu (x.2 (b + 3)) s Z ∧ l2 = nI w ∧ l3 = nI s ∧ l4 = nI m ∧ y 143 R = nI w ∧ y 144 R = nI s ∧ ((m = Z ∧ s0 = -1) ∨ (pp_se (x.2 (b + 3)) m Z ∧ s0 = nI (Z - 1))) ∧ ((l1 = 11 ∧ y 142 R = 2 ∧ pp_se (x.2 (b + 3)) s m ∧ y 146 R = nI (m - 1)) ∨ (l1 = 9 ∧ y 142 R = 0) ∨ (l1 = 10 ∧ y 142 R = 1))
theorem pp_rl9 {k R l1 : Nat} {l2 l3 l4 s0 : Int32} {x : CS} {y : MS} (hb : b = 20 ∨ b = 70) (hv : v = 41 ∨ v = 91) (h : pp_LK b v n 0 0 x0 xs y0 ys k x y) (hr : x.2 162 1 = b) (hR : R ≤ 16) (hR5 : y 139 5 = nI R) (hN : x.1 162 8 = 0 → R < 16 ∧ ∀ W Z, pp_LD b v n W 0 0 x0 x y → y 139 12 = nI Z → Z ≤ 400 → pp_NR b W R Z l1 l2 l3 l4 s0 x y) : ∃ x1 y1, f_X2_readRule_121 l1 l2 l3 l4 x = some x1 ∧ f_X15_rule_122 (nI R) s0 (nI R) y = some y1 ∧ pp_LK b v n 0 0 x0 xs y0 ys k x1 y1 := by
  obtain ⟨hK, hL, ⟨⟨p1, p2, p3⟩, ⟨u, u1, u2⟩, ⟨u7, u8, u9⟩, ⟨z1, z2, z3⟩, ⟨w1, w2, w3, w4⟩⟩, hD⟩ := h
  obtain ⟨x1, a1, a2, a3, a4, a5, a6⟩ := pp_adr (l1 := l1) (l2 := l2) (l3 := l3) (l4 := l4) hb u1 u2
  obtain ⟨b1, b2, b3, b4, b5⟩ := pp_yr1 (y := y) (R := R) (s0 := s0)
  have e162 : x1.1 162 = x.1 162 := (a2 162 (by omega)).1
  have y120 := b1 120 (by omega) (by omega) (by omega)
  have hfl : pp_FL b v x x1 y (pp_yr y R s0) := ⟨fun i _ _ c d => (a2 i c).1, fun i _ c => (a2 i c).2, fun j _ => by rw [(a2 162 (by omega)).2], fun j _ => by rw [(a2 v (by omega)).1], fun i c d e => b1 i (by omega) (by omega) (by omega), fun j _ => by rw [y120]⟩
  refine ⟨x1, _, ?_, pp_adm hR, hK.sf e162 (a2 162 (by omega)).2 (a2 4 (by omega)).2 (a2 5 (by omega)).1 (a2 7 (by omega)).1 y120 (fun i _ _ => b1 i (by omega) (by omega) (by omega)), hL.tr hfl, ⟨⟨p1, p2, by rw [(a2 v (by omega)).1]; exact p3⟩, a4, ⟨min 16 (R + 1), by omega, b3⟩, ⟨z1, z2, by rw [b2 12 (by omega)]; exact z3⟩, w1, w2, by rw [b2 2 (by omega)]; exact w3, fun j hj hj2 => by rw [b1 126 (by omega) (by omega) (by omega)]; exact w4 j hj hj2⟩, fun r => ?_⟩
  · unfold f_X2_readRule_121
    rw [hr, if_pos (pp_k7 hb), a1]; rfl
  rw [e162] at r
  obtain ⟨W, hW⟩ := hD r
  have c := hW
  obtain ⟨c1, c2, c3, c4, c5, ⟨R', Z, c6, c7, d1, d2, d3, d4, d5, d6⟩, ⟨g, c9, e1, e2⟩, m, e3, e4, e5⟩ := c
  obtain ⟨hR16, hN⟩ := hN r
  obtain ⟨w, s, mm, f1, f2, f3, f4, f5, f6, f7, f8, f9, g1, g2⟩ := hN W Z hW d4 c7
  have eR : R' = R := (nI_eq (by omega) (by omega)).mp (d2.symm.trans hR5)
  subst eR
  have eu : u = R' := (nI_eq (by omega) (by omega)).mp (u2.symm.trans d1)
  subst eu
  obtain ⟨q1, q2, q3, q4, q5, q6, q7⟩ := a6 hR16
  have em : min 16 (u + 1) = u + 1 := Nat.min_eq_right (by omega)
  have hx3 : x1.2 (b + 3) = x.2 (b + 3) := (a5 _ (by omega) (by omega)).2
  refine ⟨W, c1, by rw [(a2 v (by omega)).1]; exact c2, by rw [b2 2 (by omega)]; exact c3, fun j hj => by rw [b1 126 (by omega) (by omega) (by omega), (a2 163 (by omega)).1]; exact c4 j hj, fun j hj => (c5 j hj).ee (fun q => q) (fun i i1 i2 => (a2 i (by unfold pp_wd at i1 i2; omega)).1) (by rw [b1 140 (by omega) (by omega) (by omega)]) (fun i _ _ => by rw [b1 141 (by omega) (by omega) (by omega)]), ⟨u + 1, Z, by omega, c7, q1, by rw [b3, em], by rw [a3 5 (by omega)]; exact d3, by rw [b2 12 (by omega)]; exact d4, d5.f (Nat.le_refl _) (a5 _ (by omega) (by omega)).1 hx3 (fun i _ _ => b1 i (by omega) (by omega) (by omega)), fun k hk => ?_⟩, ⟨g, c9, by rw [a3 6 (by omega)]; exact e1, by rw [b2 0 (by omega)]; exact e2⟩, m, e3, by rw [a3 7 (by omega)]; exact e4, by rw [b2 1 (by omega)]; exact e5⟩
  by_cases ek : k = u
  · subst ek
    refine ⟨w, s, mm, Z, f1, f2, f3, Nat.le_refl _, by rw [hx3]; exact f4, by rw [q4]; exact f5, by rw [q5]; exact f6, by rw [q6]; exact f7, by rw [q7]; exact d3, by rw [b1 143 (by omega) (by omega) (by omega)]; exact f8, by rw [b1 144 (by omega) (by omega) (by omega)]; exact f9, by rw [b4, pp_u1]; exact d4, ?_, ?_⟩
    · rw [b5, pp_u1, hx3]
      exact g1
    · rw [q3, b1 142 (by omega) (by omega) (by omega), b1 146 (by omega) (by omega) (by omega), hx3]
      exact g2
  · exact (d6 k (by omega)).f (Nat.le_refl _) (Nat.le_refl _) (fun j => by rw [(q2 k ek).1]) (by rw [(q2 k ek).2]) (fun i _ => by rw [hx3]) (fun i i1 i2 => by
      by_cases e145 : i = 145
      · rw [e145, b4, pp_u2 ek]
      · by_cases e147 : i = 147
        · rw [e147, b5, pp_u2 ek]
        · rw [b1 i (by omega) e145 e147])
end RL
