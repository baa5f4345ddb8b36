/-! the class reads tests and rules -/
section ZPU
variable {tS : Nat → Nat} {tV : Nat → Int32} {b v i i' i'' s W : Nat} {L M : ZC} {x y z : CS} {nm : Nat → Nat}
theorem zt0h {e : Z0} (he : zw0 W e) (ht : zat tS tV i (zt0 nm e)) : tS i ≠ 21 ∧ tS i ≠ 28 ∧ tS i ≠ 19 ∧ tS i ≠ 20 := by
  obtain ⟨t, k⟩ := e
  have h4 := he.1
  change t < 5 at h4
  have h' : t = 0 ∨ t = 1 ∨ t = 2 ∨ t = 3 ∨ t = 4 := by omega
  rcases h' with rfl | rfl | rfl | rfl | rfl
  all_goals
    have h1 := ht.c.1
    first
      | (rw [show tS i = 42 from h1]; decide)
      | (rw [show tS i = 14 from h1]; decide)
      | (rw [show tS i = 15 from h1]; decide)
      | (rw [show tS i = 16 from h1]; decide)
      | (rw [show tS i = 17 from h1]; decide)
theorem zt1h {e : Z1} (he : zw1 W e) (ht : zat tS tV i (zt1 nm e)) : tS i ≠ 21 ∧ tS i ≠ 28 ∧ tS i ≠ 19 ∧ tS i ≠ 20 := by
  obtain ⟨t, a, c⟩ := e
  unfold zt1 at ht
  change zat tS tV i (if t = 0 then zt0 nm a else if t = 5 then [(33, 0)] ++ zt0 nm a else if t < 8 then [(zg t, 0), (26, 0)] ++ zt0 nm a ++ [(31, 0)] ++ zt0 nm c ++ [(27, 0)] else [(26, 0)] ++ zt0 nm a ++ [(zg t, 0)] ++ zt0 nm c ++ [(27, 0)]) at ht
  rcases he with ⟨h1, h2⟩ | ⟨h1, h2, h3, h4⟩
  · change t = 0 at h1
    rw [if_pos h1] at ht
    exact zt0h h2 ht
  · change 5 ≤ t at h1
    change t < 12 at h2
    rw [if_neg (show ¬ t = 0 by omega)] at ht
    by_cases h55 : t = 5
    · rw [if_pos h55] at ht
      rw [ht.l.one.1]; decide
    · rw [if_neg h55] at ht
      by_cases h8 : t < 8
      · rw [if_pos h8] at ht
        have g1 := ht.l.l.l.l.c.1
        rw [g1]
        have : t = 6 ∨ t = 7 := by omega
        rcases this with rfl | rfl <;> decide
      · rw [if_neg h8] at ht
        rw [ht.l.l.l.l.one.1]; decide
theorem zr_B {sgl : Int32 → CS → Option CS} {p : Int32} (h : sgl p x = some y) (k : zX tS tV b v s L i' x y) (hq : tS i' ≠ 22) : f_X2_readBoth sgl p x = some y := by
  unfold f_X2_readBoth
  rw [h, pp_b, show g_fuel = 4095 + 1 from rfl, f_X2_readBoth_7, if_neg (by decide), k.1.sg, if_neg hq]
theorem zr_T {sgl : Int32 → CS → Option CS} {p : Int32} (h : f_X2_readBoth sgl p x = some y) (k : zX tS tV b v s L i' x y) (hq : tS i' ≠ 23) : f_X2_readTest sgl p x = some y := by
  unfold f_X2_readTest
  rw [h, pp_b, show g_fuel = 4095 + 1 from rfl, f_X2_readTest_7, if_neg (by decide), k.1.sg, if_neg hq]
theorem zcmpr {e : Nat} (h : 36 ≤ tS e ∧ tS e ≤ 40) (hx : x.2 162 5 = tS e) : f_X2_isComparison x = some 1 := by
  unfold f_X2_isComparison
  rw [hx]
  have : tS e = 36 ∨ tS e = 37 ∨ tS e = 38 ∨ tS e = 39 ∨ tS e = 40 := by omega
  rcases this with q | q | q | q | q <;> rw [q] <;> rfl
theorem zp2 {e : Z2} (h : zS tS tV b v i s x) (hN : zN v W nm x) (he : zw2 W e) (ht : zat tS tV i (zt2 nm e)) (hi : i + (zt2 nm e).length ≤ 400) (hs : s + (zc2 e).length ≤ 400) (n : Nat) {p : Nat} (hp : p < 7) (hq : zq (tS (i + (zt2 nm e).length))) : ∃ x', f_X2_readSingle (n + 1) (nI p) x = some x' ∧ zX tS tV b v s (zc2 e) (i + (zt2 nm e).length) x x' := by
  obtain ⟨t, k, a, c⟩ := e
  have h5 := h.sg
  have hb := h.hb
  have l0 : ∀ u : Z0, (zc0 u).length = 1 := fun u => rfl
  unfold zt2 at ht hi hq
  unfold zc2 at hs
  unfold zt2 zc2
  change zat tS tV i (if 17 ≤ t then [(zg t, 0), (41, nI (nm k))] else zt1 nm a ++ [(zg t, 0)] ++ zt0 nm c) at ht
  change i + (if 17 ≤ t then [(zg t, 0), (41, nI (nm k))] else zt1 nm a ++ [(zg t, 0)] ++ zt0 nm c).length ≤ 400 at hi
  change zq (tS (i + (if 17 ≤ t then [(zg t, 0), (41, nI (nm k))] else zt1 nm a ++ [(zg t, 0)] ++ zt0 nm c).length)) at hq
  change s + (if 17 ≤ t then [(zg t, nI k)] else zc1 a ++ zc0 c ++ [(zg t, 0)]).length ≤ 400 at hs
  show ∃ x', _ = some x' ∧ zX tS tV b v s (if 17 ≤ t then [(zg t, nI k)] else zc1 a ++ zc0 c ++ [(zg t, 0)]) (i + (if 17 ≤ t then [(zg t, 0), (41, nI (nm k))] else zt1 nm a ++ [(zg t, 0)] ++ zt0 nm c).length) x x'
  rcases he with ⟨h1, h2, h3⟩ | ⟨h1, h2, h3, h4⟩
  · change 17 ≤ t at h1
    change t < 19 at h2
    change k < W at h3
    rw [if_pos h1] at ht hi hs
    rw [if_pos h1, if_pos h1]
    have hi' : i + 2 ≤ 400 := hi
    have hs' : s + 1 ≤ 400 := hs
    obtain ⟨g1, -, g2⟩ := ht.c
    obtain ⟨g3, g4⟩ := g2.one
    obtain ⟨x1, a1, a2, -⟩ := zst h (by omega)
    obtain ⟨x2, b1, b2⟩ := zkn a2.1 (a2.N hN) (by omega) h3 g3 g4
    obtain ⟨x3, c1, c2⟩ := zad b2.1 (by show s + 0 + 0 < 400; omega) (show zg t < 46 by have : t = 17 ∨ t = 18 := (by omega); rcases this with rfl | rfl <;> decide) (nI k)
    refine ⟨x3, ?_, (a2.tr b2).tr c2⟩
    have k96 : f_X2_readSingle_96 (f_X2_readSingle n) x = some x3 := by
      unfold f_X2_readSingle_96
      rw [a1, pp_b, a2.1.bk, if_pos (pp_k7 hb), b1, pp_b, h5, g1]
      show Option.bind (f_X5_addSign b (zg t) (nI k) x2) _ = _
      rw [c1]
      rfl
    rw [f_X2_readSingle, h5, g1]
    have : t = 17 ∨ t = 18 := by omega
    rcases this with rfl | rfl
    · rw [if_neg (show ¬ zg 17 = 21 by decide), if_neg (show ¬ zg 17 = 28 by decide), if_pos (show zg 17 = 19 from rfl)]
      exact k96
    · rw [if_neg (show ¬ zg 18 = 21 by decide), if_neg (show ¬ zg 18 = 28 by decide), if_neg (show ¬ zg 18 = 19 by decide), if_pos (show zg 18 = 20 from rfl)]
      exact k96
  · change 12 ≤ t at h1
    change t < 17 at h2
    change zw1 W a at h3
    change zw0 W c at h4
    rw [if_neg (show ¬ 17 ≤ t by omega)] at ht hi hq hs
    rw [if_neg (show ¬ 17 ≤ t by omega), if_neg (show ¬ 17 ≤ t by omega)]
    have ez : (zt1 nm a ++ [(zg t, (0 : Int32))] ++ zt0 nm c).length = (zt1 nm a).length + 1 + (zt0 nm c).length := by
      rw [List.length_append, List.length_append]; rfl
    have es : (zc1 a ++ zc0 c ++ [(zg t, (0 : Int32))]).length = (zc1 a).length + 1 + 1 := by
      rw [List.length_append, List.length_append]; rfl
    rw [ez] at hi hq ⊢
    rw [es] at hs
    have ta := ht.l.l
    have tm := ht.l.r.one.1
    have tc := ht.r
    rw [List.length_append] at tc
    change zat tS tV (i + ((zt1 nm a).length + 1)) (zt0 nm c) at tc
    have hgt : 36 ≤ zg t ∧ zg t ≤ 40 := by
      have : t = 12 ∨ t = 13 ∨ t = 14 ∨ t = 15 ∨ t = 16 := by omega
      rcases this with rfl | rfl | rfl | rfl | rfl <;> decide
    have hh := zt1h h3 ta
    obtain ⟨x1, a1, a2⟩ := zp1s h hN h3 ta (by omega) (by omega) 10 hp (by rw [tm]; exact zq_of (by omega))
    obtain ⟨x2, b1, b2, -⟩ := zst a2.1 (by omega)
    have k2 := a2.tr b2
    rw [List.append_nil] at k2
    obtain ⟨x3, c1, c2⟩ := zp0s k2.1 (k2.N hN) h4 (by rw [show i + (zt1 nm a).length + 1 = i + ((zt1 nm a).length + 1) by omega]; exact tc) (by omega) (by rw [l0]; omega) 11 (nI p) (by rw [show i + (zt1 nm a).length + 1 + (zt0 nm c).length = i + ((zt1 nm a).length + 1 + (zt0 nm c).length) by omega]; exact hq)
    have k3 := k2.tr c2
    obtain ⟨x4, d1, d2⟩ := zad k3.1 (by rw [List.length_append, l0]; omega) (show zg t < 46 by omega) 0
    have k4 := k3.tr d2
    refine ⟨x4, ?_, by rw [show i + ((zt1 nm a).length + 1 + (zt0 nm c).length) = i + (zt1 nm a).length + 1 + (zt0 nm c).length by omega]; exact k4⟩
    rw [f_X2_readSingle, h5, if_neg hh.1, if_neg hh.2.1, if_neg hh.2.2.1, if_neg hh.2.2.2, a1, pp_b, zcmpr (by rw [tm]; exact hgt) a2.1.sg, pp_b, if_neg (show ¬ (1 : Int32) = 0 by decide), b1, pp_b]
    unfold f_X2_readSingle_148
    rw [c1, pp_b, k3.1.bk, if_pos (pp_k7 hb), a2.1.sg, tm, d1]
    rfl
theorem zp3 {e : Z3} (h : zS tS tV b v i s x) (hN : zN v W nm x) (he : zw3 W e) (ht : zat tS tV i (zt3 nm e)) (hi : i + (zt3 nm e).length ≤ 400) (hs : s + (zc3 e).length ≤ 400) (n : Nat) {p : Nat} (hp : p < 6) (hq : zq (tS (i + (zt3 nm e).length))) : ∃ x', f_X2_readSingle (n + 2) (nI p) x = some x' ∧ zX tS tV b v s (zc3 e) (i + (zt3 nm e).length) x x' := by
  obtain ⟨t, a, c⟩ := e
  have hd : ∀ x1 : CS, f_X2_requireDepth (nI p) x1 = some x1 := fun x1 => by
    unfold f_X2_requireDepth
    rw [if_pos (show nI p < (8 : Int32) from nI_lt (b := 8) (by omega) (by omega))]
  have h5 := h.sg
  have hb := h.hb
  unfold zt3 at ht hi hq
  unfold zc3 at hs
  unfold zt3 zc3
  change zat tS tV i (if t = 0 then zt2 nm a else if t = 19 then [(21, 0)] ++ zt2 nm a else [(28, 0)] ++ zt2 nm a ++ [(zg t, 0)] ++ zt2 nm c ++ [(29, 0)]) at ht
  change i + (if t = 0 then zt2 nm a else if t = 19 then [(21, 0)] ++ zt2 nm a else [(28, 0)] ++ zt2 nm a ++ [(zg t, 0)] ++ zt2 nm c ++ [(29, 0)]).length ≤ 400 at hi
  change zq (tS (i + (if t = 0 then zt2 nm a else if t = 19 then [(21, 0)] ++ zt2 nm a else [(28, 0)] ++ zt2 nm a ++ [(zg t, 0)] ++ zt2 nm c ++ [(29, 0)]).length)) at hq
  change s + (if t = 0 then zc2 a else if t = 19 then zc2 a ++ [(21, 0)] else zc2 a ++ zc2 c ++ [(zg t, 0)]).length ≤ 400 at hs
  show ∃ x', _ = some x' ∧ zX tS tV b v s (if t = 0 then zc2 a else if t = 19 then zc2 a ++ [(21, 0)] else zc2 a ++ zc2 c ++ [(zg t, 0)]) (i + (if t = 0 then zt2 nm a else if t = 19 then [(21, 0)] ++ zt2 nm a else [(28, 0)] ++ zt2 nm a ++ [(zg t, 0)] ++ zt2 nm c ++ [(29, 0)]).length) x x'
  rcases he with ⟨h1, h2⟩ | ⟨h1, h2, h3, h4⟩
  · change t = 0 at h1
    rw [if_pos h1] at ht hi hs hq
    rw [if_pos h1, if_pos h1]
    exact zp2 h hN h2 ht hi hs (n + 1) (by omega) hq
  · change 19 ≤ t at h1
    change t < 22 at h2
    change zw2 W a at h3
    change t ≠ 19 → zw2 W c at h4
    rw [if_neg (show ¬ t = 0 by omega)] at ht hi hs hq
    rw [if_neg (show ¬ t = 0 by omega), if_neg (show ¬ t = 0 by omega)]
    by_cases h55 : t = 19
    · rw [if_pos h55] at ht hi hs hq
      rw [if_pos h55, if_pos h55]
      rw [List.length_append] at hi hq hs ⊢
      have hi' : i + (1 + (zt2 nm a).length) ≤ 400 := hi
      have hs' : s + ((zc2 a).length + 1) ≤ 400 := hs
      have hq' : zq (tS (i + (1 + (zt2 nm a).length))) := hq
      have g1 := ht.l.one.1
      obtain ⟨x1, a1, a2, -⟩ := zst h (by omega)
      obtain ⟨x2, b1, b2⟩ := zp2 (p := p + 1) a2.1 (a2.N hN) h3 ht.r (by show i + 1 + _ ≤ 400; omega) (by show s + 0 + _ ≤ 400; omega) n (by omega) (by show zq (tS (i + 1 + _)); rw [show i + 1 + (zt2 nm a).length = i + (1 + (zt2 nm a).length) by omega]; exact hq')
      have k2 := a2.tr b2
      obtain ⟨x3, c1, c2⟩ := zad k2.1 (by show s + (zc2 a).length < 400; omega) (show 21 < 46 by omega) 0
      have k3 := k2.tr c2
      refine ⟨x3, ?_, ?_⟩
      · rw [f_X2_readSingle, h5, g1, if_pos rfl, hd, pp_b, a1, pp_b, nI_1, b1, pp_b, k2.1.bk, if_pos (pp_k7 hb), c1]
        rfl
      · rw [show i + ([(21, (0 : Int32))].length + (zt2 nm a).length) = i + 1 + (zt2 nm a).length by show i + (1 + _) = _; omega]
        exact k3
    · have h4' := h4 h55
      rw [if_neg h55] at ht hi hs hq
      rw [if_neg h55, if_neg h55]
      have ez : (([(28, (0 : Int32))] ++ zt2 nm a ++ [(zg t, 0)] ++ zt2 nm c ++ [(29, 0)]).length) = 1 + (zt2 nm a).length + 1 + (zt2 nm c).length + 1 := by
        rw [List.length_append, List.length_append, List.length_append, List.length_append]; rfl
      have es : (zc2 a ++ zc2 c ++ [(zg t, (0 : Int32))]).length = (zc2 a).length + (zc2 c).length + 1 := by
        rw [List.length_append, List.length_append]; rfl
      rw [ez] at hi hq ⊢
      rw [es] at hs
      have g1 := ht.l.l.l.l.one.1
      have ta := ht.l.l.l.r
      have tm := ht.l.l.r.one.1
      have tc := ht.l.r
      have te := ht.r.one.1
      rw [List.length_append] at tm
      rw [List.length_append, List.length_append] at tc
      rw [List.length_append, List.length_append, List.length_append] at te
      change zat tS tV (i + 1) (zt2 nm a) at ta
      change tS (i + (1 + (zt2 nm a).length)) = zg t at tm
      change zat tS tV (i + (1 + (zt2 nm a).length + 1)) (zt2 nm c) at tc
      change tS (i + (1 + (zt2 nm a).length + 1 + (zt2 nm c).length)) = 29 at te
      have em : tS (i + 1 + (zt2 nm a).length) = zg t := by rw [show i + 1 + (zt2 nm a).length = i + (1 + (zt2 nm a).length) by omega]; exact tm
      have ee : tS (i + 1 + (zt2 nm a).length + 1 + (zt2 nm c).length) = 29 := by rw [show i + 1 + (zt2 nm a).length + 1 + (zt2 nm c).length = i + (1 + (zt2 nm a).length + 1 + (zt2 nm c).length) by omega]; exact te
      have hgt : (t = 20 ∧ zg t = 22) ∨ (t = 21 ∧ zg t = 23) := by
        have : t = 20 ∨ t = 21 := by omega
        rcases this with rfl | rfl
        · exact Or.inl ⟨rfl, rfl⟩
        · exact Or.inr ⟨rfl, rfl⟩
      obtain ⟨x1, a1, a2, -⟩ := zst h (by omega)
      obtain ⟨x2, b1, b2⟩ := zp2 (p := p + 1) a2.1 (a2.N hN) h3 ta (by omega) (by show s + 0 + _ ≤ 400; omega) n (by omega) (by rw [em]; exact zq_of (by omega))
      have k2 := a2.tr b2
      obtain ⟨x3, c1, c2, -⟩ := zst b2.1 (by omega)
      have k3 := k2.tr c2
      rw [List.append_nil] at k3
      obtain ⟨x4, d1, d2⟩ := zp2 (p := p + 1) k3.1 (k3.N hN) h4' (by rw [show i + 1 + (zt2 nm a).length + 1 = i + (1 + (zt2 nm a).length + 1) by omega]; exact tc) (by omega) (by show s + (zc2 a).length + _ ≤ 400; omega) n (by omega) (by rw [ee]; exact zq_of (by omega))
      have k4 := k3.tr d2
      obtain ⟨x5, e1, e2⟩ := zad k4.1 (by rw [List.length_append, List.length_append]; show s + (0 + (zc2 a).length + (zc2 c).length) < 400; omega) (show zg t < 46 by omega) 0
      have k5 := k4.tr e2
      obtain ⟨x6, j1, j2, -⟩ := zex k5.1 (by omega) ee
      have k6 := k5.tr j2
      rw [List.append_nil] at k6
      refine ⟨x6, ?_, by rw [show i + (1 + (zt2 nm a).length + 1 + (zt2 nm c).length + 1) = i + 1 + (zt2 nm a).length + 1 + (zt2 nm c).length + 1 by omega]; exact k6⟩
      have kT : f_X2_readTest (f_X2_readSingle (n + 1)) (nI (p + 1)) x1 = some x5 := by
        have q29 : ∀ k : Nat, tS (i + 1 + (zt2 nm a).length + 1 + (zt2 nm c).length) = k → k = 29 := fun k q => by rw [ee] at q; exact q.symm
        rcases hgt with ⟨-, g⟩ | ⟨-, g⟩
        · rw [g] at em e1
          unfold f_X2_readTest
          have kB : f_X2_readBoth (f_X2_readSingle (n + 1)) (nI (p + 1)) x1 = some x5 := by
            unfold f_X2_readBoth
            rw [b1, pp_b, show g_fuel = 4094 + 1 + 1 from rfl, f_X2_readBoth_7, if_neg (by decide), b2.1.sg, if_pos em, c1, pp_b, d1, pp_b, k4.1.bk, if_pos (pp_k7 hb), e1, pp_b, f_X2_readBoth_7, if_neg (by decide), k5.1.sg, if_neg (fun q => by have := q29 _ q; omega)]
          rw [kB, pp_b, show g_fuel = 4095 + 1 from rfl, f_X2_readTest_7, if_neg (by decide), k5.1.sg, if_neg (fun q => by have := q29 _ q; omega)]
        · rw [g] at em e1
          unfold f_X2_readTest
          have kB2 := zr_B (sgl := f_X2_readSingle (n + 1)) (p := nI (p + 1)) d1 d2 (fun q => by have := q29 _ q; omega)
          rw [zr_B b1 b2 (by rw [em]; decide), pp_b, show g_fuel = 4094 + 1 + 1 from rfl, f_X2_readTest_7, if_neg (by decide), b2.1.sg, if_pos em, c1, pp_b, kB2, pp_b, k4.1.bk, if_pos (pp_k7 hb), e1, pp_b, f_X2_readTest_7, if_neg (by decide), k5.1.sg, if_neg (fun q => by have := q29 _ q; omega)]
      rw [f_X2_readSingle, h5, g1, if_neg (show ¬ 28 = 21 by decide), if_pos rfl, hd, pp_b, a1, pp_b, nI_1, kT, pp_b, j1]
      rfl
end ZPU
