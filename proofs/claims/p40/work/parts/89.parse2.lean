/-! the class reads sums and tests -/
section ZPT
variable {tS : Nat → Nat} {tV : Nat → Int32} {b v i i' i'' s W : Nat} {L M : ZC} {x y z : CS} {nm : Nat → Nat}
theorem zS.hb (h : zS tS tV b v i s x) : b = 20 ∨ b = 70 := h.2.2.2.2.2.2.2.2.2.1
theorem zS.hv (h : zS tS tV b v i s x) : v = 41 ∨ v = 91 := h.2.2.2.2.2.2.2.2.2.2
theorem zS.sg (h : zS tS tV b v i s x) : x.2 162 5 = tS i := h.2.2.2.2.1
theorem zS.bk (h : zS tS tV b v i s x) : x.2 162 1 = b := h.2.2.2.2.2.2.1
theorem zX.N (k : zX tS tV b v s L i' x y) (hN : zN v W nm x) : zN v W nm y := hN.G k.1.hb k.1.hv k.2.2.2
/-- an operator and a second value, joined behind -/
theorem zr_P2 {val : Int32 → CS → Option CS} {p : Int32} {g : Nat} (h : zS tS tV b v i s x) (hg : tS i = g) (hg2 : g = 34 ∨ g = 35) (hi : i < 400) (hv : ∀ x1, zX tS tV b v s [] (i + 1) x x1 → ∃ x2, val p x1 = some x2 ∧ zX tS tV b v s L i' x1 x2) (hs : s + L.length < 400) (hq : tS i' ≠ 34 ∧ tS i' ≠ 35) : ∃ x', f_X2_readProduct_7 val g_fuel p 0 x = some x' ∧ zX tS tV b v s (L ++ [(g, 0)]) i' x x' := by
  obtain ⟨x1, a1, a2, -⟩ := zst h hi
  obtain ⟨x2, b1, b2⟩ := hv x1 a2
  obtain ⟨x3, c1, c2⟩ := zad b2.1 hs (show g < 46 by omega) 0
  have hX : zX tS tV b v s (L ++ [(g, 0)]) i' x x3 := (a2.tr b2).tr c2
  refine ⟨x3, ?_, hX⟩
  have k34 : f_X2_readProduct_34 val (f_X2_readProduct_7 val 4095) p 0 x = some x3 := by
    unfold f_X2_readProduct_34
    rw [a1, pp_b, b1, pp_b, b2.1.bk, if_pos (pp_k7 h.hb), h.sg, hg, c1, pp_b]
    exact zr_P7 hX.1 hq 4094 _ (by decide)
  rw [show g_fuel = 4095 + 1 from rfl, f_X2_readProduct_7, if_neg (by decide), h.sg, hg]
  rcases hg2 with rfl | rfl
  · rw [if_pos rfl]; exact k34
  · rw [if_neg (by decide), if_pos rfl]; exact k34
theorem zr_S2 {val : Int32 → CS → Option CS} {p : Int32} {g : Nat} (h : zS tS tV b v i s x) (hg : tS i = g) (hg2 : g = 32 ∨ g = 33) (hi : i < 400) (hv : ∀ x1, zX tS tV b v s [] (i + 1) x x1 → ∃ x2, val p x1 = some x2 ∧ zX tS tV b v s L i' x1 x2) (hs : s + L.length < 400) (hq : zq (tS i')) : ∃ x', f_X2_readSum_7 val g_fuel p 0 x = some x' ∧ zX tS tV b v s (L ++ [(g, 0)]) i' x x' := by
  obtain ⟨x1, a1, a2, -⟩ := zst h hi
  obtain ⟨x2, b1, b2⟩ := hv x1 a2
  obtain ⟨x3, c1, c2⟩ := zad b2.1 hs (show g < 46 by omega) 0
  have hX : zX tS tV b v s (L ++ [(g, 0)]) i' x x3 := (a2.tr b2).tr c2
  refine ⟨x3, ?_, hX⟩
  have k34 : f_X2_readSum_34 val (f_X2_readSum_7 val 4095) p 0 x = some x3 := by
    unfold f_X2_readSum_34
    rw [a1, pp_b, zr_P b1 b2 ⟨hq.2.2.1, hq.2.2.2⟩, pp_b, b2.1.bk, if_pos (pp_k7 h.hb), h.sg, hg, c1, pp_b]
    exact zr_S7 hX.1 ⟨hq.1, hq.2.1⟩ 4094 _ (by decide)
  rw [show g_fuel = 4095 + 1 from rfl, f_X2_readSum_7, if_neg (by decide), h.sg, hg]
  rcases hg2 with rfl | rfl
  · rw [if_pos rfl]; exact k34
  · rw [if_neg (by decide), if_pos rfl]; exact k34
/-- two values joined by an operator -/
theorem zr_bi {val : Int32 → CS → Option CS} {p : Int32} {g j : Nat} (h : zS tS tV b v i s x) (hv1 : ∃ x1, val p x = some x1 ∧ zX tS tV b v s L j x x1) (hg : tS j = g) (hg2 : 32 ≤ g ∧ g ≤ 35) (hj : j < 400) (hv2 : ∀ x1, zX tS tV b v s L (j + 1) x x1 → ∃ x2, val p x1 = some x2 ∧ zX tS tV b v (s + L.length) M i' x1 x2) (hs : s + L.length + M.length < 400) (hq : zq (tS i')) : ∃ x', f_X2_readSum val p x = some x' ∧ zX tS tV b v s (L ++ M ++ [(g, 0)]) i' x x' := by
  obtain ⟨x1, a1, a2⟩ := hv1
  have hv3 : ∀ x2, zX tS tV b v (s + L.length) [] (j + 1) x1 x2 → ∃ x3, val p x2 = some x3 ∧ zX tS tV b v (s + L.length) M i' x2 x3 := fun x2 h2 => hv2 x2 (by have := a2.tr h2; rw [List.append_nil] at this; exact this)
  by_cases hp : g = 34 ∨ g = 35
  · obtain ⟨x2, b1, b2⟩ := zr_P2 a2.1 hg hp hj hv3 hs ⟨hq.2.2.1, hq.2.2.2⟩
    have hX := a2.tr b2
    rw [← List.append_assoc] at hX
    refine ⟨x2, ?_, hX⟩
    unfold f_X2_readSum f_X2_readProduct
    rw [a1, pp_b, b1, pp_b]
    exact zr_S7 hX.1 ⟨hq.1, hq.2.1⟩ 4095 0 (by decide)
  · obtain ⟨x2, b1, b2⟩ := zr_S2 a2.1 hg (by omega) hj hv3 hs hq
    have hX := a2.tr b2
    rw [← List.append_assoc] at hX
    refine ⟨x2, ?_, hX⟩
    unfold f_X2_readSum
    rw [zr_P a1 a2 (by rw [hg]; omega), pp_b]
    exact b1
/-- brackets -/
theorem zq_of {k : Nat} (h : k < 32 ∨ 35 < k) : zq k := by unfold zq; omega
theorem zt0p (e : Z0) : 0 < (zt0 nm e).length := by
  unfold zt0
  repeat' split
  all_goals (show 0 < _; first | exact Nat.succ_pos _ | omega)
theorem zp1 {e : Z1} (h : zS tS tV b v i s x) (hN : zN v W nm x) (he : zw1 W e) (ht : zat tS tV i (zt1 nm e)) (hi : i + (zt1 nm e).length ≤ 400) (hs : s + (zc1 e).length ≤ 400) (n : Nat) {p : Nat} (hp : p < 7) : ∃ x', f_X2_readValue (n + 2) (nI p) x = some x' ∧ zX tS tV b v s (zc1 e) (i + (zt1 nm e).length) x x' := by
  obtain ⟨t, a, c⟩ := e
  have hd : ∀ x1 : CS, f_X2_requireDepth (nI p) x1 = some x1 := fun x1 => by
    unfold f_X2_requireDepth
    rw [if_pos (show nI p < (8 : Int32) from nI_lt (b := 8) (by omega) (by omega))]
  have h5 := h.sg
  have hb := h.hb
  unfold zt1 at ht hi
  unfold zc1 at hs
  unfold zt1 zc1
  change zat tS tV i (if t = 0 then zt0 nm a else if t = 5 then [(33, 0)] ++ zt0 nm a else if t < 8 then [(zg t, 0), (26, 0)] ++ zt0 nm a ++ [(31, 0)] ++ zt0 nm c ++ [(27, 0)] else [(26, 0)] ++ zt0 nm a ++ [(zg t, 0)] ++ zt0 nm c ++ [(27, 0)]) at ht
  change i + (if t = 0 then zt0 nm a else if t = 5 then [(33, 0)] ++ zt0 nm a else if t < 8 then [(zg t, 0), (26, 0)] ++ zt0 nm a ++ [(31, 0)] ++ zt0 nm c ++ [(27, 0)] else [(26, 0)] ++ zt0 nm a ++ [(zg t, 0)] ++ zt0 nm c ++ [(27, 0)]).length ≤ 400 at hi
  change s + (if t = 0 then zc0 a else if t = 5 then zc0 a ++ [(43, 0)] else zc0 a ++ zc0 c ++ [(zg t, 0)]).length ≤ 400 at hs
  show ∃ x', _ = some x' ∧ zX tS tV b v s (if t = 0 then zc0 a else if t = 5 then zc0 a ++ [(43, 0)] else zc0 a ++ zc0 c ++ [(zg t, 0)]) (i + (if t = 0 then zt0 nm a else if t = 5 then [(33, 0)] ++ zt0 nm a else if t < 8 then [(zg t, 0), (26, 0)] ++ zt0 nm a ++ [(31, 0)] ++ zt0 nm c ++ [(27, 0)] else [(26, 0)] ++ zt0 nm a ++ [(zg t, 0)] ++ zt0 nm c ++ [(27, 0)]).length) x x'
  have l0 : ∀ u : Z0, (zc0 u).length = 1 := fun u => rfl
  rcases he with ⟨h1, h2⟩ | ⟨h1, h2, h3, h4⟩
  · change t = 0 at h1
    rw [if_pos h1] at ht hi hs
    rw [if_pos h1, if_pos h1]
    exact zp0 h hN h2 ht hi hs (n + 1) (nI p)
  · change 5 ≤ t at h1
    change t < 12 at h2
    change zw0 W a at h3
    change t ≠ 5 → zw0 W c at h4
    rw [if_neg (show ¬ t = 0 by omega)] at ht hi hs
    rw [if_neg (show ¬ t = 0 by omega), if_neg (show ¬ t = 0 by omega)]
    by_cases h55 : t = 5
    · -- minus
      rw [if_pos h55] at ht hi hs
      rw [if_pos h55, if_pos h55]
      rw [List.length_append, l0] at hs
      have hs' : s + 1 + 1 ≤ 400 := hs
      rw [List.length_append] at hi ⊢
      have hi' : i + (1 + (zt0 nm a).length) ≤ 400 := hi
      have h33 := ht.l.one.1
      obtain ⟨x1, a1, a2, -⟩ := zst h (by omega)
      obtain ⟨x2, b1, b2⟩ := zp0 a2.1 (a2.N hN) h3 ht.r (by show i + 1 + _ ≤ 400; omega) (by rw [l0]; show s + 0 + 1 ≤ 400; omega) n (nI p + 1)
      obtain ⟨x3, c1, c2⟩ := zad b2.1 (by rw [l0]; show s + 0 + 1 < 400; omega) (show 43 < 46 by omega) 0
      refine ⟨x3, ?_, ?_⟩
      · rw [f_X2_readValue, h5, h33, if_pos rfl, hd, pp_b, a1, pp_b, b1, pp_b, b2.1.bk, if_pos (pp_k7 hb), c1]
        rfl
      · have := (a2.tr b2).tr c2
        rw [show i + ([(33, (0 : Int32))].length + (zt0 nm a).length) = i + 1 + (zt0 nm a).length by show i + (1 + _) = _; omega]
        exact this
    · have h4' := h4 h55
      rw [if_neg h55] at ht hi hs
      rw [if_neg h55, if_neg h55]
      have hs' : s + (1 + 1 + 1) ≤ 400 := hs
      by_cases h8 : t < 8
      · -- the least or the greatest of two
        rw [if_pos h8] at ht hi
        rw [if_pos h8]
        have ez : (([(zg t, (0 : Int32)), (26, 0)] ++ zt0 nm a ++ [(31, 0)] ++ zt0 nm c ++ [(27, 0)]).length) = 2 + (zt0 nm a).length + 1 + (zt0 nm c).length + 1 := by
          rw [List.length_append, List.length_append, List.length_append, List.length_append]; rfl
        rw [ez] at hi ⊢
        obtain ⟨g1, -, g2⟩ := ht.l.l.l.l.c
        have g3 := g2.one.1
        have ta := ht.l.l.l.r
        have tm := ht.l.l.r.one.1
        have tc := ht.l.r
        have te := ht.r.one.1
        rw [List.length_append] at tm
        rw [List.length_append, List.length_append] at tc
        rw [List.length_append, List.length_append, List.length_append] at te
        change zat tS tV (i + 2) (zt0 nm a) at ta
        change tS (i + (2 + (zt0 nm a).length)) = 31 at tm
        change zat tS tV (i + (2 + (zt0 nm a).length + 1)) (zt0 nm c) at tc
        change tS (i + (2 + (zt0 nm a).length + 1 + (zt0 nm c).length)) = 27 at te
        obtain ⟨x1, a1, a2, -⟩ := zst h (by omega)
        obtain ⟨x2, b1, b2, -⟩ := zst a2.1 (by omega)
        have k2 := a2.tr b2
        obtain ⟨x3, c1, c2⟩ := zp0 k2.1 (k2.N hN) h3 (by rw [show i + 1 + 1 = i + 2 by omega]; exact ta) (by omega) (by rw [l0]; show s + 0 + 1 ≤ 400; omega) (n) (nI p + 1)
        have em : tS (i + 1 + 1 + (zt0 nm a).length) = 31 := by rw [show i + 1 + 1 + (zt0 nm a).length = i + (2 + (zt0 nm a).length) by omega]; exact tm
        have q3 := zr_S c1 c2 (by rw [em]; exact zq_of (by omega))
        have k3 := k2.tr c2
        obtain ⟨x4, d1, d2, -⟩ := zex k3.1 (by omega) em
        have k4 := k3.tr d2
        obtain ⟨x5, e1, e2⟩ := zp0 k4.1 (k4.N hN) h4' (by rw [show i + 1 + 1 + (zt0 nm a).length + 1 = i + (2 + (zt0 nm a).length + 1) by omega]; exact tc) (by omega) (by rw [l0]; show s + 1 + 1 ≤ 400; omega) (n) (nI p + 1)
        have ee : tS (i + 1 + 1 + (zt0 nm a).length + 1 + (zt0 nm c).length) = 27 := by rw [show i + 1 + 1 + (zt0 nm a).length + 1 + (zt0 nm c).length = i + (2 + (zt0 nm a).length + 1 + (zt0 nm c).length) by omega]; exact te
        have q5 := zr_S e1 e2 (by rw [ee]; exact zq_of (by omega))
        have k5 := k4.tr e2
        obtain ⟨x6, f1, f2, -⟩ := zex k5.1 (by omega) ee
        have k6 := k5.tr f2
        obtain ⟨x7, j1, j2⟩ := zad k6.1 (by show s + (1 + 1) < 400; omega) (show zg t < 46 by have : t = 6 ∨ t = 7 := (by omega); rcases this with rfl | rfl <;> decide) 0
        refine ⟨x7, ?_, ?_⟩
        · have kc : f_X2_readChoice (f_X2_readValue (n + 1)) (nI p) x = some x7 := by
            unfold f_X2_readChoice
            rw [a1, pp_b, a2.1.sg, if_pos g3]
            unfold f_X2_readChoice_23
            rw [hd, pp_b, b1, pp_b, q3, pp_b, d1, pp_b, q5, pp_b, f1, pp_b, k6.1.bk, if_pos (pp_k7 hb), h5, g1, j1]
            rfl
          have : t = 6 ∨ t = 7 := by omega
          rw [f_X2_readValue, h5, g1]
          rcases this with rfl | rfl
          · rw [if_neg (show ¬ zg 6 = 33 by decide), if_neg (show ¬ zg 6 = 26 by decide), if_pos (show zg 6 = 24 from rfl)]
            unfold f_X2_readValue_96
            rw [kc]
            rfl
          · rw [if_neg (show ¬ zg 7 = 33 by decide), if_neg (show ¬ zg 7 = 26 by decide), if_neg (show ¬ zg 7 = 24 by decide), if_pos (show zg 7 = 25 from rfl)]
            unfold f_X2_readValue_96
            rw [kc]
            rfl
        · have := k6.tr j2
          rw [show i + (2 + (zt0 nm a).length + 1 + (zt0 nm c).length + 1) = i + 1 + 1 + (zt0 nm a).length + 1 + (zt0 nm c).length + 1 by omega]
          exact this
      · -- a sum or a product in brackets
        rw [if_neg h8] at ht hi
        rw [if_neg h8]
        have ez : (([(26, (0 : Int32))] ++ zt0 nm a ++ [(zg t, 0)] ++ zt0 nm c ++ [(27, 0)]).length) = 1 + (zt0 nm a).length + 1 + (zt0 nm c).length + 1 := by
          rw [List.length_append, List.length_append, List.length_append, List.length_append]; rfl
        rw [ez] at hi ⊢
        have g1 := ht.l.l.l.l.one.1
        have ta := ht.l.l.l.r
        have tm := ht.l.l.r.one.1
        have tc := ht.l.r
        have te := ht.r.one.1
        rw [List.length_append] at tm
        rw [List.length_append, List.length_append] at tc
        rw [List.length_append, List.length_append, List.length_append] at te
        change zat tS tV (i + 1) (zt0 nm a) at ta
        change tS (i + (1 + (zt0 nm a).length)) = zg t at tm
        change zat tS tV (i + (1 + (zt0 nm a).length + 1)) (zt0 nm c) at tc
        change tS (i + (1 + (zt0 nm a).length + 1 + (zt0 nm c).length)) = 27 at te
        have hgt : 32 ≤ zg t ∧ zg t ≤ 35 := by
          have : t = 8 ∨ t = 9 ∨ t = 10 ∨ t = 11 := by omega
          rcases this with rfl | rfl | rfl | rfl <;> decide
        obtain ⟨x1, a1, a2, -⟩ := zst h (by omega)
        have em : tS (i + 1 + (zt0 nm a).length) = zg t := by rw [show i + 1 + (zt0 nm a).length = i + (1 + (zt0 nm a).length) by omega]; exact tm
        have ee : tS (i + 1 + (zt0 nm a).length + 1 + (zt0 nm c).length) = 27 := by rw [show i + 1 + (zt0 nm a).length + 1 + (zt0 nm c).length = i + (1 + (zt0 nm a).length + 1 + (zt0 nm c).length) by omega]; exact te
        have v1 := zp0 a2.1 (a2.N hN) h3 ta (by omega) (by rw [l0]; show s + 0 + 1 ≤ 400; omega) n (nI p + 1)
        obtain ⟨x2, b1, b2⟩ := zr_bi (val := f_X2_readValue (n + 1)) (M := zc0 c) (i' := i + 1 + (zt0 nm a).length + 1 + (zt0 nm c).length) a2.1 v1 em hgt (by omega) (fun x2 k2 => zp0 k2.1 (k2.N (a2.N hN)) h4' (by rw [show i + 1 + (zt0 nm a).length + 1 = i + (1 + (zt0 nm a).length + 1) by omega]; exact tc) (by omega) (by rw [l0, l0]; show s + 0 + 1 + 1 ≤ 400; omega) n (nI p + 1)) (by rw [l0, l0]; show s + 0 + 1 + 1 < 400; omega) (by rw [ee]; exact zq_of (by omega))
        have k2 := a2.tr b2
        obtain ⟨x3, c1, c2, -⟩ := zex k2.1 (by omega) ee
        refine ⟨x3, ?_, ?_⟩
        · rw [f_X2_readValue, h5, g1, if_neg (show ¬ 26 = 33 by decide), if_pos rfl, hd, pp_b, a1, pp_b, b1, pp_b, c1]
          rfl
        · have := k2.tr c2
          rw [List.append_nil] at this
          rw [show i + (1 + (zt0 nm a).length + 1 + (zt0 nm c).length + 1) = i + 1 + (zt0 nm a).length + 1 + (zt0 nm c).length + 1 by omega]
          exact this
/-- a sum as the law tells it -/
theorem zp1s {e : Z1} (h : zS tS tV b v i s x) (hN : zN v W nm x) (he : zw1 W e) (ht : zat tS tV i (zt1 nm e)) (hi : i + (zt1 nm e).length ≤ 400) (hs : s + (zc1 e).length ≤ 400) (n : Nat) {p : Nat} (hp : p < 7) (hq : zq (tS (i + (zt1 nm e).length))) : ∃ x', f_X2_readSum (f_X2_readValue (n + 2)) (nI p) x = some x' ∧ zX tS tV b v s (zc1 e) (i + (zt1 nm e).length) x x' := by
  obtain ⟨x', e1, e2⟩ := zp1 h hN he ht hi hs n hp
  exact ⟨x', zr_S e1 e2 hq, e2⟩
theorem zp0s {e : Z0} (h : zS tS tV b v i s x) (hN : zN v W nm x) (he : zw0 W e) (ht : zat tS tV i (zt0 nm e)) (hi : i + (zt0 nm e).length ≤ 400) (hs : s + (zc0 e).length ≤ 400) (n : Nat) (p : Int32) (hq : zq (tS (i + (zt0 nm e).length))) : ∃ x', f_X2_readSum (f_X2_readValue (n + 1)) p x = some x' ∧ zX tS tV b v s (zc0 e) (i + (zt0 nm e).length) x x' := by
  obtain ⟨x', e1, e2⟩ := zp0 h hN he ht hi hs n p
  exact ⟨x', zr_S e1 e2 hq, e2⟩
end ZPT
