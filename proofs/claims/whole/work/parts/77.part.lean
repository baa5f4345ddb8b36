/-! a part of a word: a beat, a glide or a rest, so many times -/
def pp_PF (ph w : Nat) (x x1 : CS) (y y1 : MS) : Prop := (∀ i, i ≠ 162 → i ≠ ph → i ≠ ph + 1 → x1.1 i = x.1 i) ∧ (∀ i, i ≠ 162 → x1.2 i = x.2 i) ∧ (∀ j, j ≠ 5 → x1.2 162 j = x.2 162 j) ∧ (∀ i, i ≠ 120 → i ≠ 140 → i ≠ 141 → y1 i = y i) ∧ (∀ j, (j < 8 ∨ 12 < j) → y1 120 j = y 120 j) ∧ (∀ j, j ≠ w → y1 140 j = y 140 j) ∧ ∀ j, (j < 24 * w ∨ 24 * w + 24 ≤ j) → y1 141 j = y 141 j
theorem pp_PF.sf {ph w : Nat} {x x1 : CS} {y y1 : MS} (h : pp_SF x x1 y y1) : pp_PF ph w x x1 y y1 := ⟨fun i h1 _ _ => h.1 i h1, h.2.1, h.2.2.1, fun i h1 _ _ => h.2.2.2.1 i h1, h.2.2.2.2, fun j _ => by rw [h.2.2.2.1 140 (by omega)], fun j _ => by rw [h.2.2.2.1 141 (by omega)]⟩
theorem pp_PF.tr {ph w : Nat} {x x1 x2 : CS} {y y1 y2 : MS} (h : pp_PF ph w x x1 y y1) (k : pp_PF ph w x1 x2 y1 y2) : pp_PF ph w x x2 y y2 :=
  ⟨fun i a b c => (k.1 i a b c).trans (h.1 i a b c), fun i a => (k.2.1 i a).trans (h.2.1 i a), fun j a => (k.2.2.1 j a).trans (h.2.2.1 j a), fun i a b c => (k.2.2.2.1 i a b c).trans (h.2.2.2.1 i a b c), fun j a => (k.2.2.2.2.1 j a).trans (h.2.2.2.2.1 j a), fun j a => (k.2.2.2.2.2.1 j a).trans (h.2.2.2.2.2.1 j a), fun j a => (k.2.2.2.2.2.2 j a).trans (h.2.2.2.2.2.2 j a)⟩
theorem pp_PF.b {ph w : Nat} {x x1 : CS} {y y1 : MS} (h1 : ∀ i, i ≠ ph → i ≠ ph + 1 → x1.1 i = x.1 i) (h2 : x1.2 = x.2) (h3 : pp_FB w y y1) : pp_PF ph w x x1 y y1 := ⟨fun i _ b c => h1 i b c, fun i _ => by rw [h2], fun j _ => by rw [h2], fun i _ b c => h3.1 i b c, fun j _ => by rw [h3.1 120 (by omega) (by omega)], h3.2.1, h3.2.2⟩
def pp_RD (x : CS) (y : MS) (ph w : Nat) : Prop := ∃ p l, pp_RC x ph p l ∧ pp_RM y 139 w p l
theorem pp_RD.sf {ph w : Nat} {x x1 : CS} {y y1 : MS} (h : pp_RD x y ph w) (k : pp_SF x x1 y y1) (hp : ph ≠ 162) (hp2 : ph + 1 ≠ 162) : pp_RD x1 y1 ph w := by
  obtain ⟨p, l, h1, h2⟩ := h
  refine ⟨p, l, h1.e (k.1 _ hp) (k.1 _ hp2), ?_⟩
  unfold pp_RM at *
  rw [k.2.2.2.1 (139 + 1) (by omega), k.2.2.2.1 (139 + 2) (by omega)]
  exact h2
section PT
variable {n : Nat} {x0 : CS} {y0 : MS} {t : Nat → Nat} {T : Nat} {ph w : Nat}
/-- the beats, after a wrong token -/
theorem pp_p9Q {x : CS} {y : MS} {a c q a' c' q' : Int32} (hp : 40 < ph ∧ ph < 130) (h : pp_Q n x0 y0 x y) : ∃ x1, f_X3_addGlide ph a c q x = some x1 ∧ f_X15_part_95 g_fuel (nI w) a' c' q' 0 y = some y ∧ pp_PF ph w x x1 y y ∧ pp_Q n x0 y0 x1 y := by
  obtain ⟨x1, h1, h2, h3⟩ := pp_gldT (ph := ph) (a := a) (c := c) (q := q) (x := x)
  obtain ⟨q1, q2, q3, -⟩ := pp_Qr h
  exact ⟨x1, h1, pp_p95 (fun u => absurd (q3.symm.trans u.1) (by decide)), pp_PF.b h2 h3 (pp_FB.rf w y), h.sf (h2 162 (by omega) (by omega)) h3 (h2 5 (by omega) (by omega)) (h2 7 (by omega) (by omega)) rfl (fun _ _ _ => rfl)⟩
theorem pp_p98Q {x : CS} {y : MS} {a c a' c' : Int32} (hF : pp_TF x0 y0 t T n) (hp : 40 < ph ∧ ph < 130) (hw : w ≤ 8) (h : pp_Q n x0 y0 x y) : ∃ x1, f_X2_readPart_98 ph a c x = some x1 ∧ f_X15_part_63 (nI w) a' c' y = some y ∧ pp_PF ph w x x1 y y ∧ pp_Q n x0 y0 x1 y := by
  obtain ⟨e1, e2⟩ := pp_kexQ (s := 3) (a := 3) h (by decide)
  obtain ⟨n1, qm, n2⟩ := pp_numQ (lo := 1) (hc := g_min (9 : Int32) ((24 : Int32) - (x.1 ph 1))) (hm := g_min (9 : Int32) ((24 : Int32) - (y 140 w))) hF h
  obtain ⟨x1, a1, a2, a3, a4⟩ := pp_p9Q (w := w) (a := a) (c := c) (q := 0) (a' := a') (c' := c') (q' := qm) hp h
  refine ⟨x1, ?_, ?_, a3, a4⟩
  · unfold f_X2_readPart_98
    rw [e1, pp_b, n1, pp_b, a1]; rfl
  · unfold f_X15_part_63
    rw [e2, pp_b, if_pos ((pp_ok (by omega)).mpr (by omega)), nI_clamp (by omega), n2, pp_b, a2]
theorem pp_p98 {k : Nat} {x : CS} {y : MS} {a c a' c' : Int32} (hF : pp_TF x0 y0 t T n) (hp : 40 < ph ∧ ph < 130) (hw : w ≤ 8) (h : pp_kK n x0 y0 k x y) (hD : x.1 162 8 = 0 → w < 8 ∧ pp_RD x y ph w) (hA : x.1 162 8 = 0 → a = a' ∧ c = c' ∧ (∃ e, e ≤ 40 ∧ a = nI e) ∧ ∃ e, e ≤ 40 ∧ c = nI e) : ∃ x1 y1, f_X2_readPart_98 ph a c x = some x1 ∧ f_X15_part_63 (nI w) a' c' y = some y1 ∧ pp_PF ph w x x1 y y1 ∧ ((∃ k1, k < k1 ∧ k1 ≤ n ∧ pp_kK n x0 y0 k1 x1 y1 ∧ (x1.1 162 8 = 0 → x.1 162 8 = 0 ∧ ∃ p l, 0 < l ∧ pp_RC x1 ph p l ∧ pp_RM y1 139 w p l)) ∨ pp_Q n x0 y0 x1 y1) := by
  have hok := (pp_ok (k := w) (n := 10) (by omega)).mpr (by omega)
  obtain ⟨x1, y1, e1, e2, e3, e4⟩ := pp_kex (s := 3) hF h (by omega)
  unfold f_X2_readPart_98 f_X15_part_63
  rw [e1, pp_b, show (3 : Int32) = nI (pp_tr 3) from rfl, e2, pp_b, if_pos hok, nI_clamp (by omega)]
  rcases e4 with ⟨e5, e6, e7, e8⟩ | hq
  · have hD1 : x1.1 162 8 = 0 → w < 8 ∧ pp_RD x1 y1 ph w := fun q => by
      obtain ⟨d1, d2⟩ := hD (e8.symm.trans q)
      exact ⟨d1, d2.sf e3 (by omega) (by omega)⟩
    obtain ⟨x2, y2, qc, qm, n1, n2, n3, n4⟩ := pp_num (lo := 1) (hc := g_min (9 : Int32) ((24 : Int32) - (x1.1 ph 1))) (hm := g_min (9 : Int32) ((24 : Int32) - (y1 140 w))) hF e7 (fun q => by
      obtain ⟨-, p, l, d2, d3⟩ := hD1 q
      rw [d2.1, show y1 140 w = nI l from d3.1])
    rw [n1, pp_b, n2, pp_b]
    rcases n4 with ⟨n5, n6, n7⟩ | ⟨hq, n8⟩
    · by_cases h0 : x2.1 162 8 = 0
      · obtain ⟨b1, b2, b3, b4⟩ := n7 h0
        obtain ⟨hw8, p, l, d2, d3⟩ := hD1 b1
        obtain ⟨f1, f2, ⟨ae, f3, f4⟩, ce, f5, f6⟩ := hA (e8.symm.trans b1)
        have hl24 := d2.2.1
        rw [d2.1] at b4
        have hmin : g_min (9 : Int32) ((24 : Int32) - nI l) = nI (min 9 (24 - l)) := by
          rw [show (24 : Int32) = nI 24 from rfl, pk_sub hl24, show (9 : Int32) = nI 9 from rfl, pp_min (by omega) (by omega)]
        rw [hmin] at b4
        obtain ⟨m, m1, m2⟩ := nI_of (x := qc) (fun u => b3 (Int32.lt_trans u (by decide)))
        have hm1 : 1 ≤ m := by
          rcases Nat.lt_or_ge m 1 with u | u
          · exact absurd (show qc < 1 by rw [m2]; exact nI_lt (b := 1) u (by omega)) b3
          · exact u
        have hm9 : m ≤ min 9 (24 - l) := by
          rcases Nat.lt_or_ge (min 9 (24 - l)) m with u | u
          · exact absurd (show nI (min 9 (24 - l)) < qc by rw [m2]; exact nI_lt u m1) b4
          · exact u
        have r2 : pp_RC x2 ph p l := d2.e (n3.1 _ (by omega)) (n3.1 _ (by omega))
        have r3 : pp_RM y2 139 w p l := by
          unfold pp_RM at *
          rw [n3.2.2.2.1 (139 + 1) (by omega), n3.2.2.2.1 (139 + 2) (by omega)]
          exact d3
        obtain ⟨-, -, k9, -⟩ := pp_Kk n6
        have k10 : y2 120 10 = 0 := by
          rcases pp_Ke n6 with ⟨-, u⟩ | ⟨er, u1, u2, u3, u4⟩
          · exact u
          · exact absurd (u3.symm.trans h0) (nI_ne0 u1 (by omega))
        obtain ⟨x3, y3, p1, t1, t2, t3, t4, t5, t6, t7⟩ := pp_gldO (ph := ph) (w := w) (a := ae) (c := ce) (m := m) (l := l) hw8 f3 f5 (by omega) (by omega) r2 r3 k9 k10
        have e162 : x3.1 162 = x2.1 162 := t5 162 (by omega) (by omega)
        rw [← b2, ← f1, ← f2, f4, f6, m2, t1, t2]
        refine ⟨x3, y3, rfl, rfl, ((pp_PF.sf e3).tr (pp_PF.sf n3)).tr (pp_PF.b t5 t6 t7), Or.inl ⟨k + 1 + 1, by omega, by omega, n6.sf e162 (by rw [t6]) (by rw [t6]) (t5 5 (by omega) (by omega)) (t5 7 (by omega) (by omega)) (t7.1 120 (by omega) (by omega)) (fun i _ _ => t7.1 i (by omega) (by omega)), fun _ => ⟨e8.symm.trans b1, p1, l + m, by omega, t3, t4⟩⟩⟩
      · obtain ⟨x3, t1, t5, t6⟩ := pp_gldT (ph := ph) (a := a) (c := c) (q := qc) (x := x2)
        have e162 : x3.1 162 = x2.1 162 := t5 162 (by omega) (by omega)
        have h10 : ¬ (y2 120 9 = 0 ∧ y2 120 10 = 0) := fun u => by
          rcases pp_Ke n6 with ⟨v, -⟩ | ⟨er, u1, u2, u3, u4⟩
          · exact h0 v
          · exact absurd (u4.symm.trans u.2) (nI_ne0 u1 (by omega))
        rw [t1, pp_p95 h10]
        exact ⟨x3, y2, rfl, rfl, ((pp_PF.sf e3).tr (pp_PF.sf n3)).tr (pp_PF.b t5 t6 (pp_FB.rf w y2)), Or.inl ⟨k + 1 + 1, by omega, by omega, n6.sf e162 (by rw [t6]) (by rw [t6]) (t5 5 (by omega) (by omega)) (t5 7 (by omega) (by omega)) rfl (fun _ _ _ => rfl), fun q => absurd (by rw [e162] at q; exact q) h0⟩⟩
    · obtain ⟨x3, t1, t2, t3, t4⟩ := pp_p9Q (ph := ph) (w := w) (a := a) (c := c) (q := qc) (a' := a') (c' := c') (q' := qm) hp hq
      rw [t1, t2]
      exact ⟨x3, y2, rfl, rfl, ((pp_PF.sf e3).tr (pp_PF.sf n3)).tr t3, Or.inr t4⟩
  · obtain ⟨n1, qm, n2⟩ := pp_numQ (lo := 1) (hc := g_min (9 : Int32) ((24 : Int32) - (x1.1 ph 1))) (hm := g_min (9 : Int32) ((24 : Int32) - (y1 140 w))) hF hq
    obtain ⟨x3, t1, t2, t3, t4⟩ := pp_p9Q (ph := ph) (w := w) (a := a) (c := c) (q := 0) (a' := a') (c' := c') (q' := qm) hp hq
    rw [n1, pp_b, n2, pp_b, t1, t2]
    exact ⟨x3, y1, rfl, rfl, (pp_PF.sf e3).tr t3, Or.inr t4⟩
theorem pp_b40 {q : Int32} (h1 : ¬ q < 1) (h2 : ¬ (40 : Int32) < q) : ∃ e, e ≤ 40 ∧ q = nI e := by
  obtain ⟨m, m1, m2⟩ := nI_of (x := q) (fun u => h1 (Int32.lt_trans u (by decide)))
  refine ⟨m, ?_, m2⟩
  rcases Nat.lt_or_ge 40 m with u | u
  · exact absurd (show (40 : Int32) < q by rw [m2]; exact nI_lt (a := 40) u m1) h2
  · exact u
theorem pp_prtQ {v o : Nat} {x : CS} {y : MS} (hF : pp_TF x0 y0 t T n) (hv : v = 41 ∨ v = 91) (hr : x.2 162 2 = v) (hw : w ≤ 8) (ho : f_X9_word v (x.1 v 2 - 1) x = some o) (ho2 : kd o = 10) (ho3 : v < o ∧ o + 2 ≤ v + 28) (h : pp_Q n x0 y0 x y) : ∃ x1, f_X2_readPart x = some x1 ∧ f_X15_part (nI w) y = some y ∧ pp_PF (o + 1) w x x1 y y ∧ pp_Q n x0 y0 x1 y := by
  obtain ⟨q1, q2, q3, -⟩ := pp_Qr h
  obtain ⟨e1, e2⟩ := pp_kexQ (s := 6) (a := 6) h (by decide)
  obtain ⟨x1, a1, a2, a3, a4⟩ := pp_p98Q (ph := o + 1) (w := w) (a := 0) (c := 0) (a' := 0) (c' := 0) hF (by omega) hw h
  refine ⟨x1, ?_, ?_, a3, a4⟩
  · unfold f_X2_readPart
    rw [hr, if_pos (pp_k9 hv), ho, pp_b, if_pos ho2, q1, if_neg (by decide), if_neg (by decide), e1, pp_b, a1]
  · unfold f_X15_part
    rw [pp_takesW q3, pp_b, if_pos rfl, pp_takesW q3, pp_b, if_pos rfl, e2, pp_b, a2]
theorem pp_prt {v o k : Nat} {x : CS} {y : MS} (hF : pp_TF x0 y0 t T n) (hv : v = 41 ∨ v = 91) (hr : x.2 162 2 = v) (hw : w ≤ 8) (ho : f_X9_word v (x.1 v 2 - 1) x = some o) (ho2 : kd o = 10) (ho3 : v < o ∧ o + 2 ≤ v + 28) (h : pp_kK n x0 y0 k x y) (hD : x.1 162 8 = 0 → w < 8 ∧ pp_RD x y (o + 1) w) : ∃ x1 y1, f_X2_readPart x = some x1 ∧ f_X15_part (nI w) y = some y1 ∧ pp_PF (o + 1) w x x1 y y1 ∧ ((∃ k1, k < k1 ∧ k1 ≤ n ∧ pp_kK n x0 y0 k1 x1 y1 ∧ (x1.1 162 8 = 0 → x.1 162 8 = 0 ∧ ∃ p l, 0 < l ∧ pp_RC x1 (o + 1) p l ∧ pp_RM y1 139 w p l)) ∨ pp_Q n x0 y0 x1 y1) := by
  obtain ⟨-, -, k3, k4, -⟩ := pp_Kk h
  have t2 : f_X15_takes 2 y = _ := pp_ktk (s := 2) hF h (by omega)
  have t4 : f_X15_takes 4 y = _ := pp_ktk (s := 4) hF h (by omega)
  have hp : 40 < o + 1 ∧ o + 1 < 130 := by omega
  unfold f_X2_readPart f_X15_part
  rw [hr, if_pos (pp_k9 hv), ho, pp_b, if_pos ho2, k4, t2]
  by_cases c2 : x0.2 4 k = 2
  · obtain ⟨s1, s2, s3, s4, s5⟩ := pp_kst hF h (by omega) (by omega)
    rw [if_pos c2, if_pos c2, s1, pp_b, pp_b, if_neg (show ¬ (1 : Int32) = 0 by decide)]
    obtain ⟨x2, y2, qc, qm, n1, n2, n3, n4⟩ := pp_num (lo := 1) (hc := 40) (hm := 40) hF s2 (fun _ => rfl)
    rw [n1, pp_b]
    show ∃ x1 y1, _ ∧ Option.bind (f_X15_numberIn 1 40 (g_mi y 120 8 (y 120 8 + 1))) _ = _ ∧ _
    rw [n2, pp_b]
    have hf := (pp_PF.sf (ph := o + 1) (w := w) s3).tr (pp_PF.sf n3)
    rcases n4 with ⟨n5, n6, n7⟩ | ⟨hq, n8⟩
    · obtain ⟨x3, y3, a1, a2, a3, a4⟩ := pp_p98 (ph := o + 1) (w := w) (a := qc) (c := qc) (a' := qm) (c' := qm) hF hp hw n6 (fun q => by
        obtain ⟨b1, b2, b3, b4⟩ := n7 q
        obtain ⟨d1, d2⟩ := hD (s4.symm.trans b1)
        exact ⟨d1, (d2.sf s3 (by omega) (by omega)).sf n3 (by omega) (by omega)⟩) (fun q => by
        obtain ⟨b1, b2, b3, b4⟩ := n7 q
        exact ⟨b2, b2, pp_b40 b3 b4, pp_b40 b3 b4⟩)
      refine ⟨x3, y3, a1, a2, hf.tr a3, ?_⟩
      rcases a4 with ⟨k1, k11, k12, k13, k14⟩ | hq
      · exact Or.inl ⟨k1, by omega, k12, k13, fun q => ⟨s4.symm.trans (n7 (k14 q).1).1, (k14 q).2⟩⟩
      · exact Or.inr hq
    · obtain ⟨x3, a1, a2, a3, a4⟩ := pp_p98Q (ph := o + 1) (w := w) (a := qc) (c := qc) (a' := qm) (c' := qm) hF hp hw hq
      exact ⟨x3, y2, a1, a2, hf.tr a3, Or.inr a4⟩
  rw [if_neg c2, if_neg c2, pp_b, if_pos rfl]
  show ∃ x1 y1, _ ∧ Option.bind (f_X15_takes 4 y) _ = _ ∧ _
  rw [t4]
  by_cases c4 : x0.2 4 k = 4
  · obtain ⟨s1, s2, s3, s4, s5⟩ := pp_kst hF h (by omega) (by omega)
    rw [if_pos c4, if_pos c4, s1, pp_b, pp_b, if_neg (show ¬ (1 : Int32) = 0 by decide)]
    obtain ⟨x2, y2, qc, qm, n1, n2, n3, n4⟩ := pp_num (lo := 1) (hc := 40) (hm := 40) hF s2 (fun _ => rfl)
    rw [n1, pp_b]
    show ∃ x1 y1, _ ∧ Option.bind (f_X15_numberIn 1 40 (g_mi y 120 8 (y 120 8 + 1))) _ = _ ∧ _
    rw [n2, pp_b]
    have hf := (pp_PF.sf (ph := o + 1) (w := w) s3).tr (pp_PF.sf n3)
    rcases n4 with ⟨n5, n6, n7⟩ | ⟨hq, n8⟩
    · obtain ⟨x3, y3, e1, e2, e3, e4⟩ := pp_kex (s := 5) hF n6 (by omega)
      rw [e1, pp_b]
      show ∃ x1 y1, _ ∧ Option.bind (f_X15_take (nI (pp_tr 5)) y2) _ = _ ∧ _
      rw [e2, pp_b]
      have hf2 := hf.tr (pp_PF.sf e3)
      rcases e4 with ⟨e5, e6, e7, e8⟩ | hq
      · obtain ⟨x4, y4, rc, rm, u1, u2, u3, u4⟩ := pp_num (lo := 1) (hc := 40) (hm := 40) hF e7 (fun _ => rfl)
        rw [u1, pp_b, u2, pp_b]
        have hf3 := hf2.tr (pp_PF.sf u3)
        rcases u4 with ⟨u5, u6, u7⟩ | ⟨hq, u8⟩
        · obtain ⟨x5, y5, a1, a2, a3, a4⟩ := pp_p98 (ph := o + 1) (w := w) (a := qc) (c := rc) (a' := qm) (c' := rm) hF hp hw u6 (fun q => by
            obtain ⟨b1, b2, b3, b4⟩ := u7 q
            obtain ⟨b5, b6, b7, b8⟩ := n7 (e8.symm.trans b1)
            obtain ⟨d1, d2⟩ := hD (s4.symm.trans b5)
            exact ⟨d1, (((d2.sf s3 (by omega) (by omega)).sf n3 (by omega) (by omega)).sf e3 (by omega) (by omega)).sf u3 (by omega) (by omega)⟩) (fun q => by
            obtain ⟨b1, b2, b3, b4⟩ := u7 q
            obtain ⟨b5, b6, b7, b8⟩ := n7 (e8.symm.trans b1)
            exact ⟨b6, b2, pp_b40 b7 b8, pp_b40 b3 b4⟩)
          refine ⟨x5, y5, a1, a2, hf3.tr a3, ?_⟩
          rcases a4 with ⟨k1, k11, k12, k13, k14⟩ | hq
          · exact Or.inl ⟨k1, by omega, k12, k13, fun q => ⟨s4.symm.trans (n7 (e8.symm.trans (u7 (k14 q).1).1)).1, (k14 q).2⟩⟩
          · exact Or.inr hq
        · obtain ⟨x5, a1, a2, a3, a4⟩ := pp_p98Q (ph := o + 1) (w := w) (a := qc) (c := rc) (a' := qm) (c' := rm) hF hp hw hq
          exact ⟨x5, y4, a1, a2, hf3.tr a3, Or.inr a4⟩
      · obtain ⟨u1, rm, u2⟩ := pp_numQ (lo := 1) (hc := 40) (hm := 40) hF hq
        rw [u1, pp_b, u2, pp_b]
        obtain ⟨x5, a1, a2, a3, a4⟩ := pp_p98Q (ph := o + 1) (w := w) (a := qc) (c := 0) (a' := qm) (c' := rm) hF hp hw hq
        exact ⟨x5, y3, a1, a2, hf2.tr a3, Or.inr a4⟩
    · obtain ⟨e1, e2⟩ := pp_kexQ (s := 5) (a := 5) hq (by decide)
      obtain ⟨u1, rm, u2⟩ := pp_numQ (lo := 1) (hc := 40) (hm := 40) hF hq
      rw [e1, pp_b]
      show ∃ x1 y1, _ ∧ Option.bind (f_X15_take 5 y2) _ = _ ∧ _
      rw [e2, pp_b, u1, pp_b, u2, pp_b]
      obtain ⟨x5, a1, a2, a3, a4⟩ := pp_p98Q (ph := o + 1) (w := w) (a := qc) (c := 0) (a' := qm) (c' := rm) hF hp hw hq
      exact ⟨x5, y2, a1, a2, hf.tr a3, Or.inr a4⟩
  rw [if_neg c4, if_neg c4, pp_b, if_pos rfl]
  obtain ⟨x3, y3, e1, e2, e3, e4⟩ := pp_kex (s := 6) hF h (by omega)
  rw [e1, pp_b]
  show ∃ x1 y1, _ ∧ Option.bind (f_X15_take (nI (pp_tr 6)) y) _ = _ ∧ _
  rw [e2, pp_b]
  have hf := pp_PF.sf (ph := o + 1) (w := w) e3
  rcases e4 with ⟨e5, e6, e7, e8⟩ | hq
  · obtain ⟨x5, y5, a1, a2, a3, a4⟩ := pp_p98 (ph := o + 1) (w := w) (a := 0) (c := 0) (a' := 0) (c' := 0) hF hp hw e7 (fun q => by
      obtain ⟨d1, d2⟩ := hD (e8.symm.trans q)
      exact ⟨d1, d2.sf e3 (by omega) (by omega)⟩) (fun q => ⟨rfl, rfl, ⟨0, by omega, rfl⟩, 0, by omega, rfl⟩)
    refine ⟨x5, y5, a1, a2, hf.tr a3, ?_⟩
    rcases a4 with ⟨k1, k11, k12, k13, k14⟩ | hq
    · exact Or.inl ⟨k1, by omega, k12, k13, fun q => ⟨e8.symm.trans (k14 q).1, (k14 q).2⟩⟩
    · exact Or.inr hq
  · obtain ⟨x5, a1, a2, a3, a4⟩ := pp_p98Q (ph := o + 1) (w := w) (a := 0) (c := 0) (a' := 0) (c' := 0) hF hp hw hq
    exact ⟨x5, y3, a1, a2, hf.tr a3, Or.inr a4⟩
end PT
