/-! tests made by dice -/
section ZYT
variable {y y1 ya y2 z w : MS} {u v d k n W t : Nat}
theorem zyT.sh {P : MS → Nat → Prop} {o : Option (Nat × MS)} (f1 : zyF 0 d y y1) (n1 : h_nx y1 = h_nx y) (h : zyT u d y1 P o) (hv : u ≤ v) : zyT v d y P o := by
  obtain ⟨i, y', h1, h2, h3, h4, h5⟩ := h
  exact ⟨i, y', h1, by rw [← n1]; exact h2, (f1.tr h3).mo (by omega), h4, fun z hz => h5 z (fun j hj => hz j (by rw [← n1]; exact hj))⟩
theorem zyT.im {P Q : MS → Nat → Prop} {o : Option (Nat × MS)} (h : zyT u d y P o) (hPQ : ∀ z i, P z i → Q z i) : zyT u d y Q o := by
  obtain ⟨i, y', h1, h2, h3, h4, h5⟩ := h
  exact ⟨i, y', h1, h2, h3, h4, fun z hz => hPQ z i (h5 z hz)⟩
theorem zy_W (hd : h_K y d = 50) (hk : k < 2) (hW : 0 < W) (hW8 : W ≤ 8) (hb : yb y 1) (hO : yO y) : ∃ e, zyT 1 d y (fun z i => zh2 W z i e) (zyW (nI k) d (nI W) y) := by
  obtain ⟨r1, r2, r3, r4, r5⟩ := zy_new hd hb hO
  unfold zyW
  obtain ⟨m, y2, hm, e2, f2, n2⟩ := zyd (n := W) r3 hW (by omega)
  have e17 : (17 : Int32) + nI k = nI (17 + k) := (nI_add (a := 17) (b := k))
  obtain ⟨k2, w, e1, k3, i0, i1, -, -, f, -⟩ := zyE hd hO f2 (nI (17 + k)) (nI m) 0 0
  refine ⟨(17 + k, m, (0, (0, 0), (0, 0)), (0, 0)), h_nx y, w, ?_, Nat.le_refl _, f.mo (by omega), k3, fun z hz => ?_⟩
  · rw [if_pos r1, if_pos r3, e2, pp_b, if_pos k2]
    show (f_l_X14_init (h_nx y) (17 + nI k) (nI m) 0 0 y2).bind _ = _
    rw [e17, e1, pp_b, if_pos k3]
  · obtain ⟨a1, a2, a3, a4⟩ := hz (h_nx y) (Nat.le_refl _) k3
    exact ⟨a1.trans k3, by rw [a2]; exact i0, Or.inl ⟨by show 17 ≤ 17 + k; omega, by show 17 + k < 19; omega, by rw [a2]; exact i1, hm⟩⟩
theorem zy_Q (hd : h_K y d = 50) (hW : 0 < W) (hW8 : W ≤ 8) (hb : yb y 5) (hO : yO y) : ∃ e, zyT 5 d y (fun z i => zh2 W z i e) (zyQ (nI k) d (nI W) y) := by
  obtain ⟨r1, r2, r3, r4, r5⟩ := zy_new hd (hb.mo (by omega)) hO
  have b1 : yb (h_new y 51 (fun _ => 0) (fun _ => 0) 0 4) 4 := hb.g r2.1 (by omega)
  unfold zyQ
  obtain ⟨m, y2, hm, e2, f2, n2⟩ := zyd (n := 5) r3 (by omega) (by omega)
  have e2' : f_l_X13_next d (5 : Int32) (h_new y 51 (fun _ => 0) (fun _ => 0) 0 4) = some (nI m, y2) := e2
  have o2 := f2.1.2.2.2.2 r5
  have b2 : yb y2 4 := b1.g f2.1 (by omega)
  obtain ⟨ea, ia, ya, a1, a2, a3, a4, a5⟩ := zy_s1 (n := 4) f2.2.2 hW hW8 (b2.mo (by omega)) o2
  have oa := a3.1.2.2.2.2 o2
  obtain ⟨eb, ib, yb', b1', c2, c3, c4, c5⟩ := zy_s0 (n := 5) a3.2.2 hW hW8 ((b2.g a3.1 (by omega)).mo (by omega)) oa
  have e12 : (12 : Int32) + nI m = nI (12 + m) := (nI_add (a := 12) (b := m))
  obtain ⟨k2, w, c1, k3, i0, i1, l2, l3, f, o⟩ := zyE hd hO ((f2.tr a3).tr c3) (nI (12 + m)) (0 : Int32) ia ib
  have nn : h_nx y2 = h_nx y + 1 := n2
  have hxa := a3.1.1
  refine ⟨(12 + m, 0, ea, eb), h_nx y, w, ?_, Nat.le_refl _, f.mo (by omega), k3, fun z hz => ?_⟩
  · rw [if_pos r1, if_pos r3, e2', pp_b]
    show (f_l_X14_sum 6 d (nI W) 1 y2).bind _ = _
    rw [a1, pp_b]
    show (f_l_X14_sum 6 d (nI W) 0 ya).bind _ = _
    rw [b1', pp_b, if_pos k2]
    show (f_l_X14_init (h_nx y) (12 + nI m) 0 ia ib yb').bind _ = _
    rw [e12, c1, pp_b, if_pos k3]
  · obtain ⟨p1, p2, p3, p4⟩ := hz (h_nx y) (Nat.le_refl _) k3
    refine ⟨p1.trans k3, by rw [p2]; exact i0, Or.inr ⟨by show 12 ≤ 12 + m; omega, by show 12 + m < 17; omega, ?_, ?_⟩⟩
    · rw [p3, l2]
      refine a5 z (fun j hj hj2 => ?_)
      have q1 := c3.2.1 j (oa.k hj2) (fun q => by rw [q, a3.2.2] at hj2; omega)
      have q2 := q1.tr (o j (by omega))
      exact q2.tr (hz j (by omega) (q2.1.trans hj2))
    · rw [p3, l3]
      refine c5 z (fun j hj hj2 => ?_)
      have q2 := o j (by omega)
      exact q2.tr (hz j (by omega) (q2.1.trans hj2))
theorem zy_t0 (hd : h_K y d = 50) (hW : 0 < W) (hW8 : W ≤ 8) (hb : yb y 5) (hO : yO y) : ∃ e, zyT 5 d y (fun z i => zh2 W z i e) (f_l_X14_test (n + 1) d (nI W) 0 y) := by
  obtain ⟨k, y1, hk, e1, f1, n1⟩ := zyd (n := 5) hd (by omega) (by omega)
  have e1' : f_l_X13_next d (5 : Int32) y = some (nI k, y1) := e1
  have o1 := f1.1.2.2.2.2 hO
  have b1 : yb y1 5 := hb.g f1.1 (by omega)
  rw [f_l_X14_test, if_pos rfl, if_pos hd, e1', pp_b]
  by_cases hk2 : k < 2
  · rw [if_neg (show ¬ (2 : Int32) ≤ nI k from (nI_ge (by omega) (by omega) : ¬ nI 2 ≤ nI k))]
    obtain ⟨e, h⟩ := zy_W (k := k) f1.2.2 hk2 hW hW8 (b1.mo (by omega)) o1
    exact ⟨e, h.sh f1 n1 (by omega)⟩
  · rw [if_pos (show (2 : Int32) ≤ nI k from (nI_le (by omega) (by omega) : nI 2 ≤ nI k))]
    show ∃ e, zyT 5 d y _ (if (5 : Int32) ≤ nI k then _ else _)
    rw [if_neg (show ¬ (5 : Int32) ≤ nI k from (nI_ge (by omega) (by omega) : ¬ nI 5 ≤ nI k))]
    obtain ⟨e, h⟩ := zy_Q (k := k) f1.2.2 hW hW8 b1 o1
    exact ⟨e, h.sh f1 n1 (by omega)⟩
theorem zy_t1 (hd : h_K y d = 50) (hW : 0 < W) (hW8 : W ≤ 8) (hb : yb y 11) (hO : yO y) : ∃ e, zyT 11 d y (fun z i => zh3 W z i e) (f_l_X14_test (n + 2) d (nI W) 1 y) := by
  obtain ⟨k, y1, hk, e1, f1, n1⟩ := zyd (n := 8) hd (by omega) (by omega)
  have e1' : f_l_X13_next d (8 : Int32) y = some (nI k, y1) := e1
  have o1 := f1.1.2.2.2.2 hO
  have b1 : yb y1 11 := hb.g f1.1 (by omega)
  rw [f_l_X14_test, if_neg (show ¬ (1 : Int32) = 0 by decide), if_pos hd, e1', pp_b]
  by_cases hk2 : k < 2
  · rw [if_neg (show ¬ (2 : Int32) ≤ nI k from (nI_ge (by omega) (by omega) : ¬ nI 2 ≤ nI k))]
    obtain ⟨e, h⟩ := zy_W (k := k) f1.2.2 hk2 hW hW8 (b1.mo (by omega)) o1
    exact ⟨(0, e, e), (h.sh f1 n1 (by omega)).im (fun z i q => Or.inl ⟨rfl, q⟩)⟩
  · rw [if_pos (show (2 : Int32) ≤ nI k from (nI_le (by omega) (by omega) : nI 2 ≤ nI k))]
    show ∃ e, zyT 11 d y _ (if (5 : Int32) ≤ nI k then _ else _)
    by_cases hk5 : k < 5
    · rw [if_neg (show ¬ (5 : Int32) ≤ nI k from (nI_ge (by omega) (by omega) : ¬ nI 5 ≤ nI k))]
      obtain ⟨e, h⟩ := zy_Q (k := k) f1.2.2 hW hW8 (b1.mo (by omega)) o1
      exact ⟨(0, e, e), (h.sh f1 n1 (by omega)).im (fun z i q => Or.inl ⟨rfl, q⟩)⟩
    · rw [if_pos (show (5 : Int32) ≤ nI k from (nI_le (by omega) (by omega) : nI 5 ≤ nI k))]
      obtain ⟨ea, ia, ya, a1, a2, a3, a4, a5⟩ := zy_t0 (n := n) f1.2.2 hW hW8 (b1.mo (by omega)) o1
      have oa := a3.1.2.2.2.2 o1
      have ba : yb ya 6 := b1.g a3.1 (by omega)
      have a1' : f_l_X14_test (n + 1) d (nI W) ((1 : Int32) - 1) y1 = some (ia, ya) := a1
      show ∃ e, zyT 11 d y _ ((f_l_X14_test (n + 1) d (nI W) ((1 : Int32) - 1) y1).bind _)
      rw [a1', pp_b]
      show ∃ e, zyT 11 d y _ (zyN (n + 1) (nI k) ia d (nI W) 1 ya)
      unfold zyN
      obtain ⟨r1, r2, r3, r4, r5⟩ := zy_new a3.2.2 (ba.mo (by omega)) oa
      have hxa := a3.1.1
      have hg : ∀ {w : MS} {z : MS}, (∀ j, j ≠ h_nx ya → h_K ya j = 51 → ye ya w j) → (∀ j, h_nx y ≤ j → h_K w j = 51 → ye w z j) → ∀ j, h_nx y1 ≤ j → h_K ya j = 51 → ye ya z j := fun {w z} hw hz j hj hj2 => by
        have hlt := oa.k hj2
        have e := hw j (by omega) hj2
        exact e.tr (hz j (by omega) (e.1.trans hj2))
      have e14 : (14 : Int32) + nI k = nI (14 + k) := (nI_add (a := 14) (b := k))
      rw [if_pos r1, e14]
      by_cases hk6 : k = 5
      · subst hk6
        rw [if_pos (show nI 5 = (5 : Int32) from rfl)]
        obtain ⟨k2, w, c1, k3, i0, i1, l2, l3, f, o⟩ := zyE (u := 0) a3.2.2 oa ⟨yG.rf _, yF.rf _ _, r3⟩ (nI (14 + 5)) (0 : Int32) ia 0
        refine ⟨(14 + 5, ea, ea), h_nx ya, w, ?_, by omega, ((f1.tr a3).tr f).mo (by omega), k3, fun z hz => Or.inr ?_⟩
        · rw [if_pos r4, c1, pp_b, if_pos k3]
        · obtain ⟨p1, p2, p3, p4⟩ := hz (h_nx ya) (by omega) k3
          refine ⟨by show 19 ≤ 19; omega, by show 19 < 22; omega, p1.trans k3, by rw [p2]; exact i0, ?_, fun q => absurd rfl q⟩
          rw [p3, l2]
          exact a5 z (hg (w := w) (fun j hj hj2 => f.2.1 j (oa.k hj2) (fun q => by rw [q, a3.2.2] at hj2; omega)) hz)
      · rw [if_neg (show ¬ nI k = (5 : Int32) from fun q => hk6 ((nI_eq (a := k) (b := 5) (by omega) (by omega)).mp q))]
        obtain ⟨eb, ib, yb', b1', c2, c3, c4, c5⟩ := zy_t0 (n := n) r3 hW hW8 (ba.g r2.1 (by omega)) r5
        rw [show (1 : Int32) - 1 = 0 from rfl, b1', pp_b]
        obtain ⟨k2, w, c1, k3, i0, i1, l2, l3, f, o⟩ := zyE a3.2.2 oa c3 (nI (14 + k)) (0 : Int32) ia ib
        refine ⟨(14 + k, ea, eb), h_nx ya, w, ?_, by omega, ((f1.tr a3).tr f).mo (by omega), k3, fun z hz => Or.inr ?_⟩
        · rw [if_pos k2, c1, pp_b, if_pos k3]
        · obtain ⟨p1, p2, p3, p4⟩ := hz (h_nx ya) (by omega) k3
          refine ⟨by show 19 ≤ 14 + k; omega, by show 14 + k < 22; omega, p1.trans k3, by rw [p2]; exact i0, ?_, fun q => ?_⟩
          · rw [p3, l2]
            exact a5 z (hg (w := w) (fun j hj hj2 => f.2.1 j (oa.k hj2) (fun q => by rw [q, a3.2.2] at hj2; omega)) hz)
          · rw [p3, l3]
            exact c5 z (fun j hj hj2 => by
              have hj' : h_nx ya + 1 ≤ j := hj
              have e := o j (by omega)
              exact e.tr (hz j (by omega) (e.1.trans hj2)))
end ZYT
