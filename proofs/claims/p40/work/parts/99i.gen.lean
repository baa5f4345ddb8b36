/-! expressions made by dice -/
def zyL (k : Int32) (p1 : Nat) (p2 : Int32) (y : MS) : Option (Nat × MS) := (if h_rm y 4 = true then (if k ≤ 0 then (if h_K (h_new y 51 (fun _ => 0) (fun _ => 0) 0 4) p1 = 50 then ((f_l_X13_next p1 (7 : Int32) (h_new y 51 (fun _ => 0) (fun _ => 0) 0 4)).bind fun q1 => if q1.1 = 0 then (if h_K q1.2 p1 = 50 then ((f_l_X13_next p1 (1000000 : Int32) q1.2).bind fun q2 => if h_K q2.2 (h_nx y) = 51 then ((f_l_X14_init (h_nx y) k q2.1 0 0 q2.2).bind fun q3 => if h_K q3 (h_nx y) = 51 then (some ((h_nx y, q3))) else none) else none) else none) else (if h_K q1.2 p1 = 50 then ((f_l_X13_next p1 (20 : Int32) q1.2).bind fun q4 => if h_K q4.2 (h_nx y) = 51 then ((f_l_X14_init (h_nx y) k q4.1 0 0 q4.2).bind fun q5 => if h_K q5 (h_nx y) = 51 then (some ((h_nx y, q5))) else none) else none) else none)) else none) else (if h_K (h_new y 51 (fun _ => 0) (fun _ => 0) 0 4) p1 = 50 then ((f_l_X13_next p1 p2 (h_new y 51 (fun _ => 0) (fun _ => 0) 0 4)).bind fun q6 => if h_K q6.2 (h_nx y) = 51 then ((f_l_X14_init (h_nx y) k q6.1 0 0 q6.2).bind fun q7 => if h_K q7 (h_nx y) = 51 then (some ((h_nx y, q7))) else none) else none) else none)) else none)
def zyM (n : Nat) (k : Int32) (l p1 : Nat) (p2 p3 : Int32) (y : MS) : Option (Nat × MS) := if h_rm y 4 = true then (if k = (5 : Int32) then (if h_K (h_new y 51 (fun _ => 0) (fun _ => 0) 0 4) (h_nx y) = 51 then ((f_l_X14_init (h_nx y) k (0 : Int32) l 0 (h_new y 51 (fun _ => 0) (fun _ => 0) 0 4)).bind fun q1 => if h_K q1 (h_nx y) = 51 then (some ((h_nx y, q1))) else none) else none) else ((f_l_X14_sum n p1 p2 (p3 - (1 : Int32)) (h_new y 51 (fun _ => 0) (fun _ => 0) 0 4)).bind fun q2 => if h_K q2.2 (h_nx y) = 51 then ((f_l_X14_init (h_nx y) k (0 : Int32) l q2.1 q2.2).bind fun q3 => if h_K q3 (h_nx y) = 51 then (some ((h_nx y, q3))) else none) else none)) else none
def zyN (n : Nat) (k : Int32) (l p1 : Nat) (p2 p3 : Int32) (y : MS) : Option (Nat × MS) := if h_rm y 4 = true then (if k = (5 : Int32) then (if h_K (h_new y 51 (fun _ => 0) (fun _ => 0) 0 4) (h_nx y) = 51 then ((f_l_X14_init (h_nx y) ((14 : Int32) + k) (0 : Int32) l 0 (h_new y 51 (fun _ => 0) (fun _ => 0) 0 4)).bind fun q1 => if h_K q1 (h_nx y) = 51 then (some ((h_nx y, q1))) else none) else none) else ((f_l_X14_test n p1 p2 (p3 - (1 : Int32)) (h_new y 51 (fun _ => 0) (fun _ => 0) 0 4)).bind fun q2 => if h_K q2.2 (h_nx y) = 51 then ((f_l_X14_init (h_nx y) ((14 : Int32) + k) (0 : Int32) l q2.1 q2.2).bind fun q3 => if h_K q3 (h_nx y) = 51 then (some ((h_nx y, q3))) else none) else none)) else none
def zyQ (k : Int32) (p1 : Nat) (p2 : Int32) (y : MS) : Option (Nat × MS) := (if h_rm y 4 = true then (if h_K (h_new y 51 (fun _ => 0) (fun _ => 0) 0 4) p1 = 50 then ((f_l_X13_next p1 (5 : Int32) (h_new y 51 (fun _ => 0) (fun _ => 0) 0 4)).bind fun q1 => (f_l_X14_sum 6 p1 p2 (1 : Int32) q1.2).bind fun q2 => (f_l_X14_sum 6 p1 p2 (0 : Int32) q2.2).bind fun q3 => if h_K q3.2 (h_nx y) = 51 then ((f_l_X14_init (h_nx y) ((12 : Int32) + q1.1) (0 : Int32) q2.1 q3.1 q3.2).bind fun q4 => if h_K q4 (h_nx y) = 51 then (some ((h_nx y, q4))) else none) else none) else none) else none)
def zyW (k : Int32) (p1 : Nat) (p2 : Int32) (y : MS) : Option (Nat × MS) := (if h_rm y 4 = true then (if h_K (h_new y 51 (fun _ => 0) (fun _ => 0) 0 4) p1 = 50 then ((f_l_X13_next p1 p2 (h_new y 51 (fun _ => 0) (fun _ => 0) 0 4)).bind fun q1 => if h_K q1.2 (h_nx y) = 51 then ((f_l_X14_init (h_nx y) ((17 : Int32) + k) q1.1 0 0 q1.2).bind fun q2 => if h_K q2 (h_nx y) = 51 then (some ((h_nx y, q2))) else none) else none) else none) else none)
def zyF (u d : Nat) (y y' : MS) : Prop := yG u y y' ∧ yF (fun j => j = d) y y' ∧ h_K y' d = 50
/-- a fresh tree, sound wherever its fresh nodes stay -/
def zyT (u d : Nat) (y : MS) (P : MS → Nat → Prop) (o : Option (Nat × MS)) : Prop := ∃ i y', o = some (i, y') ∧ h_nx y ≤ i ∧ zyF u d y y' ∧ h_K y' i = 51 ∧ ∀ z, (∀ j, h_nx y ≤ j → h_K y' j = 51 → ye y' z j) → P z i
section ZY
variable {x y z y0 y2 : MS} {u v d k n W t : Nat}
theorem zyF.tr (h : zyF u d x y) (k : zyF v d y z) : zyF (u + v) d x z := ⟨h.1.tr k.1, h.2.1.tr k.2.1 h.1, k.2.2⟩
theorem zyF.mo (h : zyF u d x y) (k : u ≤ v) : zyF v d x y := ⟨h.1.mo k, h.2⟩
theorem zyd {n : Nat} (hd : h_K y d = 50) (h0 : 0 < n) (hn : n < 2 ^ 30) : ∃ k y', k < n ∧ f_l_X13_next d (nI n) y = some (nI k, y') ∧ zyF 0 d y y' ∧ h_nx y' = h_nx y := by
  obtain ⟨k, w, hk, e⟩ := yd_next hd h0 hn
  exact ⟨k, _, hk, e, ⟨ywi_G _ _ _ _, ywi_F rfl, hd⟩, rfl⟩
theorem zy_new (hd : h_K y d = 50) (hb : yb y 1) (hO : yO y) : h_rm y 4 = true ∧ zyF 1 d y (h_new y 51 (fun _ => 0) (fun _ => 0) 0 4) ∧ h_K (h_new y 51 (fun _ => 0) (fun _ => 0) 0 4) d = 50 ∧ h_K (h_new y 51 (fun _ => 0) (fun _ => 0) 0 4) (h_nx y) = 51 ∧ yO (h_new y 51 (fun _ => 0) (fun _ => 0) 0 4) := by
  have g : yG 1 y (h_new y 51 (fun _ => 0) (fun _ => 0) 0 4) := yn_G (by omega) (by omega)
  have kd : h_K (h_new y 51 (fun _ => 0) (fun _ => 0) 0 4) d = 50 := (yn_o (hO.k hd)).1.trans hd
  exact ⟨yn_rm hb (by omega) (by omega), ⟨g, yn_F _, kd⟩, kd, yn_K, g.2.2.2.2 hO⟩
theorem zyE (hd : h_K y0 d = 50) (hO : yO y0) (h : zyF u d (h_new y0 51 (fun _ => 0) (fun _ => 0) 0 4) y2) (a b : Int32) (l r : Nat) : h_K y2 (h_nx y0) = 51 ∧ ∃ z, f_l_X14_init (h_nx y0) a b l r y2 = some z ∧ h_K z (h_nx y0) = 51 ∧ h_I z (h_nx y0) 0 = a ∧ h_I z (h_nx y0) 1 = b ∧ h_R z (h_nx y0) 2 = l ∧ h_R z (h_nx y0) 3 = r ∧ zyF (u + 1) d y0 z ∧ (∀ j, j ≠ h_nx y0 → ye y2 z j) := by
  have hdl := hO.k hd
  have g : yG 1 y0 (h_new y0 51 (fun _ => 0) (fun _ => 0) 0 4) := yn_G (by omega) (by omega)
  have k2 : h_K y2 (h_nx y0) = 51 := (h.2.1 _ (by rw [yn_nx]; omega) (by omega)).1.trans yn_K
  refine ⟨k2, h_wr (h_wr (h_wi (h_wi y2 (h_nx y0) 0 a) (h_nx y0) 1 b) (h_nx y0) 2 l) (h_nx y0) 3 r, ?_, k2, ?_, ?_, ?_, ?_, ⟨?_, fun j hj hP => ?_, h.2.2⟩, fun j hj => ?_⟩
  · unfold f_l_X14_init
    rw [if_pos k2]
  · show h_I (h_wi (h_wi y2 (h_nx y0) 0 a) (h_nx y0) 1 b) (h_nx y0) 0 = a
    rw [ywi_I, pp_u2 (by decide), ywi_I, pp_u1]
  · show h_I (h_wi (h_wi y2 (h_nx y0) 0 a) (h_nx y0) 1 b) (h_nx y0) 1 = b
    rw [ywi_I, pp_u1]
  · rw [ywr_R, yup2 (by decide), ywr_R, yup1]
  · rw [ywr_R, yup1]
  · exact ywr_G' (ywr_G' (ywi_G' (ywi_G' ((g.tr h.1).mo (by omega)))))
  · have hne : j ≠ h_nx y0 := by omega
    exact (yn_o hj).tr ((h.2.1 j (by rw [yn_nx]; omega) hP).tr ⟨rfl, (ywi_In hne).trans (ywi_In hne), (ywr_Rn hne).trans (ywr_Rn hne), rfl⟩)
  · exact ⟨rfl, (ywi_In hj).trans (ywi_In hj), (ywr_Rn hj).trans (ywr_Rn hj), rfl⟩
theorem zy_L (hd : h_K y d = 50) (hk : k < 5) (hW : 0 < W) (hW8 : W ≤ 8) (hb : yb y 1) (hO : yO y) : ∃ e, zyT 1 d y (fun z i => zh0 W z i e) (zyL (nI k) d (nI W) y) := by
  obtain ⟨r1, r2, r3, r4, r5⟩ := zy_new hd hb hO
  unfold zyL
  rw [if_pos r1]
  have fin : ∀ m y2, m < 1000000 → (0 < k → m < W) → zyF 0 d (h_new y 51 (fun _ => 0) (fun _ => 0) 0 4) y2 → ∃ e, zyT 1 d y (fun z i => zh0 W z i e) (if h_K y2 (h_nx y) = 51 then ((f_l_X14_init (h_nx y) (nI k) (nI m) 0 0 y2).bind fun q3 => if h_K q3 (h_nx y) = 51 then (some ((h_nx y, q3))) else none) else none) := by
    intro m y2 hm hm2 h2
    obtain ⟨k2, w, e1, k3, i0, i1, -, -, f, -⟩ := zyE hd hO h2 (nI k) (nI m) 0 0
    refine ⟨(k, m), h_nx y, w, ?_, Nat.le_refl _, f.mo (by omega), k3, fun z hz => ?_⟩
    · rw [if_pos k2, e1, pp_b, if_pos k3]
    · obtain ⟨a1, a2, a3, a4⟩ := hz (h_nx y) (Nat.le_refl _) k3
      exact ⟨a1.trans k3, by rw [a2]; exact i0, by rw [a2]; exact i1, hk, hm, hm2⟩
  by_cases h0 : k = 0
  · subst h0
    rw [if_pos (show nI 0 ≤ 0 by decide), if_pos r3]
    obtain ⟨j, y1, hj, e1, f1, n1⟩ := zyd (n := 7) r3 (by omega) (by omega)
    have e1' : f_l_X13_next d (7 : Int32) (h_new y 51 (fun _ => 0) (fun _ => 0) 0 4) = some (nI j, y1) := e1
    rw [e1', pp_b]
    by_cases hj0 : j = 0
    · rw [if_pos (show nI j = 0 by rw [hj0]; rfl), if_pos f1.2.2]
      obtain ⟨m, y2, hm, e2, f2, n2⟩ := zyd (n := 1000000) f1.2.2 (by omega) (by omega)
      have e2' : f_l_X13_next d (1000000 : Int32) y1 = some (nI m, y2) := e2
      show ∃ e, zyT 1 d y _ ((f_l_X13_next d (1000000 : Int32) y1).bind _)
      rw [e2', pp_b]
      exact fin m y2 hm (fun q => absurd q (by omega)) ((f1.tr f2).mo (by omega))
    · rw [if_neg (show ¬ nI j = 0 from nI_ne0 (by omega) (by omega)), if_pos f1.2.2]
      obtain ⟨m, y2, hm, e2, f2, n2⟩ := zyd (n := 20) f1.2.2 (by omega) (by omega)
      have e2' : f_l_X13_next d (20 : Int32) y1 = some (nI m, y2) := e2
      show ∃ e, zyT 1 d y _ ((f_l_X13_next d (20 : Int32) y1).bind _)
      rw [e2', pp_b]
      exact fin m y2 (by omega) (fun q => absurd q (by omega)) ((f1.tr f2).mo (by omega))
  · rw [if_neg (show ¬ nI k ≤ 0 from nI_ge (a := 0) (by omega) (by omega)), if_pos r3]
    obtain ⟨m, y2, hm, e2, f2, n2⟩ := zyd (n := W) r3 hW (by omega)
    rw [e2, pp_b]
    exact fin m y2 (by omega) (fun _ => hm) (f2.mo (by omega))
theorem zy_s0 (hd : h_K y d = 50) (hW : 0 < W) (hW8 : W ≤ 8) (hb : yb y 1) (hO : yO y) : ∃ e, zyT 1 d y (fun z i => zh0 W z i e) (f_l_X14_sum (n + 1) d (nI W) 0 y) := by
  obtain ⟨k, y1, hk, e1, f1, n1⟩ := zyd (n := 5) hd (by omega) (by omega)
  have e1' : f_l_X13_next d (5 : Int32) y = some (nI k, y1) := e1
  rw [f_l_X14_sum, if_pos rfl, if_pos hd, e1', pp_b, if_neg (show ¬ (5 : Int32) ≤ nI k from (nI_ge (by omega) (by omega) : ¬ nI 5 ≤ nI k))]
  obtain ⟨e, i, y', h1, h2, h3, h4, h5⟩ := zy_L (k := k) f1.2.2 hk hW hW8 (hb.g f1.1 (by omega)) (f1.1.2.2.2.2 hO)
  exact ⟨e, i, y', h1, by rw [← n1]; exact h2, (f1.tr h3).mo (by omega), h4, fun z hz => h5 z (fun j hj => hz j (by rw [← n1]; exact hj))⟩
theorem zy_s1 (hd : h_K y d = 50) (hW : 0 < W) (hW8 : W ≤ 8) (hb : yb y 3) (hO : yO y) : ∃ e, zyT 3 d y (fun z i => zh1 W z i e) (f_l_X14_sum (n + 2) d (nI W) 1 y) := by
  obtain ⟨k, y1, hk, e1, f1, n1⟩ := zyd (n := 12) hd (by omega) (by omega)
  have e1' : f_l_X13_next d (12 : Int32) y = some (nI k, y1) := e1
  have o1 := f1.1.2.2.2.2 hO
  have b1 : yb y1 3 := hb.g f1.1 (by omega)
  rw [f_l_X14_sum, if_neg (show ¬ (1 : Int32) = 0 by decide), if_pos hd, e1', pp_b]
  by_cases hk5 : k < 5
  · rw [if_neg (show ¬ (5 : Int32) ≤ nI k from (nI_ge (by omega) (by omega) : ¬ nI 5 ≤ nI k))]
    obtain ⟨e, i, y', h1, h2, h3, h4, h5⟩ := zy_L (k := k) f1.2.2 hk5 hW hW8 (b1.mo (by omega)) o1
    exact ⟨(0, e, e), i, y', h1, by rw [← n1]; exact h2, (f1.tr h3).mo (by omega), h4, fun z hz => Or.inl ⟨rfl, h5 z (fun j hj => hz j (by rw [← n1]; exact hj))⟩⟩
  · rw [if_pos (show (5 : Int32) ≤ nI k from (nI_le (by omega) (by omega) : nI 5 ≤ nI k))]
    obtain ⟨ea, ia, ya, a1, a2, a3, a4, a5⟩ := zy_s0 (n := n) f1.2.2 hW hW8 (b1.mo (by omega)) o1
    have oa := a3.1.2.2.2.2 o1
    have ba : yb ya 2 := b1.g a3.1 (by omega)
    rw [show (1 : Int32) - 1 = 0 from rfl, a1, pp_b]
    show ∃ e, zyT 3 d y _ (zyM (n + 1) (nI k) ia d (nI W) 1 ya)
    unfold zyM
    obtain ⟨r1, r2, r3, r4, r5⟩ := zy_new a3.2.2 (ba.mo (by omega)) oa
    have hg : ∀ {w : MS} {z : MS}, (∀ j, j ≠ h_nx ya → h_K ya j = 51 → ye ya w j) → (∀ j, h_nx y ≤ j → h_K w j = 51 → ye w z j) → ∀ j, h_nx y1 ≤ j → h_K ya j = 51 → ye ya z j := fun {w z} hw hz j hj hj2 => by
      have hlt := oa.k hj2
      have e := hw j (by omega) hj2
      exact e.tr (hz j (by omega) (e.1.trans hj2))
    rw [if_pos r1]
    by_cases hk6 : k = 5
    · subst hk6
      rw [if_pos (show nI 5 = (5 : Int32) from rfl)]
      obtain ⟨k2, w, c1, k3, i0, i1, l2, l3, f, o⟩ := zyE (u := 0) a3.2.2 oa ⟨yG.rf _, yF.rf _ _, r3⟩ (nI 5) (0 : Int32) ia 0
      refine ⟨(5, ea, ea), h_nx ya, w, ?_, by have := a3.1.1; omega, ((f1.tr a3).tr f).mo (by omega), k3, fun z hz => Or.inr ?_⟩
      · rw [if_pos r4, c1, pp_b, if_pos k3]
      · obtain ⟨p1, p2, p3, p4⟩ := hz (h_nx ya) (by have := a3.1.1; omega) k3
        refine ⟨Nat.le_refl _, by omega, p1.trans k3, by rw [p2]; exact i0, ?_, fun q => absurd rfl q⟩
        rw [p3, l2]
        exact a5 z (hg (w := w) (fun j hj hj2 => f.2.1 j (oa.k hj2) (fun q => by rw [q, a3.2.2] at hj2; omega)) hz)
    · rw [if_neg (show ¬ nI k = (5 : Int32) from fun q => hk6 ((nI_eq (a := k) (b := 5) (by omega) (by omega)).mp q))]
      obtain ⟨eb, ib, yb', b1', b2, b3, b4, b5⟩ := zy_s0 (n := n) r3 hW hW8 (ba.g r2.1 (by omega)) r5
      rw [show (1 : Int32) - 1 = 0 from rfl, b1', pp_b]
      obtain ⟨k2, w, c1, k3, i0, i1, l2, l3, f, o⟩ := zyE a3.2.2 oa b3 (nI k) (0 : Int32) ia ib
      refine ⟨(k, ea, eb), h_nx ya, w, ?_, by have := a3.1.1; omega, ((f1.tr a3).tr f).mo (by omega), k3, fun z hz => Or.inr ?_⟩
      · rw [if_pos k2, c1, pp_b, if_pos k3]
      · obtain ⟨p1, p2, p3, p4⟩ := hz (h_nx ya) (by have := a3.1.1; omega) k3
        refine ⟨by show 5 ≤ k; omega, hk, p1.trans k3, by rw [p2]; exact i0, ?_, fun q => ?_⟩
        · rw [p3, l2]
          exact a5 z (hg (w := w) (fun j hj hj2 => f.2.1 j (oa.k hj2) (fun q => by rw [q, a3.2.2] at hj2; omega)) hz)
        · rw [p3, l3]
          exact b5 z (fun j hj hj2 => by
            have hj' : h_nx ya + 1 ≤ j := hj
            have e := o j (by omega)
            have := a3.1.1
            exact e.tr (hz j (by omega) (e.1.trans hj2)))
end ZY
