/-! the class reads band, near, rules; the whole language -/
section ZLG
variable {tS : Nat → Nat} {tV : Nat → Int32} {b v i V W R g nr s : Nat} {x y z x0 : CS} {nm : Nat → Nat} {P : Nat → Nat → ZP} {M : Nat → Nat} {rs : Nat → ZR}
theorem zc_g0 {e : Z0} (he : zw0 W e) : ∀ c, c ∈ zc0 e → c.1 < 46 ∧ (pp_ar c.1 = 0 → pp_lk W c.1 c.2) := by
  intro c hc
  obtain ⟨t, k⟩ := e
  have h4 := he.1
  have h6 := he.2.2
  change t < 5 at h4
  change 0 < t → k < W at h6
  have hc' : c = (zg t, if t = 1 ∨ t = 2 then (0 : Int32) else nI k) := List.mem_singleton.mp hc
  rw [hc']
  have h' : t = 0 ∨ t = 1 ∨ t = 2 ∨ t = 3 ∨ t = 4 := by omega
  rcases h' with rfl | rfl | rfl | rfl | rfl
  · exact ⟨(show zg 0 < 46 by decide), fun _ => Or.inr (Or.inr (Or.inl rfl))⟩
  · exact ⟨(show zg 1 < 46 by decide), fun _ => Or.inl rfl⟩
  · exact ⟨(show zg 2 < 46 by decide), fun _ => Or.inr (Or.inl rfl)⟩
  · exact ⟨(show zg 3 < 46 by decide), fun _ => Or.inr (Or.inr (Or.inr ⟨Or.inl rfl, k, h6 (by omega), rfl⟩))⟩
  · exact ⟨(show zg 4 < 46 by decide), fun _ => Or.inr (Or.inr (Or.inr ⟨Or.inr (Or.inl rfl), k, h6 (by omega), rfl⟩))⟩
theorem zc_op {s : Nat} {u : Int32} (h : zg s < 46) (h2 : pp_ar (zg s) ≠ 0) : ∀ c, c ∈ [(zg s, u)] → c.1 < 46 ∧ (pp_ar c.1 = 0 → pp_lk W c.1 c.2) := by
  intro c hc
  rw [List.mem_singleton.mp hc]
  exact ⟨h, fun q => absurd q h2⟩
theorem zc_ap {L M : ZC} {Q : Nat × Int32 → Prop} (h : ∀ c, c ∈ L → Q c) (k : ∀ c, c ∈ M → Q c) : ∀ c, c ∈ L ++ M → Q c := by
  intro c hc
  rcases List.mem_append.mp hc with q | q
  · exact h c q
  · exact k c q
theorem zc_g1 {e : Z1} (he : zw1 W e) : ∀ c, c ∈ zc1 e → c.1 < 46 ∧ (pp_ar c.1 = 0 → pp_lk W c.1 c.2) := by
  obtain ⟨t, a, c⟩ := e
  unfold zc1
  rcases he with ⟨h1, h2⟩ | ⟨h1, h2, h3, h4⟩
  · rw [if_pos h1]; exact zc_g0 h2
  · change 5 ≤ t at h1
    change t < 12 at h2
    change t ≠ 5 → zw0 W c at h4
    show ∀ d, d ∈ (if t = 0 then zc0 a else if t = 5 then zc0 a ++ [(43, 0)] else zc0 a ++ zc0 c ++ [(zg t, 0)]) → _
    rw [if_neg (show ¬ t = 0 by omega)]
    by_cases h55 : t = 5
    · rw [if_pos h55]
      exact zc_ap (zc_g0 h3) (zc_op (s := 5) (by decide) (by decide))
    · rw [if_neg h55]
      have h' : t = 6 ∨ t = 7 ∨ t = 8 ∨ t = 9 ∨ t = 10 ∨ t = 11 := by omega
      exact zc_ap (zc_ap (zc_g0 h3) (zc_g0 (h4 h55))) (zc_op (by rcases h' with rfl | rfl | rfl | rfl | rfl | rfl <;> decide) (by rcases h' with rfl | rfl | rfl | rfl | rfl | rfl <;> decide))
theorem zc_g2 {e : Z2} (he : zw2 W e) : ∀ c, c ∈ zc2 e → c.1 < 46 ∧ (pp_ar c.1 = 0 → pp_lk W c.1 c.2) := by
  obtain ⟨t, n, a, c⟩ := e
  unfold zc2
  show ∀ d, d ∈ (if 17 ≤ t then [(zg t, nI n)] else zc1 a ++ zc0 c ++ [(zg t, 0)]) → _
  rcases he with ⟨h1, h2, h3⟩ | ⟨h1, h2, h3, h4⟩
  · change 17 ≤ t at h1
    change t < 19 at h2
    change n < W at h3
    rw [if_pos h1]
    intro d hd
    rw [List.mem_singleton.mp hd]
    have h' : t = 17 ∨ t = 18 := by omega
    rcases h' with rfl | rfl
    · exact ⟨(show zg 17 < 46 by decide), fun _ => Or.inr (Or.inr (Or.inr ⟨Or.inr (Or.inr (Or.inl rfl)), n, h3, rfl⟩))⟩
    · exact ⟨(show zg 18 < 46 by decide), fun _ => Or.inr (Or.inr (Or.inr ⟨Or.inr (Or.inr (Or.inr rfl)), n, h3, rfl⟩))⟩
  · change 12 ≤ t at h1
    change t < 17 at h2
    rw [if_neg (show ¬ 17 ≤ t by omega)]
    have h' : t = 12 ∨ t = 13 ∨ t = 14 ∨ t = 15 ∨ t = 16 := by omega
    exact zc_ap (zc_ap (zc_g1 h3) (zc_g0 h4)) (zc_op (by rcases h' with rfl | rfl | rfl | rfl | rfl <;> decide) (by rcases h' with rfl | rfl | rfl | rfl | rfl <;> decide))
theorem zc_g3 {e : Z3} (he : zw3 W e) : ∀ c, c ∈ zc3 e → c.1 < 46 ∧ (pp_ar c.1 = 0 → pp_lk W c.1 c.2) := by
  obtain ⟨t, a, c⟩ := e
  unfold zc3
  rcases he with ⟨h1, h2⟩ | ⟨h1, h2, h3, h4⟩
  · rw [if_pos h1]; exact zc_g2 h2
  · change 19 ≤ t at h1
    change t < 22 at h2
    change t ≠ 19 → zw2 W c at h4
    show ∀ d, d ∈ (if t = 0 then zc2 a else if t = 19 then zc2 a ++ [(21, 0)] else zc2 a ++ zc2 c ++ [(zg t, 0)]) → _
    rw [if_neg (show ¬ t = 0 by omega)]
    by_cases h55 : t = 19
    · rw [if_pos h55]
      exact zc_ap (zc_g2 h3) (zc_op (s := 19) (by decide) (by decide))
    · rw [if_neg h55]
      have h' : t = 20 ∨ t = 21 := by omega
      exact zc_ap (zc_ap (zc_g2 h3) (zc_g2 (h4 h55))) (zc_op (by rcases h' with rfl | rfl <;> decide) (by rcases h' with rfl | rfl <;> decide))
theorem zgd.ap {sg sh : Nat → Nat} {vl vm : Nat → Int32} {L : ZC} (h : zgd V sg vl s) (h1 : ∀ p, p < s → sh p = sg p ∧ vm p = vl p) (hz : zat sh vm s L) (hL : ∀ c, c ∈ L → c.1 < 46 ∧ (pp_ar c.1 = 0 → pp_lk V c.1 c.2)) : zgd V sh vm (s + L.length) := by
  intro p hp
  rcases Nat.lt_or_ge p s with q | q
  · have e := h1 p q
    rw [e.1, e.2]
    exact h p q
  · have e := hz (p - s) (by omega)
    rw [show s + (p - s) = p by omega] at e
    have hm : L.getD (p - s) (0, 0) ∈ L := by
      rw [List.getD_eq_getElem?_getD, List.getElem?_eq_getElem (show p - s < L.length by omega)]
      exact List.getElem_mem _
    have := hL _ hm
    rw [← e] at this
    exact this
/-- tokens of a rule -/
def ztr (nm : Nat → Nat) (r : ZR) : ZC := [(9 + r.1, 0), (41, nI (nm r.2.1))] ++ ((if r.1 = 2 then (12, 0) :: zt1 nm r.2.2.1 else []) ++ (if r.2.2.2.1 ≠ 0 then (13, 0) :: zt3 nm r.2.2.2.2 else []))
/-- behind the test: the rule is added -/
theorem zr121 {r : ZR} {bg : Nat} (h : zS tS tV b v i s x) (hR : x.1 b 4 = nI R) (hR4 : R < 16) (l3 l4 : Int32) {κ w : Nat} : ∃ x', f_X2_readRule_121 κ (nI w) l3 l4 x = some x' ∧ zS tS tV b v i s x' ∧ x'.1 b 4 = nI (R + 1) ∧ (∀ k, k ≠ 4 → x'.1 b k = x.1 b k) ∧ (x'.2 (pp_rr b R) 0 = κ ∧ x'.1 (pp_rr b R) 1 = nI w ∧ x'.1 (pp_rr b R) 2 = l3 ∧ x'.1 (pp_rr b R) 3 = l4 ∧ x'.1 (pp_rr b R) 4 = nI s) ∧ (∀ j, j ≠ b → j ≠ pp_rr b R → x'.1 j = x.1 j) ∧ ∀ j, j ≠ pp_rr b R → x'.2 j = x.2 j := by
  have hb := h.hb
  have h5 := h.2.2.2.2.2.2.2.2.1
  obtain ⟨q, hq⟩ : ∃ q, q = pp_rr b R := ⟨_, rfl⟩
  have hq1 : b + 5 ≤ q ∧ q ≤ b + 20 := by rw [hq]; unfold pp_rr; omega
  have e1 : q ≠ b := by omega
  have e2 : b ≠ q := by omega
  rw [← hq]
  refine ⟨g_wi (g_wi (g_wi (g_wi (g_wi (g_wr x q 0 κ) q 1 (nI w)) q 2 l3) q 3 l4) q 4 (nI s)) b 4 (nI (R + 1)), ?_, ?_, ?_, fun k hk => ?_, ⟨?_, ?_, ?_, ?_, ?_⟩, fun j q1 q2 => ?_, fun j q1 => ?_⟩
  · unfold f_X2_readRule_121
    rw [h.bk, if_pos (pp_k7 hb)]
    unfold f_X5_addRule
    have c1 : (g_wi (g_wi (g_wi (g_wr x q 0 κ) q 1 (nI w)) q 2 l3) q 3 l4).1 b 5 = nI s := by simp [g_wi, g_wr, e2, h5]
    have c2 : (g_wi (g_wi (g_wi (g_wi (g_wr x q 0 κ) q 1 (nI w)) q 2 l3) q 3 l4) q 4 (nI s)).1 b 4 = nI R := by simp [g_wi, g_wr, e2, hR]
    rw [hR, if_neg (show ¬ (16 : Int32) ≤ nI R from nI_ge (b := 16) hR4 (by omega)), pq_rule hR4, pp_b, if_pos (pq_kd8 hb hR4), ← hq, c1, c2, nI_1]
    rfl
  · refine h.mv (fun j hj => ?_) (fun j hj => ?_) ?_
    · have : j ≠ q := by omega
      simp [g_wi, g_wr, this]
    · have m1 : j ≠ q := by omega
      have m2 : j ≠ b := by omega
      simp [g_wi, g_wr, m1, m2]
    · simp [g_wi, g_wr, upd, e2, h5]
  · simp [g_wi, upd]
  · simp [g_wi, g_wr, upd, hk, e2]
  · simp [g_wi, g_wr, va_up]
  · simp [g_wi, upd, e1]
  · simp [g_wi, upd, e1]
  · simp [g_wi, upd, e1]
  · simp [g_wi, upd, e1]
  · simp [g_wi, g_wr, q1, q2]
  · simp [g_wi, g_wr, q1]
/-- a test, up to its line's end -/
theorem zp3t {e : Z3} (h : zS tS tV b v i s x) (hN : zN v W nm x) (he : zw3 W e) (ht : zat tS tV i (zt3 nm e)) (hi : i + (zt3 nm e).length ≤ 400) (hs : s + (zc3 e).length ≤ 400) (hq : tS (i + (zt3 nm e).length) = 30) : ∃ x', f_X2_readTest (f_X2_readSingle 12) 0 x = some x' ∧ zX tS tV b v s (zc3 e) (i + (zt3 nm e).length) x x' := by
  obtain ⟨x', e1, e2⟩ := zp3 (p := 0) h hN he ht hi hs 10 (by omega) (by rw [hq]; exact zq_of (by omega))
  exact ⟨x', zr_T (zr_B e1 e2 (by rw [hq]; decide)) e2 (by rw [hq]; decide), e2⟩
/-- what reading a rule's parts leaves -/
theorem zLn.xx {i' : Nat} {L : ZC} (h : zLn tS tV b v nm x0 P M rs V i W R g nr x) (k : zX tS tV b v (zbg rs R) L i' x y) : zN v W nm y ∧ y.1 v 3 = 0 ∧ y.1 v 4 = 0 ∧ (∀ j, j < W → y.1 (pp_wd v j) 1 = 0 ∧ y.1 (pp_wd v j) 2 = 999 ∧ zRw y v j (zpi (P j) (M j)) (zln (P j) (M j))) ∧ (y.1 b 4 = nI R ∧ y.1 b 6 = nI g ∧ y.1 b 7 = nI nr) ∧ (∀ k, k < R → zrd y b k (zbg rs k) (rs k)) ∧ zO b v x0 y := by
  obtain ⟨h1, h2, h3, h4, h5, h6, h7, h8, h9, h10⟩ := h
  obtain ⟨k1, k2, k3, k4, k5, k6⟩ := k
  have hb := h1.hb
  have hv := h1.hv
  have hW := h2.1
  refine ⟨h2.G hb hv ⟨k4, k5, k6⟩, ?_, ?_, fun j hj => ?_, ⟨?_, ?_, ?_⟩, fun k hk => ?_, fun j q1 q2 q3 q4 => ?_⟩
  · rw [k4 v (by omega) (by omega) (by omega)]; exact h3
  · rw [k4 v (by omega) (by omega) (by omega)]; exact h4
  · have m1 : pp_wd v j ≠ 162 ∧ pp_wd v j ≠ b ∧ pp_wd v j ≠ b + 4 ∧ pp_wd v j + 1 ≠ 162 ∧ pp_wd v j + 1 ≠ b ∧ pp_wd v j + 1 ≠ b + 4 ∧ pp_wd v j + 2 ≠ 162 ∧ pp_wd v j + 2 ≠ b ∧ pp_wd v j + 2 ≠ b + 4 := by unfold pp_wd; omega
    unfold zRw
    rw [k4 (pp_wd v j) m1.1 m1.2.1 m1.2.2.1, k4 (pp_wd v j + 1) m1.2.2.2.1 m1.2.2.2.2.1 m1.2.2.2.2.2.1, k4 (pp_wd v j + 2) m1.2.2.2.2.2.2.1 m1.2.2.2.2.2.2.2.1 m1.2.2.2.2.2.2.2.2]
    exact h5 j hj
  · rw [k5 4 (by decide)]; exact h6.1
  · rw [k5 6 (by decide)]; exact h6.2.1
  · rw [k5 7 (by decide)]; exact h6.2.2
  · obtain ⟨a1, a2, a3, a4, a5, a6⟩ := h7 k hk
    have m1 : pp_rr b k ≠ 162 ∧ pp_rr b k ≠ b ∧ pp_rr b k ≠ b + 4 ∧ pp_rr b k ≠ b + 3 := by unfold pp_rr; omega
    have hle := zbgM rs R hk
    unfold zrd
    rw [k4 _ m1.1 m1.2.1 m1.2.2.1, k6 _ m1.1 m1.2.2.2]
    exact ⟨a1, a2, a3, a4, a5, a6.e (fun j _ hj => by rw [List.length_append] at hj; exact k3 j (by omega))⟩
  · rw [k4 j q1 (by omega) (by omega), k6 j q1 (by omega)]; exact h9 j q1 q2 q3 q4
/-- a rule -/
theorem zrule (h : zLn tS tV b v nm x0 P M rs W i W R g nr x) (hR : R < 4) (hw : zwr W (rs R)) (ht : zat tS tV i (ztr nm (rs R))) (hi : i + (ztr nm (rs R)).length < 400) (hs : zbg rs (R + 1) ≤ 400) (hq : tS (i + (ztr nm (rs R)).length) = 30) : ∃ x', f_X2_readRule x = some x' ∧ zLn tS tV b v nm x0 P M rs W (i + (ztr nm (rs R)).length) W (R + 1) g nr x' := by
  obtain ⟨w1, w2, w3, w4⟩ := hw
  have hb := h.1.hb
  have hv := h.1.hv
  have hS := h.1
  have hN := h.2.1
  rw [zbgS] at hs
  obtain ⟨r, hr⟩ : ∃ r, r = rs R := ⟨_, rfl⟩
  rw [← hr] at ht hi hs hq w1 w2 w3 w4 ⊢
  unfold ztr at ht hi hq
  unfold ztr
  rw [List.length_append, List.length_append] at hi hq ⊢
  obtain ⟨g1, -, g2⟩ := ht.l.c
  obtain ⟨g3, g4⟩ := g2.one
  have tsum := ht.r.l
  have ttst := ht.r.r
  change zat tS tV (i + 2) _ at tsum
  change zat tS tV (i + 2 + _) _ at ttst
  change i + (2 + _) < 400 at hi
  change tS (i + (2 + _)) = 30 at hq
  obtain ⟨x1, a1, a2, -⟩ := zst hS (by omega)
  obtain ⟨x2, b1, b2⟩ := zkn a2.1 (a2.N hN) (by omega) w2 g3 g4
  have k2 := a2.tr b2
  -- the sum
  obtain ⟨x3, c1, c2⟩ : ∃ x3, (if r.1 = 2 then ((f_X2_expect 12 x2).bind fun q12 => (f_X2_readSum (f_X2_readValue 12) (0 : Int32) q12)) else some x2) = some x3 ∧ zX tS tV b v (zbg rs R) (zcs r) (i + 2 + (if r.1 = 2 then (12, 0) :: zt1 nm r.2.2.1 else []).length) x x3 := by
    unfold zcs at hs ⊢
    by_cases h2 : r.1 = 2
    · rw [if_pos h2] at tsum hi hs ttst hq ⊢
      rw [if_pos h2, if_pos h2]
      rw [List.length_cons] at hi hq ttst ⊢
      obtain ⟨t1, -, t2⟩ := tsum.c
      obtain ⟨x3, c1, c2, -⟩ := zex k2.1 (by omega) t1
      have k3 := k2.tr c2
      have hz : zq (tS (i + 1 + 1 + 1 + (zt1 nm r.2.2.1).length)) := by
        by_cases h3 : r.2.2.2.1 ≠ 0
        · rw [if_pos h3] at ttst
          obtain ⟨u1, -⟩ := ttst.c
          rw [show i + 1 + 1 + 1 + (zt1 nm r.2.2.1).length = i + 2 + ((zt1 nm r.2.2.1).length + 1) by omega, u1]
          exact zq_of (by omega)
        · rw [if_neg h3] at hq
          have hq' : tS (i + (2 + ((zt1 nm r.2.2.1).length + 1 + 0))) = 30 := hq
          rw [show i + 1 + 1 + 1 + (zt1 nm r.2.2.1).length = i + (2 + ((zt1 nm r.2.2.1).length + 1 + 0)) by omega, hq']
          exact zq_of (by omega)
      obtain ⟨x4, d1, d2⟩ := zp1s (p := 0) k3.1 (k3.N hN) (w3 h2) (by show zat tS tV (i + 1 + 1 + 1) _; exact t2) (by omega) (by show zbg rs R + 0 + 0 + 0 + (zc1 r.2.2.1).length ≤ 400; omega) 10 (by omega) hz
      refine ⟨x4, by rw [c1, pp_b]; exact d1, ?_⟩
      have k4 := k3.tr d2
      rw [show i + 2 + ((zt1 nm r.2.2.1).length + 1) = i + 1 + 1 + 1 + (zt1 nm r.2.2.1).length by omega]
      exact k4
    · rw [if_neg h2, if_neg h2, if_neg h2]
      exact ⟨x2, rfl, k2⟩
  obtain ⟨ls, hls⟩ : ∃ n, n = (if r.1 = 2 then (12, (0 : Int32)) :: zt1 nm r.2.2.1 else []).length := ⟨_, rfl⟩
  rw [← hls] at c2 ttst hi hq
  -- the test
  obtain ⟨x4, d1, d2⟩ : ∃ x4, (if tS (i + 2 + ls) = 13 then ((f_X2_step x3).bind fun q16 => (f_X2_readTest (f_X2_readSingle 12) (0 : Int32) q16)) else some x3) = some x4 ∧ zX tS tV b v (zbg rs R) (zcs r ++ zct r) (i + 2 + ls + (if r.2.2.2.1 ≠ 0 then (13, 0) :: zt3 nm r.2.2.2.2 else []).length) x x4 := by
    unfold zct at hs ⊢
    by_cases h3 : r.2.2.2.1 ≠ 0
    · rw [if_pos h3] at ttst hi hs hq ⊢
      rw [if_pos h3]
      rw [List.length_cons] at hi hq ⊢
      obtain ⟨t1, -, t2⟩ := ttst.c
      obtain ⟨x4, d1, d2, -⟩ := zst c2.1 (by omega)
      have k4 := c2.tr d2
      rw [List.append_nil] at k4
      obtain ⟨x5, e1, e2⟩ := zp3t k4.1 (k4.N hN) (w4 h3) t2 (by omega) (by omega) (by rw [show i + 2 + ls + 1 + (zt3 nm r.2.2.2.2).length = i + (2 + (ls + ((zt3 nm r.2.2.2.2).length + 1))) by omega]; exact hq)
      refine ⟨x5, by rw [if_pos t1, d1, pp_b]; exact e1, ?_⟩
      have k5 := k4.tr e2
      rw [show i + 2 + ls + ((zt3 nm r.2.2.2.2).length + 1) = i + 2 + ls + 1 + (zt3 nm r.2.2.2.2).length by omega]
      exact k5
    · rw [if_neg h3] at hq ⊢
      rw [if_neg h3]
      have hq' : tS (i + 2 + ls) = 30 := by rw [show i + 2 + ls = i + (2 + (ls + 0)) by omega]; exact hq
      refine ⟨x3, by rw [if_neg (by rw [hq']; decide)], ?_⟩
      rw [List.append_nil]
      exact c2
  obtain ⟨lt, hlt⟩ : ∃ n, n = (if r.2.2.2.1 ≠ 0 then (13, (0 : Int32)) :: zt3 nm r.2.2.2.2 else []).length := ⟨_, rfl⟩
  rw [← hlt] at d2 hi hq
  rw [← hls, ← hlt]
  obtain ⟨f1, f2, f3, f4, f5, f6, f7⟩ := h.xx d2
  have h3 := c2.1
  have h4 := d2.1
  have e4 : x3.1 b 5 = nI (zbg rs R + (zcs r).length) := h3.2.2.2.2.2.2.2.2.1
  obtain ⟨x5, j1, j2, j3, j4, j5, j6, j7⟩ := zr121 (r := r) (bg := 0) (κ := 9 + r.1) (w := r.2.1) h4 f5.1 (by omega) (nI (zbg rs R)) (nI (zbg rs R + (zcs r).length))
  refine ⟨x5, ?_, ?_, ?_, ?_, ?_, fun j hj => ?_, ⟨j3, ?_, ?_⟩, fun k hk => ?_, ?_, fun j q1 q2 q3 q4 => ?_, by omega⟩
  · have k52 : f_X2_readRule_52 x = some x5 := by
      unfold f_X2_readRule_52
      rw [a1, pp_b, b1, pp_b, hS.sg, g1]
      show (if kd (x2.2 162 1) = 7 then (if 9 + r.1 = 11 then Option.bind (f_X2_expect 12 x2) _ else f_X2_readRule_93 (9 + r.1) (nI r.2.1) (x2.1 (x2.2 162 1) 5) x2) else none) = _
      have b5 : x2.1 b 5 = nI (zbg rs R) := k2.1.2.2.2.2.2.2.2.2.1
      rw [k2.1.bk, if_pos (pp_k7 hb), b5]
      have k93 : f_X2_readRule_93 (9 + r.1) (nI r.2.1) (nI (zbg rs R)) x3 = some x5 := by
        unfold f_X2_readRule_93
        rw [h3.bk, if_pos (pp_k7 hb), h3.sg, e4]
        by_cases q13 : tS (i + 2 + ls) = 13
        · rw [if_pos q13] at d1 ⊢
          cases hst : f_X2_step x3 with
          | none => rw [hst] at d1; cases d1
          | some u =>
            rw [hst, pp_b] at d1
            rw [pp_b, d1, pp_b]
            exact j1
        · rw [if_neg q13] at d1 ⊢
          cases d1
          exact j1
      by_cases q2 : r.1 = 2
      · rw [if_pos (show 9 + r.1 = 11 by omega)]
        rw [if_pos q2] at c1
        cases hst : f_X2_expect 12 x2 with
        | none => rw [hst] at c1; cases c1
        | some u =>
          rw [hst, pp_b] at c1
          rw [pp_b, c1, pp_b]
          exact k93
      · rw [if_neg (show ¬ 9 + r.1 = 11 by omega)]
        rw [if_neg q2] at c1
        cases c1
        exact k93
    have k35 : f_X2_readRule_35 x = some x5 := by
      unfold f_X2_readRule_35
      rw [hS.bk, if_pos (pp_k7 hb), h.2.2.2.2.2.1.1, if_pos (show nI R < (16 : Int32) from nI_lt (b := 16) (by omega) (by omega))]
      exact k52
    unfold f_X2_readRule
    rw [hS.sg, g1]
    have hk : r.1 = 0 ∨ r.1 = 1 ∨ r.1 = 2 := by omega
    rcases hk with q | q | q
    · rw [q, if_pos (show 9 + 0 = 9 from rfl)]; exact k35
    · rw [q, if_neg (by decide), if_pos (show 9 + 1 = 10 from rfl)]; exact k35
    · rw [q, if_neg (by decide), if_neg (by decide), if_pos (show 9 + 2 = 11 from rfl)]; exact k35
  · rw [zbgS, ← hr, show i + ([(9 + r.1, (0 : Int32)), (41, nI (nm r.2.1))].length + (ls + lt)) = i + 2 + ls + lt by show i + (2 + _) = _; omega]
    rw [List.length_append, ← Nat.add_assoc] at j2
    exact j2
  · obtain ⟨n1, n2, n3, n4⟩ := f1
    have m1 : v ≠ b ∧ v ≠ pp_rr b R ∧ 163 ≠ b ∧ 163 ≠ pp_rr b R := by unfold pp_rr; omega
    exact ⟨n1, by rw [j6 v m1.1 m1.2.1]; exact n2, fun k hk => by rw [j6 163 m1.2.2.1 m1.2.2.2]; exact n3 k hk, n4⟩
  · have m1 : v ≠ b ∧ v ≠ pp_rr b R := by unfold pp_rr; omega
    rw [j6 v m1.1 m1.2]; exact f2
  · have m1 : v ≠ b ∧ v ≠ pp_rr b R := by unfold pp_rr; omega
    rw [j6 v m1.1 m1.2]; exact f3
  · have hW := f1.1
    have m1 : pp_wd v j ≠ b ∧ pp_wd v j ≠ pp_rr b R ∧ pp_wd v j + 1 ≠ b ∧ pp_wd v j + 1 ≠ pp_rr b R ∧ pp_wd v j + 2 ≠ b ∧ pp_wd v j + 2 ≠ pp_rr b R := by unfold pp_wd pp_rr; omega
    unfold zRw
    rw [j6 _ m1.1 m1.2.1, j6 _ m1.2.2.1 m1.2.2.2.1, j6 _ m1.2.2.2.2.1 m1.2.2.2.2.2]
    exact f4 j hj
  · rw [j4 6 (by decide)]; exact f5.2.1
  · rw [j4 7 (by decide)]; exact f5.2.2
  · have m0 : b + 3 ≠ pp_rr b R ∧ b + 4 ≠ pp_rr b R ∧ b + 4 ≠ b := by unfold pp_rr; omega
    by_cases e : k = R
    · subst e
      unfold zrd
      rw [← hr, j7 _ m0.1, j6 _ m0.2.2 m0.2.1]
      refine ⟨j5.1, j5.2.1, j5.2.2.1, j5.2.2.2.1, ?_, d2.2.1⟩
      rw [j5.2.2.2.2, List.length_append, ← Nat.add_assoc]
    · have m1 : pp_rr b k ≠ b ∧ pp_rr b k ≠ pp_rr b R := by unfold pp_rr; omega
      unfold zrd
      rw [j6 _ m1.1 m1.2, j7 _ m1.2, j7 _ m0.1, j6 _ m0.2.2 m0.2.1]
      exact f6 k (by omega)
  · have m0 : b + 3 ≠ pp_rr b R ∧ b + 4 ≠ pp_rr b R ∧ b + 4 ≠ b := by unfold pp_rr; omega
    rw [j7 _ m0.1, j6 _ m0.2.2 m0.2.1, zbgS, ← hr, Nat.add_assoc, ← List.length_append]
    refine h.2.2.2.2.2.2.2.1.ap d2.2.2.1 d2.2.1 (zc_ap ?_ ?_)
    · unfold zcs
      by_cases q2 : r.1 = 2
      · rw [if_pos q2]; exact zc_g1 (w3 q2)
      · rw [if_neg q2]; intro c hc; cases hc
    · unfold zct
      by_cases q3 : r.2.2.2.1 ≠ 0
      · rw [if_pos q3]; exact zc_g3 (w4 q3)
      · rw [if_neg q3]; intro c hc; cases hc
  · have m1 : j ≠ b ∧ j ≠ pp_rr b R := by unfold pp_rr; omega
    rw [j6 j m1.1 m1.2, j7 j m1.2]
    exact f7 j q1 q2 q3 q4
end ZLG
