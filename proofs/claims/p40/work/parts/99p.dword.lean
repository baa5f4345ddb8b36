/-! a drawn word -/
section ZOW
variable {y z : MS} {d sb r t : Nat} {l3 Wv wv : Int32} {k53 : Nat → Nat → Int32 → Nat → Int32 → Int32 → MS → Option (Nat × MS)} {B0 : List Nat}
theorem zij_c {Q Q' : Nat → ZP} : ∀ m, (∀ j, j < m → Q' j = Q j) → zij Q' m = zij Q m ∧ zln Q' m = zln Q m ∧ ∀ k, zpi Q' m k = zpi Q m k := by
  intro m
  induction m with
  | zero => intro _; exact ⟨rfl, rfl, fun _ => rfl⟩
  | succ m ih =>
    intro h
    obtain ⟨a, b, c⟩ := ih (fun j hj => h j (by omega))
    have hm := h m (by omega)
    refine ⟨?_, ?_, fun k => ?_⟩
    · show zij Q' m ++ _ ++ zipp (Q' m) = zij Q m ++ _ ++ zipp (Q m)
      rw [a, hm]
    · show zln Q' m + (Q' m).2.2.2 = zln Q m + (Q m).2.2.2
      rw [b, hm]
    · show (if k < zln Q' m then zpi Q' m k else if k < zln Q' m + (Q' m).2.2.2 then zgl (zpa (Q' m)) (zpz (Q' m)) (Q' m).2.2.2 (k - zln Q' m) else 0) = (if k < zln Q m then zpi Q m k else if k < zln Q m + (Q m).2.2.2 then zgl (zpa (Q m)) (zpz (Q m)) (Q m).2.2.2 (k - zln Q m) else 0)
      rw [b, hm, c k]
theorem zo_98 {Mx : Nat} (hM : Mx ≤ 3) (hB0 : B0.length ≤ 900) : ∀ dd fu m Q y, dd = Mx - m → dd < fu → m ≤ Mx → zoS d sb (B0 ++ zibs (zij Q m)) y → h_K y r = 60 → h_N y r = 24 → (∀ j, j < m → zwp (Q j)) → (∀ j, j < zln Q m → h_I y r j = nI (zpi Q m j)) → yb y (35 * dd) → ∃ fu' Q' y', f_l_L_drawn_98 k53 fu d sb l3 t Wv wv r (nI (zln Q m)) (nI Mx) (nI m) y = f_l_L_drawn_98 k53 (fu' + 1) d sb l3 t Wv wv r (nI (zln Q' Mx)) (nI Mx) (nI Mx) y' ∧ zoS d sb (B0 ++ zibs (zij Q' Mx)) y' ∧ h_K y' r = 60 ∧ h_N y' r = 24 ∧ (∀ j, j < Mx → zwp (Q' j)) ∧ (∀ j, j < zln Q' Mx → h_I y' r j = nI (zpi Q' Mx j)) ∧ yG (35 * dd) y y' ∧ zoG r y y' := by
  intro dd
  induction dd with
  | zero =>
    intro fu m Q y h1 h2 h3 hS hr hrn hQ hI hb
    obtain ⟨f1, rfl⟩ : ∃ f, fu = f + 1 := ⟨fu - 1, by omega⟩
    have e : m = Mx := by omega
    subst e
    exact ⟨f1, Q, y, rfl, hS, hr, hrn, hQ, hI, (yG.rf y).mo (by omega), (zoF.rf y).G⟩
  | succ dd ih =>
    intro fu m Q y h1 h2 h3 hS hr hrn hQ hI hb
    obtain ⟨f1, rfl⟩ : ∃ f, fu = f + 1 := ⟨fu - 1, by omega⟩
    have hln := zlnB m hQ
    have lij : (zibs (zij Q m)).length ≤ 66 := by
      by_cases q : m = 0
      · subst q; exact Nat.zero_le _
      · obtain ⟨m', rfl⟩ : ∃ m', m = m' + 1 := ⟨m - 1, by omega⟩
        have := (zcij m' hQ).2.2
        omega
    obtain ⟨s, y1, hs, e1, S1, g1, F1, n1⟩ := hS.di (n := 5) (by omega) (by omega)
    have e1' : f_l_X13_next d (5 : Int32) y = some (nI s, y1) := e1
    obtain ⟨a, y2, ha, e2, S2, g2, F2, n2⟩ := S1.di (n := 40) (by omega) (by omega)
    have e2' : f_l_X13_next d (40 : Int32) y1 = some (nI a, y2) := e2
    obtain ⟨c, y3, hc, e3, S3, g3, F3, n3⟩ := S2.di (n := 40) (by omega) (by omega)
    have e3' : f_l_X13_next d (40 : Int32) y2 = some (nI c, y3) := e3
    obtain ⟨o, y4, ho, e4, S4, g4, F4, n4⟩ := S3.di (n := 3) (by omega) (by omega)
    have e4' : f_l_X13_next d (3 : Int32) y3 = some (nI o, y4) := e4
    have F := ((F1.tr F2).tr F3).tr F4
    have G : yG 0 y y4 := (((g1.tr g2).tr g3).tr g4).mo (by omega)
    have er := F.rw6 hr
    have ea : (1 : Int32) + nI a = nI (1 + a) := (nI_add (a := 1) (b := a))
    have ec : (1 : Int32) + nI c = nI (1 + c) := (nI_add (a := 1) (b := c))
    have hX : ∃ n, 1 ≤ n ∧ n ≤ 8 ∧ zoQ d sb r (zln Q m) m s (1 + a) (1 + c) (B0 ++ zibs (zij Q m) ++ pp_tx (if m = 0 then 48 else 49) ++ zibs (zipp (zos s, 1 + a, 1 + c, n))) l3 t Wv wv (nI Mx) (f_l_L_drawn_98 k53 f1) 35 n y4 (f_l_L_drawn_98 k53 (f1 + 1) d sb l3 t Wv wv r (nI (zln Q m)) (nI Mx) (nI m) y) := by
      rw [f_l_L_drawn_98, if_neg (nI_ge (by omega) (by omega)), if_pos hS.1, e1', pp_b, if_pos S1.1]
      show ∃ n, 1 ≤ n ∧ n ≤ 8 ∧ zoQ _ _ _ _ _ _ _ _ _ _ _ _ _ _ _ _ _ _ ((f_l_X13_next d (40 : Int32) y1).bind _)
      rw [e2', pp_b, if_pos S2.1]
      show ∃ n, 1 ≤ n ∧ n ≤ 8 ∧ zoQ _ _ _ _ _ _ _ _ _ _ _ _ _ _ _ _ _ _ ((f_l_X13_next d (40 : Int32) y2).bind _)
      rw [e3', pp_b, if_pos S3.1]
      show ∃ n, 1 ≤ n ∧ n ≤ 8 ∧ zoQ _ _ _ _ _ _ _ _ _ _ _ _ _ _ _ _ _ _ ((f_l_X13_next d (3 : Int32) y3).bind _)
      rw [e4', pp_b, ea, ec]
      by_cases ho0 : o = 0
      · rw [if_pos (show nI o = 0 by rw [ho0]; rfl)]
        exact zo_148 (k := 8) S4 (er.1.trans hr) (er.2.2.2.trans hrn) hs (by omega) (by omega) rfl (by omega) (by omega) (by omega) (by omega) (by rw [List.length_append]; omega) ((hb.g G (by omega)).mo (by omega))
      · rw [if_neg (show ¬ nI o = 0 from nI_ne0 (by omega) (by omega))]
        exact zo_148 (k := 4) S4 (er.1.trans hr) (er.2.2.2.trans hrn) hs (by omega) (by omega) rfl (by omega) (by omega) (by omega) (by omega) (by rw [List.length_append]; omega) ((hb.g G (by omega)).mo (by omega))
    obtain ⟨n, hn1, hn8, y5, p1, p2, p3, p4, p5, p6, p7, p8⟩ := hX
    obtain ⟨u, hu⟩ : ∃ u : ZP, u = (zos s, 1 + a, 1 + c, n) := ⟨_, rfl⟩
    obtain ⟨Q', hQ'⟩ : ∃ Q' : Nat → ZP, Q' = fun j => if j = m then u else Q j := ⟨_, rfl⟩
    have q1 : Q' m = u := by rw [hQ']; exact if_pos rfl
    have q2 : ∀ j, j < m → Q' j = Q j := fun j hj => by rw [hQ']; exact if_neg (by omega)
    obtain ⟨z1, z2, z3⟩ := zij_c m q2
    have un : u.2.2.2 = n := by rw [hu]
    have eln : zln Q' (m + 1) = zln Q m + n := by
      show zln Q' m + (Q' m).2.2.2 = _
      rw [z2, q1, un]
    have eB : B0 ++ zibs (zij Q m) ++ pp_tx (if m = 0 then 48 else 49) ++ zibs (zipp (zos s, 1 + a, 1 + c, n)) = B0 ++ zibs (zij Q' (m + 1)) := by
      obtain ⟨k46, k47, k48, k49, -⟩ := zxk4
      have e0 : zij Q' (m + 1) = zij Q m ++ (if m = 0 then [] else [(31, 0)] ++ [(50, 0)]) ++ zipp u := by
        show zij Q' m ++ _ ++ zipp (Q' m) = _
        rw [z1, q1]
      rw [e0, hu]
      by_cases q : m = 0
      · rw [if_pos q, if_pos q, k48]
        simp only [zibsA, List.append_assoc, List.append_nil, List.nil_append]
      · rw [if_neg q, if_neg q, k49]
        simp only [zibsA, zxib, zxi (s := 31) (by decide), List.append_assoc]
    rw [eB] at p2
    rw [p1, ← eln]
    have G5 : yG 35 y y5 := (G.tr p7).mo (by omega)
    obtain ⟨fu', Q2, y', i1, i2, i3, i4, i5, i6, i7, i8⟩ := ih f1 (m + 1) Q' y5 (by omega) (by omega) (by omega) p2 p3 p4 (fun j hj => by
      by_cases q : j = m
      · rw [q, q1, hu]
        exact ⟨zos2 hs, by show 1 ≤ 1 + a; omega, by show 1 + a ≤ 40; omega, by show 1 ≤ 1 + c; omega, by show 1 + c ≤ 40; omega, hn1, hn8⟩
      · rw [q2 j (by omega)]; exact hQ j (by omega)) (fun j hj => by
      rw [eln] at hj
      show _ = nI (if j < zln Q' m then zpi Q' m j else if j < zln Q' (m + 1) then zgl (zpa (Q' m)) (zpz (Q' m)) (Q' m).2.2.2 (j - zln Q' m) else 0)
      rw [z2, eln]
      by_cases q : j < zln Q m
      · rw [if_pos q, z3, p6 j q, er.2.1]; exact hI j q
      · rw [if_neg q, if_pos hj, q1]
        have := p5 (j - zln Q m) (by omega)
        rw [show zln Q m + (j - zln Q m) = j by omega] at this
        rw [this, un, hu]) ((hb.g G5 (by omega)).mo (by omega))
    exact ⟨fu', Q2, y', i1, i2, i3, i4, i5, i6, (G5.tr i7).mo (by omega), (F.G.tr p8).tr i8⟩
theorem zo_349 {L w W aw q : Nat} (hL : L ≤ 24) (hwW : w < W) (hW8 : W ≤ 8) (hrq : r ≠ q) (htq : t ≠ q) (hawq : aw ≠ q) : ∀ dd fu k y, dd = L - k → dd < fu → k ≤ L → h_K y t = 53 → h_R y t 2 = aw → h_K y aw = 63 → h_N y aw = W → h_R y aw w = q → h_K y q = 60 → h_N y q = L → h_K y r = 60 → h_N y r = 24 → (∀ j, j < k → h_I y q j = h_I y r j) → ∃ y', f_l_L_drawn_349 k53 fu d sb l3 t Wv (nI w) r (nI L) (nI k) y = k53 d sb l3 t Wv (nI (w + 1)) y' ∧ yG 0 y y' ∧ yF (fun j => j = q) y y' ∧ (∀ i, h_K y' i = h_K y i) ∧ (∀ i, h_N y' i = h_N y i) ∧ (∀ i, h_R y' i = h_R y i) ∧ ∀ j, j < L → h_I y' q j = h_I y r j := by
  intro dd
  induction dd with
  | zero =>
    intro fu k y h1 h2 h3 t1 t2 a1 a2 a3 q1 q2 r1 r2 hI
    obtain ⟨f1, rfl⟩ : ∃ f, fu = f + 1 := ⟨fu - 1, by omega⟩
    have e : k = L := by omega
    subst e
    rw [f_l_L_drawn_349, if_pos (nI_le (Nat.le_refl _) (by omega)), nI_1]
    exact ⟨y, rfl, yG.rf y, yF.rf _ y, fun _ => rfl, fun _ => rfl, fun _ => rfl, hI⟩
  | succ dd ih =>
    intro fu k y h1 h2 h3 t1 t2 a1 a2 a3 q1 q2 r1 r2 hI
    obtain ⟨f1, rfl⟩ : ∃ f, fu = f + 1 := ⟨fu - 1, by omega⟩
    rw [f_l_L_drawn_349, if_neg (nI_ge (by omega) (by omega)), if_pos t1, t2, if_pos a1, a2, if_pos ((pp_ok (by omega)).mpr hwW), if_pos r1, r2, if_pos ((pp_ok (by omega)).mpr (by omega)), nI_clamp (show w < 2 ^ 31 by omega), a3, if_pos q1, q2, if_pos ((pp_ok (by omega)).mpr (by omega)), nI_clamp (show k < 2 ^ 31 by omega), nI_1]
    have eq1 : h_I (h_wi y q k (h_I y r k)) q = upd (h_I y q) k (h_I y r k) := ywi_I _ _ _ _
    have er1 : h_I (h_wi y q k (h_I y r k)) r = h_I y r := ywi_In hrq
    obtain ⟨y', i1, i2, i3, i4, i5, i6, i7⟩ := ih f1 (k + 1) (h_wi y q k (h_I y r k)) (by omega) (by omega) (by omega) t1 t2 a1 a2 a3 q1 q2 r1 r2 (fun j hj => by
      rw [eq1, er1]
      by_cases e : j = k
      · rw [e, pp_u1]
      · rw [pp_u2 e]; exact hI j (by omega))
    exact ⟨y', i1, (yG.tr (ywi_G _ _ _ _) i2).mo (by omega), yF.tr (ywi_F (P := fun j => j = q) rfl) i3 (ywi_G _ _ _ _), i4, i5, i6, fun j hj => by rw [i7 j hj, er1]⟩
/-- a word more -/
theorem zoT.ad {τ : TI} {W g nr w q : Nat} {P : Nat → Nat → ZP} {M : Nat → Nat} {Q : Nat → ZP} {Mx : Nat} (h : zoT τ W g nr w P M y) (he : ∀ i, i ≠ ti_w τ → h_K y i = 53 ∨ h_K y i = 60 ∨ h_K y i = 62 → ye y z i) (k1 : h_K z (ti_w τ) = 63) (k2 : h_N z (ti_w τ) = W) (k3 : ∀ j, j ≠ w → h_R z (ti_w τ) j = h_R y (ti_w τ) j) (k4 : h_R z (ti_w τ) w = q) (k5 : yr z q (zpi Q Mx) (zln Q Mx)) (k6 : 0 < zln Q Mx) (k7 : q ≠ ti_c τ) (k8 : q ≠ ti_s τ) : zoT τ W g nr (w + 1) (fun j => if j = w then Q else P j) (fun j => if j = w then Mx else M j) z := by
  obtain ⟨⟨a1, a2⟩, ⟨b1, b2⟩, ⟨c1, c2⟩, ⟨d1, d2⟩, ⟨f1, f2⟩, n1, ⟨g1, g2⟩, hw⟩ := h
  have nk : ∀ i, h_K y i = 53 ∨ h_K y i = 60 ∨ h_K y i = 62 → i ≠ ti_w τ := fun i hi e => by rw [e] at hi; omega
  have et := he _ (nk _ (Or.inl a1)) (Or.inl a1)
  have ep := he _ (nk _ (Or.inr (Or.inr c1))) (Or.inr (Or.inr c1))
  have ec := he _ (nk _ (Or.inr (Or.inl d1))) (Or.inr (Or.inl d1))
  have es := he _ (nk _ (Or.inr (Or.inl f1))) (Or.inr (Or.inl f1))
  have eh := he _ (nk _ (Or.inr (Or.inl g1))) (Or.inr (Or.inl g1))
  unfold zoT
  rw [et.1, et.2.1, et.2.2.1, ep.1, ep.2.1, ep.2.2.2, ec.1, ec.2.2.2, es.1, es.2.2.2, eh.1, eh.2.2.2]
  refine ⟨⟨a1, a2⟩, ⟨k1, k2⟩, ⟨c1, c2⟩, ⟨d1, d2⟩, ⟨f1, f2⟩, n1, ⟨g1, g2⟩, fun j hj => ?_⟩
  dsimp only
  by_cases e : j = w
  · rw [if_pos e, if_pos e, e, k4]
    exact ⟨k5, k6, k7, k8⟩
  · rw [if_neg e, if_neg e, k3 j e]
    have hj' := hw j (by omega)
    have k := hj'.1.1
    exact ⟨hj'.1.e (he _ (nk _ (Or.inr (Or.inl k))) (Or.inr (Or.inl k))), hj'.2⟩
theorem zo_330 {τ : TI} {W w c Mx : Nat} {P : Nat → Nat → ZP} {M : Nat → Nat} {Q : Nat → ZP} {B : List Nat} (hS : zoS d sb B y) (hT : zoT τ W 4 6 w P M y) (hr : h_K y r = 60) (hrn : h_N y r = 24) (hM1 : 1 ≤ Mx) (hM3 : Mx ≤ 3) (hQ : ∀ j, j < Mx → zwp (Q j)) (hI : ∀ j, j < zln Q Mx → h_I y r j = nI (zpi Q Mx j)) (hwW : w < W) (hW8 : W ≤ 8) (hc : c < 93) (hB : B.length ≤ 1400) (hb : yb y 6) : ∃ y', f_l_L_drawn_330 k53 d sb l3 (ti_t τ) Wv (nI w) r (nI (zln Q Mx)) c sb y = k53 d sb l3 (ti_t τ) Wv (nI (w + 1)) y' ∧ zoS d sb (B ++ pp_tx c) y' ∧ zoT τ W 4 6 (w + 1) (fun j => if j = w then Q else P j) (fun j => if j = w then Mx else M j) y' ∧ yG 6 y y' := by
  have lc := (zxC c hc).2.2
  have hln := zlnB Mx hQ
  obtain ⟨L, hL⟩ : ∃ L, L = zln Q Mx := ⟨_, rfl⟩
  have hL0 : 0 < L := by
    obtain ⟨m, rfl⟩ : ∃ m, Mx = m + 1 := ⟨Mx - 1, by omega⟩
    have h1 : zln Q (m + 1) = zln Q m + (Q m).2.2.2 := rfl
    have h2 := (hQ m (by omega)).2.2.2.2.2.1
    omega
  rw [← hL] at hln hI ⊢
  unfold f_l_L_drawn_330
  obtain ⟨y1, e1, S1, g1, F1⟩ := hS.ap (α := Nat × MS) (zxH (y := y) hc) (by omega) (hb.mo (by omega))
  rw [e1]
  have T1 := hT.F F1
  have er := F1.rw6 hr
  have b1 : yb y1 1 := hb.g g1 (by omega)
  rw [if_pos T1.1.1, if_pos (show ¬ nI L < 0 from nI_pos (by omega)), nI_clamp (show L < 2 ^ 31 by omega), if_pos (yn_rm (k := 1) b1 (by omega) (by omega))]
  show ∃ y', (if h_K (h_new y1 60 (fun _ => 0) (fun _ => 0) L L) (h_R y1 (ti_t τ) 2) = 63 then (if h_K (h_new y1 60 (fun _ => 0) (fun _ => 0) L L) (h_nx y1) = 60 then (if g_ok (nI w) (h_N (h_new y1 60 (fun _ => 0) (fun _ => 0) L L) (h_R y1 (ti_t τ) 2)) = true then f_l_L_drawn_349 k53 g_fuel d sb l3 (ti_t τ) Wv (nI w) r (nI L) 0 (h_wr (h_new y1 60 (fun _ => 0) (fun _ => 0) L L) (h_R y1 (ti_t τ) 2) (nI w).toNatClampNeg (h_nx y1)) else none) else none) else none) = _ ∧ _
  obtain ⟨y2, hy2⟩ : ∃ y2, y2 = h_new y1 60 (fun _ => 0) (fun _ => 0) L L := ⟨_, rfl⟩
  rw [← hy2, T1.1.2.2.2.1, nI_clamp (show w < 2 ^ 31 by omega)]
  have o2 : ∀ i, i < h_nx y1 → ye y1 y2 i := fun i hi => by rw [hy2]; exact yn_o hi
  have K2 : h_K y2 (h_nx y1) = 60 := by rw [hy2]; exact (show h_K (h_new y1 60 (fun _ => 0) (fun _ => 0) L L) (h_nx y1) = 60 from yn_K)
  have N2 : h_N y2 (h_nx y1) = L := by rw [hy2]; exact yn_N
  have g2 : yG 1 y1 y2 := by rw [hy2]; exact yn_G (by omega) (by omega)
  have hO1 := S1.2.2.1
  have tl : ti_t τ < h_nx y1 := hO1.k T1.1.1
  have wl : ti_w τ < h_nx y1 := hO1.k T1.2.1.1
  have rl : r < h_nx y1 := hO1.k (er.1.trans hr)
  have et := o2 _ tl
  have ew := o2 _ wl
  have er2 := o2 _ rl
  rw [if_pos (ew.1.trans T1.2.1.1), if_pos K2, ew.2.2.2, T1.2.1.2, if_pos ((pp_ok (by omega)).mpr hwW)]
  obtain ⟨y3, hy3⟩ : ∃ y3, y3 = h_wr y2 (ti_w τ) w (h_nx y1) := ⟨_, rfl⟩
  rw [← hy3]
  have ntw : ti_t τ ≠ ti_w τ := fun q => by have h1 := T1.1.1; have h2 := T1.2.1.1; rw [q] at h1; omega
  have K3 : ∀ i, h_K y3 i = h_K y2 i := fun i => by rw [hy3]; rfl
  have N3 : ∀ i, h_N y3 i = h_N y2 i := fun i => by rw [hy3]; rfl
  have I3 : ∀ i, h_I y3 i = h_I y2 i := fun i => by rw [hy3]; rfl
  have R3 : ∀ i, i ≠ ti_w τ → h_R y3 i = h_R y2 i := fun i hi => by rw [hy3]; exact ywr_Rn hi
  have R3w : h_R y3 (ti_w τ) w = h_nx y1 := by rw [hy3, ywr_R, yup1]
  have R3o : ∀ j, j ≠ w → h_R y3 (ti_w τ) j = h_R y1 (ti_w τ) j := fun j hj => by rw [hy3, ywr_R, yup2 hj, ew.2.2.1]
  have g3 : yG 0 y2 y3 := by rw [hy3]; exact ywr_G _ _ _ _
  obtain ⟨y4, i1, i2, i3, i4, i5, i6, i7⟩ := zo_349 (k53 := k53) (d := d) (sb := sb) (l3 := l3) (Wv := Wv) (r := r) (t := ti_t τ) (q := h_nx y1) (aw := ti_w τ) (L := L) (w := w) (W := W) (by omega) hwW hW8 (by omega) (by omega) (by omega) L g_fuel 0 y3 (by omega) (by unfold g_fuel; omega) (by omega) (by rw [K3, et.1]; exact T1.1.1) (by rw [R3 _ ntw, et.2.2.1]; exact T1.1.2.2.2.1) (by rw [K3, ew.1]; exact T1.2.1.1) (by rw [N3, ew.2.2.2]; exact T1.2.1.2) R3w (by rw [K3]; exact K2) (by rw [N3]; exact N2) (by rw [K3, er2.1, er.1]; exact hr) (by rw [N3, er2.2.2.2, er.2.2.2]; exact hrn) (fun j hj => absurd hj (Nat.not_lt_zero _))
  have G14 : yG 1 y1 y4 := ((g2.tr g3).tr i2).mo (by omega)
  have n3 : h_nx y1 ≤ h_nx y3 := Nat.le_trans g2.1 g3.1
  have f14 : yF (fun j => j = ti_w τ) y1 y4 := fun i hi hP => (o2 i hi).tr ((show ye y2 y3 i from ⟨K3 i, I3 i, R3 i hP, N3 i⟩).tr (i3 i (by omega) (by omega)))
  have qlt : ∀ i, h_K y1 i = 60 → h_nx y1 ≠ i := fun i hi e => by have := hO1.k hi; omega
  refine ⟨y4, i1, S1.e G14 f14 ?_ (fun i q => by rw [q, T1.2.1.1]; exact ⟨by decide, by decide⟩), T1.ad (fun i hi hk => f14 i (hO1.lt (by omega)) hi) ?_ ?_ (fun j hj => ?_) ?_ ?_ ?_ (qlt _ T1.2.2.2.1.1) (qlt _ T1.2.2.2.2.1.1), (g1.tr G14).mo (by omega)⟩
  · rw [i4, K3, (o2 d (hO1.k S1.1)).1]; exact S1.1
  · rw [i4, K3, ew.1]; exact T1.2.1.1
  · rw [i5, N3, ew.2.2.2]; exact T1.2.1.2
  · rw [i6, R3o j hj]
  · show h_R y4 (ti_w τ) w = h_nx y1
    rw [i6, R3w]
  · refine ⟨by rw [i4, K3]; exact K2, by rw [i5, N3, ← hL]; exact N2, by omega, zpiB Mx hQ, fun j hj => ?_⟩
    rw [← hL] at hj
    rw [i7 j hj, I3, er2.2.1, er.2.1]
    exact hI j hj
  · omega
end ZOW
