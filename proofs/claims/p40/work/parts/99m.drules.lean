/-! the rules of a drawn language -/
section ZOR
variable {y z : MS} {d sb ar R W g nr hb hn : Nat} {τ : TI} {P : Nat → Nat → ZP} {M nl : Nat → Nat} {rs : Nat → ZR}
theorem zoF.E (h : zoF y z) : yE y z := ⟨fun i hi => h i (by omega) (by omega) (by omega) (by omega), fun i hi => h i (by omega) (by omega) (by omega) (by omega)⟩
theorem zlr_c {rs' : Nat → ZR} : ∀ k, (∀ j, j < k → rs' j = rs j) → zlr rs' k = zlr rs k := by
  intro k
  induction k with
  | zero => intro _; rfl
  | succ k ih =>
    intro h
    show zlr rs' k ++ zir (rs' k) = zlr rs k ++ zir (rs k)
    rw [ih (fun j hj => h j (by omega)), h k (by omega)]
theorem zlang_s {rs' : Nat → ZR} {k : Nat} (h : ∀ j, j < k → rs' j = rs j) : zibs (zlang P M nl rs' W hb g hn nr (k + 1)) = zibs (zlang P M nl rs W hb g hn nr k) ++ zibs (zir (rs' k)) := by
  have e : zlang P M nl rs' W hb g hn nr (k + 1) = zlang P M nl rs W hb g hn nr k ++ zir (rs' k) := by
    unfold zlang
    show zlw P M nl W ++ (zlb hb g ++ (zle hn nr ++ (zlr rs' k ++ zir (rs' k)))) = _
    rw [zlr_c k h]
    simp only [List.append_assoc]
  rw [e, zibsA]
theorem zoT.yT (h : zoT τ W g nr W P M y) (hO : yO y) (hL : zwL P M rs W hb g hn nr R) (h7 : h_R y (ti_t τ) 7 = ar) (hk : h_K y ar = 64) (hn' : h_N y ar = R) : yT (zPV W g P M) 0 0 nr R y (ti_t τ, ti_w τ, ti_p τ, ti_h τ, ar, ti_c τ, ti_s τ) := by
  obtain ⟨⟨a1, a2, a3, a4, a5, a6, a7, a8, a9, a10⟩, ⟨b1, b2⟩, ⟨c1, c2, c3⟩, ⟨d1, d2⟩, ⟨f1, f2⟩, n1, ⟨g1, g2, g3, g4⟩, hw⟩ := h
  have hgn := hL.gn
  refine ⟨hO, ⟨hL.1, fun _ => Nat.zero_le _, fun j hj => (hw j hj).2.1, hgn.1⟩, hgn.2, ⟨⟨a1, a2, a3, a4, a5, a6, a7, a8, h7, a9, a10⟩, ⟨b1, b2⟩, ⟨c1, c2, fun j _ => ?_⟩, ⟨d1, d2⟩, ⟨f1, f2⟩, n1, ⟨hk, hn'⟩⟩, fun j hj => ?_, ⟨⟨g1, g2, by show 0 ≤ 24; omega, fun _ => by show 0 ≤ 40; omega, fun k hk => absurd hk (Nat.not_lt_zero _)⟩, g3, g4⟩⟩
  · show h_I y (ti_p τ) j = nI 0
    rw [c3]; rfl
  · have hj' : j < W := hj
    have e : pv_pt (zPV W g P M) j = zpi (P j) (M j) := if_pos hj'
    show yr y (h_R y (ti_w τ) j) (pv_pt (zPV W g P M) j) (zln (P j) (M j)) ∧ _
    rw [e]
    exact hw j hj'
theorem zo_518 (hW : 0 < W) (hR : R ≤ 4) : ∀ dd fu k rs y, dd = R - k → dd < fu → k ≤ R → zoS d sb (zibs (zlang P M nl rs W hb g hn nr k)) y → zoT τ W g nr W P M y → h_R y (ti_t τ) 7 = ar → h_K y ar = 64 → h_N y ar = R → (∀ j, j < k → zhr W y (h_R y ar j) (rs j)) → zwL P M rs W hb g hn nr k → yb y (220 * dd) → zoZ d sb (ti_t τ) W (220 * dd) y (f_l_L_drawn_518 fu d sb (ti_t τ) (nI W) (nI R) (nI k) y) := by
  intro dd
  induction dd with
  | zero =>
    intro fu k rs y h1 h2 h3 hS hT h7 hka hna hr hL hb'
    obtain ⟨f1, rfl⟩ : ∃ f, fu = f + 1 := ⟨fu - 1, by omega⟩
    have e : k = R := by omega
    subst e
    rw [f_l_L_drawn_518, if_pos (nI_le (Nat.le_refl _) (by omega)), if_pos hT.1.1]
    exact ⟨y, P, M, nl, rs, hb, g, hn, nr, k, (ti_t τ, ti_w τ, ti_p τ, ti_h τ, ar, ti_c τ, ti_s τ), rfl, (yG.rf y).mo (by omega), hS.1, hT.yT hS.2.2.1 hL h7 hka hna, rfl, hr, hL, hS.2.1⟩
  | succ dd ih =>
    intro fu k rs y h1 h2 h3 hS hT h7 hka hna hr hL hb'
    obtain ⟨f1, rfl⟩ : ∃ f, fu = f + 1 := ⟨fu - 1, by omega⟩
    have hW8 := hL.1
    have hO := hS.2.2.1
    have ktt := hT.1.1
    rw [f_l_L_drawn_518, if_neg (nI_ge (by omega) (by omega)), if_pos ktt, if_pos (yn_rm (k := 1) (hb'.mo (by omega)) (by omega) (by omega)), if_pos yn_K]
    obtain ⟨y1, hy1⟩ : ∃ y1, y1 = h_new y 52 (fun _ => 0) (fun _ => 0) 0 4 := ⟨_, rfl⟩
    rw [← hy1]
    have k1 : h_K y1 (h_nx y) = 52 := by rw [hy1]; exact (show h_K (h_new y 52 (fun _ => 0) (fun _ => 0) 0 4) (h_nx y) = 52 from yn_K)
    have g1 : yG 1 y y1 := by rw [hy1]; exact yn_G (by omega) (by omega)
    have f1' : yF (fun _ => False) y y1 := by rw [hy1]; exact yn_F _
    have S1 : zoS d sb (zibs (zlang P M nl rs W hb g hn nr k)) y1 := hS.e g1 f1' ((f1' d (hO.k hS.1) (fun q => q)).1.trans hS.1) (fun _ q => q.elim)
    obtain ⟨r, y2, r1, r2, r3, r4, r5⟩ := zy_r (W := W) k1 S1.1 hW hW8 ((hb'.g g1 (by omega)).mo (by omega)) S1.2.2.1 S1.2.2.2
    have g2 : yG 15 y y2 := (g1.tr r3).mo (by omega)
    have S2 : zoS d sb (zibs (zlang P M nl rs W hb g hn nr k)) y2 := S1.e (Q := fun j => j = d ∨ j = h_nx y) r3 r4 r5 (fun i q => by
      rcases q with q | q
      · rw [q, S1.1]; exact ⟨by decide, by decide⟩
      · rw [q, k1]; exact ⟨by decide, by decide⟩)
    have F2 : zoF y y2 := fun i i0 i1 i2 i3 => (f1' i (hO.lt i0) (fun q => q)).tr (r4 i (Nat.lt_of_lt_of_le (hO.lt i0) g1.1) (fun q => by
      rcases q with q | q
      · rw [q, hS.1] at i1; exact i1 rfl
      · have := hO.lt i0; omega))
    rw [r1, pp_b, h7]
    have ea := F2 ar (by omega) (by omega) (by omega) (by omega)
    have hok : g_ok (nI k) R = true := (pp_ok (by omega)).mpr (by omega)
    rw [if_pos (ea.1.trans hka), if_pos r2.1, ea.2.2.2, hna, if_pos hok, nI_clamp (by omega)]
    obtain ⟨y3, hy3⟩ : ∃ y3, y3 = h_wr y2 ar k (h_nx y) := ⟨_, rfl⟩
    rw [← hy3]
    have tna : ti_t τ ≠ ar := fun q => by rw [q] at ktt; omega
    have k3 : ∀ j, h_K y3 j = h_K y2 j := fun j => by rw [hy3]; rfl
    have et := F2 (ti_t τ) (by omega) (by omega) (by omega) (by omega)
    have g3 : yG 0 y2 y3 := by rw [hy3]; exact ywr_G _ _ _ _
    have f3 : yF (fun j => j = ar) y2 y3 := by rw [hy3]; exact ywr_F rfl
    have R3t : h_R y3 (ti_t τ) 7 = ar := by
      have : h_R y3 (ti_t τ) = h_R y2 (ti_t τ) := by rw [hy3]; exact ywr_Rn tna
      rw [this, et.2.2.1]; exact h7
    have R3a : h_R y3 ar k = h_nx y := by rw [hy3, ywr_R, yup1]
    have N3a : h_N y3 ar = R := by rw [hy3]; exact ea.2.2.2.trans hna
    have K3a : h_K y3 ar = 64 := by rw [k3]; exact ea.1.trans hka
    have E3 : yE y2 y3 := ⟨fun i hi => f3 i (S2.2.2.1.k hi) (fun q => by rw [q, ea.1, hka] at hi; omega), fun i hi => f3 i (S2.2.2.1.k hi) (fun q => by rw [q, ea.1, hka] at hi; omega)⟩
    have S3 : zoS d sb (zibs (zlang P M nl rs W hb g hn nr k)) y3 := S2.e g3 f3 (by rw [k3]; exact S2.1) (fun i q => by rw [q, ea.1, hka]; exact ⟨by decide, by decide⟩)
    have Z3 := r2.E E3
    rw [if_pos (by rw [k3]; exact et.1.trans ktt), R3t, if_pos K3a, N3a, if_pos hok, R3a, if_pos Z3.1]
    have b3 : yb y3 (220 * dd + 205) := ((hb'.g g2 (by omega)).g g3 (by omega)).mo (by omega)
    obtain ⟨i4, y4, e4, h4, g4, f4⟩ := zx_rt Z3 hW8 (b3.mo (by omega)) S3.2.2.1 S3.2.2.2
    rw [e4, pp_b]
    have S4 : zoS d sb (zibs (zlang P M nl rs W hb g hn nr k)) y4 := S3.e g4 f4 ((f4 d (S3.2.2.1.k S3.1) (fun q => q)).1.trans S3.1) (fun _ q => q.elim)
    have F4 : zoF y3 y4 := zoF.of S3.2.2.1 f4 (fun _ q => q.elim)
    obtain ⟨rs', hrs'⟩ : ∃ rs' : Nat → ZR, rs' = fun j => if j = k then r else rs j := ⟨_, rfl⟩
    have rk : rs' k = r := by rw [hrs']; exact if_pos rfl
    have rj : ∀ j, j < k → rs' j = rs j := fun j hj => by rw [hrs']; exact if_neg (by omega)
    have hL' : zwL P M rs' W hb g hn nr (k + 1) := by
      obtain ⟨l1, l2, l3, l4, l5, l6⟩ := hL
      refine ⟨l1, l2, l3, by omega, fun j hj => ?_, l6⟩
      by_cases q : j = k
      · rw [q, rk]; exact r2.w
      · rw [rj j (by omega)]; exact l5 j (by omega)
    have es := zlang_s (P := P) (M := M) (nl := nl) (W := W) (hb := hb) (g := g) (hn := hn) (nr := nr) rj
    have lc := (zlang_c (nl := nl) hL').2.2
    rw [es, rk] at lc
    rw [List.length_append] at lc
    obtain ⟨y5, e5, S5, g5, F5⟩ := S4.ap (α := Nat × MS) h4 (by omega) ((b3.g g4 (by omega)).mo (by omega))
    rw [e5, nI_1]
    rw [← rk, ← es] at S5
    have F35 : zoF y3 y5 := F4.tr F5
    have ea5 := F35 ar (by omega) (by omega) (by omega) (by omega)
    have kt3 : h_K y3 (ti_t τ) = 53 := by rw [k3]; exact et.1.trans ktt
    have et5 := F35 (ti_t τ) (by omega) (by omega) (by omega) (by omega)
    have E5 : yE y3 y5 := F35.E
    have T3 : zoT τ W g nr W P M y3 := hT.e (fun i hi => (F2 i (by omega) (by omega) (by omega) (by omega)).tr (f3 i (Nat.lt_of_lt_of_le (hO.lt (by omega)) g2.1) (fun q => by rw [q] at hi; omega)))
    have G : yG 220 y y5 := (((g2.tr g3).tr g4).tr g5).mo (by omega)
    refine (ih f1 (k + 1) rs' y5 (by omega) (by omega) (by omega) S5 (T3.F F35) ?_ (ea5.1.trans K3a) (ea5.2.2.2.trans N3a) (fun j hj => ?_) hL' ((hb'.g G (by omega)).mo (by omega))).g G (by omega)
    · rw [et5.2.2.1]; exact R3t
    · rw [ea5.2.2.1]
      by_cases q : j = k
      · rw [q, R3a, rk]; exact Z3.E E5
      · have eR : h_R y3 ar j = h_R y ar j := by rw [hy3, ywr_R, yup2 q, ea.2.2.1]
        rw [eR, rj j (by omega)]
        exact (((hr j (by omega)).E F2.E).E E3).E E5
end ZOR
