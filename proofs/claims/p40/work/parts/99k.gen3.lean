/-! rules made by dice -/
section ZYR
variable {y y1 z : MS} {d t W σ w s : Nat}
/-- what a rule by dice leaves -/
def zyR (W d t u : Nat) (y : MS) (o : Option MS) : Prop := ∃ r y', o = some y' ∧ zhr W y' t r ∧ yG u y y' ∧ yF (fun j => j = d ∨ j = t) y y' ∧ h_K y' d = 50
theorem zyR.b {u v a : Nat} {o : Option MS} (g : yG a y y1) (f : yF (fun j => j = d ∨ j = t) y y1) (h : zyR W d t u y1 o) (hv : a + u ≤ v) : zyR W d t v y o := by
  obtain ⟨r, y', h1, h2, h3, h4, h5⟩ := h
  exact ⟨r, y', h1, h2, (g.tr h3).mo hv, f.tr h4 g, h5⟩
theorem zyF.wd {u : Nat} (h : zyF u d y y1) : yF (fun j => j = d ∨ j = t) y y1 := h.2.1.mo (fun _ _ q => Or.inl q)
theorem zy_65 {e : Z1} (hk : h_K y t = 52) (hd : h_K y d = 50) (h0 : h_I y t 0 = nI σ) (hσ : σ ≤ 2) (h1 : h_I y t 1 = nI w) (hw : w < W) (hW8 : W ≤ 8) (hs : σ = 2 → zh1 W y s e) (hb : yb y 11) (hO : yO y) (hx : 200 ≤ h_nx y) : zyR W d t 11 y (f_l_X15_init_65 t d (nI W) s t y) := by
  have htd : t ≠ d := fun q => by rw [q] at hk; omega
  unfold f_l_X15_init_65
  obtain ⟨y2, hy2⟩ : ∃ y2, y2 = h_wr y t 2 s := ⟨_, rfl⟩
  have kd : h_K (h_wr y t 2 s) d = 50 := hd
  rw [if_pos hk, if_pos kd, ← hy2]
  have g2 : yG 0 y y2 := by rw [hy2]; exact ywr_G _ _ _ _
  have f2 : yF (fun j => j = d ∨ j = t) y y2 := by rw [hy2]; exact ywr_F (Or.inr rfl)
  have k2 : h_K y2 t = 52 := by rw [hy2]; exact hk
  have d2 : h_K y2 d = 50 := by rw [hy2]; exact hd
  have i20 : h_I y2 t = h_I y t := by rw [hy2]; rfl
  have r22 : h_R y2 t 2 = s := by rw [hy2, ywr_R, yup1]
  have o2 := g2.2.2.2.2 hO
  obtain ⟨k, y3, hk4, e3, f3, n3⟩ := zyd (n := 4) d2 (by omega) (by omega)
  have e3' : f_l_X13_next d (4 : Int32) y2 = some (nI k, y3) := e3
  rw [e3', pp_b]
  have t3 := f3.2.1 t (o2.k k2) htd
  have o3 := f3.1.2.2.2.2 o2
  have P3 : yP y y3 := yP.F (f2.tr f3.wd g2) hO (fun i hi q => by rcases q with q | q <;> rw [q] at hi <;> omega)
  have n2 : h_nx y2 = h_nx y := by rw [hy2]; rfl
  by_cases hk0 : k = 0
  · rw [if_pos (show nI k = 0 by rw [hk0]; rfl), if_pos (t3.1.trans k2)]
    refine ⟨(σ, w, e, 0, (0, (0, 0, (0, (0, 0), (0, 0)), (0, 0)), (0, 0, (0, (0, 0), (0, 0)), (0, 0)))), _, rfl, ⟨t3.1.trans k2, ?_, hσ, ?_, hw, fun q => ?_, fun _ => ?_, fun q => absurd rfl q⟩, ywr_G' ((g2.tr f3.1).mo (by omega)), (f2.tr f3.wd g2).tr (ywr_F (Or.inr rfl)) (g2.tr f3.1), f3.2.2⟩
    · show h_I y3 t 0 = nI σ
      rw [t3.2.1, i20]; exact h0
    · show h_I y3 t 1 = nI w
      rw [t3.2.1, i20]; exact h1
    · rw [ywr_R, yup2 (by decide), t3.2.2.1, r22]
      exact ((hs q).P P3).P (fun i hi => ⟨rfl, rfl, ywr_Rn (fun q => by have := t3.1.trans k2; rw [q] at hi; omega), rfl⟩)
    · rw [ywr_R, yup1]; omega
  · rw [if_neg (show ¬ nI k = 0 from nI_ne0 (by omega) (by omega))]
    obtain ⟨et, i, y4, a1, a2, a3, a4, a5⟩ := zy_t1 (n := 4) f3.2.2 (by omega) hW8 (((hb.g g2 (by omega)).g f3.1 (by omega)).mo (by omega)) o3
    have a1' : f_l_X14_test 6 d (nI W) (1 : Int32) y3 = some (i, y4) := a1
    show zyR W d t 11 y ((f_l_X14_test 6 d (nI W) (1 : Int32) y3).bind _)
    rw [a1', pp_b]
    have t4 := a3.2.1 t (o3.k (t3.1.trans k2)) htd
    have kt4 : h_K y4 t = 52 := t4.1.trans (t3.1.trans k2)
    have P4 : yP y3 y4 := yP.F a3.2.1 o3 (fun j hj q => by rw [q, f3.2.2] at hj; omega)
    have Pw : yP y4 (h_wr y4 t 3 i) := fun j hj => ⟨rfl, rfl, ywr_Rn (fun q => by rw [q] at hj; omega), rfl⟩
    rw [if_pos kt4]
    refine ⟨(σ, w, e, 1, et), _, rfl, ⟨kt4, ?_, hσ, ?_, hw, fun q => ?_, fun q => absurd (show (1 : Nat) = 0 from q) (by decide), fun _ => ⟨?_, ?_⟩⟩, ywr_G' (((g2.tr f3.1).tr a3.1).mo (by omega)), ((f2.tr f3.wd g2).tr a3.wd (g2.tr f3.1)).tr (ywr_F (Or.inr rfl)) ((g2.tr f3.1).tr a3.1), a3.2.2⟩
    · show h_I y4 t 0 = nI σ
      rw [t4.2.1, t3.2.1, i20]; exact h0
    · show h_I y4 t 1 = nI w
      rw [t4.2.1, t3.2.1, i20]; exact h1
    · rw [ywr_R, yup2 (by decide), t4.2.2.1, t3.2.2.1, r22]
      exact (((hs q).P P3).P P4).P Pw
    · rw [ywr_R, yup1]; omega
    · rw [ywr_R, yup1]
      exact a5 _ (fun j _ hj => Pw j hj)
theorem zy_30 (hk : h_K y t = 52) (hd : h_K y d = 50) (hσ : σ ≤ 2) (hW : 0 < W) (hW8 : W ≤ 8) (hb : yb y 14) (hO : yO y) (hx : 200 ≤ h_nx y) : zyR W d t 14 y (f_l_X15_init_30 t d (nI W) (nI σ) t y) := by
  have htd : t ≠ d := fun q => by rw [q] at hk; omega
  unfold f_l_X15_init_30
  obtain ⟨y2, hy2⟩ : ∃ y2, y2 = h_wi y t 0 (nI σ) := ⟨_, rfl⟩
  have kd : h_K (h_wi y t 0 (nI σ)) d = 50 := hd
  rw [if_pos hk, if_pos kd, ← hy2]
  have g2 : yG 0 y y2 := by rw [hy2]; exact ywi_G _ _ _ _
  have f2 : yF (fun j => j = d ∨ j = t) y y2 := by rw [hy2]; exact ywi_F (Or.inr rfl)
  have k2 : h_K y2 t = 52 := by rw [hy2]; exact hk
  have d2 : h_K y2 d = 50 := by rw [hy2]; exact hd
  have i20 : h_I y2 t 0 = nI σ := by rw [hy2, ywi_I, pp_u1]
  have o2 := g2.2.2.2.2 hO
  obtain ⟨w, y3, hw, e3, f3, n3⟩ := zyd (n := W) d2 hW (by omega)
  rw [e3, pp_b]
  have t3 := f3.2.1 t (o2.k k2) htd
  have k3 := t3.1.trans k2
  obtain ⟨y4, hy4⟩ : ∃ y4, y4 = h_wi y3 t 1 (nI w) := ⟨_, rfl⟩
  rw [if_pos k3]
  show zyR W d t 14 y (if (2 : Int32) ≤ h_I (h_wi y3 t 1 (nI w)) t 0 then (if h_K (h_wi y3 t 1 (nI w)) d = 50 then (f_l_X13_next d (2 : Int32) (h_wi y3 t 1 (nI w))).bind _ else none) else f_l_X15_init_65 t d (nI W) 0 t (h_wi y3 t 1 (nI w)))
  rw [← hy4]
  have g4 : yG 0 y y4 := by rw [hy4]; exact ywi_G' ((g2.tr f3.1).mo (by omega))
  have f4 : yF (fun j => j = d ∨ j = t) y y4 := by rw [hy4]; exact (f2.tr f3.wd g2).tr (ywi_F (Or.inr rfl)) (g2.tr f3.1)
  have k4 : h_K y4 t = 52 := by rw [hy4]; exact k3
  have d4 : h_K y4 d = 50 := by rw [hy4]; exact f3.2.2
  have i40 : h_I y4 t 0 = nI σ := by rw [hy4, ywi_I, pp_u2 (by decide), t3.2.1]; exact i20
  have i41 : h_I y4 t 1 = nI w := by rw [hy4, ywi_I, pp_u1]
  have o4 := g4.2.2.2.2 hO
  have b4 : yb y4 14 := hb.g g4 (by omega)
  have n4 : h_nx y ≤ h_nx y4 := g4.1
  rw [i40]
  by_cases h2 : σ = 2
  · rw [if_pos (show (2 : Int32) ≤ nI σ by rw [h2]; decide), if_pos d4]
    obtain ⟨k, y5, hk2, e5, f5, n5⟩ := zyd (n := 2) d4 (by omega) (by omega)
    have e5' : f_l_X13_next d (2 : Int32) y4 = some (nI k, y5) := e5
    rw [e5', pp_b]
    have o5 := f5.1.2.2.2.2 o4
    have b5 : yb y5 14 := b4.g f5.1 (by omega)
    have hz : ∃ e, zyT 3 d y5 (fun z i => zh1 W z i e) (f_l_X14_sum 6 d (nI W) (nI k) y5) := by
      by_cases hk0 : k = 0
      · subst hk0
        obtain ⟨e, h⟩ := zy_s0 (n := 5) f5.2.2 hW hW8 (b5.mo (by omega)) o5
        obtain ⟨i, y', p1, p2, p3, p4, p5⟩ := h
        exact ⟨(0, e, e), i, y', p1, p2, p3.mo (by omega), p4, fun z hz => Or.inl ⟨rfl, p5 z hz⟩⟩
      · have : k = 1 := by omega
        subst this
        exact zy_s1 (n := 4) f5.2.2 hW hW8 (b5.mo (by omega)) o5
    obtain ⟨e, i, y6, a1, a2, a3, a4, a5⟩ := hz
    show zyR W d t 14 y ((f_l_X14_sum 6 d (nI W) (nI k) y5).bind _)
    rw [a1, pp_b]
    have t5 := f5.2.1 t (o4.k k4) htd
    have t6 := a3.2.1 t (o5.k (t5.1.trans k4)) htd
    have o6 := a3.1.2.2.2.2 o5
    have b6 : yb y6 11 := b5.g a3.1 (by omega)
    have n6 := a3.1.1
    have h65 := zy_65 (s := i) (e := e) (t6.1.trans (t5.1.trans k4)) a3.2.2 (by rw [t6.2.1, t5.2.1]; exact i40) hσ (by rw [t6.2.1, t5.2.1]; exact i41) hw hW8 (fun _ => a5 y6 (fun j _ _ => ye.rf _ _)) b6 o6 (by omega)
    exact h65.b ((g4.tr f5.1).tr a3.1) ((f4.tr f5.wd g4).tr a3.wd (g4.tr f5.1)) (by omega)
  · rw [if_neg (show ¬ (2 : Int32) ≤ nI σ from (nI_ge (by omega) (by omega) : ¬ nI 2 ≤ nI σ))]
    have h65 := zy_65 (s := 0) (e := (0, (0, 0), (0, 0))) k4 d4 i40 hσ i41 hw hW8 (fun q => absurd q h2) (b4.mo (by omega)) o4 (by omega)
    exact h65.b g4 f4 (by omega)
theorem zy_r (hk : h_K y t = 52) (hd : h_K y d = 50) (hW : 0 < W) (hW8 : W ≤ 8) (hb : yb y 14) (hO : yO y) (hx : 200 ≤ h_nx y) : zyR W d t 14 y (f_l_X15_init t d (nI W) y) := by
  have htd : t ≠ d := fun q => by rw [q] at hk; omega
  unfold f_l_X15_init
  obtain ⟨k, y1, hk5, e1, f1, n1⟩ := zyd (n := 5) hd (by omega) (by omega)
  have e1' : f_l_X13_next d (5 : Int32) y = some (nI k, y1) := e1
  rw [if_pos hk, if_pos hd, e1', pp_b]
  have t1 := f1.2.1 t (hO.k hk) htd
  have o1 := f1.1.2.2.2.2 hO
  have b1 : yb y1 14 := hb.g f1.1 (by omega)
  have fin : ∀ σ, σ ≤ 2 → zyR W d t 14 y (f_l_X15_init_30 t d (nI W) (nI σ) t y1) := fun σ hσ => (zy_30 (t1.1.trans hk) f1.2.2 hσ hW hW8 b1 o1 (by omega)).b f1.1 f1.wd (by omega)
  by_cases h3 : 3 ≤ k
  · rw [if_pos (show (3 : Int32) ≤ nI k from (nI_le (by omega) (by omega) : nI 3 ≤ nI k))]
    show zyR W d t 14 y (if nI k = (3 : Int32) then _ else _)
    by_cases h4 : k = 3
    · rw [if_pos (show nI k = (3 : Int32) by rw [h4]; rfl)]
      exact fin 2 (by omega)
    · rw [if_neg (show ¬ nI k = (3 : Int32) from fun q => h4 ((nI_eq (a := k) (b := 3) (by omega) (by omega)).mp q))]
      exact fin 0 (by omega)
  · rw [if_neg (show ¬ (3 : Int32) ≤ nI k from (nI_ge (by omega) (by omega) : ¬ nI 3 ≤ nI k))]
    exact fin k (by omega)
end ZYR
