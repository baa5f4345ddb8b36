/-! in the end all is as by hand; six steps -/
theorem zdc : ∀ s, s < 193 → ∀ w, w < 9 → 0 < w → (Op.cmpValue (FP.dcmp (FP.ddiv (FP.i2d (nI s)) (FP.i2d (nI w))) (FP.ddiv (FP.i2d (nI s)) (FP.i2d (nI w)))) .l) = 0 := by decide +kernel
section ZSM
variable {R nr b v d : Nat} {ρs : Nat → QR} {sg : Nat → Nat} {vl : Nat → Int32} {rs : Nat → ZR} {τ : TI} {A : PV} {les car : Int32} {x : CS} {y : MS}
theorem zk_146 (h : zR R nr b v d ρs sg vl rs A les car x y τ) (hW0 : 0 < pv_W A) : ∀ dd fu k, dd = pv_hl A - k → dd < fu → k ≤ pv_hl A → f_l_X16_isSame_146 fu (ti_t τ) (nI (pp_su (pv_ln A) (pv_W A))) (nI k) x y = some (1, x, y) := by
  have hW := h.1.1.1
  have hh := h.1.h.1
  have hsu := pp_suB (p := pv_ln A) (pv_W A) (fun k hk => (h.1.w hk).2.1)
  obtain ⟨t1, t2, t3, t4, t5, t6, t7, t8, t9, t10⟩ := h.2.1.t0
  obtain ⟨w1, w2⟩ := h.2.1.w0
  obtain ⟨r1, r2, r3⟩ := h.2.1.hr
  have q1 := h.2.1.2.2.2.1.2.2.2.2.2.2
  intro dd
  induction dd with
  | zero =>
    intro fu k hd hfu hk
    obtain ⟨f1, rfl⟩ : ∃ f, fu = f + 1 := ⟨fu - 1, by omega⟩
    rw [f_l_X16_isSame_146, if_pos t1, t6, if_pos r1.1, r1.2.1, if_pos (nI_le (by omega) (by omega)), pq_words h.1, pp_b, t4, if_pos w1, w2, if_pos rfl, pq_kept h.1, pp_b, h.2.1.kept, pp_b, if_pos rfl, pq_rules h.1, pp_b, t9, if_pos q1.1, q1.2, if_pos rfl, pq_lessons h.1, pp_b, t7, if_pos rfl, pq_carried h.1, pp_b, t8, if_pos rfl, pq_heardB h.1, pp_b, if_pos rfl, pq_mean h.1, pp_b, if_neg (nI_ne0 hW0 (by omega)), if_neg (show ¬ pv_W A = 0 by omega), if_pos (pp_nan _ (by omega) _ (by omega) hW0)]
    unfold f_l_X16_isSame_271
    rw [zdc _ (by omega) _ (by omega) hW0]
    exact if_pos rfl
  | succ dd ih =>
    intro fu k hd hfu hk
    obtain ⟨f1, rfl⟩ : ∃ f, fu = f + 1 := ⟨fu - 1, by omega⟩
    have i := ih f1 (k + 1) (by omega) (by omega) (by omega)
    rw [f_l_X16_isSame_146, if_pos t1, t6, if_pos r1.1, r1.2.1, if_neg (nI_ge (by omega) (by omega)), pq_heardP h.1 (show k < pv_hl A by omega), pp_b, if_pos ((pp_ok (by omega)).mpr (by omega)), nI_clamp (by omega), r1.2.2.2.2 k (by omega), if_pos rfl, nI_1]
    exact i
theorem zk_60 (h : zR R nr b v d ρs sg vl rs A les car x y τ) {w : Nat} (hw : w < pv_W A) {k4 : Nat → Int32 → Int32 → CS → MS → Option (Int32 × CS × MS)} {l2 : Int32} : ∀ dd fu k, dd = pv_ln A w - k → dd < fu → k ≤ pv_ln A w → f_l_X16_isSame_60 k4 fu (ti_t τ) l2 (nI w) (h_R y (ti_w τ) w) (nI (pp_sl (pv_pt A w) k)) (nI k) x y = k4 (ti_t τ) l2 (nI (w + 1)) x y := by
  have hW := h.1.1.1
  obtain ⟨a1, a2, a3, a4⟩ := h.2.1.wd hw
  have hl := a1.2.2.1
  intro dd
  induction dd with
  | zero =>
    intro fu k hd hfu hk
    obtain ⟨f1, rfl⟩ : ∃ f, fu = f + 1 := ⟨fu - 1, by omega⟩
    rw [f_l_X16_isSame_60, if_pos a1.1, a1.2.1, if_pos (nI_le (by omega) (by omega)), pq_silent h.1 hw, pp_b, show k = pv_ln A w by omega, if_pos rfl, nI_1]
  | succ dd ih =>
    intro fu k hd hfu hk
    obtain ⟨f1, rfl⟩ : ∃ f, fu = f + 1 := ⟨fu - 1, by omega⟩
    have i := ih f1 (k + 1) (by omega) (by omega) (by omega)
    have hkl : k < pv_ln A w := by omega
    have hp := a1.2.2.2.1 k
    have k83 : ∀ u : Nat, pp_sl (pv_pt A w) (k + 1) = pp_sl (pv_pt A w) k + u → f_l_X16_isSame_83 k4 (f_l_X16_isSame_60 k4 f1) (ti_t τ) l2 (nI w) (h_R y (ti_w τ) w) (nI k) (nI u) (nI (pp_sl (pv_pt A w) k)) x y = k4 (ti_t τ) l2 (nI (w + 1)) x y := by
      intro u hu
      rw [hu] at i
      unfold f_l_X16_isSame_83
      rw [pq_pitch h.1 hw hkl, pp_b, if_pos a1.1, a1.2.1, if_pos ((pp_ok (by omega)).mpr hkl), nI_clamp (by omega), a1.2.2.2.2 k hkl, if_pos rfl, pq_contour h.1 hw hkl, pp_b, a1.ci hkl, pp_b, if_pos rfl, nI_add, nI_1]
      exact i
    rw [f_l_X16_isSame_60, if_pos a1.1, a1.2.1, if_neg (nI_ge hkl (by omega)), if_pos ((pp_ok (by omega)).mpr hkl), nI_clamp (by omega), a1.2.2.2.2 k hkl]
    by_cases hz : pv_pt A w k = 0
    · rw [if_pos (by rw [hz]; rfl)]
      exact k83 1 (by rw [pp_slS, if_pos hz])
    · rw [if_neg (nI_ne0 (by omega) (by omega))]
      exact k83 0 (by rw [pp_slS, if_neg hz])
theorem zk_4 (h : zR R nr b v d ρs sg vl rs A les car x y τ) (hW0 : 0 < pv_W A) : ∀ dd fu k, dd = pv_W A - k → dd < fu → k ≤ pv_W A → f_l_X16_isSame_4 fu (ti_t τ) (nI (pp_su (pv_ln A) k)) (nI k) x y = some (1, x, y) := by
  have hW := h.1.1.1
  have hh := h.1.h.1
  obtain ⟨t1, t2, t3, t4, t5, t6, t7⟩ := h.2.1.t0
  obtain ⟨w1, w2⟩ := h.2.1.w0
  obtain ⟨p1, p2, p3⟩ := h.2.1.p0
  intro dd
  induction dd with
  | zero =>
    intro fu k hd hfu hk
    obtain ⟨f1, rfl⟩ : ∃ f, fu = f + 1 := ⟨fu - 1, by omega⟩
    rw [f_l_X16_isSame_4, if_pos t1, t4, if_pos w1, w2, if_pos (nI_le (by omega) (by omega)), show k = pv_W A by omega]
    exact zk_146 h hW0 (pv_hl A - 0) g_fuel 0 rfl (by unfold g_fuel; omega) (by omega)
  | succ dd ih =>
    intro fu k hd hfu hk
    obtain ⟨f1, rfl⟩ : ∃ f, fu = f + 1 := ⟨fu - 1, by omega⟩
    have i := ih f1 (k + 1) (by omega) (by omega) (by omega)
    have hkW : k < pv_W A := by omega
    obtain ⟨a1, a2, a3, a4⟩ := h.2.1.wd hkW
    have hl := a1.2.2.1
    have hok : g_ok (nI k) (pv_W A) = true := (pp_ok (by omega)).mpr hkW
    rw [f_l_X16_isSame_4, if_pos t1, t4, if_pos w1, w2, if_neg (nI_ge hkW (by omega)), if_pos hok, nI_clamp (by omega), if_pos a1.1, pq_length h.1 hkW, pp_b, a1.2.1, if_pos rfl, pq_pruned h.1 hkW, pp_b, t5, if_pos p1, p2, if_pos hok, p3 k hkW, if_pos rfl, nI_add]
    exact (zk_60 h hkW (pv_ln A k - 0) g_fuel 0 rfl (by unfold g_fuel; omega) (by omega)).trans i
theorem zk_same (h : zR R nr b v d ρs sg vl rs A les car x y τ) (hW0 : 0 < pv_W A) : f_l_X16_isSame (ti_t τ) x y = some (1, x, y) := by
  have hW := h.1.1.1
  exact zk_4 h hW0 (pv_W A - 0) g_fuel 0 rfl (by unfold g_fuel; omega) (by omega)
end ZSM
section ZSX
variable {R nr b v d : Nat} {ρs : Nat → QR} {sg : Nat → Nat} {vl : Nat → Int32} {rs : Nat → ZR}
variable {L : Nat} {xs : Nat → Int32} {k10 : Int32 → CS → MS → Option (Int32 × CS × MS)} {k94 : Int32 → Nat → Nat → Int32 → Int32 → CS → MS → Option (Int32 × CS × MS)} {l2 l7 : Int32}
/-- three acts, then the looks of a step -/
theorem zk_acts {W t : Nat} (hW0 : 0 < W) : ∀ dd fu o A les car x y τ, dd = 3 - o → dd < fu → o ≤ 3 → zR R nr b v d ρs sg vl rs A les car x y τ → pv_W A = W → ti_t τ = t → yb y (26 * dd + 124) → ∃ A' les' car' x' y' τ', zR R nr b v d ρs sg vl rs A' les' car' x' y' τ' ∧ pv_W A' = W ∧ ti_t τ' = t ∧ yG (26 * dd + 124) y y' ∧ f_l_L_law_104 L xs k10 k94 fu l2 d t (nI W) l7 (nI o) x y = k94 l2 d t (nI W) (l7 + 1) x' y' := by
  intro dd
  induction dd with
  | zero =>
    intro fu o A les car x y τ hd hfu ho h hW ht hb
    obtain ⟨f1, rfl⟩ : ∃ f, fu = f + 1 := ⟨fu - 1, by omega⟩
    have hR := h.2.2.2.2.2
    subst hW
    subst ht
    obtain ⟨A', les', car', x', y', i1, i2, i3, i4⟩ := zk_104 (L := L) (xs := xs) (k10 := k10) (k94 := k94) (l2 := l2) (l7 := l7) h hW0 (hb.mo (by omega)) f1
    refine ⟨A', les', car', x', y', τ, i1, i2, rfl, i3.mo (by omega), ?_⟩
    rw [show o = 3 by omega]
    exact i4
  | succ dd ih =>
    intro fu o A les car x y τ hd hfu ho h hW ht hb
    obtain ⟨f1, rfl⟩ : ∃ f, fu = f + 1 := ⟨fu - 1, by omega⟩
    have hR := h.2.2.2.2.2
    obtain ⟨A1, les1, car1, x1, y1, τ1, a1, a2, a3, a4, a5⟩ := zk_act h (by omega) (hb.mo (by omega))
    obtain ⟨A', les', car', x', y', τ', i1, i2, i3, i4, i5⟩ := ih f1 (o + 1) A1 les1 car1 x1 y1 τ1 (by omega) (by omega) (by omega) a2 (a3.trans hW) (a4.trans ht) ((hb.g a5 (by omega)).mo (by omega))
    refine ⟨A', les', car', x', y', τ', i1, i2, i3, (a5.tr i4).mo (by omega), ?_⟩
    rw [ht] at a1
    rw [f_l_L_law_104, if_neg (show ¬ (3 : Int32) ≤ nI o from nI_ge (b := 3) (by omega) (by omega)), a1, pp_b, nI_1]
    exact i5
theorem zk_six {W t : Nat} (hW0 : 0 < W) : ∀ dd fu k A les car x y τ, dd = 6 - k → dd < fu → k ≤ 6 → zR R nr b v d ρs sg vl rs A les car x y τ → pv_W A = W → ti_t τ = t → yb y (202 * dd) → ∃ A' les' car' x' y' τ', zR R nr b v d ρs sg vl rs A' les' car' x' y' τ' ∧ yG (202 * dd) y y' ∧ f_l_L_law_94 L xs k10 fu l2 d t (nI W) (nI k) x y = k10 (l2 + 1) x' y' := by
  intro dd
  induction dd with
  | zero =>
    intro fu k A les car x y τ hd hfu hk h hW ht hb
    obtain ⟨f1, rfl⟩ : ∃ f, fu = f + 1 := ⟨fu - 1, by omega⟩
    refine ⟨A, les, car, x, y, τ, h, (yG.rf y).mo (by omega), ?_⟩
    have e := zk_same h (by omega)
    have t1 := h.2.1.t0.1
    rw [ht] at e t1
    rw [f_l_L_law_94, show k = 6 by omega, if_pos (show (6 : Int32) ≤ nI 6 by decide), if_pos t1, e, pp_b]
    exact if_neg (show ¬ (1 : Int32) = 0 by decide)
  | succ dd ih =>
    intro fu k A les car x y τ hd hfu hk h hW ht hb
    obtain ⟨f1, rfl⟩ : ∃ f, fu = f + 1 := ⟨fu - 1, by omega⟩
    obtain ⟨A1, les1, car1, x1, y1, τ1, a1, a2, a3, a4, a5⟩ := zk_acts (L := L) (xs := xs) (k10 := k10) (k94 := f_l_L_law_94 L xs k10 f1) (l2 := l2) (l7 := nI k) hW0 3 g_fuel 0 A les car x y τ rfl (by unfold g_fuel; omega) (by omega) h hW ht (hb.mo (by omega))
    obtain ⟨A', les', car', x', y', τ', i1, i2, i3⟩ := ih f1 (k + 1) A1 les1 car1 x1 y1 τ1 (by omega) (by omega) (by omega) a1 a2 a3 ((hb.g a4 (by omega)).mo (by omega))
    refine ⟨A', les', car', x', y', τ', i1, (a4.tr i2).mo (by omega), ?_⟩
    rw [f_l_L_law_94, if_neg (show ¬ (6 : Int32) ≤ nI k from nI_ge (b := 6) (by omega) (by omega))]
    rw [nI_1] at a5
    exact a5.trans i3
end ZSX
