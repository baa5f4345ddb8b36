/-! a lesson, by both -/
theorem pp_rule {b k : Nat} {x : CS} (hk : k < 16) : f_X5_rule b (nI k) x = some (pp_rr b k) := by
  unfold f_X5_rule pp_rr
  rw [if_neg (nI_pos (by omega)), pp_lit 16, if_neg (nI_ge hk (by omega)), if_pos ((pp_ok (by omega)).mpr hk), nI_clamp (by omega)]
theorem pp_kd8 {b k : Nat} (hb : b = 20 ∨ b = 70) (hk : k < 16) : kd (pp_rr b k) = 8 := by
  have h1 : kd (b + 1) = 26 := by rcases hb with rfl | rfl <;> decide
  exact ke26 h1 hk
/-- the reference: all nodes of a rule, then what they say -/
theorem pp_carM {A : PV} {x : CS} {y : MS} {b s k Z : Nat} (hA : pv_ok A) (hM : pp_VM A y s) (hk : k < 16) (hZ : Z ≤ 400) (hN : pp_BN (pv_W A) x y b 127 Z) {w bg m e : Nat} (he : e ≤ Z) (hbm : bg ≤ m) (hme : m ≤ e) (hnu : pp_nu (x.2 (b + 3)) bg e) (m5 : y 132 k = nI bg) (m6 : y 133 k = nI e) : ∃ f g, pp_EV A (y s 3) (x.2 (b + 3)) (x.1 (b + 4)) bg e g ∧ f_X15_carryOut s (nI k) y = (if y 135 k = -1 then f_X15_carryOut_99 s (nI k) (g_ma (g_ma y 160 f) 151 g) else if g_ok (y 135 k) 800 = true then (if g (y 135 k).toNatClampNeg = 0 then some (0, g_ma (g_ma y 160 f) 151 g) else f_X15_carryOut_99 s (nI k) (g_ma (g_ma y 160 f) 151 g)) else none) := by
  have hs := hM.1
  obtain ⟨f, g, fu, h1, h2⟩ := pp_mloop (k := k) hA hM (fun p _ hp => hN p (by omega)) hnu (by omega) (by omega) m6 (e - bg) g_fuel bg (y 160) (y 151) rfl (by unfold g_fuel; omega) (by omega) (by omega) (fun q h1 h2 => by omega)
  refine ⟨f, g, h1, ?_⟩
  rw [pp_g5, pp_g5] at h2
  have hok := (pp_ok (k := k) (n := 17) (by omega)).mpr (by omega)
  unfold f_X15_carryOut
  rw [if_pos hok, nI_clamp (by omega), m5, h2, f_X15_carryOut_10, if_pos hok, nI_clamp (by omega), pp_g4 (by omega), pp_g4 (by omega), m6, if_pos (nI_le (by omega) (by omega)), if_pos hok, pp_g4 (by omega), pp_g4 (by omega), if_pos hok, pp_g3]
theorem pp_step {A : PV} {x : CS} {y : MS} {b v s k Z : Nat} (hA : pv_ok A) (hC : pp_VC A x v) (hM : pp_VM A y s) (hb : b = 20 ∨ b = 70) (hk : k < 16) (hZ : Z ≤ 400) (hN : pp_BN (pv_W A) x y b 127 Z) (hR : pp_BR (pv_W A) x y b 127 k Z) (hg : x.1 b 6 = nI (pv_g A)) (hl : x.1 v 3 = y s 3) : ∃ r A' x' y' x1, r ≤ 1 ∧ pv_ok A' ∧ pv_sm A A' ∧ pp_VC A' x' v ∧ pp_VM A' y' s ∧ pp_Fc v x x' ∧ x'.1 v = x.1 v ∧ pp_Fm s y y' ∧ y' s = y s ∧ f_X15_carryOut s (nI k) y = some (nI r, y') ∧ ((f_X1_holds b v (pp_rr b k) x = some (0, x1) ∧ r = 0 ∧ x' = x1) ∨ (f_X1_holds b v (pp_rr b k) x = some (1, x1) ∧ f_X1_changes b v (pp_rr b k) x1 = some (nI r, x'))) := by
  obtain ⟨w, bg, m, e, hw, hbm, hme, he, hnu, c1, c2, c3, c4, m4, m5, m6, hT, hK⟩ := hR
  have hs := hM.1
  have hv := hC.1
  have hW := hA.1
  have m4' : y 131 k = nI w := m4
  obtain ⟨f, g, hE, hcar⟩ := pp_carM hA hM hk hZ hN (w := w) he hbm hme hnu m5 m6
  have hY : pp_VM A (g_ma (g_ma y 160 f) 151 g) s := (hM.f (by omega) (by omega) (by omega) (by omega)).f (by omega) (by omega) (by omega) (by omega)
  have hYF : pp_Fm s y (g_ma (g_ma y 160 f) 151 g) := ((pp_Fm.rf s y).ma (by omega)).ma (by omega)
  have hYs : (g_ma (g_ma y 160 f) 151 g) s = y s := (pp_g4 (by omega)).trans (pp_g4 (by omega))
  have r1 : ∀ i, i ≠ 151 → i ≠ 160 → (g_ma (g_ma y 160 f) 151 g) i = y i := fun i h1 h2 => (pp_g4 h1).trans (pp_g4 h2)
  have hok := (pp_ok (k := k) (n := 17) (by omega)).mpr (by omega)
  have hsg : ∀ p, p < e → x.2 (b + 3) p < 46 := fun p hp => (hN p (by omega)).s46
  have hlk : ∀ p, bg ≤ p → p < e → pp_ar (x.2 (b + 3) p) = 0 → pp_lk (pv_W A) (x.2 (b + 3) p) (x.1 (b + 4) p) := fun p _ hp h0 => (hN p (by omega)).lk h0
  have hSF : ∀ {x1 x2 : CS}, pp_Sc x1 x2 → pp_Fc v x1 x2 := fun h => (pp_Fc.rf v _).sc h
  have hSv : ∀ {x1 x2 : CS}, pp_Sc x1 x2 → x2.1 v = x1.1 v := fun h => h.1 v (by omega)
  -- what the rule does, once its test holds
  have key : ∀ x1, pp_Sc x x1 → ∃ r A' x' y', r ≤ 1 ∧ pv_ok A' ∧ pv_sm A A' ∧ pp_VC A' x' v ∧ pp_VM A' y' s ∧ pp_Fc v x x' ∧ x'.1 v = x.1 v ∧ pp_Fm s y y' ∧ y' s = y s ∧ f_X15_carryOut_99 s (nI k) (g_ma (g_ma y 160 f) 151 g) = some (nI r, y') ∧ f_X1_changes b v (pp_rr b k) x1 = some (nI r, x') := by
    intro x1 hx1
    have hC1 := hC.s hx1
    have e1 : ∀ i, 20 ≤ i → x1.1 i = x.1 i := fun i hi => hx1.1 i (by omega)
    have hrr : 20 ≤ pp_rr b k := by unfold pp_rr; omega
    unfold f_X15_carryOut_99 f_X1_changes
    rw [if_pos hok, if_pos hok, nI_clamp (by omega), r1 130 (by omega) (by omega), r1 131 (by omega) (by omega), m4', r1 134 (by omega) (by omega), e1 _ hrr, c1, pp_word (by omega), pp_b, if_pos (pp_k10 hv (by omega)), hx1.2]
    rcases hK with ⟨k0, d0, hse, ds⟩ | ⟨k0, d0⟩ | ⟨k0, d0⟩
    · -- a shift
      have d0' : y 130 k = 2 := d0
      have ds' : y 134 k = nI (m - 1) := ds
      have hme1 := hse.1
      rw [d0', ds', if_pos rfl, k0, if_pos rfl, if_pos hok, if_pos ((pp_ok (by omega)).mpr (by omega)), nI_clamp (by omega), pp_g3]
      obtain ⟨fm, s1, s2, s3⟩ := pp_shiftM (d := g (m - 1)) (hY.2.2.2.1 w hw).2 (by omega)
      obtain ⟨x2, hx2, hrk⟩ := pp_reckC (b := b) (V := g) hA hC1 (by omega) (show x1.1 v 3 = y s 3 by rw [hSv hx1]; exact hl) (by rw [hx1.2]; exact hse) (show m ≤ 400 by omega) (fun p hp => by rw [hx1.2]; exact hsg p (by omega)) (fun p h1 h2 h0 => by rw [hx1.2, e1 _ (by omega)] at *; exact hlk p h1 (by omega) h0) (fun p h1 h2 => by rw [hx1.2, e1 _ (by omega)]; exact (hE p h1 (by omega)).1)
      have hC2 := hC1.s hx2
      obtain ⟨fc, t1, t2⟩ := pp_shiftC (d := g (m - 1)) (hC2.2.2.1 w hw).2.2
      rw [c2, c3, hrk, pp_b, t1, pp_b, s1, pp_b]
      have hcB := pp_cgB (pv_pt A w) (g (m - 1)) (pv_ln A w)
      have hVM := pp_VM.sp (d := g (m - 1)) hA hY hw s2 s3
      have hFM : pp_Fm s y (g_ma (g_ma (g_ma y 160 f) 151 g) (s + 2) fm) := hYF.ma (by omega)
      have hFs : (g_ma (g_ma (g_ma y 160 f) 151 g) (s + 2) fm) s = y s := (pp_g4 (by omega)).trans hYs
      have hx2' : pp_Sc x x2 := hx1.tr hx2
      have w1 : pp_wd v w + 1 + 1 = pp_wd v w + 2 := rfl
      rw [w1]
      have a1 : (g_wa x2 (pp_wd v w + 2) fc).1 (pp_wd v w) = x.1 (pp_wd v w) := (pp_c4 (by omega)).trans (hx2'.1 _ (by unfold pp_wd; omega))
      show ∃ r A' x' y', _ ∧ _ ∧ _ ∧ _ ∧ _ ∧ _ ∧ _ ∧ _ ∧ _ ∧ (if nI _ = 0 ∨ nI _ = 1 then _ else _) = _ ∧ (if nI (pp_cg (pv_pt A w) (g (m - 1)) (pv_ln A w)) = 0 then _ else _) = _
      rw [if_pos (pp_01n hcB)]
      by_cases hc : pp_cg (pv_pt A w) (g (m - 1)) (pv_ln A w) = 0
      · rw [if_pos (show nI (pp_cg (pv_pt A w) (g (m - 1)) (pv_ln A w)) = 0 by rw [hc]; rfl), if_pos (pp_01n hcB)]
        refine ⟨_, pv_sp A w (g (m - 1)), _, _, hcB, hA.sp, ⟨rfl, rfl, rfl, rfl, rfl⟩, ?_, hVM, ?_, ?_, hFM, hFs, rfl, rfl⟩
        · refine pp_VC.sp (x := x) hA hC hw (fun i h1 h2 h3 => (pp_c4 h3).trans (hx2'.1 i h1)) (by rw [a1]) ?_ (fun j hj => ?_)
          · rw [a1, pv_dh0 (pp_cg0 _ hc) (hA.2.2.1 w hw)]
            exact (hC.2.2.1 w hw).2.1
          · rw [pp_c3]; exact t2 j hj
        · exact ((pp_Fc.rf v x).sc hx2').wa (by unfold pp_wd; omega) (by unfold pp_wd; omega)
        · exact (pp_c4 (by unfold pp_wd; omega)).trans (hSv hx2')
      · rw [if_neg (nI_ne0 (by omega) (by omega))]
        have hRC : pp_RC (g_wa x2 (pp_wd v w + 2) fc) (pp_wd v w + 1) (pv_pt (pv_sp A w (g (m - 1))) w) (pv_ln (pv_sp A w (g (m - 1))) w) := by
          obtain ⟨q1, q2, q3, q4⟩ := (hC2.2.2.1 w hw).2.2
          refine ⟨by rw [pp_c4 (by omega)]; exact q1, q2, fun j => ?_, fun j hj => ?_⟩
          · rw [pv_ptp, if_pos rfl]; exact pp_hdB _ _
          · rw [pv_ptp, if_pos rfl, w1, pp_c3]; exact t2 j hj
        have hH : pp_RC (g_wa x2 (pp_wd v w + 2) fc) 14 (pv_hp A) (pv_hl A) := hC2.2.2.2.e (pp_c4 (by unfold pp_wd; omega)) (pp_c4 (by unfold pp_wd; omega))
        have hg2 : (g_wa x2 (pp_wd v w + 2) fc).1 b 6 = nI (pv_g A) := by
          rw [pp_c4 (by unfold pp_wd; omega), hx2'.1 b (by omega)]; exact hg
        obtain ⟨x3, hx3, hme⟩ := pp_meas (A := pv_sp A w (g (m - 1))) hb hA.sp hv hw hRC hH hg2
        show ∃ r A' x' y', _ ∧ _ ∧ _ ∧ _ ∧ _ ∧ _ ∧ _ ∧ _ ∧ _ ∧ _ ∧ (Option.bind (f_X1_measure b (pp_wd v w) (g_wa x2 (pp_wd v w + 2) fc)) _) = _
        rw [hme, pp_b, if_pos (pp_01n hcB)]
        have hF3 : ∀ i, (i < 9 ∨ i = 14 ∨ i = 15 ∨ 20 ≤ i) → x3.1 i = (g_wa x2 (pp_wd v w + 2) fc).1 i := hx3.1
        have hwd : 20 ≤ pp_wd v w := by unfold pp_wd; omega
        refine ⟨_, pv_sp A w (g (m - 1)), _, _, hcB, hA.sp, ⟨rfl, rfl, rfl, rfl, rfl⟩, ?_, hVM, ?_, ?_, hFM, hFs, rfl, rfl⟩
        · rw [pp_c1]
          refine pp_VC.sp (x := x) hA hC hw (fun i h1 h2 h3 => ?_) ?_ ?_ (fun j hj => ?_)
          · rw [pp_c4 h2, hF3 i h1, pp_c4 h3]; exact hx2'.1 i h1
          · rw [pp_c3, pp_u2 (by omega), hF3 _ (by omega), a1]
          · rw [pp_c3, pp_u1]
          · rw [pp_c4 (by omega), hF3 _ (by omega), pp_c3]; exact t2 j hj
        · rw [pp_c1]
          exact ((((pp_Fc.rf v x).sc hx2').wa (by unfold pp_wd; omega) (by unfold pp_wd; omega)).sc hx3).wa (by unfold pp_wd; omega) (by unfold pp_wd; omega)
        · rw [pp_c1, pp_c4 (by unfold pp_wd; omega), hF3 _ (by omega), pp_c4 (by unfold pp_wd; omega)]
          exact hSv hx2'
    all_goals
      have d0' : y 130 k = _ := d0
      have hpr := hA.2.1 w
      have hC1w := (hC1.2.2.1 w hw).1
      have hYw := (hY.2.2.2.1 w hw).1
      rw [d0', k0]
    · rw [if_neg (show ¬ (0 : Int32) = 2 by decide), if_neg (show ¬ (9 : Nat) = 11 by decide), if_pos hok, if_pos rfl, if_pos rfl]
      unfold f_X15_carryOut_160 f_X15_carryOut_178 f_X1_changes_74
      rw [if_pos ((pp_ok (by omega)).mpr (by omega)), nI_clamp (by omega), hC1w, hYw]
      refine ⟨if pv_pr A w = 1 then 0 else 1, pv_sr A w 1, g_wi x1 (pp_wd v w) 1 (nI 1), g_mi (g_ma (g_ma y 160 f) 151 g) (s + 3) w (nI 1), by split <;> omega, hA.sr (by omega), ⟨rfl, rfl, rfl, rfl, rfl⟩, pp_VC.sr hA hC1 hw, pp_VM.sr hY, ?_, ?_, ?_, ?_, ?_, ?_⟩
      · rw [pp_c1]; exact (hSF hx1).wa (by unfold pp_wd; omega) (by unfold pp_wd; omega)
      · rw [pp_c1, pp_c4 (by unfold pp_wd; omega)]; exact hSv hx1
      · rw [pp_g1]; exact hYF.ma (by omega)
      · rw [pp_g1, pp_g4 (by omega)]; exact hYs
      · have hw8 := (pp_ok (k := w) (n := 8) (by omega)).mpr (by omega)
        simp only [if_pos hw8]
        by_cases h1 : pv_pr A w = 1
        · rw [h1]; rfl
        · rw [show pv_pr A w = 0 by omega]; rfl
      · by_cases h1 : pv_pr A w = 1
        · rw [h1]; rfl
        · rw [show pv_pr A w = 0 by omega]; rfl
    · rw [if_neg (show ¬ (1 : Int32) = 2 by decide), if_neg (show ¬ (10 : Nat) = 11 by decide), if_pos hok, if_neg (show ¬ (1 : Int32) = 0 by decide), if_neg (show ¬ (10 : Nat) = 9 by decide)]
      unfold f_X15_carryOut_160 f_X15_carryOut_178 f_X1_changes_74
      rw [if_pos ((pp_ok (by omega)).mpr (by omega)), nI_clamp (by omega), hC1w, hYw]
      refine ⟨if pv_pr A w = 0 then 0 else 1, pv_sr A w 0, g_wi x1 (pp_wd v w) 1 (nI 0), g_mi (g_ma (g_ma y 160 f) 151 g) (s + 3) w (nI 0), by split <;> omega, hA.sr (by omega), ⟨rfl, rfl, rfl, rfl, rfl⟩, pp_VC.sr hA hC1 hw, pp_VM.sr hY, ?_, ?_, ?_, ?_, ?_, ?_⟩
      · rw [pp_c1]; exact (hSF hx1).wa (by unfold pp_wd; omega) (by unfold pp_wd; omega)
      · rw [pp_c1, pp_c4 (by unfold pp_wd; omega)]; exact hSv hx1
      · rw [pp_g1]; exact hYF.ma (by omega)
      · rw [pp_g1, pp_g4 (by omega)]; exact hYs
      · have hw8 := (pp_ok (k := w) (n := 8) (by omega)).mpr (by omega)
        simp only [if_pos hw8]
        by_cases h1 : pv_pr A w = 1
        · rw [h1]; rfl
        · rw [show pv_pr A w = 0 by omega]; rfl
      · by_cases h1 : pv_pr A w = 1
        · rw [h1]; rfl
        · rw [show pv_pr A w = 0 by omega]; rfl
  rw [hcar]
  unfold f_X1_holds
  rw [c3, c4]
  rcases hT with ⟨hm, t8⟩ | ⟨hse, t8⟩
  · have t8' : y 135 k = -1 := t8
    obtain ⟨r, A', x', y', k1⟩ := key x (pp_Sc.rf x)
    rw [t8', if_pos rfl, if_pos (by rw [hm])]
    exact ⟨r, A', x', y', x, k1.1, k1.2.1, k1.2.2.1, k1.2.2.2.1, k1.2.2.2.2.1, k1.2.2.2.2.2.1, k1.2.2.2.2.2.2.1, k1.2.2.2.2.2.2.2.1, k1.2.2.2.2.2.2.2.2.1, k1.2.2.2.2.2.2.2.2.2.1, Or.inr ⟨rfl, k1.2.2.2.2.2.2.2.2.2.2⟩⟩
  · have t8' : y 135 k = nI (e - 1) := t8
    have hlt := hse.1
    obtain ⟨x1, hx1, hrk⟩ := pp_reckC (b := b) (V := g) hA hC (by omega) hl hse (by omega) hsg (fun p h1 h2 h0 => hlk p (by omega) h2 h0) (fun p h1 h2 => (hE p (by omega) h2).1)
    rw [t8', if_neg (pp_m1n (by omega)), if_pos ((pp_ok (by omega)).mpr (by omega)), nI_clamp (by omega), if_neg (show ¬ nI m = nI e by rw [nI_eq (by omega) (by omega)]; omega), hrk, pp_b]
    by_cases hz : g (e - 1) = 0
    · rw [if_pos hz]
      refine ⟨0, A, x1, _, x1, by omega, hA, pv_sm.rf A, hC.s hx1, hY, hSF hx1, hSv hx1, hYF, hYs, rfl, Or.inl ⟨?_, rfl, rfl⟩⟩
      show (if g (e - 1) = 0 then _ else _) = _
      rw [if_pos hz]
    · obtain ⟨r, A', x', y', k1⟩ := key x1 hx1
      rw [if_neg hz]
      refine ⟨r, A', x', y', x1, k1.1, k1.2.1, k1.2.2.1, k1.2.2.2.1, k1.2.2.2.2.1, k1.2.2.2.2.2.1, k1.2.2.2.2.2.2.1, k1.2.2.2.2.2.2.2.1, k1.2.2.2.2.2.2.2.2.1, k1.2.2.2.2.2.2.2.2.2.1, Or.inr ⟨?_, k1.2.2.2.2.2.2.2.2.2.2⟩⟩
      show (if g (e - 1) = 0 then _ else _) = _
      rw [if_neg hz]
