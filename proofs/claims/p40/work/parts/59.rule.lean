/-! a rule carried out by both -/
def pp_rr (b k : Nat) : Nat := b + 1 + 4 + 1 * k
def pv_sm (A A' : PV) : Prop := pv_W A' = pv_W A ∧ pv_ln A' = pv_ln A ∧ pv_hl A' = pv_hl A ∧ pv_hp A' = pv_hp A ∧ pv_g A' = pv_g A
theorem pv_sm.rf (A : PV) : pv_sm A A := ⟨rfl, rfl, rfl, rfl, rfl⟩
theorem pv_sm.tr {A B C : PV} (h : pv_sm A B) (k : pv_sm B C) : pv_sm A C := ⟨k.1.trans h.1, k.2.1.trans h.2.1, k.2.2.1.trans h.2.2.1, k.2.2.2.1.trans h.2.2.2.1, k.2.2.2.2.trans h.2.2.2.2⟩
def pv_sp (A : PV) (w : Nat) (d : Int32) : PV := (pv_W A, pv_pr A, pv_ln A, fun j => if j = w then fun k => pp_hd (pv_pt A w k) d else pv_pt A j, pv_hl A, pv_hp A, pv_g A)
def pv_sr (A : PV) (w v : Nat) : PV := (pv_W A, fun j => if j = w then v else pv_pr A j, pv_ln A, pv_pt A, pv_hl A, pv_hp A, pv_g A)
theorem pv_ok.sp {A : PV} {w : Nat} {d : Int32} (h : pv_ok A) : pv_ok (pv_sp A w d) := h
theorem pv_ok.sr {A : PV} {w v : Nat} (h : pv_ok A) (hv : v ≤ 1) : pv_ok (pv_sr A w v) := by
  refine ⟨h.1, fun j => ?_, h.2.2⟩
  show (if j = w then v else pv_pr A j) ≤ 1
  split
  · exact hv
  · exact h.2.1 j
theorem pv_ptp {A : PV} {w j : Nat} {d : Int32} : pv_pt (pv_sp A w d) j = if j = w then fun k => pp_hd (pv_pt A w k) d else pv_pt A j := rfl
theorem pv_prr {A : PV} {w v j : Nat} : pv_pr (pv_sr A w v) j = if j = w then v else pv_pr A j := rfl
theorem pp_DE {g n m : Nat} {p p2 q : Nat → Nat} (h : ∀ k, k < n → p k = p2 k) (hn : 0 < n) (hm : 0 < m) : pp_D g p n q m = pp_D g p2 n q m := by
  unfold pp_D
  exact pp_wE (fun i j hi _ => by show pp_cp (p i) (q j) = pp_cp (p2 i) (q j); rw [h i hi]) _ _ (show n - 1 < n by omega) (show m - 1 < m by omega)
theorem pv_dhn {A : PV} {w j : Nat} {d : Int32} (h : j ≠ w) : pv_dh (pv_sp A w d) j = pv_dh A j := by
  unfold pv_dh
  rw [pv_ptp, if_neg h]
  rfl
theorem pv_dh0 {A : PV} {w : Nat} {d : Int32} (h : ∀ k, k < pv_ln A w → pp_hd (pv_pt A w k) d = pv_pt A w k) (hn : 0 < pv_ln A w) : pv_dh (pv_sp A w d) w = pv_dh A w := by
  unfold pv_dh
  rw [pv_ptp, if_pos rfl]
  show (if pv_hl A = 0 then _ else pp_D (pv_g A) _ (pv_ln A w) (pv_hp A) (pv_hl A) / 100) = _
  by_cases h0 : pv_hl A = 0
  · rw [if_pos h0, if_pos h0]
  · rw [if_neg h0, if_neg h0, pp_DE h hn (by omega)]
theorem pp_VC.sp {A : PV} {x x1 : CS} {v w : Nat} {d : Int32} (hA : pv_ok A) (h : pp_VC A x v) (hw : w < pv_W A) (h0 : ∀ i, (i < 9 ∨ i = 14 ∨ i = 15 ∨ 20 ≤ i) → i ≠ pp_wd v w → i ≠ pp_wd v w + 2 → x1.1 i = x.1 i) (h1 : x1.1 (pp_wd v w) 1 = x.1 (pp_wd v w) 1) (h2 : x1.1 (pp_wd v w) 2 = nI (pv_dh (pv_sp A w d) w)) (h3 : ∀ j, j < pv_ln A w → x1.1 (pp_wd v w + 2) j = nI (pp_hd (pv_pt A w j) d)) : pp_VC (pv_sp A w d) x1 v := by
  have hv := h.1
  have hW := hA.1
  refine ⟨hv, ?_, fun j hj => ⟨?_, ?_, ?_⟩, ?_⟩
  · rw [h0 v (by omega) (by unfold pp_wd; omega) (by unfold pp_wd; omega)]; exact h.2.1
  · have hj' : j < pv_W A := hj
    by_cases e : j = w
    · rw [e, h1]; exact (h.2.2.1 w hw).1
    · rw [h0 (pp_wd v j) (by unfold pp_wd; omega) (by unfold pp_wd; omega) (by unfold pp_wd; omega)]
      exact (h.2.2.1 j hj').1
  · have hj' : j < pv_W A := hj
    by_cases e : j = w
    · rw [e, h2]
    · rw [h0 (pp_wd v j) (by unfold pp_wd; omega) (by unfold pp_wd; omega) (by unfold pp_wd; omega), pv_dhn e]
      exact (h.2.2.1 j hj').2.1
  · have hj' : j < pv_W A := hj
    obtain ⟨r1, r2, r3, r4⟩ := (h.2.2.1 j hj').2.2
    refine ⟨?_, r2, fun k => ?_, fun k hk => ?_⟩
    · rw [h0 (pp_wd v j + 1) (by unfold pp_wd; omega) (by unfold pp_wd; omega) (by unfold pp_wd; omega)]; exact r1
    · rw [pv_ptp]
      split
      · exact pp_hdB _ _
      · exact r3 k
    · have hk' : k < pv_ln A j := hk
      rw [pv_ptp]
      by_cases e : j = w
      · rw [if_pos e, e]; exact h3 k (e ▸ hk')
      · rw [if_neg e, h0 (pp_wd v j + 1 + 1) (by unfold pp_wd; omega) (by unfold pp_wd; omega) (by unfold pp_wd; omega)]
        exact r4 k hk'
  · exact h.2.2.2.e (h0 _ (by omega) (by unfold pp_wd; omega) (by unfold pp_wd; omega)) (h0 _ (by omega) (by unfold pp_wd; omega) (by unfold pp_wd; omega))
theorem pp_VC.sr {A : PV} {x : CS} {v w u : Nat} (hA : pv_ok A) (h : pp_VC A x v) (hw : w < pv_W A) : pp_VC (pv_sr A w u) (g_wi x (pp_wd v w) 1 (nI u)) v := by
  have hv := h.1
  have hW := hA.1
  rw [pp_c1]
  refine ⟨hv, ?_, fun j hj => ⟨?_, ?_, ?_⟩, ?_⟩
  · rw [pp_c4 (by unfold pp_wd; omega)]; exact h.2.1
  · rw [pv_prr]
    by_cases e : j = w
    · rw [if_pos e, e, pp_c3, pp_u1]
    · rw [if_neg e, pp_c4 (by unfold pp_wd; omega)]
      exact (h.2.2.1 j hj).1
  · show _ = nI (pv_dh A j)
    by_cases e : j = w
    · rw [e, pp_c3, pp_u2 (by omega)]
      exact (h.2.2.1 w hw).2.1
    · rw [pp_c4 (by unfold pp_wd; omega)]
      exact (h.2.2.1 j hj).2.1
  · exact (h.2.2.1 j hj).2.2.e (pp_c4 (by unfold pp_wd; omega)) (pp_c4 (by unfold pp_wd; omega))
  · exact h.2.2.2.e (pp_c4 (by unfold pp_wd; omega)) (pp_c4 (by unfold pp_wd; omega))
/-! frames -/
def pp_Fc (v : Nat) (x x' : CS) : Prop := (∀ i, (i < 9 ∨ i = 14 ∨ i = 15 ∨ 20 ≤ i) → (i < v ∨ v + 29 ≤ i) → x'.1 i = x.1 i) ∧ x'.2 = x.2
theorem pp_Fc.rf (v : Nat) (x : CS) : pp_Fc v x x := ⟨fun _ _ _ => rfl, rfl⟩
theorem pp_Fc.tr {v : Nat} {x y z : CS} (h : pp_Fc v x y) (k : pp_Fc v y z) : pp_Fc v x z := ⟨fun i h1 h2 => (k.1 i h1 h2).trans (h.1 i h1 h2), k.2.trans h.2⟩
theorem pp_Fc.sc {v : Nat} {x y z : CS} (h : pp_Fc v x y) (k : pp_Sc y z) : pp_Fc v x z := ⟨fun i h1 h2 => (k.1 i h1).trans (h.1 i h1 h2), k.2.trans h.2⟩
theorem pp_Fc.wa {v i : Nat} {x y : CS} {f : Nat → Int32} (h : pp_Fc v x y) (h1 : v ≤ i) (h2 : i < v + 29) : pp_Fc v x (g_wa y i f) := ⟨fun j h3 h4 => (pp_c4 (by omega)).trans (h.1 j h3 h4), h.2⟩
/-! how far a word is from what was heard, reckoned anew -/
theorem pp_meas {A : PV} {x : CS} {b v w : Nat} (hb : b = 20 ∨ b = 70) (hA : pv_ok A) (hv : v = 41 ∨ v = 91) (hw : w < pv_W A) (hR : pp_RC x (pp_wd v w + 1) (pv_pt A w) (pv_ln A w)) (hH : pp_RC x 14 (pv_hp A) (pv_hl A)) (hg : x.1 b 6 = nI (pv_g A)) : ∃ x1, pp_Sc x x1 ∧ f_X1_measure b (pp_wd v w) x = some (g_wi x1 (pp_wd v w) 2 (nI (pv_dh A w))) := by
  have hW := hA.1
  have hh := hH.2.1
  unfold f_X1_measure pv_dh
  rw [hH.1]
  by_cases h0 : pv_hl A = 0
  · rw [if_pos (by rw [h0]; rfl), if_pos h0]
    exact ⟨x, pp_Sc.rf x, rfl⟩
  · rw [if_neg (nI_ne0 (by omega) (by omega)), if_neg h0, hg]
    obtain ⟨f, hf⟩ := pp_distC (g := pv_g A) (by unfold pp_wd; omega) (by unfold pp_wd; omega) (by omega) (by omega) hR hH (hA.2.2.1 w hw) (by omega) hA.2.2.2
    refine ⟨g_wa x 9 f, (pp_Sc.rf x).wa (by omega) (by omega) (by omega) (by omega), ?_⟩
    rw [hf]
    rfl

