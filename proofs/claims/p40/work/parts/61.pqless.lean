/-! lessons, the class's side: all rules in their order, then the two counters -/
def pq_Gc (v : Nat) (x x' : CS) : Prop := (∀ i, (i < 9 ∨ 20 ≤ i) → (i < v ∨ v + 29 ≤ i) → x'.1 i = x.1 i) ∧ x'.2 = x.2
theorem pq_Gc.rf (v : Nat) (x : CS) : pq_Gc v x x := ⟨fun _ _ _ => rfl, rfl⟩
theorem pq_Gc.tr {v : Nat} {x y z : CS} (h : pq_Gc v x y) (k : pq_Gc v y z) : pq_Gc v x z := ⟨fun i h1 h2 => (k.1 i h1 h2).trans (h.1 i h1 h2), k.2.trans h.2⟩
theorem pq_Gc.ofF {v : Nat} {x y : CS} (h : pp_Fc v x y) : pq_Gc v x y := ⟨fun i h1 h2 => h.1 i (by omega) h2, h.2⟩
theorem pq_Gc.ofS {v : Nat} {x y : CS} (h : pp_Sc x y) : pq_Gc v x y := ⟨fun i h1 h2 => h.1 i (by omega), h.2⟩
theorem pq_Gc.wa {v i : Nat} {x y : CS} {f : Nat → Int32} (h : pq_Gc v x y) (h1 : (9 ≤ i ∧ i < 20) ∨ (v ≤ i ∧ i < v + 29)) : pq_Gc v x (g_wa y i f) := ⟨fun j h3 h4 => (pp_c4 (by omega)).trans (h.1 j h3 h4), h.2⟩
theorem pq_BR.e {W b k : Nat} {x x1 : CS} {ρ : QR} (h : pq_BR W x b k ρ) (hk : k < 16) (h1 : ∀ i, b ≤ i → i ≤ b + 20 → x1.1 i = x.1 i) (h2 : x1.2 = x.2) : pq_BR W x1 b k ρ := by
  have e1 : x1.1 (pp_rr b k) = x.1 (pp_rr b k) := h1 _ (by unfold pp_rr; omega) (by unfold pp_rr; omega)
  have e2 : x1.1 (b + 4) = x.1 (b + 4) := h1 _ (by omega) (by omega)
  unfold pq_BR at h ⊢
  rw [e1, e2, h2]
  exact h
theorem pq_BK.e {W g b R v : Nat} {x x1 : CS} {ρs : Nat → QR} (h : pq_BK W g x b R ρs) (hv : v = 41 ∨ v = 91) (h1 : pq_Gc v x x1) : pq_BK W g x1 b R ρs := by
  obtain ⟨k1, k2, k3, k4, k5⟩ := h
  have e1 : ∀ i, b ≤ i → i ≤ b + 20 → x1.1 i = x.1 i := fun i h3 h4 => h1.1 i (by omega) (by omega)
  exact ⟨k1, k2, by rw [e1 b (by omega) (by omega)]; exact k3, by rw [e1 b (by omega) (by omega)]; exact k4, fun k hk => (k5 k hk).e (by omega) e1 h1.2⟩
theorem pq_fold2 {les : Int32} {sg : Nat → Nat} {vl : Nat → Int32} {ρs : Nat → QR} {A : PV} (hA : pv_ok A) : ∀ k, pv_ok (pq_fold les sg vl ρs k A).2 ∧ pv_sm A (pq_fold les sg vl ρs k A).2 := by
  intro k
  induction k with
  | zero => exact ⟨hA, pv_sm.rf A⟩
  | succ k ih =>
    have h := pq_rl2 (V := pq_V (pq_fold les sg vl ρs k A).2 les sg vl) (ρ := ρs k) ih.1
    exact ⟨h.1, ih.2.tr h.2⟩
theorem pq_fold1 {les : Int32} {sg : Nat → Nat} {vl : Nat → Int32} {ρs : Nat → QR} {A : PV} : ∀ k, (pq_fold les sg vl ρs k A).1 ≤ k := by
  intro k
  induction k with
  | zero => exact Nat.le_refl _
  | succ k ih =>
    have h := pq_rl1 (V := pq_V (pq_fold les sg vl ρs k A).2 les sg vl) (ρ := ρs k) (A := (pq_fold les sg vl ρs k A).2)
    show (pq_fold les sg vl ρs k A).1 + _ ≤ k + 1
    omega
theorem pq_lessL {b v R : Nat} {les : Int32} {ρs : Nat → QR} {A : PV} {x0 : CS} (hA : pv_ok A) (hB : pq_BK (pv_W A) (pv_g A) x0 b R ρs) : ∀ d fc k x, d = R - k → d < fc → k ≤ R → pp_VC (pq_fold les (x0.2 (b + 3)) (x0.1 (b + 4)) ρs k A).2 x v → x.1 v 3 = les → pp_Fc v x0 x → x.1 v = x0.1 v → ∃ x', f_X1_passOne_5 fc b v (nI (pq_fold les (x0.2 (b + 3)) (x0.1 (b + 4)) ρs k A).1) (nI k) x = some (nI (pq_fold les (x0.2 (b + 3)) (x0.1 (b + 4)) ρs R A).1, x') ∧ pp_VC (pq_fold les (x0.2 (b + 3)) (x0.1 (b + 4)) ρs R A).2 x' v ∧ x'.1 v 3 = x0.1 v 3 + 1 ∧ x'.1 v 4 = x0.1 v 4 + nI (pq_fold les (x0.2 (b + 3)) (x0.1 (b + 4)) ρs R A).1 ∧ pp_Fc v x0 x' := by
  obtain ⟨sg, hsg⟩ : ∃ z, z = x0.2 (b + 3) := ⟨_, rfl⟩
  obtain ⟨vl, hvl⟩ : ∃ z, z = x0.1 (b + 4) := ⟨_, rfl⟩
  rw [← hsg, ← hvl]
  intro d
  induction d with
  | zero =>
    intro fc k x hd hfc hk hC h3 hF hv0
    obtain ⟨f1, rfl⟩ : ∃ fu, fc = fu + 1 := ⟨fc - 1, by omega⟩
    have hv := hC.1
    obtain ⟨k1, k2, k3, k4, k5⟩ := hB
    have e : k = R := by omega
    subst e
    have hle := nI_le (Nat.le_refl k) (show k < 2 ^ 31 by omega)
    have eb : x.1 b = x0.1 b := hF.1 b (by omega) (by omega)
    refine ⟨_, by rw [f_X1_passOne_5, eb, k3, if_pos hle], ?_, ?_, ?_, ?_⟩
    · rw [pp_c1, pp_c1, pp_c2]
      refine ⟨hv, ?_, fun j hj => ⟨?_, ?_, ?_⟩, ?_⟩
      · rw [pp_c3, pp_u2 (by omega), pp_c3, pp_u2 (by omega)]; exact hC.2.1
      · rw [pp_c4 (by unfold pp_wd; omega)]; exact (hC.2.2.1 j hj).1
      · rw [pp_c4 (by unfold pp_wd; omega)]; exact (hC.2.2.1 j hj).2.1
      · exact (hC.2.2.1 j hj).2.2.e (pp_c4 (by unfold pp_wd; omega)) (pp_c4 (by unfold pp_wd; omega))
      · exact hC.2.2.2.e (pp_c4 (by omega)) (pp_c4 (by omega))
    · simp [g_wi, upd, hv0]
    · simp [g_wi, upd, hv0]
    · rw [pp_c1, pp_c1]
      exact (hF.wa (by omega) (by omega)).wa (by omega) (by omega)
  | succ d ih =>
    intro fc k x hd hfc hk hC h3 hF hv0
    obtain ⟨f1, rfl⟩ : ∃ fu, fc = fu + 1 := ⟨fc - 1, by omega⟩
    have hv := hC.1
    have hB0 := hB
    obtain ⟨k1, k2, k3, k4, k5⟩ := hB
    have hkR : k < R := by omega
    have hA1 := pq_fold2 (les := les) (sg := sg) (vl := vl) (ρs := ρs) hA k
    obtain ⟨A1, hA1e⟩ : ∃ z, z = (pq_fold les sg vl ρs k A).2 := ⟨_, rfl⟩
    rw [← hA1e] at hA1 hC
    have hB1 := hB0.e (x1 := x) hv (pq_Gc.ofF hF)
    have hR := hB1.2.2.2.2 k hkR
    have hg1 : x.1 b 6 = nI (pv_g A1) := by rw [hA1.2.2.2.2.2]; exact hB1.2.2.2.1
    have es : x.2 (b + 3) = sg := by rw [hF.2, hsg]
    have ev : x.1 (b + 4) = vl := by rw [hF.1 (b + 4) (by omega) (by omega), hvl]
    have eb : x.1 b = x0.1 b := hF.1 b (by omega) (by omega)
    obtain ⟨x1, xh, q1, q2, q3, q4⟩ := pq_step (ρ := ρs k) hA1.1 hC k1 (show k < 16 by omega) (by rw [hA1.2.1]; exact hR) hg1 h3
    rw [es, ev] at q1 q4
    have hf2 : (pq_fold les sg vl ρs (k + 1) A).2 = (pq_rl (pq_V A1 les sg vl) (ρs k) A1).2 := by rw [hA1e]; rfl
    have hf1 : (pq_fold les sg vl ρs (k + 1) A).1 = (pq_fold les sg vl ρs k A).1 + (pq_rl (pq_V A1 les sg vl) (ρs k) A1).1 := by rw [hA1e]; rfl
    obtain ⟨x', i1, i2⟩ := ih f1 (k + 1) x1 (by omega) (by omega) (by omega) (by rw [hf2]; exact q1) (by rw [q3]; exact h3) (hF.tr q2) (q3.trans hv0)
    have hlt := nI_ge hkR (show R < 2 ^ 31 by omega)
    have hr1 := pq_rl1 (V := pq_V A1 les sg vl) (ρ := ρs k) (A := A1)
    refine ⟨x', ?_, i2⟩
    rw [f_X1_passOne_5, eb, k3, if_neg hlt, pq_rule (by omega), pp_b, if_pos (pq_kd8 k1 (by omega)), nI_1]
    rw [hf1] at i1
    rcases q4 with ⟨u1, u2, u3⟩ | ⟨u1, u2⟩
    · rw [u1, pp_b]
      show (if (0 : Int32) = 0 then _ else _) = _
      rw [if_pos rfl]
      rw [u2, Nat.add_zero, u3] at i1
      exact i1
    · rw [u1, pp_b]
      show (if (1 : Int32) = 0 then _ else _) = _
      rw [if_neg (by decide)]
      show Option.bind (f_X1_changes b v (pp_rr b k) xh) _ = _
      rw [u2, pp_b]
      show (if nI (pq_rl (pq_V A1 les sg vl) (ρs k) A1).1 = 0 then _ else _) = _
      rcases Nat.lt_or_ge 0 (pq_rl (pq_V A1 les sg vl) (ρs k) A1).1 with hr | hr
      · have e : (pq_rl (pq_V A1 les sg vl) (ρs k) A1).1 = 1 := by omega
        rw [e] at i1
        rw [if_neg (nI_ne0 hr (by omega)), nI_1]
        exact i1
      · have e : (pq_rl (pq_V A1 les sg vl) (ρs k) A1).1 = 0 := by omega
        rw [e] at i1
        rw [if_pos (by rw [e]; rfl)]
        exact i1
/-- one lesson -/
def pq_ls (les : Int32) (x : CS) (b R : Nat) (ρs : Nat → QR) (A : PV) : Nat × PV := pq_fold les (x.2 (b + 3)) (x.1 (b + 4)) ρs R A
theorem pq_less {b v R : Nat} {A : PV} {x : CS} {ρs : Nat → QR} (hA : pv_ok A) (hC : pp_VC A x v) (hB : pq_BK (pv_W A) (pv_g A) x b R ρs) : ∃ x', f_X1_passOne b v x = some (nI (pq_ls (x.1 v 3) x b R ρs A).1, x') ∧ pp_VC (pq_ls (x.1 v 3) x b R ρs A).2 x' v ∧ x'.1 v 3 = x.1 v 3 + 1 ∧ x'.1 v 4 = x.1 v 4 + nI (pq_ls (x.1 v 3) x b R ρs A).1 ∧ pp_Fc v x x' := by
  have hR := hB.2.1
  exact pq_lessL (les := x.1 v 3) hA hB (R - 0) g_fuel 0 x rfl (by unfold g_fuel; omega) (by omega) hC rfl (pp_Fc.rf v x) rfl
