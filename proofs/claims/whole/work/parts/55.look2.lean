/-! needless, nearest, what was heard -/
theorem pp_thrG {x1 : CS} {y1 : MS} {o : Nat → Int32} {fl : Option (Int32 × CS × (Nat → Int32))} {fm : Option (Int32 × MS)} {k r : Int32} (hR : pp_R x1 y1) (hk : k ≠ 0) (e1 : fl = some (k, x1, o)) (e2 : fm = some (r, g_mi y1 120 0 k)) : pp_OK fl fm :=
  ⟨k, x1, o, r, _, e1, e2, pp_th0, fun h => absurd h hk, hR.th⟩
def pv_nx (A : PV) (nr w : Nat) : Nat → Nat
  | 0 => 0
  | d + 1 => if pv_pr A (w - (d + 1)) = 0 then (if pv_ne A nr (w - (d + 1)) w = 0 then pv_nx A nr w d else 1) else pv_nx A nr w d
theorem pv_nxS (A : PV) (nr w d : Nat) : pv_nx A nr w (d + 1) = if pv_pr A (w - (d + 1)) = 0 then (if pv_ne A nr (w - (d + 1)) w = 0 then pv_nx A nr w d else 1) else pv_nx A nr w d := rfl
theorem pv_nx1 (A : PV) (nr w : Nat) : ∀ d, pv_nx A nr w d ≤ 1 := by
  intro d
  induction d with
  | zero => exact Nat.zero_le _
  | succ d ih =>
    rw [pv_nxS]
    repeat' split
    all_goals omega
def pv_nl (A : PV) (nr w : Nat) : Nat := if pv_pr A w = 1 then 0 else pv_nx A nr w w
theorem pv_nl1 (A : PV) (nr w : Nat) : pv_nl A nr w ≤ 1 := by
  unfold pv_nl
  split
  · omega
  · exact pv_nx1 A nr w w
theorem pp_needC {A : PV} {x : CS} {b v w nr : Nat} (hA : pv_ok A) (hC : pp_VC A x v) (hb : b = 20 ∨ b = 70) (h6 : x.2 0 6 = b) (h7 : x.2 0 7 = v) (hg : x.1 b 6 = nI (pv_g A)) (hn : x.1 b 7 = nI nr) (hn9 : nr ≤ 99) (hw : w < pv_W A) : ∃ f, f_X12_needless (nI w) x = some (nI (pv_nl A nr w), g_wa x 9 f) := by
  have hW := hA.1
  have hv := hC.1
  have key : ∀ d fuel g, d ≤ w → d < fuel → ∃ f, f_X12_needless_18 fuel (nI w) (nI (w - d)) (g_wa x 9 g) = some (nI (pv_nx A nr w d), g_wa x 9 f) := by
    intro d
    induction d with
    | zero =>
      intro fuel g hd hfu
      obtain ⟨fu, rfl⟩ : ∃ fu, fuel = fu + 1 := ⟨fuel - 1, by omega⟩
      refine ⟨g, ?_⟩
      rw [f_X12_needless_18, if_pos (nI_le (by omega) (by omega))]; rfl
    | succ d ih =>
      intro fuel g hd hfu
      obtain ⟨fu, rfl⟩ : ∃ fu, fuel = fu + 1 := ⟨fuel - 1, by omega⟩
      have i := fun g => ih fu g (by omega) (by omega)
      have ek : w - d = w - (d + 1) + 1 := by omega
      have hSc : pp_Sc x (g_wa x 9 g) := (pp_Sc.rf x).wa (by omega) (by omega) (by omega) (by omega)
      have hC' := hC.s hSc
      have hp := hA.2.1 (w - (d + 1))
      rw [pv_nxS]
      rw [f_X12_needless_18, if_neg (nI_ge (by omega) (by omega)), hSc.2, h7, if_pos (pp_k9 hv), pp_word (by omega), pp_b, if_pos (pp_k10 hv (by omega)), (hC'.2.2.1 _ (by omega)).1, nI_1, ← ek]
      by_cases h0 : pv_pr A (w - (d + 1)) = 0
      · rw [if_pos (by rw [h0]; rfl), if_pos h0]
        obtain ⟨f1, hf1⟩ := pp_nearC (nr := nr) hA hC' hb (by rw [hSc.2]; exact h6) (by rw [hSc.2]; exact h7) (by rw [hSc.1 b (by omega)]; exact hg) (by rw [hSc.1 b (by omega)]; exact hn) hn9 (show w - (d + 1) < pv_W A by omega) hw
        rw [hf1, pp_b, pp_c2]
        show ∃ f, (if nI (pv_ne A nr (w - (d + 1)) w) = 0 then _ else _) = _
        have h1 := pv_ne1 A nr (w - (d + 1)) w
        by_cases hz : pv_ne A nr (w - (d + 1)) w = 0
        · rw [if_pos (by rw [hz]; rfl), if_pos hz]
          exact i f1
        · rw [if_neg (nI_ne0 (by omega) (by omega)), if_neg hz]
          exact ⟨f1, rfl⟩
      · rw [if_neg (nI_ne0 (by omega) (by omega)), if_neg h0]
        exact i g
  unfold f_X12_needless pv_nl
  rw [h7, if_pos (pp_k9 hv), pp_word (by omega), pp_b, if_pos (pp_k10 hv (by omega)), (hC.2.2.1 w hw).1]
  have hp := hA.2.1 w
  by_cases h1 : pv_pr A w = 1
  · rw [if_neg (by rw [h1]; decide), if_pos h1]
    exact ⟨x.1 9, by rw [pp_wae]; rfl⟩
  · rw [if_pos (by rw [show pv_pr A w = 0 by omega]; rfl), if_neg h1]
    have := key w g_fuel (x.1 9) (Nat.le_refl _) (by unfold g_fuel; omega)
    rw [Nat.sub_self, pp_wae] at this
    exact this
theorem pp_needM {A : PV} {y : MS} {w nr : Nat} (hA : pv_ok A) (hM : pp_VM A y 152) (hn : y 127 1 = nI nr) (hn9 : nr ≤ 99) (hw : w < pv_W A) : ∃ f, f_X15_needless (nI w) y = some (nI (pv_nl A nr w), g_ma y 160 f) := by
  have hW := hA.1
  have key : ∀ d fuel g, d ≤ w → d < fuel → ∃ f, f_X15_needless_17 fuel (nI w) (nI (w - d)) (g_ma y 160 g) = some (nI (pv_nx A nr w d), g_ma y 160 f) := by
    intro d
    induction d with
    | zero =>
      intro fuel g hd hfu
      obtain ⟨fu, rfl⟩ : ∃ fu, fuel = fu + 1 := ⟨fuel - 1, by omega⟩
      refine ⟨g, ?_⟩
      rw [f_X15_needless_17, if_pos (nI_le (by omega) (by omega))]; rfl
    | succ d ih =>
      intro fuel g hd hfu
      obtain ⟨fu, rfl⟩ : ∃ fu, fuel = fu + 1 := ⟨fuel - 1, by omega⟩
      have i := fun g => ih fu g (by omega) (by omega)
      have ek : w - d = w - (d + 1) + 1 := by omega
      have hM' : pp_VM A (g_ma y 160 g) 152 := hM.f (by omega) (by omega) (by omega) (by omega)
      have hp := hA.2.1 (w - (d + 1))
      have hpr : y 155 (w - (d + 1)) = nI (pv_pr A (w - (d + 1))) := (hM.2.2.2.1 _ (by omega)).1
      rw [pv_nxS]
      rw [f_X15_needless_17, if_neg (nI_ge (by omega) (by omega)), if_pos ((pp_ok (by omega)).mpr (by omega)), nI_clamp (by omega), pp_g4 (by omega), hpr, nI_1, ← ek]
      by_cases h0 : pv_pr A (w - (d + 1)) = 0
      · rw [if_pos (by rw [h0]; rfl), if_pos h0]
        obtain ⟨f1, hf1⟩ := pp_nearM (nr := nr) hA hM' (by rw [pp_g4 (by omega)]; exact hn) hn9 (show w - (d + 1) < pv_W A by omega) hw
        rw [hf1, pp_b, pp_g2]
        show ∃ f, (if nI (pv_ne A nr (w - (d + 1)) w) = 0 then _ else _) = _
        have h1 := pv_ne1 A nr (w - (d + 1)) w
        by_cases hz : pv_ne A nr (w - (d + 1)) w = 0
        · rw [if_pos (by rw [hz]; rfl), if_pos hz]
          exact i f1
        · rw [if_neg (nI_ne0 (by omega) (by omega)), if_neg hz]
          exact ⟨f1, rfl⟩
      · rw [if_neg (nI_ne0 (by omega) (by omega)), if_neg h0]
        exact i g
  unfold f_X15_needless pv_nl
  have hpr : y 155 w = nI (pv_pr A w) := (hM.2.2.2.1 w hw).1
  have hp := hA.2.1 w
  rw [if_pos ((pp_ok (by omega)).mpr (by omega)), nI_clamp (by omega), hpr]
  by_cases h1 : pv_pr A w = 1
  · rw [if_pos (by rw [h1]; rfl), if_pos h1]
    exact ⟨y 160, by rw [pp_g5]; rfl⟩
  · rw [if_neg (by rw [show pv_pr A w = 0 by omega]; decide), if_neg h1]
    have := key w g_fuel (y 160) (Nat.le_refl _) (by unfold g_fuel; omega)
    rw [Nat.sub_self, pp_g5] at this
    exact this
theorem pp_o19 {p : Int32} {x : CS} {y : MS} {o : Nat → Int32} (h : pp_R x y) : pp_OK (f_L_isNeedless p x o) (f_X15_isNeedless p y) := by
  have h0 := h
  obtain ⟨A, b, v, R, Z, nr, T, hA, hT, hC, hM, h3, h4, hB⟩ := h
  have hW := hA.1
  have hv := hC.1
  have hg : y 127 0 = nI (pv_g A) := hM.2.2.1
  have hg20 := hA.2.2.2
  have hb := hB.1
  have hbg := hB.2.2.2.2.2.1
  have ho : (p < 0 ∨ nI (pv_W A) ≤ p) → _ := fun q1 => pp_thr (u := 0) (o := o) (r := 0) (k := 1) (fl := f_L_isNeedless p x o) (fm := f_X15_isNeedless p y) h0 (by decide) (by unfold f_L_isNeedless f_X12_isNeedless; rw [pp_rqO hT.2.1 hv hC.2.1 q1]; rfl) (by unfold f_X15_isNeedless; rw [pp_tolO ((pp_thn (by omega)).trans hM.2.1) hW q1]; rfl)
  rcases pk_ix p (n := pv_W A) (by omega) with q1 | q1 | ⟨j, hj, rfl⟩
  · exact ho (Or.inl q1)
  · exact ho (Or.inr q1)
  · obtain ⟨k1, k2, k3, k4, k5, k6, k7⟩ := hT
    obtain ⟨f, hf⟩ := pp_needC hA hC hb k1 k2 hbg k5 k4 hj
    obtain ⟨g, hgm⟩ := pp_needM hA (hM.th (u := 0)) ((pp_thn (by omega)).trans k6) k4 hj
    have h1 := pp_01n (pv_nl1 A nr j)
    refine pp_fin (o := o) (r := nI (pv_nl A nr j)) (x1 := g_wa x 9 f) (y1 := g_ma (g_mi y 120 0 0) 160 g) ?_ ?_ ?_ h0.s9
    · unfold f_L_isNeedless f_X12_isNeedless
      rw [pp_rqI k2 hv hC.2.1 hW hj, pp_b]
      show Option.bind (Option.bind (f_X12_needless (nI j) x) _) _ = _
      rw [hf, pp_b, if_pos h1, pp_b]
      rcases h1 with e | e <;> rw [e] <;> rfl
    · unfold f_X15_isNeedless
      rw [pp_tolI ((pp_thn (by omega)).trans hM.2.1) hW hj, pp_b, if_neg (by decide), hgm, pp_b, if_pos h1]
    · rw [pp_g4 (by omega)]; exact pp_th0
theorem pp_bestN {ok : Nat → Bool} {d : Nat → Nat} : ∀ n, pp_best ok d n = none → ∀ k, k < n → ok k = false := by
  intro n
  induction n with
  | zero => intro _ k hk; omega
  | succ n ih =>
    intro h k hk
    unfold pp_best at h
    by_cases hn : ok n = true
    · rw [if_pos hn] at h
      cases hb : pp_best ok d n with
      | none => rw [hb] at h; cases h
      | some c =>
        rw [hb] at h
        by_cases hd : d n < d c
        · simp only [hd, if_true] at h; cases h
        · simp only [hd, if_false] at h; cases h
    · rw [if_neg hn] at h
      rcases Nat.lt_or_ge k n with h1 | h1
      · exact ih h k h1
      · have e : k = n := by omega
        rw [e]
        simpa using hn
theorem pp_bestS (ok : Nat → Bool) (d : Nat → Nat) (k : Nat) : pp_best ok d (k + 1) = if ok k = true then (match pp_best ok d k with
    | none => some k
    | some b => if d k < d b then some k else some b) else pp_best ok d k := rfl
def pv_ns (A : PV) (w : Nat) (k : Nat) : Option Nat := pp_best (fun k => decide (k ≠ w)) (pv_dd A w) k
theorem pv_nsS (A : PV) (w k : Nat) : pv_ns A w (k + 1) = if k ≠ w then (match pv_ns A w k with
    | none => some k
    | some b => if pv_dd A w k < pv_dd A w b then some k else some b) else pv_ns A w k := by
  unfold pv_ns
  rw [pp_bestS]
  by_cases h : k ≠ w
  · rw [if_pos h, if_pos (by simpa using h)]
  · rw [if_neg h, if_neg (by simpa using h)]
theorem pp_neaC {A : PV} {x : CS} {b v w : Nat} (hA : pv_ok A) (hC : pp_VC A x v) (hb : b = 20 ∨ b = 70) (h6 : x.2 0 6 = b) (h7 : x.2 0 7 = v) (hg : x.1 b 6 = nI (pv_g A)) (hw : w < pv_W A) : ∀ d fuel k g, d = pv_W A - k → d < fuel → k ≤ pv_W A → ∃ f, f_X12_nearestTo_33 fuel (nI w) (pp_en (pv_ns A w k)) (pp_eo (pv_dd A w) (pv_ns A w k)) (nI k) (g_wa x 9 g) = some (.inr (pp_en (pv_ns A w (pv_W A)), g_wa x 9 f)) := by
  have hW := hA.1
  have hv := hC.1
  intro d
  induction d with
  | zero =>
    intro fuel k g hd hfu hk
    obtain ⟨fu, rfl⟩ : ∃ fu, fuel = fu + 1 := ⟨fuel - 1, by omega⟩
    have e : k = pv_W A := by omega
    refine ⟨g, ?_⟩
    rw [f_X12_nearestTo_33, pp_c6, h7, if_pos (pp_k9 hv), pp_c4 (by omega), hC.2.1, if_pos (nI_le (by omega) (by omega)), e]
  | succ d ih =>
    intro fuel k g hd hfu hk
    obtain ⟨fu, rfl⟩ : ∃ fu, fuel = fu + 1 := ⟨fuel - 1, by omega⟩
    have i := fun g => ih fu (k + 1) g (by omega) (by omega) (by omega)
    rw [pv_nsS] at i
    rw [f_X12_nearestTo_33, pp_c6, h7, if_pos (pp_k9 hv), pp_c4 (by omega), hC.2.1, if_neg (nI_ge (by omega) (by omega)), nI_1]
    by_cases hkw : k = w
    · rw [if_pos (by rw [hkw])]
      rw [if_neg (fun q => q hkw)] at i
      exact i g
    · rw [if_neg (by rw [nI_eq (by omega) (by omega)]; exact hkw)]
      rw [if_pos hkw] at i
      have hSc : pp_Sc x (g_wa x 9 g) := (pp_Sc.rf x).wa (by omega) (by omega) (by omega) (by omega)
      obtain ⟨f1, hf1⟩ := pp_apartC hA (hC.s hSc) hb h6 h7 (by rw [hSc.1 b (by omega)]; exact hg) hw (show k < pv_W A by omega)
      rw [hf1, pp_b, pp_c2]
      cases hc : pv_ns A w k with
      | none =>
        rw [hc] at i
        show ∃ f, (if (-1 : Int32) = -1 then _ else _) = _
        rw [if_pos rfl]
        exact i f1
      | some c =>
        rw [hc] at i
        have hcb := (pp_bestB _ hc).1
        have b1 := pv_ddB hA hC hw (show c < pv_W A by omega)
        have b2 := pv_ddB hA hC hw (show k < pv_W A by omega)
        show ∃ f, (if nI c = -1 then _ else if nI (pv_dd A w c) ≤ nI (pv_dd A w k) then _ else _) = _
        rw [if_neg (pp_m1n (by omega))]
        by_cases hlt : pv_dd A w k < pv_dd A w c
        · rw [if_neg (nI_ge hlt (by omega))]
          simp only [hlt, if_true] at i
          exact i f1
        · rw [if_pos (nI_le (by omega) (by omega))]
          simp only [hlt, if_false] at i
          exact i f1
theorem pp_neaM {A : PV} {y : MS} {w : Nat} (hA : pv_ok A) (hM : pp_VM A y 152) (hw : w < pv_W A) : ∀ d fuel k g, d = pv_W A - k → d < fuel → k ≤ pv_W A → ∃ f, f_X15_nearestTo_26 fuel (nI w) (pp_en (pv_ns A w k)) (pp_eo (pv_dd A w) (pv_ns A w k)) (nI k) (g_ma y 160 g) = (if pp_en (pv_ns A w (pv_W A)) = -1 then some (0, g_mi (g_ma y 160 f) 120 0 2) else some (pp_en (pv_ns A w (pv_W A)), g_ma y 160 f)) := by
  have hW := hA.1
  intro d
  induction d with
  | zero =>
    intro fuel k g hd hfu hk
    obtain ⟨fu, rfl⟩ : ∃ fu, fuel = fu + 1 := ⟨fuel - 1, by omega⟩
    have e : k = pv_W A := by omega
    refine ⟨g, ?_⟩
    rw [f_X15_nearestTo_26, pp_g4 (by omega), hM.2.1, if_pos (nI_le (by omega) (by omega)), e]
    rfl
  | succ d ih =>
    intro fuel k g hd hfu hk
    obtain ⟨fu, rfl⟩ : ∃ fu, fuel = fu + 1 := ⟨fuel - 1, by omega⟩
    have i := fun g => ih fu (k + 1) g (by omega) (by omega) (by omega)
    rw [pv_nsS] at i
    rw [f_X15_nearestTo_26, pp_g4 (by omega), hM.2.1, if_neg (nI_ge (by omega) (by omega)), nI_1]
    by_cases hkw : k = w
    · rw [if_pos (by rw [hkw])]
      rw [if_neg (fun q => q hkw)] at i
      exact i g
    · rw [if_neg (by rw [nI_eq (by omega) (by omega)]; exact hkw)]
      rw [if_pos hkw] at i
      have hM' : pp_VM A (g_ma y 160 g) 152 := hM.f (by omega) (by omega) (by omega) (by omega)
      obtain ⟨f1, hf1⟩ := pp_apartM hA hM' (show k < pv_W A by omega) hw
      rw [hf1, pp_b, pp_g2, pv_ddC]
      have bb : ∀ c, c < pv_W A → pv_dd A w c < 4000 := fun c hc => by
        have r1 := (hM.2.2.2.1 w hw).2
        have r2 := (hM.2.2.2.1 c hc).2
        have := pp_gdF (pp_DG (g := pv_g A) r1.2.2.1 r2.2.2.1 (hA.2.2.1 w hw) (hA.2.2.1 c hc) r1.2.1 r2.2.1) (by omega)
        unfold pv_dd
        omega
      cases hc : pv_ns A w k with
      | none =>
        rw [hc] at i
        show ∃ f, (if (-1 : Int32) = -1 then _ else _) = _
        rw [if_pos rfl]
        exact i f1
      | some c =>
        rw [hc] at i
        have hcb := (pp_bestB _ hc).1
        have b1 := bb c (by omega)
        have b2 := bb k (by omega)
        show ∃ f, (if nI c = -1 then _ else if nI (pv_dd A w k) < nI (pv_dd A w c) then _ else _) = _
        rw [if_neg (pp_m1n (by omega))]
        by_cases hlt : pv_dd A w k < pv_dd A w c
        · rw [if_pos (nI_lt hlt (by omega))]
          simp only [hlt, if_true] at i
          exact i f1
        · rw [if_neg (nI_nlt (by omega) (by omega))]
          simp only [hlt, if_false] at i
          exact i f1
theorem pp_o18 {p : Int32} {x : CS} {y : MS} {o : Nat → Int32} (h : pp_R x y) : pp_OK (f_L_nearestTo p x o) (f_X15_nearestTo p y) := by
  have h0 := h
  obtain ⟨A, b, v, R, Z, nr, T, hA, hT, hC, hM, h3, h4, hB⟩ := h
  have hW := hA.1
  have hv := hC.1
  have hg : y 127 0 = nI (pv_g A) := hM.2.2.1
  have hg20 := hA.2.2.2
  have hb := hB.1
  have hbg := hB.2.2.2.2.2.1
  have ho : (p < 0 ∨ nI (pv_W A) ≤ p) → _ := fun q1 => pp_thr (u := 0) (o := o) (r := 0) (k := 1) (fl := f_L_nearestTo p x o) (fm := f_X15_nearestTo p y) h0 (by decide) (by unfold f_L_nearestTo f_X12_nearestTo; rw [pp_rqO hT.2.1 hv hC.2.1 q1]; rfl) (by unfold f_X15_nearestTo; rw [pp_tolO ((pp_thn (by omega)).trans hM.2.1) hW q1]; rfl)
  rcases pk_ix p (n := pv_W A) (by omega) with q1 | q1 | ⟨j, hj, rfl⟩
  · exact ho (Or.inl q1)
  · exact ho (Or.inr q1)
  · obtain ⟨f, hf⟩ := pp_neaC hA hC hb hT.1 hT.2.1 hbg hj (pv_W A - 0) g_fuel 0 (x.1 9) rfl (by unfold g_fuel; omega) (by omega)
    obtain ⟨g, hgm⟩ := pp_neaM hA (hM.th (u := 0)) hj (pv_W A - 0) g_fuel 0 ((g_mi y 120 0 0) 160) rfl (by unfold g_fuel; omega) (by omega)
    rw [pp_wae] at hf
    rw [pp_g5] at hgm
    have hcl : f_L_nearestTo (nI j) x o = Option.bind (if (2 : Int32) ≤ nI (pv_W A) then (f_X12_nearestTo_33 g_fuel (nI j) (-1 : Int32) (0 : Int32) (0 : Int32) x) else (some (Sum.inl 1))) (fun r => match r with | .inl u => if u = 3 then some ((1 : Int32), x, o) else if u = 1 then some ((2 : Int32), x, o) else none | .inr r => some ((0 : Int32), r.2, upd o 0 r.1)) := by
      unfold f_L_nearestTo f_X12_nearestTo
      rw [pp_rqI hT.2.1 hv hC.2.1 hW hj, pp_b]
      show Option.bind (if kd (x.2 0 7) = 9 then _ else _) _ = _
      rw [hT.2.1, if_pos (pp_k9 hv), hC.2.1]
      rfl
    have hml : f_X15_nearestTo (nI j) y = f_X15_nearestTo_26 g_fuel (nI j) (-1 : Int32) (0 : Int32) (0 : Int32) (g_mi y 120 0 (0 : Int32)) := by
      unfold f_X15_nearestTo
      rw [pp_tolI ((pp_thn (by omega)).trans hM.2.1) hW hj, pp_b, if_neg (by decide)]
    have hml2 : f_X15_nearestTo (nI j) y = (if pp_en (pv_ns A j (pv_W A)) = -1 then some (0, g_mi (g_ma (g_mi y 120 0 0) 160 g) 120 0 2) else some (pp_en (pv_ns A j (pv_W A)), g_ma (g_mi y 120 0 0) 160 g)) := hml.trans hgm
    cases hc : pv_ns A j (pv_W A) with
    | none =>
      have hn := pp_bestN _ hc
      have hW1 : pv_W A < 2 := by
        rcases Nat.lt_or_ge (pv_W A) 2 with h | h
        · exact h
        · exfalso
          rcases Nat.lt_or_ge 0 j with h5 | h5
          · have := hn 0 (by omega)
            simp at this
            omega
          · have := hn 1 (by omega)
            simp at this
            omega
      rw [hc] at hml2
      refine pp_thrG (o := o) (k := 2) (r := 0) (x1 := x) (y1 := g_ma (g_mi y 120 0 0) 160 g) (h0.s8 (pp_Sc.rf x)) (by decide) ?_ hml2
      rw [hcl, show (2 : Int32) = nI 2 from rfl, if_neg (nI_ge hW1 (by omega))]
      rfl
    | some c =>
      have hcb := pp_bestB _ hc
      have hcj : c ≠ j := by simpa using hcb.2
      rw [hc] at hml2
      rw [hc] at hf
      refine pp_fin (o := o) (r := nI c) (x1 := g_wa x 9 f) (y1 := g_ma (g_mi y 120 0 0) 160 g) ?_ (hml2.trans (if_neg (pp_m1n (by omega)))) ?_ h0.s9
      · rw [hcl, show (2 : Int32) = nI 2 from rfl, if_pos (nI_le (by omega) (by omega))]
        rw [show f_X12_nearestTo_33 g_fuel (nI j) (-1 : Int32) (0 : Int32) (0 : Int32) x = _ from hf]
        rfl
      · rw [pp_g4 (by omega)]; exact pp_th0
theorem pp_o20 {p : Int32} {x : CS} {y : MS} {o : Nat → Int32} (h : pp_R x y) : pp_OK (f_L_heardPitch p x o) (f_X15_heardPitch p y) := by
  have h0 := h
  obtain ⟨A, b, v, R, Z, nr, T, hA, hT, hC, hM, h3, h4, hB⟩ := h
  have hW := hA.1
  have hv := hC.1
  have hg : y 127 0 = nI (pv_g A) := hM.2.2.1
  have hg20 := hA.2.2.2
  have hb := hB.1
  have hbg := hB.2.2.2.2.2.1
  have r1 := hC.2.2.2
  have r2 := hM.2.2.2.2
  have hl := r1.2.1
  have hml : f_X15_heardPitch p y = Option.bind (f_X15_isIn p 0 (nI (pv_hl A) - 1)) (fun q2 => if q2 = 0 then ((f_X15_no (1 : Int32) (g_mi y 120 0 (0 : Int32))).bind fun q4 => some ((q4.1, q4.2))) else (if g_ok ((192 : Int32) + p) 240 = true then (some (((g_mi y 120 0 (0 : Int32)) 154 ((192 : Int32) + p).toNatClampNeg, g_mi y 120 0 (0 : Int32)))) else none)) := by
    unfold f_X15_heardPitch
    rw [if_pos (by decide)]
    show Option.bind (f_X15_isIn p 0 ((g_mi y 120 0 0) (152 + 1) 8 - 1)) _ = _
    rw [pp_thn (by omega), r2.1]
  have ho : (p < 0 ∨ nI (pv_hl A) ≤ p) → _ := fun q1 => pp_thr (u := 0) (o := o) (r := 0) (k := 1) (fl := f_L_heardPitch p x o) (fm := f_X15_heardPitch p y) h0 (by decide) (by unfold f_L_heardPitch f_X12_heardPitch; rw [pp_rbO r1.1 q1]; rfl) (by rw [hml, pp_inO (by omega) q1]; rfl)
  rcases pk_ix p (n := pv_hl A) (by omega) with q1 | q1 | ⟨j, hj, rfl⟩
  · exact ho (Or.inl q1)
  · exact ho (Or.inr q1)
  · refine pp_fin (o := o) (x1 := x) (y1 := g_mi y 120 0 0) (r := nI (pv_hp A j)) ?_ ?_ pp_th0 h0.th
    · unfold f_L_heardPitch f_X12_heardPitch
      rw [pp_rbI r1.1 hl hj, pp_b]
      show Option.bind (Option.bind (f_X3_pitch 14 (nI j) x) _) _ = _
      rw [pp_pitC (by omega), r1.2.2.2 j hj]
      rfl
    · rw [hml, pp_inI (by omega) hj, pp_b, if_neg (by decide), show (192 : Int32) + nI j = nI (24 * 8 + j) from nI_add 192 j, if_pos ((pp_ok (by omega)).mpr (by omega)), nI_clamp (by omega), pp_thn (by omega), r2.2.2.2 j hj]
theorem pp_ih1 {p : Int32} {y : MS} (h : f_X15_isTold p y = some 0) : f_X15_isHeard p y = some (0, g_mi y 120 0 1) := by
  unfold f_X15_isHeard f_X15_isHeard_31
  rw [h, pp_b, if_pos rfl, if_neg (by rw [pp_th0]; decide)]
theorem pp_ih2 {p : Int32} {y : MS} (h : f_X15_isTold p y = some 1) (h0 : y 153 8 = 0) : f_X15_isHeard p y = some (0, g_mi y 120 0 2) := by
  unfold f_X15_isHeard f_X15_isHeard_31
  rw [h, pp_b, if_neg (by decide), if_pos (by decide)]
  show (if y 153 8 = 0 then _ else _) = _
  rw [if_pos h0, if_neg (by rw [pp_th0]; decide)]
theorem pp_ih3 {p : Int32} {y : MS} (h : f_X15_isTold p y = some 1) (h0 : ¬ y 153 8 = 0) : f_X15_isHeard p y = some (1, g_mi y 120 0 0) := by
  unfold f_X15_isHeard f_X15_isHeard_31
  rw [h, pp_b, if_neg (by decide), if_pos (by decide)]
  show (if y 153 8 = 0 then _ else _) = _
  rw [if_neg h0, if_pos (by rw [pp_th0])]
theorem pp_shO {x : CS} (h : x.1 14 1 = 0) : f_X12_requireSomeHeard x = some (.inl 1) := by
  unfold f_X12_requireSomeHeard
  rw [if_pos h]
theorem pp_shI {x : CS} (h : ¬ x.1 14 1 = 0) : f_X12_requireSomeHeard x = some (.inr ()) := by
  unfold f_X12_requireSomeHeard
  rw [if_neg h]
theorem pp_o21 {p : Int32} {x : CS} {y : MS} {o : Nat → Int32} (h : pp_R x y) : pp_OK (f_L_distanceTo p x o) (f_X15_distanceTo p y) := by
  have h0 := h
  obtain ⟨A, b, v, R, Z, nr, T, hA, hT, hC, hM, h3, h4, hB⟩ := h
  have hW := hA.1
  have hv := hC.1
  have hg : y 127 0 = nI (pv_g A) := hM.2.2.1
  have hg20 := hA.2.2.2
  have hb := hB.1
  have hbg := hB.2.2.2.2.2.1
  have hrm := hM.2.2.2.2
  have hrc := hC.2.2.2
  have ho : (p < 0 ∨ nI (pv_W A) ≤ p) → _ := fun q1 => pp_thrG (x1 := x) (y1 := y) (o := o) (r := 0) (k := 1) (fl := f_L_distanceTo p x o) (fm := f_X15_distanceTo p y) h0 (by decide) (by unfold f_L_distanceTo f_X12_distanceTo; rw [pp_rqO hT.2.1 hv hC.2.1 q1]; rfl) (by unfold f_X15_distanceTo; rw [pp_ih1 (pp_tolO hM.2.1 hW q1)]; rfl)
  rcases pk_ix p (n := pv_W A) (by omega) with q1 | q1 | ⟨j, hj, rfl⟩
  · exact ho (Or.inl q1)
  · exact ho (Or.inr q1)
  · have hhl := hrc.2.1
    by_cases hz : pv_hl A = 0
    · refine pp_thrG (x1 := x) (y1 := y) (o := o) (r := 0) (k := 2) h0 (by decide) ?_ ?_
      · unfold f_L_distanceTo f_X12_distanceTo
        rw [pp_rqI hT.2.1 hv hC.2.1 hW hj, pp_b]
        show Option.bind (Option.bind (f_X12_requireSomeHeard x) _) _ = _
        rw [pp_shO (by rw [hrc.1, hz]; rfl)]
        rfl
      · unfold f_X15_distanceTo
        rw [pp_ih2 (pp_tolI hM.2.1 hW hj) (by rw [show y 153 8 = nI (pv_hl A) from hrm.1, hz]; rfl)]
        rfl
    · have hz' : ¬ nI (pv_hl A) = 0 := nI_ne0 (by omega) (by omega)
      have hcs := pp_shI (x := x) (by rw [hrc.1]; exact hz')
      have hms := pp_ih3 (pp_tolI hM.2.1 hW hj) (by rw [show y 153 8 = nI (pv_hl A) from hrm.1]; exact hz')
      have hMt := hM.th (u := 0)
      have hrmt := hMt.2.2.2.2
      obtain ⟨g, hgm⟩ := pp_distH hA hMt hj hz
      refine pp_fin (o := o) (r := nI (pv_dh A j)) (x1 := x) (y1 := g_ma (g_mi y 120 0 0) 160 g) ?_ ?_ ?_ (h0.s8 (pp_Sc.rf x))
      · unfold f_L_distanceTo f_X12_distanceTo
        rw [pp_rqI hT.2.1 hv hC.2.1 hW hj, pp_b]
        show Option.bind (Option.bind (f_X12_requireSomeHeard x) _) _ = _
        rw [hcs, pp_b]
        show Option.bind (if kd (x.2 0 7) = 9 then _ else _) _ = _
        rw [hT.2.1, if_pos (pp_k9 hv), pp_word (by omega), pp_b, if_pos (pp_k10 hv (by omega)), (hC.2.2.1 j hj).2.1]
        rfl
      · unfold f_X15_distanceTo
        rw [hms, pp_b]
        show (if (1 : Int32) = 0 then _ else Option.bind (f_X15_distance 152 (nI j) (nI 8) (g_mi y 120 0 0)) _) = _
        rw [if_neg (by decide), hgm]; rfl
      · rw [pp_g4 (by omega)]; exact pp_th0
theorem pp_o22 {p : Int32} {x : CS} {y : MS} {o : Nat → Int32} (h : pp_R x y) : pp_OK (f_L_contourTo p x o) (f_X15_contourTo p y) := by
  have h0 := h
  obtain ⟨A, b, v, R, Z, nr, T, hA, hT, hC, hM, h3, h4, hB⟩ := h
  have hW := hA.1
  have hv := hC.1
  have hg : y 127 0 = nI (pv_g A) := hM.2.2.1
  have hg20 := hA.2.2.2
  have hb := hB.1
  have hbg := hB.2.2.2.2.2.1
  have hrm := hM.2.2.2.2
  have hrc := hC.2.2.2
  have ho : (p < 0 ∨ nI (pv_W A) ≤ p) → _ := fun q1 => pp_thrG (x1 := x) (y1 := y) (o := o) (r := 0) (k := 1) (fl := f_L_contourTo p x o) (fm := f_X15_contourTo p y) h0 (by decide) (by unfold f_L_contourTo f_X12_contourTo; rw [pp_rqO hT.2.1 hv hC.2.1 q1]; rfl) (by unfold f_X15_contourTo; rw [pp_ih1 (pp_tolO hM.2.1 hW q1)]; rfl)
  rcases pk_ix p (n := pv_W A) (by omega) with q1 | q1 | ⟨j, hj, rfl⟩
  · exact ho (Or.inl q1)
  · exact ho (Or.inr q1)
  · have hhl := hrc.2.1
    by_cases hz : pv_hl A = 0
    · refine pp_thrG (x1 := x) (y1 := y) (o := o) (r := 0) (k := 2) h0 (by decide) ?_ ?_
      · unfold f_L_contourTo f_X12_contourTo
        rw [pp_rqI hT.2.1 hv hC.2.1 hW hj, pp_b]
        show Option.bind (Option.bind (f_X12_requireSomeHeard x) _) _ = _
        rw [pp_shO (by rw [hrc.1, hz]; rfl)]
        rfl
      · unfold f_X15_contourTo
        rw [pp_ih2 (pp_tolI hM.2.1 hW hj) (by rw [show y 153 8 = nI (pv_hl A) from hrm.1, hz]; rfl)]
        rfl
    · have hz' : ¬ nI (pv_hl A) = 0 := nI_ne0 (by omega) (by omega)
      have hcs := pp_shI (x := x) (by rw [hrc.1]; exact hz')
      have hms := pp_ih3 (pp_tolI hM.2.1 hW hj) (by rw [show y 153 8 = nI (pv_hl A) from hrm.1]; exact hz')
      have hMt := hM.th (u := 0)
      have hrmt := hMt.2.2.2.2
      have r1 := (hC.2.2.1 j hj).2.2
      obtain ⟨x1, hx1, hf⟩ := pp_KC (g := pv_g A) (by unfold pp_wd; omega) (Or.inl rfl) r1 hrc (hA.2.2.1 j hj) (by omega) hg20
      obtain ⟨g, hgm⟩ := pp_wayM1 (by omega) (hMt.2.2.2.1 j hj).2 hrmt (by omega) (by omega) (hA.2.2.1 j hj) (by omega) hMt.2.2.1 hg20
      have hB2 := pp_gdF (pp_KG (g := pv_g A) (p := pv_pt A j) (q := pv_hp A) (hA.2.2.1 j hj) (by omega) r1.2.1 hhl) (by omega)
      refine pp_fin (o := o) (r := nI (pp_K (pv_g A) (pv_pt A j) (pv_ln A j) (pv_hp A) (pv_hl A) / 100)) (x1 := x1) (y1 := g_ma (g_mi y 120 0 0) 160 g) ?_ ?_ ?_ (h0.s8 hx1)
      · unfold f_L_contourTo f_X12_contourTo
        rw [pp_rqI hT.2.1 hv hC.2.1 hW hj, pp_b]
        show Option.bind (Option.bind (f_X12_requireSomeHeard x) _) _ = _
        rw [hcs, pp_b]
        show Option.bind (Option.bind (f_X12_rowOf (nI j) x) _) _ = _
        rw [pp_rowO hT.2.1 hv (by omega), pp_b, if_pos (pp_k5 hv (by omega)), hT.1, if_pos (pp_k7 hb), hbg, hf]
        rfl
      · unfold f_X15_contourTo
        rw [hms, pp_b]
        show (if (1 : Int32) = 0 then _ else Option.bind (f_X15_way 152 (nI j) (nI 8) 1 (g_mi y 120 0 0)) _) = _
        rw [if_neg (by decide), hgm, pp_b]
        show some (nI _ / nI 100, _) = _
        rw [pk_div (by omega) (by omega) (by omega)]
      · rw [pp_g4 (by omega)]; exact pp_th0
theorem pp_o23 {p : Int32} {x : CS} {y : MS} {o : Nat → Int32} (h : pp_R x y) : pp_OK (f_L_stepsTo p x o) (f_X15_stepsTo p y) := by
  have h0 := h
  obtain ⟨A, b, v, R, Z, nr, T, hA, hT, hC, hM, h3, h4, hB⟩ := h
  have hW := hA.1
  have hv := hC.1
  have hg : y 127 0 = nI (pv_g A) := hM.2.2.1
  have hg20 := hA.2.2.2
  have hb := hB.1
  have hbg := hB.2.2.2.2.2.1
  have hrm := hM.2.2.2.2
  have hrc := hC.2.2.2
  have ho : (p < 0 ∨ nI (pv_W A) ≤ p) → _ := fun q1 => pp_thrG (x1 := x) (y1 := y) (o := o) (r := 0) (k := 1) (fl := f_L_stepsTo p x o) (fm := f_X15_stepsTo p y) h0 (by decide) (by unfold f_L_stepsTo f_X12_stepsTo; rw [pp_rqO hT.2.1 hv hC.2.1 q1]; rfl) (by unfold f_X15_stepsTo; rw [pp_ih1 (pp_tolO hM.2.1 hW q1)]; rfl)
  rcases pk_ix p (n := pv_W A) (by omega) with q1 | q1 | ⟨j, hj, rfl⟩
  · exact ho (Or.inl q1)
  · exact ho (Or.inr q1)
  · have hhl := hrc.2.1
    by_cases hz : pv_hl A = 0
    · refine pp_thrG (x1 := x) (y1 := y) (o := o) (r := 0) (k := 2) h0 (by decide) ?_ ?_
      · unfold f_L_stepsTo f_X12_stepsTo
        rw [pp_rqI hT.2.1 hv hC.2.1 hW hj, pp_b]
        show Option.bind (Option.bind (f_X12_requireSomeHeard x) _) _ = _
        rw [pp_shO (by rw [hrc.1, hz]; rfl)]
        rfl
      · unfold f_X15_stepsTo
        rw [pp_ih2 (pp_tolI hM.2.1 hW hj) (by rw [show y 153 8 = nI (pv_hl A) from hrm.1, hz]; rfl)]
        rfl
    · have hz' : ¬ nI (pv_hl A) = 0 := nI_ne0 (by omega) (by omega)
      have hcs := pp_shI (x := x) (by rw [hrc.1]; exact hz')
      have hms := pp_ih3 (pp_tolI hM.2.1 hW hj) (by rw [show y 153 8 = nI (pv_hl A) from hrm.1]; exact hz')
      have hMt := hM.th (u := 0)
      have hrmt := hMt.2.2.2.2
      have r1 := (hC.2.2.1 j hj).2.2
      obtain ⟨f, hf⟩ := pp_stepsC (g := pv_g A) (by unfold pp_wd; omega) (by unfold pp_wd; omega) (by omega) (by omega) r1 hrc (hA.2.2.1 j hj) (by omega) hg20
      obtain ⟨g, hgm⟩ := pp_wayM0 (by omega) (hMt.2.2.2.1 j hj).2 hrmt (by omega) (by omega) (hA.2.2.1 j hj) (by omega) hMt.2.2.1 hg20
      have hB2 := pp_gdF (pp_DG (g := pv_g A) r1.2.2.1 hrc.2.2.1 (hA.2.2.1 j hj) (by omega) r1.2.1 hhl) (by omega)
      refine pp_fin (o := o) (r := nI (pp_D (pv_g A) (pv_pt A j) (pv_ln A j) (pv_hp A) (pv_hl A) % 100)) (x1 := g_wa x 9 f) (y1 := g_ma (g_mi y 120 0 0) 160 g) ?_ ?_ ?_ h0.s9
      · unfold f_L_stepsTo f_X12_stepsTo
        rw [pp_rqI hT.2.1 hv hC.2.1 hW hj, pp_b]
        show Option.bind (Option.bind (f_X12_requireSomeHeard x) _) _ = _
        rw [hcs, pp_b]
        show Option.bind (Option.bind (f_X12_rowOf (nI j) x) _) _ = _
        rw [pp_rowO hT.2.1 hv (by omega), pp_b, if_pos (pp_k5 hv (by omega)), hT.1, if_pos (pp_k7 hb), hbg, hf]
        rfl
      · unfold f_X15_stepsTo
        rw [hms, pp_b]
        show (if (1 : Int32) = 0 then _ else Option.bind (f_X15_way 152 (nI j) (nI 8) 0 (g_mi y 120 0 0)) _) = _
        rw [if_neg (by decide), hgm, pp_b]
        show some (nI _ - nI _ / nI 100 * nI 100, _) = _
        rw [pk_rem (by omega) (by omega) (by omega)]
      · rw [pp_g4 (by omega)]; exact pp_th0
