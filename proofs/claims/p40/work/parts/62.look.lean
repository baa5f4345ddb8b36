/-! calls that only look, the short ones -/
theorem pp_rqI {v i n : Nat} {x : CS} (hv : x.2 0 7 = v) (hv2 : v = 41 ∨ v = 91) (hn : x.1 v 2 = nI n) (hn8 : n ≤ 8) (h : i < n) : f_X12_requireWord (nI i) x = some () := by
  unfold f_X12_requireWord
  rw [if_neg (nI_pos (by omega)), hv, if_pos (pp_k9 hv2), hn, if_pos (nI_lt h (by omega))]
theorem pp_rowO {v i : Nat} {x : CS} (hv : x.2 0 7 = v) (hv2 : v = 41 ∨ v = 91) (h : i < 8) : f_X12_rowOf (nI i) x = some (pp_wd v i + 1) := by
  unfold f_X12_rowOf
  rw [hv, if_pos (pp_k9 hv2), pp_word h, pp_b, if_pos (pp_k10 hv2 h)]
theorem pp_rbI {t i n : Nat} {x : CS} (hn : x.1 t 1 = nI n) (hn8 : n ≤ 24) (h : i < n) : f_X12_requireBeat t (nI i) x = some () := by
  unfold f_X12_requireBeat
  rw [if_neg (nI_pos (by omega)), hn, if_pos (nI_lt h (by omega))]
/-! calls that only look, the others -/
theorem pp_k7 {b : Nat} (h : b = 20 ∨ b = 70) : kd b = 7 := by rcases h with rfl | rfl <;> decide
def pv_dd (A : PV) (i j : Nat) : Nat := pp_D (pv_g A) (pv_pt A i) (pv_ln A i) (pv_pt A j) (pv_ln A j) / 100
theorem pv_ddB {A : PV} {x : CS} {v i j : Nat} (hA : pv_ok A) (hC : pp_VC A x v) (hi : i < pv_W A) (hj : j < pv_W A) : pv_dd A i j < 4000 := by
  have r1 := (hC.2.2.1 i hi).2.2
  have r2 := (hC.2.2.1 j hj).2.2
  have := pp_gdF (pp_DG (g := pv_g A) r1.2.2.1 r2.2.2.1 (hA.2.2.1 i hi) (hA.2.2.1 j hj) r1.2.1 r2.2.1) (by omega)
  unfold pv_dd
  omega
theorem pp_apartC {A : PV} {x : CS} {b v i j : Nat} (hA : pv_ok A) (hC : pp_VC A x v) (hb : b = 20 ∨ b = 70) (h6 : x.2 0 6 = b) (h7 : x.2 0 7 = v) (hg : x.1 b 6 = nI (pv_g A)) (hi : i < pv_W A) (hj : j < pv_W A) : ∃ f, f_X12_wordsApart (nI i) (nI j) x = some (nI (pv_dd A i j), g_wa x 9 f) := by
  have hW := hA.1
  have hv := hC.1
  obtain ⟨f, hf⟩ := pp_distC (g := pv_g A) (by unfold pp_wd; omega) (by unfold pp_wd; omega) (by unfold pp_wd; omega) (by unfold pp_wd; omega) (hC.2.2.1 i hi).2.2 (hC.2.2.1 j hj).2.2 (hA.2.2.1 i hi) (hA.2.2.1 j hj) hA.2.2.2
  refine ⟨f, ?_⟩
  unfold f_X12_wordsApart
  rw [pp_rowO h7 hv (by omega), pp_b, if_pos (pp_k5 hv (by omega)), pp_rowO h7 hv (by omega), pp_b, if_pos (pp_k5 hv (by omega)), h6, if_pos (pp_k7 hb), hg, hf]
  rfl
theorem pv_ddC (A : PV) (i j : Nat) : pv_dd A i j = pv_dd A j i := by
  unfold pv_dd
  rw [pp_DC]
def pv_ne (A : PV) (nr i j : Nat) : Nat := if i = j then 0 else if pv_dd A i j < nr * max (pv_ln A i) (pv_ln A j) / 4 then 1 else 0
theorem pp_nearC {A : PV} {x : CS} {b v i j nr : Nat} (hA : pv_ok A) (hC : pp_VC A x v) (hb : b = 20 ∨ b = 70) (h6 : x.2 0 6 = b) (h7 : x.2 0 7 = v) (hg : x.1 b 6 = nI (pv_g A)) (hn : x.1 b 7 = nI nr) (hn9 : nr ≤ 99) (hi : i < pv_W A) (hj : j < pv_W A) : ∃ f, f_X12_nearEachOther (nI i) (nI j) x = some (nI (pv_ne A nr i j), g_wa x 9 f) := by
  have hW := hA.1
  have hv := hC.1
  have r1 := (hC.2.2.1 i hi).2.2
  have r2 := (hC.2.2.1 j hj).2.2
  have l1 := r1.2.1
  have l2 := r2.2.1
  have hB := pv_ddB hA hC hi hj
  unfold f_X12_nearEachOther pv_ne
  rw [pp_rowO h7 hv (by omega), pp_b, if_pos (pp_k5 hv (by omega)), pp_rowO h7 hv (by omega), pp_b, if_pos (pp_k5 hv (by omega))]
  by_cases e : i = j
  · rw [if_pos (by rw [e]), if_pos e]
    exact ⟨x.1 9, by rw [pp_wae]; rfl⟩
  · rw [if_neg (by rw [nI_eq (by omega) (by omega)]; exact e), if_neg e]
    obtain ⟨f, hf⟩ := pp_apartC hA hC hb h6 h7 hg hi hj
    refine ⟨f, ?_⟩
    have hmx : nr * max (pv_ln A i) (pv_ln A j) ≤ 99 * 24 := Nat.mul_le_mul hn9 (by omega)
    rw [hf, pp_b, r1.1, r2.1, pp_max (by omega) (by omega)]
    show (if kd (x.2 0 6) = 7 then (if ((g_wa x 9 f).1 (x.2 0 6) 7 * _) / 4 ≤ nI (pv_dd A i j) then _ else _) else _) = _
    rw [h6, if_pos (pp_k7 hb), pp_c4 (by omega), hn, pk_mul, pp_lit 4, pk_div (by omega) (by omega) (by omega)]
    by_cases hlt : pv_dd A i j < nr * max (pv_ln A i) (pv_ln A j) / 4
    · rw [if_neg (nI_ge hlt (by omega)), if_pos hlt]; rfl
    · rw [if_pos (nI_le (by omega) (by omega)), if_neg hlt]; rfl
theorem pv_ne1 (A : PV) (nr i j : Nat) : pv_ne A nr i j ≤ 1 := by
  unfold pv_ne
  repeat' split
  all_goals omega
def pp_sl (p : Nat → Nat) : Nat → Nat
  | 0 => 0
  | k + 1 => pp_sl p k + (if p k = 0 then 1 else 0)
theorem pp_slS (p : Nat → Nat) (k : Nat) : pp_sl p (k + 1) = pp_sl p k + (if p k = 0 then 1 else 0) := rfl
theorem pp_silC {x : CS} {t n : Nat} {p : Nat → Nat} (h : pp_RC x t p n) : f_X3_countSilent t x = some (nI (pp_sl p n)) := by
  have hn := h.2.1
  have key : ∀ d fuel k, d = n - k → d < fuel → k ≤ n → f_X3_countSilent_4 x fuel t (nI (pp_sl p k)) (nI k) = some (nI (pp_sl p n)) := by
    intro d
    induction d with
    | zero =>
      intro fuel k hd hfu hk
      obtain ⟨fu, rfl⟩ : ∃ fu, fuel = fu + 1 := ⟨fuel - 1, by omega⟩
      have e : k = n := by omega
      rw [f_X3_countSilent_4, h.1, if_pos (nI_le (by omega) (by omega)), e]
    | succ d ih =>
      intro fuel k hd hfu hk
      obtain ⟨fu, rfl⟩ : ∃ fu, fuel = fu + 1 := ⟨fuel - 1, by omega⟩
      have i := ih fu (k + 1) (by omega) (by omega) (by omega)
      have b1 := h.2.2.1 k
      rw [pp_slS] at i
      rw [f_X3_countSilent_4, h.1, if_neg (nI_ge (by omega) (by omega)), pp_pitC (by omega), pp_b, h.2.2.2 k (by omega), nI_1, nI_1]
      by_cases h0 : p k = 0
      · rw [if_pos (by rw [h0]; rfl)]
        rw [if_pos h0] at i
        exact i
      · rw [if_neg (nI_ne0 (by omega) (by omega))]
        rw [if_neg h0] at i
        exact i
  exact key (n - 0) g_fuel 0 rfl (by unfold g_fuel; omega) (by omega)
/-! needless, nearest, what was heard -/
def pv_nx (A : PV) (nr w : Nat) : Nat → Nat
  | 0 => 0
  | d + 1 => if pv_pr A (w - (d + 1)) = 0 then (if pv_ne A nr (w - (d + 1)) w = 0 then pv_nx A nr w d else 1) else pv_nx A nr w d
theorem pv_nxS (A : PV) (nr w d : Nat) : pv_nx A nr w (d + 1) = if pv_pr A (w - (d + 1)) = 0 then (if pv_ne A nr (w - (d + 1)) w = 0 then pv_nx A nr w d else 1) else pv_nx A nr w d := rfl
theorem pv_nx1 (A : PV) (nr w : Nat) : ∀ d, pv_nx A nr w d ≤ 1 := by
  intro d
  induction d with
  | zero => exact Nat.zero_le _
  | succ d ih =>
    rw [pv_nxS]
    repeat' split
    all_goals omega
def pv_nl (A : PV) (nr w : Nat) : Nat := if pv_pr A w = 1 then 0 else pv_nx A nr w w
theorem pv_nl1 (A : PV) (nr w : Nat) : pv_nl A nr w ≤ 1 := by
  unfold pv_nl
  split
  · omega
  · exact pv_nx1 A nr w w
theorem pp_needC {A : PV} {x : CS} {b v w nr : Nat} (hA : pv_ok A) (hC : pp_VC A x v) (hb : b = 20 ∨ b = 70) (h6 : x.2 0 6 = b) (h7 : x.2 0 7 = v) (hg : x.1 b 6 = nI (pv_g A)) (hn : x.1 b 7 = nI nr) (hn9 : nr ≤ 99) (hw : w < pv_W A) : ∃ f, f_X12_needless (nI w) x = some (nI (pv_nl A nr w), g_wa x 9 f) := by
  have hW := hA.1
  have hv := hC.1
  have key : ∀ d fuel g, d ≤ w → d < fuel → ∃ f, f_X12_needless_18 fuel (nI w) (nI (w - d)) (g_wa x 9 g) = some (nI (pv_nx A nr w d), g_wa x 9 f) := by
    intro d
    induction d with
    | zero =>
      intro fuel g hd hfu
      obtain ⟨fu, rfl⟩ : ∃ fu, fuel = fu + 1 := ⟨fuel - 1, by omega⟩
      refine ⟨g, ?_⟩
      rw [f_X12_needless_18, if_pos (nI_le (by omega) (by omega))]; rfl
    | succ d ih =>
      intro fuel g hd hfu
      obtain ⟨fu, rfl⟩ : ∃ fu, fuel = fu + 1 := ⟨fuel - 1, by omega⟩
      have i := fun g => ih fu g (by omega) (by omega)
      have ek : w - d = w - (d + 1) + 1 := by omega
      have hSc : pp_Sc x (g_wa x 9 g) := (pp_Sc.rf x).wa (by omega) (by omega) (by omega) (by omega)
      have hC' := hC.s hSc
      have hp := hA.2.1 (w - (d + 1))
      rw [pv_nxS]
      rw [f_X12_needless_18, if_neg (nI_ge (by omega) (by omega)), hSc.2, h7, if_pos (pp_k9 hv), pp_word (by omega), pp_b, if_pos (pp_k10 hv (by omega)), (hC'.2.2.1 _ (by omega)).1, nI_1, ← ek]
      by_cases h0 : pv_pr A (w - (d + 1)) = 0
      · rw [if_pos (by rw [h0]; rfl), if_pos h0]
        obtain ⟨f1, hf1⟩ := pp_nearC (nr := nr) hA hC' hb (by rw [hSc.2]; exact h6) (by rw [hSc.2]; exact h7) (by rw [hSc.1 b (by omega)]; exact hg) (by rw [hSc.1 b (by omega)]; exact hn) hn9 (show w - (d + 1) < pv_W A by omega) hw
        rw [hf1, pp_b, pp_c2]
        show ∃ f, (if nI (pv_ne A nr (w - (d + 1)) w) = 0 then _ else _) = _
        have h1 := pv_ne1 A nr (w - (d + 1)) w
        by_cases hz : pv_ne A nr (w - (d + 1)) w = 0
        · rw [if_pos (by rw [hz]; rfl), if_pos hz]
          exact i f1
        · rw [if_neg (nI_ne0 (by omega) (by omega)), if_neg hz]
          exact ⟨f1, rfl⟩
      · rw [if_neg (nI_ne0 (by omega) (by omega)), if_neg h0]
        exact i g
  unfold f_X12_needless pv_nl
  rw [h7, if_pos (pp_k9 hv), pp_word (by omega), pp_b, if_pos (pp_k10 hv (by omega)), (hC.2.2.1 w hw).1]
  have hp := hA.2.1 w
  by_cases h1 : pv_pr A w = 1
  · rw [if_neg (by rw [h1]; decide), if_pos h1]
    exact ⟨x.1 9, by rw [pp_wae]; rfl⟩
  · rw [if_pos (by rw [show pv_pr A w = 0 by omega]; rfl), if_neg h1]
    have := key w g_fuel (x.1 9) (Nat.le_refl _) (by unfold g_fuel; omega)
    rw [Nat.sub_self, pp_wae] at this
    exact this
theorem pp_bestN {ok : Nat → Bool} {d : Nat → Nat} : ∀ n, pp_best ok d n = none → ∀ k, k < n → ok k = false := by
  intro n
  induction n with
  | zero => intro _ k hk; omega
  | succ n ih =>
    intro h k hk
    unfold pp_best at h
    by_cases hn : ok n = true
    · rw [if_pos hn] at h
      cases hb : pp_best ok d n with
      | none => rw [hb] at h; cases h
      | some c =>
        rw [hb] at h
        by_cases hd : d n < d c
        · simp only [hd, if_true] at h; cases h
        · simp only [hd, if_false] at h; cases h
    · rw [if_neg hn] at h
      rcases Nat.lt_or_ge k n with h1 | h1
      · exact ih h k h1
      · have e : k = n := by omega
        rw [e]
        simpa using hn
theorem pp_bestS (ok : Nat → Bool) (d : Nat → Nat) (k : Nat) : pp_best ok d (k + 1) = if ok k = true then (match pp_best ok d k with
    | none => some k
    | some b => if d k < d b then some k else some b) else pp_best ok d k := rfl
def pv_ns (A : PV) (w : Nat) (k : Nat) : Option Nat := pp_best (fun k => decide (k ≠ w)) (pv_dd A w) k
theorem pv_nsS (A : PV) (w k : Nat) : pv_ns A w (k + 1) = if k ≠ w then (match pv_ns A w k with
    | none => some k
    | some b => if pv_dd A w k < pv_dd A w b then some k else some b) else pv_ns A w k := by
  unfold pv_ns
  rw [pp_bestS]
  by_cases h : k ≠ w
  · rw [if_pos h, if_pos (by simpa using h)]
  · rw [if_neg h, if_neg (by simpa using h)]
theorem pp_neaC {A : PV} {x : CS} {b v w : Nat} (hA : pv_ok A) (hC : pp_VC A x v) (hb : b = 20 ∨ b = 70) (h6 : x.2 0 6 = b) (h7 : x.2 0 7 = v) (hg : x.1 b 6 = nI (pv_g A)) (hw : w < pv_W A) : ∀ d fuel k g, d = pv_W A - k → d < fuel → k ≤ pv_W A → ∃ f, f_X12_nearestTo_33 fuel (nI w) (pp_en (pv_ns A w k)) (pp_eo (pv_dd A w) (pv_ns A w k)) (nI k) (g_wa x 9 g) = some (pp_en (pv_ns A w (pv_W A)), g_wa x 9 f) := by
  have hW := hA.1
  have hv := hC.1
  intro d
  induction d with
  | zero =>
    intro fuel k g hd hfu hk
    obtain ⟨fu, rfl⟩ : ∃ fu, fuel = fu + 1 := ⟨fuel - 1, by omega⟩
    have e : k = pv_W A := by omega
    refine ⟨g, ?_⟩
    rw [f_X12_nearestTo_33, pp_c6, h7, if_pos (pp_k9 hv), pp_c4 (by omega), hC.2.1, if_pos (nI_le (by omega) (by omega)), e]
  | succ d ih =>
    intro fuel k g hd hfu hk
    obtain ⟨fu, rfl⟩ : ∃ fu, fuel = fu + 1 := ⟨fuel - 1, by omega⟩
    have i := fun g => ih fu (k + 1) g (by omega) (by omega) (by omega)
    rw [pv_nsS] at i
    rw [f_X12_nearestTo_33, pp_c6, h7, if_pos (pp_k9 hv), pp_c4 (by omega), hC.2.1, if_neg (nI_ge (by omega) (by omega)), nI_1]
    by_cases hkw : k = w
    · rw [if_pos (by rw [hkw])]
      rw [if_neg (fun q => q hkw)] at i
      exact i g
    · rw [if_neg (by rw [nI_eq (by omega) (by omega)]; exact hkw)]
      rw [if_pos hkw] at i
      have hSc : pp_Sc x (g_wa x 9 g) := (pp_Sc.rf x).wa (by omega) (by omega) (by omega) (by omega)
      obtain ⟨f1, hf1⟩ := pp_apartC hA (hC.s hSc) hb h6 h7 (by rw [hSc.1 b (by omega)]; exact hg) hw (show k < pv_W A by omega)
      rw [hf1, pp_b, pp_c2]
      cases hc : pv_ns A w k with
      | none =>
        rw [hc] at i
        show ∃ f, (if (-1 : Int32) = -1 then _ else _) = _
        rw [if_pos rfl]
        exact i f1
      | some c =>
        rw [hc] at i
        have hcb := (pp_bestB _ hc).1
        have b1 := pv_ddB hA hC hw (show c < pv_W A by omega)
        have b2 := pv_ddB hA hC hw (show k < pv_W A by omega)
        show ∃ f, (if nI c = -1 then _ else if nI (pv_dd A w c) ≤ nI (pv_dd A w k) then _ else _) = _
        rw [if_neg (pp_m1n (by omega))]
        by_cases hlt : pv_dd A w k < pv_dd A w c
        · rw [if_neg (nI_ge hlt (by omega))]
          simp only [hlt, if_true] at i
          exact i f1
        · rw [if_pos (nI_le (by omega) (by omega))]
          simp only [hlt, if_false] at i
          exact i f1
theorem pp_shI {x : CS} (h : ¬ x.1 14 1 = 0) : f_X12_requireSomeHeard x = some () := by
  unfold f_X12_requireSomeHeard
  rw [if_neg h]
