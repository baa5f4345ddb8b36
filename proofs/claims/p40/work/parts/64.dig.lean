/-! the mean length, the checksum -/
theorem pp_nan : ∀ s, s < 193 → ∀ w, w < 9 → 0 < w → g_nan (FP.ddiv (FP.i2d (nI s)) (FP.i2d (nI w))) = false := by decide +kernel
def pp_su (p : Nat → Nat) : Nat → Nat
  | 0 => 0
  | k + 1 => pp_su p k + p k
theorem pp_suB {p : Nat → Nat} : ∀ n, (∀ k, k < n → p k ≤ 24) → pp_su p n ≤ 24 * n := by
  intro n
  induction n with
  | zero => intro _; exact Nat.zero_le _
  | succ n ih =>
    intro h
    have h1 := ih (fun k hk => h k (by omega))
    have h2 := h n (by omega)
    unfold pp_su
    omega
def pp_fo (F : Nat → Int32) (n : Nat) : Nat → Int64 → Int64
  | 0, d => d
  | m + 1, d => pp_fo F n m (d * (31 : Int64) + (F (n - (m + 1))).toInt64)
theorem pp_foS (F : Nat → Int32) (n m : Nat) (d : Int64) : pp_fo F n (m + 1) d = pp_fo F n m (d * (31 : Int64) + (F (n - (m + 1))).toInt64) := rfl
theorem pp_drC {x : CS} {t n : Nat} {p : Nat → Nat} (h : pp_RC x t p n) : ∀ m fuel d, m ≤ n → m < fuel → f_X12_digestOfRow_5 x fuel t d (nI (n - m)) = some (pp_fo (fun k => nI (p k)) n m d) := by
  have hn := h.2.1
  intro m
  induction m with
  | zero =>
    intro fuel d hm hfu
    obtain ⟨fu, rfl⟩ : ∃ fu, fuel = fu + 1 := ⟨fuel - 1, by omega⟩
    rw [f_X12_digestOfRow_5, h.1, if_pos (nI_le (by omega) (by omega))]
    rfl
  | succ m ih =>
    intro fuel d hm hfu
    obtain ⟨fu, rfl⟩ : ∃ fu, fuel = fu + 1 := ⟨fuel - 1, by omega⟩
    rw [pp_foS, f_X12_digestOfRow_5, h.1, if_neg (nI_ge (by omega) (by omega)), pp_pitC (by omega), pp_b, h.2.2.2 _ (by omega), nI_1, show n - (m + 1) + 1 = n - m by omega]
    exact ih fu _ (by omega) (by omega)
theorem pp_drow {x : CS} {t n : Nat} {p : Nat → Nat} (h : pp_RC x t p n) (d : Int64) : f_X12_digestOfRow d t x = some (pp_fo (fun k => nI (p k)) n n d) := by
  have hn := h.2.1
  have := pp_drC h n g_fuel d (Nat.le_refl _) (by unfold g_fuel; omega)
  rw [Nat.sub_self] at this
  exact this
theorem pp_d88 {A : PV} {x : CS} {b v w : Nat} (hA : pv_ok A) (hC : pp_VC A x v) (hb : b = 20 ∨ b = 70) (h6 : x.2 0 6 = b) (h7 : x.2 0 7 = v) (hg : x.1 b 6 = nI (pv_g A)) (hw : w < pv_W A) : ∀ m fuel d g, m ≤ pv_W A → m < fuel → ∃ f, f_X12_digestOfWord_88 fuel (nI w) d (nI (pv_W A - m)) (g_wa x 9 g) = some (pp_fo (fun k => nI (pv_dd A w k)) (pv_W A) m d, g_wa x 9 f) := by
  have hW := hA.1
  have hv := hC.1
  intro m
  induction m with
  | zero =>
    intro fuel d g hm hfu
    obtain ⟨fu, rfl⟩ : ∃ fu, fuel = fu + 1 := ⟨fuel - 1, by omega⟩
    refine ⟨g, ?_⟩
    rw [f_X12_digestOfWord_88, pp_c6, h7, if_pos (pp_k9 hv), pp_c4 (by omega), hC.2.1, if_pos (nI_le (by omega) (by omega))]
    rfl
  | succ m ih =>
    intro fuel d g hm hfu
    obtain ⟨fu, rfl⟩ : ∃ fu, fuel = fu + 1 := ⟨fuel - 1, by omega⟩
    have hSc : pp_Sc x (g_wa x 9 g) := (pp_Sc.rf x).wa (by omega) (by omega) (by omega) (by omega)
    obtain ⟨f1, hf1⟩ := pp_apartC hA (hC.s hSc) hb h6 h7 (by rw [hSc.1 b (by omega)]; exact hg) hw (show pv_W A - (m + 1) < pv_W A by omega)
    rw [pp_c2] at hf1
    obtain ⟨f, i⟩ := ih fu (d * (31 : Int64) + (nI (pv_dd A w (pv_W A - (m + 1)))).toInt64) f1 (by omega) (by omega)
    refine ⟨f, ?_⟩
    rw [pp_foS, f_X12_digestOfWord_88, pp_c6, h7, if_pos (pp_k9 hv), pp_c4 (by omega), hC.2.1, if_neg (nI_ge (by omega) (by omega)), hf1, pp_b, nI_1, show pv_W A - (m + 1) + 1 = pv_W A - m by omega]
    exact i
def pv_dw (A : PV) (nr w : Nat) (d : Int64) : Int64 := pp_fo (fun k => nI (pv_dd A w k)) (pv_W A) (pv_W A) (pp_fo (fun k => nI (pv_pt A w k)) (pv_ln A w) (pv_ln A w) (((d * (31 : Int64) + (nI (pv_ln A w)).toInt64) * (31 : Int64) + (nI (pv_pr A w)).toInt64) * (31 : Int64) + (nI (pv_nl A nr w)).toInt64))
theorem pp_dwC {A : PV} {x : CS} {b v w nr : Nat} (hA : pv_ok A) (hC : pp_VC A x v) (hb : b = 20 ∨ b = 70) (h6 : x.2 0 6 = b) (h7 : x.2 0 7 = v) (hg : x.1 b 6 = nI (pv_g A)) (hn : x.1 b 7 = nI nr) (hn9 : nr ≤ 99) (hw : w < pv_W A) (d : Int64) : ∃ f, f_X12_digestOfWord d (nI w) x = some (pv_dw A nr w d, g_wa x 9 f) := by
  have hW := hA.1
  have hv := hC.1
  obtain ⟨c1, c2, c3⟩ := hC.2.2.1 w hw
  have hp := hA.2.1 w
  have hnl := pv_nl1 A nr w
  obtain ⟨f1, hf1⟩ := pp_needC hA hC hb h6 h7 hg hn hn9 hw
  have hSc : pp_Sc x (g_wa x 9 f1) := (pp_Sc.rf x).wa (by omega) (by omega) (by omega) (by omega)
  obtain ⟨f, hf⟩ := pp_d88 hA hC hb h6 h7 hg hw (pv_W A) g_fuel (pp_fo (fun k => nI (pv_pt A w k)) (pv_ln A w) (pv_ln A w) (((d * (31 : Int64) + (nI (pv_ln A w)).toInt64) * (31 : Int64) + (nI (pv_pr A w)).toInt64) * (31 : Int64) + (nI (pv_nl A nr w)).toInt64)) f1 (Nat.le_refl _) (by unfold g_fuel; omega)
  rw [Nat.sub_self] at hf
  refine ⟨f, ?_⟩
  have h69 : ∀ s0 s1, s1 + s0.toInt64 = ((d * (31 : Int64) + (nI (pv_ln A w)).toInt64) * (31 : Int64) + (nI (pv_pr A w)).toInt64) * (31 : Int64) + (nI (pv_nl A nr w)).toInt64 → f_X12_digestOfWord_69 (nI w) s0 s1 (g_wa x 9 f1) = some (pv_dw A nr w d, g_wa x 9 f) := by
    intro s0 s1 hs
    unfold f_X12_digestOfWord_69
    rw [pp_rowO (by rw [hSc.2]; exact h7) hv (by omega), pp_b, if_pos (pp_k5 hv (by omega)), pp_drow (c3.s hSc (by unfold pp_wd; omega)), pp_b, hs]
    exact hf
  have h46 : ∀ s0, s0 = nI (pv_pr A w) → f_X12_digestOfWord_46 (nI w) s0 ((d * (31 : Int64) + (nI (pv_ln A w)).toInt64) * (31 : Int64)) x = some (pv_dw A nr w d, g_wa x 9 f) := by
    intro s0 hs
    unfold f_X12_digestOfWord_46
    rw [hf1, pp_b, hs]
    show (if nI (pv_nl A nr w) = 0 then _ else _) = _
    by_cases hz : pv_nl A nr w = 0
    · rw [if_pos (by rw [hz]; rfl)]
      exact h69 _ _ (by rw [hz]; rfl)
    · rw [if_neg (nI_ne0 (by omega) (by omega))]
      exact h69 _ _ (by rw [show pv_nl A nr w = 1 by omega]; rfl)
  unfold f_X12_digestOfWord
  rw [pp_rowO h7 hv (by omega), pp_b, if_pos (pp_k5 hv (by omega)), h7, if_pos (pp_k9 hv), pp_word (by omega), pp_b, if_pos (pp_k10 hv (by omega)), c1, c3.1]
  by_cases hz : pv_pr A w = 0
  · rw [if_pos (by rw [hz]; rfl)]
    exact h46 0 (by rw [hz]; rfl)
  · rw [if_neg (nI_ne0 (by omega) (by omega))]
    exact h46 1 (by rw [show pv_pr A w = 1 by omega]; rfl)
def pv_dW (A : PV) (nr : Nat) : Nat → Int64 → Int64
  | 0, d => d
  | m + 1, d => pv_dW A nr m (pv_dw A nr (pv_W A - (m + 1)) d)
def pv_dg (A : PV) (nr : Nat) (d : Int64) : Int64 := pp_fo (fun k => nI (pv_hp A k)) (pv_hl A) (pv_hl A) (pv_dW A nr (pv_W A) d)
theorem pp_d115 {A : PV} {x : CS} {b v nr : Nat} (hA : pv_ok A) (hC : pp_VC A x v) (hb : b = 20 ∨ b = 70) (h6 : x.2 0 6 = b) (h7 : x.2 0 7 = v) (hg : x.1 b 6 = nI (pv_g A)) (hn : x.1 b 7 = nI nr) (hn9 : nr ≤ 99) : ∀ m fuel d g, m ≤ pv_W A → m < fuel → ∃ f, f_X12_digest_115 fuel d (nI (pv_W A - m)) (g_wa x 9 g) = some (pp_fo (fun k => nI (pv_hp A k)) (pv_hl A) (pv_hl A) (pv_dW A nr m d), g_wa x 9 f) := by
  have hW := hA.1
  have hv := hC.1
  intro m
  induction m with
  | zero =>
    intro fuel d g hm hfu
    obtain ⟨fu, rfl⟩ : ∃ fu, fuel = fu + 1 := ⟨fuel - 1, by omega⟩
    have hSc : pp_Sc x (g_wa x 9 g) := (pp_Sc.rf x).wa (by omega) (by omega) (by omega) (by omega)
    refine ⟨g, ?_⟩
    rw [f_X12_digest_115, pp_c6, h7, if_pos (pp_k9 hv), pp_c4 (by omega), hC.2.1, if_pos (nI_le (by omega) (by omega)), pp_drow ((hC.s hSc).2.2.2)]
    rfl
  | succ m ih =>
    intro fuel d g hm hfu
    obtain ⟨fu, rfl⟩ : ∃ fu, fuel = fu + 1 := ⟨fuel - 1, by omega⟩
    have hSc : pp_Sc x (g_wa x 9 g) := (pp_Sc.rf x).wa (by omega) (by omega) (by omega) (by omega)
    obtain ⟨f1, hf1⟩ := pp_dwC (nr := nr) hA (hC.s hSc) hb h6 h7 (by rw [hSc.1 b (by omega)]; exact hg) (by rw [hSc.1 b (by omega)]; exact hn) hn9 (show pv_W A - (m + 1) < pv_W A by omega) d
    rw [pp_c2] at hf1
    obtain ⟨f, i⟩ := ih fu (pv_dw A nr (pv_W A - (m + 1)) d) f1 (by omega) (by omega)
    refine ⟨f, ?_⟩
    rw [f_X12_digest_115, pp_c6, h7, if_pos (pp_k9 hv), pp_c4 (by omega), hC.2.1, if_neg (nI_ge (by omega) (by omega)), hf1, pp_b, nI_1, show pv_W A - (m + 1) + 1 = pv_W A - m by omega]
    exact i
/-! the reference's -/
