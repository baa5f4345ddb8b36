/-! the mean length, the checksum -/
theorem pp_nan : ∀ s, s < 193 → ∀ w, w < 9 → 0 < w → g_nan (FP.ddiv (FP.i2d (nI s)) (FP.i2d (nI w))) = false := by decide +kernel
def pp_su (p : Nat → Nat) : Nat → Nat
  | 0 => 0
  | k + 1 => pp_su p k + p k
theorem pp_suB {p : Nat → Nat} : ∀ n, (∀ k, k < n → p k ≤ 24) → pp_su p n ≤ 24 * n := by
  intro n
  induction n with
  | zero => intro _; exact Nat.zero_le _
  | succ n ih =>
    intro h
    have h1 := ih (fun k hk => h k (by omega))
    have h2 := h n (by omega)
    unfold pp_su
    omega
def pp_OD (x : CS) (fc : Option UInt64) (fm : Option (UInt64 × MS)) : Prop := ∃ r y', fc = some r ∧ fm = some (r, y') ∧ pp_R x y'
theorem pp_o35 {x : CS} {y : MS} (h : pp_R x y) : pp_OD x (f_X12_meanLength x) (f_X15_meanLength y) := by
  have h0 := h
  obtain ⟨A, b, v, R, Z, nr, T, hA, hT, hC, hM, h3, h4, hB⟩ := h
  have hW := hA.1
  have hv := hC.1
  have hg : y 127 0 = nI (pv_g A) := hM.2.2.1
  have hg20 := hA.2.2.2
  have hb := hB.1
  have hbg := hB.2.2.2.2.2.1
  have hSB := pp_suB (p := pv_ln A) (pv_W A) (fun k hk => (hC.2.2.1 k hk).2.2.2.1)
  have hMt := hM.th (u := 0)
  have kc : ∀ d fuel k, d = pv_W A - k → d < fuel → k ≤ pv_W A → 0 < pv_W A → f_X12_meanLength_16 x fuel (nI (pp_su (pv_ln A) k)) (nI k) = some (FP.ddiv (FP.i2d (nI (pp_su (pv_ln A) (pv_W A)))) (FP.i2d (nI (pv_W A)))) := by
    intro d
    induction d with
    | zero =>
      intro fuel k hd hfu hk h0
      obtain ⟨fu, rfl⟩ : ∃ fu, fuel = fu + 1 := ⟨fuel - 1, by omega⟩
      have e : k = pv_W A := by omega
      rw [f_X12_meanLength_16, hT.2.1, if_pos (pp_k9 hv), hC.2.1, if_pos (nI_le (by omega) (by omega)), e, if_pos (pp_nan _ (by omega) _ (by omega) h0)]
    | succ d ih =>
      intro fuel k hd hfu hk h0
      obtain ⟨fu, rfl⟩ : ∃ fu, fuel = fu + 1 := ⟨fuel - 1, by omega⟩
      have i := ih fu (k + 1) (by omega) (by omega) (by omega) h0
      rw [f_X12_meanLength_16, hT.2.1, if_pos (pp_k9 hv), hC.2.1, if_neg (nI_ge (by omega) (by omega)), pp_rowO hT.2.1 hv (by omega), pp_b, if_pos (pp_k5 hv (by omega)), (hC.2.2.1 k (by omega)).2.2.1, nI_add, nI_1]
      exact i
  have km : ∀ d fuel k, d = pv_W A - k → d < fuel → k ≤ pv_W A → f_X15_meanLength_9 fuel (nI (pp_su (pv_ln A) k)) (nI k) (g_mi y 120 0 0) = (if nI (pv_W A) = 0 then some (FP.dconst0, g_mi y 120 0 0) else some (FP.ddiv (FP.i2d (nI (pp_su (pv_ln A) (pv_W A)))) (FP.i2d (nI (pv_W A))), g_mi y 120 0 0)) := by
    intro d
    induction d with
    | zero =>
      intro fuel k hd hfu hk
      obtain ⟨fu, rfl⟩ : ∃ fu, fuel = fu + 1 := ⟨fuel - 1, by omega⟩
      have e : k = pv_W A := by omega
      rw [f_X15_meanLength_9, hMt.2.1, if_pos (nI_le (by omega) (by omega)), e]
      by_cases h0 : nI (pv_W A) = 0
      · rw [if_pos h0, if_pos h0]
      · rw [if_neg h0, if_neg h0, if_pos (pp_nan _ (by omega) _ (by omega) (Nat.pos_of_ne_zero (fun q => h0 (by rw [q]; rfl))))]
    | succ d ih =>
      intro fuel k hd hfu hk
      obtain ⟨fu, rfl⟩ : ∃ fu, fuel = fu + 1 := ⟨fuel - 1, by omega⟩
      have i := ih fu (k + 1) (by omega) (by omega) (by omega)
      have hl : (g_mi y 120 0 0) 153 k = nI (pv_ln A k) := (hMt.2.2.2.1 k (by omega)).2.1
      rw [f_X15_meanLength_9, hMt.2.1, if_neg (nI_ge (by omega) (by omega)), if_pos ((pp_ok (by omega)).mpr (by omega)), nI_clamp (by omega), hl, nI_add, nI_1]
      exact i
  have hm := km (pv_W A - 0) g_fuel 0 rfl (by unfold g_fuel; omega) (by omega)
  have hm' : f_X15_meanLength y = _ := hm
  unfold f_X12_meanLength
  rw [hT.2.1, if_pos (pp_k9 hv), hC.2.1]
  by_cases h0 : nI (pv_W A) = 0
  · rw [if_pos h0] at hm' ⊢
    exact ⟨_, _, rfl, hm', h0 ▸ (‹pp_R x y›).th⟩
  · rw [if_neg h0] at hm' ⊢
    exact ⟨_, _, kc (pv_W A - 0) g_fuel 0 rfl (by unfold g_fuel; omega) (by omega) (Nat.pos_of_ne_zero (fun q => h0 (by rw [q]; rfl))), hm', (‹pp_R x y›).th⟩
def pp_fo (F : Nat → Int32) (n : Nat) : Nat → Int64 → Int64
  | 0, d => d
  | m + 1, d => pp_fo F n m (d * (31 : Int64) + (F (n - (m + 1))).toInt64)
theorem pp_foS (F : Nat → Int32) (n m : Nat) (d : Int64) : pp_fo F n (m + 1) d = pp_fo F n m (d * (31 : Int64) + (F (n - (m + 1))).toInt64) := rfl
theorem pp_drC {x : CS} {t n : Nat} {p : Nat → Nat} (h : pp_RC x t p n) : ∀ m fuel d, m ≤ n → m < fuel → f_X12_digestOfRow_5 x fuel t d (nI (n - m)) = some (pp_fo (fun k => nI (p k)) n m d) := by
  have hn := h.2.1
  intro m
  induction m with
  | zero =>
    intro fuel d hm hfu
    obtain ⟨fu, rfl⟩ : ∃ fu, fuel = fu + 1 := ⟨fuel - 1, by omega⟩
    rw [f_X12_digestOfRow_5, h.1, if_pos (nI_le (by omega) (by omega))]
    rfl
  | succ m ih =>
    intro fuel d hm hfu
    obtain ⟨fu, rfl⟩ : ∃ fu, fuel = fu + 1 := ⟨fuel - 1, by omega⟩
    rw [pp_foS, f_X12_digestOfRow_5, h.1, if_neg (nI_ge (by omega) (by omega)), pp_pitC (by omega), pp_b, h.2.2.2 _ (by omega), nI_1, show n - (m + 1) + 1 = n - m by omega]
    exact ih fu _ (by omega) (by omega)
theorem pp_drow {x : CS} {t n : Nat} {p : Nat → Nat} (h : pp_RC x t p n) (d : Int64) : f_X12_digestOfRow d t x = some (pp_fo (fun k => nI (p k)) n n d) := by
  have hn := h.2.1
  have := pp_drC h n g_fuel d (Nat.le_refl _) (by unfold g_fuel; omega)
  rw [Nat.sub_self] at this
  exact this
theorem pp_d88 {A : PV} {x : CS} {b v w : Nat} (hA : pv_ok A) (hC : pp_VC A x v) (hb : b = 20 ∨ b = 70) (h6 : x.2 0 6 = b) (h7 : x.2 0 7 = v) (hg : x.1 b 6 = nI (pv_g A)) (hw : w < pv_W A) : ∀ m fuel d g, m ≤ pv_W A → m < fuel → ∃ f, f_X12_digestOfWord_88 fuel (nI w) d (nI (pv_W A - m)) (g_wa x 9 g) = some (pp_fo (fun k => nI (pv_dd A w k)) (pv_W A) m d, g_wa x 9 f) := by
  have hW := hA.1
  have hv := hC.1
  intro m
  induction m with
  | zero =>
    intro fuel d g hm hfu
    obtain ⟨fu, rfl⟩ : ∃ fu, fuel = fu + 1 := ⟨fuel - 1, by omega⟩
    refine ⟨g, ?_⟩
    rw [f_X12_digestOfWord_88, pp_c6, h7, if_pos (pp_k9 hv), pp_c4 (by omega), hC.2.1, if_pos (nI_le (by omega) (by omega))]
    rfl
  | succ m ih =>
    intro fuel d g hm hfu
    obtain ⟨fu, rfl⟩ : ∃ fu, fuel = fu + 1 := ⟨fuel - 1, by omega⟩
    have hSc : pp_Sc x (g_wa x 9 g) := (pp_Sc.rf x).wa (by omega) (by omega) (by omega) (by omega)
    obtain ⟨f1, hf1⟩ := pp_apartC hA (hC.s hSc) hb h6 h7 (by rw [hSc.1 b (by omega)]; exact hg) hw (show pv_W A - (m + 1) < pv_W A by omega)
    rw [pp_c2] at hf1
    obtain ⟨f, i⟩ := ih fu (d * (31 : Int64) + (nI (pv_dd A w (pv_W A - (m + 1)))).toInt64) f1 (by omega) (by omega)
    refine ⟨f, ?_⟩
    rw [pp_foS, f_X12_digestOfWord_88, pp_c6, h7, if_pos (pp_k9 hv), pp_c4 (by omega), hC.2.1, if_neg (nI_ge (by omega) (by omega)), hf1, pp_b, nI_1, show pv_W A - (m + 1) + 1 = pv_W A - m by omega]
    exact i
def pv_dw (A : PV) (nr w : Nat) (d : Int64) : Int64 := pp_fo (fun k => nI (pv_dd A w k)) (pv_W A) (pv_W A) (pp_fo (fun k => nI (pv_pt A w k)) (pv_ln A w) (pv_ln A w) (((d * (31 : Int64) + (nI (pv_ln A w)).toInt64) * (31 : Int64) + (nI (pv_pr A w)).toInt64) * (31 : Int64) + (nI (pv_nl A nr w)).toInt64))
theorem pp_dwC {A : PV} {x : CS} {b v w nr : Nat} (hA : pv_ok A) (hC : pp_VC A x v) (hb : b = 20 ∨ b = 70) (h6 : x.2 0 6 = b) (h7 : x.2 0 7 = v) (hg : x.1 b 6 = nI (pv_g A)) (hn : x.1 b 7 = nI nr) (hn9 : nr ≤ 99) (hw : w < pv_W A) (d : Int64) : ∃ f, f_X12_digestOfWord d (nI w) x = some (pv_dw A nr w d, g_wa x 9 f) := by
  have hW := hA.1
  have hv := hC.1
  obtain ⟨c1, c2, c3⟩ := hC.2.2.1 w hw
  have hp := hA.2.1 w
  have hnl := pv_nl1 A nr w
  obtain ⟨f1, hf1⟩ := pp_needC hA hC hb h6 h7 hg hn hn9 hw
  have hSc : pp_Sc x (g_wa x 9 f1) := (pp_Sc.rf x).wa (by omega) (by omega) (by omega) (by omega)
  obtain ⟨f, hf⟩ := pp_d88 hA hC hb h6 h7 hg hw (pv_W A) g_fuel (pp_fo (fun k => nI (pv_pt A w k)) (pv_ln A w) (pv_ln A w) (((d * (31 : Int64) + (nI (pv_ln A w)).toInt64) * (31 : Int64) + (nI (pv_pr A w)).toInt64) * (31 : Int64) + (nI (pv_nl A nr w)).toInt64)) f1 (Nat.le_refl _) (by unfold g_fuel; omega)
  rw [Nat.sub_self] at hf
  refine ⟨f, ?_⟩
  have h69 : ∀ s0 s1, s1 + s0.toInt64 = ((d * (31 : Int64) + (nI (pv_ln A w)).toInt64) * (31 : Int64) + (nI (pv_pr A w)).toInt64) * (31 : Int64) + (nI (pv_nl A nr w)).toInt64 → f_X12_digestOfWord_69 (nI w) s0 s1 (g_wa x 9 f1) = some (pv_dw A nr w d, g_wa x 9 f) := by
    intro s0 s1 hs
    unfold f_X12_digestOfWord_69
    rw [pp_rowO (by rw [hSc.2]; exact h7) hv (by omega), pp_b, if_pos (pp_k5 hv (by omega)), pp_drow (c3.s hSc (by unfold pp_wd; omega)), pp_b, hs]
    exact hf
  have h46 : ∀ s0, s0 = nI (pv_pr A w) → f_X12_digestOfWord_46 (nI w) s0 ((d * (31 : Int64) + (nI (pv_ln A w)).toInt64) * (31 : Int64)) x = some (pv_dw A nr w d, g_wa x 9 f) := by
    intro s0 hs
    unfold f_X12_digestOfWord_46
    rw [hf1, pp_b, hs]
    show (if nI (pv_nl A nr w) = 0 then _ else _) = _
    by_cases hz : pv_nl A nr w = 0
    · rw [if_pos (by rw [hz]; rfl)]
      exact h69 _ _ (by rw [hz]; rfl)
    · rw [if_neg (nI_ne0 (by omega) (by omega))]
      exact h69 _ _ (by rw [show pv_nl A nr w = 1 by omega]; rfl)
  unfold f_X12_digestOfWord
  rw [pp_rowO h7 hv (by omega), pp_b, if_pos (pp_k5 hv (by omega)), h7, if_pos (pp_k9 hv), pp_word (by omega), pp_b, if_pos (pp_k10 hv (by omega)), c1, c3.1]
  by_cases hz : pv_pr A w = 0
  · rw [if_pos (by rw [hz]; rfl)]
    exact h46 0 (by rw [hz]; rfl)
  · rw [if_neg (nI_ne0 (by omega) (by omega))]
    exact h46 1 (by rw [show pv_pr A w = 1 by omega]; rfl)
def pv_dW (A : PV) (nr : Nat) : Nat → Int64 → Int64
  | 0, d => d
  | m + 1, d => pv_dW A nr m (pv_dw A nr (pv_W A - (m + 1)) d)
def pv_dg (A : PV) (nr : Nat) (d : Int64) : Int64 := pp_fo (fun k => nI (pv_hp A k)) (pv_hl A) (pv_hl A) (pv_dW A nr (pv_W A) d)
theorem pp_d115 {A : PV} {x : CS} {b v nr : Nat} (hA : pv_ok A) (hC : pp_VC A x v) (hb : b = 20 ∨ b = 70) (h6 : x.2 0 6 = b) (h7 : x.2 0 7 = v) (hg : x.1 b 6 = nI (pv_g A)) (hn : x.1 b 7 = nI nr) (hn9 : nr ≤ 99) : ∀ m fuel d g, m ≤ pv_W A → m < fuel → ∃ f, f_X12_digest_115 fuel d (nI (pv_W A - m)) (g_wa x 9 g) = some (pp_fo (fun k => nI (pv_hp A k)) (pv_hl A) (pv_hl A) (pv_dW A nr m d), g_wa x 9 f) := by
  have hW := hA.1
  have hv := hC.1
  intro m
  induction m with
  | zero =>
    intro fuel d g hm hfu
    obtain ⟨fu, rfl⟩ : ∃ fu, fuel = fu + 1 := ⟨fuel - 1, by omega⟩
    have hSc : pp_Sc x (g_wa x 9 g) := (pp_Sc.rf x).wa (by omega) (by omega) (by omega) (by omega)
    refine ⟨g, ?_⟩
    rw [f_X12_digest_115, pp_c6, h7, if_pos (pp_k9 hv), pp_c4 (by omega), hC.2.1, if_pos (nI_le (by omega) (by omega)), pp_drow ((hC.s hSc).2.2.2)]
    rfl
  | succ m ih =>
    intro fuel d g hm hfu
    obtain ⟨fu, rfl⟩ : ∃ fu, fuel = fu + 1 := ⟨fuel - 1, by omega⟩
    have hSc : pp_Sc x (g_wa x 9 g) := (pp_Sc.rf x).wa (by omega) (by omega) (by omega) (by omega)
    obtain ⟨f1, hf1⟩ := pp_dwC (nr := nr) hA (hC.s hSc) hb h6 h7 (by rw [hSc.1 b (by omega)]; exact hg) (by rw [hSc.1 b (by omega)]; exact hn) hn9 (show pv_W A - (m + 1) < pv_W A by omega) d
    rw [pp_c2] at hf1
    obtain ⟨f, i⟩ := ih fu (pv_dw A nr (pv_W A - (m + 1)) d) f1 (by omega) (by omega)
    refine ⟨f, ?_⟩
    rw [f_X12_digest_115, pp_c6, h7, if_pos (pp_k9 hv), pp_c4 (by omega), hC.2.1, if_neg (nI_ge (by omega) (by omega)), hf1, pp_b, nI_1, show pv_W A - (m + 1) + 1 = pv_W A - m by omega]
    exact i
/-! the reference's -/
theorem pp_m294 {y : MS} {n : Nat} {p : Nat → Nat} (h : pp_RM y 152 8 p n) : ∀ m fuel d, m ≤ n → m < fuel → f_X15_digest_294 fuel d (nI (n - m)) y = some (pp_fo (fun k => nI (p k)) n m d, g_mi y 120 0 0) := by
  have hn := h.2.1
  have hl : y 153 8 = nI n := h.1
  intro m
  induction m with
  | zero =>
    intro fuel d hm hfu
    obtain ⟨fu, rfl⟩ : ∃ fu, fuel = fu + 1 := ⟨fuel - 1, by omega⟩
    rw [f_X15_digest_294, if_pos (by decide)]
    show (if y 153 8 ≤ nI (n - 0) then _ else _) = _
    rw [hl, if_pos (nI_le (by omega) (by omega))]
    rfl
  | succ m ih =>
    intro fuel d hm hfu
    obtain ⟨fu, rfl⟩ : ∃ fu, fuel = fu + 1 := ⟨fuel - 1, by omega⟩
    have hp : y 154 (192 + (n - (m + 1))) = nI (p (n - (m + 1))) := h.2.2.2 _ (by omega)
    rw [pp_foS, f_X15_digest_294, if_pos (by decide)]
    show (if y 153 8 ≤ nI (n - (m + 1)) then _ else _) = _
    rw [hl, if_neg (nI_ge (by omega) (by omega)), show (192 : Int32) + nI (n - (m + 1)) = nI (192 + (n - (m + 1))) from nI_add 192 _, if_pos ((pp_ok (by omega)).mpr (by omega)), nI_clamp (by omega), hp, nI_1, show n - (m + 1) + 1 = n - m by omega]
    exact ih fu _ (by omega) (by omega)
theorem pp_m247 {A : PV} {y : MS} {w : Nat} {k130 : Int64 → Int32 → MS → Option (Int64 × MS)} (hA : pv_ok A) (hM : pp_VM A y 152) (hw : w < pv_W A) : ∀ m fuel d g, m ≤ pv_W A → m < fuel → ∃ f, f_X15_digest_247 k130 fuel d (nI w) (nI (pv_W A - m)) (g_ma y 160 g) = k130 (pp_fo (fun k => nI (pv_dd A w k)) (pv_W A) m d) (nI (w + 1)) (g_ma y 160 f) := by
  have hW := hA.1
  intro m
  induction m with
  | zero =>
    intro fuel d g hm hfu
    obtain ⟨fu, rfl⟩ : ∃ fu, fuel = fu + 1 := ⟨fuel - 1, by omega⟩
    refine ⟨g, ?_⟩
    rw [f_X15_digest_247, pp_g4 (by omega), hM.2.1, if_pos (nI_le (by omega) (by omega)), nI_1]
    rfl
  | succ m ih =>
    intro fuel d g hm hfu
    obtain ⟨fu, rfl⟩ : ∃ fu, fuel = fu + 1 := ⟨fuel - 1, by omega⟩
    have hM' : pp_VM A (g_ma y 160 g) 152 := hM.f (by omega) (by omega) (by omega) (by omega)
    obtain ⟨f1, hf1⟩ := pp_apartM hA hM' hw (show pv_W A - (m + 1) < pv_W A by omega)
    rw [pp_g2] at hf1
    obtain ⟨f, i⟩ := ih fu (d * (31 : Int64) + (nI (pv_dd A w (pv_W A - (m + 1)))).toInt64) f1 (by omega) (by omega)
    refine ⟨f, ?_⟩
    rw [pp_foS, f_X15_digest_247, pp_g4 (by omega), hM.2.1, if_neg (nI_ge (by omega) (by omega)), hf1, pp_b, nI_1, show pv_W A - (m + 1) + 1 = pv_W A - m by omega]
    exact i
theorem pp_m199 {A : PV} {y : MS} {w : Nat} {k130 : Int64 → Int32 → MS → Option (Int64 × MS)} (hA : pv_ok A) (hM : pp_VM A y 152) (hw : w < pv_W A) : ∀ m fuel d, m ≤ pv_ln A w → m < fuel → ∀ g, ∃ f, f_X15_digest_199 k130 fuel d (nI w) (nI (pv_ln A w - m)) (g_ma y 160 g) = k130 (pp_fo (fun k => nI (pv_dd A w k)) (pv_W A) (pv_W A) (pp_fo (fun k => nI (pv_pt A w k)) (pv_ln A w) m d)) (nI (w + 1)) (g_ma y 160 f) := by
  have hW := hA.1
  obtain ⟨a1, a2⟩ := hM.2.2.2.1 w hw
  have hl : y 153 w = nI (pv_ln A w) := a2.1
  have hn := a2.2.1
  intro m
  induction m with
  | zero =>
    intro fuel d hm hfu g
    obtain ⟨fu, rfl⟩ : ∃ fu, fuel = fu + 1 := ⟨fuel - 1, by omega⟩
    obtain ⟨f, hf⟩ := pp_m247 (k130 := k130) hA hM hw (pv_W A) g_fuel d g (Nat.le_refl _) (by unfold g_fuel; omega)
    rw [Nat.sub_self] at hf
    refine ⟨f, ?_⟩
    rw [f_X15_digest_199, if_pos ((pp_ok (by omega)).mpr (by omega)), nI_clamp (by omega), pp_g4 (by omega), hl, if_pos (nI_le (by omega) (by omega))]
    exact hf
  | succ m ih =>
    intro fuel d hm hfu g
    obtain ⟨fu, rfl⟩ : ∃ fu, fuel = fu + 1 := ⟨fuel - 1, by omega⟩
    have hp : y 154 (24 * w + (pv_ln A w - (m + 1))) = nI (pv_pt A w (pv_ln A w - (m + 1))) := a2.2.2.2 _ (by omega)
    obtain ⟨f, i⟩ := ih fu (d * (31 : Int64) + (nI (pv_pt A w (pv_ln A w - (m + 1)))).toInt64) (by omega) (by omega) g
    refine ⟨f, ?_⟩
    rw [pp_foS, f_X15_digest_199, if_pos ((pp_ok (by omega)).mpr (by omega)), nI_clamp (by omega), pp_g4 (by omega), hl, if_neg (nI_ge (by omega) (by omega)), show (24 : Int32) * nI w + nI (pv_ln A w - (m + 1)) = nI (24 * w + (pv_ln A w - (m + 1))) by rw [pp_lit 24, pk_mul, nI_add], if_pos ((pp_ok (by omega)).mpr (by omega)), nI_clamp (by omega), pp_g4 (by omega), hp, nI_1, show pv_ln A w - (m + 1) + 1 = pv_ln A w - m by omega]
    exact i
theorem pp_m130 {A : PV} {y : MS} {nr : Nat} (hA : pv_ok A) (hM : pp_VM A y 152) (hn : y 127 1 = nI nr) (hn9 : nr ≤ 99) : ∀ m fuel d g, m ≤ pv_W A → m < fuel → ∃ f, f_X15_digest_130 fuel d (nI (pv_W A - m)) (g_ma y 160 g) = some (pp_fo (fun k => nI (pv_hp A k)) (pv_hl A) (pv_hl A) (pv_dW A nr m d), g_mi (g_ma y 160 f) 120 0 0) := by
  have hW := hA.1
  have hhl := hM.2.2.2.2.2.1
  intro m
  induction m with
  | zero =>
    intro fuel d g hm hfu
    obtain ⟨fu, rfl⟩ : ∃ fu, fuel = fu + 1 := ⟨fuel - 1, by omega⟩
    have hM' : pp_VM A (g_ma y 160 g) 152 := hM.f (by omega) (by omega) (by omega) (by omega)
    have := pp_m294 hM'.2.2.2.2 (pv_hl A) g_fuel d (Nat.le_refl _) (by unfold g_fuel; omega)
    rw [Nat.sub_self] at this
    refine ⟨g, ?_⟩
    rw [f_X15_digest_130, pp_g4 (by omega), hM.2.1, if_pos (nI_le (by omega) (by omega))]
    exact this
  | succ m ih =>
    intro fuel d g hm hfu
    obtain ⟨fu, rfl⟩ : ∃ fu, fuel = fu + 1 := ⟨fuel - 1, by omega⟩
    have hM' : pp_VM A (g_ma y 160 g) 152 := hM.f (by omega) (by omega) (by omega) (by omega)
    have hwW : pv_W A - (m + 1) < pv_W A := by omega
    obtain ⟨f1, hf1⟩ := pp_needM (nr := nr) hA hM' (by rw [pp_g4 (by omega)]; exact hn) hn9 hwW
    rw [pp_g2] at hf1
    have hnl := pv_nl1 A nr (pv_W A - (m + 1))
    obtain ⟨a1, a2⟩ := hM.2.2.2.1 _ hwW
    have hl : y 153 (pv_W A - (m + 1)) = nI (pv_ln A (pv_W A - (m + 1))) := a2.1
    have hpr : y 155 (pv_W A - (m + 1)) = nI (pv_pr A (pv_W A - (m + 1))) := a1
    have hln := a2.2.1
    obtain ⟨f2, i2⟩ := pp_m199 (k130 := f_X15_digest_130 fu) hA hM hwW (pv_ln A (pv_W A - (m + 1))) g_fuel (((d * (31 : Int64) + (nI (pv_ln A (pv_W A - (m + 1)))).toInt64) * (31 : Int64) + (nI (pv_pr A (pv_W A - (m + 1)))).toInt64) * (31 : Int64) + (nI (pv_nl A nr (pv_W A - (m + 1)))).toInt64) (Nat.le_refl _) (by unfold g_fuel; omega) f1
    rw [Nat.sub_self, show pv_W A - (m + 1) + 1 = pv_W A - m by omega] at i2
    obtain ⟨f, i3⟩ := ih fu (pv_dw A nr (pv_W A - (m + 1)) d) f2 (by omega) (by omega)
    refine ⟨f, ?_⟩
    rw [f_X15_digest_130, pp_g4 (by omega), hM.2.1, if_neg (nI_ge (by omega) (by omega)), if_pos ((pp_ok (by omega)).mpr (by omega)), if_pos ((pp_ok (by omega)).mpr (by omega)), hf1, pp_b, nI_clamp (by omega), pp_g4 (by omega), pp_g4 (by omega), hl, hpr]
    show (if nI (pv_nl A nr (pv_W A - (m + 1))) = 0 then _ else _) = _
    by_cases hz : pv_nl A nr (pv_W A - (m + 1)) = 0
    · rw [if_pos (by rw [hz]; rfl)]
      rw [hz] at i2
      exact i2.trans (Eq.trans (by unfold pv_dw; rw [hz]) i3)
    · rw [if_neg (nI_ne0 (by omega) (by omega))]
      have h1 : pv_nl A nr (pv_W A - (m + 1)) = 1 := by omega
      rw [h1] at i2
      exact i2.trans (Eq.trans (by unfold pv_dw; rw [h1]) i3)
theorem pp_m97 {y : MS} : ∀ m fuel d, m ≤ 7 → m < fuel → f_X15_digest_97 fuel d 7 (nI (7 - m)) y = f_X15_digest_130 g_fuel (pp_fo (y 165) 7 m d) 0 y := by
  intro m
  induction m with
  | zero =>
    intro fuel d hm hfu
    obtain ⟨fu, rfl⟩ : ∃ fu, fuel = fu + 1 := ⟨fuel - 1, by omega⟩
    rw [f_X15_digest_97, if_pos (by decide)]
    rfl
  | succ m ih =>
    intro fuel d hm hfu
    obtain ⟨fu, rfl⟩ : ∃ fu, fuel = fu + 1 := ⟨fuel - 1, by omega⟩
    rw [pp_foS, f_X15_digest_97, if_neg (show ¬ (7 : Int32) ≤ nI (7 - (m + 1)) from nI_ge (b := 7) (by omega) (by omega)), if_pos ((pp_ok (by omega)).mpr (by omega)), nI_clamp (by omega), nI_1, show 7 - (m + 1) + 1 = 7 - m by omega]
    exact ih fu _ (by omega) (by omega)
set_option maxRecDepth 100000 in
theorem pp_dgM {y : MS} {kn : Int32} (hk : ∀ f, f_X15_kept 152 (g_ma y 165 f) = some kn) : f_X15_digest y = (f_X15_meant 152 (-1) (g_ma y 165 (upd (upd (upd (upd (upd (upd (fun _ => 0) 0 (y 127 2)) 1 kn) 2 (y 127 5)) 3 (y 152 3)) 4 (y 152 4)) 5 (y 153 8)))).bind fun q9 => f_X15_digest_97 g_fuel 1019 7 0 (g_mi q9.2 165 6 q9.1) := by
  have i0 : (0 : Int32).toNatClampNeg = 0 := by decide
  have i1 : (1 : Int32).toNatClampNeg = 1 := by decide
  have i2 : (2 : Int32).toNatClampNeg = 2 := by decide
  have i3 : (3 : Int32).toNatClampNeg = 3 := by decide
  have i4 : (4 : Int32).toNatClampNeg = 4 := by decide
  have i5 : (5 : Int32).toNatClampNeg = 5 := by decide
  have i6 : (6 : Int32).toNatClampNeg = 6 := by decide
  have i8 : (8 : Int32).toNatClampNeg = 8 := by decide
  have e127 : ∀ f, (g_ma y 165 f) 127 = y 127 := fun f => pp_g4 (by omega)
  have e152 : ∀ f, (g_ma y 165 f) 152 = y 152 := fun f => pp_g4 (by omega)
  have e153 : ∀ f, (g_ma y 165 f) 153 = y 153 := fun f => pp_g4 (by omega)
  have g0 : g_ok (0 : Int32) 7 = true := by decide
  have g1 : g_ok (1 : Int32) 7 = true := by decide
  have g2 : g_ok (2 : Int32) 7 = true := by decide
  have g3 : g_ok (3 : Int32) 7 = true := by decide
  have g4 : g_ok (4 : Int32) 7 = true := by decide
  have g5 : g_ok (5 : Int32) 7 = true := by decide
  have g6 : g_ok (6 : Int32) 7 = true := by decide
  have g8 : g_ok (8 : Int32) 10 = true := by decide
  have w165 : ∀ f k u, g_mi (g_ma y 165 f) 165 k u = g_ma y 165 (upd f k u) := fun f k u => by rw [pp_g1, pp_g2, pp_g3]
  unfold f_X15_digest
  simp only [i0, i1, i2, i3, i4, i5, i6, i8, g0, g1, g2, g3, g4, g5, g6, g8, if_true, w165, e127, e152, e153, hk, pp_b]
def pp_O3 (fc : Option (Int64 × CS)) (fm : Option (Int64 × MS)) : Prop := ∃ r x' y', fc = some (r, x') ∧ fm = some (r, y') ∧ pp_R x' y'
theorem pp_o36 {x : CS} {y : MS} (h : pp_R x y) : pp_O3 (f_X12_digest x) (f_X15_digest y) := by
  have h0 := h
  obtain ⟨A, b, v, R, Z, nr, T, hA, hT, hC, hM, h3, h4, hB⟩ := h
  have hW := hA.1
  have hv := hC.1
  have hg : y 127 0 = nI (pv_g A) := hM.2.2.1
  have hg20 := hA.2.2.2
  have hb := hB.1
  have hbg := hB.2.2.2.2.2.1
  obtain ⟨k1, k2, k3, k4, k5, k6, k7⟩ := hT
  have hM5 : ∀ f, pp_VM A (g_ma y 165 f) 152 := fun f => hM.f (by omega) (by omega) (by omega) (by omega)
  have hdm := pp_dgM (y := y) (kn := nI (pp_kn (pv_pr A) (pv_W A))) (fun f => pp_keptM hA (hM5 f))
  obtain ⟨f1, hf1⟩ := pp_meantM (but := none) hA (hM5 (upd (upd (upd (upd (upd (upd (fun _ => 0) 0 (y 127 2)) 1 (nI (pp_kn (pv_pr A) (pv_W A)))) 2 (y 127 5)) 3 (y 152 3)) 4 (y 152 4)) 5 (y 153 8))) (fun b q => by cases q)
  rw [show pp_en none = -1 from rfl] at hf1
  rw [hf1, pp_b] at hdm
  obtain ⟨Y, hY⟩ : ∃ Y, Y = g_ma y 165 (upd (upd (upd (upd (upd (upd (upd (fun _ => 0) 0 (y 127 2)) 1 (nI (pp_kn (pv_pr A) (pv_W A)))) 2 (y 127 5)) 3 (y 152 3)) 4 (y 152 4)) 5 (y 153 8)) 6 (pp_en (pv_mt A none))) := ⟨_, rfl⟩
  have eY : g_mi (g_ma (g_ma y 165 (upd (upd (upd (upd (upd (upd (fun _ => 0) 0 (y 127 2)) 1 (nI (pp_kn (pv_pr A) (pv_W A)))) 2 (y 127 5)) 3 (y 152 3)) 4 (y 152 4)) 5 (y 153 8))) 160 f1) 165 6 (pp_en (pv_mt A none)) = g_ma Y 160 f1 := by
    rw [hY, pp_g1, pp_g4 (by omega), pp_g3]
    funext i
    unfold g_ma
    by_cases h1 : i = 165
    · subst h1; simp
    · by_cases h2 : i = 160 <;> simp [h1, h2]
  have hMY : pp_VM A Y 152 := by rw [hY]; exact hM5 _
  have hdm2 : f_X15_digest y = f_X15_digest_97 g_fuel 1019 7 0 (g_ma Y 160 f1) := by
    rw [hdm]
    show f_X15_digest_97 g_fuel 1019 7 0 (g_mi _ 165 6 (pp_en (pv_mt A none))) = _
    rw [eY]
  have h97 := pp_m97 (y := g_ma Y 160 f1) 7 g_fuel 1019 (by omega) (by decide)
  obtain ⟨f2, h130⟩ := pp_m130 (nr := nr) hA hMY (by rw [hY, pp_g4 (by omega)]; exact k6) k4 (pv_W A) g_fuel (pp_fo ((g_ma Y 160 f1) 165) 7 7 1019) f1 (Nat.le_refl _) (by unfold g_fuel; omega)
  rw [Nat.sub_self] at h130
  obtain ⟨g1, hc⟩ := pp_d115 (nr := nr) hA hC hb k1 k2 hbg k5 k4 (pv_W A) g_fuel (pp_fo ((g_ma Y 160 f1) 165) 7 7 1019) (x.1 9) (Nat.le_refl _) (by unfold g_fuel; omega)
  rw [Nat.sub_self, pp_wae] at hc
  refine ⟨_, g_wa x 9 g1, _, ?_, (hdm2.trans h97).trans h130, ?_⟩
  · unfold f_X12_digest
    rw [k2, if_pos (pp_k9 hv), pp_keptC hA hC, pp_b, k1, if_pos (pp_k7 hb), pp_meantC hA hC, pp_b, hC.2.1, hB.2.2.2.1, h3, h4, hC.2.2.2.1]
    have e165 : (g_ma Y 160 f1) 165 = upd (upd (upd (upd (upd (upd (upd (fun _ => 0) 0 (y 127 2)) 1 (nI (pp_kn (pv_pr A) (pv_W A)))) 2 (y 127 5)) 3 (y 152 3)) 4 (y 152 4)) 5 (y 153 8)) 6 (pp_en (pv_mt A none)) := by rw [pp_g4 (by omega), hY, pp_g3]
    have e53 : y 153 8 = nI (pv_hl A) := hM.2.2.2.2.1
    have efo : pp_fo ((g_ma Y 160 f1) 165) 7 7 1019 = (((((((((((((((1019 : Int64) * (31 : Int64)) + ((nI (pv_W A)).toInt64)) * (31 : Int64)) + (nI (pp_kn (pv_pr A) (pv_W A))).toInt64) * (31 : Int64)) + ((nI R).toInt64)) * (31 : Int64)) + ((y 152 3).toInt64)) * (31 : Int64)) + ((y 152 4).toInt64)) * (31 : Int64)) + ((nI (pv_hl A)).toInt64)) * (31 : Int64)) + (pp_en (pv_mt A none)).toInt64) := by
      rw [e165, e53, hM.2.1, hB.2.2.2.2.1]
      rfl
    rw [← efo]
    exact hc
  · refine pp_R.th ?_
    refine h0.sc ((pp_Sc.rf x).wa (by omega) (by omega) (by omega) (by omega)) ?_ (fun i _ _ => ?_)
    · rw [hY]; exact ((pp_Gm.rf y).ma (by omega)).ma (by omega)
    · rw [pp_g4 (by omega), hY, pp_g4 (by omega)]
