/-! one token, by both -/
def pp_tk (x : CS) (k s : Nat) (p z v : Int32) : CS := g_wi (g_wi (g_wi (g_wi (g_wr x 4 k s) 5 k p) 6 k z) 7 k v) 3 5 (nI (k + 1))
theorem pp_add {x : CS} {k s : Nat} {p z v : Int32} (hk : x.1 3 5 = nI k) (hk4 : k < 401) (hs : s < 46) : f_X8_add s p z v x = some (pp_tk x k s p z v) := by
  have hok := (pp_ok (k := k) (n := 401) (by omega)).mpr hk4
  have hn : ¬ (401 : Int32) ≤ nI k := nI_ge (b := 401) hk4 (by omega)
  have e1 : (g_wr x 4 k s).1 3 5 = nI k := hk
  have e2 : (g_wi (g_wr x 4 k s) 5 k p).1 3 5 = nI k := by rw [pp_c1, pp_c4 (by omega)]; exact hk
  have e3 : (g_wi (g_wi (g_wr x 4 k s) 5 k p) 6 k z).1 3 5 = nI k := by rw [pp_c1, pp_c4 (by omega)]; exact e2
  have e4 : (g_wi (g_wi (g_wi (g_wr x 4 k s) 5 k p) 6 k z) 7 k v).1 3 5 = nI k := by rw [pp_c1, pp_c4 (by omega)]; exact e3
  unfold f_X8_add
  rw [hk, if_neg (nI_pos (by omega)), if_neg hn, if_neg hn, if_neg hn, if_neg hn, if_pos hok, if_pos hs, nI_clamp (by omega), e1, if_pos hok, nI_clamp (by omega), e2, if_pos hok, nI_clamp (by omega), e3, if_pos hok, nI_clamp (by omega), e4, nI_1]
  rfl
theorem pp_tk1 {x : CS} {k s : Nat} {p z v : Int32} : (∀ i, i ≠ 3 → i ≠ 5 → i ≠ 6 → i ≠ 7 → (pp_tk x k s p z v).1 i = x.1 i) ∧ (pp_tk x k s p z v).1 3 = upd (x.1 3) 5 (nI (k + 1)) ∧ (pp_tk x k s p z v).1 5 = upd (x.1 5) k p ∧ (pp_tk x k s p z v).1 6 = upd (x.1 6) k z ∧ (pp_tk x k s p z v).1 7 = upd (x.1 7) k v ∧ (pp_tk x k s p z v).2 4 = va_up (x.2 4) k s ∧ ∀ i, i ≠ 4 → (pp_tk x k s p z v).2 i = x.2 i := by
  refine ⟨fun i h1 h2 h3 h4 => ?_, ?_, ?_, ?_, ?_, ?_, fun i h1 => ?_⟩
  · simp [pp_tk, g_wi, g_wr, h1, h2, h3, h4]
  · simp [pp_tk, g_wi, g_wr]
  · simp [pp_tk, g_wi, g_wr]
  · simp [pp_tk, g_wi, g_wr]
  · simp [pp_tk, g_wi, g_wr]
  · simp [pp_tk, g_wi, g_wr]
  · simp [pp_tk, g_wi, g_wr, h1]
/-- the token of number i stands in both -/
def pp_eqt (x : CS) (t : Nat → Nat) (i j : Nat) : Prop := x.1 6 i = x.1 6 j ∧ ∀ c, c < (x.1 6 i).toNatClampNeg → t ((x.1 5 i).toNatClampNeg + c) = t ((x.1 5 j).toNatClampNeg + c)
theorem pp_eqt.k {x : CS} {t : Nat → Nat} {k s i j : Nat} {p z v : Int32} (hi : i ≠ k) (hj : j ≠ k) : pp_eqt (pp_tk x k s p z v) t i j ↔ pp_eqt x t i j := by
  obtain ⟨k1, k2, k3, k4, k5, k6, k7⟩ := pp_tk1 (x := x) (k := k) (s := s) (p := p) (z := z) (v := v)
  unfold pp_eqt
  rw [k3, k4, pp_u2 hi, pp_u2 hj, pp_u2 hi, pp_u2 hj]
theorem pp_alk {x : CS} {t : Nat → Nat} {T a b s : Nat} (h : pp_CT x t T) (ha : a + s ≤ T) (hb : b + s ≤ T) : ∀ d fuel c, d = s - c → d < fuel → c ≤ s → ∃ r : Bool, f_X7_alike_3 x fuel (nI a) (nI b) (nI s) (nI c) = some (pp_i r) ∧ (r = true ↔ ∀ e, c ≤ e → e < s → t (a + e) = t (b + e)) := by
  have hT := h.2.1
  intro d
  induction d with
  | zero =>
    intro fuel c hd hfu hc
    obtain ⟨fu, rfl⟩ : ∃ fu, fuel = fu + 1 := ⟨fuel - 1, by omega⟩
    exact ⟨true, by rw [f_X7_alike_3, if_pos (nI_le (by omega) (by omega))]; rfl, ⟨fun _ e h1 h2 => by omega, fun _ => rfl⟩⟩
  | succ d ih =>
    intro fuel c hd hfu hc
    obtain ⟨fu, rfl⟩ : ∃ fu, fuel = fu + 1 := ⟨fuel - 1, by omega⟩
    obtain ⟨r, i1, i2⟩ := ih fu (c + 1) (by omega) (by omega) (by omega)
    have b1 := h.2.2.1 (a + c) (by omega)
    have b2 := h.2.2.1 (b + c) (by omega)
    rw [f_X7_alike_3, if_neg (nI_ge (by omega) (by omega)), nI_add, nI_add, pp_bC h (by omega), pp_b, pp_bC h (by omega), pp_b, nI_1]
    unfold pp_B
    rw [if_pos (show a + c < T by omega), if_pos (show b + c < T by omega)]
    by_cases e : t (a + c) = t (b + c)
    · rw [if_pos (by rw [e])]
      refine ⟨r, i1, i2.trans ⟨fun q f h1 h2 => ?_, fun q f h1 h2 => q f (by omega) h2⟩⟩
      rcases Nat.lt_or_ge c f with h3 | h3
      · exact q f (by omega) h2
      · have e2 : f = c := by omega
        rw [e2]; exact e
    · rw [if_neg (by rw [nI_eq (by omega) (by omega)]; exact e)]
      exact ⟨false, rfl, ⟨fun q => (by cases q), fun q => absurd (q c (Nat.le_refl _) (by omega)) e⟩⟩
theorem pp_if1 {b : Bool} {A : Type} {u w : A} : (if pp_i b = 0 then u else w) = if b = true then w else u := by cases b <;> rfl
theorem pp_rwC {x : CS} {t : Nat → Nat} {T p : Nat} (h : pp_CT x t T) : ∀ d fuel q, d = T - q → q ≤ T → d < fuel → f_X8_readWord_2 fuel (nI p) (nI q) x = f_X8_readWord_41 (nI p) (nI (pp_scn (pp_ld t T) d q)) x := by
  have hT := h.2.1
  intro d
  induction d with
  | zero =>
    intro fuel q hd hq hfu
    obtain ⟨fu, rfl⟩ : ∃ fu, fuel = fu + 1 := ⟨fuel - 1, by omega⟩
    rw [f_X8_readWord_2, h.1, if_pos (nI_le (by omega) (by omega))]
    rfl
  | succ d ih =>
    intro fuel q hd hq hfu
    obtain ⟨fu, rfl⟩ : ∃ fu, fuel = fu + 1 := ⟨fuel - 1, by omega⟩
    have i := ih fu (q + 1) (by omega) (by omega) (by omega)
    rw [pp_scnS, f_X8_readWord_2, h.1, if_neg (nI_ge (by omega) (by omega)), pp_ltC h (by omega), pp_b, pp_if1, pp_dgC h (by omega), pp_b, pp_if1, nI_1]
    unfold pp_ld
    cases h1 : pp_lt t T q with
    | true => exact i
    | false =>
      cases h2 : pp_dg t T q with
      | true => exact i
      | false => rfl
/-! numbers and symbols; the whole tape -/
def pp_nv (t : Nat → Nat) (p : Nat) : Nat → Int32
  | 0 => 0
  | j + 1 => (pp_nv t p j * (10 : Int32) + nI (t (p + j))) - (48 : Int32)
theorem pp_nvS (t : Nat → Nat) (p j : Nat) : pp_nv t p (j + 1) = (pp_nv t p j * (10 : Int32) + nI (t (p + j))) - (48 : Int32) := rfl
theorem pp_rnC {x : CS} {t : Nat → Nat} {T p : Nat} (h : pp_CT x t T) : ∀ d fuel j, d = T - (p + j) → p + j ≤ T → d < fuel → f_X8_readNumber_4 fuel (nI p) (nI (p + j)) (pp_nv t p j) x = f_X8_readNumber_49 (nI p) (nI (pp_scn (pp_dg t T) d (p + j))) (pp_nv t p (pp_scn (pp_dg t T) d (p + j) - p)) x := by
  have hT := h.2.1
  intro d
  induction d with
  | zero =>
    intro fuel j hd hq hfu
    obtain ⟨fu, rfl⟩ : ∃ fu, fuel = fu + 1 := ⟨fuel - 1, by omega⟩
    rw [f_X8_readNumber_4, h.1, if_pos (nI_le (by omega) (by omega))]
    show _ = f_X8_readNumber_49 (nI p) (nI (p + j)) (pp_nv t p (p + j - p)) x
    rw [show p + j - p = j by omega]
  | succ d ih =>
    intro fuel j hd hq hfu
    obtain ⟨fu, rfl⟩ : ∃ fu, fuel = fu + 1 := ⟨fuel - 1, by omega⟩
    have i := ih fu (j + 1) (by omega) (by omega) (by omega)
    have hlt : p + j < T := by omega
    rw [pp_scnS, f_X8_readNumber_4, h.1, if_neg (nI_ge hlt (by omega)), pp_dgC h (by omega), pp_b, pp_if1, pp_bC h (by omega), pp_b, nI_1]
    cases h2 : pp_dg t T (p + j) with
    | true =>
      rw [if_pos rfl, if_pos rfl]
      have hB : pp_B t T (p + j) = nI (t (p + j)) := by unfold pp_B; rw [if_pos hlt]
      rw [hB]
      exact i
    | false =>
      show f_X8_readNumber_49 (nI p) (nI (p + j)) (pp_nv t p j) x = f_X8_readNumber_49 (nI p) (nI (p + j)) (pp_nv t p (p + j - p)) x
      rw [show p + j - p = j by omega]
/-! all tokens of the tape -/
def pp_Fx (x x1 : CS) : Prop := (∀ i, i ≠ 3 → i ≠ 5 → i ≠ 6 → i ≠ 7 → x1.1 i = x.1 i) ∧ ∀ i, i ≠ 4 → x1.2 i = x.2 i
theorem pp_Fx.tr {x y z : CS} (h : pp_Fx x y) (k : pp_Fx y z) : pp_Fx x z := ⟨fun i h1 h2 h3 h4 => (k.1 i h1 h2 h3 h4).trans (h.1 i h1 h2 h3 h4), fun i h1 => (k.2 i h1).trans (h.2 i h1)⟩
theorem pp_tkF {x : CS} {k s : Nat} {p z v : Int32} : pp_Fx x (pp_tk x k s p z v) := ⟨fun i h1 h2 h3 h4 => (pp_tk1.1 i h1 h2 h3 h4), fun i h1 => pp_tk1.2.2.2.2.2.2 i h1⟩
theorem pp_CT.x {x x1 : CS} {t : Nat → Nat} {T : Nat} (h : pp_CT x t T) (hF : pp_Fx x x1) : pp_CT x1 t T := ⟨by rw [hF.1 1 (by omega) (by omega) (by omega) (by omega)]; exact h.1, h.2.1, h.2.2.1, fun p hp => by rw [hF.1 2 (by omega) (by omega) (by omega) (by omega)]; exact h.2.2.2 p hp⟩
theorem pp_sgn {x : CS} {k : Nat} (hk : k < 401) : f_X8_sign (nI k) x = some (x.2 4 k) := by
  unfold f_X8_sign
  rw [if_neg (nI_pos (by omega)), if_neg (show ¬ (401 : Int32) ≤ nI k from nI_ge (b := 401) hk (by omega)), if_pos ((pp_ok (by omega)).mpr hk), nI_clamp (by omega)]
theorem pp_siz {x : CS} {k : Nat} (hk : k < 401) : f_X8_size (nI k) x = some (x.1 6 k) := by
  unfold f_X8_size
  rw [if_neg (nI_pos (by omega)), if_neg (show ¬ (401 : Int32) ≤ nI k from nI_ge (b := 401) hk (by omega)), if_pos ((pp_ok (by omega)).mpr hk), nI_clamp (by omega)]
