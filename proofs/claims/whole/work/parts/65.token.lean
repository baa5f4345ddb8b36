/-! one token, by both -/
def pp_tk (x : CS) (k s : Nat) (p z v : Int32) : CS := g_wi (g_wi (g_wi (g_wi (g_wr x 4 k s) 5 k p) 6 k z) 7 k v) 3 5 (nI (k + 1))
theorem pp_add {x : CS} {k s : Nat} {p z v : Int32} (hk : x.1 3 5 = nI k) (hk4 : k < 401) (hs : s < 46) : f_X8_add s p z v x = some (pp_tk x k s p z v) := by
  have hok := (pp_ok (k := k) (n := 401) (by omega)).mpr hk4
  have hn : ¬ (401 : Int32) ≤ nI k := nI_ge (b := 401) hk4 (by omega)
  have e1 : (g_wr x 4 k s).1 3 5 = nI k := hk
  have e2 : (g_wi (g_wr x 4 k s) 5 k p).1 3 5 = nI k := by rw [pp_c1, pp_c4 (by omega)]; exact hk
  have e3 : (g_wi (g_wi (g_wr x 4 k s) 5 k p) 6 k z).1 3 5 = nI k := by rw [pp_c1, pp_c4 (by omega)]; exact e2
  have e4 : (g_wi (g_wi (g_wi (g_wr x 4 k s) 5 k p) 6 k z) 7 k v).1 3 5 = nI k := by rw [pp_c1, pp_c4 (by omega)]; exact e3
  unfold f_X8_add
  rw [hk, if_neg (nI_pos (by omega)), if_neg hn, if_neg hn, if_neg hn, if_neg hn, if_pos hok, if_pos hs, nI_clamp (by omega), e1, if_pos hok, nI_clamp (by omega), e2, if_pos hok, nI_clamp (by omega), e3, if_pos hok, nI_clamp (by omega), e4, nI_1]
  rfl
theorem pp_tk1 {x : CS} {k s : Nat} {p z v : Int32} : (∀ i, i ≠ 3 → i ≠ 5 → i ≠ 6 → i ≠ 7 → (pp_tk x k s p z v).1 i = x.1 i) ∧ (pp_tk x k s p z v).1 3 = upd (x.1 3) 5 (nI (k + 1)) ∧ (pp_tk x k s p z v).1 5 = upd (x.1 5) k p ∧ (pp_tk x k s p z v).1 6 = upd (x.1 6) k z ∧ (pp_tk x k s p z v).1 7 = upd (x.1 7) k v ∧ (pp_tk x k s p z v).2 4 = va_up (x.2 4) k s ∧ ∀ i, i ≠ 4 → (pp_tk x k s p z v).2 i = x.2 i := by
  refine ⟨fun i h1 h2 h3 h4 => ?_, ?_, ?_, ?_, ?_, ?_, fun i h1 => ?_⟩
  · simp [pp_tk, g_wi, g_wr, h1, h2, h3, h4]
  · simp [pp_tk, g_wi, g_wr]
  · simp [pp_tk, g_wi, g_wr]
  · simp [pp_tk, g_wi, g_wr]
  · simp [pp_tk, g_wi, g_wr]
  · simp [pp_tk, g_wi, g_wr]
  · simp [pp_tk, g_wi, g_wr, h1]
def pp_Yk (k : Nat) (y y1 : MS) : Prop := (∀ i, (i < 122 ∨ 125 < i) → y1 i = y i) ∧ ∀ i j, j ≠ k → y1 i j = y i j
theorem pp_Yk.rf (k : Nat) (y : MS) : pp_Yk k y y := ⟨fun _ _ => rfl, fun _ _ _ => rfl⟩
theorem pp_Yk.mi {k i : Nat} {y y1 : MS} {v : Int32} (h : pp_Yk k y y1) (hi : 122 ≤ i ∧ i ≤ 125) : pp_Yk k y (g_mi y1 i k v) := by
  refine ⟨fun j hj => ?_, fun a j hj => ?_⟩
  · rw [pp_g1, pp_g4 (by omega)]; exact h.1 j hj
  · rw [pp_g1]
    by_cases e : a = i
    · rw [e, pp_g3, pp_u2 hj]; exact h.2 i j hj
    · rw [pp_g4 e]; exact h.2 a j hj
theorem pp_MT.k {y y1 : MS} {t : Nat → Nat} {T k : Nat} (h : pp_MT y t T) (hk : pp_Yk k y y1) : pp_MT y1 t T := ⟨by rw [hk.1 120 (by omega)]; exact h.1, h.2.1, h.2.2.1, fun p hp => by rw [hk.1 121 (by omega)]; exact h.2.2.2 p hp⟩
/-- the token of number i stands in both -/
def pp_eqt (x : CS) (t : Nat → Nat) (i j : Nat) : Prop := x.1 6 i = x.1 6 j ∧ ∀ c, c < (x.1 6 i).toNatClampNeg → t ((x.1 5 i).toNatClampNeg + c) = t ((x.1 5 j).toNatClampNeg + c)
def pp_TK (x : CS) (y : MS) (t : Nat → Nat) (T i : Nat) : Prop := ∃ p z, x.1 5 i = nI p ∧ y 124 i = nI p ∧ x.1 6 i = nI z ∧ y 125 i = nI z ∧ p + z ≤ T ∧ x.2 4 i < 43 ∧ y 122 i = nI (pp_tr (x.2 4 i)) ∧ (x.2 4 i = 42 → y 123 i = x.1 7 i) ∧ (x.2 4 i = 41 → ∃ f, f ≤ i ∧ x.1 7 i = nI f ∧ x.2 4 f = 41 ∧ pp_eqt x t f i ∧ ∀ j, j < f → x.2 4 j = 41 → ¬ pp_eqt x t j i)
theorem pp_eqt.k {x : CS} {t : Nat → Nat} {k s i j : Nat} {p z v : Int32} (hi : i ≠ k) (hj : j ≠ k) : pp_eqt (pp_tk x k s p z v) t i j ↔ pp_eqt x t i j := by
  obtain ⟨k1, k2, k3, k4, k5, k6, k7⟩ := pp_tk1 (x := x) (k := k) (s := s) (p := p) (z := z) (v := v)
  unfold pp_eqt
  rw [k3, k4, pp_u2 hi, pp_u2 hj, pp_u2 hi, pp_u2 hj]
theorem pp_TK.k {x : CS} {y y1 : MS} {t : Nat → Nat} {T k s i : Nat} {p z v : Int32} (h : pp_TK x y t T i) (hi : i < k) (hY : pp_Yk k y y1) : pp_TK (pp_tk x k s p z v) y1 t T i := by
  obtain ⟨a, b, h1, h2, h3, h4, h5, h6, h7, h8, h9⟩ := h
  obtain ⟨k1, k2, k3, k4, k5, k6, k7⟩ := pp_tk1 (x := x) (k := k) (s := s) (p := p) (z := z) (v := v)
  have hne : i ≠ k := by omega
  have hup : ∀ j, j ≠ k → (pp_tk x k s p z v).2 4 j = x.2 4 j := fun j hj => by rw [k6]; unfold va_up; rw [if_neg hj]
  refine ⟨a, b, by rw [k3, pp_u2 hne]; exact h1, by rw [hY.2 _ _ hne]; exact h2, by rw [k4, pp_u2 hne]; exact h3, by rw [hY.2 _ _ hne]; exact h4, h5, by rw [hup i hne]; exact h6, by rw [hY.2 _ _ hne, hup i hne]; exact h7, fun q => ?_, fun q => ?_⟩
  · rw [hup i hne] at q
    rw [hY.2 _ _ hne, k5, pp_u2 hne]; exact h8 q
  · rw [hup i hne] at q
    obtain ⟨f, f1, f2, f3, f4, f5⟩ := h9 q
    refine ⟨f, f1, by rw [k5, pp_u2 hne]; exact f2, by rw [hup f (by omega)]; exact f3, (pp_eqt.k (by omega) hne).mpr f4, fun j hj q2 q3 => ?_⟩
    rw [hup j (by omega)] at q2
    exact f5 j hj q2 ((pp_eqt.k (by omega) hne).mp q3)
/-- what a token is, once read: sign, size, the place behind it -/
def pp_RT (x : CS) (y : MS) (t : Nat → Nat) (T k p : Nat) : Prop := ∃ s z v e y1, (k < 400 → f_X8_readToken (nI p) x = some (pp_tk x k s (nI p) (nI z) v)) ∧ f_X15_read (nI p) (nI k) y = some (nI e, y1) ∧ s < 46 ∧ s ≠ 43 ∧ s ≠ 44 ∧ p < e ∧ e ≤ T ∧ pp_Yk k y y1 ∧ y1 122 k = nI (pp_tr s) ∧ y1 124 k = nI p ∧ (s ≠ 45 → e = p + z ∧ pp_TK (pp_tk x k s (nI p) (nI z) v) y1 t T k)
theorem pp_TK.new {x : CS} {y1 : MS} {t : Nat → Nat} {T k s p z : Nat} {v : Int32} (hT : T ≤ 2000) (h1 : y1 124 k = nI p) (h2 : y1 125 k = nI z) (h3 : p + z ≤ T) (h4 : s < 43) (h5 : y1 122 k = nI (pp_tr s)) (h6 : s = 42 → y1 123 k = v) (h7 : s = 41 → ∃ f, f ≤ k ∧ v = nI f ∧ (f ≠ k → x.2 4 f = 41 ∧ x.1 6 f = nI z ∧ ∀ c, c < z → t ((x.1 5 f).toNatClampNeg + c) = t (p + c)) ∧ ∀ j, j < f → x.2 4 j = 41 → ¬ (x.1 6 j = nI z ∧ ∀ c, c < z → t ((x.1 5 j).toNatClampNeg + c) = t (p + c))) : pp_TK (pp_tk x k s (nI p) (nI z) v) y1 t T k := by
  obtain ⟨k1, k2, k3, k4, k5, k6, k7⟩ := pp_tk1 (x := x) (k := k) (s := s) (p := nI p) (z := nI z) (v := v)
  have hup : ∀ j, j ≠ k → (pp_tk x k s (nI p) (nI z) v).2 4 j = x.2 4 j := fun j hj => by rw [k6]; unfold va_up; rw [if_neg hj]
  have hupk : (pp_tk x k s (nI p) (nI z) v).2 4 k = s := by rw [k6]; unfold va_up; rw [if_pos rfl]
  have hcp : (nI p).toNatClampNeg = p := nI_clamp (by omega)
  have hcz : (nI z).toNatClampNeg = z := nI_clamp (by omega)
  have heq : ∀ j, j ≠ k → (pp_eqt (pp_tk x k s (nI p) (nI z) v) t j k ↔ (x.1 6 j = nI z ∧ ∀ c, c < z → t ((x.1 5 j).toNatClampNeg + c) = t (p + c))) := fun j hj => by
    unfold pp_eqt
    rw [k3, k4, pp_u2 hj, pp_u2 hj, pp_u1, pp_u1, hcp]
    constructor
    · intro q
      refine ⟨q.1, fun c hc => q.2 c ?_⟩
      rw [q.1, hcz]; exact hc
    · intro q
      refine ⟨q.1, fun c hc => q.2 c ?_⟩
      rw [q.1, hcz] at hc; exact hc
  refine ⟨p, z, by rw [k3, pp_u1], h1, by rw [k4, pp_u1], h2, h3, by rw [hupk]; exact h4, by rw [hupk]; exact h5, fun q => ?_, fun q => ?_⟩
  · rw [hupk] at q
    rw [k5, pp_u1]; exact h6 q
  · rw [hupk] at q
    obtain ⟨f, f1, f2, f3, f4⟩ := h7 q
    refine ⟨f, f1, by rw [k5, pp_u1]; exact f2, ?_, ?_, fun j hj q2 q3 => ?_⟩
    · by_cases e : f = k
      · rw [e, hupk]; exact q
      · rw [hup f e]; exact (f3 e).1
    · by_cases e : f = k
      · rw [e]; exact ⟨rfl, fun _ _ => rfl⟩
      · exact (heq f e).mpr (f3 e).2
    · rw [hup j (by omega)] at q2
      exact f4 j hj q2 ((heq j (by omega)).mp q3)
theorem pp_alk {x : CS} {t : Nat → Nat} {T a b s : Nat} (h : pp_CT x t T) (ha : a + s ≤ T) (hb : b + s ≤ T) : ∀ d fuel c, d = s - c → d < fuel → c ≤ s → ∃ r : Bool, f_X7_alike_3 x fuel (nI a) (nI b) (nI s) (nI c) = some (pp_i r) ∧ (r = true ↔ ∀ e, c ≤ e → e < s → t (a + e) = t (b + e)) := by
  have hT := h.2.1
  intro d
  induction d with
  | zero =>
    intro fuel c hd hfu hc
    obtain ⟨fu, rfl⟩ : ∃ fu, fuel = fu + 1 := ⟨fuel - 1, by omega⟩
    exact ⟨true, by rw [f_X7_alike_3, if_pos (nI_le (by omega) (by omega))]; rfl, ⟨fun _ e h1 h2 => by omega, fun _ => rfl⟩⟩
  | succ d ih =>
    intro fuel c hd hfu hc
    obtain ⟨fu, rfl⟩ : ∃ fu, fuel = fu + 1 := ⟨fuel - 1, by omega⟩
    obtain ⟨r, i1, i2⟩ := ih fu (c + 1) (by omega) (by omega) (by omega)
    have b1 := h.2.2.1 (a + c) (by omega)
    have b2 := h.2.2.1 (b + c) (by omega)
    rw [f_X7_alike_3, if_neg (nI_ge (by omega) (by omega)), nI_add, nI_add, pp_bC h (by omega), pp_b, pp_bC h (by omega), pp_b, nI_1]
    unfold pp_B
    rw [if_pos (show a + c < T by omega), if_pos (show b + c < T by omega)]
    by_cases e : t (a + c) = t (b + c)
    · rw [if_pos (by rw [e])]
      refine ⟨r, i1, i2.trans ⟨fun q f h1 h2 => ?_, fun q f h1 h2 => q f (by omega) h2⟩⟩
      rcases Nat.lt_or_ge c f with h3 | h3
      · exact q f (by omega) h2
      · have e2 : f = c := by omega
        rw [e2]; exact e
    · rw [if_neg (by rw [nI_eq (by omega) (by omega)]; exact e)]
      exact ⟨false, rfl, ⟨fun q => (by cases q), fun q => absurd (q c (Nat.le_refl _) (by omega)) e⟩⟩
theorem pp_fal {x : CS} {y : MS} {t : Nat → Nat} {T p s k : Nat} (h : pp_CT x t T) (hk : x.1 3 5 = nI k) (hk4 : k ≤ 400) (hp : p + s ≤ T) (hK : ∀ i, i < k → pp_TK x y t T i) : ∀ d fuel j, d = k - j → d < fuel → j ≤ k → (∀ i, i < j → x.2 4 i = 41 → ¬ (x.1 6 i = nI s ∧ ∀ c, c < s → t ((x.1 5 i).toNatClampNeg + c) = t (p + c))) → ∃ f, f ≤ k ∧ f_X8_firstAlike_2 x fuel (nI p) (nI s) (nI j) = some (nI f) ∧ (f ≠ k → x.2 4 f = 41 ∧ x.1 6 f = nI s ∧ ∀ c, c < s → t ((x.1 5 f).toNatClampNeg + c) = t (p + c)) ∧ ∀ i, i < f → x.2 4 i = 41 → ¬ (x.1 6 i = nI s ∧ ∀ c, c < s → t ((x.1 5 i).toNatClampNeg + c) = t (p + c)) := by
  have hT := h.2.1
  intro d
  induction d with
  | zero =>
    intro fuel j hd hfu hj hN
    obtain ⟨fu, rfl⟩ : ∃ fu, fuel = fu + 1 := ⟨fuel - 1, by omega⟩
    have e : j = k := by omega
    subst e
    exact ⟨j, Nat.le_refl _, by rw [f_X8_firstAlike_2, hk, if_pos (nI_le (Nat.le_refl _) (by omega))], fun q => absurd rfl q, hN⟩
  | succ d ih =>
    intro fuel j hd hfu hj hN
    obtain ⟨fu, rfl⟩ : ∃ fu, fuel = fu + 1 := ⟨fuel - 1, by omega⟩
    have hjk : j < k := by omega
    have hgo : (x.2 4 j = 41 → ¬ (x.1 6 j = nI s ∧ ∀ c, c < s → t ((x.1 5 j).toNatClampNeg + c) = t (p + c))) → ∃ f, f ≤ k ∧ f_X8_firstAlike_2 x fu (nI p) (nI s) (nI (j + 1)) = some (nI f) ∧ (f ≠ k → x.2 4 f = 41 ∧ x.1 6 f = nI s ∧ ∀ c, c < s → t ((x.1 5 f).toNatClampNeg + c) = t (p + c)) ∧ ∀ i, i < f → x.2 4 i = 41 → ¬ (x.1 6 i = nI s ∧ ∀ c, c < s → t ((x.1 5 i).toNatClampNeg + c) = t (p + c)) := fun q => ih fu (j + 1) (by omega) (by omega) (by omega) (fun i hi => by
      rcases Nat.lt_or_ge i j with h1 | h1
      · exact hN i h1
      · have e : i = j := by omega
        rw [e]; exact q)
    obtain ⟨a, z, q1, q2, q3, q4, q5, q6, q7, q8, -⟩ := hK j hjk
    have hs : f_X8_sign (nI j) x = some (x.2 4 j) := by
      unfold f_X8_sign
      rw [if_neg (nI_pos (by omega)), if_neg (show ¬ (401 : Int32) ≤ nI j from nI_ge (b := 401) (by omega) (by omega)), if_pos ((pp_ok (by omega)).mpr (by omega)), nI_clamp (by omega)]
    have hz : f_X8_size (nI j) x = some (nI z) := by
      unfold f_X8_size
      rw [if_neg (nI_pos (by omega)), if_neg (show ¬ (401 : Int32) ≤ nI j from nI_ge (b := 401) (by omega) (by omega)), if_pos ((pp_ok (by omega)).mpr (by omega)), nI_clamp (by omega), q3]
    have hpl : f_X8_place (nI j) x = some (nI a) := by
      unfold f_X8_place
      rw [if_neg (nI_pos (by omega)), if_neg (show ¬ (401 : Int32) ≤ nI j from nI_ge (b := 401) (by omega) (by omega)), if_pos ((pp_ok (by omega)).mpr (by omega)), nI_clamp (by omega), q1]
    have hca : (x.1 5 j).toNatClampNeg = a := by rw [q1]; exact nI_clamp (by omega)
    rw [f_X8_firstAlike_2, hk, if_neg (nI_ge hjk (by omega)), hs, pp_b, nI_1]
    by_cases h41 : x.2 4 j = 41
    · rw [if_pos h41, hz, pp_b]
      by_cases hzs : z = s
      · subst hzs
        rw [if_pos rfl, hpl, pp_b]
        obtain ⟨r, r1, r2⟩ := pp_alk h (show a + z ≤ T from q5) hp (z - 0) g_fuel 0 rfl (by unfold g_fuel; omega) (by omega)
        have r1' : f_X7_alike (nI a) (nI p) (nI z) x = some (pp_i r) := r1
        rw [r1', pp_b]
        cases r with
        | true =>
          have r3 := r2.mp rfl
          rw [if_neg (by decide)]
          exact ⟨j, by omega, rfl, fun _ => ⟨h41, q3, fun c hc => by rw [hca]; exact r3 c (by omega) hc⟩, hN⟩
        | false =>
          rw [if_pos (by decide)]
          refine hgo (fun _ q => ?_)
          have : (false : Bool) = true := r2.mpr (fun e _ he => by have := q.2 e he; rw [hca] at this; exact this)
          cases this
      · rw [if_neg (by rw [nI_eq (by omega) (by omega)]; exact hzs)]
        exact hgo (fun _ q => by rw [q3, nI_eq (by omega) (by omega)] at q; exact hzs q.1)
    · rw [if_neg h41]
      exact hgo (fun q => absurd q h41)
theorem pp_if1 {b : Bool} {A : Type} {u w : A} : (if pp_i b = 0 then u else w) = if b = true then w else u := by cases b <;> rfl
theorem pp_rwC {x : CS} {t : Nat → Nat} {T p : Nat} (h : pp_CT x t T) : ∀ d fuel q, d = T - q → q ≤ T → d < fuel → f_X8_readWord_2 fuel (nI p) (nI q) x = f_X8_readWord_41 (nI p) (nI (pp_scn (pp_ld t T) d q)) x := by
  have hT := h.2.1
  intro d
  induction d with
  | zero =>
    intro fuel q hd hq hfu
    obtain ⟨fu, rfl⟩ : ∃ fu, fuel = fu + 1 := ⟨fuel - 1, by omega⟩
    rw [f_X8_readWord_2, h.1, if_pos (nI_le (by omega) (by omega))]
    rfl
  | succ d ih =>
    intro fuel q hd hq hfu
    obtain ⟨fu, rfl⟩ : ∃ fu, fuel = fu + 1 := ⟨fuel - 1, by omega⟩
    have i := ih fu (q + 1) (by omega) (by omega) (by omega)
    rw [pp_scnS, f_X8_readWord_2, h.1, if_neg (nI_ge (by omega) (by omega)), pp_ltC h (by omega), pp_b, pp_if1, pp_dgC h (by omega), pp_b, pp_if1, nI_1]
    unfold pp_ld
    cases h1 : pp_lt t T q with
    | true => exact i
    | false =>
      cases h2 : pp_dg t T q with
      | true => exact i
      | false => rfl
theorem pp_rwM {y : MS} {t : Nat → Nat} {T p k : Nat} (h : pp_MT y t T) : ∀ d fuel q, d = T - q → q ≤ T → d < fuel → f_X15_read_26 fuel (nI p) (nI k) (nI q) y = (f_X15_keyword (nI p) (nI (pp_scn (pp_ld t T) d q) - nI p) y).bind fun q31 => if g_ok (nI k) 402 = true then (f_X15_read_239 (nI p) (nI k) (nI (pp_scn (pp_ld t T) d q)) (g_mi y 122 (nI k).toNatClampNeg q31)) else none := by
  have hT := h.2.1
  have h3 := h.2.2.1
  intro d
  induction d with
  | zero =>
    intro fuel q hd hq hfu
    obtain ⟨fu, rfl⟩ : ∃ fu, fuel = fu + 1 := ⟨fuel - 1, by omega⟩
    rw [f_X15_read_26, pp_bM h (by omega), pp_b, pp_b, pp_ltM h3, pp_b, pp_if1, pp_diM h3, pp_b, pp_if1, pp_ltT q (by omega), pp_dgT q (by omega)]
    rfl
  | succ d ih =>
    intro fuel q hd hq hfu
    obtain ⟨fu, rfl⟩ : ∃ fu, fuel = fu + 1 := ⟨fuel - 1, by omega⟩
    have i := ih fu (q + 1) (by omega) (by omega) (by omega)
    rw [pp_scnS, f_X15_read_26, pp_bM h (by omega), pp_b, pp_b, pp_ltM h3, pp_b, pp_if1, pp_diM h3, pp_b, pp_if1, nI_1]
    unfold pp_ld
    cases h1 : pp_lt t T q with
    | true => exact i
    | false =>
      cases h2 : pp_dg t T q with
      | true => exact i
      | false => rfl
theorem pp_tokW {x : CS} {y : MS} {t : Nat → Nat} {T k p : Nat} (hC : pp_CT x t T) (hM : pp_MT y t T) (hk : x.1 3 5 = nI k) (hk4 : k ≤ 400) (hl : pp_lt t T p = true) (hK : ∀ i, i < k → pp_TK x y t T i) : pp_RT x y t T k p := by
  have hT := hC.2.1
  have hw := pp_weB hl
  have hpT : p < T := by omega
  obtain ⟨e, he⟩ : ∃ e, e = pp_we t T p := ⟨_, rfl⟩
  rw [← he] at hw
  have hcl : k < 400 → f_X8_readToken (nI p) x = (f_X8_readWord_41 (nI p) (nI e) x).bind fun q9 => some q9 := by
    intro hk4
    have h1 := pp_rwC (p := p) hC (T - p) g_fuel p rfl (by omega) (by unfold g_fuel; omega)
    have h1' : f_X8_readWord (nI p) x = f_X8_readWord_41 (nI p) (nI e) x := by rw [he]; exact h1
    unfold f_X8_readToken
    rw [hC.1, if_pos (nI_lt hpT (by omega)), hk, if_pos (show nI k < (400 : Int32) from nI_lt (b := 400) hk4 (by omega)), pp_ltC hC (by omega), pp_b, pp_if1, if_pos hl, h1']
  have hY1 : pp_Yk k y (g_mi y 124 k (nI p)) := (pp_Yk.rf k y).mi (by omega)
  have hM1 := hM.k hY1
  have hml : f_X15_read (nI p) (nI k) y = some (nI e, g_mi (g_mi (g_mi y 124 k (nI p)) 122 k (pp_kv (pp_kw t T p (e - p) 26) (e - p))) 125 k (nI (e - p))) := by
    have h1 := pp_rwM (p := p) (k := k) hM1 (T - (p + 1)) g_fuel (p + 1) rfl (by omega) (by unfold g_fuel; omega)
    have hee : pp_scn (pp_ld t T) (T - (p + 1)) (p + 1) = e := by
      rw [he]
      unfold pp_we
      obtain ⟨d, hd⟩ : ∃ d, T - p = d + 1 := ⟨T - p - 1, by omega⟩
      rw [hd, pp_scnS, if_pos (by unfold pp_ld; rw [hl]; rfl), show T - (p + 1) = d by omega]
    rw [hee, pk_sub (by omega), pp_kwM1 hM1 (by omega), pp_b] at h1
    have hok := (pp_ok (k := k) (n := 402) (by omega)).mpr (by omega)
    unfold f_X15_read
    rw [if_pos ((pp_ok (by omega)).mpr (by omega)), if_pos hok, nI_clamp (by omega), show y 121 p = pp_B t T p by unfold pp_B; rw [if_pos hpT]; exact hM.2.2.2 p hpT, pp_ltM hM.2.2.1, pp_b, pp_if1, if_pos hl, nI_clamp (by omega), nI_1, h1, if_pos hok]
    unfold f_X15_read_239
    rw [if_pos hok, nI_clamp (by omega), pk_sub (by omega)]
  have hY : ∀ u w, pp_Yk k y (g_mi (g_mi (g_mi y 124 k (nI p)) 122 k u) 125 k w) := fun u w => (hY1.mi (by omega)).mi (by omega)
  have r122 : ∀ u w, (g_mi (g_mi (g_mi y 124 k (nI p)) 122 k u) 125 k w) 122 k = u := fun u w => by simp [g_mi, upd]
  have r124 : ∀ u w, (g_mi (g_mi (g_mi y 124 k (nI p)) 122 k u) 125 k w) 124 k = nI p := fun u w => by simp [g_mi, upd]
  have r125 : ∀ u w, (g_mi (g_mi (g_mi y 124 k (nI p)) 122 k u) 125 k w) 125 k = w := fun u w => by simp [g_mi, upd]
  by_cases h10 : e - p ≤ 10
  · rcases pp_W hl with ⟨w1, w2, w3⟩ | ⟨w1, w2⟩
    · rw [← he] at w1 w3
      have hkv : pp_kv (pp_kw t T p (e - p) 26) (e - p) = nI (pp_lo t T p 46) := by rw [w3]; rfl
      have htr : pp_tr (pp_lo t T p 46) = pp_lo t T p 46 := by
        have : ∀ m, m < 26 → pp_tr m = m := by decide
        exact this _ w2
      rw [hkv] at hml
      refine ⟨pp_lo t T p 46, e - p, 0, e, _, ?_, hml, by omega, by omega, by omega, by omega, hw.2, hY _ _, by rw [r122, htr], r124 _ _, fun _ => ⟨by omega, pp_TK.new hT (r124 _ _) (r125 _ _) (by omega) (by omega) (by rw [r122, htr]) (fun q => by omega) (fun q => by omega)⟩⟩
      intro hk5
      rw [hcl hk5]
      unfold f_X8_readWord_41
      rw [pk_sub (by omega), if_pos (show nI (e - p) ≤ (10 : Int32) from nI_le (b := 10) h10 (by omega)), pp_loC1 hC (by omega), pp_b, if_pos (by omega), if_pos (by omega), (pp_txL _ (by omega)).1, pp_b, if_pos (by rw [w1]), pp_add hk (by omega) (by omega)]
      rfl
    · rw [← he] at w1 w2
      have hkv : pp_kv (pp_kw t T p (e - p) 26) (e - p) = nI (pp_tr 41) := by
        rw [w2]
        show (if e - p ≤ 10 then (30 : Int32) else 32) = _
        rw [if_pos h10]; rfl
      rw [hkv] at hml
      obtain ⟨f, f1, f2, f3, f4⟩ := pp_fal (p := p) (s := e - p) hC hk (by omega) (by omega) hK (k - 0) g_fuel 0 rfl (by unfold g_fuel; omega) (by omega) (fun i hi => absurd hi (Nat.not_lt_zero _))
      have hlo := (pp_loF (t := t) (T := T) (p := p) 46 (Nat.le_refl _)).1
      have hlen := (pp_txL (pp_lo t T p 46) (by omega)).2.1
      refine ⟨41, e - p, nI f, e, _, ?_, hml, by omega, by omega, by omega, by omega, hw.2, hY _ _, r122 _ _, r124 _ _, fun _ => ⟨by omega, pp_TK.new hT (r124 _ _) (r125 _ _) (by omega) (by omega) (r122 _ _) (fun q => by omega) (fun _ => ⟨f, f1, rfl, f3, f4⟩)⟩⟩
      intro hk5
      rw [hcl hk5]
      unfold f_X8_readWord_41
      rw [pk_sub (by omega), if_pos (show nI (e - p) ≤ (10 : Int32) from nI_le (b := 10) h10 (by omega)), pp_loC1 hC (by omega), pp_b, if_pos hlo, if_pos (by omega), (pp_txL _ (by omega)).1, pp_b, if_neg (by rw [nI_eq (by omega) (by omega)]; exact w1)]
      rw [show f_X8_firstAlike (nI p) (nI (e - p)) x = some (nI f) from f2, pp_b, pp_add hk (by omega) (by omega)]
      rfl
  · have hkv : pp_kv (pp_kw t T p (e - p) 26) (e - p) = nI (pp_tr 45) := by
      rw [pp_kwL (by omega)]
      show (if e - p ≤ 10 then (30 : Int32) else 32) = _
      rw [if_neg h10]; rfl
    rw [hkv] at hml
    refine ⟨45, e - p, 0, e, _, ?_, hml, by omega, by omega, by omega, by omega, hw.2, hY _ _, r122 _ _, r124 _ _, fun q => absurd rfl q⟩
    intro hk5
    rw [hcl hk5]
    unfold f_X8_readWord_41
    rw [pk_sub (by omega), if_neg (show ¬ nI (e - p) ≤ (10 : Int32) from nI_ge (a := 10) (by omega) (by omega)), pp_add hk (by omega) (by omega)]
    rfl
