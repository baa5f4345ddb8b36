/-! the longest text spelled at a place; keywords; symbols -/
def pp_lo (t : Nat → Nat) (T p : Nat) : Nat → Nat
  | 0 => 45
  | k + 1 => if (pp_tx (pp_lo t T p k)).length < (pp_tx k).length ∧ pp_spl t T p (pp_tx k) = true then k else pp_lo t T p k
theorem pp_loS (t : Nat → Nat) (T p k : Nat) : pp_lo t T p (k + 1) = if (pp_tx (pp_lo t T p k)).length < (pp_tx k).length ∧ pp_spl t T p (pp_tx k) = true then k else pp_lo t T p k := rfl
theorem pp_tx45 : pp_tx 45 = [] := by decide +kernel
theorem pp_loF {t : Nat → Nat} {T p : Nat} : ∀ n, n ≤ 46 → pp_lo t T p n < 46 ∧ pp_spl t T p (pp_tx (pp_lo t T p n)) = true ∧ ∀ k, k < n → pp_spl t T p (pp_tx k) = true → (pp_tx k).length ≤ (pp_tx (pp_lo t T p n)).length := by
  intro n
  induction n with
  | zero => intro _; exact ⟨(by show 45 < 46; omega), (by show pp_spl t T p (pp_tx 45) = true; rw [pp_tx45]; rfl), fun k hk => absurd hk (Nat.not_lt_zero _)⟩
  | succ n ih =>
    intro hn
    obtain ⟨i1, i2, i3⟩ := ih (by omega)
    rw [pp_loS]
    by_cases h : (pp_tx (pp_lo t T p n)).length < (pp_tx n).length ∧ pp_spl t T p (pp_tx n) = true
    · rw [if_pos h]
      refine ⟨by omega, h.2, fun k hk hs => ?_⟩
      rcases Nat.lt_or_ge k n with h1 | h1
      · have := i3 k h1 hs; omega
      · have e : k = n := by omega
        rw [e]; exact Nat.le_refl _
    · rw [if_neg h]
      refine ⟨i1, i2, fun k hk hs => ?_⟩
      rcases Nat.lt_or_ge k n with h1 | h1
      · exact i3 k h1 hs
      · have e : k = n := by omega
        subst e
        rcases Nat.lt_or_ge (pp_tx (pp_lo t T p k)).length (pp_tx k).length with h2 | h2
        · exact absurd ⟨h2, hs⟩ h
        · exact h2
theorem pp_loC {x : CS} {t : Nat → Nat} {T p : Nat} (h : pp_CT x t T) (hp : p ≤ T) : ∀ d fuel k, d = 46 - k → d < fuel → k ≤ 46 → f_X8_longestSpelled_6 x fuel (nI p) (pp_lo t T p k) (nI k) = some (pp_lo t T p 46) := by
  intro d
  induction d with
  | zero =>
    intro fuel k hd hfu hk
    obtain ⟨fu, rfl⟩ : ∃ fu, fuel = fu + 1 := ⟨fuel - 1, by omega⟩
    have e : k = 46 := by omega
    subst e
    rw [f_X8_longestSpelled_6, if_pos (by decide)]
  | succ d ih =>
    intro fuel k hd hfu hk
    obtain ⟨fu, rfl⟩ : ∃ fu, fuel = fu + 1 := ⟨fuel - 1, by omega⟩
    have i := ih fu (k + 1) (by omega) (by omega) (by omega)
    have hlo := (pp_loF (t := t) (T := T) (p := p) k (by omega)).1
    have hk46 : k < 46 := by omega
    obtain ⟨l1, l2, -⟩ := pp_txL k (by omega)
    obtain ⟨m1, m2, -⟩ := pp_txL (pp_lo t T p k) (by omega)
    have hc : (nI k).toNatClampNeg = k := nI_clamp (by omega)
    have hok := (pp_ok (k := k) (n := 46) (by omega)).mpr hk46
    rw [f_X8_longestSpelled_6, if_neg (show ¬ (46 : Int32) ≤ nI k from nI_ge (b := 46) hk46 (by omega)), if_pos hok, hc, if_pos hk46, if_pos (by omega), l1, pp_b, if_pos hlo, if_pos (by omega), m1, pp_b, pp_spC1 h hk46 hp, pp_b, nI_1]
    rw [pp_loS] at i
    by_cases h1 : (pp_tx (pp_lo t T p k)).length < (pp_tx k).length
    · rw [if_neg (nI_ge h1 (by omega))]
      by_cases h2 : pp_spl t T p (pp_tx k) = true
      · rw [if_neg (by rw [pp_i0, h2]; decide), if_pos hok]
        rw [if_pos ⟨h1, h2⟩] at i
        exact i
      · rw [if_pos (by rw [pp_i0]; simpa using h2)]
        rw [if_neg (fun q => h2 q.2)] at i
        exact i
    · rw [if_pos (nI_le (by omega) (by omega))]
      rw [if_neg (fun q => h1 q.1)] at i
      exact i
theorem pp_loC1 {x : CS} {t : Nat → Nat} {T p : Nat} (h : pp_CT x t T) (hp : p ≤ T) : f_X8_longestSpelled (nI p) x = some (pp_lo t T p 46) :=
  pp_loC h hp (46 - 0) g_fuel 0 rfl (by decide) (by omega)
def pp_kw (t : Nat → Nat) (T p s : Nat) : Nat → Option Nat
  | 0 => none
  | d + 1 => if (pp_tx (26 - (d + 1))).length = s ∧ pp_spl t T p (pp_tx (26 - (d + 1))) = true then some (26 - (d + 1)) else pp_kw t T p s d
theorem pp_kwS (t : Nat → Nat) (T p s d : Nat) : pp_kw t T p s (d + 1) = if (pp_tx (26 - (d + 1))).length = s ∧ pp_spl t T p (pp_tx (26 - (d + 1))) = true then some (26 - (d + 1)) else pp_kw t T p s d := rfl
def pp_kv (o : Option Nat) (s : Nat) : Int32 := match o with
  | some k => nI k
  | none => if s ≤ 10 then 30 else 32
theorem pp_kwM {y : MS} {t : Nat → Nat} {T p s : Nat} (h : pp_MT y t T) (hp : p + s ≤ T) : ∀ d fuel, d ≤ 26 → d < fuel → f_X15_keyword_2 y fuel (nI p) (nI s) (nI (26 - d)) = some (pp_kv (pp_kw t T p s d) s) := by
  have hT := h.2.1
  intro d
  induction d with
  | zero =>
    intro fuel hd hfu
    obtain ⟨fu, rfl⟩ : ∃ fu, fuel = fu + 1 := ⟨fuel - 1, by omega⟩
    rw [f_X15_keyword_2, if_pos (by decide)]
    show _ = some (if s ≤ 10 then (30 : Int32) else 32)
    by_cases h1 : s ≤ 10
    · rw [if_pos (show nI s ≤ (10 : Int32) from nI_le (b := 10) h1 (by omega)), if_pos h1]
    · rw [if_neg (show ¬ nI s ≤ (10 : Int32) from nI_ge (a := 10) (by omega) (by omega)), if_neg h1]
  | succ d ih =>
    intro fuel hd hfu
    obtain ⟨fu, rfl⟩ : ∃ fu, fuel = fu + 1 := ⟨fuel - 1, by omega⟩
    have i := ih fu (by omega) (by omega)
    have hk : 26 - (d + 1) < 26 := by omega
    rw [pp_kwS, f_X15_keyword_2, if_neg (show ¬ (26 : Int32) ≤ nI (26 - (d + 1)) from nI_ge (b := 26) hk (by omega)), if_pos ((pp_ok (by omega)).mpr hk), nI_clamp (by omega), pp_wdM1 h hk hp, pp_b, nI_1, show 26 - (d + 1) + 1 = 26 - d by omega]
    by_cases h1 : (pp_tx (26 - (d + 1))).length = s ∧ pp_spl t T p (pp_tx (26 - (d + 1))) = true
    · rw [if_pos h1, if_neg (by rw [pp_i0, h1.2, decide_eq_true h1.1]; decide)]
      rfl
    · rw [if_neg h1, if_pos]
      · exact i
      · rw [pp_i0]
        by_cases h2 : (pp_tx (26 - (d + 1))).length = s
        · rw [decide_eq_true h2, Bool.true_and]
          cases h3 : pp_spl t T p (pp_tx (26 - (d + 1))) with
          | false => rfl
          | true => exact absurd ⟨h2, h3⟩ h1
        · rw [decide_eq_false h2, Bool.false_and]
theorem pp_kwM1 {y : MS} {t : Nat → Nat} {T p s : Nat} (h : pp_MT y t T) (hp : p + s ≤ T) : f_X15_keyword (nI p) (nI s) y = some (pp_kv (pp_kw t T p s 26) s) :=
  pp_kwM h hp 26 g_fuel (by omega) (by decide)
theorem pp_kwN {t : Nat → Nat} {T p s : Nat} : ∀ d, d ≤ 26 → pp_kw t T p s d = none → ∀ k, 26 - d ≤ k → k < 26 → ¬ ((pp_tx k).length = s ∧ pp_spl t T p (pp_tx k) = true) := by
  intro d
  induction d with
  | zero => intro _ _ k h1 h2; omega
  | succ d ih =>
    intro hd h k h1 h2
    rw [pp_kwS] at h
    split at h
    · cases h
    · rename_i hn
      rcases Nat.lt_or_ge (26 - (d + 1)) k with h3 | h3
      · exact ih (by omega) h k (by omega) h2
      · have e : k = 26 - (d + 1) := by omega
        rw [e]; exact hn
theorem pp_kwY {t : Nat → Nat} {T p s k : Nat} : ∀ d, d ≤ 26 → pp_kw t T p s d = some k → k < 26 ∧ (pp_tx k).length = s ∧ pp_spl t T p (pp_tx k) = true := by
  intro d
  induction d with
  | zero => intro _ h; cases h
  | succ d ih =>
    intro hd h
    rw [pp_kwS] at h
    split at h
    · rename_i hn
      cases h
      exact ⟨by omega, hn⟩
    · exact ih (by omega) h
theorem pp_splJ {t : Nat → Nat} {T : Nat} : ∀ (l : List Nat) (p : Nat), pp_spl t T p l = true → ∀ j, j < l.length → p + j < T ∧ t (p + j) = l.getD j 0 := by
  intro l
  induction l with
  | nil => intro p _ j hj; cases hj
  | cons c cs ih =>
    intro p h j hj
    simp only [pp_spl, Bool.and_eq_true, decide_eq_true_eq] at h
    cases j with
    | zero => exact h.1
    | succ j =>
      have := ih (p + 1) h.2 j (by simpa using hj)
      rw [show p + (j + 1) = p + 1 + j by omega]
      exact this
theorem pp_splU {t : Nat → Nat} {T : Nat} : ∀ (l m : List Nat) (p : Nat), l.length = m.length → pp_spl t T p l = true → pp_spl t T p m = true → l = m := by
  intro l
  induction l with
  | nil => intro m p hl _ _; cases m with
    | nil => rfl
    | cons _ _ => cases hl
  | cons c cs ih =>
    intro m p hl h1 h2
    cases m with
    | nil => cases hl
    | cons e es =>
      simp only [pp_spl, Bool.and_eq_true, decide_eq_true_eq] at h1 h2
      have e1 : c = e := h1.1.2.symm.trans h2.1.2
      rw [e1, ih es (p + 1) (by simpa using hl) h1.2 h2.2]
theorem pp_txU : ∀ k, k < 46 → ∀ m, m < 46 → pp_tx k = pp_tx m → pp_tx k ≠ [] → k = m := by decide +kernel
theorem pp_txA : ∀ k, k < 26 → (∀ j, j < 8 → j < (pp_tx k).length → 97 ≤ (pp_tx k).getD j 0 ∧ (pp_tx k).getD j 0 ≤ 122) ∧ 0 < (pp_tx k).length := by decide +kernel
theorem pp_txS : ∀ k, k < 46 → 26 ≤ k → 0 < (pp_tx k).length → ¬ (97 ≤ (pp_tx k).getD 0 0 ∧ (pp_tx k).getD 0 0 ≤ 122) := by decide +kernel
def pp_ld (t : Nat → Nat) (T : Nat) (q : Nat) : Bool := pp_lt t T q || pp_dg t T q
theorem pp_ldT {t : Nat → Nat} {T : Nat} : ∀ q, T ≤ q → pp_ld t T q = false := fun q h => by unfold pp_ld; rw [pp_ltT q h, pp_dgT q h]; rfl
def pp_we (t : Nat → Nat) (T p : Nat) : Nat := pp_scn (pp_ld t T) (T - p) p
theorem pp_weB {t : Nat → Nat} {T p : Nat} (hl : pp_lt t T p = true) : p < pp_we t T p ∧ pp_we t T p ≤ T := by
  have hp : p < T := by
    rcases Nat.lt_or_ge p T with h | h
    · exact h
    · rw [pp_ltT p h] at hl; cases hl
  unfold pp_we
  obtain ⟨d, hd⟩ : ∃ d, T - p = d + 1 := ⟨T - p - 1, by omega⟩
  rw [hd, pp_scnS, if_pos (by unfold pp_ld; rw [hl]; rfl)]
  have := pp_scnB (P := pp_ld t T) d (p + 1)
  omega
/-- a spelled keyword ends in the word -/
theorem pp_W4 {t : Nat → Nat} {T p k : Nat} (hl : pp_lt t T p = true) (hk : k < 26) (hs : pp_spl t T p (pp_tx k) = true) : p + (pp_tx k).length ≤ pp_we t T p := by
  have hw := pp_weB hl
  rcases Nat.lt_or_ge (pp_we t T p) (p + (pp_tx k).length) with h | h
  · exfalso
    have hE : pp_ld t T (pp_we t T p) = false := pp_scnE pp_ldT (T - p) p (by omega)
    have hj := pp_splJ (pp_tx k) p hs (pp_we t T p - p) (by omega)
    rw [show p + (pp_we t T p - p) = pp_we t T p by omega] at hj
    have hA := (pp_txA k hk).1 (pp_we t T p - p) (by have := (pp_txL k (by omega)).2.1; omega) (by omega)
    unfold pp_ld pp_lt at hE
    rw [show decide (pp_we t T p < T ∧ 97 ≤ t (pp_we t T p) ∧ t (pp_we t T p) ≤ 122) = true by simp only [decide_eq_true_eq]; rw [hj.2]; exact ⟨hj.1, hA⟩] at hE
    simp at hE
  · exact h
theorem pp_W1 {t : Nat → Nat} {T p k : Nat} (hl : pp_lt t T p = true) (hk : k < 46) (h0 : 0 < (pp_tx k).length) (hs : pp_spl t T p (pp_tx k) = true) : k < 26 := by
  rcases Nat.lt_or_ge k 26 with h | h
  · exact h
  · exfalso
    have hS := pp_txS k hk h h0
    have hj := pp_splJ (pp_tx k) p hs 0 h0
    rw [Nat.add_zero] at hj
    unfold pp_lt at hl
    simp only [decide_eq_true_eq] at hl
    rw [← hj.2] at hS
    exact hS hl.2
/-- a word: class and reference see the same keyword in it, or none -/
theorem pp_W {t : Nat → Nat} {T p : Nat} (hl : pp_lt t T p = true) : ((pp_tx (pp_lo t T p 46)).length = pp_we t T p - p ∧ pp_lo t T p 46 < 26 ∧ pp_kw t T p (pp_we t T p - p) 26 = some (pp_lo t T p 46)) ∨ ((pp_tx (pp_lo t T p 46)).length ≠ pp_we t T p - p ∧ pp_kw t T p (pp_we t T p - p) 26 = none) := by
  have hw := pp_weB hl
  obtain ⟨f1, f2, f3⟩ := pp_loF (t := t) (T := T) (p := p) 46 (Nat.le_refl _)
  have hU : ∀ k, k < 26 → (pp_tx k).length = pp_we t T p - p → pp_spl t T p (pp_tx k) = true → (pp_tx (pp_lo t T p 46)).length = pp_we t T p - p ∧ k = pp_lo t T p 46 := by
    intro k hk e hs
    have h1 := f3 k (by omega) hs
    have h2 := pp_W1 hl f1 (by omega) f2
    have h3 := pp_W4 hl h2 f2
    have e2 : (pp_tx (pp_lo t T p 46)).length = pp_we t T p - p := by omega
    refine ⟨e2, pp_txU k (by omega) _ f1 (pp_splU _ _ p (by omega) hs f2) (fun q => ?_)⟩
    rw [q] at e
    simp at e
    omega
  by_cases h : (pp_tx (pp_lo t T p 46)).length = pp_we t T p - p
  · left
    have h2 := pp_W1 hl f1 (by omega) f2
    refine ⟨h, h2, ?_⟩
    cases hk : pp_kw t T p (pp_we t T p - p) 26 with
    | none => exact absurd ⟨h, f2⟩ (pp_kwN 26 (Nat.le_refl _) hk _ (by omega) h2)
    | some k =>
      obtain ⟨k1, k2, k3⟩ := pp_kwY 26 (Nat.le_refl _) hk
      rw [(hU k k1 k2 k3).2]
  · right
    refine ⟨h, ?_⟩
    cases hk : pp_kw t T p (pp_we t T p - p) 26 with
    | none => rfl
    | some k =>
      obtain ⟨k1, k2, k3⟩ := pp_kwY 26 (Nat.le_refl _) hk
      exact absurd (hU k k1 k2 k3).1 h
theorem pp_kwL {t : Nat → Nat} {T p s : Nat} (hs : 10 < s) : pp_kw t T p s 26 = none := by
  cases hk : pp_kw t T p s 26 with
  | none => rfl
  | some k =>
    obtain ⟨k1, k2, k3⟩ := pp_kwY 26 (Nat.le_refl _) hk
    have := (pp_txL k (by omega)).2.1
    omega
/-! symbols -/
def pp_s2 (c : Nat) (n : Bool) : List Nat → Bool
  | [] => true
  | [a] => decide (c = a)
  | [a, _] => decide (c = a) && n
  | _ => false
def pp_o2 (l : List Nat) : Bool := match l with
  | [] => true
  | [_] => true
  | [a, b] => decide (b = 61) || decide (97 ≤ a ∧ a ≤ 122)
  | a :: _ => decide (97 ≤ a ∧ a ≤ 122)
theorem pp_txO : ∀ k, k < 46 → pp_o2 (pp_tx k) = true := by decide +kernel
theorem pp_spS {t : Nat → Nat} {T p : Nat} (hp : p < T) (hl : pp_lt t T p = false) {l : List Nat} (ho : pp_o2 l = true) : pp_spl t T p l = pp_s2 (t p) (decide (p + 1 < T ∧ t (p + 1) = 61)) l := by
  have hn : ¬ (97 ≤ t p ∧ t p ≤ 122) := by
    unfold pp_lt at hl
    simp only [decide_eq_false_iff_not] at hl
    exact fun q => hl ⟨hp, q⟩
  match l, ho with
  | [], _ => rfl
  | [a], _ =>
    simp only [pp_spl, pp_s2, Bool.and_true]
    congr 1
    simp [hp]
  | [a, b], ho =>
    simp only [pp_o2, Bool.or_eq_true, decide_eq_true_eq] at ho
    simp only [pp_spl, pp_s2, Bool.and_true]
    by_cases e : t p = a
    · have hb : b = 61 := by
        rcases ho with h | h
        · exact h
        · rw [← e] at h; exact absurd h hn
      rw [hb]
      simp [hp, e]
    · simp [e]
  | a :: b :: c :: r, ho =>
    simp only [pp_o2, decide_eq_true_eq] at ho
    have e : ¬ t p = a := fun q => hn (by rw [q]; exact ho)
    simp [pp_spl, pp_s2, e]
def pp_L2 (c : Nat) (n : Bool) : Nat → Nat
  | 0 => 45
  | k + 1 => if (pp_tx (pp_L2 c n k)).length < (pp_tx k).length ∧ pp_s2 c n (pp_tx k) = true then k else pp_L2 c n k
theorem pp_lo2 {t : Nat → Nat} {T p : Nat} (hp : p < T) (hl : pp_lt t T p = false) : ∀ k, k ≤ 46 → pp_lo t T p k = pp_L2 (t p) (decide (p + 1 < T ∧ t (p + 1) = 61)) k := by
  intro k
  induction k with
  | zero => intro _; rfl
  | succ k ih =>
    intro hk
    rw [pp_loS, pp_spS hp hl (pp_txO k (by omega)), ih (by omega)]
    rfl
def pp_y2 (c : Nat) (n : Bool) : Bool := match f_X15_symbol (nI c) with
  | none => false
  | some q => if q = 44 ∨ q = 45 then (if n = true then decide ((if q = 44 then (47 : Int32) else 48) = nI (pp_tr (pp_L2 c n 46)) ∧ (pp_tx (pp_L2 c n 46)).length = 2) else decide (q = nI (pp_tr (pp_L2 c n 46)) ∧ (pp_tx (pp_L2 c n 46)).length = 1)) else decide (q = nI (pp_tr (pp_L2 c n 46)) ∧ (pp_L2 c n 46 = 45 ∨ (pp_tx (pp_L2 c n 46)).length = 1))
theorem pp_y2A : ∀ c, c < 256 → ¬ (97 ≤ c ∧ c ≤ 122) → pp_y2 c true = true ∧ pp_y2 c false = true ∧ (26 ≤ pp_L2 c true 46 ∧ pp_L2 c true 46 < 46 ∧ (pp_L2 c true 46 ≤ 40 ∨ pp_L2 c true 46 = 45)) ∧ (26 ≤ pp_L2 c false 46 ∧ pp_L2 c false 46 < 46 ∧ (pp_L2 c false 46 ≤ 40 ∨ pp_L2 c false 46 = 45)) := by decide +kernel
