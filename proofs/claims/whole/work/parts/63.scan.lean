/-! the tape: bytes, where a run of them ends -/
def pp_CT (x : CS) (t : Nat → Nat) (T : Nat) : Prop := x.1 1 1 = nI T ∧ T ≤ 2000 ∧ (∀ p, p < T → t p < 256) ∧ ∀ p, p < T → x.1 2 p = nI (t p)
def pp_MT (y : MS) (t : Nat → Nat) (T : Nat) : Prop := y 120 2 = nI T ∧ T ≤ 2000 ∧ (∀ p, p < T → t p < 256) ∧ ∀ p, p < T → y 121 p = nI (t p)
def pp_B (t : Nat → Nat) (T p : Nat) : Int32 := if p < T then nI (t p) else -1
theorem pp_bC {x : CS} {t : Nat → Nat} {T p : Nat} (h : pp_CT x t T) (hp : p < 2 ^ 30) : f_X7_byteAt (nI p) x = some (pp_B t T p) := by
  obtain ⟨h1, h2, h3, h4⟩ := h
  unfold f_X7_byteAt pp_B
  rw [if_neg (nI_pos (by omega)), h1]
  by_cases h : p < T
  · rw [if_neg (nI_ge h (by omega)), if_neg (show ¬ (2000 : Int32) ≤ nI p from nI_ge (b := 2000) (by omega) (by omega)), if_pos ((pp_ok (by omega)).mpr (by omega)), nI_clamp (by omega), h4 p h, if_pos h]
  · rw [if_pos (nI_le (by omega) (by omega)), if_neg h]
theorem pp_bM {y : MS} {t : Nat → Nat} {T p : Nat} (h : pp_MT y t T) (hp : p < 2 ^ 30) : f_X15_byteAt (nI p) y = some (pp_B t T p) := by
  obtain ⟨h1, h2, h3, h4⟩ := h
  unfold f_X15_byteAt pp_B
  rw [h1]
  by_cases h : p < T
  · rw [if_neg (nI_ge h (by omega)), if_pos ((pp_ok (by omega)).mpr (by omega)), nI_clamp (by omega), h4 p h, if_pos h]
  · rw [if_pos (nI_le (by omega) (by omega)), if_neg h]
def pp_lt (t : Nat → Nat) (T p : Nat) : Bool := decide (p < T ∧ 97 ≤ t p ∧ t p ≤ 122)
def pp_dg (t : Nat → Nat) (T p : Nat) : Bool := decide (p < T ∧ 48 ≤ t p ∧ t p ≤ 57)
def pp_bk (t : Nat → Nat) (T p : Nat) : Bool := decide (p < T ∧ (t p = 32 ∨ t p = 10))
def pp_i (b : Bool) : Int32 := if b then 1 else 0
theorem pp_i0 {b : Bool} : (pp_i b = 0) ↔ b = false := by cases b <;> decide
theorem pp_m1l {n : Nat} (hn : n < 2 ^ 31) : (-1 : Int32) < nI n := by
  rw [Int32.lt_iff_toInt_lt, nI_toInt hn]
  have : (-1 : Int32).toInt = -1 := by decide
  omega
theorem pp_ltC {x : CS} {t : Nat → Nat} {T p : Nat} (h : pp_CT x t T) (hp : p < 2 ^ 30) : f_X7_isLetter (nI p) x = some (pp_i (pp_lt t T p)) := by
  unfold f_X7_isLetter pp_lt
  rw [pp_bC h hp, pp_b]
  unfold pp_B
  by_cases h1 : p < T
  · have h3 := h.2.2.1 p h1
    rw [if_pos h1]
    by_cases h4 : t p < 97
    · rw [if_pos (show nI (t p) < (97 : Int32) from nI_lt (b := 97) h4 (by omega)), show decide (p < T ∧ 97 ≤ t p ∧ t p ≤ 122) = false by simp; omega]; rfl
    · rw [if_neg (show ¬ nI (t p) < (97 : Int32) from nI_nlt (a := t p) (b := 97) (by omega) (by omega))]
      by_cases h5 : 122 < t p
      · rw [if_pos (show (122 : Int32) < nI (t p) from nI_lt (a := 122) h5 (by omega)), show decide (p < T ∧ 97 ≤ t p ∧ t p ≤ 122) = false by simp; omega]; rfl
      · rw [if_neg (show ¬ (122 : Int32) < nI (t p) from nI_nlt (a := 122) (b := t p) (by omega) (by omega)), show decide (p < T ∧ 97 ≤ t p ∧ t p ≤ 122) = true by simp; omega]; rfl
  · rw [if_neg h1, if_pos (by decide), show decide (p < T ∧ 97 ≤ t p ∧ t p ≤ 122) = false by simp; omega]; rfl
theorem pp_dgC {x : CS} {t : Nat → Nat} {T p : Nat} (h : pp_CT x t T) (hp : p < 2 ^ 30) : f_X7_isDigit (nI p) x = some (pp_i (pp_dg t T p)) := by
  unfold f_X7_isDigit pp_dg
  rw [pp_bC h hp, pp_b]
  unfold pp_B
  by_cases h1 : p < T
  · have h3 := h.2.2.1 p h1
    rw [if_pos h1]
    by_cases h4 : t p < 48
    · rw [if_pos (show nI (t p) < (48 : Int32) from nI_lt (b := 48) h4 (by omega)), show decide (p < T ∧ 48 ≤ t p ∧ t p ≤ 57) = false by simp; omega]; rfl
    · rw [if_neg (show ¬ nI (t p) < (48 : Int32) from nI_nlt (a := t p) (b := 48) (by omega) (by omega))]
      by_cases h5 : 57 < t p
      · rw [if_pos (show (57 : Int32) < nI (t p) from nI_lt (a := 57) h5 (by omega)), show decide (p < T ∧ 48 ≤ t p ∧ t p ≤ 57) = false by simp; omega]; rfl
      · rw [if_neg (show ¬ (57 : Int32) < nI (t p) from nI_nlt (a := 57) (b := t p) (by omega) (by omega)), show decide (p < T ∧ 48 ≤ t p ∧ t p ≤ 57) = true by simp; omega]; rfl
  · rw [if_neg h1, if_pos (by decide), show decide (p < T ∧ 48 ≤ t p ∧ t p ≤ 57) = false by simp; omega]; rfl
theorem pp_ltM {t : Nat → Nat} {T p : Nat} (h3 : ∀ p, p < T → t p < 256) : f_X15_isLetter (pp_B t T p) = some (pp_i (pp_lt t T p)) := by
  unfold f_X15_isLetter f_X15_isIn pp_lt pp_B
  by_cases h1 : p < T
  · have h3 := h3 p h1
    rw [if_pos h1]
    by_cases h4 : t p < 97
    · rw [if_pos (show nI (t p) < (97 : Int32) from nI_lt (b := 97) h4 (by omega)), show decide (p < T ∧ 97 ≤ t p ∧ t p ≤ 122) = false by simp; omega]; rfl
    · rw [if_neg (show ¬ nI (t p) < (97 : Int32) from nI_nlt (a := t p) (b := 97) (by omega) (by omega))]
      by_cases h5 : 122 < t p
      · rw [if_pos (show (122 : Int32) < nI (t p) from nI_lt (a := 122) h5 (by omega)), show decide (p < T ∧ 97 ≤ t p ∧ t p ≤ 122) = false by simp; omega]; rfl
      · rw [if_neg (show ¬ (122 : Int32) < nI (t p) from nI_nlt (a := 122) (b := t p) (by omega) (by omega)), show decide (p < T ∧ 97 ≤ t p ∧ t p ≤ 122) = true by simp; omega]; rfl
  · rw [if_neg h1, if_pos (by decide), show decide (p < T ∧ 97 ≤ t p ∧ t p ≤ 122) = false by simp; omega]; rfl
theorem pp_diM {t : Nat → Nat} {T p : Nat} (h3 : ∀ p, p < T → t p < 256) : f_X15_isDigit (pp_B t T p) = some (pp_i (pp_dg t T p)) := by
  unfold f_X15_isDigit f_X15_isIn pp_dg pp_B
  by_cases h1 : p < T
  · have h3 := h3 p h1
    rw [if_pos h1]
    by_cases h4 : t p < 48
    · rw [if_pos (show nI (t p) < (48 : Int32) from nI_lt (b := 48) h4 (by omega)), show decide (p < T ∧ 48 ≤ t p ∧ t p ≤ 57) = false by simp; omega]; rfl
    · rw [if_neg (show ¬ nI (t p) < (48 : Int32) from nI_nlt (a := t p) (b := 48) (by omega) (by omega))]
      by_cases h5 : 57 < t p
      · rw [if_pos (show (57 : Int32) < nI (t p) from nI_lt (a := 57) h5 (by omega)), show decide (p < T ∧ 48 ≤ t p ∧ t p ≤ 57) = false by simp; omega]; rfl
      · rw [if_neg (show ¬ (57 : Int32) < nI (t p) from nI_nlt (a := 57) (b := t p) (by omega) (by omega)), show decide (p < T ∧ 48 ≤ t p ∧ t p ≤ 57) = true by simp; omega]; rfl
  · rw [if_neg h1, if_pos (by decide), show decide (p < T ∧ 48 ≤ t p ∧ t p ≤ 57) = false by simp; omega]; rfl
/-- where a run begun at p ends -/
def pp_scn (P : Nat → Bool) : Nat → Nat → Nat
  | 0, p => p
  | d + 1, p => if P p = true then pp_scn P d (p + 1) else p
theorem pp_scnS (P : Nat → Bool) (d p : Nat) : pp_scn P (d + 1) p = if P p = true then pp_scn P d (p + 1) else p := rfl
theorem pp_scnB {P : Nat → Bool} : ∀ d p, p ≤ pp_scn P d p ∧ pp_scn P d p ≤ p + d := by
  intro d
  induction d with
  | zero => intro p; exact ⟨Nat.le_refl _, Nat.le_refl _⟩
  | succ d ih =>
    intro p
    rw [pp_scnS]
    split
    · have := ih (p + 1); omega
    · omega
theorem pp_scnP {P : Nat → Bool} : ∀ d p q, p ≤ q → q < pp_scn P d p → P q = true := by
  intro d
  induction d with
  | zero => intro p q h1 h2; unfold pp_scn at h2; omega
  | succ d ih =>
    intro p q h1 h2
    rw [pp_scnS] at h2
    split at h2
    · rename_i hp
      rcases Nat.lt_or_ge p q with h3 | h3
      · exact ih (p + 1) q h3 h2
      · have e : q = p := by omega
        rw [e]; exact hp
    · omega
theorem pp_scnE {P : Nat → Bool} {T : Nat} (hP : ∀ q, T ≤ q → P q = false) : ∀ d p, T ≤ p + d → P (pp_scn P d p) = false := by
  intro d
  induction d with
  | zero => intro p h; exact hP p h
  | succ d ih =>
    intro p h
    rw [pp_scnS]
    split
    · exact ih (p + 1) (by omega)
    · rename_i hp
      simpa using hp
theorem pp_bkT {t : Nat → Nat} {T : Nat} : ∀ q, T ≤ q → pp_bk t T q = false := fun q h => by unfold pp_bk; simp; omega
theorem pp_ltT {t : Nat → Nat} {T : Nat} : ∀ q, T ≤ q → pp_lt t T q = false := fun q h => by unfold pp_lt; simp; omega
theorem pp_dgT {t : Nat → Nat} {T : Nat} : ∀ q, T ≤ q → pp_dg t T q = false := fun q h => by unfold pp_dg; simp; omega
def pp_skp (t : Nat → Nat) (T p : Nat) : Nat := pp_scn (pp_bk t T) (T - p) p
theorem pp_skpB {t : Nat → Nat} {T p : Nat} (h : p ≤ T) : p ≤ pp_skp t T p ∧ pp_skp t T p ≤ T := by
  have := pp_scnB (P := pp_bk t T) (T - p) p
  unfold pp_skp
  omega
theorem pp_B32 {t : Nat → Nat} {T p : Nat} (h3 : ∀ p, p < T → t p < 256) : pp_bk t T p = true ↔ (pp_B t T p = 32 ∨ pp_B t T p = 10) := by
  unfold pp_bk pp_B
  by_cases h1 : p < T
  · have h3 := h3 p h1
    rw [if_pos h1, show (32 : Int32) = nI 32 from rfl, show (10 : Int32) = nI 10 from rfl, nI_eq (by omega) (by omega), nI_eq (by omega) (by omega)]
    simp [h1]
  · rw [if_neg h1]
    simp [h1]
theorem pp_skC {x : CS} {t : Nat → Nat} {T : Nat} (h : pp_CT x t T) : ∀ d fuel p, d = T - p → p ≤ T → d < fuel → f_X7_behindBlanks_2 x fuel (nI p) = some (nI (pp_scn (pp_bk t T) d p)) := by
  have hT := h.2.1
  intro d
  induction d with
  | zero =>
    intro fuel p hd hp hfu
    obtain ⟨fu, rfl⟩ : ∃ fu, fuel = fu + 1 := ⟨fuel - 1, by omega⟩
    rw [f_X7_behindBlanks_2, h.1, if_pos (nI_le (by omega) (by omega))]
    rfl
  | succ d ih =>
    intro fuel p hd hp hfu
    obtain ⟨fu, rfl⟩ : ∃ fu, fuel = fu + 1 := ⟨fuel - 1, by omega⟩
    have i := ih fu (p + 1) (by omega) (by omega) (by omega)
    have hB := pp_B32 (p := p) h.2.2.1
    rw [pp_scnS, f_X7_behindBlanks_2, h.1, if_neg (nI_ge (by omega) (by omega)), pp_bC h (by omega), pp_b, pp_b, nI_1]
    by_cases h1 : pp_B t T p = 32
    · rw [if_pos h1, if_pos (hB.mpr (Or.inl h1))]; exact i
    · rw [if_neg h1]
      by_cases h2 : pp_B t T p = 10
      · rw [if_pos h2, if_pos (hB.mpr (Or.inr h2))]; exact i
      · rw [if_neg h2, if_neg (fun q => (hB.mp q).elim h1 h2)]
theorem pp_skC1 {x : CS} {t : Nat → Nat} {T p : Nat} (h : pp_CT x t T) (hp : p ≤ T) : f_X7_behindBlanks (nI p) x = some (nI (pp_skp t T p)) :=
  pp_skC h (T - p) g_fuel p rfl hp (by have := h.2.1; unfold g_fuel; omega)
theorem pp_skM {y : MS} {t : Nat → Nat} {T : Nat} (h : pp_MT y t T) : ∀ d fuel p, d = T - p → p ≤ T → d < fuel → f_X15_skip_2 y fuel (nI p) = some (nI (pp_scn (pp_bk t T) d p)) := by
  have hT := h.2.1
  intro d
  induction d with
  | zero =>
    intro fuel p hd hp hfu
    obtain ⟨fu, rfl⟩ : ∃ fu, fuel = fu + 1 := ⟨fuel - 1, by omega⟩
    have hB := pp_B32 (p := p) h.2.2.1
    have hf := pp_bkT (t := t) (T := T) p (by omega)
    rw [hf] at hB
    have hn : ¬ (pp_B t T p = 32 ∨ pp_B t T p = 10) := fun q => absurd (hB.mpr q) (by decide)
    rw [f_X15_skip_2, pp_bM h (by omega), pp_b, pp_b, if_neg (fun q => hn (Or.inl q)), if_neg (fun q => hn (Or.inr q))]
    rfl
  | succ d ih =>
    intro fuel p hd hp hfu
    obtain ⟨fu, rfl⟩ : ∃ fu, fuel = fu + 1 := ⟨fuel - 1, by omega⟩
    have i := ih fu (p + 1) (by omega) (by omega) (by omega)
    have hB := pp_B32 (p := p) h.2.2.1
    rw [pp_scnS, f_X15_skip_2, pp_bM h (by omega), pp_b, pp_b, nI_1]
    by_cases h1 : pp_B t T p = 32
    · rw [if_pos h1, if_pos (hB.mpr (Or.inl h1))]; exact i
    · rw [if_neg h1]
      by_cases h2 : pp_B t T p = 10
      · rw [if_pos h2, if_pos (hB.mpr (Or.inr h2))]; exact i
      · rw [if_neg h2, if_neg (fun q => (hB.mp q).elim h1 h2)]
theorem pp_skM1 {y : MS} {t : Nat → Nat} {T p : Nat} (h : pp_MT y t T) (hp : p ≤ T) : f_X15_skip (nI p) y = some (nI (pp_skp t T p)) :=
  pp_skM h (T - p) g_fuel p rfl hp (by have := h.2.1; unfold g_fuel; omega)
/-! texts -/
def pp_tx (k : Nat) : List Nat := (g_byt.getD k []).map Int32.toNatClampNeg
theorem pp_txL : ∀ k, k < 72 → f_J0_length_8abf5 k = some (nI (pp_tx k).length) ∧ (pp_tx k).length ≤ 8 ∧ ∀ j, j < 8 → j < (pp_tx k).length → f_J0_charAt_5068e k (nI j) = some (nI ((pp_tx k).getD j 0)) ∧ (pp_tx k).getD j 0 < 256 := by decide +kernel
theorem pp_txT : ∀ k, k < 26 → pp_tx (46 + k) = pp_tx k := by decide +kernel
def pp_spl (t : Nat → Nat) (T : Nat) : Nat → List Nat → Bool
  | _, [] => true
  | p, c :: cs => decide (p < T ∧ t p = c) && pp_spl t T (p + 1) cs
theorem pp_splD {t : Nat → Nat} {T p j : Nat} {l : List Nat} (hj : j < l.length) : pp_spl t T (p + j) (l.drop j) = (decide (p + j < T ∧ t (p + j) = l.getD j 0) && pp_spl t T (p + (j + 1)) (l.drop (j + 1))) := by
  rw [List.drop_eq_getElem_cons hj]
  show (decide _ && _) = _
  rw [List.getD_eq_getElem?_getD, List.getElem?_eq_getElem hj]
  rfl
theorem pp_spC {x : CS} {t : Nat → Nat} {T p k : Nat} (h : pp_CT x t T) (hk : k < 46) (hp : p ≤ T) : ∀ d fuel j, d = (pp_tx k).length - j → d < fuel → j ≤ (pp_tx k).length → f_X7_spells_2 x fuel (nI p) k (nI j) = some (pp_i (pp_spl t T (p + j) ((pp_tx k).drop j))) := by
  have hT := h.2.1
  obtain ⟨l1, l2, l3⟩ := pp_txL k (by omega)
  intro d
  induction d with
  | zero =>
    intro fuel j hd hfu hj
    obtain ⟨fu, rfl⟩ : ∃ fu, fuel = fu + 1 := ⟨fuel - 1, by omega⟩
    rw [f_X7_spells_2, if_pos (by omega), l1, pp_b, if_pos (nI_le (by omega) (by omega)), List.drop_eq_nil_of_le (by omega)]
    rfl
  | succ d ih =>
    intro fuel j hd hfu hj
    obtain ⟨fu, rfl⟩ : ∃ fu, fuel = fu + 1 := ⟨fuel - 1, by omega⟩
    have i := ih fu (j + 1) (by omega) (by omega) (by omega)
    obtain ⟨c1, c2⟩ := l3 j (by omega) (by omega)
    rw [pp_splD (by omega), f_X7_spells_2, if_pos (by omega), l1, pp_b, if_neg (nI_ge (by omega) (by omega)), nI_add, pp_bC h (by omega), pp_b, if_pos (by omega), c1, pp_b, nI_1]
    unfold pp_B
    by_cases h1 : p + j < T
    · have h5 := h.2.2.1 _ h1
      rw [if_pos h1]
      by_cases h2 : t (p + j) = (pp_tx k).getD j 0
      · rw [if_pos (by rw [h2]), show decide (p + j < T ∧ t (p + j) = (pp_tx k).getD j 0) = true by simp only [decide_eq_true_eq]; exact ⟨h1, h2⟩, Bool.true_and]
        exact i
      · rw [if_neg (by rw [nI_eq (by omega) (by omega)]; exact h2), show decide (p + j < T ∧ t (p + j) = (pp_tx k).getD j 0) = false by simp only [decide_eq_false_iff_not]; exact fun q => h2 q.2, Bool.false_and]
        rfl
    · rw [if_neg h1, if_neg (fun q => absurd q.symm (pp_m1n (by omega))), show decide (p + j < T ∧ t (p + j) = (pp_tx k).getD j 0) = false by simp only [decide_eq_false_iff_not]; exact fun q => h1 q.1, Bool.false_and]
      rfl
theorem pp_spC1 {x : CS} {t : Nat → Nat} {T p k : Nat} (h : pp_CT x t T) (hk : k < 46) (hp : p ≤ T) : f_X7_spells (nI p) k x = some (pp_i (pp_spl t T p (pp_tx k))) :=
  pp_spC h hk hp ((pp_tx k).length - 0) g_fuel 0 rfl (by have := (pp_txL k (by omega)).2.1; unfold g_fuel; omega) (by omega)
theorem pp_wdM {y : MS} {t : Nat → Nat} {T p k : Nat} (h : pp_MT y t T) (hk : k < 26) (hp : p + (pp_tx k).length ≤ T) : ∀ d fuel j, d = (pp_tx k).length - j → d < fuel → j ≤ (pp_tx k).length → f_X15_isWord_13 y fuel (nI p) (nI (pp_tx k).length) (46 + k) (nI j) = some (pp_i (pp_spl t T (p + j) ((pp_tx k).drop j))) := by
  have hT := h.2.1
  obtain ⟨l1, l2, l3⟩ := pp_txL (46 + k) (by omega)
  rw [pp_txT k hk] at l1 l2 l3
  intro d
  induction d with
  | zero =>
    intro fuel j hd hfu hj
    obtain ⟨fu, rfl⟩ : ∃ fu, fuel = fu + 1 := ⟨fuel - 1, by omega⟩
    rw [f_X15_isWord_13, if_pos (nI_le (by omega) (by omega)), List.drop_eq_nil_of_le (by omega)]
    rfl
  | succ d ih =>
    intro fuel j hd hfu hj
    obtain ⟨fu, rfl⟩ : ∃ fu, fuel = fu + 1 := ⟨fuel - 1, by omega⟩
    have i := ih fu (j + 1) (by omega) (by omega) (by omega)
    obtain ⟨c1, c2⟩ := l3 j (by omega) (by omega)
    have h1 : p + j < T := by omega
    have h5 := h.2.2.1 _ h1
    rw [pp_splD (by omega), f_X15_isWord_13, if_neg (nI_ge (by omega) (by omega)), if_pos (by omega), c1, pp_b, nI_add, if_pos ((pp_ok (by omega)).mpr (by omega)), nI_clamp (by omega), h.2.2.2 _ h1, nI_1]
    by_cases h2 : t (p + j) = (pp_tx k).getD j 0
    · rw [if_pos (by rw [h2]), show decide (p + j < T ∧ t (p + j) = (pp_tx k).getD j 0) = true by simp only [decide_eq_true_eq]; exact ⟨h1, h2⟩, Bool.true_and]
      exact i
    · rw [if_neg (by rw [nI_eq (by omega) (by omega)]; exact fun q => h2 q.symm), show decide (p + j < T ∧ t (p + j) = (pp_tx k).getD j 0) = false by simp only [decide_eq_false_iff_not]; exact fun q => h2 q.2, Bool.false_and]
      rfl
theorem pp_wdM1 {y : MS} {t : Nat → Nat} {T p k s : Nat} (h : pp_MT y t T) (hk : k < 26) (hp : p + s ≤ T) : f_X15_isWord (nI p) (nI s) (46 + k) y = some (pp_i (decide ((pp_tx k).length = s) && pp_spl t T p (pp_tx k))) := by
  have hT := h.2.1
  obtain ⟨l1, l2, l3⟩ := pp_txL (46 + k) (by omega)
  rw [pp_txT k hk] at l1 l2
  unfold f_X15_isWord
  rw [if_pos (by omega), l1, pp_b]
  by_cases e : (pp_tx k).length = s
  · rw [if_pos (by rw [e]), decide_eq_true e, Bool.true_and, ← e]
    exact pp_wdM h hk (by omega) ((pp_tx k).length - 0) g_fuel 0 rfl (by unfold g_fuel; omega) (by omega)
  · rw [if_neg (by rw [nI_eq (by omega) (by omega)]; exact e), decide_eq_false e, Bool.false_and]
    rfl
