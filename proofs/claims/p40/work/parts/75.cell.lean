/-! the law's way from behind: one cell, a row, all -/
theorem pg_G {k : Nat → Nat → Option Nat} (hk : ∀ i j c, k i j = some c → c % 100 = 1 ∧ c / 100 ≤ 40) : ∀ i j, i + j ≤ 58 → pg k i j = pp_F ∨ pp_gd (i + j + 1) (pg k i j) := by
  have key : ∀ {i j a b : Nat}, b ≤ 59 → (a = pp_F ∨ pp_gd b a) → pg_e k i j a = pp_F ∨ pp_gd (b + 1) (pg_e k i j a) := by
    intro i j a b hb ha
    unfold pg_e
    cases hc : k i j with
    | none => exact Or.inl rfl
    | some c =>
      obtain ⟨h1, h2⟩ := hk i j c hc
      show min pp_F (a + c) = pp_F ∨ pp_gd (b + 1) (min pp_F (a + c))
      rcases ha with ha | ⟨g1, g2⟩
      · exact Or.inl (by omega)
      · right
        have h3 : a + c < pp_F := by unfold pp_F; omega
        rw [Nat.min_eq_right (by omega)]
        unfold pp_gd
        omega
  intro i
  induction i with
  | zero =>
    intro j
    induction j with
    | zero =>
      intro _
      rw [pg00]
      exact key (a := 0) (b := 0) (by omega) (Or.inr ⟨by omega, by omega⟩)
    | succ j ih =>
      intro h
      rw [pg01]
      exact key (b := 0 + j + 1) (by omega) (ih (by omega))
  | succ i ihi =>
    intro j
    induction j with
    | zero =>
      intro h
      rw [pg10]
      have := key (i := i + 1) (j := 0) (b := i + 0 + 1) (by omega) (ihi 0 (by omega))
      rw [show i + 1 + 0 + 1 = i + 0 + 1 + 1 by omega]
      exact this
    | succ j ih =>
      intro h
      rw [pg11]
      have h1 := ihi (j + 1) (by omega)
      have h2 := ih (by omega)
      have h3 := ihi j (by omega)
      have mono : ∀ {a b c : Nat}, b ≤ c → (a = pp_F ∨ pp_gd b a) → (a = pp_F ∨ pp_gd c a) := fun hbc q => q.imp id (fun z => ⟨by have := z.1; omega, by have := z.2; omega⟩)
      have mn : ∀ {a b c : Nat}, (a = pp_F ∨ pp_gd c a) → (b = pp_F ∨ pp_gd c b) → (min a b = pp_F ∨ pp_gd c (min a b)) := by
        intro a b c q1 q2
        rcases Nat.le_total a b with q | q
        · rw [Nat.min_eq_left q]; exact q1
        · rw [Nat.min_eq_right q]; exact q2
      have h4 := key (i := i + 1) (j := j + 1) (b := i + (j + 1) + 1) (by omega) (mn (mn h1 (mono (by omega) h2)) (mono (by omega) h3))
      rw [show i + 1 + (j + 1) + 1 = i + (j + 1) + 1 + 1 by omega]
      exact h4
theorem yw_apart {p q : Nat} (hp : p ≤ 40) (hq : q ≤ 40) : f_l_X16_apart (nI p) (nI q) = some (nI (pp_cp p q)) := by
  unfold f_l_X16_apart f_l_X16_apart_10 pp_cp
  have z : ∀ {a : Nat}, a ≤ 40 → ((nI a = (0 : Int32)) ↔ a = 0) := fun {a} ha => nI_eq (a := a) (b := 0) (by omega) (by omega)
  by_cases h0 : p = 0
  · subst h0
    rw [if_pos (show nI 0 = (0 : Int32) from rfl)]
    by_cases h1 : q = 0
    · subst h1; rfl
    · rw [if_neg (fun e => h1 ((z hq).mp e)), if_pos (show nI 0 = (0 : Int32) from rfl), if_neg (fun e => h1 e.symm), if_pos (Or.inl rfl)]
      rfl
  · rw [if_neg (fun e => h0 ((z hp).mp e)), if_neg (fun e => h0 ((z hp).mp e))]
    by_cases h1 : q = 0
    · subst h1
      rw [if_pos (show nI 0 = (0 : Int32) from rfl), if_neg h0, if_pos (Or.inr rfl)]
      rfl
    · rw [if_neg (fun e => h1 ((z hq).mp e))]
      by_cases h2 : q ≤ p
      · rw [if_pos (nI_le h2 (by omega)), pk_sub h2]
        by_cases h3 : p = q
        · rw [if_pos h3, h3, Nat.sub_self]
        · rw [if_neg h3, if_neg (by omega)]
          congr 2
          omega
      · rw [if_neg (nI_ge (by omega) (by omega)), pk_sub (by omega), if_neg (by omega), if_neg (by omega)]
        congr 2
        omega
/-- the least way from (i, j) to the end, in the law's own words -/
def yk (c : Nat → Nat → Nat) (w n m : Nat) : Nat → Nat → Option Nat := fun a b => pg_k c w (n - 1 - a) (m - 1 - b)
def yp (c : Nat → Nat → Nat) (w n m i j : Nat) : Nat := pg (yk c w n m) (n - 1 - i) (m - 1 - j)
theorem yp_B {c : Nat → Nat → Nat} {w n m : Nat} (hc : ∀ i j, c i j ≤ 40) (hn : n ≤ 24) (hm : m ≤ 24) (i j : Nat) : yp c w n m i j = pp_F ∨ (yp c w n m i j / 100 ≤ 3900 ∧ yp c w n m i j % 100 ≤ 50) := by
  rcases pg_G (k := yk c w n m) (fun a b d h => by
    unfold yk pg_k at h
    split at h
    · cases h
      have := hc (n - 1 - a) (m - 1 - b)
      omega
    · cases h) (n - 1 - i) (m - 1 - j) (by omega) with h | ⟨h1, h2⟩
  · exact Or.inl h
  · exact Or.inr ⟨by unfold yp; omega, by unfold yp; omega⟩
theorem yp_out {c : Nat → Nat → Nat} {w n m i j : Nat} (hi : i < n) (hj : j < m) (h : w < pp_ad i j) : yp c w n m i j = pp_F := by
  have h0 : ∀ a, pg_e (yk c w n m) (n - 1 - i) (m - 1 - j) a = pp_F := fun a => by
    unfold pg_e yk pg_k
    rw [show n - 1 - (n - 1 - i) = i by omega, show m - 1 - (m - 1 - j) = j by omega, if_neg (by omega)]
  unfold yp
  cases h1 : n - 1 - i with
  | zero => cases h2 : m - 1 - j with
    | zero => rw [pg00]; rw [h1, h2] at h0; exact h0 _
    | succ b => rw [pg01]; rw [h1, h2] at h0; exact h0 _
  | succ a => cases h2 : m - 1 - j with
    | zero => rw [pg10]; rw [h1, h2] at h0; exact h0 _
    | succ b => rw [pg11]; rw [h1, h2] at h0; exact h0 _
theorem yp_last {c : Nat → Nat → Nat} {w n m i j : Nat} (hc : ∀ i j, c i j ≤ 40) (hi : i + 1 = n) (hj : j + 1 = m) (h : pp_ad i j ≤ w) : yp c w n m i j = 100 * c i j + 1 := by
  unfold yp
  rw [show n - 1 - i = 0 by omega, show m - 1 - j = 0 by omega, pg00]
  unfold pg_e yk pg_k
  rw [show n - 1 - 0 = i by omega, show m - 1 - 0 = j by omega, if_pos h]
  show min pp_F (0 + (100 * c i j + 1)) = _
  have := hc i j
  unfold pp_F
  omega
/-- what a further cell gives, none beyond the rows -/
def yx (c : Nat → Nat → Nat) (w n m i j : Nat) : Nat := if i < n ∧ j < m then yp c w n m i j else pp_F
theorem yp_mid {c : Nat → Nat → Nat} {w n m i j : Nat} (hc : ∀ i j, c i j ≤ 40) (hn : n ≤ 24) (hm : m ≤ 24) (hi : i < n) (hj : j < m) (hne : ¬ (i + 1 = n ∧ j + 1 = m)) (h : pp_ad i j ≤ w) : yp c w n m i j = yM (c i j) (yx c w n m (i + 1) (j + 1)) (yM (c i j) (yx c w n m i (j + 1)) (yM (c i j) (yx c w n m (i + 1) j) pp_F)) := by
  have ho := hc i j
  have h0 : ∀ a, pg_e (yk c w n m) (n - 1 - i) (m - 1 - j) a = min pp_F (a + (100 * c i j + 1)) := fun a => by
    unfold pg_e yk pg_k
    rw [show n - 1 - (n - 1 - i) = i by omega, show m - 1 - (m - 1 - j) = j by omega, if_pos h]
  have b1 := yp_B (c := c) (w := w) hc hn hm (i + 1) j
  have b2 := yp_B (c := c) (w := w) hc hn hm i (j + 1)
  have b3 := yp_B (c := c) (w := w) hc hn hm (i + 1) (j + 1)
  have hF : pp_F = 536870912 := rfl
  unfold yx
  by_cases e1 : i + 1 < n
  · have a1 : n - 1 - i = (n - 1 - (i + 1)) + 1 := by omega
    by_cases e2 : j + 1 < m
    · have a2 : m - 1 - j = (m - 1 - (j + 1)) + 1 := by omega
      rw [if_pos (show i + 1 < n ∧ j + 1 < m from ⟨e1, e2⟩), if_pos (show i < n ∧ j + 1 < m from ⟨hi, e2⟩), if_pos (show i + 1 < n ∧ j < m from ⟨e1, hj⟩)]
      have e : yp c w n m i j = min pp_F (min (min (yp c w n m (i + 1) j) (yp c w n m i (j + 1))) (yp c w n m (i + 1) (j + 1)) + (100 * c i j + 1)) := by
        rw [← h0]
        unfold yp
        rw [a1, a2, pg11]
      rw [e]
      unfold yM
      repeat' split
      all_goals omega
    · have e3 : j + 1 = m := by omega
      have a2 : m - 1 - j = 0 := by omega
      rw [if_neg (show ¬ (i + 1 < n ∧ j + 1 < m) by omega), if_neg (show ¬ (i < n ∧ j + 1 < m) by omega), if_pos (show i + 1 < n ∧ j < m from ⟨e1, hj⟩)]
      have e : yp c w n m i j = min pp_F (yp c w n m (i + 1) j + (100 * c i j + 1)) := by
        rw [← h0]
        unfold yp
        rw [a1, a2, pg10]
      rw [e]
      unfold yM
      repeat' split
      all_goals omega
  · have e3 : i + 1 = n := by omega
    have e2 : j + 1 < m := by omega
    have a1 : n - 1 - i = 0 := by omega
    have a2 : m - 1 - j = (m - 1 - (j + 1)) + 1 := by omega
    rw [if_neg (show ¬ (i + 1 < n ∧ j + 1 < m) by omega), if_pos (show i < n ∧ j + 1 < m from ⟨hi, e2⟩), if_neg (show ¬ (i + 1 < n ∧ j < m) by omega)]
    have e : yp c w n m i j = min pp_F (yp c w n m i (j + 1) + (100 * c i j + 1)) := by
      rw [← h0]
      unfold yp
      rw [a1, a2, pg01]
    rw [e]
    unfold yM
    repeat' split
    all_goals omega
