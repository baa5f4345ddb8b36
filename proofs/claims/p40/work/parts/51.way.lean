/-! ways, as numbers: the least of cost and steps; unreached is pp_F -/
def pp_F : Nat := 536870912
def pp_ad (i j : Nat) : Nat := (i - j) + (j - i)
def pp_ce (c : Nat → Nat → Nat) (w i j a : Nat) : Nat := if pp_ad i j ≤ w then min pp_F (a + (100 * c i j + 1)) else pp_F
def pp_r0 (c : Nat → Nat → Nat) (w : Nat) : Nat → Nat
  | 0 => pp_ce c w 0 0 0
  | j + 1 => pp_ce c w 0 (j + 1) (pp_r0 c w j)
def pp_rS (c : Nat → Nat → Nat) (w i : Nat) (p : Nat → Nat) : Nat → Nat
  | 0 => pp_ce c w (i + 1) 0 (p 0)
  | j + 1 => pp_ce c w (i + 1) (j + 1) (min (min (p (j + 1)) (pp_rS c w i p j)) (p j))
def pp_wy (c : Nat → Nat → Nat) (w : Nat) : Nat → Nat → Nat
  | 0 => pp_r0 c w
  | i + 1 => pp_rS c w i (pp_wy c w i)
theorem pp_w00 {c : Nat → Nat → Nat} {w : Nat} : pp_wy c w 0 0 = pp_ce c w 0 0 0 := rfl
theorem pp_w01 {c : Nat → Nat → Nat} {w j : Nat} : pp_wy c w 0 (j + 1) = pp_ce c w 0 (j + 1) (pp_wy c w 0 j) := rfl
theorem pp_w10 {c : Nat → Nat → Nat} {w i : Nat} : pp_wy c w (i + 1) 0 = pp_ce c w (i + 1) 0 (pp_wy c w i 0) := rfl
theorem pp_w11 {c : Nat → Nat → Nat} {w i j : Nat} : pp_wy c w (i + 1) (j + 1) = pp_ce c w (i + 1) (j + 1) (min (min (pp_wy c w i (j + 1)) (pp_wy c w (i + 1) j)) (pp_wy c w i j)) := rfl
theorem pp_ceF {c : Nat → Nat → Nat} {w i j a : Nat} : pp_ce c w i j a ≤ pp_F := by
  unfold pp_ce
  split
  · exact Nat.min_le_left _ _
  · exact Nat.le_refl _
theorem pp_wF {c : Nat → Nat → Nat} {w : Nat} : ∀ i j, pp_wy c w i j ≤ pp_F := by
  intro i j
  cases i with
  | zero => cases j with
    | zero => rw [pp_w00]; exact pp_ceF
    | succ j => rw [pp_w01]; exact pp_ceF
  | succ i => cases j with
    | zero => rw [pp_w10]; exact pp_ceF
    | succ j => rw [pp_w11]; exact pp_ceF
theorem pp_wO {c : Nat → Nat → Nat} {w : Nat} : ∀ i j, w < pp_ad i j → pp_wy c w i j = pp_F := by
  have h : ∀ i j a, w < pp_ad i j → pp_ce c w i j a = pp_F := fun i j a h => if_neg (by omega)
  intro i j
  cases i with
  | zero => cases j with
    | zero => exact h _ _ _
    | succ j => exact h _ _ _
  | succ i => cases j with
    | zero => exact h _ _ _
    | succ j => exact h _ _ _
/-- reached, behind at most b steps -/
def pp_gd (b v : Nat) : Prop := v % 100 ≤ b ∧ v / 100 ≤ 40 * b
theorem pp_gdm {b v v2 : Nat} (hb : b ≤ 60) (h : pp_gd b v) (h2 : v2 = pp_F ∨ pp_gd b v2) : pp_gd b (min v v2) ∧ pp_gd b (min v2 v) := by
  unfold pp_gd pp_F at *
  rcases h2 with h2 | h2 <;> omega
theorem pp_gds {c : Nat → Nat → Nat} {w i j a b : Nat} (hc : c i j ≤ 40) (hw : pp_ad i j ≤ w) (hb : b ≤ 60) (h : pp_gd b a) : pp_gd (b + 1) (pp_ce c w i j a) := by
  unfold pp_ce
  rw [if_pos hw]
  unfold pp_gd pp_F at *
  omega
theorem pp_gdu {a b v : Nat} (h : pp_gd a v) (hab : a ≤ b) : pp_gd b v := by
  unfold pp_gd at *
  omega
theorem pp_gdF {b v : Nat} (h : pp_gd b v) (hb : b ≤ 61) : v < 300000 := by
  unfold pp_gd at h
  omega
theorem pp_wG {c : Nat → Nat → Nat} {w : Nat} (hc : ∀ i j, c i j ≤ 40) : ∀ i j, i + j ≤ 60 → pp_ad i j ≤ w → pp_gd (i + j + 1) (pp_wy c w i j) := by
  intro i
  induction i with
  | zero =>
    intro j
    induction j with
    | zero => exact fun _ hw => pp_gds (hc _ _) hw (by omega) (by unfold pp_gd; omega)
    | succ j ih =>
      intro hj hw
      have h1 : pp_ad 0 j ≤ w := by unfold pp_ad at *; omega
      rw [pp_w01]
      exact pp_gds (hc _ _) hw (by omega) (ih (by omega) h1)
  | succ i ihi =>
    intro j
    induction j with
    | zero =>
      intro hj hw
      have h1 : pp_ad i 0 ≤ w := by unfold pp_ad at *; omega
      rw [pp_w10]
      exact pp_gdu (pp_gds (hc _ _) hw (by omega) (ihi 0 (by omega) h1)) (by omega)
    | succ j ih =>
      intro hj hw
      have h1 : pp_ad i j ≤ w := by unfold pp_ad at *; omega
      have hd : pp_gd (i + 1 + j + 1) (pp_wy c w i j) := pp_gdu (ihi j (by omega) h1) (by omega)
      have hu : pp_wy c w i (j + 1) = pp_F ∨ pp_gd (i + 1 + j + 1) (pp_wy c w i (j + 1)) := by
        rcases Nat.lt_or_ge w (pp_ad i (j + 1)) with h | h
        · exact Or.inl (pp_wO _ _ h)
        · exact Or.inr (pp_gdu (ihi (j + 1) (by omega) h) (by omega))
      have hl : pp_wy c w (i + 1) j = pp_F ∨ pp_gd (i + 1 + j + 1) (pp_wy c w (i + 1) j) := by
        rcases Nat.lt_or_ge w (pp_ad (i + 1) j) with h | h
        · exact Or.inl (pp_wO _ _ h)
        · exact Or.inr (ih (by omega) h)
      rw [pp_w11]
      have hm : pp_gd (i + 1 + j + 1) (min (min (pp_wy c w i (j + 1)) (pp_wy c w (i + 1) j)) (pp_wy c w i j)) := by
        have h2 := (pp_gdm (by omega) hd hu).2
        have h3 := (pp_gdm (by omega) h2 hl).1
        have e : min (min (pp_wy c w i (j + 1)) (pp_wy c w (i + 1) j)) (pp_wy c w i j) = min (min (pp_wy c w i (j + 1)) (pp_wy c w i j)) (pp_wy c w (i + 1) j) := by omega
        rw [e]
        exact h3
      exact pp_gds (hc _ _) hw (by omega) hm
/-- both ways round -/
theorem pp_adC (i j : Nat) : pp_ad i j = pp_ad j i := by unfold pp_ad; omega
theorem pp_ceC {c d : Nat → Nat → Nat} {w i j a : Nat} (h : c i j = d j i) : pp_ce c w i j a = pp_ce d w j i a := by
  unfold pp_ce
  rw [h, pp_adC]
theorem pp_wC {c d : Nat → Nat → Nat} {w : Nat} (h : ∀ i j, c i j = d j i) : ∀ i j, pp_wy c w i j = pp_wy d w j i := by
  intro i
  induction i with
  | zero =>
    intro j
    induction j with
    | zero => rw [pp_w00, pp_w00]; exact pp_ceC (h _ _)
    | succ j ih => rw [pp_w01, pp_w10, ih, pp_ceC (h _ _)]
  | succ i ihi =>
    intro j
    induction j with
    | zero => rw [pp_w10, pp_w01, ihi, pp_ceC (h _ _)]
    | succ j ih => rw [pp_w11, pp_w11, ihi, ihi, ih, pp_ceC (h _ _), Nat.min_comm (pp_wy d w (j + 1) i) _]
/-- only the costs of the steps that can be taken matter -/
theorem pp_wE {c d : Nat → Nat → Nat} {w n m : Nat} (h : ∀ i j, i < n → j < m → c i j = d i j) : ∀ i j, i < n → j < m → pp_wy c w i j = pp_wy d w i j := by
  have hc : ∀ i j a, i < n → j < m → pp_ce c w i j a = pp_ce d w i j a := fun i j a hi hj => by unfold pp_ce; rw [h i j hi hj]
  intro i
  induction i with
  | zero =>
    intro j
    induction j with
    | zero => exact fun hi hj => hc _ _ _ hi hj
    | succ j ih => intro hi hj; rw [pp_w01, pp_w01, ih hi (by omega), hc _ _ _ hi hj]
  | succ i ihi =>
    intro j
    induction j with
    | zero => intro hi hj; rw [pp_w10, pp_w10, ihi _ (by omega) hj, hc _ _ _ hi hj]
    | succ j ih => intro hi hj; rw [pp_w11, pp_w11, ihi _ (by omega) hj, ihi _ (by omega) (by omega), ih hi (by omega), hc _ _ _ hi hj]
/-- as the class weighs: 64 for a cost in the place of 100 -/
def pp_tt (v : Nat) : Nat := if v = pp_F then 16777216 else 64 * (v / 100) + v % 100
theorem pp_ttF : pp_tt pp_F = 16777216 := if_pos rfl
theorem pp_ttg {b v : Nat} (hb : b ≤ 60) (h : pp_gd b v) : pp_tt v = 64 * (v / 100) + v % 100 ∧ pp_tt v < 16777216 := by
  have h1 : v ≠ pp_F := by have := pp_gdF h (by omega); unfold pp_F; omega
  have e : pp_tt v = 64 * (v / 100) + v % 100 := if_neg h1
  refine ⟨e, ?_⟩
  rw [e]
  unfold pp_gd at h
  omega
theorem pp_ttm {b v v2 : Nat} (hb : b ≤ 60) (h : v = pp_F ∨ pp_gd b v) (h2 : v2 = pp_F ∨ pp_gd b v2) : pp_tt (min v v2) = min (pp_tt v) (pp_tt v2) := by
  rcases h with h | h
  · rcases h2 with h2 | h2
    · rw [h, h2]; simp
    · have := pp_gdF h2 (by omega)
      obtain ⟨e, l⟩ := pp_ttg hb h2
      rw [h, Nat.min_eq_right (by unfold pp_F; omega), pp_ttF, Nat.min_eq_right (by omega)]
  · rcases h2 with h2 | h2
    · have := pp_gdF h (by omega)
      obtain ⟨e, l⟩ := pp_ttg hb h
      rw [h2, Nat.min_eq_left (by unfold pp_F; omega), pp_ttF, Nat.min_eq_left (by omega)]
    · obtain ⟨e, l⟩ := pp_ttg hb h
      obtain ⟨e2, l2⟩ := pp_ttg hb h2
      rcases Nat.le_total v v2 with hv | hv
      · rw [Nat.min_eq_left hv, e, e2]
        unfold pp_gd at h h2
        omega
      · rw [Nat.min_eq_right hv, e, e2]
        unfold pp_gd at h h2
        omega
theorem pp_tts {c : Nat → Nat → Nat} {w i j a b : Nat} (hc : c i j ≤ 40) (hw : pp_ad i j ≤ w) (hb : b ≤ 59) (h : pp_gd b a) : pp_tt (pp_ce c w i j a) = pp_tt a + (64 * c i j + 1) := by
  have h2 := pp_gds hc hw (by omega) h
  have e1 := (pp_ttg (by omega) h2).1
  have e2 := (pp_ttg (by omega) h).1
  rw [e1, e2]
  unfold pp_ce
  rw [if_pos hw]
  unfold pp_gd pp_F at *
  omega

