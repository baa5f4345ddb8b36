/-! least ways from both ends are the same -/
def pg_e (k : Nat → Nat → Option Nat) (i j a : Nat) : Nat := match k i j with
  | none => pp_F
  | some c => min pp_F (a + c)
def pg_0 (k : Nat → Nat → Option Nat) : Nat → Nat
  | 0 => pg_e k 0 0 0
  | j + 1 => pg_e k 0 (j + 1) (pg_0 k j)
def pg_S (k : Nat → Nat → Option Nat) (i : Nat) (p : Nat → Nat) : Nat → Nat
  | 0 => pg_e k (i + 1) 0 (p 0)
  | j + 1 => pg_e k (i + 1) (j + 1) (min (min (p (j + 1)) (pg_S k i p j)) (p j))
def pg (k : Nat → Nat → Option Nat) : Nat → Nat → Nat
  | 0 => pg_0 k
  | i + 1 => pg_S k i (pg k i)
theorem pg00 {k : Nat → Nat → Option Nat} : pg k 0 0 = pg_e k 0 0 0 := rfl
theorem pg01 {k : Nat → Nat → Option Nat} {j : Nat} : pg k 0 (j + 1) = pg_e k 0 (j + 1) (pg k 0 j) := rfl
theorem pg10 {k : Nat → Nat → Option Nat} {i : Nat} : pg k (i + 1) 0 = pg_e k (i + 1) 0 (pg k i 0) := rfl
theorem pg11 {k : Nat → Nat → Option Nat} {i j : Nat} : pg k (i + 1) (j + 1) = pg_e k (i + 1) (j + 1) (min (min (pg k i (j + 1)) (pg k (i + 1) j)) (pg k i j)) := rfl
theorem pg_eF {k : Nat → Nat → Option Nat} {i j a : Nat} : pg_e k i j a ≤ pp_F := by
  unfold pg_e
  split <;> omega
theorem pgF {k : Nat → Nat → Option Nat} (i j : Nat) : pg k i j ≤ pp_F := by
  cases i with
  | zero => cases j with
    | zero => exact pg_eF
    | succ j => exact pg_eF
  | succ i => cases j with
    | zero => exact pg_eF
    | succ j => exact pg_eF
/-- one step on -/
def pg_su (i' j' i j : Nat) : Prop := (i = i' + 1 ∧ j = j') ∨ (i = i' ∧ j = j' + 1) ∨ (i = i' + 1 ∧ j = j' + 1)
/-- a way of l steps more from a to b, with what it costs -/
def pg_w (k : Nat → Nat → Option Nat) : Nat → Nat → Nat → Nat → Nat → Nat → Prop
  | 0, a1, a2, b1, b2, v => a1 = b1 ∧ a2 = b2 ∧ k b1 b2 = some v
  | l + 1, a1, a2, b1, b2, v => ∃ c1 c2 u c, pg_su c1 c2 b1 b2 ∧ pg_w k l a1 a2 c1 c2 u ∧ k b1 b2 = some c ∧ v = u + c
theorem pg_pre {k : Nat → Nat → Option Nat} {x1 x2 a1 a2 c : Nat} (hs : pg_su x1 x2 a1 a2) (hc : k x1 x2 = some c) : ∀ l b1 b2 v, pg_w k l a1 a2 b1 b2 v → pg_w k (l + 1) x1 x2 b1 b2 (c + v) := by
  intro l
  induction l with
  | zero =>
    intro b1 b2 v h
    obtain ⟨rfl, rfl, h⟩ := h
    exact ⟨x1, x2, c, v, hs, ⟨rfl, rfl, hc⟩, h, rfl⟩
  | succ l ih =>
    intro b1 b2 v h
    obtain ⟨c1, c2, u, d, h1, h2, h3, rfl⟩ := h
    exact ⟨c1, c2, c + u, d, h1, ih c1 c2 u h2, h3, by omega⟩
theorem pg_box {k : Nat → Nat → Option Nat} {a1 a2 : Nat} : ∀ l b1 b2 v, pg_w k l a1 a2 b1 b2 v → a1 ≤ b1 ∧ a2 ≤ b2 := by
  intro l
  induction l with
  | zero =>
    intro b1 b2 v h
    obtain ⟨rfl, rfl, -⟩ := h
    exact ⟨Nat.le_refl _, Nat.le_refl _⟩
  | succ l ih =>
    intro b1 b2 v h
    obtain ⟨c1, c2, u, d, h1, h2, -, -⟩ := h
    have := ih c1 c2 u h2
    unfold pg_su at h1
    omega
theorem pg_rv {k q : Nat → Nat → Option Nat} {N M : Nat} (hq : ∀ i j, i ≤ N → j ≤ M → q i j = k (N - i) (M - j)) {a1 a2 : Nat} : ∀ l b1 b2 v, b1 ≤ N → b2 ≤ M → pg_w k l a1 a2 b1 b2 v → pg_w q l (N - b1) (M - b2) (N - a1) (M - a2) v := by
  intro l
  induction l with
  | zero =>
    intro b1 b2 v h1 h2 h
    obtain ⟨rfl, rfl, h⟩ := h
    refine ⟨rfl, rfl, ?_⟩
    rw [hq _ _ (by omega) (by omega), show N - (N - a1) = a1 by omega, show M - (M - a2) = a2 by omega]
    exact h
  | succ l ih =>
    intro b1 b2 v h1 h2 h
    obtain ⟨c1, c2, u, d, g1, g2, g3, rfl⟩ := h
    unfold pg_su at g1
    have h3 := ih c1 c2 u (by omega) (by omega) g2
    have h4 := pg_pre (k := q) (x1 := N - b1) (x2 := M - b2) (c := d) (by unfold pg_su; omega) (by rw [hq _ _ (by omega) (by omega), show N - (N - b1) = b1 by omega, show M - (M - b2) = b2 by omega]; exact g3) l _ _ _ h3
    rw [Nat.add_comm u d]
    exact h4
theorem pg_le {k : Nat → Nat → Option Nat} : ∀ l i j v, pg_w k l 0 0 i j v → pg k i j ≤ v := by
  intro l
  induction l with
  | zero =>
    intro i j v h
    obtain ⟨h1, h2, h⟩ := h
    subst h1 h2
    rw [pg00]
    unfold pg_e
    rw [h]
    show min pp_F (0 + v) ≤ v
    omega
  | succ l ih =>
    intro i j v h
    obtain ⟨c1, c2, u, d, h1, h2, h3, rfl⟩ := h
    have h4 := ih c1 c2 u h2
    have key : ∀ a, a ≤ u → pg_e k i j a ≤ u + d := by
      intro a ha
      unfold pg_e
      rw [h3]
      show min pp_F (a + d) ≤ u + d
      omega
    cases i with
    | zero => cases j with
      | zero => unfold pg_su at h1; omega
      | succ j =>
        rw [pg01]
        obtain ⟨e1, e2⟩ : c1 = 0 ∧ c2 = j := by unfold pg_su at h1; omega
        subst e1 e2
        exact key _ h4
    | succ i => cases j with
      | zero =>
        rw [pg10]
        obtain ⟨e1, e2⟩ : c1 = i ∧ c2 = 0 := by unfold pg_su at h1; omega
        subst e1 e2
        exact key _ h4
      | succ j =>
        rw [pg11]
        refine key _ ?_
        have h5 : (c1 = i ∧ c2 = j + 1) ∨ (c1 = i + 1 ∧ c2 = j) ∨ (c1 = i ∧ c2 = j) := by unfold pg_su at h1; omega
        rcases h5 with ⟨rfl, rfl⟩ | ⟨rfl, rfl⟩ | ⟨rfl, rfl⟩ <;> omega
theorem pg_ex {k : Nat → Nat → Option Nat} : ∀ i j, pg k i j = pp_F ∨ ∃ l, pg_w k l 0 0 i j (pg k i j) := by
  have key : ∀ {i j a c1 c2 : Nat}, pg_su c1 c2 i j → (a = pp_F ∨ ∃ l, pg_w k l 0 0 c1 c2 a) → pg k i j = pg_e k i j a → pg k i j = pp_F ∨ ∃ l, pg_w k l 0 0 i j (pg k i j) := by
    intro i j a c1 c2 hs ha he
    rw [he]
    unfold pg_e
    cases hk : k i j with
    | none => exact Or.inl rfl
    | some d =>
      show min pp_F (a + d) = pp_F ∨ ∃ l, pg_w k l 0 0 i j (min pp_F (a + d))
      rcases ha with ha | ⟨l, hl⟩
      · exact Or.inl (by omega)
      · rcases Nat.lt_or_ge (a + d) pp_F with h | h
        · right
          refine ⟨l + 1, c1, c2, a, d, hs, hl, hk, by omega⟩
        · exact Or.inl (by omega)
  intro i
  induction i with
  | zero =>
    intro j
    induction j with
    | zero =>
      rw [pg00]
      unfold pg_e
      cases hk : k 0 0 with
      | none => exact Or.inl rfl
      | some d =>
        show min pp_F (0 + d) = pp_F ∨ ∃ l, pg_w k l 0 0 0 0 (min pp_F (0 + d))
        rcases Nat.lt_or_ge d pp_F with h | h
        · right
          refine ⟨0, rfl, rfl, ?_⟩
          rw [hk]
          congr 1
          omega
        · exact Or.inl (by omega)
    | succ j ih => exact key (c1 := 0) (c2 := j) (Or.inr (Or.inl ⟨rfl, rfl⟩)) ih pg01
  | succ i ihi =>
    intro j
    induction j with
    | zero => exact key (c1 := i) (c2 := 0) (Or.inl ⟨rfl, rfl⟩) (ihi 0) pg10
    | succ j ih =>
      have h1 := ihi (j + 1)
      have h2 := ih
      have h3 := ihi j
      rcases Nat.le_total (pg k i (j + 1)) (pg k (i + 1) j) with q1 | q1
      · rcases Nat.le_total (pg k i (j + 1)) (pg k i j) with q2 | q2
        · exact key (c1 := i) (c2 := j + 1) (Or.inl ⟨rfl, rfl⟩) h1 (by rw [pg11]; congr 1; omega)
        · exact key (c1 := i) (c2 := j) (Or.inr (Or.inr ⟨rfl, rfl⟩)) h3 (by rw [pg11]; congr 1; omega)
      · rcases Nat.le_total (pg k (i + 1) j) (pg k i j) with q2 | q2
        · exact key (c1 := i + 1) (c2 := j) (Or.inr (Or.inl ⟨rfl, rfl⟩)) h2 (by rw [pg11]; congr 1; omega)
        · exact key (c1 := i) (c2 := j) (Or.inr (Or.inr ⟨rfl, rfl⟩)) h3 (by rw [pg11]; congr 1; omega)
theorem pg_half {k q : Nat → Nat → Option Nat} {N M : Nat} (hq : ∀ i j, i ≤ N → j ≤ M → q i j = k (N - i) (M - j)) : pg q N M ≤ pg k N M := by
  rcases pg_ex (k := k) N M with h | ⟨l, h⟩
  · rw [h]; exact pgF _ _
  · have h1 := pg_rv hq l N M _ (Nat.le_refl _) (Nat.le_refl _) h
    rw [Nat.sub_self, Nat.sub_self] at h1
    exact pg_le l _ _ _ h1
/-- from behind as from ahead -/
theorem pg_rev {k q : Nat → Nat → Option Nat} {N M : Nat} (hq : ∀ i j, i ≤ N → j ≤ M → q i j = k (N - i) (M - j)) : pg q N M = pg k N M := by
  refine Nat.le_antisymm (pg_half hq) (pg_half (fun i j hi hj => ?_))
  rw [hq _ _ (by omega) (by omega), show N - (N - i) = i by omega, show M - (M - j) = j by omega]
/-- the class's least ways are such -/
def pg_k (c : Nat → Nat → Nat) (w i j : Nat) : Option Nat := if pp_ad i j ≤ w then some (100 * c i j + 1) else none
theorem pg_ce {c : Nat → Nat → Nat} {w i j a : Nat} : pg_e (pg_k c w) i j a = pp_ce c w i j a := by
  unfold pg_e pg_k pp_ce
  by_cases h : pp_ad i j ≤ w
  · rw [if_pos h, if_pos h]
  · rw [if_neg h, if_neg h]
theorem pg_wy {c : Nat → Nat → Nat} {w : Nat} : ∀ i j, pg (pg_k c w) i j = pp_wy c w i j := by
  intro i
  induction i with
  | zero =>
    intro j
    induction j with
    | zero => rw [pg00, pp_w00, pg_ce]
    | succ j ih => rw [pg01, pp_w01, pg_ce, ih]
  | succ i ihi =>
    intro j
    induction j with
    | zero => rw [pg10, pp_w10, pg_ce, ihi]
    | succ j ih => rw [pg11, pp_w11, pg_ce, ih, ihi, ihi]
