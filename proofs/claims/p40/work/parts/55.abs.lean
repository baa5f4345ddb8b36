/-! the state of both, as numbers: words, which are pruned, lengths, pitches, what was heard, the band -/
abbrev PV : Type := Nat × (Nat → Nat) × (Nat → Nat) × (Nat → Nat → Nat) × Nat × (Nat → Nat) × Nat
def pv_W (A : PV) : Nat := A.1
def pv_pr (A : PV) : Nat → Nat := A.2.1
def pv_ln (A : PV) : Nat → Nat := A.2.2.1
def pv_pt (A : PV) : Nat → Nat → Nat := A.2.2.2.1
def pv_hl (A : PV) : Nat := A.2.2.2.2.1
def pv_hp (A : PV) : Nat → Nat := A.2.2.2.2.2.1
def pv_g (A : PV) : Nat := A.2.2.2.2.2.2
def pv_ok (A : PV) : Prop := pv_W A ≤ 8 ∧ (∀ j, pv_pr A j ≤ 1) ∧ (∀ j, j < pv_W A → 0 < pv_ln A j) ∧ pv_g A ≤ 20
def pv_dh (A : PV) (j : Nat) : Nat := if pv_hl A = 0 then 999 else pp_D (pv_g A) (pv_pt A j) (pv_ln A j) (pv_hp A) (pv_hl A) / 100
def pp_wd (v j : Nat) : Nat := v + 1 + 4 + 3 * j
def pp_VC (A : PV) (x : CS) (v : Nat) : Prop := (v = 41 ∨ v = 91) ∧ x.1 v 2 = nI (pv_W A) ∧ (∀ j, j < pv_W A → x.1 (pp_wd v j) 1 = nI (pv_pr A j) ∧ x.1 (pp_wd v j) 2 = nI (pv_dh A j) ∧ pp_RC x (pp_wd v j + 1) (pv_pt A j) (pv_ln A j)) ∧ pp_RC x 14 (pv_hp A) (pv_hl A)
theorem pp_VC.s {A : PV} {x x1 : CS} {v : Nat} (h : pp_VC A x v) (hs : pp_Sc x x1) : pp_VC A x1 v := by
  have hv := h.1
  refine ⟨h.1, ?_, fun j hj => ⟨?_, ?_, ?_⟩, h.2.2.2.s hs (Or.inl rfl)⟩
  · rw [hs.1 v (by omega)]; exact h.2.1
  · rw [hs.1 (pp_wd v j) (by unfold pp_wd; omega)]; exact (h.2.2.1 j hj).1
  · rw [hs.1 (pp_wd v j) (by unfold pp_wd; omega)]; exact (h.2.2.1 j hj).2.1
  · exact (h.2.2.1 j hj).2.2.s hs (by unfold pp_wd; omega)
theorem pp_k9 {v : Nat} (h : v = 41 ∨ v = 91) : kd v = 9 := by rcases h with rfl | rfl <;> decide
theorem pp_k10 {v j : Nat} (h : v = 41 ∨ v = 91) (hj : j < 8) : kd (pp_wd v j) = 10 := ke28 (ko9_0 (pp_k9 h)) hj
theorem pp_k5 {v j : Nat} (h : v = 41 ∨ v = 91) (hj : j < 8) : kd (pp_wd v j + 1) = 5 := ko10_0 (pp_k10 h hj)
theorem pp_word {v j : Nat} {x : CS} (hj : j < 8) : f_X9_word v (nI j) x = some (pp_wd v j) := by
  unfold f_X9_word pp_wd
  rw [if_neg (nI_pos (by omega)), pp_lit 8, if_neg (nI_ge hj (by omega)), if_pos ((pp_ok (by omega)).mpr hj), nI_clamp (by omega)]
/-! the best of some -/
def pp_best (ok : Nat → Bool) (d : Nat → Nat) : Nat → Option Nat
  | 0 => none
  | k + 1 => if ok k = true then (match pp_best ok d k with
    | none => some k
    | some b => if d k < d b then some k else some b) else pp_best ok d k
def pp_en (o : Option Nat) : Int32 := match o with
  | none => -1
  | some b => nI b
theorem pp_m1n {k : Nat} (hk : k < 2 ^ 31) : ¬ nI k = -1 := by
  intro h
  have h1 := congrArg Int32.toInt h
  rw [nI_toInt hk] at h1
  have h2 : (-1 : Int32).toInt = -1 := by decide
  omega
theorem pp_ene {k : Nat} {o : Option Nat} (hk : k < 2 ^ 31) (ho : ∀ b, o = some b → b < 2 ^ 31) : (nI k = pp_en o) ↔ o = some k := by
  cases o with
  | none => exact ⟨fun h => absurd h (pp_m1n hk), fun h => by cases h⟩
  | some b =>
    have := ho b rfl
    unfold pp_en
    rw [nI_eq hk this]
    exact ⟨fun h => by rw [h], fun h => (Option.some.inj h).symm⟩
theorem pp_bestB {ok : Nat → Bool} {d : Nat → Nat} {b : Nat} : ∀ n, pp_best ok d n = some b → b < n ∧ ok b = true := by
  intro n
  induction n with
  | zero => intro h; cases h
  | succ n ih =>
    intro h
    unfold pp_best at h
    by_cases hk : ok n = true
    · rw [if_pos hk] at h
      cases hb : pp_best ok d n with
      | none => rw [hb] at h; cases h; exact ⟨by omega, hk⟩
      | some c =>
        rw [hb] at h
        by_cases hd : d n < d c
        · simp only [hd, if_true] at h; cases h; exact ⟨by omega, hk⟩
        · simp only [hd, if_false] at h
          rw [hb] at ih
          have := ih h
          exact ⟨by omega, this.2⟩
    · rw [if_neg hk] at h
      have := ih h
      exact ⟨by omega, this.2⟩
def pp_okf (pr : Nat → Nat) (but : Option Nat) (k : Nat) : Bool := decide (pr k = 0 ∧ but ≠ some k)
def pv_cl (A : PV) (but : Option Nat) : Option Nat := pp_best (pp_okf (pv_pr A) but) (pv_dh A) (pv_W A)
def pv_mt (A : PV) (but : Option Nat) : Option Nat := if pv_hl A = 0 then none else pv_cl A but
theorem pp_clos {A : PV} {x : CS} {v : Nat} {but : Option Nat} (hA : pv_ok A) (h : pp_VC A x v) (hb : ∀ b, but = some b → b < 2 ^ 31) (hd : ∀ j, j < pv_W A → pv_dh A j < 2 ^ 31) : ∀ d fuel k, d = pv_W A - k → d < fuel → k ≤ pv_W A → f_X9_closestKept_4 x fuel v (pp_en but) (pp_en (pp_best (pp_okf (pv_pr A) but) (pv_dh A) k)) (nI k) = some (pp_en (pv_cl A but)) := by
  have hW := hA.1
  intro d
  induction d with
  | zero =>
    intro fuel k hdd hfu hk
    obtain ⟨fu, rfl⟩ : ∃ fu, fuel = fu + 1 := ⟨fuel - 1, by omega⟩
    have e : k = pv_W A := by omega
    rw [f_X9_closestKept_4, h.2.1, if_pos (nI_le (by omega) (by omega)), e]
    rfl
  | succ d ih =>
    intro fuel k hdd hfu hk
    obtain ⟨fu, rfl⟩ : ∃ fu, fuel = fu + 1 := ⟨fuel - 1, by omega⟩
    have ih' := ih fu (k + 1) (by omega) (by omega) (by omega)
    have hkW : k < pv_W A := by omega
    obtain ⟨a1, a2, a3⟩ := h.2.2.1 k hkW
    rw [f_X9_closestKept_4, h.2.1, if_neg (nI_ge hkW (by omega)), nI_1]
    unfold pp_best at ih'
    by_cases hbk : but = some k
    · rw [if_pos ((pp_ene (by omega) hb).mpr hbk)]
      rw [if_neg (by unfold pp_okf; rw [decide_eq_true_eq]; exact fun q => q.2 hbk)] at ih'
      exact ih'
    · rw [if_neg (fun q => hbk ((pp_ene (by omega) hb).mp q)), pp_word (by omega), pp_b, if_pos (pp_k10 h.1 (by omega)), a1]
      have hp := hA.2.1 k
      by_cases hpk : pv_pr A k = 0
      · rw [if_pos (by rw [hpk]; rfl)]
        rw [if_pos (by unfold pp_okf; rw [decide_eq_true_eq]; exact ⟨hpk, hbk⟩)] at ih'
        cases hc : pp_best (pp_okf (pv_pr A) but) (pv_dh A) k with
        | none =>
          rw [hc] at ih'
          rw [if_pos (show pp_en none = -1 from rfl)]
          exact ih'
        | some c =>
          rw [hc] at ih'
          have hcb := (pp_bestB _ hc).1
          obtain ⟨c1, c2, c3⟩ := h.2.2.1 c (by omega)
          show (if nI c = -1 then _ else _) = _
          rw [if_neg (pp_m1n (by omega)), pp_b, if_pos (pp_k10 h.1 (by omega))]
          show Option.bind (f_X9_word v (nI c) x) _ = _
          rw [pp_word (by omega), pp_b, if_pos (pp_k10 h.1 (by omega)), c2, a2]
          by_cases hlt : pv_dh A k < pv_dh A c
          · rw [if_neg (nI_ge hlt (hd c (by omega)))]
            simp only [hlt, if_true] at ih'
            exact ih'
          · rw [if_pos (nI_le (by omega) (hd k hkW))]
            simp only [hlt, if_false] at ih'
            exact ih'
      · rw [if_neg (by rw [show pv_pr A k = 1 by omega]; decide)]
        rw [if_neg (by unfold pp_okf; rw [decide_eq_true_eq]; exact fun q => hpk q.1)] at ih'
        exact ih'
theorem pv_dhB {A : PV} {j : Nat} (hA : pv_ok A) (hp : ∀ k, pv_pt A j k ≤ 40) (hq : ∀ k, pv_hp A k ≤ 40) (hl : pv_ln A j ≤ 24) (hh : pv_hl A ≤ 24) (hj : j < pv_W A) : pv_dh A j < 4000 := by
  unfold pv_dh
  split
  · omega
  · have := pp_gdF (pp_DG (g := pv_g A) hp hq (hA.2.2.1 j hj) (by omega) hl hh) (by omega)
    omega
theorem pp_VC.dB {A : PV} {x : CS} {v : Nat} (hA : pv_ok A) (h : pp_VC A x v) {j : Nat} (hj : j < pv_W A) : pv_dh A j < 4000 := pv_dhB hA (h.2.2.1 j hj).2.2.2.2.1 h.2.2.2.2.2.1 (h.2.2.1 j hj).2.2.2.1 h.2.2.2.2.1 hj
theorem pp_closC {A : PV} {x : CS} {v : Nat} {but : Option Nat} (hA : pv_ok A) (h : pp_VC A x v) (hb : ∀ b, but = some b → b < 2 ^ 31) : f_X9_closestKept v (pp_en but) x = some (pp_en (pv_cl A but)) := by
  have hW := hA.1
  exact pp_clos hA h hb (fun j hj => by have := pp_VC.dB hA h hj; omega) (pv_W A - 0) g_fuel 0 rfl (by unfold g_fuel; omega) (by omega)
theorem pp_meantC {A : PV} {x : CS} {v : Nat} (hA : pv_ok A) (h : pp_VC A x v) : f_X1_meantOf v x = some (pp_en (pv_mt A none)) := by
  have hh := h.2.2.2.2.1
  unfold f_X1_meantOf pv_mt
  rw [h.2.2.2.1]
  by_cases h0 : pv_hl A = 0
  · rw [if_pos (by rw [h0]; rfl), if_pos h0]; rfl
  · rw [if_neg (nI_ne0 (by omega) (by omega)), if_neg h0, show (-1 : Int32) = pp_en none from rfl, pp_closC hA h (fun b q => by cases q), pp_b]
theorem pv_mtB {A : PV} {but : Option Nat} {b : Nat} (h : pv_mt A but = some b) : b < pv_W A ∧ pv_hl A ≠ 0 ∧ pv_pr A b = 0 ∧ but ≠ some b := by
  unfold pv_mt at h
  by_cases h0 : pv_hl A = 0
  · rw [if_pos h0] at h; cases h
  · rw [if_neg h0] at h
    obtain ⟨h1, h2⟩ := pp_bestB _ h
    unfold pp_okf at h2
    rw [decide_eq_true_eq] at h2
    exact ⟨h1, h0, h2.1, h2.2⟩
def pp_eo (d : Nat → Nat) (o : Option Nat) : Int32 := match o with
  | none => 0
  | some b => nI (d b)
/-! how many are kept -/
def pp_kn (pr : Nat → Nat) : Nat → Nat
  | 0 => 0
  | k + 1 => pp_kn pr k + (1 - pr k)
theorem pp_knB (pr : Nat → Nat) : ∀ k, pp_kn pr k ≤ k := by
  intro k
  induction k with
  | zero => exact Nat.le_refl _
  | succ k ih => unfold pp_kn; omega
theorem pp_keptC {A : PV} {x : CS} {v : Nat} (hA : pv_ok A) (h : pp_VC A x v) : f_X9_countKept v x = some (nI (pp_kn (pv_pr A) (pv_W A))) := by
  have hW := hA.1
  have key : ∀ d fuel k, d = pv_W A - k → d < fuel → k ≤ pv_W A → f_X9_countKept_4 x fuel v (nI (pp_kn (pv_pr A) k)) (nI k) = some (nI (pp_kn (pv_pr A) (pv_W A))) := by
    intro d
    induction d with
    | zero =>
      intro fuel k hdd hfu hk
      obtain ⟨fu, rfl⟩ : ∃ fu, fuel = fu + 1 := ⟨fuel - 1, by omega⟩
      have e : k = pv_W A := by omega
      rw [f_X9_countKept_4, h.2.1, if_pos (nI_le (by omega) (by omega)), e]
    | succ d ih =>
      intro fuel k hdd hfu hk
      obtain ⟨fu, rfl⟩ : ∃ fu, fuel = fu + 1 := ⟨fuel - 1, by omega⟩
      have ih' := ih fu (k + 1) (by omega) (by omega) (by omega)
      obtain ⟨a1, a2, a3⟩ := h.2.2.1 k (by omega)
      have hp := hA.2.1 k
      rw [f_X9_countKept_4, h.2.1, if_neg (nI_ge (by omega) (by omega)), pp_word (by omega), pp_b, if_pos (pp_k10 h.1 (by omega)), a1, nI_1, nI_1]
      rw [show pp_kn (pv_pr A) (k + 1) = pp_kn (pv_pr A) k + (1 - pv_pr A k) from rfl] at ih'
      by_cases hpk : pv_pr A k = 0
      · rw [if_pos (by rw [hpk]; rfl)]
        rw [hpk] at ih'
        exact ih'
      · rw [if_neg (by rw [show pv_pr A k = 1 by omega]; decide)]
        rw [show pv_pr A k = 1 by omega] at ih'
        exact ih'
  exact key (pv_W A - 0) g_fuel 0 rfl (by unfold g_fuel; omega) (by omega)
