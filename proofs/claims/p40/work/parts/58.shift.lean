/-! a row shifted, by both -/
def pp_hd (p : Nat) (d : Int32) : Nat := if p = 0 then 0 else (max 1 (min 40 ((p : Int) + d.toInt))).toNat
theorem pp_hdB (p : Nat) (d : Int32) : pp_hd p d ≤ 40 := by
  unfold pp_hd
  split <;> omega
def pp_cg (p : Nat → Nat) (d : Int32) : Nat → Nat
  | 0 => 0
  | k + 1 => if pp_hd (p k) d = p k then pp_cg p d k else 1
theorem pp_cgS (p : Nat → Nat) (d : Int32) (k : Nat) : pp_cg p d (k + 1) = if pp_hd (p k) d = p k then pp_cg p d k else 1 := rfl
theorem pp_cgB (p : Nat → Nat) (d : Int32) : ∀ k, pp_cg p d k ≤ 1 := by
  intro k
  induction k with
  | zero => exact Nat.zero_le _
  | succ k ih => unfold pp_cg; split <;> omega
theorem pp_cg0 {p : Nat → Nat} {d : Int32} : ∀ n, pp_cg p d n = 0 → ∀ k, k < n → pp_hd (p k) d = p k := by
  intro n
  induction n with
  | zero => intro _ k hk; omega
  | succ n ih =>
    intro h k hk
    unfold pp_cg at h
    by_cases h1 : pp_hd (p n) d = p n
    · rw [if_pos h1] at h
      rcases Nat.lt_or_ge k n with h2 | h2
      · exact ih h k h2
      · have e : k = n := by omega
        rw [e]; exact h1
    · rw [if_neg h1] at h; omega
theorem pp_S {p : Nat} {d : Int32} (hp : p ≤ 40) : ((nI p).toInt64 + d.toInt64).toInt = (p : Int) + d.toInt := by
  have h1 := Int32.toInt_lt d
  have h2 := Int32.le_toInt d
  rw [Int64.toInt_add, Int32.toInt_toInt64, Int32.toInt_toInt64, nI_toInt (by omega)]
  exact Int.bmod_eq_of_le (by omega) (by omega)
theorem pp_toI {v : Int64} {k : Nat} (h : v.toInt = k) (hk : k ≤ 40) : v.toInt32 = nI k := by
  apply Int32.toInt_inj.mp
  rw [Int64.toInt_toInt32, nI_toInt (by omega), h]
  exact Int.bmod_eq_of_le (by omega) (by omega)
theorem pp_l1 : (1 : Int64).toInt = 1 := by decide
theorem pp_l40 : (40 : Int64).toInt = 40 := by decide
theorem pp_cmp1 {v : Int64} : (0 ≤ lg_cmp v 1) ↔ 1 ≤ v.toInt := by
  unfold lg_cmp
  have e1 : (v > 1) ↔ 1 < v.toInt := by
    show (1 : Int64) < v ↔ _
    rw [Int64.lt_iff_toInt_lt, pp_l1]
  have e2 : (v = 1) ↔ v.toInt = 1 := by rw [← pp_l1, Int64.toInt_inj]
  by_cases h1 : v > 1
  · rw [if_pos h1]
    have := e1.mp h1
    exact ⟨fun _ => by omega, fun _ => by decide⟩
  · rw [if_neg h1]
    by_cases h2 : v = 1
    · rw [if_pos h2]
      have := e2.mp h2
      exact ⟨fun _ => by omega, fun _ => by decide⟩
    · rw [if_neg h2]
      have h1' : ¬ 1 < v.toInt := fun q => h1 (e1.mpr q)
      have h2' : ¬ v.toInt = 1 := fun q => h2 (e2.mpr q)
      exact ⟨fun h => absurd h (by decide), fun h => by omega⟩
theorem pp_cmp40 {v : Int64} : (lg_cmp v 40 ≤ 0) ↔ v.toInt ≤ 40 := by
  unfold lg_cmp
  have e1 : (v > 40) ↔ 40 < v.toInt := by
    show (40 : Int64) < v ↔ _
    rw [Int64.lt_iff_toInt_lt, pp_l40]
  have e2 : (v = 40) ↔ v.toInt = 40 := by rw [← pp_l40, Int64.toInt_inj]
  by_cases h1 : v > 40
  · rw [if_pos h1]
    have := e1.mp h1
    exact ⟨fun h => absurd h (by decide), fun _ => by omega⟩
  · rw [if_neg h1]
    have h1' : ¬ 40 < v.toInt := fun q => h1 (e1.mpr q)
    by_cases h2 : v = 40
    · rw [if_pos h2]
      have := e2.mp h2
      exact ⟨fun _ => by omega, fun _ => by decide⟩
    · rw [if_neg h2]
      exact ⟨fun _ => by omega, fun _ => by decide⟩
theorem pp_clamp {B : Type} {p : Nat} {d : Int32} (hp : p ≤ 40) (h0 : p ≠ 0) (F : Int32 → B) : (if 0 ≤ lg_cmp ((nI p).toInt64 + d.toInt64) (1 : Int64) then (if lg_cmp ((nI p).toInt64 + d.toInt64) (40 : Int64) ≤ 0 then F ((nI p).toInt64 + d.toInt64).toInt32 else F 40) else F 1) = F (nI (pp_hd p d)) := by
  have hS := pp_S (d := d) hp
  unfold pp_hd
  rw [if_neg h0]
  generalize (nI p).toInt64 + d.toInt64 = v at hS
  by_cases h1 : 1 ≤ v.toInt
  · rw [if_pos (pp_cmp1.mpr h1)]
    by_cases h2 : v.toInt ≤ 40
    · rw [if_pos (pp_cmp40.mpr h2)]
      congr 1
      exact pp_toI (by omega) (by omega)
    · rw [if_neg (fun q => h2 (pp_cmp40.mp q))]
      have : (max 1 (min 40 ((p : Int) + d.toInt))).toNat = 40 := by omega
      rw [this]
      rfl
  · rw [if_neg (fun q => h1 (pp_cmp1.mp q))]
    have : (max 1 (min 40 ((p : Int) + d.toInt))).toNat = 1 := by omega
    rw [this]
    rfl
theorem pp_01n {c : Nat} (h : c ≤ 1) : nI c = 0 ∨ nI c = 1 := by
  rcases Nat.lt_or_ge 0 c with h1 | h1
  · right; rw [show c = 1 by omega]; rfl
  · left; rw [show c = 0 by omega]; rfl
theorem pp_shC {x : CS} {t n : Nat} {p : Nat → Nat} {d : Int32} (h : pp_RC x t p n) : ∀ dd fuel k f, dd = n - k → dd < fuel → k ≤ n → (∀ j, k ≤ j → j < n → f j = nI (p j)) → (∀ j, j < k → f j = nI (pp_hd (p j) d)) → ∃ f', f_X3_shift_4 fuel t d (nI (pp_cg p d k)) (nI k) (g_wa x (t + 1) f) = some (nI (pp_cg p d n), g_wa x (t + 1) f') ∧ ∀ j, j < n → f' j = nI (pp_hd (p j) d) := by
  have hn := h.2.1
  intro dd
  induction dd with
  | zero =>
    intro fuel k f hd hfu hk h1 h2
    obtain ⟨fu, rfl⟩ : ∃ fu, fuel = fu + 1 := ⟨fuel - 1, by omega⟩
    have e : k = n := by omega
    subst e
    refine ⟨f, ?_, fun j hj => h2 j hj⟩
    rw [f_X3_shift_4, pp_c4 (by omega), h.1]
    rw [if_pos (nI_le (Nat.le_refl k) (by omega)), if_pos (pp_01n (pp_cgB p d k))]
    split <;> rfl
  | succ dd ih =>
    intro fuel k f hd hfu hk h1 h2
    obtain ⟨fu, rfl⟩ : ∃ fu, fuel = fu + 1 := ⟨fuel - 1, by omega⟩
    have b1 := h.2.2.1 k
    have hfk := h1 k (Nat.le_refl _) (by omega)
    rw [f_X3_shift_4, pp_c4 (show t ≠ t + 1 by omega), h.1, pp_lit 24, if_neg (nI_ge (by omega) (by omega)), if_neg (nI_ge (by omega) (by omega)), if_pos ((pp_ok (by omega)).mpr (by omega)), nI_clamp (by omega), pp_c3, hfk]
    have hgo : ∀ f2, (∀ j, k + 1 ≤ j → j < n → f2 j = nI (p j)) → (∀ j, j < k + 1 → f2 j = nI (pp_hd (p j) d)) → ∀ fl : Nat, fl = pp_cg p d (k + 1) → ∃ f', f_X3_shift_4 fu t d (nI fl) (nI (k + 1)) (g_wa x (t + 1) f2) = some (nI (pp_cg p d n), g_wa x (t + 1) f') ∧ ∀ j, j < n → f' j = nI (pp_hd (p j) d) := by
      intro f2 q1 q2 fl hfl
      rw [hfl]
      exact ih fu (k + 1) f2 (by omega) (by omega) (by omega) q1 q2
    by_cases h0 : p k = 0
    · rw [if_pos (by rw [h0]; rfl), nI_1]
      have e : pp_hd (p k) d = p k := by rw [h0]; rfl
      refine hgo f (fun j hj hj2 => h1 j (by omega) hj2) (fun j hj => ?_) _ (by rw [pp_cgS]; rw [if_pos e])
      rcases Nat.lt_or_ge j k with h3 | h3
      · exact h2 j h3
      · have e2 : j = k := by omega
        rw [e2, e, hfk]
    · rw [if_neg (nI_ne0 (by omega) (by omega)), pp_clamp (F := fun w => f_X3_shift_75 (f_X3_shift_4 fu) t d (nI (pp_cg p d k)) (nI k) (nI (p k)) w (nI k) (t + 1) (g_wa x (t + 1) f)) b1 h0]
      unfold f_X3_shift_75
      rw [if_pos ((pp_ok (by omega)).mpr (by omega)), nI_clamp (by omega), pp_c1, pp_c2, pp_c3, pp_c3, pp_u1, nI_1]
      have q1 : ∀ j, k + 1 ≤ j → j < n → upd f k (nI (pp_hd (p k) d)) j = nI (p j) := fun j hj hj2 => by rw [pp_u2 (by omega)]; exact h1 j (by omega) hj2
      have q2 : ∀ j, j < k + 1 → upd f k (nI (pp_hd (p k) d)) j = nI (pp_hd (p j) d) := fun j hj => by
        rcases Nat.lt_or_ge j k with h3 | h3
        · rw [pp_u2 (by omega)]; exact h2 j h3
        · have e2 : j = k := by omega
          rw [e2, pp_u1]
      have hB := pp_hdB (p k) d
      by_cases hc : pp_cg p d k = 0
      · rw [if_pos (show nI (pp_cg p d k) = 0 by rw [hc]; rfl), if_pos ((pp_ok (by omega)).mpr (by omega))]
        by_cases he : pp_hd (p k) d = p k
        · rw [if_pos (by rw [he])]
          exact hgo _ q1 q2 0 (by rw [pp_cgS]; rw [if_pos he, hc])
        · rw [if_neg (by rw [nI_eq (by omega) (by omega)]; exact he)]
          exact hgo _ q1 q2 1 (by rw [pp_cgS]; rw [if_neg he])
      · have hcB := pp_cgB p d k
        rw [if_neg (nI_ne0 (by omega) (by omega))]
        exact hgo _ q1 q2 1 (by rw [pp_cgS]; split <;> omega)
theorem pp_shiftC {x : CS} {t n : Nat} {p : Nat → Nat} {d : Int32} (h : pp_RC x t p n) : ∃ f, f_X3_shift t d x = some (nI (pp_cg p d n), g_wa x (t + 1) f) ∧ ∀ j, j < n → f j = nI (pp_hd (p j) d) := by
  have hn := h.2.1
  have := pp_shC (d := d) h (n - 0) g_fuel 0 (x.1 (t + 1)) rfl (by unfold g_fuel; omega) (by omega) (fun j _ hj => h.2.2.2 j hj) (fun j hj => absurd hj (Nat.not_lt_zero _))
  rw [pp_wae] at this
  exact this
theorem pp_or01 {c : Nat} (h : c ≤ 1) : nI c ||| 0 = nI c ∧ nI c ||| 1 = nI 1 := by
  rcases Nat.lt_or_ge 0 c with h1 | h1
  · rw [show c = 1 by omega]; decide
  · rw [show c = 0 by omega]; decide
