/-! the law's heap, purely: what stays, how much it grows -/
/-- nothing lies behind the next number -/
def yO (y : MS) : Prop := ∀ i, h_nx y ≤ i → h_K y i = 0
/-- room for k more cells of 600 slots -/
def yb (y : MS) (k : Nat) : Prop := h_nx y + k ≤ 500000 ∧ h_sl y + 600 * k ≤ 7000000
/-- it has grown by at most k -/
def yG (k : Nat) (y y' : MS) : Prop := h_nx y ≤ h_nx y' ∧ h_nx y' ≤ h_nx y + k ∧ h_sl y ≤ h_sl y' ∧ h_sl y' ≤ h_sl y + 600 * k ∧ (yO y → yO y')
/-- a cell is as it was -/
def ye (y y' : MS) (i : Nat) : Prop := h_K y' i = h_K y i ∧ h_I y' i = h_I y i ∧ h_R y' i = h_R y i ∧ h_N y' i = h_N y i
/-- all cells but those of P are as they were -/
def yF (P : Nat → Prop) (y y' : MS) : Prop := ∀ i, i < h_nx y → ¬ P i → ye y y' i
theorem ye.rf (y : MS) (i : Nat) : ye y y i := ⟨rfl, rfl, rfl, rfl⟩
theorem ye.tr {y z w : MS} {i : Nat} (h : ye y z i) (k : ye z w i) : ye y w i := ⟨k.1.trans h.1, k.2.1.trans h.2.1, k.2.2.1.trans h.2.2.1, k.2.2.2.trans h.2.2.2⟩
theorem yG.rf (y : MS) : yG 0 y y := ⟨Nat.le_refl _, Nat.le_refl _, Nat.le_refl _, Nat.le_refl _, fun h => h⟩
theorem yG.mo {a b : Nat} {y z : MS} (h : yG a y z) (hab : a ≤ b) : yG b y z := ⟨h.1, by have := h.2.1; omega, h.2.2.1, by have := h.2.2.2.1; omega, h.2.2.2.2⟩
theorem yG.tr {a b : Nat} {y z w : MS} (h : yG a y z) (k : yG b z w) : yG (a + b) y w := ⟨Nat.le_trans h.1 k.1, by have := h.2.1; have := k.2.1; omega, Nat.le_trans h.2.2.1 k.2.2.1, by have := h.2.2.2.1; have := k.2.2.2.1; omega, fun q => k.2.2.2.2 (h.2.2.2.2 q)⟩
theorem yF.rf (P : Nat → Prop) (y : MS) : yF P y y := fun i _ _ => ye.rf y i
theorem yF.tr {P : Nat → Prop} {a : Nat} {y z w : MS} (h : yF P y z) (k : yF P z w) (g : yG a y z) : yF P y w := fun i h1 h2 => (h i h1 h2).tr (k i (Nat.lt_of_lt_of_le h1 g.1) h2)
theorem yF.mo {P Q : Nat → Prop} {y z : MS} (h : yF P y z) (hPQ : ∀ i, i < h_nx y → P i → Q i) : yF Q y z := fun i h1 h2 => h i h1 (fun q => h2 (hPQ i h1 q))
theorem yb.g {a k : Nat} {y z : MS} (h : yb y k) (g : yG a y z) (hk : a ≤ k) : yb z (k - a) := by
  obtain ⟨g1, g2, g3, g4, -⟩ := g
  unfold yb at h ⊢
  omega
theorem yb.mo {a k : Nat} {y : MS} (h : yb y k) (hk : a ≤ k) : yb y a := by
  unfold yb at h ⊢
  omega
theorem yO.lt {y : MS} (h : yO y) {i : Nat} (hi : h_K y i ≠ 0) : i < h_nx y := by
  rcases Nat.lt_or_ge i (h_nx y) with q | q
  · exact q
  · exact absurd (h i q) hi
theorem yO.k {y : MS} (h : yO y) {i c : Nat} (hi : h_K y i = c + 1) : i < h_nx y := h.lt (by omega)
/-! writes -/
theorem ywi_K (y : MS) (i k : Nat) (v : Int32) (j : Nat) : h_K (h_wi y i k v) j = h_K y j := rfl
theorem ywi_R (y : MS) (i k : Nat) (v : Int32) (j : Nat) : h_R (h_wi y i k v) j = h_R y j := rfl
theorem ywi_N (y : MS) (i k : Nat) (v : Int32) (j : Nat) : h_N (h_wi y i k v) j = h_N y j := rfl
theorem ywi_nx (y : MS) (i k : Nat) (v : Int32) : h_nx (h_wi y i k v) = h_nx y := rfl
theorem ywi_sl (y : MS) (i k : Nat) (v : Int32) : h_sl (h_wi y i k v) = h_sl y := rfl
theorem ywi_I (y : MS) (i k : Nat) (v : Int32) : h_I (h_wi y i k v) i = upd (h_I y i) k v := if_pos rfl
theorem ywi_In {y : MS} {i k : Nat} {v : Int32} {j : Nat} (h : j ≠ i) : h_I (h_wi y i k v) j = h_I y j := if_neg h
theorem ywr_K (y : MS) (i k : Nat) (v j : Nat) : h_K (h_wr y i k v) j = h_K y j := rfl
theorem ywr_I (y : MS) (i k : Nat) (v j : Nat) : h_I (h_wr y i k v) j = h_I y j := rfl
theorem ywr_N (y : MS) (i k : Nat) (v j : Nat) : h_N (h_wr y i k v) j = h_N y j := rfl
theorem ywr_nx (y : MS) (i k : Nat) (v : Nat) : h_nx (h_wr y i k v) = h_nx y := rfl
theorem ywr_sl (y : MS) (i k : Nat) (v : Nat) : h_sl (h_wr y i k v) = h_sl y := rfl
theorem ywr_R (y : MS) (i k : Nat) (v : Nat) : h_R (h_wr y i k v) i = va_up (h_R y i) k v := if_pos rfl
theorem ywr_Rn {y : MS} {i k : Nat} {v : Nat} {j : Nat} (h : j ≠ i) : h_R (h_wr y i k v) j = h_R y j := if_neg h
theorem yup1 {f : Nat → Nat} {k v : Nat} : va_up f k v k = v := by simp [va_up]
theorem yup2 {f : Nat → Nat} {k v j : Nat} (h : j ≠ k) : va_up f k v j = f j := by simp [va_up, h]
theorem ywi_G (y : MS) (i k : Nat) (v : Int32) : yG 0 y (h_wi y i k v) := ⟨Nat.le_refl _, Nat.le_refl _, Nat.le_refl _, Nat.le_refl _, fun h => h⟩
theorem ywr_G (y : MS) (i k v : Nat) : yG 0 y (h_wr y i k v) := ⟨Nat.le_refl _, Nat.le_refl _, Nat.le_refl _, Nat.le_refl _, fun h => h⟩
theorem ywa_G (y : MS) (i : Nat) (f : Nat → Int32) : yG 0 y (h_wa y i f) := ⟨Nat.le_refl _, Nat.le_refl _, Nat.le_refl _, Nat.le_refl _, fun h => h⟩
theorem ywi_F {P : Nat → Prop} {y : MS} {i k : Nat} {v : Int32} (h : P i) : yF P y (h_wi y i k v) := fun j _ hj => ⟨rfl, ywi_In (fun e => hj (e ▸ h)), rfl, rfl⟩
theorem ywr_F {P : Nat → Prop} {y : MS} {i k v : Nat} (h : P i) : yF P y (h_wr y i k v) := fun j _ hj => ⟨rfl, rfl, ywr_Rn (fun e => hj (e ▸ h)), rfl⟩
theorem ywa_F {P : Nat → Prop} {y : MS} {i : Nat} {f : Nat → Int32} (h : P i) : yF P y (h_wa y i f) := fun j _ hj => ⟨rfl, if_neg (fun e : j = i => hj (e ▸ h)), rfl, rfl⟩
theorem ywi_G' {a : Nat} {y z : MS} {i k : Nat} {v : Int32} (h : yG a y z) : yG a y (h_wi z i k v) := (h.tr (ywi_G z i k v)).mo (by omega)
theorem ywr_G' {a : Nat} {y z : MS} {i k v : Nat} (h : yG a y z) : yG a y (h_wr z i k v) := (h.tr (ywr_G z i k v)).mo (by omega)
/-! a new cell -/
section YN
variable {y : MS} {c n sl : Nat} {f : Nat → Int32} {r : Nat → Nat}
theorem yn_nx : h_nx (h_new y c f r n sl) = h_nx y + 1 := rfl
theorem yn_sl : h_sl (h_new y c f r n sl) = h_sl y + sl := rfl
theorem yn_K : h_K (h_new y c f r n sl) (h_nx y) = c := if_pos rfl
theorem yn_I : h_I (h_new y c f r n sl) (h_nx y) = f := if_pos rfl
theorem yn_R : h_R (h_new y c f r n sl) (h_nx y) = r := if_pos rfl
theorem yn_N : h_N (h_new y c f r n sl) (h_nx y) = n := if_pos rfl
theorem yn_o {i : Nat} (h : i < h_nx y) : ye y (h_new y c f r n sl) i := ⟨if_neg (by omega), if_neg (by omega), if_neg (by omega), if_neg (by omega)⟩
theorem yn_F (P : Nat → Prop) : yF P y (h_new y c f r n sl) := fun i hi _ => yn_o hi
theorem yn_G {k : Nat} (h1 : 1 ≤ k) (h2 : sl ≤ 600 * k) : yG k y (h_new y c f r n sl) := ⟨by rw [yn_nx]; omega, by rw [yn_nx]; omega, by rw [yn_sl]; omega, by rw [yn_sl]; omega, fun h i hi => by
  rw [yn_nx] at hi
  show (if i = h_nx y then c else h_K y i) = 0
  rw [if_neg (by omega)]
  exact h i (by omega)⟩
theorem yn_rm {k : Nat} (h : yb y k) (h1 : 1 ≤ k) (h2 : n ≤ 600 * k) : h_rm y n = true := by
  unfold h_rm h_cap h_scap
  unfold yb at h
  exact decide_eq_true ⟨by omega, by omega⟩
end YN
theorem yx_G {y : MS} {n sl k : Nat} (h1 : n ≤ k) (h2 : sl ≤ 600 * k) : yG k y (h_ex y n sl) := ⟨by show h_nx y ≤ h_nx y + n; omega, by show h_nx y + n ≤ _; omega, by show h_sl y ≤ h_sl y + sl; omega, by show h_sl y + sl ≤ _; omega, fun h i hi => h i (by change h_nx y + n ≤ i at hi; omega)⟩
theorem yx_F (P : Nat → Prop) {y : MS} {n sl : Nat} : yF P y (h_ex y n sl) := fun i _ _ => ⟨rfl, rfl, rfl, rfl⟩
theorem ynb1 : vp_nar .boolean (1 : Int32) = 1 := rfl
theorem ynb0 : vp_nar .boolean (0 : Int32) = 0 := rfl
