/-! THE PURE LAYER. Numbers: every int of both programs is nI of a natural number, or minus one of them -/
theorem pp_lit (n : Nat) : (OfNat.ofNat n : Int32) = nI n := rfl
theorem pp_ok {k n : Nat} (hk : k < 2 ^ 31) : (g_ok (nI k) n = true) ↔ k < n := by
  unfold g_ok
  rw [decide_eq_true_eq, nI_toInt hk]
  omega
theorem pp_okm {k n : Nat} (hk : k < 2 ^ 31) (h0 : 0 < k) : g_ok (-nI k) n = false := by
  unfold g_ok
  rw [decide_eq_false_iff_not, sb_negT hk]
  omega
theorem pp_min {a b : Nat} (ha : a < 2 ^ 31) (hb : b < 2 ^ 31) : g_min (nI a) (nI b) = nI (min a b) := by
  unfold g_min
  simp only [nI_ltI hb ha]
  split
  · rw [Nat.min_eq_right (by omega)]
  · rw [Nat.min_eq_left (by omega)]
theorem pp_max {a b : Nat} (ha : a < 2 ^ 31) (hb : b < 2 ^ 31) : g_max (nI a) (nI b) = nI (max a b) := by
  unfold g_max
  simp only [nI_ltI ha hb]
  split
  · rw [Nat.max_eq_right (by omega)]
  · rw [Nat.max_eq_left (by omega)]
theorem pp_toInt_sub {a b : Nat} (ha : a < 2 ^ 30) (hb : b < 2 ^ 30) : (nI a - nI b).toInt = (a : Int) - b := pk_sub_toInt ha hb
theorem pp_abs {a b : Nat} (ha : a < 2 ^ 30) (hb : b < 2 ^ 30) : g_abs (nI a - nI b) = nI ((a - b) + (b - a)) := by
  unfold g_abs
  rcases Nat.lt_or_ge a b with h | h
  · have h1 : ¬ (0 : Int32) ≤ nI a - nI b := by
      have := pk_sneg hb h
      intro h2
      have h3 : (nI a - nI b).toInt < 0 := by rw [pk_sub_toInt ha hb]; omega
      have h4 : (0 : Int32).toInt ≤ (nI a - nI b).toInt := Int32.le_iff_toInt_le.mp h2
      have h5 : (0 : Int32).toInt = 0 := rfl
      omega
    rw [if_neg h1]
    have e : a - b + (b - a) = b - a := by omega
    rw [e, ← pk_sub (Nat.le_of_lt h)]
    apply Int32.toInt_inj.mp
    have e1 : (0 : Int32) - (nI a - nI b) = nI b - nI a := by
      rw [Int32.zero_sub, Int32.neg_sub]
    rw [e1]
  · have e : a - b + (b - a) = a - b := by omega
    rw [e, pk_sub h, show (0 : Int32) = nI 0 from rfl, if_pos (nI_le (by omega) (by omega))]
theorem pp_c1 {x : CS} {i k : Nat} {v : Int32} : g_wi x i k v = g_wa x i (upd (x.1 i) k v) := rfl
theorem pp_c2 {x : CS} {i : Nat} {f g : Nat → Int32} : g_wa (g_wa x i f) i g = g_wa x i g := by
  unfold g_wa
  simp only [Prod.mk.injEq, and_true]
  funext j
  split <;> rfl
theorem pp_c3 {x : CS} {i : Nat} {f : Nat → Int32} : (g_wa x i f).1 i = f := by simp [g_wa]
theorem pp_c4 {x : CS} {i j : Nat} {f : Nat → Int32} (h : j ≠ i) : (g_wa x i f).1 j = x.1 j := by simp [g_wa, h]
theorem pp_c6 {x : CS} {i : Nat} {f : Nat → Int32} : (g_wa x i f).2 = x.2 := rfl
theorem pp_u1 {f : Nat → Int32} {k : Nat} {v : Int32} : upd f k v k = v := by simp [upd]
theorem pp_u2 {f : Nat → Int32} {k j : Nat} {v : Int32} (h : j ≠ k) : upd f k v j = f j := by simp [upd, h]
theorem pp_b {A B : Type} {a : A} {f : A → Option B} : (some a).bind f = f a := rfl

