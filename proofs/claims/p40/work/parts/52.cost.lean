/-! what a step costs; the reference's distances -/
def pp_cp (p q : Nat) : Nat := if p = q then 0 else if p = 0 ∨ q = 0 then 10 else (p - q) + (q - p)
theorem pp_cpC (p q : Nat) : pp_cp p q = pp_cp q p := by
  unfold pp_cp
  repeat' split
  all_goals omega
theorem pp_cpB {p q : Nat} (hp : p ≤ 40) (hq : q ≤ 40) : pp_cp p q ≤ 40 := by
  unfold pp_cp
  split
  · omega
  · split <;> omega
def pp_ci (p : Nat → Nat) (n k : Nat) : Int32 := if k + 1 < n then (if p k < p (k + 1) then 1 else if p (k + 1) < p k then -1 else 0) else 0
def pp_cc (a b : Int32) : Nat := if a = b then 0 else 1
theorem pp_ccC (a b : Int32) : pp_cc a b = pp_cc b a := by
  unfold pp_cc
  by_cases h : a = b
  · rw [if_pos h, if_pos h.symm]
  · rw [if_neg h, if_neg (fun e => h e.symm)]
theorem pp_ccB (a b : Int32) : pp_cc a b ≤ 40 := by
  unfold pp_cc
  split <;> omega
def pp_D (g : Nat) (p : Nat → Nat) (n : Nat) (q : Nat → Nat) (m : Nat) : Nat := pp_wy (fun i j => pp_cp (p i) (q j)) (g + pp_ad n m) (n - 1) (m - 1)
def pp_K (g : Nat) (p : Nat → Nat) (n : Nat) (q : Nat → Nat) (m : Nat) : Nat := pp_wy (fun i j => pp_cc (pp_ci p n i) (pp_ci q m j)) (g + pp_ad n m) (n - 1) (m - 1)
theorem pp_ad1 {n m : Nat} (hn : 0 < n) (hm : 0 < m) : pp_ad (n - 1) (m - 1) = pp_ad n m := by unfold pp_ad; omega
theorem pp_DG {g n m : Nat} {p q : Nat → Nat} (hp : ∀ k, p k ≤ 40) (hq : ∀ k, q k ≤ 40) (hn0 : 0 < n) (hm0 : 0 < m) (hn : n ≤ 24) (hm : m ≤ 24) : pp_gd 47 (pp_D g p n q m) :=
  pp_gdu (pp_wG (fun i j => pp_cpB (hp i) (hq j)) _ _ (by omega) (by rw [pp_ad1 hn0 hm0]; omega)) (by omega)
theorem pp_KG {g n m : Nat} {p q : Nat → Nat} (hn0 : 0 < n) (hm0 : 0 < m) (hn : n ≤ 24) (hm : m ≤ 24) : pp_gd 47 (pp_K g p n q m) :=
  pp_gdu (pp_wG (fun i j => pp_ccB _ _) _ _ (by omega) (by rw [pp_ad1 hn0 hm0]; omega)) (by omega)
theorem pp_DC (g n m : Nat) (p q : Nat → Nat) : pp_D g p n q m = pp_D g q m p n := by
  unfold pp_D
  rw [pp_adC n m]
  exact pp_wC (fun i j => pp_cpC _ _) _ _
