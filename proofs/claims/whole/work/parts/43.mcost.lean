/-! what a step costs; the reference's distances -/
def pp_cp (p q : Nat) : Nat := if p = q then 0 else if p = 0 ∨ q = 0 then 10 else (p - q) + (q - p)
theorem pp_cpC (p q : Nat) : pp_cp p q = pp_cp q p := by
  unfold pp_cp
  repeat' split
  all_goals omega
theorem pp_cpB {p q : Nat} (hp : p ≤ 40) (hq : q ≤ 40) : pp_cp p q ≤ 40 := by
  unfold pp_cp
  split
  · omega
  · split <;> omega
def pp_ci (p : Nat → Nat) (n k : Nat) : Int32 := if k + 1 < n then (if p k < p (k + 1) then 1 else if p (k + 1) < p k then -1 else 0) else 0
def pp_cc (a b : Int32) : Nat := if a = b then 0 else 1
theorem pp_ccC (a b : Int32) : pp_cc a b = pp_cc b a := by
  unfold pp_cc
  by_cases h : a = b
  · rw [if_pos h, if_pos h.symm]
  · rw [if_neg h, if_neg (fun e => h e.symm)]
theorem pp_ccB (a b : Int32) : pp_cc a b ≤ 40 := by
  unfold pp_cc
  split <;> omega
theorem pp_sg : ∀ u, u < 41 → ∀ v, v < 41 → f_J6_signum_0f7a4 (nI u - nI v) = some (if v < u then 1 else if u < v then -1 else 0) := by decide +kernel
/-- a row of the reference's state: n beats with pitches p -/
def pp_RM (y : MS) (s r : Nat) (p : Nat → Nat) (n : Nat) : Prop := y (s + 1) r = nI n ∧ n ≤ 24 ∧ (∀ k, p k ≤ 40) ∧ ∀ k, k < n → y (s + 2) (24 * r + k) = nI (p k)
theorem pp_RM.f {y : MS} {s r : Nat} {p : Nat → Nat} {n i : Nat} {f : Nat → Int32} (h : pp_RM y s r p n) (h1 : s + 1 ≠ i) (h2 : s + 2 ≠ i) : pp_RM (g_ma y i f) s r p n := by
  refine ⟨?_, h.2.1, h.2.2.1, fun k hk => ?_⟩
  · rw [pp_g4 h1]; exact h.1
  · rw [pp_g4 h2]; exact h.2.2.2 k hk
theorem pp_RM.e {y y1 : MS} {s r : Nat} {p : Nat → Nat} {n : Nat} (h : pp_RM y s r p n) (h1 : y1 (s + 1) = y (s + 1)) (h2 : y1 (s + 2) = y (s + 2)) : pp_RM y1 s r p n := by
  refine ⟨?_, h.2.1, h.2.2.1, fun k hk => ?_⟩
  · rw [h1]; exact h.1
  · rw [h2]; exact h.2.2.2 k hk
theorem pp_cost0 {y : MS} {s a b n m i j : Nat} {p q : Nat → Nat} (hA : pp_RM y s a p n) (hB : pp_RM y s b q m) (ha : a < 10) (hb : b < 10) (hi : i < n) (hj : j < m) : f_X15_cost s (nI a) (nI i) (nI b) (nI j) 0 y = some (nI (pp_cp (p i) (q j))) := by
  have hn := hA.2.1
  have hm := hB.2.1
  have h1 := hA.2.2.2 i hi
  have h2 := hB.2.2.2 j hj
  have b1 := hA.2.2.1 i
  have b2 := hB.2.2.1 j
  unfold f_X15_cost f_X15_cost_64
  have e1 : (24 : Int32) * nI a + nI i = nI (24 * a + i) := by rw [pp_lit 24, pk_mul, nI_add]
  have e2 : (24 : Int32) * nI b + nI j = nI (24 * b + j) := by rw [pp_lit 24, pk_mul, nI_add]
  rw [if_pos rfl, e1, e2, if_pos ((pp_ok (by omega)).mpr (by omega)), if_pos ((pp_ok (by omega)).mpr (by omega)), nI_clamp (by omega), nI_clamp (by omega), h1, h2, pp_abs (by omega) (by omega)]
  unfold pp_cp
  have z : (0 : Int32) = nI 0 := rfl
  have t : (10 : Int32) = nI 10 := rfl
  by_cases hp : p i = 0
  · rw [if_pos (by rw [hp]; rfl)]
    by_cases hq : p i = q j
    · rw [if_pos (by rw [hq]), if_pos hq]; rfl
    · rw [if_neg (by rw [nI_eq (by omega) (by omega)]; exact hq), if_neg hq, if_pos (Or.inl hp)]; rfl
  · rw [if_neg (by rw [z, nI_eq (by omega) (by omega)]; exact hp)]
    by_cases hq0 : q j = 0
    · rw [if_pos (by rw [hq0]; rfl), if_neg (by rw [nI_eq (by omega) (by omega)]; omega), if_neg (by omega), if_pos (Or.inr hq0)]; rfl
    · rw [if_neg (by rw [z, nI_eq (by omega) (by omega)]; exact hq0)]
      by_cases hq : p i = q j
      · rw [if_pos hq, hq]; simp
      · rw [if_neg hq, if_neg (by omega)]
theorem pp_contM {y : MS} {s a n i : Nat} {p : Nat → Nat} (hA : pp_RM y s a p n) (ha : a < 10) (hi : i < n) : f_X15_contour s (nI a) (nI i) y = some (pp_ci p n i) := by
  have hn := hA.2.1
  unfold f_X15_contour pp_ci
  have e1 : (24 : Int32) * nI a + nI i = nI (24 * a + i) := by rw [pp_lit 24, pk_mul, nI_add]
  rw [if_pos ((pp_ok (by omega)).mpr (by omega)), nI_clamp (by omega), hA.1, nI_1, e1, nI_1]
  by_cases h : i + 1 < n
  · have h1 := hA.2.2.2 i hi
    have h2 := hA.2.2.2 (i + 1) h
    have b1 := hA.2.2.1 i
    have b2 := hA.2.2.1 (i + 1)
    rw [if_pos (nI_lt h (by omega)), if_pos ((pp_ok (by omega)).mpr (by omega)), if_pos ((pp_ok (by omega)).mpr (by omega)), nI_clamp (by omega), nI_clamp (by omega), h1, show 24 * a + i + 1 = 24 * a + (i + 1) by omega, h2, pp_sg _ (by omega) _ (by omega), pp_b, if_pos h]
  · rw [if_neg (nI_nlt (by omega) (by omega)), if_neg h]
theorem pp_cost1 {y : MS} {s a b n m i j : Nat} {p q : Nat → Nat} (hA : pp_RM y s a p n) (hB : pp_RM y s b q m) (ha : a < 10) (hb : b < 10) (hi : i < n) (hj : j < m) : f_X15_cost s (nI a) (nI i) (nI b) (nI j) 1 y = some (nI (pp_cc (pp_ci p n i) (pp_ci q m j))) := by
  unfold f_X15_cost
  rw [if_neg (by decide), pp_contM hA ha hi, pp_b, pp_contM hB hb hj, pp_b]
  unfold pp_cc
  split <;> rfl
def pp_D (g : Nat) (p : Nat → Nat) (n : Nat) (q : Nat → Nat) (m : Nat) : Nat := pp_wy (fun i j => pp_cp (p i) (q j)) (g + pp_ad n m) (n - 1) (m - 1)
def pp_K (g : Nat) (p : Nat → Nat) (n : Nat) (q : Nat → Nat) (m : Nat) : Nat := pp_wy (fun i j => pp_cc (pp_ci p n i) (pp_ci q m j)) (g + pp_ad n m) (n - 1) (m - 1)
theorem pp_ad1 {n m : Nat} (hn : 0 < n) (hm : 0 < m) : pp_ad (n - 1) (m - 1) = pp_ad n m := by unfold pp_ad; omega
theorem pp_DG {g n m : Nat} {p q : Nat → Nat} (hp : ∀ k, p k ≤ 40) (hq : ∀ k, q k ≤ 40) (hn0 : 0 < n) (hm0 : 0 < m) (hn : n ≤ 24) (hm : m ≤ 24) : pp_gd 47 (pp_D g p n q m) :=
  pp_gdu (pp_wG (fun i j => pp_cpB (hp i) (hq j)) _ _ (by omega) (by rw [pp_ad1 hn0 hm0]; omega)) (by omega)
theorem pp_KG {g n m : Nat} {p q : Nat → Nat} (hn0 : 0 < n) (hm0 : 0 < m) (hn : n ≤ 24) (hm : m ≤ 24) : pp_gd 47 (pp_K g p n q m) :=
  pp_gdu (pp_wG (fun i j => pp_ccB _ _) _ _ (by omega) (by rw [pp_ad1 hn0 hm0]; omega)) (by omega)
theorem pp_DC (g n m : Nat) (p q : Nat → Nat) : pp_D g p n q m = pp_D g q m p n := by
  unfold pp_D
  rw [pp_adC n m]
  exact pp_wC (fun i j => pp_cpC _ _) _ _
theorem pp_wayM {y : MS} {s a b n m g : Nat} {p q : Nat → Nat} {iso : Int32} {c : Nat → Nat → Nat} (hs : s + 2 < 160) (hA : pp_RM y s a p n) (hB : pp_RM y s b q m) (ha : a < 10) (hb : b < 10) (hn : 0 < n) (hm : 0 < m) (hg : y 127 0 = nI g) (hg20 : g ≤ 20) (hc : ∀ f i j, i < n → j < m → f_X15_cost s (nI a) (nI i) (nI b) (nI j) iso (g_ma y 160 f) = some (nI (c i j))) (hcb : ∀ i j, c i j ≤ 40) : ∃ f, f_X15_way s (nI a) (nI b) iso y = some (nI (pp_wy c (g + pp_ad n m) (n - 1) (m - 1)), g_ma y 160 f) := by
  have hn2 := hA.2.1
  have hm2 := hB.2.1
  have had : pp_ad n m ≤ 24 := by unfold pp_ad; omega
  obtain ⟨f, hf⟩ := pp_37 (w := g + pp_ad n m) hn hm hn2 hm2 (by omega) hc hcb (n - 0) g_fuel 0 (y 160) rfl (by unfold g_fuel; omega) (by omega) ⟨fun _ _ h => absurd h (Nat.not_lt_zero _), fun _ h => absurd h (Nat.not_lt_zero _)⟩
  refine ⟨f, ?_⟩
  rw [pp_g5] at hf
  unfold f_X15_way
  rw [if_pos ((pp_ok (by omega)).mpr (by omega)), if_pos ((pp_ok (by omega)).mpr (by omega)), nI_clamp (by omega), nI_clamp (by omega), hA.1, hB.1, hg, pp_abs (by omega) (by omega), nI_add]
  exact hf
theorem pp_wayM0 {y : MS} {s a b n m g : Nat} {p q : Nat → Nat} (hs : s + 2 < 160) (hA : pp_RM y s a p n) (hB : pp_RM y s b q m) (ha : a < 10) (hb : b < 10) (hn : 0 < n) (hm : 0 < m) (hg : y 127 0 = nI g) (hg20 : g ≤ 20) : ∃ f, f_X15_way s (nI a) (nI b) 0 y = some (nI (pp_D g p n q m), g_ma y 160 f) :=
  pp_wayM hs hA hB ha hb hn hm hg hg20 (fun f i j hi hj => pp_cost0 (hA.f (by omega) (by omega)) (hB.f (by omega) (by omega)) ha hb hi hj) (fun i j => pp_cpB (hA.2.2.1 i) (hB.2.2.1 j))
theorem pp_wayM1 {y : MS} {s a b n m g : Nat} {p q : Nat → Nat} (hs : s + 2 < 160) (hA : pp_RM y s a p n) (hB : pp_RM y s b q m) (ha : a < 10) (hb : b < 10) (hn : 0 < n) (hm : 0 < m) (hg : y 127 0 = nI g) (hg20 : g ≤ 20) : ∃ f, f_X15_way s (nI a) (nI b) 1 y = some (nI (pp_K g p n q m), g_ma y 160 f) :=
  pp_wayM hs hA hB ha hb hn hm hg hg20 (fun f i j hi hj => pp_cost1 (hA.f (by omega) (by omega)) (hB.f (by omega) (by omega)) ha hb hi hj) (fun i j => pp_ccB _ _)
theorem pp_distM {y : MS} {s a b n m g : Nat} {p q : Nat → Nat} (hs : s + 2 < 160) (hA : pp_RM y s a p n) (hB : pp_RM y s b q m) (ha : a < 10) (hb : b < 10) (hn : 0 < n) (hm : 0 < m) (hg : y 127 0 = nI g) (hg20 : g ≤ 20) : ∃ f, f_X15_distance s (nI a) (nI b) y = some (nI (pp_D g p n q m / 100), g_ma y 160 f) := by
  obtain ⟨f, hf⟩ := pp_wayM0 hs hA hB ha hb hn hm hg hg20
  have h := pp_gdF (pp_DG (g := g) hA.2.2.1 hB.2.2.1 hn hm hA.2.1 hB.2.1) (by omega)
  refine ⟨f, ?_⟩
  unfold f_X15_distance
  rw [hf, pp_b]
  show some (nI _ / nI 100, _) = _
  rw [pk_div (by omega) (by omega) (by omega)]
