/-! the reference's way -/
def pp_WI (c : Nat → Nat → Nat) (w m i j : Nat) (f : Nat → Int32) : Prop := (∀ i' j', i' < i → j' < m → f (24 * i' + j') = nI (pp_wy c w i' j')) ∧ ∀ j', j' < j → f (24 * i + j') = nI (pp_wy c w i j')
theorem pp_WIs {c : Nat → Nat → Nat} {w m i j : Nat} {f : Nat → Int32} {v : Int32} (hm : m ≤ 24) (h : pp_WI c w m i j f) (hj : j < m) (hv : v = nI (pp_wy c w i j)) : pp_WI c w m i (j + 1) (upd f (24 * i + j) v) := by
  refine ⟨fun i' j' hi' hj' => ?_, fun j' hj' => ?_⟩
  · rw [pp_u2 (by omega)]
    exact h.1 i' j' hi' hj'
  · rcases Nat.lt_or_ge j' j with h1 | h1
    · rw [pp_u2 (by omega)]
      exact h.2 j' h1
    · have e : j' = j := by omega
      rw [e, pp_u1, hv]
theorem pp_WIn {c : Nat → Nat → Nat} {w m i : Nat} {f : Nat → Int32} (h : pp_WI c w m i m f) : pp_WI c w m (i + 1) 0 f := by
  refine ⟨fun i' j' hi' hj' => ?_, fun j' hj' => absurd hj' (Nat.not_lt_zero _)⟩
  rcases Nat.lt_or_ge i' i with h1 | h1
  · exact h.1 i' j' h1 hj'
  · have e : i' = i := by omega
    rw [e]
    exact h.2 j' hj'
section MW
variable {k37 : Nat → Int32 → Int32 → Int32 → Int32 → Int32 → Int32 → Int32 → MS → Option (Int32 × MS)} {k47 : Nat → Int32 → Int32 → Int32 → Int32 → Int32 → Int32 → Int32 → Int32 → MS → Option (Int32 × MS)} {s : Nat} {a b iso l5 l6 l7 s0 l8 l9 : Int32} {i j : Nat} {y : MS} {f : Nat → Int32}
theorem pp_87s (hi : i < 24) (hj : j < 24) : f_X15_way_87 k37 k47 s a b iso l5 l6 l7 (nI (i + 1)) (nI j) s0 (g_ma y 160 f) = f_X15_way_116 k37 k47 s a b iso l5 l6 l7 (nI (i + 1)) (nI j) (g_min s0 (f (24 * i + j))) (g_ma y 160 f) := by
  unfold f_X15_way_87
  have e : (24 : Int32) * (nI (i + 1) - 1) + nI j = nI (24 * i + j) := by rw [nI_pred, pp_lit 24, pk_mul, nI_add]
  rw [if_neg (nI_nle (by omega) (by omega)), e, if_pos ((pp_ok (by omega)).mpr (by omega)), nI_clamp (by omega), pp_g3]
theorem pp_87z : f_X15_way_87 k37 k47 s a b iso l5 l6 l7 (nI 0) l9 s0 y = f_X15_way_116 k37 k47 s a b iso l5 l6 l7 (nI 0) l9 s0 y := by
  unfold f_X15_way_87
  rw [if_pos (by decide)]
theorem pp_116s (hi : i < 24) (hj : j < 24) : f_X15_way_116 k37 k47 s a b iso l5 l6 l7 (nI i) (nI (j + 1)) s0 (g_ma y 160 f) = f_X15_way_143 k37 k47 s a b iso l5 l6 l7 (nI i) (nI (j + 1)) (g_min s0 (f (24 * i + j))) (g_ma y 160 f) := by
  unfold f_X15_way_116
  have e : ((24 : Int32) * nI i + nI (j + 1)) - (1 : Int32) = nI (24 * i + j) := by rw [pp_lit 24, pk_mul, nI_add, ← Nat.add_assoc, nI_pred]
  rw [if_neg (nI_nle (by omega) (by omega)), e, if_pos ((pp_ok (by omega)).mpr (by omega)), nI_clamp (by omega), pp_g3]
theorem pp_116z : f_X15_way_116 k37 k47 s a b iso l5 l6 l7 l8 (nI 0) s0 y = f_X15_way_143 k37 k47 s a b iso l5 l6 l7 l8 (nI 0) s0 y := by
  unfold f_X15_way_116
  rw [if_pos (by decide)]
theorem pp_143s (hi : i < 24) (hj : j < 24) : f_X15_way_143 k37 k47 s a b iso l5 l6 l7 (nI (i + 1)) (nI (j + 1)) s0 (g_ma y 160 f) = f_X15_way_177 k37 k47 s a b iso l5 l6 l7 (nI (i + 1)) (nI (j + 1)) (g_min s0 (f (24 * i + j))) (g_ma y 160 f) := by
  unfold f_X15_way_143
  have e : ((24 : Int32) * (nI (i + 1) - 1) + nI (j + 1)) - (1 : Int32) = nI (24 * i + j) := by rw [nI_pred, pp_lit 24, pk_mul, nI_add, ← Nat.add_assoc, nI_pred]
  rw [if_neg (nI_nle (by omega) (by omega)), if_neg (nI_nle (by omega) (by omega)), e, if_pos ((pp_ok (by omega)).mpr (by omega)), nI_clamp (by omega), pp_g3]
theorem pp_143z : f_X15_way_143 k37 k47 s a b iso l5 l6 l7 (nI 0) l9 s0 y = f_X15_way_177 k37 k47 s a b iso l5 l6 l7 (nI 0) l9 s0 y := by
  unfold f_X15_way_143
  rw [if_pos (by decide)]
theorem pp_143y : f_X15_way_143 k37 k47 s a b iso l5 l6 l7 (nI (i + 1)) (nI 0) s0 y = f_X15_way_177 k37 k47 s a b iso l5 l6 l7 (nI (i + 1)) (nI 0) s0 y := by
  unfold f_X15_way_143
  rw [if_pos (c := nI 0 ≤ 0) (by decide)]
  split <;> rfl
theorem pp_205 (hi : i < 24) (hj : j < 24) : f_X15_way_205 k37 k47 s a b iso l5 l6 l7 (nI i) (nI j) s0 (g_ma y 160 f) = k47 s a b iso l5 l6 l7 (nI i) (nI (j + 1)) (g_ma y 160 (upd f (24 * i + j) s0)) := by
  unfold f_X15_way_205
  have e : (24 : Int32) * nI i + nI j = nI (24 * i + j) := by rw [pp_lit 24, pk_mul, nI_add]
  rw [e, if_pos ((pp_ok (by omega)).mpr (by omega)), nI_clamp (by omega), nI_1, pp_g1, pp_g2, pp_g3]
theorem pp_177 {v k : Nat} (hi : i < 24) (hj : j < 24) (hc : f_X15_cost s a (nI i) b (nI j) iso (g_ma y 160 f) = some (nI k)) (hk : k ≤ 40) (hv : v ≤ pp_F) : f_X15_way_177 k37 k47 s a b iso l5 l6 l7 (nI i) (nI j) (nI v) (g_ma y 160 f) = k47 s a b iso l5 l6 l7 (nI i) (nI (j + 1)) (g_ma y 160 (upd f (24 * i + j) (nI (min pp_F (v + (100 * k + 1)))))) := by
  unfold pp_F at *
  unfold f_X15_way_177
  have e : g_min (536870912 : Int32) ((nI v + ((100 : Int32) * nI k)) + (1 : Int32)) = nI (min 536870912 (v + (100 * k + 1))) := by
    rw [pp_lit 100, pk_mul, nI_add, nI_1, pp_lit 536870912, pp_min (by omega) (by omega), Nat.add_assoc]
  rw [hc, pp_b, e, pp_205 hi hj]
end MW
theorem pp_47s {k37 : Nat → Int32 → Int32 → Int32 → Int32 → Int32 → Int32 → Int32 → MS → Option (Int32 × MS)} {s : Nat} {a b iso : Int32} {c : Nat → Nat → Nat} {n m w i j fuel : Nat} {y : MS} {f : Nat → Int32} (hm : m ≤ 24) (hi : i < 24) (hw0 : w ≤ 100) (hc : f_X15_cost s a (nI i) b (nI j) iso (g_ma y 160 f) = some (nI (c i j))) (hcb : ∀ i j, c i j ≤ 40) (hj : j < m) (hW : pp_WI c w m i j f) : f_X15_way_47 k37 (fuel + 1) s a b iso (nI n) (nI m) (nI w) (nI i) (nI j) (g_ma y 160 f) = f_X15_way_47 k37 fuel s a b iso (nI n) (nI m) (nI w) (nI i) (nI (j + 1)) (g_ma y 160 (upd f (24 * i + j) (nI (pp_wy c w i j)))) := by
  rw [f_X15_way_47, if_neg (nI_ge hj (by omega)), pp_abs (by omega) (by omega)]
  have hF : ∀ i j, pp_wy c w i j ≤ pp_F := pp_wF
  have hF2 : pp_F < 2 ^ 31 := by decide
  have h0 : (536870912 : Int32) = nI pp_F := rfl
  by_cases hw : pp_ad i j ≤ w
  · rw [if_neg (nI_nlt (by unfold pp_ad at hw; omega) (by omega))]
    cases i with
    | zero =>
      cases j with
      | zero =>
        rw [if_pos (by decide), pp_87z, pp_116z, pp_143z, show (0 : Int32) = nI 0 from rfl, pp_177 (by omega) (by omega) hc (hcb _ _) (by decide), pp_w00]
        unfold pp_ce
        rw [if_pos hw]
      | succ j =>
        have h1 := hW.2 j (by omega)
        rw [if_neg (by rw [nI_add]; exact nI_ne0 (by omega) (by omega)), pp_87z, pp_116s (by omega) (by omega), h1, h0, pp_min hF2 (Nat.lt_of_le_of_lt (hF _ _) hF2), Nat.min_eq_right (hF _ _), pp_143z, pp_177 (by omega) (by omega) hc (hcb _ _) (hF _ _), pp_w01]
        unfold pp_ce
        rw [if_pos hw]
    | succ i =>
      cases j with
      | zero =>
        have h1 := hW.1 i 0 (by omega) (by omega)
        rw [if_neg (by rw [nI_add]; exact nI_ne0 (by omega) (by omega)), pp_87s (by omega) (by omega), h1, h0, pp_min hF2 (Nat.lt_of_le_of_lt (hF _ _) hF2), Nat.min_eq_right (hF _ _), pp_116z, pp_143y, pp_177 (by omega) (by omega) hc (hcb _ _) (hF _ _), pp_w10]
        unfold pp_ce
        rw [if_pos hw]
      | succ j =>
        have h1 := hW.1 i (j + 1) (by omega) (by omega)
        have h2 := hW.2 j (by omega)
        have h3 := hW.1 i j (by omega) (by omega)
        have f1 := hF i (j + 1)
        have f2 := hF (i + 1) j
        have f3 := hF i j
        rw [if_neg (by rw [nI_add]; exact nI_ne0 (by omega) (by omega)), pp_87s (by omega) (by omega), h1, h0, pp_min hF2 (Nat.lt_of_le_of_lt (hF _ _) hF2), Nat.min_eq_right (hF _ _), pp_116s (by omega) (by omega), h2, pp_min (by omega) (by omega), pp_143s (by omega) (by omega), h3, pp_min (by omega) (by omega), pp_177 (by omega) (by omega) hc (hcb _ _) (by omega), pp_w11]
        unfold pp_ce
        rw [if_pos hw]
  · rw [if_pos (nI_lt (by unfold pp_ad at hw; omega) (by omega)), h0, pp_205 hi (by omega), pp_wO i j (by omega)]
theorem pp_47 {k37 : Nat → Int32 → Int32 → Int32 → Int32 → Int32 → Int32 → Int32 → MS → Option (Int32 × MS)} {s : Nat} {a b iso : Int32} {c : Nat → Nat → Nat} {n m w i : Nat} {y : MS} (hm : m ≤ 24) (hi : i < 24) (hw0 : w ≤ 100) (hc : ∀ f j, j < m → f_X15_cost s a (nI i) b (nI j) iso (g_ma y 160 f) = some (nI (c i j))) (hcb : ∀ i j, c i j ≤ 40) : ∀ d fuel j f, d = m - j → d < fuel → j ≤ m → pp_WI c w m i j f → ∃ f', pp_WI c w m (i + 1) 0 f' ∧ f_X15_way_47 k37 fuel s a b iso (nI n) (nI m) (nI w) (nI i) (nI j) (g_ma y 160 f) = k37 s a b iso (nI n) (nI m) (nI w) (nI (i + 1)) (g_ma y 160 f') := by
  intro d
  induction d with
  | zero =>
    intro fuel j f hd hfu hj hW
    obtain ⟨fu, rfl⟩ : ∃ fu, fuel = fu + 1 := ⟨fuel - 1, by omega⟩
    have e : j = m := by omega
    refine ⟨f, pp_WIn (e ▸ hW), ?_⟩
    rw [f_X15_way_47, if_pos (nI_le (by omega) (by omega)), nI_1]
  | succ d ih =>
    intro fuel j f hd hfu hj hW
    obtain ⟨fu, rfl⟩ : ∃ fu, fuel = fu + 1 := ⟨fuel - 1, by omega⟩
    obtain ⟨f', h1, h2⟩ := ih fu (j + 1) _ (by omega) (by omega) (by omega) (pp_WIs hm hW (by omega) rfl)
    exact ⟨f', h1, by rw [pp_47s hm hi hw0 (hc f j (by omega)) hcb (by omega) hW, h2]⟩
theorem pp_37 {s : Nat} {a b iso : Int32} {c : Nat → Nat → Nat} {n m w : Nat} {y : MS} (hn0 : 0 < n) (hm0 : 0 < m) (hn : n ≤ 24) (hm : m ≤ 24) (hw0 : w ≤ 100) (hc : ∀ f i j, i < n → j < m → f_X15_cost s a (nI i) b (nI j) iso (g_ma y 160 f) = some (nI (c i j))) (hcb : ∀ i j, c i j ≤ 40) : ∀ d fuel i f, d = n - i → d < fuel → i ≤ n → pp_WI c w m i 0 f → ∃ f', f_X15_way_37 fuel s a b iso (nI n) (nI m) (nI w) (nI i) (g_ma y 160 f) = some (nI (pp_wy c w (n - 1) (m - 1)), g_ma y 160 f') := by
  intro d
  induction d with
  | zero =>
    intro fuel i f hd hfu hi hW
    obtain ⟨fu, rfl⟩ : ∃ fu, fuel = fu + 1 := ⟨fuel - 1, by omega⟩
    have e : i = n := by omega
    subst e
    obtain ⟨i', rfl⟩ : ∃ i', i = i' + 1 := ⟨i - 1, by omega⟩
    obtain ⟨m', rfl⟩ : ∃ m', m = m' + 1 := ⟨m - 1, by omega⟩
    have e : ((24 : Int32) * (nI (i' + 1) - 1) + nI (m' + 1)) - (1 : Int32) = nI (24 * i' + m') := by rw [nI_pred, pp_lit 24, pk_mul, nI_add, ← Nat.add_assoc, nI_pred]
    refine ⟨f, ?_⟩
    rw [f_X15_way_37, if_pos (nI_le (by omega) (by omega)), e, if_pos ((pp_ok (by omega)).mpr (by omega)), nI_clamp (by omega), pp_g3, hW.1 i' m' (by omega) (by omega)]
    rfl
  | succ d ih =>
    intro fuel i f hd hfu hi hW
    obtain ⟨fu, rfl⟩ : ∃ fu, fuel = fu + 1 := ⟨fuel - 1, by omega⟩
    obtain ⟨f1, h1, h2⟩ := pp_47 (k37 := f_X15_way_37 fu) (s := s) (a := a) (b := b) (iso := iso) (n := n) (y := y) hm (show i < 24 by omega) hw0 (fun f j hj => hc f i j (by omega) hj) hcb (m - 0) g_fuel 0 f rfl (by unfold g_fuel; omega) (by omega) hW
    obtain ⟨f', h3⟩ := ih fu (i + 1) f1 (by omega) (by omega) (by omega) h1
    refine ⟨f', ?_⟩
    rw [f_X15_way_37, if_neg (nI_ge (by omega) (by omega)), show (0 : Int32) = nI 0 from rfl, h2, h3]
