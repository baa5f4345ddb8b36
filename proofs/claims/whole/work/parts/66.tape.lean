/-! numbers and symbols; the whole tape -/
def pp_nv (t : Nat → Nat) (p : Nat) : Nat → Int32
  | 0 => 0
  | j + 1 => (pp_nv t p j * (10 : Int32) + nI (t (p + j))) - (48 : Int32)
theorem pp_nvS (t : Nat → Nat) (p j : Nat) : pp_nv t p (j + 1) = (pp_nv t p j * (10 : Int32) + nI (t (p + j))) - (48 : Int32) := rfl
theorem pp_rnC {x : CS} {t : Nat → Nat} {T p : Nat} (h : pp_CT x t T) : ∀ d fuel j, d = T - (p + j) → p + j ≤ T → d < fuel → f_X8_readNumber_4 fuel (nI p) (nI (p + j)) (pp_nv t p j) x = f_X8_readNumber_49 (nI p) (nI (pp_scn (pp_dg t T) d (p + j))) (pp_nv t p (pp_scn (pp_dg t T) d (p + j) - p)) x := by
  have hT := h.2.1
  intro d
  induction d with
  | zero =>
    intro fuel j hd hq hfu
    obtain ⟨fu, rfl⟩ : ∃ fu, fuel = fu + 1 := ⟨fuel - 1, by omega⟩
    rw [f_X8_readNumber_4, h.1, if_pos (nI_le (by omega) (by omega))]
    show _ = f_X8_readNumber_49 (nI p) (nI (p + j)) (pp_nv t p (p + j - p)) x
    rw [show p + j - p = j by omega]
  | succ d ih =>
    intro fuel j hd hq hfu
    obtain ⟨fu, rfl⟩ : ∃ fu, fuel = fu + 1 := ⟨fuel - 1, by omega⟩
    have i := ih fu (j + 1) (by omega) (by omega) (by omega)
    have hlt : p + j < T := by omega
    rw [pp_scnS, f_X8_readNumber_4, h.1, if_neg (nI_ge hlt (by omega)), pp_dgC h (by omega), pp_b, pp_if1, pp_bC h (by omega), pp_b, nI_1]
    cases h2 : pp_dg t T (p + j) with
    | true =>
      rw [if_pos rfl, if_pos rfl]
      have hB : pp_B t T (p + j) = nI (t (p + j)) := by unfold pp_B; rw [if_pos hlt]
      rw [hB]
      exact i
    | false =>
      show f_X8_readNumber_49 (nI p) (nI (p + j)) (pp_nv t p j) x = f_X8_readNumber_49 (nI p) (nI (p + j)) (pp_nv t p (p + j - p)) x
      rw [show p + j - p = j by omega]
theorem pp_rnM {y : MS} {t : Nat → Nat} {T p k : Nat} (h : pp_MT y t T) (hk : k < 402) : ∀ d fuel j, d = T - (p + j) → p + j ≤ T → d < fuel → f_X15_read_87 fuel (nI p) (nI k) (nI (p + j)) (pp_nv t p (min j 7)) y = f_X15_read_165 (nI p) (nI k) (nI (pp_scn (pp_dg t T) d (p + j))) (if pp_scn (pp_dg t T) d (p + j) - p ≤ 6 then 31 else 32) (nI k) (g_mi y 123 k (pp_nv t p (min (pp_scn (pp_dg t T) d (p + j) - p) 7))) := by
  have hT := h.2.1
  have h3 := h.2.2.1
  have hok := (pp_ok (k := k) (n := 402) (by omega)).mpr hk
  have hend : ∀ j, p + j ≤ T → (if nI (p + j) - nI p ≤ 6 then f_X15_read_165 (nI p) (nI k) (nI (p + j)) 31 (nI k) (g_mi y 123 k (pp_nv t p (min j 7))) else f_X15_read_165 (nI p) (nI k) (nI (p + j)) 32 (nI k) (g_mi y 123 k (pp_nv t p (min j 7)))) = f_X15_read_165 (nI p) (nI k) (nI (p + j)) (if p + j - p ≤ 6 then 31 else 32) (nI k) (g_mi y 123 k (pp_nv t p (min (p + j - p) 7))) := by
    intro j hj
    rw [pk_sub (by omega), show p + j - p = j by omega]
    by_cases h6 : j ≤ 6
    · rw [if_pos (show nI j ≤ (6 : Int32) from nI_le (b := 6) h6 (by omega)), if_pos h6]
    · rw [if_neg (show ¬ nI j ≤ (6 : Int32) from nI_ge (a := 6) (by omega) (by omega)), if_neg h6]
  intro d
  induction d with
  | zero =>
    intro fuel j hd hq hfu
    obtain ⟨fu, rfl⟩ : ∃ fu, fuel = fu + 1 := ⟨fuel - 1, by omega⟩
    rw [f_X15_read_87, pp_bM h (by omega), pp_b, pp_b, pp_diM h3, pp_b, pp_if1, pp_dgT _ (by omega), if_neg (by decide), if_pos hok, nI_clamp (by omega)]
    exact hend j hq
  | succ d ih =>
    intro fuel j hd hq hfu
    obtain ⟨fu, rfl⟩ : ∃ fu, fuel = fu + 1 := ⟨fuel - 1, by omega⟩
    have i := ih fu (j + 1) (by omega) (by omega) (by omega)
    have hlt : p + j < T := by omega
    rw [pp_scnS, f_X15_read_87, pp_bM h (by omega), pp_b, pp_b, pp_diM h3, pp_b, pp_if1, nI_1]
    cases h2 : pp_dg t T (p + j) with
    | true =>
      rw [if_pos rfl, if_pos rfl, pk_sub (by omega), show p + j - p = j by omega]
      have hB : pp_B t T (p + j) = nI (t (p + j)) := by unfold pp_B; rw [if_pos hlt]
      by_cases h7 : 7 ≤ j
      · rw [if_pos (show (7 : Int32) ≤ nI j from nI_le (a := 7) h7 (by omega)), show min j 7 = min (j + 1) 7 by omega]
        exact i
      · rw [if_neg (show ¬ (7 : Int32) ≤ nI j from nI_ge (b := 7) (by omega) (by omega)), hB, show min j 7 = j by omega]
        rw [show min (j + 1) 7 = j + 1 by omega, pp_nvS, Int32.mul_comm] at i
        exact i
    | false =>
      simp only [Bool.false_eq_true, if_false]
      rw [if_pos hok, nI_clamp (by omega)]
      exact hend j hq
theorem pp_tokN {x : CS} {y : MS} {t : Nat → Nat} {T k p : Nat} (hC : pp_CT x t T) (hM : pp_MT y t T) (hk : x.1 3 5 = nI k) (hk4 : k ≤ 400) (hl : pp_lt t T p = false) (hd : pp_dg t T p = true) : pp_RT x y t T k p := by
  have hT := hC.2.1
  have hpT : p < T := by
    rcases Nat.lt_or_ge p T with h | h
    · exact h
    · rw [pp_dgT p h] at hd; cases hd
  obtain ⟨d, hdd⟩ : ∃ d, T - p = d + 1 := ⟨T - p - 1, by omega⟩
  obtain ⟨e, he⟩ : ∃ e, e = pp_scn (pp_dg t T) (T - p) p := ⟨_, rfl⟩
  have hes : e = pp_scn (pp_dg t T) d (p + 1) := by rw [he, hdd, pp_scnS, if_pos hd]
  have heB := pp_scnB (P := pp_dg t T) d (p + 1)
  rw [← hes] at heB
  have hc1 := pp_rnC (p := p) hC (T - (p + 0)) g_fuel 0 rfl (by omega) (by unfold g_fuel; omega)
  rw [Nat.add_zero, ← he] at hc1
  have hcl : k < 400 → f_X8_readToken (nI p) x = (f_X8_readNumber_49 (nI p) (nI e) (pp_nv t p (e - p)) x).bind fun q8 => some q8 := by
    intro hk4
    unfold f_X8_readToken
    rw [hC.1, if_pos (nI_lt hpT (by omega)), hk, if_pos (show nI k < (400 : Int32) from nI_lt (b := 400) hk4 (by omega)), pp_ltC hC (by omega), pp_b, pp_if1, hl, if_neg (by decide), pp_dgC hC (by omega), pp_b, pp_if1, if_pos hd]
    rw [show f_X8_readNumber (nI p) x = f_X8_readNumber_49 (nI p) (nI e) (pp_nv t p (e - p)) x from hc1]
  have hY1 : pp_Yk k y (g_mi y 124 k (nI p)) := (pp_Yk.rf k y).mi (by omega)
  have hM1 := hM.k hY1
  have hok := (pp_ok (k := k) (n := 402) (by omega)).mpr (by omega)
  have hml : f_X15_read (nI p) (nI k) y = some (nI e, g_mi (g_mi (g_mi (g_mi y 124 k (nI p)) 123 k (pp_nv t p (min (e - p) 7))) 122 k (if e - p ≤ 6 then 31 else 32)) 125 k (nI (e - p))) := by
    have h1 := pp_rnM (p := p) (k := k) hM1 (by omega) d g_fuel 1 (by omega) (by omega) (by unfold g_fuel; omega)
    rw [← hes] at h1
    have n1 : pp_nv t p (min 1 7) = nI (t p) - 48 := by
      show (pp_nv t p 0 * 10 + nI (t (p + 0))) - 48 = _
      show ((0 : Int32) * 10 + nI (t p)) - 48 = _
      rw [Int32.zero_mul, Int32.zero_add]
    rw [n1] at h1
    unfold f_X15_read
    rw [if_pos ((pp_ok (by omega)).mpr (by omega)), if_pos hok, nI_clamp (by omega), show y 121 p = pp_B t T p by unfold pp_B; rw [if_pos hpT]; exact hM.2.2.2 p hpT, pp_ltM hM.2.2.1, pp_b, pp_if1, hl, if_neg (by decide), pp_diM hM.2.2.1, pp_b, pp_if1, if_pos hd, nI_clamp (by omega), nI_1, show pp_B t T p = nI (t p) by unfold pp_B; rw [if_pos hpT], h1]
    unfold f_X15_read_165 f_X15_read_239
    rw [if_pos hok, if_pos hok, nI_clamp (by omega), pk_sub (by omega)]
  have hY : ∀ u v w, pp_Yk k y (g_mi (g_mi (g_mi (g_mi y 124 k (nI p)) 123 k u) 122 k v) 125 k w) := fun u v w => ((hY1.mi (by omega)).mi (by omega)).mi (by omega)
  have r122 : ∀ u v w, (g_mi (g_mi (g_mi (g_mi y 124 k (nI p)) 123 k u) 122 k v) 125 k w) 122 k = v := fun u v w => by simp [g_mi, upd]
  have r123 : ∀ u v w, (g_mi (g_mi (g_mi (g_mi y 124 k (nI p)) 123 k u) 122 k v) 125 k w) 123 k = u := fun u v w => by simp [g_mi, upd]
  have r124 : ∀ u v w, (g_mi (g_mi (g_mi (g_mi y 124 k (nI p)) 123 k u) 122 k v) 125 k w) 124 k = nI p := fun u v w => by simp [g_mi, upd]
  have r125 : ∀ u v w, (g_mi (g_mi (g_mi (g_mi y 124 k (nI p)) 123 k u) 122 k v) 125 k w) 125 k = w := fun u v w => by simp [g_mi, upd]
  have heT : e ≤ T := by have := pp_scnB (P := pp_dg t T) (T - p) p; omega
  by_cases h6 : e - p ≤ 6
  · rw [if_pos h6, show min (e - p) 7 = e - p by omega] at hml
    refine ⟨42, e - p, pp_nv t p (e - p), e, _, ?_, hml, by omega, by omega, by omega, by omega, heT, hY _ _ _, r122 _ _ _, r124 _ _ _, fun _ => ⟨by omega, pp_TK.new hT (r124 _ _ _) (r125 _ _ _) (by omega) (by omega) (r122 _ _ _) (fun _ => r123 _ _ _) (fun q => by omega)⟩⟩
    intro hk5
    rw [hcl hk5]
    unfold f_X8_readNumber_49 f_X8_readNumber_71
    rw [pk_sub (by omega), if_pos (show nI (e - p) ≤ (6 : Int32) from nI_le (b := 6) h6 (by omega)), pp_add hk (by omega) (by omega)]
    rfl
  · rw [if_neg h6] at hml
    refine ⟨45, e - p, pp_nv t p (e - p), e, _, ?_, hml, by omega, by omega, by omega, by omega, heT, hY _ _ _, r122 _ _ _, r124 _ _ _, fun q => absurd rfl q⟩
    intro hk5
    rw [hcl hk5]
    unfold f_X8_readNumber_49 f_X8_readNumber_71
    rw [pk_sub (by omega), if_neg (show ¬ nI (e - p) ≤ (6 : Int32) from nI_ge (a := 6) (by omega) (by omega)), pp_add hk (by omega) (by omega)]
    rfl
theorem pp_tokS {x : CS} {y : MS} {t : Nat → Nat} {T k p : Nat} (hC : pp_CT x t T) (hM : pp_MT y t T) (hk : x.1 3 5 = nI k) (hk4 : k ≤ 400) (hpT : p < T) (hl : pp_lt t T p = false) (hd : pp_dg t T p = false) : pp_RT x y t T k p := by
  have hT := hC.2.1
  have hc256 := hC.2.2.1 p hpT
  have hn : ¬ (97 ≤ t p ∧ t p ≤ 122) := by
    unfold pp_lt at hl
    simp only [decide_eq_false_iff_not] at hl
    exact fun q => hl ⟨hpT, q⟩
  obtain ⟨n, hnn⟩ : ∃ n, n = decide (p + 1 < T ∧ t (p + 1) = 61) := ⟨_, rfl⟩
  obtain ⟨m, hm⟩ : ∃ m, m = pp_lo t T p 46 := ⟨_, rfl⟩
  have hm2 : m = pp_L2 (t p) n 46 := by rw [hm, hnn]; exact pp_lo2 hpT hl 46 (Nat.le_refl _)
  obtain ⟨y1, y2, y3, y4⟩ := pp_y2A (t p) hc256 hn
  have hy : pp_y2 (t p) n = true ∧ (26 ≤ m ∧ m < 46 ∧ (m ≤ 40 ∨ m = 45)) := by
    rw [hm2]
    cases n with
    | true => exact ⟨y1, y3⟩
    | false => exact ⟨y2, y4⟩
  obtain ⟨hyy, hmr⟩ := hy
  have hlen := (pp_txL m (by omega)).2.1
  have hcl : k < 400 → f_X8_readToken (nI p) x = some (pp_tk x k m (nI p) (nI (pp_tx m).length) 0) := by
    intro hk4
    unfold f_X8_readToken f_X8_readSymbol
    rw [hC.1, if_pos (nI_lt hpT (by omega)), hk, if_pos (show nI k < (400 : Int32) from nI_lt (b := 400) hk4 (by omega)), pp_ltC hC (by omega), pp_b, pp_if1, hl, if_neg (by decide), pp_dgC hC (by omega), pp_b, pp_if1, hd, if_neg (by decide), pp_loC1 hC (by omega), ← hm, pp_b, if_pos (by omega), if_pos (by omega), (pp_txL m (by omega)).1, pp_b, pp_add hk (by omega) (by omega)]
    rfl
  have hY1 : pp_Yk k y (g_mi y 124 k (nI p)) := (pp_Yk.rf k y).mi (by omega)
  have hok := (pp_ok (k := k) (n := 402) (by omega)).mpr (by omega)
  have hBp : pp_B t T p = nI (t p) := by unfold pp_B; rw [if_pos hpT]
  unfold pp_y2 at hyy
  rw [← hm2] at hyy
  cases hs : f_X15_symbol (nI (t p)) with
  | none => rw [hs] at hyy; cases hyy
  | some q =>
    rw [hs] at hyy
    have hk122 : (g_mi (g_mi y 124 k (nI p)) 122 k q) 122 k = q := by simp [g_mi, upd]
    have hml0 : f_X15_read (nI p) (nI k) y = (if q = 44 then f_X15_read_201 (nI p) (nI k) (nI (p + 1)) (g_mi (g_mi y 124 k (nI p)) 122 k q) else if q = 45 then f_X15_read_201 (nI p) (nI k) (nI (p + 1)) (g_mi (g_mi y 124 k (nI p)) 122 k q) else f_X15_read_239 (nI p) (nI k) (nI (p + 1)) (g_mi (g_mi y 124 k (nI p)) 122 k q)) := by
      unfold f_X15_read
      rw [if_pos ((pp_ok (by omega)).mpr (by omega)), if_pos hok, nI_clamp (by omega), show y 121 p = nI (t p) from hM.2.2.2 p hpT, ← hBp, pp_ltM hM.2.2.1, pp_b, pp_if1, hl, if_neg (by decide), pp_diM hM.2.2.1, pp_b, pp_if1, hd, if_neg (by decide), hBp, hs, pp_b, if_pos hok, if_pos hok, nI_clamp (by omega), hk122, nI_1, if_pos hok]
    have hMk : ∀ u, pp_MT (g_mi (g_mi y 124 k (nI p)) 122 k u) t T := fun u => hM.k (hY1.mi (by omega))
    have h239 : ∀ Y e, p ≤ e → e ≤ T → f_X15_read_239 (nI p) (nI k) (nI e) Y = some (nI e, g_mi Y 125 k (nI (e - p))) := fun Y e h1 h2 => by
      unfold f_X15_read_239
      rw [if_pos hok, nI_clamp (by omega), pk_sub h1]
    have hfin : ∀ e Y, f_X15_read (nI p) (nI k) y = some (nI e, g_mi Y 125 k (nI (e - p))) → p < e → e ≤ T → pp_Yk k y Y → Y 122 k = nI (pp_tr m) → Y 124 k = nI p → (m ≠ 45 → e = p + (pp_tx m).length) → pp_RT x y t T k p := by
      intro e Y h1 h2 h3 h4 h5 h6 h7
      have g122 : (g_mi Y 125 k (nI (e - p))) 122 k = nI (pp_tr m) := by rw [pp_g1, pp_g4 (by omega)]; exact h5
      have g124 : (g_mi Y 125 k (nI (e - p))) 124 k = nI p := by rw [pp_g1, pp_g4 (by omega)]; exact h6
      refine ⟨m, (pp_tx m).length, 0, e, _, hcl, h1, by omega, by omega, by omega, h2, h3, h4.mi (by omega), g122, g124, fun q => ⟨h7 q, ?_⟩⟩
      have h8 := h7 q
      exact pp_TK.new hT g124 (by rw [pp_g1, pp_g3, pp_u1, h8, show p + (pp_tx m).length - p = (pp_tx m).length by omega]) (by omega) (by omega) g122 (fun q => by omega) (fun q => by omega)
    by_cases h45 : q = 44 ∨ q = 45
    · have hml1 : f_X15_read (nI p) (nI k) y = f_X15_read_201 (nI p) (nI k) (nI (p + 1)) (g_mi (g_mi y 124 k (nI p)) 122 k q) := by
        rw [hml0]
        rcases h45 with h | h
        · rw [if_pos h]
        · rw [h, if_neg (by decide), if_pos rfl]
      unfold f_X15_read_201 at hml1
      rw [pp_bM (hMk q) (by omega), pp_b, if_pos hok, nI_clamp (by omega), hk122] at hml1
      simp only [if_pos h45] at hyy
      have hn2 : (pp_B t T (p + 1) = 61) ↔ n = true := by
        rw [hnn]
        unfold pp_B
        by_cases h1 : p + 1 < T
        · have := hC.2.2.1 _ h1
          rw [if_pos h1, show (61 : Int32) = nI 61 from rfl, nI_eq (by omega) (by omega)]
          simp [h1]
        · rw [if_neg h1]
          simp [h1]
      cases hcn : n with
      | true =>
        rw [hcn] at hyy hn2
        simp only [if_true, decide_eq_true_eq] at hyy
        rw [if_pos (hn2.mpr rfl)] at hml1
        have hp1 : p + 1 < T := by
          rw [hcn] at hnn
          have := hnn.symm
          simp only [decide_eq_true_eq] at this
          exact this.1
        unfold f_X15_read_235 at hml1
        rw [if_pos hok, if_pos hok, nI_clamp (by omega), nI_1, h239 _ _ (by omega) (by omega), h239 _ _ (by omega) (by omega)] at hml1
        by_cases h44 : q = 44
        · rw [if_pos h44] at hml1
          rw [if_pos h44] at hyy
          exact hfin (p + 1 + 1) _ hml1 (by omega) (by omega) ((hY1.mi (by omega)).mi (by omega)) (by rw [← hyy.1]; simp [g_mi, upd]) (by simp [g_mi, upd]) (fun _ => by rw [hyy.2])
        · rw [if_neg h44] at hml1
          rw [if_neg h44] at hyy
          exact hfin (p + 1 + 1) _ hml1 (by omega) (by omega) ((hY1.mi (by omega)).mi (by omega)) (by rw [← hyy.1]; simp [g_mi, upd]) (by simp [g_mi, upd]) (fun _ => by rw [hyy.2])
      | false =>
        rw [hcn] at hyy hn2
        rw [if_neg (fun h => by have := hn2.mp h; cases this), h239 _ _ (by omega) (by omega)] at hml1
        have hyy2 : q = nI (pp_tr m) ∧ (pp_tx m).length = 1 := by simpa using hyy
        exact hfin (p + 1) _ hml1 (by omega) (by omega) (hY1.mi (by omega)) (by rw [hk122]; exact hyy2.1) (by simp [g_mi, upd]) (fun _ => by rw [hyy2.2])
    · have hml1 : f_X15_read (nI p) (nI k) y = some (nI (p + 1), g_mi (g_mi (g_mi y 124 k (nI p)) 122 k q) 125 k (nI (p + 1 - p))) := by
        rw [hml0, if_neg (fun h => h45 (Or.inl h)), if_neg (fun h => h45 (Or.inr h)), h239 _ _ (by omega) (by omega)]
      simp only [if_neg h45, decide_eq_true_eq] at hyy
      exact hfin (p + 1) _ hml1 (by omega) (by omega) (hY1.mi (by omega)) (by rw [hk122]; exact hyy.1) (by simp [g_mi, upd]) (fun h => by rw [hyy.2.resolve_left h])
theorem pp_tok {x : CS} {y : MS} {t : Nat → Nat} {T k p : Nat} (hC : pp_CT x t T) (hM : pp_MT y t T) (hk : x.1 3 5 = nI k) (hk4 : k ≤ 400) (hpT : p < T) (hK : ∀ i, i < k → pp_TK x y t T i) : pp_RT x y t T k p := by
  cases hl : pp_lt t T p with
  | true => exact pp_tokW hC hM hk hk4 hl hK
  | false =>
    cases hd : pp_dg t T p with
    | true => exact pp_tokN hC hM hk hk4 hl hd
    | false => exact pp_tokS hC hM hk hk4 hpT hl hd
