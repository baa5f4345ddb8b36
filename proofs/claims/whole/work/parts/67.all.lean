/-! all tokens of the tape -/
def pp_TF (x : CS) (y : MS) (t : Nat → Nat) (T n : Nat) : Prop := n ≤ 400 ∧ (∀ i, i < n → pp_TK x y t T i) ∧ (x.2 4 n = 44 ∨ x.2 4 n = 45) ∧ y 122 n = nI (pp_tr (x.2 4 n)) ∧ ∃ p, p ≤ T ∧ x.1 5 n = nI p ∧ y 124 n = nI p
def pp_Fx (x x1 : CS) : Prop := (∀ i, i ≠ 3 → i ≠ 5 → i ≠ 6 → i ≠ 7 → x1.1 i = x.1 i) ∧ ∀ i, i ≠ 4 → x1.2 i = x.2 i
def pp_Fy (y y1 : MS) : Prop := ∀ i, (i < 122 ∨ 125 < i) → y1 i = y i
theorem pp_Fx.tr {x y z : CS} (h : pp_Fx x y) (k : pp_Fx y z) : pp_Fx x z := ⟨fun i h1 h2 h3 h4 => (k.1 i h1 h2 h3 h4).trans (h.1 i h1 h2 h3 h4), fun i h1 => (k.2 i h1).trans (h.2 i h1)⟩
theorem pp_Fy.tr {x y z : MS} (h : pp_Fy x y) (k : pp_Fy y z) : pp_Fy x z := fun i h1 => (k i h1).trans (h i h1)
theorem pp_tkF {x : CS} {k s : Nat} {p z v : Int32} : pp_Fx x (pp_tk x k s p z v) := ⟨fun i h1 h2 h3 h4 => (pp_tk1.1 i h1 h2 h3 h4), fun i h1 => pp_tk1.2.2.2.2.2.2 i h1⟩
theorem pp_CT.x {x x1 : CS} {t : Nat → Nat} {T : Nat} (h : pp_CT x t T) (hF : pp_Fx x x1) : pp_CT x1 t T := ⟨by rw [hF.1 1 (by omega) (by omega) (by omega) (by omega)]; exact h.1, h.2.1, h.2.2.1, fun p hp => by rw [hF.1 2 (by omega) (by omega) (by omega) (by omega)]; exact h.2.2.2 p hp⟩
theorem pp_MT.y {y y1 : MS} {t : Nat → Nat} {T : Nat} (h : pp_MT y t T) (hF : pp_Fy y y1) : pp_MT y1 t T := ⟨by rw [hF 120 (by omega)]; exact h.1, h.2.1, h.2.2.1, fun p hp => by rw [hF 121 (by omega)]; exact h.2.2.2 p hp⟩
theorem pp_trN : ∀ s, s < 43 → pp_tr s ≠ 32 ∧ pp_tr s ≠ 33 ∧ pp_tr s < 61 := by decide
theorem pp_sgn {x : CS} {k : Nat} (hk : k < 401) : f_X8_sign (nI k) x = some (x.2 4 k) := by
  unfold f_X8_sign
  rw [if_neg (nI_pos (by omega)), if_neg (show ¬ (401 : Int32) ≤ nI k from nI_ge (b := 401) hk (by omega)), if_pos ((pp_ok (by omega)).mpr hk), nI_clamp (by omega)]
theorem pp_siz {x : CS} {k : Nat} (hk : k < 401) : f_X8_size (nI k) x = some (x.1 6 k) := by
  unfold f_X8_size
  rw [if_neg (nI_pos (by omega)), if_neg (show ¬ (401 : Int32) ≤ nI k from nI_ge (b := 401) hk (by omega)), if_pos ((pp_ok (by omega)).mpr hk), nI_clamp (by omega)]
theorem pp_65 {y : MS} {k : Nat} (hk : k < 402) : f_X15_readAll_65 (nI k) y = some (g_mi (g_mi y 122 k 33) 124 k (y 120 2)) := by
  have hok := (pp_ok (k := k) (n := 402) (by omega)).mpr hk
  unfold f_X15_readAll_65
  rw [if_pos hok, if_pos hok, nI_clamp (by omega), show (g_mi y 122 k 33) 120 = y 120 by rw [pp_g1, pp_g4 (by omega)]]
theorem pp_tapL {t : Nat → Nat} {T : Nat} : ∀ d fc fm k p x y, d = 401 - k → d < fc → d + 1 < fm → k ≤ 400 → p ≤ T → pp_CT x t T → pp_MT y t T → x.1 3 5 = nI k → (∀ i, i < k → pp_TK x y t T i) → ∃ n x' y', f_X8_readTape_16 fc (nI p) (nI k) x = some x' ∧ f_X15_readAll_8 fm (nI p) (nI k) y = some y' ∧ pp_TF x' y' t T n ∧ pp_Fx x x' ∧ pp_Fy y y' := by
  intro d
  induction d with
  | zero => intro fc fm k p x y hd hfc hfm hk; omega
  | succ d ih =>
    intro fc fm k p x y hd hfc hfm hk hp hC hM h35 hK
    obtain ⟨f1, rfl⟩ : ∃ fu, fc = fu + 1 := ⟨fc - 1, by omega⟩
    obtain ⟨f2, rfl⟩ : ∃ fu, fm = fu + 1 := ⟨fm - 1, by omega⟩
    have hT := hC.2.1
    have h400 : ¬ (400 : Int32) < nI k := nI_nlt (b := k) (a := 400) hk (by omega)
    rcases Nat.lt_or_ge p T with hpT | hpT
    · -- a token
      have hR : pp_RT x y t T k p := by
        cases hl : pp_lt t T p with
        | true => exact pp_tokW hC hM h35 hk hl hK
        | false =>
          cases hd : pp_dg t T p with
          | true => exact pp_tokN hC hM h35 hk hl hd
          | false => exact pp_tokS hC hM h35 hk hpT hl hd
      obtain ⟨s, z, v, e, y1, r1, r2, r3, r4, r5, r6, r7, r8, r9, r10, r11⟩ := hR
      have hskM := pp_skM1 (hM.k r8) r7
      have hsB := pp_skpB (t := t) r7
      have hkm1 : ∀ i, i + 1 = k → ¬ y 122 i = 32 := fun i hi => by
        obtain ⟨-, -, -, -, -, -, -, q6, q7, -, -⟩ := hK i (by omega)
        have := pp_trN _ q6
        rw [q7, show (32 : Int32) = nI 32 from rfl, nI_eq (by omega) (by omega)]
        exact this.1
      have hml : f_X15_readAll_8 (f2 + 1) (nI p) (nI k) y = f_X15_readAll_33 (f_X15_readAll_8 f2) (nI p) (nI k) y := by
        rw [f_X15_readAll_8, hM.1, if_neg (nI_ge hpT (by omega))]
        by_cases h0 : k = 0
        · rw [if_pos (by rw [h0]; rfl)]
        · obtain ⟨i, rfl⟩ : ∃ i, k = i + 1 := ⟨k - 1, by omega⟩
          rw [if_neg (nI_ne0 (by omega) (by omega)), nI_pred, if_pos ((pp_ok (by omega)).mpr (by omega)), nI_clamp (by omega), if_neg (hkm1 i rfl)]
      have hok := (pp_ok (k := k) (n := 402) (by omega)).mpr (by omega)
      unfold f_X15_readAll_33 at hml
      rw [r2, pp_b] at hml
      have hml2 : f_X15_readAll_8 (f2 + 1) (nI p) (nI k) y = (if nI k = 400 then f_X15_readAll_8 f2 (nI (pp_skp t T e)) (nI (k + 1)) (g_mi y1 122 k 32) else f_X15_readAll_8 f2 (nI (pp_skp t T e)) (nI (k + 1)) y1) := by
        rw [hml]
        show Option.bind (f_X15_skip (nI e) y1) _ = _
        rw [hskM, pp_b, if_pos hok, nI_clamp (by omega), nI_1]
      have hstop : ∀ Y : MS, pp_MT Y t T → Y 122 k = 32 → f_X15_readAll_8 f2 (nI (pp_skp t T e)) (nI (k + 1)) Y = some (g_mi (g_mi Y 122 (k + 1) 33) 124 (k + 1) (Y 120 2)) := by
        intro Y hY h32
        obtain ⟨f3, rfl⟩ : ∃ fu, f2 = fu + 1 := ⟨f2 - 1, by omega⟩
        rw [f_X15_readAll_8, hY.1]
        by_cases h : T ≤ pp_skp t T e
        · rw [if_pos (nI_le h (by omega)), pp_65 (by omega), hY.1]
        · rw [if_neg (nI_ge (by omega) (by omega)), if_neg (nI_ne0 (by omega) (by omega)), nI_pred, if_pos hok, nI_clamp (by omega), if_pos h32, pp_65 (by omega), hY.1]
      have hsF : ∀ Y : MS, pp_Fy Y (g_mi (g_mi Y 122 (k + 1) 33) 124 (k + 1) (Y 120 2)) := fun Y i hi => by rw [pp_g1, pp_g4 (by omega), pp_g1, pp_g4 (by omega)]
      have hsK : ∀ Y : MS, ∀ i, (g_mi (g_mi Y 122 (k + 1) 33) 124 (k + 1) (Y 120 2)) i k = Y i k := fun Y i => by
        rw [pp_g1]
        by_cases h1 : i = 124
        · rw [h1, pp_g3, pp_u2 (by omega), pp_g1, pp_g4 (by omega)]
        · rw [pp_g4 h1, pp_g1]
          by_cases h2 : i = 122
          · rw [h2, pp_g3, pp_u2 (by omega)]
          · rw [pp_g4 h2]
      have hsY : ∀ Y : MS, ∀ i j, j < k → (g_mi (g_mi Y 122 (k + 1) 33) 124 (k + 1) (Y 120 2)) i j = Y i j := fun Y i j hj => by
        rw [pp_g1]
        by_cases h1 : i = 124
        · rw [h1, pp_g3, pp_u2 (by omega), pp_g1, pp_g4 (by omega)]
        · rw [pp_g4 h1, pp_g1]
          by_cases h2 : i = 122
          · rw [h2, pp_g3, pp_u2 (by omega)]
          · rw [pp_g4 h2]
      obtain ⟨k1, k2, k3, k4, k5, k6, k7⟩ := pp_tk1 (x := x) (k := k) (s := 45) (p := nI p) (z := 0) (v := 0)
      -- TK of earlier tokens under changes of places from k on
      have hKY : ∀ (x1 : CS) (Y : MS), (∀ j, j < k → x1.1 5 j = x.1 5 j ∧ x1.1 6 j = x.1 6 j ∧ x1.1 7 j = x.1 7 j ∧ x1.2 4 j = x.2 4 j) → (∀ i j, j < k → Y i j = y i j) → ∀ i, i < k → pp_TK x1 Y t T i := by
        intro x1 Y hx hy i hi
        obtain ⟨a, b, q1, q2, q3, q4, q5, q6, q7, q8, q9⟩ := hK i hi
        have heq : ∀ a b, a < k → b < k → (pp_eqt x1 t a b ↔ pp_eqt x t a b) := fun a b ha hb => by
          unfold pp_eqt
          rw [(hx a ha).1, (hx b hb).1, (hx a ha).2.1, (hx b hb).2.1]
        refine ⟨a, b, by rw [(hx i hi).1]; exact q1, by rw [hy _ _ hi]; exact q2, by rw [(hx i hi).2.1]; exact q3, by rw [hy _ _ hi]; exact q4, q5, by rw [(hx i hi).2.2.2]; exact q6, by rw [hy _ _ hi, (hx i hi).2.2.2]; exact q7, fun u => ?_, fun u => ?_⟩
        · rw [(hx i hi).2.2.2] at u
          rw [hy _ _ hi, (hx i hi).2.2.1]; exact q8 u
        · rw [(hx i hi).2.2.2] at u
          obtain ⟨f, e1, e2, e3, e4, e5⟩ := q9 u
          have hfk : f < k := Nat.lt_of_le_of_lt e1 hi
          refine ⟨f, e1, by rw [(hx i hi).2.2.1]; exact e2, by rw [(hx f hfk).2.2.2]; exact e3, (heq f i hfk hi).mpr e4, fun j hj u2 u3 => ?_⟩
          have hjk : j < k := Nat.lt_trans hj hfk
          rw [(hx j hjk).2.2.2] at u2
          exact e5 j hj u2 ((heq j i hjk hi).mp u3)
      have htkx : ∀ s z v, ∀ j, j < k → (pp_tk x k s (nI p) z v).1 5 j = x.1 5 j ∧ (pp_tk x k s (nI p) z v).1 6 j = x.1 6 j ∧ (pp_tk x k s (nI p) z v).1 7 j = x.1 7 j ∧ (pp_tk x k s (nI p) z v).2 4 j = x.2 4 j := fun s z v j hj => by
        obtain ⟨k1, k2, k3, k4, k5, k6, k7⟩ := pp_tk1 (x := x) (k := k) (s := s) (p := nI p) (z := z) (v := v)
        exact ⟨by rw [k3, pp_u2 (by omega)], by rw [k4, pp_u2 (by omega)], by rw [k5, pp_u2 (by omega)], by rw [k6]; unfold va_up; rw [if_neg (by omega)]⟩
      rcases Nat.lt_or_ge k 400 with hk4 | hk4
      · have r1' := r1 hk4
        have hne : ¬ nI k = 400 := by rw [show (400 : Int32) = nI 400 from rfl, nI_eq (by omega) (by omega)]; omega
        rw [if_neg hne] at hml2
        have hupk : (pp_tk x k s (nI p) (nI z) v).2 4 k = s := by rw [pp_tk1.2.2.2.2.2.1]; unfold va_up; rw [if_pos rfl]
        by_cases h45 : s = 45
        · -- a wrong one: both stop
          have h32 : y1 122 k = 32 := by rw [r9, h45]; rfl
          rw [hstop y1 (hM.k r8) h32] at hml2
          refine ⟨k, _, _, ?_, hml2, ⟨hk, hKY _ _ (htkx _ _ _) (fun i j hj => by rw [hsY _ _ _ hj]; exact r8.2 i j (by omega)), Or.inr (by rw [hupk, h45]), ?_, p, hp, by rw [pp_tk1.2.2.1, pp_u1], ?_⟩, pp_tkF, pp_Fy.tr (fun i hi => r8.1 i hi) (hsF y1)⟩
          · rw [f_X8_readTape_16, if_neg h400, r1', pp_b, pp_sgn (by omega), pp_b, pp_b, hupk, h45, if_neg (by decide), if_pos rfl]
          · rw [hsK, r9, hupk]
          · rw [hsK, r10]
        · obtain ⟨e1, hnew⟩ := r11 h45
          have hFx := pp_tkF (x := x) (k := k) (s := s) (p := nI p) (z := nI z) (v := v)
          have hzk : (pp_tk x k s (nI p) (nI z) v).1 6 k = nI z := by rw [pp_tk1.2.2.2.1, pp_u1]
          obtain ⟨n, x', y', i1, i2, i3, i4, i5⟩ := ih f1 f2 (k + 1) (pp_skp t T e) _ y1 (by omega) (by omega) (by omega) (by omega) hsB.2 (hC.x hFx) (hM.k r8) (by rw [pp_tk1.2.1, pp_u1]) (fun i hi => by
            rcases Nat.lt_or_ge i k with h | h
            · exact (hK i h).k h r8
            · have e : i = k := by omega
              rw [e]; exact hnew)
          refine ⟨n, x', y', ?_, hml2.trans i2, i3, hFx.tr i4, pp_Fy.tr (fun i hi => r8.1 i hi) i5⟩
          rw [f_X8_readTape_16, if_neg h400, r1', pp_b, pp_sgn (by omega), pp_b, pp_b, hupk, if_neg r5, if_neg h45, pp_siz (by omega), pp_b, hzk, nI_add, ← e1, pp_skC1 (hC.x hFx) r7, pp_b, nI_1]
          exact i1
      · -- one too many
        have ek : k = 400 := by omega
        rw [if_pos (by rw [ek]; rfl)] at hml2
        have hYk : pp_Yk k y (g_mi y1 122 k 32) := r8.mi (by omega)
        rw [hstop _ (hM.k hYk) (by rw [pp_g1, pp_g3, pp_u1])] at hml2
        have hupk : (pp_tk x k 45 (nI p) 0 0).2 4 k = 45 := by rw [k6]; unfold va_up; rw [if_pos rfl]
        refine ⟨k, _, _, ?_, hml2, ⟨hk, hKY (pp_tk x k 45 (nI p) 0 0) _ (htkx _ _ _) (fun i j hj => by rw [hsY _ _ _ hj]; exact hYk.2 i j (by omega)), Or.inr hupk, ?_, p, hp, by rw [k3, pp_u1], ?_⟩, pp_tkF, pp_Fy.tr (fun i hi => hYk.1 i hi) (hsF _)⟩
        · rw [f_X8_readTape_16, if_neg h400]
          have : f_X8_readToken (nI p) x = some (pp_tk x k 45 (nI p) 0 0) := by
            unfold f_X8_readToken
            rw [hC.1, if_pos (nI_lt hpT (by omega)), h35, if_neg (show ¬ nI k < (400 : Int32) from nI_nlt (a := k) (b := 400) (by omega) (by omega)), pp_add h35 (by omega) (by omega)]
            rfl
          rw [this, pp_b, pp_sgn (by omega), pp_b, pp_b, hupk, if_neg (by decide), if_pos rfl]
        · rw [hsK, pp_g1, pp_g3, pp_u1, hupk]; rfl
        · rw [hsK, pp_g1, pp_g4 (by omega), r10]
    · -- the end
      have e : p = T := by omega
      subst e
      obtain ⟨k1, k2, k3, k4, k5, k6, k7⟩ := pp_tk1 (x := x) (k := k) (s := 44) (p := nI p) (z := 0) (v := 0)
      have hupk : (pp_tk x k 44 (nI p) 0 0).2 4 k = 44 := by rw [k6]; unfold va_up; rw [if_pos rfl]
      have hle := nI_le (Nat.le_refl p) (show p < 2 ^ 31 by omega)
      have hYk : pp_Yk k y (g_mi (g_mi y 122 k 33) 124 k (y 120 2)) := ((pp_Yk.rf k y).mi (by omega)).mi (by omega)
      refine ⟨k, pp_tk x k 44 (nI p) 0 0, g_mi (g_mi y 122 k 33) 124 k (y 120 2), ?_, ?_, ⟨hk, fun i hi => (hK i hi).k hi hYk, Or.inl hupk, ?_, p, hp, by rw [k3, pp_u1], ?_⟩, pp_tkF, fun i hi => hYk.1 i hi⟩
      · have : f_X8_readToken (nI p) x = some (pp_tk x k 44 (nI p) 0 0) := by
          unfold f_X8_readToken
          rw [hC.1, if_neg (nI_nlt (Nat.le_refl p) (by omega)), pp_add h35 (by omega) (by omega)]
          rfl
        rw [f_X8_readTape_16, if_neg h400, this, pp_b, pp_sgn (by omega), pp_b, hupk, if_pos rfl]
      · rw [f_X15_readAll_8, hM.1, if_pos hle, pp_65 (by omega), hM.1]
      · rw [hupk, pp_g1, pp_g4 (by omega), pp_g1, pp_g3, pp_u1]; rfl
      · rw [pp_g1, pp_g3, pp_u1, hM.1]
theorem pp_tape {x : CS} {y : MS} {t : Nat → Nat} {T : Nat} (hC : pp_CT x t T) (hM : pp_MT y t T) : ∃ n x' y', f_X8_readTape x = some x' ∧ f_X15_readAll y = some y' ∧ pp_TF x' y' t T n ∧ pp_Fx x x' ∧ pp_Fy y y' := by
  have hT := hC.2.1
  have hF0 : pp_Fx x (g_wi x 3 5 0) := ⟨fun i h1 _ _ _ => by rw [pp_c1, pp_c4 h1], fun _ _ => rfl⟩
  have hC0 := hC.x hF0
  have hs := pp_skpB (t := t) (T := T) (p := 0) (by omega)
  obtain ⟨n, x', y', i1, i2, i3, i4, i5⟩ := pp_tapL (t := t) (T := T) (401 - 0) g_fuel g_fuel 0 (pp_skp t T 0) (g_wi x 3 5 0) y rfl (by decide) (by decide) (by omega) hs.2 hC0 hM (by rw [pp_c1, pp_c3, pp_u1]; rfl) (fun i hi => absurd hi (Nat.not_lt_zero _))
  refine ⟨n, x', y', ?_, ?_, i3, hF0.tr i4, i5⟩
  · unfold f_X8_readTape
    rw [show (0 : Int32) = nI 0 from rfl] at *
    rw [pp_skC1 hC0 (by omega), pp_b]
    exact i1
  · unfold f_X15_readAll
    rw [show (0 : Int32) = nI 0 from rfl, pp_skM1 hM (by omega), pp_b]
    exact i2
