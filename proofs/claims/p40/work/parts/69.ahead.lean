/-! the class between calls: what would be; the best shift; the mean; the checksum -/
section PQA
variable {A : PV} {les car : Int32} {b v R nr : Nat} {ρs : Nat → QR} {sg : Nat → Nat} {vl : Nat → Int32} {x : CS}
theorem pq_R.fr (h : pq_R A les car b v R nr ρs sg vl x) {u : Nat} {x1 : CS} (hu : u = 41 ∨ u = 91) (hne : u ≠ v) (hF : pp_Fc u x x1) : pq_R A les car b v R nr ρs sg vl x1 := by
  have hv := h.2.2.2.2.1.1
  have hb := h.bk
  have hC := pp_VC.fr h.1 h.2.2.2.2.1 hu hne hF
  obtain ⟨hA, ⟨k1, k2, k3⟩, ⟨k4, k5⟩, k6, -, ⟨k7, k8⟩, k9, k10, k11⟩ := h
  have e : ∀ i, i < 9 ∨ 20 ≤ i → i < u ∨ u + 29 ≤ i → x1.1 i = x.1 i := fun i h1 h2 => hF.1 i (by omega) h2
  refine ⟨hA, ⟨by rw [hF.2]; exact k1, by rw [hF.2]; exact k2, by rw [hF.2]; exact k3⟩, ⟨k4, by rw [e b (by omega) (by omega)]; exact k5⟩, by rw [e 1 (by omega) (by omega)]; exact k6, hC, ⟨by rw [e v (by omega) (by omega)]; exact k7, by rw [e v (by omega) (by omega)]; exact k8⟩, ?_, by rw [hF.2]; exact k10, by rw [e (b + 4) (by omega) (by omega)]; exact k11⟩
  obtain ⟨q1, q2, q3, q4, q5⟩ := k9
  exact ⟨q1, q2, by rw [e b (by omega) (by omega)]; exact q3, by rw [e b (by omega) (by omega)]; exact q4, fun k hk => (q5 k hk).e (by omega) (fun i h3 h4 => e i (by omega) (by omega)) hF.2⟩
/-- one lesson on the spare words -/
theorem pq_oneS (h : pq_R A les car b v R nr ρs sg vl x) {u : Nat} {A1 : PV} {l1 : Int32} (hu : u = 41 ∨ u = 91) (hne : u ≠ v) (hA1 : pv_ok A1) (hC1 : pp_VC A1 x u) (hW1 : pv_W A1 = pv_W A) (hg1 : pv_g A1 = pv_g A) (hl1 : x.1 u 3 = l1) : ∃ x' z, f_X1_passOne b u x = some (z, x') ∧ pq_R A les car b v R nr ρs sg vl x' ∧ pv_ok (pq_fold l1 sg vl ρs R A1).2 ∧ pp_VC (pq_fold l1 sg vl ρs R A1).2 x' u ∧ pv_W (pq_fold l1 sg vl ρs R A1).2 = pv_W A ∧ pv_g (pq_fold l1 sg vl ρs R A1).2 = pv_g A ∧ x'.1 u 3 = l1 + 1 := by
  obtain ⟨x', t1, t2, t3, t4, t5⟩ := pq_less (ρs := ρs) (R := R) (b := b) hA1 hC1 (by rw [hW1, hg1]; exact h.2.2.2.2.2.2.1)
  have es : pq_ls (x.1 u 3) x b R ρs A1 = pq_fold l1 sg vl ρs R A1 := by
    unfold pq_ls
    rw [hl1, h.2.2.2.2.2.2.2.1, h.2.2.2.2.2.2.2.2]
  rw [es] at t1 t2
  have hA := pq_fold2 (les := l1) (sg := sg) (vl := vl) (ρs := ρs) hA1 R
  exact ⟨x', _, t1, h.fr hu hne t5, hA.1, t2, hA.2.1.trans hW1, hA.2.2.2.2.2.trans hg1, by rw [t3, hl1]⟩
theorem pq_spare (h : pq_R A les car b v R nr ρs sg vl x) : (x.2 0 9 = 41 ∨ x.2 0 9 = 91) ∧ x.2 0 9 ≠ v := by
  have := h.2.1.2.2
  omega
theorem pq_keaL {n : Nat} (hn : n ≤ 20) : ∀ d fc k A1 l1 x, d = n - k → d < fc → k ≤ n → pq_R A les car b v R nr ρs sg vl x → pv_ok A1 → pp_VC A1 x (x.2 0 9) → pv_W A1 = pv_W A → pv_g A1 = pv_g A → x.1 (x.2 0 9) 3 = l1 → ∃ x', f_X12_keptAfter_17 fc (nI n) (nI k) x = some (nI (pp_kn (pv_pr (pq_many sg vl ρs R d l1 A1).2) (pv_W A)), x') ∧ pq_R A les car b v R nr ρs sg vl x' := by
  intro d
  induction d with
  | zero =>
    intro fc k A1 l1 x hd hfc hk h hA1 hC1 hW1 hg1 hl1
    obtain ⟨f1, rfl⟩ : ∃ fu, fc = fu + 1 := ⟨fc - 1, by omega⟩
    have hu := pq_spare h
    refine ⟨x, ?_, h⟩
    rw [f_X12_keptAfter_17, if_pos (nI_le (by omega) (by omega)), if_pos (pp_k9 hu.1), pp_keptC hA1 hC1, hW1]
    rfl
  | succ d ih =>
    intro fc k A1 l1 x hd hfc hk h hA1 hC1 hW1 hg1 hl1
    obtain ⟨f1, rfl⟩ : ∃ fu, fc = fu + 1 := ⟨fc - 1, by omega⟩
    have hu := pq_spare h
    have hlt := nI_ge (show k < n by omega) (show n < 2 ^ 31 by omega)
    obtain ⟨x1, z, t1, t2, t3, t4, t5, t6, t7⟩ := pq_oneS h hu.1 hu.2 hA1 hC1 hW1 hg1 hl1
    have e9 : x1.2 0 9 = x.2 0 9 := by
      have q1 := t2.2.1.2.2
      have q2 := h.2.1.2.2
      omega
    obtain ⟨x', i1, i2⟩ := ih f1 (k + 1) _ (l1 + 1) x1 (by omega) (by omega) (by omega) t2 t3 (by rw [e9]; exact t4) t5 t6 (by rw [e9]; exact t7)
    refine ⟨x', ?_, i2⟩
    rw [f_X12_keptAfter_17, if_neg hlt, h.2.1.1, if_pos (pp_k7 h.bk), if_pos (pp_k9 hu.1), t1, pp_b, nI_1]
    exact i1
theorem pq_keptAfter (h : pq_R A les car b v R nr ρs sg vl x) {n : Nat} (h0 : 0 < n) (hn : n ≤ 20) : ∃ x', f_X12_keptAfter (nI n) x = some (nI (pp_kn (pv_pr (pq_many sg vl ρs R n les A).2) (pv_W A)), x') ∧ pq_R A les car b v R nr ρs sg vl x' := by
  have hu := pq_spare h
  obtain ⟨x1, t1, t2, t3, t4, t5⟩ := pp_cpyC (u := x.2 0 9) h.1 h.2.2.2.2.1 hu.1 hu.2
  have h1 := h.fr hu.1 hu.2 t3
  have e9 : x1.2 0 9 = x.2 0 9 := by rw [t3.2]
  obtain ⟨x', i1, i2⟩ := pq_keaL hn n g_fuel 0 A les x1 (by omega) (by unfold g_fuel; omega) (by omega) h1 h.1 (by rw [e9]; exact t2) rfl rfl (by rw [e9, t4]; exact h.2.2.2.2.2.1.1)
  refine ⟨x', ?_, i2⟩
  unfold f_X12_keptAfter
  rw [pp_rlI h0 hn, pp_b, if_pos (pp_k9 hu.1), h.2.1.2.1, if_pos (pp_k9 h.2.2.2.2.1.1), t1, pp_b]
  exact i1
/-- behind how many lessons word j is meant: d lessons left, k passed -/
def pq_un (sg : Nat → Nat) (vl : Nat → Int32) (ρs : Nat → QR) (R j : Nat) : Nat → Nat → Int32 → PV → Int32
  | 0, _, _, _ => -1
  | d + 1, k, les, A => if pv_mt A none = some j then nI k else pq_un sg vl ρs R j d (k + 1) (les + 1) (pq_fold les sg vl ρs R A).2
theorem pq_untL {j : Nat} (hj : j < 8) : ∀ d fc k A1 l1 x, d = 21 - k → d < fc → k ≤ 21 → pq_R A les car b v R nr ρs sg vl x → pv_ok A1 → pp_VC A1 x (x.2 0 9) → pv_W A1 = pv_W A → pv_g A1 = pv_g A → x.1 (x.2 0 9) 3 = l1 → ∃ x', f_X12_lessonsUntilMeant_18 fc (nI j) (nI k) x = some (pq_un sg vl ρs R j d k l1 A1, x') ∧ pq_R A les car b v R nr ρs sg vl x' := by
  intro d
  induction d with
  | zero =>
    intro fc k A1 l1 x hd hfc hk h hA1 hC1 hW1 hg1 hl1
    obtain ⟨f1, rfl⟩ : ∃ fu, fc = fu + 1 := ⟨fc - 1, by omega⟩
    refine ⟨x, ?_, h⟩
    rw [f_X12_lessonsUntilMeant_18, if_pos (show (20 : Int32) < nI k from nI_lt (a := 20) (by omega) (by omega))]
    rfl
  | succ d ih =>
    intro fc k A1 l1 x hd hfc hk h hA1 hC1 hW1 hg1 hl1
    obtain ⟨f1, rfl⟩ : ∃ fu, fc = fu + 1 := ⟨fc - 1, by omega⟩
    have hu := pq_spare h
    have hlt : ¬ (20 : Int32) < nI k := nI_nlt (a := 20) (by omega) (by omega)
    have hmb : ∀ q, pv_mt A1 none = some q → q < 2 ^ 31 := fun q hq => by
      have := (pv_mtB hq).1
      have := hA1.1
      omega
    rw [f_X12_lessonsUntilMeant_18, if_neg hlt, if_pos (pp_k9 hu.1), pp_meantC hA1 hC1, pp_b]
    by_cases hm : pv_mt A1 none = some j
    · refine ⟨x, ?_, h⟩
      rw [if_pos ((pp_ene (k := j) (by omega) hmb).mpr hm).symm, pq_un, if_pos hm]
    · obtain ⟨x1, z, t1, t2, t3, t4, t5, t6, t7⟩ := pq_oneS h hu.1 hu.2 hA1 hC1 hW1 hg1 hl1
      have e9 : x1.2 0 9 = x.2 0 9 := by
        have q1 := t2.2.1.2.2
        have q2 := h.2.1.2.2
        omega
      obtain ⟨x', i1, i2⟩ := ih f1 (k + 1) _ (l1 + 1) x1 (by omega) (by omega) (by omega) t2 t3 (by rw [e9]; exact t4) t5 t6 (by rw [e9]; exact t7)
      refine ⟨x', ?_, i2⟩
      rw [if_neg (fun q => hm ((pp_ene (k := j) (by omega) hmb).mp q.symm)), h.2.1.1, if_pos (pp_k7 h.bk), t1, pp_b, nI_1, pq_un, if_neg hm]
      exact i1
theorem pq_until (h : pq_R A les car b v R nr ρs sg vl x) {j : Nat} (hj : j < pv_W A) : ∃ x', f_X12_lessonsUntilMeant (nI j) x = some (pq_un sg vl ρs R j 21 0 les A, x') ∧ pq_R A les car b v R nr ρs sg vl x' := by
  have hu := pq_spare h
  have hW := h.1.1
  obtain ⟨x1, t1, t2, t3, t4, t5⟩ := pp_cpyC (u := x.2 0 9) h.1 h.2.2.2.2.1 hu.1 hu.2
  have h1 := h.fr hu.1 hu.2 t3
  have e9 : x1.2 0 9 = x.2 0 9 := by rw [t3.2]
  obtain ⟨x', i1, i2⟩ := pq_untL (j := j) (by omega) 21 g_fuel 0 A les x1 (by omega) (by unfold g_fuel; omega) (by omega) h1 h.1 (by rw [e9]; exact t2) rfl rfl (by rw [e9, t4]; exact h.2.2.2.2.2.1.1)
  refine ⟨x', ?_, i2⟩
  unfold f_X12_lessonsUntilMeant
  rw [pq_rq h hj, pp_b, if_pos (pp_k9 hu.1), h.2.1.2.1, if_pos (pp_k9 h.2.2.2.2.1.1), t1, pp_b]
  exact i1
theorem pq_meantO (h : pq_R A les car b v R nr ρs sg vl x) : f_X1_meantOf v x = some (pp_en (pv_mt A none)) := pp_meantC h.1 h.2.2.2.2.1
/-- the shifts in the order in which they are tried: 0, 1, -1, 2, -2 .. -/
def pq_sv (t : Nat) : Int32 := if t % 2 = 0 then nI (t / 2) else -nI (t / 2)
/-- the first of the best ones among ranks below n (0 and 2 .. n - 1) -/
def pq_bs (D : Nat → Nat) : Nat → Nat
  | 0 => 0
  | n + 1 => if n < 2 then 0 else if D n < D (pq_bs D n) then n else pq_bs D n
theorem pq_bsP {D : Nat → Nat} : ∀ n, (pq_bs D n = 0 ∨ (2 ≤ pq_bs D n ∧ pq_bs D n < n)) ∧ D (pq_bs D n) ≤ D 0 ∧ (∀ t, 2 ≤ t → t < n → D (pq_bs D n) ≤ D t ∧ (D (pq_bs D n) = D t → pq_bs D n ≤ t)) ∧ (D (pq_bs D n) = D 0 → pq_bs D n = 0) := by
  intro n
  induction n with
  | zero => exact ⟨Or.inl rfl, Nat.le_refl _, fun t h1 h2 => by omega, fun _ => rfl⟩
  | succ n ih =>
    obtain ⟨i1, i2, i3, i4⟩ := ih
    have e : pq_bs D (n + 1) = if n < 2 then 0 else if D n < D (pq_bs D n) then n else pq_bs D n := rfl
    by_cases hn : n < 2
    · rw [e, if_pos hn]
      exact ⟨Or.inl rfl, Nat.le_refl _, fun t h1 h2 => by omega, fun _ => rfl⟩
    · rw [e, if_neg hn]
      by_cases hD : D n < D (pq_bs D n)
      · rw [if_pos hD]
        refine ⟨Or.inr ⟨by omega, by omega⟩, by omega, fun t h1 h2 => ?_, fun h => by omega⟩
        by_cases ht : t = n
        · subst ht; exact ⟨Nat.le_refl _, fun _ => Nat.le_refl _⟩
        · have := i3 t h1 (by omega)
          exact ⟨by omega, fun h => by omega⟩
      · rw [if_neg hD]
        refine ⟨by omega, i2, fun t h1 h2 => ?_, i4⟩
        by_cases ht : t = n
        · subst ht; exact ⟨by omega, fun _ => by omega⟩
        · exact i3 t h1 (by omega)
theorem pq_bL {j : Nat} (hj : j < pv_W A) (h0 : pv_hl A ≠ 0) : ∀ d fc k x, d = 40 - k → d < fc → 0 < k → k ≤ 40 → pq_R A les car b v R nr ρs sg vl x → ∃ x', pp_Sc x x' ∧ f_X12_bestShift_21 fc (nI j) (pq_sv (pq_bs (fun t => pv_ds A j (pq_sv t)) (2 * k))) (nI (pv_ds A j (pq_sv (pq_bs (fun t => pv_ds A j (pq_sv t)) (2 * k))))) (nI k) x = some (pq_sv (pq_bs (fun t => pv_ds A j (pq_sv t)) 80), x') := by
  intro d
  induction d with
  | zero =>
    intro fc k x hd hfc hk0 hk h
    obtain ⟨f1, rfl⟩ : ∃ fu, fc = fu + 1 := ⟨fc - 1, by omega⟩
    refine ⟨x, pp_Sc.rf x, ?_⟩
    have e : 2 * k = 80 := by omega
    rw [f_X12_bestShift_21, if_pos (show (39 : Int32) < nI k from nI_lt (a := 39) (by omega) (by omega)), e]
  | succ d ih =>
    intro fc k x hd hfc hk0 hk h
    obtain ⟨f1, rfl⟩ : ∃ fu, fc = fu + 1 := ⟨fc - 1, by omega⟩
    obtain ⟨D, hD⟩ : ∃ D : Nat → Nat, D = fun t => pv_ds A j (pq_sv t) := ⟨_, rfl⟩
    have hDt : ∀ t, pv_ds A j (pq_sv t) = D t := fun t => by rw [hD]
    have hDB : ∀ t, D t < 4000 := fun t => by rw [← hDt]; exact pv_dsB h.1 h.2.2.2.2.1 hj h0
    simp only [← hD] at ih ⊢
    simp only [hDt] at ih ⊢
    have e1 : pq_sv (2 * k) = nI k := by unfold pq_sv; rw [if_pos (by omega), show 2 * k / 2 = k by omega]
    have e2 : pq_sv (2 * k + 1) = -nI k := by unfold pq_sv; rw [if_neg (by omega), show (2 * k + 1) / 2 = k by omega]
    obtain ⟨x1, s1, t1⟩ := pq_best h (j := j) (d := nI k) hj h0
    have h1 := h.s s1
    obtain ⟨x2, s2, t2⟩ := pq_best h1 (j := j) (d := -nI k) hj h0
    have h2 := h1.s s2
    have d1 : pv_ds A j (nI k) = D (2 * k) := by rw [← e1, hDt]
    have d2 : pv_ds A j (-nI k) = D (2 * k + 1) := by rw [← e2, hDt]
    rw [d1] at t1
    rw [d2] at t2
    have b1 : pq_bs D (2 * k + 1) = if D (2 * k) < D (pq_bs D (2 * k)) then 2 * k else pq_bs D (2 * k) := by
      show (if 2 * k < 2 then 0 else _) = _
      rw [if_neg (by omega)]
    have b2 : pq_bs D (2 * k + 1 + 1) = if D (2 * k + 1) < D (pq_bs D (2 * k + 1)) then 2 * k + 1 else pq_bs D (2 * k + 1) := by
      show (if 2 * k + 1 < 2 then 0 else _) = _
      rw [if_neg (by omega)]
    obtain ⟨x', s3, i1⟩ := ih f1 (k + 1) x2 (by omega) (by omega) (by omega) (by omega) h2
    rw [show 2 * (k + 1) = 2 * k + 1 + 1 by omega] at i1
    refine ⟨x', (s1.tr s2).tr s3, ?_⟩
    have hle : ∀ p q : Nat, (nI (D p) ≤ nI (D q)) ↔ D p ≤ D q := fun p q => by
      have := hDB p; have := hDB q
      constructor
      · intro hh
        rcases Nat.lt_or_ge (D q) (D p) with h5 | h5
        · exact absurd hh (nI_ge h5 (by omega))
        · exact h5
      · intro hh; exact nI_le hh (by omega)
    have step2 : ∀ c : Nat, c = pq_bs D (2 * k + 1) → f_X12_bestShift_49 (f_X12_bestShift_21 f1) (nI j) (pq_sv c) (nI (D c)) (nI k) x1 = some (pq_sv (pq_bs D 80), x') := by
      intro c hc
      unfold f_X12_bestShift_49
      rw [t2, pp_b]
      show (if nI (D c) ≤ nI (D (2 * k + 1)) then _ else _) = _
      by_cases hq : D c ≤ D (2 * k + 1)
      · rw [if_pos ((hle _ _).mpr hq), nI_1]
        rw [b2, ← hc, if_neg (by omega)] at i1
        exact i1
      · rw [if_neg (fun hh => hq ((hle _ _).mp hh)), nI_1]
        rw [b2, ← hc, if_pos (by omega), e2] at i1
        exact i1
    rw [f_X12_bestShift_21, if_neg (show ¬ (39 : Int32) < nI k from nI_nlt (a := 39) (by omega) (by omega)), t1, pp_b]
    show (if nI (D (pq_bs D (2 * k))) ≤ nI (D (2 * k)) then _ else _) = _
    by_cases hq : D (pq_bs D (2 * k)) ≤ D (2 * k)
    · rw [if_pos ((hle _ _).mpr hq)]
      exact step2 _ (by rw [b1, if_neg (by omega)])
    · rw [if_neg (fun hh => hq ((hle _ _).mp hh))]
      have := step2 (2 * k) (by rw [b1, if_pos (by omega)])
      rw [e1] at this
      exact this
theorem pq_bestS (h : pq_R A les car b v R nr ρs sg vl x) {j : Nat} (hj : j < pv_W A) (h0 : pv_hl A ≠ 0) : ∃ x', pp_Sc x x' ∧ f_X12_bestShift (nI j) x = some (pq_sv (pq_bs (fun t => pv_ds A j (pq_sv t)) 80), x') := by
  obtain ⟨x1, s1, t1⟩ := pq_best h (j := j) (d := 0) hj h0
  obtain ⟨x', s2, t2⟩ := pq_bL (j := j) hj h0 39 g_fuel 1 x1 (by omega) (by unfold g_fuel; omega) (by omega) (by omega) (h.s s1)
  refine ⟨x', s1.tr s2, ?_⟩
  unfold f_X12_bestShift
  have e0 : pq_bs (fun t => pv_ds A j (pq_sv t)) (2 * 1) = 0 := by
    show (if 1 < 2 then 0 else _) = 0
    rw [if_pos (by decide)]
  have e1 : pq_sv 0 = 0 := rfl
  rw [e0, e1] at t2
  rw [pq_rq h hj, pp_b, pq_someH h h0, pp_b, t1, pp_b]
  exact t2
theorem pq_mean (h : pq_R A les car b v R nr ρs sg vl x) : f_X12_meanLength x = some (if pv_W A = 0 then FP.dconst0 else FP.ddiv (FP.i2d (nI (pp_su (pv_ln A) (pv_W A)))) (FP.i2d (nI (pv_W A)))) := by
  have hW := h.1.1
  have hC := h.2.2.2.2.1
  have hv := hC.1
  have hB : ∀ k, k ≤ pv_W A → pp_su (pv_ln A) k ≤ 24 * k := by
    intro k
    induction k with
    | zero => intro _; exact Nat.le_refl _
    | succ k ih =>
      intro hk
      have := ih (by omega)
      have := (hC.2.2.1 k (by omega)).2.2.2.1
      show pp_su (pv_ln A) k + pv_ln A k ≤ _
      omega
  unfold f_X12_meanLength
  rw [h.2.1.2.1, if_pos (pp_k9 hv), hC.2.1]
  by_cases hz : pv_W A = 0
  · rw [if_pos (by rw [hz]; rfl), if_pos hz]
  · rw [if_neg (nI_ne0 (by omega) (by omega)), if_neg hz]
    have key : ∀ d fuel k, d = pv_W A - k → d < fuel → k ≤ pv_W A → f_X12_meanLength_16 x fuel (nI (pp_su (pv_ln A) k)) (nI k) = some (FP.ddiv (FP.i2d (nI (pp_su (pv_ln A) (pv_W A)))) (FP.i2d (nI (pv_W A)))) := by
      intro d
      induction d with
      | zero =>
        intro fuel k hd hfu hk
        obtain ⟨fu, rfl⟩ : ∃ fu, fuel = fu + 1 := ⟨fuel - 1, by omega⟩
        have e : k = pv_W A := by omega
        have h1 := hB _ (Nat.le_refl _)
        rw [f_X12_meanLength_16, h.2.1.2.1, if_pos (pp_k9 hv), hC.2.1, if_pos (nI_le (by omega) (by omega)), e, if_pos (pp_nan _ (by omega) _ (by omega) (by omega))]
      | succ d ih =>
        intro fuel k hd hfu hk
        obtain ⟨fu, rfl⟩ : ∃ fu, fuel = fu + 1 := ⟨fuel - 1, by omega⟩
        have i := ih fu (k + 1) (by omega) (by omega) (by omega)
        rw [f_X12_meanLength_16, h.2.1.2.1, if_pos (pp_k9 hv), hC.2.1, if_neg (nI_ge (by omega) (by omega)), pq_ro h (by omega), pp_b, if_pos (pp_k5 hv (by omega)), (hC.2.2.1 k (by omega)).2.2.1, nI_add, nI_1]
        exact i
    exact key (pv_W A) g_fuel 0 (by omega) (by unfold g_fuel; omega) (by omega)
def pq_dig (A : PV) (les car : Int32) (nr R : Nat) : Int64 := pv_dg A nr (((((((((((((((1019 : Int64) * (31 : Int64)) + ((nI (pv_W A)).toInt64)) * (31 : Int64)) + (nI (pp_kn (pv_pr A) (pv_W A))).toInt64) * (31 : Int64)) + ((nI R).toInt64)) * (31 : Int64)) + (les.toInt64)) * (31 : Int64)) + (car.toInt64)) * (31 : Int64)) + ((nI (pv_hl A)).toInt64)) * (31 : Int64)) + (pp_en (pv_mt A none)).toInt64)
theorem pq_digest (h : pq_R A les car b v R nr ρs sg vl x) : ∃ x', pp_Sc x x' ∧ f_X12_digest x = some (pq_dig A les car nr R, x') := by
  have hC := h.2.2.2.2.1
  obtain ⟨f, hf⟩ := pp_d115 (nr := nr) h.1 hC h.bk h.2.1.1 h.2.1.2.1 h.g h.2.2.1.2 h.2.2.1.1 (pv_W A) g_fuel (((((((((((((((1019 : Int64) * (31 : Int64)) + ((nI (pv_W A)).toInt64)) * (31 : Int64)) + (nI (pp_kn (pv_pr A) (pv_W A))).toInt64) * (31 : Int64)) + ((nI R).toInt64)) * (31 : Int64)) + (les.toInt64)) * (31 : Int64)) + (car.toInt64)) * (31 : Int64)) + ((nI (pv_hl A)).toInt64)) * (31 : Int64)) + (pp_en (pv_mt A none)).toInt64) (x.1 9) (Nat.le_refl _) (by have := h.1.1; unfold g_fuel; omega)
  rw [pp_wae, Nat.sub_self] at hf
  refine ⟨_, pq_sc9 x f, ?_⟩
  unfold f_X12_digest
  rw [h.2.1.2.1, if_pos (pp_k9 hC.1), pp_keptC h.1 hC, pp_b, h.2.1.1, if_pos (pp_k7 h.bk), pq_meantO h, pp_b, hC.2.1, h.2.2.2.2.2.2.1.2.2.1, h.2.2.2.2.2.1.1, h.2.2.2.2.2.1.2, hC.2.2.2.1]
  exact hf
end PQA
