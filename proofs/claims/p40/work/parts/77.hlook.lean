/-! what the law looks up by hand on its heap: distances, meant, kept, near, needless, contours -/
theorem yw_far {g n m t r1 r2 ci si : Nat} {p q : Nat → Nat} {y : MS} (hD : yD y t ci si) (hg : h_I y t 0 = nI g) (hg2 : g ≤ 20) (h1 : yr y r1 p n) (h2 : yr y r2 q m) (n1 : r1 ≠ ci) (n2 : r1 ≠ si) (n3 : r2 ≠ ci) (n4 : r2 ≠ si) (hn0 : 0 < n) (hm0 : 0 < m) : ∃ y', f_l_X16_far t r1 r2 y = some (nI (pp_D g p n q m / 100), y') ∧ yQ ci si y y' := by
  have hn := h1.2.2.1
  have hm := h2.2.2.1
  have hw : yW (fun i j => pp_cp (p i) (q j)) p q (g + pp_ad n m) n m t r1 r2 ci si y := ⟨hD, h1, h2, n1, n2, n3, n4, hn0, hm0, by unfold pp_ad; omega, fun i j => rfl⟩
  obtain ⟨y', a1, a2, a3⟩ := yw_rows n g_fuel y (Nat.le_refl _) (by unfold g_fuel; omega) hw (fun i' j' h1 h2 h3 => by omega)
  have e : yp (fun i j => pp_cp (p i) (q j)) (g + pp_ad n m) n m 0 0 = pp_D g p n q m := yp_eq
  rw [e] at a3
  have hG := pp_gdF (pp_DG (g := g) h1.2.2.2.1 h2.2.2.2.1 hn0 hm0 hn hm) (by omega)
  have hv : h_I y' ci 0 = nI (pp_D g p n q m / 100) := by
    rcases a3 with ⟨c1, -⟩ | ⟨-, -, -, c1, -⟩
    · exfalso; unfold pp_F at c1; omega
    · exact c1
  have e2 : nI n - (1 : Int32) = nI n + (-1) := by
    rw [show nI n - (1 : Int32) = nI (n - 1) from pk_sub (a := n) (b := 1) (by omega), ← pk_m1 (n - 1), show n - 1 + 1 = n by omega]
  refine ⟨y', ?_, a2⟩
  unfold f_l_X16_far f_l_X16_way
  rw [if_pos hD.1, if_pos h1.1, if_pos h2.1, if_pos hD.1, h1.2.1, h2.2.1, hg, e2]
  by_cases hle : m ≤ n
  · rw [if_pos (nI_le hle (by omega)), pk_sub hle, nI_add, show g + (n - m) = g + pp_ad n m by unfold pp_ad; omega, a1, hv]; rfl
  · rw [if_neg (nI_ge (by omega) (by omega)), pk_sub (by omega), nI_add, show g + (m - n) = g + pp_ad n m by unfold pp_ad; omega, a1, hv]; rfl
theorem yQ.G {ci si : Nat} {y y' : MS} (h : yQ ci si y y') : yG 0 y y' := by
  obtain ⟨-, h1, h2, h3, -⟩ := h
  refine ⟨by omega, by omega, by omega, by omega, fun hO i hi => ?_⟩
  rw [h3]
  exact hO i (by omega)
section YLK
variable {A : PV} {les car : Int32} {nr R : Nat} {y : MS} {τ : TI}
theorem yT.D (h : yT A les car nr R y τ) : yD y (ti_t τ) (ti_c τ) (ti_s τ) := by
  obtain ⟨hO, hA, hn, ⟨h1, h2, h3, h4, h5, h6, h7⟩, hw, hh⟩ := h
  exact ⟨h1.1, h1.2.2.2.2.2.2.2.2.2.1, h1.2.2.2.2.2.2.2.2.2.2, h4.1, h4.2, h5.1, h5.2, h6⟩
theorem yT.q (h : yT A les car nr R y τ) {z : MS} (hq : yQ (ti_c τ) (ti_s τ) y z) : yT A les car nr R z τ := by
  have h4 := h.2.2.2.1.2.2.2.1
  have h5 := h.2.2.2.1.2.2.2.2.1
  refine h.F hq.G (fun i _ hi => hq.1 i (fun e => hi (Or.inl e)) (fun e => hi (Or.inr e))) ?_ ?_
  · rw [hq.2.2.2.1, hq.2.2.2.2]; exact h4
  · rw [hq.2.2.2.1, hq.2.2.2.2]; exact h5
theorem yT.t0 (h : yT A les car nr R y τ) : h_K y (ti_t τ) = 53 ∧ h_I y (ti_t τ) 0 = nI (pv_g A) ∧ h_I y (ti_t τ) 1 = nI nr ∧ h_R y (ti_t τ) 2 = ti_w τ ∧ h_R y (ti_t τ) 3 = ti_p τ ∧ h_R y (ti_t τ) 4 = ti_h τ ∧ h_I y (ti_t τ) 5 = les ∧ h_I y (ti_t τ) 6 = car ∧ h_R y (ti_t τ) 7 = ti_r τ ∧ h_R y (ti_t τ) 8 = ti_c τ ∧ h_R y (ti_t τ) 9 = ti_s τ := h.2.2.2.1.1
theorem yT.w0 (h : yT A les car nr R y τ) : h_K y (ti_w τ) = 63 ∧ h_N y (ti_w τ) = pv_W A := h.2.2.2.1.2.1
theorem yT.p0 (h : yT A les car nr R y τ) : h_K y (ti_p τ) = 62 ∧ h_N y (ti_p τ) = pv_W A ∧ ∀ j, j < pv_W A → h_I y (ti_p τ) j = nI (pv_pr A j) := h.2.2.2.1.2.2.1
theorem yT.wd (h : yT A les car nr R y τ) {j : Nat} (hj : j < pv_W A) : yr y (h_R y (ti_w τ) j) (pv_pt A j) (pv_ln A j) ∧ 0 < pv_ln A j ∧ h_R y (ti_w τ) j ≠ ti_c τ ∧ h_R y (ti_w τ) j ≠ ti_s τ := h.2.2.2.2.1 j hj
theorem yT.hr (h : yT A les car nr R y τ) : yr y (ti_h τ) (pv_hp A) (pv_hl A) ∧ ti_h τ ≠ ti_c τ ∧ ti_h τ ≠ ti_s τ := h.2.2.2.2.2
theorem yT.ddB (h : yT A les car nr R y τ) {i j : Nat} (hi : i < pv_W A) (hj : j < pv_W A) : pv_dd A i j < 4000 := by
  obtain ⟨a1, a2, -⟩ := h.wd hi
  obtain ⟨b1, b2, -⟩ := h.wd hj
  have hG := pp_gdF (pp_DG (g := pv_g A) a1.2.2.2.1 b1.2.2.2.1 a2 b2 a1.2.2.1 b1.2.2.1) (by omega)
  unfold pv_dd
  omega
theorem yT.dhB (h : yT A les car nr R y τ) {j : Nat} (hj : j < pv_W A) : pv_dh A j < 4000 := pv_dhB h.2.1 (h.wd hj).1.2.2.2.1 h.hr.1.2.2.2.1 (h.wd hj).1.2.2.1 h.hr.1.2.2.1 hj
theorem yT.fww (h : yT A les car nr R y τ) {i j : Nat} (hi : i < pv_W A) (hj : j < pv_W A) : ∃ y', f_l_X16_far (ti_t τ) (h_R y (ti_w τ) i) (h_R y (ti_w τ) j) y = some (nI (pv_dd A i j), y') ∧ yQ (ti_c τ) (ti_s τ) y y' := by
  obtain ⟨a1, a2, a3, a4⟩ := h.wd hi
  obtain ⟨b1, b2, b3, b4⟩ := h.wd hj
  exact yw_far h.D h.t0.2.1 h.2.1.2.2.2 a1 b1 a3 a4 b3 b4 a2 b2
theorem yT.fwh (h : yT A les car nr R y τ) {i : Nat} (hi : i < pv_W A) (h0 : pv_hl A ≠ 0) : ∃ y', f_l_X16_far (ti_t τ) (h_R y (ti_w τ) i) (ti_h τ) y = some (nI (pv_dh A i), y') ∧ yQ (ti_c τ) (ti_s τ) y y' := by
  obtain ⟨a1, a2, a3, a4⟩ := h.wd hi
  obtain ⟨b1, b3, b4⟩ := h.hr
  have e : pv_dh A i = pp_D (pv_g A) (pv_pt A i) (pv_ln A i) (pv_hp A) (pv_hl A) / 100 := if_neg h0
  rw [e]
  exact yw_far h.D h.t0.2.1 h.2.1.2.2.2 a1 b1 a3 a4 b3 b4 a2 (by omega)
end YLK
/-! the best of some, however it is sought -/
def yi (P : Nat → Prop) (d : Nat → Nat) (a n b : Nat) : Prop := a ≤ b ∧ b < n ∧ P b ∧ ∀ j, a ≤ j → j < n → P j → d b < d j ∨ (d b = d j ∧ b ≤ j)
theorem yi.u {P : Nat → Prop} {d : Nat → Nat} {a n b c : Nat} (h : yi P d a n b) (k : yi P d a n c) : b = c := by
  have h1 := h.2.2.2 c k.1 k.2.1 k.2.2.1
  have h2 := k.2.2.2 b h.1 h.2.1 h.2.2.1
  omega
theorem pp_bestI {ok : Nat → Bool} {d : Nat → Nat} : ∀ n, (pp_best ok d n = none ∧ ∀ j, j < n → ¬ ok j = true) ∨ (∃ b, pp_best ok d n = some b ∧ yi (fun j => ok j = true) d 0 n b) := by
  intro n
  induction n with
  | zero => exact Or.inl ⟨rfl, fun j hj => by omega⟩
  | succ n ih =>
    unfold pp_best
    by_cases hk : ok n = true
    · rw [if_pos hk]
      right
      rcases ih with ⟨i1, i2⟩ | ⟨b, i1, i2⟩
      · rw [i1]
        refine ⟨n, rfl, by omega, by omega, hk, fun j _ hj hj2 => ?_⟩
        rcases Nat.lt_or_ge j n with q | q
        · exact absurd hj2 (i2 j q)
        · have e : j = n := by omega
          subst e; exact Or.inr ⟨rfl, Nat.le_refl _⟩
      · rw [i1]
        obtain ⟨b1, b2, b3, b4⟩ := i2
        by_cases hd : d n < d b
        · refine ⟨n, by show (if d n < d b then some n else some b) = some n; rw [if_pos hd], by omega, by omega, hk, fun j h1 h2 h3 => ?_⟩
          rcases Nat.lt_or_ge j n with q | q
          · have := b4 j h1 q h3
            omega
          · have e : j = n := by omega
            subst e; exact Or.inr ⟨rfl, Nat.le_refl _⟩
        · refine ⟨b, by show (if d n < d b then some n else some b) = some b; rw [if_neg hd], by omega, by omega, b3, fun j h1 h2 h3 => ?_⟩
          rcases Nat.lt_or_ge j n with q | q
          · exact b4 j h1 q h3
          · have e : j = n := by omega
            subst e; omega
    · rw [if_neg hk]
      rcases ih with ⟨i1, i2⟩ | ⟨b, i1, b1, b2, b3, b4⟩
      · refine Or.inl ⟨i1, fun j hj => ?_⟩
        rcases Nat.lt_or_ge j n with q | q
        · exact i2 j q
        · have e : j = n := by omega
          subst e; exact hk
      · refine Or.inr ⟨b, i1, b1, by omega, b3, fun j h1 h2 h3 => ?_⟩
        rcases Nat.lt_or_ge j n with q | q
        · exact b4 j h1 q h3
        · have e : j = n := by omega
          subst e; exact absurd h3 hk
/-- who is meant, or who would be without one, in words -/
def yj (A : PV) (but : Option Nat) (j : Nat) : Prop := pv_hl A ≠ 0 ∧ pv_pr A j = 0 ∧ but ≠ some j
theorem pv_mtI (A : PV) (but : Option Nat) : (pv_mt A but = none ∧ ∀ j, j < pv_W A → ¬ yj A but j) ∨ (∃ b, pv_mt A but = some b ∧ yi (yj A but) (pv_dh A) 0 (pv_W A) b) := by
  unfold pv_mt
  by_cases h0 : pv_hl A = 0
  · rw [if_pos h0]
    exact Or.inl ⟨rfl, fun j _ q => q.1 h0⟩
  · rw [if_neg h0]
    have eok : ∀ j, (pp_okf (pv_pr A) but j = true) ↔ yj A but j := fun j => by
      unfold pp_okf yj
      rw [decide_eq_true_eq]
      exact ⟨fun q => ⟨h0, q⟩, fun q => q.2⟩
    rcases pp_bestI (ok := pp_okf (pv_pr A) but) (d := pv_dh A) (pv_W A) with ⟨i1, i2⟩ | ⟨b, i1, b1, b2, b3, b4⟩
    · exact Or.inl ⟨i1, fun j hj q => i2 j hj ((eok j).mpr q)⟩
    · exact Or.inr ⟨b, i1, b1, b2, (eok b).mp b3, fun j h1 h2 h3 => b4 j h1 h2 ((eok j).mpr h3)⟩
section YMT
variable {A : PV} {les car : Int32} {nr R : Nat} {τ : TI} {but : Option Nat}
/-- what the search from behind holds at k -/
def yI (A : PV) (but : Option Nat) (k : Nat) (l2 l3 : Int32) : Prop := (l2 = -1 ∧ ∀ j, k ≤ j → j < pv_W A → ¬ yj A but j) ∨ (∃ b, l2 = nI b ∧ l3 = nI (pv_dh A b) ∧ yi (yj A but) (pv_dh A) k (pv_W A) b)
theorem yI.e {l2 l3 : Int32} (h : yI A but 0 l2 l3) : l2 = pp_en (pv_mt A but) := by
  rcases h with ⟨h1, h2⟩ | ⟨b, h1, h2, h3⟩
  · rcases pv_mtI A but with ⟨i1, i2⟩ | ⟨c, i1, i2⟩
    · rw [i1]; exact h1
    · exact absurd i2.2.2.1 (h2 c (by omega) i2.2.1)
  · rcases pv_mtI A but with ⟨i1, i2⟩ | ⟨c, i1, i2⟩
    · exact absurd h3.2.2.1 (i2 b h3.2.1)
    · rw [i1, h1, h3.u i2]; rfl
theorem yI.no {k : Nat} {l2 l3 : Int32} (h : yI A but (k + 1) l2 l3) (hk : ¬ yj A but k) : yI A but k l2 l3 := by
  rcases h with ⟨h1, h2⟩ | ⟨b, h1, h2, b1, b2, b3, b4⟩
  · refine Or.inl ⟨h1, fun j h3 h4 => ?_⟩
    by_cases e : j = k
    · rw [e]; exact hk
    · exact h2 j (by omega) h4
  · refine Or.inr ⟨b, h1, h2, by omega, b2, b3, fun j h3 h4 h5 => ?_⟩
    by_cases e : j = k
    · rw [e] at h5; exact absurd h5 hk
    · exact b4 j (by omega) h4 h5
theorem yT.mt (hb : ∀ b, but = some b → b < 2 ^ 31) {y0 : MS} (h0 : yT A les car nr R y0 τ) : ∀ k fu y l2 l3, k ≤ pv_W A → k < fu → yT A les car nr R y τ → yI A but k l2 l3 → ∃ y', f_l_X16_meant_13 fu (ti_t τ) (pp_en but) l2 l3 (nI k + (-1)) y = some (pp_en (pv_mt A but), y') ∧ yQ (ti_c τ) (ti_s τ) y y' := by
  have hW := h0.2.1.1
  intro k
  induction k with
  | zero =>
    intro fu y l2 l3 hk hfu hT hI
    obtain ⟨f1, rfl⟩ : ∃ f, fu = f + 1 := ⟨fu - 1, by omega⟩
    refine ⟨y, ?_, yQ.rf _ _ y⟩
    rw [f_l_X16_meant_13, if_pos (show nI 0 + (-1 : Int32) < 0 by decide), hI.e]
  | succ k ih =>
    intro fu y l2 l3 hk hfu hT hI
    obtain ⟨f1, rfl⟩ : ∃ f, fu = f + 1 := ⟨fu - 1, by omega⟩
    obtain ⟨t1, t2, t3, t4, t5, t6, t7⟩ := hT.t0
    obtain ⟨p1, p2, p3⟩ := hT.p0
    obtain ⟨w1, w2⟩ := hT.w0
    obtain ⟨r1, r2, r3⟩ := hT.hr
    have hl := r1.2.2.1
    have hok : g_ok (nI k) (pv_W A) = true := (pp_ok (by omega)).mpr (by omega)
    rw [f_l_X16_meant_13, pk_m1, if_neg (nI_pos (by omega)), if_pos t1, t6, if_pos r1.1, r1.2.1]
    by_cases hz : pv_hl A = 0
    · rw [if_pos (by rw [hz]; rfl)]
      exact ih f1 y l2 l3 (by omega) (by omega) hT (hI.no (fun q => q.1 hz))
    · rw [if_neg (nI_ne0 (by omega) (by omega)), t5, if_pos p1, p2, if_pos hok, nI_clamp (by omega), p3 k (by omega)]
      have hp := h0.2.1.2.1 k
      by_cases hpk : pv_pr A k = 0
      · rw [if_pos (by rw [hpk]; rfl)]
        by_cases hbk : but = some k
        · rw [if_pos ((pp_ene (by omega) hb).mpr hbk)]
          exact ih f1 y l2 l3 (by omega) (by omega) hT (hI.no (fun q => q.2.2 hbk))
        · rw [if_neg (fun q => hbk ((pp_ene (by omega) hb).mp q)), t4, if_pos w1, w2, if_pos hok]
          obtain ⟨y1, e1, e2⟩ := hT.fwh (show k < pv_W A by omega) hz
          rw [e1, pp_b]
          have hy : yj A but k := ⟨hz, hpk, hbk⟩
          have hT1 := hT.q e2
          have hd := hT.dhB (show k < pv_W A by omega)
          have fin : ∀ m2 m3, yI A but k m2 m3 → ∃ y', f_l_X16_meant_13 f1 (ti_t τ) (pp_en but) m2 m3 (nI k + (-1)) y1 = some (pp_en (pv_mt A but), y') ∧ yQ (ti_c τ) (ti_s τ) y y' := fun m2 m3 hm => by
            obtain ⟨y', i1, i2⟩ := ih f1 y1 m2 m3 (by omega) (by omega) hT1 hm
            exact ⟨y', i1, e2.tr i2⟩
          show ∃ y', (if l2 < 0 then _ else if nI (pv_dh A k) ≤ l3 then _ else _) = _ ∧ _
          rcases hI with ⟨h1, h2⟩ | ⟨b, h1, h2, b1, b2, b3, b4⟩
          · rw [if_pos (by rw [h1]; decide)]
            refine fin _ _ (Or.inr ⟨k, rfl, rfl, Nat.le_refl _, by omega, hy, fun j h3 h4 h5 => ?_⟩)
            by_cases e : j = k
            · rw [e]; exact Or.inr ⟨rfl, Nat.le_refl _⟩
            · exact absurd h5 (h2 j (by omega) h4)
          · have hdb := hT.dhB b2
            rw [h1, h2, if_neg (nI_pos (by omega))]
            by_cases hle : pv_dh A k ≤ pv_dh A b
            · rw [if_pos (nI_le hle (by omega))]
              refine fin _ _ (Or.inr ⟨k, rfl, rfl, Nat.le_refl _, by omega, hy, fun j h3 h4 h5 => ?_⟩)
              by_cases e : j = k
              · rw [e]; exact Or.inr ⟨rfl, Nat.le_refl _⟩
              · have := b4 j (by omega) h4 h5
                omega
            · rw [if_neg (nI_ge (by omega) (by omega))]
              refine fin _ _ (Or.inr ⟨b, rfl, rfl, by omega, b2, b3, fun j h3 h4 h5 => ?_⟩)
              by_cases e : j = k
              · rw [e]; left; omega
              · exact b4 j (by omega) h4 h5
      · rw [if_neg (by rw [show pv_pr A k = 1 by omega]; decide)]
        exact ih f1 y l2 l3 (by omega) (by omega) hT (hI.no (fun q => hpk q.2.1))
theorem yT.meant {y : MS} (hT : yT A les car nr R y τ) (hb : ∀ b, but = some b → b < 2 ^ 31) : ∃ y', f_l_X16_meant (ti_t τ) (pp_en but) y = some (pp_en (pv_mt A but), y') ∧ yQ (ti_c τ) (ti_s τ) y y' := by
  have hW := hT.2.1.1
  obtain ⟨y', e1, e2⟩ := yT.mt hb hT (pv_W A) g_fuel y (-1) 0 (Nat.le_refl _) (by unfold g_fuel; omega) hT (Or.inl ⟨rfl, fun j h1 h2 => by omega⟩)
  refine ⟨y', ?_, e2⟩
  unfold f_l_X16_meant
  rw [if_pos hT.t0.1, hT.t0.2.2.2.1, if_pos hT.w0.1, hT.w0.2, show nI (pv_W A) - (1 : Int32) = nI (pv_W A) + (-1) from Int32.sub_eq_add_neg _ _]
  exact e1
end YMT
section YKN
variable {A : PV} {les car : Int32} {nr R : Nat} {y : MS} {τ : TI}
theorem yT.kept (hT : yT A les car nr R y τ) : f_l_X16_kept (ti_t τ) y = some (nI (pp_kn (pv_pr A) (pv_W A))) := by
  have hW := hT.2.1.1
  obtain ⟨p1, p2, p3⟩ := hT.p0
  have key : ∀ d fu k, d = pv_W A - k → d < fu → k ≤ pv_W A → f_l_X16_kept_13 y fu (nI (pp_kn (pv_pr A) k)) (ti_p τ) (nI (pv_W A)) (nI k) = some (nI (pp_kn (pv_pr A) (pv_W A))) := by
    intro d
    induction d with
    | zero =>
      intro fu k hd hfu hk
      obtain ⟨f1, rfl⟩ : ∃ f, fu = f + 1 := ⟨fu - 1, by omega⟩
      rw [f_l_X16_kept_13, if_pos (nI_le (by omega) (by omega)), show k = pv_W A by omega]
    | succ d ih =>
      intro fu k hd hfu hk
      obtain ⟨f1, rfl⟩ : ∃ f, fu = f + 1 := ⟨fu - 1, by omega⟩
      have i := ih f1 (k + 1) (by omega) (by omega) (by omega)
      rw [show pp_kn (pv_pr A) (k + 1) = pp_kn (pv_pr A) k + (1 - pv_pr A k) from rfl] at i
      have hp := hT.2.1.2.1 k
      rw [f_l_X16_kept_13, if_neg (nI_ge (by omega) (by omega)), if_pos p1, p2, if_pos ((pp_ok (by omega)).mpr (by omega)), nI_clamp (by omega), p3 k (by omega), nI_1 k]
      by_cases hpk : pv_pr A k = 0
      · rw [if_pos (by rw [hpk]; rfl), nI_1]
        rw [hpk] at i; exact i
      · rw [if_neg (by rw [show pv_pr A k = 1 by omega]; decide), Int32.add_zero]
        rw [show pv_pr A k = 1 by omega] at i; exact i
  unfold f_l_X16_kept
  rw [if_pos hT.t0.1, hT.t0.2.2.2.2.1, if_pos p1, p2]
  exact key (pv_W A - 0) g_fuel 0 rfl (by unfold g_fuel; omega) (by omega)
theorem yT.near (hT : yT A les car nr R y τ) {i j : Nat} (hi : i < pv_W A) (hj : j < pv_W A) : ∃ y', f_l_X16_near (ti_t τ) (nI i) (nI j) y = some (nI (pv_ne A nr i j), y') ∧ yQ (ti_c τ) (ti_s τ) y y' := by
  have hW := hT.2.1.1
  obtain ⟨t1, t2, t3, t4, t5, t6, t7⟩ := hT.t0
  obtain ⟨w1, w2⟩ := hT.w0
  obtain ⟨a1, a2, a3, a4⟩ := hT.wd hi
  obtain ⟨b1, b2, b3, b4⟩ := hT.wd hj
  have l1 := a1.2.2.1
  have l2 := b1.2.2.1
  have hB := hT.ddB hi hj
  have hnr := hT.2.2.1
  have hoi : g_ok (nI i) (pv_W A) = true := (pp_ok (by omega)).mpr hi
  have hoj : g_ok (nI j) (pv_W A) = true := (pp_ok (by omega)).mpr hj
  unfold f_l_X16_near
  by_cases e : i = j
  · rw [if_pos (by rw [e])]
    refine ⟨y, ?_, yQ.rf _ _ y⟩
    unfold pv_ne
    rw [if_pos e]; rfl
  · rw [if_neg (by rw [nI_eq (by omega) (by omega)]; exact e), if_pos t1, t4, if_pos w1, w2, if_pos hoi, nI_clamp (by omega), nI_clamp (by omega), if_pos a1.1, if_pos hoj, if_pos b1.1, a1.2.1, b1.2.1]
    obtain ⟨y1, e1, e2⟩ := hT.fww hi hj
    obtain ⟨s1, s2, s3, -⟩ := (hT.q e2).t0
    have hmx : nr * max (pv_ln A i) (pv_ln A j) ≤ 99 * 24 := Nat.mul_le_mul hnr (by omega)
    have key : f_l_X16_near_41 (ti_t τ) (nI i) (nI j) (nI (max (pv_ln A i) (pv_ln A j))) y = some (nI (pv_ne A nr i j), y1) := by
      unfold f_l_X16_near_41
      rw [if_pos t1, t4, if_pos w1, w2, if_pos hoi, if_pos hoj, nI_clamp (by omega), nI_clamp (by omega), e1, pp_b]
      show (if h_K y1 (ti_t τ) = 53 then (if (h_I y1 (ti_t τ) 1 * _) / 4 ≤ nI (pv_dd A i j) then _ else _) else _) = _
      rw [if_pos s1, s3, pk_mul, pp_lit 4, pk_div (by omega) (by omega) (by omega)]
      unfold pv_ne
      rw [if_neg e]
      by_cases hlt : pv_dd A i j < nr * max (pv_ln A i) (pv_ln A j) / 4
      · rw [if_neg (nI_ge hlt (by omega)), if_pos hlt]; rfl
      · rw [if_pos (nI_le (by omega) (by omega)), if_neg hlt]; rfl
    refine ⟨y1, ?_, e2⟩
    by_cases hle : pv_ln A i ≤ pv_ln A j
    · rw [if_pos (nI_le hle (by omega)), if_pos hoj]
      rw [Nat.max_eq_right hle] at key; exact key
    · rw [if_neg (nI_ge (by omega) (by omega)), if_pos hoi]
      rw [Nat.max_eq_left (by omega)] at key; exact key
theorem yT.needless (hT : yT A les car nr R y τ) {w : Nat} (hw : w < pv_W A) : ∃ y', f_l_X16_needless (ti_t τ) (nI w) y = some (nI (pv_nl A nr w), y') ∧ yQ (ti_c τ) (ti_s τ) y y' := by
  have hW := hT.2.1.1
  have key : ∀ d fu y, d ≤ w → d < fu → yT A les car nr R y τ → (pv_pr A w = 1 → d = 0 ∨ True) → ∃ y', f_l_X16_needless_2 fu (ti_t τ) (nI w) (nI (w - d)) y = some (nI (if pv_pr A w = 1 then 0 else pv_nx A nr w d), y') ∧ yQ (ti_c τ) (ti_s τ) y y' := by
    intro d
    induction d with
    | zero =>
      intro fu y hd hfu hT _
      obtain ⟨f1, rfl⟩ : ∃ f, fu = f + 1 := ⟨fu - 1, by omega⟩
      refine ⟨y, ?_, yQ.rf _ _ y⟩
      rw [f_l_X16_needless_2, if_pos (nI_le (by omega) (by omega)), show (if pv_pr A w = 1 then 0 else pv_nx A nr w 0) = 0 by split <;> rfl]; rfl
    | succ d ih =>
      intro fu y hd hfu hT _
      obtain ⟨f1, rfl⟩ : ∃ f, fu = f + 1 := ⟨fu - 1, by omega⟩
      obtain ⟨t1, t2, t3, t4, t5, t6, t7⟩ := hT.t0
      obtain ⟨p1, p2, p3⟩ := hT.p0
      have hpw := hT.2.1.2.1 w
      have hpk := hT.2.1.2.1 (w - (d + 1))
      have ek : w - d = w - (d + 1) + 1 := by omega
      rw [f_l_X16_needless_2, if_neg (nI_ge (by omega) (by omega)), if_pos t1, t5, if_pos p1, p2, if_pos ((pp_ok (by omega)).mpr hw), nI_clamp (by omega), p3 w hw]
      by_cases h1 : pv_pr A w = 1
      · rw [if_neg (by rw [h1]; decide), if_pos h1]
        exact ⟨y, rfl, yQ.rf _ _ y⟩
      · rw [if_pos (by rw [show pv_pr A w = 0 by omega]; rfl), if_neg h1, if_pos ((pp_ok (by omega)).mpr (by omega)), nI_clamp (by omega), p3 _ (by omega), pv_nxS, nI_1, ← ek]
        by_cases hz : pv_pr A (w - (d + 1)) = 0
        · rw [if_pos (by rw [hz]; rfl), if_pos hz]
          obtain ⟨y1, e1, e2⟩ := hT.near (show w - (d + 1) < pv_W A by omega) hw
          rw [e1, pp_b]
          show ∃ y', (if nI (pv_ne A nr (w - (d + 1)) w) = 0 then _ else _) = _ ∧ _
          have hn1 := pv_ne1 A nr (w - (d + 1)) w
          by_cases hq : pv_ne A nr (w - (d + 1)) w = 0
          · rw [if_pos (by rw [hq]; rfl), if_pos hq]
            obtain ⟨y', i1, i2⟩ := ih f1 y1 (by omega) (by omega) (hT.q e2) (fun _ => Or.inr trivial)
            rw [if_neg h1] at i1
            exact ⟨y', i1, e2.tr i2⟩
          · rw [if_neg (nI_ne0 (by omega) (by omega)), if_neg hq]
            exact ⟨y1, rfl, e2⟩
        · rw [if_neg (by rw [show pv_pr A (w - (d + 1)) = 1 by omega]; decide), if_neg hz]
          obtain ⟨y', i1, i2⟩ := ih f1 y (by omega) (by omega) hT (fun _ => Or.inr trivial)
          rw [if_neg h1] at i1
          exact ⟨y', i1, i2⟩
  obtain ⟨y', e1, e2⟩ := key w g_fuel y (Nat.le_refl _) (by unfold g_fuel; omega) hT (fun _ => Or.inr trivial)
  rw [Nat.sub_self] at e1
  exact ⟨y', e1, e2⟩
/-- a contour, by hand -/
theorem yr.ci {i n : Nat} {p : Nat → Nat} (h : yr y i p n) {k : Nat} (hk : k < n) : f_l_X16_contour i (nI k) y = some (pp_ci p n k) := by
  obtain ⟨h1, h2, h3, h4, h5⟩ := h
  unfold f_l_X16_contour pp_ci
  rw [if_pos h1, h2, show nI n - (1 : Int32) = nI (n - 1) from pk_sub (a := n) (b := 1) (by omega)]
  by_cases e : k = n - 1
  · rw [if_pos (by rw [e]), if_neg (by omega)]
  · have q1 := h4 k
    have q2 := h4 (k + 1)
    rw [if_neg (by rw [nI_eq (by omega) (by omega)]; exact e), nI_1, if_pos ((pp_ok (by omega)).mpr (by omega)), if_pos ((pp_ok (by omega)).mpr hk), nI_clamp (by omega), nI_clamp (by omega), h5 k hk, h5 (k + 1) (by omega), if_pos (show k + 1 < n by omega)]
    by_cases g1 : p k < p (k + 1)
    · rw [if_neg (nI_ge g1 (by omega)), if_pos g1]
    · rw [if_pos (nI_le (by omega) (by omega)), if_pos ((pp_ok (by omega)).mpr (by omega)), if_pos ((pp_ok (by omega)).mpr hk), if_neg g1]
      by_cases g2 : p (k + 1) < p k
      · rw [if_neg (nI_ge g2 (by omega)), if_pos g2]
      · rw [if_pos (nI_le (by omega) (by omega)), if_neg g2]
end YKN
