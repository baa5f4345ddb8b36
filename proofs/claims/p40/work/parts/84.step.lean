/-! a step of the law behind its looks: best shift, lessons ahead, lessons or pruning -/
theorem lgz (v : Int64) : lg_cmp v v = 0 := by
  unfold lg_cmp
  have h : ¬ v > v := fun h => by have := Int64.lt_iff_toInt_lt.mp h; omega
  rw [if_neg h, if_pos rfl]
theorem zun {sg : Nat → Nat} {vl : Nat → Int32} {ρs : Nat → QR} {R j : Nat} : ∀ d k l A, pq_un sg vl ρs R j d k l A = -1 ∨ ∃ p, k ≤ p ∧ p < k + d ∧ pq_un sg vl ρs R j d k l A = nI p := by
  intro d
  induction d with
  | zero => intro k l A; exact Or.inl rfl
  | succ d ih =>
    intro k l A
    unfold pq_un
    by_cases h : pv_mt A none = some j
    · rw [if_pos h]; exact Or.inr ⟨k, Nat.le_refl _, by omega, rfl⟩
    · rw [if_neg h]
      rcases ih (k + 1) (l + 1) (pq_fold l sg vl ρs R A).2 with q | ⟨p, p1, p2, p3⟩
      · exact Or.inl q
      · exact Or.inr ⟨p, by omega, by omega, p3⟩
theorem zunS {sg : Nat → Nat} {vl : Nat → Int32} {ρs : Nat → QR} {R j d k : Nat} {l : Int32} {A : PV} (h : ¬ pv_mt A none = some j) : pq_un sg vl ρs R j (d + 1) k l A = pq_un sg vl ρs R j d (k + 1) (l + 1) (pq_fold l sg vl ρs R A).2 := by
  rw [pq_un, if_neg h]
/-- whether a word that is meant now is what was told -/
theorem zunK {sg : Nat → Nat} {vl : Nat → Int32} {ρs : Nat → QR} {R j d k : Nat} {l : Int32} {A : PV} (hk : k + d < 1000) : (pq_un sg vl ρs R j (d + 1) k l A = nI k) ↔ pv_mt A none = some j := by
  by_cases h : pv_mt A none = some j
  · rw [pq_un, if_pos h]; exact ⟨fun _ => h, fun _ => rfl⟩
  · rw [zunS h]
    refine ⟨fun q => ?_, fun q => absurd q h⟩
    rcases zun (sg := sg) (vl := vl) (ρs := ρs) (R := R) (j := j) d (k + 1) (l + 1) (pq_fold l sg vl ρs R A).2 with q2 | ⟨p, p1, p2, p3⟩
    · rw [q2] at q; exact absurd q.symm (pp_m1n (by omega))
    · rw [p3, nI_eq (by omega) (by omega)] at q; omega
theorem ynb {v : Nat} (h : v ≤ 1) : vp_nar .boolean (nI v) = nI v := by
  rcases Nat.lt_or_ge 0 v with q | q
  · rw [show v = 1 by omega]; exact ynb1
  · rw [show v = 0 by omega]; exact ynb0
section ZST
variable {R nr b v d : Nat} {ρs : Nat → QR} {sg : Nat → Nat} {vl : Nat → Int32} {rs : Nat → ZR} {τ : TI}
variable {L : Nat} {xs : Nat → Int32} {k10 : Int32 → CS → MS → Option (Int32 × CS × MS)} {k94 : Int32 → Nat → Nat → Int32 → Int32 → CS → MS → Option (Int32 × CS × MS)} {l2 l6 l7 : Int32}
theorem zme {A : PV} {j : Nat} (hA : pv_ok A) (hj : j < 2 ^ 31) : (pp_en (pv_mt A none) = nI j) ↔ pv_mt A none = some j := by
  have hW := hA.1
  rw [show (pp_en (pv_mt A none) = nI j) = (nI j = pp_en (pv_mt A none)) from propext ⟨Eq.symm, Eq.symm⟩]
  exact pp_ene hj (fun c hc => by have := (pv_mtB hc).1; omega)
theorem zmeant {A : PV} {les car : Int32} {x : CS} {y : MS} (h : zR R nr b v d ρs sg vl rs A les car x y τ) (hb : yb y 1) : ∃ y', f_l_L_meant x y = some (pp_en (pv_mt A none), x, y') ∧ zU 1 τ d y y' := by
  obtain ⟨y', e1, e2⟩ := ql_meant (y := y) h.1 (yn_rm hb (by omega) (by omega))
  refine ⟨y', e1, ?_⟩
  rcases e2 with rfl | rfl
  · exact (zU.rf τ d y').mo (by omega)
  · exact zU.x
theorem zk_1066 {n j : Nat} {K U : Int32} (hn : n ≤ 20) : ∀ dd fu k A les car x y was, dd = n + 1 - k → dd < fu → 1 ≤ k → k ≤ n + 1 → zR R nr b v d ρs sg vl rs A les car x y τ → j < pv_W A → yb y ((R + 2) * dd) → was ≤ 1 → (was = 0 → ¬ pv_mt A none = some j ∧ U = pq_un sg vl ρs R j (22 - k) (k - 1) les A) → K = nI (pp_kn (pv_pr (pq_many sg vl ρs R (n + 1 - k) les A).2) (pv_W A)) → ∃ A' les' car' x' y', zR R nr b v d ρs sg vl rs A' les' car' x' y' τ ∧ pv_W A' = pv_W A ∧ yG ((R + 2) * dd) y y' ∧ f_l_L_law_1066 L xs k10 k94 fu l2 d (ti_t τ) l6 l7 (nI j) (nI n) K U (nI was) (nI k) x y = k94 l2 d (ti_t τ) l6 (l7 + 1) x' y' := by
  intro dd
  induction dd with
  | zero =>
    intro fu k A les car x y was hd hfu hk1 hk h hj hb hw hU hK
    obtain ⟨f1, rfl⟩ : ∃ f, fu = f + 1 := ⟨fu - 1, by omega⟩
    refine ⟨A, les, car, x, y, h, rfl, (yG.rf y).mo (by omega), ?_⟩
    have ek : n + 1 - k = 0 := by omega
    rw [ek] at hK
    rw [f_l_L_law_1066, if_pos (nI_lt (by omega) (by omega)), pq_kept h.1, pp_b, hK]
    exact if_pos rfl
  | succ dd ih =>
    intro fu k A les car x y was hd hfu hk1 hk h hj hb hw hU hK
    obtain ⟨f1, rfl⟩ : ∃ f, fu = f + 1 := ⟨fu - 1, by omega⟩
    have em : (R + 2) * (dd + 1) = R + 2 + (R + 2) * dd := by rw [Nat.mul_succ, Nat.add_comm]
    rw [em] at hb
    obtain ⟨x1, y1, a1, a2, a3, a4, a5⟩ := h.pass (hb.mo (by omega))
    have hA1 := pq_fold2 (les := les) (sg := sg) (vl := vl) (ρs := ρs) h.1.1 R
    have hb1 := hb.g a4 (by omega)
    obtain ⟨A1, hA1e⟩ : ∃ z, z = (pq_fold les sg vl ρs R A).2 := ⟨_, rfl⟩
    rw [← hA1e] at a3 hA1
    obtain ⟨c1, hc1e⟩ : ∃ z, z = car + nI (pq_fold les sg vl ρs R A).1 := ⟨_, rfl⟩
    rw [← hc1e] at a3
    have hW := h.1.1.1
    have hj1 : j < pv_W A1 := by rw [hA1.2.1]; exact hj
    have hK1 : K = nI (pp_kn (pv_pr (pq_many sg vl ρs R (n + 1 - (k + 1)) (les + 1) A1).2) (pv_W A1)) := by
      rw [hK, hA1.2.1, show n + 1 - k = n + 1 - (k + 1) + 1 by omega, hA1e]
      rfl
    have hmw : ∀ w2 x2 y2 a, w2 ≤ 1 → a ≤ 2 → zR R nr b v d ρs sg vl rs A1 (les + 1) c1 x2 y2 τ → yG (R + a) y y2 → (w2 = 0 → ¬ pv_mt A1 none = some j ∧ U = pq_un sg vl ρs R j (21 - k) k (les + 1) A1) → ∃ A' les' car' x' y', zR R nr b v d ρs sg vl rs A' les' car' x' y' τ ∧ pv_W A' = pv_W A ∧ yG ((R + 2) * (dd + 1)) y y' ∧ f_l_L_law_1066 L xs k10 k94 f1 l2 d (ti_t τ) l6 l7 (nI j) (nI n) K U (nI w2) (nI (k + 1)) x2 y2 = k94 l2 d (ti_t τ) l6 (l7 + 1) x' y' := by
      intro w2 x2 y2 a hw2 ha h2 hG hU2
      obtain ⟨A', les', car', x', y', i1, i2, i3, i4⟩ := ih f1 (k + 1) A1 (les + 1) c1 x2 y2 w2 (by omega) (by omega) (by omega) (by omega) h2 hj1 ((hb.g hG (by omega)).mo (by omega)) hw2 (fun q => by
        have q2 := hU2 q
        rw [show 22 - (k + 1) = 21 - k by omega, show k + 1 - 1 = k by omega]
        exact q2) hK1
      refine ⟨A', les', car', x', y', i1, i2.trans hA1.2.1, ?_, i4⟩
      rw [em]
      exact (hG.tr i3).mo (by omega)
    have h1124 : ∀ x2 y2 a, a ≤ 1 → zR R nr b v d ρs sg vl rs A1 (les + 1) c1 x2 y2 τ → yG (R + a) y y2 → (was = 0 → U = pq_un sg vl ρs R j (21 - k) k (les + 1) A1) → ∃ A' les' car' x' y', zR R nr b v d ρs sg vl rs A' les' car' x' y' τ ∧ pv_W A' = pv_W A ∧ yG ((R + 2) * (dd + 1)) y y' ∧ f_l_L_law_1124 L xs k10 k94 (f_l_L_law_1066 L xs k10 k94 f1) l2 d (ti_t τ) l6 l7 (nI j) (nI n) K U (nI was) (nI k) x2 y2 = k94 l2 d (ti_t τ) l6 (l7 + 1) x' y' := by
      intro x2 y2 a ha h2 hG hU2
      obtain ⟨y3, e1, e2⟩ := zmeant h2 ((hb.g hG (by omega)).mo (by omega))
      have hG3 : yG (R + (a + 1)) y y3 := (hG.tr e2.1).mo (by omega)
      have h3 := h2.U e2
      unfold f_l_L_law_1124
      rw [e1, pp_b, nI_1 k]
      show ∃ A' les' car' x' y', _ ∧ _ ∧ _ ∧ (if pp_en (pv_mt A1 none) = nI j then _ else _) = _
      by_cases hm : pv_mt A1 none = some j
      · rw [if_pos ((zme h2.1.1 (by omega)).mpr hm)]
        obtain ⟨w2, c1, c2, c3⟩ := zor (u := 1) hw (by omega)
        show ∃ A' les' car' x' y', _ ∧ _ ∧ _ ∧ f_l_L_law_1066 L xs k10 k94 f1 l2 d (ti_t τ) l6 l7 (nI j) (nI n) K U (nI was ||| nI 1) (nI (k + 1)) x2 y3 = _
        rw [c3]
        exact hmw w2 x2 y3 (a + 1) c1 (by omega) h3 hG3 (fun q => absurd (c2.mp q).2 (by decide))
      · rw [if_neg (fun q => hm ((zme h2.1.1 (by omega)).mp q))]
        obtain ⟨w2, c1, c2, c3⟩ := zor (u := 0) hw (by omega)
        show ∃ A' les' car' x' y', _ ∧ _ ∧ _ ∧ f_l_L_law_1066 L xs k10 k94 f1 l2 d (ti_t τ) l6 l7 (nI j) (nI n) K U (nI was ||| nI 0) (nI (k + 1)) x2 y3 = _
        rw [c3]
        exact hmw w2 x2 y3 (a + 1) c1 (by omega) h3 hG3 (fun q => ⟨hm, hU2 (c2.mp q).1⟩)
    rw [f_l_L_law_1066, if_neg (nI_nlt (by omega) (by omega)), a1, pp_b, if_pos h.2.1.t0.1, a2, pp_b]
    show ∃ A' les' car' x' y', _ ∧ _ ∧ _ ∧ (if nI (pq_fold les sg vl ρs R A).1 = nI (pq_fold les sg vl ρs R A).1 then (if nI was = 0 then Option.bind (f_l_L_meant x1 y1) _ else _) else _) = _
    rw [if_pos rfl]
    by_cases hw0 : was = 0
    · obtain ⟨u1, u2⟩ := hU hw0
      have hU1 : U = pq_un sg vl ρs R j (21 - k) k (les + 1) A1 := by
        rw [u2, show 22 - k = 21 - k + 1 by omega, zunS u1, show k - 1 + 1 = k by omega, hA1e]
      have hUk : (U = nI k) ↔ pv_mt A1 none = some j := by
        rw [hU1, show 21 - k = 20 - k + 1 by omega]
        exact zunK (by omega)
      obtain ⟨y2, e1, e2⟩ := zmeant a3 (hb1.mo (by omega))
      have h2 := a3.U e2
      rw [if_pos (by rw [hw0]; rfl), e1, pp_b]
      show ∃ A' les' car' x' y', _ ∧ _ ∧ _ ∧ (if pp_en (pv_mt A1 none) = nI j then f_l_L_law_1107 L xs k10 k94 (f_l_L_law_1066 L xs k10 k94 f1) l2 d (ti_t τ) l6 l7 (nI j) (nI n) K U (nI was) (nI k) 1 x1 y2 else f_l_L_law_1107 L xs k10 k94 (f_l_L_law_1066 L xs k10 k94 f1) l2 d (ti_t τ) l6 l7 (nI j) (nI n) K U (nI was) (nI k) 0 x1 y2) = _
      have hG2 : yG (R + 1) y y2 := a4.tr e2.1
      by_cases hm : pv_mt A1 none = some j
      · rw [if_pos ((zme a3.1.1 (by omega)).mpr hm)]
        unfold f_l_L_law_1107 f_l_L_law_1119
        rw [if_pos (hUk.mpr hm), if_pos rfl]
        exact h1124 x1 y2 1 (by omega) h2 hG2 (fun _ => hU1)
      · rw [if_neg (fun q => hm ((zme a3.1.1 (by omega)).mp q))]
        unfold f_l_L_law_1107 f_l_L_law_1119
        rw [if_neg (fun q => hm (hUk.mp q)), if_pos rfl]
        exact h1124 x1 y2 1 (by omega) h2 hG2 (fun _ => hU1)
    · rw [if_neg (nI_ne0 (by omega) (by omega))]
      exact h1124 x1 y1 0 (by omega) a3 (a4.mo (by omega)) (fun q => absurd q hw0)
/-- the pruned ones are told to the hand's side -/
def zmx (A B : PV) (k : Nat) : Nat → Nat := fun j => if j < k then pv_pr B j else pv_pr A j
theorem zk_1192 {A B : PV} {les car : Int32} (hB : B = zpr A (pv_pr B)) (hout : ∀ j, pv_W A ≤ j → pv_pr B j = pv_pr A j) (hnl : ∀ j, j < pv_W A → pv_nl B nr j = 0) : ∀ dd fu k x y, dd = pv_W A - k → dd < fu → k ≤ pv_W A → pq_R B les car b v R nr ρs sg vl x → yT (zpr A (zmx A B k)) les car nr R y τ → ∃ x' y', pq_R B les car b v R nr ρs sg vl x' ∧ yT B les car nr R y' τ ∧ yG 0 y y' ∧ yF (yTc τ) y y' ∧ f_l_L_law_1192 L xs k10 k94 fu l2 d (ti_t τ) (nI (pv_W A)) l7 (nI k) x y = k94 l2 d (ti_t τ) (nI (pv_W A)) (l7 + 1) x' y' := by
  intro dd
  induction dd with
  | zero =>
    intro fu k x y hd hfu hk h hT
    obtain ⟨f1, rfl⟩ : ∃ f, fu = f + 1 := ⟨fu - 1, by omega⟩
    have hW : pv_W A ≤ 8 := hT.2.1.1
    have e : zpr A (zmx A B k) = B := by
      rw [hB]
      show zpr A (zmx A B k) = zpr A (pv_pr B)
      congr 1
      funext j
      show (if j < k then pv_pr B j else pv_pr A j) = pv_pr B j
      by_cases hj : j < k
      · rw [if_pos hj]
      · rw [if_neg hj, hout j (by omega)]
    rw [e] at hT
    refine ⟨x, y, h, hT, yG.rf y, yF.rf _ y, ?_⟩
    rw [f_l_L_law_1192, if_pos (nI_le (by omega) (by omega))]
  | succ dd ih =>
    intro fu k x y hd hfu hk h hT
    obtain ⟨f1, rfl⟩ : ∃ f, fu = f + 1 := ⟨fu - 1, by omega⟩
    have hW : pv_W A ≤ 8 := hT.2.1.1
    have hWB : pv_W B = pv_W A := by rw [hB]; rfl
    have hkW : k < pv_W A := by omega
    obtain ⟨x1, s1, e1⟩ := pq_needless h (j := k) (by omega)
    have h1 := h.s s1
    have hp := h.1.2.1 k
    have hT1 := hT.sr (w := k) hp
    have e2 : pv_sr (zpr A (zmx A B k)) k (pv_pr B k) = zpr A (zmx A B (k + 1)) := by
      show zpr A (fun j => if j = k then pv_pr B k else zmx A B k j) = _
      congr 1
      funext j
      show (if j = k then pv_pr B k else if j < k then pv_pr B j else pv_pr A j) = if j < k + 1 then pv_pr B j else pv_pr A j
      by_cases hj : j = k
      · rw [if_pos hj, if_pos (by omega), hj]
      · rw [if_neg hj]
        by_cases hj2 : j < k
        · rw [if_pos hj2, if_pos (by omega)]
        · rw [if_neg hj2, if_neg (by omega)]
    rw [e2] at hT1
    obtain ⟨x', y', i1, i2, i3, i4, i5⟩ := ih f1 (k + 1) x1 _ (by omega) (by omega) (by omega) h1 hT1
    refine ⟨x', y', i1, i2, ((ywi_G _ _ _ _).tr i3).mo (by omega), (ywi_F (P := yTc τ) (Or.inr (Or.inr (Or.inl rfl)))).tr i4 (ywi_G _ _ _ _), ?_⟩
    obtain ⟨t1, t2, t3, t4, t5, t6, t7⟩ := hT.t0
    obtain ⟨p1, p2, p3⟩ := hT.p0
    replace p2 : h_N y (ti_p τ) = pv_W A := p2
    rw [f_l_L_law_1192, if_neg (nI_ge hkW (by omega)), e1, pp_b, hnl k hkW]
    show (if nI 0 = 0 then (if h_K y (ti_t τ) = 53 then Option.bind (f_X12_isPruned (nI k) x1) _ else none) else _) = _
    rw [if_pos (show nI 0 = (0 : Int32) from rfl), if_pos t1, pq_pruned h1 (by omega), pp_b, t5, if_pos p1, p2, if_pos ((pp_ok (by omega)).mpr hkW), nI_clamp (by omega), ynb hp, nI_1]
    exact i5
theorem zk_1036 {A : PV} {les car : Int32} {x : CS} {y : MS} {n j : Nat} {K U : Int32} (s : Int32) (h : zR R nr b v d ρs sg vl rs A les car x y τ) (hj : j < pv_W A) (hn0 : 0 < n) (hn : n ≤ 20) (hb : yb y ((R + 2) * 20)) (hU : U = pq_un sg vl ρs R j 21 0 les A) (hK : K = nI (pp_kn (pv_pr (pq_many sg vl ρs R n les A).2) (pv_W A))) : ∃ A' les' car' x' y', zR R nr b v d ρs sg vl rs A' les' car' x' y' τ ∧ pv_W A' = pv_W A ∧ yG ((R + 2) * 20) y y' ∧ f_l_L_law_1036 L xs k10 k94 l2 d (ti_t τ) (nI (pv_W A)) l7 (pp_en (pv_mt A none)) (nI j) (nI n) K U s s x y = k94 l2 d (ti_t τ) (nI (pv_W A)) (l7 + 1) x' y' := by
  have hW := h.1.1.1
  unfold f_l_L_law_1036
  rw [if_pos rfl, if_pos h.2.2.1]
  obtain ⟨k, y1, k1, k2, k3, k4⟩ := h.dn (n := 2) (by omega) (by omega)
  have k2' : f_l_X13_next d (2 : Int32) y = some (nI k, y1) := k2
  rw [k2', pp_b]
  have hb1 : yb y1 ((R + 2) * 20) := hb.g k3.1 (by omega)
  show ∃ A' les' car' x' y', _ ∧ _ ∧ _ ∧ (if nI k = 0 then _ else _) = _
  by_cases hk : k = 0
  · rw [if_pos (by rw [hk]; rfl)]
    have hle : (R + 2) * (n + 1 - 1) ≤ (R + 2) * 20 := Nat.mul_le_mul_left _ (by omega)
    have go : ∀ was, was ≤ 1 → (was = 0 → ¬ pv_mt A none = some j) → ∃ A' les' car' x' y', zR R nr b v d ρs sg vl rs A' les' car' x' y' τ ∧ pv_W A' = pv_W A ∧ yG ((R + 2) * 20) y y' ∧ f_l_L_law_1066 L xs k10 k94 g_fuel l2 d (ti_t τ) (nI (pv_W A)) l7 (nI j) (nI n) K U (nI was) (nI 1) x y1 = k94 l2 d (ti_t τ) (nI (pv_W A)) (l7 + 1) x' y' := by
      intro was hw hw0
      obtain ⟨A', les', car', x', y', i1, i2, i3, i4⟩ := zk_1066 (L := L) (xs := xs) (k10 := k10) (k94 := k94) (l2 := l2) (l6 := nI (pv_W A)) (l7 := l7) (K := K) (U := U) hn (n + 1 - 1) g_fuel 1 A les car x y1 was rfl (by unfold g_fuel; omega) (by omega) (by omega) k4 hj (hb1.mo hle) hw (fun q => ⟨hw0 q, hU⟩) hK
      exact ⟨A', les', car', x', y', i1, i2, (k3.1.tr i3).mo (by omega), i4⟩
    by_cases hm : pv_mt A none = some j
    · rw [if_pos ((zme h.1.1 (by omega)).mpr hm)]
      exact go 1 (by omega) (fun q => by omega)
    · rw [if_neg (fun q => hm ((zme h.1.1 (by omega)).mp q))]
      exact go 0 (by omega) (fun _ => hm)
  · rw [if_neg (nI_ne0 (by omega) (by omega)), pq_kept k4.1, pp_b]
    obtain ⟨x1, e1, e2⟩ := pq_prune k4.1
    obtain ⟨z1, z2, z3, z4⟩ := zpn (nr := nr) (pv_W A) 0 A (by omega) rfl h.1.1
    have hWB : pv_W (pq_pn nr (pv_W A) 0 A).2 = pv_W A := by rw [z1]; rfl
    rw [e1, pp_b]
    show ∃ A' les' car' x' y', _ ∧ _ ∧ _ ∧ Option.bind (f_X12_keptWords x1) _ = _
    rw [pq_kept e2, pp_b, hWB]
    show ∃ A' les' car' x' y', _ ∧ _ ∧ _ ∧ (if nI (pp_kn (pv_pr (pq_pn nr (pv_W A) 0 A).2) (pv_W A)) = nI (pp_kn (pv_pr A) (pv_W A)) - nI (pq_pn nr (pv_W A) 0 A).1 then f_l_L_law_1192 L xs k10 k94 g_fuel l2 d (ti_t τ) (nI (pv_W A)) l7 0 x1 y1 else _) = _
    rw [if_pos (by rw [pk_sub (by omega)]; congr 1; omega)]
    have e0 : zpr A (zmx A (pq_pn nr (pv_W A) 0 A).2 0) = A := by
      show zpr A (fun j => if j < 0 then _ else pv_pr A j) = A
      rfl
    obtain ⟨x', y', i1, i2, i3, i4, i5⟩ := zk_1192 (L := L) (xs := xs) (k10 := k10) (k94 := k94) (l2 := l2) (l7 := l7) (d := d) (A := A) z1 (fun j hj => z2 j (by omega)) (fun j hj => z3 j (by omega) hj) (pv_W A - 0) g_fuel 0 x1 y1 rfl (by unfold g_fuel; omega) (by omega) e2 (by rw [e0]; exact k4.2.1)
    refine ⟨(pq_pn nr (pv_W A) 0 A).2, les, car, x', y', ⟨i1, i2, ?_, ?_, h.2.2.2.2⟩, hWB, (k3.1.tr i3).mo (by omega), i5⟩
    · rw [(i4 d (k4.2.1.1.k k4.2.2.1) (k4.2.1.kn (by have := k4.2.2.1; omega))).1]; exact k4.2.2.1
    · rw [hWB]; exact k4.2.2.2.1.f k4.2.1 i4
theorem zk_971 {A : PV} {les car : Int32} {x : CS} {y : MS} {j : Nat} (h : zR R nr b v d ρs sg vl rs A les car x y τ) (hj : j < pv_W A) (hb : yb y ((R + 2) * 20)) : ∃ A' les' car' x' y', zR R nr b v d ρs sg vl rs A' les' car' x' y' τ ∧ pv_W A' = pv_W A ∧ yG ((R + 2) * 20) y y' ∧ f_l_L_law_971 L xs k10 k94 l2 d (ti_t τ) (nI (pv_W A)) l7 (pq_dig A les car nr R) (pp_en (pv_mt A none)) (nI j) x y = k94 l2 d (ti_t τ) (nI (pv_W A)) (l7 + 1) x' y' := by
  have hW := h.1.1.1
  unfold f_l_L_law_971
  rw [if_pos h.2.2.1]
  obtain ⟨k, y1, k1, k2, k3, k4⟩ := h.dn (n := 20) (by omega) (by omega)
  have k2' : f_l_X13_next d (20 : Int32) y = some (nI k, y1) := k2
  have hb1 : yb y1 ((R + 2) * 20) := hb.g k3.1 (by omega)
  have e1k : (1 : Int32) + nI k = nI (1 + k) := nI_add 1 k
  rw [k2', pp_b]
  show ∃ A' les' car' x' y', _ ∧ _ ∧ _ ∧ Option.bind (f_X12_keptAfter (1 + nI k) x) _ = _
  obtain ⟨x1, a1, a2⟩ := pq_keptAfter (n := 1 + k) k4.1 (by omega) (by omega)
  obtain ⟨x2, b1, b2⟩ := pq_until a2 hj
  obtain ⟨x3, c1, c2⟩ := pq_digest b2
  have h3 := k4.k (b2.s c1)
  rw [e1k, a1, pp_b]
  show ∃ A' les' car' x' y', _ ∧ _ ∧ _ ∧ Option.bind (f_X12_lessonsUntilMeant (nI j) x1) _ = _
  rw [b1, pp_b]
  show ∃ A' les' car' x' y', _ ∧ _ ∧ _ ∧ Option.bind (f_X12_digest x2) _ = _
  rw [c2, pp_b]
  obtain ⟨U, hU⟩ : ∃ U, U = pq_un sg vl ρs R j 21 0 les A := ⟨_, rfl⟩
  rw [← hU]
  have hU20 : ¬ (20 : Int32) < U := by
    rw [hU]
    rcases zun (sg := sg) (vl := vl) (ρs := ρs) (R := R) (j := j) 21 0 les A with q | ⟨p, p1, p2, p3⟩
    · rw [q]; decide
    · rw [p3]; exact nI_nlt (a := 20) (by omega) (by omega)
  have hU0 : (U = 0) ↔ pv_mt A none = some j := by
    rw [hU]
    exact zunK (k := 0) (d := 20) (by omega)
  show ∃ A' les' car' x' y', _ ∧ _ ∧ _ ∧ (if lg_cmp (pq_dig A les car nr R) (pq_dig A les car nr R) = 0 then (if (20 : Int32) < U then _ else (if U = 0 then f_l_L_law_1024 L xs k10 k94 l2 d (ti_t τ) (nI (pv_W A)) l7 (pp_en (pv_mt A none)) (nI j) (nI (1 + k)) (nI (pp_kn (pv_pr (pq_many sg vl ρs R (1 + k) les A).2) (pv_W A))) U 1 x3 y1 else f_l_L_law_1024 L xs k10 k94 l2 d (ti_t τ) (nI (pv_W A)) l7 (pp_en (pv_mt A none)) (nI j) (nI (1 + k)) (nI (pp_kn (pv_pr (pq_many sg vl ρs R (1 + k) les A).2) (pv_W A))) U 0 x3 y1)) else _) = _
  rw [if_pos (lgz _), if_neg hU20]
  have go : ∀ s, ∃ A' les' car' x' y', zR R nr b v d ρs sg vl rs A' les' car' x' y' τ ∧ pv_W A' = pv_W A ∧ yG ((R + 2) * 20) y y' ∧ f_l_L_law_1036 L xs k10 k94 l2 d (ti_t τ) (nI (pv_W A)) l7 (pp_en (pv_mt A none)) (nI j) (nI (1 + k)) (nI (pp_kn (pv_pr (pq_many sg vl ρs R (1 + k) les A).2) (pv_W A))) U s s x3 y1 = k94 l2 d (ti_t τ) (nI (pv_W A)) (l7 + 1) x' y' := fun s => by
    obtain ⟨A', les', car', x', y', i1, i2, i3, i4⟩ := zk_1036 (L := L) (xs := xs) (k10 := k10) (k94 := k94) (l2 := l2) (l7 := l7) s h3 hj (show 0 < 1 + k by omega) (by omega) hb1 hU rfl
    exact ⟨A', les', car', x', y', i1, i2, (k3.1.tr i3).mo (by omega), i4⟩
  by_cases hm : pv_mt A none = some j
  · rw [if_pos (hU0.mpr hm)]
    unfold f_l_L_law_1024
    rw [if_pos ((zme h.1.1 (by omega)).mpr hm)]
    exact go 1
  · rw [if_neg (fun q => hm (hU0.mp q))]
    unfold f_l_L_law_1024
    rw [if_neg (fun q => hm ((zme h.1.1 (by omega)).mp q))]
    exact go 0
end ZST
