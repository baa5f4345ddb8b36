/-! a step of the law: who is meant, how surely, the best shift against another one -/
theorem zsvT {t : Nat} (ht : t < 1000) : (pq_sv t).toInt = if t % 2 = 0 then ((t / 2 : Nat) : Int) else -((t / 2 : Nat) : Int) := by
  unfold pq_sv
  by_cases h : t % 2 = 0
  · rw [if_pos h, if_pos h, nI_toInt (by omega)]
  · rw [if_neg h, if_neg h, sb_negT (by omega)]
theorem zsvA {t : Nat} (ht : t < 1000) : g_abs (pq_sv t) = nI (t / 2) := by
  have h0 := zsvT ht
  have hz : (0 : Int32).toInt = 0 := rfl
  unfold g_abs
  by_cases h : t % 2 = 0
  · rw [if_pos h] at h0
    rw [if_pos (Int32.le_iff_toInt_le.mpr (by omega))]
    unfold pq_sv
    rw [if_pos h]
  · rw [if_neg h] at h0
    have e : pq_sv t = -nI (t / 2) := if_neg h
    by_cases h2 : t / 2 = 0
    · rw [if_pos (Int32.le_iff_toInt_le.mpr (by omega)), e, h2]; rfl
    · rw [if_neg (fun q => by have := Int32.le_iff_toInt_le.mp q; omega), e, Int32.zero_sub, Int32.neg_neg]
theorem zsvO {o : Nat} (ho : o < 79) : ∃ t, (t = 0 ∨ (2 ≤ t ∧ t < 80)) ∧ nI o - (39 : Int32) = pq_sv t := by
  rcases Nat.lt_or_ge o 39 with h | h
  · refine ⟨2 * (39 - o) + 1, Or.inr (by omega), ?_⟩
    apply Int32.toInt_inj.mp
    rw [zsvT (by omega), if_neg (by omega), show (39 : Int32) = nI 39 from rfl, pk_sub_toInt (by omega) (by omega)]
    omega
  · refine ⟨2 * (o - 39), by omega, ?_⟩
    apply Int32.toInt_inj.mp
    rw [zsvT (by omega), if_pos (by omega), show (39 : Int32) = nI 39 from rfl, pk_sub_toInt (by omega) (by omega)]
    omega
theorem pp_kn0 {f : Nat → Nat} : ∀ n, (pp_kn f n = 0 ↔ ∀ j, j < n → f j ≠ 0) := by
  intro n
  induction n with
  | zero => exact ⟨fun _ j h => by omega, fun _ => rfl⟩
  | succ n ih =>
    rw [show pp_kn f (n + 1) = pp_kn f n + (1 - f n) from rfl]
    constructor
    · intro h j hj
      by_cases e : j = n
      · rw [e]; omega
      · exact ih.mp (by omega) j (by omega)
    · intro h
      have h1 := ih.mpr (fun j hj => h j (by omega))
      have h2 := h n (by omega)
      omega
theorem zmt0 {A : PV} : (pv_mt A none = none) ↔ (pv_hl A = 0 ∨ pp_kn (pv_pr A) (pv_W A) = 0) := by
  rcases pv_mtI A none with ⟨i1, i2⟩ | ⟨m, i1, m1, m2, m3, m4⟩
  · rw [i1]
    refine ⟨fun _ => ?_, fun _ => rfl⟩
    by_cases h0 : pv_hl A = 0
    · exact Or.inl h0
    · exact Or.inr ((pp_kn0 _).mpr (fun j hj q => i2 j hj ⟨h0, q, fun q2 => by cases q2⟩))
  · rw [i1]
    refine ⟨fun q => (by cases q), fun q => ?_⟩
    exfalso
    rcases q with q | q
    · exact m3.1 q
    · exact (pp_kn0 _).mp q m m2 m3.2.1
section ZHD
variable {R nr b v d : Nat} {ρs : Nat → QR} {sg : Nat → Nat} {vl : Nat → Int32} {rs : Nat → ZR} {τ : TI}
variable {L : Nat} {xs : Nat → Int32} {k10 : Int32 → CS → MS → Option (Int32 × CS × MS)} {k94 : Int32 → Nat → Nat → Int32 → Int32 → CS → MS → Option (Int32 × CS × MS)} {l2 l7 : Int32} {A : PV} {les car : Int32} {x : CS} {y : MS}
/-- a word against what was heard, shifted -/
theorem zR.sf (h : zR R nr b v d ρs sg vl rs A les car x y τ) (hb : yb y 1) {j : Nat} (hj : j < pv_W A) (h0 : pv_hl A ≠ 0) (s : Int32) : ∃ y1 y2, f_l_X16_shifted (ti_h τ) s.toInt64 y = some (h_nx y, y1) ∧ h_K y1 (ti_t τ) = 53 ∧ f_l_X16_far (ti_t τ) (h_R y (ti_w τ) j) (h_nx y) y1 = some (nI (pv_ds A j s), y2) ∧ zU 1 τ d y y2 := by
  have hT := h.2.1
  obtain ⟨r1, r2, r3⟩ := hT.hr
  obtain ⟨y1, g1, g2, g3, g4, g5⟩ := r1.sh (d := s) hb hT.1
  have hT1 := hT.n g3 g4
  have hO := hT.1
  have er : h_R y1 (ti_w τ) = h_R y (ti_w τ) := (g4 (ti_w τ) (hO.k hT.w0.1) (fun q => q)).2.2.1
  obtain ⟨a1, a2, a3, a4⟩ := hT1.wd hj
  rw [er] at a1 a3 a4
  have hc := hO.k hT.2.2.2.1.2.2.2.1.1
  have hs := hO.k hT.2.2.2.1.2.2.2.2.1.1
  obtain ⟨y2, e1, e2⟩ := yw_far hT1.D hT1.t0.2.1 h.1.1.2.2.2 a1 g2 a3 a4 (show h_nx y ≠ ti_c τ by omega) (show h_nx y ≠ ti_s τ by omega) a2 (by omega)
  exact ⟨y1, y2, g1, hT1.t0.1, e1, ((zU.n g3 g4).tr (zU.q e2)).mo (by omega)⟩
theorem zk_824 (h : zR R nr b v d ρs sg vl rs A les car x y τ) (hW0 : 0 < pv_W A) (hb : yb y ((R + 2) * 20 + 2)) : ∃ A' les' car' x' y', zR R nr b v d ρs sg vl rs A' les' car' x' y' τ ∧ pv_W A' = pv_W A ∧ yG ((R + 2) * 20 + 2) y y' ∧ f_l_L_law_824 L xs k10 k94 l2 d (ti_t τ) (nI (pv_W A)) l7 (pq_dig A les car nr R) (nI (pv_hl A)) (pp_en (pv_mt A none)) x y = k94 l2 d (ti_t τ) (nI (pv_W A)) (l7 + 1) x' y' := by
  have hW := h.1.1.1
  have hh := h.1.h.1
  obtain ⟨j, y1, j1, j2, j3, j4⟩ := h.dn (n := pv_W A) hW0 (by omega)
  have fin : ∀ x2 y2 a, a ≤ 2 → zR R nr b v d ρs sg vl rs A les car x2 y2 τ → yG a y y2 → ∃ A' les' car' x' y', zR R nr b v d ρs sg vl rs A' les' car' x' y' τ ∧ pv_W A' = pv_W A ∧ yG ((R + 2) * 20 + 2) y y' ∧ f_l_L_law_971 L xs k10 k94 l2 d (ti_t τ) (nI (pv_W A)) l7 (pq_dig A les car nr R) (pp_en (pv_mt A none)) (nI j) x2 y2 = k94 l2 d (ti_t τ) (nI (pv_W A)) (l7 + 1) x' y' := by
    intro x2 y2 a ha h2 hG
    obtain ⟨A', les', car', x', y', i1, i2, i3, i4⟩ := zk_971 (L := L) (xs := xs) (k10 := k10) (k94 := k94) (l2 := l2) (l7 := l7) h2 j1 ((hb.g hG (by omega)).mo (by omega))
    exact ⟨A', les', car', x', y', i1, i2, (hG.tr i3).mo (by omega), i4⟩
  unfold f_l_L_law_824
  rw [if_pos h.2.2.1, j2, pp_b]
  by_cases h0 : pv_hl A = 0
  · rw [if_pos (show nI (pv_hl A) ≤ 0 by rw [h0]; decide)]
    exact fin x y1 0 (by omega) j4 j3.1
  · rw [if_neg (nI_nle (by omega) (by omega))]
    obtain ⟨x1, s1, e1⟩ := pq_bestS j4.1 j1 h0
    have h1 := j4.s s1
    obtain ⟨o, y2, o1, o2, o3, o4⟩ := h1.dn (n := 79) (by omega) (by omega)
    have o2' : f_l_X13_next d (79 : Int32) y1 = some (nI o, y2) := o2
    obtain ⟨B, hB⟩ : ∃ B, B = pq_bs (fun t => pv_ds A j (pq_sv t)) 80 := ⟨_, rfl⟩
    obtain ⟨P1, P2, P3, P4⟩ := pq_bsP (D := fun t => pv_ds A j (pq_sv t)) 80
    rw [← hB] at P1 P2 P3 P4
    rw [← hB] at e1
    have hU2 : zU 0 τ d y y2 := (j3.tr o3).mo (by omega)
    have hb2 := hb.g hU2.1 (by omega)
    obtain ⟨y3, y4, a1, a2, a3, a4⟩ := o4.sf (hb2.mo (by omega)) j1 h0 (pq_sv B)
    have h4 := o4.U a4
    have hU4 : zU 1 τ d y y4 := (hU2.tr a4).mo (by omega)
    obtain ⟨y5, y6, c1, c2, c3, c4⟩ := h4.sf ((hb.g hU4.1 (by omega)).mo (by omega)) j1 h0 (nI o - 39)
    have h6 := h4.U c4
    have hU6 : zU 2 τ d y y6 := (hU4.tr c4).mo (by omega)
    obtain ⟨t1, t2, t3, t4, t5, t6, t7⟩ := o4.2.1.t0
    obtain ⟨w1, w2⟩ := o4.2.1.w0
    obtain ⟨t1', t2', t3', t4', t5', t6', t7'⟩ := h4.2.1.t0
    obtain ⟨w1', w2'⟩ := h4.2.1.w0
    have hok : g_ok (nI j) (pv_W A) = true := (pp_ok (by omega)).mpr j1
    rw [e1, pp_b]
    show ∃ A' les' car' x' y', _ ∧ _ ∧ _ ∧ (if h_K y1 d = 50 then Option.bind (f_l_X13_next d 79 y1) _ else none) = _
    rw [if_pos j4.2.2.1, o2', pp_b]
    show ∃ A' les' car' x' y', _ ∧ _ ∧ _ ∧ (if h_K y2 (ti_t τ) = 53 then (if h_K y2 (h_R y2 (ti_t τ) 2) = 63 then (if g_ok (nI j) (h_N y2 (h_R y2 (ti_t τ) 2)) = true then Option.bind (f_l_X16_shifted (h_R y2 (ti_t τ) 4) (pq_sv B).toInt64 y2) _ else none) else none) else none) = _
    rw [if_pos t1, t4, if_pos w1, w2, if_pos hok, t6, a1, pp_b]
    show ∃ A' les' car' x' y', _ ∧ _ ∧ _ ∧ (if h_K y3 (ti_t τ) = 53 then Option.bind (f_l_X16_far (ti_t τ) (h_R y2 (ti_w τ) (nI j).toNatClampNeg) (h_nx y2) y3) _ else none) = _
    rw [if_pos a2, nI_clamp (by omega), a3, pp_b]
    show ∃ A' les' car' x' y', _ ∧ _ ∧ _ ∧ (if h_K y4 (ti_t τ) = 53 then (if h_K y4 (h_R y4 (ti_t τ) 2) = 63 then (if g_ok (nI j) (h_N y4 (h_R y4 (ti_t τ) 2)) = true then Option.bind (f_l_X16_shifted (h_R y4 (ti_t τ) 4) (nI o - 39).toInt64 y4) _ else none) else none) else none) = _
    rw [if_pos t1', t4', if_pos w1', w2', if_pos hok, t6', c1, pp_b]
    show ∃ A' les' car' x' y', _ ∧ _ ∧ _ ∧ (if h_K y5 (ti_t τ) = 53 then Option.bind (f_l_X16_far (ti_t τ) (h_R y4 (ti_w τ) j) (h_nx y4) y5) _ else none) = _
    rw [if_pos c2, c3, pp_b]
    obtain ⟨t, q1, q2⟩ := zsvO o1
    rw [q2]
    have key : pv_ds A j (pq_sv B) ≤ pv_ds A j (pq_sv t) ∧ (pv_ds A j (pq_sv B) = pv_ds A j (pq_sv t) → B ≤ t) := by
      rcases q1 with rfl | ⟨q3, q4⟩
      · exact ⟨P2, fun q => by have := P4 q; omega⟩
      · exact P3 t q3 q4
    have hB80 : B < 80 := by omega
    have ht80 : t < 80 := by omega
    have T1 := zsvT (t := B) (by omega)
    have T2 := zsvT (t := t) (by omega)
    have D1 := pv_dsB (d := pq_sv B) h.1.1 h.1.2.2.2.2.1 j1 h0
    have D2 := pv_dsB (d := pq_sv t) h.1.1 h.1.2.2.2.2.1 j1 h0
    have h39 : (-39 : Int32).toInt = -39 := by decide
    have h39' : (39 : Int32).toInt = 39 := by decide
    show ∃ A' les' car' x' y', _ ∧ _ ∧ _ ∧ (if pq_sv B < -39 then _ else (if (39 : Int32) < pq_sv B then _ else (if nI (pv_ds A j (pq_sv t)) < nI (pv_ds A j (pq_sv B)) then _ else (if nI (pv_ds A j (pq_sv t)) = nI (pv_ds A j (pq_sv B)) then (if g_abs (pq_sv t) < g_abs (pq_sv B) then _ else (if g_abs (pq_sv t) = g_abs (pq_sv B) then (if pq_sv t ≤ pq_sv B then f_l_L_law_971 L xs k10 k94 l2 d (ti_t τ) (nI (pv_W A)) l7 (pq_dig A les car nr R) (pp_en (pv_mt A none)) (nI j) x1 y6 else _) else f_l_L_law_971 L xs k10 k94 l2 d (ti_t τ) (nI (pv_W A)) l7 (pq_dig A les car nr R) (pp_en (pv_mt A none)) (nI j) x1 y6)) else f_l_L_law_971 L xs k10 k94 l2 d (ti_t τ) (nI (pv_W A)) l7 (pq_dig A les car nr R) (pp_en (pv_mt A none)) (nI j) x1 y6)))) = _
    rw [if_neg (fun q => by have := Int32.lt_iff_toInt_lt.mp q; rw [T1, h39] at this; split at this <;> omega), if_neg (fun q => by have := Int32.lt_iff_toInt_lt.mp q; rw [T1, h39'] at this; split at this <;> omega), if_neg (nI_nlt key.1 (by omega)), zsvA (by omega), zsvA (by omega)]
    have hfin := fin x1 y6 2 (by omega) h6 hU6.1
    by_cases k1 : pv_ds A j (pq_sv t) = pv_ds A j (pq_sv B)
    · have hBt := key.2 k1.symm
      rw [if_pos (by rw [k1]), if_neg (nI_nlt (by omega) (by omega))]
      by_cases k2 : t / 2 = B / 2
      · rw [if_pos (by rw [k2]), if_pos (Int32.le_iff_toInt_le.mpr (by rw [T1, T2]; split <;> split <;> omega))]
        exact hfin
      · rw [if_neg (by rw [nI_eq (by omega) (by omega)]; exact k2)]
        exact hfin
    · rw [if_neg (by rw [nI_eq (by omega) (by omega)]; exact k1)]
      exact hfin
theorem zsu2 (h : pq_R A les car b v R nr ρs sg vl x) : (pv_su A = -2) ↔ pv_mt A none = none := by
  unfold pv_su
  rcases pv_mtI A none with ⟨i1, i2⟩ | ⟨m, i1, m1, m2, m3, m4⟩
  · rw [i1]; exact ⟨fun _ => rfl, fun _ => rfl⟩
  · rw [i1]
    refine ⟨fun q => ?_, fun q => by cases q⟩
    exfalso
    change (match pv_cl A (some m) with
      | none => (-1 : Int32)
      | some s => nI (pv_dh A s) - nI (pv_dh A m)) = -2 at q
    cases hc : pv_cl A (some m) with
    | none => rw [hc] at q; exact absurd (show (-1 : Int32) = -2 from q) (by decide)
    | some s =>
      rw [hc] at q
      obtain ⟨c1, c2⟩ := pq_mlt hc
      unfold pp_okf at c2
      rw [decide_eq_true_eq] at c2
      have h1 := m4 s (by omega) c1 ⟨m3.1, c2.1, fun q => by cases q⟩
      have h2 := h.dh c1
      change nI (pv_dh A s) - nI (pv_dh A m) = -2 at q
      rw [pk_sub (by omega)] at q
      have h3 := congrArg Int32.toInt q
      rw [nI_toInt (by omega), show (-2 : Int32).toInt = -2 by decide] at h3
      omega
/-- a step's looks, from three acts on to the next step -/
theorem zk_104 (h : zR R nr b v d ρs sg vl rs A les car x y τ) (hW0 : 0 < pv_W A) (hb : yb y ((R + 2) * 20 + 4)) (fu : Nat) : ∃ A' les' car' x' y', zR R nr b v d ρs sg vl rs A' les' car' x' y' τ ∧ pv_W A' = pv_W A ∧ yG ((R + 2) * 20 + 4) y y' ∧ f_l_L_law_104 L xs k10 k94 (fu + 1) l2 d (ti_t τ) (nI (pv_W A)) l7 3 x y = k94 l2 d (ti_t τ) (nI (pv_W A)) (l7 + 1) x' y' := by
  have hW := h.1.1.1
  have hh := h.1.h.1
  obtain ⟨x1, s1, e1⟩ := pq_digest h.1
  have h1 := h.s s1
  obtain ⟨y1, m1, m2⟩ := zmeant h1 (hb.mo (by omega))
  have h2 := h1.U m2
  have hb1 := hb.g m2.1 (by omega)
  obtain ⟨y2, u1, u2⟩ := ql_surety (y := y1) h2.1 (yn_rm (k := 1) (hb1.mo (by omega)) (by omega) (by omega))
  have u3 : zU 1 τ d y1 y2 := by
    rcases u2 with rfl | rfl
    · exact (zU.rf τ d y2).mo (by omega)
    · exact zU.x
  have h3 := h2.U u3
  have hU : zU 2 τ d y y2 := (m2.tr u3).mo (by omega)
  obtain ⟨x2, s2, e2⟩ := zk_215 (L := L) (xs := xs) (k10 := k10) (k94 := k94) (l2 := l2) (l3 := d) (l5 := ti_t τ) (l7 := l7) (l8 := pq_dig A les car nr R) (y := y2) h3.1 h3.2.1.t0.1 h3.2.1.t0.2.2.1 (pv_W A - 0) g_fuel 0 x1 rfl (by unfold g_fuel; omega) (by omega) (pp_Sc.rf x1)
  obtain ⟨A', les', car', x', y', i1, i2, i3, i4⟩ := zk_824 (L := L) (xs := xs) (k10 := k10) (k94 := k94) (l2 := l2) (l7 := l7) (h3.s s2) hW0 ((hb.g hU.1 (by omega)).mo (by omega))
  refine ⟨A', les', car', x', y', i1, i2, (hU.1.tr i3).mo (by omega), ?_⟩
  rw [← i4, ← e2]
  rw [f_l_L_law_104, if_pos (show (3 : Int32) ≤ 3 by decide), e1, pp_b]
  show (Option.bind (f_X12_heardBeats x1) _) = _
  rw [pq_heardB h1.1, pp_b]
  show (Option.bind (f_l_L_meant x1 y) _) = _
  rw [m1, pp_b]
  show (Option.bind (f_l_L_surety x1 y1) _) = _
  rw [u1, pp_b]
  have k204 : ∀ s, f_l_L_law_204 L xs k10 k94 l2 d (ti_t τ) (nI (pv_W A)) l7 (pq_dig A les car nr R) (nI (pv_hl A)) (pp_en (pv_mt A none)) (pv_su A) s s x1 y2 = f_l_L_law_215 L xs k10 k94 g_fuel l2 d (ti_t τ) (nI (pv_W A)) l7 (pq_dig A les car nr R) (nI (pv_hl A)) (pp_en (pv_mt A none)) (pv_su A) (pp_en (znx A 0)) (nI 0) x1 y2 := fun s => by
    unfold f_l_L_law_204
    rw [if_pos rfl]
    have ez : pp_en (znx A 0) = -1 := by
      unfold znx
      cases pv_mt A none <;> rfl
    rw [ez]
    rfl
  have hsu := zsu2 h.1
  have k179 : ∀ s, f_l_L_law_179 L xs k10 k94 l2 d (ti_t τ) (nI (pv_W A)) l7 (pq_dig A les car nr R) (nI (pv_hl A)) (pp_en (pv_mt A none)) (pv_su A) s s x1 y2 = f_l_L_law_215 L xs k10 k94 g_fuel l2 d (ti_t τ) (nI (pv_W A)) l7 (pq_dig A les car nr R) (nI (pv_hl A)) (pp_en (pv_mt A none)) (pv_su A) (pp_en (znx A 0)) (nI 0) x1 y2 := fun s => by
    unfold f_l_L_law_179 f_l_L_law_192
    rw [if_pos rfl]
    cases hm : pv_mt A none with
    | none =>
      rw [hm] at k204
      rw [if_neg (show ¬ (0 : Int32) ≤ pp_en none by decide), if_pos (hsu.mpr hm)]
      exact k204 1
    | some m =>
      have hml := (pv_mtB hm).1
      rw [hm] at k204
      rw [if_pos (show (0 : Int32) ≤ pp_en (some m) from nI_pos' (by omega)), if_neg (fun q => by have := hsu.mp q; rw [hm] at this; cases this)]
      exact k204 0
  show (if (0 : Int32) ≤ pp_en (pv_mt A none) then f_l_L_law_162 L xs k10 k94 l2 d (ti_t τ) (nI (pv_W A)) l7 (pq_dig A les car nr R) (nI (pv_hl A)) (pp_en (pv_mt A none)) (pv_su A) 0 x1 y2 else f_l_L_law_162 L xs k10 k94 l2 d (ti_t τ) (nI (pv_W A)) l7 (pq_dig A les car nr R) (nI (pv_hl A)) (pp_en (pv_mt A none)) (pv_su A) 1 x1 y2) = _
  have hm0 := zmt0 (A := A)
  have hkB := pp_knB (pv_pr A) (pv_W A)
  unfold f_l_L_law_162 f_l_L_law_174
  rw [pq_kept h1.1, pp_b, pp_b]
  cases hm : pv_mt A none with
  | none =>
    rw [hm] at k179 hm0
    rw [if_neg (show ¬ (0 : Int32) ≤ pp_en none by decide)]
    by_cases h0 : pv_hl A = 0
    · rw [if_pos (show nI (pv_hl A) = 0 by rw [h0]; rfl)]
      exact k179 1
    · have hk0 : pp_kn (pv_pr A) (pv_W A) = 0 := (hm0.mp rfl).resolve_left h0
      rw [if_neg (show ¬ nI (pv_hl A) = 0 from nI_ne0 (by omega) (by omega)), if_pos (show nI (pp_kn (pv_pr A) (pv_W A)) = 0 by rw [hk0]; rfl)]
      exact k179 1
  | some m =>
    have hml := (pv_mtB hm).1
    rw [hm] at k179 hm0
    have hn : ¬ (pv_hl A = 0 ∨ pp_kn (pv_pr A) (pv_W A) = 0) := fun q => by have := hm0.mpr q; cases this
    rw [if_pos (show (0 : Int32) ≤ pp_en (some m) from nI_pos' (by omega)), if_neg (show ¬ nI (pv_hl A) = 0 from nI_ne0 (by omega) (by omega)), if_neg (show ¬ nI (pp_kn (pv_pr A) (pv_W A)) = 0 from nI_ne0 (by omega) (by omega))]
    exact k179 0
end ZHD
