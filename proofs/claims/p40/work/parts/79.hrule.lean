/-! rules and lessons by hand, on the law's heap -/
abbrev ZR : Type := Nat × Nat × Z1 × Nat × Z3
def zhr (W : Nat) (y : MS) (i : Nat) (r : ZR) : Prop := h_K y i = 52 ∧ h_I y i 0 = nI r.1 ∧ r.1 ≤ 2 ∧ h_I y i 1 = nI r.2.1 ∧ r.2.1 < W ∧ (r.1 = 2 → zh1 W y (h_R y i 2) r.2.2.1) ∧ (r.2.2.2.1 = 0 → h_R y i 3 < 200) ∧ (r.2.2.2.1 ≠ 0 → 200 ≤ h_R y i 3 ∧ zh3 W y (h_R y i 3) r.2.2.2.2)
/-- nodes and rules stay -/
def yE (y z : MS) : Prop := yP y z ∧ ∀ i, h_K y i = 52 → ye y z i
theorem zhr.E {W : Nat} {y z : MS} {i : Nat} {r : ZR} (h : zhr W y i r) (hE : yE y z) : zhr W z i r := by
  obtain ⟨e1, e2, e3, e4⟩ := hE.2 i h.1
  obtain ⟨h1, h2, h3, h4, h5, h6, h7, h8⟩ := h
  exact ⟨by rw [e1]; exact h1, by rw [e2]; exact h2, h3, by rw [e2]; exact h4, h5, fun q => by rw [e3]; exact (h6 q).P hE.1, fun q => by rw [e3]; exact h7 q, fun q => by rw [e3]; exact ⟨(h8 q).1, (h8 q).2.P hE.1⟩⟩
theorem yE.rf (y : MS) : yE y y := ⟨yP.rf y, fun i _ => ye.rf y i⟩
theorem yE.tr {x y z : MS} (h : yE x y) (k : yE y z) : yE x z := ⟨h.1.tr k.1, fun i hi => (h.2 i hi).tr (k.2 i (by rw [(h.2 i hi).1]; exact hi))⟩
/-- the cells of a talk that lessons write -/
def yTc (τ : TI) (i : Nat) : Prop := i = ti_t τ ∨ i = ti_w τ ∨ i = ti_p τ ∨ i = ti_c τ ∨ i = ti_s τ
def zrl (A : PV) (les : Int32) (r : ZR) : Nat × PV := if r.2.2.2.1 ≠ 0 ∧ zv3 A les r.2.2.2.2 = 0 then (0, A) else pq_do r.1 r.2.1 (zv1 A les r.2.2.1) A
section ZRL
variable {A : PV} {les car : Int32} {nr R : Nat} {y z : MS} {τ : TI}
theorem yT.kn (h : yT A les car nr R y τ) {i : Nat} (hi : h_K y i = 51 ∨ h_K y i = 52 ∨ h_K y i = 64 ∨ h_K y i = 50 ∨ h_K y i = 54 ∨ h_K y i = 55 ∨ h_K y i = 61) : ¬ yTc τ i := by
  obtain ⟨hO, hA, hn, ⟨h1, h2, h3, h4, h5, h6, h7⟩, hw, hh⟩ := h
  have k1 := h1.1
  have k2 := h2.1
  have k3 := h3.1
  have k4 := h4.1
  have k5 := h5.1
  intro q
  rcases q with rfl | rfl | rfl | rfl | rfl <;> omega
theorem yT.E (h : yT A les car nr R y τ) (hf : yF (yTc τ) y z) : yE y z := ⟨fun i hi => hf i (h.1.k hi) (h.kn (by omega)), fun i hi => hf i (h.1.k hi) (h.kn (by omega))⟩
theorem yQ.F (h : yQ (ti_c τ) (ti_s τ) y z) : yF (yTc τ) y z := fun i _ hi => h.1 i (fun e => hi (by unfold yTc; omega)) (fun e => hi (by unfold yTc; omega))
theorem yT.sp (h : yT A les car nr R y τ) {w r : Nat} {d : Int32} (hr : yr y r (fun k => pp_hd (pv_pt A w k) d) (pv_ln A w)) (hc : r ≠ ti_c τ) (hs : r ≠ ti_s τ) : yT (pv_sp A w d) les car nr R (h_wr y (ti_w τ) w r) τ := by
  obtain ⟨hO, hA, hn, ⟨h1, h2, h3, h4, h5, h6, h7⟩, hw, hh⟩ := h
  have ntw : ti_t τ ≠ ti_w τ := fun e => by have k1 := h1.1; have k2 := h2.1; rw [e] at k1; omega
  have hR : h_R (h_wr y (ti_w τ) w r) (ti_t τ) = h_R y (ti_t τ) := ywr_Rn ntw
  refine ⟨hO, hA.sp, hn, ⟨?_, h2, h3, h4, h5, h6, h7⟩, fun j hj => ?_, hh⟩
  · rw [hR]; exact h1
  · rw [ywr_R]
    by_cases e : j = w
    · subst e
      rw [yup1, pv_ptp, if_pos rfl]
      exact ⟨hr, (hw j hj).2.1, hc, hs⟩
    · rw [yup2 e, pv_ptp, if_neg e]
      exact hw j hj
theorem yT.sr (h : yT A les car nr R y τ) {w v : Nat} (hv : v ≤ 1) : yT (pv_sr A w v) les car nr R (h_wi y (ti_p τ) w (nI v)) τ := by
  obtain ⟨hO, hA, hn, ⟨h1, h2, h3, h4, h5, h6, h7⟩, hw, hh⟩ := h
  have ntp : ti_t τ ≠ ti_p τ := fun e => by have k1 := h1.1; have k2 := h3.1; rw [e] at k1; omega
  have hI : h_I (h_wi y (ti_p τ) w (nI v)) (ti_t τ) = h_I y (ti_t τ) := ywi_In ntp
  have hrow : ∀ {i n : Nat} {p : Nat → Nat}, yr y i p n → yr (h_wi y (ti_p τ) w (nI v)) i p n := fun {i n p} hr => hr.e ⟨rfl, ywi_In (fun e => by have k1 := hr.1; have k2 := h3.1; rw [e] at k1; omega), rfl, rfl⟩
  refine ⟨hO, hA.sr hv, hn, ⟨?_, h2, ⟨h3.1, h3.2.1, fun j hj => ?_⟩, h4, h5, h6, h7⟩, fun j hj => ?_, hrow hh.1, hh.2⟩
  · rw [hI]; exact h1
  · rw [ywi_I, pv_prr]
    by_cases e : j = w
    · rw [e, pp_u1, if_pos rfl]
    · rw [pp_u2 e, if_neg e]; exact h3.2.2 j hj
  · exact ⟨hrow (hw j hj).1, (hw j hj).2⟩
theorem yT.c5 (h : yT A les car nr R y τ) {v : Int32} : yT A v car nr R (h_wi y (ti_t τ) 5 v) τ := by
  obtain ⟨hO, hA, hn, ⟨h1, h2, h3, h4, h5, h6, h7⟩, hw, hh⟩ := h
  have hrow : ∀ {i n : Nat} {p : Nat → Nat}, yr y i p n → yr (h_wi y (ti_t τ) 5 v) i p n := fun {i n p} hr => hr.e ⟨rfl, ywi_In (fun e => by have k1 := hr.1; have k2 := h1.1; rw [e] at k1; omega), rfl, rfl⟩
  have ntp : ti_p τ ≠ ti_t τ := fun e => by have k1 := h1.1; have k2 := h3.1; rw [e] at k2; omega
  obtain ⟨a1, a2, a3, a4, a5, a6, a7, a8, a9⟩ := h1
  refine ⟨hO, hA, hn, ⟨⟨a1, ?_, ?_, a4, a5, a6, ?_, ?_, a9⟩, h2, ⟨h3.1, h3.2.1, fun j hj => ?_⟩, h4, h5, h6, h7⟩, fun j hj => ⟨hrow (hw j hj).1, (hw j hj).2⟩, hrow hh.1, hh.2⟩
  · rw [ywi_I, pp_u2 (by decide)]; exact a2
  · rw [ywi_I, pp_u2 (by decide)]; exact a3
  · rw [ywi_I, pp_u1]
  · rw [ywi_I, pp_u2 (by decide)]; exact a8
  · rw [ywi_In ntp]; exact h3.2.2 j hj
theorem yT.c6 (h : yT A les car nr R y τ) {v : Int32} : yT A les v nr R (h_wi y (ti_t τ) 6 v) τ := by
  obtain ⟨hO, hA, hn, ⟨h1, h2, h3, h4, h5, h6, h7⟩, hw, hh⟩ := h
  have hrow : ∀ {i n : Nat} {p : Nat → Nat}, yr y i p n → yr (h_wi y (ti_t τ) 6 v) i p n := fun {i n p} hr => hr.e ⟨rfl, ywi_In (fun e => by have k1 := hr.1; have k2 := h1.1; rw [e] at k1; omega), rfl, rfl⟩
  have ntp : ti_p τ ≠ ti_t τ := fun e => by have k1 := h1.1; have k2 := h3.1; rw [e] at k2; omega
  obtain ⟨a1, a2, a3, a4, a5, a6, a7, a8, a9⟩ := h1
  refine ⟨hO, hA, hn, ⟨⟨a1, ?_, ?_, a4, a5, a6, ?_, ?_, a9⟩, h2, ⟨h3.1, h3.2.1, fun j hj => ?_⟩, h4, h5, h6, h7⟩, fun j hj => ⟨hrow (hw j hj).1, (hw j hj).2⟩, hrow hh.1, hh.2⟩
  · rw [ywi_I, pp_u2 (by decide)]; exact a2
  · rw [ywi_I, pp_u2 (by decide)]; exact a3
  · rw [ywi_I, pp_u2 (by decide)]; exact a7
  · rw [ywi_I, pp_u1]
  · rw [ywi_In ntp]; exact h3.2.2 j hj
/-- something else is what was heard -/
def ti_H (τ : TI) (r : Nat) : TI := (ti_t τ, ti_w τ, ti_p τ, r, ti_r τ, ti_c τ, ti_s τ)
theorem yT.hd (h : yT A les car nr R y τ) {r n : Nat} {q : Nat → Nat} (hr : yr y r q n) (hc : r ≠ ti_c τ) (hs : r ≠ ti_s τ) : yT (pv_hr A n q) les car nr R (h_wr y (ti_t τ) 4 r) (ti_H τ r) := by
  obtain ⟨hO, hA, hn, ⟨h1, h2, h3, h4, h5, h6, h7⟩, hw, hh⟩ := h
  have ntw : ti_w τ ≠ ti_t τ := fun e => by have k1 := h1.1; have k2 := h2.1; rw [e] at k2; omega
  have hR : h_R (h_wr y (ti_t τ) 4 r) (ti_w τ) = h_R y (ti_w τ) := ywr_Rn ntw
  obtain ⟨a1, a2, a3, a4, a5, a6, a7, a8, a9, a10, a11⟩ := h1
  refine ⟨hO, hA.hr, hn, ⟨⟨a1, a2, a3, ?_, ?_, ?_, a7, a8, ?_, ?_, ?_⟩, h2, h3, h4, h5, h6, h7⟩, fun j hj => ?_, hr, hc, hs⟩
  · show h_R (h_wr y (ti_t τ) 4 r) (ti_t τ) 2 = ti_w τ
    rw [ywr_R, yup2 (by decide)]; exact a4
  · show h_R (h_wr y (ti_t τ) 4 r) (ti_t τ) 3 = ti_p τ
    rw [ywr_R, yup2 (by decide)]; exact a5
  · show h_R (h_wr y (ti_t τ) 4 r) (ti_t τ) 4 = r
    rw [ywr_R, yup1]
  · show h_R (h_wr y (ti_t τ) 4 r) (ti_t τ) 7 = ti_r τ
    rw [ywr_R, yup2 (by decide)]; exact a9
  · show h_R (h_wr y (ti_t τ) 4 r) (ti_t τ) 8 = ti_c τ
    rw [ywr_R, yup2 (by decide)]; exact a10
  · show h_R (h_wr y (ti_t τ) 4 r) (ti_t τ) 9 = ti_s τ
    rw [ywr_R, yup2 (by decide)]; exact a11
  · show yr _ (h_R (h_wr y (ti_t τ) 4 r) (ti_w τ) j) _ _ ∧ _ ∧ h_R (h_wr y (ti_t τ) 4 r) (ti_w τ) j ≠ _ ∧ h_R (h_wr y (ti_t τ) 4 r) (ti_w τ) j ≠ _
    rw [hR]
    exact hw j hj
/-- what a rule does -/
def zdo (t p1 : Nat) (y : MS) : Option (Int32 × MS) := if (h_I y t 0) = (2 : Int32) then (if h_K y p1 = 53 then (if h_K y (h_R y p1 2) = 63 then (if g_ok (h_I y t 1) (h_N y (h_R y p1 2)) = true then (if h_K y (h_R y t 2) = 51 then ((f_l_X14_value 6 (h_R y t 2) p1 y).bind fun q12 => (f_l_X16_shifted (h_R y (h_R y p1 2) (h_I y t 1).toNatClampNeg) q12.1.toInt64 q12.2).bind fun q13 => f_l_X15_isDone_55 g_fuel t p1 q13.1 (0 : Int32) (0 : Int32) q13.2) else none) else none) else none) else none) else (if h_K y p1 = 53 then (if h_K y (h_R y p1 3) = 62 then (if g_ok (h_I y t 1) (h_N y (h_R y p1 3)) = true then (if (h_I y t 0) = 0 then (f_l_X15_isDone_128 t p1 (1 : Int32) (h_I y (h_R y p1 3) (h_I y t 1).toNatClampNeg) y) else (f_l_X15_isDone_128 t p1 (0 : Int32) (h_I y (h_R y p1 3) (h_I y t 1).toNatClampNeg) y)) else none) else none) else none)
theorem zdo_u (t p1 : Nat) (y : MS) : f_l_X15_isDone t p1 y = if h_K y t = 52 then (if (h_R y t 3) < 200 then zdo t p1 y else (if h_K y (h_R y t 3) = 51 then ((f_l_X14_value 6 (h_R y t 3) p1 y).bind fun q15 => if q15.1 = 0 then (some (((0 : Int32), q15.2))) else (if h_K q15.2 t = 52 then zdo t p1 q15.2 else none)) else none)) else none := rfl
theorem zdo_ok (hT : yT A les car nr R y τ) (hb : yb y 1) {i : Nat} {r : ZR} (h : zhr (pv_W A) y i r) : ∃ y', zdo i (ti_t τ) y = some (nI (pq_do r.1 r.2.1 (zv1 A les r.2.2.1) A).1, y') ∧ yT (pq_do r.1 r.2.1 (zv1 A les r.2.2.1) A).2 les car nr R y' τ ∧ yG 1 y y' ∧ yF (yTc τ) y y' := by
  obtain ⟨κ, w, sm, hs, ts⟩ := r
  obtain ⟨h1, h2, h3, h4, h5, h6, -⟩ := h
  change h_I y i 0 = nI κ at h2
  change κ ≤ 2 at h3
  change h_I y i 1 = nI w at h4
  change w < pv_W A at h5
  change κ = 2 → zh1 _ y (h_R y i 2) sm at h6
  have hW := hT.2.1.1
  obtain ⟨t1, t2, t3, t4, t5, t6, t7, t8, t9⟩ := hT.t0
  obtain ⟨w1, w2⟩ := hT.w0
  obtain ⟨p1, p2, p3⟩ := hT.p0
  have hok : g_ok (nI w) (pv_W A) = true := (pp_ok (by omega)).mpr h5
  show ∃ y', _ = some (nI (pq_do κ w (zv1 A les sm) A).1, y') ∧ yT (pq_do κ w (zv1 A les sm) A).2 les car nr R y' τ ∧ _
  unfold zdo
  rw [h2, if_pos t1, if_pos t1, t4, if_pos w1, w2, h4, if_pos hok, t5, if_pos p1, p2, if_pos hok, nI_clamp (by omega)]
  by_cases hk : κ = 2
  · subst hk
    have h6' := h6 rfl
    obtain ⟨a1, a2, a3, a4⟩ := hT.wd h5
    obtain ⟨y1, e1, e2⟩ := zv1_ok (n := 4) hT h6'
    have hT1 := hT.q e2
    have hG1 : yG 0 y y1 := e2.G
    obtain ⟨b1, b2, b3, b4⟩ := hT1.wd h5
    have er : h_R y1 (ti_w τ) = h_R y (ti_w τ) := (e2.1 (ti_w τ) (fun e => by have k1 := hT.2.2.2.1.2.2.2.1.1; rw [e] at w1; omega) (fun e => by have k1 := hT.2.2.2.1.2.2.2.2.1.1; rw [e] at w1; omega)).2.2.1
    rw [er] at b1 b3 b4
    obtain ⟨y2, g1, g2, g3, g4, g5⟩ := b1.sh (d := zv1 A les sm) ((hb.g hG1 (by omega)).mo (by omega)) hT1.1
    have hT2 := hT1.n g3 g4
    rw [if_pos (show nI 2 = (2 : Int32) from rfl), if_pos h6'.k, e1, pp_b, g1, pp_b]
    have hnx : ti_w τ < h_nx y1 := hT1.1.k hT1.w0.1
    have hni : i < h_nx y1 := hT1.1.k (c := 51) (by rw [(e2.1 i (fun e => by have k1 := hT.2.2.2.1.2.2.2.1.1; rw [e] at h1; omega) (fun e => by have k1 := hT.2.2.2.1.2.2.2.2.1.1; rw [e] at h1; omega)).1]; exact h1)
    obtain ⟨i1, i2, i3, i4⟩ := (e2.1 i (fun e => by have k1 := hT.2.2.2.1.2.2.2.1.1; rw [e] at h1; omega) (fun e => by have k1 := hT.2.2.2.1.2.2.2.2.1.1; rw [e] at h1; omega)).tr (g4 i hni (fun q => q))
    have er2 : h_R y2 (ti_w τ) w = h_R y (ti_w τ) w := by rw [(g4 (ti_w τ) hnx (fun q => q)).2.2.1, er]
    obtain ⟨t1', t2', t3', t4', t5', t6', t7', t8', t9'⟩ := hT2.t0
    obtain ⟨w1', w2'⟩ := hT2.w0
    obtain ⟨c1, c2, c3, c4⟩ := hT2.wd h5
    rw [er2] at c1 c3 c4
    have hln := c1.2.2.1
    obtain ⟨m1, m2, m3, m4, m5⟩ := id g2
    replace m4 : ∀ k, pp_hd (pv_pt A w k) (zv1 A les sm) ≤ 40 := m4
    replace m5 : ∀ k, k < pv_ln A w → h_I y2 (h_nx y1) k = nI (pp_hd (pv_pt A w k) (zv1 A les sm)) := m5
    have loop : ∀ d fu k, d = pv_ln A w - k → d < fu → k ≤ pv_ln A w → f_l_X15_isDone_55 fu i (ti_t τ) (h_nx y1) (nI (pp_cg (pv_pt A w) (zv1 A les sm) k)) (nI k) y2 = some (nI (pp_cg (pv_pt A w) (zv1 A les sm) (pv_ln A w)), h_wr y2 (ti_w τ) w (h_nx y1)) := by
      intro d
      induction d with
      | zero =>
        intro fu k hd hfu hk
        obtain ⟨f1, rfl⟩ : ∃ f, fu = f + 1 := ⟨fu - 1, by omega⟩
        have hcB := pp_cgB (pv_pt A w) (zv1 A les sm) (pv_ln A w)
        rw [f_l_X15_isDone_55, if_pos m1, m2, if_pos (nI_le (by omega) (by omega)), if_pos t1', if_pos (by rw [i1]; exact h1), t4', if_pos w1', w2', i2, h4, if_pos hok, show k = pv_ln A w by omega, if_pos (pp_01n hcB), nI_clamp (by omega)]
      | succ d ih =>
        intro fu k hd hfu hk
        obtain ⟨f1, rfl⟩ : ∃ f, fu = f + 1 := ⟨fu - 1, by omega⟩
        have hcB := pp_cgB (pv_pt A w) (zv1 A les sm) k
        have hb1 := c1.2.2.2.1 k
        have hb2 := m4 k
        have ihk := ih f1 (k + 1) (by omega) (by omega) (by omega)
        have hokk : g_ok (nI k) (pv_ln A w) = true := (pp_ok (by omega)).mpr (by omega)
        rw [f_l_X15_isDone_55, if_pos m1, m2, if_neg (nI_ge (by omega) (by omega)), if_pos hokk, if_pos t1', if_pos (by rw [i1]; exact h1), t4', if_pos w1', w2', i2, h4, if_pos hok, nI_clamp (by omega), er2, if_pos c1.1, c1.2.1, if_pos hokk, nI_clamp (by omega), m5 k (by omega), c1.2.2.2.2 k (by omega), nI_1]
        rw [pp_cgS] at ihk
        by_cases e : pp_hd (pv_pt A w k) (zv1 A les sm) = pv_pt A w k
        · rw [if_pos e] at ihk
          rw [if_pos (by rw [e]), (pp_or01 hcB).1]
          exact ihk
        · rw [if_neg e] at ihk
          rw [if_neg (by rw [nI_eq (by omega) (by omega)]; exact e), (pp_or01 hcB).2]
          exact ihk
    refine ⟨h_wr y2 (ti_w τ) w (h_nx y1), ?_, ?_, ?_, ?_⟩
    · exact loop (pv_ln A w - 0) g_fuel 0 rfl (by unfold g_fuel; omega) (by omega)
    · have hcx : ti_c τ < h_nx y1 := hT1.1.k hT1.2.2.2.1.2.2.2.1.1
      have hsx : ti_s τ < h_nx y1 := hT1.1.k hT1.2.2.2.1.2.2.2.2.1.1
      exact hT2.sp g2 (by omega) (by omega)
    · exact ((hG1.tr g3).tr (ywr_G _ _ _ _)).mo (by omega)
    · exact ((e2.F.tr (g4.mo (fun _ _ q => q.elim)) hG1).tr (ywr_F (Or.inr (Or.inl rfl))) (hG1.tr g3))
  · rw [if_neg (by rw [show (2 : Int32) = nI 2 from rfl, nI_eq (by omega) (by omega)]; exact hk), p3 w h5]
    have hp := hT.2.1.2.1 w
    have key : ∀ u : Nat, u ≤ 1 → (u = 1 ↔ κ = 0) → f_l_X15_isDone_128 i (ti_t τ) (nI u) (nI (pv_pr A w)) y = some (nI (if pv_pr A w = u then 0 else 1), h_wi y (ti_p τ) w (nI u)) := by
      intro u hu hku
      have k136 : ∀ s0 : Nat, s0 ≤ 1 → f_l_X15_isDone_136 i (ti_t τ) (nI s0) y = some (nI s0, h_wi y (ti_p τ) w (nI u)) := by
        intro s0 hs0
        unfold f_l_X15_isDone_136
        rw [if_pos t1, if_pos h1, h2, t5, p2, h4, nI_clamp (by omega), ynb1, ynb0]
        by_cases hu1 : u = 1
        · rw [if_pos (by rw [hku.mp hu1]; rfl), if_pos p1, if_pos hok, if_pos (pp_01n hs0), hu1]; rfl
        · rw [if_neg (nI_ne0 (by omega) (by omega)), if_pos p1, if_pos hok, if_pos (pp_01n hs0), show u = 0 by omega]; rfl
      unfold f_l_X15_isDone_128
      by_cases e : pv_pr A w = u
      · rw [if_pos (by rw [e]), if_pos e]; exact k136 0 (by omega)
      · rw [if_neg (by rw [nI_eq (by omega) (by omega)]; exact e), if_neg e]; exact k136 1 (by omega)
    unfold pq_do
    rw [if_neg hk]
    by_cases h0 : κ = 0
    · rw [if_pos (by rw [h0]; rfl), if_pos h0]
      exact ⟨_, key 1 (by omega) (by omega), hT.sr (by omega), (ywi_G _ _ _ _).mo (by omega), ywi_F (Or.inr (Or.inr (Or.inl rfl)))⟩
    · rw [if_neg (nI_ne0 (by omega) (by omega)), if_neg h0]
      exact ⟨_, key 0 (by omega) (by omega), hT.sr (by omega), (ywi_G _ _ _ _).mo (by omega), ywi_F (Or.inr (Or.inr (Or.inl rfl)))⟩
theorem zis_ok (hT : yT A les car nr R y τ) (hb : yb y 1) {i : Nat} {r : ZR} (h : zhr (pv_W A) y i r) : ∃ y', f_l_X15_isDone i (ti_t τ) y = some (nI (zrl A les r).1, y') ∧ yT (zrl A les r).2 les car nr R y' τ ∧ yG 1 y y' ∧ yF (yTc τ) y y' := by
  have h0 := h
  obtain ⟨h1, h2, h3, h4, h5, h6, h7, h8⟩ := h
  rw [zdo_u, if_pos h1]
  unfold zrl
  by_cases hs : r.2.2.2.1 = 0
  · rw [if_pos (h7 hs), if_neg (fun q => q.1 hs)]
    exact zdo_ok hT hb h0
  · obtain ⟨h9, h10⟩ := h8 hs
    obtain ⟨y1, e1, e2⟩ := zv3_ok (n := 2) hT h10
    have hT1 := hT.q e2
    have hE := hT.E e2.F
    rw [if_neg (by omega), if_pos h10.k, e1, pp_b]
    show ∃ y', (if zv3 A les r.2.2.2.2 = 0 then some ((0 : Int32), y1) else (if h_K y1 i = 52 then zdo i (ti_t τ) y1 else none)) = _ ∧ _
    by_cases hz : zv3 A les r.2.2.2.2 = 0
    · rw [if_pos hz, if_pos ⟨hs, hz⟩]
      exact ⟨y1, rfl, hT1, e2.G.mo (by omega), e2.F⟩
    · rw [if_neg hz, if_pos (by rw [(hE.2 i h1).1]; exact h1), if_neg (fun q : _ ∧ _ => hz q.2)]
      obtain ⟨y2, a1, a2, a3, a4⟩ := zdo_ok hT1 ((hb.g e2.G (by omega)).mo (by omega)) (h0.E hE)
      exact ⟨y2, a1, a2, (e2.G.tr a3).mo (by omega), e2.F.tr a4 e2.G⟩
theorem zrl1 {r : ZR} : (zrl A les r).1 ≤ 1 := by
  unfold zrl
  split
  · simp
  · exact pq_do1
theorem pq_do2 {κ w : Nat} {d : Int32} (hA : pv_ok A) : pv_ok (pq_do κ w d A).2 ∧ pv_sm A (pq_do κ w d A).2 := by
  unfold pq_do
  split
  · exact ⟨hA.sp, ⟨rfl, rfl, rfl, rfl, rfl⟩⟩
  · split
    · exact ⟨hA.sr (by omega), ⟨rfl, rfl, rfl, rfl, rfl⟩⟩
    · exact ⟨hA.sr (by omega), ⟨rfl, rfl, rfl, rfl, rfl⟩⟩
theorem zrl2 {r : ZR} (hA : pv_ok A) : pv_ok (zrl A les r).2 ∧ pv_sm A (zrl A les r).2 := by
  unfold zrl
  split
  · exact ⟨hA, pv_sm.rf A⟩
  · exact pq_do2 hA
end ZRL
def zfold (les : Int32) (rs : Nat → ZR) : Nat → PV → Nat × PV
  | 0, A => (0, A)
  | k + 1, A => ((zfold les rs k A).1 + (zrl (zfold les rs k A).2 les (rs k)).1, (zrl (zfold les rs k A).2 les (rs k)).2)
theorem zfold2 {les : Int32} {rs : Nat → ZR} {A : PV} (hA : pv_ok A) : ∀ k, pv_ok (zfold les rs k A).2 ∧ pv_sm A (zfold les rs k A).2 ∧ (zfold les rs k A).1 ≤ k := by
  intro k
  induction k with
  | zero => exact ⟨hA, pv_sm.rf A, Nat.le_refl _⟩
  | succ k ih =>
    have h1 := zrl2 (les := les) (r := rs k) ih.1
    refine ⟨h1.1, ih.2.1.tr h1.2, ?_⟩
    have h2 := zrl1 (A := (zfold les rs k A).2) (les := les) (r := rs k)
    have h3 := ih.2.2
    show (zfold les rs k A).1 + (zrl (zfold les rs k A).2 les (rs k)).1 ≤ k + 1
    omega
def zmany (rs : Nat → ZR) (R : Nat) : Nat → Int32 → PV → Nat × PV
  | 0, _, A => (0, A)
  | n + 1, les, A => ((zfold les rs R A).1 + (zmany rs R n (les + 1) (zfold les rs R A).2).1, (zmany rs R n (les + 1) (zfold les rs R A).2).2)
/-- the rules lie there -/
def zhs (W : Nat) (y : MS) (τ : TI) (R : Nat) (rs : Nat → ZR) : Prop := ∀ k, k < R → zhr W y (h_R y (ti_r τ) k) (rs k)
section ZPS
variable {A : PV} {les car : Int32} {nr R : Nat} {y z : MS} {τ : TI} {rs : Nat → ZR}
theorem zhs.f (h : zhs (pv_W A) y τ R rs) (hT : yT A les car nr R y τ) (hf : yF (yTc τ) y z) : zhs (pv_W A) z τ R rs := fun k hk => by
  have r1 := hT.2.2.2.1.2.2.2.2.2.2.1
  rw [(hf (ti_r τ) (hT.1.k r1) (hT.kn (by omega))).2.2.1]
  exact (h k hk).E (hT.E hf)
theorem zps_L (hR : R ≤ 4) {y0 : MS} {A0 : PV} (hA : pv_ok A0) (hs0 : zhs (pv_W A0) y0 τ R rs) (hT0 : yT A0 les car nr R y0 τ) : ∀ d fu k y, d = R - k → d < fu → k ≤ R → yb y d → yT (zfold les rs k A0).2 les car nr R y τ → yF (yTc τ) y0 y → yG k y0 y → ∃ y', f_l_X16_pass_13 fu (ti_t τ) (nI (zfold les rs k A0).1) (ti_r τ) (nI R) (nI k) y = some (nI (zfold les rs R A0).1, y') ∧ yT (zfold les rs R A0).2 (les + 1) (car + nI (zfold les rs R A0).1) nr R y' τ ∧ yF (yTc τ) y0 y' ∧ yG R y0 y' := by
  intro d
  induction d with
  | zero =>
    intro fu k y hd hfu hk hb hT hF hG
    obtain ⟨f1, rfl⟩ : ∃ f, fu = f + 1 := ⟨fu - 1, by omega⟩
    have e : k = R := by omega
    subst e
    obtain ⟨t1, t2, t3, t4, t5, t6, t7, t8, t9⟩ := hT.t0
    rw [f_l_X16_pass_13, if_pos (nI_le (by omega) (by omega)), if_pos t1, ywi_I, t8, pp_u2 (by decide), t7]
    refine ⟨_, rfl, hT.c6.c5, (hF.tr (ywi_F (Or.inl rfl)) hG).tr (ywi_F (Or.inl rfl)) (ywi_G' hG), ywi_G' (ywi_G' hG)⟩
  | succ d ih =>
    intro fu k y hd hfu hk hb hT hF hG
    obtain ⟨f1, rfl⟩ : ∃ f, fu = f + 1 := ⟨fu - 1, by omega⟩
    have r1 := hT.2.2.2.1.2.2.2.2.2.2
    have hA1 := zfold2 (les := les) (rs := rs) hA k
    have hsk : zhr (pv_W (zfold les rs k A0).2) y (h_R y (ti_r τ) k) (rs k) := by
      rw [hA1.2.1.1]
      exact hs0.f hT0 hF k (by omega)
    obtain ⟨y1, a1, a2, a3, a4⟩ := zis_ok hT (hb.mo (by omega)) hsk
    have hz1 := zrl1 (A := (zfold les rs k A0).2) (les := les) (r := rs k)
    obtain ⟨y2, b1, b2, b3, b4⟩ := ih f1 (k + 1) y1 (by omega) (by omega) (by omega) ((hb.g a3 (by omega)).mo (by omega)) a2 (hF.tr a4 hG) (hG.tr a3)
    refine ⟨y2, ?_, b2, b3, b4⟩
    rw [f_l_X16_pass_13, if_neg (nI_ge (by omega) (by omega)), if_pos r1.1, r1.2, if_pos ((pp_ok (by omega)).mpr (by omega)), nI_clamp (by omega), if_pos hsk.1, a1, pp_b, nI_1 k]
    have e : (zfold les rs (k + 1) A0).1 = (zfold les rs k A0).1 + (zrl (zfold les rs k A0).2 les (rs k)).1 := rfl
    rw [e] at b1
    show (if nI (zrl (zfold les rs k A0).2 les (rs k)).1 = 0 then _ else _) = _
    by_cases hz : (zrl (zfold les rs k A0).2 les (rs k)).1 = 0
    · rw [if_pos (by rw [hz]; rfl), Int32.add_zero]
      rw [hz] at b1; exact b1
    · rw [if_neg (nI_ne0 (by omega) (by omega)), nI_1]
      rw [show (zrl (zfold les rs k A0).2 les (rs k)).1 = 1 by omega] at b1; exact b1
theorem zps_ok (hR : R ≤ 4) (hs : zhs (pv_W A) y τ R rs) (hT : yT A les car nr R y τ) (hb : yb y R) : ∃ y', f_l_X16_pass (ti_t τ) y = some (nI (zfold les rs R A).1, y') ∧ yT (zfold les rs R A).2 (les + 1) (car + nI (zfold les rs R A).1) nr R y' τ ∧ yF (yTc τ) y y' ∧ yG R y y' := by
  obtain ⟨y', b1, b2⟩ := zps_L hR hT.2.1 hs hT (R - 0) g_fuel 0 y rfl (by unfold g_fuel; omega) (by omega) hb hT (yF.rf _ y) (yG.rf y)
  refine ⟨y', ?_, b2⟩
  have r1 := hT.2.2.2.1.2.2.2.2.2.2
  obtain ⟨t1, t2, t3, t4, t5, t6, t7, t8, t9, t10⟩ := hT.t0
  unfold f_l_X16_pass
  rw [if_pos t1, t9, if_pos r1.1, r1.2]
  exact b1
theorem zpm_L (hR : R ≤ 4) {n : Nat} (hn : n < 4000) : ∀ d fu k c y A les car, d = n - k → d < fu → k ≤ n → yb y (R * d) → zhs (pv_W A) y τ R rs → yT A les car nr R y τ → ∃ y', f_l_X16_pass__4 fu (ti_t τ) (nI n) (nI c) (nI k) y = some (nI (c + (zmany rs R d les A).1), y') ∧ yT (zmany rs R d les A).2 (les + nI d) (car + nI (zmany rs R d les A).1) nr R y' τ ∧ yF (yTc τ) y y' ∧ yG (R * d) y y' ∧ pv_sm A (zmany rs R d les A).2 := by
  intro d
  induction d with
  | zero =>
    intro fu k c y A les car hd hfu hk hb hs hT
    obtain ⟨f1, rfl⟩ : ∃ f, fu = f + 1 := ⟨fu - 1, by omega⟩
    refine ⟨y, ?_, ?_, yF.rf _ y, (yG.rf y).mo (by omega), pv_sm.rf A⟩
    · rw [f_l_X16_pass__4, if_pos (nI_le (by omega) (by omega))]
      rfl
    · show yT A (les + nI 0) (car + nI 0) nr R y τ
      rw [show nI 0 = (0 : Int32) from rfl, Int32.add_zero, Int32.add_zero]
      exact hT
  | succ d ih =>
    intro fu k c y A les car hd hfu hk hb hs hT
    obtain ⟨f1, rfl⟩ : ∃ f, fu = f + 1 := ⟨fu - 1, by omega⟩
    have em : R * (d + 1) = R + R * d := by rw [Nat.mul_succ, Nat.add_comm]
    rw [em] at hb
    obtain ⟨y1, a1, a2, a3, a4⟩ := zps_ok hR hs hT (hb.mo (by omega))
    have hA1 := zfold2 (les := les) (rs := rs) hT.2.1 R
    have hs1 : zhs (pv_W (zfold les rs R A).2) y1 τ R rs := by
      rw [hA1.2.1.1]
      exact hs.f hT a3
    obtain ⟨y2, b1, b2, b3, b4, b5⟩ := ih f1 (k + 1) (c + (zfold les rs R A).1) y1 _ _ _ (by omega) (by omega) (by omega) ((hb.g a4 (by omega)).mo (by omega)) hs1 a2
    refine ⟨y2, ?_, ?_, a3.tr b3 a4, (a4.tr b4).mo (by omega), hA1.2.1.tr b5⟩
    · rw [f_l_X16_pass__4, if_neg (nI_ge (by omega) (by omega)), if_pos hT.t0.1, a1, pp_b, nI_1]
      show f_l_X16_pass__4 f1 (ti_t τ) (nI n) (nI c + nI (zfold les rs R A).1) (nI (k + 1)) y1 = some (nI (c + ((zfold les rs R A).1 + (zmany rs R d (les + 1) (zfold les rs R A).2).1)), y2)
      rw [nI_add, b1, Nat.add_assoc]
    · show yT (zmany rs R d (les + 1) (zfold les rs R A).2).2 (les + nI (d + 1)) (car + nI ((zfold les rs R A).1 + (zmany rs R d (les + 1) (zfold les rs R A).2).1)) nr R y2 τ
      have e1 : les + nI (d + 1) = les + 1 + nI d := by
        rw [show d + 1 = 1 + d by omega, ← nI_add, ← Int32.add_assoc]
        rfl
      have e2 : ∀ p q : Nat, car + nI (p + q) = car + nI p + nI q := fun p q => by rw [← nI_add, ← Int32.add_assoc]
      rw [e1, e2]
      exact b2
theorem zpm_ok (hR : R ≤ 4) {n : Nat} (hn : n < 4000) (hb : yb y (R * n)) (hs : zhs (pv_W A) y τ R rs) (hT : yT A les car nr R y τ) : ∃ y', f_l_X16_pass_ (ti_t τ) (nI n) y = some (nI (zmany rs R n les A).1, y') ∧ yT (zmany rs R n les A).2 (les + nI n) (car + nI (zmany rs R n les A).1) nr R y' τ ∧ yF (yTc τ) y y' ∧ yG (R * n) y y' ∧ pv_sm A (zmany rs R n les A).2 := by
  obtain ⟨y', b1, b2⟩ := zpm_L hR hn n g_fuel 0 0 y A les car (by omega) (by unfold g_fuel; omega) (by omega) hb hs hT
  rw [Nat.zero_add] at b1
  exact ⟨y', b1, b2⟩
end ZPS
