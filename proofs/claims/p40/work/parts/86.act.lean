/-! acts of both -/
section ZAC
variable {R nr b v d : Nat} {ρs : Nat → QR} {sg : Nat → Nat} {vl : Nat → Int32} {rs : Nat → ZR} {τ : TI} {A : PV} {les car : Int32} {x : CS} {y : MS}
/-- what an act leaves -/
def zA (R nr b v d : Nat) (ρs : Nat → QR) (sg : Nat → Nat) (vl : Nat → Int32) (rs : Nat → ZR) (W t a : Nat) (y : MS) (o : Option (Int32 × CS × MS)) : Prop := ∃ A' les' car' x' y' τ', o = some (1, x', y') ∧ zR R nr b v d ρs sg vl rs A' les' car' x' y' τ' ∧ pv_W A' = W ∧ ti_t τ' = t ∧ yG a y y'
theorem zA.g {W t a c e : Nat} {y0 : MS} {o : Option (Int32 × CS × MS)} (h : zA R nr b v d ρs sg vl rs W t a y o) (hG : yG c y0 y) (he : c + a ≤ e) : zA R nr b v d ρs sg vl rs W t e y0 o := by
  obtain ⟨A', les', car', x', y', τ', h1, h2, h3, h4, h5⟩ := h
  exact ⟨A', les', car', x', y', τ', h1, h2, h3, h4, (hG.tr h5).mo he⟩
theorem zR.hd (h : zR R nr b v d ρs sg vl rs A les car x y τ) {r n : Nat} {q : Nat → Nat} {x' : CS} (hr : yr y r q n) (hc : r ≠ ti_c τ) (hs : r ≠ ti_s τ) (hx : pq_R (pv_hr A n q) les car b v R nr ρs sg vl x') : zR R nr b v d ρs sg vl rs (pv_hr A n q) les car x' (h_wr y (ti_t τ) 4 r) (ti_H τ r) := by
  obtain ⟨h1, h2, h3, h4, h5, h6⟩ := h
  have t1 := h2.t0.1
  have r1 := h2.2.2.2.1.2.2.2.2.2.2.1
  have ne : ∀ {i : Nat}, h_K y i ≠ 53 → ye y (h_wr y (ti_t τ) 4 r) i := fun {i} hi => ⟨rfl, rfl, ywr_Rn (fun e => hi (by rw [e]; exact t1)), rfl⟩
  refine ⟨hx, h2.hd hr hc hs, h3, fun k hk => ?_, h5, h6⟩
  show zhr (pv_W A) (h_wr y (ti_t τ) 4 r) (h_R (h_wr y (ti_t τ) 4 r) (ti_r τ) k) (rs k)
  rw [(ne (i := ti_r τ) (by omega)).2.2.1]
  exact (h4 k hk).E ⟨fun i hi => ne (by omega), fun i hi => ne (by omega)⟩
theorem zk_37 (h : zR R nr b v d ρs sg vl rs A les car x y τ) (hb : yb y (R * 6)) {s0 : Nat} (hs0 : s0 = 2 ∨ s0 = 6) : zA R nr b v d ρs sg vl rs (pv_W A) (ti_t τ) (R * 6) y (f_l_L_act_37 (ti_t τ) (nI s0) d 1 x y) := by
  obtain ⟨k, y1, k1, k2, k3, k4⟩ := h.dn (n := s0) (by omega) (by omega)
  have e1k : (1 : Int32) + nI k = nI (1 + k) := nI_add 1 k
  have hle : R * (1 + k) ≤ R * 6 := Nat.mul_le_mul_left _ (by omega)
  have hb1 : yb y1 (R * 6) := hb.g k3.1 (by omega)
  obtain ⟨x2, y2, a1, a2, a3, a4, a5⟩ := k4.many (n := 1 + k) (by omega) (by omega) (hb1.mo hle)
  have hsm : pv_W (pq_many sg vl ρs R (1 + k) les A).2 = pv_W A := by
    obtain ⟨y', b1, b2, b3, b4, b5⟩ := zpm_ok (n := 1 + k) h.2.2.2.2.2 (by omega) (hb1.mo hle) k4.2.2.2.1 k4.2.1
    rw [← zmany_eq h.w h.2.2.2.2.1] at b5
    exact b5.1
  refine ⟨_, _, _, x2, y2, τ, ?_, a3, hsm, rfl, (k3.1.tr a4).mo (by omega)⟩
  unfold f_l_L_act_37
  rw [if_pos h.2.2.1, k2, pp_b]
  show Option.bind (f_X12_passLessons (1 + nI k) x) _ = _
  rw [e1k, a1, pp_b]
  show (if h_K y1 (ti_t τ) = 53 then Option.bind (f_l_X16_pass_ (ti_t τ) (nI (1 + k)) y1) _ else none) = _
  rw [if_pos k4.2.1.t0.1, a2, pp_b]
  exact if_pos rfl
theorem zk_127 {p r : Nat} (hp : p ≤ 40) (h : zR R nr b v d ρs sg vl rs A les car x y τ) (hb : yb y 2) (hr : r = h_nx y) {l6 : Int32} (hl6 : l6 = if pv_hl A < 24 then 1 else 0) : ∀ dd fu k z, dd = pv_hl A - k → dd < fu → k ≤ pv_hl A → yG 1 y z → yF (fun _ => False) y z → h_nx z = h_nx y + 1 → h_K z r = 60 → h_N z r = pv_hl A + 1 → (∀ j, j < k → h_I z r j = nI (pv_hp A j)) → zA R nr b v d ρs sg vl rs (pv_W A) (ti_t τ) 2 y (f_l_L_act_127 fu (ti_t τ) (nI p) l6 r (nI k) x z) := by
  have hh := h.1.h.1
  have hT := h.2.1
  have hrc : r ≠ ti_c τ := by have := hT.1.k hT.2.2.2.1.2.2.2.1.1; omega
  have hrs : r ≠ ti_s τ := by have := hT.1.k hT.2.2.2.1.2.2.2.2.1.1; omega
  intro dd
  induction dd with
  | zero =>
    intro fu k z hd hfu hk hG hF hnx z1 z2 z3
    obtain ⟨f1, rfl⟩ : ∃ f, fu = f + 1 := ⟨fu - 1, by omega⟩
    have hz := h.U (zU.n hG hF)
    obtain ⟨t1, t2, t3, t4, t5, t6, t7⟩ := hz.2.1.t0
    obtain ⟨r1, r2, r3⟩ := hz.2.1.hr
    rw [f_l_L_act_127, if_pos t1, t6, if_pos r1.1, r1.2.1, if_pos (nI_le (by omega) (by omega)), if_pos z1, z2, if_pos ((pp_ok (by omega)).mpr (by omega)), nI_clamp (by omega)]
    have hF2 : yF (fun _ => False) y (h_wi z r (pv_hl A) (nI p)) := fun i hi hP => (hF i hi hP).tr ⟨rfl, ywi_In (by omega), rfl, rfl⟩
    have hG2 : yG 1 y (h_wi z r (pv_hl A) (nI p)) := ywi_G' hG
    have hz2 := h.U (zU.n (d := d) (τ := τ) hG2 hF2)
    have hX := pq_hearX h.1 hp
    by_cases h24 : pv_hl A < 24
    · rw [if_pos h24] at hl6 hX
      rw [hl6, if_neg (show ¬ (1 : Int32) = 0 by decide)]
      obtain ⟨x', e1, e2⟩ := pq_hear h.1 hp h24
      have hrow : yr (h_wi z r (pv_hl A) (nI p)) r (pq_hq A p) (pv_hl A + 1) := by
        refine ⟨z1, z2, by omega, fun j => ?_, fun j hj => ?_⟩
        · unfold pq_hq
          split
          · exact hp
          · exact h.1.h.2 j
        · rw [ywi_I]
          unfold pq_hq
          by_cases e : j = pv_hl A
          · rw [e, pp_u1, if_pos rfl]
          · rw [pp_u2 e, if_neg e]; exact z3 j (by omega)
      refine ⟨_, les, car, x', _, ti_H τ r, ?_, hz2.hd hrow hrc hrs e2, rfl, rfl, ?_⟩
      · unfold f_l_L_act_176
        rw [hX, e1, pp_b, pp_b]
        show Option.bind (some (nI (pv_hl A + 1), x')) _ = _
        rw [pp_b]
        show (if h_K z r = 60 then (if nI (pv_hl A + 1) = nI (h_N z r) then _ else _) else none) = _
        rw [if_pos z1, z2, if_pos rfl]
        rfl
      · exact (ywr_G' hG2).mo (by omega)
    · rw [if_neg h24] at hl6 hX
      rw [hl6, if_pos (show (0 : Int32) = 0 from rfl)]
      have hrm : h_rm (h_wi z r (pv_hl A) (nI p)) 6 = true := yn_rm (k := 1) (hb.g hG2 (by omega)) (by omega) (by omega)
      refine ⟨A, les, car, x, _, τ, ?_, hz2.U zU.x, rfl, rfl, ?_⟩
      · unfold f_l_L_act_176
        rw [hX, pp_b]
        show (if (1 : Nat) = 1 ∧ h_rm (h_wi z r (pv_hl A) (nI p)) 6 = true then _ else none) = _
        rw [if_pos ⟨rfl, hrm⟩, if_pos rfl]
      · exact (hG2.tr (yx_G (n := 1) (sl := 6) (k := 1) (by omega) (by omega))).mo (by omega)
  | succ dd ih =>
    intro fu k z hd hfu hk hG hF hnx z1 z2 z3
    obtain ⟨f1, rfl⟩ : ∃ f, fu = f + 1 := ⟨fu - 1, by omega⟩
    have hz := h.U (zU.n hG hF)
    obtain ⟨t1, t2, t3, t4, t5, t6, t7⟩ := hz.2.1.t0
    obtain ⟨r1, r2, r3⟩ := hz.2.1.hr
    rw [f_l_L_act_127, if_pos t1, t6, if_pos r1.1, r1.2.1, if_neg (nI_ge (by omega) (by omega)), if_pos ((pp_ok (by omega)).mpr (by omega)), if_pos z1, z2, if_pos ((pp_ok (by omega)).mpr (by omega)), nI_clamp (by omega), r1.2.2.2.2 k (by omega), nI_1]
    refine ih f1 (k + 1) _ (by omega) (by omega) (by omega) (ywi_G' hG) (fun i hi hP => (hF i hi hP).tr ⟨rfl, ywi_In (by omega), rfl, rfl⟩) hnx z1 z2 (fun j hj => ?_)
    rw [ywi_I]
    by_cases e : j = k
    · rw [e, pp_u1]
    · rw [pp_u2 e]; exact z3 j (by omega)
theorem zk_94 {p : Nat} (hp : p ≤ 40) (h : zR R nr b v d ρs sg vl rs A les car x y τ) (hb : yb y 2) : zA R nr b v d ρs sg vl rs (pv_W A) (ti_t τ) 2 y (f_l_L_act_94 (ti_t τ) (nI p) x y) := by
  have hh := h.1.h.1
  obtain ⟨t1, t2, t3, t4, t5, t6, t7⟩ := h.2.1.t0
  obtain ⟨r1, r2, r3⟩ := h.2.1.hr
  have k111 : ∀ l6 : Int32, l6 = (if pv_hl A < 24 then 1 else 0) → zA R nr b v d ρs sg vl rs (pv_W A) (ti_t τ) 2 y (f_l_L_act_111 (ti_t τ) (nI p) l6 x y) := by
    intro l6 hl6
    unfold f_l_L_act_111
    rw [if_pos t1, t6, if_pos r1.1, r1.2.1, nI_1, if_pos (nI_pos (by omega)), nI_clamp (by omega), if_pos (yn_rm (k := 1) (hb.mo (by omega)) (by omega) (by omega))]
    exact zk_127 hp h hb rfl hl6 (pv_hl A - 0) g_fuel 0 _ rfl (by unfold g_fuel; omega) (by omega) (yn_G (by omega) (by omega)) (yn_F _) yn_nx yn_K yn_N (fun j hj => by omega)
  unfold f_l_L_act_94
  rw [if_pos t1, t6, if_pos r1.1, r1.2.1]
  by_cases h24 : pv_hl A < 24
  · rw [if_neg (show ¬ (24 : Int32) ≤ nI (pv_hl A) from nI_ge (b := 24) h24 (by omega))]
    exact k111 1 (by rw [if_pos h24])
  · rw [if_pos (show (24 : Int32) ≤ nI (pv_hl A) from nI_le (a := 24) (by omega) (by omega))]
    exact k111 0 (by rw [if_neg h24])
theorem zk_74 (h : zR R nr b v d ρs sg vl rs A les car x y τ) (hb : yb y 2) : zA R nr b v d ρs sg vl rs (pv_W A) (ti_t τ) 2 y (f_l_L_act_74 (ti_t τ) d x y) := by
  obtain ⟨k, y1, k1, k2, k3, k4⟩ := h.dn (n := 5) (by omega) (by omega)
  have k2' : f_l_X13_next d (5 : Int32) y = some (nI k, y1) := k2
  have hb1 : yb y1 2 := hb.g k3.1 (by omega)
  unfold f_l_L_act_74
  rw [if_pos h.2.2.1, k2', pp_b]
  show zA R nr b v d ρs sg vl rs (pv_W A) (ti_t τ) 2 y (if nI k = 0 then f_l_L_act_94 (ti_t τ) 0 x y1 else (if h_K y1 d = 50 then (f_l_X13_next d 40 y1).bind fun q41 => f_l_L_act_94 (ti_t τ) (1 + q41.1) x q41.2 else none))
  by_cases hk : k = 0
  · rw [if_pos (by rw [hk]; rfl)]
    exact (zk_94 (p := 0) (by omega) k4 hb1).g k3.1 (by omega)
  · rw [if_neg (nI_ne0 (by omega) (by omega)), if_pos k4.2.2.1]
    obtain ⟨j, y2, j1, j2, j3, j4⟩ := k4.dn (n := 40) (by omega) (by omega)
    have j2' : f_l_X13_next d (40 : Int32) y1 = some (nI j, y2) := j2
    have e1 : (1 : Int32) + nI j = nI (1 + j) := nI_add 1 j
    rw [j2', pp_b]
    show zA R nr b v d ρs sg vl rs (pv_W A) (ti_t τ) 2 y (f_l_L_act_94 (ti_t τ) (1 + nI j) x y2)
    rw [e1]
    exact (zk_94 (p := 1 + j) (by omega) j4 (hb1.g j3.1 (by omega))).g (k3.1.tr j3.1) (by omega)
theorem zk_369 {W tot : Nat} {x' : CS} (he : f_X12_pruneNeedless x = some (nI tot, x')) : ∀ dd fu k c A y, dd = W - k → dd < fu → k ≤ W → pv_W A = W → tot = c + (pq_pn nr dd k A).1 → yT A les car nr R y τ → ∃ y', f_l_L_act_369 fu (ti_t τ) (nI W) (nI c) (nI k) x y = some (1, x', y') ∧ yT (pq_pn nr dd k A).2 les car nr R y' τ ∧ yG 0 y y' ∧ yF (yTc τ) y y' := by
  intro dd
  induction dd with
  | zero =>
    intro fu k c A y hd hfu hk hW htot hT
    obtain ⟨f1, rfl⟩ : ∃ f, fu = f + 1 := ⟨fu - 1, by omega⟩
    have hW8 := hT.2.1.1
    have et : tot = c := htot
    refine ⟨y, ?_, hT, yG.rf y, yF.rf _ y⟩
    rw [f_l_L_act_369, if_pos (nI_le (by omega) (by omega)), he, pp_b, et]
    exact if_pos rfl
  | succ dd ih =>
    intro fu k c A y hd hfu hk hW htot hT
    obtain ⟨f1, rfl⟩ : ∃ f, fu = f + 1 := ⟨fu - 1, by omega⟩
    have hW8 := hT.2.1.1
    obtain ⟨y1, n1, n2⟩ := hT.needless (w := k) (by omega)
    have hT1 := hT.q n2
    have hn1 := pv_nl1 A nr k
    rw [f_l_L_act_369, if_neg (nI_ge (by omega) (by omega)), if_pos hT.t0.1, n1, pp_b, nI_1, nI_1]
    show ∃ y', (if nI (pv_nl A nr k) = 0 then _ else _) = _ ∧ _
    by_cases hz : pv_nl A nr k = 0
    · have e : pq_pn nr (dd + 1) k A = pq_pn nr dd (k + 1) A := by rw [pq_pn, if_pos hz]
      rw [e] at htot ⊢
      obtain ⟨y', i1, i2, i3, i4⟩ := ih f1 (k + 1) c A y1 (by omega) (by omega) (by omega) hW htot hT1
      rw [if_pos (by rw [hz]; rfl)]
      exact ⟨y', i1, i2, (n2.G.tr i3).mo (by omega), n2.F.tr i4 n2.G⟩
    · have e : pq_pn nr (dd + 1) k A = (1 + (pq_pn nr dd (k + 1) (pv_sr A k 1)).1, (pq_pn nr dd (k + 1) (pv_sr A k 1)).2) := by rw [pq_pn, if_neg hz]
      rw [e] at htot ⊢
      have htot' : tot = c + 1 + (pq_pn nr dd (k + 1) (pv_sr A k 1)).1 := by
        rw [htot]
        show c + (1 + _) = _
        omega
      obtain ⟨t1, t2, t3, t4, t5, t6, t7⟩ := hT1.t0
      obtain ⟨p1, p2, p3⟩ := hT1.p0
      obtain ⟨y', i1, i2, i3, i4⟩ := ih f1 (k + 1) (c + 1) (pv_sr A k 1) (h_wi y1 (ti_p τ) k (nI 1)) (by omega) (by omega) (by omega) hW htot' (hT1.sr (w := k) (v := 1) (by omega))
      refine ⟨y', ?_, i2, ((n2.G.tr (ywi_G _ _ _ _)).tr i3).mo (by omega), (n2.F.tr (ywi_F (Or.inr (Or.inr (Or.inl rfl)))) n2.G).tr i4 (n2.G.tr (ywi_G _ _ _ _))⟩
      rw [if_neg (nI_ne0 (by omega) (by omega))]
      show (if h_K y1 (ti_t τ) = 53 then (if h_K y1 (h_R y1 (ti_t τ) 3) = 62 then (if g_ok (nI k) (h_N y1 (h_R y1 (ti_t τ) 3)) = true then f_l_L_act_369 f1 (ti_t τ) (nI W) (nI (c + 1)) (nI (k + 1)) x (h_wi y1 (h_R y1 (ti_t τ) 3) (nI k).toNatClampNeg (vp_nar .boolean 1)) else none) else none) else none) = _
      rw [if_pos t1, t5, if_pos p1, p2, if_pos ((pp_ok (by omega)).mpr (by omega)), nI_clamp (by omega), ynb1]
      exact i1
theorem zk_act (h : zR R nr b v d ρs sg vl rs A les car x y τ) (hW0 : 0 < pv_W A) (hb : yb y (R * 6 + 2)) : zA R nr b v d ρs sg vl rs (pv_W A) (ti_t τ) (R * 6 + 2) y (f_l_L_act (ti_t τ) d x y) := by
  have hW := h.1.1.1
  have hh := h.1.h.1
  obtain ⟨s, y1, s1, s2, s3, s4⟩ := h.dn (n := 12) (by omega) (by omega)
  have s2' : f_l_X13_next d (12 : Int32) y = some (nI s, y1) := s2
  have hb1 : yb y1 (R * 6 + 2) := hb.g s3.1 (by omega)
  obtain ⟨t1, t2, t3, t4, t5, t6, t7⟩ := h.2.1.t0
  obtain ⟨w1, w2⟩ := h.2.1.w0
  unfold f_l_L_act
  rw [if_pos t1, t4, if_pos w1, if_pos h.2.2.1, s2', pp_b, w2]
  show zA R nr b v d ρs sg vl rs (pv_W A) (ti_t τ) (R * 6 + 2) y (if nI s ≤ 8 then (if nI (pv_W A) = 0 then f_l_L_act_74 (ti_t τ) d x y1 else (if (4 : Int32) ≤ nI s then (if h_K y1 d = 50 then Option.bind (f_l_X13_next d (nI (pv_W A)) y1) _ else none) else f_l_L_act_74 (ti_t τ) d x y1)) else (if h_K y1 d = 50 then (f_l_X13_next d 3 y1).bind fun q35 => if q35.1 = 0 then f_l_L_act_37 (ti_t τ) 6 d 1 x q35.2 else f_l_L_act_37 (ti_t τ) 2 d 1 x q35.2 else none))
  by_cases g1 : s ≤ 8
  · rw [if_pos (show nI s ≤ (8 : Int32) from nI_le (b := 8) g1 (by omega)), if_neg (nI_ne0 (by omega) (by omega))]
    by_cases g2 : 4 ≤ s
    · rw [if_pos (show (4 : Int32) ≤ nI s from nI_le (a := 4) g2 (by omega)), if_pos s4.2.2.1]
      obtain ⟨w, y2, j1, j2, j3, j4⟩ := s4.dn (n := pv_W A) hW0 (by omega)
      have hb2 : yb y2 (R * 6 + 2) := hb1.g j3.1 (by omega)
      have hU2 : zU 0 τ d y y2 := (s3.tr j3).mo (by omega)
      obtain ⟨a1, a2, a3, a4, a5, a6, a7⟩ := j4.2.1.t0
      obtain ⟨c1, c2⟩ := j4.2.1.w0
      obtain ⟨p1, p2, p3⟩ := j4.2.1.p0
      obtain ⟨r1, r2, r3⟩ := j4.2.1.hr
      have hok : g_ok (nI w) (pv_W A) = true := (pp_ok (by omega)).mpr j1
      rw [j2, pp_b]
      by_cases g3 : 6 ≤ s
      · rw [if_pos (show (6 : Int32) ≤ nI s from nI_le (a := 6) g3 (by omega))]
        by_cases g4 : s = 6
        · -- one word turned
          rw [if_pos (show nI s = (6 : Int32) by rw [g4]; rfl)]
          obtain ⟨x', e1, e2⟩ := pq_turn h.1 j1
          have hp := h.1.1.2.1 w
          have k304 : ∀ s0 : Int32, s0 = nI (1 - pv_pr A w) → zA R nr b v d ρs sg vl rs (pv_W A) (ti_t τ) (R * 6 + 2) y (f_l_L_act_304 (ti_t τ) (nI w) s0 (nI w) (ti_p τ) x y2) := by
            intro s0 hs0
            have hT2 := j4.2.1.sr (w := w) (v := 1 - pv_pr A w) (by omega)
            obtain ⟨q1, q2, q3, q4, q5, q6, q7⟩ := hT2.t0
            obtain ⟨u1, u2, u3⟩ := hT2.p0
            replace u2 : h_N (h_wi y2 (ti_p τ) w (nI (1 - pv_pr A w))) (ti_p τ) = pv_W A := u2
            refine ⟨pv_sr A w (1 - pv_pr A w), les, car, x', h_wi y2 (ti_p τ) w (nI (1 - pv_pr A w)), τ, ?_, ⟨e2, hT2, j4.2.2.1, ?_, h.2.2.2.2⟩, rfl, rfl, (ywi_G' hU2.1).mo (by omega)⟩
            · unfold f_l_L_act_304
              rw [if_pos p1, p2, if_pos hok, e1, pp_b, hs0, ynb (by omega), nI_clamp (by omega), if_pos q1, q5, if_pos u1, u2, if_pos hok, u3 w j1, pv_prr, if_pos rfl]
              exact if_pos rfl
            · exact j4.2.2.2.1.f j4.2.1 (ywi_F (Or.inr (Or.inr (Or.inl rfl))))
          show zA R nr b v d ρs sg vl rs (pv_W A) (ti_t τ) (R * 6 + 2) y (if h_K y2 (ti_t τ) = 53 then (if h_K y2 (h_R y2 (ti_t τ) 3) = 62 then (if g_ok (nI w) (h_N y2 (h_R y2 (ti_t τ) 3)) = true then (if h_I y2 (h_R y2 (ti_t τ) 3) (nI w).toNatClampNeg = 0 then f_l_L_act_304 (ti_t τ) (nI w) 1 (nI w) (h_R y2 (ti_t τ) 3) x y2 else f_l_L_act_304 (ti_t τ) (nI w) 0 (nI w) (h_R y2 (ti_t τ) 3) x y2) else none) else none) else none)
          rw [if_pos a1, a5, if_pos p1, p2, if_pos hok, nI_clamp (by omega), p3 w j1]
          by_cases hz : pv_pr A w = 0
          · rw [if_pos (by rw [hz]; rfl)]
            exact k304 1 (by rw [hz]; rfl)
          · rw [if_neg (nI_ne0 (by omega) (by omega))]
            exact k304 0 (by rw [show pv_pr A w = 1 by omega]; rfl)
        · rw [if_neg (show ¬ nI s = (6 : Int32) by rw [show (6 : Int32) = nI 6 from rfl, nI_eq (by omega) (by omega)]; exact g4)]
          by_cases g5 : s = 7
          · -- all forgotten
            rw [if_pos (show nI s = (7 : Int32) by rw [g5]; rfl)]
            obtain ⟨x', e1, e2⟩ := pq_forget h.1
            have hrm : h_rm y2 0 = true := yn_rm (k := 1) (hb2.mo (by omega)) (by omega) (by omega)
            have hG : yG 1 y2 (h_new y2 60 (fun _ => 0) (fun _ => 0) 0 0) := yn_G (by omega) (by omega)
            have h3 := j4.U (zU.n hG (yn_F _))
            have hc := j4.2.1.1.k j4.2.1.2.2.2.1.2.2.2.1.1
            have hs := j4.2.1.1.k j4.2.1.2.2.2.1.2.2.2.2.1.1
            have h4 := h3.hd (r := h_nx y2) (n := 0) (q := pv_hp A) ⟨yn_K, yn_N, by omega, h.1.h.2, fun k hk => by omega⟩ (by omega) (by omega) e2
            refine ⟨_, les, car, x', _, _, ?_, h4, rfl, rfl, (ywr_G' (hU2.1.tr hG)).mo (by omega)⟩
            show (if h_K y2 (ti_t τ) = 53 then (if h_K y2 (h_R y2 (ti_t τ) 4) = 60 then (if ¬ (0 : Int32) < 0 then (if h_rm y2 0 = true then (if h_K (h_new y2 60 (fun _ => 0) (fun _ => 0) 0 0) (ti_t τ) = 53 then Option.bind (f_X12_forget x) _ else none) else none) else none) else none) else none) = _
            rw [if_pos a1, a6, if_pos r1.1, if_pos (show ¬ (0 : Int32) < 0 by decide), if_pos hrm, if_pos h3.2.1.t0.1, e1, pp_b, r1.2.1]
            exact if_pos rfl
          · -- the needless pruned
            rw [if_neg (show ¬ nI s = (7 : Int32) by rw [show (7 : Int32) = nI 7 from rfl, nI_eq (by omega) (by omega)]; exact g5)]
            obtain ⟨x', e1, e2⟩ := pq_prune h.1
            obtain ⟨z1, z2, z3, z4⟩ := zpn (nr := nr) (pv_W A) 0 A (by omega) rfl h.1.1
            obtain ⟨y3, i1, i2, i3, i4⟩ := zk_369 (τ := τ) (les := les) (car := car) (R := R) e1 (pv_W A) g_fuel 0 0 A y2 (by omega) (by unfold g_fuel; omega) (by omega) rfl (by omega) j4.2.1
            have hWB : pv_W (pq_pn nr (pv_W A) 0 A).2 = pv_W A := by rw [z1]; rfl
            refine ⟨_, les, car, x', y3, τ, i1, ⟨e2, i2, ?_, ?_, h.2.2.2.2⟩, hWB, rfl, (hU2.1.tr i3).mo (by omega)⟩
            · rw [(i4 d (j4.2.1.1.k j4.2.2.1) (j4.2.1.kn (by have := j4.2.2.1; omega))).1]; exact j4.2.2.1
            · rw [hWB]; exact j4.2.2.2.1.f j4.2.1 i4
      · -- a word heard
        rw [if_neg (show ¬ (6 : Int32) ≤ nI s from nI_ge (b := 6) (by omega) (by omega))]
        obtain ⟨o, y3, o1, o2, o3, o4⟩ := j4.dn (n := 79) (by omega) (by omega)
        have o2' : f_l_X13_next d (79 : Int32) y2 = some (nI o, y3) := o2
        have hU3 : zU 0 τ d y y3 := (hU2.tr o3).mo (by omega)
        have hb3 : yb y3 (R * 6 + 2) := hb2.g o3.1 (by omega)
        obtain ⟨B1, hB1⟩ : ∃ q : Int32, q = nI o - 39 := ⟨_, rfl⟩
        have hBT : B1.toInt = (o : Int) - 39 := by rw [hB1, show (39 : Int32) = nI 39 from rfl, pk_sub_toInt (by omega) (by omega)]; rfl
        have h39 : (-39 : Int32).toInt = -39 := by decide
        have h39' : (39 : Int32).toInt = 39 := by decide
        obtain ⟨x', e1, e2⟩ := pq_hearWord (d := B1) h.1 j1 (fun q => by have := Int32.lt_iff_toInt_lt.mp q; omega) (Int32.le_iff_toInt_le.mpr (by omega))
        obtain ⟨b1, b2, b3, b4⟩ := o4.2.1.wd j1
        obtain ⟨y4, f1, f2, f3, f4, f5⟩ := b1.sh (d := B1) (hb3.mo (by omega)) o4.2.1.1
        have h4 := o4.U (zU.n f3 f4)
        have hc := o4.2.1.1.k o4.2.1.2.2.2.1.2.2.2.1.1
        have hs := o4.2.1.1.k o4.2.1.2.2.2.1.2.2.2.2.1.1
        have h5 := h4.hd (r := h_nx y3) f2 (by omega) (by omega) e2
        obtain ⟨q1, q2, q3, q4, q5, q6, q7⟩ := o4.2.1.t0
        obtain ⟨u1, u2⟩ := o4.2.1.w0
        refine ⟨_, les, car, x', _, _, ?_, h5, rfl, rfl, (ywr_G' (hU3.1.tr f3)).mo (by omega)⟩
        show (if h_K y2 d = 50 then Option.bind (f_l_X13_next d 79 y2) _ else none) = _
        rw [if_pos j4.2.2.1, o2', pp_b, ← hB1]
        show (if h_K y3 (ti_t τ) = 53 then (if h_K y3 (h_R y3 (ti_t τ) 2) = 63 then (if g_ok (nI w) (h_N y3 (h_R y3 (ti_t τ) 2)) = true then Option.bind (f_l_X16_shifted (h_R y3 (h_R y3 (ti_t τ) 2) (nI w).toNatClampNeg) B1.toInt64 y3) _ else none) else none) else none) = _
        rw [if_pos q1, q4, if_pos u1, u2, if_pos hok, nI_clamp (by omega), f1, pp_b]
        show (if h_K y4 (ti_t τ) = 53 then Option.bind (f_X12_hearWord (nI w) B1 x) _ else none) = _
        rw [if_pos h4.2.1.t0.1, e1, pp_b]
        show (if h_K y4 (h_R (h_wr y4 (ti_t τ) 4 (h_nx y3)) (ti_t τ) 4) = 60 then (if nI (pv_ln A w) = nI (h_N y4 (h_R (h_wr y4 (ti_t τ) 4 (h_nx y3)) (ti_t τ) 4)) then _ else _) else none) = _
        rw [ywr_R, yup1, if_pos f2.1, f2.2.1, if_pos rfl]
    · rw [if_neg (show ¬ (4 : Int32) ≤ nI s from nI_ge (b := 4) (by omega) (by omega))]
      exact (zk_74 s4 (hb1.mo (by omega))).g s3.1 (by omega)
  · rw [if_neg (show ¬ nI s ≤ (8 : Int32) from nI_ge (a := 8) (by omega) (by omega)), if_pos s4.2.2.1]
    obtain ⟨k, y2, k1, k2, k3, k4⟩ := s4.dn (n := 3) (by omega) (by omega)
    have k2' : f_l_X13_next d (3 : Int32) y1 = some (nI k, y2) := k2
    have hU2 : zU 0 τ d y y2 := (s3.tr k3).mo (by omega)
    rw [k2', pp_b]
    show zA R nr b v d ρs sg vl rs (pv_W A) (ti_t τ) (R * 6 + 2) y (if nI k = 0 then f_l_L_act_37 (ti_t τ) 6 d 1 x y2 else f_l_L_act_37 (ti_t τ) 2 d 1 x y2)
    by_cases hk : k = 0
    · rw [if_pos (by rw [hk]; rfl)]
      exact (zk_37 (s0 := 6) k4 ((hb.g hU2.1 (by omega)).mo (by omega)) (by omega)).g hU2.1 (by omega)
    · rw [if_neg (nI_ne0 (by omega) (by omega))]
      exact (zk_37 (s0 := 2) k4 ((hb.g hU2.1 (by omega)).mo (by omega)) (by omega)).g hU2.1 (by omega)
end ZAC
