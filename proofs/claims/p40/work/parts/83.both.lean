/-! class and hand beside each other; what a look or a throw of the dice leaves -/
/-- from y to z: by at most a units; only dice, cost and steps are written -/
def zU (a : Nat) (τ : TI) (d : Nat) (y z : MS) : Prop := yG a y z ∧ yF (fun i => i = d ∨ yS τ i) y z ∧ ∀ i, i < h_nx y → h_K z i = h_K y i ∧ h_N z i = h_N y i
theorem zU.tr {a c : Nat} {τ : TI} {d : Nat} {x y z : MS} (h : zU a τ d x y) (k : zU c τ d y z) : zU (a + c) τ d x z := ⟨h.1.tr k.1, h.2.1.tr k.2.1 h.1, fun i hi => by
  have h1 := h.2.2 i hi
  have h2 := k.2.2 i (Nat.lt_of_lt_of_le hi h.1.1)
  exact ⟨h2.1.trans h1.1, h2.2.trans h1.2⟩⟩
theorem zU.mo {a c : Nat} {τ : TI} {d : Nat} {x y : MS} (h : zU a τ d x y) (hc : a ≤ c) : zU c τ d x y := ⟨h.1.mo hc, h.2⟩
theorem zU.rf (τ : TI) (d : Nat) (y : MS) : zU 0 τ d y y := ⟨yG.rf y, yF.rf _ y, fun _ _ => ⟨rfl, rfl⟩⟩
theorem zU.q {τ : TI} {d : Nat} {y z : MS} (h : yQ (ti_c τ) (ti_s τ) y z) : zU 0 τ d y z := ⟨h.G, fun i _ hi => h.1 i (fun e => hi (Or.inr (Or.inl e))) (fun e => hi (Or.inr (Or.inr e))), fun i _ => ⟨by rw [h.2.2.2.1], by rw [h.2.2.2.2]⟩⟩
theorem zU.n {a : Nat} {τ : TI} {d : Nat} {y z : MS} (g : yG a y z) (h : yF (fun _ => False) y z) : zU a τ d y z := ⟨g, h.mo (fun _ _ q => q.elim), fun i hi => ⟨(h i hi (fun q => q)).1, (h i hi (fun q => q)).2.2.2⟩⟩
theorem zU.d {τ : TI} {d : Nat} {y : MS} {v : Int32} : zU 0 τ d y (h_wi y d 0 v) := ⟨ywi_G _ _ _ _, ywi_F (Or.inl rfl), fun _ _ => ⟨rfl, rfl⟩⟩
theorem zU.x {τ : TI} {d : Nat} {y : MS} : zU 1 τ d y (h_ex y 1 6) := ⟨yx_G (by omega) (by omega), yx_F _, fun _ _ => ⟨rfl, rfl⟩⟩
section ZUT
variable {A : PV} {les car : Int32} {nr R a d : Nat} {y z : MS} {τ : TI}
theorem yT.U (hT : yT A les car nr R y τ) (hd : h_K y d = 50) (h : zU a τ d y z) : yT A les car nr R z τ := by
  obtain ⟨g, hf, hk⟩ := h
  obtain ⟨hO, hA, hn, ⟨h1, h2, h3, h4, h5, h6, h7⟩, hw, hh⟩ := id hT
  have nd : ∀ {i c : Nat}, h_K y i = c → c ≠ 50 → i ≠ d := fun {i c} hi hc e => by rw [e, hd] at hi; exact hc hi.symm
  have kc := hk (ti_c τ) (hO.k h4.1)
  have ks := hk (ti_s τ) (hO.k h5.1)
  have ns : ∀ {i c : Nat}, h_K y i = c → c ≠ 60 → ¬ yS τ i := fun {i c} hi hc q => by
    rcases q with q | q
    · rw [q, h4.1] at hi; exact hc hi.symm
    · rw [q, h5.1] at hi; exact hc hi.symm
  have hz : ∀ {i c : Nat}, h_K y i = c + 1 → c + 1 ≠ 50 → c + 1 ≠ 60 → ye y z i := fun {i c} hi h50 h60 => hf i (hO.k hi) (fun q => by
    rcases q with q | q
    · exact nd hi h50 q
    · exact ns hi h60 q)
  have hrow : ∀ {i n : Nat} {p : Nat → Nat}, yr y i p n → i ≠ ti_c τ → i ≠ ti_s τ → yr z i p n := fun {i n p} hr n1 n2 => hr.e (hf i (hO.k hr.1) (fun q => by
    rcases q with q | q
    · exact nd hr.1 (by decide) q
    · rcases q with q | q
      · exact n1 q
      · exact n2 q))
  obtain ⟨t1, t2, t3, t4⟩ := hz h1.1 (by decide) (by decide)
  obtain ⟨w1, w2, w3, w4⟩ := hz h2.1 (by decide) (by decide)
  obtain ⟨p1, p2, p3, p4⟩ := hz h3.1 (by decide) (by decide)
  obtain ⟨r1, r2, r3, r4⟩ := hz h7.1 (by decide) (by decide)
  refine ⟨g.2.2.2.2 hO, hA, hn, ⟨?_, ?_, ?_, ?_, ?_, h6, ?_⟩, fun j hj => ?_, ?_⟩
  · rw [t1, t2, t3]; exact h1
  · rw [w1, w4]; exact h2
  · rw [p1, p2, p4]; exact h3
  · rw [kc.1, kc.2]; exact h4
  · rw [ks.1, ks.2]; exact h5
  · rw [r1, r4]; exact h7
  · obtain ⟨q1, q2, q3, q4⟩ := hw j hj
    rw [w3]
    exact ⟨hrow q1 q3 q4, q2, q3, q4⟩
  · exact ⟨hrow hh.1 hh.2.1 hh.2.2, hh.2⟩
end ZUT
/-- class, hand, dice, rules -/
def zR (R nr b v d : Nat) (ρs : Nat → QR) (sg : Nat → Nat) (vl : Nat → Int32) (rs : Nat → ZR) (A : PV) (les car : Int32) (x : CS) (y : MS) (τ : TI) : Prop := pq_R A les car b v R nr ρs sg vl x ∧ yT A les car nr R y τ ∧ h_K y d = 50 ∧ zhs (pv_W A) y τ R rs ∧ (∀ k, k < R → zmt sg vl (ρs k) (rs k)) ∧ R ≤ 4
section ZR1
variable {R nr b v d a : Nat} {ρs : Nat → QR} {sg : Nat → Nat} {vl : Nat → Int32} {rs : Nat → ZR} {A : PV} {les car : Int32} {x : CS} {y z : MS} {τ : TI}
theorem zR.U (h : zR R nr b v d ρs sg vl rs A les car x y τ) (hu : zU a τ d y z) : zR R nr b v d ρs sg vl rs A les car x z τ := by
  obtain ⟨h1, h2, h3, h4, h5, h6⟩ := h
  have hO := h2.1
  have r1 := h2.2.2.2.1.2.2.2.2.2.2.1
  have c1 := h2.2.2.2.1.2.2.2.1.1
  have s1 := h2.2.2.2.1.2.2.2.2.1.1
  have hz : ∀ {i c : Nat}, h_K y i = c + 1 → c + 1 ≠ 50 → c + 1 ≠ 60 → ye y z i := fun {i c} hi h50 h60 => hu.2.1 i (hO.k hi) (fun q => by
    rcases q with q | q | q
    · rw [q, h3] at hi; exact h50 hi.symm
    · rw [q, c1] at hi; exact h60 hi.symm
    · rw [q, s1] at hi; exact h60 hi.symm)
  refine ⟨h1, h2.U h3 hu, ?_, fun k hk => ?_, h5, h6⟩
  · rw [(hu.2.2 d (hO.k h3)).1]; exact h3
  · rw [(hz r1 (by decide) (by decide)).2.2.1]
    exact (h4 k hk).E ⟨fun i hi => hz hi (by decide) (by decide), fun i hi => hz hi (by decide) (by decide)⟩
theorem zR.s (h : zR R nr b v d ρs sg vl rs A les car x y τ) {x1 : CS} (hs : pp_Sc x x1) : zR R nr b v d ρs sg vl rs A les car x1 y τ := ⟨h.1.s hs, h.2⟩
theorem zR.k (h : zR R nr b v d ρs sg vl rs A les car x y τ) {x1 : CS} (hs : pq_R A les car b v R nr ρs sg vl x1) : zR R nr b v d ρs sg vl rs A les car x1 y τ := ⟨hs, h.2⟩
theorem zR.dn (h : zR R nr b v d ρs sg vl rs A les car x y τ) {n : Nat} (h0 : 0 < n) (hn : n < 2 ^ 30) : ∃ k y', k < n ∧ f_l_X13_next d (nI n) y = some (nI k, y') ∧ zU 0 τ d y y' ∧ zR R nr b v d ρs sg vl rs A les car x y' τ := by
  obtain ⟨k, w, hk, e⟩ := yd_next h.2.2.1 h0 hn
  exact ⟨k, _, hk, e, zU.d, h.U zU.d⟩
theorem zR.w (h : zR R nr b v d ρs sg vl rs A les car x y τ) : ∀ k, k < R → zwr (pv_W A) (rs k) := fun k hk => (h.2.2.2.1 k hk).w
/-- a lesson passed by both -/
theorem zR.pass (h : zR R nr b v d ρs sg vl rs A les car x y τ) (hb : yb y R) : ∃ x' y', f_X12_passLessons (1 : Int32) x = some (nI (pq_fold les sg vl ρs R A).1, x') ∧ f_l_X16_pass (ti_t τ) y = some (nI (pq_fold les sg vl ρs R A).1, y') ∧ zR R nr b v d ρs sg vl rs (pq_fold les sg vl ρs R A).2 (les + 1) (car + nI (pq_fold les sg vl ρs R A).1) x' y' τ ∧ yG R y y' ∧ yF (yTc τ) y y' := by
  obtain ⟨h1, h2, h3, h4, h5, h6⟩ := id h
  obtain ⟨x', a1, a2⟩ := pq_pass (n := 1) h1 (by omega) (by omega)
  have e1 : pq_many sg vl ρs R 1 les A = pq_fold les sg vl ρs R A := rfl
  rw [e1] at a1 a2
  obtain ⟨y', b1, b2, b3, b4⟩ := zps_ok h6 h4 h2 hb
  have e2 := zfold_eq (A := A) (les := les) h.w h5 R (Nat.le_refl _)
  rw [← e2] at b1 b2
  have hA := pq_fold2 (les := les) (sg := sg) (vl := vl) (ρs := ρs) h2.2.1 R
  refine ⟨x', y', a1, b1, ⟨a2, b2, ?_, ?_, h5, h6⟩, b4, b3⟩
  · rw [(b3 d (h2.1.k h3) (h2.kn (by omega))).1]; exact h3
  · rw [hA.2.1]; exact h4.f h2 b3
theorem zR.many (h : zR R nr b v d ρs sg vl rs A les car x y τ) {n : Nat} (h0 : 0 < n) (hn : n ≤ 20) (hb : yb y (R * n)) : ∃ x' y', f_X12_passLessons (nI n) x = some (nI (pq_many sg vl ρs R n les A).1, x') ∧ f_l_X16_pass_ (ti_t τ) (nI n) y = some (nI (pq_many sg vl ρs R n les A).1, y') ∧ zR R nr b v d ρs sg vl rs (pq_many sg vl ρs R n les A).2 (les + nI n) (car + nI (pq_many sg vl ρs R n les A).1) x' y' τ ∧ yG (R * n) y y' ∧ yF (yTc τ) y y' := by
  obtain ⟨h1, h2, h3, h4, h5, h6⟩ := id h
  obtain ⟨x', a1, a2⟩ := pq_pass (n := n) h1 h0 hn
  obtain ⟨y', b1, b2, b3, b4, b5⟩ := zpm_ok h6 (show n < 4000 by omega) hb h4 h2
  rw [← zmany_eq h.w h5] at b1 b2 b5
  refine ⟨x', y', a1, b1, ⟨a2, b2, ?_, ?_, h5, h6⟩, b4, b3⟩
  · rw [(b3 d (h2.1.k h3) (h2.kn (by omega))).1]; exact h3
  · rw [b5.1]; exact h4.f h2 b3
end ZR1
/-! what pruning the needless leaves -/
def zpr (A : PV) (f : Nat → Nat) : PV := (pv_W A, f, pv_ln A, pv_pt A, pv_hl A, pv_hp A, pv_g A)
theorem pv_nlE {A B : PV} {nr w : Nat} (h : B = zpr A (pv_pr B)) (hp : ∀ j, j ≤ w → pv_pr B j = pv_pr A j) : pv_nl B nr w = pv_nl A nr w := by
  have hne : ∀ i j, pv_ne B nr i j = pv_ne A nr i j := fun i j => by rw [h]; rfl
  have hx : ∀ d, pv_nx B nr w d = pv_nx A nr w d := by
    intro d
    induction d with
    | zero => rfl
    | succ d ih => rw [pv_nxS, pv_nxS, ih, hne, hp _ (by omega)]
  unfold pv_nl
  rw [hx, hp w (Nat.le_refl _)]
theorem pp_knE {f g : Nat → Nat} : ∀ n, (∀ j, j < n → f j = g j) → pp_kn f n = pp_kn g n := by
  intro n
  induction n with
  | zero => intro _; rfl
  | succ n ih =>
    intro h
    show pp_kn f n + (1 - f n) = pp_kn g n + (1 - g n)
    rw [ih (fun j hj => h j (by omega)), h n (by omega)]
theorem pp_knU {f g : Nat → Nat} {k : Nat} (h0 : f k = 0) (h1 : g k = 1) (h2 : ∀ j, j ≠ k → g j = f j) : ∀ n, k < n → pp_kn g n + 1 = pp_kn f n := by
  intro n
  induction n with
  | zero => intro h; omega
  | succ n ih =>
    intro h
    show pp_kn g n + (1 - g n) + 1 = pp_kn f n + (1 - f n)
    by_cases e : k = n
    · subst e
      rw [pp_knE (f := g) (g := f) k (fun j hj => h2 j (by omega)), h0, h1]
    · rw [h2 n (fun q => e q.symm), ← ih (by omega)]
      omega
theorem zpn {nr W : Nat} : ∀ d k A, k + d = W → pv_W A = W → pv_ok A → (pq_pn nr d k A).2 = zpr A (pv_pr (pq_pn nr d k A).2) ∧ (∀ j, ¬ (k ≤ j ∧ j < W) → pv_pr (pq_pn nr d k A).2 j = pv_pr A j) ∧ (∀ j, k ≤ j → j < W → pv_nl (pq_pn nr d k A).2 nr j = 0) ∧ pp_kn (pv_pr (pq_pn nr d k A).2) W + (pq_pn nr d k A).1 = pp_kn (pv_pr A) W := by
  intro d
  induction d with
  | zero =>
    intro k A hk hW hA
    exact ⟨rfl, fun j _ => rfl, fun j h1 h2 => by omega, rfl⟩
  | succ d ih =>
    intro k A hk hW hA
    by_cases hz : pv_nl A nr k = 0
    · have e : pq_pn nr (d + 1) k A = pq_pn nr d (k + 1) A := by rw [pq_pn, if_pos hz]
      rw [e]
      obtain ⟨i1, i2, i3, i4⟩ := ih (k + 1) A (by omega) hW hA
      refine ⟨i1, fun j hj => i2 j (by omega), fun j h1 h2 => ?_, i4⟩
      by_cases ej : j = k
      · rw [ej, pv_nlE i1 (fun j hj => i2 j (by omega))]; exact hz
      · exact i3 j (by omega) h2
    · have e : pq_pn nr (d + 1) k A = (1 + (pq_pn nr d (k + 1) (pv_sr A k 1)).1, (pq_pn nr d (k + 1) (pv_sr A k 1)).2) := by rw [pq_pn, if_neg hz]
      rw [e]
      obtain ⟨i1, i2, i3, i4⟩ := ih (k + 1) (pv_sr A k 1) (by omega) hW (hA.sr (by omega))
      have hpk : pv_pr A k = 0 := by
        have := hA.2.1 k
        rcases Nat.lt_or_ge 0 (pv_pr A k) with q | q
        · exfalso
          apply hz
          unfold pv_nl
          rw [if_pos (by omega)]
        · omega
      refine ⟨i1, fun j hj => ?_, fun j h1 h2 => ?_, ?_⟩
      · show pv_pr (pq_pn nr d (k + 1) (pv_sr A k 1)).2 j = pv_pr A j
        rw [i2 j (by omega), pv_prr, if_neg (by omega)]
      · show pv_nl (pq_pn nr d (k + 1) (pv_sr A k 1)).2 nr j = 0
        by_cases ej : j = k
        · rw [ej, pv_nlE i1 (fun j hj => i2 j (by omega))]
          unfold pv_nl
          rw [pv_prr, if_pos rfl, if_pos rfl]
        · exact i3 j (by omega) h2
      · show pp_kn (pv_pr (pq_pn nr d (k + 1) (pv_sr A k 1)).2) W + (1 + (pq_pn nr d (k + 1) (pv_sr A k 1)).1) = _
        have hu := pp_knU (f := pv_pr A) (g := pv_pr (pv_sr A k 1)) (k := k) hpk (by rw [pv_prr, if_pos rfl]) (fun j hj => by rw [pv_prr, if_neg hj]) W (by omega)
        omega
