/-! sums and tests, side by side -/
section EXP
variable {b v n W : Nat} {x0 xs : CS} {y0 ys : MS} {t : Nat → Nat} {T : Nat}
def pp_EX (b n W : Nat) (x0 xs : CS) (y0 ys : MS) (d : Nat) (bt : Bool) (F : CS → Option CS) (M : MS → Option (Int32 × MS)) : Prop := ∀ c k x y, pp_PO b n W x0 xs y0 ys c k d x y → ∃ x1 r y1, F x = some x1 ∧ M y = some (r, y1) ∧ ((∃ k1, k < k1 ∧ pp_PO b n W x0 xs y0 ys c k1 d x1 y1 ∧ (x1.1 162 8 = 0 → x.1 162 8 = 0 ∧ pp_SG b x x1 r bt)) ∨ pp_PW b n x0 xs y0 ys c x1 y1)
def pp_EW (b n : Nat) (x0 xs : CS) (y0 ys : MS) (F : CS → Option CS) (M : MS → Option (Int32 × MS)) : Prop := ∀ c x y, pp_PW b n x0 xs y0 ys c x y → ∃ x1 r y1, F x = some x1 ∧ M y = some (r, y1) ∧ pp_PW b n x0 xs y0 ys c x1 y1
theorem pp_PO.m {c k d : Nat} {x : CS} {y : MS} (h : pp_PO b n W x0 xs y0 ys (c + 1) k d x y) : pp_PO b n W x0 xs y0 ys c k d x y := by
  obtain ⟨h1, h2, h3, h4, Z, h5, h6, h7⟩ := h
  exact ⟨h1, h2, h3, h4, Z, h5, by omega, h7⟩
theorem pp_SG.nc {x x1 x2 : CS} {r : Int32} {bt : Bool} (h : pp_SG b x x1 r bt) (k : pp_NC b x1 x2) : pp_SG b x x2 r bt := by
  obtain ⟨Z, Z1, h1, h2, h3, h4, h5, h6, h7⟩ := h
  exact ⟨Z, Z1, h1, k.1.trans h2, h3, by rw [k.2]; exact h4, by rw [k.2]; exact h5, h6, by rw [k.2]; exact h7⟩
theorem pp_SG.pre {x x1 x2 : CS} {r : Int32} {bt : Bool} (h : pp_SG b x1 x2 r bt) (k : pp_NC b x x1) : pp_SG b x x2 r bt := by
  obtain ⟨Z, Z1, h1, h2, h3, h4, h5, h6, h7⟩ := h
  exact ⟨Z, Z1, k.1.symm.trans h1, h2, h3, by rw [← k.2]; exact h4, h5, h6, h7⟩
theorem pp_SG.f {x x1 : CS} {r : Int32} {bt : Bool} (h : pp_SG b x x1 r bt) : pp_SG b x x1 r false := by
  obtain ⟨Z, Z1, h1, h2, h3, h4, h5, h6, h7⟩ := h
  exact ⟨Z, Z1, h1, h2, h3, h4, h5, h6, fun q => (by cases q)⟩
/-- a leaf -/
theorem pp_SGl {x : CS} {Z s : Nat} {w : Int32} (hZ : x.1 b 5 = nI Z) (h4 : Z < 400) (ha : pp_ar s = 0) : pp_SG b x (pp_ax x b Z s w) (nI Z) (decide (s = 19 ∨ s = 20)) := by
  obtain ⟨a1, a2, a3, a4, a5, a6⟩ := pp_ax1 (x := x) (b := b) (Z := Z) (s := s) (w := w)
  have hup : ∀ j, j ≠ Z → va_up (x.2 (b + 3)) Z s j = x.2 (b + 3) j := fun j hj => by unfold va_up; rw [if_neg hj]
  have hupZ : va_up (x.2 (b + 3)) Z s Z = s := by unfold va_up; rw [if_pos rfl]
  refine ⟨Z, Z + 1, hZ, a4, by omega, fun i hi => by rw [a6]; exact hup i (by omega), by rw [a6]; exact pp_se.leaf (by rw [hupZ]; exact ha), rfl, fun q => ?_⟩
  rw [a6, show Z + 1 - 1 = Z by omega, hupZ]
  simp only [decide_eq_true_eq] at q
  unfold pp_bt
  omega
/-- one operand -/
theorem pp_SGu {x x1 : CS} {Z1 s : Nat} {r w : Int32} {bt : Bool} (h : pp_SG b x x1 r bt) (hZ : x1.1 b 5 = nI Z1) (h4 : Z1 < 400) (ha : pp_ar s = 1) : r = nI (Z1 - 1) ∧ (∃ S, pp_st (x1.2 (b + 3)) Z1 = (Z1 - 1) :: S) ∧ (bt = true → pp_bt (x1.2 (b + 3) (Z1 - 1))) ∧ pp_SG b x (pp_ax x1 b Z1 s w) (nI Z1) (decide (s = 21)) := by
  obtain ⟨Z, Z1', h1, h2, h3, h5, h6, h7, h8⟩ := h
  have e : Z1' = Z1 := (nI_eq (by omega) (by omega)).mp (h2.symm.trans hZ)
  subst e
  obtain ⟨a1, a2, a3, a4, a5, a6⟩ := pp_ax1 (x := x1) (b := b) (Z := Z1') (s := s) (w := w)
  have hup : ∀ j, j ≠ Z1' → va_up (x1.2 (b + 3)) Z1' s j = x1.2 (b + 3) j := fun j hj => by unfold va_up; rw [if_neg hj]
  have hupZ : va_up (x1.2 (b + 3)) Z1' s Z1' = s := by unfold va_up; rw [if_pos rfl]
  have hlt := h6.1
  refine ⟨h7, ⟨_, h6.st⟩, h8, Z, Z1' + 1, h1, a4, by omega, fun i hi => by rw [a6, hup i (by omega)]; exact h5 i hi, by rw [a6]; exact (h6.e (fun j hj => (hup j (by omega)).symm)).un (by rw [hupZ]; exact ha), rfl, fun q => ?_⟩
  rw [a6, show Z1' + 1 - 1 = Z1' by omega, hupZ]
  simp only [decide_eq_true_eq] at q
  unfold pp_bt
  omega
/-- two operands -/
theorem pp_SGb {x x1 x2 : CS} {Z2 s : Nat} {r r2 w : Int32} {bt bu : Bool} (h : pp_SG b x x1 r bt) (h' : pp_SG b x1 x2 r2 bu) (hZ : x2.1 b 5 = nI Z2) (h4 : Z2 < 400) (ha : pp_ar s = 2) (hbt : s = 22 ∨ s = 23 → bt = true ∧ bu = true) : pp_nk W (x2.2 (b + 3)) Z2 s w r r2 ∧ pp_SG b x (pp_ax x2 b Z2 s w) (nI Z2) (decide (s = 22 ∨ s = 23 ∨ (36 ≤ s ∧ s ≤ 40))) := by
  obtain ⟨Z, Z1, h1, h2, h3, h5, h6, h7, h8⟩ := h
  obtain ⟨Z1', Z2', k1, k2, k3, k5, k6, k7, k8⟩ := h'
  have l1 := h6.1
  have l2 := k6.1
  have e1 : Z1' = Z1 := (nI_eq (by omega) (by omega)).mp (k1.symm.trans h2)
  have e2 : Z2' = Z2 := (nI_eq (by omega) (by omega)).mp (k2.symm.trans hZ)
  subst e1 e2
  obtain ⟨a1, a2, a3, a4, a5, a6⟩ := pp_ax1 (x := x2) (b := b) (Z := Z2') (s := s) (w := w)
  have hup : ∀ j, j ≠ Z2' → va_up (x2.2 (b + 3)) Z2' s j = x2.2 (b + 3) j := fun j hj => by unfold va_up; rw [if_neg hj]
  have hupZ : va_up (x2.2 (b + 3)) Z2' s Z2' = s := by unfold va_up; rw [if_pos rfl]
  have h6' : pp_se (x2.2 (b + 3)) Z Z1' := h6.e (fun j hj => (k5 j hj).symm)
  refine ⟨Or.inr (Or.inr ⟨Z1' - 1, Z2' - 1, _, ha, pp_se.st2 h6' k6, h7, k7, fun q => ?_⟩), Z, Z2' + 1, h1, a4, by omega, fun i hi => ?_, ?_, rfl, fun q => ?_⟩
  · obtain ⟨q1, q2⟩ := hbt q
    exact ⟨by rw [k5 _ (by omega)]; exact h8 q1, k8 q2⟩
  · rw [a6, hup i (by omega), k5 i (by omega)]; exact h5 i hi
  · rw [a6]
    exact pp_se.bi (h6'.e (fun j hj => (hup j (by omega)).symm)) (k6.e (fun j hj => (hup j (by omega)).symm)) (by rw [hupZ]; exact ha)
  · rw [a6, show Z2' + 1 - 1 = Z2' by omega, hupZ]
    simp only [decide_eq_true_eq] at q
    unfold pp_bt
    omega
/-- a sign that joins, and what stands behind it -/
theorem pp_bin {c k d s : Nat} {x xb : CS} {y : MS} {r : Int32} {bl bu : Bool} {opC : CS → Option CS} {opM : MS → Option (Int32 × MS)} (hX : pp_CX b v n W x0 xs y0 ys t T) (h : pp_PO b n W x0 xs y0 ys c k d x y) (hsk : x0.2 4 k = s) (ha : pp_ar s = 2) (hL : x.1 162 8 = 0 → xb.1 162 8 = 0 ∧ pp_SG b xb x r bl) (hop : pp_EX b n W x0 xs y0 ys d bu opC opM) (hbt : s = 22 ∨ s = 23 → bl = true ∧ bu = true) : ∃ x1 x2 x3 r2 r3 y2 y3, f_X2_step x = some x1 ∧ opC x1 = some x2 ∧ x2.2 162 1 = b ∧ f_X5_addSign b s 0 x2 = some x3 ∧ opM (g_mi y 120 8 (y 120 8 + 1)) = some (r2, y2) ∧ f_X15_node (nI (pp_tr s)) r r2 y2 = some (r3, y3) ∧ ((∃ k3, k + 1 < k3 ∧ pp_PO b n W x0 xs y0 ys c k3 d x3 y3 ∧ (x3.1 162 8 = 0 → xb.1 162 8 = 0 ∧ pp_SG b xb x3 r3 (decide (s = 22 ∨ s = 23 ∨ (36 ≤ s ∧ s ≤ 40))))) ∨ pp_PW b n x0 xs y0 ys c x3 y3) := by
  have hb := hX.1
  have h2 := pp_ar2 ha
  obtain ⟨s1, s2, s3, s4⟩ := pp_stp hX h (by omega) (by omega)
  have hnc : pp_NC b x (pp_sx x (k + 1)) := ⟨by rw [pp_sx1.1 b (by omega)], pp_sx1.2.1 _ (by omega)⟩
  obtain ⟨x2, r2, y2, o1, o2, o3⟩ := hop _ _ _ _ s2
  rcases o3 with ⟨k3, k31, k32, k33⟩ | hw
  · obtain ⟨x3, y3, Z, n1, n2, n3, n4, n5⟩ := pp_nodO (s := s) (w := 0) (l := r) (r := r2) hX k32 (by omega) (fun Z q1 q2 q3 => by
      obtain ⟨u1, u2⟩ := k33 q1
      obtain ⟨-, w2⟩ := hL (s3.symm.trans u1)
      exact (pp_SGb (W := W) (s := s) (w := 0) (w2.nc hnc) u2 q2 q3 ha hbt).1)
    refine ⟨_, x2, x3, r2, nI Z, y2, y3, s1, o1, (pp_POr hX k32).1, n1, o2, n2, Or.inl ⟨k3, k31, n3, fun q => ?_⟩⟩
    rw [n4] at q
    obtain ⟨u1, u2⟩ := k33 q
    obtain ⟨w1, w2⟩ := hL (s3.symm.trans u1)
    obtain ⟨q1, q2, q3⟩ := n5 q
    refine ⟨w1, ?_⟩
    rw [q2]
    exact (pp_SGb (W := W) (s := s) (w := 0) (w2.nc hnc) u2 q1 q3 ha hbt).2
  · obtain ⟨x3, y3, q, n1, n2, n3⟩ := pp_nodW (s := s) (w := 0) (l := r) (r := r2) (u := nI (pp_tr s)) hX hw (by omega)
    exact ⟨_, x2, x3, r2, q, y2, y3, s1, o1, (pp_PWr hX hw).1, n1, o2, n2, Or.inr n3⟩
theorem pp_prdL {val : Int32 → CS → Option CS} {vM : MS → Option (Int32 × MS)} {d : Nat} (hX : pp_CX b v n W x0 xs y0 ys t T) (hop : pp_EX b n W x0 xs y0 ys d false (val (nI d)) (vM)) : ∀ m fc fm i k c x y r xb, m = n - k → m < fc → m < fm → i < k → pp_PO b n W x0 xs y0 ys c k d x y → (x.1 162 8 = 0 → xb.1 162 8 = 0 ∧ pp_SG b xb x r false) → ∃ x1 r1 y1, f_X2_readProduct_7 val fc (nI d) (nI i) x = some x1 ∧ f_X15_product_5 vM fm r y = some (r1, y1) ∧ ((∃ k1, k ≤ k1 ∧ pp_PO b n W x0 xs y0 ys c k1 d x1 y1 ∧ (x1.1 162 8 = 0 → xb.1 162 8 = 0 ∧ pp_SG b xb x1 r1 false)) ∨ pp_PW b n x0 xs y0 ys c x1 y1) := by
  intro m
  induction m using Nat.strongRecOn with
  | ind m ih =>
    intro fc fm i k c x y r xb hm hfc hfm hik hP hL
    obtain ⟨f1, rfl⟩ : ∃ fu, fc = fu + 1 := ⟨fc - 1, by omega⟩
    obtain ⟨f2, rfl⟩ : ∃ fu, fm = fu + 1 := ⟨fm - 1, by omega⟩
    have hn := hX.2.2.1.1
    obtain ⟨p1, p2, p3, p4⟩ := pp_POk hP
    obtain ⟨r1, r2, r3⟩ := pp_POr hX hP
    have i1 := pp_isP (s := 34) hX hP (by omega)
    have i2 := pp_isP (s := 35) hX hP (by omega)
    have h400 : ¬ (400 : Int32) ≤ nI i := nI_ge (b := 400) (by omega) (by omega)
    rw [f_X2_readProduct_7, if_neg h400, r3, f_X15_product_5, show (42 : Int32) = nI (pp_tr 34) from rfl, i1, pp_b, pp_if1, show (43 : Int32) = nI (pp_tr 35) from rfl, i2, pp_b, pp_if1]
    have hgo : ∀ s, (s = 34 ∨ s = 35) → x0.2 4 k = s → ∃ x1 r1 y1, f_X2_readProduct_34 val (f_X2_readProduct_7 val f1) (nI d) (nI i) x = some x1 ∧ f_X15_product_23 vM (f_X15_product_5 vM f2) r y = some (r1, y1) ∧ ((∃ k1, k ≤ k1 ∧ pp_PO b n W x0 xs y0 ys c k1 d x1 y1 ∧ (x1.1 162 8 = 0 → xb.1 162 8 = 0 ∧ pp_SG b xb x1 r1 false)) ∨ pp_PW b n x0 xs y0 ys c x1 y1) := by
      intro s hs hsk
      have ha : pp_ar s = 2 := by rcases hs with rfl | rfl <;> rfl
      obtain ⟨x1, x2, x3, r2, r3', y2, y3, b1, b2, b3, b4, b5, b6, b7⟩ := pp_bin hX hP hsk ha hL hop (fun q => by omega)
      have hkn : k < n := (pp_stp hX hP (by omega) (by omega)).2.2.2
      have hkind : y 122 k = nI (pp_tr s) := by
        obtain ⟨-, hC, -⟩ := hP
        rw [hC.2.2.2.2.1, (pp_sg46 hX.2.2.1 p1).2, hsk]
      have hok := (pp_ok (k := k) (n := 402) (by omega)).mpr (by omega)
      unfold f_X2_readProduct_34 f_X15_product_23
      rw [b1, pp_b]
      rw [show val (nI d) x1 = some x2 from b2, pp_b, b3, if_pos (pp_k7 hX.1), r3, hsk, b4, pp_b, p2, if_pos hok, nI_clamp (by omega), hkind, nI_1, nI_1]
      rw [p2, nI_1] at b5
      rw [show vM (g_mi y 120 8 (nI (k + 1))) = some (r2, y2) from b5, pp_b]
      show ∃ x1 r1 y1, _ ∧ Option.bind (f_X15_node (nI (pp_tr s)) r r2 y2) _ = _ ∧ _
      rw [b6, pp_b]
      rcases b7 with ⟨k3, k31, k32, k33⟩ | hw
      · have hk3n := (pp_POk k32).1
        obtain ⟨x4, r4, y4, j1, j2, j3⟩ := ih (n - k3) (by omega) f1 f2 (i + 1) k3 c x3 y3 r3' xb rfl (by omega) (by omega) (by omega) k32 (fun q => ⟨(k33 q).1, (k33 q).2.f⟩)
        refine ⟨x4, r4, y4, j1, j2, ?_⟩
        rcases j3 with ⟨k4, k41, k42⟩ | hw
        · exact Or.inl ⟨k4, by omega, k42⟩
        · exact Or.inr hw
      · obtain ⟨q1, q2, q3, q4, q5⟩ := pp_PWr hX hw
        obtain ⟨f3, rfl⟩ : ∃ fu, f1 = fu + 1 := ⟨f1 - 1, by omega⟩
        obtain ⟨f4, rfl⟩ : ∃ fu, f2 = fu + 1 := ⟨f2 - 1, by omega⟩
        refine ⟨x3, r3', y3, ?_, ?_, Or.inr hw⟩
        · rw [f_X2_readProduct_7]
          split
          · rfl
          · rw [q3, if_neg (by decide), if_neg (by decide)]
        · rw [f_X15_product_5, pp_isW q5, pp_b, if_pos rfl, pp_isW q5, pp_b, if_pos rfl]
    by_cases e1 : x0.2 4 k = 34
    · rw [if_pos e1, if_pos (decide_eq_true e1)]
      exact hgo 34 (Or.inl rfl) e1
    · rw [if_neg e1, if_neg (show ¬ decide (x0.2 4 k = 34) = true by rw [decide_eq_false e1]; decide)]
      by_cases e2 : x0.2 4 k = 35
      · rw [if_pos e2, if_pos (decide_eq_true e2)]
        exact hgo 35 (Or.inr rfl) e2
      · rw [if_neg e2, if_neg (show ¬ decide (x0.2 4 k = 35) = true by rw [decide_eq_false e2]; decide)]
        exact ⟨x, r, y, rfl, rfl, Or.inl ⟨k, Nat.le_refl _, hP, hL⟩⟩
theorem pp_prdW {val : Int32 → CS → Option CS} {vM : MS → Option (Int32 × MS)} {c : Nat} {x : CS} {y : MS} {p r : Int32} (hX : pp_CX b v n W x0 xs y0 ys t T) (hw : pp_PW b n x0 xs y0 ys c x y) (h1 : val p x = some x) (h2 : vM y = some (r, y)) : f_X2_readProduct val p x = some x ∧ f_X15_product vM y = some (r, y) := by
  obtain ⟨q1, q2, q3, q4, q5⟩ := pp_PWr hX hw
  constructor
  · unfold f_X2_readProduct
    rw [h1, pp_b, show g_fuel = 4095 + 1 from rfl, f_X2_readProduct_7, if_neg (by decide), q3, if_neg (by decide), if_neg (by decide)]
  · unfold f_X15_product
    rw [h2, pp_b, show g_fuel = 4095 + 1 from rfl, f_X15_product_5, pp_isW q5, pp_b, if_pos rfl, pp_isW q5, pp_b, if_pos rfl]
theorem pp_prd {val : Int32 → CS → Option CS} {vM : MS → Option (Int32 × MS)} {d : Nat} (hX : pp_CX b v n W x0 xs y0 ys t T) (hop : pp_EX b n W x0 xs y0 ys d false (val (nI d)) (vM)) : pp_EX b n W x0 xs y0 ys d false (f_X2_readProduct val (nI d)) (f_X15_product vM) := by
  intro c k x y hP
  have hn := hX.2.2.1.1
  obtain ⟨x1, r, y1, o1, o2, o3⟩ := hop c k x y hP
  unfold f_X2_readProduct f_X15_product
  rw [o1, pp_b, o2, pp_b]
  rcases o3 with ⟨k1, k11, k12, k13⟩ | hw
  · obtain ⟨x2, r2, y2, j1, j2, j3⟩ := pp_prdL hX hop (n - k1) g_fuel g_fuel 0 k1 c x1 y1 r x rfl (by unfold g_fuel; omega) (by unfold g_fuel; omega) (by omega) k12 k13
    refine ⟨x2, r2, y2, j1, j2, ?_⟩
    rcases j3 with ⟨k2, k21, k22⟩ | hw
    · exact Or.inl ⟨k2, by omega, k22⟩
    · exact Or.inr hw
  · obtain ⟨q1, q2, q3, q4, q5⟩ := pp_PWr hX hw
    refine ⟨x1, r, y1, ?_, ?_, Or.inr hw⟩
    · rw [show g_fuel = 4095 + 1 from rfl, f_X2_readProduct_7, if_neg (by decide), q3, if_neg (by decide), if_neg (by decide)]
    · rw [show g_fuel = 4095 + 1 from rfl, f_X15_product_5, pp_isW q5, pp_b, if_pos rfl, pp_isW q5, pp_b, if_pos rfl]
theorem pp_sumL {val : Int32 → CS → Option CS} {vM : MS → Option (Int32 × MS)} {d : Nat} (hX : pp_CX b v n W x0 xs y0 ys t T) (hop : pp_EX b n W x0 xs y0 ys d false (f_X2_readProduct val (nI d)) (f_X15_product vM)) : ∀ m fc fm i k c x y r xb, m = n - k → m < fc → m < fm → i < k → pp_PO b n W x0 xs y0 ys c k d x y → (x.1 162 8 = 0 → xb.1 162 8 = 0 ∧ pp_SG b xb x r false) → ∃ x1 r1 y1, f_X2_readSum_7 val fc (nI d) (nI i) x = some x1 ∧ f_X15_sum_5 vM fm r y = some (r1, y1) ∧ ((∃ k1, k ≤ k1 ∧ pp_PO b n W x0 xs y0 ys c k1 d x1 y1 ∧ (x1.1 162 8 = 0 → xb.1 162 8 = 0 ∧ pp_SG b xb x1 r1 false)) ∨ pp_PW b n x0 xs y0 ys c x1 y1) := by
  intro m
  induction m using Nat.strongRecOn with
  | ind m ih =>
    intro fc fm i k c x y r xb hm hfc hfm hik hP hL
    obtain ⟨f1, rfl⟩ : ∃ fu, fc = fu + 1 := ⟨fc - 1, by omega⟩
    obtain ⟨f2, rfl⟩ : ∃ fu, fm = fu + 1 := ⟨fm - 1, by omega⟩
    have hn := hX.2.2.1.1
    obtain ⟨p1, p2, p3, p4⟩ := pp_POk hP
    obtain ⟨r1, r2, r3⟩ := pp_POr hX hP
    have i1 := pp_isP (s := 32) hX hP (by omega)
    have i2 := pp_isP (s := 33) hX hP (by omega)
    have h400 : ¬ (400 : Int32) ≤ nI i := nI_ge (b := 400) (by omega) (by omega)
    rw [f_X2_readSum_7, if_neg h400, r3, f_X15_sum_5, show (40 : Int32) = nI (pp_tr 32) from rfl, i1, pp_b, pp_if1, show (41 : Int32) = nI (pp_tr 33) from rfl, i2, pp_b, pp_if1]
    have hgo : ∀ s, (s = 32 ∨ s = 33) → x0.2 4 k = s → ∃ x1 r1 y1, f_X2_readSum_34 val (f_X2_readSum_7 val f1) (nI d) (nI i) x = some x1 ∧ f_X15_sum_23 vM (f_X15_sum_5 vM f2) r y = some (r1, y1) ∧ ((∃ k1, k ≤ k1 ∧ pp_PO b n W x0 xs y0 ys c k1 d x1 y1 ∧ (x1.1 162 8 = 0 → xb.1 162 8 = 0 ∧ pp_SG b xb x1 r1 false)) ∨ pp_PW b n x0 xs y0 ys c x1 y1) := by
      intro s hs hsk
      have ha : pp_ar s = 2 := by rcases hs with rfl | rfl <;> rfl
      obtain ⟨x1, x2, x3, r2, r3', y2, y3, b1, b2, b3, b4, b5, b6, b7⟩ := pp_bin hX hP hsk ha hL hop (fun q => by omega)
      have hkn : k < n := (pp_stp hX hP (by omega) (by omega)).2.2.2
      have hkind : y 122 k = nI (pp_tr s) := by
        obtain ⟨-, hC, -⟩ := hP
        rw [hC.2.2.2.2.1, (pp_sg46 hX.2.2.1 p1).2, hsk]
      have hok := (pp_ok (k := k) (n := 402) (by omega)).mpr (by omega)
      unfold f_X2_readSum_34 f_X15_sum_23
      rw [b1, pp_b]
      rw [show f_X2_readProduct val (nI d) x1 = some x2 from b2, pp_b, b3, if_pos (pp_k7 hX.1), r3, hsk, b4, pp_b, p2, if_pos hok, nI_clamp (by omega), hkind, nI_1, nI_1]
      rw [p2, nI_1] at b5
      rw [show f_X15_product vM (g_mi y 120 8 (nI (k + 1))) = some (r2, y2) from b5, pp_b]
      show ∃ x1 r1 y1, _ ∧ Option.bind (f_X15_node (nI (pp_tr s)) r r2 y2) _ = _ ∧ _
      rw [b6, pp_b]
      rcases b7 with ⟨k3, k31, k32, k33⟩ | hw
      · have hk3n := (pp_POk k32).1
        obtain ⟨x4, r4, y4, j1, j2, j3⟩ := ih (n - k3) (by omega) f1 f2 (i + 1) k3 c x3 y3 r3' xb rfl (by omega) (by omega) (by omega) k32 (fun q => ⟨(k33 q).1, (k33 q).2.f⟩)
        refine ⟨x4, r4, y4, j1, j2, ?_⟩
        rcases j3 with ⟨k4, k41, k42⟩ | hw
        · exact Or.inl ⟨k4, by omega, k42⟩
        · exact Or.inr hw
      · obtain ⟨q1, q2, q3, q4, q5⟩ := pp_PWr hX hw
        obtain ⟨f3, rfl⟩ : ∃ fu, f1 = fu + 1 := ⟨f1 - 1, by omega⟩
        obtain ⟨f4, rfl⟩ : ∃ fu, f2 = fu + 1 := ⟨f2 - 1, by omega⟩
        refine ⟨x3, r3', y3, ?_, ?_, Or.inr hw⟩
        · rw [f_X2_readSum_7]
          split
          · rfl
          · rw [q3, if_neg (by decide), if_neg (by decide)]
        · rw [f_X15_sum_5, pp_isW q5, pp_b, if_pos rfl, pp_isW q5, pp_b, if_pos rfl]
    by_cases e1 : x0.2 4 k = 32
    · rw [if_pos e1, if_pos (decide_eq_true e1)]
      exact hgo 32 (Or.inl rfl) e1
    · rw [if_neg e1, if_neg (show ¬ decide (x0.2 4 k = 32) = true by rw [decide_eq_false e1]; decide)]
      by_cases e2 : x0.2 4 k = 33
      · rw [if_pos e2, if_pos (decide_eq_true e2)]
        exact hgo 33 (Or.inr rfl) e2
      · rw [if_neg e2, if_neg (show ¬ decide (x0.2 4 k = 33) = true by rw [decide_eq_false e2]; decide)]
        exact ⟨x, r, y, rfl, rfl, Or.inl ⟨k, Nat.le_refl _, hP, hL⟩⟩
theorem pp_sumW {val : Int32 → CS → Option CS} {vM : MS → Option (Int32 × MS)} {c : Nat} {x : CS} {y : MS} {p r : Int32} (hX : pp_CX b v n W x0 xs y0 ys t T) (hw : pp_PW b n x0 xs y0 ys c x y) (h1 : f_X2_readProduct val p x = some x) (h2 : f_X15_product vM y = some (r, y)) : f_X2_readSum val p x = some x ∧ f_X15_sum vM y = some (r, y) := by
  obtain ⟨q1, q2, q3, q4, q5⟩ := pp_PWr hX hw
  constructor
  · unfold f_X2_readSum
    rw [h1, pp_b, show g_fuel = 4095 + 1 from rfl, f_X2_readSum_7, if_neg (by decide), q3, if_neg (by decide), if_neg (by decide)]
  · unfold f_X15_sum
    rw [h2, pp_b, show g_fuel = 4095 + 1 from rfl, f_X15_sum_5, pp_isW q5, pp_b, if_pos rfl, pp_isW q5, pp_b, if_pos rfl]
theorem pp_sum {val : Int32 → CS → Option CS} {vM : MS → Option (Int32 × MS)} {d : Nat} (hX : pp_CX b v n W x0 xs y0 ys t T) (hop : pp_EX b n W x0 xs y0 ys d false (f_X2_readProduct val (nI d)) (f_X15_product vM)) : pp_EX b n W x0 xs y0 ys d false (f_X2_readSum val (nI d)) (f_X15_sum vM) := by
  intro c k x y hP
  have hn := hX.2.2.1.1
  obtain ⟨x1, r, y1, o1, o2, o3⟩ := hop c k x y hP
  unfold f_X2_readSum f_X15_sum
  rw [o1, pp_b, o2, pp_b]
  rcases o3 with ⟨k1, k11, k12, k13⟩ | hw
  · obtain ⟨x2, r2, y2, j1, j2, j3⟩ := pp_sumL hX hop (n - k1) g_fuel g_fuel 0 k1 c x1 y1 r x rfl (by unfold g_fuel; omega) (by unfold g_fuel; omega) (by omega) k12 k13
    refine ⟨x2, r2, y2, j1, j2, ?_⟩
    rcases j3 with ⟨k2, k21, k22⟩ | hw
    · exact Or.inl ⟨k2, by omega, k22⟩
    · exact Or.inr hw
  · obtain ⟨q1, q2, q3, q4, q5⟩ := pp_PWr hX hw
    refine ⟨x1, r, y1, ?_, ?_, Or.inr hw⟩
    · rw [show g_fuel = 4095 + 1 from rfl, f_X2_readSum_7, if_neg (by decide), q3, if_neg (by decide), if_neg (by decide)]
    · rw [show g_fuel = 4095 + 1 from rfl, f_X15_sum_5, pp_isW q5, pp_b, if_pos rfl, pp_isW q5, pp_b, if_pos rfl]
theorem pp_bthL {val : Int32 → CS → Option CS} {vM : MS → Option (Int32 × MS)} {d : Nat} (hX : pp_CX b v n W x0 xs y0 ys t T) (hop : pp_EX b n W x0 xs y0 ys d true (val (nI d)) (vM)) : ∀ m fc fm i k c x y r xb, m = n - k → m < fc → m < fm → i < k → pp_PO b n W x0 xs y0 ys c k d x y → (x.1 162 8 = 0 → xb.1 162 8 = 0 ∧ pp_SG b xb x r true) → ∃ x1 r1 y1, f_X2_readBoth_7 val fc (nI d) (nI i) x = some x1 ∧ f_X15_both_5 vM fm r y = some (r1, y1) ∧ ((∃ k1, k ≤ k1 ∧ pp_PO b n W x0 xs y0 ys c k1 d x1 y1 ∧ (x1.1 162 8 = 0 → xb.1 162 8 = 0 ∧ pp_SG b xb x1 r1 true)) ∨ pp_PW b n x0 xs y0 ys c x1 y1) := by
  intro m
  induction m using Nat.strongRecOn with
  | ind m ih =>
    intro fc fm i k c x y r xb hm hfc hfm hik hP hL
    obtain ⟨f1, rfl⟩ : ∃ fu, fc = fu + 1 := ⟨fc - 1, by omega⟩
    obtain ⟨f2, rfl⟩ : ∃ fu, fm = fu + 1 := ⟨fm - 1, by omega⟩
    have hn := hX.2.2.1.1
    obtain ⟨p1, p2, p3, p4⟩ := pp_POk hP
    obtain ⟨r1, r2, r3⟩ := pp_POr hX hP
    have i1 := pp_isP (s := 22) hX hP (by omega)
    have h400 : ¬ (400 : Int32) ≤ nI i := nI_ge (b := 400) (by omega) (by omega)
    have htk : f_X15_takes 22 y = (if decide (x0.2 4 k = 22) = true then some (1, g_mi y 120 8 (y 120 8 + 1)) else some (0, y)) := by
      unfold f_X15_takes
      rw [show (22 : Int32) = nI (pp_tr 22) from rfl, i1, pp_b, pp_if1]
    rw [f_X2_readBoth_7, if_neg h400, r3, f_X15_both_5, htk]
    by_cases e1 : x0.2 4 k = 22
    · rw [if_pos e1, if_pos (decide_eq_true e1), pp_b]
      have hkn : k < n := (pp_stp hX hP (by omega) (by omega)).2.2.2
      obtain ⟨x1, x2, x3, r2, r3', y2, y3, b1, b2, b3, b4, b5, b6, b7⟩ := pp_bin hX hP e1 rfl hL hop (fun _ => ⟨rfl, rfl⟩)
      rw [b1, pp_b]
      rw [show val (nI d) x1 = some x2 from b2, pp_b, b3, if_pos (pp_k7 hX.1), b4, pp_b, nI_1]
      show ∃ x1 r1 y1, _ ∧ (if (1 : Int32) = 0 then _ else Option.bind (vM (g_mi y 120 8 (y 120 8 + 1))) _) = _ ∧ _
      rw [if_neg (by decide), b5, pp_b]
      show ∃ x1 r1 y1, _ ∧ Option.bind (f_X15_node 22 r r2 y2) _ = _ ∧ _
      rw [show f_X15_node 22 r r2 y2 = some (r3', y3) from b6, pp_b]
      rcases b7 with ⟨k3, k31, k32, k33⟩ | hw
      · have hk3n := (pp_POk k32).1
        obtain ⟨x4, r4, y4, j1, j2, j3⟩ := ih (n - k3) (by omega) f1 f2 (i + 1) k3 c x3 y3 r3' xb rfl (by omega) (by omega) (by omega) k32 k33
        refine ⟨x4, r4, y4, j1, j2, ?_⟩
        rcases j3 with ⟨k4, k41, k42⟩ | hw
        · exact Or.inl ⟨k4, by omega, k42⟩
        · exact Or.inr hw
      · obtain ⟨q1, q2, q3, q4, q5⟩ := pp_PWr hX hw
        obtain ⟨f3, rfl⟩ : ∃ fu, f1 = fu + 1 := ⟨f1 - 1, by omega⟩
        obtain ⟨f4, rfl⟩ : ∃ fu, f2 = fu + 1 := ⟨f2 - 1, by omega⟩
        refine ⟨x3, r3', y3, ?_, ?_, Or.inr hw⟩
        · rw [f_X2_readBoth_7]
          split
          · rfl
          · rw [q3, if_neg (by decide)]
        · rw [f_X15_both_5, pp_takesW q5, pp_b, if_pos rfl]
    · rw [if_neg e1, if_neg (show ¬ decide (x0.2 4 k = 22) = true by rw [decide_eq_false e1]; decide), pp_b]
      exact ⟨x, r, y, rfl, rfl, Or.inl ⟨k, Nat.le_refl _, hP, hL⟩⟩
theorem pp_bthW {val : Int32 → CS → Option CS} {vM : MS → Option (Int32 × MS)} {p : Int32} (hX : pp_CX b v n W x0 xs y0 ys t T) (hop : pp_EW b n x0 xs y0 ys (val p) (vM)) : pp_EW b n x0 xs y0 ys (f_X2_readBoth val p) (f_X15_both vM) := by
  intro c x y hP
  obtain ⟨x1, r, y1, o1, o2, hw⟩ := hop c x y hP
  obtain ⟨q1, q2, q3, q4, q5⟩ := pp_PWr hX hw
  refine ⟨x1, r, y1, ?_, ?_, hw⟩
  · unfold f_X2_readBoth
    rw [o1, pp_b, show g_fuel = 4095 + 1 from rfl, f_X2_readBoth_7, if_neg (by decide), q3, if_neg (by decide)]
  · unfold f_X15_both
    rw [o2, pp_b, show g_fuel = 4095 + 1 from rfl, f_X15_both_5, pp_takesW q5, pp_b, if_pos rfl]
theorem pp_bth {val : Int32 → CS → Option CS} {vM : MS → Option (Int32 × MS)} {d : Nat} (hX : pp_CX b v n W x0 xs y0 ys t T) (hop : pp_EX b n W x0 xs y0 ys d true (val (nI d)) (vM)) : pp_EX b n W x0 xs y0 ys d true (f_X2_readBoth val (nI d)) (f_X15_both vM) := by
  intro c k x y hP
  have hn := hX.2.2.1.1
  obtain ⟨x1, r, y1, o1, o2, o3⟩ := hop c k x y hP
  unfold f_X2_readBoth f_X15_both
  rw [o1, pp_b, o2, pp_b]
  rcases o3 with ⟨k1, k11, k12, k13⟩ | hw
  · obtain ⟨x2, r2, y2, j1, j2, j3⟩ := pp_bthL hX hop (n - k1) g_fuel g_fuel 0 k1 c x1 y1 r x rfl (by unfold g_fuel; omega) (by unfold g_fuel; omega) (by omega) k12 k13
    refine ⟨x2, r2, y2, j1, j2, ?_⟩
    rcases j3 with ⟨k2, k21, k22⟩ | hw
    · exact Or.inl ⟨k2, by omega, k22⟩
    · exact Or.inr hw
  · obtain ⟨q1, q2, q3, q4, q5⟩ := pp_PWr hX hw
    refine ⟨x1, r, y1, ?_, ?_, Or.inr hw⟩
    · rw [show g_fuel = 4095 + 1 from rfl, f_X2_readBoth_7, if_neg (by decide), q3, if_neg (by decide)]
    · rw [show g_fuel = 4095 + 1 from rfl, f_X15_both_5, pp_takesW q5, pp_b, if_pos rfl]
theorem pp_tstL {val : Int32 → CS → Option CS} {vM : MS → Option (Int32 × MS)} {d : Nat} (hX : pp_CX b v n W x0 xs y0 ys t T) (hop : pp_EX b n W x0 xs y0 ys d true (f_X2_readBoth val (nI d)) (f_X15_both vM)) : ∀ m fc fm i k c x y r xb, m = n - k → m < fc → m < fm → i < k → pp_PO b n W x0 xs y0 ys c k d x y → (x.1 162 8 = 0 → xb.1 162 8 = 0 ∧ pp_SG b xb x r true) → ∃ x1 r1 y1, f_X2_readTest_7 val fc (nI d) (nI i) x = some x1 ∧ f_X15_test_5 vM fm r y = some (r1, y1) ∧ ((∃ k1, k ≤ k1 ∧ pp_PO b n W x0 xs y0 ys c k1 d x1 y1 ∧ (x1.1 162 8 = 0 → xb.1 162 8 = 0 ∧ pp_SG b xb x1 r1 true)) ∨ pp_PW b n x0 xs y0 ys c x1 y1) := by
  intro m
  induction m using Nat.strongRecOn with
  | ind m ih =>
    intro fc fm i k c x y r xb hm hfc hfm hik hP hL
    obtain ⟨f1, rfl⟩ : ∃ fu, fc = fu + 1 := ⟨fc - 1, by omega⟩
    obtain ⟨f2, rfl⟩ : ∃ fu, fm = fu + 1 := ⟨fm - 1, by omega⟩
    have hn := hX.2.2.1.1
    obtain ⟨p1, p2, p3, p4⟩ := pp_POk hP
    obtain ⟨r1, r2, r3⟩ := pp_POr hX hP
    have i1 := pp_isP (s := 23) hX hP (by omega)
    have h400 : ¬ (400 : Int32) ≤ nI i := nI_ge (b := 400) (by omega) (by omega)
    have htk : f_X15_takes 23 y = (if decide (x0.2 4 k = 23) = true then some (1, g_mi y 120 8 (y 120 8 + 1)) else some (0, y)) := by
      unfold f_X15_takes
      rw [show (23 : Int32) = nI (pp_tr 23) from rfl, i1, pp_b, pp_if1]
    rw [f_X2_readTest_7, if_neg h400, r3, f_X15_test_5, htk]
    by_cases e1 : x0.2 4 k = 23
    · rw [if_pos e1, if_pos (decide_eq_true e1), pp_b]
      have hkn : k < n := (pp_stp hX hP (by omega) (by omega)).2.2.2
      obtain ⟨x1, x2, x3, r2, r3', y2, y3, b1, b2, b3, b4, b5, b6, b7⟩ := pp_bin hX hP e1 rfl hL hop (fun _ => ⟨rfl, rfl⟩)
      rw [b1, pp_b]
      rw [show f_X2_readBoth val (nI d) x1 = some x2 from b2, pp_b, b3, if_pos (pp_k7 hX.1), b4, pp_b, nI_1]
      show ∃ x1 r1 y1, _ ∧ (if (1 : Int32) = 0 then _ else Option.bind (f_X15_both vM (g_mi y 120 8 (y 120 8 + 1))) _) = _ ∧ _
      rw [if_neg (by decide), b5, pp_b]
      show ∃ x1 r1 y1, _ ∧ Option.bind (f_X15_node 23 r r2 y2) _ = _ ∧ _
      rw [show f_X15_node 23 r r2 y2 = some (r3', y3) from b6, pp_b]
      rcases b7 with ⟨k3, k31, k32, k33⟩ | hw
      · have hk3n := (pp_POk k32).1
        obtain ⟨x4, r4, y4, j1, j2, j3⟩ := ih (n - k3) (by omega) f1 f2 (i + 1) k3 c x3 y3 r3' xb rfl (by omega) (by omega) (by omega) k32 k33
        refine ⟨x4, r4, y4, j1, j2, ?_⟩
        rcases j3 with ⟨k4, k41, k42⟩ | hw
        · exact Or.inl ⟨k4, by omega, k42⟩
        · exact Or.inr hw
      · obtain ⟨q1, q2, q3, q4, q5⟩ := pp_PWr hX hw
        obtain ⟨f3, rfl⟩ : ∃ fu, f1 = fu + 1 := ⟨f1 - 1, by omega⟩
        obtain ⟨f4, rfl⟩ : ∃ fu, f2 = fu + 1 := ⟨f2 - 1, by omega⟩
        refine ⟨x3, r3', y3, ?_, ?_, Or.inr hw⟩
        · rw [f_X2_readTest_7]
          split
          · rfl
          · rw [q3, if_neg (by decide)]
        · rw [f_X15_test_5, pp_takesW q5, pp_b, if_pos rfl]
    · rw [if_neg e1, if_neg (show ¬ decide (x0.2 4 k = 23) = true by rw [decide_eq_false e1]; decide), pp_b]
      exact ⟨x, r, y, rfl, rfl, Or.inl ⟨k, Nat.le_refl _, hP, hL⟩⟩
theorem pp_tstW {val : Int32 → CS → Option CS} {vM : MS → Option (Int32 × MS)} {p : Int32} (hX : pp_CX b v n W x0 xs y0 ys t T) (hop : pp_EW b n x0 xs y0 ys (f_X2_readBoth val p) (f_X15_both vM)) : pp_EW b n x0 xs y0 ys (f_X2_readTest val p) (f_X15_test vM) := by
  intro c x y hP
  obtain ⟨x1, r, y1, o1, o2, hw⟩ := hop c x y hP
  obtain ⟨q1, q2, q3, q4, q5⟩ := pp_PWr hX hw
  refine ⟨x1, r, y1, ?_, ?_, hw⟩
  · unfold f_X2_readTest
    rw [o1, pp_b, show g_fuel = 4095 + 1 from rfl, f_X2_readTest_7, if_neg (by decide), q3, if_neg (by decide)]
  · unfold f_X15_test
    rw [o2, pp_b, show g_fuel = 4095 + 1 from rfl, f_X15_test_5, pp_takesW q5, pp_b, if_pos rfl]
theorem pp_tst {val : Int32 → CS → Option CS} {vM : MS → Option (Int32 × MS)} {d : Nat} (hX : pp_CX b v n W x0 xs y0 ys t T) (hop : pp_EX b n W x0 xs y0 ys d true (f_X2_readBoth val (nI d)) (f_X15_both vM)) : pp_EX b n W x0 xs y0 ys d true (f_X2_readTest val (nI d)) (f_X15_test vM) := by
  intro c k x y hP
  have hn := hX.2.2.1.1
  obtain ⟨x1, r, y1, o1, o2, o3⟩ := hop c k x y hP
  unfold f_X2_readTest f_X15_test
  rw [o1, pp_b, o2, pp_b]
  rcases o3 with ⟨k1, k11, k12, k13⟩ | hw
  · obtain ⟨x2, r2, y2, j1, j2, j3⟩ := pp_tstL hX hop (n - k1) g_fuel g_fuel 0 k1 c x1 y1 r x rfl (by unfold g_fuel; omega) (by unfold g_fuel; omega) (by omega) k12 k13
    refine ⟨x2, r2, y2, j1, j2, ?_⟩
    rcases j3 with ⟨k2, k21, k22⟩ | hw
    · exact Or.inl ⟨k2, by omega, k22⟩
    · exact Or.inr hw
  · obtain ⟨q1, q2, q3, q4, q5⟩ := pp_PWr hX hw
    refine ⟨x1, r, y1, ?_, ?_, Or.inr hw⟩
    · rw [show g_fuel = 4095 + 1 from rfl, f_X2_readTest_7, if_neg (by decide), q3, if_neg (by decide)]
    · rw [show g_fuel = 4095 + 1 from rfl, f_X15_test_5, pp_takesW q5, pp_b, if_pos rfl]
end EXP
