/-! the language as read so far, in both -/
theorem pp_BR.f {W W1 b o k Z Z1 : Nat} {x x1 : CS} {y y1 : MS} (h : pp_BR W x y b o k Z) (hW : W ≤ W1) (hZ : Z ≤ Z1) (h1 : ∀ j, x1.1 (pp_rr b k) j = x.1 (pp_rr b k) j) (h2 : x1.2 (pp_rr b k) 0 = x.2 (pp_rr b k) 0) (hp : ∀ i, i < Z → x1.2 (b + 3) i = x.2 (b + 3) i) (h3 : ∀ i, o + 3 ≤ i → i ≤ o + 8 → y1 i k = y i k) : pp_BR W1 x1 y1 b o k Z1 := by
  obtain ⟨w, s, m, e, a1, a2, a3, a4, a5, a6, a7, a8, a9, b1, b2, b3, b4, b5⟩ := h
  have hp' : ∀ u, u ≤ e → ∀ j, j < u → x.2 (b + 3) j = x1.2 (b + 3) j := fun u hu j hj => (hp j (by omega)).symm
  refine ⟨w, s, m, e, by omega, a2, a3, by omega, a5.e (hp' e (Nat.le_refl _)), by rw [h1]; exact a6, by rw [h1]; exact a7, by rw [h1]; exact a8, by rw [h1]; exact a9, by rw [h3 _ (by omega) (by omega)]; exact b1, by rw [h3 _ (by omega) (by omega)]; exact b2, by rw [h3 _ (by omega) (by omega)]; exact b3, ?_, ?_⟩
  · rcases b4 with ⟨c1, c2⟩ | ⟨c1, c2⟩
    · exact Or.inl ⟨c1, by rw [h3 _ (by omega) (by omega)]; exact c2⟩
    · exact Or.inr ⟨c1.e (hp' e (Nat.le_refl _)), by rw [h3 _ (by omega) (by omega)]; exact c2⟩
  · rcases b5 with ⟨c1, c2, c3, c4⟩ | ⟨c1, c2⟩ | ⟨c1, c2⟩
    · exact Or.inl ⟨by rw [h2]; exact c1, by rw [h3 _ (by omega) (by omega)]; exact c2, c3.e (hp' m a3), by rw [h3 _ (by omega) (by omega)]; exact c4⟩
    · exact Or.inr (Or.inl ⟨by rw [h2]; exact c1, by rw [h3 _ (by omega) (by omega)]; exact c2⟩)
    · exact Or.inr (Or.inr ⟨by rw [h2]; exact c1, by rw [h3 _ (by omega) (by omega)]; exact c2⟩)
theorem pp_nd.w {W W1 : Nat} {sg : Nat → Nat} {vl so le ri : Nat → Int32} {p : Nat} (h : pp_nd W sg vl so le ri p) (hW : W ≤ W1) : pp_nd W1 sg vl so le ri p := by
  refine ⟨h.1, ?_⟩
  rcases h.2 with h | h | h
  · refine Or.inl ?_
    rcases h with h | h | h | ⟨h1, h2, w, h3, h4⟩
    · exact Or.inl h
    · exact Or.inr (Or.inl h)
    · exact Or.inr (Or.inr (Or.inl h))
    · exact Or.inr (Or.inr (Or.inr ⟨h1, h2, w, by omega, h4⟩))
  · exact Or.inr (Or.inl h)
  · exact Or.inr (Or.inr h)
theorem pp_BN.f {W W1 b o Z : Nat} {x x1 : CS} {y y1 : MS} (h : pp_BN W x y b o Z) (hW : W ≤ W1) (h1 : x1.1 (b + 4) = x.1 (b + 4)) (h2 : x1.2 (b + 3) = x.2 (b + 3)) (h3 : ∀ i, o + 9 ≤ i → i ≤ o + 11 → y1 i = y i) : pp_BN W1 x1 y1 b o Z := by
  unfold pp_BN at *
  rw [h2, h1, h3 (o + 9) (by omega) (by omega), h3 (o + 10) (by omega) (by omega), h3 (o + 11) (by omega) (by omega)]
  exact fun p hp => (h p hp).w hW
/-- what reading the language may change -/
def pp_FL (b v : Nat) (xs x : CS) (ys y : MS) : Prop := (∀ i, i ≠ 162 → i ≠ 163 → (i < b ∨ b + 20 < i) → (i < v ∨ v + 28 < i) → x.1 i = xs.1 i) ∧ (∀ i, i ≠ 162 → (i < b ∨ b + 20 < i) → x.2 i = xs.2 i) ∧ (∀ j, j ≠ 5 → x.2 162 j = xs.2 162 j) ∧ (∀ j, 2 < j → x.1 v j = xs.1 v j) ∧ (∀ i, i ≠ 120 → i ≠ 126 → (i < 139 ∨ 150 < i) → y i = ys i) ∧ ∀ j, (j < 8 ∨ 12 < j) → y 120 j = ys 120 j
theorem pp_FL.rf (b v : Nat) (x : CS) (y : MS) : pp_FL b v x x y y := ⟨fun _ _ _ _ _ => rfl, fun _ _ _ => rfl, fun _ _ => rfl, fun _ _ => rfl, fun _ _ _ _ => rfl, fun _ _ => rfl⟩
theorem pp_FL.tr {b v : Nat} {x x1 x2 : CS} {y y1 y2 : MS} (h : pp_FL b v x x1 y y1) (k : pp_FL b v x1 x2 y1 y2) : pp_FL b v x x2 y y2 :=
  ⟨fun i a c d e => (k.1 i a c d e).trans (h.1 i a c d e), fun i a c => (k.2.1 i a c).trans (h.2.1 i a c), fun j a => (k.2.2.1 j a).trans (h.2.2.1 j a), fun j a => (k.2.2.2.1 j a).trans (h.2.2.2.1 j a), fun i a c d => (k.2.2.2.2.1 i a c d).trans (h.2.2.2.2.1 i a c d), fun j a => (k.2.2.2.2.2 j a).trans (h.2.2.2.2.2 j a)⟩
theorem pp_FL.sf {b v : Nat} {x x1 : CS} {y y1 : MS} (hv : v = 41 ∨ v = 91) (h : pp_SF x x1 y y1) : pp_FL b v x x1 y y1 := ⟨fun i a _ _ _ => h.1 i a, fun i a _ => h.2.1 i a, h.2.2.1, fun j _ => by rw [h.1 v (by omega)], fun i a _ _ => h.2.2.2.1 i a, h.2.2.2.2⟩
theorem pp_FL.fe {b v : Nat} {x x1 : CS} {y y1 : MS} (hb : b = 20 ∨ b = 70) (hv : v = 41 ∨ v = 91) (h : pp_FE b x x1 y y1) : pp_FL b v x x1 y y1 := by
  obtain ⟨h1, h2, h3, h4, h5, h6, h7⟩ := h
  exact ⟨fun i a c d e => h1 i a (by omega) (by omega), fun i a c => h3 i a (by omega), h4, fun j _ => by rw [h1 v (by omega) (by omega) (by omega)], fun i a c d => h5 i a (by omega) (by omega) (by omega) (by omega), h7⟩
theorem pp_FL.pf {b v o w : Nat} {x x1 : CS} {y y1 : MS} (ho : v < o ∧ o + 2 ≤ v + 28) (h : pp_PF (o + 1) w x x1 y y1) : v = 41 ∨ v = 91 → pp_FL b v x x1 y y1 := fun hv =>
  ⟨fun i a c d e => h.1 i a (by omega) (by omega), fun i a _ => h.2.1 i a, h.2.2.1, fun j _ => by rw [h.1 v (by omega) (by omega) (by omega)], fun i a c d => h.2.2.2.1 i a (by omega) (by omega), h.2.2.2.2.1⟩
def pp_row (x : CS) (y : MS) (v j q : Nat) : Prop := x.1 (pp_wd v j) 1 = 0 ∧ x.1 (pp_wd v j) 2 = 999 ∧ ∃ p l, (j < q → 0 < l) ∧ pp_RC x (pp_wd v j + 1) p l ∧ pp_RM y 139 j p l
def pp_cd (b W R Z : Nat) (x : CS) (y : MS) : Prop := x.1 b 4 = nI R ∧ y 139 5 = nI R ∧ x.1 b 5 = nI Z ∧ y 139 12 = nI Z ∧ pp_BN W x y b 139 Z ∧ ∀ k, k < R → pp_BR W x y b 139 k Z
/-- W words, whose texts, rows, rules and numbers agree; e = 1: the next word is being read -/
def pp_LD (b v n W e q : Nat) (x0 x : CS) (y : MS) : Prop := W + e ≤ 8 ∧ x.1 v 2 = nI (W + e) ∧ y 139 2 = nI W ∧ (∀ j, j < W + e → ∃ k, k < n ∧ y 126 j = nI k ∧ x0.2 4 k = 41 ∧ x.1 163 j = x0.1 7 k) ∧ (∀ j, j < W + e → pp_row x y v j (W + q)) ∧ (∃ R Z, R ≤ 16 ∧ Z ≤ 400 ∧ pp_cd b W R Z x y) ∧ (∃ g, g ≤ 20 ∧ x.1 b 6 = nI g ∧ y 139 0 = nI g) ∧ ∃ m, m ≤ 99 ∧ x.1 b 7 = nI m ∧ y 139 1 = nI m
def pp_LB (b v n e k : Nat) (x : CS) (y : MS) : Prop := (∃ u, u ≤ 8 ∧ x.1 v 2 = nI u) ∧ (∃ u, u ≤ 16 ∧ x.1 b 4 = nI u) ∧ (∃ u, u ≤ 16 ∧ y 139 5 = nI u) ∧ (∃ u, u ≤ k ∧ y 139 12 = nI u) ∧ ∃ u, u ≤ 8 ∧ y 139 2 = nI u ∧ ∀ j, j < u + e → j < 8 → ∃ i, i < n ∧ y 126 j = nI i
def pp_LK (b v n e q : Nat) (x0 xs : CS) (y0 ys : MS) (k : Nat) (x : CS) (y : MS) : Prop := pp_kK n x0 y0 k x y ∧ pp_FL b v xs x ys y ∧ pp_LB b v n e k x y ∧ (x.1 162 8 = 0 → ∃ W, pp_LD b v n W e q x0 x y)
def pp_LQ (b v n : Nat) (x0 xs : CS) (y0 ys : MS) (x : CS) (y : MS) : Prop := pp_Q n x0 y0 x y ∧ pp_FL b v xs x ys y
section LS
variable {b v n e q : Nat} {x0 xs : CS} {y0 ys : MS} {t : Nat → Nat} {T : Nat}
theorem pp_row.ee {j j1 : Nat} {x x1 : CS} {y y1 : MS} (h : pp_row x y v j q) (hq : j < j1 → j < q) (h1 : ∀ i, pp_wd v j ≤ i → i ≤ pp_wd v j + 2 → x1.1 i = x.1 i) (h2 : y1 140 j = y 140 j) (h3 : ∀ i, 24 * j ≤ i → i < 24 * j + 24 → y1 141 i = y 141 i) : pp_row x1 y1 v j j1 := by
  obtain ⟨a1, a2, p, l, a3, a4, c1, c2, c3, c4⟩ := h
  refine ⟨by rw [h1 _ (by omega) (by omega)]; exact a1, by rw [h1 _ (by omega) (by omega)]; exact a2, p, l, fun u => a3 (hq u), a4.e (h1 _ (by omega) (by omega)) (h1 _ (by omega) (by omega)), h2.trans c1, c2, c3, fun k hk => (h3 _ (by omega) (by omega)).trans (c4 k hk)⟩
theorem pp_cd.ee {W W1 R Z : Nat} {x x1 : CS} {y y1 : MS} (h : pp_cd b W R Z x y) (hR : R ≤ 16) (hW : W ≤ W1) (h1 : ∀ i, b < i → i ≤ b + 20 → x1.1 i = x.1 i) (h1b : x1.1 b 4 = x.1 b 4 ∧ x1.1 b 5 = x.1 b 5) (h2 : ∀ i, b ≤ i → i ≤ b + 20 → x1.2 i = x.2 i) (h3 : ∀ i, 142 ≤ i → i ≤ 150 → y1 i = y i) (h4 : y1 139 5 = y 139 5 ∧ y1 139 12 = y 139 12) : pp_cd b W1 R Z x1 y1 := by
  obtain ⟨a1, a2, a3, a4, a5, a6⟩ := h
  refine ⟨h1b.1.trans a1, h4.1.trans a2, h1b.2.trans a3, h4.2.trans a4, a5.f hW (h1 _ (by omega) (by omega)) (h2 _ (by omega) (by omega)) (fun i c d => h3 i (by omega) (by omega)), fun k hk => (a6 k hk).f hW (Nat.le_refl _) (fun j => by rw [h1 _ (by unfold pp_rr; omega) (by unfold pp_rr; omega)]) (by rw [h2 _ (by unfold pp_rr; omega) (by unfold pp_rr; omega)]) (fun i _ => by rw [h2 _ (by omega) (by omega)]) (fun i c d => by rw [h3 i (by omega) (by omega)])⟩
/-- the language is untouched -/
theorem pp_LD.ee {W : Nat} {x x1 : CS} {y y1 : MS} (h : pp_LD b v n W e q x0 x y) (hb : b = 20 ∨ b = 70) (hv : v = 41 ∨ v = 91) (h1 : ∀ i, i ≠ 162 → x1.1 i = x.1 i) (h2 : ∀ i, i ≠ 162 → x1.2 i = x.2 i) (h3 : ∀ i, i ≠ 120 → y1 i = y i) : pp_LD b v n W e q x0 x1 y1 := by
  obtain ⟨a1, a2, a3, a4, a5, ⟨R, Z, a6, a7, a8⟩, ⟨g, a9, c1, c2⟩, m, c3, c4, c5⟩ := h
  refine ⟨a1, by rw [h1 v (by omega)]; exact a2, by rw [h3 139 (by omega)]; exact a3, fun j hj => ?_, fun j hj => ?_, ⟨R, Z, a6, a7, a8.ee a6 (Nat.le_refl _) (fun i d d' => h1 i (by omega)) (by rw [h1 b (by omega)]; exact ⟨rfl, rfl⟩) (fun i d d' => h2 i (by omega)) (fun i d d' => h3 i (by omega)) (by rw [h3 139 (by omega)]; exact ⟨rfl, rfl⟩)⟩, ⟨g, a9, by rw [h1 b (by omega)]; exact c1, by rw [h3 139 (by omega)]; exact c2⟩, m, c3, by rw [h1 b (by omega)]; exact c4, by rw [h3 139 (by omega)]; exact c5⟩
  · rw [h3 126 (by omega), h1 163 (by omega)]
    exact a4 j hj
  · exact (a5 j hj).ee (fun u => u) (fun i d d' => h1 i (by unfold pp_wd at d d'; omega)) (by rw [h3 140 (by omega)]) (fun i _ _ => by rw [h3 141 (by omega)])
theorem pp_LK.sf {k k1 : Nat} {x x1 : CS} {y y1 : MS} (h : pp_LK b v n e q x0 xs y0 ys k x y) (hb : b = 20 ∨ b = 70) (hv : v = 41 ∨ v = 91) (hk : k ≤ k1) (h1 : pp_kK n x0 y0 k1 x1 y1) (h2 : pp_SF x x1 y y1) (h3 : x1.1 162 8 = 0 → x.1 162 8 = 0) : pp_LK b v n e q x0 xs y0 ys k1 x1 y1 := by
  obtain ⟨a1, a2, ⟨⟨u1, u2, u3⟩, ⟨u4, u5, u6⟩, ⟨u7, u8, u9⟩, ⟨z1, z2, z3⟩, ⟨w1, w2, w3, w4⟩⟩, a4⟩ := h
  refine ⟨h1, a2.tr (pp_FL.sf hv h2), ⟨⟨u1, u2, by rw [h2.1 v (by omega)]; exact u3⟩, ⟨u4, u5, by rw [h2.1 b (by omega)]; exact u6⟩, ⟨u7, u8, by rw [h2.2.2.2.1 139 (by omega)]; exact u9⟩, ⟨z1, by omega, by rw [h2.2.2.2.1 139 (by omega)]; exact z3⟩, ⟨w1, w2, by rw [h2.2.2.2.1 139 (by omega)]; exact w3, fun j hj hj2 => by rw [h2.2.2.2.1 126 (by omega)]; exact w4 j hj hj2⟩⟩, fun r => ?_⟩
  obtain ⟨W, hW⟩ := a4 (h3 r)
  exact ⟨W, hW.ee hb hv h2.1 h2.2.1 h2.2.2.2.1⟩
/-- a part of the word being read -/
theorem pp_LK.pf {k k1 o w : Nat} {x x1 : CS} {y y1 : MS} (h : pp_LK b v n 1 q x0 xs y0 ys k x y) (hb : b = 20 ∨ b = 70) (hv : v = 41 ∨ v = 91) (ho : v < o ∧ o + 2 ≤ v + 28) (hw : y 139 2 = nI w) (hw8 : w ≤ 8) (ho2 : x.1 162 8 = 0 → o = pp_wd v w) (hk : k ≤ k1) (h1 : pp_kK n x0 y0 k1 x1 y1) (h2 : pp_PF (o + 1) w x x1 y y1) (h3 : x1.1 162 8 = 0 → x.1 162 8 = 0 ∧ ∃ p l, 0 < l ∧ pp_RC x1 (o + 1) p l ∧ pp_RM y1 139 w p l) : pp_LK b v n 1 1 x0 xs y0 ys k1 x1 y1 := by
  obtain ⟨a1, a2, ⟨⟨u1, u2, u3⟩, ⟨u4, u5, u6⟩, ⟨u7, u8, u9⟩, ⟨z1, z2, z3⟩, ⟨w1, w2, w3, w4⟩⟩, a4⟩ := h
  obtain ⟨f1, f2, f3, f4, f5, f6, f7⟩ := id h2
  refine ⟨h1, a2.tr (pp_FL.pf ho h2 hv), ⟨⟨u1, u2, by rw [f1 v (by omega) (by omega) (by omega)]; exact u3⟩, ⟨u4, u5, by rw [f1 b (by omega) (by omega) (by omega)]; exact u6⟩, ⟨u7, u8, by rw [f4 139 (by omega) (by omega) (by omega)]; exact u9⟩, ⟨z1, by omega, by rw [f4 139 (by omega) (by omega) (by omega)]; exact z3⟩, ⟨w1, w2, by rw [f4 139 (by omega) (by omega) (by omega)]; exact w3, fun j hj hj2 => by rw [f4 126 (by omega) (by omega) (by omega)]; exact w4 j hj hj2⟩⟩, fun r => ?_⟩
  obtain ⟨r1, p, l, r2, r3, r4⟩ := h3 r
  obtain ⟨W, c1, c2, c3, c4, c5, ⟨R, Z, c6, c7, c8⟩, ⟨g, c9, d1, d2⟩, m, d3, d4, d5⟩ := a4 r1
  have e0 := ho2 r1
  have eW : W = w := (nI_eq (by omega) (by omega)).mp (c3.symm.trans hw)
  subst eW
  have hwd : pp_wd v W = v + 1 + 4 + 3 * W := rfl
  refine ⟨W, c1, by rw [f1 v (by omega) (by omega) (by omega)]; exact c2, by rw [f4 139 (by omega) (by omega) (by omega)]; exact c3, fun j hj => ?_, fun j hj => ?_, ⟨R, Z, c6, c7, c8.ee c6 (Nat.le_refl _) (fun i _ _ => f1 i (by omega) (by omega) (by omega)) (by rw [f1 b (by omega) (by omega) (by omega)]; exact ⟨rfl, rfl⟩) (fun i _ _ => f2 i (by omega)) (fun i _ _ => f4 i (by omega) (by omega) (by omega)) (by rw [f4 139 (by omega) (by omega) (by omega)]; exact ⟨rfl, rfl⟩)⟩, ⟨g, c9, by rw [f1 b (by omega) (by omega) (by omega)]; exact d1, by rw [f4 139 (by omega) (by omega) (by omega)]; exact d2⟩, m, d3, by rw [f1 b (by omega) (by omega) (by omega)]; exact d4, by rw [f4 139 (by omega) (by omega) (by omega)]; exact d5⟩
  · rw [f4 126 (by omega) (by omega) (by omega), f1 163 (by omega) (by omega) (by omega)]
    exact c4 j hj
  · have hwj : pp_wd v j = v + 1 + 4 + 3 * j := rfl
    by_cases ej : j = W
    · subst ej
      obtain ⟨s1, s2, -⟩ := c5 j hj
      exact ⟨by rw [f1 (pp_wd v j) (by omega) (by omega) (by omega)]; exact s1, by rw [f1 (pp_wd v j) (by omega) (by omega) (by omega)]; exact s2, p, l, fun _ => r2, by rw [← e0]; exact r3, r4⟩
    · exact (c5 j hj).ee (fun u => by omega) (fun i d d' => f1 i (by omega) (by omega) (by omega)) (f6 j ej) (fun i d d' => f7 i (by omega))
/-- the context and the state of expressions -/
theorem pp_LK.cx {k : Nat} {x : CS} {y : MS} (h : pp_LK b v n 0 q x0 xs y0 ys k x y) (hb : b = 20 ∨ b = 70) (hv : v = 41 ∨ v = 91) (hF : pp_TF x0 y0 t T n) (hMT : pp_MT y0 t T) (r1 : xs.2 162 1 = b) (r2 : xs.2 162 2 = v) : ∃ W, pp_CX b v n W x0 x y0 y t T ∧ pp_PO b n W x0 x y0 y 0 k 0 x y ∧ (x.1 162 8 = 0 → pp_LD b v n W 0 q x0 x y) := by
  obtain ⟨⟨hM, hC⟩, a2, ⟨⟨u1, u2, u3⟩, ⟨u4, u5, u6⟩, ⟨u7, u8, u9⟩, ⟨z1, z2, z3⟩, ⟨w1, w2, w3, w4⟩⟩, a4⟩ := h
  have hr1 : x.2 162 1 = b := (a2.2.2.1 1 (by omega)).trans r1
  have hr2 : x.2 162 2 = v := (a2.2.2.1 2 (by omega)).trans r2
  by_cases h0 : x.1 162 8 = 0
  · obtain ⟨W, c1, c2, c3, c4, c5, ⟨R, Z, c6, c7, c8⟩, c9⟩ := id (a4 h0)
    have eW : w1 = W := (nI_eq (by omega) (by omega)).mp (w3.symm.trans c3)
    have eZ : z1 = Z := (nI_eq (by have := hF.1; obtain ⟨er, m1, m2, m3, -⟩ := hM; omega) (by omega)).mp (z3.symm.trans c8.2.2.2.1)
    refine ⟨W, ⟨hb, hv, hF, hMT, hr1, hr2, by omega, c3, fun j hj => ?_, W, by omega, c2, fun _ => rfl⟩, ⟨hM, hC, pp_FE.rf b x y, fun u => u, z1, z3, by omega, fun _ => ⟨by rw [eZ]; exact c8.2.2.1, by rw [eZ]; exact c8.2.2.2.2.1⟩⟩, fun _ => ⟨c1, c2, c3, c4, c5, ⟨R, Z, c6, c7, c8⟩, c9⟩⟩
    obtain ⟨i, i1, i2, i3, i4⟩ := c4 j (by omega)
    exact ⟨i, i1, i2, fun _ => ⟨i3, i4⟩⟩
  · refine ⟨w1, ⟨hb, hv, hF, hMT, hr1, hr2, w2, w3, fun j hj => ?_, u1, u2, u3, fun u => absurd u h0⟩, ⟨hM, hC, pp_FE.rf b x y, fun u => u, z1, z3, by omega, fun u => absurd u h0⟩, fun u => absurd u h0⟩
    obtain ⟨i, i1, i2⟩ := w4 j (by omega) (by omega)
    exact ⟨i, i1, i2, fun u => absurd u h0⟩
end LS
