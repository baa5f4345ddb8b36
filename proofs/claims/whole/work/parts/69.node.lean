/-! a sign added, a node made; names; depth -/
def pp_NC (b : Nat) (x x1 : CS) : Prop := x1.1 b 5 = x.1 b 5 ∧ x1.2 (b + 3) = x.2 (b + 3)
theorem pp_NC.tr {b : Nat} {x y z : CS} (h : pp_NC b x y) (k : pp_NC b y z) : pp_NC b x z := ⟨k.1.trans h.1, k.2.trans h.2⟩
theorem pp_PW.m {b n c : Nat} {x0 xs x : CS} {y0 ys y : MS} (h : pp_PW b n x0 xs y0 ys (c + 1) x y) : pp_PW b n x0 xs y0 ys c x y := by
  obtain ⟨h1, h2, k, h3, Z, h4, h5⟩ := h
  exact ⟨h1, h2, k, h3, Z, h4, by omega⟩
def pp_ax (x : CS) (b Z s : Nat) (w : Int32) : CS := g_wi (g_wi (g_wr x (b + 3) Z s) (b + 4) Z w) b 5 (nI (Z + 1))
theorem pp_ax1 {x : CS} {b Z s : Nat} {w : Int32} : (∀ i, i ≠ b → i ≠ b + 4 → (pp_ax x b Z s w).1 i = x.1 i) ∧ (∀ j, j ≠ 5 → (pp_ax x b Z s w).1 b j = x.1 b j) ∧ (∀ i, i ≠ b + 3 → (pp_ax x b Z s w).2 i = x.2 i) ∧ (pp_ax x b Z s w).1 b 5 = nI (Z + 1) ∧ (pp_ax x b Z s w).1 (b + 4) = upd (x.1 (b + 4)) Z w ∧ (pp_ax x b Z s w).2 (b + 3) = va_up (x.2 (b + 3)) Z s := by
  refine ⟨fun i h1 h2 => ?_, fun j h => ?_, fun i h => ?_, ?_, ?_, ?_⟩
  · simp [pp_ax, g_wi, g_wr, h1, h2]
  · simp [pp_ax, g_wi, g_wr, upd, h]
  · simp [pp_ax, g_wi, g_wr, h]
  · simp [pp_ax, g_wi, upd]
  · simp [pp_ax, g_wi, g_wr]
  · simp [pp_ax, g_wi, g_wr]
theorem pp_addC {x : CS} {b Z s : Nat} {w : Int32} (hZ : x.1 b 5 = nI Z) (hZ4 : Z < 400) (hs : s < 46) : f_X5_addSign b s w x = some (pp_ax x b Z s w) := by
  have hn : ¬ (400 : Int32) ≤ nI Z := nI_ge (b := 400) hZ4 (by omega)
  have hok := (pp_ok (k := Z) (n := 400) (by omega)).mpr hZ4
  have e1 : (g_wr x (b + 3) Z s).1 b 5 = nI Z := hZ
  have e2 : (g_wi (g_wr x (b + 3) Z s) (b + 4) Z w).1 b 5 = nI Z := by rw [pp_c1, pp_c4 (by omega)]; exact hZ
  unfold f_X5_addSign
  rw [hZ, if_neg (nI_pos (by omega)), if_neg hn, if_neg hn, if_pos hok, if_pos hs, nI_clamp (by omega), e1, if_pos hok, nI_clamp (by omega), e2, nI_1]
  rfl
theorem pp_addT {x : CS} {b s : Nat} {w : Int32} (hs : s < 46) : ∃ x1, f_X5_addSign b s w x = some x1 ∧ (∀ i, i ≠ b → i ≠ b + 4 → x1.1 i = x.1 i) ∧ (∀ j, j ≠ 5 → x1.1 b j = x.1 b j) ∧ ∀ i, i ≠ b + 3 → x1.2 i = x.2 i := by
  by_cases h : x.1 b 5 < 0
  · refine ⟨x, ?_, fun _ _ _ => rfl, fun _ _ => rfl, fun _ _ => rfl⟩
    unfold f_X5_addSign
    rw [if_pos h]
  · by_cases h2 : (400 : Int32) ≤ x.1 b 5
    · refine ⟨x, ?_, fun _ _ _ => rfl, fun _ _ => rfl, fun _ _ => rfl⟩
      unfold f_X5_addSign
      rw [if_neg h, if_pos h2]
    · obtain ⟨Z, hZ, e⟩ := nI_of h
      have hZ4 : Z < 400 := by
        rcases Nat.lt_or_ge Z 400 with h3 | h3
        · exact h3
        · exact absurd (show (400 : Int32) ≤ x.1 b 5 by rw [e]; exact nI_le (a := 400) h3 hZ) h2
      obtain ⟨a1, a2, a3, -⟩ := pp_ax1 (x := x) (b := b) (Z := Z) (s := s) (w := w)
      exact ⟨_, pp_addC e hZ4 hs, a1, a2, a3⟩
def pp_ay (y : MS) (Z : Nat) (s l r : Int32) : MS := g_mi (g_mi (g_mi (g_mi y 148 Z s) 149 Z l) 150 Z r) 139 12 (nI (Z + 1))
theorem pp_ay1 {y : MS} {Z : Nat} {s l r : Int32} : (∀ i, i ≠ 139 → i ≠ 148 → i ≠ 149 → i ≠ 150 → pp_ay y Z s l r i = y i) ∧ (∀ j, j ≠ 12 → pp_ay y Z s l r 139 j = y 139 j) ∧ pp_ay y Z s l r 139 12 = nI (Z + 1) ∧ pp_ay y Z s l r 148 = upd (y 148) Z s ∧ pp_ay y Z s l r 149 = upd (y 149) Z l ∧ pp_ay y Z s l r 150 = upd (y 150) Z r := by
  refine ⟨fun i h1 h2 h3 h4 => ?_, fun j h => ?_, ?_, ?_, ?_, ?_⟩
  · simp [pp_ay, g_mi, h1, h2, h3, h4]
  · simp [pp_ay, g_mi, upd, h]
  · simp [pp_ay, g_mi, upd]
  · simp [pp_ay, g_mi]
  · simp [pp_ay, g_mi]
  · simp [pp_ay, g_mi]
theorem pp_nodM {y : MS} {Z : Nat} {s l r : Int32} (hZ : y 139 12 = nI Z) (h8 : Z < 800) : f_X15_node s l r y = some (nI Z, pp_ay y Z s l r) := by
  have hok := (pp_ok (k := Z) (n := 800) (by omega)).mpr h8
  have e : (g_mi (g_mi (g_mi y 148 Z s) 149 Z l) 150 Z r) 139 12 = nI Z := by simp [g_mi, hZ]
  unfold f_X15_node
  rw [hZ, if_pos hok, if_pos hok, if_pos hok, nI_clamp (by omega), e, nI_1]
  rfl
/-- what the new node must be -/
def pp_nk (W : Nat) (sg : Nat → Nat) (Z s : Nat) (w l r : Int32) : Prop := (s = 14 ∨ s = 15 ∨ (s = 42 ∧ l = w) ∨ ((s = 16 ∨ s = 17 ∨ s = 19 ∨ s = 20) ∧ l = w ∧ ∃ u, u < W ∧ w = nI u)) ∨ (∃ a S, pp_ar s = 1 ∧ pp_st sg Z = a :: S ∧ l = nI a ∧ (s = 21 → pp_bt (sg a))) ∨ (∃ a b S, pp_ar s = 2 ∧ pp_st sg Z = b :: a :: S ∧ l = nI a ∧ r = nI b ∧ (s = 22 ∨ s = 23 → pp_bt (sg a) ∧ pp_bt (sg b)))
theorem pp_ndE {W p : Nat} {sg sh : Nat → Nat} {vl vm so sp le lf ri rj : Nat → Int32} (h : pp_nd W sg vl so le ri p) (h1 : ∀ j, j ≤ p → sh j = sg j) (h2 : vm p = vl p) (h3 : sp p = so p) (h4 : lf p = le p) (h5 : rj p = ri p) : pp_nd W sh vm sp lf rj p := by
  have hst : pp_st sh p = pp_st sg p := pp_stE p (fun j hj => h1 j (by omega))
  have hB := pp_stB sg p
  unfold pp_nd at *
  rw [h1 p (Nat.le_refl _), h2, h3, h4, h5, hst]
  refine ⟨h.1, ?_⟩
  rcases h.2 with h | ⟨a, S, q1, q2, q3, q4⟩ | ⟨a, c, S, q1, q2, q3, q4, q5⟩
  · exact Or.inl h
  · have ha := hB a (by rw [q2]; exact List.mem_cons_self)
    exact Or.inr (Or.inl ⟨a, S, q1, q2, q3, fun u => by rw [h1 a (by omega)]; exact q4 u⟩)
  · have ha := hB a (by rw [q2]; exact List.mem_cons_of_mem _ List.mem_cons_self)
    have hc := hB c (by rw [q2]; exact List.mem_cons_self)
    exact Or.inr (Or.inr ⟨a, c, S, q1, q2, q3, q4, fun u => by rw [h1 a (by omega), h1 c (by omega)]; exact q5 u⟩)
theorem pp_BNs {W b Z s : Nat} {x : CS} {y : MS} {w l r : Int32} (h : pp_BN W x y b 139 Z) (hk : pp_nk W (x.2 (b + 3)) Z s w l r) : pp_BN W (pp_ax x b Z s w) (pp_ay y Z (nI (pp_tr s)) l r) b 139 (Z + 1) := by
  obtain ⟨a1, a2, a3, a4, a5, a6⟩ := pp_ax1 (x := x) (b := b) (Z := Z) (s := s) (w := w)
  obtain ⟨b1, b2, b3, b4, b5, b6⟩ := pp_ay1 (y := y) (Z := Z) (s := nI (pp_tr s)) (l := l) (r := r)
  have hup : ∀ j, j ≠ Z → va_up (x.2 (b + 3)) Z s j = x.2 (b + 3) j := fun j hj => by unfold va_up; rw [if_neg hj]
  have hupZ : va_up (x.2 (b + 3)) Z s Z = s := by unfold va_up; rw [if_pos rfl]
  intro p hp
  show pp_nd W ((pp_ax x b Z s w).2 (b + 3)) ((pp_ax x b Z s w).1 (b + 4)) (pp_ay y Z (nI (pp_tr s)) l r 148) (pp_ay y Z (nI (pp_tr s)) l r 149) (pp_ay y Z (nI (pp_tr s)) l r 150) p
  rw [a5, a6, b4, b5, b6]
  rcases Nat.lt_or_ge p Z with h1 | h1
  · exact pp_ndE (h p h1) (fun j hj => hup j (by omega)) (pp_u2 (by omega)) (pp_u2 (by omega)) (pp_u2 (by omega)) (pp_u2 (by omega))
  · have e : p = Z := by omega
    subst e
    have hst : pp_st (va_up (x.2 (b + 3)) p s) p = pp_st (x.2 (b + 3)) p := pp_stE p (fun j hj => hup j (by omega))
    have hB := pp_stB (x.2 (b + 3)) p
    unfold pp_nd
    rw [hupZ, pp_u1, pp_u1, pp_u1, pp_u1, hst]
    refine ⟨rfl, ?_⟩
    rcases hk with h | ⟨a, S, q1, q2, q3, q4⟩ | ⟨a, c, S, q1, q2, q3, q4, q5⟩
    · exact Or.inl h
    · have ha := hB a (by rw [q2]; exact List.mem_cons_self)
      exact Or.inr (Or.inl ⟨a, S, q1, q2, q3, fun u => by rw [hup a (by omega)]; exact q4 u⟩)
    · have ha := hB a (by rw [q2]; exact List.mem_cons_of_mem _ List.mem_cons_self)
      have hc := hB c (by rw [q2]; exact List.mem_cons_self)
      exact Or.inr (Or.inr ⟨a, c, S, q1, q2, q3, q4, fun u => by rw [hup a (by omega), hup c (by omega)]; exact q5 u⟩)
theorem pp_feA {b Z s : Nat} {x x1 : CS} {y : MS} {u l r : Int32} (hb : b = 20 ∨ b = 70) (h1 : ∀ i, i ≠ b → i ≠ b + 4 → x1.1 i = x.1 i) (h2 : ∀ j, j ≠ 5 → x1.1 b j = x.1 b j) (h3 : ∀ i, i ≠ b + 3 → x1.2 i = x.2 i) : pp_FE b x x1 y (pp_ay y Z u l r) := by
  obtain ⟨b1, b2, b3, b4, b5, b6⟩ := pp_ay1 (y := y) (Z := Z) (s := u) (l := l) (r := r)
  exact ⟨fun i q1 q2 q3 => h1 i q2 q3, h2, fun i q1 q2 => h3 i q2, fun j _ => by rw [h3 162 (by omega)], fun i q1 q2 q3 q4 q5 => b1 i q2 q3 q4 q5, b2, fun j _ => by rw [b1 120 (by omega) (by omega) (by omega) (by omega)]⟩
/-- a node, all going well -/
theorem pp_nodO {b v n W : Nat} {x0 xs x : CS} {y0 ys y : MS} {t : Nat → Nat} {T c k d s : Nat} {w l r : Int32} (hX : pp_CX b v n W x0 xs y0 ys t T) (h : pp_PO b n W x0 xs y0 ys (c + 1) k d x y) (hs : s < 46) (hk : ∀ Z, x.1 162 8 = 0 → x.1 b 5 = nI Z → Z < 400 → pp_nk W (x.2 (b + 3)) Z s w l r) : ∃ x1 y1 Z, f_X5_addSign b s w x = some x1 ∧ f_X15_node (nI (pp_tr s)) l r y = some (nI Z, y1) ∧ pp_PO b n W x0 xs y0 ys c k d x1 y1 ∧ x1.1 162 8 = x.1 162 8 ∧ (x.1 162 8 = 0 → x.1 b 5 = nI Z ∧ x1 = pp_ax x b Z s w ∧ Z < 400) := by
  obtain ⟨hb, hv, hF, hMT, r1, r2, hN⟩ := hX
  obtain ⟨⟨er, m1, m2, m3, m4, m5, m6, m7, m8, m9, m10, m11, m12, m13⟩, hC, hE, h8, Z, z1, z2, z3⟩ := h
  have hn400 := hF.1
  have hZ : Z < 400 := by omega
  obtain ⟨b1, b2, b3, b4, b5, b6⟩ := pp_ay1 (y := y) (Z := Z) (s := nI (pp_tr s)) (l := l) (r := r)
  have key : ∀ x1 : CS, (∀ i, i ≠ b → i ≠ b + 4 → x1.1 i = x.1 i) → (∀ j, j ≠ 5 → x1.1 b j = x.1 b j) → (∀ i, i ≠ b + 3 → x1.2 i = x.2 i) → (x1.1 162 8 = 0 → x1.1 b 5 = nI (Z + 1) ∧ pp_BN W x1 (pp_ay y Z (nI (pp_tr s)) l r) b 139 (Z + 1)) → pp_PO b n W x0 xs y0 ys c k d x1 (pp_ay y Z (nI (pp_tr s)) l r) := by
    intro x1 h1 h2 h3 h4
    have e162 : x1.1 162 = x.1 162 := h1 162 (by omega) (by omega)
    have y120 : (pp_ay y Z (nI (pp_tr s)) l r) 120 = y 120 := b1 120 (by omega) (by omega) (by omega) (by omega)
    have hFE1 := pp_feA (y := y) (Z := Z) (u := nI (pp_tr s)) (l := l) (r := r) (s := s) hb h1 h2 h3
    refine ⟨⟨er, by rw [e162]; exact m1, by rw [y120]; exact m2, m3, by rw [h3 162 (by omega)]; exact m4, by rw [e162]; exact m5, by rw [e162]; exact m6, by rw [y120]; exact m7, by rw [y120]; exact m8, m9, by rw [e162]; exact m10, by rw [y120]; exact m11, by rw [e162]; exact m12, fun q => ?_⟩, hC.fe hb hFE1, hE.tr hFE1, by rw [e162]; exact h8, Z + 1, b3, by omega, h4⟩
    obtain ⟨j, j1, j2, j3⟩ := m13 q
    exact ⟨j, j1, by rw [y120]; exact j2, by rw [e162]; exact j3⟩
  by_cases h0 : x.1 162 8 = 0
  · obtain ⟨q1, q2⟩ := z3 h0
    obtain ⟨a1, a2, a3, a4, a5, a6⟩ := pp_ax1 (x := x) (b := b) (Z := Z) (s := s) (w := w)
    exact ⟨_, _, Z, pp_addC q1 hZ hs, pp_nodM z1 (by omega), key _ a1 a2 a3 (fun _ => ⟨a4, pp_BNs q2 (hk Z h0 q1 hZ)⟩), by rw [a1 162 (by omega) (by omega)], fun _ => ⟨q1, rfl, hZ⟩⟩
  · obtain ⟨x1, t1, t2, t3, t4⟩ := pp_addT (x := x) (b := b) (w := w) hs
    have e162 : x1.1 162 = x.1 162 := t2 162 (by omega) (by omega)
    exact ⟨x1, _, Z, t1, pp_nodM z1 (by omega), key x1 t2 t3 t4 (fun q => absurd (by rw [e162] at q; exact q) h0), by rw [e162], fun q => absurd q h0⟩
theorem pp_nodW {b v n W : Nat} {x0 xs x : CS} {y0 ys y : MS} {t : Nat → Nat} {T c s : Nat} {w l r u : Int32} (hX : pp_CX b v n W x0 xs y0 ys t T) (h : pp_PW b n x0 xs y0 ys (c + 1) x y) (hs : s < 46) : ∃ x1 y1 q, f_X5_addSign b s w x = some x1 ∧ f_X15_node u l r y = some (q, y1) ∧ pp_PW b n x0 xs y0 ys c x1 y1 := by
  obtain ⟨hb, hv, hF, hMT, r1, r2, hN⟩ := hX
  obtain ⟨hC, hE, k, ⟨m1, m2, m3, m4, m5, m6, m7⟩, Z, z1, z2⟩ := h
  have hn400 := hF.1
  obtain ⟨x1, t1, t2, t3, t4⟩ := pp_addT (x := x) (b := b) (w := w) hs
  obtain ⟨b1, b2, b3, b4, b5, b6⟩ := pp_ay1 (y := y) (Z := Z) (s := u) (l := l) (r := r)
  have e162 : x1.1 162 = x.1 162 := t2 162 (by omega) (by omega)
  have y120 : (pp_ay y Z u l r) 120 = y 120 := b1 120 (by omega) (by omega) (by omega) (by omega)
  have hFE1 := pp_feA (y := y) (Z := Z) (u := u) (l := l) (r := r) (s := s) hb t2 t3 t4
  refine ⟨x1, _, _, t1, pp_nodM z1 (by omega), hC.fe hb hFE1, hE.tr hFE1, k, ⟨by rw [e162]; exact m1, by rw [t4 162 (by omega)]; exact m2, by rw [y120]; exact m3, by rw [y120]; exact m4, ?_, m6, by rw [y120]; exact m7⟩, Z + 1, b3, by omega⟩
  obtain ⟨j, j1, j2, j3⟩ := m5
  exact ⟨j, j1, by rw [y120]; exact j2, by rw [e162]; exact j3⟩
/-- refs of the parser -/
theorem pp_POr {b v n W : Nat} {x0 xs x : CS} {y0 ys y : MS} {t : Nat → Nat} {T c k d : Nat} (hX : pp_CX b v n W x0 xs y0 ys t T) (h : pp_PO b n W x0 xs y0 ys c k d x y) : x.2 162 1 = b ∧ x.2 162 2 = v ∧ x.2 162 5 = x0.2 4 k := by
  obtain ⟨hb, hv, hF, hMT, r1, r2, hN⟩ := hX
  obtain ⟨⟨er, m1, m2, m3, m4, -⟩, hC, hE, -⟩ := h
  exact ⟨(hE.2.2.2.1 1 (by omega)).trans r1, (hE.2.2.2.1 2 (by omega)).trans r2, m4⟩
theorem pp_PWr {b v n W : Nat} {x0 xs x : CS} {y0 ys y : MS} {t : Nat → Nat} {T c : Nat} (hX : pp_CX b v n W x0 xs y0 ys t T) (h : pp_PW b n x0 xs y0 ys c x y) : x.2 162 1 = b ∧ x.2 162 2 = v ∧ x.2 162 5 = 45 ∧ x.1 162 8 = 1 ∧ y 120 9 = 1 := by
  obtain ⟨hb, hv, hF, hMT, r1, r2, hN⟩ := hX
  obtain ⟨hC, hE, k, ⟨m1, m2, m3, -⟩, -⟩ := h
  exact ⟨(hE.2.2.2.1 1 (by omega)).trans r1, (hE.2.2.2.1 2 (by omega)).trans r2, m2, m1, m3⟩
theorem pp_sg46 {x0 : CS} {y0 : MS} {t : Nat → Nat} {T n k : Nat} (hF : pp_TF x0 y0 t T n) (hk : k ≤ n) : x0.2 4 k < 46 ∧ y0 122 k = nI (pp_tr (x0.2 4 k)) := by
  obtain ⟨f1, f2, f3, f4, -⟩ := hF
  rcases Nat.lt_or_ge k n with h | h
  · obtain ⟨-, -, -, -, -, -, -, q6, q7, -⟩ := f2 k h
    exact ⟨by omega, q7⟩
  · have e : k = n := by omega
    rw [e]
    exact ⟨by omega, f4⟩
theorem pp_POk {b n W : Nat} {x0 xs x : CS} {y0 ys y : MS} {c k d : Nat} (h : pp_PO b n W x0 xs y0 ys c k d x y) : k ≤ n ∧ y 120 8 = nI k ∧ y 120 9 = 0 ∧ y 120 12 = nI d := by
  obtain ⟨⟨er, m1, m2, m3, m4, m5, m6, m7, m8, -⟩, -⟩ := h
  exact ⟨m3, m2, m7, m8⟩
theorem pp_isP {b v n W : Nat} {x0 xs x : CS} {y0 ys y : MS} {t : Nat → Nat} {T c k d s : Nat} (hX : pp_CX b v n W x0 xs y0 ys t T) (h : pp_PO b n W x0 xs y0 ys c k d x y) (hs : s < 46) : f_X15_is (nI (pp_tr s)) y = some (pp_i (decide (x0.2 4 k = s))) := by
  obtain ⟨⟨er, hm⟩, hC, -⟩ := h
  exact pp_isO hX.2.2.1 hC hm hs
/-- a token of a kind, or a wrong one -/
theorem pp_exp {b v n W : Nat} {x0 xs x : CS} {y0 ys y : MS} {t : Nat → Nat} {T c k d s : Nat} (hX : pp_CX b v n W x0 xs y0 ys t T) (h : pp_PO b n W x0 xs y0 ys c k d x y) (hs : s < 44) : ∃ x1 y1, f_X2_expect s x = some x1 ∧ f_X15_take (nI (pp_tr s)) y = some y1 ∧ ((x0.2 4 k = s ∧ pp_PO b n W x0 xs y0 ys (c + 1) (k + 1) d x1 y1 ∧ x1.1 162 8 = x.1 162 8 ∧ pp_NC b x x1) ∨ pp_PW b n x0 xs y0 ys (c + 1) x1 y1) := by
  have hb := hX.1
  obtain ⟨r1, r2, r3⟩ := pp_POr hX h
  have his := pp_isP (s := s) hX h (by omega)
  unfold f_X2_expect f_X15_take
  rw [his, pp_b, r3]
  by_cases e : x0.2 4 k = s
  · obtain ⟨s1, s2, s3, s4⟩ := pp_stp hX h (by omega) (by omega)
    rw [if_pos e, s1, decide_eq_true e, if_neg (by decide)]
    exact ⟨_, _, rfl, rfl, Or.inl ⟨e, s2, s3, ⟨by rw [pp_sx1.1 b (by omega)], pp_sx1.2.1 _ (by omega)⟩⟩⟩
  · obtain ⟨s1, s2, s3, -⟩ := pp_rfs hX h
    rw [if_neg e, s1, decide_eq_false e, if_pos (by decide), s2]
    exact ⟨_, _, rfl, rfl, Or.inr s3⟩
