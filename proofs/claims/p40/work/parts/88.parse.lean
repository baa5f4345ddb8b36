/-! the class reads expressions: from tokens to codes -/
/-- the parser stands at token i, the book holds s codes -/
def zS (tS : Nat → Nat) (tV : Nat → Int32) (b v i s : Nat) (x : CS) : Prop := x.2 4 = tS ∧ x.1 7 = tV ∧ x.1 162 8 = 0 ∧ x.1 162 4 = nI i ∧ x.2 162 5 = tS i ∧ x.1 162 7 = tV i ∧ x.2 162 1 = b ∧ x.2 162 2 = v ∧ x.1 b 5 = nI s ∧ (b = 20 ∨ b = 70) ∧ (v = 41 ∨ v = 91)
/-- only the parser and the codes are written -/
def zG (b : Nat) (x x' : CS) : Prop := (∀ i, i ≠ 162 → i ≠ b → i ≠ b + 4 → x'.1 i = x.1 i) ∧ (∀ k, k ≠ 5 → x'.1 b k = x.1 b k) ∧ (∀ i, i ≠ 162 → i ≠ b + 3 → x'.2 i = x.2 i)
def zX (tS : Nat → Nat) (tV : Nat → Int32) (b v s : Nat) (L : ZC) (i' : Nat) (x x' : CS) : Prop := zS tS tV b v i' (s + L.length) x' ∧ zat (x'.2 (b + 3)) (x'.1 (b + 4)) s L ∧ (∀ p, p < s → x'.2 (b + 3) p = x.2 (b + 3) p ∧ x'.1 (b + 4) p = x.1 (b + 4) p) ∧ zG b x x'
theorem zG.rf (b : Nat) (x : CS) : zG b x x := ⟨fun _ _ _ _ => rfl, fun _ _ => rfl, fun _ _ _ => rfl⟩
theorem zG.tr {b : Nat} {x y z : CS} (h : zG b x y) (k : zG b y z) : zG b x z := ⟨fun i h1 h2 h3 => (k.1 i h1 h2 h3).trans (h.1 i h1 h2 h3), fun i h1 => (k.2.1 i h1).trans (h.2.1 i h1), fun i h1 h2 => (k.2.2 i h1 h2).trans (h.2.2 i h1 h2)⟩
section ZPX
variable {tS : Nat → Nat} {tV : Nat → Int32} {b v i i' i'' s W : Nat} {L M : ZC} {x y z : CS} {nm : Nat → Nat}
theorem zX.tr (h : zX tS tV b v s L i' x y) (k : zX tS tV b v (s + L.length) M i'' y z) : zX tS tV b v s (L ++ M) i'' x z := by
  obtain ⟨h1, h2, h3, h4⟩ := h
  obtain ⟨k1, k2, k3, k4⟩ := k
  refine ⟨by rw [List.length_append, ← Nat.add_assoc]; exact k1, zat.a (h2.e (fun j _ hj => k3 j hj)) k2, fun p hp => ?_, h4.tr k4⟩
  have e1 := h3 p hp
  have e2 := k3 p (by omega)
  exact ⟨e2.1.trans e1.1, e2.2.trans e1.2⟩
theorem zX.st (h : zX tS tV b v s L i' x y) : zS tS tV b v i' (s + L.length) y := h.1
theorem zX.n (h : zS tS tV b v i s x) : zX tS tV b v s [] i x x := ⟨h, fun j hj => (by cases hj), fun p _ => ⟨rfl, rfl⟩, zG.rf b x⟩
/-- one token further -/
theorem zst (h : zS tS tV b v i s x) (hi : i < 400) : ∃ x', f_X2_step x = some x' ∧ zX tS tV b v s [] (i + 1) x x' ∧ (∀ j, j ≠ 162 → x'.1 j = x.1 j) ∧ ∀ j, j ≠ 162 → x'.2 j = x.2 j := by
  obtain ⟨h1, h2, h3, h4, h5, h6, h7, h8, h9, h10, h11⟩ := h
  have e1 : ∀ (u : CS) (w : Int32), (g_wi u 162 4 w).1 162 4 = w := fun u w => by simp [g_wi, upd]
  refine ⟨g_wi (g_wi (g_wr (g_wi x 162 4 (nI (i + 1))) 162 5 (tS (i + 1))) 162 6 (x.1 5 (i + 1))) 162 7 (tV (i + 1)), ?_, ⟨⟨?_, ?_, ?_, ?_, ?_, ?_, ?_, ?_, ?_, h10, h11⟩, fun j hj => (by cases hj), fun p _ => ⟨?_, ?_⟩, fun j q1 q2 q3 => ?_, fun k hk => ?_, fun j q1 q2 => ?_⟩, fun j hj => ?_, fun j hj => ?_⟩
  · unfold f_X2_step
    rw [h3, if_neg (by decide), h4, nI_1]
    unfold f_X8_sign f_X8_place f_X8_value
    have e2 : ∀ w : Nat, (g_wr (g_wi x 162 4 (nI (i + 1))) 162 5 w).1 162 4 = nI (i + 1) := fun w => by simp [g_wi, g_wr, upd]
    have e3 : ∀ (w : Nat) (u : Int32), (g_wi (g_wr (g_wi x 162 4 (nI (i + 1))) 162 5 w) 162 6 u).1 162 4 = nI (i + 1) := fun w u => by simp [g_wi, g_wr, upd]
    rw [e1, if_neg (nI_pos (by omega)), if_neg (show ¬ (401 : Int32) ≤ nI (i + 1) from nI_ge (b := 401) (by omega) (by omega)), if_pos ((pp_ok (by omega)).mpr (by omega)), nI_clamp (by omega), pp_b]
    have e4 : (g_wi x 162 4 (nI (i + 1))).2 4 (i + 1) = tS (i + 1) := by rw [← h1]; rfl
    rw [e4, e2, if_neg (nI_pos (by omega)), if_neg (show ¬ (401 : Int32) ≤ nI (i + 1) from nI_ge (b := 401) (by omega) (by omega)), if_pos ((pp_ok (by omega)).mpr (by omega)), nI_clamp (by omega), pp_b]
    have e5 : (g_wr (g_wi x 162 4 (nI (i + 1))) 162 5 (tS (i + 1))).1 5 (i + 1) = x.1 5 (i + 1) := by simp [g_wi, g_wr]
    rw [e5, e3, if_neg (nI_pos (by omega)), if_neg (show ¬ (401 : Int32) ≤ nI (i + 1) from nI_ge (b := 401) (by omega) (by omega)), if_pos ((pp_ok (by omega)).mpr (by omega)), nI_clamp (by omega), pp_b]
    have e6 : (g_wi (g_wr (g_wi x 162 4 (nI (i + 1))) 162 5 (tS (i + 1))) 162 6 (x.1 5 (i + 1))).1 7 (i + 1) = tV (i + 1) := by rw [← h2]; simp [g_wi, g_wr]
    rw [e6]
  · simp [g_wi, g_wr, h1]
  · simp [g_wi, g_wr, h2]
  · simp [g_wi, g_wr, upd, h3]
  · simp [g_wi, g_wr, upd]
  · simp [g_wi, g_wr, va_up]
  · simp [g_wi, g_wr, upd]
  · simp [g_wi, g_wr, va_up, h7]
  · simp [g_wi, g_wr, va_up, h8]
  · have : b ≠ 162 := by omega
    simp [g_wi, g_wr, this, h9]
  · have : b + 3 ≠ 162 := by omega
    simp [g_wi, g_wr, this]
  · have : b + 4 ≠ 162 := by omega
    simp [g_wi, g_wr, this]
  · simp [g_wi, g_wr, q1]
  · have : b ≠ 162 := by omega
    simp [g_wi, g_wr, this]
  · simp [g_wi, g_wr, q1]
  · simp [g_wi, g_wr, hj]
  · simp [g_wi, g_wr, hj]
theorem zex (h : zS tS tV b v i s x) (hi : i < 400) {g : Nat} (hg : tS i = g) : ∃ x', f_X2_expect g x = some x' ∧ zX tS tV b v s [] (i + 1) x x' ∧ (∀ j, j ≠ 162 → x'.1 j = x.1 j) ∧ ∀ j, j ≠ 162 → x'.2 j = x.2 j := by
  obtain ⟨x', e1, e2⟩ := zst h hi
  refine ⟨x', ?_, e2⟩
  unfold f_X2_expect
  rw [if_pos (by rw [h.2.2.2.2.1]; exact hg), e1]
  rfl
/-- one code more -/
theorem zad (h : zS tS tV b v i s x) (hs : s < 400) {g : Nat} (hg : g < 46) (w : Int32) : ∃ x', f_X5_addSign b g w x = some x' ∧ zX tS tV b v s [(g, w)] i x x' := by
  obtain ⟨h1, h2, h3, h4, h5, h6, h7, h8, h9, h10, h11⟩ := h
  have n1 : b ≠ 162 := by omega
  have n2 : b + 4 ≠ 162 := by omega
  have n3 : b + 3 ≠ 162 := by omega
  have n4 : b + 4 ≠ b := by omega
  have n5 : b ≠ b + 4 := by omega
  refine ⟨g_wi (g_wi (g_wr x (b + 3) s g) (b + 4) s w) b 5 (nI (s + 1)), ?_, ⟨?_, ?_, ?_, ?_, ?_, ?_, ?_, ?_, ?_, h10, h11⟩, zat.mk ?_ ?_, fun p hp => ⟨?_, ?_⟩, fun j q1 q2 q3 => ?_, fun k hk => ?_, fun j q1 q2 => ?_⟩
  · unfold f_X5_addSign
    have e1 : (g_wr x (b + 3) s g).1 b 5 = nI s := h9
    have e2 : (g_wi (g_wr x (b + 3) s g) (b + 4) s w).1 b 5 = nI s := by simp [g_wi, g_wr, n5, h9]
    rw [h9, if_neg (nI_pos (by omega)), if_neg (show ¬ (400 : Int32) ≤ nI s from nI_ge (b := 400) hs (by omega)), if_neg (show ¬ (400 : Int32) ≤ nI s from nI_ge (b := 400) hs (by omega)), if_pos ((pp_ok (by omega)).mpr hs), if_pos hg, nI_clamp (by omega), e1, if_pos ((pp_ok (by omega)).mpr hs), nI_clamp (by omega), e2, nI_1]
  · have : 4 ≠ b + 3 := by omega
    simp [g_wi, g_wr, this, h1]
  · have : 7 ≠ b ∧ 7 ≠ b + 4 := by omega
    simp [g_wi, g_wr, this, h2]
  · simp [g_wi, g_wr, n1.symm, n2.symm, h3]
  · simp [g_wi, g_wr, n1.symm, n2.symm, h4]
  · simp [g_wi, g_wr, n3.symm, h5]
  · simp [g_wi, g_wr, n1.symm, n2.symm, h6]
  · simp [g_wi, g_wr, n3.symm, h7]
  · simp [g_wi, g_wr, n3.symm, h8]
  · simp [g_wi, g_wr, upd]
  · simp [g_wi, g_wr, va_up]
  · simp [g_wi, g_wr, upd, n4]
  · have : p ≠ s := by omega
    simp [g_wi, g_wr, va_up, this]
  · have : p ≠ s := by omega
    simp [g_wi, g_wr, upd, n4, this]
  · simp [g_wi, g_wr, q2, q3]
  · simp [g_wi, g_wr, upd, n5, hk]
  · simp [g_wi, g_wr, q2]
/-- the words that were told, by their names -/
def zN (v W : Nat) (nm : Nat → Nat) (x : CS) : Prop := W ≤ 8 ∧ x.1 v 2 = nI W ∧ (∀ k, k < W → x.1 163 k = nI (nm k)) ∧ (∀ k, k < 8 → nm k < 1000) ∧ ∀ j k, j < 8 → k < 8 → nm j = nm k → j = k
theorem zN.G (h : zN v W nm x) (hb : b = 20 ∨ b = 70) (hv : v = 41 ∨ v = 91) (hG : zG b x y) : zN v W nm y := by
  obtain ⟨h1, h2, h3, h4⟩ := h
  exact ⟨h1, by rw [hG.1 v (by omega) (by omega) (by omega)]; exact h2, fun k hk => by rw [hG.1 163 (by omega) (by omega) (by omega)]; exact h3 k hk, h4⟩
theorem zwc (h : zN v W nm x) (hv : x.2 162 2 = v) (hv2 : v = 41 ∨ v = 91) {j : Nat} (hj : j < W) : f_X2_wordCalled (nI (nm j)) x = some (nI j) := by
  obtain ⟨h1, h2, h3, h4, h5⟩ := h
  have key : ∀ d fu k, d = j - k → d < fu → k ≤ j → f_X2_wordCalled_2 x fu (nI (nm j)) (nI k) = some (nI j) := by
    intro d
    induction d with
    | zero =>
      intro fu k hd hfu hk
      obtain ⟨f1, rfl⟩ : ∃ f, fu = f + 1 := ⟨fu - 1, by omega⟩
      have e : k = j := by omega
      subst e
      rw [f_X2_wordCalled_2, hv, if_pos (pp_k9 hv2), h2, if_neg (nI_ge hj (by omega)), if_neg (show ¬ (8 : Int32) ≤ nI k from nI_ge (b := 8) (by omega) (by omega)), if_pos ((pp_ok (by omega)).mpr (by omega)), nI_clamp (by omega), h3 k hj, if_pos rfl]
    | succ d ih =>
      intro fu k hd hfu hk
      obtain ⟨f1, rfl⟩ : ∃ f, fu = f + 1 := ⟨fu - 1, by omega⟩
      have n1 := h4 k (by omega)
      have n2 := h4 j (by omega)
      rw [f_X2_wordCalled_2, hv, if_pos (pp_k9 hv2), h2, if_neg (nI_ge (by omega) (by omega)), if_neg (show ¬ (8 : Int32) ≤ nI k from nI_ge (b := 8) (by omega) (by omega)), if_pos ((pp_ok (by omega)).mpr (by omega)), nI_clamp (by omega), h3 k (by omega), if_neg (by rw [nI_eq (by omega) (by omega)]; intro q; have := h5 k j (by omega) (by omega) q; omega), nI_1]
      exact ih f1 (k + 1) (by omega) (by omega) (by omega)
  exact key (j - 0) g_fuel 0 rfl (by unfold g_fuel; omega) (by omega)
theorem zkn (h : zS tS tV b v i s x) (hN : zN v W nm x) (hi : i < 400) {j : Nat} (hj : j < W) (ht : tS i = 41) (hw : tV i = nI (nm j)) : ∃ x', f_X2_readKnownName x = some (nI j, x') ∧ zX tS tV b v s [] (i + 1) x x' := by
  obtain ⟨x', e1, e2, -⟩ := zst h hi
  have hW := hN.1
  refine ⟨x', ?_, e2⟩
  unfold f_X2_readKnownName f_X2_readKnownName_35
  rw [if_pos (by rw [h.2.2.2.2.1]; exact ht), h.2.2.2.2.2.1, hw, zwc hN h.2.2.2.2.2.2.2.1 h.2.2.2.2.2.2.2.2.2.2 hj, pp_b, if_neg (pp_m1n (by omega)), e1]
  rfl
/-- tokens of an expression -/
def zt0 (nm : Nat → Nat) (e : Z0) : ZC := if e.1 = 0 then [(42, nI e.2)] else if e.1 = 1 then [(14, 0)] else if e.1 = 2 then [(15, 0)] else [(zg e.1, 0), (18, 0), (41, nI (nm e.2))]
def zt1 (nm : Nat → Nat) (e : Z1) : ZC := if e.1 = 0 then zt0 nm e.2.1 else if e.1 = 5 then [(33, 0)] ++ zt0 nm e.2.1 else if e.1 < 8 then [(zg e.1, 0), (26, 0)] ++ zt0 nm e.2.1 ++ [(31, 0)] ++ zt0 nm e.2.2 ++ [(27, 0)] else [(26, 0)] ++ zt0 nm e.2.1 ++ [(zg e.1, 0)] ++ zt0 nm e.2.2 ++ [(27, 0)]
def zt2 (nm : Nat → Nat) (e : Z2) : ZC := if 17 ≤ e.1 then [(zg e.1, 0), (41, nI (nm e.2.1))] else zt1 nm e.2.2.1 ++ [(zg e.1, 0)] ++ zt0 nm e.2.2.2
def zt3 (nm : Nat → Nat) (e : Z3) : ZC := if e.1 = 0 then zt2 nm e.2.1 else if e.1 = 19 then [(21, 0)] ++ zt2 nm e.2.1 else [(28, 0)] ++ zt2 nm e.2.1 ++ [(zg e.1, 0)] ++ zt2 nm e.2.2 ++ [(29, 0)]
theorem zat.c {sg : Nat → Nat} {vl : Nat → Int32} {s g : Nat} {w : Int32} {L : ZC} (h : zat sg vl s ((g, w) :: L)) : sg s = g ∧ vl s = w ∧ zat sg vl (s + 1) L := by
  have h1 : zat sg vl s ([(g, w)] ++ L) := h
  exact ⟨h1.l.one.1, h1.l.one.2, h1.r⟩
/-- what follows a sum -/
def zq (k : Nat) : Prop := k ≠ 32 ∧ k ≠ 33 ∧ k ≠ 34 ∧ k ≠ 35
theorem zr_P7 {val : Int32 → CS → Option CS} {p : Int32} (h : zS tS tV b v i s x) (hq : tS i ≠ 34 ∧ tS i ≠ 35) (fu : Nat) (l2 : Int32) (hl : ¬ (400 : Int32) ≤ l2) : f_X2_readProduct_7 val (fu + 1) p l2 x = some x := by
  rw [f_X2_readProduct_7, if_neg hl, h.2.2.2.2.1, if_neg hq.1, if_neg hq.2]
theorem zr_S7 {val : Int32 → CS → Option CS} {p : Int32} (h : zS tS tV b v i s x) (hq : tS i ≠ 32 ∧ tS i ≠ 33) (fu : Nat) (l2 : Int32) (hl : ¬ (400 : Int32) ≤ l2) : f_X2_readSum_7 val (fu + 1) p l2 x = some x := by
  rw [f_X2_readSum_7, if_neg hl, h.2.2.2.2.1, if_neg hq.1, if_neg hq.2]
/-- a value alone is a product and a sum -/
theorem zr_P {val : Int32 → CS → Option CS} {p : Int32} (h : val p x = some y) (k : zX tS tV b v s L i' x y) (hq : tS i' ≠ 34 ∧ tS i' ≠ 35) : f_X2_readProduct val p x = some y := by
  unfold f_X2_readProduct
  rw [h, pp_b]
  exact zr_P7 k.1 hq 4095 0 (by decide)
theorem zr_S {val : Int32 → CS → Option CS} {p : Int32} (h : val p x = some y) (k : zX tS tV b v s L i' x y) (hq : zq (tS i')) : f_X2_readSum val p x = some y := by
  unfold f_X2_readSum
  rw [zr_P h k ⟨hq.2.2.1, hq.2.2.2⟩, pp_b]
  exact zr_S7 k.1 ⟨hq.1, hq.2.1⟩ 4095 0 (by decide)
theorem zp0 {e : Z0} (h : zS tS tV b v i s x) (hN : zN v W nm x) (he : zw0 W e) (ht : zat tS tV i (zt0 nm e)) (hi : i + (zt0 nm e).length ≤ 400) (hs : s + (zc0 e).length ≤ 400) (n : Nat) (p : Int32) : ∃ x', f_X2_readValue (n + 1) p x = some x' ∧ zX tS tV b v s (zc0 e) (i + (zt0 nm e).length) x x' := by
  obtain ⟨t, k⟩ := e
  have h4 := he.1
  have h6 := he.2.2
  change t < 5 at h4
  change 0 < t → k < W at h6
  have hs1 : s < 400 := hs
  have h5 := h.2.2.2.2.1
  have hb := h.2.2.2.2.2.2.2.2.2.1
  have h' : t = 0 ∨ t = 1 ∨ t = 2 ∨ t = 3 ∨ t = 4 := by omega
  have leaf : ∀ (g : Nat) (w : Int32), g < 46 → tS i = g → tV i = w → i + 1 ≤ 400 → ∃ x', f_X2_readValue_185 (f_X2_readValue n) x = some x' ∧ zX tS tV b v s [(g, w)] (i + 1) x x' := by
    intro g w hg h1 h2 hi1
    obtain ⟨x1, a1, a2⟩ := zad h hs1 hg w
    obtain ⟨x2, b1, b2, -⟩ := zst a2.1 (by omega)
    refine ⟨x2, ?_, a2.tr b2⟩
    unfold f_X2_readValue_185
    rw [h.2.2.2.2.2.2.1, if_pos (pp_k7 hb), h5, h1, h.2.2.2.2.2.1, h2, a1, pp_b, b1]
    rfl
  have look : ∀ (g : Nat), g < 46 → k < W → tS i = g → tS (i + 1) = 18 → tS (i + 1 + 1) = 41 → tV (i + 1 + 1) = nI (nm k) → i + 3 ≤ 400 → ∃ x', f_X2_readValue_124 (f_X2_readValue n) x = some x' ∧ zX tS tV b v s [(g, nI k)] (i + 3) x x' := by
    intro g hg hk h1 h2 h3 h4 hi1
    obtain ⟨x1, a1, a2, -⟩ := zst h (by omega)
    obtain ⟨x2, b1, b2, -⟩ := zex a2.1 (by omega) h2
    have hN2 := (hN.G hb h.2.2.2.2.2.2.2.2.2.2 a2.2.2.2).G hb h.2.2.2.2.2.2.2.2.2.2 b2.2.2.2
    obtain ⟨x3, c1, c2⟩ := zkn b2.1 hN2 (by omega) hk h3 h4
    obtain ⟨x4, d1, d2⟩ := zad c2.1 hs1 hg (nI k)
    refine ⟨x4, ?_, ((a2.tr b2).tr c2).tr d2⟩
    unfold f_X2_readValue_124
    rw [a1, pp_b, b1, pp_b, b2.1.2.2.2.2.2.2.1, if_pos (pp_k7 hb), c1, pp_b, h5, h1]
    show Option.bind (f_X5_addSign b g (nI k) x3) _ = _
    rw [d1]
    rfl
  rw [f_X2_readValue, h5]
  rcases h' with rfl | rfl | rfl | rfl | rfl
  · obtain ⟨h1, h2, -⟩ := ht.c
    rw [h1]
    exact leaf 42 (nI k) (by omega) h1 h2 (by have : i + 1 ≤ 400 := hi; omega)
  · obtain ⟨h1, h2, -⟩ := ht.c
    rw [h1]
    exact leaf 14 0 (by omega) h1 h2 (by have : i + 1 ≤ 400 := hi; omega)
  · obtain ⟨h1, h2, -⟩ := ht.c
    rw [h1]
    exact leaf 15 0 (by omega) h1 h2 (by have : i + 1 ≤ 400 := hi; omega)
  · obtain ⟨h1, -, h2⟩ := ht.c
    obtain ⟨h3, -, h4⟩ := h2.c
    obtain ⟨h5', h6', -⟩ := h4.c
    rw [h1]
    exact look 16 (by omega) (h6 (by omega)) h1 h3 h5' h6' (by have : i + 3 ≤ 400 := hi; omega)
  · obtain ⟨h1, -, h2⟩ := ht.c
    obtain ⟨h3, -, h4⟩ := h2.c
    obtain ⟨h5', h6', -⟩ := h4.c
    rw [h1]
    exact look 17 (by omega) (h6 (by omega)) h1 h3 h5' h6' (by have : i + 3 ≤ 400 := hi; omega)
end ZPX
