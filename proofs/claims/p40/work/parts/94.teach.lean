/-! the class reads a whole language; what it holds then -/
def zLw (nm : Nat → Nat) (P : Nat → Nat → ZP) (M : Nat → Nat) : Nat → ZC
  | 0 => []
  | W + 1 => zLw nm P M W ++ (ztw nm (P W) (M W) W ++ [(30, 0)])
def zLr (nm : Nat → Nat) (rs : Nat → ZR) : Nat → ZC
  | 0 => []
  | R + 1 => zLr nm rs R ++ (ztr nm (rs R) ++ [(30, 0)])
def zLb (hb g : Nat) : ZC := if hb = 1 then [(7, 0), (42, nI g), (30, 0)] else []
def zLe (hn nr : Nat) : ZC := if hn = 1 then [(8, 0), (42, nI 5), (30, 0), (8, 0), (42, nI nr), (30, 0)] else []
section ZTE
variable {tS : Nat → Nat} {tV : Nat → Int32} {b v i V W R g nr s l : Nat} {x y z x0 : CS} {nm : Nat → Nat} {P : Nat → Nat → ZP} {M : Nat → Nat} {rs : Nat → ZR}
theorem zl_w (h : zLn tS tV b v nm x0 P M rs V i W R g nr x) (hl : l < 400) (hW : W < 8) (hM : 1 ≤ M W ∧ M W ≤ 3) (hP : ∀ j, j < M W → zwp (P W j)) (ht : zat tS tV i (ztw nm (P W) (M W) W ++ [(30, 0)])) (hi : i + (ztw nm (P W) (M W) W).length + 1 ≤ 400) : ∃ x', (∀ f, f_X2_readLanguage_20 (f + 1) (nI l) x = f_X2_readLanguage_20 f (nI (l + 1)) x') ∧ zLn tS tV b v nm x0 P M rs V (i + (ztw nm (P W) (M W) W).length + 1) (W + 1) R g nr x' := by
  have hq := ht.r.one.1
  have h0 : tS i = 0 := ht.l.l.c.1
  obtain ⟨x1, a1, a2⟩ := zword h hW hM hP ht.l (by omega) hq
  obtain ⟨x2, b1, b2, b3, b4⟩ := zex a2.1 (by omega) hq
  refine ⟨x2, fun f => ?_, a2.m ⟨b3, b4⟩ b2.1⟩
  rw [f_X2_readLanguage_20, if_neg (show ¬ (400 : Int32) ≤ nI l from nI_ge (b := 400) hl (by omega)), h.1.2.2.1, if_neg (by decide), h.1.sg, h0, if_neg (by decide), if_pos rfl, a1, pp_b]
  unfold f_X2_readLanguage_128
  rw [b1, pp_b, nI_1]
theorem zLn.bg {k w : Nat} (h : zLn tS tV b v nm x0 P M rs V i W R g nr x) (hk : k = 6 ∨ k = 7) : zLn tS tV b v nm x0 P M rs V i W R (if k = 6 then w else g) (if k = 7 then w else nr) (g_wi x b k (nI w)) := by
  obtain ⟨h1, h2, h3, h4, h5, h6, h7, h8, h9, h10⟩ := h
  have hb := h1.hb
  have hv := h1.hv
  have hW := h2.1
  have o : ∀ j, j ≠ b → (g_wi x b k (nI w)).1 j = x.1 j := fun j hj => by simp [g_wi, hj]
  have s5 : ∀ q, q ≠ k → (g_wi x b k (nI w)).1 b q = x.1 b q := fun q hq => by simp [g_wi, upd, hq]
  refine ⟨?_, ?_, ?_, ?_, fun j hj => ?_, ⟨?_, ?_, ?_⟩, fun q hq => ?_, ?_, fun j q1 q2 q3 q4 => ?_, h10⟩
  · refine h1.mv (fun _ _ => rfl) (fun j hj => o j (by omega)) ?_
    rw [s5 5 (by omega)]; exact h1.2.2.2.2.2.2.2.2.1
  · obtain ⟨n1, n2, n3, n4⟩ := h2
    exact ⟨n1, by rw [o v (by omega)]; exact n2, fun q hq => by rw [o 163 (by omega)]; exact n3 q hq, n4⟩
  · rw [o v (by omega)]; exact h3
  · rw [o v (by omega)]; exact h4
  · have m1 : pp_wd v j ≠ b ∧ pp_wd v j + 1 ≠ b ∧ pp_wd v j + 2 ≠ b := by unfold pp_wd; omega
    unfold zRw
    rw [o _ m1.1, o _ m1.2.1, o _ m1.2.2]
    exact h5 j hj
  · rw [s5 4 (by omega)]; exact h6.1
  · rcases hk with rfl | rfl
    · simp [g_wi, upd]
    · rw [s5 6 (by decide)]; exact h6.2.1
  · rcases hk with rfl | rfl
    · rw [s5 7 (by decide)]; exact h6.2.2
    · simp [g_wi, upd]
  · have m1 : pp_rr b q ≠ b := by unfold pp_rr; omega
    unfold zrd
    rw [o _ m1, o (b + 4) (by omega)]
    exact h7 q hq
  · rw [o (b + 4) (by omega)]; exact h8
  · rw [o j (by omega)]; exact h9 j q1 q2 q3 q4
/-- a line of band (6) or near (7) -/
theorem zl_n (h : zLn tS tV b v nm x0 P M rs V i W R g nr x) (hl : l < 400) {k w : Nat} (hk : k = 6 ∨ k = 7) (hw : w ≤ if k = 6 then 20 else 99) (ht : zat tS tV i [(k + 1, 0), (42, nI w), (30, 0)]) (hi : i + 3 ≤ 400) : ∃ x', (∀ f, f_X2_readLanguage_20 (f + 1) (nI l) x = f_X2_readLanguage_20 f (nI (l + 1)) x') ∧ zLn tS tV b v nm x0 P M rs V (i + 3) W R (if k = 6 then w else g) (if k = 7 then w else nr) x' := by
  obtain ⟨g1, -, g2⟩ := ht.c
  obtain ⟨g3, g4, g5⟩ := g2.c
  have g6 := g5.one.1
  have hb := h.1.hb
  obtain ⟨x1, a1, a2, a3, a4⟩ := zst h.1 (by omega)
  have h1 := h.m ⟨a3, a4⟩ a2.1
  have hhi : (if k = 6 then 20 else 99) < 2 ^ 30 := by split <;> omega
  obtain ⟨x2, b1, b2, b3, b4⟩ := znu (lo := 0) h1.1 (by omega) g3 g4 (Nat.zero_le _) hw hhi
  have h2 := h1.m ⟨b3, b4⟩ b2
  have h3 := h2.bg (w := w) hk
  obtain ⟨x3, c1, c2, c3, c4⟩ := zex h3.1 (by omega) g6
  refine ⟨x3, fun f => ?_, h3.m ⟨c3, c4⟩ c2.1⟩
  rw [f_X2_readLanguage_20, if_neg (show ¬ (400 : Int32) ≤ nI l from nI_ge (b := 400) hl (by omega)), h.1.2.2.1, if_neg (by decide), h.1.sg, g1]
  rcases hk with rfl | rfl
  · have b1' : f_X2_readNumber (0 : Int32) (20 : Int32) x1 = some (nI w, x2) := b1
    rw [if_neg (by decide), if_neg (by decide), if_pos rfl, a1, pp_b, a2.1.bk, if_pos (pp_k7 hb), b1', pp_b]
    unfold f_X2_readLanguage_128
    rw [c1, pp_b, nI_1]
  · have b1' : f_X2_readNumber (0 : Int32) (99 : Int32) x1 = some (nI w, x2) := b1
    rw [if_neg (by decide), if_neg (by decide), if_neg (by decide), if_pos rfl, a1, pp_b, a2.1.bk, if_pos (pp_k7 hb), b1', pp_b]
    unfold f_X2_readLanguage_128
    rw [c1, pp_b, nI_1]
theorem zl_r (h : zLn tS tV b v nm x0 P M rs W i W R g nr x) (hl : l < 400) (hR : R < 4) (hw : zwr W (rs R)) (ht : zat tS tV i (ztr nm (rs R) ++ [(30, 0)])) (hi : i + (ztr nm (rs R)).length + 1 ≤ 400) (hs : zbg rs (R + 1) ≤ 400) : ∃ x', (∀ f, f_X2_readLanguage_20 (f + 1) (nI l) x = f_X2_readLanguage_20 f (nI (l + 1)) x') ∧ zLn tS tV b v nm x0 P M rs W (i + (ztr nm (rs R)).length + 1) W (R + 1) g nr x' := by
  have hq := ht.r.one.1
  have h0 : tS i = 9 + (rs R).1 := ht.l.l.c.1
  have h2 := hw.1
  obtain ⟨x1, a1, a2⟩ := zrule h hR hw ht.l (by omega) hs hq
  obtain ⟨x2, b1, b2, b3, b4⟩ := zex a2.1 (by omega) hq
  refine ⟨x2, fun f => ?_, a2.m ⟨b3, b4⟩ b2.1⟩
  rw [f_X2_readLanguage_20, if_neg (show ¬ (400 : Int32) ≤ nI l from nI_ge (b := 400) hl (by omega)), h.1.2.2.1, if_neg (by decide), h.1.sg, h0, if_neg (by omega), if_neg (by omega), if_neg (by omega), if_neg (by omega), a1, pp_b]
  unfold f_X2_readLanguage_128
  rw [b1, pp_b, nI_1]
/-- all words -/
theorem zl_ws (h : zLn tS tV b v nm x0 P M rs V 0 0 R g nr x) {W0 : Nat} (hW : W0 ≤ 8) (hM : ∀ j, j < W0 → 1 ≤ M j ∧ M j ≤ 3) (hP : ∀ w, w < W0 → ∀ j, j < M w → zwp (P w j)) : ∀ k, k ≤ W0 → zat tS tV 0 (zLw nm P M k) → (zLw nm P M k).length ≤ 400 → ∃ x', (∀ f, f_X2_readLanguage_20 (f + k) (nI 0) x = f_X2_readLanguage_20 f (nI k) x') ∧ zLn tS tV b v nm x0 P M rs V (zLw nm P M k).length k R g nr x' := by
  intro k
  induction k with
  | zero => intro _ _ _; exact ⟨x, fun f => rfl, h⟩
  | succ k ih =>
    intro hk ht hi
    have ht' : zat tS tV 0 (zLw nm P M k ++ (ztw nm (P k) (M k) k ++ [(30, 0)])) := ht
    have el : (zLw nm P M (k + 1)).length = (zLw nm P M k).length + ((ztw nm (P k) (M k) k).length + 1) := by
      show (zLw nm P M k ++ (ztw nm (P k) (M k) k ++ [(30, 0)])).length = _
      rw [List.length_append, List.length_append]
      rfl
    obtain ⟨x1, a1, a2⟩ := ih (by omega) ht'.l (by omega)
    have tr := ht'.r
    rw [Nat.zero_add] at tr
    obtain ⟨x2, b1, b2⟩ := zl_w (l := k) a2 (by omega) (by omega) (hM k (by omega)) (hP k (by omega)) tr (by omega)
    refine ⟨x2, fun f => ?_, by rw [el, ← Nat.add_assoc]; exact b2⟩
    rw [show f + (k + 1) = f + 1 + k by omega, a1, b1]
theorem zl_rs {i0 : Nat} (h : zLn tS tV b v nm x0 P M rs W i0 W 0 g nr x) {R0 : Nat} (hR : R0 ≤ 4) (hw : ∀ k, k < R0 → zwr W (rs k)) (hl : l < 300) (hbg : zbg rs R0 ≤ 400) : ∀ k, k ≤ R0 → zat tS tV i0 (zLr nm rs k) → i0 + (zLr nm rs k).length ≤ 400 → ∃ x', (∀ f, f_X2_readLanguage_20 (f + k) (nI l) x = f_X2_readLanguage_20 f (nI (l + k)) x') ∧ zLn tS tV b v nm x0 P M rs W (i0 + (zLr nm rs k).length) W k g nr x' := by
  intro k
  induction k with
  | zero => intro _ _ _; exact ⟨x, fun f => rfl, h⟩
  | succ k ih =>
    intro hk ht hi
    have ht' : zat tS tV i0 (zLr nm rs k ++ (ztr nm (rs k) ++ [(30, 0)])) := ht
    have el : (zLr nm rs (k + 1)).length = (zLr nm rs k).length + ((ztr nm (rs k)).length + 1) := by
      show (zLr nm rs k ++ (ztr nm (rs k) ++ [(30, 0)])).length = _
      rw [List.length_append, List.length_append]
      rfl
    obtain ⟨x1, a1, a2⟩ := ih (by omega) ht'.l (by omega)
    have hbk : zbg rs (k + 1) ≤ 400 := by
      have hmono : ∀ n m, n ≤ m → zbg rs n ≤ zbg rs m := by
        intro n m hnm
        induction m with
        | zero => rw [show n = 0 by omega]; exact Nat.le_refl _
        | succ m ihm =>
          by_cases e : n = m + 1
          · rw [e]; exact Nat.le_refl _
          · have := ihm (by omega)
            rw [zbgS]
            omega
      exact Nat.le_trans (hmono _ _ hk) hbg
    obtain ⟨x2, b1, b2⟩ := zl_r (l := l + k) a2 (by omega) (by omega) (hw k (by omega)) ht'.r (by omega) hbk
    refine ⟨x2, fun f => ?_, by rw [el, ← Nat.add_assoc, ← Nat.add_assoc]; exact b2⟩
    rw [show f + (k + 1) = f + 1 + k by omega, a1, b1]
    rfl
/-- the whole language -/
def zLt (nm : Nat → Nat) (P : Nat → Nat → ZP) (M : Nat → Nat) (rs : Nat → ZR) (W hb g hn nr R : Nat) : ZC := zLw nm P M W ++ (zLb hb g ++ (zLe hn nr ++ zLr nm rs R))
theorem zl_all (h : zLn tS tV b v nm x0 P M rs W 0 0 0 4 6 x) {hb hn : Nat} (hW : W ≤ 8) (hM : ∀ j, j < W → 1 ≤ M j ∧ M j ≤ 3) (hP : ∀ w, w < W → ∀ j, j < M w → zwp (P w j)) (hR : R ≤ 4) (hw : ∀ k, k < R → zwr W (rs k)) (hbg : zbg rs R ≤ 400) (hg : if hb = 1 then g ≤ 20 else g = 4) (hr : if hn = 1 then nr ≤ 99 else nr = 6) (ht : zat tS tV 0 (zLt nm P M rs W hb g hn nr R)) (hi : (zLt nm P M rs W hb g hn nr R).length ≤ 399) (hend : tS (zLt nm P M rs W hb g hn nr R).length = 44) : ∃ x', f_X2_readLanguage_20 g_fuel (nI 0) x = some x' ∧ zLn tS tV b v nm x0 P M rs W (zLt nm P M rs W hb g hn nr R).length W R g nr x' := by
  have el : (zLt nm P M rs W hb g hn nr R).length = (zLw nm P M W).length + (zLb hb g).length + (zLe hn nr).length + (zLr nm rs R).length := by
    unfold zLt
    rw [List.length_append, List.length_append, List.length_append]
    omega
  rw [el] at hi hend ⊢
  obtain ⟨x1, a1, a2⟩ := zl_ws h hW hM hP W (Nat.le_refl _) ht.l (by omega)
  have tb := ht.r.l
  have tn := ht.r.r.l
  have tr := ht.r.r.r
  rw [Nat.zero_add] at tb tn tr
  -- band
  obtain ⟨x2, n2, b0, b1, b2⟩ : ∃ x2 n2, n2 ≤ 1 ∧ (∀ f, f_X2_readLanguage_20 (f + n2) (nI W) x1 = f_X2_readLanguage_20 f (nI (W + n2)) x2) ∧ zLn tS tV b v nm x0 P M rs W ((zLw nm P M W).length + (zLb hb g).length) W 0 g 6 x2 := by
    unfold zLb at tb hi ⊢
    by_cases q : hb = 1
    · rw [if_pos q] at tb hi hg ⊢
      obtain ⟨x2, c1, c2⟩ := zl_n (l := W) (k := 6) (w := g) a2 (by omega) (Or.inl rfl) hg tb (by have : (zLw nm P M W).length + 3 + (zLe hn nr).length + (zLr nm rs R).length ≤ 399 := hi; omega)
      exact ⟨x2, 1, by omega, c1, c2⟩
    · rw [if_neg q] at hg ⊢
      rw [hg]
      exact ⟨x1, 0, by omega, fun f => rfl, a2⟩
  -- near
  obtain ⟨x3, n3, c0, c1, c2⟩ : ∃ x3 n3, n3 ≤ 2 ∧ (∀ f, f_X2_readLanguage_20 (f + n3) (nI (W + n2)) x2 = f_X2_readLanguage_20 f (nI (W + n2 + n3)) x3) ∧ zLn tS tV b v nm x0 P M rs W ((zLw nm P M W).length + (zLb hb g).length + (zLe hn nr).length) W 0 g nr x3 := by
    unfold zLe at tn hi ⊢
    by_cases q : hn = 1
    · rw [if_pos q] at tn hi hr ⊢
      have hi' : (zLw nm P M W).length + (zLb hb g).length + 6 + (zLr nm rs R).length ≤ 399 := hi
      have tn' : zat tS tV ((zLw nm P M W).length + (zLb hb g).length) ([(7 + 1, 0), (42, nI 5), (30, 0)] ++ [(7 + 1, 0), (42, nI nr), (30, 0)]) := tn
      obtain ⟨x3, d1, d2⟩ := zl_n (l := W + n2) (k := 7) (w := 5) b2 (by omega) (Or.inr rfl) (by decide) tn'.l (by omega)
      obtain ⟨x4, e1, e2⟩ := zl_n (l := W + n2 + 1) (k := 7) (w := nr) d2 (by omega) (Or.inr rfl) hr tn'.r (by omega)
      exact ⟨x4, 2, by omega, fun f => (d1 (f + 1)).trans (e1 f), e2⟩
    · rw [if_neg q] at hr ⊢
      rw [hr]
      exact ⟨x2, 0, by omega, fun f => rfl, b2⟩
  obtain ⟨x4, d1, d2⟩ := zl_rs (l := W + n2 + n3) c2 hR hw (by omega) hbg R (Nat.le_refl _) tr (by omega)
  refine ⟨x4, ?_, d2⟩
  obtain ⟨F, hF⟩ : ∃ F, g_fuel = F + 1 + R + n3 + n2 + W := ⟨g_fuel - (1 + R + n3 + n2 + W), by unfold g_fuel; omega⟩
  rw [hF, a1, b1, c1, d1, f_X2_readLanguage_20, if_neg (show ¬ (400 : Int32) ≤ nI (W + n2 + n3 + R) from nI_ge (b := 400) (by omega) (by omega)), d2.1.2.2.1, if_neg (by decide), d2.1.sg, hend, if_pos rfl]
end ZTE
