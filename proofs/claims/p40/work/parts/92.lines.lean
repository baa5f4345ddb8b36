/-! the class reads a language line by line -/
/-- where a rule's codes begin -/
def zbg (rs : Nat → ZR) : Nat → Nat
  | 0 => 0
  | k + 1 => zbg rs k + (zcs (rs k)).length + (zct (rs k)).length
theorem zbgS (rs : Nat → ZR) (k : Nat) : zbg rs (k + 1) = zbg rs k + (zcs (rs k)).length + (zct (rs k)).length := rfl
theorem zbgM (rs : Nat → ZR) {k : Nat} : ∀ R, k < R → zbg rs k + (zcs (rs k)).length + (zct (rs k)).length ≤ zbg rs R := by
  intro R
  induction R with
  | zero => intro h; omega
  | succ R ih =>
    intro h
    rw [zbgS]
    by_cases e : k = R
    · rw [e]
      exact Nat.le_refl _
    · have := ih (by omega)
      omega
/-- a rule as the class keeps it -/
def zrd (x : CS) (b k bg : Nat) (r : ZR) : Prop := x.2 (pp_rr b k) 0 = 9 + r.1 ∧ x.1 (pp_rr b k) 1 = nI r.2.1 ∧ x.1 (pp_rr b k) 2 = nI bg ∧ x.1 (pp_rr b k) 3 = nI (bg + (zcs r).length) ∧ x.1 (pp_rr b k) 4 = nI (bg + (zcs r).length + (zct r).length) ∧ zat (x.2 (b + 3)) (x.1 (b + 4)) bg (zcs r ++ zct r)
/-- what teaching never writes -/
def zO (b v : Nat) (x0 x : CS) : Prop := ∀ i, i ≠ 162 → i ≠ 163 → ¬ (b ≤ i ∧ i ≤ b + 20) → ¬ (v ≤ i ∧ i ≤ v + 28) → x.1 i = x0.1 i ∧ x.2 i = x0.2 i
def zgd (W : Nat) (sg : Nat → Nat) (vl : Nat → Int32) (s : Nat) : Prop := ∀ p, p < s → sg p < 46 ∧ (pp_ar (sg p) = 0 → pp_lk W (sg p) (vl p))
def zLn (tS : Nat → Nat) (tV : Nat → Int32) (b v : Nat) (nm : Nat → Nat) (x0 : CS) (P : Nat → Nat → ZP) (M : Nat → Nat) (rs : Nat → ZR) (V i W R g nr : Nat) (x : CS) : Prop := zS tS tV b v i (zbg rs R) x ∧ zN v W nm x ∧ x.1 v 3 = 0 ∧ x.1 v 4 = 0 ∧ (∀ j, j < W → x.1 (pp_wd v j) 1 = 0 ∧ x.1 (pp_wd v j) 2 = 999 ∧ zRw x v j (zpi (P j) (M j)) (zln (P j) (M j))) ∧ (x.1 b 4 = nI R ∧ x.1 b 6 = nI g ∧ x.1 b 7 = nI nr) ∧ (∀ k, k < R → zrd x b k (zbg rs k) (rs k)) ∧ zgd V (x.2 (b + 3)) (x.1 (b + 4)) (zbg rs R) ∧ zO b v x0 x ∧ R ≤ 4
section ZLN
variable {tS : Nat → Nat} {tV : Nat → Int32} {b v i V W R g nr : Nat} {x y z x0 : CS} {nm : Nat → Nat} {P : Nat → Nat → ZP} {M : Nat → Nat} {rs : Nat → ZR}
theorem zO.rf (b v : Nat) (x : CS) : zO b v x x := fun _ _ _ _ _ => ⟨rfl, rfl⟩
theorem zS.mv {s s' : Nat} (h : zS tS tV b v i s x) (h1 : ∀ j, j = 4 ∨ j = 162 → y.2 j = x.2 j) (h2 : ∀ j, j = 7 ∨ j = 162 → y.1 j = x.1 j) (h3 : y.1 b 5 = nI s') : zS tS tV b v i s' y := by
  obtain ⟨a1, a2, a3, a4, a5, a6, a7, a8, a9, a10, a11⟩ := h
  refine ⟨by rw [h1 4 (Or.inl rfl)]; exact a1, by rw [h2 7 (Or.inl rfl)]; exact a2, ?_, ?_, ?_, ?_, ?_, ?_, h3, a10, a11⟩
  · rw [h2 162 (Or.inr rfl)]; exact a3
  · rw [h2 162 (Or.inr rfl)]; exact a4
  · rw [h1 162 (Or.inr rfl)]; exact a5
  · rw [h2 162 (Or.inr rfl)]; exact a6
  · rw [h1 162 (Or.inr rfl)]; exact a7
  · rw [h1 162 (Or.inr rfl)]; exact a8
/-- the parser alone moves on -/
theorem zLn.m {i' : Nat} (h : zLn tS tV b v nm x0 P M rs V i W R g nr x) (hm : zM x y) (hs : zS tS tV b v i' (zbg rs R) y) : zLn tS tV b v nm x0 P M rs V i' W R g nr y := by
  obtain ⟨h1, h2, h3, h4, h5, h6, h7, h8, h9, h10⟩ := h
  have hb := h1.hb
  have hv := h1.hv
  have hW := h2.1
  refine ⟨hs, ?_, ?_, ?_, fun j hj => ?_, ?_, fun k hk => ?_, ?_, fun j q1 q2 q3 q4 => ?_, h10⟩
  · obtain ⟨a1, a2, a3, a4⟩ := h2
    exact ⟨a1, by rw [hm.1 v (by omega)]; exact a2, fun k hk => by rw [hm.1 163 (by omega)]; exact a3 k hk, a4⟩
  · rw [hm.1 v (by omega)]; exact h3
  · rw [hm.1 v (by omega)]; exact h4
  · have n1 : pp_wd v j ≠ 162 := by unfold pp_wd; omega
    rw [hm.1 _ n1]
    exact ⟨(h5 j hj).1, (h5 j hj).2.1, (h5 j hj).2.2.M hm hv (by omega)⟩
  · rw [hm.1 b (by omega)]; exact h6
  · have h7k := h7 k hk
    have e : pp_rr b k ≠ 162 := by unfold pp_rr; omega
    unfold zrd
    rw [hm.2 _ e, hm.1 _ e, hm.2 (b + 3) (by omega), hm.1 (b + 4) (by omega)]
    exact h7k
  · rw [hm.2 (b + 3) (by omega), hm.1 (b + 4) (by omega)]; exact h8
  · rw [hm.1 j q1, hm.2 j q1]; exact h9 j q1 q2 q3 q4
/-- tokens of a word -/
def ztw (nm : Nat → Nat) (P : Nat → ZP) (m w : Nat) : ZC := [(0, 0), (41, nI (nm w)), (1, 0)] ++ (ztp (P 0) ++ ztq P 1 (m - 1))
theorem zword (h : zLn tS tV b v nm x0 P M rs V i W R g nr x) (hW : W < 8) (hM : 1 ≤ M W ∧ M W ≤ 3) (hP : ∀ j, j < M W → zwp (P W j)) (ht : zat tS tV i (ztw nm (P W) (M W) W)) (hi : i + (ztw nm (P W) (M W) W).length < 400) (hq : tS (i + (ztw nm (P W) (M W) W).length) = 30) : ∃ x', f_X2_readWord x = some x' ∧ zLn tS tV b v nm x0 P M rs V (i + (ztw nm (P W) (M W) W).length) (W + 1) R g nr x' := by
  have el : (ztw nm (P W) (M W) W).length = 3 + (ztp (P W 0)).length + (ztq (P W) 1 (M W - 1)).length := by
    unfold ztw
    rw [List.length_append, List.length_append]
    show 3 + _ = _
    omega
  rw [el] at hi hq ⊢
  obtain ⟨g1, -, g2⟩ := ht.l.c
  obtain ⟨g3, g4, g5⟩ := g2.c
  have g6 := g5.one.1
  have tp := ht.r.l
  have tq := ht.r.r
  change zat tS tV (i + 3) (ztp (P W 0)) at tp
  change zat tS tV (i + 3 + (ztp (P W 0)).length) (ztq (P W) 1 (M W - 1)) at tq
  have hb := h.1.hb
  have hv := h.1.hv
  -- behind WORD
  obtain ⟨x1, a1, a2, a3, a4⟩ := zst h.1 (by omega)
  have h1 := h.m ⟨a3, a4⟩ a2.1
  -- the name
  obtain ⟨wd, hwd⟩ : ∃ q, q = pp_wd v W := ⟨_, rfl⟩
  have hw1 : v + 5 ≤ wd ∧ wd ≤ v + 26 := by rw [hwd]; unfold pp_wd; omega
  obtain ⟨k1, k2, k3, k4, k5, k6, k7, k8, k9, k10⟩ := id h1
  obtain ⟨n1, n2, n3, n4, n5⟩ := id k2
  have ncall : f_X2_wordCalled (nI (nm W)) x1 = some (-1) := by
    have key : ∀ d fu k, d = W - k → d < fu → k ≤ W → f_X2_wordCalled_2 x1 fu (nI (nm W)) (nI k) = some (-1) := by
      intro d
      induction d with
      | zero =>
        intro fu k hd hfu hk
        obtain ⟨f1, rfl⟩ : ∃ f, fu = f + 1 := ⟨fu - 1, by omega⟩
        rw [f_X2_wordCalled_2, k1.2.2.2.2.2.2.2.1, if_pos (pp_k9 hv), n2, if_pos (nI_le (by omega) (by omega))]
      | succ d ih =>
        intro fu k hd hfu hk
        obtain ⟨f1, rfl⟩ : ∃ f, fu = f + 1 := ⟨fu - 1, by omega⟩
        have m1 := n4 k (by omega)
        have m2 := n4 W (by omega)
        rw [f_X2_wordCalled_2, k1.2.2.2.2.2.2.2.1, if_pos (pp_k9 hv), n2, if_neg (nI_ge (by omega) (by omega)), if_neg (show ¬ (8 : Int32) ≤ nI k from nI_ge (b := 8) (by omega) (by omega)), if_pos ((pp_ok (by omega)).mpr (by omega)), nI_clamp (by omega), n3 k (by omega), if_neg (by rw [nI_eq (by omega) (by omega)]; intro q; have := n5 k W (by omega) (by omega) q; omega), nI_1]
        exact ih f1 (k + 1) (by omega) (by omega) (by omega)
    exact key (W - 0) g_fuel 0 rfl (by unfold g_fuel; omega) (by omega)
  obtain ⟨Y, hY⟩ : ∃ Y, Y = g_wi (g_wi (g_wi (g_wi (g_wi x1 163 W (nI (nm W))) (wd + 1) 1 0) wd 1 0) wd 2 999) v 2 (nI (W + 1)) := ⟨_, rfl⟩
  have d1 : (163 : Nat) ≠ wd + 1 ∧ (163 : Nat) ≠ wd ∧ (163 : Nat) ≠ v ∧ wd + 1 ≠ wd ∧ wd + 1 ≠ v ∧ wd ≠ v ∧ v ≠ 163 ∧ wd ≠ 163 ∧ wd + 1 ≠ 163 ∧ v ≠ wd ∧ v ≠ wd + 1 ∧ wd ≠ wd + 1 := by omega
  obtain ⟨e1, e2, e3, e4, e5, e6, e7, e8, e9, e10, e11, e12⟩ := d1
  have Yo : ∀ j, j ≠ 163 → j ≠ wd + 1 → j ≠ wd → j ≠ v → Y.1 j = x1.1 j := fun j q1 q2 q3 q4 => by rw [hY]; simp [g_wi, q1, q2, q3, q4]
  have Y2 : Y.2 = x1.2 := by rw [hY]; rfl
  have Yn : ∀ k, Y.1 163 k = if k = W then nI (nm W) else x1.1 163 k := fun k => by rw [hY]; simp [g_wi, upd, e1, e2, e3]
  have Yr : Y.1 (wd + 1) 1 = 0 := by rw [hY]; simp [g_wi, upd, e4, e5]
  have Yp : Y.1 wd 1 = 0 ∧ Y.1 wd 2 = 999 := by rw [hY]; simp [g_wi, upd, e6]
  have Yv : ∀ k, k ≠ 2 → Y.1 v k = x1.1 v k := fun k hk => by rw [hY]; simp [g_wi, upd, hk, e7, e10, e11]
  have Yc : Y.1 v 2 = nI (W + 1) := by rw [hY]; simp [g_wi, upd]
  have sY : zS tS tV b v (i + 1) (zbg rs R) Y := k1.mv (fun j _ => by rw [Y2]) (fun j hj => Yo j (by omega) (by omega) (by omega) (by omega)) (by rw [Yo b (by omega) (by omega) (by omega) (by omega)]; exact k1.2.2.2.2.2.2.2.2.1)
  obtain ⟨x2, b1, b2, b3, b4⟩ := zst sY (by omega)
  have nnew : f_X2_readNewName x1 = some x2 := by
    unfold f_X2_readNewName
    rw [k1.sg, if_pos g3, k1.2.2.2.2.2.1, g4, ncall, pp_b, if_pos rfl]
    unfold f_X2_readNewName_32 f_X2_readNewName_90
    rw [k1.2.2.2.2.2.2.2.1, if_pos (pp_k9 hv), n2, if_pos (show nI W < (8 : Int32) from nI_lt (b := 8) hW (by omega)), if_neg (show ¬ (8 : Int32) ≤ nI W from nI_ge (b := 8) hW (by omega)), if_pos ((pp_ok (by omega)).mpr hW), nI_clamp (by omega), k1.2.2.2.2.2.1, g4]
    have c1 : (g_wi x1 163 W (nI (nm W))).2 162 2 = v := k1.2.2.2.2.2.2.2.1
    rw [c1, if_pos (pp_k9 hv)]
    unfold f_X9_addWord
    have c2 : (g_wi x1 163 W (nI (nm W))).1 v 2 = nI W := by simp [g_wi, e7, n2]
    rw [c2, if_neg (show ¬ (8 : Int32) ≤ nI W from nI_ge (b := 8) hW (by omega)), pp_word hW, pp_b, if_pos (pp_k10 hv hW), ← hwd]
    have c3 : (g_wi (g_wi (g_wi (g_wi x1 163 W (nI (nm W))) (wd + 1) 1 0) wd 1 0) wd 2 999).1 v 2 = nI W := by simp [g_wi, e7, e10, e11, n2]
    rw [c3, nI_1, pp_b, ← hY, b1]
    rfl
  obtain ⟨x3, c1, c2, c3, c4⟩ := zex b2.1 (by omega) (show tS (i + 1 + 1) = 1 from g6)
  have hM3 : zM Y x3 := (show zM Y x2 from ⟨b3, b4⟩).tr ⟨c3, c4⟩
  have nv : v ≠ 162 := by omega
  have hc3 : x3.1 v 2 = nI (W + 1) := by rw [hM3.1 v nv]; exact Yc
  obtain ⟨x4, f1, f2, f3, f4⟩ := zpart (P := P W) (w := W) (m := 0) c2.1 hc3 hW (fun j hj => hP j (by omega)) (by omega) ⟨by rw [← hwd, hM3.1 (wd + 1) (by omega)]; exact Yr, fun k hk => by cases hk⟩ (by show zat tS tV (i + 1 + 1 + 1) _; exact tp) (by omega)
  have hV4 : zV v W Y x4 := hM3.V.tr f4
  have nwd : ∀ k, k = v → k ≠ 162 ∧ k ≠ pp_wd v W + 1 ∧ k ≠ pp_wd v W + 2 := fun k hk => by unfold pp_wd; omega
  obtain ⟨x5, j1, j2, j3, j4⟩ := zparts (P := P W) (w := W) (M := M W) hW hM.2 hP (M W - 1) g_fuel 1 (i + 1 + 1 + 1 + (ztp (P W 0)).length) 0 x4 (by omega) (by omega) (by unfold g_fuel; omega) (by omega) f2 (by rw [hV4.1 v (nwd v rfl).1 (nwd v rfl).2.1 (nwd v rfl).2.2]; exact Yc) f3 (by show zat tS tV (i + 3 + _) _; exact tq) (by omega) (by rw [show i + 1 + 1 + 1 + (ztp (P W 0)).length + (ztq (P W) 1 (M W - 1)).length = i + (3 + (ztp (P W 0)).length + (ztq (P W) 1 (M W - 1)).length) by omega]; exact hq)
  have hV5 : zV v W Y x5 := hV4.tr j4
  have q162 : ∀ j, j ≠ 162 → j ≠ 163 → j ≠ v → j ≠ wd → j ≠ wd + 1 → j ≠ wd + 2 → x5.1 j = x1.1 j := fun j a1 a2 a3 a4 a5 a6 => by
    rw [hV5.1 j a1 (by rw [← hwd]; exact a5) (by rw [← hwd]; exact a6)]
    exact Yo j a2 a5 a4 a3
  have q2 : ∀ j, j ≠ 162 → x5.2 j = x1.2 j := fun j a1 => by rw [hV5.2 j a1, Y2]
  refine ⟨x5, ?_, ?_, ?_, ?_, ?_, fun j hj => ?_, ?_, fun k hk => ?_, ?_, fun j q1 q3 q4 q5 => ?_, k10⟩
  · unfold f_X2_readWord
    rw [a1, pp_b, nnew, pp_b, c1, pp_b, f1, pp_b]
    exact j1
  · rw [show i + (3 + (ztp (P W 0)).length + (ztq (P W) 1 (M W - 1)).length) = i + 1 + 1 + 1 + (ztp (P W 0)).length + (ztq (P W) 1 (M W - 1)).length by omega]
    exact j2
  · refine ⟨by omega, ?_, fun k hk => ?_, n4, n5⟩
    · rw [hV5.1 v nv (by rw [← hwd]; omega) (by rw [← hwd]; omega)]; exact Yc
    · rw [hV5.1 163 (by omega) (by rw [← hwd]; omega) (by rw [← hwd]; omega), Yn]
      by_cases e : k = W
      · rw [if_pos e, e]
      · rw [if_neg e]; exact n3 k (by omega)
  · rw [hV5.1 v nv (by rw [← hwd]; omega) (by rw [← hwd]; omega), Yv 3 (by decide)]; exact k3
  · rw [hV5.1 v nv (by rw [← hwd]; omega) (by rw [← hwd]; omega), Yv 4 (by decide)]; exact k4
  · by_cases e : j = W
    · subst e
      rw [← hwd, hV5.1 wd (by omega) (by rw [← hwd]; omega) (by rw [← hwd]; omega)]
      refine ⟨Yp.1, Yp.2, ?_⟩
      exact j3
    · have k5j := k5 j (by omega)
      have hj8 : j < W := by omega
      have m1 : pp_wd v j ≠ wd ∧ pp_wd v j ≠ wd + 1 ∧ pp_wd v j ≠ wd + 2 ∧ pp_wd v j + 1 ≠ wd ∧ pp_wd v j + 1 ≠ wd + 1 ∧ pp_wd v j + 1 ≠ wd + 2 ∧ pp_wd v j + 2 ≠ wd ∧ pp_wd v j + 2 ≠ wd + 1 ∧ pp_wd v j + 2 ≠ wd + 2 ∧ v + 5 ≤ pp_wd v j ∧ pp_wd v j ≤ v + 26 := by rw [hwd]; unfold pp_wd; omega
      unfold zRw
      rw [q162 (pp_wd v j) (by omega) (by omega) (by omega) m1.1 m1.2.1 m1.2.2.1, q162 (pp_wd v j + 1) (by omega) (by omega) (by omega) m1.2.2.2.1 m1.2.2.2.2.1 m1.2.2.2.2.2.1, q162 (pp_wd v j + 2) (by omega) (by omega) (by omega) m1.2.2.2.2.2.2.1 m1.2.2.2.2.2.2.2.1 m1.2.2.2.2.2.2.2.2.1]
      exact k5j
  · rw [q162 b (by omega) (by omega) (by omega) (by omega) (by omega) (by omega)]; exact k6
  · have k7k := k7 k hk
    have m1 : b + 5 ≤ pp_rr b k ∧ pp_rr b k ≤ b + 9 := by unfold pp_rr; omega
    unfold zrd
    rw [q2 (pp_rr b k) (by omega), q162 (pp_rr b k) (by omega) (by omega) (by omega) (by omega) (by omega) (by omega), q2 (b + 3) (by omega), q162 (b + 4) (by omega) (by omega) (by omega) (by omega) (by omega) (by omega)]
    exact k7k
  · rw [q2 (b + 3) (by omega), q162 (b + 4) (by omega) (by omega) (by omega) (by omega) (by omega) (by omega)]; exact k8
  · rw [q162 j q1 q3 (by omega) (by omega) (by omega) (by omega), q2 j q1]; exact k9 j q1 q3 q4 q5
end ZLN
