/-! drawing: the dice, the main builder, the talk -/
def zoF (y z : MS) : Prop := ∀ i, h_K y i ≠ 0 → h_K y i ≠ 50 → h_K y i ≠ 54 → h_K y i ≠ 61 → ye y z i
def zoS (d sb : Nat) (B : List Nat) (y : MS) : Prop := h_K y d = 50 ∧ zB y sb B ∧ yO y ∧ 200 ≤ h_nx y
def zoT (τ : TI) (W g nr w : Nat) (P : Nat → Nat → ZP) (M : Nat → Nat) (y : MS) : Prop := (h_K y (ti_t τ) = 53 ∧ h_I y (ti_t τ) 0 = nI g ∧ h_I y (ti_t τ) 1 = nI nr ∧ h_R y (ti_t τ) 2 = ti_w τ ∧ h_R y (ti_t τ) 3 = ti_p τ ∧ h_R y (ti_t τ) 4 = ti_h τ ∧ h_I y (ti_t τ) 5 = 0 ∧ h_I y (ti_t τ) 6 = 0 ∧ h_R y (ti_t τ) 8 = ti_c τ ∧ h_R y (ti_t τ) 9 = ti_s τ) ∧ (h_K y (ti_w τ) = 63 ∧ h_N y (ti_w τ) = W) ∧ (h_K y (ti_p τ) = 62 ∧ h_N y (ti_p τ) = W ∧ h_I y (ti_p τ) = fun _ => 0) ∧ (h_K y (ti_c τ) = 60 ∧ h_N y (ti_c τ) = 576) ∧ (h_K y (ti_s τ) = 60 ∧ h_N y (ti_s τ) = 576) ∧ ti_c τ ≠ ti_s τ ∧ (h_K y (ti_h τ) = 60 ∧ h_N y (ti_h τ) = 0 ∧ ti_h τ ≠ ti_c τ ∧ ti_h τ ≠ ti_s τ) ∧ ∀ j, j < w → yr y (h_R y (ti_w τ) j) (zpi (P j) (M j)) (zln (P j) (M j)) ∧ 0 < zln (P j) (M j) ∧ h_R y (ti_w τ) j ≠ ti_c τ ∧ h_R y (ti_w τ) j ≠ ti_s τ
section ZO
variable {x y z y' : MS} {d sb i a W g nr w : Nat} {B C : List Nat} {α : Type} {τ : TI} {P : Nat → Nat → ZP} {M : Nat → Nat}
theorem zoF.rf (y : MS) : zoF y y := fun i _ _ _ _ => ye.rf y i
theorem zoF.tr (h : zoF x y) (k : zoF y z) : zoF x z := fun i h0 h1 h2 h3 => by
  have e := h i h0 h1 h2 h3
  exact e.tr (k i (by rw [e.1]; exact h0) (by rw [e.1]; exact h1) (by rw [e.1]; exact h2) (by rw [e.1]; exact h3))
theorem zoF.of {Q : Nat → Prop} (hO : yO y) (f : yF Q y z) (hQ : ∀ i, Q i → h_K y i = 0 ∨ h_K y i = 50 ∨ h_K y i = 54 ∨ h_K y i = 61) : zoF y z := fun i h0 h1 h2 h3 => f i (hO.lt h0) (fun q => by have := hQ i q; omega)
theorem zoS.e {Q : Nat → Prop} (h : zoS d sb B y) (g : yG a y y') (f : yF Q y y') (hd : h_K y' d = 50) (hQ : ∀ i, Q i → h_K y i ≠ 54 ∧ h_K y i ≠ 61) : zoS d sb B y' := by
  obtain ⟨h1, h2, h3, h4⟩ := h
  refine ⟨hd, h2.e (f sb (h3.k h2.1.1) (fun q => (hQ _ q).1 h2.1.1)) (f _ (h3.k h2.2.1.2.1) (fun q => (hQ _ q).2 h2.2.1.2.1)), g.2.2.2.2 h3, Nat.le_trans h4 g.1⟩
theorem zoS.di {n : Nat} (h : zoS d sb B y) (h0 : 0 < n) (hn : n < 2 ^ 30) : ∃ k y', k < n ∧ f_l_X13_next d (nI n) y = some (nI k, y') ∧ zoS d sb B y' ∧ yG 0 y y' ∧ zoF y y' ∧ h_nx y' = h_nx y := by
  obtain ⟨k, y', e1, e2, e3, e4⟩ := zyd h.1 h0 hn
  refine ⟨k, y', e1, e2, h.e e3.1 e3.2.1 e3.2.2 (fun i q => ?_), e3.1, zoF.of h.2.2.1 e3.2.1 (fun i q => ?_), e4⟩
  · rw [q, h.1]; exact ⟨by decide, by decide⟩
  · rw [q, h.1]; exact Or.inr (Or.inl rfl)
theorem zoS.fr (h : zoS d sb B y) (hB : zB y' sb C) (g : yG a y y') (f : zFr sb y y') : zoS d sb C y' ∧ zoF y y' := by
  have k1 := h.2.1.1.1
  have k2 := h.2.1.2.1.2.1
  refine ⟨⟨(f.1 d (h.2.2.1.k h.1) (fun q => ?_)).1.trans h.1, hB, g.2.2.2.2 h.2.2.1, Nat.le_trans h.2.2.2 g.1⟩, zoF.of h.2.2.1 f.1 (fun i q => ?_)⟩
  · have := h.1
    rcases q with q | q <;> rw [q] at this <;> omega
  · rcases q with q | q <;> rw [q]
    · exact Or.inr (Or.inr (Or.inl k1))
    · exact Or.inr (Or.inr (Or.inr k2))
theorem zoS.ap (h : zoS d sb B y) (hC : zH y i C) (hL : B.length + C.length ≤ 1499) (hb : yb y 5) : ∃ y', (∀ F : Nat × MS → Option α, (if h_K y sb = 54 then ((f_l_J4_append_15ec4 sb i y).bind F) else none) = F (sb, y')) ∧ zoS d sb (B ++ C) y' ∧ yG 5 y y' ∧ zoF y y' := by
  obtain ⟨y1, e1, e2, e3, e4⟩ := zapp (L := 1499) (u := 5) h.2.1 hC hL (by omega) (by omega) (by omega) hb h.2.2.1 h.2.2.2
  exact ⟨y1, fun F => by rw [if_pos h.2.1.1.1, e1, pp_b], (h.fr e2 e3 e4).1, e3, (h.fr e2 e3 e4).2⟩
theorem zoS.nu {m : Nat} {v : Int32} (h : zoS d sb B y) (hv : v = nI m) (hm : m < 1000000) (hL : B.length ≤ 1490) (hb : yb y 5) : ∃ y', (∀ F : Nat × MS → Option α, (if h_K y sb = 54 then ((f_l_J4_append_bf812 sb v y).bind F) else none) = F (sb, y')) ∧ zoS d sb (B ++ zdg m) y' ∧ yG 5 y y' ∧ zoF y y' := by
  obtain ⟨y1, e1, e2, e3, e4⟩ := zapn (L := 1499) (u := 5) h.2.1 hm (by omega) (by omega) (by omega) (by omega) hb h.2.2.1 h.2.2.2
  exact ⟨y1, fun F => by rw [hv, if_pos h.2.1.1.1, e1, pp_b], (h.fr e2 e3 e4).1, e3, (h.fr e2 e3 e4).2⟩
/-- the talk where its cells stay -/
theorem zoT.e (h : zoT τ W g nr w P M y) (he : ∀ i, h_K y i = 53 ∨ h_K y i = 60 ∨ h_K y i = 62 ∨ h_K y i = 63 → ye y z i) : zoT τ W g nr w P M z := by
  obtain ⟨⟨a1, a2⟩, ⟨b1, b2⟩, ⟨c1, c2⟩, ⟨d1, d2⟩, ⟨f1, f2⟩, n1, ⟨g1, g2⟩, hw⟩ := h
  have et := he _ (Or.inl a1)
  have ew := he _ (Or.inr (Or.inr (Or.inr b1)))
  have ep := he _ (Or.inr (Or.inr (Or.inl c1)))
  have ec := he _ (Or.inr (Or.inl d1))
  have es := he _ (Or.inr (Or.inl f1))
  have eh := he _ (Or.inr (Or.inl g1))
  unfold zoT
  rw [et.1, et.2.1, et.2.2.1, ew.1, ew.2.2.2, ew.2.2.1, ep.1, ep.2.1, ep.2.2.2, ec.1, ec.2.2.2, es.1, es.2.2.2, eh.1, eh.2.2.2]
  exact ⟨⟨a1, a2⟩, ⟨b1, b2⟩, ⟨c1, c2⟩, ⟨d1, d2⟩, ⟨f1, f2⟩, n1, ⟨g1, g2⟩, fun j hj => ⟨(hw j hj).1.e (he _ (Or.inr (Or.inl (hw j hj).1.1))), (hw j hj).2⟩⟩
theorem zoT.F (h : zoT τ W g nr w P M y) (hF : zoF y z) : zoT τ W g nr w P M z := h.e (fun i hi => hF i (by omega) (by omega) (by omega) (by omega))
theorem zoT.c {P' : Nat → Nat → ZP} {M' : Nat → Nat} (h : zoT τ W g nr w P M y) (hc : ∀ j, j < w → P' j = P j ∧ M' j = M j) : zoT τ W g nr w P' M' y := by
  obtain ⟨a, b, c, d, f, n1, g1, hw⟩ := h
  exact ⟨a, b, c, d, f, n1, g1, fun j hj => by rw [(hc j hj).1, (hc j hj).2]; exact hw j hj⟩
end ZO
/-- what drawing leaves -/
def zoZ (d sb t W u : Nat) (y : MS) (o : Option (Nat × MS)) : Prop := ∃ y' P M nl rs hb g hn nr R τ, o = some (t, y') ∧ yG u y y' ∧ h_K y' d = 50 ∧ yT (zPV W g P M) 0 0 nr R y' τ ∧ ti_t τ = t ∧ zhs W y' τ R rs ∧ zwL P M rs W hb g hn nr R ∧ zB y' sb (zibs (zlang P M nl rs W hb g hn nr R))
theorem zoZ.g {d sb t W u v a : Nat} {y y' : MS} {o : Option (Nat × MS)} (h : zoZ d sb t W u y' o) (g : yG a y y') (hv : a + u ≤ v) : zoZ d sb t W v y o := by
  obtain ⟨y2, P, M, nl, rs, hb, g', hn, nr, R, τ, h1, h2, h3⟩ := h
  exact ⟨y2, P, M, nl, rs, hb, g', hn, nr, R, τ, h1, (g.tr h2).mo hv, h3⟩
