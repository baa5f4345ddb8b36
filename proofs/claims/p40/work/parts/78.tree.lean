/-! a row shifted by hand; expressions on the law's heap and what they are worth -/
section YSH
variable {y : MS} {i n : Nat} {p : Nat → Nat} {d : Int32}
theorem yr.shL (hn : n ≤ 24) (hp : ∀ k, p k ≤ 40) {r : Nat} : ∀ dd fu k z, dd = n - k → dd < fu → k ≤ n → h_K z r = 60 → h_N z r = n → (∀ j, k ≤ j → j < n → h_I z r j = nI (p j)) → (∀ j, j < k → h_I z r j = nI (pp_hd (p j) d)) → ∃ z', f_l_X16_shifted_11 fu d.toInt64 r (nI k) z = some (r, z') ∧ yr z' r (fun j => pp_hd (p j) d) n ∧ yG 0 z z' ∧ yF (fun j => j = r) z z' ∧ h_nx z' = h_nx z := by
  intro dd
  induction dd with
  | zero =>
    intro fu k z hd hfu hk h1 h2 h3 h4
    obtain ⟨f1, rfl⟩ : ∃ f, fu = f + 1 := ⟨fu - 1, by omega⟩
    have e : k = n := by omega
    subst e
    refine ⟨z, ?_, ⟨h1, h2, hn, fun j => pp_hdB _ _, h4⟩, yG.rf z, yF.rf _ z, rfl⟩
    rw [f_l_X16_shifted_11, if_pos h1, h2, if_pos (nI_le (Nat.le_refl k) (by omega))]
  | succ dd ih =>
    intro fu k z hd hfu hk h1 h2 h3 h4
    obtain ⟨f1, rfl⟩ : ∃ f, fu = f + 1 := ⟨fu - 1, by omega⟩
    have b1 := hp k
    have hok : g_ok (nI k) n = true := (pp_ok (by omega)).mpr (by omega)
    rw [f_l_X16_shifted_11, if_pos h1, h2, if_neg (nI_ge (by omega) (by omega)), if_pos hok, nI_clamp (by omega), h3 k (Nat.le_refl _) (by omega)]
    by_cases h0 : p k = 0
    · rw [if_pos (by rw [h0]; rfl), nI_1]
      have e : pp_hd (p k) d = p k := by rw [h0]; rfl
      refine ih f1 (k + 1) z (by omega) (by omega) (by omega) h1 h2 (fun j hj hj2 => h3 j (by omega) hj2) (fun j hj => ?_)
      by_cases e2 : j = k
      · rw [e2, e]; exact h3 k (Nat.le_refl _) (by omega)
      · exact h4 j (by omega)
    · rw [if_neg (nI_ne0 (by omega) (by omega)), if_pos hok, pp_clamp (F := fun w => if g_ok (nI k) n = true then f_l_X16_shifted_11 f1 d.toInt64 r (nI k + 1) (h_wi z r k w) else none) b1 h0, nI_1, if_pos hok]
      obtain ⟨z', i1, i2, i3, i4, i5⟩ := ih f1 (k + 1) (h_wi z r k (nI (pp_hd (p k) d))) (by omega) (by omega) (by omega) h1 h2 (fun j hj hj2 => by rw [ywi_I, pp_u2 (by omega)]; exact h3 j (by omega) hj2) (fun j hj => by
        rw [ywi_I]
        by_cases e2 : j = k
        · rw [e2, pp_u1]
        · rw [pp_u2 e2]; exact h4 j (by omega))
      exact ⟨z', i1, i2, ((ywi_G z r k _).tr i3).mo (by omega), (ywi_F (P := fun j => j = r) rfl).tr i4 (ywi_G z r k _), i5⟩
theorem yr.sh (h : yr y i p n) (hb : yb y 1) (hO : yO y) : ∃ y', f_l_X16_shifted i d.toInt64 y = some (h_nx y, y') ∧ yr y' (h_nx y) (fun j => pp_hd (p j) d) n ∧ yG 1 y y' ∧ yF (fun _ => False) y y' ∧ h_nx y' = h_nx y + 1 := by
  obtain ⟨h1, h2, hn, hp, h5⟩ := h
  unfold f_l_X16_shifted
  rw [if_pos h1, h2, if_pos (yn_rm hb (by omega) (by omega)), if_pos yn_K]
  obtain ⟨z', i1, i2, i3, i4, i5⟩ := yr.shL (d := d) hn hp (n - 0) g_fuel 0 (h_new y 60 (h_I y i) (fun _ => 0) n n) rfl (by unfold g_fuel; omega) (by omega) (yn_K (y := y)) yn_N (fun j _ hj => by rw [yn_I]; exact h5 j hj) (fun j hj => by omega)
  have hG : yG 1 y (h_new y 60 (h_I y i) (fun _ => 0) n n) := yn_G (by omega) (by omega)
  refine ⟨z', i1, i2, (hG.tr i3).mo (by omega), fun j hj hP => ?_, i5⟩
  exact (yn_o hj).tr (i4 j (by rw [yn_nx]; omega) (by omega))
end YSH
/-! expressions: a leaf; a sum; a test of two sums or a leaf; a test -/
abbrev Z0 : Type := Nat × Nat
abbrev Z1 : Type := Nat × Z0 × Z0
abbrev Z2 : Type := Nat × Nat × Z1 × Z0
abbrev Z3 : Type := Nat × Z2 × Z2
/-- the sign of a sort -/
def zg (s : Nat) : Nat := [42, 14, 15, 16, 17, 43, 24, 25, 32, 33, 34, 35, 36, 37, 38, 39, 40, 19, 20, 21, 22, 23].getD s 0
def zh0 (W : Nat) (y : MS) (i : Nat) (e : Z0) : Prop := h_K y i = 51 ∧ h_I y i 0 = nI e.1 ∧ h_I y i 1 = nI e.2 ∧ e.1 < 5 ∧ e.2 < 1000000 ∧ (0 < e.1 → e.2 < W)
def zh1 (W : Nat) (y : MS) (i : Nat) (e : Z1) : Prop := (e.1 = 0 ∧ zh0 W y i e.2.1) ∨ (5 ≤ e.1 ∧ e.1 < 12 ∧ h_K y i = 51 ∧ h_I y i 0 = nI e.1 ∧ zh0 W y (h_R y i 2) e.2.1 ∧ (e.1 ≠ 5 → zh0 W y (h_R y i 3) e.2.2))
def zh2 (W : Nat) (y : MS) (i : Nat) (e : Z2) : Prop := h_K y i = 51 ∧ h_I y i 0 = nI e.1 ∧ ((17 ≤ e.1 ∧ e.1 < 19 ∧ h_I y i 1 = nI e.2.1 ∧ e.2.1 < W) ∨ (12 ≤ e.1 ∧ e.1 < 17 ∧ zh1 W y (h_R y i 2) e.2.2.1 ∧ zh0 W y (h_R y i 3) e.2.2.2))
def zh3 (W : Nat) (y : MS) (i : Nat) (e : Z3) : Prop := (e.1 = 0 ∧ zh2 W y i e.2.1) ∨ (19 ≤ e.1 ∧ e.1 < 22 ∧ h_K y i = 51 ∧ h_I y i 0 = nI e.1 ∧ zh2 W y (h_R y i 2) e.2.1 ∧ (e.1 ≠ 19 → zh2 W y (h_R y i 3) e.2.2))
/-- nodes stay -/
def yP (y z : MS) : Prop := ∀ i, h_K y i = 51 → ye y z i
theorem zh0.P {W : Nat} {y z : MS} {i : Nat} {e : Z0} (h : zh0 W y i e) (hP : yP y z) : zh0 W z i e := by
  obtain ⟨e1, e2, e3, e4⟩ := hP i h.1
  unfold zh0
  rw [e1, e2]
  exact h
theorem zh1.P {W : Nat} {y z : MS} {i : Nat} {e : Z1} (h : zh1 W y i e) (hP : yP y z) : zh1 W z i e := by
  rcases h with ⟨h1, h2⟩ | ⟨h1, h2, h3, h4, h5, h6⟩
  · exact Or.inl ⟨h1, h2.P hP⟩
  · obtain ⟨e1, e2, e3, e4⟩ := hP i h3
    refine Or.inr ⟨h1, h2, by rw [e1]; exact h3, by rw [e2]; exact h4, by rw [e3]; exact h5.P hP, fun q => by rw [e3]; exact (h6 q).P hP⟩
theorem zh2.P {W : Nat} {y z : MS} {i : Nat} {e : Z2} (h : zh2 W y i e) (hP : yP y z) : zh2 W z i e := by
  obtain ⟨h1, h2, h3⟩ := h
  obtain ⟨e1, e2, e3, e4⟩ := hP i h1
  refine ⟨by rw [e1]; exact h1, by rw [e2]; exact h2, ?_⟩
  rcases h3 with ⟨a1, a2, a3, a4⟩ | ⟨a1, a2, a3, a4⟩
  · exact Or.inl ⟨a1, a2, by rw [e2]; exact a3, a4⟩
  · exact Or.inr ⟨a1, a2, by rw [e3]; exact a3.P hP, by rw [e3]; exact a4.P hP⟩
theorem zh3.P {W : Nat} {y z : MS} {i : Nat} {e : Z3} (h : zh3 W y i e) (hP : yP y z) : zh3 W z i e := by
  rcases h with ⟨h1, h2⟩ | ⟨h1, h2, h3, h4, h5, h6⟩
  · exact Or.inl ⟨h1, h2.P hP⟩
  · obtain ⟨e1, e2, e3, e4⟩ := hP i h3
    refine Or.inr ⟨h1, h2, by rw [e1]; exact h3, by rw [e2]; exact h4, by rw [e3]; exact h5.P hP, fun q => by rw [e3]; exact (h6 q).P hP⟩
theorem zh1.k {W : Nat} {y : MS} {i : Nat} {e : Z1} (h : zh1 W y i e) : h_K y i = 51 := by
  rcases h with ⟨h1, h2⟩ | ⟨h1, h2, h3, h4, h5, h6⟩
  · exact h2.1
  · exact h3
theorem zh3.k {W : Nat} {y : MS} {i : Nat} {e : Z3} (h : zh3 W y i e) : h_K y i = 51 := by
  rcases h with ⟨h1, h2⟩ | ⟨h1, h2, h3, h4, h5, h6⟩
  · exact h2.1
  · exact h3
theorem yP.rf (y : MS) : yP y y := fun i _ => ye.rf y i
theorem yP.tr {x y z : MS} (h : yP x y) (k : yP y z) : yP x z := fun i hi => (h i hi).tr (k i (by rw [(h i hi).1]; exact hi))
theorem yP.F {P : Nat → Prop} {y z : MS} (h : yF P y z) (hO : yO y) (hp : ∀ i, h_K y i = 51 → ¬ P i) : yP y z := fun i hi => h i (hO.k hi) (hp i hi)
theorem yP.q {ci si : Nat} {y z : MS} (h : yQ ci si y z) (hc : h_K y ci = 60) (hs : h_K y si = 60) : yP y z := fun i hi => h.1 i (fun e => by rw [e, hc] at hi; cases hi) (fun e => by rw [e, hs] at hi; cases hi)
def zv0 (A : PV) (les : Int32) (e : Z0) : Int32 := pp_lf A les (zg e.1) (nI e.2)
def zv1 (A : PV) (les : Int32) (e : Z1) : Int32 := if e.1 = 0 then zv0 A les e.2.1 else if e.1 = 5 then pp_un 43 (zv0 A les e.2.1) else pp_bi (zg e.1) (zv0 A les e.2.1) (zv0 A les e.2.2)
def zv2 (A : PV) (les : Int32) (e : Z2) : Int32 := if 17 ≤ e.1 then pp_lf A les (zg e.1) (nI e.2.1) else pp_bi (zg e.1) (zv1 A les e.2.2.1) (zv0 A les e.2.2.2)
def zv3 (A : PV) (les : Int32) (e : Z3) : Int32 := if e.1 = 0 then zv2 A les e.2.1 else if e.1 = 19 then pp_un 21 (zv2 A les e.2.1) else pp_bi (zg e.1) (zv2 A les e.2.1) (zv2 A les e.2.2)
/-- what both of two are joined to -/
def zj2 (n t p1 : Nat) (s : Int32) (y : MS) : Option (Int32 × MS) := if h_K y (h_R y t 2) = 51 then ((f_l_X14_value n (h_R y t 2) p1 y).bind fun q => if h_K q.2 t = 51 then (if h_K q.2 (h_R q.2 t 3) = 51 then ((f_l_X14_value n (h_R q.2 t 3) p1 q.2).bind fun r => (f_l_X14_both s q.1 r.1).bind fun u => some ((u, r.2))) else none) else none) else none
theorem zj_v {n t p1 s : Nat} {y : MS} (hk : h_K y t = 51) (hs : h_I y t 0 = nI s) (h : s = 6 ∨ s = 7 ∨ s = 8 ∨ s = 9 ∨ s = 10 ∨ s = 11 ∨ s = 12 ∨ s = 13 ∨ s = 14 ∨ s = 15 ∨ s = 16 ∨ s = 20 ∨ s = 21) : f_l_X14_value (n + 1) t p1 y = zj2 n t p1 (nI s) y := by
  unfold zj2
  rw [f_l_X14_value, if_pos hk, hs]
  rcases h with rfl | rfl | rfl | rfl | rfl | rfl | rfl | rfl | rfl | rfl | rfl | rfl | rfl
  · rw [if_neg (show ¬ nI 6 = (0 : Int32) by decide), if_neg (show ¬ nI 6 = (1 : Int32) by decide), if_neg (show ¬ nI 6 = (2 : Int32) by decide), if_neg (show ¬ nI 6 = (3 : Int32) by decide), if_neg (show ¬ nI 6 = (4 : Int32) by decide), if_neg (show ¬ nI 6 = (5 : Int32) by decide), if_pos (show nI 6 = (6 : Int32) from rfl)]
  · rw [if_neg (show ¬ nI 7 = (0 : Int32) by decide), if_neg (show ¬ nI 7 = (1 : Int32) by decide), if_neg (show ¬ nI 7 = (2 : Int32) by decide), if_neg (show ¬ nI 7 = (3 : Int32) by decide), if_neg (show ¬ nI 7 = (4 : Int32) by decide), if_neg (show ¬ nI 7 = (5 : Int32) by decide), if_neg (show ¬ nI 7 = (6 : Int32) by decide), if_pos (show nI 7 = (7 : Int32) from rfl)]
  · rw [if_neg (show ¬ nI 8 = (0 : Int32) by decide), if_neg (show ¬ nI 8 = (1 : Int32) by decide), if_neg (show ¬ nI 8 = (2 : Int32) by decide), if_neg (show ¬ nI 8 = (3 : Int32) by decide), if_neg (show ¬ nI 8 = (4 : Int32) by decide), if_neg (show ¬ nI 8 = (5 : Int32) by decide), if_neg (show ¬ nI 8 = (6 : Int32) by decide), if_neg (show ¬ nI 8 = (7 : Int32) by decide), if_pos (show nI 8 = (8 : Int32) from rfl)]
  · rw [if_neg (show ¬ nI 9 = (0 : Int32) by decide), if_neg (show ¬ nI 9 = (1 : Int32) by decide), if_neg (show ¬ nI 9 = (2 : Int32) by decide), if_neg (show ¬ nI 9 = (3 : Int32) by decide), if_neg (show ¬ nI 9 = (4 : Int32) by decide), if_neg (show ¬ nI 9 = (5 : Int32) by decide), if_neg (show ¬ nI 9 = (6 : Int32) by decide), if_neg (show ¬ nI 9 = (7 : Int32) by decide), if_neg (show ¬ nI 9 = (8 : Int32) by decide), if_pos (show nI 9 = (9 : Int32) from rfl)]
  · rw [if_neg (show ¬ nI 10 = (0 : Int32) by decide), if_neg (show ¬ nI 10 = (1 : Int32) by decide), if_neg (show ¬ nI 10 = (2 : Int32) by decide), if_neg (show ¬ nI 10 = (3 : Int32) by decide), if_neg (show ¬ nI 10 = (4 : Int32) by decide), if_neg (show ¬ nI 10 = (5 : Int32) by decide), if_neg (show ¬ nI 10 = (6 : Int32) by decide), if_neg (show ¬ nI 10 = (7 : Int32) by decide), if_neg (show ¬ nI 10 = (8 : Int32) by decide), if_neg (show ¬ nI 10 = (9 : Int32) by decide), if_pos (show nI 10 = (10 : Int32) from rfl)]
  · rw [if_neg (show ¬ nI 11 = (0 : Int32) by decide), if_neg (show ¬ nI 11 = (1 : Int32) by decide), if_neg (show ¬ nI 11 = (2 : Int32) by decide), if_neg (show ¬ nI 11 = (3 : Int32) by decide), if_neg (show ¬ nI 11 = (4 : Int32) by decide), if_neg (show ¬ nI 11 = (5 : Int32) by decide), if_neg (show ¬ nI 11 = (6 : Int32) by decide), if_neg (show ¬ nI 11 = (7 : Int32) by decide), if_neg (show ¬ nI 11 = (8 : Int32) by decide), if_neg (show ¬ nI 11 = (9 : Int32) by decide), if_neg (show ¬ nI 11 = (10 : Int32) by decide), if_pos (show nI 11 = (11 : Int32) from rfl)]
  · rw [if_neg (show ¬ nI 12 = (0 : Int32) by decide), if_neg (show ¬ nI 12 = (1 : Int32) by decide), if_neg (show ¬ nI 12 = (2 : Int32) by decide), if_neg (show ¬ nI 12 = (3 : Int32) by decide), if_neg (show ¬ nI 12 = (4 : Int32) by decide), if_neg (show ¬ nI 12 = (5 : Int32) by decide), if_neg (show ¬ nI 12 = (6 : Int32) by decide), if_neg (show ¬ nI 12 = (7 : Int32) by decide), if_neg (show ¬ nI 12 = (8 : Int32) by decide), if_neg (show ¬ nI 12 = (9 : Int32) by decide), if_neg (show ¬ nI 12 = (10 : Int32) by decide), if_neg (show ¬ nI 12 = (11 : Int32) by decide), if_pos (show nI 12 = (12 : Int32) from rfl)]
  · rw [if_neg (show ¬ nI 13 = (0 : Int32) by decide), if_neg (show ¬ nI 13 = (1 : Int32) by decide), if_neg (show ¬ nI 13 = (2 : Int32) by decide), if_neg (show ¬ nI 13 = (3 : Int32) by decide), if_neg (show ¬ nI 13 = (4 : Int32) by decide), if_neg (show ¬ nI 13 = (5 : Int32) by decide), if_neg (show ¬ nI 13 = (6 : Int32) by decide), if_neg (show ¬ nI 13 = (7 : Int32) by decide), if_neg (show ¬ nI 13 = (8 : Int32) by decide), if_neg (show ¬ nI 13 = (9 : Int32) by decide), if_neg (show ¬ nI 13 = (10 : Int32) by decide), if_neg (show ¬ nI 13 = (11 : Int32) by decide), if_neg (show ¬ nI 13 = (12 : Int32) by decide), if_pos (show nI 13 = (13 : Int32) from rfl)]
  · rw [if_neg (show ¬ nI 14 = (0 : Int32) by decide), if_neg (show ¬ nI 14 = (1 : Int32) by decide), if_neg (show ¬ nI 14 = (2 : Int32) by decide), if_neg (show ¬ nI 14 = (3 : Int32) by decide), if_neg (show ¬ nI 14 = (4 : Int32) by decide), if_neg (show ¬ nI 14 = (5 : Int32) by decide), if_neg (show ¬ nI 14 = (6 : Int32) by decide), if_neg (show ¬ nI 14 = (7 : Int32) by decide), if_neg (show ¬ nI 14 = (8 : Int32) by decide), if_neg (show ¬ nI 14 = (9 : Int32) by decide), if_neg (show ¬ nI 14 = (10 : Int32) by decide), if_neg (show ¬ nI 14 = (11 : Int32) by decide), if_neg (show ¬ nI 14 = (12 : Int32) by decide), if_neg (show ¬ nI 14 = (13 : Int32) by decide), if_pos (show nI 14 = (14 : Int32) from rfl)]
  · rw [if_neg (show ¬ nI 15 = (0 : Int32) by decide), if_neg (show ¬ nI 15 = (1 : Int32) by decide), if_neg (show ¬ nI 15 = (2 : Int32) by decide), if_neg (show ¬ nI 15 = (3 : Int32) by decide), if_neg (show ¬ nI 15 = (4 : Int32) by decide), if_neg (show ¬ nI 15 = (5 : Int32) by decide), if_neg (show ¬ nI 15 = (6 : Int32) by decide), if_neg (show ¬ nI 15 = (7 : Int32) by decide), if_neg (show ¬ nI 15 = (8 : Int32) by decide), if_neg (show ¬ nI 15 = (9 : Int32) by decide), if_neg (show ¬ nI 15 = (10 : Int32) by decide), if_neg (show ¬ nI 15 = (11 : Int32) by decide), if_neg (show ¬ nI 15 = (12 : Int32) by decide), if_neg (show ¬ nI 15 = (13 : Int32) by decide), if_neg (show ¬ nI 15 = (14 : Int32) by decide), if_pos (show nI 15 = (15 : Int32) from rfl)]
  · rw [if_neg (show ¬ nI 16 = (0 : Int32) by decide), if_neg (show ¬ nI 16 = (1 : Int32) by decide), if_neg (show ¬ nI 16 = (2 : Int32) by decide), if_neg (show ¬ nI 16 = (3 : Int32) by decide), if_neg (show ¬ nI 16 = (4 : Int32) by decide), if_neg (show ¬ nI 16 = (5 : Int32) by decide), if_neg (show ¬ nI 16 = (6 : Int32) by decide), if_neg (show ¬ nI 16 = (7 : Int32) by decide), if_neg (show ¬ nI 16 = (8 : Int32) by decide), if_neg (show ¬ nI 16 = (9 : Int32) by decide), if_neg (show ¬ nI 16 = (10 : Int32) by decide), if_neg (show ¬ nI 16 = (11 : Int32) by decide), if_neg (show ¬ nI 16 = (12 : Int32) by decide), if_neg (show ¬ nI 16 = (13 : Int32) by decide), if_neg (show ¬ nI 16 = (14 : Int32) by decide), if_neg (show ¬ nI 16 = (15 : Int32) by decide), if_pos (show nI 16 = (16 : Int32) from rfl)]
  · rw [if_neg (show ¬ nI 20 = (0 : Int32) by decide), if_neg (show ¬ nI 20 = (1 : Int32) by decide), if_neg (show ¬ nI 20 = (2 : Int32) by decide), if_neg (show ¬ nI 20 = (3 : Int32) by decide), if_neg (show ¬ nI 20 = (4 : Int32) by decide), if_neg (show ¬ nI 20 = (5 : Int32) by decide), if_neg (show ¬ nI 20 = (6 : Int32) by decide), if_neg (show ¬ nI 20 = (7 : Int32) by decide), if_neg (show ¬ nI 20 = (8 : Int32) by decide), if_neg (show ¬ nI 20 = (9 : Int32) by decide), if_neg (show ¬ nI 20 = (10 : Int32) by decide), if_neg (show ¬ nI 20 = (11 : Int32) by decide), if_neg (show ¬ nI 20 = (12 : Int32) by decide), if_neg (show ¬ nI 20 = (13 : Int32) by decide), if_neg (show ¬ nI 20 = (14 : Int32) by decide), if_neg (show ¬ nI 20 = (15 : Int32) by decide), if_neg (show ¬ nI 20 = (16 : Int32) by decide), if_neg (show ¬ nI 20 = (17 : Int32) by decide), if_neg (show ¬ nI 20 = (18 : Int32) by decide), if_neg (show ¬ nI 20 = (19 : Int32) by decide)]
  · rw [if_neg (show ¬ nI 21 = (0 : Int32) by decide), if_neg (show ¬ nI 21 = (1 : Int32) by decide), if_neg (show ¬ nI 21 = (2 : Int32) by decide), if_neg (show ¬ nI 21 = (3 : Int32) by decide), if_neg (show ¬ nI 21 = (4 : Int32) by decide), if_neg (show ¬ nI 21 = (5 : Int32) by decide), if_neg (show ¬ nI 21 = (6 : Int32) by decide), if_neg (show ¬ nI 21 = (7 : Int32) by decide), if_neg (show ¬ nI 21 = (8 : Int32) by decide), if_neg (show ¬ nI 21 = (9 : Int32) by decide), if_neg (show ¬ nI 21 = (10 : Int32) by decide), if_neg (show ¬ nI 21 = (11 : Int32) by decide), if_neg (show ¬ nI 21 = (12 : Int32) by decide), if_neg (show ¬ nI 21 = (13 : Int32) by decide), if_neg (show ¬ nI 21 = (14 : Int32) by decide), if_neg (show ¬ nI 21 = (15 : Int32) by decide), if_neg (show ¬ nI 21 = (16 : Int32) by decide), if_neg (show ¬ nI 21 = (17 : Int32) by decide), if_neg (show ¬ nI 21 = (18 : Int32) by decide), if_neg (show ¬ nI 21 = (19 : Int32) by decide)]
theorem g_mnl (a b : Int32) : (if b ≤ a then b else a) = g_min a b := by
  unfold g_min
  by_cases h : b < a
  · rw [if_pos h, if_pos (Int32.le_iff_toInt_le.mpr (by have h1 := Int32.lt_iff_toInt_lt.mp h; omega))]
  · rw [if_neg h]
    by_cases h2 : b ≤ a
    · rw [if_pos h2]
      have h3 : ¬ b.toInt < a.toInt := fun q => h (Int32.lt_iff_toInt_lt.mpr q)
      have h4 : b.toInt ≤ a.toInt := Int32.le_iff_toInt_le.mp h2
      exact Int32.toInt_inj.mp (by omega)
    · rw [if_neg h2]
theorem g_mxl (a b : Int32) : (if b ≤ a then a else b) = g_max a b := by
  unfold g_max
  by_cases h : a < b
  · rw [if_pos h, if_neg (fun q => by have h1 := Int32.lt_iff_toInt_lt.mp h; have h2 := Int32.le_iff_toInt_le.mp q; omega)]
  · rw [if_neg h, if_pos (Int32.le_iff_toInt_le.mpr (by have h1 : ¬ a.toInt < b.toInt := fun q => h (Int32.lt_iff_toInt_lt.mpr q); omega))]
theorem zj_b {s : Nat} {a b : Int32} (h : s = 6 ∨ s = 7 ∨ s = 8 ∨ s = 9 ∨ s = 10 ∨ s = 11 ∨ s = 12 ∨ s = 13 ∨ s = 14 ∨ s = 15 ∨ s = 16) : f_l_X14_both (nI s) a b = some (pp_bi (zg s) a b) := by
  unfold f_l_X14_both
  rcases h with rfl | rfl | rfl | rfl | rfl | rfl | rfl | rfl | rfl | rfl | rfl
  · rw [if_pos (show nI 6 = (6 : Int32) from rfl), show pp_bi (zg 6) a b = g_min a b from rfl, ← g_mnl]
    split <;> rfl
  · rw [if_neg (show ¬ nI 7 = (6 : Int32) by decide), if_pos (show nI 7 = (7 : Int32) from rfl), show pp_bi (zg 7) a b = g_max a b from rfl, ← g_mxl]
    split <;> rfl
  · rw [if_neg (show ¬ nI 8 = (6 : Int32) by decide), if_neg (show ¬ nI 8 = (7 : Int32) by decide), if_pos (show nI 8 = (8 : Int32) from rfl)]
    rfl
  · rw [if_neg (show ¬ nI 9 = (6 : Int32) by decide), if_neg (show ¬ nI 9 = (7 : Int32) by decide), if_neg (show ¬ nI 9 = (8 : Int32) by decide), if_pos (show nI 9 = (9 : Int32) from rfl)]
    rfl
  · rw [if_neg (show ¬ nI 10 = (6 : Int32) by decide), if_neg (show ¬ nI 10 = (7 : Int32) by decide), if_neg (show ¬ nI 10 = (8 : Int32) by decide), if_neg (show ¬ nI 10 = (9 : Int32) by decide), if_pos (show nI 10 = (10 : Int32) from rfl)]
    rfl
  · rw [if_neg (show ¬ nI 11 = (6 : Int32) by decide), if_neg (show ¬ nI 11 = (7 : Int32) by decide), if_neg (show ¬ nI 11 = (8 : Int32) by decide), if_neg (show ¬ nI 11 = (9 : Int32) by decide), if_neg (show ¬ nI 11 = (10 : Int32) by decide), if_pos (show nI 11 = (11 : Int32) from rfl), show pp_bi (zg 11) a b = if b = 0 then 0 else a / b from rfl]
    by_cases h : b = 0
    · rw [if_pos h, if_pos h]
    · rw [if_neg h, if_neg h, if_pos h]
  · rw [if_neg (show ¬ nI 12 = (6 : Int32) by decide), if_neg (show ¬ nI 12 = (7 : Int32) by decide), if_neg (show ¬ nI 12 = (8 : Int32) by decide), if_neg (show ¬ nI 12 = (9 : Int32) by decide), if_neg (show ¬ nI 12 = (10 : Int32) by decide), if_neg (show ¬ nI 12 = (11 : Int32) by decide), if_pos (show nI 12 = (12 : Int32) from rfl), if_pos (show nI 12 = (12 : Int32) from rfl), show pp_bi (zg 12) a b = if b ≤ a then 0 else 1 from rfl]; split <;> rfl
  · rw [if_neg (show ¬ nI 13 = (6 : Int32) by decide), if_neg (show ¬ nI 13 = (7 : Int32) by decide), if_neg (show ¬ nI 13 = (8 : Int32) by decide), if_neg (show ¬ nI 13 = (9 : Int32) by decide), if_neg (show ¬ nI 13 = (10 : Int32) by decide), if_neg (show ¬ nI 13 = (11 : Int32) by decide), if_neg (show ¬ nI 13 = (12 : Int32) by decide), if_pos (show nI 13 = (13 : Int32) from rfl), if_neg (show ¬ nI 13 = (12 : Int32) by decide), if_pos (show nI 13 = (13 : Int32) from rfl), show pp_bi (zg 13) a b = if a ≤ b then 0 else 1 from rfl]; split <;> rfl
  · rw [if_neg (show ¬ nI 14 = (6 : Int32) by decide), if_neg (show ¬ nI 14 = (7 : Int32) by decide), if_neg (show ¬ nI 14 = (8 : Int32) by decide), if_neg (show ¬ nI 14 = (9 : Int32) by decide), if_neg (show ¬ nI 14 = (10 : Int32) by decide), if_neg (show ¬ nI 14 = (11 : Int32) by decide), if_neg (show ¬ nI 14 = (12 : Int32) by decide), if_neg (show ¬ nI 14 = (13 : Int32) by decide), if_pos (show nI 14 = (14 : Int32) from rfl), if_neg (show ¬ nI 14 = (12 : Int32) by decide), if_neg (show ¬ nI 14 = (13 : Int32) by decide), if_pos (show nI 14 = (14 : Int32) from rfl), show pp_bi (zg 14) a b = if a = b then 1 else 0 from rfl]; split <;> rfl
  · rw [if_neg (show ¬ nI 15 = (6 : Int32) by decide), if_neg (show ¬ nI 15 = (7 : Int32) by decide), if_neg (show ¬ nI 15 = (8 : Int32) by decide), if_neg (show ¬ nI 15 = (9 : Int32) by decide), if_neg (show ¬ nI 15 = (10 : Int32) by decide), if_neg (show ¬ nI 15 = (11 : Int32) by decide), if_neg (show ¬ nI 15 = (12 : Int32) by decide), if_neg (show ¬ nI 15 = (13 : Int32) by decide), if_neg (show ¬ nI 15 = (14 : Int32) by decide), if_pos (show nI 15 = (15 : Int32) from rfl), if_neg (show ¬ nI 15 = (12 : Int32) by decide), if_neg (show ¬ nI 15 = (13 : Int32) by decide), if_neg (show ¬ nI 15 = (14 : Int32) by decide), if_pos (show nI 15 = (15 : Int32) from rfl), show pp_bi (zg 15) a b = if b < a then 0 else 1 from rfl]; split <;> rfl
  · rw [if_neg (show ¬ nI 16 = (6 : Int32) by decide), if_neg (show ¬ nI 16 = (7 : Int32) by decide), if_neg (show ¬ nI 16 = (8 : Int32) by decide), if_neg (show ¬ nI 16 = (9 : Int32) by decide), if_neg (show ¬ nI 16 = (10 : Int32) by decide), if_neg (show ¬ nI 16 = (11 : Int32) by decide), if_neg (show ¬ nI 16 = (12 : Int32) by decide), if_neg (show ¬ nI 16 = (13 : Int32) by decide), if_neg (show ¬ nI 16 = (14 : Int32) by decide), if_neg (show ¬ nI 16 = (15 : Int32) by decide), if_pos (show nI 16 = (16 : Int32) from rfl), if_neg (show ¬ nI 16 = (12 : Int32) by decide), if_neg (show ¬ nI 16 = (13 : Int32) by decide), if_neg (show ¬ nI 16 = (14 : Int32) by decide), if_neg (show ¬ nI 16 = (15 : Int32) by decide), show pp_bi (zg 16) a b = if a < b then 0 else 1 from rfl]; split <;> rfl
theorem zj_ao {s : Nat} {a b : Int32} (h : s = 20 ∨ s = 21) (ha : a = 0 ∨ a = 1) (hb : b = 0 ∨ b = 1) : f_l_X14_both (nI s) a b = some (pp_bi (zg s) a b) := by
  rcases h with rfl | rfl <;> rcases ha with rfl | rfl <;> rcases hb with rfl | rfl <;> decide
theorem zv2_01 {A : PV} {les : Int32} {e : Z2} (hA : pv_ok A) (h : 12 ≤ e.1 ∧ e.1 < 19) : zv2 A les e = 0 ∨ zv2 A les e = 1 := by
  obtain ⟨s, n, a, b⟩ := e
  unfold zv2
  show (if 17 ≤ s then pp_lf A les (zg s) (nI n) else _) = 0 ∨ (if 17 ≤ s then pp_lf A les (zg s) (nI n) else _) = 1
  have h' : s = 12 ∨ s = 13 ∨ s = 14 ∨ s = 15 ∨ s = 16 ∨ s = 17 ∨ s = 18 := by have h1 := h.1; have h2 := h.2; change 12 ≤ s at h1; change s < 19 at h2; omega
  generalize zv1 A les a = va
  generalize zv0 A les b = vb
  rcases h' with rfl | rfl | rfl | rfl | rfl | rfl | rfl
  · show (if vb ≤ va then (0 : Int32) else 1) = 0 ∨ (if vb ≤ va then (0 : Int32) else 1) = 1
    split <;> simp
  · show (if va ≤ vb then (0 : Int32) else 1) = 0 ∨ (if va ≤ vb then (0 : Int32) else 1) = 1
    split <;> simp
  · show (if va = vb then (1 : Int32) else 0) = 0 ∨ (if va = vb then (1 : Int32) else 0) = 1
    split <;> simp
  · show (if vb < va then (0 : Int32) else 1) = 0 ∨ (if vb < va then (0 : Int32) else 1) = 1
    split <;> simp
  · show (if va < vb then (0 : Int32) else 1) = 0 ∨ (if va < vb then (0 : Int32) else 1) = 1
    split <;> simp
  · show (if pp_en (pv_mt A none) = nI n then (1 : Int32) else 0) = 0 ∨ (if pp_en (pv_mt A none) = nI n then (1 : Int32) else 0) = 1
    split <;> simp
  · show nI (pv_pr A (nI n).toNatClampNeg) = 0 ∨ nI (pv_pr A (nI n).toNatClampNeg) = 1
    exact pp_01n (hA.2.1 _)
section ZV
variable {A : PV} {les car : Int32} {nr R : Nat} {y : MS} {τ : TI}
theorem yT.pq (hT : yT A les car nr R y τ) {z : MS} (h : yQ (ti_c τ) (ti_s τ) y z) : yP y z := yP.q h hT.2.2.2.1.2.2.2.1.1 hT.2.2.2.1.2.2.2.2.1.1
theorem zv0_ok (hT : yT A les car nr R y τ) {n i : Nat} {e : Z0} (h : zh0 (pv_W A) y i e) : ∃ y', f_l_X14_value (n + 1) i (ti_t τ) y = some (zv0 A les e, y') ∧ yQ (ti_c τ) (ti_s τ) y y' := by
  obtain ⟨s, k⟩ := e
  obtain ⟨h1, h2, h3, h4, h5, h6⟩ := h
  change h_I y i 0 = nI s at h2
  change h_I y i 1 = nI k at h3
  change s < 5 at h4
  change k < 1000000 at h5
  change 0 < s → k < pv_W A at h6
  have hW := hT.2.1.1
  obtain ⟨t1, t2, t3, t4, t5, t6, t7, t8, t9⟩ := hT.t0
  obtain ⟨w1, w2⟩ := hT.w0
  obtain ⟨r1, r2, r3⟩ := hT.hr
  have hl := r1.2.2.1
  have h' : s = 0 ∨ s = 1 ∨ s = 2 ∨ s = 3 ∨ s = 4 := by omega
  rw [f_l_X14_value, if_pos h1, h2]
  rcases h' with rfl | rfl | rfl | rfl | rfl
  · rw [if_pos (show nI 0 = (0 : Int32) from rfl), h3]
    exact ⟨y, rfl, yQ.rf _ _ y⟩
  · rw [if_neg (show ¬ nI 1 = (0 : Int32) by decide), if_pos (show nI 1 = (1 : Int32) from rfl), if_pos t1, t7]
    exact ⟨y, rfl, yQ.rf _ _ y⟩
  · rw [if_neg (show ¬ nI 2 = (0 : Int32) by decide), if_neg (show ¬ nI 2 = (1 : Int32) by decide), if_pos (show nI 2 = (2 : Int32) from rfl), if_pos t1, hT.kept, pp_b]
    exact ⟨y, rfl, yQ.rf _ _ y⟩
  · have hk := h6 (by omega)
    rw [if_neg (show ¬ nI 3 = (0 : Int32) by decide), if_neg (show ¬ nI 3 = (1 : Int32) by decide), if_neg (show ¬ nI 3 = (2 : Int32) by decide), if_pos (show nI 3 = (3 : Int32) from rfl), if_pos t1, t6, if_pos r1.1, r1.2.1]
    have ev : zv0 A les (3, k) = nI (pv_dh A k) := by
      show nI (pv_dh A (nI k).toNatClampNeg) = _
      rw [nI_clamp (by omega)]
    rw [ev]
    by_cases hz : pv_hl A = 0
    · rw [if_pos (by rw [hz]; rfl)]
      refine ⟨y, ?_, yQ.rf _ _ y⟩
      unfold pv_dh
      rw [if_pos hz]
      rfl
    · rw [if_neg (nI_ne0 (by omega) (by omega)), t4, if_pos w1, w2, h3, if_pos ((pp_ok (by omega)).mpr hk), nI_clamp (by omega)]
      obtain ⟨y', e1, e2⟩ := hT.fwh hk hz
      rw [e1]
      exact ⟨y', rfl, e2⟩
  · have hk := h6 (by omega)
    obtain ⟨a1, a2, a3, a4⟩ := hT.wd hk
    rw [if_neg (show ¬ nI 4 = (0 : Int32) by decide), if_neg (show ¬ nI 4 = (1 : Int32) by decide), if_neg (show ¬ nI 4 = (2 : Int32) by decide), if_neg (show ¬ nI 4 = (3 : Int32) by decide), if_pos (show nI 4 = (4 : Int32) from rfl), if_pos t1, t4, if_pos w1, w2, h3, if_pos ((pp_ok (by omega)).mpr hk), nI_clamp (by omega), if_pos a1.1, a1.2.1]
    refine ⟨y, ?_, yQ.rf _ _ y⟩
    show _ = some (nI (pv_ln A (nI k).toNatClampNeg), y)
    rw [nI_clamp (by omega)]
/-- two parts, one behind the other -/
theorem zj_ok (hT : yT A les car nr R y τ) {n i s : Nat} {va vb v : Int32} (hk : h_K y i = 51) (ha : h_K y (h_R y i 2) = 51) (hb : h_K y (h_R y i 3) = 51) (h1 : ∃ y', f_l_X14_value n (h_R y i 2) (ti_t τ) y = some (va, y') ∧ yQ (ti_c τ) (ti_s τ) y y') (h2 : ∀ z, yT A les car nr R z τ → yP y z → ∃ y', f_l_X14_value n (h_R y i 3) (ti_t τ) z = some (vb, y') ∧ yQ (ti_c τ) (ti_s τ) z y') (h3 : f_l_X14_both (nI s) va vb = some v) : ∃ y', zj2 n i (ti_t τ) (nI s) y = some (v, y') ∧ yQ (ti_c τ) (ti_s τ) y y' := by
  obtain ⟨y1, e1, e2⟩ := h1
  have hP := hT.pq e2
  obtain ⟨y2, e3, e4⟩ := h2 y1 (hT.q e2) hP
  obtain ⟨k1, k2, k3, k4⟩ := hP i hk
  unfold zj2
  rw [if_pos ha, e1, pp_b]
  show ∃ y', (if h_K y1 i = 51 then (if h_K y1 (h_R y1 i 3) = 51 then ((f_l_X14_value n (h_R y1 i 3) (ti_t τ) y1).bind fun r => (f_l_X14_both (nI s) va r.1).bind fun u => some ((u, r.2))) else none) else none) = _ ∧ _
  rw [if_pos (by rw [k1]; exact hk), k3, if_pos (by rw [(hP _ hb).1]; exact hb), e3, pp_b]
  show ∃ y', ((f_l_X14_both (nI s) va vb).bind fun u => some ((u, y2))) = _ ∧ _
  rw [h3, pp_b]
  exact ⟨y2, rfl, e2.tr e4⟩
theorem zv1_ok (hT : yT A les car nr R y τ) {n i : Nat} {e : Z1} (h : zh1 (pv_W A) y i e) : ∃ y', f_l_X14_value (n + 2) i (ti_t τ) y = some (zv1 A les e, y') ∧ yQ (ti_c τ) (ti_s τ) y y' := by
  obtain ⟨s, a, b⟩ := e
  unfold zv1
  rcases h with ⟨h1, h2⟩ | ⟨h1, h2, h3, h4, h5, h6⟩
  · rw [if_pos h1]
    exact zv0_ok (n := n + 1) hT h2
  · change 5 ≤ s at h1
    change s < 12 at h2
    change h_I y i 0 = nI s at h4
    change zh0 _ y (h_R y i 2) a at h5
    change s ≠ 5 → zh0 _ y (h_R y i 3) b at h6
    show ∃ y', _ = some ((if s = 0 then zv0 A les a else if s = 5 then pp_un 43 (zv0 A les a) else pp_bi (zg s) (zv0 A les a) (zv0 A les b)), y') ∧ _
    rw [if_neg (by omega)]
    by_cases h55 : s = 5
    · subst h55
      obtain ⟨y1, e1, e2⟩ := zv0_ok (n := n) hT h5
      rw [if_pos rfl, f_l_X14_value, if_pos h3, h4]
      rw [if_neg (show ¬ nI 5 = (0 : Int32) by decide), if_neg (show ¬ nI 5 = (1 : Int32) by decide), if_neg (show ¬ nI 5 = (2 : Int32) by decide), if_neg (show ¬ nI 5 = (3 : Int32) by decide), if_neg (show ¬ nI 5 = (4 : Int32) by decide), if_pos (show nI 5 = (5 : Int32) from rfl), if_pos h5.1, e1, pp_b]
      refine ⟨y1, ?_, e2⟩
      show some ((0 : Int32) - zv0 A les a, y1) = some (-zv0 A les a, y1)
      rw [Int32.zero_sub]
    · rw [if_neg h55, zj_v h3 h4 (by omega)]
      have h6' := h6 h55
      exact zj_ok hT h3 h5.1 h6'.1 (zv0_ok hT h5) (fun z hz hP => zv0_ok hz (h6'.P hP)) (zj_b (by omega))
theorem zv2_ok (hT : yT A les car nr R y τ) {n i : Nat} {e : Z2} (h : zh2 (pv_W A) y i e) : ∃ y', f_l_X14_value (n + 3) i (ti_t τ) y = some (zv2 A les e, y') ∧ yQ (ti_c τ) (ti_s τ) y y' := by
  obtain ⟨s, k, a, b⟩ := e
  obtain ⟨h1, h2, h3⟩ := h
  change h_I y i 0 = nI s at h2
  have hW := hT.2.1.1
  obtain ⟨t1, t2, t3, t4, t5, t6, t7, t8, t9⟩ := hT.t0
  obtain ⟨p1, p2, p3⟩ := hT.p0
  unfold zv2
  show ∃ y', _ = some ((if 17 ≤ s then pp_lf A les (zg s) (nI k) else pp_bi (zg s) (zv1 A les a) (zv0 A les b)), y') ∧ _
  rcases h3 with ⟨a1, a2, a3, a4⟩ | ⟨a1, a2, a3, a4⟩
  · change 17 ≤ s at a1
    change s < 19 at a2
    change h_I y i 1 = nI k at a3
    change k < pv_W A at a4
    rw [if_pos a1, f_l_X14_value, if_pos h1, h2]
    have h' : s = 17 ∨ s = 18 := by omega
    rcases h' with rfl | rfl
    · repeat rw [if_neg (show ¬ nI 17 = _ by decide)]
      rw [if_pos (show nI 17 = (17 : Int32) from rfl), if_pos t1]
      obtain ⟨y1, e1, e2⟩ := hT.meant (but := none) (fun b hb => by cases hb)
      obtain ⟨k1, k2, k3, k4⟩ := hT.pq e2 i h1
      rw [show (-1 : Int32) = pp_en none from rfl, e1, pp_b]
      show ∃ y', (if h_K y1 i = 51 then (if pp_en (pv_mt A none) = h_I y1 i 1 then _ else _) else none) = some ((if pp_en (pv_mt A none) = nI k then 1 else 0), y') ∧ _
      rw [k1, k2, if_pos h1, a3]
      refine ⟨y1, ?_, e2⟩
      split <;> rfl
    · repeat rw [if_neg (show ¬ nI 18 = _ by decide)]
      rw [if_pos (show nI 18 = (18 : Int32) from rfl), if_pos t1, t5, if_pos p1, p2, a3, if_pos ((pp_ok (by omega)).mpr a4), nI_clamp (by omega), p3 k a4]
      have hp := hT.2.1.2.1 k
      refine ⟨y, ?_, yQ.rf _ _ y⟩
      show _ = some (nI (pv_pr A (nI k).toNatClampNeg), y)
      rw [nI_clamp (by omega)]
      by_cases hz : pv_pr A k = 0
      · rw [if_pos (by rw [hz]; rfl), hz]; rfl
      · rw [if_neg (nI_ne0 (by omega) (by omega)), show pv_pr A k = 1 by omega]; rfl
  · change 12 ≤ s at a1
    change s < 17 at a2
    change zh1 _ y (h_R y i 2) a at a3
    change zh0 _ y (h_R y i 3) b at a4
    rw [if_neg (by omega), zj_v h1 h2 (by omega)]
    exact zj_ok hT h1 a3.k a4.1 (zv1_ok hT a3) (fun z hz hP => zv0_ok hz (a4.P hP)) (zj_b (by omega))
theorem zh2.s {W i : Nat} {e : Z2} (h : zh2 W y i e) : 12 ≤ e.1 ∧ e.1 < 19 := by
  rcases h.2.2 with ⟨a1, a2, -⟩ | ⟨a1, a2, -⟩ <;> omega
theorem zv3_ok (hT : yT A les car nr R y τ) {n i : Nat} {e : Z3} (h : zh3 (pv_W A) y i e) : ∃ y', f_l_X14_value (n + 4) i (ti_t τ) y = some (zv3 A les e, y') ∧ yQ (ti_c τ) (ti_s τ) y y' := by
  obtain ⟨s, a, b⟩ := e
  unfold zv3
  rcases h with ⟨h1, h2⟩ | ⟨h1, h2, h3, h4, h5, h6⟩
  · rw [if_pos h1]
    exact zv2_ok (n := n + 1) hT h2
  · change 19 ≤ s at h1
    change s < 22 at h2
    change h_I y i 0 = nI s at h4
    change zh2 _ y (h_R y i 2) a at h5
    change s ≠ 19 → zh2 _ y (h_R y i 3) b at h6
    show ∃ y', _ = some ((if s = 0 then zv2 A les a else if s = 19 then pp_un 21 (zv2 A les a) else pp_bi (zg s) (zv2 A les a) (zv2 A les b)), y') ∧ _
    have va := zv2_01 (les := les) hT.2.1 h5.s
    rw [if_neg (by omega)]
    by_cases h55 : s = 19
    · subst h55
      obtain ⟨y1, e1, e2⟩ := zv2_ok (n := n) hT h5
      rw [if_pos rfl, f_l_X14_value, if_pos h3, h4]
      repeat rw [if_neg (show ¬ nI 19 = _ by decide)]
      rw [if_pos (show nI 19 = (19 : Int32) from rfl), if_pos h5.1, e1, pp_b]
      refine ⟨y1, ?_, e2⟩
      show some ((1 : Int32) - zv2 A les a, y1) = some ((if zv2 A les a = 0 then 1 else 0), y1)
      rcases va with q | q
      · rw [q]; rfl
      · rw [q]; rfl
    · rw [if_neg h55, zj_v h3 h4 (by omega)]
      have h6' := h6 h55
      exact zj_ok hT h3 h5.1 h6'.1 (zv2_ok hT h5) (fun z hz hP => zv2_ok hz (h6'.P hP)) (zj_ao (by omega) va (zv2_01 hT.2.1 h6'.s))
end ZV
