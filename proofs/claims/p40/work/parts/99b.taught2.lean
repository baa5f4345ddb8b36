/-! a text is taught -/
/-- the text of a language -/
def zlang (P : Nat → Nat → ZP) (M nl : Nat → Nat) (rs : Nat → ZR) (W hb g hn nr R : Nat) : List ZI := zlw P M nl W ++ (zlb hb g ++ (zle hn nr ++ zlr rs R))
/-- a language as it can be drawn -/
def zwL (P : Nat → Nat → ZP) (M : Nat → Nat) (rs : Nat → ZR) (W hb g hn nr R : Nat) : Prop := W ≤ 8 ∧ (∀ j, j < W → 1 ≤ M j ∧ M j ≤ 3) ∧ (∀ w, w < W → ∀ j, j < M w → zwp (P w j)) ∧ R ≤ 4 ∧ (∀ k, k < R → zwr W (rs k)) ∧ (if hb = 1 then g ≤ 20 else g = 4) ∧ (if hn = 1 then nr ≤ 99 else nr = 6)
section ZTT
variable {P : Nat → Nat → ZP} {M nl : Nat → Nat} {rs : Nat → ZR} {W hb g hn nr R : Nat} {x : CS} {y : MS} {i : Nat} {nm : Nat → Nat}
theorem zwL.gn (h : zwL P M rs W hb g hn nr R) : g ≤ 20 ∧ nr ≤ 99 := by
  obtain ⟨h1, h2, h3, h4, h5, h6, h7⟩ := h
  constructor
  · split at h6 <;> omega
  · split at h7 <;> omega
theorem zlang_m (h : zwL P M rs W hb g hn nr R) : zmp nm (zlang P M nl rs W hb g hn nr R) = zLt nm P M rs W hb g hn nr R := by
  obtain ⟨h1, h2, h3, h4, h5, h6, h7⟩ := h
  unfold zlang zLt
  rw [zmpA, zmpA, zmpA, zmlw (fun j hj => (h2 j hj).1) h3, zmlb, zmle, zmlr R h5]
theorem zlang_c (h : zwL P M rs W hb g hn nr R) : zcc 1415 (zlang P M nl rs W hb g hn nr R) := by
  have hgn := h.gn
  obtain ⟨h1, h2, h3, h4, h5, h6, h7⟩ := h
  exact ((zclw W h1 h2 h3).a ((zclb (fun _ => by omega)).a ((zcle (fun _ => by omega)).a (zclr h1 R h5)))).m (by omega)
theorem zlang_t (h : zwL P M rs W hb g hn nr R) : (zLt nm P M rs W hb g hn nr R).length ≤ 385 := by
  obtain ⟨h1, h2, h3, h4, h5, h6, h7⟩ := h
  have a := zLwL (nm := nm) (P := P) (M := M) W (fun j hj => (h2 j hj).2)
  have c := zLrL (nm := nm) (rs := rs) R
  have d : (zLb hb g).length ≤ 3 := by unfold zLb; split <;> simp
  have e : (zLe hn nr).length ≤ 6 := by unfold zLe; split <;> simp
  unfold zLt
  rw [List.length_append, List.length_append, List.length_append]
  omega
theorem zokB {x : CS} (h : zcb x) : g_okRb x = true := by
  unfold g_okRb
  rcases h with ⟨a1, a2, a3, a4⟩ | ⟨a1, a2, a3, a4⟩ <;> rw [a1, a2, a3, a4] <;> decide
/-- teach, behind the feeding -/
theorem zTc {T : Nat} (hL : zwL P M rs W hb g hn nr R) (hc : zcb x) (hC : pp_CT x (fun k => (zibs (zlang P M nl rs W hb g hn nr R)).getD k 0) T) (hT : (zibs (zlang P M nl rs W hb g hn nr R)).length = T) : ∃ x' b v, f_X12_teach x = some (0, x') ∧ g_okRb x' = true ∧ pq_R (zPV W g P M) 0 0 b v R nr (zρ rs) (x'.2 (b + 3)) (x'.1 (b + 4)) x' ∧ ∀ k, k < R → zmt (x'.2 (b + 3)) (x'.1 (b + 4)) (zρ rs k) (rs k) := by
  have hcc := zlang_c (nl := nl) hL
  have hgn := hL.gn
  have hln : (zit (zlang P M nl rs W hb g hn nr R)).length = (zmp (znm (zit (zlang P M nl rs W hb g hn nr R))) (zlang P M nl rs W hb g hn nr R)).length := by
    unfold zmp
    rw [List.length_map]
  rw [zlang_m hL] at hln
  have h385 := zlang_t (nm := znm (zit (zlang P M nl rs W hb g hn nr R))) hL
  obtain ⟨x1, a1, a2, a3, a4, a5⟩ := ztape hC (fun j hj => by rw [Nat.zero_add]) hT hcc.1 (by omega)
  have em : (zit (zlang P M nl rs W hb g hn nr R)).map (zvI (znm (zit (zlang P M nl rs W hb g hn nr R)))) = zLt (znm (zit (zlang P M nl rs W hb g hn nr R))) P M rs W hb g hn nr R := zlang_m hL
  rw [em] at a2
  rw [hln] at a3
  have hc1 : zcb x1 := by
    unfold zcb at hc ⊢
    rw [a5 0 (by decide)]
    exact hc
  obtain ⟨b, hb1⟩ : ∃ q, q = x1.2 0 8 := ⟨_, rfl⟩
  obtain ⟨v, hv1⟩ : ∃ q, q = x1.2 0 9 := ⟨_, rfl⟩
  have hbv : (b = 20 ∨ b = 70) ∧ (v = 41 ∨ v = 91) := by
    rw [hb1, hv1]
    rcases hc1 with ⟨-, -, e3, e4⟩ | ⟨-, -, e3, e4⟩ <;> rw [e3, e4] <;> decide
  have hbg := zbgL (rs := rs) R
  obtain ⟨L1, L2, L3, L4, L5, L6, L7⟩ := id hL
  obtain ⟨x2, b1, b2⟩ := zrl_all (x := x1) (b := b) (v := v) rfl rfl hbv.1 hbv.2 (znm_ok (by omega)) L1 L2 L3 L4 L5 (by omega) L6 L7 a2 (by omega) a3
  obtain ⟨x3, c1, c2, c3, c4⟩ := zTe (x := x1) hc1 ⟨hb1.symm, hv1.symm⟩ L2 L3 L5 (by omega) hgn.1 hgn.2 b2
  refine ⟨x3, b, v, ?_, ?_, c3, c4⟩
  · unfold f_X12_teach
    rw [a1, pp_b, if_pos (zokB hc1), ← hb1, ← hv1, b1, pp_b]
    have e8 : (g_wi (g_wi x2 1 1 (0 : Int32)) 0 10 ((g_wi x2 1 1 (0 : Int32)).1 162 9)).1 162 8 = 0 := b2.1.2.2.1
    have e9 : (g_wi x2 1 1 (0 : Int32)).1 162 9 = x2.1 162 9 := rfl
    rw [if_pos e8, e9, c1, pp_b, c2]
  · refine zokB ?_
    obtain ⟨-, ⟨d1, d2, d3⟩, -⟩ := c3
    unfold zcb
    rw [d1, d2]
    rcases d3 with ⟨e1, e2, e3, e4⟩ | ⟨e1, e2, e3, e4⟩
    · exact Or.inl ⟨e1, e2, e3, e4⟩
    · exact Or.inr ⟨e1, e2, e3, e4⟩
theorem ztpU {T U : Nat} {f : Nat → Int32} : g_wi (pp_tp x T f) 1 1 (nI U) = pp_tp x U f := by
  unfold pp_tp g_wa g_wi
  refine Prod.ext ?_ rfl
  funext j k
  by_cases h : j = 1
  · subst h
    by_cases hk : k = 1 <;> simp [upd, hk]
  · by_cases h2 : j = 2 <;> simp [h, h2]
theorem zTaught (hL : zwL P M rs W hb g hn nr R) (hx : zc x) (hO : yO y) (h : zH y i (zibs (zlang P M nl rs W hb g hn nr R))) (hb3 : yb y 3) : ∃ x' y' b v, f_l_L_taught i x y = some (0, x', y') ∧ pq_R (zPV W g P M) 0 0 b v R nr (zρ rs) (x'.2 (b + 3)) (x'.1 (b + 4)) x' ∧ (∀ k, k < R → zmt (x'.2 (b + 3)) (x'.1 (b + 4)) (zρ rs k) (rs k)) ∧ yG 3 y y' ∧ yF (fun _ => False) y y' := by
  have hcc := zlang_c (nl := nl) hL
  obtain ⟨B, hB⟩ : ∃ B, B = zibs (zlang P M nl rs W hb g hn nr R) := ⟨_, rfl⟩
  have hlen : B.length ≤ 1415 := by rw [hB]; exact hcc.2.2
  rw [← hB] at h
  obtain ⟨y1, hy1⟩ : ∃ y1, y1 = h_new y 60 (fun _ => 0) (fun _ => 0) 5 5 := ⟨_, rfl⟩
  have hG1 : yG 1 y y1 := by rw [hy1]; exact yn_G (by omega) (by omega)
  have hF1 : ∀ j, j < h_nx y → ye y y1 j := fun j hj => by rw [hy1]; exact yn_o hj
  have hH1 : zH y1 i B := h.e (fun j hj => hF1 j (hO.lt (by rcases hj with q | q <;> rw [q] <;> decide)))
  have hK1 : h_K y1 (h_nx y) = 60 := by rw [hy1]; exact yn_K
  have hN1 : h_N y1 (h_nx y) = 5 := by rw [hy1]; exact yn_N
  have hn1 : h_nx y1 = h_nx y + 1 := by rw [hy1]; rfl
  obtain ⟨f', T', z, d1, d2, d3, d4, d5, d6, d7, d8⟩ := zt6 (x := x) (r := h_nx y) 100 g_fuel 0 (x.1 2) y1 (by omega) (by unfold g_fuel; omega) (by omega) (by omega) (by omega) (fun q hq => by omega) hH1 hK1 hN1 (hb3.g hG1 (by omega) |>.mo (by omega))
  have hbz := (hb3.g hG1 (by omega)).g d5 (by omega)
  obtain ⟨X, hX⟩ : ∃ X, X = pp_tp x B.length f' := ⟨_, rfl⟩
  have hX2 : X.2 = x.2 := by rw [hX]; rfl
  have hXc : zcb X := by
    have := hx.2
    unfold zcb at this ⊢
    rw [hX2]
    exact this
  have hCT : pp_CT X (fun k => (zibs (zlang P M nl rs W hb g hn nr R)).getD k 0) B.length := by
    rw [← hB]
    refine ⟨by rw [hX]; exact pp_tp1, by omega, fun p hp => ?_, fun p hp => ?_⟩
    · have := (zHchar h hp).2
      show B.getD p 0 < 256
      omega
    · rw [hX, pp_tp2, d1 p (by omega)]
      show nI (ztb B p) = nI (B.getD p 0)
      unfold ztb
      rw [if_pos hp]
  obtain ⟨x', b, v, e1, e2, e3, e4⟩ := zTc hL hXc hCT (by rw [hB])
  refine ⟨x', h_ex z 2 18, b, v, ?_, e3, e4, ((hG1.tr d5).tr (yx_G (n := 2) (sl := 18) (k := 2) (by omega) (by omega))).mo (by omega), fun j hj hP => ?_⟩
  · unfold f_l_L_taught
    have h5 : (5 : Int32).toNatClampNeg = 5 := rfl
    rw [if_pos (show ¬ (5 : Int32) < 0 by decide), h5, if_pos (yn_rm (k := 1) (hb3.mo (by omega)) (by omega) (by omega)), ← hy1]
    rw [ztp0 hx.1] at d8
    show f_l_L_taught_6 g_fuel i (h_nx y) (nI 0) x y1 = _
    rw [d8]
    unfold f_X12_trim
    rw [if_neg (nI_pos (by omega)), pp_tp1, if_pos (nI_le d2 (by omega)), pp_b]
    have eX : g_wi (pp_tp x T' f') 1 1 (nI B.length) = X := by rw [hX]; exact ztpU
    show (if g_okRb (g_wi (pp_tp x T' f') 1 1 (nI B.length)) = true ∧ h_rm2 z = true then Option.bind (f_X12_teach (g_wi (pp_tp x T' f') 1 1 (nI B.length))) _ else none) = _
    have hr2 : h_rm2 z = true := by
      unfold h_rm2 h_cap h_scap
      unfold yb at hbz
      exact decide_eq_true ⟨by omega, by omega⟩
    rw [eX, if_pos ⟨zokB hXc, hr2⟩, e1, pp_b]
    exact if_pos e2
  · exact (hF1 j hj).tr ((d6 j (by omega) (by omega)).tr ⟨rfl, rfl, rfl, rfl⟩)
end ZTT
