/-! what the law looks at: all words with all words -/
section ZLK
variable {A : PV} {les car : Int32} {b v R nr : Nat} {ρs : Nat → QR} {sg : Nat → Nat} {vl : Nat → Int32} {x : CS} {y : MS}
variable {L : Nat} {xs : Nat → Int32} {k10 : Int32 → CS → MS → Option (Int32 × CS × MS)} {k94 : Int32 → Nat → Nat → Int32 → Int32 → CS → MS → Option (Int32 × CS × MS)} {k215 : Int32 → Nat → Nat → Int32 → Int32 → Int64 → Int32 → Int32 → Int32 → Int32 → Int32 → CS → MS → Option (Int32 × CS × MS)} {k334 : Int32 → Nat → Nat → Int32 → Int32 → Int64 → Int32 → Int32 → Int32 → Int32 → Int32 → Int32 → Int32 → Int32 → Int32 → CS → MS → Option (Int32 × CS × MS)} {l2 : Int32} {l3 l5 : Nat} {l6 l7 : Int32} {l8 : Int64} {l10 l11 l12 l13 l15 l16 : Int32} {a k f nst : Nat}
/-- the nearest one of a word: none is nearer -/
def znr (A : PV) (a nst : Nat) : Prop := 2 ≤ pv_W A → nst < pv_W A ∧ ∀ j, j < pv_W A → j ≠ a → pv_dd A a nst < pv_dd A a j ∨ (pv_dd A a nst = pv_dd A a j ∧ nst ≤ j)
theorem zor {f u : Nat} (hf : f ≤ 1) (hu : u ≤ 1) : ∃ f', f' ≤ 1 ∧ (f' = 0 ↔ f = 0 ∧ u = 0) ∧ nI f ||| nI u = nI f' := by
  have h1 : f = 0 ∨ f = 1 := by omega
  have h2 : u = 0 ∨ u = 1 := by omega
  rcases h1 with rfl | rfl <;> rcases h2 with rfl | rfl
  · exact ⟨0, by omega, by omega, by decide⟩
  · exact ⟨1, by omega, by omega, by decide⟩
  · exact ⟨1, by omega, by omega, by decide⟩
  · exact ⟨1, by omega, by omega, by decide⟩
theorem zk_563 (h : pq_R A les car b v R nr ρs sg vl x) (ha : a < pv_W A) (hk : k < pv_W A) (hf : f ≤ 1) : ∃ x' f', pp_Sc x x' ∧ f' ≤ 1 ∧ (f' = 0 ↔ f = 0 ∧ (k < a → pv_pr A k = 0 → pv_ne A nr k a = 0)) ∧ f_l_L_law_563 L xs k10 k94 k215 k334 l2 l3 l5 l6 l7 l8 l10 l11 l12 l13 (nI a) l15 l16 (nI f) (nI k) x y = k334 l2 l3 l5 l6 l7 l8 l10 l11 l12 l13 (nI a) l15 l16 (nI f') (nI (k + 1)) x' y := by
  have hW := h.1.1
  have hp := h.1.2.1 k
  unfold f_l_L_law_563
  rw [nI_1 k]
  by_cases hle : a ≤ k
  · obtain ⟨f', c1, c2, c3⟩ := zor (u := 0) hf (by omega)
    rw [if_pos (nI_le hle (by omega)), show (0 : Int32) = nI 0 from rfl, c3]
    exact ⟨x, f', pp_Sc.rf x, c1, ⟨fun q => ⟨(c2.mp q).1, fun q1 => by omega⟩, fun q => c2.mpr ⟨q.1, rfl⟩⟩, rfl⟩
  · rw [if_neg (nI_ge (by omega) (by omega)), pq_pruned h hk, pp_b]
    by_cases hz : pv_pr A k = 0
    · rw [if_pos (by rw [hz]; rfl)]
      obtain ⟨x1, s1, e1⟩ := pq_near h ha hk
      rw [e1, pp_b]
      have hn1 := pv_ne1 A nr a k
      obtain ⟨f', c1, c2, c3⟩ := zor (u := pv_ne A nr a k) hf hn1
      refine ⟨x1, f', s1, c1, ⟨fun q => ⟨(c2.mp q).1, fun _ _ => by rw [pv_neC]; exact (c2.mp q).2⟩, fun q => c2.mpr ⟨q.1, by rw [pv_neC]; exact q.2 (by omega) hz⟩⟩, ?_⟩
      rw [← c3]
      show (if nI (pv_ne A nr a k) = 0 then _ else _) = _
      by_cases hq : pv_ne A nr a k = 0
      · rw [if_pos (by rw [hq]; rfl), hq]; rfl
      · rw [if_neg (nI_ne0 (by omega) (by omega)), show pv_ne A nr a k = 1 by omega]; rfl
    · obtain ⟨f', c1, c2, c3⟩ := zor (u := 0) hf (by omega)
      rw [if_neg (nI_ne0 (by omega) (by omega)), show (0 : Int32) = nI 0 from rfl, c3]
      exact ⟨x, f', pp_Sc.rf x, c1, ⟨fun q => ⟨(c2.mp q).1, fun _ q2 => absurd q2 hz⟩, fun q => c2.mpr ⟨q.1, rfl⟩⟩, rfl⟩
theorem zk_510 (h : pq_R A les car b v R nr ρs sg vl x) (ha : a < pv_W A) (hk : k < pv_W A) (hf : f ≤ 1) (hN : znr A a nst) (s : Int32) : ∃ x' f', pp_Sc x x' ∧ f' ≤ 1 ∧ (f' = 0 ↔ f = 0 ∧ (k < a → pv_pr A k = 0 → pv_ne A nr k a = 0)) ∧ f_l_L_law_510 L xs k10 k94 k215 k334 l2 l3 l5 (nI (pv_W A)) l7 l8 l10 l11 l12 l13 (nI a) l15 (nI nst) (nI f) (nI k) (nI (pv_dd A a k)) s s x y = k334 l2 l3 l5 (nI (pv_W A)) l7 l8 l10 l11 l12 l13 (nI a) l15 (nI nst) (nI f') (nI (k + 1)) x' y := by
  have hW := h.1.1
  unfold f_l_L_law_510
  rw [if_pos rfl]
  by_cases e : a = k
  · rw [if_pos (by rw [e])]
    exact zk_563 h ha hk hf
  · rw [if_neg (by rw [nI_eq (by omega) (by omega)]; exact e)]
    rw [if_neg (show ¬ nI (pv_W A) ≤ (1 : Int32) from nI_ge (a := 1) (by omega) (by omega))]
    obtain ⟨n1, n2⟩ := hN (by omega)
    have n3 := n2 k hk (fun q => e q.symm)
    have hB := h.dd ha hk
    have hB2 := h.dd ha n1
    obtain ⟨x1, s1, e1⟩ := pq_apart h ha n1
    obtain ⟨x2, s2, e2⟩ := pq_apart (h.s s1) ha n1
    have h2 := (h.s s1).s s2
    obtain ⟨x', f', c0, c1, c2, c3⟩ := zk_563 (L := L) (xs := xs) (k10 := k10) (k94 := k94) (k215 := k215) (k334 := k334) (l2 := l2) (l3 := l3) (l5 := l5) (l6 := nI (pv_W A)) (l7 := l7) (l8 := l8) (l10 := l10) (l11 := l11) (l12 := l12) (l13 := l13) (l15 := l15) (l16 := nI nst) (y := y) h2 ha hk hf
    refine ⟨x', f', (s1.tr s2).tr c0, c1, c2, ?_⟩
    rw [e1, pp_b]
    show (if nI (pv_dd A a k) < nI (pv_dd A a nst) then _ else (f_X12_distanceBetween (nI a) (nI nst) x1).bind _) = _
    rw [if_neg (nI_nlt (by omega) (by omega)), e2, pp_b]
    show (if nI (pv_dd A a k) = nI (pv_dd A a nst) then _ else _) = _
    by_cases q : pv_dd A a k = pv_dd A a nst
    · rw [if_pos (by rw [q]), if_pos (nI_le (by omega) (by omega))]
      exact c3
    · rw [if_neg (by rw [nI_eq (by omega) (by omega)]; exact q)]
      exact c3
theorem zk_453 (h : pq_R A les car b v R nr ρs sg vl x) (hy1 : h_K y l5 = 53) (hy2 : h_I y l5 1 = nI nr) (ha : a < pv_W A) (hk : k < pv_W A) (hf : f ≤ 1) (hN : znr A a nst) : ∃ x' f', pp_Sc x x' ∧ f' ≤ 1 ∧ (f' = 0 ↔ f = 0 ∧ (k < a → pv_pr A k = 0 → pv_ne A nr k a = 0)) ∧ f_l_L_law_453 L xs k10 k94 k215 k334 l2 l3 l5 (nI (pv_W A)) l7 l8 l10 l11 l12 l13 (nI a) (nI (pv_ln A a)) (nI nst) (nI f) (nI k) (nI (pv_dd A a k)) (nI (max (pv_ln A a) (pv_ln A k))) x y = k334 l2 l3 l5 (nI (pv_W A)) l7 l8 l10 l11 l12 l13 (nI a) (nI (pv_ln A a)) (nI nst) (nI f') (nI (k + 1)) x' y := by
  have hW := h.1.1
  obtain ⟨a1, a2, a3⟩ := h.w ha
  obtain ⟨b1, b2, b3⟩ := h.w hk
  have hkk := h.kk ha hk
  have hB := h.dd ha hk
  have hnr := h.2.2.1.1
  obtain ⟨x1, s1, e1⟩ := pq_kapart h ha hk
  have h1 := h.s s1
  obtain ⟨x2, s2, e2⟩ := pq_near h1 ha hk
  have h2 := h1.s s2
  have hmx : nr * max (pv_ln A a) (pv_ln A k) ≤ 99 * 24 := Nat.mul_le_mul hnr (by omega)
  have key : ∀ s, ∃ x' f', pp_Sc x x' ∧ f' ≤ 1 ∧ (f' = 0 ↔ f = 0 ∧ (k < a → pv_pr A k = 0 → pv_ne A nr k a = 0)) ∧ f_l_L_law_510 L xs k10 k94 k215 k334 l2 l3 l5 (nI (pv_W A)) l7 l8 l10 l11 l12 l13 (nI a) (nI (pv_ln A a)) (nI nst) (nI f) (nI k) (nI (pv_dd A a k)) s s x2 y = k334 l2 l3 l5 (nI (pv_W A)) l7 l8 l10 l11 l12 l13 (nI a) (nI (pv_ln A a)) (nI nst) (nI f') (nI (k + 1)) x' y := fun s => by
    obtain ⟨x', f', c0, c1⟩ := zk_510 (L := L) (xs := xs) (k10 := k10) (k94 := k94) (k215 := k215) (k334 := k334) (l2 := l2) (l3 := l3) (l5 := l5) (l7 := l7) (l8 := l8) (l10 := l10) (l11 := l11) (l12 := l12) (l13 := l13) (l15 := nI (pv_ln A a)) (y := y) h2 ha hk hf hN s
    exact ⟨x', f', (s1.tr s2).tr c0, c1⟩
  unfold f_l_L_law_453
  rw [e1, pp_b]
  show ∃ x' f', _ ∧ _ ∧ _ ∧ Option.bind (f_X12_lengthOf (nI k) x1) _ = _
  rw [pq_length h1 hk, pp_b, nI_add, show nI (pv_ln A a + pv_ln A k) - (1 : Int32) = nI (pv_ln A a + pv_ln A k - 1) from pk_sub (b := 1) (by omega)]
  show ∃ x' f', _ ∧ _ ∧ _ ∧ (if nI (pv_ln A a + pv_ln A k - 1) < nI (pv_kk A a k) then _ else Option.bind (f_X12_areNear (nI a) (nI k) x1) _) = _
  rw [if_neg (nI_nlt hkk (by omega)), e2, pp_b]
  by_cases e : a = k
  · rw [if_pos (by rw [e])]
    have hz : pv_ne A nr a k = 0 := by unfold pv_ne; rw [if_pos e]
    obtain ⟨x', f', c0⟩ := key 0
    refine ⟨x', f', ?_⟩
    show _ ∧ _ ∧ _ ∧ f_l_L_law_510 L xs k10 k94 k215 k334 l2 l3 l5 (nI (pv_W A)) l7 l8 l10 l11 l12 l13 (nI a) (nI (pv_ln A a)) (nI nst) (nI f) (nI k) (nI (pv_dd A a k)) 0 (nI (pv_ne A nr a k)) x2 y = _
    rw [hz]
    exact c0
  · rw [if_neg (by rw [nI_eq (by omega) (by omega)]; exact e), if_pos hy1, hy2, pk_mul, pp_lit 4, pk_div (by omega) (by omega) (by omega)]
    by_cases hlt : pv_dd A a k < nr * max (pv_ln A a) (pv_ln A k) / 4
    · have hz : pv_ne A nr a k = 1 := by unfold pv_ne; rw [if_neg e, if_pos hlt]
      rw [if_neg (nI_ge hlt (by omega))]
      obtain ⟨x', f', c0⟩ := key 1
      refine ⟨x', f', ?_⟩
      show _ ∧ _ ∧ _ ∧ f_l_L_law_510 L xs k10 k94 k215 k334 l2 l3 l5 (nI (pv_W A)) l7 l8 l10 l11 l12 l13 (nI a) (nI (pv_ln A a)) (nI nst) (nI f) (nI k) (nI (pv_dd A a k)) 1 (nI (pv_ne A nr a k)) x2 y = _
      rw [hz]
      exact c0
    · have hz : pv_ne A nr a k = 0 := by unfold pv_ne; rw [if_neg e, if_neg hlt]
      rw [if_pos (nI_le (by omega) (by omega))]
      obtain ⟨x', f', c0⟩ := key 0
      refine ⟨x', f', ?_⟩
      show _ ∧ _ ∧ _ ∧ f_l_L_law_510 L xs k10 k94 k215 k334 l2 l3 l5 (nI (pv_W A)) l7 l8 l10 l11 l12 l13 (nI a) (nI (pv_ln A a)) (nI nst) (nI f) (nI k) (nI (pv_dd A a k)) 0 (nI (pv_ne A nr a k)) x2 y = _
      rw [hz]
      exact c0
theorem zk_421 (h : pq_R A les car b v R nr ρs sg vl x) (hy1 : h_K y l5 = 53) (hy2 : h_I y l5 1 = nI nr) (ha : a < pv_W A) (hk : k < pv_W A) (hf : f ≤ 1) (hN : znr A a nst) {en : Nat} (hen : en ≤ pv_dd A a k) : ∃ x' f', pp_Sc x x' ∧ f' ≤ 1 ∧ (f' = 0 ↔ f = 0 ∧ (k < a → pv_pr A k = 0 → pv_ne A nr k a = 0)) ∧ f_l_L_law_421 L xs k10 k94 k215 k334 l2 l3 l5 (nI (pv_W A)) l7 l8 l10 l11 l12 l13 (nI a) (nI (pv_ln A a)) (nI nst) (nI f) (nI k) (nI (pv_dd A a k)) (nI (max (pv_ln A a) (pv_ln A k))) (nI en) x y = k334 l2 l3 l5 (nI (pv_W A)) l7 l8 l10 l11 l12 l13 (nI a) (nI (pv_ln A a)) (nI nst) (nI f') (nI (k + 1)) x' y := by
  have hW := h.1.1
  have hB := h.dd ha hk
  obtain ⟨x1, s1, e1⟩ := pq_apart h hk ha
  obtain ⟨x', f', c0, c1, c2, c3⟩ := zk_453 (L := L) (xs := xs) (k10 := k10) (k94 := k94) (k215 := k215) (k334 := k334) (l2 := l2) (l3 := l3) (l5 := l5) (l7 := l7) (l8 := l8) (l10 := l10) (l11 := l11) (l12 := l12) (l13 := l13) (y := y) (h.s s1) hy1 hy2 ha hk hf hN
  refine ⟨x', f', s1.tr c0, c1, c2, ?_⟩
  unfold f_l_L_law_421
  rw [e1, pp_b]
  show (if nI (pv_dd A a k) = nI (pv_dd A k a) then (if nI (pv_dd A a k) < nI en then _ else (if nI a = nI k then (if nI (pv_dd A a k) = 0 then _ else _) else _)) else _) = _
  rw [if_pos (by rw [pv_ddC]), if_neg (nI_nlt hen (by omega))]
  by_cases e : a = k
  · rw [if_pos (by rw [e]), if_pos (by rw [← e, h.d0 ha]; rfl)]
    exact c3
  · rw [if_neg (by rw [nI_eq (by omega) (by omega)]; exact e)]
    exact c3
theorem zk_334 (h0 : pq_R A les car b v R nr ρs sg vl x) (hy1 : h_K y l5 = 53) (hy2 : h_I y l5 1 = nI nr) (ha : a < pv_W A) (hN : znr A a nst) : ∀ d fu k f x1, d = pv_W A - k → d < fu → k ≤ pv_W A → pp_Sc x x1 → f ≤ 1 → (f = 0 ↔ ∀ j, j < k → j < a → pv_pr A j = 0 → pv_ne A nr j a = 0) → ∃ x' s, pp_Sc x x' ∧ f_l_L_law_334 L xs k10 k94 k215 fu l2 l3 l5 (nI (pv_W A)) l7 l8 l10 l11 l12 l13 (nI a) (nI (pv_ln A a)) (nI nst) (nI f) (nI k) x1 y = f_l_L_law_631 L xs k10 k94 k215 l2 l3 l5 (nI (pv_W A)) l7 l8 l10 l11 l12 l13 (nI a) (nI (pv_ln A a)) s s x' y := by
  have hW := h0.1.1
  intro d
  induction d with
  | zero =>
    intro fu k f x1 hd hfu hk hs hf hfl
    obtain ⟨f1, rfl⟩ : ∃ f, fu = f + 1 := ⟨fu - 1, by omega⟩
    have h := h0.s hs
    obtain ⟨x2, s2, e2⟩ := pq_needless h ha
    have hp := h0.1.2.1 a
    have hn1 := pv_nl1 A nr a
    have hnx : pv_nx A nr a a = 0 ↔ f = 0 := by
      rw [pv_nx0 a (Nat.le_refl _), hfl]
      exact ⟨fun q j h1 h2 => q j (by omega) h2, fun q j h1 h2 => q j (by omega) h2⟩
    have hnx1 := pv_nx1 A nr a a
    rw [f_l_L_law_334, if_pos (nI_le (by omega) (by omega)), e2, pp_b]
    show ∃ x' s, _ ∧ (if nI f = 0 then f_l_L_law_631 L xs k10 k94 k215 l2 l3 l5 (nI (pv_W A)) l7 l8 l10 l11 l12 l13 (nI a) (nI (pv_ln A a)) 0 (nI (pv_nl A nr a)) x2 y else (f_X12_isPruned (nI a) x2).bind fun q89 => if q89 = 0 then f_l_L_law_631 L xs k10 k94 k215 l2 l3 l5 (nI (pv_W A)) l7 l8 l10 l11 l12 l13 (nI a) (nI (pv_ln A a)) 1 (nI (pv_nl A nr a)) x2 y else f_l_L_law_631 L xs k10 k94 k215 l2 l3 l5 (nI (pv_W A)) l7 l8 l10 l11 l12 l13 (nI a) (nI (pv_ln A a)) 0 (nI (pv_nl A nr a)) x2 y) = _
    by_cases hz : f = 0
    · have e : pv_nl A nr a = 0 := by
        unfold pv_nl
        split
        · rfl
        · exact hnx.mpr hz
      rw [if_pos (by rw [hz]; rfl), e]
      exact ⟨x2, 0, hs.tr s2, rfl⟩
    · rw [if_neg (nI_ne0 (by omega) (by omega)), pq_pruned (h.s s2) ha, pp_b]
      by_cases hpa : pv_pr A a = 0
      · have e : pv_nl A nr a = 1 := by
          unfold pv_nl
          rw [if_neg (by omega)]
          have : pv_nx A nr a a ≠ 0 := fun q => hz (hnx.mp q)
          omega
        rw [if_pos (by rw [hpa]; rfl), e]
        exact ⟨x2, 1, hs.tr s2, rfl⟩
      · have e : pv_nl A nr a = 0 := by
          unfold pv_nl
          rw [if_pos (by omega)]
        rw [if_neg (nI_ne0 (by omega) (by omega)), e]
        exact ⟨x2, 0, hs.tr s2, rfl⟩
  | succ d ih =>
    intro fu k f x1 hd hfu hk hs hf hfl
    obtain ⟨f1, rfl⟩ : ∃ f, fu = f + 1 := ⟨fu - 1, by omega⟩
    have h := h0.s hs
    have hkW : k < pv_W A := by omega
    obtain ⟨a1, a2, a3⟩ := h.w ha
    obtain ⟨b1, b2, b3⟩ := h.w hkW
    obtain ⟨x2, s2, e2⟩ := pq_apart h ha hkW
    have h2 := h.s s2
    have hen := h.en ha hkW
    have e3 : f_X12_pitchAt (nI a) 0 x2 = some (nI (pv_pt A a 0)) := pq_pitch h2 ha a1
    have e4 : f_X12_pitchAt (nI k) 0 x2 = some (nI (pv_pt A k 0)) := pq_pitch h2 hkW b1
    have e5 : nI (pv_ln A a) - (1 : Int32) = nI (pv_ln A a - 1) := pk_sub (b := 1) (by omega)
    have e6 : nI (pv_ln A k) - (1 : Int32) = nI (pv_ln A k - 1) := pk_sub (b := 1) (by omega)
    have next : ∀ en, en ≤ pv_dd A a k → ∃ x' s, pp_Sc x x' ∧ f_l_L_law_421 L xs k10 k94 k215 (f_l_L_law_334 L xs k10 k94 k215 f1) l2 l3 l5 (nI (pv_W A)) l7 l8 l10 l11 l12 l13 (nI a) (nI (pv_ln A a)) (nI nst) (nI f) (nI k) (nI (pv_dd A a k)) (nI (max (pv_ln A a) (pv_ln A k))) (nI en) x2 y = f_l_L_law_631 L xs k10 k94 k215 l2 l3 l5 (nI (pv_W A)) l7 l8 l10 l11 l12 l13 (nI a) (nI (pv_ln A a)) s s x' y := fun en hen2 => by
      obtain ⟨x3, f', c0, c1, c2, c3⟩ := zk_421 (L := L) (xs := xs) (k10 := k10) (k94 := k94) (k215 := k215) (k334 := f_l_L_law_334 L xs k10 k94 k215 f1) (l2 := l2) (l3 := l3) (l5 := l5) (l7 := l7) (l8 := l8) (l10 := l10) (l11 := l11) (l12 := l12) (l13 := l13) (y := y) h2 hy1 hy2 ha hkW hf hN hen2
      obtain ⟨x', s, i1, i2⟩ := ih f1 (k + 1) f' x3 (by omega) (by omega) (by omega) ((hs.tr s2).tr c0) c1 (by
        rw [c2, hfl]
        constructor
        · intro q j h1 h2 h3
          by_cases e : j = k
          · rw [e] at h2 h3 ⊢; exact q.2 h2 h3
          · exact q.1 j (by omega) h2 h3
        · intro q
          exact ⟨fun j h1 h2 h3 => q j (by omega) h2 h3, fun h1 h2 => q k (by omega) h1 h2⟩)
      exact ⟨x', s, i1, by rw [c3]; exact i2⟩
    rw [f_l_L_law_334, if_neg (nI_ge hkW (by omega)), e2, pp_b]
    show ∃ x' s, _ ∧ Option.bind (f_X12_lengthOf (nI k) x2) _ = _
    rw [pq_length h2 hkW, pp_b]
    show ∃ x' s, _ ∧ Option.bind (f_X12_pitchAt (nI a) 0 x2) _ = _
    rw [e3, pp_b]
    show ∃ x' s, _ ∧ Option.bind (f_X12_pitchAt (nI k) 0 x2) _ = _
    rw [e4, pp_b, yw_apart (a3 0) (b3 0), pp_b, pp_max (by omega) (by omega)]
    by_cases hm : max (pv_ln A a) (pv_ln A k) ≤ 1
    · rw [if_pos (show nI (max (pv_ln A a) (pv_ln A k)) ≤ (1 : Int32) from nI_le (b := 1) hm (by omega))]
      rw [if_pos hm] at hen
      exact next _ (by omega)
    · rw [if_neg (show ¬ nI (max (pv_ln A a) (pv_ln A k)) ≤ (1 : Int32) from nI_ge (a := 1) (by omega) (by omega)), e5]
      rw [if_neg hm] at hen
      show ∃ x' s, _ ∧ Option.bind (f_X12_pitchAt (nI a) (nI (pv_ln A a - 1)) x2) _ = _
      rw [pq_pitch h2 ha (show pv_ln A a - 1 < pv_ln A a by omega), pp_b, pp_b, e6]
      show ∃ x' s, _ ∧ Option.bind (f_X12_pitchAt (nI k) (nI (pv_ln A k - 1)) x2) _ = _
      rw [pq_pitch h2 hkW (show pv_ln A k - 1 < pv_ln A k by omega), pp_b, yw_apart (a3 _) (b3 _), pp_b, nI_add]
      exact next _ hen
/-- who would be next, of the first k -/
def znx (A : PV) (k : Nat) : Option Nat := match pv_mt A none with
  | none => none
  | some m => pp_best (pp_okf (pv_pr A) (some m)) (pv_dh A) k
theorem zk_631 (h : pq_R A les car b v R nr ρs sg vl x) (ha : a < pv_W A) (s : Int32) : ∃ x', pp_Sc x x' ∧ f_l_L_law_631 L xs k10 k94 k215 l2 l3 l5 l6 l7 l8 (nI (pv_hl A)) (pp_en (pv_mt A none)) l12 (pp_en (znx A a)) (nI a) (nI (pv_ln A a)) s s x y = k215 l2 l3 l5 l6 l7 l8 (nI (pv_hl A)) (pp_en (pv_mt A none)) l12 (pp_en (znx A (a + 1))) (nI (a + 1)) x' y := by
  have hW := h.1.1
  obtain ⟨a1, a2, a3⟩ := h.w ha
  have hh := h.h.1
  have hp := h.1.2.1 a
  unfold f_l_L_law_631
  rw [if_pos rfl, nI_1 a]
  by_cases h0 : pv_hl A = 0
  · have e : pv_mt A none = none := by unfold pv_mt; rw [if_pos h0]
    rw [if_pos (by rw [h0]; rfl)]
    refine ⟨x, pp_Sc.rf x, ?_⟩
    unfold znx
    rw [e]
  · rw [if_neg (nI_ne0 (by omega) (by omega)), pq_distTo h ha h0, pp_b]
    obtain ⟨x1, s1, e1⟩ := pq_stepsTo h ha h0
    have h1 := h.s s1
    obtain ⟨x2, s2, e2⟩ := pq_contTo h1 ha h0
    have h2 := h1.s s2
    obtain ⟨x3, s3, e3⟩ := pq_contTo h2 ha h0
    have h3 := h2.s s3
    have hs3 := (s1.tr s2).tr s3
    obtain ⟨g1, g2⟩ := h.sh ha h0
    have hk := h.kh ha h0
    have hd := h.dh ha
    rw [e1, pp_b, pp_max (by omega) (by omega), nI_add]
    show ∃ x', _ ∧ (if nI (pv_sh A a) < nI (max (pv_ln A a) (pv_hl A)) then _ else (if nI (pv_ln A a + pv_hl A) ≤ nI (pv_sh A a) then _ else (if nI (pv_dh A a) < 0 then _ else Option.bind (f_X12_contourTo (nI a) x1) _))) = _
    rw [if_neg (nI_nlt g1 (by omega)), if_neg (nI_ge g2 (by omega)), if_neg (nI_pos (by omega)), e2, pp_b]
    show ∃ x', _ ∧ (if nI (pv_kh A a) < 0 then _ else Option.bind (f_X12_contourTo (nI a) x2) _) = _
    rw [if_neg (nI_pos (by omega)), e3, pp_b, show nI (pv_ln A a + pv_hl A) - (1 : Int32) = nI (pv_ln A a + pv_hl A - 1) from pk_sub (b := 1) (by omega)]
    show ∃ x', _ ∧ (if nI (pv_kh A a) ≤ nI (pv_ln A a + pv_hl A - 1) then Option.bind (f_X12_isPruned (nI a) x3) _ else _) = _
    rw [if_pos (nI_le hk (by omega)), pq_pruned h3 ha, pp_b]
    by_cases hz : pv_pr A a = 0
    · rw [if_pos (by rw [hz]; rfl)]
      rcases pv_mtI A none with ⟨i1, i2⟩ | ⟨m, i1, m1, m2, m3, m4⟩
      · exact absurd ⟨h0, hz, fun q => by cases q⟩ (i2 a ha)
      · have em : pp_en (pv_mt A none) = nI m := by rw [i1]; rfl
        have ez : ∀ k, znx A k = pp_best (pp_okf (pv_pr A) (some m)) (pv_dh A) k := fun k => by unfold znx; rw [i1]
        have hdm := h.dh m2
        have m5 := m4 a (by omega) ha ⟨h0, hz, fun q => by cases q⟩
        rw [em, pq_distTo h3 m2 h0, pp_b]
        rw [if_neg (nI_nlt (show pv_dh A m ≤ pv_dh A a by omega) (by omega)), pp_b]
        have k757 : f_l_L_law_757 L xs k10 k94 k215 l2 l3 l5 l6 l7 l8 (nI (pv_hl A)) (nI m) l12 (pp_en (znx A a)) (nI a) (nI (pv_dh A a)) x3 y = k215 l2 l3 l5 l6 l7 l8 (nI (pv_hl A)) (nI m) l12 (pp_en (znx A (a + 1))) (nI (a + 1)) x3 y := by
          unfold f_l_L_law_757
          rw [nI_1 a, ez, ez]
          show _ = k215 l2 l3 l5 l6 l7 l8 (nI (pv_hl A)) (nI m) l12 (pp_en (if pp_okf (pv_pr A) (some m) a = true then (match pp_best (pp_okf (pv_pr A) (some m)) (pv_dh A) a with
            | none => some a
            | some b => if pv_dh A a < pv_dh A b then some a else some b) else pp_best (pp_okf (pv_pr A) (some m)) (pv_dh A) a)) (nI (a + 1)) x3 y
          by_cases e : a = m
          · rw [if_pos (by rw [e]), if_neg (by unfold pp_okf; rw [decide_eq_true_eq]; exact fun q => q.2 (by rw [e]))]
          · rw [if_neg (by rw [nI_eq (by omega) (by omega)]; exact e), if_pos (show pp_okf (pv_pr A) (some m) a = true by unfold pp_okf; rw [decide_eq_true_eq]; exact ⟨hz, fun q => e (Option.some.inj q).symm⟩)]
            cases hb : pp_best (pp_okf (pv_pr A) (some m)) (pv_dh A) a with
            | none => rw [if_pos (show pp_en none < 0 by decide)]; rfl
            | some c =>
              have hc := (pp_bestB _ hb).1
              have hdc := h.dh (show c < pv_W A by omega)
              rw [if_neg (show ¬ pp_en (some c) < 0 from nI_pos (by omega)), show pp_en (some c) = nI c from rfl, pq_distTo h3 (show c < pv_W A by omega) h0, pp_b]
              by_cases hlt : pv_dh A a < pv_dh A c
              · rw [if_neg (nI_ge hlt (by omega))]
                simp only [hlt, if_true]
                rfl
              · rw [if_pos (nI_le (by omega) (by omega))]
                simp only [hlt, if_false]
                rfl
        refine ⟨x3, hs3, ?_⟩
        by_cases q : pv_dh A a = pv_dh A m
        · rw [if_pos (by rw [q]), if_pos (nI_le (show m ≤ a by omega) (by omega))]
          exact k757
        · rw [if_neg (by rw [nI_eq (by omega) (by omega)]; exact q)]
          exact k757
    · rw [if_neg (nI_ne0 (by omega) (by omega))]
      refine ⟨x3, hs3, ?_⟩
      have ez : znx A (a + 1) = znx A a := by
        unfold znx
        cases pv_mt A none with
        | none => rfl
        | some m =>
          show (if pp_okf (pv_pr A) (some m) a = true then _ else _) = _
          rw [if_neg (by unfold pp_okf; rw [decide_eq_true_eq]; exact fun q => hz q.1)]
      rw [ez]
theorem zcmp {p : Nat → Nat} {n k : Nat} (hp : ∀ k, p k ≤ 40) (hk : k + 1 < n) : f_l_J6_compare_7cf53 (nI (p (k + 1))) (nI (p k)) = some (pp_ci p n k) := by
  have h1 := hp k
  have h2 := hp (k + 1)
  unfold f_l_J6_compare_7cf53 pp_ci
  rw [if_pos hk]
  by_cases g1 : p k < p (k + 1)
  · rw [if_pos (nI_le (by omega) (by omega)), if_neg (by rw [nI_eq (by omega) (by omega)]; omega), if_pos g1]
  · rw [if_neg g1]
    by_cases g2 : p (k + 1) < p k
    · rw [if_neg (nI_ge g2 (by omega)), if_pos g2]
    · rw [if_pos (nI_le (by omega) (by omega)), if_pos (show nI (p (k + 1)) = nI (p k) by rw [show p (k + 1) = p k by omega]), if_neg g2]
theorem zk_233 (h : pq_R A les car b v R nr ρs sg vl x) (hy1 : h_K y l5 = 53) (hy2 : h_I y l5 1 = nI nr) (ha : a < pv_W A) : ∀ d fu k, d = pv_ln A a - k → d < fu → k ≤ pv_ln A a → ∃ x', pp_Sc x x' ∧ f_l_L_law_233 L xs k10 k94 k215 fu l2 l3 l5 (nI (pv_W A)) l7 l8 (nI (pv_hl A)) (pp_en (pv_mt A none)) l12 (pp_en (znx A a)) (nI a) (nI (pv_ln A a)) (nI k) x y = k215 l2 l3 l5 (nI (pv_W A)) l7 l8 (nI (pv_hl A)) (pp_en (pv_mt A none)) l12 (pp_en (znx A (a + 1))) (nI (a + 1)) x' y := by
  have hW := h.1.1
  obtain ⟨a1, a2, a3⟩ := h.w ha
  intro d
  induction d with
  | zero =>
    intro fu k hd hfu hk
    obtain ⟨f1, rfl⟩ : ∃ f, fu = f + 1 := ⟨fu - 1, by omega⟩
    have fin : ∀ nst x1, znr A a nst → pp_Sc x x1 → ∃ x', pp_Sc x x' ∧ f_l_L_law_334 L xs k10 k94 k215 g_fuel l2 l3 l5 (nI (pv_W A)) l7 l8 (nI (pv_hl A)) (pp_en (pv_mt A none)) l12 (pp_en (znx A a)) (nI a) (nI (pv_ln A a)) (nI nst) 0 0 x1 y = k215 l2 l3 l5 (nI (pv_W A)) l7 l8 (nI (pv_hl A)) (pp_en (pv_mt A none)) l12 (pp_en (znx A (a + 1))) (nI (a + 1)) x' y := fun nst x1 hN hs => by
      obtain ⟨x2, s, c1, c2⟩ := zk_334 (L := L) (xs := xs) (k10 := k10) (k94 := k94) (k215 := k215) (l2 := l2) (l3 := l3) (l5 := l5) (l7 := l7) (l8 := l8) (l10 := nI (pv_hl A)) (l11 := pp_en (pv_mt A none)) (l12 := l12) (l13 := pp_en (znx A a)) (y := y) h hy1 hy2 ha hN (pv_W A - 0) g_fuel 0 0 x1 rfl (by unfold g_fuel; omega) (by omega) hs (by omega) ⟨fun _ j h1 => by omega, fun _ => rfl⟩
      obtain ⟨x3, d1, d2⟩ := zk_631 (L := L) (xs := xs) (k10 := k10) (k94 := k94) (k215 := k215) (l2 := l2) (l3 := l3) (l5 := l5) (l6 := nI (pv_W A)) (l7 := l7) (l8 := l8) (l12 := l12) (y := y) (h.s c1) ha s
      exact ⟨x3, c1.tr d1, c2.trans d2⟩
    rw [f_l_L_law_233, if_pos (nI_le (by omega) (by omega))]
    by_cases hW1 : pv_W A ≤ 1
    · rw [if_pos (show nI (pv_W A) ≤ (1 : Int32) from nI_le (b := 1) hW1 (by omega))]
      exact fin a x (fun q => by omega) (pp_Sc.rf x)
    · rw [if_neg (show ¬ nI (pv_W A) ≤ (1 : Int32) from nI_ge (a := 1) (by omega) (by omega))]
      obtain ⟨x1, s1, e1⟩ := pq_nearest h ha (by omega)
      rw [e1, pp_b]
      rcases pp_bestI (ok := fun k => decide (k ≠ a)) (d := pv_dd A a) (pv_W A) with ⟨i1, i2⟩ | ⟨c, i1, b1, b2, b3, b4⟩
      · exfalso
        by_cases e : a = 0
        · exact i2 1 (by omega) (by rw [decide_eq_true_eq]; omega)
        · exact i2 0 (by omega) (by rw [decide_eq_true_eq]; omega)
      · have ec : pv_ns A a (pv_W A) = some c := i1
        rw [ec]
        exact fin c x1 (fun _ => ⟨b2, fun j h1 h2 => b4 j (by omega) h1 (decide_eq_true h2)⟩) s1
  | succ d ih =>
    intro fu k hd hfu hk
    obtain ⟨f1, rfl⟩ : ∃ f, fu = f + 1 := ⟨fu - 1, by omega⟩
    obtain ⟨x', i1, i2⟩ := ih f1 (k + 1) (by omega) (by omega) (by omega)
    refine ⟨x', i1, ?_⟩
    have hkl : k < pv_ln A a := by omega
    have p1 := a3 k
    have k298 : f_l_L_law_298 L xs k10 k94 k215 (f_l_L_law_233 L xs k10 k94 k215 f1) l2 l3 l5 (nI (pv_W A)) l7 l8 (nI (pv_hl A)) (pp_en (pv_mt A none)) l12 (pp_en (znx A a)) (nI a) (nI (pv_ln A a)) (nI k) (pp_ci (pv_pt A a) (pv_ln A a) k) (pp_ci (pv_pt A a) (pv_ln A a) k) x y = k215 l2 l3 l5 (nI (pv_W A)) l7 l8 (nI (pv_hl A)) (pp_en (pv_mt A none)) l12 (pp_en (znx A (a + 1))) (nI (a + 1)) x' y := by
      unfold f_l_L_law_298
      rw [if_pos rfl, nI_1 k]
      exact i2
    rw [f_l_L_law_233, if_neg (nI_ge hkl (by omega)), pq_pitch h ha hkl, pp_b, if_neg (nI_pos (by omega)), if_neg (show ¬ (40 : Int32) < nI (pv_pt A a k) from nI_nlt (b := pv_pt A a k) (a := 40) p1 (by omega)), pq_contour h ha hkl, pp_b, nI_1 k]
    by_cases e : k + 1 = pv_ln A a
    · rw [if_pos (by rw [e])]
      have ec : pp_ci (pv_pt A a) (pv_ln A a) k = 0 := by unfold pp_ci; rw [if_neg (by omega)]
      rw [ec] at k298 ⊢
      exact k298
    · rw [if_neg (by rw [nI_eq (by omega) (by omega)]; exact e), pq_pitch h ha (show k + 1 < pv_ln A a by omega), pp_b, zcmp (n := pv_ln A a) a3 (by omega), pp_b]
      exact k298
theorem pv_suE : pv_su A = (match pv_mt A none with
    | none => -2
    | some m => match znx A (pv_W A) with
      | none => -1
      | some s => nI (pv_dh A s) - nI (pv_dh A m)) := by
  unfold pv_su znx
  cases pv_mt A none with
  | none => rfl
  | some m => rfl
theorem zk_215 (h0 : pq_R A les car b v R nr ρs sg vl x) (hy1 : h_K y l5 = 53) (hy2 : h_I y l5 1 = nI nr) : ∀ d fu k x1, d = pv_W A - k → d < fu → k ≤ pv_W A → pp_Sc x x1 → ∃ x', pp_Sc x x' ∧ f_l_L_law_215 L xs k10 k94 fu l2 l3 l5 (nI (pv_W A)) l7 l8 (nI (pv_hl A)) (pp_en (pv_mt A none)) (pv_su A) (pp_en (znx A k)) (nI k) x1 y = f_l_L_law_824 L xs k10 k94 l2 l3 l5 (nI (pv_W A)) l7 l8 (nI (pv_hl A)) (pp_en (pv_mt A none)) x' y := by
  have hW := h0.1.1
  intro d
  induction d with
  | zero =>
    intro fu k x1 hd hfu hk hs
    obtain ⟨f1, rfl⟩ : ∃ f, fu = f + 1 := ⟨fu - 1, by omega⟩
    have h := h0.s hs
    have ek : k = pv_W A := by omega
    subst ek
    refine ⟨x1, hs, ?_⟩
    rw [f_l_L_law_215, if_pos (nI_le (Nat.le_refl _) (by omega))]
    have hsu := pv_suE (A := A)
    cases hm : pv_mt A none with
    | none => rw [if_pos (show pp_en none < 0 by decide)]
    | some m =>
      obtain ⟨m1, m2, m3, m4⟩ := pv_mtB hm
      rw [hm] at hsu
      rw [if_neg (show ¬ pp_en (some m) < 0 from nI_pos (by omega))]
      cases hn : znx A (pv_W A) with
      | none =>
        rw [hn] at hsu
        rw [if_neg (show ¬ (0 : Int32) ≤ pp_en none by decide), hsu]
        unfold f_l_L_law_819
        rw [if_pos rfl]
      | some c =>
        rw [hn] at hsu
        have hc : c < pv_W A := by
          unfold znx at hn
          rw [hm] at hn
          exact (pp_bestB _ hn).1
        rw [if_pos (show (0 : Int32) ≤ pp_en (some c) from nI_pos' (by omega)), hsu]
        show (Option.bind (f_X12_distanceTo (nI c) x1) fun q39 => Option.bind (f_X12_distanceTo (nI m) x1) _) = _
        rw [pq_distTo h hc m2, pp_b, pq_distTo h m1 m2, pp_b]
        unfold f_l_L_law_819
        rw [if_pos rfl]
  | succ d ih =>
    intro fu k x1 hd hfu hk hs
    obtain ⟨f1, rfl⟩ : ∃ f, fu = f + 1 := ⟨fu - 1, by omega⟩
    have h := h0.s hs
    have hkW : k < pv_W A := by omega
    have hl := (h.w hkW).2.1
    rw [f_l_L_law_215, if_neg (nI_ge hkW (by omega)), pq_length h hkW, pp_b]
    obtain ⟨x2, c1, c2⟩ := zk_233 (L := L) (xs := xs) (k10 := k10) (k94 := k94) (k215 := f_l_L_law_215 L xs k10 k94 f1) (l2 := l2) (l3 := l3) (l5 := l5) (l7 := l7) (l8 := l8) (l12 := pv_su A) (y := y) h hy1 hy2 hkW (pv_ln A k - 0) g_fuel 0 rfl (by unfold g_fuel; omega) (by omega)
    obtain ⟨x', i1, i2⟩ := ih f1 (k + 1) x2 (by omega) (by omega) (by omega) (hs.tr c1)
    exact ⟨x', i1, c2.trans i2⟩
end ZLK
