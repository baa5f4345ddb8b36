/-! the class between calls, by itself: what the calls that change something do -/
section PQO
variable {A : PV} {les car : Int32} {b v R nr : Nat} {ρs : Nat → QR} {sg : Nat → Nat} {vl : Nat → Int32} {x : CS}
/-- behind another row of what was heard, all distances are measured anew -/
theorem pq_heard (h : pq_R A les car b v R nr ρs sg vl x) {x1 : CS} {n : Nat} {q : Nat → Nat} (h1 : ∀ i, i ≠ 14 → i ≠ 15 → x1.1 i = x.1 i) (h2 : x1.2 = x.2) (hq : pp_RC x1 14 q n) : ∃ x', f_X1_measureAll b v x1 = some x' ∧ pq_R (pv_hr A n q) les car b v R nr ρs sg vl x' ∧ x'.1 14 1 = nI n := by
  have hb := h.bk
  have hv := h.2.2.2.2.1.1
  have hD : pp_VD (pv_hr A n q) x1 v 0 := pp_VD.hr h.2.2.2.2.1 (fun i hi => h1 i (by omega) (by omega)) hq
  obtain ⟨x', t1, t2, t3, t4⟩ := pp_measA hb (pv_ok.hr h.1) hD (by rw [h1 b (by omega) (by omega)]; exact h.g)
  have hG : pq_Gc v x x' := by
    refine ⟨fun i h3 h4 => ?_, t3.2.trans h2⟩
    rw [t3.1 i (by omega) h4]
    exact h1 i (by omega) (by omega)
  have hR := h.gc (A' := pv_hr A n q) hG rfl rfl (pv_ok.hr h.1) t2
  have e3 : x'.1 v = x.1 v := t4.trans (h1 v (by omega) (by omega))
  rw [e3, h.2.2.2.2.2.1.1, h.2.2.2.2.2.1.2] at hR
  exact ⟨x', t1, hR, t2.2.2.2.1⟩
theorem pq_forget (h : pq_R A les car b v R nr ρs sg vl x) : ∃ x', f_X12_forget x = some (nI (pv_hl A), x') ∧ pq_R (pv_hr A 0 (pv_hp A)) les car b v R nr ρs sg vl x' := by
  have hb := h.bk
  have hH := h.2.2.2.2.1.2.2.2
  obtain ⟨x', t1, t2, t3⟩ := pq_heard h (x1 := g_wi x 14 1 0) (n := 0) (q := pv_hp A) (fun i h1 h2 => by rw [pp_c1]; exact pp_c4 h1) rfl ⟨by rw [pp_c1, pp_c3, pp_u1]; rfl, by omega, hH.2.2.1, fun k hk => absurd hk (Nat.not_lt_zero _)⟩
  refine ⟨x', ?_, t2⟩
  unfold f_X12_forget
  show (if kd (x.2 0 6) = 7 then (if kd (x.2 0 7) = 9 then Option.bind (f_X1_measureAll (x.2 0 6) (x.2 0 7) (g_wi x 14 1 0)) _ else none) else none) = _
  rw [h.2.1.1, h.2.1.2.1, if_pos (pp_k7 hb), if_pos (pp_k9 h.2.2.2.2.1.1), t1, pp_b, hH.1]
def pq_hq (A : PV) (j : Nat) : Nat → Nat := fun k => if k = pv_hl A then j else pv_hp A k
theorem pq_hear (h : pq_R A les car b v R nr ρs sg vl x) {j : Nat} (hj : j ≤ 40) (h24 : pv_hl A < 24) : ∃ x', f_X12_hear (nI j) x = some (nI (pv_hl A + 1), x') ∧ pq_R (pv_hr A (pv_hl A + 1) (pq_hq A j)) les car b v R nr ρs sg vl x' := by
  have hb := h.bk
  have hH := h.2.2.2.2.1.2.2.2
  have hadd : f_X3_add 14 (nI j) x = some (g_wi (g_wi x 15 (pv_hl A) (nI j)) 14 1 (nI (pv_hl A + 1))) := by
    unfold f_X3_add
    rw [hH.1, if_neg (nI_pos (by omega)), show (24 : Int32) = nI 24 from rfl, if_neg (nI_ge (by omega) (by omega)), if_pos ((pp_ok (by omega)).mpr (by omega)), nI_clamp (by omega)]
    show some (g_wi (g_wi x 15 (pv_hl A) (nI j)) 14 1 ((g_wi x 15 (pv_hl A) (nI j)).1 14 1 + 1)) = _
    rw [show (g_wi x 15 (pv_hl A) (nI j)).1 14 = x.1 14 by rw [pp_c1]; exact pp_c4 (by omega), hH.1, nI_1]
  have e1 : ∀ i, i ≠ 14 → i ≠ 15 → (g_wi (g_wi x 15 (pv_hl A) (nI j)) 14 1 (nI (pv_hl A + 1))).1 i = x.1 i := fun i h1 h2 => by rw [pp_c1, pp_c4 h1, pp_c1]; exact pp_c4 h2
  have e15 : (g_wi (g_wi x 15 (pv_hl A) (nI j)) 14 1 (nI (pv_hl A + 1))).1 15 = upd (x.1 15) (pv_hl A) (nI j) := by rw [pp_c1, pp_c4 (by omega), pp_c1, pp_c3]
  obtain ⟨x', t1, t2, t3⟩ := pq_heard h (x1 := g_wi (g_wi x 15 (pv_hl A) (nI j)) 14 1 (nI (pv_hl A + 1))) (n := pv_hl A + 1) (q := pq_hq A j) e1 rfl ⟨by rw [pp_c1, pp_c3, pp_u1], by omega, fun k => by
      unfold pq_hq
      split
      · exact hj
      · exact hH.2.2.1 k, fun k hk => by
      rw [e15]
      unfold pq_hq
      by_cases e : k = pv_hl A
      · rw [e, pp_u1, if_pos rfl]
      · rw [pp_u2 e, if_neg e]; exact hH.2.2.2 k (by omega)⟩
  refine ⟨x', ?_, t2⟩
  unfold f_X12_hear
  rw [if_neg (nI_pos (by omega)), if_pos (show nI j ≤ (40 : Int32) from nI_le (a := j) (b := 40) hj (by omega)), hH.1, if_pos (show nI (pv_hl A) < (24 : Int32) from nI_lt (b := 24) (by omega) (by omega)), hadd, pp_b]
  show (if kd (x.2 0 6) = 7 then (if kd (x.2 0 7) = 9 then Option.bind (f_X1_measureAll (x.2 0 6) (x.2 0 7) _) _ else none) else none) = _
  rw [h.2.1.1, h.2.1.2.1, if_pos (pp_k7 hb), if_pos (pp_k9 h.2.2.2.2.1.1), t1, pp_b, t3]
theorem pq_hearWord (h : pq_R A les car b v R nr ρs sg vl x) {j : Nat} {d : Int32} (hj : j < pv_W A) (u1 : ¬ d < -39) (u2 : d ≤ 39) : ∃ x', f_X12_hearWord (nI j) d x = some (nI (pv_ln A j), x') ∧ pq_R (pv_hr A (pv_ln A j) (fun k => pp_hd (pv_pt A j k) d)) les car b v R nr ρs sg vl x' := by
  have hb := h.bk
  have hC := h.2.2.2.2.1
  have hv := hC.1
  have hW := h.1.1
  have a3 := (hC.2.2.1 j hj).2.2
  obtain ⟨f1, c1, c2⟩ := pp_copyR (l0 := 14) (by unfold pp_wd; omega) (by unfold pp_wd; omega) a3
  obtain ⟨f2, s1, s2⟩ := pp_shiftC (d := d) c2
  have ex1 : ∀ i, i ≠ 14 → i ≠ 15 → (g_wa (g_wa (g_wi x 14 1 (nI (pv_ln A j))) (14 + 1) f1) (14 + 1) f2).1 i = x.1 i := fun i h1 h2 => by rw [pp_c4 (by omega), pp_c4 (by omega), pp_c1]; exact pp_c4 h1
  obtain ⟨x', t1, t2, t3⟩ := pq_heard h (x1 := g_wa (g_wa (g_wi x 14 1 (nI (pv_ln A j))) (14 + 1) f1) (14 + 1) f2) (n := pv_ln A j) (q := fun k => pp_hd (pv_pt A j k) d) ex1 rfl ⟨by rw [pp_c4 (by omega), pp_c4 (by omega), pp_c1, pp_c3, pp_u1], a3.2.1, fun k => pp_hdB _ _, fun k hk => by rw [pp_c3]; exact s2 k hk⟩
  refine ⟨x', ?_, t2⟩
  unfold f_X12_hearWord
  rw [pq_rq h hj, pp_b, if_neg u1, if_pos u2, pq_ro h hj, pp_b, if_pos (pp_k5 hv (by omega)), c1, pp_b, s1, pp_b]
  show (if kd (x.2 0 6) = 7 then (if kd (x.2 0 7) = 9 then Option.bind (f_X1_measureAll (x.2 0 6) (x.2 0 7) _) _ else none) else none) = _
  rw [h.2.1.1, h.2.1.2.1, if_pos (pp_k7 hb), if_pos (pp_k9 hv), t1, pp_b, t3]
theorem pq_Rsr (h : pq_R A les car b v R nr ρs sg vl x) {j u : Nat} (hj : j < pv_W A) (hu : u ≤ 1) : pq_R (pv_sr A j u) les car b v R nr ρs sg vl (g_wi x (pp_wd v j) 1 (nI u)) := by
  have hC := h.2.2.2.2.1
  have hv := hC.1
  have hW := h.1.1
  have hR := h.gc (A' := pv_sr A j u) (x1 := g_wi x (pp_wd v j) 1 (nI u)) (by rw [pp_c1]; exact (pq_Gc.rf v x).wa (by unfold pp_wd; omega)) rfl rfl (h.1.sr hu) (pp_VC.sr h.1 hC hj)
  have e3 : (g_wi x (pp_wd v j) 1 (nI u)).1 v = x.1 v := by rw [pp_c1]; exact pp_c4 (by unfold pp_wd; omega)
  rw [e3, h.2.2.2.2.2.1.1, h.2.2.2.2.2.1.2] at hR
  exact hR
theorem pq_turn (h : pq_R A les car b v R nr ρs sg vl x) {j : Nat} (hj : j < pv_W A) : ∃ x', f_X12_turnPruned (nI j) x = some (nI (1 - pv_pr A j), x') ∧ pq_R (pv_sr A j (1 - pv_pr A j)) les car b v R nr ρs sg vl x' := by
  have hC := h.2.2.2.2.1
  have hv := hC.1
  have hW := h.1.1
  have hp := h.1.2.1 j
  refine ⟨_, ?_, pq_Rsr h hj (u := 1 - pv_pr A j) (by omega)⟩
  unfold f_X12_turnPruned
  rw [pq_rq h hj, pp_b, h.2.1.2.1, if_pos (pp_k9 hv), pp_word (by omega), pp_b, if_pos (pp_k10 hv (by omega)), (hC.2.2.1 j hj).1]
  have e : ∀ u : Int32, (g_wi x (pp_wd v j) 1 u).1 (pp_wd v j) 1 = u := fun u => by rw [pp_c1, pp_c3, pp_u1]
  rw [e, e]
  rcases Nat.lt_or_ge 0 (pv_pr A j) with h5 | h5
  · rw [show pv_pr A j = 1 by omega]; rfl
  · rw [show pv_pr A j = 0 by omega]; rfl
/-- all needless words are pruned, one behind the other: from word k on, with d left -/
def pq_pn (nr : Nat) : Nat → Nat → PV → Nat × PV
  | 0, _, A => (0, A)
  | d + 1, k, A => if pv_nl A nr k = 0 then pq_pn nr d (k + 1) A else (1 + (pq_pn nr d (k + 1) (pv_sr A k 1)).1, (pq_pn nr d (k + 1) (pv_sr A k 1)).2)
theorem pq_pnL {W : Nat} : ∀ d fc k c A x, d = W - k → d < fc → k ≤ W → pv_W A = W → pq_R A les car b v R nr ρs sg vl x → ∃ x', f_X12_pruneNeedless_4 fc (nI c) (nI k) x = some (nI (c + (pq_pn nr d k A).1), x') ∧ pq_R (pq_pn nr d k A).2 les car b v R nr ρs sg vl x' := by
  intro d
  induction d with
  | zero =>
    intro fc k c A x hd hfc hk hWe h
    obtain ⟨f1, rfl⟩ : ∃ fu, fc = fu + 1 := ⟨fc - 1, by omega⟩
    have hW := h.1.1
    have hC := h.2.2.2.2.1
    refine ⟨x, ?_, h⟩
    rw [f_X12_pruneNeedless_4, h.2.1.2.1, if_pos (pp_k9 hC.1), hC.2.1, if_pos (nI_le (by omega) (by omega))]
    rfl
  | succ d ih =>
    intro fc k c A x hd hfc hk hWe h
    obtain ⟨f1, rfl⟩ : ∃ fu, fc = fu + 1 := ⟨fc - 1, by omega⟩
    have hW := h.1.1
    have hC := h.2.2.2.2.1
    have hv := hC.1
    have hkW : k < pv_W A := by omega
    obtain ⟨f, hf⟩ := pp_needC h.1 hC h.bk h.2.1.1 h.2.1.2.1 h.g h.2.2.1.2 h.2.2.1.1 hkW
    have h1 := h.s (pq_sc9 x f)
    have hn1 := pv_nl1 A nr k
    rw [f_X12_pruneNeedless_4, h.2.1.2.1, if_pos (pp_k9 hv), hC.2.1, if_neg (nI_ge hkW (by omega)), hf, pp_b, nI_1, nI_1]
    show ∃ x', (if nI (pv_nl A nr k) = 0 then _ else _) = _ ∧ _
    by_cases hz : pv_nl A nr k = 0
    · obtain ⟨x', i1, i2⟩ := ih f1 (k + 1) c A (g_wa x 9 f) (by omega) (by omega) (by omega) hWe h1
      have e : pq_pn nr (d + 1) k A = pq_pn nr d (k + 1) A := by rw [pq_pn, if_pos hz]
      rw [if_pos (by rw [hz]; rfl), e]
      exact ⟨x', i1, i2⟩
    · obtain ⟨x', i1, i2⟩ := ih f1 (k + 1) (c + 1) (pv_sr A k 1) _ (by omega) (by omega) (by omega) hWe (pq_Rsr h1 (j := k) (u := 1) hkW (by omega))
      have e : pq_pn nr (d + 1) k A = (1 + (pq_pn nr d (k + 1) (pv_sr A k 1)).1, (pq_pn nr d (k + 1) (pv_sr A k 1)).2) := by rw [pq_pn, if_neg hz]
      rw [if_neg (nI_ne0 (by omega) (by omega)), e]
      refine ⟨x', ?_, i2⟩
      show (if kd (x.2 0 7) = 9 then Option.bind (f_X9_word (x.2 0 7) (nI k) (g_wa x 9 f)) _ else none) = _
      rw [h.2.1.2.1, if_pos (pp_k9 hv), pp_word (by omega), pp_b, if_pos (pp_k10 hv (by omega))]
      rw [show c + (1 + (pq_pn nr d (k + 1) (pv_sr A k 1)).1) = c + 1 + (pq_pn nr d (k + 1) (pv_sr A k 1)).1 by omega]
      exact i1
theorem pq_prune (h : pq_R A les car b v R nr ρs sg vl x) : ∃ x', f_X12_pruneNeedless x = some (nI (pq_pn nr (pv_W A) 0 A).1, x') ∧ pq_R (pq_pn nr (pv_W A) 0 A).2 les car b v R nr ρs sg vl x' := by
  have hW := h.1.1
  obtain ⟨x', i1, i2⟩ := pq_pnL (W := pv_W A) (pv_W A) g_fuel 0 0 A x (by omega) (by unfold g_fuel; omega) (by omega) rfl h
  rw [Nat.zero_add] at i1
  exact ⟨x', i1, i2⟩
/-- some lessons: what they carry out, what they make of the words -/
def pq_many (sg : Nat → Nat) (vl : Nat → Int32) (ρs : Nat → QR) (R : Nat) : Nat → Int32 → PV → Nat × PV
  | 0, _, A => (0, A)
  | n + 1, les, A => ((pq_fold les sg vl ρs R A).1 + (pq_many sg vl ρs R n (les + 1) (pq_fold les sg vl ρs R A).2).1, (pq_many sg vl ρs R n (les + 1) (pq_fold les sg vl ρs R A).2).2)
theorem pq_one (h : pq_R A les car b v R nr ρs sg vl x) : ∃ x', f_X1_passOne b v x = some (nI (pq_fold les sg vl ρs R A).1, x') ∧ pq_R (pq_fold les sg vl ρs R A).2 (les + 1) (car + nI (pq_fold les sg vl ρs R A).1) b v R nr ρs sg vl x' := by
  obtain ⟨x', t1, t2, t3, t4, t5⟩ := pq_less h.1 h.2.2.2.2.1 h.2.2.2.2.2.2.1
  have es : pq_ls (x.1 v 3) x b R ρs A = pq_fold les sg vl ρs R A := by
    unfold pq_ls
    rw [h.2.2.2.2.2.1.1, h.2.2.2.2.2.2.2.1, h.2.2.2.2.2.2.2.2]
  rw [es] at t1 t2 t4
  have hA := pq_fold2 (les := les) (sg := sg) (vl := vl) (ρs := ρs) h.1 R
  have hR := h.gc (A' := (pq_fold les sg vl ρs R A).2) (pq_Gc.ofF t5) hA.2.1 hA.2.2.2.2.2 hA.1 t2
  rw [t3, t4, h.2.2.2.2.2.1.1, h.2.2.2.2.2.1.2] at hR
  exact ⟨x', t1, hR⟩
theorem pq_passL {n : Nat} (hn : n ≤ 20) : ∀ d fc k c A les car x, d = n - k → d < fc → k ≤ n → pq_R A les car b v R nr ρs sg vl x → ∃ x', f_X12_passLessons_8 fc (nI n) (nI c) (nI k) x = some (nI (c + (pq_many sg vl ρs R d les A).1), x') ∧ pq_R (pq_many sg vl ρs R d les A).2 (les + nI d) (car + nI (pq_many sg vl ρs R d les A).1) b v R nr ρs sg vl x' := by
  intro d
  induction d with
  | zero =>
    intro fc k c A les car x hd hfc hk h
    obtain ⟨f1, rfl⟩ : ∃ fu, fc = fu + 1 := ⟨fc - 1, by omega⟩
    refine ⟨x, ?_, ?_⟩
    · rw [f_X12_passLessons_8, if_pos (nI_le (by omega) (by omega))]
      rfl
    · show pq_R A (les + nI 0) (car + nI 0) b v R nr ρs sg vl x
      rw [show nI 0 = (0 : Int32) from rfl, Int32.add_zero, Int32.add_zero]
      exact h
  | succ d ih =>
    intro fc k c A les car x hd hfc hk h
    obtain ⟨f1, rfl⟩ : ∃ fu, fc = fu + 1 := ⟨fc - 1, by omega⟩
    have hlt := nI_ge (show k < n by omega) (show n < 2 ^ 31 by omega)
    obtain ⟨x1, t1, t2⟩ := pq_one h
    obtain ⟨x', i1, i2⟩ := ih f1 (k + 1) (c + (pq_fold les sg vl ρs R A).1) _ _ _ x1 (by omega) (by omega) (by omega) t2
    refine ⟨x', ?_, ?_⟩
    · rw [f_X12_passLessons_8, if_neg hlt, h.2.1.1, if_pos (pp_k7 h.bk), h.2.1.2.1, if_pos (pp_k9 h.2.2.2.2.1.1), t1, pp_b, nI_1]
      show f_X12_passLessons_8 f1 (nI n) (nI c + nI (pq_fold les sg vl ρs R A).1) (nI (k + 1)) x1 = some (nI (c + ((pq_fold les sg vl ρs R A).1 + (pq_many sg vl ρs R d (les + 1) (pq_fold les sg vl ρs R A).2).1)), x')
      rw [nI_add, i1, Nat.add_assoc]
    · show pq_R (pq_many sg vl ρs R d (les + 1) (pq_fold les sg vl ρs R A).2).2 (les + nI (d + 1)) (car + nI ((pq_fold les sg vl ρs R A).1 + (pq_many sg vl ρs R d (les + 1) (pq_fold les sg vl ρs R A).2).1)) b v R nr ρs sg vl x'
      have e1 : les + nI (d + 1) = les + 1 + nI d := by
        rw [show d + 1 = 1 + d by omega, ← nI_add, ← Int32.add_assoc]
        rfl
      have e2 : ∀ p q : Nat, car + nI (p + q) = car + nI p + nI q := fun p q => by rw [← nI_add, ← Int32.add_assoc]
      rw [e1, e2]
      exact i2
theorem pq_pass (h : pq_R A les car b v R nr ρs sg vl x) {n : Nat} (h0 : 0 < n) (hn : n ≤ 20) : ∃ x', f_X12_passLessons (nI n) x = some (nI (pq_many sg vl ρs R n les A).1, x') ∧ pq_R (pq_many sg vl ρs R n les A).2 (les + nI n) (car + nI (pq_many sg vl ρs R n les A).1) b v R nr ρs sg vl x' := by
  obtain ⟨x', i1, i2⟩ := pq_passL hn n g_fuel 0 0 A les car x (by omega) (by unfold g_fuel; omega) (by omega) h
  refine ⟨x', ?_, i2⟩
  unfold f_X12_passLessons
  rw [pp_rlI h0 hn, pp_b]
  rw [Nat.zero_add] at i1
  exact i1
end PQO
