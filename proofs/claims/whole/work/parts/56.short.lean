/-! what was meant; the short ones; by hand -/
theorem pp_R.ma {x : CS} {y : MS} {g : Nat → Int32} (h : pp_R x y) : pp_R x (g_ma y 160 g) :=
  h.sc (pp_Sc.rf x) ((pp_Gm.rf y).ma (by omega)) (fun i _ _ => pp_g4 (by omega))
theorem pp_o24 {x : CS} {y : MS} {o : Nat → Int32} (h : pp_R x y) : pp_OK (f_L_meantWord x o) (f_X15_meantWord y) := by
  have h0 := h
  obtain ⟨A, b, v, R, Z, nr, T, hA, hT, hC, hM, h3, h4, hB⟩ := h
  have hW := hA.1
  have hv := hC.1
  have hg : y 127 0 = nI (pv_g A) := hM.2.2.1
  have hg20 := hA.2.2.2
  have hb := hB.1
  have hbg := hB.2.2.2.2.2.1
  obtain ⟨f, hf⟩ := pp_meantM (but := none) hA hM (fun b q => by cases q)
  have hcl : f_L_meantWord x o = Option.bind (Option.bind (f_X12_requireMeant (pp_en (pv_mt A none))) fun q3 => g_sb q3 (fun _ => some (Sum.inr (pp_en (pv_mt A none))))) (fun r => match r with | .inl u => if u = 1 then some ((1 : Int32), x, o) else none | .inr r => some ((0 : Int32), x, upd o 0 r)) := by
    unfold f_L_meantWord f_X12_meantWord
    rw [hT.2.1, if_pos (pp_k9 hv), pp_meantC hA hC, pp_b]
    rfl
  have hml : f_X15_meantWord y = (if pp_en (pv_mt A none) = -1 then some (0, g_mi (g_ma y 160 f) 120 0 1) else some (pp_en (pv_mt A none), g_mi (g_ma y 160 f) 120 0 0)) := by
    unfold f_X15_meantWord
    rw [show (-1 : Int32) = pp_en none from rfl, hf, pp_b]
    rfl
  cases hc : pv_mt A none with
  | none =>
    rw [hc] at hml hcl
    exact pp_thrG (o := o) (k := 1) (r := 0) (x1 := x) (y1 := g_ma y 160 f) h0.ma (by decide) (by rw [hcl]; rfl) hml
  | some c =>
    rw [hc] at hml hcl
    have hcb := pv_mtB hc
    have hne : ¬ nI c = -1 := pp_m1n (by omega)
    refine pp_fin (o := o) (r := nI c) (x1 := x) (y1 := g_mi (g_ma y 160 f) 120 0 0) ?_ (hml.trans (if_neg hne)) pp_th0 h0.ma.th
    rw [hcl]
    unfold f_X12_requireMeant
    rw [if_neg (show ¬ pp_en (some c) = -1 from hne)]
    rfl
theorem pp_o25 {x : CS} {y : MS} {o : Nat → Int32} (h : pp_R x y) : pp_OK (f_L_surety x o) (f_X15_surety y) := by
  have h0 := h
  obtain ⟨A, b, v, R, Z, nr, T, hA, hT, hC, hM, h3, h4, hB⟩ := h
  have hW := hA.1
  have hv := hC.1
  have hg : y 127 0 = nI (pv_g A) := hM.2.2.1
  have hg20 := hA.2.2.2
  have hb := hB.1
  have hbg := hB.2.2.2.2.2.1
  obtain ⟨f, hf⟩ := pp_meantM (but := none) hA hM (fun b q => by cases q)
  have hcl : f_L_surety x o = Option.bind (Option.bind (f_X12_requireMeant (pp_en (pv_mt A none))) fun q3 => g_sb q3 (fun _ => (f_X9_closestKept v (pp_en (pv_mt A none)) x).bind fun q4 => if q4 = (-1 : Int32) then (some (Sum.inr ((-1 : Int32)))) else ((f_X9_word v q4 x).bind fun q6 => if kd (q6) = 10 then ((f_X9_word v (pp_en (pv_mt A none)) x).bind fun q8 => if kd (q8) = 10 then (some (Sum.inr ((x.1 q6 2) - (x.1 q8 2)))) else none) else none))) (fun r => match r with | .inl u => if u = 1 then some ((1 : Int32), x, o) else none | .inr r => some ((0 : Int32), x, upd o 0 r)) := by
    unfold f_L_surety f_X12_surety
    rw [hT.2.1, if_pos (pp_k9 hv), pp_meantC hA hC, pp_b]
    rfl
  have hml : f_X15_surety y = (if pp_en (pv_mt A none) = -1 then some (0, g_mi (g_ma y 160 f) 120 0 1) else ((f_X15_meant 152 (pp_en (pv_mt A none)) (g_ma y 160 f)).bind fun q3 => if q3.1 = (-1 : Int32) then (f_X15_surety_64 (-1 : Int32) q3.2) else ((f_X15_distance 152 q3.1 (8 : Int32) q3.2).bind fun q5 => (f_X15_distance 152 (pp_en (pv_mt A none)) (8 : Int32) q5.2).bind fun q6 => f_X15_surety_64 (q5.1 - q6.1) q6.2))) := by
    unfold f_X15_surety
    rw [show (-1 : Int32) = pp_en none from rfl, hf, pp_b]
    rfl
  cases hc : pv_mt A none with
  | none =>
    rw [hc] at hml hcl
    exact pp_thrG (o := o) (k := 1) (r := 0) (x1 := x) (y1 := g_ma y 160 f) h0.ma (by decide) (by rw [hcl]; rfl) hml
  | some c =>
    rw [hc] at hml hcl
    have hcb := pv_mtB hc
    have hne : ¬ nI c = -1 := pp_m1n (by omega)
    have hM1 : pp_VM A (g_ma y 160 f) 152 := hM.f (by omega) (by omega) (by omega) (by omega)
    have hsm : ∀ b, some c = some b → b < 2 ^ 31 := fun b q => by cases q; omega
    obtain ⟨f2, hf2⟩ := pp_meantM (but := some c) hA hM1 hsm
    have hrq : f_X12_requireMeant (pp_en (some c)) = some (.inr ()) := if_neg hne
    rw [hrq, pp_b] at hcl
    rw [show pp_en (some c) = nI c from rfl, if_neg hne, show nI c = pp_en (some c) from rfl, hf2, pp_b, pp_g2] at hml
    have hmt : pv_mt A (some c) = pv_cl A (some c) := by unfold pv_mt; rw [if_neg hcb.2.1]
    cases hd : pv_mt A (some c) with
    | none =>
      rw [hd] at hml
      refine pp_fin (o := o) (r := -1) (x1 := x) (y1 := g_mi (g_ma y 160 f2) 120 0 0) ?_ (hml.trans rfl) pp_th0 h0.ma.th
      rw [hcl]
      show Option.bind (Option.bind (f_X9_closestKept v (pp_en (some c)) x) _) _ = _
      rw [pp_closC hA hC hsm, ← hmt, hd]
      rfl
    | some c2 =>
      rw [hd] at hml
      have hdb := pv_mtB hd
      have hne2 : ¬ nI c2 = -1 := pp_m1n (by omega)
      have hM2 : pp_VM A (g_ma y 160 f2) 152 := hM.f (by omega) (by omega) (by omega) (by omega)
      obtain ⟨g1, hg1⟩ := pp_distH hA hM2 hdb.1 hcb.2.1
      rw [pp_g2] at hg1
      have hM3 : pp_VM A (g_ma y 160 g1) 152 := hM.f (by omega) (by omega) (by omega) (by omega)
      obtain ⟨g2, hg2⟩ := pp_distH hA hM3 hcb.1 hcb.2.1
      rw [pp_g2] at hg2
      refine pp_fin (o := o) (r := nI (pv_dh A c2) - nI (pv_dh A c)) (x1 := x) (y1 := g_mi (g_ma y 160 g2) 120 0 0) ?_ ?_ pp_th0 h0.ma.th
      · rw [hcl]
        show Option.bind (Option.bind (f_X9_closestKept v (pp_en (some c)) x) _) _ = _
        rw [pp_closC hA hC hsm, ← hmt, hd, pp_b]
        show Option.bind (if nI c2 = -1 then _ else Option.bind (f_X9_word v (nI c2) x) _) _ = _
        rw [if_neg hne2, pp_word (by omega), pp_b, if_pos (pp_k10 hv (by omega))]
        show Option.bind (Option.bind (f_X9_word v (nI c) x) _) _ = _
        rw [pp_word (by omega), pp_b, if_pos (pp_k10 hv (by omega)), (hC.2.2.1 c2 hdb.1).2.1, (hC.2.2.1 c hcb.1).2.1]
        rfl
      · rw [hml]
        show (if nI c2 = -1 then _ else Option.bind (f_X15_distance 152 (nI c2) (nI 8) (g_ma y 160 f2)) _) = _
        rw [if_neg hne2, hg1, pp_b]
        show Option.bind (f_X15_distance 152 (nI c) (nI 8) (g_ma y 160 g1)) _ = _
        rw [hg2, pp_b]
        rfl
/-! calls that don't throw -/
def pp_O1 (x : CS) (fc : Option Int32) (fm : Option (Int32 × MS)) : Prop := ∃ r y', fc = some r ∧ fm = some (r, y') ∧ pp_R x y'
def pp_O2 (fc : Option (Int32 × CS)) (fm : Option (Int32 × MS)) : Prop := ∃ r x' y', fc = some (r, x') ∧ fm = some (r, y') ∧ pp_R x' y'
theorem pp_o3 {x : CS} {y : MS} (h : pp_R x y) : pp_O1 x (f_X12_errorAt x) (f_X15_errorAt y) := by
  have h0 := h
  obtain ⟨A, b, v, R, Z, nr, T, hA, hT, hC, hM, h3, h4, hB⟩ := h
  have hW := hA.1
  have hv := hC.1
  have hg : y 127 0 = nI (pv_g A) := hM.2.2.1
  have hg20 := hA.2.2.2
  have hb := hB.1
  have hbg := hB.2.2.2.2.2.1
  refine ⟨y 120 3, g_mi y 120 0 0, ?_, ?_, h0.th⟩
  · unfold f_X12_errorAt
    rw [hT.2.2.2.2.2.2.2.2.2.2]
  · unfold f_X15_errorAt
    rfl
theorem pp_o4 {x : CS} {y : MS} (h : pp_R x y) : pp_O1 x (f_X12_words x) (f_X15_words y) := by
  have h0 := h
  obtain ⟨A, b, v, R, Z, nr, T, hA, hT, hC, hM, h3, h4, hB⟩ := h
  have hW := hA.1
  have hv := hC.1
  have hg : y 127 0 = nI (pv_g A) := hM.2.2.1
  have hg20 := hA.2.2.2
  have hb := hB.1
  have hbg := hB.2.2.2.2.2.1
  refine ⟨nI (pv_W A), g_mi y 120 0 0, ?_, ?_, h0.th⟩
  · unfold f_X12_words
    rw [hT.2.1, if_pos (pp_k9 hv)]
    rw [hC.2.1]
  · unfold f_X15_words
    rw [hM.2.1]; rfl
theorem pp_o5 {x : CS} {y : MS} (h : pp_R x y) : pp_O1 x (f_X12_keptWords x) (f_X15_keptWords y) := by
  have h0 := h
  obtain ⟨A, b, v, R, Z, nr, T, hA, hT, hC, hM, h3, h4, hB⟩ := h
  have hW := hA.1
  have hv := hC.1
  have hg : y 127 0 = nI (pv_g A) := hM.2.2.1
  have hg20 := hA.2.2.2
  have hb := hB.1
  have hbg := hB.2.2.2.2.2.1
  refine ⟨nI (pp_kn (pv_pr A) (pv_W A)), g_mi y 120 0 0, ?_, ?_, h0.th⟩
  · unfold f_X12_keptWords
    rw [hT.2.1, if_pos (pp_k9 hv)]
    rw [pp_keptC hA hC]; rfl
  · unfold f_X15_keptWords
    rw [pp_keptM hA hM]; rfl
theorem pp_o6 {x : CS} {y : MS} (h : pp_R x y) : pp_O1 x (f_X12_rules x) (f_X15_rules y) := by
  have h0 := h
  obtain ⟨A, b, v, R, Z, nr, T, hA, hT, hC, hM, h3, h4, hB⟩ := h
  have hW := hA.1
  have hv := hC.1
  have hg : y 127 0 = nI (pv_g A) := hM.2.2.1
  have hg20 := hA.2.2.2
  have hb := hB.1
  have hbg := hB.2.2.2.2.2.1
  refine ⟨nI R, g_mi y 120 0 0, ?_, ?_, h0.th⟩
  · unfold f_X12_rules
    rw [hT.1, if_pos (pp_k7 hb), hB.2.2.2.1]
  · unfold f_X15_rules
    rw [hB.2.2.2.2.1]; rfl
theorem pp_o7 {x : CS} {y : MS} (h : pp_R x y) : pp_O1 x (f_X12_lessons x) (f_X15_lessons y) := by
  have h0 := h
  obtain ⟨A, b, v, R, Z, nr, T, hA, hT, hC, hM, h3, h4, hB⟩ := h
  have hW := hA.1
  have hv := hC.1
  have hg : y 127 0 = nI (pv_g A) := hM.2.2.1
  have hg20 := hA.2.2.2
  have hb := hB.1
  have hbg := hB.2.2.2.2.2.1
  refine ⟨y 152 3, g_mi y 120 0 0, ?_, ?_, h0.th⟩
  · unfold f_X12_lessons
    rw [hT.2.1, if_pos (pp_k9 hv)]
    rw [h3]
  · unfold f_X15_lessons
    rfl
theorem pp_o8 {x : CS} {y : MS} (h : pp_R x y) : pp_O1 x (f_X12_rulesCarriedOut x) (f_X15_rulesCarriedOut y) := by
  have h0 := h
  obtain ⟨A, b, v, R, Z, nr, T, hA, hT, hC, hM, h3, h4, hB⟩ := h
  have hW := hA.1
  have hv := hC.1
  have hg : y 127 0 = nI (pv_g A) := hM.2.2.1
  have hg20 := hA.2.2.2
  have hb := hB.1
  have hbg := hB.2.2.2.2.2.1
  refine ⟨y 152 4, g_mi y 120 0 0, ?_, ?_, h0.th⟩
  · unfold f_X12_rulesCarriedOut
    rw [hT.2.1, if_pos (pp_k9 hv)]
    rw [h4]
  · unfold f_X15_rulesCarriedOut
    rfl
theorem pp_o9 {x : CS} {y : MS} (h : pp_R x y) : pp_O1 x (f_X12_heardBeats x) (f_X15_heardBeats y) := by
  have h0 := h
  obtain ⟨A, b, v, R, Z, nr, T, hA, hT, hC, hM, h3, h4, hB⟩ := h
  have hW := hA.1
  have hv := hC.1
  have hg : y 127 0 = nI (pv_g A) := hM.2.2.1
  have hg20 := hA.2.2.2
  have hb := hB.1
  have hbg := hB.2.2.2.2.2.1
  refine ⟨nI (pv_hl A), g_mi y 120 0 0, ?_, ?_, h0.th⟩
  · unfold f_X12_heardBeats
    rw [hC.2.2.2.1]
  · unfold f_X15_heardBeats
    rw [if_pos (by decide)]
    show Option.bind (f_X15_ok (y (152 + 1) 8) y) _ = _
    rw [hM.2.2.2.2.1]; rfl
theorem pp_in0 {q : Int32} {n : Nat} (hn : n < 2 ^ 20) : ((q < 0 ∨ ¬ q ≤ nI n) ∧ f_X15_isIn q 0 (nI n) = some 0) ∨ (∃ j, j ≤ n ∧ q = nI j ∧ f_X15_isIn q 0 (nI n) = some 1) := by
  unfold f_X15_isIn
  by_cases h : q < 0
  · exact Or.inl ⟨Or.inl h, by rw [if_pos h]⟩
  · obtain ⟨j, hj, rfl⟩ := nI_of h
    by_cases h2 : j ≤ n
    · exact Or.inr ⟨j, h2, rfl, by rw [if_neg h, if_neg (nI_nlt h2 (by omega))]⟩
    · exact Or.inl ⟨Or.inr (nI_ge (by omega) hj), by rw [if_neg h, if_pos (nI_lt (by omega) hj)]⟩
theorem pp_o1 {p : Int32} {x : CS} {y : MS} {o : Nat → Int32} (h : pp_R x y) : pp_OK (f_L_trim p x o) (f_X15_trim p y) := by
  have h0 := h
  obtain ⟨A, b, v, R, Z, nr, T, hA, hT, hC, hM, h3, h4, hB⟩ := h
  have hW := hA.1
  have hv := hC.1
  have hg : y 127 0 = nI (pv_g A) := hM.2.2.1
  have hg20 := hA.2.2.2
  have hb := hB.1
  have hbg := hB.2.2.2.2.2.1
  obtain ⟨k1, k2, k3, k4, k5, k6, k7, k8, k9, k10, k11⟩ := hT
  have hml : f_X15_trim p y = Option.bind (f_X15_isIn p 0 (nI T)) (fun q1 => if q1 = 0 then some (0, g_mi (g_mi y 120 0 0) 120 0 1) else some (p, g_mi (g_mi y 120 0 0) 120 2 p)) := by
    unfold f_X15_trim
    rw [pp_thn (by omega), k9]
    rfl
  rcases pp_in0 (q := p) (n := T) (by omega) with ⟨q1, q2⟩ | ⟨j, hj, rfl, q2⟩
  · rw [q2] at hml
    refine pp_thr (u := 0) (o := o) (r := 0) (k := 1) h0 (by decide) ?_ hml
    unfold f_L_trim f_X12_trim f_X12_trim_15
    rw [k8]
    rcases q1 with q1 | q1
    · rw [if_pos q1]; rfl
    · by_cases q3 : p < 0
      · rw [if_pos q3]; rfl
      · rw [if_neg q3, if_neg q1]; rfl
  · rw [q2, pp_b, if_neg (by decide)] at hml
    refine pp_fin (o := o) (r := nI j) (x1 := g_wi x 1 1 (nI j)) (y1 := g_mi (g_mi y 120 0 0) 120 2 (nI j)) ?_ hml (by simp [g_mi, upd]) ?_
    · unfold f_L_trim f_X12_trim
      rw [k8, if_neg (nI_pos (by omega)), if_pos (nI_le hj (by omega))]; rfl
    · have e1 : ∀ i, i ≠ 1 → (g_wi x 1 1 (nI j)).1 i = x.1 i := fun i hi => by rw [pp_c1]; exact pp_c4 hi
      have e2 : ∀ i, i ≠ 120 → (g_mi (g_mi y 120 0 0) 120 2 (nI j)) i = y i := fun i hi => by rw [pp_g1, pp_g4 hi, pp_g1, pp_g4 hi]
      refine ⟨A, b, v, R, Z, nr, j, hA, ⟨k1, k2, k3, k4, by rw [e1 b (by omega)]; exact k5, by rw [e2 127 (by omega)]; exact k6, by omega, by rw [pp_c1, pp_c3, pp_u1], by simp [g_mi, upd], fun k hk => ?_, ?_⟩, ?_, ?_, ?_, ?_, ?_⟩
      · rw [e1 2 (by omega), e2 121 (by omega)]
        exact k10 k (by omega)
      · rw [e1 0 (by omega), k11]
        simp [g_mi, upd]
      · obtain ⟨v1, v2, v3, v4⟩ := hC
        refine ⟨v1, by rw [e1 v (by omega)]; exact v2, fun i hi => ⟨?_, ?_, ?_⟩, v4.e (e1 _ (by omega)) (e1 _ (by omega))⟩
        · rw [e1 _ (by unfold pp_wd; omega)]; exact (v3 i hi).1
        · rw [e1 _ (by unfold pp_wd; omega)]; exact (v3 i hi).2.1
        · exact (v3 i hi).2.2.e (e1 _ (by unfold pp_wd; omega)) (e1 _ (by unfold pp_wd; omega))
      · exact hM.e (by rw [e2 127 (by omega)]) (by rw [e2 127 (by omega)]) (e2 _ (by omega)) (e2 _ (by omega)) (e2 _ (by omega))
      · rw [e1 v (by omega), e2 152 (by omega)]; exact h3
      · rw [e1 v (by omega), e2 152 (by omega)]; exact h4
      · obtain ⟨b1, b2, b3, b4, b5, b6, b7, b8⟩ := hB
        refine ⟨b1, b2, b3, by rw [e1 b (by omega)]; exact b4, by rw [e2 127 (by omega)]; exact b5, by rw [e1 b (by omega)]; exact b6, b7.e (fun i _ _ => e1 i (by omega)) rfl (fun i _ _ => e2 i (by omega)), fun k hk => (b8 k hk).e (by omega) (fun i _ _ => e1 i (by omega)) rfl (fun i _ _ => e2 i (by omega))⟩
