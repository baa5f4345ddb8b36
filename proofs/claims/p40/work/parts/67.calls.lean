/-! the class between calls, by itself: what the calls that only look answer -/
def pq_R (A : PV) (les car : Int32) (b v R nr : Nat) (ρs : Nat → QR) (sg : Nat → Nat) (vl : Nat → Int32) (x : CS) : Prop := pv_ok A ∧ (x.2 0 6 = b ∧ x.2 0 7 = v ∧ ((b = 20 ∧ v = 41 ∧ x.2 0 8 = 70 ∧ x.2 0 9 = 91) ∨ (b = 70 ∧ v = 91 ∧ x.2 0 8 = 20 ∧ x.2 0 9 = 41))) ∧ (nr ≤ 99 ∧ x.1 b 7 = nI nr) ∧ x.1 1 1 = 0 ∧ pp_VC A x v ∧ (x.1 v 3 = les ∧ x.1 v 4 = car) ∧ pq_BK (pv_W A) (pv_g A) x b R ρs ∧ x.2 (b + 3) = sg ∧ x.1 (b + 4) = vl
section PQ
variable {A : PV} {les car : Int32} {b v R nr : Nat} {ρs : Nat → QR} {sg : Nat → Nat} {vl : Nat → Int32} {x : CS}
theorem pq_R.gc (h : pq_R A les car b v R nr ρs sg vl x) {x1 : CS} {A' : PV} (h1 : pq_Gc v x x1) (hW : pv_W A' = pv_W A) (hg : pv_g A' = pv_g A) (hA : pv_ok A') (hC : pp_VC A' x1 v) : pq_R A' (x1.1 v 3) (x1.1 v 4) b v R nr ρs sg vl x1 := by
  obtain ⟨-, ⟨k1, k2, k3⟩, ⟨k4, k5⟩, k6, -, -, k8, k9, k10⟩ := h
  refine ⟨hA, ⟨by rw [h1.2]; exact k1, by rw [h1.2]; exact k2, by rw [h1.2]; exact k3⟩, ⟨k4, by rw [h1.1 b (by omega) (by omega)]; exact k5⟩, by rw [h1.1 1 (by omega) (by omega)]; exact k6, hC, ⟨rfl, rfl⟩, by rw [hW, hg]; exact k8.e hC.1 h1, by rw [h1.2]; exact k9, by rw [h1.1 (b + 4) (by omega) (by omega)]; exact k10⟩
theorem pq_R.s (h : pq_R A les car b v R nr ρs sg vl x) {x1 : CS} (hs : pp_Sc x x1) : pq_R A les car b v R nr ρs sg vl x1 := by
  have h2 := h.gc (pq_Gc.ofS hs) rfl rfl h.1 (h.2.2.2.2.1.s hs)
  have hv := h.2.2.2.2.1.1
  rw [hs.1 v (by omega), h.2.2.2.2.2.1.1, h.2.2.2.2.2.1.2] at h2
  exact h2
theorem pq_sc9 (x : CS) (f : Nat → Int32) : pp_Sc x (g_wa x 9 f) := (pp_Sc.rf x).wa (by omega) (by omega) (by omega) (by omega)
theorem pq_R.bk (h : pq_R A les car b v R nr ρs sg vl x) : b = 20 ∨ b = 70 := by
  have := h.2.1.2.2
  omega
theorem pq_R.g (h : pq_R A les car b v R nr ρs sg vl x) : x.1 b 6 = nI (pv_g A) := h.2.2.2.2.2.2.1.2.2.2.1
theorem pq_words (h : pq_R A les car b v R nr ρs sg vl x) : f_X12_words x = some (nI (pv_W A)) := by
  obtain ⟨hA, ⟨h6, h7, -⟩, -, -, hC, -⟩ := h
  unfold f_X12_words
  rw [h7, if_pos (pp_k9 hC.1), hC.2.1]
theorem pq_kept (h : pq_R A les car b v R nr ρs sg vl x) : f_X12_keptWords x = some (nI (pp_kn (pv_pr A) (pv_W A))) := by
  obtain ⟨hA, ⟨h6, h7, -⟩, -, -, hC, -⟩ := h
  unfold f_X12_keptWords
  rw [h7, if_pos (pp_k9 hC.1), pp_keptC hA hC]
  rfl
theorem pq_rules (h : pq_R A les car b v R nr ρs sg vl x) : f_X12_rules x = some (nI R) := by
  have hb := h.bk
  obtain ⟨hA, ⟨h6, h7, -⟩, -, -, hC, -, hB, -⟩ := h
  unfold f_X12_rules
  rw [h6, if_pos (pp_k7 hb), hB.2.2.1]
theorem pq_lessons (h : pq_R A les car b v R nr ρs sg vl x) : f_X12_lessons x = some les := by
  obtain ⟨hA, ⟨h6, h7, -⟩, -, -, hC, ⟨h3, h4⟩, -⟩ := h
  unfold f_X12_lessons
  rw [h7, if_pos (pp_k9 hC.1), h3]
theorem pq_carried (h : pq_R A les car b v R nr ρs sg vl x) : f_X12_rulesCarriedOut x = some car := by
  obtain ⟨hA, ⟨h6, h7, -⟩, -, -, hC, ⟨h3, h4⟩, -⟩ := h
  unfold f_X12_rulesCarriedOut
  rw [h7, if_pos (pp_k9 hC.1), h4]
theorem pq_heardB (h : pq_R A les car b v R nr ρs sg vl x) : f_X12_heardBeats x = some (nI (pv_hl A)) := by
  obtain ⟨hA, -, -, -, hC, -⟩ := h
  unfold f_X12_heardBeats
  rw [hC.2.2.2.1]
theorem pq_rq (h : pq_R A les car b v R nr ρs sg vl x) {j : Nat} (hj : j < pv_W A) : f_X12_requireWord (nI j) x = some () := pp_rqI h.2.1.2.1 h.2.2.2.2.1.1 h.2.2.2.2.1.2.1 h.1.1 hj
theorem pq_ro (h : pq_R A les car b v R nr ρs sg vl x) {j : Nat} (hj : j < pv_W A) : f_X12_rowOf (nI j) x = some (pp_wd v j + 1) := pp_rowO h.2.1.2.1 h.2.2.2.2.1.1 (by have := h.1.1; omega)
theorem pq_length (h : pq_R A les car b v R nr ρs sg vl x) {j : Nat} (hj : j < pv_W A) : f_X12_lengthOf (nI j) x = some (nI (pv_ln A j)) := by
  have hW := h.1.1
  have hC := h.2.2.2.2.1
  unfold f_X12_lengthOf
  rw [pq_rq h hj, pp_b, pq_ro h hj, pp_b, if_pos (pp_k5 hC.1 (by omega)), (hC.2.2.1 j hj).2.2.1]
theorem pq_pitch (h : pq_R A les car b v R nr ρs sg vl x) {j k : Nat} (hj : j < pv_W A) (hk : k < pv_ln A j) : f_X12_pitchAt (nI j) (nI k) x = some (nI (pv_pt A j k)) := by
  have hW := h.1.1
  have hC := h.2.2.2.2.1
  have a3 := (hC.2.2.1 j hj).2.2
  have hl := a3.2.1
  unfold f_X12_pitchAt
  rw [pq_rq h hj, pp_b, pq_ro h hj, pp_b, if_pos (pp_k5 hC.1 (by omega)), pp_rbI a3.1 hl hk, pp_b, pp_b, if_pos (pp_k5 hC.1 (by omega)), pp_pitC (by omega), a3.2.2.2 k hk]
  rfl
theorem pq_contour (h : pq_R A les car b v R nr ρs sg vl x) {j k : Nat} (hj : j < pv_W A) (hk : k < pv_ln A j) : f_X12_contourAt (nI j) (nI k) x = some (pp_ci (pv_pt A j) (pv_ln A j) k) := by
  have hW := h.1.1
  have hC := h.2.2.2.2.1
  have a3 := (hC.2.2.1 j hj).2.2
  have hl := a3.2.1
  unfold f_X12_contourAt
  rw [pq_rq h hj, pp_b, pq_ro h hj, pp_b, if_pos (pp_k5 hC.1 (by omega)), pp_rbI a3.1 hl hk, pp_b, pp_b, if_pos (pp_k5 hC.1 (by omega)), pp_contC a3 (by omega) (by omega)]
  rfl
theorem pq_pruned (h : pq_R A les car b v R nr ρs sg vl x) {j : Nat} (hj : j < pv_W A) : f_X12_isPruned (nI j) x = some (nI (pv_pr A j)) := by
  have hW := h.1.1
  have hC := h.2.2.2.2.1
  have hp := h.1.2.1 j
  unfold f_X12_isPruned
  rw [pq_rq h hj, pp_b, h.2.1.2.1, if_pos (pp_k9 hC.1), pp_word (by omega), pp_b, if_pos (pp_k10 hC.1 (by omega)), (hC.2.2.1 j hj).1, if_pos (pp_01n hp)]
theorem pq_silent (h : pq_R A les car b v R nr ρs sg vl x) {j : Nat} (hj : j < pv_W A) : f_X12_silentBeats (nI j) x = some (nI (pp_sl (pv_pt A j) (pv_ln A j))) := by
  have hW := h.1.1
  have hC := h.2.2.2.2.1
  unfold f_X12_silentBeats
  rw [pq_rq h hj, pp_b, pq_ro h hj, pp_b, if_pos (pp_k5 hC.1 (by omega)), pp_silC (hC.2.2.1 j hj).2.2]
  rfl
theorem pq_apart (h : pq_R A les car b v R nr ρs sg vl x) {i j : Nat} (hi : i < pv_W A) (hj : j < pv_W A) : ∃ x', pp_Sc x x' ∧ f_X12_distanceBetween (nI i) (nI j) x = some (nI (pv_dd A i j), x') := by
  obtain ⟨f, hf⟩ := pp_apartC h.1 h.2.2.2.2.1 h.bk h.2.1.1 h.2.1.2.1 h.g hi hj
  refine ⟨_, pq_sc9 x f, ?_⟩
  unfold f_X12_distanceBetween
  rw [pq_rq h hi, pp_b, pq_rq h hj, pp_b, hf]
  rfl
def pv_kk (A : PV) (i j : Nat) : Nat := pp_K (pv_g A) (pv_pt A i) (pv_ln A i) (pv_pt A j) (pv_ln A j) / 100
theorem pq_kapart (h : pq_R A les car b v R nr ρs sg vl x) {i j : Nat} (hi : i < pv_W A) (hj : j < pv_W A) : ∃ x', pp_Sc x x' ∧ f_X12_contourBetween (nI i) (nI j) x = some (nI (pv_kk A i j), x') := by
  have hW := h.1.1
  have hC := h.2.2.2.2.1
  have hv := hC.1
  have hb := h.bk
  obtain ⟨x', hs, hf⟩ := pp_KC (g := pv_g A) (l1 := pp_wd v i + 1) (l2 := pp_wd v j + 1) (by unfold pp_wd; omega) (by unfold pp_wd; omega) (hC.2.2.1 i hi).2.2 (hC.2.2.1 j hj).2.2 (h.1.2.2.1 i hi) (h.1.2.2.1 j hj) h.1.2.2.2
  refine ⟨x', hs, ?_⟩
  unfold f_X12_contourBetween
  rw [pq_rq h hi, pp_b, pq_rq h hj, pp_b, pq_ro h hi, pp_b, if_pos (pp_k5 hC.1 (by omega)), pq_ro h hj, pp_b, if_pos (pp_k5 hC.1 (by omega)), h.2.1.1, if_pos (pp_k7 hb), h.g, hf]
  rfl
theorem pq_near (h : pq_R A les car b v R nr ρs sg vl x) {i j : Nat} (hi : i < pv_W A) (hj : j < pv_W A) : ∃ x', pp_Sc x x' ∧ f_X12_areNear (nI i) (nI j) x = some (nI (pv_ne A nr i j), x') := by
  obtain ⟨f, hf⟩ := pp_nearC h.1 h.2.2.2.2.1 h.bk h.2.1.1 h.2.1.2.1 h.g h.2.2.1.2 h.2.2.1.1 hi hj
  refine ⟨_, pq_sc9 x f, ?_⟩
  unfold f_X12_areNear
  rw [pq_rq h hi, pp_b, pq_rq h hj, pp_b, hf, pp_b]
  show (if nI (pv_ne A nr i j) = 0 ∨ nI (pv_ne A nr i j) = 1 then _ else _) = _
  rw [if_pos (pp_01n (pv_ne1 A nr i j))]
theorem pq_needless (h : pq_R A les car b v R nr ρs sg vl x) {j : Nat} (hj : j < pv_W A) : ∃ x', pp_Sc x x' ∧ f_X12_isNeedless (nI j) x = some (nI (pv_nl A nr j), x') := by
  obtain ⟨f, hf⟩ := pp_needC h.1 h.2.2.2.2.1 h.bk h.2.1.1 h.2.1.2.1 h.g h.2.2.1.2 h.2.2.1.1 hj
  refine ⟨_, pq_sc9 x f, ?_⟩
  unfold f_X12_isNeedless
  rw [pq_rq h hj, pp_b, hf, pp_b]
  show (if nI (pv_nl A nr j) = 0 ∨ nI (pv_nl A nr j) = 1 then _ else _) = _
  rw [if_pos (pp_01n (pv_nl1 A nr j))]
theorem pq_nearest (h : pq_R A les car b v R nr ρs sg vl x) {j : Nat} (hj : j < pv_W A) (h2 : 2 ≤ pv_W A) : ∃ x', pp_Sc x x' ∧ f_X12_nearestTo (nI j) x = some (pp_en (pv_ns A j (pv_W A)), x') := by
  have hW := h.1.1
  obtain ⟨f, hf⟩ := pp_neaC (w := j) h.1 h.2.2.2.2.1 h.bk h.2.1.1 h.2.1.2.1 h.g hj (pv_W A - 0) g_fuel 0 (x.1 9) rfl (by unfold g_fuel; omega) (by omega)
  refine ⟨_, pq_sc9 x f, ?_⟩
  rw [pp_wae] at hf
  unfold f_X12_nearestTo
  rw [pq_rq h hj, pp_b, h.2.1.2.1, if_pos (pp_k9 h.2.2.2.2.1.1), h.2.2.2.2.1.2.1, if_pos (show (2 : Int32) ≤ nI (pv_W A) from nI_le (a := 2) h2 (by omega))]
  exact hf
theorem pq_heardP (h : pq_R A les car b v R nr ρs sg vl x) {k : Nat} (hk : k < pv_hl A) : f_X12_heardPitch (nI k) x = some (nI (pv_hp A k)) := by
  have hH := h.2.2.2.2.1.2.2.2
  have hl := hH.2.1
  unfold f_X12_heardPitch
  rw [pp_rbI hH.1 hl hk, pp_b, pp_pitC (by omega), hH.2.2.2 k hk]
  rfl
theorem pq_someH (h : pq_R A les car b v R nr ρs sg vl x) (h0 : pv_hl A ≠ 0) : f_X12_requireSomeHeard x = some () := by
  have hH := h.2.2.2.2.1.2.2.2
  have hl := hH.2.1
  unfold f_X12_requireSomeHeard
  rw [hH.1, if_neg (nI_ne0 (by omega) (by omega))]
theorem pq_distTo (h : pq_R A les car b v R nr ρs sg vl x) {j : Nat} (hj : j < pv_W A) (h0 : pv_hl A ≠ 0) : f_X12_distanceTo (nI j) x = some (nI (pv_dh A j)) := by
  have hW := h.1.1
  have hC := h.2.2.2.2.1
  unfold f_X12_distanceTo
  rw [pq_rq h hj, pp_b, pq_someH h h0, pp_b, h.2.1.2.1, if_pos (pp_k9 hC.1), pp_word (by omega), pp_b, if_pos (pp_k10 hC.1 (by omega)), (hC.2.2.1 j hj).2.1]
def pv_kh (A : PV) (j : Nat) : Nat := pp_K (pv_g A) (pv_pt A j) (pv_ln A j) (pv_hp A) (pv_hl A) / 100
def pv_sh (A : PV) (j : Nat) : Nat := pp_D (pv_g A) (pv_pt A j) (pv_ln A j) (pv_hp A) (pv_hl A) % 100
theorem pq_contTo (h : pq_R A les car b v R nr ρs sg vl x) {j : Nat} (hj : j < pv_W A) (h0 : pv_hl A ≠ 0) : ∃ x', pp_Sc x x' ∧ f_X12_contourTo (nI j) x = some (nI (pv_kh A j), x') := by
  have hW := h.1.1
  have hC := h.2.2.2.2.1
  have hv := hC.1
  have hb := h.bk
  obtain ⟨x', hs, hf⟩ := pp_KC (g := pv_g A) (l1 := pp_wd v j + 1) (l2 := 14) (by unfold pp_wd; omega) (by omega) (hC.2.2.1 j hj).2.2 hC.2.2.2 (h.1.2.2.1 j hj) (by omega) h.1.2.2.2
  refine ⟨x', hs, ?_⟩
  unfold f_X12_contourTo
  rw [pq_rq h hj, pp_b, pq_someH h h0, pp_b, pq_ro h hj, pp_b, if_pos (pp_k5 hC.1 (by omega)), h.2.1.1, if_pos (pp_k7 hb), h.g, hf]
  rfl
theorem pq_stepsTo (h : pq_R A les car b v R nr ρs sg vl x) {j : Nat} (hj : j < pv_W A) (h0 : pv_hl A ≠ 0) : ∃ x', pp_Sc x x' ∧ f_X12_stepsTo (nI j) x = some (nI (pv_sh A j), x') := by
  have hW := h.1.1
  have hC := h.2.2.2.2.1
  have hv := hC.1
  have hb := h.bk
  obtain ⟨f, hf⟩ := pp_stepsC (g := pv_g A) (l1 := pp_wd v j + 1) (l2 := 14) (by unfold pp_wd; omega) (by unfold pp_wd; omega) (by omega) (by omega) (hC.2.2.1 j hj).2.2 hC.2.2.2 (h.1.2.2.1 j hj) (by omega) h.1.2.2.2
  refine ⟨_, pq_sc9 x f, ?_⟩
  unfold f_X12_stepsTo
  rw [pq_rq h hj, pp_b, pq_someH h h0, pp_b, pq_ro h hj, pp_b, if_pos (pp_k5 hC.1 (by omega)), h.2.1.1, if_pos (pp_k7 hb), h.g, hf]
  rfl
theorem pq_best (h : pq_R A les car b v R nr ρs sg vl x) {j : Nat} {d : Int32} (hj : j < pv_W A) (h0 : pv_hl A ≠ 0) : ∃ x', pp_Sc x x' ∧ f_X12_distanceIfShifted (nI j) d x = some (nI (pv_ds A j d), x') := pp_dsC h.1 h.2.2.2.2.1 h.bk h.2.1.1 h.2.1.2.1 h.g hj h0
end PQ
