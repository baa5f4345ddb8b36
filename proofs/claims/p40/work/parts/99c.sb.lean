/-! StringBuilder and its texts on the law's heap -/
theorem zvn : ∀ c, c < 128 → vp_nar .byte (nI c) = nI c := by decide +kernel
theorem zft : ∀ c, c < 128 → fits .byte (.int (nI c)) = true := by decide +kernel
theorem zfb {f : Nat → Int32} {n : Nat} (h : ∀ j, j < n → ∃ c, c < 128 ∧ f j = nI c) : h_fb f n = true := by
  unfold h_fb
  rw [List.all_eq_true]
  intro j hj
  obtain ⟨c, c1, c2⟩ := h j (List.mem_range.mp hj)
  rw [c2]
  exact zft c c1
/-- builder s holds the bytes B -/
def zB (y : MS) (s : Nat) (B : List Nat) : Prop := (h_K y s = 54 ∧ h_I y s 1 = 0 ∧ h_I y s 3 = nI B.length) ∧ (200 ≤ h_R y s 0 ∧ h_K y (h_R y s 0) = 61 ∧ B.length ≤ h_N y (h_R y s 0) ∧ h_N y (h_R y s 0) ≤ 3000) ∧ (∀ j, j < h_N y (h_R y s 0) → ∃ c, c < 128 ∧ h_I y (h_R y s 0) j = nI c) ∧ (∀ j, j < B.length → h_I y (h_R y s 0) j = nI (B.getD j 0)) ∧ (∀ c, c ∈ B → c < 128) ∧ B.length ≤ 2500
/-- only the builder and its row are written -/
def zFr (s : Nat) (y y' : MS) : Prop := yF (fun j => j = s ∨ j = h_R y s 0) y y' ∧ (h_R y' s 0 = h_R y s 0 ∨ h_nx y ≤ h_R y' s 0)
theorem zFr.rf (s : Nat) (y : MS) : zFr s y y := ⟨yF.rf _ y, Or.inl rfl⟩
theorem zFr.tr {s a : Nat} {x y z : MS} (h : zFr s x y) (k : zFr s y z) (g : yG a x y) : zFr s x z := by
  refine ⟨fun j hj hP => (h.1 j hj hP).tr (k.1 j (Nat.lt_of_lt_of_le hj g.1) (fun q => ?_)), ?_⟩
  · rcases q with q | q
    · exact hP (Or.inl q)
    · rcases h.2 with e | e
      · exact hP (Or.inr (q.trans e))
      · omega
  · rcases k.2 with e | e
    · rw [e]; exact h.2
    · right
      have := g.1
      omega
section ZSB
variable {y z : MS} {s i n m L u : Nat} {B C : List Nat}
theorem zB.e (h : zB y s B) (h1 : ye y z s) (h2 : ye y z (h_R y s 0)) : zB z s B := by
  obtain ⟨e1, e2, e3, e4⟩ := h1
  obtain ⟨g1, g2, g3, g4⟩ := h2
  unfold zB
  rw [e1, e2, e3, g1, g2, g4]
  exact h
theorem zB.nn (h : zB y s B) (hO : yO y) (hF : yF (fun _ => False) y z) : zB z s B := h.e (hF s (hO.k h.1.1) (fun q => q)) (hF _ (hO.k h.2.1.2.1) (fun q => q))
theorem zens (h : zB y s B) (hm : m ≤ L) (hB : B.length ≤ L) (hL : L ≤ 1499) (hu : 2 * L + 2 ≤ 600 * u) (hu1 : 1 ≤ u) (hb : yb y u) (hO : yO y) (hnx : 200 ≤ h_nx y) : ∃ y', f_l_J5_ensureCapacityInternal_d00df s (nI m) y = some y' ∧ zB y' s B ∧ m ≤ h_N y' (h_R y' s 0) ∧ yG u y y' ∧ yF (fun j => j = s) y y' ∧ (h_R y' s 0 = h_R y s 0 ∨ h_nx y ≤ h_R y' s 0) := by
  have h0 := h
  obtain ⟨⟨a1, a2, a3⟩, ⟨b1, b2, b3, b4⟩, c1, c2, c3, c4⟩ := h
  obtain ⟨V, hV⟩ : ∃ V, V = h_R y s 0 := ⟨_, rfl⟩
  obtain ⟨N, hN⟩ : ∃ N, N = h_N y V := ⟨_, rfl⟩
  rw [← hV] at b1 b2 b3 b4 c1 c2
  rw [← hN] at b3 b4 c1
  have hvok : h_vok y V = true := by unfold h_vok; rw [decide_eq_true b2, Bool.or_true]
  have hvn : h_vn y V = N := by rw [hN]; exact if_neg (by omega)
  unfold f_l_J5_ensureCapacityInternal_d00df
  rw [if_pos a1, ← hV, if_pos b2, if_pos hvok, hvn, a2, zsh0 (by omega)]
  by_cases hle : m ≤ N
  · have e : nI m - nI N ≤ 0 := by
      rw [Int32.le_iff_toInt_le, pk_sub_toInt (by omega) (by omega)]
      show (m : Int) - N ≤ 0
      omega
    rw [if_pos e]
    exact ⟨y, rfl, h0, by rw [← hV, ← hN]; exact hle, (yG.rf y).mo (by omega), yF.rf _ y, Or.inl hV.symm⟩
  · have e : ¬ nI m - nI N ≤ 0 := by
      rw [Int32.le_iff_toInt_le, pk_sub_toInt (by omega) (by omega)]
      show ¬ (m : Int) - N ≤ 0
      omega
    rw [if_neg e]
    obtain ⟨K, hK⟩ : ∃ K, K = N + max (m - N) (N + 2) := ⟨_, rfl⟩
    have hKm : m ≤ K ∧ N < K ∧ K ≤ 2 * L + 2 := by omega
    have enl : f_l_J8_newLength_cabcc (nI N) (nI m - nI N) (nI N + nI 2) = some (nI K) := by
      unfold f_l_J8_newLength_cabcc
      rw [pk_sub (by omega), nI_add, pp_max (by omega) (by omega), nI_add, ← hK, if_neg (nI_nle (by omega) (by omega)), if_neg (show ¬ (2147483639 : Int32) < nI K from nI_nlt (a := 2147483639) (by omega) (by omega))]
    have enc : f_l_J5_newCapacity_0f7a4 s (nI m) y = some (nI K) := by
      unfold f_l_J5_newCapacity_0f7a4
      rw [if_pos a1, ← hV, if_pos b2, if_pos hvok, hvn, a2]
      have e1 : nI m <<< ((0 : Int32) &&& 31) = nI m := by rw [pk_shlN _ 0 (by decide) (by omega)]; simp
      have e2 : (2 : Int32) <<< ((0 : Int32) &&& 31) = nI 2 := by decide
      rw [e1, e2, enl, pp_b, if_neg (show ¬ nI K = (2147483647 : Int32) by rw [show (2147483647 : Int32) = nI 2147483647 from rfl, nI_eq (by omega) (by omega)]; omega), zsh0 (by omega)]
    rw [enc, pp_b]
    have e1 : nI K <<< ((0 : Int32) &&& 31) = nI K := by rw [pk_shlN _ 0 (by decide) (by omega)]; simp
    rw [e1]
    have hVlt : V < h_nx y := hO.k b2
    have hslt : s < h_nx y := hO.k a1
    obtain ⟨y1, hy1⟩ : ∃ y1, y1 = h_new y 61 (fun _ => 0) (fun _ => 0) K K := ⟨_, rfl⟩
    have k1 : h_K y1 (h_nx y) = 61 := by rw [hy1]; exact yn_K
    have n1 : h_N y1 (h_nx y) = K := by rw [hy1]; exact yn_N
    have i1 : h_I y1 (h_nx y) = fun _ => 0 := by rw [hy1]; exact yn_I
    have o1 : ∀ j, j < h_nx y → ye y y1 j := fun j hj => by rw [hy1]; exact yn_o hj
    have v1 : h_vok y1 V = true := by unfold h_vok; rw [(o1 V hVlt).1, decide_eq_true b2, Bool.or_true]
    have vn1 : h_vn y1 V = N := by
      have : h_vn y1 V = h_N y1 V := if_neg (by omega)
      rw [this, (o1 V hVlt).2.2.2, ← hN]
    have vb1 : h_vb y1 V = h_I y V := by
      have : h_vb y1 V = h_I y1 V := if_neg (by omega)
      rw [this, (o1 V hVlt).2.1]
    obtain ⟨F, hF⟩ : ∃ F, F = va_cpy (h_I y V) (fun _ => 0) 0 0 N := ⟨_, rfl⟩
    obtain ⟨y2, hy2⟩ : ∃ y2, y2 = h_wa y1 (h_nx y) F := ⟨_, rfl⟩
    have ecp : f_l_J7_copyOf_9075b V (nI K) y = some (h_nx y, y2) := by
      unfold f_l_J7_copyOf_9075b
      have emn : g_min (nI N) (nI K) = nI N := by rw [pp_min (by omega) (by omega), Nat.min_eq_left (by omega)]
      rw [if_pos hvok, hvn, if_neg (show ¬ nI K = nI N by rw [nI_eq (by omega) (by omega)]; omega), if_pos (nI_pos (by omega)), nI_clamp (by omega), if_pos (yn_rm hb hu1 (by omega)), ← hy1, if_pos v1, if_pos k1, if_pos v1, vn1, emn, vb1, i1, nI_clamp (show N < 2 ^ 31 by omega)]
      have e0 : (0 : Int32).toNatClampNeg = 0 := rfl
      rw [e0, if_pos ⟨⟨by decide, by decide, nI_pos (by omega)⟩, by omega, by rw [n1]; omega⟩, if_pos (zfb (fun j hj => by rw [Nat.zero_add]; exact c1 j hj)), ← hF, ← hy2]
    rw [ecp, pp_b]
    have k2 : ∀ j, h_K y2 j = h_K y1 j := fun j => by rw [hy2]; rfl
    have n2 : ∀ j, h_N y2 j = h_N y1 j := fun j => by rw [hy2]; rfl
    have r2 : ∀ j, h_R y2 j = h_R y1 j := fun j => by rw [hy2]; rfl
    have i2 : h_I y2 (h_nx y) = F := by rw [hy2]; exact if_pos rfl
    have i2n : ∀ j, j ≠ h_nx y → h_I y2 j = h_I y1 j := fun j hj => by rw [hy2]; exact if_neg hj
    show ∃ y', (if h_K y2 s = 54 then (if h_K y2 (h_nx y) = 61 then some (h_wr y2 s 0 (h_nx y)) else none) else none) = some y' ∧ _
    have es := o1 s hslt
    rw [if_pos (by rw [k2, es.1]; exact a1), if_pos (by rw [k2]; exact k1)]
    have hg : yG u y (h_wr y2 s 0 (h_nx y)) := by
      have g1 : yG u y y1 := by rw [hy1]; exact yn_G hu1 (by omega)
      have g2 : yG 0 y1 y2 := by rw [hy2]; exact ywa_G _ _ _
      exact ywr_G' ((g1.tr g2).mo (by omega))
    have hR : h_R (h_wr y2 s 0 (h_nx y)) s 0 = h_nx y := by rw [ywr_R, yup1]
    have hFlt : ∀ j, j < N → F j = h_I y V j := fun j hj => by rw [hF, pk_cpy_in (by omega) (by omega)]; congr 1; omega
    have hFge : ∀ j, N ≤ j → F j = 0 := fun j hj => by rw [hF, pk_cpy_out (by omega)]
    refine ⟨_, rfl, ⟨⟨?_, ?_, ?_⟩, ⟨?_, ?_, ?_, ?_⟩, fun j hj => ?_, fun j hj => ?_, c3, c4⟩, ?_, hg, fun j hj hP => ?_, Or.inr (by rw [hR]; exact Nat.le_refl _)⟩
    · show h_K y2 s = 54
      rw [k2, es.1]; exact a1
    · show h_I y2 s 1 = 0
      rw [i2n s (by omega), es.2.1]; exact a2
    · show h_I y2 s 3 = nI B.length
      rw [i2n s (by omega), es.2.1]; exact a3
    · rw [hR]; exact hnx
    · rw [hR]; show h_K y2 (h_nx y) = 61; rw [k2]; exact k1
    · rw [hR]; show B.length ≤ h_N y2 (h_nx y); rw [n2, n1]; omega
    · rw [hR]; show h_N y2 (h_nx y) ≤ 3000; rw [n2, n1]; omega
    · rw [hR]
      show ∃ c, c < 128 ∧ h_I y2 (h_nx y) j = nI c
      rw [i2]
      by_cases hjN : j < N
      · rw [hFlt j hjN]; exact c1 j hjN
      · rw [hFge j (by omega)]; exact ⟨0, by omega, rfl⟩
    · rw [hR]
      show h_I y2 (h_nx y) j = _
      rw [i2, hFlt j (by omega)]
      exact c2 j hj
    · rw [hR]
      show m ≤ h_N y2 (h_nx y)
      rw [n2, n1]
      omega
    · have ej := o1 j hj
      exact ej.tr ⟨k2 j, i2n j (by omega), (ywr_Rn hP).trans (r2 j), n2 j⟩
theorem zfrs {y1 : MS} (h1 : yF (fun j => j = s) y y1) (h2 : h_R y1 s 0 = h_R y s 0 ∨ h_nx y ≤ h_R y1 s 0) : zFr s y y1 := ⟨h1.mo (fun _ _ q => Or.inl q), h2⟩
/-- the row of the builder written, its length set -/
theorem zset {V : Nat} {F : Nat → Int32} (h : zB y s B) (hV : V = h_R y s 0) (hN : B.length + C.length ≤ h_N y V) (hC : ∀ c, c ∈ C → c < 128) (hl : B.length + C.length ≤ 2500) (hF : ∀ j, j < B.length → F j = h_I y V j) (hF2 : ∀ j, j < C.length → F (B.length + j) = nI (C.getD j 0)) (hF3 : ∀ j, B.length + C.length ≤ j → F j = h_I y V j) : zB (h_wi (h_wa y V F) s 3 (nI (B.length + C.length))) s (B ++ C) ∧ yG 0 y (h_wi (h_wa y V F) s 3 (nI (B.length + C.length))) ∧ zFr s y (h_wi (h_wa y V F) s 3 (nI (B.length + C.length))) := by
  obtain ⟨⟨p1, p2, p3⟩, ⟨q1, q2, q3, q4⟩, r1, r2, r3, r4⟩ := h
  rw [← hV] at q1 q2 q3 q4 r1 r2
  have hsV : s ≠ V := fun e => by rw [e, q2] at p1; omega
  have hR : h_R (h_wi (h_wa y V F) s 3 (nI (B.length + C.length))) s 0 = V := hV.symm
  have hI : h_I (h_wi (h_wa y V F) s 3 (nI (B.length + C.length))) V = F := by
    rw [ywi_In (fun e => hsV e.symm)]
    exact if_pos rfl
  have hIs : h_I (h_wi (h_wa y V F) s 3 (nI (B.length + C.length))) s = upd (h_I y s) 3 (nI (B.length + C.length)) := by
    rw [ywi_I]
    congr 1
    exact if_neg hsV
  have hl2 : (B ++ C).length = B.length + C.length := List.length_append
  refine ⟨⟨⟨p1, ?_, ?_⟩, ?_, fun j hj => ?_, fun j hj => ?_, fun c hc => ?_, by rw [hl2]; exact hl⟩, ywi_G' (ywa_G _ _ _), fun j hj hP => ⟨rfl, ?_, rfl, rfl⟩, Or.inl (by rw [hR, hV])⟩
  · rw [hIs, pp_u2 (by decide)]; exact p2
  · rw [hIs, pp_u1, hl2]
  · rw [hR, hl2]; exact ⟨q1, q2, hN, q4⟩
  · rw [hR] at hj ⊢
    rw [hI]
    by_cases h1 : j < B.length
    · rw [hF j h1]; exact r1 j hj
    · by_cases h2 : j < B.length + C.length
      · have e := hF2 (j - B.length) (by omega)
        rw [show B.length + (j - B.length) = j by omega] at e
        rw [e]
        refine ⟨_, hC _ ?_, rfl⟩
        rw [List.getD_eq_getElem?_getD, List.getElem?_eq_getElem (show j - B.length < C.length by omega)]
        exact List.getElem_mem _
      · rw [hF3 j (by omega)]; exact r1 j hj
  · rw [hl2] at hj
    rw [hR, hI]
    by_cases h1 : j < B.length
    · rw [hF j h1, zgd_l h1]; exact r2 j h1
    · have e := hF2 (j - B.length) (by omega)
      rw [show B.length + (j - B.length) = j by omega] at e
      rw [e, zgd_r (by omega)]
  · rcases List.mem_append.mp hc with q | q
    · exact r3 c q
    · exact hC c q
  · rw [ywi_In (fun e => hP (Or.inl e))]
    exact if_neg (fun e : j = V => hP (Or.inr (e.trans hV)))
/-- append a text -/
theorem zapp (h : zB y s B) (hC : zH y i C) (hL : B.length + C.length ≤ L) (hL2 : L ≤ 1499) (hu : 2 * L + 2 ≤ 600 * u) (hu1 : 1 ≤ u) (hb : yb y u) (hO : yO y) (hnx : 200 ≤ h_nx y) : ∃ y', f_l_J4_append_15ec4 s i y = some (s, y') ∧ zB y' s (B ++ C) ∧ yG u y y' ∧ zFr s y y' := by
  have hF := zHF hC
  have hCl := hC.2.2
  have a1 := h.1.1
  have a3 := h.1.2.2
  obtain ⟨y1, e1, e2, e3, e4, e5, e6⟩ := zens (m := B.length + C.length) h hL (by omega) hL2 hu hu1 hb hO hnx
  obtain ⟨⟨p1, p2, p3⟩, ⟨q1, q2, q3, q4⟩, r1, r2, r3, r4⟩ := id e2
  obtain ⟨V, hV⟩ : ∃ V, V = h_R y1 s 0 := ⟨_, rfl⟩
  rw [← hV] at q1 q2 q3 q4 r1 r2 e3
  have hC1 : zH y1 i C := hC.e (fun j hj => e5 j (hO.lt (by rcases hj with q | q <;> rw [q] <;> decide)) (fun q => by rw [q, a1] at hj; omega))
  have hF1 := zHF hC1
  obtain ⟨F, hFe⟩ : ∃ F, F = va_cpy (h_vb y1 (h_sv y1 i)) (h_I y1 V) 0 B.length C.length := ⟨_, rfl⟩
  obtain ⟨g1, g2, g3⟩ := zset (C := C) (F := F) e2 hV e3 hC.2.1 (by omega) (fun j hj => by rw [hFe, pk_cpy_out (by omega)]) (fun j hj => by rw [hFe, pk_cpy_in (by omega) (by omega), show 0 + (B.length + j - B.length) = j by omega]; exact hF1.2.2.2.2.2 j hj) (fun j hj => by rw [hFe, pk_cpy_out (by omega)])
  refine ⟨_, ?_, g1, (e4.tr g2).mo (by omega), (zfrs e5 e6).tr g3 e4⟩
  have eput : f_l_J5_putStringAt_47b60 s (nI B.length) i y1 = some (h_wa y1 V F) := by
    unfold f_l_J5_putStringAt_47b60
    have einf : f_l_J5_inflateIfNeededFor_a7421 s i y1 = some () := by
      unfold f_l_J5_inflateIfNeededFor_a7421 f_l_J0_coder_7d493
      rw [if_neg (show ¬ (1 : Int32) = 0 by decide), if_pos p1, if_pos hF1.1, if_neg (show ¬ (1 : Int32) = 0 by decide), if_pos hF1.1, hF1.2.2.2.1, if_pos (show narrow .byte (.int (0 : Int32)) = .int (0 : Int32) from rfl), pp_b, p2, if_pos rfl]
    rw [if_pos p1, einf, pp_b, if_pos p1, ← hV, if_pos q2, if_pos hF1.1, p2]
    unfold f_l_J0_getBytes_840e7 f_l_J0_coder_7d493
    have e1b : nI B.length <<< ((0 : Int32) &&& 31) = nI B.length := by rw [pk_shlN _ 0 (by decide) (by omega)]; simp
    have e0 : (0 : Int32).toNatClampNeg = 0 := rfl
    rw [if_pos hF1.1, if_neg (show ¬ (1 : Int32) = 0 by decide), if_pos hF1.1, hF1.2.2.2.1, if_pos (show narrow .byte (.int (0 : Int32)) = .int (0 : Int32) from rfl), pp_b, if_pos rfl, if_pos hF1.2.1, if_pos hF1.2.1, if_pos hF1.2.2.1, if_pos q2, if_pos hF1.2.2.1, hF1.2.2.2.2.1, e1b, e0, nI_clamp (by omega), nI_clamp (by omega), if_pos ⟨⟨by decide, nI_pos (by omega), nI_pos (by omega)⟩, by omega, e3⟩, if_pos (zfb (fun j hj => by rw [Nat.zero_add, hF1.2.2.2.2.2 j hj]; exact ⟨_, (zHchar hC1 hj).2, rfl⟩)), ← hFe]
    rfl
  unfold f_l_J4_append_15ec4 f_l_J5_append_cf1ce
  rw [if_pos a1, if_pos hF.1, zHlen hC, pp_b, if_pos a1, a3, nI_add, e1, pp_b, if_pos p1, p3, eput, pp_b]
  have k1 : h_K (h_wa y1 V F) s = 54 := p1
  have i1 : h_I (h_wa y1 V F) s 3 = nI B.length := by
    have : h_I (h_wa y1 V F) s = h_I y1 s := if_neg (fun e : s = V => by rw [e, q2] at p1; omega)
    rw [this]
    exact p3
  rw [if_pos k1, i1, nI_add, pp_b]
  exact if_pos k1
end ZSB
