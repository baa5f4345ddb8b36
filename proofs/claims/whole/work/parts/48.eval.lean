/-! a row of signs reckoned by the class; a rule's nodes reckoned by the reference -/
theorem pp_reckL {A : PV} {x : CS} {b v s e : Nat} {les : Int32} {V : Nat → Int32} (hA : pv_ok A) (h : pp_VC A x v) (hb : 20 ≤ b) (hles : x.1 v 3 = les) (hse : pp_se (x.2 (b + 3)) s e) (he : e ≤ 400) (hsg : ∀ k, k < e → x.2 (b + 3) k < 46) (hlk : ∀ k, s ≤ k → k < e → pp_ar (x.2 (b + 3) k) = 0 → pp_lk (pv_W A) (x.2 (b + 3) k) (x.1 (b + 4) k)) (hev : ∀ k, s ≤ k → k < e → pp_ev A les (x.2 (b + 3)) (x.1 (b + 4)) V k) : ∀ d fuel k T f, d = e - k → d < fuel → s ≤ k → k ≤ e → pp_st (x.2 (b + 3)) k = T ++ pp_st (x.2 (b + 3)) s → T.length ≤ k - s → pp_sk f V T → ∃ f', f_X1_reckon_8 fuel b v (nI e) (nI k) (pp_ks x T.length f) = some (V (e - 1), pp_ks x 0 f') := by
  intro d
  induction d with
  | zero =>
    intro fuel k T f hd hfu hk hke hT hl hsk
    obtain ⟨fu, rfl⟩ : ∃ fu, fuel = fu + 1 := ⟨fuel - 1, by omega⟩
    have e1 : k = e := by omega
    subst e1
    rw [hse.st] at hT
    match T, hT, hsk with
    | [], hT, _ =>
      have := congrArg List.length hT
      exfalso
      simp only [List.length_nil, List.length_cons, List.length_append] at this
      omega
    | [a], hT, hsk =>
      have ha : k - 1 = a := (List.cons.inj hT).1
      refine ⟨f, ?_⟩
      rw [f_X1_reckon_8, if_pos (nI_le (by omega) (by omega)), show [a].length = 0 + 1 from rfl, pp_pop (by omega), pp_b, ha]
      show some (f 0, _) = _
      rw [show f 0 = V a from hsk.1]
    | a :: a2 :: T, hT, _ =>
      have := congrArg List.length hT
      exfalso
      simp only [List.length_nil, List.length_cons, List.length_append] at this
      omega
  | succ d ih =>
    intro fuel k T f hd hfu hk hke hT hl hsk
    obtain ⟨fu, rfl⟩ : ∃ fu, fuel = fu + 1 := ⟨fuel - 1, by omega⟩
    have hke2 : k < e := by omega
    have h46 := hsg k hke2
    have hn := hse.2.1 k hk hke2
    unfold pp_ht at hn
    rw [hT, List.length_append] at hn
    obtain ⟨v1, v2, v3⟩ := hev k hk hke2
    have hst1 : pp_st (x.2 (b + 3)) (k + 1) = k :: (T.drop (pp_ar (x.2 (b + 3) k))) ++ pp_st (x.2 (b + 3)) s := by
      show k :: (pp_st (x.2 (b + 3)) k).drop _ = _
      rw [hT, List.drop_append_of_le_length (by omega)]
      rfl
    have hS := pp_ksS x T.length f
    rw [f_X1_reckon_8, if_neg (nI_ge hke2 (by omega)), pp_signC (by omega), pp_b, hS.2]
    by_cases h43 : x.2 (b + 3) k = 43
    · have har : pp_ar (x.2 (b + 3) k) = 1 := by rw [h43]; rfl
      rw [if_pos h43]
      match T, hT, hsk, hl, hn, hst1 with
      | [], _, _, _, hn, _ => exfalso; rw [har] at hn; simp only [List.length_nil] at hn; omega
      | a :: T, hT, hsk, hl, hn, hst1 =>
        simp only [List.length_cons] at hl
        rw [show (a :: T).length = T.length + 1 from rfl, pp_pop (by omega), pp_b]
        show ∃ f', Option.bind (f_X1_push (-f T.length) (pp_ks x T.length f)) _ = _
        rw [pp_push (by omega), pp_b, nI_1]
        rw [har] at hst1
        have hv := v2 a _ har hT
        rw [h43] at hv
        exact ih fu (k + 1) (k :: T) _ (by omega) (by omega) (by omega) (by omega) hst1 (by simp only [List.length_cons]; omega) ⟨by rw [pp_u1, hv, hsk.1]; rfl, pp_skU T (by omega) hsk.2⟩
    · rw [if_neg h43]
      by_cases h21 : x.2 (b + 3) k = 21
      · have har : pp_ar (x.2 (b + 3) k) = 1 := by rw [h21]; rfl
        rw [if_pos h21]
        match T, hT, hsk, hl, hn, hst1 with
        | [], _, _, _, hn, _ => exfalso; rw [har] at hn; simp only [List.length_nil] at hn; omega
        | a :: T, hT, hsk, hl, hn, hst1 =>
          simp only [List.length_cons] at hl
          rw [show (a :: T).length = T.length + 1 from rfl, pp_pop (by omega), pp_b]
          rw [har] at hst1
          have hv := v2 a _ har hT
          rw [h21] at hv
          unfold f_X1_reckon_64
          show ∃ f', (if f T.length = 0 then _ else _) = _
          rw [hsk.1]
          have hgo : ∀ w : Int32, w = V k → ∃ f', ((f_X1_push w (pp_ks x T.length f)).bind fun q19 => f_X1_reckon_8 fu b v (nI e) (nI k + 1) q19) = some (V (e - 1), pp_ks x 0 f') := by
            intro w hw
            rw [pp_push (by omega), pp_b, nI_1]
            exact ih fu (k + 1) (k :: T) _ (by omega) (by omega) (by omega) (by omega) hst1 (by simp only [List.length_cons]; omega) ⟨by rw [pp_u1, hw], pp_skU T (by omega) hsk.2⟩
          by_cases hva : V a = 0
          · rw [if_pos hva]
            exact hgo 1 (by rw [hv]; unfold pp_un; rw [if_neg (by decide), if_pos hva])
          · rw [if_neg hva]
            exact hgo 0 (by rw [hv]; unfold pp_un; rw [if_neg (by decide), if_neg hva])
      · rw [if_neg h21, pp_isj _ _ h46, pp_b]
        by_cases har : pp_ar (x.2 (b + 3) k) = 2
        · rw [if_pos har, if_neg (by decide)]
          match T, hT, hsk, hl, hn, hst1 with
          | [], _, _, _, hn, _ => exfalso; rw [har] at hn; simp only [List.length_nil] at hn; omega
          | [a], _, _, _, hn, _ => exfalso; rw [har] at hn; simp only [List.length_cons, List.length_nil] at hn; omega
          | bb :: a :: T, hT, hsk, hl, hn, hst1 =>
            simp only [List.length_cons] at hl
            rw [show (bb :: a :: T).length = T.length + 1 + 1 from rfl, pp_pop (by omega), pp_b]
            show ∃ f', Option.bind (f_X1_pop (pp_ks x (T.length + 1) f)) _ = _
            rw [pp_pop (by omega), pp_b]
            show ∃ f', Option.bind (f_X1_join _ (f T.length) (f (T.length + 1)) _) _ = _
            rw [pp_join har, pp_b]
            show ∃ f', Option.bind (f_X1_push _ (pp_ks x T.length f)) _ = _
            rw [pp_push (by omega), pp_b, nI_1]
            rw [har] at hst1
            have hv := v3 a bb _ har hT
            exact ih fu (k + 1) (k :: T) _ (by omega) (by omega) (by omega) (by omega) hst1 (by simp only [List.length_cons]; omega) ⟨by rw [pp_u1, hv, hsk.2.1, ← hsk.1]; rfl, pp_skU T (by omega) hsk.2.2⟩
        · have har0 : pp_ar (x.2 (b + 3) k) = 0 := by
            unfold pp_ar at har ⊢
            rw [if_neg (by omega)] at har ⊢
            split at har <;> simp_all
          rw [if_neg har, if_pos rfl, pp_valC (by omega), pp_b, hS.1 (b + 4) (by omega), pp_found hA (h.s hS) (hlk k hk hke2 har0), pp_b, hS.1 v (by have := h.1; omega), hles, pp_push (by omega), pp_b, nI_1]
          rw [har0] at hst1
          exact ih fu (k + 1) (k :: T) _ (by omega) (by omega) (by omega) (by omega) hst1 (by simp only [List.length_cons]; omega) ⟨by rw [pp_u1, v1 har0], pp_skU T (by omega) hsk⟩
theorem pp_reckC {A : PV} {x : CS} {b v s e : Nat} {les : Int32} {V : Nat → Int32} (hA : pv_ok A) (h : pp_VC A x v) (hb : 20 ≤ b) (hles : x.1 v 3 = les) (hse : pp_se (x.2 (b + 3)) s e) (he : e ≤ 400) (hsg : ∀ k, k < e → x.2 (b + 3) k < 46) (hlk : ∀ k, s ≤ k → k < e → pp_ar (x.2 (b + 3) k) = 0 → pp_lk (pv_W A) (x.2 (b + 3) k) (x.1 (b + 4) k)) (hev : ∀ k, s ≤ k → k < e → pp_ev A les (x.2 (b + 3)) (x.1 (b + 4)) V k) : ∃ x', pp_Sc x x' ∧ f_X1_reckon b v (nI s) (nI e) x = some (V (e - 1), x') := by
  have h0 := hse.1
  obtain ⟨f', hf⟩ := pp_reckL hA h hb hles hse he hsg hlk hev (e - s) g_fuel s [] (x.1 19) rfl (by unfold g_fuel; omega) (Nat.le_refl _) (by omega) rfl (by simp) trivial
  refine ⟨_, pp_ksS x 0 f', ?_⟩
  unfold f_X1_reckon
  have e1 : g_wi x 18 3 0 = pp_ks x 0 (x.1 19) := by
    unfold pp_ks
    rw [nI_0]
    have : x.1 19 = (g_wi x 18 3 0).1 19 := by rw [pp_c1, pp_c4 (by omega)]
    rw [this, pp_wae]
  rw [e1]
  exact hf
/-! the reference -/
def pp_trl : List Nat := [0, 1, 2, 3, 4, 5, 6, 7, 8, 9, 10, 11, 12, 13, 14, 15, 16, 17, 18, 19, 20, 21, 22, 23, 24, 25, 49, 50, 51, 52, 53, 54, 40, 41, 42, 43, 44, 45, 46, 47, 48, 30, 31, 60, 33, 32]
def pp_tr (s : Nat) : Nat := pp_trl.getD s 0
def pp_bt (s : Nat) : Prop := s = 19 ∨ s = 20 ∨ s = 21 ∨ s = 22 ∨ s = 23 ∨ (36 ≤ s ∧ s ≤ 40)
def pp_nd (W : Nat) (sg : Nat → Nat) (vl so le ri : Nat → Int32) (p : Nat) : Prop := so p = nI (pp_tr (sg p)) ∧ ((sg p = 14 ∨ sg p = 15 ∨ (sg p = 42 ∧ le p = vl p) ∨ ((sg p = 16 ∨ sg p = 17 ∨ sg p = 19 ∨ sg p = 20) ∧ le p = vl p ∧ ∃ w, w < W ∧ vl p = nI w)) ∨ (∃ a S, pp_ar (sg p) = 1 ∧ pp_st sg p = a :: S ∧ le p = nI a ∧ (sg p = 21 → pp_bt (sg a))) ∨ (∃ a b S, pp_ar (sg p) = 2 ∧ pp_st sg p = b :: a :: S ∧ le p = nI a ∧ ri p = nI b ∧ (sg p = 22 ∨ sg p = 23 → pp_bt (sg a) ∧ pp_bt (sg b))))
theorem pp_nd.lk {W : Nat} {sg : Nat → Nat} {vl so le ri : Nat → Int32} {p : Nat} (h : pp_nd W sg vl so le ri p) (h0 : pp_ar (sg p) = 0) : pp_lk W (sg p) (vl p) := by
  rcases h.2 with h | ⟨a, S, h1, -⟩ | ⟨a, b, S, h1, -⟩
  · rcases h with h | h | h | ⟨h, -, h2⟩
    · exact Or.inl h
    · exact Or.inr (Or.inl h)
    · exact Or.inr (Or.inr (Or.inl h.1))
    · exact Or.inr (Or.inr (Or.inr ⟨h, h2⟩))
  · omega
  · omega
theorem pp_nd.s46 {W : Nat} {sg : Nat → Nat} {vl so le ri : Nat → Int32} {p : Nat} (h : pp_nd W sg vl so le ri p) : sg p < 46 := by
  rcases h.2 with h | ⟨a, S, h1, -⟩ | ⟨a, b, S, h1, -⟩
  · omega
  · have := pp_ar1 h1; omega
  · have := pp_ar2 h1; omega
theorem pp_gmc {y : MS} {f g h : Nat → Int32} : g_ma (g_ma (g_ma y 160 f) 151 g) 160 h = g_ma (g_ma y 160 h) 151 g := by
  funext j
  unfold g_ma
  by_cases h1 : j = 160
  · subst h1; simp
  · by_cases h2 : j = 151 <;> simp [h1, h2]
theorem pp_rekL {A : PV} {y : MS} {s sg : Nat} {le ri w : Int32} (hA : pv_ok A) (h : pp_VM A y s) (hl : (sg = 14 ∨ sg = 15 ∨ (sg = 42 ∧ le = w) ∨ ((sg = 16 ∨ sg = 17 ∨ sg = 19 ∨ sg = 20) ∧ le = w ∧ ∃ j, j < pv_W A ∧ w = nI j))) : ∃ f, f_X15_reckon s (nI (pp_tr sg)) le ri y = some (pp_lf A (y s 3) sg w, g_ma y 160 f) := by
  have hs := h.1
  have hW := hA.1
  rcases hl with rfl | rfl | ⟨rfl, rfl⟩ | ⟨h3, rfl, j, hj, rfl⟩
  · exact ⟨y 160, by rw [pp_g5]; rfl⟩
  · refine ⟨y 160, ?_⟩
    rw [pp_g5]
    show f_X15_reckon s 15 le ri y = _
    unfold f_X15_reckon
    rw [if_neg (by decide), if_pos rfl, pp_keptM hA h]
    rfl
  · refine ⟨y 160, ?_⟩
    rw [pp_g5]
    rfl
  · obtain ⟨a1, a2⟩ := h.2.2.2.1 j hj
    have hc : (nI j).toNatClampNeg = j := nI_clamp (by omega)
    rcases h3 with rfl | rfl | rfl | rfl
    · show ∃ f, f_X15_reckon s 16 (nI j) ri y = _
      unfold f_X15_reckon
      rw [if_neg (by decide), if_neg (by decide), if_pos rfl, if_pos (by decide), show ((8 : Int32)).toNatClampNeg = 8 by decide, h.2.2.2.2.1]
      have hh := h.2.2.2.2.2.1
      by_cases h0 : pv_hl A = 0
      · rw [if_pos (by rw [h0]; rfl)]
        refine ⟨y 160, ?_⟩
        rw [pp_g5]
        unfold pp_lf
        rw [if_neg (by decide), if_neg (by decide), if_pos rfl, hc]
        unfold pv_dh
        rw [if_pos h0]
        rfl
      · rw [if_neg (nI_ne0 (by omega) (by omega))]
        obtain ⟨f, hf⟩ := pp_distH hA h hj h0
        refine ⟨f, ?_⟩
        rw [show (8 : Int32) = nI 8 from rfl, hf]
        unfold pp_lf
        rw [if_neg (by decide), if_neg (by decide), if_pos rfl, hc]
        rfl
    · refine ⟨y 160, ?_⟩
      rw [pp_g5]
      show f_X15_reckon s 17 (nI j) ri y = _
      unfold f_X15_reckon pp_lf
      rw [if_neg (by decide), if_neg (by decide), if_neg (by decide), if_pos rfl, if_pos ((pp_ok (by omega)).mpr (by omega)), hc, a2.1]
      rfl
    · show ∃ f, f_X15_reckon s 19 (nI j) ri y = _
      unfold f_X15_reckon pp_lf
      rw [if_neg (by decide), if_neg (by decide), if_neg (by decide), if_neg (by decide), if_pos rfl]
      obtain ⟨f, hf⟩ := pp_meantM (but := none) hA h (fun b q => by cases q)
      refine ⟨f, ?_⟩
      rw [show (-1 : Int32) = pp_en none from rfl, hf, pp_b]
      show (if pp_en _ = nI j then _ else _) = some (if pp_en _ = nI j then (1 : Int32) else 0, _)
      split <;> rfl
    · refine ⟨y 160, ?_⟩
      rw [pp_g5]
      show f_X15_reckon s 20 (nI j) ri y = _
      unfold f_X15_reckon pp_lf
      rw [if_neg (by decide), if_neg (by decide), if_neg (by decide), if_neg (by decide), if_neg (by decide), if_pos rfl, if_pos ((pp_ok (by omega)).mpr (by omega)), hc, a1]
      rfl
theorem pp_rekN {y : MS} {s a : Nat} {ri : Int32} (ha : a < 800) (h01 : y 151 a = 0 ∨ y 151 a = 1) : f_X15_reckon s (nI (pp_tr 21)) (nI a) ri y = some (pp_un 21 (y 151 a), y) := by
  show f_X15_reckon s 21 (nI a) ri y = _
  unfold f_X15_reckon
  rw [if_neg (by decide), if_neg (by decide), if_neg (by decide), if_neg (by decide), if_neg (by decide), if_neg (by decide), if_pos rfl, if_pos ((pp_ok (by omega)).mpr ha), nI_clamp (by omega)]
  rcases h01 with h | h <;> rw [h] <;> rfl
theorem pp_rekM {y : MS} {s a : Nat} {ri : Int32} (ha : a < 800) : f_X15_reckon s (nI (pp_tr 43)) (nI a) ri y = some (pp_un 43 (y 151 a), y) := by
  show f_X15_reckon s 60 (nI a) ri y = _
  unfold f_X15_reckon
  rw [if_neg (by decide), if_neg (by decide), if_neg (by decide), if_neg (by decide), if_neg (by decide), if_neg (by decide), if_neg (by decide), if_neg (by decide), if_pos rfl, if_pos ((pp_ok (by omega)).mpr ha), nI_clamp (by omega)]
  rfl
theorem pp_rekB {y : MS} {s a b sg : Nat} (hs : pp_ar sg = 2) (ha : a < 800) (hb : b < 800) : f_X15_reckon s (nI (pp_tr sg)) (nI a) (nI b) y = some (pp_bi sg (y 151 a) (y 151 b), y) := by
  have hj := fun u v => pp_joinM (s := sg) (a := u) (b := v) hs
  have he : pp_tr sg = (if sg ≤ 25 then sg else sg + 8) := by
    rcases pp_ar2 hs with rfl | rfl | rfl | rfl | rfl | rfl | rfl | rfl | rfl | rfl | rfl | rfl | rfl <;> rfl
  have hne : ∀ k, (k = 14 ∨ k = 15 ∨ k = 16 ∨ k = 17 ∨ k = 19 ∨ k = 20 ∨ k = 21 ∨ k = 31 ∨ k = 60) → ¬ nI (if sg ≤ 25 then sg else sg + 8) = nI k := by
    intro k hk
    have := pp_ar2 hs
    rw [nI_eq (by split <;> omega) (by omega)]
    split <;> omega
  rw [he]
  unfold f_X15_reckon
  rw [if_neg (show ¬ nI (if sg ≤ 25 then sg else sg + 8) = (14 : Int32) from hne 14 (by omega)), if_neg (show ¬ nI (if sg ≤ 25 then sg else sg + 8) = (15 : Int32) from hne 15 (by omega)), if_neg (show ¬ nI (if sg ≤ 25 then sg else sg + 8) = (16 : Int32) from hne 16 (by omega)), if_neg (show ¬ nI (if sg ≤ 25 then sg else sg + 8) = (17 : Int32) from hne 17 (by omega)), if_neg (show ¬ nI (if sg ≤ 25 then sg else sg + 8) = (19 : Int32) from hne 19 (by omega)), if_neg (show ¬ nI (if sg ≤ 25 then sg else sg + 8) = (20 : Int32) from hne 20 (by omega)), if_neg (show ¬ nI (if sg ≤ 25 then sg else sg + 8) = (21 : Int32) from hne 21 (by omega)), if_neg (show ¬ nI (if sg ≤ 25 then sg else sg + 8) = (31 : Int32) from hne 31 (by omega)), if_neg (show ¬ nI (if sg ≤ 25 then sg else sg + 8) = (60 : Int32) from hne 60 (by omega)), if_pos ((pp_ok (by omega)).mpr ha), if_pos ((pp_ok (by omega)).mpr hb), nI_clamp (by omega), nI_clamp (by omega), hj, pp_b]
theorem pp_01 {c : Prop} [Decidable c] : (if c then (0 : Int32) else 1) = 0 ∨ (if c then (0 : Int32) else 1) = 1 := by split <;> simp
theorem pp_10 {c : Prop} [Decidable c] : (if c then (1 : Int32) else 0) = 0 ∨ (if c then (1 : Int32) else 0) = 1 := by split <;> simp
theorem pp_bi01 {s : Nat} {a b : Int32} (h : pp_bt s) (ha : pp_ar s = 2) (hab : s = 22 ∨ s = 23 → (a = 0 ∨ a = 1) ∧ (b = 0 ∨ b = 1)) : pp_bi s a b = 0 ∨ pp_bi s a b = 1 := by
  unfold pp_bt at h
  have h2 := pp_ar2 ha
  have h3 : s = 22 ∨ s = 23 ∨ s = 36 ∨ s = 37 ∨ s = 38 ∨ s = 39 ∨ s = 40 := by omega
  rcases h3 with rfl | rfl | rfl | rfl | rfl | rfl | rfl
  · obtain ⟨h4 | h4, h5 | h5⟩ := hab (Or.inl rfl) <;> rw [h4, h5] <;> decide
  · obtain ⟨h4 | h4, h5 | h5⟩ := hab (Or.inr rfl) <;> rw [h4, h5] <;> decide
  · exact (show (if b ≤ a then (0 : Int32) else 1) = 0 ∨ (if b ≤ a then (0 : Int32) else 1) = 1 from pp_01)
  · exact (show (if a ≤ b then (0 : Int32) else 1) = 0 ∨ (if a ≤ b then (0 : Int32) else 1) = 1 from pp_01)
  · exact (show (if a = b then (1 : Int32) else 0) = 0 ∨ (if a = b then (1 : Int32) else 0) = 1 from pp_10)
  · exact (show (if b < a then (0 : Int32) else 1) = 0 ∨ (if b < a then (0 : Int32) else 1) = 1 from pp_01)
  · exact (show (if a < b then (0 : Int32) else 1) = 0 ∨ (if a < b then (0 : Int32) else 1) = 1 from pp_01)
theorem pp_un01 (a : Int32) : pp_un 21 a = 0 ∨ pp_un 21 a = 1 := by
  unfold pp_un
  rw [if_neg (by decide)]
  split <;> simp
theorem pp_lf01 {A : PV} {les w : Int32} {s : Nat} (hA : pv_ok A) (h : s = 19 ∨ s = 20) : pp_lf A les s w = 0 ∨ pp_lf A les s w = 1 := by
  rcases h with rfl | rfl
  · exact (show (if pp_en (pv_mt A none) = w then (1 : Int32) else 0) = 0 ∨ (if pp_en (pv_mt A none) = w then (1 : Int32) else 0) = 1 from pp_10)
  · unfold pp_lf
    rw [if_neg (by decide), if_neg (by decide), if_neg (by decide), if_neg (by decide), if_neg (by decide), if_pos rfl]
    have := hA.2.1 w.toNatClampNeg
    rcases Nat.lt_or_ge 0 (pv_pr A w.toNatClampNeg) with h4 | h4
    · right; rw [show pv_pr A w.toNatClampNeg = 1 by omega]; rfl
    · left; rw [show pv_pr A w.toNatClampNeg = 0 by omega]; rfl
def pp_EV (A : PV) (les : Int32) (sg : Nat → Nat) (vl : Nat → Int32) (s p : Nat) (g : Nat → Int32) : Prop := ∀ q, s ≤ q → q < p → pp_ev A les sg vl g q ∧ (pp_bt (sg q) → g q = 0 ∨ g q = 1)
theorem pp_evU {A : PV} {les : Int32} {sg : Nat → Nat} {vl g : Nat → Int32} {q p : Nat} {v : Int32} (h : pp_ev A les sg vl g q) (hq : q < p) : pp_ev A les sg vl (upd g p v) q := by
  refine ⟨fun h0 => ?_, fun a S h1 h2 => ?_, fun a b S h1 h2 => ?_⟩
  · rw [pp_u2 (by omega)]; exact h.1 h0
  · have ha := pp_stB sg q a (by rw [h2]; exact List.mem_cons_self)
    rw [pp_u2 (by omega), pp_u2 (by omega)]; exact h.2.1 a S h1 h2
  · have ha := pp_stB sg q a (by rw [h2]; exact List.mem_cons_of_mem _ List.mem_cons_self)
    have hb := pp_stB sg q b (by rw [h2]; exact List.mem_cons_self)
    rw [pp_u2 (by omega), pp_u2 (by omega), pp_u2 (by omega)]; exact h.2.2 a b S h1 h2
theorem pp_EVs {A : PV} {les : Int32} {sg : Nat → Nat} {vl g : Nat → Int32} {s p : Nat} {v : Int32} (h : pp_EV A les sg vl s p g) (hv : pp_ev A les sg vl (upd g p v) p) (hb : pp_bt (sg p) → v = 0 ∨ v = 1) : pp_EV A les sg vl s (p + 1) (upd g p v) := by
  intro q hq hqp
  rcases Nat.lt_or_ge q p with h1 | h1
  · obtain ⟨e1, e2⟩ := h q hq h1
    exact ⟨pp_evU e1 h1, fun hb => by rw [pp_u2 (by omega)]; exact e2 hb⟩
  · have e : q = p := by omega
    subst e
    exact ⟨hv, fun h => by rw [pp_u1]; exact hb h⟩
theorem pp_mloop {A : PV} {y0 : MS} {s k b0 e : Nat} {sg : Nat → Nat} {vl : Nat → Int32} (hA : pv_ok A) (h : pp_VM A y0 s) (hnd : ∀ p, b0 ≤ p → p < e → pp_nd (pv_W A) sg vl (y0 136) (y0 137) (y0 138) p) (hnu : pp_nu sg b0 e) (he : e ≤ 400) (hk : k < 17) (hto : y0 133 k = nI e) : ∀ d fuel p f g, d = e - p → d < fuel → b0 ≤ p → p ≤ e → pp_EV A (y0 s 3) sg vl b0 p g → ∃ f' g' fu', pp_EV A (y0 s 3) sg vl b0 e g' ∧ f_X15_carryOut_10 fuel s (nI k) (nI p) (g_ma (g_ma y0 160 f) 151 g) = f_X15_carryOut_10 (fu' + 1) s (nI k) (nI e) (g_ma (g_ma y0 160 f') 151 g') := by
  have hs := h.1
  intro d
  induction d with
  | zero =>
    intro fuel p f g hd hfu hp hpe hE
    obtain ⟨fu, rfl⟩ : ∃ fu, fuel = fu + 1 := ⟨fuel - 1, by omega⟩
    have e1 : p = e := by omega
    subst e1
    exact ⟨f, g, fu, hE, rfl⟩
  | succ d ih =>
    intro fuel p f g hd hfu hp hpe hE
    obtain ⟨fu, rfl⟩ : ∃ fu, fuel = fu + 1 := ⟨fuel - 1, by omega⟩
    have hpe2 : p < e := by omega
    have hN := hnd p hp hpe2
    obtain ⟨T, t1, t2, t3⟩ := pp_sp hnu (p - b0) p (by omega) hpe
    have hn := hnu p hp hpe2
    unfold pp_ht at hn
    rw [t1, List.length_append] at hn
    have hV : pp_VM A (g_ma (g_ma y0 160 f) 151 g) s := (h.f (by omega) (by omega) (by omega) (by omega)).f (by omega) (by omega) (by omega) (by omega)
    have r1 : ∀ i, i ≠ 151 → i ≠ 160 → (g_ma (g_ma y0 160 f) 151 g) i = y0 i := fun i h1 h2 => (pp_g4 h1).trans (pp_g4 h2)
    have hs1 : s ≠ 151 ∧ s ≠ 160 := by omega
    have key : ∃ v f2, pp_ev A (y0 s 3) sg vl (upd g p v) p ∧ (pp_bt (sg p) → v = 0 ∨ v = 1) ∧ f_X15_reckon s (y0 136 p) (y0 137 p) (y0 138 p) (g_ma (g_ma y0 160 f) 151 g) = some (v, g_ma (g_ma y0 160 f2) 151 g) := by
      rw [hN.1]
      rcases hN.2 with h1 | ⟨a, S, h1, h2, h3, h4⟩ | ⟨a, b, S, h1, h2, h3, h5, h4⟩
      · have hsgp : sg p = 14 ∨ sg p = 15 ∨ sg p = 42 ∨ sg p = 16 ∨ sg p = 17 ∨ sg p = 19 ∨ sg p = 20 := by rcases h1 with h | h | ⟨h, -⟩ | ⟨h, -⟩ <;> omega
        have q0 : pp_ar (sg p) = 0 := by rcases hsgp with h | h | h | h | h | h | h <;> rw [h] <;> rfl
        have qb : pp_bt (sg p) → sg p = 19 ∨ sg p = 20 := by
          intro hb
          unfold pp_bt at hb
          clear h1
          omega
        obtain ⟨f2, hf2⟩ := pp_rekL (ri := y0 138 p) hA hV h1
        rw [r1 s hs1.1 hs1.2, pp_gmc] at hf2
        exact ⟨_, f2, ⟨fun _ => pp_u1, fun a S q1 _ => absurd (q0.symm.trans q1) (by decide), fun a b S q1 _ => absurd (q0.symm.trans q1) (by decide)⟩, fun hb => pp_lf01 hA (qb hb), hf2⟩
      · rw [t1] at h2
        match T, h2, t2, hn with
        | [], _, _, hn => exfalso; rw [h1] at hn; simp only [List.length_nil] at hn; omega
        | c :: T, h2, t2, _ =>
          have hc : c = a := (List.cons.inj h2).1
          subst hc
          obtain ⟨ha1, ha2⟩ := t2 c List.mem_cons_self
          rw [h3]
          have hY : (g_ma (g_ma y0 160 f) 151 g) 151 c = g c := by rw [pp_g3]
          rcases pp_ar1 h1 with h43 | h21
          · refine ⟨pp_un 43 (g c), f, ⟨fun q => by omega, fun a S q1 q2 => ?_, fun a b S q1 _ => by omega⟩, fun hb => ?_, by rw [h43, pp_rekM (by omega), hY]⟩
            · rw [t1] at q2
              have : c = a := (List.cons.inj q2).1
              subst this
              rw [pp_u1, pp_u2 (by omega), h43]
            · unfold pp_bt at hb; omega
          · have h01 := (hE c ha1 ha2).2 (h4 h21)
            refine ⟨pp_un 21 (g c), f, ⟨fun q => by omega, fun a S q1 q2 => ?_, fun a b S q1 _ => by omega⟩, fun hb => pp_un01 _, by rw [h21, pp_rekN (by omega) (by rw [hY]; exact h01), hY]⟩
            rw [t1] at q2
            have : c = a := (List.cons.inj q2).1
            subst this
            rw [pp_u1, pp_u2 (by omega), h21]
      · rw [t1] at h2
        match T, h2, t2, hn with
        | [], _, _, hn => exfalso; rw [h1] at hn; simp only [List.length_nil] at hn; omega
        | [c], _, _, hn => exfalso; rw [h1] at hn; simp only [List.length_cons, List.length_nil] at hn; omega
        | c2 :: c :: T, h2, t2, _ =>
          have hc2 : c2 = b := (List.cons.inj h2).1
          have hc : c = a := (List.cons.inj (List.cons.inj h2).2).1
          subst hc hc2
          obtain ⟨hb1, hb2⟩ := t2 c2 List.mem_cons_self
          obtain ⟨ha1, ha2⟩ := t2 c (List.mem_cons_of_mem _ List.mem_cons_self)
          rw [h3, h5]
          have hY : ∀ i, (g_ma (g_ma y0 160 f) 151 g) 151 i = g i := fun i => by rw [pp_g3]
          refine ⟨pp_bi (sg p) (g c) (g c2), f, ⟨fun q => by omega, fun a S q1 _ => by omega, fun a b S q1 q2 => ?_⟩, fun hb => pp_bi01 hb h1 (fun h => ?_), by rw [pp_rekB h1 (by omega) (by omega), hY, hY]⟩
          · rw [t1] at q2
            have e1 : c2 = b := (List.cons.inj q2).1
            have e2 : c = a := (List.cons.inj (List.cons.inj q2).2).1
            subst e1 e2
            rw [pp_u1, pp_u2 (by omega), pp_u2 (by omega)]
          · exact ⟨(hE c ha1 ha2).2 (h4 h).1, (hE c2 hb1 hb2).2 (h4 h).2⟩
    obtain ⟨v, f2, k1, k2, k3⟩ := key
    obtain ⟨f', g', fu', i1, i2⟩ := ih fu (p + 1) f2 (upd g p v) (by omega) (by omega) (by omega) (by omega) (pp_EVs hE k1 k2)
    refine ⟨f', g', fu', i1, ?_⟩
    rw [f_X15_carryOut_10, if_pos ((pp_ok (by omega)).mpr hk), nI_clamp (by omega), r1 133 (by omega) (by omega), hto, if_neg (nI_ge hpe2 (by omega)), if_pos ((pp_ok (by omega)).mpr (by omega)), if_pos ((pp_ok (by omega)).mpr (by omega)), if_pos ((pp_ok (by omega)).mpr (by omega)), nI_clamp (by omega), r1 136 (by omega) (by omega), r1 137 (by omega) (by omega), r1 138 (by omega) (by omega), k3, pp_b, if_pos ((pp_ok (by omega)).mpr (by omega)), nI_1]
    show f_X15_carryOut_10 fu s (nI k) (nI (p + 1)) (g_mi (g_ma (g_ma y0 160 f2) 151 g) 151 p v) = _
    rw [pp_g1, pp_g2, pp_g3]
    exact i2
