/-! a row of signs reckoned by the class; a rule's nodes reckoned by the reference -/
theorem pp_reckL {A : PV} {x : CS} {b v s e : Nat} {les : Int32} {V : Nat → Int32} (hA : pv_ok A) (h : pp_VC A x v) (hb : 20 ≤ b) (hles : x.1 v 3 = les) (hse : pp_se (x.2 (b + 3)) s e) (he : e ≤ 400) (hsg : ∀ k, k < e → x.2 (b + 3) k < 46) (hlk : ∀ k, s ≤ k → k < e → pp_ar (x.2 (b + 3) k) = 0 → pp_lk (pv_W A) (x.2 (b + 3) k) (x.1 (b + 4) k)) (hev : ∀ k, s ≤ k → k < e → pp_ev A les (x.2 (b + 3)) (x.1 (b + 4)) V k) : ∀ d fuel k T f, d = e - k → d < fuel → s ≤ k → k ≤ e → pp_st (x.2 (b + 3)) k = T ++ pp_st (x.2 (b + 3)) s → T.length ≤ k - s → pp_sk f V T → ∃ f', f_X1_reckon_8 fuel b v (nI e) (nI k) (pp_ks x T.length f) = some (V (e - 1), pp_ks x 0 f') := by
  intro d
  induction d with
  | zero =>
    intro fuel k T f hd hfu hk hke hT hl hsk
    obtain ⟨fu, rfl⟩ : ∃ fu, fuel = fu + 1 := ⟨fuel - 1, by omega⟩
    have e1 : k = e := by omega
    subst e1
    rw [hse.st] at hT
    match T, hT, hsk with
    | [], hT, _ =>
      have := congrArg List.length hT
      exfalso
      simp only [List.length_nil, List.length_cons, List.length_append] at this
      omega
    | [a], hT, hsk =>
      have ha : k - 1 = a := (List.cons.inj hT).1
      refine ⟨f, ?_⟩
      rw [f_X1_reckon_8, if_pos (nI_le (by omega) (by omega)), show [a].length = 0 + 1 from rfl, pp_pop (by omega), pp_b, ha]
      show some (f 0, _) = _
      rw [show f 0 = V a from hsk.1]
    | a :: a2 :: T, hT, _ =>
      have := congrArg List.length hT
      exfalso
      simp only [List.length_nil, List.length_cons, List.length_append] at this
      omega
  | succ d ih =>
    intro fuel k T f hd hfu hk hke hT hl hsk
    obtain ⟨fu, rfl⟩ : ∃ fu, fuel = fu + 1 := ⟨fuel - 1, by omega⟩
    have hke2 : k < e := by omega
    have h46 := hsg k hke2
    have hn := hse.2.1 k hk hke2
    unfold pp_ht at hn
    rw [hT, List.length_append] at hn
    obtain ⟨v1, v2, v3⟩ := hev k hk hke2
    have hst1 : pp_st (x.2 (b + 3)) (k + 1) = k :: (T.drop (pp_ar (x.2 (b + 3) k))) ++ pp_st (x.2 (b + 3)) s := by
      show k :: (pp_st (x.2 (b + 3)) k).drop _ = _
      rw [hT, List.drop_append_of_le_length (by omega)]
      rfl
    have hS := pp_ksS x T.length f
    rw [f_X1_reckon_8, if_neg (nI_ge hke2 (by omega)), pp_signC (by omega), pp_b, hS.2]
    by_cases h43 : x.2 (b + 3) k = 43
    · have har : pp_ar (x.2 (b + 3) k) = 1 := by rw [h43]; rfl
      rw [if_pos h43]
      match T, hT, hsk, hl, hn, hst1 with
      | [], _, _, _, hn, _ => exfalso; rw [har] at hn; simp only [List.length_nil] at hn; omega
      | a :: T, hT, hsk, hl, hn, hst1 =>
        simp only [List.length_cons] at hl
        rw [show (a :: T).length = T.length + 1 from rfl, pp_pop (by omega), pp_b]
        show ∃ f', Option.bind (f_X1_push (-f T.length) (pp_ks x T.length f)) _ = _
        rw [pp_push (by omega), pp_b, nI_1]
        rw [har] at hst1
        have hv := v2 a _ har hT
        rw [h43] at hv
        exact ih fu (k + 1) (k :: T) _ (by omega) (by omega) (by omega) (by omega) hst1 (by simp only [List.length_cons]; omega) ⟨by rw [pp_u1, hv, hsk.1]; rfl, pp_skU T (by omega) hsk.2⟩
    · rw [if_neg h43]
      by_cases h21 : x.2 (b + 3) k = 21
      · have har : pp_ar (x.2 (b + 3) k) = 1 := by rw [h21]; rfl
        rw [if_pos h21]
        match T, hT, hsk, hl, hn, hst1 with
        | [], _, _, _, hn, _ => exfalso; rw [har] at hn; simp only [List.length_nil] at hn; omega
        | a :: T, hT, hsk, hl, hn, hst1 =>
          simp only [List.length_cons] at hl
          rw [show (a :: T).length = T.length + 1 from rfl, pp_pop (by omega), pp_b]
          rw [har] at hst1
          have hv := v2 a _ har hT
          rw [h21] at hv
          unfold f_X1_reckon_64
          show ∃ f', (if f T.length = 0 then _ else _) = _
          rw [hsk.1]
          have hgo : ∀ w : Int32, w = V k → ∃ f', ((f_X1_push w (pp_ks x T.length f)).bind fun q19 => f_X1_reckon_8 fu b v (nI e) (nI k + 1) q19) = some (V (e - 1), pp_ks x 0 f') := by
            intro w hw
            rw [pp_push (by omega), pp_b, nI_1]
            exact ih fu (k + 1) (k :: T) _ (by omega) (by omega) (by omega) (by omega) hst1 (by simp only [List.length_cons]; omega) ⟨by rw [pp_u1, hw], pp_skU T (by omega) hsk.2⟩
          by_cases hva : V a = 0
          · rw [if_pos hva]
            exact hgo 1 (by rw [hv]; unfold pp_un; rw [if_neg (by decide), if_pos hva])
          · rw [if_neg hva]
            exact hgo 0 (by rw [hv]; unfold pp_un; rw [if_neg (by decide), if_neg hva])
      · rw [if_neg h21, pp_isj _ _ h46, pp_b]
        by_cases har : pp_ar (x.2 (b + 3) k) = 2
        · rw [if_pos har, if_neg (by decide)]
          match T, hT, hsk, hl, hn, hst1 with
          | [], _, _, _, hn, _ => exfalso; rw [har] at hn; simp only [List.length_nil] at hn; omega
          | [a], _, _, _, hn, _ => exfalso; rw [har] at hn; simp only [List.length_cons, List.length_nil] at hn; omega
          | bb :: a :: T, hT, hsk, hl, hn, hst1 =>
            simp only [List.length_cons] at hl
            rw [show (bb :: a :: T).length = T.length + 1 + 1 from rfl, pp_pop (by omega), pp_b]
            show ∃ f', Option.bind (f_X1_pop (pp_ks x (T.length + 1) f)) _ = _
            rw [pp_pop (by omega), pp_b]
            show ∃ f', Option.bind (f_X1_join _ (f T.length) (f (T.length + 1)) _) _ = _
            rw [pp_join har, pp_b]
            show ∃ f', Option.bind (f_X1_push _ (pp_ks x T.length f)) _ = _
            rw [pp_push (by omega), pp_b, nI_1]
            rw [har] at hst1
            have hv := v3 a bb _ har hT
            exact ih fu (k + 1) (k :: T) _ (by omega) (by omega) (by omega) (by omega) hst1 (by simp only [List.length_cons]; omega) ⟨by rw [pp_u1, hv, hsk.2.1, ← hsk.1]; rfl, pp_skU T (by omega) hsk.2.2⟩
        · have har0 : pp_ar (x.2 (b + 3) k) = 0 := by
            unfold pp_ar at har ⊢
            rw [if_neg (by omega)] at har ⊢
            split at har <;> simp_all
          rw [if_neg har, if_pos rfl, pp_valC (by omega), pp_b, hS.1 (b + 4) (by omega), pp_found hA (h.s hS) (hlk k hk hke2 har0), pp_b, hS.1 v (by have := h.1; omega), hles, pp_push (by omega), pp_b, nI_1]
          rw [har0] at hst1
          exact ih fu (k + 1) (k :: T) _ (by omega) (by omega) (by omega) (by omega) hst1 (by simp only [List.length_cons]; omega) ⟨by rw [pp_u1, v1 har0], pp_skU T (by omega) hsk⟩
theorem pp_reckC {A : PV} {x : CS} {b v s e : Nat} {les : Int32} {V : Nat → Int32} (hA : pv_ok A) (h : pp_VC A x v) (hb : 20 ≤ b) (hles : x.1 v 3 = les) (hse : pp_se (x.2 (b + 3)) s e) (he : e ≤ 400) (hsg : ∀ k, k < e → x.2 (b + 3) k < 46) (hlk : ∀ k, s ≤ k → k < e → pp_ar (x.2 (b + 3) k) = 0 → pp_lk (pv_W A) (x.2 (b + 3) k) (x.1 (b + 4) k)) (hev : ∀ k, s ≤ k → k < e → pp_ev A les (x.2 (b + 3)) (x.1 (b + 4)) V k) : ∃ x', pp_Sc x x' ∧ f_X1_reckon b v (nI s) (nI e) x = some (V (e - 1), x') := by
  have h0 := hse.1
  obtain ⟨f', hf⟩ := pp_reckL hA h hb hles hse he hsg hlk hev (e - s) g_fuel s [] (x.1 19) rfl (by unfold g_fuel; omega) (Nat.le_refl _) (by omega) rfl (by simp) trivial
  refine ⟨_, pp_ksS x 0 f', ?_⟩
  unfold f_X1_reckon
  have e1 : g_wi x 18 3 0 = pp_ks x 0 (x.1 19) := by
    unfold pp_ks
    rw [nI_0]
    have : x.1 19 = (g_wi x 18 3 0).1 19 := by rw [pp_c1, pp_c4 (by omega)]
    rw [this, pp_wae]
  rw [e1]
  exact hf
/-! the reference -/
def pp_bt (s : Nat) : Prop := s = 19 ∨ s = 20 ∨ s = 21 ∨ s = 22 ∨ s = 23 ∨ (36 ≤ s ∧ s ≤ 40)
theorem pp_01 {c : Prop} [Decidable c] : (if c then (0 : Int32) else 1) = 0 ∨ (if c then (0 : Int32) else 1) = 1 := by split <;> simp
theorem pp_10 {c : Prop} [Decidable c] : (if c then (1 : Int32) else 0) = 0 ∨ (if c then (1 : Int32) else 0) = 1 := by split <;> simp
theorem pp_bi01 {s : Nat} {a b : Int32} (h : pp_bt s) (ha : pp_ar s = 2) (hab : s = 22 ∨ s = 23 → (a = 0 ∨ a = 1) ∧ (b = 0 ∨ b = 1)) : pp_bi s a b = 0 ∨ pp_bi s a b = 1 := by
  unfold pp_bt at h
  have h2 := pp_ar2 ha
  have h3 : s = 22 ∨ s = 23 ∨ s = 36 ∨ s = 37 ∨ s = 38 ∨ s = 39 ∨ s = 40 := by omega
  rcases h3 with rfl | rfl | rfl | rfl | rfl | rfl | rfl
  · obtain ⟨h4 | h4, h5 | h5⟩ := hab (Or.inl rfl) <;> rw [h4, h5] <;> decide
  · obtain ⟨h4 | h4, h5 | h5⟩ := hab (Or.inr rfl) <;> rw [h4, h5] <;> decide
  · exact (show (if b ≤ a then (0 : Int32) else 1) = 0 ∨ (if b ≤ a then (0 : Int32) else 1) = 1 from pp_01)
  · exact (show (if a ≤ b then (0 : Int32) else 1) = 0 ∨ (if a ≤ b then (0 : Int32) else 1) = 1 from pp_01)
  · exact (show (if a = b then (1 : Int32) else 0) = 0 ∨ (if a = b then (1 : Int32) else 0) = 1 from pp_10)
  · exact (show (if b < a then (0 : Int32) else 1) = 0 ∨ (if b < a then (0 : Int32) else 1) = 1 from pp_01)
  · exact (show (if a < b then (0 : Int32) else 1) = 0 ∨ (if a < b then (0 : Int32) else 1) = 1 from pp_01)
theorem pp_un01 (a : Int32) : pp_un 21 a = 0 ∨ pp_un 21 a = 1 := by
  unfold pp_un
  rw [if_neg (by decide)]
  split <;> simp
theorem pp_lf01 {A : PV} {les w : Int32} {s : Nat} (hA : pv_ok A) (h : s = 19 ∨ s = 20) : pp_lf A les s w = 0 ∨ pp_lf A les s w = 1 := by
  rcases h with rfl | rfl
  · exact (show (if pp_en (pv_mt A none) = w then (1 : Int32) else 0) = 0 ∨ (if pp_en (pv_mt A none) = w then (1 : Int32) else 0) = 1 from pp_10)
  · unfold pp_lf
    rw [if_neg (by decide), if_neg (by decide), if_neg (by decide), if_neg (by decide), if_neg (by decide), if_pos rfl]
    have := hA.2.1 w.toNatClampNeg
    rcases Nat.lt_or_ge 0 (pv_pr A w.toNatClampNeg) with h4 | h4
    · right; rw [show pv_pr A w.toNatClampNeg = 1 by omega]; rfl
    · left; rw [show pv_pr A w.toNatClampNeg = 0 by omega]; rfl
def pp_EV (A : PV) (les : Int32) (sg : Nat → Nat) (vl : Nat → Int32) (s p : Nat) (g : Nat → Int32) : Prop := ∀ q, s ≤ q → q < p → pp_ev A les sg vl g q ∧ (pp_bt (sg q) → g q = 0 ∨ g q = 1)
theorem pp_evU {A : PV} {les : Int32} {sg : Nat → Nat} {vl g : Nat → Int32} {q p : Nat} {v : Int32} (h : pp_ev A les sg vl g q) (hq : q < p) : pp_ev A les sg vl (upd g p v) q := by
  refine ⟨fun h0 => ?_, fun a S h1 h2 => ?_, fun a b S h1 h2 => ?_⟩
  · rw [pp_u2 (by omega)]; exact h.1 h0
  · have ha := pp_stB sg q a (by rw [h2]; exact List.mem_cons_self)
    rw [pp_u2 (by omega), pp_u2 (by omega)]; exact h.2.1 a S h1 h2
  · have ha := pp_stB sg q a (by rw [h2]; exact List.mem_cons_of_mem _ List.mem_cons_self)
    have hb := pp_stB sg q b (by rw [h2]; exact List.mem_cons_self)
    rw [pp_u2 (by omega), pp_u2 (by omega), pp_u2 (by omega)]; exact h.2.2 a b S h1 h2
theorem pp_EVs {A : PV} {les : Int32} {sg : Nat → Nat} {vl g : Nat → Int32} {s p : Nat} {v : Int32} (h : pp_EV A les sg vl s p g) (hv : pp_ev A les sg vl (upd g p v) p) (hb : pp_bt (sg p) → v = 0 ∨ v = 1) : pp_EV A les sg vl s (p + 1) (upd g p v) := by
  intro q hq hqp
  rcases Nat.lt_or_ge q p with h1 | h1
  · obtain ⟨e1, e2⟩ := h q hq h1
    exact ⟨pp_evU e1 h1, fun hb => by rw [pp_u2 (by omega)]; exact e2 hb⟩
  · have e : q = p := by omega
    subst e
    exact ⟨hv, fun h => by rw [pp_u1]; exact hb h⟩
