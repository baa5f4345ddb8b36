/-! rules: postfix rows of the class, nodes of the reference. Which values stand on the stack ahead of place k: those of the places pp_st sg k -/
def pp_ar (s : Nat) : Nat := if s = 43 ∨ s = 21 then 1 else if (22 ≤ s ∧ s ≤ 25) ∨ (32 ≤ s ∧ s ≤ 40) then 2 else 0
def pp_st (sg : Nat → Nat) : Nat → List Nat
  | 0 => []
  | k + 1 => k :: (pp_st sg k).drop (pp_ar (sg k))
theorem pp_stB (sg : Nat → Nat) : ∀ k a, a ∈ pp_st sg k → a < k := by
  intro k
  induction k with
  | zero => intro a h; cases h
  | succ k ih =>
    intro a h
    rcases List.mem_cons.mp h with h | h
    · omega
    · have := ih a (List.mem_of_mem_drop h)
      omega
theorem pp_stE {sg sh : Nat → Nat} : ∀ k, (∀ j, j < k → sg j = sh j) → pp_st sg k = pp_st sh k := by
  intro k
  induction k with
  | zero => intro _; rfl
  | succ k ih =>
    intro h
    show k :: _ = k :: _
    rw [ih (fun j hj => h j (by omega)), h k (by omega)]
def pp_ht (sg : Nat → Nat) (k : Nat) : Nat := (pp_st sg k).length
/-- no sign from s to e takes what stood there ahead of s -/
def pp_nu (sg : Nat → Nat) (s e : Nat) : Prop := ∀ k, s ≤ k → k < e → pp_ht sg s + pp_ar (sg k) ≤ pp_ht sg k
theorem pp_sp {sg : Nat → Nat} {s e : Nat} (h : pp_nu sg s e) : ∀ d k, k = s + d → k ≤ e → ∃ T, pp_st sg k = T ++ pp_st sg s ∧ (∀ a, a ∈ T → s ≤ a ∧ a < k) ∧ T.length ≤ d := by
  intro d
  induction d with
  | zero => intro k hk _; exact ⟨[], by rw [hk]; rfl, fun a ha => (by cases ha), Nat.le_refl _⟩
  | succ d ih =>
    intro k hk hke
    obtain ⟨T, h1, h2, h3⟩ := ih (s + d) rfl (by omega)
    have e1 : k = (s + d) + 1 := by omega
    have hn := h (s + d) (by omega) (by omega)
    unfold pp_ht at hn
    rw [h1, List.length_append] at hn
    refine ⟨(s + d) :: T.drop (pp_ar (sg (s + d))), ?_, fun a ha => ?_, ?_⟩
    · rw [e1]
      show (s + d) :: (pp_st sg (s + d)).drop _ = _
      rw [h1, List.drop_append_of_le_length (by omega)]
      rfl
    · rcases List.mem_cons.mp ha with ha | ha
      · omega
      · have := h2 a (List.mem_of_mem_drop ha)
        omega
    · simp only [List.length_cons, List.length_drop]
      omega
/-- from s to e stands one value -/
def pp_se (sg : Nat → Nat) (s e : Nat) : Prop := s < e ∧ pp_nu sg s e ∧ pp_ht sg e = pp_ht sg s + 1
theorem pp_se.st {sg : Nat → Nat} {s e : Nat} (h : pp_se sg s e) : pp_st sg e = (e - 1) :: pp_st sg s := by
  obtain ⟨h0, h1, h2⟩ := h
  obtain ⟨T, t1, t2, t3⟩ := pp_sp h1 (e - s) e (by omega) (Nat.le_refl _)
  obtain ⟨e', rfl⟩ : ∃ e', e = e' + 1 := ⟨e - 1, by omega⟩
  unfold pp_ht at h2
  rw [t1, List.length_append] at h2
  have hT : T.length = 1 := by omega
  match T, hT with
  | [a], _ =>
    have : pp_st sg (e' + 1) = e' :: (pp_st sg e').drop (pp_ar (sg e')) := rfl
    rw [t1] at this
    have ha : a = e' := (List.cons.inj this).1
    rw [t1, ha]
    rfl
theorem pp_se.leaf {sg : Nat → Nat} {s : Nat} (h : pp_ar (sg s) = 0) : pp_se sg s (s + 1) := by
  refine ⟨by omega, fun k hk hk2 => ?_, ?_⟩
  · have e : k = s := by omega
    rw [e, h]
    omega
  · unfold pp_ht
    show (s :: (pp_st sg s).drop (pp_ar (sg s))).length = _
    rw [h]
    simp
theorem pp_se.un {sg : Nat → Nat} {s e : Nat} (h : pp_se sg s e) (ha : pp_ar (sg e) = 1) : pp_se sg s (e + 1) := by
  obtain ⟨h0, h1, h2⟩ := h
  refine ⟨by omega, fun k hk hk2 => ?_, ?_⟩
  · rcases Nat.lt_or_ge k e with h3 | h3
    · exact h1 k hk h3
    · have e1 : k = e := by omega
      rw [e1, ha, h2]
      omega
  · unfold pp_ht at *
    show (e :: (pp_st sg e).drop (pp_ar (sg e))).length = _
    rw [ha]
    simp only [List.length_cons, List.length_drop]
    omega
theorem pp_se.bi {sg : Nat → Nat} {s m e : Nat} (h : pp_se sg s m) (h' : pp_se sg m e) (ha : pp_ar (sg e) = 2) : pp_se sg s (e + 1) := by
  obtain ⟨h0, h1, h2⟩ := h
  obtain ⟨k0, k1, k2⟩ := h'
  refine ⟨by omega, fun k hk hk2 => ?_, ?_⟩
  · rcases Nat.lt_or_ge k m with h3 | h3
    · exact h1 k hk h3
    · rcases Nat.lt_or_ge k e with h4 | h4
      · have := k1 k h3 h4
        omega
      · have e1 : k = e := by omega
        rw [e1, ha]
        omega
  · unfold pp_ht at *
    show (e :: (pp_st sg e).drop (pp_ar (sg e))).length = _
    rw [ha]
    simp only [List.length_cons, List.length_drop]
    omega
theorem pp_se.st2 {sg : Nat → Nat} {s m e : Nat} (h : pp_se sg s m) (h' : pp_se sg m e) : pp_st sg e = (e - 1) :: (m - 1) :: pp_st sg s := by rw [h'.st, h.st]
theorem pp_htE {sg sh : Nat → Nat} {k : Nat} (h : ∀ j, j < k → sg j = sh j) : pp_ht sg k = pp_ht sh k := by
  unfold pp_ht
  rw [pp_stE k h]
theorem pp_nu.e {sg sh : Nat → Nat} {s e : Nat} (h : pp_nu sg s e) (hh : ∀ j, j < e → sg j = sh j) : pp_nu sh s e := by
  intro k hk hk2
  have := h k hk hk2
  rw [pp_htE (fun j hj => hh j (by omega)), pp_htE (sh := sh) (k := k) (fun j hj => hh j (by omega)), hh k hk2] at this
  exact this
theorem pp_se.e {sg sh : Nat → Nat} {s e : Nat} (h : pp_se sg s e) (hh : ∀ j, j < e → sg j = sh j) : pp_se sh s e := by
  refine ⟨h.1, h.2.1.e hh, ?_⟩
  have h1 := h.2.2
  have h0 := h.1
  rw [pp_htE hh, pp_htE (sh := sh) (k := s) (fun j hj => hh j (by omega))] at h1
  exact h1
/-! what a place's value is -/
def pp_lf (A : PV) (les : Int32) (s : Nat) (v : Int32) : Int32 := if s = 14 then les else if s = 15 then nI (pp_kn (pv_pr A) (pv_W A)) else if s = 16 then nI (pv_dh A v.toNatClampNeg) else if s = 17 then nI (pv_ln A v.toNatClampNeg) else if s = 19 then (if pp_en (pv_mt A none) = v then 1 else 0) else if s = 20 then nI (pv_pr A v.toNatClampNeg) else v
def pp_un (s : Nat) (a : Int32) : Int32 := if s = 43 then -a else if a = 0 then 1 else 0
def pp_bi (s : Nat) (a b : Int32) : Int32 := if s = 22 then a &&& b else if s = 23 then a ||| b else if s = 24 then g_min a b else if s = 25 then g_max a b else if s = 32 then a + b else if s = 33 then a - b else if s = 34 then a * b else if s = 35 then (if b = 0 then 0 else a / b) else if s = 36 then (if b ≤ a then 0 else 1) else if s = 37 then (if a ≤ b then 0 else 1) else if s = 38 then (if a = b then 1 else 0) else if s = 39 then (if b < a then 0 else 1) else (if a < b then 0 else 1)
def pp_lk (W s : Nat) (v : Int32) : Prop := s = 14 ∨ s = 15 ∨ s = 42 ∨ ((s = 16 ∨ s = 17 ∨ s = 19 ∨ s = 20) ∧ ∃ w, w < W ∧ v = nI w)
def pp_ev (A : PV) (les : Int32) (sg : Nat → Nat) (vl V : Nat → Int32) (p : Nat) : Prop := (pp_ar (sg p) = 0 → V p = pp_lf A les (sg p) (vl p)) ∧ (∀ a S, pp_ar (sg p) = 1 → pp_st sg p = a :: S → V p = pp_un (sg p) (V a)) ∧ (∀ a b S, pp_ar (sg p) = 2 → pp_st sg p = b :: a :: S → V p = pp_bi (sg p) (V a) (V b))
theorem pp_sm : ∀ s, s < 46 → g_ok (nI s) 46 = true ∧ (nI s).toNatClampNeg = s := by decide +kernel
theorem pp_isj (x : CS) : ∀ s, s < 46 → f_X1_isJoin s x = some (if pp_ar s = 2 then 1 else 0) := by
  have h : ∀ s, s < 46 → f_X1_isJoin s g_x0 = some (if pp_ar s = 2 then 1 else 0) := by decide +kernel
  exact h
theorem pp_ar2 {s : Nat} (h : pp_ar s = 2) : s = 22 ∨ s = 23 ∨ s = 24 ∨ s = 25 ∨ s = 32 ∨ s = 33 ∨ s = 34 ∨ s = 35 ∨ s = 36 ∨ s = 37 ∨ s = 38 ∨ s = 39 ∨ s = 40 := by
  unfold pp_ar at h
  split at h
  · omega
  · split at h <;> omega
theorem pp_ar1 {s : Nat} (h : pp_ar s = 1) : s = 43 ∨ s = 21 := by
  unfold pp_ar at h
  split at h
  · omega
  · split at h <;> omega
theorem pp_join {s : Nat} {a b : Int32} {x : CS} (h : pp_ar s = 2) : f_X1_join s a b x = some (pp_bi s a b) := by
  have h46 : s < 46 := by have := pp_ar2 h; omega
  obtain ⟨h1, h2⟩ := pp_sm s h46
  unfold f_X1_join f_X1_compares
  rw [if_pos h46, if_pos h1, h2]
  rcases pp_ar2 h with rfl | rfl | rfl | rfl | rfl | rfl | rfl | rfl | rfl | rfl | rfl | rfl | rfl
  all_goals simp [g_sm, pp_bi, f_X12_quotient]
  all_goals (repeat' split)
  all_goals simp_all
theorem pp_found {A : PV} {x : CS} {v s : Nat} {w : Int32} (hA : pv_ok A) (h : pp_VC A x v) (hl : pp_lk (pv_W A) s w) : f_X1_found v s w x = some (pp_lf A (x.1 v 3) s w) := by
  have hW := hA.1
  have h46 : s < 46 := by unfold pp_lk at hl; omega
  obtain ⟨h1, h2⟩ := pp_sm s h46
  unfold f_X1_found pp_lf
  rw [if_pos h46, if_pos h1, h2]
  rcases hl with rfl | rfl | rfl | ⟨h3, j, hj, rfl⟩
  · rfl
  · rw [if_neg (by decide), if_pos (by decide), pp_keptC hA h]; rfl
  · rfl
  · have hw := pp_word (v := v) (x := x) (show j < 8 by omega)
    obtain ⟨a1, a2, a3⟩ := h.2.2.1 j hj
    have hk := pp_k10 (j := j) h.1 (by omega)
    have hc : (nI j).toNatClampNeg = j := nI_clamp (by omega)
    rcases h3 with rfl | rfl | rfl | rfl
    · rw [if_neg (by decide), if_neg (by decide), if_pos (by decide), hw, pp_b, if_pos hk, a2, hc]; rfl
    · rw [if_neg (by decide), if_neg (by decide), if_neg (by decide), if_pos (by decide), hw, pp_b, if_pos hk, a3.1, hc]; rfl
    · rw [if_neg (by decide), if_neg (by decide), if_neg (by decide), if_neg (by decide), if_pos (by decide), pp_meantC hA h, pp_b]
      show (if _ then _ else _) = some (if _ then _ else _)
      split <;> rfl
    · rw [if_neg (by decide), if_neg (by decide), if_neg (by decide), if_neg (by decide), if_neg (by decide), if_pos (by decide), hw, pp_b, if_pos hk, a1, hc]
      have := hA.2.1 j
      show _ = some (nI (pv_pr A j))
      rcases Nat.lt_or_ge 0 (pv_pr A j) with h4 | h4
      · rw [show pv_pr A j = 1 by omega]; rfl
      · rw [show pv_pr A j = 0 by omega]; rfl
/-! the class's stack -/
def pp_ks (x : CS) (t : Nat) (f : Nat → Int32) : CS := g_wa (g_wi x 18 3 (nI t)) 19 f
theorem pp_ksS (x : CS) (t : Nat) (f : Nat → Int32) : pp_Sc x (pp_ks x t f) := by
  unfold pp_ks
  rw [pp_c1]
  exact ((pp_Sc.rf x).wa (by omega) (by omega) (by omega) (by omega)).wa (by omega) (by omega) (by omega) (by omega)
theorem pp_ks1 {x : CS} {t u : Nat} {f : Nat → Int32} : g_wi (pp_ks x t f) 18 3 (nI u) = pp_ks x u f := by
  unfold pp_ks g_wa g_wi
  refine Prod.ext ?_ rfl
  funext j k
  by_cases h : j = 18
  · subst h
    by_cases hk : k = 3 <;> simp [upd, hk]
  · by_cases h2 : j = 19 <;> simp [h, h2]
theorem pp_ks2 {x : CS} {t : Nat} {f g : Nat → Int32} : g_wa (pp_ks x t f) 19 g = pp_ks x t g := pp_c2
theorem pp_ks3 {x : CS} {t : Nat} {f : Nat → Int32} : (pp_ks x t f).1 18 3 = nI t := by
  unfold pp_ks
  rw [pp_c4 (by omega), pp_c1, pp_c3, pp_u1]
theorem pp_ks4 {x : CS} {t : Nat} {f : Nat → Int32} : (pp_ks x t f).1 19 = f := pp_c3
theorem pp_pop {x : CS} {t : Nat} {f : Nat → Int32} (ht : t < 400) : f_X1_pop (pp_ks x (t + 1) f) = some (f t, pp_ks x t f) := by
  unfold f_X1_pop
  rw [pp_ks3, pp_lit 1, if_neg (nI_nlt (by omega) (by omega)), pp_lit 400, if_pos (nI_le (by omega) (by omega)), show nI (t + 1) - nI 1 = nI t from nI_pred t, pp_ks1, pp_ks3, if_pos ((pp_ok (by omega)).mpr ht), nI_clamp (by omega), pp_ks4]
theorem pp_push {x : CS} {t : Nat} {f : Nat → Int32} {v : Int32} (ht : t < 400) : f_X1_push v (pp_ks x t f) = some (pp_ks x (t + 1) (upd f t v)) := by
  unfold f_X1_push
  rw [pp_ks3, if_neg (nI_pos (by omega)), pp_lit 400, if_neg (nI_ge ht (by omega)), if_pos ((pp_ok (by omega)).mpr ht), nI_clamp (by omega), show g_wi (pp_ks x t f) 19 t v = pp_ks x t (upd f t v) from by rw [pp_c1, pp_ks4, pp_ks2], pp_ks3, nI_1, pp_ks1]
def pp_sk (f V : Nat → Int32) : List Nat → Prop
  | [] => True
  | a :: T => f T.length = V a ∧ pp_sk f V T
theorem pp_skU {f V : Nat → Int32} {i : Nat} {v : Int32} : ∀ T : List Nat, T.length ≤ i → pp_sk f V T → pp_sk (upd f i v) V T := by
  intro T
  induction T with
  | nil => intro _ _; trivial
  | cons a T ih =>
    intro hi h
    simp only [List.length_cons] at hi
    exact ⟨by rw [pp_u2 (by omega)]; exact h.1, ih (by omega) h.2⟩
theorem pp_signC {b k : Nat} {x : CS} (hk : k < 400) : f_X5_sign b (nI k) x = some (x.2 (b + 3) k) := by
  unfold f_X5_sign
  rw [if_neg (nI_pos (by omega)), pp_lit 400, if_neg (nI_ge hk (by omega)), if_pos ((pp_ok (by omega)).mpr hk), nI_clamp (by omega)]
theorem pp_valC {b k : Nat} {x : CS} (hk : k < 400) : f_X5_value b (nI k) x = some (x.1 (b + 4) k) := by
  unfold f_X5_value
  rw [if_neg (nI_pos (by omega)), pp_lit 400, if_neg (nI_ge hk (by omega)), if_pos ((pp_ok (by omega)).mpr hk), nI_clamp (by omega)]

