/-! the class scans a whole text -/
def zit (I : List ZI) : List ZI := I.filter (fun u => !zbl u)
theorem zitA (I J : List ZI) : zit (I ++ J) = zit I ++ zit J := List.filter_append ..
theorem zit_t {u : ZI} {I : List ZI} (h : zbl u = false) : zit (u :: I) = u :: zit I := by
  unfold zit
  rw [List.filter_cons_of_pos (by rw [h]; rfl)]
theorem zit_b {u : ZI} {I : List ZI} (h : zbl u = true) : zit (u :: I) = zit I := by
  unfold zit
  rw [List.filter_cons_of_neg (by rw [h]; decide)]
theorem zsp_t {u : ZI} {I : List ZI} (h : zsp (u :: I)) : zsp I := by
  cases I with
  | nil => trivial
  | cons w I => exact h.2.2
section ZSO
variable {t : Nat → Nat} {T p : Nat} {D : List ZI} {x : CS} {u : ZI}
theorem zbkF {q : Nat} (h1 : t q ≠ 32) (h2 : t q ≠ 10) : pp_bk t T q = false := by
  unfold pp_bk
  rw [decide_eq_false_iff_not]
  exact fun q2 => q2.2.elim h1 h2
theorem zskip : ∀ (I : List ZI) (q : Nat), zby t q (zibs I) → q + (zibs I).length = T → zsp I → ∃ k J, pp_skp t T q = q + k ∧ zby t (q + k) (zibs J) ∧ q + k + (zibs J).length = T ∧ (J = [] ∨ ∃ w J', J = w :: J' ∧ zbl w = false) ∧ zit I = zit J ∧ J.length ≤ I.length ∧ zsp J := by
  intro I
  induction I with
  | nil =>
    intro q hz hT _
    have e : q = T := hT
    refine ⟨0, [], ?_, hz, hT, Or.inl rfl, rfl, Nat.le_refl _, trivial⟩
    unfold pp_skp
    rw [e, Nat.sub_self]
    rfl
  | cons w I ih =>
    intro q hz hT hsp
    have hw := hsp.1
    obtain ⟨i1, i2, i3, i4⟩ := zib0 hw
    have hz' : zby t q (zib w ++ zibs I) := hz
    have hT' : q + ((zib w).length + (zibs I).length) = T := by rw [← List.length_append]; exact hT
    cases hb : zbl w with
    | false =>
      refine ⟨0, w :: I, ?_, hz, hT, Or.inr ⟨w, I, rfl, hb⟩, rfl, Nat.le_refl _, hsp⟩
      have h0 : t q = (zib w).getD 0 0 := hz'.l 0 i1
      obtain ⟨j1, j2⟩ := i4 hb
      rw [← h0] at j1 j2
      unfold pp_skp
      obtain ⟨d, hd⟩ : ∃ d, T - q = d + 1 := ⟨T - q - 1, by omega⟩
      rw [hd, pp_scnS, if_neg (by rw [zbkF j1 j2]; decide)]
      rfl
    | true =>
      have hbyte : (zib w).length = 1 ∧ (t q = 32 ∨ t q = 10) := by
        unfold zbl at hb
        rw [decide_eq_true_eq] at hb
        obtain ⟨s, a⟩ := w
        rcases hb with hb | hb
        · change s = 50 at hb
          subst hb
          exact ⟨rfl, Or.inl (hz'.l 0 Nat.one_pos)⟩
        · change s = 51 at hb
          subst hb
          exact ⟨rfl, Or.inr (hz'.l 0 Nat.one_pos)⟩
      have hr := hz'.r
      rw [hbyte.1] at hr hT'
      obtain ⟨k, J, k1, k2, k3, k4, k5, k6, k7⟩ := ih (q + 1) hr (by omega) (zsp_t hsp)
      refine ⟨k + 1, J, ?_, by rw [show q + (k + 1) = q + 1 + k by omega]; exact k2, by omega, k4, by rw [zit_b hb]; exact k5, by rw [List.length_cons]; omega, k7⟩
      unfold pp_skp at k1 ⊢
      rw [show T - q = T - (q + 1) + 1 by omega, pp_scnS, if_pos (by unfold pp_bk; rw [decide_eq_true_eq]; exact ⟨by omega, hbyte.2⟩), k1]
      omega
theorem zts.a {a : Nat} (hD : zts t T D x) (hn : u.1 = 41 → a + 2 ≤ T ∧ t a = 119 ∧ t (a + 1) = 48 + u.2 ∧ (zib u).length = 2) : zts t T (D ++ [u]) (pp_tk x D.length u.1 (nI a) (nI (zib u).length) (zvD D u)) := by
  obtain ⟨k1, k2, k3, k4, k5, k6, k7⟩ := pp_tk1 (x := x) (k := D.length) (s := u.1) (p := nI a) (z := nI (zib u).length) (v := zvD D u)
  refine ⟨?_, fun i hi => ?_⟩
  · rw [k2, pp_u1, List.length_append]; rfl
  · rw [List.length_append] at hi
    have hi' : i < D.length + 1 := hi
    rw [k3, k4, k5, k6]
    by_cases e : i = D.length
    · have eg : (D ++ [u]).getD i (0, 0) = u := by rw [zgd_r (by omega), e, Nat.sub_self]; rfl
      have et : (D ++ [u]).take i = D := by rw [e, List.take_left]
      rw [eg, et, e, yup1, pp_u1, pp_u1, pp_u1]
      refine ⟨rfl, rfl, fun q => ?_⟩
      obtain ⟨h1, h2, h3, h4⟩ := hn q
      exact ⟨by rw [h4], a, rfl, h1, h2, h3⟩
    · have hlt : i < D.length := by omega
      have et : (D ++ [u]).take i = D.take i := List.take_append_of_le_length (by omega)
      rw [zgd_l hlt, et, yup2 e, pp_u2 e, pp_u2 e, pp_u2 e]
      exact hD.2 i hlt
/-- the tokens without their number -/
def zTk (D : List ZI) (x : CS) : Prop := ∀ i, i < D.length → x.2 4 i = (D.getD i (0, 0)).1 ∧ x.1 7 i = zvD (D.take i) (D.getD i (0, 0))
theorem zend (hp : p = T) (hC : pp_CT x t T) (hD : zts t T D x) (hk : D.length < 400) (fu : Nat) : ∃ x', f_X8_readTape_16 (fu + 1) (nI p) (nI D.length) x = some x' ∧ zTk D x' ∧ x'.2 4 D.length = 44 ∧ pp_Fx x x' := by
  obtain ⟨k1, k2, k3, k4, k5, k6, k7⟩ := pp_tk1 (x := x) (k := D.length) (s := 44) (p := nI p) (z := 0) (v := 0)
  have h2000 := hC.2.1
  have er : f_X8_readToken (nI p) x = some (pp_tk x D.length 44 (nI p) 0 0) := by
    unfold f_X8_readToken
    rw [hC.1, if_neg (nI_nlt (by omega) (by omega)), pp_add hD.1 (by omega) (by omega)]
    rfl
  refine ⟨pp_tk x D.length 44 (nI p) 0 0, ?_, fun i hi => ?_, ?_, pp_tkF⟩
  · rw [f_X8_readTape_16, if_neg (show ¬ (400 : Int32) < nI D.length from nI_nlt (a := 400) (by omega) (by omega)), er, pp_b, pp_sgn (by omega), pp_b, k6, yup1, if_pos rfl]
  · have e : i ≠ D.length := by omega
    rw [k5, k6, yup2 e, pp_u2 e]
    exact ⟨(hD.2 i hi).1, (hD.2 i hi).2.1⟩
  · rw [k6, yup1]
theorem zscan : ∀ n I p D x fu, I.length ≤ n → (I = [] ∨ ∃ w J, I = w :: J ∧ zbl w = false) → zby t p (zibs I) → p + (zibs I).length = T → zsp I → pp_CT x t T → zts t T D x → D.length + (zit I).length < 400 → n < fu → ∃ x', f_X8_readTape_16 fu (nI p) (nI D.length) x = some x' ∧ zTk (D ++ zit I) x' ∧ x'.2 4 (D ++ zit I).length = 44 ∧ pp_Fx x x' := by
  intro n
  induction n with
  | zero =>
    intro I p D x fu hn hh hz hT hsp hC hD hk hfu
    have e : I = [] := List.eq_nil_of_length_eq_zero (by omega)
    subst e
    obtain ⟨f1, rfl⟩ : ∃ f, fu = f + 1 := ⟨fu - 1, by omega⟩
    show ∃ x', _ ∧ zTk (D ++ []) x' ∧ x'.2 4 (D ++ []).length = 44 ∧ _
    rw [List.append_nil]
    exact zend hT hC hD hk f1
  | succ n ih =>
    intro I p D x fu hn hh hz hT hsp hC hD hk hfu
    obtain ⟨f1, rfl⟩ : ∃ f, fu = f + 1 := ⟨fu - 1, by omega⟩
    rcases hh with rfl | ⟨u, J, rfl, hb⟩
    · show ∃ x', _ ∧ zTk (D ++ []) x' ∧ x'.2 4 (D ++ []).length = 44 ∧ _
      rw [List.append_nil]
      exact zend hT hC hD hk f1
    · have h2000 := hC.2.1
      have hz' : zby t p (zib u ++ zibs J) := hz
      have hT' : p + ((zib u).length + (zibs J).length) = T := by rw [← List.length_append]; exact hT
      have hu := hsp.1
      rw [zit_t hb] at hk ⊢
      rw [List.length_cons] at hk
      have hnext : (zan u → pp_ld t T (p + (zib u).length) = false) ∧ (u.1 = 36 ∨ u.1 = 37 → ¬ (p + 1 < T ∧ t (p + 1) = 61)) := by
        have l1 : u.1 = 36 ∨ u.1 = 37 → (zib u).length = 1 := fun q => by
          obtain ⟨s, a⟩ := u
          rcases q with q | q
          · change s = 36 at q
            subst q
            show (pp_tx 36).length = 1
            decide +kernel
          · change s = 37 at q
            subst q
            show (pp_tx 37).length = 1
            decide +kernel
        cases J with
        | nil =>
          have e0 : p + (zib u).length = T := hT'
          exact ⟨fun _ => pp_ldT _ (by omega), fun q q2 => by have := l1 q; omega⟩
        | cons w J =>
          have hadj : zadj u w := hsp.2.1
          have hw : zwi w := hsp.2.2.1
          obtain ⟨i1, i2, i3, i4⟩ := zib0 hw
          have hz2 : zby t (p + (zib u).length) (zib w ++ zibs J) := hz'.r
          have h0 := hz2.l 0 i1
          rw [show p + (zib u).length + 0 = p + (zib u).length from rfl] at h0
          refine ⟨fun q => ?_, fun q q2 => ?_⟩
          · have := i2 (hadj.1 q)
            rw [← h0] at this
            unfold pp_ld pp_lt pp_dg
            rw [decide_eq_false (fun q3 => this.1 q3.2), decide_eq_false (fun q3 => this.2 q3.2)]
            rfl
          · have h1 := l1 q
            have h2 := i3 (hadj.2 q)
            rw [← h0, h1] at h2
            exact h2 q2.2
      have hpB : (zib u).length ≤ (zib u).length + (zibs J).length := Nat.le_add_right _ _
      obtain ⟨r1, r2, r3⟩ := ztok hC hu hb hz'.l (by omega) hnext.1 hnext.2 hD (by omega)
      obtain ⟨k1, k2, k3, k4, k5, k6, k7⟩ := pp_tk1 (x := x) (k := D.length) (s := u.1) (p := nI p) (z := nI (zib u).length) (v := zvD D u)
      have hD1 := zts.a (u := u) (a := p) hD (fun q => by
        obtain ⟨s, a⟩ := u
        change s = 41 at q
        subst q
        have ha : a < 8 := by
          rcases hu with h | ⟨-, h⟩ | ⟨h, -⟩ | h | h
          · change 41 ≤ 40 at h; omega
          · exact h
          · change 41 = 42 at h; omega
          · change 41 = 50 at h; omega
          · change 41 = 51 at h; omega
        have e : zib (41, a) = [119, 48 + a] := by
          show 119 :: zdg a = _
          rw [zdg1 ha]
        rw [e] at hz' hT' ⊢
        have hT2 : p + (2 + (zibs J).length) = T := hT'
        exact ⟨by omega, hz'.l 0 (by show 0 < 2; omega), hz'.l 1 (by show 1 < 2; omega), rfl⟩)
      have hC1 := hC.x (x1 := pp_tk x D.length u.1 (nI p) (nI (zib u).length) (zvD D u)) pp_tkF
      obtain ⟨k, J', s1, s2, s3, s4, s5, s6, s7⟩ := zskip (T := T) J (p + (zib u).length) hz'.r (by omega) (zsp_t hsp)
      rw [List.length_cons] at hn
      have el : (D ++ [u]).length = D.length + 1 := by rw [List.length_append]; rfl
      obtain ⟨x', i1, i2, i3, i4⟩ := ih J' (p + (zib u).length + k) (D ++ [u]) _ f1 (by omega) s4 s2 s3 s7 hC1 hD1 (by rw [el, ← s5]; omega) (by omega)
      have ea : D ++ [u] ++ zit J' = D ++ u :: zit J := by rw [List.append_assoc, s5]; rfl
      rw [ea] at i2 i3
      refine ⟨x', ?_, i2, i3, pp_tkF.tr i4⟩
      rw [f_X8_readTape_16, if_neg (show ¬ (400 : Int32) < nI D.length from nI_nlt (a := 400) (by omega) (by omega)), r1, pp_b, pp_sgn (by omega), pp_b, k6, yup1, if_neg (by omega), pp_b, if_neg (by omega), pp_siz (by omega), pp_b, k4, pp_u1, nI_add, pp_skC1 hC1 (by omega), pp_b, s1, nI_1]
      rw [el] at i1
      exact i1
theorem zfi_take : ∀ (D : List ZI) (i j : Nat), i < D.length → D.getD i (0, 0) = (41, j) → zfi (D.take i) j = zfi D j := by
  intro D
  induction D with
  | nil => intro i j hi; cases hi
  | cons u D ih =>
    intro i j hi h
    cases i with
    | zero =>
      have e : u = (41, j) := h
      show 0 = if u = (41, j) then 0 else _
      rw [if_pos e]
    | succ i =>
      rw [List.length_cons] at hi
      show (if u = (41, j) then 0 else zfi (D.take i) j + 1) = if u = (41, j) then 0 else zfi D j + 1
      by_cases e : u = (41, j)
      · rw [if_pos e, if_pos e]
      · rw [if_neg e, if_neg e, ih i j (by omega) h]
theorem zfi_get : ∀ (D : List ZI) (j : Nat), (41, j) ∈ D → zfi D j < D.length ∧ D.getD (zfi D j) (0, 0) = (41, j) := by
  intro D
  induction D with
  | nil => intro j h; cases h
  | cons u D ih =>
    intro j h
    have e0 : zfi (u :: D) j = if u = (41, j) then 0 else zfi D j + 1 := rfl
    by_cases e : u = (41, j)
    · rw [e0, if_pos e]
      exact ⟨by rw [List.length_cons]; omega, e⟩
    · rw [e0, if_neg e]
      rcases List.mem_cons.mp h with q | q
      · exact absurd q.symm e
      · have := ih j q
        exact ⟨by rw [List.length_cons]; omega, this.2⟩
/-- tokens as the parser takes them -/
def zvI (nm : Nat → Nat) (u : ZI) : Nat × Int32 := (u.1, if u.1 = 41 then nI (nm u.2) else if u.1 = 42 then nI u.2 else 0)
def znm (D : List ZI) (j : Nat) : Nat := if (41, j) ∈ D then zfi D j else 500 + j
theorem zTk.z (h : zTk D x) : zat (x.2 4) (x.1 7) 0 (D.map (zvI (znm D))) := by
  intro j hj
  rw [List.length_map] at hj
  obtain ⟨h1, h2⟩ := h j hj
  have eg : D.getD j (0, 0) = D[j] := by rw [List.getD_eq_getElem?_getD, List.getElem?_eq_getElem hj]; rfl
  have em : (D.map (zvI (znm D))).getD j (0, 0) = zvI (znm D) D[j] := by
    rw [List.getD_eq_getElem?_getD, List.getElem?_map, List.getElem?_eq_getElem hj]
    rfl
  rw [em, Nat.zero_add, h1, h2, eg]
  unfold zvI
  congr 1
  unfold zvD
  by_cases q : (D[j]).1 = 41
  · have hm : (41, (D[j]).2) ∈ D := by
      have e : D[j] = (41, (D[j]).2) := Prod.ext q rfl
      have hm := List.getElem_mem hj
      rw [e] at hm
      exact hm
    rw [if_pos q, if_pos q]
    unfold znm
    rw [if_pos hm, zfi_take D j _ hj (by rw [eg]; exact Prod.ext q rfl)]
  · rw [if_neg q, if_neg q]
theorem znm_ok (hD : D.length < 500) : (∀ k, k < 8 → znm D k < 1000) ∧ ∀ j k, j < 8 → k < 8 → znm D j = znm D k → j = k := by
  refine ⟨fun k hk => ?_, fun j k hj hk h => ?_⟩
  · unfold znm
    by_cases q : (41, k) ∈ D
    · rw [if_pos q]
      have := (zfi_get D k q).1
      omega
    · rw [if_neg q]; omega
  · unfold znm at h
    by_cases q1 : (41, j) ∈ D
    · rw [if_pos q1] at h
      have a1 := zfi_get D j q1
      by_cases q2 : (41, k) ∈ D
      · rw [if_pos q2] at h
        have a2 := zfi_get D k q2
        rw [h] at a1
        have := a1.2.symm.trans a2.2
        exact congrArg Prod.snd this
      · rw [if_neg q2] at h
        omega
    · rw [if_neg q1] at h
      by_cases q2 : (41, k) ∈ D
      · rw [if_pos q2] at h
        have a2 := zfi_get D k q2
        omega
      · rw [if_neg q2] at h
        omega
/-- the tape read -/
theorem ztape {I : List ZI} (hC : pp_CT x t T) (hz : zby t 0 (zibs I)) (hT : (zibs I).length = T) (hsp : zsp I) (hk : (zit I).length < 400) : ∃ x', f_X8_readTape x = some x' ∧ zat (x'.2 4) (x'.1 7) 0 ((zit I).map (zvI (znm (zit I)))) ∧ x'.2 4 (zit I).length = 44 ∧ (∀ j, j ≠ 3 → j ≠ 5 → j ≠ 6 → j ≠ 7 → x'.1 j = x.1 j) ∧ ∀ j, j ≠ 4 → x'.2 j = x.2 j := by
  have h2000 := hC.2.1
  have e1 : ∀ j, j ≠ 3 → (g_wi x 3 5 0).1 j = x.1 j := fun j hj => by simp [g_wi, hj]
  have hC1 : pp_CT (g_wi x 3 5 0) t T := ⟨by rw [e1 1 (by decide)]; exact hC.1, hC.2.1, hC.2.2.1, fun q hq => by rw [e1 2 (by decide)]; exact hC.2.2.2 q hq⟩
  have hD0 : zts t T [] (g_wi x 3 5 0) := ⟨by simp [g_wi, upd]; rfl, fun i hi => by cases hi⟩
  obtain ⟨k, J, s1, s2, s3, s4, s5, s6, s7⟩ := zskip (T := T) I 0 hz (by omega) hsp
  have hJT : J.length ≤ T := by
    have : ∀ (K : List ZI), zsp K → K.length ≤ (zibs K).length := by
      intro K
      induction K with
      | nil => intro _; exact Nat.le_refl _
      | cons u K ih =>
        intro hs
        have := ih (zsp_t hs)
        have h0 := (zib0 hs.1).1
        show K.length + 1 ≤ (zib u ++ zibs K).length
        rw [List.length_append]
        omega
    have := this J s7
    omega
  obtain ⟨x', i1, i2, i3, i4⟩ := zscan J.length J k [] (g_wi x 3 5 0) g_fuel (Nat.le_refl _) s4 (by rw [Nat.zero_add] at s2; exact s2) (by omega) s7 hC1 hD0 (by rw [← s5]; show 0 + _ < 400; omega) (by unfold g_fuel; omega)
  rw [List.nil_append, ← s5] at i2 i3
  refine ⟨x', ?_, i2.z, i3, fun j a1 a2 a3 a4 => ?_, fun j a1 => ?_⟩
  · unfold f_X8_readTape
    have e2 := pp_skC1 hC1 (p := 0) (by omega)
    rw [show (0 : Int32) = nI 0 from rfl, show g_wi x 3 5 (nI 0) = g_wi x 3 5 0 from rfl, e2, pp_b, s1, Nat.zero_add]
    exact i1
  · rw [i4.1 j a1 a2 a3 a4]; exact e1 j a1
  · rw [i4.2 j a1]; rfl
end ZSO
