/-! a text as items: signs, names, numbers, blanks; the class scans it -/
abbrev ZI : Type := Nat × Nat
/-- the digits of a number -/
def zdf : Nat → Nat → List Nat
  | 0, _ => []
  | f + 1, n => if n < 10 then [48 + n] else zdf f (n / 10) ++ [48 + n % 10]
theorem zdfS (f n : Nat) : zdf (f + 1) n = if n < 10 then [48 + n] else zdf f (n / 10) ++ [48 + n % 10] := rfl
def zdg (n : Nat) : List Nat := zdf 7 n
theorem zdf_len : ∀ f n, (zdf f n).length ≤ f := by
  intro f
  induction f with
  | zero => intro n; exact Nat.le_refl _
  | succ f ih =>
    intro n
    rw [zdfS]
    split
    · show 1 ≤ f + 1; omega
    · rw [List.length_append]
      have := ih (n / 10)
      show _ + 1 ≤ f + 1
      omega
theorem zdf_len2 : ∀ k f n, n < 10 ^ (k + 1) → k < f → (zdf f n).length ≤ k + 1 ∧ 0 < (zdf f n).length := by
  intro k
  induction k with
  | zero =>
    intro f n hn hf
    obtain ⟨g, rfl⟩ : ∃ g, f = g + 1 := ⟨f - 1, by omega⟩
    rw [zdfS, if_pos (by omega)]
    exact ⟨Nat.le_refl _, Nat.one_pos⟩
  | succ k ih =>
    intro f n hn hf
    obtain ⟨g, rfl⟩ : ∃ g, f = g + 1 := ⟨f - 1, by omega⟩
    rw [zdfS]
    by_cases h : n < 10
    · rw [if_pos h]
      exact ⟨by show 1 ≤ _; omega, Nat.one_pos⟩
    · rw [if_neg h, List.length_append]
      have e : 10 ^ (k + 1 + 1) = 10 ^ (k + 1) * 10 := Nat.pow_succ 10 (k + 1)
      have := ih g (n / 10) (by omega) (by omega)
      show _ + 1 ≤ _ ∧ 0 < _ + 1
      omega
theorem zdg_len {n : Nat} (hn : n < 1000000) : (zdg n).length ≤ 6 ∧ 0 < (zdg n).length := zdf_len2 5 7 n (by omega) (by omega)
theorem zdf_dg : ∀ f n c, c ∈ zdf f n → 48 ≤ c ∧ c ≤ 57 := by
  intro f
  induction f with
  | zero => intro n c hc; cases hc
  | succ f ih =>
    intro n c hc
    rw [zdfS] at hc
    by_cases h : n < 10
    · rw [if_pos h] at hc
      rw [List.mem_singleton.mp hc]
      omega
    · rw [if_neg h] at hc
      rcases List.mem_append.mp hc with q | q
      · exact ih _ c q
      · rw [List.mem_singleton.mp q]
        omega
/-- bytes from p on -/
def zby (t : Nat → Nat) (p : Nat) (L : List Nat) : Prop := ∀ j, j < L.length → t (p + j) = L.getD j 0
theorem zby.l {t : Nat → Nat} {p : Nat} {L M : List Nat} (h : zby t p (L ++ M)) : zby t p L := fun j hj => by
  have h1 := h j (by rw [List.length_append]; omega)
  rw [zgd_l hj] at h1
  exact h1
theorem zby.r {t : Nat → Nat} {p : Nat} {L M : List Nat} (h : zby t p (L ++ M)) : zby t (p + L.length) M := fun j hj => by
  have h1 := h (L.length + j) (by rw [List.length_append]; omega)
  rw [zgd_r (by omega), show L.length + j - L.length = j by omega, show p + (L.length + j) = p + L.length + j by omega] at h1
  exact h1
theorem zby.m {t : Nat → Nat} {p : Nat} {L : List Nat} (h : zby t p L) {j : Nat} (hj : j < L.length) : t (p + j) ∈ L := by
  rw [h j hj, List.getD_eq_getElem?_getD, List.getElem?_eq_getElem hj]
  exact List.getElem_mem _
theorem zby.v {t : Nat → Nat} {p : Nat} : ∀ f n, n < 10 ^ f → n < 2000000 → zby t p (zdf f n) → pp_nv t p (zdf f n).length = nI n := by
  intro f
  induction f with
  | zero =>
    intro n hn _ _
    have : n = 0 := by omega
    subst this
    rfl
  | succ f ih =>
    intro n hn hn2 hz
    rw [zdfS] at hz ⊢
    by_cases h : n < 10
    · rw [if_pos h] at hz ⊢
      show pp_nv t p (0 + 1) = _
      have h0 := hz 0 Nat.one_pos
      rw [pp_nvS, h0]
      show ((0 : Int32) * 10 + nI (48 + n)) - 48 = nI n
      rw [Int32.zero_mul, Int32.zero_add, show (48 : Int32) = nI 48 from rfl, pk_sub (by omega), show 48 + n - 48 = n by omega]
    · rw [if_neg h] at hz ⊢
      have e : 10 ^ (f + 1) = 10 ^ f * 10 := Nat.pow_succ 10 f
      have i := ih (n / 10) (by omega) (by omega) hz.l
      have hr := hz.r 0 Nat.one_pos
      rw [List.length_append]
      show pp_nv t p ((zdf f (n / 10)).length + 1) = _
      rw [pp_nvS, i, show p + (zdf f (n / 10)).length = p + (zdf f (n / 10)).length + 0 by omega, hr]
      show (nI (n / 10) * 10 + nI (48 + n % 10)) - 48 = nI n
      rw [show (10 : Int32) = nI 10 from rfl, pk_mul, nI_add, show (48 : Int32) = nI 48 from rfl, pk_sub (by omega)]
      congr 1
      omega
/-- bytes of an item: 41 a name, 42 a number, 50 a blank, 51 a line's end -/
def zib (u : ZI) : List Nat := if u.1 < 41 then pp_tx u.1 else if u.1 = 41 then 119 :: zdg u.2 else if u.1 = 42 then zdg u.2 else if u.1 = 50 then [32] else [10]
def zibs : List ZI → List Nat
  | [] => []
  | u :: I => zib u ++ zibs I
theorem zibsA (I J : List ZI) : zibs (I ++ J) = zibs I ++ zibs J := by
  induction I with
  | nil => rfl
  | cons u I ih => show zib u ++ zibs (I ++ J) = zib u ++ zibs I ++ zibs J; rw [ih, List.append_assoc]
def zbl (u : ZI) : Bool := decide (u.1 = 50 ∨ u.1 = 51)
def zwi (u : ZI) : Prop := u.1 ≤ 40 ∨ (u.1 = 41 ∧ u.2 < 8) ∨ (u.1 = 42 ∧ u.2 < 1000000) ∨ u.1 = 50 ∨ u.1 = 51
def zan (u : ZI) : Prop := u.1 ≤ 25 ∨ u.1 = 41 ∨ u.1 = 42
/-- two items may stand side by side -/
def zadj (u w : ZI) : Prop := (zan u → ¬ zan w) ∧ (u.1 = 36 ∨ u.1 = 37 → w.1 ≠ 38)
def zsp : List ZI → Prop
  | [] => True
  | u :: I => zwi u ∧ (match I with
    | [] => True
    | w :: _ => zadj u w) ∧ zsp I
/-- the first token of its name -/
def zfi : List ZI → Nat → Nat
  | [], _ => 0
  | u :: I, j => if u = (41, j) then 0 else zfi I j + 1
def zvD (D : List ZI) (u : ZI) : Int32 := if u.1 = 41 then nI (zfi D u.2) else if u.1 = 42 then nI u.2 else 0
theorem zdg1 {j : Nat} (h : j < 8) : zdg j = [48 + j] := by
  unfold zdg
  rw [zdfS, if_pos (by omega)]
theorem ztx_a : ∀ s, s < 41 → 26 ≤ s → 0 < (pp_tx s).length ∧ (pp_tx s).length ≤ 2 ∧ ¬ (97 ≤ (pp_tx s).getD 0 0 ∧ (pp_tx s).getD 0 0 ≤ 122) ∧ ¬ (48 ≤ (pp_tx s).getD 0 0 ∧ (pp_tx s).getD 0 0 ≤ 57) := by decide +kernel
theorem ztx_b : ∀ s, s < 41 → 26 ≤ s → (pp_tx s).getD 0 0 ≠ 32 ∧ (pp_tx s).getD 0 0 ≠ 10 ∧ (s ≠ 38 → (pp_tx s).getD 0 0 ≠ 61) := by decide +kernel
theorem ztx_c : ∀ s, s < 41 → 26 ≤ s → s ≠ 39 → s ≠ 40 → pp_L2 ((pp_tx s).getD 0 0) false 46 = s := by decide +kernel
theorem ztx_d : ∀ s, s < 41 → 26 ≤ s → s ≠ 36 → s ≠ 37 → pp_L2 ((pp_tx s).getD 0 0) true 46 = s := by decide +kernel
theorem ztx_e : (pp_tx 39).length = 2 ∧ (pp_tx 39).getD 1 0 = 61 ∧ (pp_tx 40).length = 2 ∧ (pp_tx 40).getD 1 0 = 61 := by decide +kernel
theorem ztx_s (s : Nat) (h1 : s < 41) (h2 : 26 ≤ s) : 0 < (pp_tx s).length ∧ (pp_tx s).length ≤ 2 ∧ ¬ (97 ≤ (pp_tx s).getD 0 0 ∧ (pp_tx s).getD 0 0 ≤ 122) ∧ ¬ (48 ≤ (pp_tx s).getD 0 0 ∧ (pp_tx s).getD 0 0 ≤ 57) ∧ (pp_tx s).getD 0 0 ≠ 32 ∧ (pp_tx s).getD 0 0 ≠ 10 ∧ (s ≠ 38 → (pp_tx s).getD 0 0 ≠ 61) ∧ (s ≠ 39 ∧ s ≠ 40 → pp_L2 ((pp_tx s).getD 0 0) false 46 = s) ∧ (s ≠ 36 ∧ s ≠ 37 → pp_L2 ((pp_tx s).getD 0 0) true 46 = s) ∧ (s = 39 ∨ s = 40 → (pp_tx s).length = 2 ∧ (pp_tx s).getD 1 0 = 61) := by
  obtain ⟨a1, a2, a3, a4⟩ := ztx_a s h1 h2
  obtain ⟨b1, b2, b3⟩ := ztx_b s h1 h2
  refine ⟨a1, a2, a3, a4, b1, b2, b3, fun q => ztx_c s h1 h2 q.1 q.2, fun q => ztx_d s h1 h2 q.1 q.2, fun q => ?_⟩
  rcases q with rfl | rfl
  · exact ⟨ztx_e.1, ztx_e.2.1⟩
  · exact ⟨ztx_e.2.2.1, ztx_e.2.2.2⟩
theorem ztx_w : ∀ s, s < 26 → ∀ c, c ∈ pp_tx s → 97 ≤ c ∧ c ≤ 122 := by decide +kernel
theorem ztx_n : ∀ s, s < 26 → 0 < (pp_tx s).length := by decide +kernel
/-- what an item begins with -/
theorem zib0 {w : ZI} (h : zwi w) : 0 < (zib w).length ∧ (¬ zan w → ¬ (97 ≤ (zib w).getD 0 0 ∧ (zib w).getD 0 0 ≤ 122) ∧ ¬ (48 ≤ (zib w).getD 0 0 ∧ (zib w).getD 0 0 ≤ 57)) ∧ (w.1 ≠ 38 → (zib w).getD 0 0 ≠ 61) ∧ (zbl w = false → (zib w).getD 0 0 ≠ 32 ∧ (zib w).getD 0 0 ≠ 10) := by
  obtain ⟨s, a⟩ := w
  have dg : ∀ n, n < 1000000 → 0 < (zdg n).length ∧ 48 ≤ (zdg n).getD 0 0 ∧ (zdg n).getD 0 0 ≤ 57 := fun n hn => by
    have h1 := (zdg_len hn).2
    have h2 : (zdg n).getD 0 0 ∈ zdg n := by
      rw [List.getD_eq_getElem?_getD, List.getElem?_eq_getElem h1]
      exact List.getElem_mem _
    exact ⟨h1, zdf_dg 7 n _ h2⟩
  rcases h with h | ⟨h, h2⟩ | ⟨h, h2⟩ | h | h
  · change s ≤ 40 at h
    have e : zib (s, a) = pp_tx s := if_pos (show s < 41 by omega)
    rw [e]
    rcases Nat.lt_or_ge s 26 with q | q
    · have h1 := ztx_n s q
      have h3 : (pp_tx s).getD 0 0 ∈ pp_tx s := by
        rw [List.getD_eq_getElem?_getD, List.getElem?_eq_getElem h1]
        exact List.getElem_mem _
      have h4 := ztx_w s q _ h3
      refine ⟨h1, fun hn => absurd (Or.inl (show s ≤ 25 by omega)) hn, fun _ => by omega, fun _ => by omega⟩
    · obtain ⟨a1, a2, a3, a4, a5, a6, a7, -⟩ := ztx_s s (by omega) q
      exact ⟨a1, fun _ => ⟨a3, a4⟩, a7, fun _ => ⟨a5, a6⟩⟩
  · change s = 41 at h
    subst h
    refine ⟨Nat.succ_pos _, fun hn => absurd (Or.inr (Or.inl rfl)) hn, fun _ => ?_, fun _ => ?_⟩
    · show (119 : Nat) ≠ 61; decide
    · show (119 : Nat) ≠ 32 ∧ (119 : Nat) ≠ 10; decide
  · change s = 42 at h
    change a < 1000000 at h2
    subst h
    have h3 := dg a h2
    have e : zib (42, a) = zdg a := rfl
    rw [e]
    refine ⟨h3.1, fun hn => absurd (Or.inr (Or.inr rfl)) hn, fun _ => by omega, fun _ => by omega⟩
  · change s = 50 at h
    subst h
    refine ⟨Nat.one_pos, fun _ => ?_, fun _ => ?_, fun hb => ?_⟩
    · show ¬ (97 ≤ 32 ∧ 32 ≤ 122) ∧ ¬ (48 ≤ 32 ∧ 32 ≤ 57); decide
    · show (32 : Nat) ≠ 61; decide
    · exact absurd hb (by show ¬ decide _ = false; simp)
  · change s = 51 at h
    subst h
    refine ⟨Nat.one_pos, fun _ => ?_, fun _ => ?_, fun hb => ?_⟩
    · show ¬ (97 ≤ 10 ∧ 10 ≤ 122) ∧ ¬ (48 ≤ 10 ∧ 10 ≤ 57); decide
    · show (10 : Nat) ≠ 61; decide
    · exact absurd hb (by show ¬ decide _ = false; simp)
/-- the tokens that are recorded -/
def zts (t : Nat → Nat) (T : Nat) (D : List ZI) (x : CS) : Prop := x.1 3 5 = nI D.length ∧ ∀ i, i < D.length → x.2 4 i = (D.getD i (0, 0)).1 ∧ x.1 7 i = zvD (D.take i) (D.getD i (0, 0)) ∧ ((D.getD i (0, 0)).1 = 41 → x.1 6 i = nI 2 ∧ ∃ a, x.1 5 i = nI a ∧ a + 2 ≤ T ∧ t a = 119 ∧ t (a + 1) = 48 + (D.getD i (0, 0)).2)
section ZSN
variable {t : Nat → Nat} {T p : Nat} {D : List ZI} {x : CS} {u : ZI}
theorem zspl : ∀ (L : List Nat) (p : Nat), zby t p L → p + L.length ≤ T → pp_spl t T p L = true := by
  intro L
  induction L with
  | nil => intro p _ _; rfl
  | cons c L ih =>
    intro p hz hp
    rw [List.length_cons] at hp
    have h0 := hz 0 (by rw [List.length_cons]; omega)
    have h1 : zby t (p + 1) L := fun j hj => by
      have := hz (j + 1) (by rw [List.length_cons]; omega)
      rw [show p + 1 + j = p + (j + 1) by omega, this]
      rfl
    show (decide (p < T ∧ t p = c) && pp_spl t T (p + 1) L) = true
    rw [ih (p + 1) h1 (by omega), Bool.and_true, decide_eq_true_eq]
    exact ⟨by omega, h0⟩
theorem zscn {Q : Nat → Bool} : ∀ n d p, n ≤ d → (∀ j, j < n → Q (p + j) = true) → Q (p + n) = false → pp_scn Q d p = p + n := by
  intro n
  induction n with
  | zero =>
    intro d p _ _ h
    cases d with
    | zero => rfl
    | succ d => rw [pp_scnS, if_neg (by rw [show Q p = false from h]; decide)]; rfl
  | succ n ih =>
    intro d p hd h1 h2
    obtain ⟨e, rfl⟩ : ∃ e, d = e + 1 := ⟨d - 1, by omega⟩
    rw [pp_scnS, if_pos (show Q p = true from h1 0 (by omega)), ih e (p + 1) (by omega) (fun j hj => by rw [show p + 1 + j = p + (j + 1) by omega]; exact h1 (j + 1) (by omega)) (by rw [show p + 1 + n = p + (n + 1) by omega]; exact h2)]
    omega
theorem zfa {j : Nat} (h : pp_CT x t T) (hD : zts t T D x) (hk : D.length < 400) (h1 : t p = 119) (h2 : t (p + 1) = 48 + j) (hp : p + 2 ≤ T) : ∀ d fu k, d = D.length - k → d < fu → k ≤ D.length → f_X8_firstAlike_2 x fu (nI p) (nI 2) (nI k) = some (nI (k + zfi (D.drop k) j)) := by
  have hT := h.2.1
  intro d
  induction d with
  | zero =>
    intro fu k hd hfu hk2
    obtain ⟨f1, rfl⟩ : ∃ f, fu = f + 1 := ⟨fu - 1, by omega⟩
    have e : k = D.length := by omega
    rw [f_X8_firstAlike_2, hD.1, if_pos (nI_le (by omega) (by omega)), e, List.drop_length]
    rfl
  | succ d ih =>
    intro fu k hd hfu hk2
    obtain ⟨f1, rfl⟩ : ∃ f, fu = f + 1 := ⟨fu - 1, by omega⟩
    have hkD : k < D.length := by omega
    have i := ih f1 (k + 1) (by omega) (by omega) (by omega)
    obtain ⟨a1, a2, a3⟩ := hD.2 k hkD
    have eg : D.getD k (0, 0) = D[k] := by rw [List.getD_eq_getElem?_getD, List.getElem?_eq_getElem hkD]; rfl
    rw [eg] at a1 a3
    rw [List.drop_eq_getElem_cons hkD]
    rw [f_X8_firstAlike_2, hD.1, if_neg (nI_ge hkD (by omega)), pp_sgn (by omega), pp_b, a1, nI_1]
    have ez : zfi (D[k] :: D.drop (k + 1)) j = if D[k] = (41, j) then 0 else zfi (D.drop (k + 1)) j + 1 := rfl
    rw [ez]
    by_cases q : (D[k]).1 = 41
    · obtain ⟨b1, a, b2, b3, b4, b5⟩ := a3 q
      obtain ⟨r, c1, c2⟩ := pp_alk (a := a) (b := p) (s := 2) h b3 hp 2 g_fuel 0 rfl (by unfold g_fuel; omega) (by omega)
      have epl : f_X8_place (nI k) x = some (x.1 5 k) := by
        unfold f_X8_place
        rw [if_neg (nI_pos (by omega)), if_neg (show ¬ (401 : Int32) ≤ nI k from nI_ge (b := 401) (by omega) (by omega)), if_pos ((pp_ok (by omega)).mpr (by omega)), nI_clamp (by omega)]
      rw [if_pos q, pp_siz (by omega), pp_b, b1, if_pos rfl, epl, pp_b, b2]
      unfold f_X7_alike
      rw [show (0 : Int32) = nI 0 from rfl, c1, pp_b]
      rw [show nI 0 = (0 : Int32) from rfl, pp_if1]
      by_cases hr : r = true
      · have e1 := c2.mp hr 1 (by omega) (by omega)
        have e2 : D[k] = (41, j) := Prod.ext q (by show (D[k]).2 = j; omega)
        rw [if_pos hr, if_pos e2]
        rfl
      · have e2 : ¬ D[k] = (41, j) := fun q2 => hr (c2.mpr (fun e _ he => by
          have hh : e = 0 ∨ e = 1 := by omega
          rcases hh with rfl | rfl
          · show t a = t p
            rw [b4, h1]
          · rw [b5, h2, q2]))
        rw [if_neg hr, if_neg e2, i]
        congr 2
        omega
    · have e2 : ¬ D[k] = (41, j) := fun q2 => q (by rw [q2])
      rw [if_neg q, if_neg e2, i]
      congr 2
      omega
/-- one token -/
theorem ztok (h : pp_CT x t T) (hu : zwi u) (hb : zbl u = false) (hz : zby t p (zib u)) (hp : p + (zib u).length ≤ T) (hs : zan u → pp_ld t T (p + (zib u).length) = false) (hs2 : u.1 = 36 ∨ u.1 = 37 → ¬ (p + 1 < T ∧ t (p + 1) = 61)) (hD : zts t T D x) (hk : D.length < 400) : f_X8_readToken (nI p) x = some (pp_tk x D.length u.1 (nI p) (nI (zib u).length) (zvD D u)) ∧ (zib u).length ≤ 8 ∧ u.1 < 43 := by
  have hT := h.2.1
  obtain ⟨s, a⟩ := u
  obtain ⟨i1, i2, i3, i4⟩ := zib0 hu
  have hpT : p < T := by omega
  have start : ∀ (o : Option CS), (if pp_i (pp_lt t T p) = 0 then ((f_X7_isDigit (nI p) x).bind fun q5 => if q5 = 0 then ((f_X8_readSymbol (nI p) x).bind fun q7 => some (q7)) else ((f_X8_readNumber (nI p) x).bind fun q8 => some (q8))) else ((f_X8_readWord (nI p) x).bind fun q9 => some (q9))) = o → f_X8_readToken (nI p) x = o := fun o ho => by
    unfold f_X8_readToken
    rw [h.1, if_pos (nI_lt hpT (by omega)), hD.1, if_pos (show nI D.length < (400 : Int32) from nI_lt (b := 400) hk (by omega)), pp_ltC h (by omega), pp_b]
    exact ho
  have ltrue : ∀ q, q < T → (97 ≤ t q ∧ t q ≤ 122) → pp_lt t T q = true := fun q h1 h2 => by unfold pp_lt; rw [decide_eq_true_eq]; exact ⟨h1, h2⟩
  have dtrue : ∀ q, q < T → (48 ≤ t q ∧ t q ≤ 57) → pp_dg t T q = true := fun q h1 h2 => by unfold pp_dg; rw [decide_eq_true_eq]; exact ⟨h1, h2⟩
  have lfalse : ∀ q, ¬ (97 ≤ t q ∧ t q ≤ 122) → pp_lt t T q = false := fun q h2 => by unfold pp_lt; rw [decide_eq_false_iff_not]; exact fun q2 => h2 q2.2
  have dfalse : ∀ q, ¬ (48 ≤ t q ∧ t q ≤ 57) → pp_dg t T q = false := fun q h2 => by unfold pp_dg; rw [decide_eq_false_iff_not]; exact fun q2 => h2 q2.2
  -- words
  have word : ∀ n, (zib (s, a)).length = n → 0 < n → n ≤ 10 → pp_lt t T p = true → (∀ j, j < n → pp_ld t T (p + j) = true) → pp_ld t T (p + n) = false → ∀ o, ((f_X8_longestSpelled (nI p) x).bind fun q7 => if q7 < 46 then (if q7 < 93 then ((f_J0_length_8abf5 q7).bind fun q9 => if q9 = nI n then ((f_X8_add q7 (nI p) (nI n) (0 : Int32) x).bind fun q13 => some (q13)) else ((f_X8_firstAlike (nI p) (nI n) x).bind fun q11 => (f_X8_add 41 (nI p) (nI n) q11 x).bind fun q12 => some (q12))) else none) else none) = o → f_X8_readToken (nI p) x = o ∧ pp_we t T p = p + n := by
    intro n hn hn0 hn10 hl hall hend o ho
    have hwe : pp_we t T p = p + n := zscn n (T - p) p (by omega) hall hend
    refine ⟨?_, hwe⟩
    refine start o ?_
    rw [pp_if1, if_pos hl]
    unfold f_X8_readWord
    rw [pp_rwC h (T - p) g_fuel p rfl (by omega) (by unfold g_fuel; omega)]
    have e1 : pp_scn (pp_ld t T) (T - p) p = p + n := hwe
    rw [e1]
    unfold f_X8_readWord_41
    rw [pk_sub (by omega), show p + n - p = n by omega, if_pos (show nI n ≤ (10 : Int32) from nI_le (b := 10) hn10 (by omega))]
    rw [← ho]
    cases (f_X8_longestSpelled (nI p) x).bind fun q7 => if q7 < 46 then (if q7 < 93 then ((f_J0_length_8abf5 q7).bind fun q9 => if q9 = nI n then ((f_X8_add q7 (nI p) (nI n) (0 : Int32) x).bind fun q13 => some (q13)) else ((f_X8_firstAlike (nI p) (nI n) x).bind fun q11 => (f_X8_add 41 (nI p) (nI n) q11 x).bind fun q12 => some (q12))) else none) else none <;> rfl
  rcases hu with hu | ⟨hu, hu2⟩ | ⟨hu, hu2⟩ | hu | hu
  · change s ≤ 40 at hu
    have e : zib (s, a) = pp_tx s := if_pos (show s < 41 by omega)
    have ev : zvD D (s, a) = 0 := by
      unfold zvD
      rw [if_neg (show ¬ s = 41 by omega), if_neg (show ¬ s = 42 by omega)]
    rw [e] at hz hp hs i1 i2 i3 i4 ⊢
    rw [ev]
    rcases Nat.lt_or_ge s 26 with q | q
    · -- a word of the language
      obtain ⟨l1, l2, -⟩ := pp_txL s (by omega)
      have hall : ∀ j, j < (pp_tx s).length → pp_lt t T (p + j) = true := fun j hj => ltrue _ (by omega) (ztx_w s q _ (hz.m hj))
      obtain ⟨w1, w2⟩ := word (pp_tx s).length (by rw [e]) i1 (by omega) (hall 0 i1) (fun j hj => by unfold pp_ld; rw [hall j hj]; rfl) (hs (Or.inl (show s ≤ 25 by omega))) _ rfl
      refine ⟨?_, l2, by show s < 43; omega⟩
      rw [w1, pp_loC1 h (by omega), pp_b]
      have hsp : pp_spl t T p (pp_tx s) = true := zspl _ p hz hp
      have hW := pp_W (hall 0 i1)
      rw [show p + 0 = p from rfl, w2, show p + (pp_tx s).length - p = (pp_tx s).length by omega] at hW
      have hlo : pp_lo t T p 46 = s := by
        rcases hW with ⟨b1, b2, b3⟩ | ⟨b1, b2⟩
        · have h3 := (pp_loF (t := t) (T := T) (p := p) 46 (Nat.le_refl _)).2.1
          have h4 := pp_splU _ _ p b1 h3 hsp
          exact pp_txU _ (by omega) s (by omega) h4 (by rw [h4]; intro q2; rw [q2] at i1; exact absurd i1 (by decide))
        · exact absurd ⟨rfl, hsp⟩ (pp_kwN 26 (Nat.le_refl _) b2 s (by omega) q)
      rw [hlo, if_pos (show s < 46 by omega), if_pos (show s < 93 by omega), l1, pp_b, if_pos rfl, pp_add hD.1 (by omega) (by omega)]
      rfl
    · -- a sign
      obtain ⟨a1, a2, a3, a4, a5, a6, a7, a8, a9, a10⟩ := ztx_s s (by omega) q
      obtain ⟨l1, l2, -⟩ := pp_txL s (by omega)
      have h0 := hz 0 a1
      rw [show p + 0 = p from rfl] at h0
      have hl : pp_lt t T p = false := lfalse p (by rw [h0]; exact a3)
      have hd : pp_dg t T p = false := dfalse p (by rw [h0]; exact a4)
      have hlo : pp_lo t T p 46 = s := by
        rw [pp_lo2 hpT hl 46 (Nat.le_refl _), h0]
        by_cases qf : p + 1 < T ∧ t (p + 1) = 61
        · rw [decide_eq_true qf]
          exact a9 ⟨fun e => hs2 (Or.inl e) qf, fun e => hs2 (Or.inr e) qf⟩
        · rw [decide_eq_false qf]
          refine a8 ⟨fun e => ?_, fun e => ?_⟩
          · obtain ⟨c1, c2⟩ := a10 (Or.inl e)
            exact qf ⟨by omega, by rw [hz 1 (by omega), c2]⟩
          · obtain ⟨c1, c2⟩ := a10 (Or.inr e)
            exact qf ⟨by omega, by rw [hz 1 (by omega), c2]⟩
      refine ⟨start _ ?_, l2, by show s < 43; omega⟩
      rw [pp_if1, if_neg (by rw [hl]; decide), pp_dgC h (by omega), pp_b, pp_if1, if_neg (by rw [hd]; decide)]
      unfold f_X8_readSymbol
      rw [pp_loC1 h (by omega), pp_b, hlo, if_pos (show s < 46 by omega), if_pos (show s < 93 by omega), l1, pp_b, pp_add hD.1 (by omega) (by omega)]
      rfl
  · -- a name
    change s = 41 at hu
    change a < 8 at hu2
    subst hu
    have e : zib (41, a) = [119, 48 + a] := by
      show 119 :: zdg a = _
      rw [zdg1 hu2]
    rw [e] at hz hp hs ⊢
    have hp' : p + 2 ≤ T := hp
    have h0 : t p = 119 := hz 0 (by show 0 < 2; omega)
    have h1 : t (p + 1) = 48 + a := hz 1 (by show 1 < 2; omega)
    have hl : pp_lt t T p = true := ltrue p (by omega) (by omega)
    obtain ⟨w1, w2⟩ := word 2 (by rw [e]; rfl) (by omega) (by omega) hl (fun j hj => by
      have hh : j = 0 ∨ j = 1 := by omega
      rcases hh with rfl | rfl
      · unfold pp_ld; rw [show p + 0 = p from rfl, hl]; rfl
      · unfold pp_ld; rw [dtrue (p + 1) (by omega) (by omega)]; exact Bool.or_true _) (hs (Or.inr (Or.inl rfl))) _ rfl
    refine ⟨?_, by show 2 ≤ 8; omega, by show 41 < 43; omega⟩
    rw [w1, pp_loC1 h (by omega), pp_b]
    have hW := pp_W hl
    rw [w2, show p + 2 - p = 2 by omega] at hW
    have hF := pp_loF (t := t) (T := T) (p := p) 46 (Nat.le_refl _)
    have hne : (pp_tx (pp_lo t T p 46)).length ≠ 2 := by
      rcases hW with ⟨b1, b2, b3⟩ | ⟨b1, b2⟩
      · exfalso
        have h4 := (pp_txA _ b2).1 1 (by omega) (by omega)
        have h5 := pp_splJ _ p hF.2.1 1 (by omega)
        omega
      · exact b1
    obtain ⟨l1, l2, -⟩ := pp_txL (pp_lo t T p 46) hF.1
    have hfa := zfa (j := a) h hD hk h0 h1 hp' (D.length - 0) g_fuel 0 rfl (by unfold g_fuel; omega) (by omega)
    rw [if_pos hF.1, if_pos (by omega), l1, pp_b, if_neg (by rw [nI_eq (by omega) (by omega)]; exact hne)]
    unfold f_X8_firstAlike
    rw [show (0 : Int32) = nI 0 from rfl, hfa, pp_b, pp_add hD.1 (by omega) (by omega), Nat.zero_add]
    rfl
  · -- a number
    change s = 42 at hu
    change a < 1000000 at hu2
    subst hu
    have e : zib (42, a) = zdg a := rfl
    rw [e] at hz hp hs i1 ⊢
    have hl6 := zdg_len hu2
    have hall : ∀ j, j < (zdg a).length → 48 ≤ t (p + j) ∧ t (p + j) ≤ 57 := fun j hj => zdf_dg 7 a _ (hz.m hj)
    have h0 := hall 0 i1
    rw [show p + 0 = p from rfl] at h0
    have hl : pp_lt t T p = false := lfalse p (by omega)
    have hd : pp_dg t T p = true := dtrue p hpT h0
    have hend := hs (Or.inr (Or.inr rfl))
    have hend2 : pp_dg t T (p + (zdg a).length) = false := by
      unfold pp_ld at hend
      cases hq : pp_dg t T (p + (zdg a).length) with
      | false => rfl
      | true => rw [hq, Bool.or_true] at hend; cases hend
    have hsc : pp_scn (pp_dg t T) (T - p) p = p + (zdg a).length := zscn _ _ p (by omega) (fun j hj => dtrue _ (by omega) (hall j hj)) hend2
    have hv : pp_nv t p (zdg a).length = nI a := zby.v 7 a (by omega) (by omega) hz
    refine ⟨start _ ?_, by omega, by show 42 < 43; omega⟩
    rw [pp_if1, if_neg (by rw [hl]; decide), pp_dgC h (by omega), pp_b, pp_if1, if_pos hd]
    unfold f_X8_readNumber
    have hrn := pp_rnC (p := p) h (T - (p + 0)) g_fuel 0 rfl (by omega) (by unfold g_fuel; omega)
    have hrn' : f_X8_readNumber_4 g_fuel (nI p) (nI p) 0 x = f_X8_readNumber_49 (nI p) (nI (pp_scn (pp_dg t T) (T - p) p)) (pp_nv t p (pp_scn (pp_dg t T) (T - p) p - p)) x := hrn
    rw [hrn', hsc, show p + (zdg a).length - p = (zdg a).length by omega, hv]
    unfold f_X8_readNumber_49 f_X8_readNumber_71
    rw [pk_sub (by omega), show p + (zdg a).length - p = (zdg a).length by omega, if_pos (show nI (zdg a).length ≤ (6 : Int32) from nI_le (b := 6) hl6.1 (by omega)), pp_add hD.1 (by omega) (by omega)]
    rfl
  · change s = 50 at hu
    subst hu
    exact absurd hb (by show ¬ decide _ = false; simp)
  · change s = 51 at hu
    subst hu
    exact absurd hb (by show ¬ decide _ = false; simp)
end ZSN
