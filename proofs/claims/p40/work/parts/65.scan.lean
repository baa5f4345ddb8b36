/-! bytes fed -/
theorem pp_bv (b : BitVec 32) (s : Nat) (hs : s ≤ 24) : (b >>> s).toNat % 2 ^ 8 = (b.sshiftRight s).toNat % 2 ^ 8 := by
  rw [← BitVec.toNat_setWidth, ← BitVec.toNat_setWidth]
  congr 1
  apply BitVec.eq_of_getLsbD_eq
  intro i hi
  rw [BitVec.getLsbD_setWidth, BitVec.getLsbD_setWidth, BitVec.getLsbD_ushiftRight, BitVec.getLsbD_sshiftRight]
  have h1 : decide (32 ≤ i) = false := by simp; omega
  have h2 : s + i < 32 := by omega
  simp [h1, h2]
def pp_by (a s : Int32) : Int32 := (a >>> (s &&& 31)) &&& (255 : Int32)
theorem pp_byC (a : Int32) (s : Int32) (hs : s = 24 ∨ s = 16 ∨ s = 8 ∨ s = 0) : vp_nar .char (((((a.toUInt32 >>> (s.toUInt32 &&& Int32.toUInt32 31)).toInt32) &&& (255 : Int32)).toUInt32 % 65536).toInt32) = pp_by a s ∧ ∃ c, c < 256 ∧ pp_by a s = nI c := by
  have key : ∀ k : Nat, k ≤ 24 → (a.toUInt32 >>> (s.toUInt32 &&& Int32.toUInt32 31)).toInt32.toBitVec = a.toBitVec >>> k → (a >>> (s &&& 31)).toBitVec = a.toBitVec.sshiftRight k → vp_nar .char (((((a.toUInt32 >>> (s.toUInt32 &&& Int32.toUInt32 31)).toInt32) &&& (255 : Int32)).toUInt32 % 65536).toInt32) = pp_by a s ∧ ∃ c, c < 256 ∧ pp_by a s = nI c := by
    intro k hk h1 h2
    have e1 := pk_and ((a.toUInt32 >>> (s.toUInt32 &&& Int32.toUInt32 31)).toInt32) (m := 255) 8 (by decide)
    have e2 := pk_and (a >>> (s &&& 31)) (m := 255) 8 (by decide)
    have h3 := pp_bv a.toBitVec k hk
    rw [h1, h3] at e1
    rw [h2] at e2
    have hlt : (a.toBitVec.sshiftRight k).toNat % 2 ^ 8 < 256 := Nat.mod_lt _ (by omega)
    unfold pp_by
    refine ⟨?_, _, hlt, e2⟩
    rw [e1, e2, pk_char, pk_tn (by omega), Nat.mod_eq_of_lt (by omega)]
    unfold vp_nar
    rw [(pk_charN (by omega)).1]
  rcases hs with rfl | rfl | rfl | rfl
  · exact key 24 (by omega) rfl rfl
  · exact key 16 (by omega) rfl rfl
  · exact key 8 (by omega) rfl rfl
  · exact key 0 (by omega) rfl rfl
def pp_tp (x : CS) (T : Nat) (f : Nat → Int32) : CS := g_wa (g_wi x 1 1 (nI T)) 2 f
theorem pp_tp1 {x : CS} {T : Nat} {f : Nat → Int32} : (pp_tp x T f).1 1 1 = nI T := by unfold pp_tp; rw [pp_c4 (by omega), pp_c1, pp_c3, pp_u1]
theorem pp_tp2 {x : CS} {T : Nat} {f : Nat → Int32} : (pp_tp x T f).1 2 = f := pp_c3
theorem pp_tp3 {x : CS} {T U : Nat} {f g : Nat → Int32} : g_wi (g_wa (pp_tp x T f) 2 g) 1 1 (nI U) = pp_tp x U g := by
  unfold pp_tp g_wa g_wi
  refine Prod.ext ?_ rfl
  funext j k
  by_cases h : j = 1
  · subst h
    by_cases hk : k = 1 <;> simp [upd, hk]
  · by_cases h2 : j = 2 <;> simp [h, h2]
def pp_f4 (f : Nat → Int32) (T : Nat) (a : Int32) : Nat → Int32 := upd (upd (upd (upd f T (pp_by a 24)) (T + 1) (pp_by a 16)) (T + 2) (pp_by a 8)) (T + 3) (pp_by a 0)
theorem pp_apS {x : CS} {T fu : Nat} {f : Nat → Int32} {a s : Int32} (hT : T < 2000) (hs : s = 24 ∨ s = 16 ∨ s = 8 ∨ s = 0) : f_X7_append_3 (fu + 1) a s (pp_tp x T f) = f_X7_append_3 fu a (s + (-8 : Int32)) (pp_tp x (T + 1) (upd f T (pp_by a s))) := by
  have hs0 : ¬ s < 0 := by rcases hs with rfl | rfl | rfl | rfl <;> decide
  rw [f_X7_append_3, if_neg hs0, pp_tp1, if_neg (nI_pos (by omega)), show (2000 : Int32) = nI 2000 from rfl, if_neg (nI_ge hT (by omega)), if_pos ((pp_ok (by omega)).mpr hT), nI_clamp (by omega), (pp_byC a s hs).1]
  rw [show (g_wi (pp_tp x T f) 2 T (pp_by a s)) = g_wa (pp_tp x T f) 2 (upd f T (pp_by a s)) by rw [pp_c1, pp_tp2], pp_c4 (show (1 : Nat) ≠ 2 by omega), pp_tp1, nI_1, pp_tp3]
theorem pp_ap {x : CS} {T : Nat} {f : Nat → Int32} {a : Int32} (hT : T + 4 ≤ 2000) : f_X7_append a (pp_tp x T f) = some (pp_tp x (T + 4) (pp_f4 f T a)) := by
  have h : f_X7_append a (pp_tp x T f) = f_X7_append_3 (4091 + 1 + 1 + 1 + 1 + 1) a 24 (pp_tp x T f) := rfl
  rw [h, pp_apS (by omega) (Or.inl rfl), show (24 : Int32) + -8 = 16 by decide, pp_apS (by omega) (Or.inr (Or.inl rfl)), show (16 : Int32) + -8 = 8 by decide, pp_apS (by omega) (Or.inr (Or.inr (Or.inl rfl))), show (8 : Int32) + -8 = 0 by decide, pp_apS (by omega) (Or.inr (Or.inr (Or.inr rfl))), show (0 : Int32) + -8 = -8 by decide, f_X7_append_3, if_pos (by decide)]
  rfl
def pp_eq (T : Nat) (f g : Nat → Int32) : Prop := ∀ k, k < T → f k = g k ∧ ∃ c, c < 256 ∧ g k = nI c
theorem pp_eqU {T : Nat} {f g : Nat → Int32} {v : Int32} (h : pp_eq T f g) (hv : ∃ c, c < 256 ∧ v = nI c) : pp_eq (T + 1) (upd f T v) (upd g T v) := by
  intro k hk
  rcases Nat.lt_or_ge k T with h1 | h1
  · rw [pp_u2 (by omega), pp_u2 (by omega)]; exact h k h1
  · have e : k = T := by omega
    rw [e, pp_u1, pp_u1]; exact ⟨rfl, hv⟩
theorem pp_eq4 {T : Nat} {f g : Nat → Int32} (h : pp_eq T f g) (a : Int32) : pp_eq (T + 4) (pp_f4 f T a) (pp_f4 g T a) :=
  pp_eqU (pp_eqU (pp_eqU (pp_eqU h (pp_byC a 24 (Or.inl rfl)).2) (pp_byC a 16 (Or.inr (Or.inl rfl))).2) (pp_byC a 8 (Or.inr (Or.inr (Or.inl rfl)))).2) (pp_byC a 0 (Or.inr (Or.inr (Or.inr rfl)))).2
def pp_f20 (f : Nat → Int32) (T : Nat) (a b c d e : Int32) : Nat → Int32 := pp_f4 (pp_f4 (pp_f4 (pp_f4 (pp_f4 f T a) (T + 4) b) (T + 4 + 4) c) (T + 4 + 4 + 4) d) (T + 4 + 4 + 4 + 4) e
theorem pp_eq20 {T : Nat} {f g : Nat → Int32} (h : pp_eq T f g) (a b c d e : Int32) : pp_eq (T + 20) (pp_f20 f T a b c d e) (pp_f20 g T a b c d e) := pp_eq4 (pp_eq4 (pp_eq4 (pp_eq4 (pp_eq4 h a) b) c) d) e
/-! the tape: bytes, where a run of them ends -/
def pp_CT (x : CS) (t : Nat → Nat) (T : Nat) : Prop := x.1 1 1 = nI T ∧ T ≤ 2000 ∧ (∀ p, p < T → t p < 256) ∧ ∀ p, p < T → x.1 2 p = nI (t p)
def pp_B (t : Nat → Nat) (T p : Nat) : Int32 := if p < T then nI (t p) else -1
theorem pp_bC {x : CS} {t : Nat → Nat} {T p : Nat} (h : pp_CT x t T) (hp : p < 2 ^ 30) : f_X7_byteAt (nI p) x = some (pp_B t T p) := by
  obtain ⟨h1, h2, h3, h4⟩ := h
  unfold f_X7_byteAt pp_B
  rw [if_neg (nI_pos (by omega)), h1]
  by_cases h : p < T
  · rw [if_neg (nI_ge h (by omega)), if_neg (show ¬ (2000 : Int32) ≤ nI p from nI_ge (b := 2000) (by omega) (by omega)), if_pos ((pp_ok (by omega)).mpr (by omega)), nI_clamp (by omega), h4 p h, if_pos h]
  · rw [if_pos (nI_le (by omega) (by omega)), if_neg h]
def pp_lt (t : Nat → Nat) (T p : Nat) : Bool := decide (p < T ∧ 97 ≤ t p ∧ t p ≤ 122)
def pp_dg (t : Nat → Nat) (T p : Nat) : Bool := decide (p < T ∧ 48 ≤ t p ∧ t p ≤ 57)
def pp_bk (t : Nat → Nat) (T p : Nat) : Bool := decide (p < T ∧ (t p = 32 ∨ t p = 10))
def pp_i (b : Bool) : Int32 := if b then 1 else 0
theorem pp_i0 {b : Bool} : (pp_i b = 0) ↔ b = false := by cases b <;> decide
theorem pp_m1l {n : Nat} (hn : n < 2 ^ 31) : (-1 : Int32) < nI n := by
  rw [Int32.lt_iff_toInt_lt, nI_toInt hn]
  have : (-1 : Int32).toInt = -1 := by decide
  omega
theorem pp_ltC {x : CS} {t : Nat → Nat} {T p : Nat} (h : pp_CT x t T) (hp : p < 2 ^ 30) : f_X7_isLetter (nI p) x = some (pp_i (pp_lt t T p)) := by
  unfold f_X7_isLetter pp_lt
  rw [pp_bC h hp, pp_b]
  unfold pp_B
  by_cases h1 : p < T
  · have h3 := h.2.2.1 p h1
    rw [if_pos h1]
    by_cases h4 : t p < 97
    · rw [if_pos (show nI (t p) < (97 : Int32) from nI_lt (b := 97) h4 (by omega)), show decide (p < T ∧ 97 ≤ t p ∧ t p ≤ 122) = false by simp; omega]; rfl
    · rw [if_neg (show ¬ nI (t p) < (97 : Int32) from nI_nlt (a := t p) (b := 97) (by omega) (by omega))]
      by_cases h5 : 122 < t p
      · rw [if_pos (show (122 : Int32) < nI (t p) from nI_lt (a := 122) h5 (by omega)), show decide (p < T ∧ 97 ≤ t p ∧ t p ≤ 122) = false by simp; omega]; rfl
      · rw [if_neg (show ¬ (122 : Int32) < nI (t p) from nI_nlt (a := 122) (b := t p) (by omega) (by omega)), show decide (p < T ∧ 97 ≤ t p ∧ t p ≤ 122) = true by simp; omega]; rfl
  · rw [if_neg h1, if_pos (by decide), show decide (p < T ∧ 97 ≤ t p ∧ t p ≤ 122) = false by simp; omega]; rfl
theorem pp_dgC {x : CS} {t : Nat → Nat} {T p : Nat} (h : pp_CT x t T) (hp : p < 2 ^ 30) : f_X7_isDigit (nI p) x = some (pp_i (pp_dg t T p)) := by
  unfold f_X7_isDigit pp_dg
  rw [pp_bC h hp, pp_b]
  unfold pp_B
  by_cases h1 : p < T
  · have h3 := h.2.2.1 p h1
    rw [if_pos h1]
    by_cases h4 : t p < 48
    · rw [if_pos (show nI (t p) < (48 : Int32) from nI_lt (b := 48) h4 (by omega)), show decide (p < T ∧ 48 ≤ t p ∧ t p ≤ 57) = false by simp; omega]; rfl
    · rw [if_neg (show ¬ nI (t p) < (48 : Int32) from nI_nlt (a := t p) (b := 48) (by omega) (by omega))]
      by_cases h5 : 57 < t p
      · rw [if_pos (show (57 : Int32) < nI (t p) from nI_lt (a := 57) h5 (by omega)), show decide (p < T ∧ 48 ≤ t p ∧ t p ≤ 57) = false by simp; omega]; rfl
      · rw [if_neg (show ¬ (57 : Int32) < nI (t p) from nI_nlt (a := 57) (b := t p) (by omega) (by omega)), show decide (p < T ∧ 48 ≤ t p ∧ t p ≤ 57) = true by simp; omega]; rfl
  · rw [if_neg h1, if_pos (by decide), show decide (p < T ∧ 48 ≤ t p ∧ t p ≤ 57) = false by simp; omega]; rfl
/-- where a run begun at p ends -/
def pp_scn (P : Nat → Bool) : Nat → Nat → Nat
  | 0, p => p
  | d + 1, p => if P p = true then pp_scn P d (p + 1) else p
theorem pp_scnS (P : Nat → Bool) (d p : Nat) : pp_scn P (d + 1) p = if P p = true then pp_scn P d (p + 1) else p := rfl
theorem pp_scnB {P : Nat → Bool} : ∀ d p, p ≤ pp_scn P d p ∧ pp_scn P d p ≤ p + d := by
  intro d
  induction d with
  | zero => intro p; exact ⟨Nat.le_refl _, Nat.le_refl _⟩
  | succ d ih =>
    intro p
    rw [pp_scnS]
    split
    · have := ih (p + 1); omega
    · omega
theorem pp_scnP {P : Nat → Bool} : ∀ d p q, p ≤ q → q < pp_scn P d p → P q = true := by
  intro d
  induction d with
  | zero => intro p q h1 h2; unfold pp_scn at h2; omega
  | succ d ih =>
    intro p q h1 h2
    rw [pp_scnS] at h2
    split at h2
    · rename_i hp
      rcases Nat.lt_or_ge p q with h3 | h3
      · exact ih (p + 1) q h3 h2
      · have e : q = p := by omega
        rw [e]; exact hp
    · omega
theorem pp_scnE {P : Nat → Bool} {T : Nat} (hP : ∀ q, T ≤ q → P q = false) : ∀ d p, T ≤ p + d → P (pp_scn P d p) = false := by
  intro d
  induction d with
  | zero => intro p h; exact hP p h
  | succ d ih =>
    intro p h
    rw [pp_scnS]
    split
    · exact ih (p + 1) (by omega)
    · rename_i hp
      simpa using hp
theorem pp_bkT {t : Nat → Nat} {T : Nat} : ∀ q, T ≤ q → pp_bk t T q = false := fun q h => by unfold pp_bk; simp; omega
theorem pp_ltT {t : Nat → Nat} {T : Nat} : ∀ q, T ≤ q → pp_lt t T q = false := fun q h => by unfold pp_lt; simp; omega
theorem pp_dgT {t : Nat → Nat} {T : Nat} : ∀ q, T ≤ q → pp_dg t T q = false := fun q h => by unfold pp_dg; simp; omega
def pp_skp (t : Nat → Nat) (T p : Nat) : Nat := pp_scn (pp_bk t T) (T - p) p
theorem pp_skpB {t : Nat → Nat} {T p : Nat} (h : p ≤ T) : p ≤ pp_skp t T p ∧ pp_skp t T p ≤ T := by
  have := pp_scnB (P := pp_bk t T) (T - p) p
  unfold pp_skp
  omega
theorem pp_B32 {t : Nat → Nat} {T p : Nat} (h3 : ∀ p, p < T → t p < 256) : pp_bk t T p = true ↔ (pp_B t T p = 32 ∨ pp_B t T p = 10) := by
  unfold pp_bk pp_B
  by_cases h1 : p < T
  · have h3 := h3 p h1
    rw [if_pos h1, show (32 : Int32) = nI 32 from rfl, show (10 : Int32) = nI 10 from rfl, nI_eq (by omega) (by omega), nI_eq (by omega) (by omega)]
    simp [h1]
  · rw [if_neg h1]
    simp [h1]
theorem pp_skC {x : CS} {t : Nat → Nat} {T : Nat} (h : pp_CT x t T) : ∀ d fuel p, d = T - p → p ≤ T → d < fuel → f_X7_behindBlanks_2 x fuel (nI p) = some (nI (pp_scn (pp_bk t T) d p)) := by
  have hT := h.2.1
  intro d
  induction d with
  | zero =>
    intro fuel p hd hp hfu
    obtain ⟨fu, rfl⟩ : ∃ fu, fuel = fu + 1 := ⟨fuel - 1, by omega⟩
    rw [f_X7_behindBlanks_2, h.1, if_pos (nI_le (by omega) (by omega))]
    rfl
  | succ d ih =>
    intro fuel p hd hp hfu
    obtain ⟨fu, rfl⟩ : ∃ fu, fuel = fu + 1 := ⟨fuel - 1, by omega⟩
    have i := ih fu (p + 1) (by omega) (by omega) (by omega)
    have hB := pp_B32 (p := p) h.2.2.1
    rw [pp_scnS, f_X7_behindBlanks_2, h.1, if_neg (nI_ge (by omega) (by omega)), pp_bC h (by omega), pp_b, pp_b, nI_1]
    by_cases h1 : pp_B t T p = 32
    · rw [if_pos h1, if_pos (hB.mpr (Or.inl h1))]; exact i
    · rw [if_neg h1]
      by_cases h2 : pp_B t T p = 10
      · rw [if_pos h2, if_pos (hB.mpr (Or.inr h2))]; exact i
      · rw [if_neg h2, if_neg (fun q => (hB.mp q).elim h1 h2)]
theorem pp_skC1 {x : CS} {t : Nat → Nat} {T p : Nat} (h : pp_CT x t T) (hp : p ≤ T) : f_X7_behindBlanks (nI p) x = some (nI (pp_skp t T p)) :=
  pp_skC h (T - p) g_fuel p rfl hp (by have := h.2.1; unfold g_fuel; omega)
/-! texts -/
def pp_tx (k : Nat) : List Nat := (g_byt.getD k []).map Int32.toNatClampNeg
theorem pp_txL : ∀ k, k < 46 → f_J0_length_8abf5 k = some (nI (pp_tx k).length) ∧ (pp_tx k).length ≤ 8 ∧ ∀ j, j < 8 → j < (pp_tx k).length → f_J0_charAt_5068e k (nI j) = some (nI ((pp_tx k).getD j 0)) ∧ (pp_tx k).getD j 0 < 256 := by decide +kernel
def pp_spl (t : Nat → Nat) (T : Nat) : Nat → List Nat → Bool
  | _, [] => true
  | p, c :: cs => decide (p < T ∧ t p = c) && pp_spl t T (p + 1) cs
theorem pp_splD {t : Nat → Nat} {T p j : Nat} {l : List Nat} (hj : j < l.length) : pp_spl t T (p + j) (l.drop j) = (decide (p + j < T ∧ t (p + j) = l.getD j 0) && pp_spl t T (p + (j + 1)) (l.drop (j + 1))) := by
  rw [List.drop_eq_getElem_cons hj]
  show (decide _ && _) = _
  rw [List.getD_eq_getElem?_getD, List.getElem?_eq_getElem hj]
  rfl
theorem pp_spC {x : CS} {t : Nat → Nat} {T p k : Nat} (h : pp_CT x t T) (hk : k < 46) (hp : p ≤ T) : ∀ d fuel j, d = (pp_tx k).length - j → d < fuel → j ≤ (pp_tx k).length → f_X7_spells_2 x fuel (nI p) k (nI j) = some (pp_i (pp_spl t T (p + j) ((pp_tx k).drop j))) := by
  have hT := h.2.1
  obtain ⟨l1, l2, l3⟩ := pp_txL k (by omega)
  intro d
  induction d with
  | zero =>
    intro fuel j hd hfu hj
    obtain ⟨fu, rfl⟩ : ∃ fu, fuel = fu + 1 := ⟨fuel - 1, by omega⟩
    rw [f_X7_spells_2, if_pos (by omega), l1, pp_b, if_pos (nI_le (by omega) (by omega)), List.drop_eq_nil_of_le (by omega)]
    rfl
  | succ d ih =>
    intro fuel j hd hfu hj
    obtain ⟨fu, rfl⟩ : ∃ fu, fuel = fu + 1 := ⟨fuel - 1, by omega⟩
    have i := ih fu (j + 1) (by omega) (by omega) (by omega)
    obtain ⟨c1, c2⟩ := l3 j (by omega) (by omega)
    rw [pp_splD (by omega), f_X7_spells_2, if_pos (by omega), l1, pp_b, if_neg (nI_ge (by omega) (by omega)), nI_add, pp_bC h (by omega), pp_b, if_pos (by omega), c1, pp_b, nI_1]
    unfold pp_B
    by_cases h1 : p + j < T
    · have h5 := h.2.2.1 _ h1
      rw [if_pos h1]
      by_cases h2 : t (p + j) = (pp_tx k).getD j 0
      · rw [if_pos (by rw [h2]), show decide (p + j < T ∧ t (p + j) = (pp_tx k).getD j 0) = true by simp only [decide_eq_true_eq]; exact ⟨h1, h2⟩, Bool.true_and]
        exact i
      · rw [if_neg (by rw [nI_eq (by omega) (by omega)]; exact h2), show decide (p + j < T ∧ t (p + j) = (pp_tx k).getD j 0) = false by simp only [decide_eq_false_iff_not]; exact fun q => h2 q.2, Bool.false_and]
        rfl
    · rw [if_neg h1, if_neg (fun q => absurd q.symm (pp_m1n (by omega))), show decide (p + j < T ∧ t (p + j) = (pp_tx k).getD j 0) = false by simp only [decide_eq_false_iff_not]; exact fun q => h1 q.1, Bool.false_and]
      rfl
theorem pp_spC1 {x : CS} {t : Nat → Nat} {T p k : Nat} (h : pp_CT x t T) (hk : k < 46) (hp : p ≤ T) : f_X7_spells (nI p) k x = some (pp_i (pp_spl t T p (pp_tx k))) :=
  pp_spC h hk hp ((pp_tx k).length - 0) g_fuel 0 rfl (by have := (pp_txL k (by omega)).2.1; unfold g_fuel; omega) (by omega)
/-! the longest text spelled at a place; keywords; symbols -/
def pp_lo (t : Nat → Nat) (T p : Nat) : Nat → Nat
  | 0 => 45
  | k + 1 => if (pp_tx (pp_lo t T p k)).length < (pp_tx k).length ∧ pp_spl t T p (pp_tx k) = true then k else pp_lo t T p k
theorem pp_loS (t : Nat → Nat) (T p k : Nat) : pp_lo t T p (k + 1) = if (pp_tx (pp_lo t T p k)).length < (pp_tx k).length ∧ pp_spl t T p (pp_tx k) = true then k else pp_lo t T p k := rfl
theorem pp_tx45 : pp_tx 45 = [] := by decide +kernel
theorem pp_loF {t : Nat → Nat} {T p : Nat} : ∀ n, n ≤ 46 → pp_lo t T p n < 46 ∧ pp_spl t T p (pp_tx (pp_lo t T p n)) = true ∧ ∀ k, k < n → pp_spl t T p (pp_tx k) = true → (pp_tx k).length ≤ (pp_tx (pp_lo t T p n)).length := by
  intro n
  induction n with
  | zero => intro _; exact ⟨(by show 45 < 46; omega), (by show pp_spl t T p (pp_tx 45) = true; rw [pp_tx45]; rfl), fun k hk => absurd hk (Nat.not_lt_zero _)⟩
  | succ n ih =>
    intro hn
    obtain ⟨i1, i2, i3⟩ := ih (by omega)
    rw [pp_loS]
    by_cases h : (pp_tx (pp_lo t T p n)).length < (pp_tx n).length ∧ pp_spl t T p (pp_tx n) = true
    · rw [if_pos h]
      refine ⟨by omega, h.2, fun k hk hs => ?_⟩
      rcases Nat.lt_or_ge k n with h1 | h1
      · have := i3 k h1 hs; omega
      · have e : k = n := by omega
        rw [e]; exact Nat.le_refl _
    · rw [if_neg h]
      refine ⟨i1, i2, fun k hk hs => ?_⟩
      rcases Nat.lt_or_ge k n with h1 | h1
      · exact i3 k h1 hs
      · have e : k = n := by omega
        subst e
        rcases Nat.lt_or_ge (pp_tx (pp_lo t T p k)).length (pp_tx k).length with h2 | h2
        · exact absurd ⟨h2, hs⟩ h
        · exact h2
theorem pp_loC {x : CS} {t : Nat → Nat} {T p : Nat} (h : pp_CT x t T) (hp : p ≤ T) : ∀ d fuel k, d = 46 - k → d < fuel → k ≤ 46 → f_X8_longestSpelled_6 x fuel (nI p) (pp_lo t T p k) (nI k) = some (pp_lo t T p 46) := by
  intro d
  induction d with
  | zero =>
    intro fuel k hd hfu hk
    obtain ⟨fu, rfl⟩ : ∃ fu, fuel = fu + 1 := ⟨fuel - 1, by omega⟩
    have e : k = 46 := by omega
    subst e
    rw [f_X8_longestSpelled_6, if_pos (by decide)]
  | succ d ih =>
    intro fuel k hd hfu hk
    obtain ⟨fu, rfl⟩ : ∃ fu, fuel = fu + 1 := ⟨fuel - 1, by omega⟩
    have i := ih fu (k + 1) (by omega) (by omega) (by omega)
    have hlo := (pp_loF (t := t) (T := T) (p := p) k (by omega)).1
    have hk46 : k < 46 := by omega
    obtain ⟨l1, l2, -⟩ := pp_txL k (by omega)
    obtain ⟨m1, m2, -⟩ := pp_txL (pp_lo t T p k) (by omega)
    have hc : (nI k).toNatClampNeg = k := nI_clamp (by omega)
    have hok := (pp_ok (k := k) (n := 46) (by omega)).mpr hk46
    rw [f_X8_longestSpelled_6, if_neg (show ¬ (46 : Int32) ≤ nI k from nI_ge (b := 46) hk46 (by omega)), if_pos hok, hc, if_pos hk46, if_pos (by omega), l1, pp_b, if_pos hlo, if_pos (by omega), m1, pp_b, pp_spC1 h hk46 hp, pp_b, nI_1]
    rw [pp_loS] at i
    by_cases h1 : (pp_tx (pp_lo t T p k)).length < (pp_tx k).length
    · rw [if_neg (nI_ge h1 (by omega))]
      by_cases h2 : pp_spl t T p (pp_tx k) = true
      · rw [if_neg (by rw [pp_i0, h2]; decide), if_pos hok]
        rw [if_pos ⟨h1, h2⟩] at i
        exact i
      · rw [if_pos (by rw [pp_i0]; simpa using h2)]
        rw [if_neg (fun q => h2 q.2)] at i
        exact i
    · rw [if_pos (nI_le (by omega) (by omega))]
      rw [if_neg (fun q => h1 q.1)] at i
      exact i
theorem pp_loC1 {x : CS} {t : Nat → Nat} {T p : Nat} (h : pp_CT x t T) (hp : p ≤ T) : f_X8_longestSpelled (nI p) x = some (pp_lo t T p 46) :=
  pp_loC h hp (46 - 0) g_fuel 0 rfl (by decide) (by omega)
def pp_kw (t : Nat → Nat) (T p s : Nat) : Nat → Option Nat
  | 0 => none
  | d + 1 => if (pp_tx (26 - (d + 1))).length = s ∧ pp_spl t T p (pp_tx (26 - (d + 1))) = true then some (26 - (d + 1)) else pp_kw t T p s d
theorem pp_kwS (t : Nat → Nat) (T p s d : Nat) : pp_kw t T p s (d + 1) = if (pp_tx (26 - (d + 1))).length = s ∧ pp_spl t T p (pp_tx (26 - (d + 1))) = true then some (26 - (d + 1)) else pp_kw t T p s d := rfl
def pp_kv (o : Option Nat) (s : Nat) : Int32 := match o with
  | some k => nI k
  | none => if s ≤ 10 then 30 else 32
theorem pp_kwN {t : Nat → Nat} {T p s : Nat} : ∀ d, d ≤ 26 → pp_kw t T p s d = none → ∀ k, 26 - d ≤ k → k < 26 → ¬ ((pp_tx k).length = s ∧ pp_spl t T p (pp_tx k) = true) := by
  intro d
  induction d with
  | zero => intro _ _ k h1 h2; omega
  | succ d ih =>
    intro hd h k h1 h2
    rw [pp_kwS] at h
    split at h
    · cases h
    · rename_i hn
      rcases Nat.lt_or_ge (26 - (d + 1)) k with h3 | h3
      · exact ih (by omega) h k (by omega) h2
      · have e : k = 26 - (d + 1) := by omega
        rw [e]; exact hn
theorem pp_kwY {t : Nat → Nat} {T p s k : Nat} : ∀ d, d ≤ 26 → pp_kw t T p s d = some k → k < 26 ∧ (pp_tx k).length = s ∧ pp_spl t T p (pp_tx k) = true := by
  intro d
  induction d with
  | zero => intro _ h; cases h
  | succ d ih =>
    intro hd h
    rw [pp_kwS] at h
    split at h
    · rename_i hn
      cases h
      exact ⟨by omega, hn⟩
    · exact ih (by omega) h
theorem pp_splJ {t : Nat → Nat} {T : Nat} : ∀ (l : List Nat) (p : Nat), pp_spl t T p l = true → ∀ j, j < l.length → p + j < T ∧ t (p + j) = l.getD j 0 := by
  intro l
  induction l with
  | nil => intro p _ j hj; cases hj
  | cons c cs ih =>
    intro p h j hj
    simp only [pp_spl, Bool.and_eq_true, decide_eq_true_eq] at h
    cases j with
    | zero => exact h.1
    | succ j =>
      have := ih (p + 1) h.2 j (by simpa using hj)
      rw [show p + (j + 1) = p + 1 + j by omega]
      exact this
theorem pp_splU {t : Nat → Nat} {T : Nat} : ∀ (l m : List Nat) (p : Nat), l.length = m.length → pp_spl t T p l = true → pp_spl t T p m = true → l = m := by
  intro l
  induction l with
  | nil => intro m p hl _ _; cases m with
    | nil => rfl
    | cons _ _ => cases hl
  | cons c cs ih =>
    intro m p hl h1 h2
    cases m with
    | nil => cases hl
    | cons e es =>
      simp only [pp_spl, Bool.and_eq_true, decide_eq_true_eq] at h1 h2
      have e1 : c = e := h1.1.2.symm.trans h2.1.2
      rw [e1, ih es (p + 1) (by simpa using hl) h1.2 h2.2]
theorem pp_txU : ∀ k, k < 46 → ∀ m, m < 46 → pp_tx k = pp_tx m → pp_tx k ≠ [] → k = m := by decide +kernel
theorem pp_txA : ∀ k, k < 26 → (∀ j, j < 8 → j < (pp_tx k).length → 97 ≤ (pp_tx k).getD j 0 ∧ (pp_tx k).getD j 0 ≤ 122) ∧ 0 < (pp_tx k).length := by decide +kernel
theorem pp_txS : ∀ k, k < 46 → 26 ≤ k → 0 < (pp_tx k).length → ¬ (97 ≤ (pp_tx k).getD 0 0 ∧ (pp_tx k).getD 0 0 ≤ 122) := by decide +kernel
def pp_ld (t : Nat → Nat) (T : Nat) (q : Nat) : Bool := pp_lt t T q || pp_dg t T q
theorem pp_ldT {t : Nat → Nat} {T : Nat} : ∀ q, T ≤ q → pp_ld t T q = false := fun q h => by unfold pp_ld; rw [pp_ltT q h, pp_dgT q h]; rfl
def pp_we (t : Nat → Nat) (T p : Nat) : Nat := pp_scn (pp_ld t T) (T - p) p
theorem pp_weB {t : Nat → Nat} {T p : Nat} (hl : pp_lt t T p = true) : p < pp_we t T p ∧ pp_we t T p ≤ T := by
  have hp : p < T := by
    rcases Nat.lt_or_ge p T with h | h
    · exact h
    · rw [pp_ltT p h] at hl; cases hl
  unfold pp_we
  obtain ⟨d, hd⟩ : ∃ d, T - p = d + 1 := ⟨T - p - 1, by omega⟩
  rw [hd, pp_scnS, if_pos (by unfold pp_ld; rw [hl]; rfl)]
  have := pp_scnB (P := pp_ld t T) d (p + 1)
  omega
/-- a spelled keyword ends in the word -/
theorem pp_W4 {t : Nat → Nat} {T p k : Nat} (hl : pp_lt t T p = true) (hk : k < 26) (hs : pp_spl t T p (pp_tx k) = true) : p + (pp_tx k).length ≤ pp_we t T p := by
  have hw := pp_weB hl
  rcases Nat.lt_or_ge (pp_we t T p) (p + (pp_tx k).length) with h | h
  · exfalso
    have hE : pp_ld t T (pp_we t T p) = false := pp_scnE pp_ldT (T - p) p (by omega)
    have hj := pp_splJ (pp_tx k) p hs (pp_we t T p - p) (by omega)
    rw [show p + (pp_we t T p - p) = pp_we t T p by omega] at hj
    have hA := (pp_txA k hk).1 (pp_we t T p - p) (by have := (pp_txL k (by omega)).2.1; omega) (by omega)
    unfold pp_ld pp_lt at hE
    rw [show decide (pp_we t T p < T ∧ 97 ≤ t (pp_we t T p) ∧ t (pp_we t T p) ≤ 122) = true by simp only [decide_eq_true_eq]; rw [hj.2]; exact ⟨hj.1, hA⟩] at hE
    simp at hE
  · exact h
theorem pp_W1 {t : Nat → Nat} {T p k : Nat} (hl : pp_lt t T p = true) (hk : k < 46) (h0 : 0 < (pp_tx k).length) (hs : pp_spl t T p (pp_tx k) = true) : k < 26 := by
  rcases Nat.lt_or_ge k 26 with h | h
  · exact h
  · exfalso
    have hS := pp_txS k hk h h0
    have hj := pp_splJ (pp_tx k) p hs 0 h0
    rw [Nat.add_zero] at hj
    unfold pp_lt at hl
    simp only [decide_eq_true_eq] at hl
    rw [← hj.2] at hS
    exact hS hl.2
/-- a word: class and reference see the same keyword in it, or none -/
theorem pp_W {t : Nat → Nat} {T p : Nat} (hl : pp_lt t T p = true) : ((pp_tx (pp_lo t T p 46)).length = pp_we t T p - p ∧ pp_lo t T p 46 < 26 ∧ pp_kw t T p (pp_we t T p - p) 26 = some (pp_lo t T p 46)) ∨ ((pp_tx (pp_lo t T p 46)).length ≠ pp_we t T p - p ∧ pp_kw t T p (pp_we t T p - p) 26 = none) := by
  have hw := pp_weB hl
  obtain ⟨f1, f2, f3⟩ := pp_loF (t := t) (T := T) (p := p) 46 (Nat.le_refl _)
  have hU : ∀ k, k < 26 → (pp_tx k).length = pp_we t T p - p → pp_spl t T p (pp_tx k) = true → (pp_tx (pp_lo t T p 46)).length = pp_we t T p - p ∧ k = pp_lo t T p 46 := by
    intro k hk e hs
    have h1 := f3 k (by omega) hs
    have h2 := pp_W1 hl f1 (by omega) f2
    have h3 := pp_W4 hl h2 f2
    have e2 : (pp_tx (pp_lo t T p 46)).length = pp_we t T p - p := by omega
    refine ⟨e2, pp_txU k (by omega) _ f1 (pp_splU _ _ p (by omega) hs f2) (fun q => ?_)⟩
    rw [q] at e
    simp at e
    omega
  by_cases h : (pp_tx (pp_lo t T p 46)).length = pp_we t T p - p
  · left
    have h2 := pp_W1 hl f1 (by omega) f2
    refine ⟨h, h2, ?_⟩
    cases hk : pp_kw t T p (pp_we t T p - p) 26 with
    | none => exact absurd ⟨h, f2⟩ (pp_kwN 26 (Nat.le_refl _) hk _ (by omega) h2)
    | some k =>
      obtain ⟨k1, k2, k3⟩ := pp_kwY 26 (Nat.le_refl _) hk
      rw [(hU k k1 k2 k3).2]
  · right
    refine ⟨h, ?_⟩
    cases hk : pp_kw t T p (pp_we t T p - p) 26 with
    | none => rfl
    | some k =>
      obtain ⟨k1, k2, k3⟩ := pp_kwY 26 (Nat.le_refl _) hk
      exact absurd (hU k k1 k2 k3).1 h
theorem pp_kwL {t : Nat → Nat} {T p s : Nat} (hs : 10 < s) : pp_kw t T p s 26 = none := by
  cases hk : pp_kw t T p s 26 with
  | none => rfl
  | some k =>
    obtain ⟨k1, k2, k3⟩ := pp_kwY 26 (Nat.le_refl _) hk
    have := (pp_txL k (by omega)).2.1
    omega
/-! symbols -/
def pp_s2 (c : Nat) (n : Bool) : List Nat → Bool
  | [] => true
  | [a] => decide (c = a)
  | [a, _] => decide (c = a) && n
  | _ => false
def pp_o2 (l : List Nat) : Bool := match l with
  | [] => true
  | [_] => true
  | [a, b] => decide (b = 61) || decide (97 ≤ a ∧ a ≤ 122)
  | a :: _ => decide (97 ≤ a ∧ a ≤ 122)
theorem pp_txO : ∀ k, k < 46 → pp_o2 (pp_tx k) = true := by decide +kernel
theorem pp_spS {t : Nat → Nat} {T p : Nat} (hp : p < T) (hl : pp_lt t T p = false) {l : List Nat} (ho : pp_o2 l = true) : pp_spl t T p l = pp_s2 (t p) (decide (p + 1 < T ∧ t (p + 1) = 61)) l := by
  have hn : ¬ (97 ≤ t p ∧ t p ≤ 122) := by
    unfold pp_lt at hl
    simp only [decide_eq_false_iff_not] at hl
    exact fun q => hl ⟨hp, q⟩
  match l, ho with
  | [], _ => rfl
  | [a], _ =>
    simp only [pp_spl, pp_s2, Bool.and_true]
    congr 1
    simp [hp]
  | [a, b], ho =>
    simp only [pp_o2, Bool.or_eq_true, decide_eq_true_eq] at ho
    simp only [pp_spl, pp_s2, Bool.and_true]
    by_cases e : t p = a
    · have hb : b = 61 := by
        rcases ho with h | h
        · exact h
        · rw [← e] at h; exact absurd h hn
      rw [hb]
      simp [hp, e]
    · simp [e]
  | a :: b :: c :: r, ho =>
    simp only [pp_o2, decide_eq_true_eq] at ho
    have e : ¬ t p = a := fun q => hn (by rw [q]; exact ho)
    simp [pp_spl, pp_s2, e]
def pp_L2 (c : Nat) (n : Bool) : Nat → Nat
  | 0 => 45
  | k + 1 => if (pp_tx (pp_L2 c n k)).length < (pp_tx k).length ∧ pp_s2 c n (pp_tx k) = true then k else pp_L2 c n k
theorem pp_lo2 {t : Nat → Nat} {T p : Nat} (hp : p < T) (hl : pp_lt t T p = false) : ∀ k, k ≤ 46 → pp_lo t T p k = pp_L2 (t p) (decide (p + 1 < T ∧ t (p + 1) = 61)) k := by
  intro k
  induction k with
  | zero => intro _; rfl
  | succ k ih =>
    intro hk
    rw [pp_loS, pp_spS hp hl (pp_txO k (by omega)), ih (by omega)]
    rfl
