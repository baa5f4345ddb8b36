/-! the class reads words -/
theorem zndv : ∀ c, c < 330 → ∀ b, b < 10 → 0 < b → (-nI c) / nI b = -nI (c / b) := by decide +kernel
/-- a glide's pitch -/
def zgl (a c n k : Nat) : Nat := if a ≤ c then a + (c - a) * k / n else a - (a - c) * k / n
theorem zgl_d {c k n : Nat} (hk : k < n) : c * k / n ≤ c := by
  have h1 : c * k ≤ c * n := Nat.mul_le_mul_left _ (by omega)
  exact Nat.div_le_of_le_mul (by rw [Nat.mul_comm n c]; exact h1)
theorem zglB {a c n k : Nat} (ha : a ≤ 40) (hc : c ≤ 40) (hk : k < n) : zgl a c n k ≤ 40 := by
  unfold zgl
  split
  · have := zgl_d (c := c - a) hk
    omega
  · exact Nat.le_trans (Nat.sub_le _ _) ha
/-- what both reckon of a glide -/
theorem zglQ {a c n k : Nat} (ha : a ≤ 40) (hc : c ≤ 40) (hn : n < 10) (hk : k < n) : nI a + ((nI c - nI a) * nI k) / nI n = nI (zgl a c n k) := by
  unfold zgl
  by_cases h : a ≤ c
  · have h1 : (c - a) * k ≤ 40 * 10 := Nat.mul_le_mul (by omega) (by omega)
    rw [if_pos h, pk_sub h, pk_mul, pk_div (by omega) (by omega) (by omega), nI_add]
  · have h1 : (a - c) * k ≤ 40 * 8 := Nat.mul_le_mul (by omega) (by omega)
    have h2 := zgl_d (c := a - c) hk
    have e1 : nI c - nI a = -nI (a - c) := by
      apply Int32.toInt_inj.mp
      rw [pk_sub_toInt (by omega) (by omega), sb_negT (by omega)]
      omega
    rw [if_neg h, e1, Int32.neg_mul, pk_mul, zndv _ (by omega) _ hn (by omega), ← Int32.sub_eq_add_neg, pk_sub (by omega)]
/-- a part: hold 0, glide 1, rest 2; from, to, beats -/
abbrev ZP : Type := Nat × Nat × Nat × Nat
def zpa (u : ZP) : Nat := if u.1 = 2 then 0 else u.2.1
def zpz (u : ZP) : Nat := if u.1 = 2 then 0 else if u.1 = 0 then u.2.1 else u.2.2.1
def zwp (u : ZP) : Prop := u.1 ≤ 2 ∧ 1 ≤ u.2.1 ∧ u.2.1 ≤ 40 ∧ 1 ≤ u.2.2.1 ∧ u.2.2.1 ≤ 40 ∧ 1 ≤ u.2.2.2 ∧ u.2.2.2 ≤ 8
def ztp (u : ZP) : ZC := (if u.1 = 0 then [(2, 0), (42, nI u.2.1)] else if u.1 = 1 then [(4, 0), (42, nI u.2.1), (5, 0), (42, nI u.2.2.1)] else [(6, 0)]) ++ [(3, 0), (42, nI u.2.2.2)]
def zln (P : Nat → ZP) : Nat → Nat
  | 0 => 0
  | m + 1 => zln P m + (P m).2.2.2
def zpi (P : Nat → ZP) : Nat → Nat → Nat
  | 0, _ => 0
  | m + 1, k => if k < zln P m then zpi P m k else if k < zln P (m + 1) then zgl (zpa (P m)) (zpz (P m)) (P m).2.2.2 (k - zln P m) else 0
theorem zpab {u : ZP} (h : zwp u) : zpa u ≤ 40 ∧ zpz u ≤ 40 := by
  obtain ⟨h1, h2, h3, h4, h5, -⟩ := h
  unfold zpa zpz
  constructor
  · split <;> omega
  · split
    · omega
    · split <;> omega
theorem zpiB {P : Nat → ZP} : ∀ m, (∀ j, j < m → zwp (P j)) → ∀ k, zpi P m k ≤ 40 := by
  intro m
  induction m with
  | zero => intro _ k; exact Nat.zero_le _
  | succ m ih =>
    intro h k
    have hp := zpab (h m (by omega))
    have i := ih (fun j hj => h j (by omega)) k
    unfold zpi
    split
    · exact i
    · split
      · rename_i h1 h2
        have : zln P (m + 1) = zln P m + (P m).2.2.2 := rfl
        exact zglB hp.1 hp.2 (by omega)
      · exact Nat.zero_le _
theorem zlnB {P : Nat → ZP} : ∀ m, (∀ j, j < m → zwp (P j)) → zln P m ≤ 8 * m := by
  intro m
  induction m with
  | zero => intro _; exact Nat.le_refl _
  | succ m ih =>
    intro h
    have i := ih (fun j hj => h j (by omega))
    have := (h m (by omega)).2.2.2.2.2.2
    show zln P m + (P m).2.2.2 ≤ _
    omega
section ZPW
variable {tS : Nat → Nat} {tV : Nat → Int32} {b v i s W : Nat} {x y z : CS} {nm : Nat → Nat}
/-- parser moves; words are written; all else stays -/
def zV (v w : Nat) (x x' : CS) : Prop := (∀ j, j ≠ 162 → j ≠ pp_wd v w + 1 → j ≠ pp_wd v w + 2 → x'.1 j = x.1 j) ∧ ∀ j, j ≠ 162 → x'.2 j = x.2 j
theorem zV.tr {v w : Nat} (h : zV v w x y) (k : zV v w y z) : zV v w x z := ⟨fun j h1 h2 h3 => (k.1 j h1 h2 h3).trans (h.1 j h1 h2 h3), fun j h1 => (k.2 j h1).trans (h.2 j h1)⟩
theorem zV.rf (v w : Nat) (x : CS) : zV v w x x := ⟨fun _ _ _ _ => rfl, fun _ _ => rfl⟩
theorem zV.m {v w : Nat} (h1 : ∀ j, j ≠ 162 → y.1 j = x.1 j) (h2 : ∀ j, j ≠ 162 → y.2 j = x.2 j) : zV v w x y := ⟨fun j a _ _ => h1 j a, fun j a => h2 j a⟩
/-- a number in its bounds -/
theorem znu (h : zS tS tV b v i s x) (hi : i < 400) {n lo hi' : Nat} (ht : tS i = 42) (hw : tV i = nI n) (h1 : lo ≤ n) (h2 : n ≤ hi') (h3 : hi' < 2 ^ 30) : ∃ x', f_X2_readNumber (nI lo) (nI hi') x = some (nI n, x') ∧ zS tS tV b v (i + 1) s x' ∧ (∀ j, j ≠ 162 → x'.1 j = x.1 j) ∧ ∀ j, j ≠ 162 → x'.2 j = x.2 j := by
  obtain ⟨x', e1, e2, e3, e4⟩ := zst h hi
  refine ⟨x', ?_, e2.1, e3, e4⟩
  unfold f_X2_readNumber f_X2_readNumber_36
  rw [if_pos (by rw [h.sg]; exact ht), h.2.2.2.2.2.1, hw, if_neg (nI_nlt h1 (by omega)), if_pos (nI_le h2 (by omega)), e1]
  rfl
/-- the row of the word that is read: n beats so far -/
def zRw (x : CS) (v w : Nat) (p : Nat → Nat) (n : Nat) : Prop := x.1 (pp_wd v w + 1) 1 = nI n ∧ ∀ k, k < n → x.1 (pp_wd v w + 2) k = nI (p k)
theorem zadd {w n u : Nat} {p : Nat → Nat} (h : zS tS tV b v i s x) (hw : w < 8) (hR : zRw x v w p n) (hn : n < 24) : ∃ x', f_X3_add (pp_wd v w + 1) (nI u) x = some x' ∧ zS tS tV b v i s x' ∧ x'.1 (pp_wd v w + 1) 1 = nI (n + 1) ∧ (∀ k, k < n → x'.1 (pp_wd v w + 2) k = nI (p k)) ∧ x'.1 (pp_wd v w + 2) n = nI u ∧ zV v w x x' := by
  obtain ⟨h1, h2⟩ := hR
  have hv := h.hv
  have hb := h.hb
  have e0 : pp_wd v w + 1 + 1 = pp_wd v w + 2 := rfl
  have nb : b ≠ pp_wd v w + 1 ∧ b ≠ pp_wd v w + 2 := by unfold pp_wd; omega
  have nt : (7 : Nat) ≠ pp_wd v w + 1 ∧ (7 : Nat) ≠ pp_wd v w + 2 ∧ (162 : Nat) ≠ pp_wd v w + 1 ∧ (162 : Nat) ≠ pp_wd v w + 2 := by unfold pp_wd; omega
  have e1 : (g_wi x (pp_wd v w + 2) n (nI u)).1 (pp_wd v w + 1) 1 = nI n := by
    have : pp_wd v w + 1 ≠ pp_wd v w + 2 := by omega
    simp [g_wi, h1]
  refine ⟨g_wi (g_wi x (pp_wd v w + 2) n (nI u)) (pp_wd v w + 1) 1 (nI (n + 1)), ?_, ?_, ?_, fun k hk => ?_, ?_, fun j q1 q2 q3 => ?_, fun j _ => rfl⟩
  · unfold f_X3_add
    rw [h1, if_neg (nI_pos (by omega)), if_neg (show ¬ (24 : Int32) ≤ nI n from nI_ge (b := 24) hn (by omega)), if_pos ((pp_ok (by omega)).mpr hn), nI_clamp (by omega), e0, e1, nI_1]
  · obtain ⟨a1, a2, a3, a4, a5, a6, a7, a8, a9, a10, a11⟩ := h
    refine ⟨a1, ?_, ?_, ?_, a5, ?_, a7, a8, ?_, a10, a11⟩
    · simp [g_wi, nt.1, nt.2.1, a2]
    · simp [g_wi, nt.2.2.1, nt.2.2.2, a3]
    · simp [g_wi, nt.2.2.1, nt.2.2.2, a4]
    · simp [g_wi, nt.2.2.1, nt.2.2.2, a6]
    · simp [g_wi, nb.1, nb.2, a9]
  · simp [g_wi, upd]
  · have q1 : k ≠ n := by omega
    simp [g_wi, upd, q1, h2 k hk]
  · simp [g_wi, upd]
  · simp [g_wi, q2, q3]
theorem zglL {w n a c m : Nat} (hw : w < 8) (ha : a ≤ 40) (hc : c ≤ 40) (hm : m < 9) (hnm : n + m ≤ 24) (q : Nat → Nat) : ∀ d fu k x, d = m - k → d < fu → k ≤ m → zS tS tV b v i s x → zRw x v w (fun j => if j < n then q j else zgl a c m (j - n)) (n + k) → ∃ x', f_X3_addGlide_3 fu (pp_wd v w + 1) (nI a) (nI c) (nI m) (nI k) x = some x' ∧ zS tS tV b v i s x' ∧ zRw x' v w (fun j => if j < n then q j else zgl a c m (j - n)) (n + m) ∧ zV v w x x' := by
  intro d
  induction d with
  | zero =>
    intro fu k x hd hfu hk h hR
    obtain ⟨f1, rfl⟩ : ∃ f, fu = f + 1 := ⟨fu - 1, by omega⟩
    have e : k = m := by omega
    subst e
    refine ⟨x, ?_, h, hR, zV.rf v w x⟩
    rw [f_X3_addGlide_3, if_pos (nI_le (by omega) (by omega))]
  | succ d ih =>
    intro fu k x hd hfu hk h hR
    obtain ⟨f1, rfl⟩ : ∃ f, fu = f + 1 := ⟨fu - 1, by omega⟩
    obtain ⟨x1, b1, b2, b3, b4, b5, b6⟩ := zadd (u := zgl a c m k) h hw hR (by omega)
    obtain ⟨x2, c1, c2, c3, c4⟩ := ih f1 (k + 1) x1 (by omega) (by omega) (by omega) b2 ⟨b3, fun j hj => by
      by_cases e : j = n + k
      · rw [e, b5]
        show nI (zgl a c m k) = nI (if n + k < n then _ else zgl a c m (n + k - n))
        rw [if_neg (by omega), show n + k - n = k by omega]
      · exact b4 j (by omega)⟩
    refine ⟨x2, ?_, c2, c3, b6.tr c4⟩
    rw [f_X3_addGlide_3, if_neg (nI_ge (by omega) (by omega)), if_neg (show ¬ (9 : Int32) ≤ nI k from nI_ge (b := 9) (by omega) (by omega))]
    unfold f_X12_quotient
    rw [if_neg (nI_ne0 (by omega) (by omega)), if_pos (nI_ne0 (by omega) (by omega)), pp_b, zglQ ha hc (by omega) (by omega), b1, pp_b, nI_1]
    exact c1
/-- only the parser moves -/
def zM (x x' : CS) : Prop := (∀ j, j ≠ 162 → x'.1 j = x.1 j) ∧ ∀ j, j ≠ 162 → x'.2 j = x.2 j
theorem zM.tr (h : zM x y) (k : zM y z) : zM x z := ⟨fun j a => (k.1 j a).trans (h.1 j a), fun j a => (k.2 j a).trans (h.2 j a)⟩
theorem zM.rf (x : CS) : zM x x := ⟨fun _ _ => rfl, fun _ _ => rfl⟩
theorem zM.V {v w : Nat} (h : zM x y) : zV v w x y := ⟨fun j a _ _ => h.1 j a, h.2⟩
theorem zRw.M {v w n : Nat} {p : Nat → Nat} (h : zRw x v w p n) (hm : zM x y) (hv : v = 41 ∨ v = 91) (hw : w < 8) : zRw y v w p n := by
  have n1 : pp_wd v w + 1 ≠ 162 := by unfold pp_wd; omega
  have n2 : pp_wd v w + 2 ≠ 162 := by unfold pp_wd; omega
  unfold zRw
  rw [hm.1 _ n1, hm.1 _ n2]
  exact h
/-- one part -/
theorem zpart {P : Nat → ZP} {w m : Nat} (h : zS tS tV b v i s x) (hc : x.1 v 2 = nI (w + 1)) (hw : w < 8) (hP : ∀ j, j < m + 1 → zwp (P j)) (hm : m < 3) (hR : zRw x v w (zpi P m) (zln P m)) (ht : zat tS tV i (ztp (P m))) (hi : i + (ztp (P m)).length ≤ 400) : ∃ x', f_X2_readPart x = some x' ∧ zS tS tV b v (i + (ztp (P m)).length) s x' ∧ zRw x' v w (zpi P (m + 1)) (zln P (m + 1)) ∧ zV v w x x' := by
  have hv := h.hv
  have hl := zlnB m (fun j hj => hP j (by omega))
  have hu := hP m (by omega)
  have hab := zpab hu
  have hln : zln P (m + 1) = zln P m + (P m).2.2.2 := rfl
  obtain ⟨u1, u2, u3, u4, u5, u6, u7⟩ := id hu
  have tail : ∀ j x1, zS tS tV b v j s x1 → zM x x1 → tS j = 3 → tS (j + 1) = 42 → tV (j + 1) = nI (P m).2.2.2 → j + 2 = i + (ztp (P m)).length → ∃ x', f_X2_readPart_98 (pp_wd v w + 1) (nI (zpa (P m))) (nI (zpz (P m))) x1 = some x' ∧ zS tS tV b v (i + (ztp (P m)).length) s x' ∧ zRw x' v w (zpi P (m + 1)) (zln P (m + 1)) ∧ zV v w x x' := by
    intro j x1 h1 hM t1 t2 t3 hj
    obtain ⟨x2, a1, a2, a3, a4⟩ := zex h1 (by omega) t1
    have hM2 : zM x x2 := hM.tr ⟨a3, a4⟩
    have hR2 := hR.M hM2 hv hw
    obtain ⟨x3, b1, b2, b3, b4⟩ := znu (lo := 1) (hi' := min 9 (24 - zln P m)) a2.1 (by omega) t2 t3 u6 (by omega) (by omega)
    have hM3 : zM x x3 := hM2.tr ⟨b3, b4⟩
    have hR3 := hR.M hM3 hv hw
    obtain ⟨x4, c1, c2, c3, c4⟩ := zglL (n := zln P m) (q := zpi P m) hw hab.1 hab.2 (show (P m).2.2.2 < 9 by omega) (by omega) ((P m).2.2.2 - 0) g_fuel 0 x3 rfl (by unfold g_fuel; omega) (by omega) b2 ⟨hR3.1, fun k hk => by
      have hk' : k < zln P m := hk
      show _ = nI (if k < zln P m then zpi P m k else _)
      rw [if_pos hk']
      exact hR3.2 k hk'⟩
    refine ⟨x4, ?_, by rw [← hj]; exact c2, ⟨c3.1, fun k hk => ?_⟩, hM3.V.tr c4⟩
    · unfold f_X2_readPart_98
      have e24 : (24 : Int32) - nI (zln P m) = nI (24 - zln P m) := pk_sub (a := 24) (by omega)
      have e9 : g_min (9 : Int32) (nI (24 - zln P m)) = nI (min 9 (24 - zln P m)) := pp_min (a := 9) (by omega) (by omega)
      have b1' : f_X2_readNumber (1 : Int32) (nI (min 9 (24 - zln P m))) x2 = some (nI (P m).2.2.2, x3) := b1
      rw [a1, pp_b, hR2.1, e24, e9, b1', pp_b]
      show Option.bind (f_X3_addGlide_3 g_fuel (pp_wd v w + 1) (nI (zpa (P m))) (nI (zpz (P m))) (nI (P m).2.2.2) (nI 0) x3) _ = _
      rw [c1]
      rfl
    · have e : zpi P (m + 1) k = if k < zln P m then zpi P m k else if k < zln P (m + 1) then zgl (zpa (P m)) (zpz (P m)) (P m).2.2.2 (k - zln P m) else 0 := rfl
      rw [e, if_pos hk]
      exact c3.2 k hk
  unfold f_X2_readPart
  rw [h.2.2.2.2.2.2.2.1, if_pos (pp_k9 hv), hc, show nI (w + 1) - (1 : Int32) = nI w from nI_pred w, pp_word hw, pp_b, if_pos (pp_k10 hv hw), h.sg]
  obtain ⟨σ, a, c, n, e⟩ : ∃ σ a c n, P m = (σ, a, c, n) := ⟨_, _, _, _, rfl⟩
  rw [e] at ht hi tail u1 u2 u3 u4 u5 u6 u7 ⊢
  change σ ≤ 2 at u1
  change 1 ≤ a at u2
  change a ≤ 40 at u3
  change 1 ≤ c at u4
  change c ≤ 40 at u5
  have h' : σ = 0 ∨ σ = 1 ∨ σ = 2 := by omega
  rcases h' with rfl | rfl | rfl
  · change zat tS tV i ([(2, 0), (42, nI a)] ++ [(3, 0), (42, nI n)]) at ht
    have hi' : i + 4 ≤ 400 := hi
    obtain ⟨g1, -, g2⟩ := ht.l.c
    obtain ⟨g3, g4⟩ := g2.one
    obtain ⟨g5, -, g6⟩ := ht.r.c
    obtain ⟨g7, g8⟩ := g6.one
    obtain ⟨x1, a1, a2, a3, a4⟩ := zst h (by omega)
    obtain ⟨x2, b1, b2, b3, b4⟩ := znu (lo := 1) (hi' := 40) a2.1 (by omega) g3 g4 u2 u3 (by omega)
    have b1' : f_X2_readNumber (1 : Int32) (40 : Int32) x1 = some (nI a, x2) := b1
    rw [g1, if_pos rfl, a1, pp_b, b1', pp_b]
    exact tail (i + 1 + 1) x2 b2 ((show zM x x1 from ⟨a3, a4⟩).tr ⟨b3, b4⟩) g5 g7 g8 rfl
  · change zat tS tV i ([(4, 0), (42, nI a), (5, 0), (42, nI c)] ++ [(3, 0), (42, nI n)]) at ht
    have hi' : i + 6 ≤ 400 := hi
    obtain ⟨g1, -, g2⟩ := ht.l.c
    obtain ⟨g3, g4, g2'⟩ := g2.c
    obtain ⟨k1, -, k2⟩ := g2'.c
    obtain ⟨k3, k4⟩ := k2.one
    obtain ⟨g5, -, g6⟩ := ht.r.c
    obtain ⟨g7, g8⟩ := g6.one
    obtain ⟨x1, a1, a2, a3, a4⟩ := zst h (by omega)
    obtain ⟨x2, b1, b2, b3, b4⟩ := znu (lo := 1) (hi' := 40) a2.1 (by omega) g3 g4 u2 u3 (by omega)
    have b1' : f_X2_readNumber (1 : Int32) (40 : Int32) x1 = some (nI a, x2) := b1
    obtain ⟨x3, c1, c2, c3, c4⟩ := zex b2 (by omega) k1
    obtain ⟨x4, d1, d2, d3, d4⟩ := znu (lo := 1) (hi' := 40) c2.1 (by omega) k3 k4 u4 u5 (by omega)
    have d1' : f_X2_readNumber (1 : Int32) (40 : Int32) x3 = some (nI c, x4) := d1
    rw [g1, if_neg (by decide), if_pos rfl, a1, pp_b, b1', pp_b]
    show ∃ x', Option.bind (f_X2_expect 5 x2) _ = _ ∧ _
    rw [c1, pp_b, d1', pp_b]
    exact tail (i + 1 + 1 + 1 + 1) x4 d2 ((((show zM x x1 from ⟨a3, a4⟩).tr ⟨b3, b4⟩).tr ⟨c3, c4⟩).tr ⟨d3, d4⟩) g5 g7 g8 rfl
  · change zat tS tV i ([(6, 0)] ++ [(3, 0), (42, nI n)]) at ht
    have hi' : i + 3 ≤ 400 := hi
    have g1 := ht.l.one.1
    obtain ⟨g5, -, g6⟩ := ht.r.c
    obtain ⟨g7, g8⟩ := g6.one
    obtain ⟨x1, a1, a2, a3, a4⟩ := zex h (by omega) g1
    rw [g1, if_neg (by decide), if_neg (by decide), a1, pp_b]
    exact tail (i + 1) x1 a2.1 ⟨a3, a4⟩ g5 g7 g8 rfl
/-- tokens of the parts behind the first -/
def ztq (P : Nat → ZP) (m : Nat) : Nat → ZC
  | 0 => []
  | d + 1 => (31, 0) :: ztp (P m) ++ ztq P (m + 1) d
theorem zparts {P : Nat → ZP} {w M : Nat} (hw : w < 8) (hM3 : M ≤ 3) (hP : ∀ j, j < M → zwp (P j)) : ∀ d fu m i l x, m + d = M → 0 < m → d < fu → l + d < 300 → zS tS tV b v i s x → x.1 v 2 = nI (w + 1) → zRw x v w (zpi P m) (zln P m) → zat tS tV i (ztq P m d) → i + (ztq P m d).length < 400 → tS (i + (ztq P m d).length) = 30 → ∃ x', f_X2_readWord_21 fu (nI l) x = some x' ∧ zS tS tV b v (i + (ztq P m d).length) s x' ∧ zRw x' v w (zpi P M) (zln P M) ∧ zV v w x x' := by
  intro d
  induction d with
  | zero =>
    intro fu m i l x hm hm0 hfu hl h hc hR ht hi hq
    obtain ⟨f1, rfl⟩ : ∃ f, fu = f + 1 := ⟨fu - 1, by omega⟩
    have e : m = M := by omega
    subst e
    refine ⟨x, ?_, h, hR, zV.rf v w x⟩
    have hq' : tS i = 30 := hq
    rw [f_X2_readWord_21, if_neg (show ¬ (400 : Int32) ≤ nI l from nI_ge (b := 400) (by omega) (by omega)), h.sg, hq', if_neg (by decide)]
  | succ d ih =>
    intro fu m i l x hm hm0 hfu hl h hc hR ht hi hq
    obtain ⟨f1, rfl⟩ : ∃ f, fu = f + 1 := ⟨fu - 1, by omega⟩
    have hv := h.hv
    have el : (ztq P m (d + 1)).length = 1 + (ztp (P m)).length + (ztq P (m + 1) d).length := by
      show ((31, (0 : Int32)) :: ztp (P m) ++ ztq P (m + 1) d).length = _
      rw [List.length_append, List.length_cons]
      omega
    rw [el] at hi hq ⊢
    have ht' : zat tS tV i ((31, (0 : Int32)) :: ztp (P m) ++ ztq P (m + 1) d) := ht
    obtain ⟨g1, -, g2⟩ := ht'.l.c
    have g3 := ht'.r
    rw [List.length_cons] at g3
    obtain ⟨x1, a1, a2, a3, a4⟩ := zst h (by omega)
    have hMx : zM x x1 := ⟨a3, a4⟩
    have hv2 : v ≠ 162 := by omega
    obtain ⟨x2, b1, b2, b3, b4⟩ := zpart a2.1 (by rw [a3 v hv2]; exact hc) hw (fun j hj => hP j (by omega)) (by omega) (hR.M hMx hv hw) g2 (by omega)
    have hV2 : zV v w x x2 := hMx.V.tr b4
    obtain ⟨x3, c1, c2, c3, c4⟩ := ih f1 (m + 1) (i + 1 + (ztp (P m)).length) (l + 1) x2 (by omega) (by omega) (by omega) (by omega) b2 (by rw [hV2.1 v hv2 (by unfold pp_wd; omega) (by unfold pp_wd; omega)]; exact hc) b3 (by rw [show i + 1 + (ztp (P m)).length = i + ((ztp (P m)).length + 1) by omega]; exact g3) (by omega) (by rw [show i + 1 + (ztp (P m)).length + (ztq P (m + 1) d).length = i + (1 + (ztp (P m)).length + (ztq P (m + 1) d).length) by omega]; exact hq)
    refine ⟨x3, ?_, by rw [show i + (1 + (ztp (P m)).length + (ztq P (m + 1) d).length) = i + 1 + (ztp (P m)).length + (ztq P (m + 1) d).length by omega]; exact c2, c3, hV2.tr c4⟩
    rw [f_X2_readWord_21, if_neg (show ¬ (400 : Int32) ≤ nI l from nI_ge (b := 400) (by omega) (by omega)), h.sg, g1, if_pos rfl, a1, pp_b, b1, pp_b, nI_1]
    exact c1
end ZPW
