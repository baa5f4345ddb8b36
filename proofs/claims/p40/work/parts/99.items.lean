/-! the items of a language: what the law writes -/
def zmp (nm : Nat → Nat) (I : List ZI) : ZC := (zit I).map (zvI nm)
theorem zmpA (nm : Nat → Nat) (I J : List ZI) : zmp nm (I ++ J) = zmp nm I ++ zmp nm J := by unfold zmp; rw [zitA, List.map_append]
def zfr (I : List ZI) : ZI := I.headD (50, 0)
def zla : List ZI → ZI
  | [] => (50, 0)
  | u :: I => match I with
    | [] => u
    | _ :: _ => zla I
theorem zlaC (u w : ZI) (I : List ZI) : zla (u :: w :: I) = zla (w :: I) := rfl
theorem zlaA {I J : List ZI} (h : J ≠ []) : zla (I ++ J) = zla J := by
  induction I with
  | nil => rfl
  | cons u I ih =>
    cases I with
    | nil =>
      cases J with
      | nil => exact absurd rfl h
      | cons w J => rfl
    | cons v I => exact ih
theorem zfrA {I J : List ZI} (h : I ≠ []) : zfr (I ++ J) = zfr I := by
  cases I with
  | nil => exact absurd rfl h
  | cons u I => rfl
/-- free to its right; free to its left -/
def zLf (u : ZI) : Prop := ¬ zan u ∧ u.1 ≠ 36 ∧ u.1 ≠ 37
def zRf (w : ZI) : Prop := ¬ zan w ∧ w.1 ≠ 38
theorem zsp_ap {I J : List ZI} (hI : zsp I) (hJ : zsp J) (h : zadj (zla I) (zfr J)) : zsp (I ++ J) := by
  induction I with
  | nil => exact hJ
  | cons u I ih =>
    cases I with
    | nil =>
      cases J with
      | nil => exact hI
      | cons w J => exact ⟨hI.1, h, hJ⟩
    | cons v I => exact ⟨hI.1, hI.2.1, ih hI.2.2 h⟩
theorem zadl {u w : ZI} (h : zLf u) : zadj u w := ⟨fun q => absurd q h.1, fun q => (q.elim (fun q => h.2.1 q) (fun q => h.2.2 q)).elim⟩
theorem zadr {u w : ZI} (h : zRf w) : zadj u w := ⟨fun _ => h.1, fun _ => h.2⟩
theorem zLs {s : Nat} {a : Nat} (h : 26 ≤ s ∧ s ≠ 36 ∧ s ≠ 37 ∧ s ≠ 41 ∧ s ≠ 42) : zLf (s, a) := ⟨fun q => q.elim (fun q => absurd (show s ≤ 25 from q) (by omega)) (fun q => q.elim (fun q => absurd (show s = 41 from q) (by omega)) (fun q => absurd (show s = 42 from q) (by omega))), h.2.1, h.2.2.1⟩
theorem zRs {s : Nat} {a : Nat} (h : 26 ≤ s ∧ s ≠ 38 ∧ s ≠ 41 ∧ s ≠ 42) : zRf (s, a) := ⟨fun q => q.elim (fun q => absurd (show s ≤ 25 from q) (by omega)) (fun q => q.elim (fun q => absurd (show s = 41 from q) (by omega)) (fun q => absurd (show s = 42 from q) (by omega))), h.2.1⟩
theorem zi_s {s : Nat} (h : s ≤ 40) : zwi (s, 0) := Or.inl h
theorem zi_b : zwi (50, 0) := Or.inr (Or.inr (Or.inr (Or.inl rfl)))
theorem zi_l : zwi (51, 0) := Or.inr (Or.inr (Or.inr (Or.inr rfl)))
theorem zi_n {n : Nat} (h : n < 8) : zwi (41, n) := Or.inr (Or.inl ⟨rfl, h⟩)
theorem zi_u {n : Nat} (h : n < 1000000) : zwi (42, n) := Or.inr (Or.inr (Or.inl ⟨rfl, h⟩))
theorem zsp1 {u : ZI} (h : zwi u) : zsp [u] := ⟨h, trivial, trivial⟩
/-- a piece: well made, and its bytes -/
def zpc (n : Nat) (I : List ZI) : Prop := zsp I ∧ I ≠ [] ∧ (zibs I).length ≤ n
theorem zpc.l {m n : Nat} {I J : List ZI} (h : zpc m I) (k : zpc n J) (ha : zLf (zla I)) : zpc (m + n) (I ++ J) := ⟨zsp_ap h.1 k.1 (zadl ha), by cases I with | nil => exact absurd rfl h.2.1 | cons u I => exact List.cons_ne_nil _ _, by rw [zibsA, List.length_append]; have := h.2.2; have := k.2.2; omega⟩
theorem zpc.r {m n : Nat} {I J : List ZI} (h : zpc m I) (k : zpc n J) (ha : zRf (zfr J)) : zpc (m + n) (I ++ J) := ⟨zsp_ap h.1 k.1 (zadr ha), by cases I with | nil => exact absurd rfl h.2.1 | cons u I => exact List.cons_ne_nil _ _, by rw [zibsA, List.length_append]; have := h.2.2; have := k.2.2; omega⟩
theorem zpc.m {m n : Nat} {I : List ZI} (h : zpc m I) (k : m ≤ n) : zpc n I := ⟨h.1, h.2.1, by have := h.2.2; omega⟩
theorem zpc1 {s : Nat} (h : s ≤ 40) : zpc 8 [(s, 0)] := ⟨zsp1 (zi_s h), List.cons_ne_nil _ _, by
  show (zib (s, 0) ++ []).length ≤ 8
  rw [List.append_nil]
  have e : zib (s, 0) = pp_tx s := if_pos (show s < 41 by omega)
  rw [e]
  exact (pp_txL s (by omega)).2.1⟩
theorem zpcs {s n : Nat} (h : s ≤ 40) (hn : (pp_tx s).length ≤ n) : zpc n [(s, 0)] := ⟨zsp1 (zi_s h), List.cons_ne_nil _ _, by
  show (zib (s, 0) ++ []).length ≤ n
  rw [List.append_nil]
  have e : zib (s, 0) = pp_tx s := if_pos (show s < 41 by omega)
  rw [e]
  exact hn⟩
theorem zpcb : zpc 1 [(50, 0)] := ⟨zsp1 zi_b, List.cons_ne_nil _ _, Nat.le_refl _⟩
theorem zpcn {n : Nat} (h : n < 8) : zpc 2 [(41, n)] := ⟨zsp1 (zi_n h), List.cons_ne_nil _ _, by
  show (119 :: zdg n ++ []).length ≤ 2
  rw [zdg1 h]
  exact Nat.le_refl _⟩
theorem zpcu {n k : Nat} (h : n < 1000000) (hk : (zdg n).length ≤ k) : zpc k [(42, n)] := ⟨zsp1 (zi_u h), List.cons_ne_nil _ _, by
  show (zdg n ++ []).length ≤ k
  rw [List.append_nil]
  exact hk⟩
theorem zpcu6 {n : Nat} (h : n < 1000000) : zpc 6 [(42, n)] := zpcu h (zdg_len h).1
theorem zpcu2 {n : Nat} (h : n < 100) : zpc 2 [(42, n)] := zpcu (by omega) (zdf_len2 1 7 n (by omega) (by omega)).1
theorem zpcu1 {n : Nat} (h : n < 10) : zpc 1 [(42, n)] := zpcu (by omega) (zdf_len2 0 7 n (by omega) (by omega)).1
theorem ztxl : (pp_tx 0).length = 4 ∧ (pp_tx 1).length = 2 ∧ (pp_tx 2).length = 4 ∧ (pp_tx 3).length = 3 ∧ (pp_tx 4).length = 5 ∧ (pp_tx 5).length = 2 ∧ (pp_tx 6).length = 4 ∧ (pp_tx 7).length = 4 ∧ (pp_tx 8).length = 4 ∧ (pp_tx 11).length = 5 ∧ (pp_tx 12).length = 2 ∧ (pp_tx 13).length = 4 := by decide +kernel
theorem ztxm : ∀ s, s < 41 → 26 ≤ s → s < 39 → (pp_tx s).length = 1 := by decide +kernel
theorem ztxm2 : ∀ s, s < 41 → 26 ≤ s → (pp_tx s).length ≤ 2 := by decide +kernel
/-! items of expressions -/
def zi0 (e : Z0) : List ZI := if e.1 = 0 then [(42, e.2)] else if e.1 = 1 then [(14, 0)] else if e.1 = 2 then [(15, 0)] else [(zg e.1, 0)] ++ [(50, 0)] ++ [(18, 0)] ++ [(50, 0)] ++ [(41, e.2)]
def zi1 (e : Z1) : List ZI := if e.1 = 0 then zi0 e.2.1 else if e.1 = 5 then [(33, 0)] ++ zi0 e.2.1 else if e.1 = 6 then [(24, 0)] ++ [(26, 0)] ++ zi0 e.2.1 ++ [(31, 0)] ++ zi0 e.2.2 ++ [(27, 0)] else if e.1 = 7 then [(25, 0)] ++ [(26, 0)] ++ zi0 e.2.1 ++ ([(50, 0)] ++ [(31, 0)] ++ [(50, 0)]) ++ zi0 e.2.2 ++ [(27, 0)] else [(26, 0)] ++ zi0 e.2.1 ++ [(zg e.1, 0)] ++ zi0 e.2.2 ++ [(27, 0)]
def zi2 (e : Z2) : List ZI := if 17 ≤ e.1 then [(zg e.1, 0)] ++ [(50, 0)] ++ [(41, e.2.1)] else zi1 e.2.2.1 ++ [(zg e.1, 0)] ++ zi0 e.2.2.2
def zi3 (e : Z3) : List ZI := if e.1 = 0 then zi2 e.2.1 else if e.1 = 19 then [(21, 0)] ++ [(50, 0)] ++ zi2 e.2.1 else [(28, 0)] ++ zi2 e.2.1 ++ ([(50, 0)] ++ [(zg e.1, 0)] ++ [(50, 0)]) ++ zi2 e.2.2 ++ [(29, 0)]
section ZIT
variable {W : Nat} {nm : Nat → Nat}
theorem zm0 {e : Z0} (he : zw0 W e) : zmp nm (zi0 e) = zt0 nm e := by
  obtain ⟨t, k⟩ := e
  have h4 := he.1
  change t < 5 at h4
  have h' : t = 0 ∨ t = 1 ∨ t = 2 ∨ t = 3 ∨ t = 4 := by omega
  rcases h' with rfl | rfl | rfl | rfl | rfl <;> rfl
theorem zm_s {s : Nat} (h : s ≤ 40) : zmp nm [(s, 0)] = [(s, 0)] := by
  have hb : zbl (s, 0) = false := by unfold zbl; rw [decide_eq_false_iff_not]; show ¬ (s = 50 ∨ s = 51); omega
  unfold zmp
  rw [zit_t hb]
  show [zvI nm (s, 0)] = _
  unfold zvI
  rw [if_neg (show ¬ s = 41 by omega), if_neg (show ¬ s = 42 by omega)]
theorem zm_b : zmp nm [(50, 0)] = [] := rfl
theorem zm_n {n : Nat} : zmp nm [(41, n)] = [(41, nI (nm n))] := rfl
theorem zm_u {n : Nat} : zmp nm [(42, n)] = [(42, nI n)] := rfl
theorem zm1 {e : Z1} (he : zw1 W e) : zmp nm (zi1 e) = zt1 nm e := by
  obtain ⟨t, a, c⟩ := e
  unfold zi1 zt1
  rcases he with ⟨h1, h2⟩ | ⟨h1, h2, h3, h4⟩
  · rw [if_pos h1, if_pos h1]; exact zm0 h2
  · change 5 ≤ t at h1
    change t < 12 at h2
    change zw0 W a at h3
    change t ≠ 5 → zw0 W c at h4
    show zmp nm (if t = 0 then zi0 a else if t = 5 then [(33, 0)] ++ zi0 a else if t = 6 then [(24, 0)] ++ [(26, 0)] ++ zi0 a ++ [(31, 0)] ++ zi0 c ++ [(27, 0)] else if t = 7 then [(25, 0)] ++ [(26, 0)] ++ zi0 a ++ ([(50, 0)] ++ [(31, 0)] ++ [(50, 0)]) ++ zi0 c ++ [(27, 0)] else [(26, 0)] ++ zi0 a ++ [(zg t, 0)] ++ zi0 c ++ [(27, 0)]) = (if t = 0 then zt0 nm a else if t = 5 then [(33, 0)] ++ zt0 nm a else if t < 8 then [(zg t, 0), (26, 0)] ++ zt0 nm a ++ [(31, 0)] ++ zt0 nm c ++ [(27, 0)] else [(26, 0)] ++ zt0 nm a ++ [(zg t, 0)] ++ zt0 nm c ++ [(27, 0)])
    rw [if_neg (show ¬ t = 0 by omega), if_neg (show ¬ t = 0 by omega)]
    by_cases h55 : t = 5
    · rw [if_pos h55, if_pos h55, zmpA, zm0 h3]; rfl
    · have h4' := h4 h55
      rw [if_neg h55, if_neg h55]
      by_cases h6 : t = 6
      · subst h6
        rw [if_pos rfl, if_pos (by omega)]
        simp only [zmpA, zm0 h3, zm0 h4']
        rfl
      · rw [if_neg h6]
        by_cases h7 : t = 7
        · subst h7
          rw [if_pos rfl, if_pos (by omega)]
          simp only [zmpA, zm0 h3, zm0 h4', zm_b, List.nil_append, List.append_nil]
          rfl
        · rw [if_neg h7, if_neg (by omega)]
          have hg : zg t ≤ 40 := by
            have : t = 8 ∨ t = 9 ∨ t = 10 ∨ t = 11 := by omega
            rcases this with rfl | rfl | rfl | rfl <;> decide
          simp only [zmpA, zm0 h3, zm0 h4', zm_s hg]
          rfl
theorem zm2 {e : Z2} (he : zw2 W e) : zmp nm (zi2 e) = zt2 nm e := by
  obtain ⟨t, n, a, c⟩ := e
  unfold zi2 zt2
  show zmp nm (if 17 ≤ t then [(zg t, 0)] ++ [(50, 0)] ++ [(41, n)] else zi1 a ++ [(zg t, 0)] ++ zi0 c) = (if 17 ≤ t then [(zg t, 0), (41, nI (nm n))] else zt1 nm a ++ [(zg t, 0)] ++ zt0 nm c)
  rcases he with ⟨h1, h2, h3⟩ | ⟨h1, h2, h3, h4⟩
  · change 17 ≤ t at h1
    change t < 19 at h2
    rw [if_pos h1, if_pos h1]
    have h' : t = 17 ∨ t = 18 := by omega
    rcases h' with rfl | rfl <;> rfl
  · change 12 ≤ t at h1
    change t < 17 at h2
    rw [if_neg (show ¬ 17 ≤ t by omega), if_neg (show ¬ 17 ≤ t by omega)]
    have hg : zg t ≤ 40 := by
      have : t = 12 ∨ t = 13 ∨ t = 14 ∨ t = 15 ∨ t = 16 := by omega
      rcases this with rfl | rfl | rfl | rfl | rfl <;> decide
    rw [zmpA, zmpA, zm1 h3, zm0 h4, zm_s hg]
theorem zm3 {e : Z3} (he : zw3 W e) : zmp nm (zi3 e) = zt3 nm e := by
  obtain ⟨t, a, c⟩ := e
  unfold zi3 zt3
  rcases he with ⟨h1, h2⟩ | ⟨h1, h2, h3, h4⟩
  · rw [if_pos h1, if_pos h1]; exact zm2 h2
  · change 19 ≤ t at h1
    change t < 22 at h2
    change t ≠ 19 → zw2 W c at h4
    show zmp nm (if t = 0 then zi2 a else if t = 19 then [(21, 0)] ++ [(50, 0)] ++ zi2 a else [(28, 0)] ++ zi2 a ++ ([(50, 0)] ++ [(zg t, 0)] ++ [(50, 0)]) ++ zi2 c ++ [(29, 0)]) = (if t = 0 then zt2 nm a else if t = 19 then [(21, 0)] ++ zt2 nm a else [(28, 0)] ++ zt2 nm a ++ [(zg t, 0)] ++ zt2 nm c ++ [(29, 0)])
    rw [if_neg (show ¬ t = 0 by omega), if_neg (show ¬ t = 0 by omega)]
    by_cases h55 : t = 19
    · rw [if_pos h55, if_pos h55, zmpA, zm2 h3]; rfl
    · rw [if_neg h55, if_neg h55]
      have hg : zg t ≤ 40 := by
        have : t = 20 ∨ t = 21 := by omega
        rcases this with rfl | rfl <;> decide
      simp only [zmpA, zm2 h3, zm2 (h4 h55), zm_b, zm_s hg, List.nil_append, List.append_nil]
      rfl
/-- a sum's last item is a name, a number, a word or a bracket -/
def zend2 (u : ZI) : Prop := u.1 ≠ 36 ∧ u.1 ≠ 37
theorem zp_0 {e : Z0} (he : zw0 W e) (hW : W ≤ 8) : zpc 14 (zi0 e) ∧ zend2 (zla (zi0 e)) ∧ (zfr (zi0 e)).1 ≠ 38 := by
  obtain ⟨t, k⟩ := e
  have h4 := he.1
  have h5 := he.2.1
  have h6 := he.2.2
  change t < 5 at h4
  change k < 1000000 at h5
  change 0 < t → k < W at h6
  have h' : t = 0 ∨ t = 1 ∨ t = 2 ∨ t = 3 ∨ t = 4 := by omega
  have hb : zLf (50, 0) := zLs (by decide)
  have hr : zRf (50, 0) := zRs (by decide)
  have look : ∀ s, s < 26 → k < 8 → zpc 14 ([(s, 0)] ++ [(50, 0)] ++ [(18, 0)] ++ [(50, 0)] ++ [(41, k)]) := fun s hs hk => ((((zpc1 (s := s) (by omega)).r zpcb hr).l (zpcs (s := 18) (n := 2) (by omega) (by decide +kernel)) hb).r zpcb hr).l (zpcn hk) hb
  rcases h' with rfl | rfl | rfl | rfl | rfl
  · exact ⟨(zpcu6 h5).m (by omega), ⟨by show 42 ≠ 36; decide, by show 42 ≠ 37; decide⟩, by show 42 ≠ 38; decide⟩
  · exact ⟨(zpc1 (s := 14) (by omega)).m (by omega), ⟨by show 14 ≠ 36; decide, by show 14 ≠ 37; decide⟩, by show 14 ≠ 38; decide⟩
  · exact ⟨(zpc1 (s := 15) (by omega)).m (by omega), ⟨by show 15 ≠ 36; decide, by show 15 ≠ 37; decide⟩, by show 15 ≠ 38; decide⟩
  · exact ⟨look 16 (by omega) (by have := h6 (by omega); omega), ⟨by show 41 ≠ 36; decide, by show 41 ≠ 37; decide⟩, by show 16 ≠ 38; decide⟩
  · exact ⟨look 17 (by omega) (by have := h6 (by omega); omega), ⟨by show 41 ≠ 36; decide, by show 41 ≠ 37; decide⟩, by show 17 ≠ 38; decide⟩
theorem zp_1 {e : Z1} (he : zw1 W e) (hW : W ≤ 8) : zpc 36 (zi1 e) ∧ zend2 (zla (zi1 e)) := by
  obtain ⟨t, a, c⟩ := e
  unfold zi1
  rcases he with ⟨h1, h2⟩ | ⟨h1, h2, h3, h4⟩
  · rw [if_pos h1]
    obtain ⟨k1, k2, k3⟩ := zp_0 h2 hW
    exact ⟨k1.m (by omega), k2⟩
  · change 5 ≤ t at h1
    change t < 12 at h2
    change zw0 W a at h3
    change t ≠ 5 → zw0 W c at h4
    show zpc 36 (if t = 0 then zi0 a else if t = 5 then [(33, 0)] ++ zi0 a else if t = 6 then [(24, 0)] ++ [(26, 0)] ++ zi0 a ++ [(31, 0)] ++ zi0 c ++ [(27, 0)] else if t = 7 then [(25, 0)] ++ [(26, 0)] ++ zi0 a ++ ([(50, 0)] ++ [(31, 0)] ++ [(50, 0)]) ++ zi0 c ++ [(27, 0)] else [(26, 0)] ++ zi0 a ++ [(zg t, 0)] ++ zi0 c ++ [(27, 0)]) ∧ zend2 (zla (if t = 0 then zi0 a else if t = 5 then [(33, 0)] ++ zi0 a else if t = 6 then [(24, 0)] ++ [(26, 0)] ++ zi0 a ++ [(31, 0)] ++ zi0 c ++ [(27, 0)] else if t = 7 then [(25, 0)] ++ [(26, 0)] ++ zi0 a ++ ([(50, 0)] ++ [(31, 0)] ++ [(50, 0)]) ++ zi0 c ++ [(27, 0)] else [(26, 0)] ++ zi0 a ++ [(zg t, 0)] ++ zi0 c ++ [(27, 0)]))
    rw [if_neg (show ¬ t = 0 by omega)]
    obtain ⟨a1, a2, a3⟩ := zp_0 h3 hW
    have sy : ∀ s, 26 ≤ s → s < 39 → zpc 1 [(s, 0)] := fun s q1 q2 => zpcs (by omega) (by rw [ztxm s (by omega) q1 q2]; exact Nat.le_refl _)
    have ll : ∀ (I : List ZI) (s : Nat), 26 ≤ s ∧ s ≠ 36 ∧ s ≠ 37 ∧ s ≠ 41 ∧ s ≠ 42 → zLf (zla (I ++ [(s, 0)])) := fun I s q => by rw [zlaA (List.cons_ne_nil _ _)]; exact zLs q
    have e27 : ∀ I : List ZI, zend2 (zla (I ++ [(27, 0)])) := fun I => by rw [zlaA (List.cons_ne_nil _ _)]; exact ⟨by show 27 ≠ 36; decide, by show 27 ≠ 37; decide⟩
    by_cases h55 : t = 5
    · rw [if_pos h55]
      refine ⟨((sy 33 (by omega) (by omega)).l a1 (zLs (by decide))).m (by omega), ?_⟩
      rw [zlaA a1.2.1]; exact a2
    · obtain ⟨c1, c2, c3⟩ := zp_0 (h4 h55) hW
      rw [if_neg h55]
      by_cases h6 : t = 6
      · rw [if_pos h6]
        exact ⟨(((((zpcs (s := 24) (n := 3) (by omega) (by decide +kernel)).r (sy 26 (by omega) (by omega)) (zRs (by decide))).l a1 (ll _ 26 (by decide))).r (sy 31 (by omega) (by omega)) (zRs (by decide))).l c1 (ll _ 31 (by decide))).r (sy 27 (by omega) (by omega)) (zRs (by decide)) |>.m (by omega), e27 _⟩
      · rw [if_neg h6]
        by_cases h7 : t = 7
        · rw [if_pos h7]
          have mid : zpc 3 ([(50, 0)] ++ [(31, 0)] ++ [(50, 0)]) := (zpcb.l (sy 31 (by omega) (by omega)) (zLs (by decide))).l zpcb (ll _ 31 (by decide))
          exact ⟨(((((zpcs (s := 25) (n := 3) (by omega) (by decide +kernel)).r (sy 26 (by omega) (by omega)) (zRs (by decide))).l a1 (ll _ 26 (by decide))).r mid (zRs (by decide))).l c1 (by rw [zlaA (by decide)]; exact zLs (by decide))).r (sy 27 (by omega) (by omega)) (zRs (by decide)) |>.m (by omega), e27 _⟩
        · rw [if_neg h7]
          have hg : 32 ≤ zg t ∧ zg t ≤ 35 := by
            have : t = 8 ∨ t = 9 ∨ t = 10 ∨ t = 11 := by omega
            rcases this with rfl | rfl | rfl | rfl <;> decide
          exact ⟨((((sy 26 (by omega) (by omega)).l a1 (zLs (by decide))).r (sy (zg t) (by omega) (by omega)) (zRs (by omega))).l c1 (ll _ (zg t) (by omega))).r (sy 27 (by omega) (by omega)) (zRs (by decide)) |>.m (by omega), e27 _⟩
theorem zp_2 {e : Z2} (he : zw2 W e) (hW : W ≤ 8) : zpc 52 (zi2 e) := by
  obtain ⟨t, n, a, c⟩ := e
  unfold zi2
  show zpc 52 (if 17 ≤ t then [(zg t, 0)] ++ [(50, 0)] ++ [(41, n)] else zi1 a ++ [(zg t, 0)] ++ zi0 c)
  rcases he with ⟨h1, h2, h3⟩ | ⟨h1, h2, h3, h4⟩
  · change 17 ≤ t at h1
    change t < 19 at h2
    change n < W at h3
    rw [if_pos h1]
    have hg : zg t ≤ 40 := by
      have : t = 17 ∨ t = 18 := by omega
      rcases this with rfl | rfl <;> decide
    exact (((zpc1 hg).r zpcb (zRs (by decide))).l (zpcn (by omega)) (by rw [zlaA (List.cons_ne_nil _ _)]; exact zLs (by decide))).m (by omega)
  · change 12 ≤ t at h1
    change t < 17 at h2
    rw [if_neg (show ¬ 17 ≤ t by omega)]
    obtain ⟨a1, a2⟩ := zp_1 h3 hW
    obtain ⟨c1, c2, c3⟩ := zp_0 h4 hW
    have hg : 36 ≤ zg t ∧ zg t ≤ 40 := by
      have : t = 12 ∨ t = 13 ∨ t = 14 ∨ t = 15 ∨ t = 16 := by omega
      rcases this with rfl | rfl | rfl | rfl | rfl <;> decide
    have nan : ¬ zan (zg t, 0) := fun q => by
      rcases q with q | q | q
      · have : zg t ≤ 25 := q; omega
      · have : zg t = 41 := q; omega
      · have : zg t = 42 := q; omega
    have s1 : zsp (zi1 a ++ [(zg t, 0)]) := zsp_ap a1.1 (zsp1 (zi_s (by omega))) ⟨fun _ => nan, fun q => q.elim (fun q => absurd q a2.1) (fun q => absurd q a2.2)⟩
    refine ⟨zsp_ap s1 c1.1 ?_, ?_, ?_⟩
    · rw [zlaA (List.cons_ne_nil _ _)]
      exact ⟨fun q => absurd q nan, fun _ => c3⟩
    · cases hz : zi1 a with
      | nil => exact absurd hz a1.2.1
      | cons u I => exact List.cons_ne_nil _ _
    · rw [zibsA, zibsA, List.length_append, List.length_append]
      have e : (zibs [(zg t, 0)]).length ≤ 2 := by
        show (zib (zg t, 0) ++ []).length ≤ 2
        rw [List.append_nil]
        have e2 : zib (zg t, 0) = pp_tx (zg t) := if_pos (show zg t < 41 by omega)
        rw [e2]
        exact ztxm2 (zg t) (by omega) (by omega)
      have q1 : (zibs (zi1 a)).length ≤ 36 := a1.2.2
      have q2 : (zibs (zi0 c)).length ≤ 14 := c1.2.2
      omega
theorem zp_3 {e : Z3} (he : zw3 W e) (hW : W ≤ 8) : zpc 120 (zi3 e) := by
  obtain ⟨t, a, c⟩ := e
  unfold zi3
  rcases he with ⟨h1, h2⟩ | ⟨h1, h2, h3, h4⟩
  · rw [if_pos h1]; exact (zp_2 h2 hW).m (by omega)
  · change 19 ≤ t at h1
    change t < 22 at h2
    change t ≠ 19 → zw2 W c at h4
    show zpc 120 (if t = 0 then zi2 a else if t = 19 then [(21, 0)] ++ [(50, 0)] ++ zi2 a else [(28, 0)] ++ zi2 a ++ ([(50, 0)] ++ [(zg t, 0)] ++ [(50, 0)]) ++ zi2 c ++ [(29, 0)])
    rw [if_neg (show ¬ t = 0 by omega)]
    have a1 := zp_2 h3 hW
    have lb : ∀ (I : List ZI), zLf (zla (I ++ [(50, 0)])) := fun I => by rw [zlaA (List.cons_ne_nil _ _)]; exact zLs (by decide)
    by_cases h55 : t = 19
    · rw [if_pos h55]
      exact (((zpc1 (s := 21) (by omega)).r zpcb (zRs (by decide))).l a1 (lb _)).m (by omega)
    · rw [if_neg h55]
      have c1 := zp_2 (h4 h55) hW
      have hg : zg t ≤ 40 := by
        have : t = 20 ∨ t = 21 := by omega
        rcases this with rfl | rfl <;> decide
      have mid : zpc 6 ([(50, 0)] ++ [(zg t, 0)] ++ [(50, 0)]) := by
        have hn : (pp_tx (zg t)).length ≤ 4 := by
          have : t = 20 ∨ t = 21 := by omega
          rcases this with rfl | rfl <;> decide +kernel
        exact (zpcb.l (zpcs hg hn) (zLs (by decide))).r zpcb (zRs (by decide))
      exact ((((zpc1 (s := 28) (by omega)).l a1 (zLs (by decide))).r mid (zRs (by decide))).l c1 (by rw [zlaA (by simp)]; exact lb _)).r (zpcs (s := 29) (n := 1) (by omega) (by decide +kernel)) (zRs (by decide)) |>.m (by omega)
end ZIT
