/-! the items of rules, words and the whole language -/
def zir (r : ZR) : List ZI := [(9 + r.1, 0)] ++ [(50, 0)] ++ [(41, r.2.1)] ++ (if r.1 = 2 then [(50, 0)] ++ [(12, 0)] ++ [(50, 0)] ++ zi1 r.2.2.1 else []) ++ (if r.2.2.2.1 ≠ 0 then [(50, 0)] ++ [(13, 0)] ++ [(50, 0)] ++ zi3 r.2.2.2.2 else []) ++ [(30, 0)]
def zipp (u : ZP) : List ZI := (if u.1 = 0 then [(2, 0)] ++ [(50, 0)] ++ [(42, u.2.1)] else if u.1 = 1 then [(4, 0)] ++ [(50, 0)] ++ [(42, u.2.1)] ++ [(50, 0)] ++ [(5, 0)] ++ [(50, 0)] ++ [(42, u.2.2.1)] else [(6, 0)]) ++ [(50, 0)] ++ [(3, 0)] ++ [(50, 0)] ++ [(42, u.2.2.2)]
def zij (P : Nat → ZP) : Nat → List ZI
  | 0 => []
  | m + 1 => zij P m ++ (if m = 0 then [] else [(31, 0)] ++ [(50, 0)]) ++ zipp (P m)
def ziw0 (w : Nat) : List ZI := [(0, 0)] ++ [(50, 0)] ++ [(41, w)] ++ [(50, 0)] ++ [(1, 0)] ++ [(50, 0)]
def ziw (P : Nat → ZP) (m w nl : Nat) : List ZI := ziw0 w ++ zij P m ++ ([(30, 0)] ++ (if nl = 1 then [(51, 0)] else []))
def zlw (P : Nat → Nat → ZP) (M nl : Nat → Nat) : Nat → List ZI
  | 0 => []
  | W + 1 => zlw P M nl W ++ ziw (P W) (M W) W (nl W)
def zlr (rs : Nat → ZR) : Nat → List ZI
  | 0 => []
  | R + 1 => zlr rs R ++ zir (rs R)
def zlb (hb g : Nat) : List ZI := if hb = 1 then [(7, 0)] ++ [(50, 0)] ++ [(42, g)] ++ [(30, 0)] else []
def zle (hn nr : Nat) : List ZI := if hn = 1 then [(8, 0)] ++ [(50, 0)] ++ [(42, 5)] ++ [(30, 0)] ++ [(8, 0)] ++ [(50, 0)] ++ [(42, nr)] ++ [(30, 0)] else []
section ZLI
variable {W R : Nat} {nm : Nat → Nat} {P : Nat → Nat → ZP} {M nl : Nat → Nat} {rs : Nat → ZR}
theorem zmr {r : ZR} (h : zwr W r) : zmp nm (zir r) = ztr nm r ++ [(30, 0)] := by
  obtain ⟨h1, h2, h3, h4⟩ := h
  unfold zir ztr
  have e1 : zmp nm (if r.1 = 2 then [(50, 0)] ++ [(12, 0)] ++ [(50, 0)] ++ zi1 r.2.2.1 else []) = (if r.1 = 2 then (12, 0) :: zt1 nm r.2.2.1 else []) := by
    by_cases q : r.1 = 2
    · rw [if_pos q, if_pos q]
      simp only [zmpA, zm1 (h3 q), zm_b, zm_s (s := 12) (by decide), List.nil_append, List.append_nil]
      rfl
    · rw [if_neg q, if_neg q]; rfl
  have e2 : zmp nm (if r.2.2.2.1 ≠ 0 then [(50, 0)] ++ [(13, 0)] ++ [(50, 0)] ++ zi3 r.2.2.2.2 else []) = (if r.2.2.2.1 ≠ 0 then (13, 0) :: zt3 nm r.2.2.2.2 else []) := by
    by_cases q : r.2.2.2.1 ≠ 0
    · rw [if_pos q, if_pos q]
      simp only [zmpA, zm3 (h4 q), zm_b, zm_s (s := 13) (by decide), List.nil_append, List.append_nil]
      rfl
    · rw [if_neg q, if_neg q]; rfl
  rw [zmpA, zmpA, zmpA, e1, e2, zmpA, zmpA, zm_b, zm_s (s := 9 + r.1) (by omega), zm_n, zm_s (s := 30) (by decide), List.append_nil, List.append_assoc, List.append_assoc, List.append_assoc, List.append_assoc, List.append_assoc]
  rfl
theorem zmpp {u : ZP} (h : zwp u) : zmp nm (zipp u) = ztp u := by
  obtain ⟨σ, a, c, n⟩ := u
  have h1 := h.1
  change σ ≤ 2 at h1
  have h' : σ = 0 ∨ σ = 1 ∨ σ = 2 := by omega
  rcases h' with rfl | rfl | rfl <;> rfl
theorem ztq_s {Q : Nat → ZP} : ∀ d m, ztq Q m (d + 1) = ztq Q m d ++ ((31, 0) :: ztp (Q (m + d))) := by
  intro d
  induction d with
  | zero => intro m; show (31, (0 : Int32)) :: ztp (Q m) ++ [] = [] ++ _; rw [List.append_nil]; rfl
  | succ d ih =>
    intro m
    show (31, (0 : Int32)) :: ztp (Q m) ++ ztq Q (m + 1) (d + 1) = ((31, (0 : Int32)) :: ztp (Q m) ++ ztq Q (m + 1) d) ++ _
    rw [ih (m + 1), List.append_assoc, show m + 1 + d = m + (d + 1) by omega]
theorem zmij {Q : Nat → ZP} : ∀ m, (∀ j, j < m + 1 → zwp (Q j)) → zmp nm (zij Q (m + 1)) = ztp (Q 0) ++ ztq Q 1 m := by
  intro m
  induction m with
  | zero =>
    intro h
    show zmp nm ([] ++ (if (0 : Nat) = 0 then [] else _) ++ zipp (Q 0)) = _
    rw [if_pos rfl, List.append_nil, List.nil_append, zmpp (h 0 (by omega))]
    show _ = _ ++ []
    rw [List.append_nil]
  | succ m ih =>
    intro h
    have i := ih (fun j hj => h j (by omega))
    show zmp nm (zij Q (m + 1) ++ (if m + 1 = 0 then [] else [(31, 0)] ++ [(50, 0)]) ++ zipp (Q (m + 1))) = _
    rw [if_neg (by omega), zmpA, zmpA, i, zmpp (h (m + 1) (by omega)), ztq_s, zmpA, zm_s (s := 31) (by decide), zm_b, show 1 + m = m + 1 by omega]
    simp
theorem zmw {Q : Nat → ZP} {m w n : Nat} (hm : 1 ≤ m) (hP : ∀ j, j < m → zwp (Q j)) : zmp nm (ziw Q m w n) = ztw nm Q m w ++ [(30, 0)] := by
  obtain ⟨k, rfl⟩ : ∃ k, m = k + 1 := ⟨m - 1, by omega⟩
  have e1 : zmp nm ([(30, 0)] ++ (if n = 1 then [(51, 0)] else [])) = [(30, 0)] := by
    rw [zmpA, zm_s (s := 30) (by decide)]
    by_cases q : n = 1
    · rw [if_pos q]; rfl
    · rw [if_neg q]; rfl
  unfold ziw ztw
  rw [zmpA, zmpA, e1, zmij k hP, show k + 1 - 1 = k by omega]
  rfl
theorem zmlw (hM : ∀ j, j < W → 1 ≤ M j) (hP : ∀ w, w < W → ∀ j, j < M w → zwp (P w j)) : zmp nm (zlw P M nl W) = zLw nm P M W := by
  induction W with
  | zero => rfl
  | succ W ih =>
    show zmp nm (zlw P M nl W ++ ziw (P W) (M W) W (nl W)) = zLw nm P M W ++ (ztw nm (P W) (M W) W ++ [(30, 0)])
    rw [zmpA, ih (fun j hj => hM j (by omega)) (fun w hw => hP w (by omega)), zmw (hM W (by omega)) (hP W (by omega))]
theorem zmlr : ∀ k, (∀ j, j < k → zwr W (rs j)) → zmp nm (zlr rs k) = zLr nm rs k := by
  intro k
  induction k with
  | zero => intro _; rfl
  | succ k ih =>
    intro h
    show zmp nm (zlr rs k ++ zir (rs k)) = zLr nm rs k ++ (ztr nm (rs k) ++ [(30, 0)])
    rw [zmpA, ih (fun j hj => h j (by omega)), zmr (h k (by omega))]
theorem zmlb {hb g : Nat} : zmp nm (zlb hb g) = zLb hb g := by
  unfold zlb zLb
  by_cases q : hb = 1
  · rw [if_pos q, if_pos q]; rfl
  · rw [if_neg q, if_neg q]; rfl
theorem zmle {hn nr : Nat} : zmp nm (zle hn nr) = zLe hn nr := by
  unfold zle zLe
  by_cases q : hn = 1
  · rw [if_pos q, if_pos q]; rfl
  · rw [if_neg q, if_neg q]; rfl
/-- lines -/
def zcc (n : Nat) (I : List ZI) : Prop := zsp I ∧ (I = [] ∨ zLf (zla I)) ∧ (zibs I).length ≤ n
theorem zcc.a {m n : Nat} {I J : List ZI} (h : zcc m I) (k : zcc n J) : zcc (m + n) (I ++ J) := by
  obtain ⟨h1, h2, h3⟩ := h
  obtain ⟨k1, k2, k3⟩ := k
  refine ⟨?_, ?_, by rw [zibsA, List.length_append]; omega⟩
  · rcases h2 with rfl | h2
    · exact k1
    · exact zsp_ap h1 k1 (zadl h2)
  · rcases k2 with rfl | k2
    · rw [List.append_nil]; exact h2
    · right
      by_cases hJ : J = []
      · subst hJ
        rw [List.append_nil]
        rcases h2 with rfl | h2
        · exact zLs (by decide)
        · exact h2
      · rw [zlaA hJ]; exact k2
theorem zcc.m {m n : Nat} {I : List ZI} (h : zcc m I) (k : m ≤ n) : zcc n I := ⟨h.1, h.2.1, by have := h.2.2; omega⟩
theorem zcc0 : zcc 0 [] := ⟨trivial, Or.inl rfl, Nat.le_refl _⟩
theorem zpc.c {n : Nat} {I : List ZI} (h : zpc n I) (k : zLf (zla I)) : zcc n I := ⟨h.1, Or.inr k, h.2.2⟩
theorem zlbb (I : List ZI) : zLf (zla (I ++ [(50, 0)])) := by rw [zlaA (List.cons_ne_nil _ _)]; exact zLs (by decide)
theorem zls30 (I : List ZI) : zLf (zla (I ++ [(30, 0)])) := by rw [zlaA (List.cons_ne_nil _ _)]; exact zLs (by decide)
theorem zp30 : zpc 1 [(30, 0)] := zpcs (by decide) (by decide +kernel)
theorem zcr {r : ZR} (h : zwr W r) (hW : W ≤ 8) : zcc 190 (zir r) := by
  obtain ⟨h1, h2, h3, h4⟩ := h
  have hd : zpc 11 ([(9 + r.1, 0)] ++ [(50, 0)] ++ [(41, r.2.1)]) := ((zpc1 (s := 9 + r.1) (by omega)).r zpcb (zRs (by decide))).l (zpcn (by omega)) (zlbb _)
  have d1 : zpc 51 ([(9 + r.1, 0)] ++ [(50, 0)] ++ [(41, r.2.1)] ++ (if r.1 = 2 then [(50, 0)] ++ [(12, 0)] ++ [(50, 0)] ++ zi1 r.2.2.1 else [])) := by
    by_cases q : r.1 = 2
    · rw [if_pos q]
      have m : zpc 4 ([(50, 0)] ++ [(12, 0)] ++ [(50, 0)]) := (zpcb.l (zpcs (s := 12) (n := 2) (by decide) (by decide +kernel)) (zLs (by decide))).r zpcb (zRs (by decide))
      exact (hd.r (m.l (zp_1 (h3 q) hW).1 (zlbb _)) (zRs (by decide))).m (by omega)
    · rw [if_neg q, List.append_nil]; exact hd.m (by omega)
  have d2 : zpc 177 ([(9 + r.1, 0)] ++ [(50, 0)] ++ [(41, r.2.1)] ++ (if r.1 = 2 then [(50, 0)] ++ [(12, 0)] ++ [(50, 0)] ++ zi1 r.2.2.1 else []) ++ (if r.2.2.2.1 ≠ 0 then [(50, 0)] ++ [(13, 0)] ++ [(50, 0)] ++ zi3 r.2.2.2.2 else [])) := by
    by_cases q : r.2.2.2.1 ≠ 0
    · rw [if_pos q]
      have m : zpc 6 ([(50, 0)] ++ [(13, 0)] ++ [(50, 0)]) := (zpcb.l (zpcs (s := 13) (n := 4) (by decide) (by decide +kernel)) (zLs (by decide))).r zpcb (zRs (by decide))
      exact (d1.r (m.l (zp_3 (h4 q) hW) (zlbb _)) (zRs (by decide))).m (by omega)
    · rw [if_neg q, List.append_nil]; exact d1.m (by omega)
  exact ((d2.r zp30 (zRs (by decide))).c (zls30 _)).m (by omega)
theorem zcpp {u : ZP} (h : zwp u) : zpc 20 (zipp u) := by
  obtain ⟨h1, h2, h3, h4, h5, h6, h7⟩ := h
  have hd : zpc 14 (if u.1 = 0 then [(2, 0)] ++ [(50, 0)] ++ [(42, u.2.1)] else if u.1 = 1 then [(4, 0)] ++ [(50, 0)] ++ [(42, u.2.1)] ++ [(50, 0)] ++ [(5, 0)] ++ [(50, 0)] ++ [(42, u.2.2.1)] else [(6, 0)]) := by
    by_cases q0 : u.1 = 0
    · rw [if_pos q0]
      exact (((zpcs (s := 2) (n := 4) (by decide) (by decide +kernel)).r zpcb (zRs (by decide))).l (zpcu2 (by omega)) (zlbb _)).m (by omega)
    · rw [if_neg q0]
      by_cases q1 : u.1 = 1
      · rw [if_pos q1]
        exact (((((((zpcs (s := 4) (n := 5) (by decide) (by decide +kernel)).r zpcb (zRs (by decide))).l (zpcu2 (by omega)) (zlbb _)).r zpcb (zRs (by decide))).l (zpcs (s := 5) (n := 2) (by decide) (by decide +kernel)) (zlbb _)).r zpcb (zRs (by decide))).l (zpcu2 (by omega)) (zlbb _)).m (by omega)
      · rw [if_neg q1]
        exact zpcs (by decide) (by decide +kernel)
  exact ((((hd.r zpcb (zRs (by decide))).l (zpcs (s := 3) (n := 3) (by decide) (by decide +kernel)) (zlbb _)).r zpcb (zRs (by decide))).l (zpcu1 (by omega)) (zlbb _)).m (by omega)
theorem zcij {Q : Nat → ZP} : ∀ m, (∀ j, j < m + 1 → zwp (Q j)) → zpc (22 * (m + 1)) (zij Q (m + 1)) := by
  intro m
  induction m with
  | zero =>
    intro h
    show zpc 22 ([] ++ (if (0 : Nat) = 0 then [] else _) ++ zipp (Q 0))
    rw [if_pos rfl, List.append_nil, List.nil_append]
    exact (zcpp (h 0 (by omega))).m (by omega)
  | succ m ih =>
    intro h
    have i := ih (fun j hj => h j (by omega))
    show zpc (22 * (m + 1 + 1)) (zij Q (m + 1) ++ (if m + 1 = 0 then [] else [(31, 0)] ++ [(50, 0)]) ++ zipp (Q (m + 1)))
    rw [if_neg (by omega)]
    have sm : zpc 2 ([(31, 0)] ++ [(50, 0)]) := (zpcs (s := 31) (n := 1) (by decide) (by decide +kernel)).r zpcb (zRs (by decide))
    exact ((i.r sm (zRs (by decide))).l (zcpp (h (m + 1) (by omega))) (by rw [zlaA (by decide)]; exact zLs (by decide))).m (by omega)
theorem zcw {Q : Nat → ZP} {m w n : Nat} (hw : w < 8) (hm : 1 ≤ m ∧ m ≤ 3) (hP : ∀ j, j < m → zwp (Q j)) : zcc 79 (ziw Q m w n) := by
  obtain ⟨k, rfl⟩ : ∃ k, m = k + 1 := ⟨m - 1, by omega⟩
  have hd : zpc 11 (ziw0 w) := ((((zpcs (s := 0) (n := 4) (by decide) (by decide +kernel)).r zpcb (zRs (by decide))).l (zpcn hw) (zlbb _)).r zpcb (zRs (by decide))).l (zpcs (s := 1) (n := 2) (by decide) (by decide +kernel)) (zlbb _) |>.r zpcb (zRs (by decide)) |>.m (by omega)
  have h0 : zLf (zla (ziw0 w)) := zlbb _
  have h2 := hd.l (zcij k hP) h0
  have hend : zcc 2 ([(30, 0)] ++ (if n = 1 then [(51, 0)] else [])) := by
    have key : zcc 1 (if n = 1 then [(51, 0)] else []) := by
      by_cases q : n = 1
      · rw [if_pos q]
        exact ⟨zsp1 zi_l, Or.inr (zLs (by decide)), Nat.le_refl _⟩
      · rw [if_neg q]
        exact zcc0.m (by omega)
    exact (zp30.c (zLs (by decide))).a key
  have e30 : zRf (zfr ([(30, 0)] ++ (if n = 1 then [(51, 0)] else []))) := zRs (by decide)
  have hne : [(30, 0)] ++ (if n = 1 then [(51, 0)] else []) ≠ ([] : List ZI) := List.cons_ne_nil _ _
  refine ⟨zsp_ap h2.1 hend.1 (zadr e30), Or.inr ?_, ?_⟩
  · show zLf (zla (ziw0 w ++ zij Q (k + 1) ++ ([(30, 0)] ++ (if n = 1 then [(51, 0)] else []))))
    rw [zlaA hne]
    exact hend.2.1.resolve_left hne
  · show (zibs (ziw0 w ++ zij Q (k + 1) ++ ([(30, 0)] ++ (if n = 1 then [(51, 0)] else [])))).length ≤ 79
    rw [zibsA, List.length_append]
    have a1 := h2.2.2
    have a2 := hend.2.2
    omega
theorem zclw : ∀ W, W ≤ 8 → (∀ j, j < W → 1 ≤ M j ∧ M j ≤ 3) → (∀ w, w < W → ∀ j, j < M w → zwp (P w j)) → zcc (79 * W) (zlw P M nl W) := by
  intro W
  induction W with
  | zero => intro _ _ _; exact zcc0
  | succ W ih =>
    intro hW hM hP
    exact ((ih (by omega) (fun j hj => hM j (by omega)) (fun w hw => hP w (by omega))).a (zcw (by omega) (hM W (by omega)) (hP W (by omega)))).m (by omega)
theorem zclr (hW : W ≤ 8) : ∀ k, (∀ j, j < k → zwr W (rs j)) → zcc (190 * k) (zlr rs k) := by
  intro k
  induction k with
  | zero => intro _; exact zcc0
  | succ k ih =>
    intro h
    exact ((ih (fun j hj => h j (by omega))).a (zcr (h k (by omega)) hW)).m (by omega)
theorem zclb {hb g : Nat} (hg : hb = 1 → g < 100) : zcc 8 (zlb hb g) := by
  unfold zlb
  by_cases q : hb = 1
  · rw [if_pos q]
    exact ((((zpcs (s := 7) (n := 4) (by decide) (by decide +kernel)).r zpcb (zRs (by decide))).l (zpcu2 (hg q)) (zlbb _)).r zp30 (zRs (by decide))).c (zls30 _) |>.m (by omega)
  · rw [if_neg q]; exact zcc0.m (by omega)
theorem zcle {hn nr : Nat} (hg : hn = 1 → nr < 100) : zcc 15 (zle hn nr) := by
  unfold zle
  by_cases q : hn = 1
  · rw [if_pos q]
    have a := (((zpcs (s := 8) (n := 4) (by decide) (by decide +kernel)).r zpcb (zRs (by decide))).l (zpcu1 (n := 5) (by decide)) (zlbb _)).r zp30 (zRs (by decide))
    have c := ((a.l (zpcs (s := 8) (n := 4) (by decide) (by decide +kernel)) (zls30 _)).r zpcb (zRs (by decide))).l (zpcu2 (hg q)) (zlbb _)
    exact (c.r zp30 (zRs (by decide))).c (zls30 _) |>.m (by omega)
  · rw [if_neg q]; exact zcc0.m (by omega)
/-! how many tokens and codes -/
theorem zt0L (e : Z0) : (zt0 nm e).length ≤ 3 := by
  unfold zt0
  repeat' split
  all_goals (simp)
theorem zt1L (e : Z1) : (zt1 nm e).length ≤ 10 := by
  have a := zt0L (nm := nm) e.2.1
  have c := zt0L (nm := nm) e.2.2
  unfold zt1
  repeat' split
  all_goals first | omega | (simp only [List.length_append, List.length_cons, List.length_nil]; omega)
theorem zt2L (e : Z2) : (zt2 nm e).length ≤ 14 := by
  have a := zt1L (nm := nm) e.2.2.1
  have c := zt0L (nm := nm) e.2.2.2
  unfold zt2
  split
  all_goals first | omega | (simp only [List.length_append, List.length_cons, List.length_nil]; omega)
theorem zt3L (e : Z3) : (zt3 nm e).length ≤ 31 := by
  have a := zt2L (nm := nm) e.2.1
  have c := zt2L (nm := nm) e.2.2
  unfold zt3
  repeat' split
  all_goals first | omega | (simp only [List.length_append, List.length_cons, List.length_nil]; omega)
theorem zc0L (e : Z0) : (zc0 e).length = 1 := rfl
theorem zc1L (e : Z1) : (zc1 e).length ≤ 3 := by
  unfold zc1
  repeat' split
  all_goals first | omega | (simp only [List.length_append, List.length_cons, List.length_nil, zc0L]; omega)
theorem zc2L (e : Z2) : (zc2 e).length ≤ 5 := by
  have a := zc1L e.2.2.1
  unfold zc2
  split
  all_goals first | omega | (simp only [List.length_append, List.length_cons, List.length_nil, zc0L]; omega)
theorem zc3L (e : Z3) : (zc3 e).length ≤ 11 := by
  have a := zc2L e.2.1
  have c := zc2L e.2.2
  unfold zc3
  repeat' split
  all_goals first | omega | (simp only [List.length_append, List.length_cons, List.length_nil]; omega)
theorem zbgL : ∀ k, zbg rs k ≤ 14 * k := by
  intro k
  induction k with
  | zero => exact Nat.le_refl _
  | succ k ih =>
    rw [zbgS]
    have a : (zcs (rs k)).length ≤ 3 := by unfold zcs; split; exact zc1L _; exact Nat.zero_le _
    have c : (zct (rs k)).length ≤ 11 := by unfold zct; split; exact zc3L _; exact Nat.zero_le _
    omega
theorem ztrL (r : ZR) : (ztr nm r).length ≤ 45 := by
  have a := zt1L (nm := nm) r.2.2.1
  have c := zt3L (nm := nm) r.2.2.2.2
  unfold ztr
  rw [List.length_append, List.length_append]
  show 2 + _ ≤ 45
  repeat' split
  all_goals first | omega | (simp only [List.length_cons, List.length_nil]; omega)
theorem ztpL (u : ZP) : (ztp u).length ≤ 6 := by
  unfold ztp
  rw [List.length_append]
  repeat' split
  all_goals simp
theorem ztqL {Q : Nat → ZP} : ∀ d m, (ztq Q m d).length ≤ 7 * d := by
  intro d
  induction d with
  | zero => intro m; exact Nat.le_refl _
  | succ d ih =>
    intro m
    have a := ztpL (Q m)
    have c := ih (m + 1)
    show ((31, (0 : Int32)) :: ztp (Q m) ++ ztq Q (m + 1) d).length ≤ _
    rw [List.length_append, List.length_cons]
    omega
theorem zLwL : ∀ W, (∀ j, j < W → M j ≤ 3) → (zLw nm P M W).length ≤ 24 * W := by
  intro W
  induction W with
  | zero => intro _; exact Nat.le_refl _
  | succ W ih =>
    intro h
    have i := ih (fun j hj => h j (by omega))
    have hM := h W (by omega)
    have a := ztpL (P W 0)
    have c := ztqL (Q := P W) (M W - 1) 1
    show (zLw nm P M W ++ (ztw nm (P W) (M W) W ++ [(30, 0)])).length ≤ _
    unfold ztw
    simp only [List.length_append, List.length_cons, List.length_nil]
    omega
theorem zLrL : ∀ k, (zLr nm rs k).length ≤ 46 * k := by
  intro k
  induction k with
  | zero => exact Nat.le_refl _
  | succ k ih =>
    have a := ztrL (nm := nm) (rs k)
    show (zLr nm rs k ++ (ztr nm (rs k) ++ [(30, 0)])).length ≤ _
    simp only [List.length_append, List.length_cons, List.length_nil]
    omega
end ZLI
