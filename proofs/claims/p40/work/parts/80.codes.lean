/-! the class's codes of the expressions; both sides give rules the same worth -/
theorem zgd_l {α : Type} {L M : List α} {d : α} {j : Nat} (h : j < L.length) : (L ++ M).getD j d = L.getD j d := by rw [List.getD_eq_getElem?_getD, List.getD_eq_getElem?_getD, List.getElem?_append_left h]
theorem zgd_r {α : Type} {L M : List α} {d : α} {j : Nat} (h : L.length ≤ j) : (L ++ M).getD j d = M.getD (j - L.length) d := by rw [List.getD_eq_getElem?_getD, List.getD_eq_getElem?_getD, List.getElem?_append_right h]
abbrev ZC : Type := List (Nat × Int32)
def zat (sg : Nat → Nat) (vl : Nat → Int32) (s : Nat) (L : ZC) : Prop := ∀ j, j < L.length → (sg (s + j), vl (s + j)) = L.getD j (0, 0)
theorem zat.l {sg : Nat → Nat} {vl : Nat → Int32} {s : Nat} {L M : ZC} (h : zat sg vl s (L ++ M)) : zat sg vl s L := fun j hj => by
  have h1 := h j (by rw [List.length_append]; omega)
  rw [zgd_l hj] at h1
  exact h1
theorem zat.r {sg : Nat → Nat} {vl : Nat → Int32} {s : Nat} {L M : ZC} (h : zat sg vl s (L ++ M)) : zat sg vl (s + L.length) M := fun j hj => by
  have h1 := h (L.length + j) (by rw [List.length_append]; omega)
  rw [zgd_r (by omega), show L.length + j - L.length = j by omega, show s + (L.length + j) = s + L.length + j by omega] at h1
  exact h1
theorem zat.a {sg : Nat → Nat} {vl : Nat → Int32} {s : Nat} {L M : ZC} (h : zat sg vl s L) (k : zat sg vl (s + L.length) M) : zat sg vl s (L ++ M) := fun j hj => by
  rw [List.length_append] at hj
  rcases Nat.lt_or_ge j L.length with q | q
  · rw [zgd_l q]; exact h j q
  · have h1 := k (j - L.length) (by omega)
    rw [zgd_r q, show s + j = s + L.length + (j - L.length) by omega]; exact h1
theorem zat.e {sg sh : Nat → Nat} {vl vm : Nat → Int32} {s : Nat} {L : ZC} (h : zat sg vl s L) (h1 : ∀ j, s ≤ j → j < s + L.length → sh j = sg j ∧ vm j = vl j) : zat sh vm s L := fun j hj => by
  have h2 := h1 (s + j) (by omega) (by omega)
  rw [h2.1, h2.2]
  exact h j hj
theorem zat.one {sg : Nat → Nat} {vl : Nat → Int32} {s g : Nat} {v : Int32} (h : zat sg vl s [(g, v)]) : sg s = g ∧ vl s = v := by
  have h1 := h 0 (by show 0 < 1; omega)
  exact ⟨congrArg Prod.fst h1, congrArg Prod.snd h1⟩
theorem zat.mk {sg : Nat → Nat} {vl : Nat → Int32} {s g : Nat} {v : Int32} (h1 : sg s = g) (h2 : vl s = v) : zat sg vl s [(g, v)] := fun j hj => by
  have e : j = 0 := by have : j < 1 := hj; omega
  subst e
  show (sg s, vl s) = (g, v)
  rw [h1, h2]
def zc0 (e : Z0) : ZC := [(zg e.1, if e.1 = 1 ∨ e.1 = 2 then 0 else nI e.2)]
def zc1 (e : Z1) : ZC := if e.1 = 0 then zc0 e.2.1 else if e.1 = 5 then zc0 e.2.1 ++ [(43, 0)] else zc0 e.2.1 ++ zc0 e.2.2 ++ [(zg e.1, 0)]
def zc2 (e : Z2) : ZC := if 17 ≤ e.1 then [(zg e.1, nI e.2.1)] else zc1 e.2.2.1 ++ zc0 e.2.2.2 ++ [(zg e.1, 0)]
def zc3 (e : Z3) : ZC := if e.1 = 0 then zc2 e.2.1 else if e.1 = 19 then zc2 e.2.1 ++ [(21, 0)] else zc2 e.2.1 ++ zc2 e.2.2 ++ [(zg e.1, 0)]
/-- an expression is well made -/
def zw0 (W : Nat) (e : Z0) : Prop := e.1 < 5 ∧ e.2 < 1000000 ∧ (0 < e.1 → e.2 < W)
def zw1 (W : Nat) (e : Z1) : Prop := (e.1 = 0 ∧ zw0 W e.2.1) ∨ (5 ≤ e.1 ∧ e.1 < 12 ∧ zw0 W e.2.1 ∧ (e.1 ≠ 5 → zw0 W e.2.2))
def zw2 (W : Nat) (e : Z2) : Prop := (17 ≤ e.1 ∧ e.1 < 19 ∧ e.2.1 < W) ∨ (12 ≤ e.1 ∧ e.1 < 17 ∧ zw1 W e.2.2.1 ∧ zw0 W e.2.2.2)
def zw3 (W : Nat) (e : Z3) : Prop := (e.1 = 0 ∧ zw2 W e.2.1) ∨ (19 ≤ e.1 ∧ e.1 < 22 ∧ zw2 W e.2.1 ∧ (e.1 ≠ 19 → zw2 W e.2.2))
theorem zh0.w {W i : Nat} {y : MS} {e : Z0} (h : zh0 W y i e) : zw0 W e := ⟨h.2.2.2.1, h.2.2.2.2.1, h.2.2.2.2.2⟩
theorem zh1.w {W i : Nat} {y : MS} {e : Z1} (h : zh1 W y i e) : zw1 W e := by
  rcases h with ⟨h1, h2⟩ | ⟨h1, h2, h3, h4, h5, h6⟩
  · exact Or.inl ⟨h1, h2.w⟩
  · exact Or.inr ⟨h1, h2, h5.w, fun q => (h6 q).w⟩
theorem zh2.w {W i : Nat} {y : MS} {e : Z2} (h : zh2 W y i e) : zw2 W e := by
  rcases h.2.2 with ⟨a1, a2, a3, a4⟩ | ⟨a1, a2, a3, a4⟩
  · exact Or.inl ⟨a1, a2, a4⟩
  · exact Or.inr ⟨a1, a2, a3.w, a4.w⟩
theorem zh3.w {W i : Nat} {y : MS} {e : Z3} (h : zh3 W y i e) : zw3 W e := by
  rcases h with ⟨h1, h2⟩ | ⟨h1, h2, h3, h4, h5, h6⟩
  · exact Or.inl ⟨h1, h2.w⟩
  · exact Or.inr ⟨h1, h2, h5.w, fun q => (h6 q).w⟩
/-- a piece of codes stands for one value v -/
def zok (A : PV) (les : Int32) (sg : Nat → Nat) (vl : Nat → Int32) (s : Nat) (L : ZC) (v : Int32) : Prop := 0 < L.length ∧ pp_se sg s (s + L.length) ∧ pq_V A les sg vl (s + L.length - 1) = v
section ZOK
variable {A : PV} {les : Int32} {sg : Nat → Nat} {vl : Nat → Int32} {s W : Nat} {L M : ZC} {v w : Int32}
theorem zok.lf {g : Nat} (h : zat sg vl s [(g, v)]) (hg : pp_ar g = 0) : zok A les sg vl s [(g, v)] (pp_lf A les g v) := by
  obtain ⟨h1, h2⟩ := h.one
  refine ⟨by show 0 < 1; omega, pp_se.leaf (by rw [h1]; exact hg), ?_⟩
  show pq_V A les sg vl (s + 1 - 1) = _
  rw [show s + 1 - 1 = s by omega, (pq_Ve s).1 (by rw [h1]; exact hg), h1, h2]
theorem zok.un {g : Nat} {u : Int32} (h : zok A les sg vl s L v) (hz : zat sg vl (s + L.length) [(g, u)]) (hg : pp_ar g = 1) : zok A les sg vl s (L ++ [(g, u)]) (pp_un g v) := by
  obtain ⟨h1, h2⟩ := hz.one
  obtain ⟨h0, h3, h4⟩ := h
  have el : (L ++ [(g, u)]).length = L.length + 1 := by rw [List.length_append]; rfl
  unfold zok
  rw [el]
  refine ⟨by omega, h3.un (by rw [h1]; exact hg), ?_⟩
  rw [show s + (L.length + 1) - 1 = s + L.length by omega, (pq_Ve (s + L.length)).2.1 _ _ (by rw [h1]; exact hg) h3.st, h1, h4]
theorem zok.bi {g : Nat} {u : Int32} (h : zok A les sg vl s L v) (k : zok A les sg vl (s + L.length) M w) (hz : zat sg vl (s + L.length + M.length) [(g, u)]) (hg : pp_ar g = 2) : zok A les sg vl s (L ++ M ++ [(g, u)]) (pp_bi g v w) := by
  obtain ⟨h1, h2⟩ := hz.one
  obtain ⟨h0, h3, h4⟩ := h
  obtain ⟨k0, k3, k4⟩ := k
  have el : (L ++ M ++ [(g, u)]).length = L.length + M.length + 1 := by rw [List.length_append, List.length_append]; rfl
  unfold zok
  rw [el]
  refine ⟨by omega, ?_, ?_⟩
  · have := h3.bi k3 (by rw [h1]; exact hg)
    rw [show s + (L.length + M.length + 1) = s + L.length + M.length + 1 by omega]; exact this
  · rw [show s + (L.length + M.length + 1) - 1 = s + L.length + M.length by omega, (pq_Ve (s + L.length + M.length)).2.2 _ _ _ (by rw [h1]; exact hg) (h3.st2 k3), h1, h4, k4]
theorem zok0 {e : Z0} (he : zw0 W e) (h : zat sg vl s (zc0 e)) : zok A les sg vl s (zc0 e) (zv0 A les e) := by
  obtain ⟨t, n⟩ := e
  have h4 := he.1
  change t < 5 at h4
  have h' : t = 0 ∨ t = 1 ∨ t = 2 ∨ t = 3 ∨ t = 4 := by omega
  rcases h' with rfl | rfl | rfl | rfl | rfl
  all_goals exact zok.lf h rfl
theorem zok1 {e : Z1} (he : zw1 W e) (h : zat sg vl s (zc1 e)) : zok A les sg vl s (zc1 e) (zv1 A les e) := by
  obtain ⟨t, a, b⟩ := e
  unfold zc1 zv1 at *
  rcases he with ⟨h1, h2⟩ | ⟨h1, h2, h3, h4⟩
  · rw [if_pos h1] at *
    rw [if_pos h1]
    exact zok0 h2 h
  · change 5 ≤ t at h1
    change t < 12 at h2
    change t ≠ 5 → zw0 W b at h4
    change zat sg vl s (if t = 0 then zc0 a else if t = 5 then zc0 a ++ [(43, 0)] else zc0 a ++ zc0 b ++ [(zg t, 0)]) at h
    show zok A les sg vl s (if t = 0 then zc0 a else if t = 5 then zc0 a ++ [(43, 0)] else zc0 a ++ zc0 b ++ [(zg t, 0)]) (if t = 0 then zv0 A les a else if t = 5 then pp_un 43 (zv0 A les a) else pp_bi (zg t) (zv0 A les a) (zv0 A les b))
    rw [if_neg (show ¬ t = 0 by omega)] at h
    rw [if_neg (show ¬ t = 0 by omega), if_neg (show ¬ t = 0 by omega)]
    by_cases h55 : t = 5
    · rw [if_pos h55] at h
      rw [if_pos h55, if_pos h55]
      exact (zok0 h3 h.l).un h.r rfl
    · rw [if_neg h55] at h
      rw [if_neg h55, if_neg h55]
      refine (zok0 h3 h.l.l).bi (zok0 (h4 h55) h.l.r) (by have := h.r; rw [List.length_append, ← Nat.add_assoc] at this; exact this) ?_
      have h' : t = 6 ∨ t = 7 ∨ t = 8 ∨ t = 9 ∨ t = 10 ∨ t = 11 := by omega
      rcases h' with rfl | rfl | rfl | rfl | rfl | rfl <;> rfl
theorem zok2 {e : Z2} (he : zw2 W e) (h : zat sg vl s (zc2 e)) : zok A les sg vl s (zc2 e) (zv2 A les e) := by
  obtain ⟨t, n, a, b⟩ := e
  unfold zc2 zv2 at *
  change zat sg vl s (if 17 ≤ t then [(zg t, nI n)] else zc1 a ++ zc0 b ++ [(zg t, 0)]) at h
  show zok A les sg vl s (if 17 ≤ t then [(zg t, nI n)] else zc1 a ++ zc0 b ++ [(zg t, 0)]) (if 17 ≤ t then pp_lf A les (zg t) (nI n) else pp_bi (zg t) (zv1 A les a) (zv0 A les b))
  rcases he with ⟨h1, h2, h3⟩ | ⟨h1, h2, h3, h4⟩
  · change 17 ≤ t at h1
    change t < 19 at h2
    rw [if_pos h1] at h
    rw [if_pos h1, if_pos h1]
    refine zok.lf h ?_
    have h' : t = 17 ∨ t = 18 := by omega
    rcases h' with rfl | rfl <;> rfl
  · change 12 ≤ t at h1
    change t < 17 at h2
    rw [if_neg (by omega)] at h
    rw [if_neg (by omega), if_neg (by omega)]
    refine (zok1 h3 h.l.l).bi (zok0 h4 h.l.r) (by have := h.r; rw [List.length_append, ← Nat.add_assoc] at this; exact this) ?_
    have h' : t = 12 ∨ t = 13 ∨ t = 14 ∨ t = 15 ∨ t = 16 := by omega
    rcases h' with rfl | rfl | rfl | rfl | rfl <;> rfl
theorem zok3 {e : Z3} (he : zw3 W e) (h : zat sg vl s (zc3 e)) : zok A les sg vl s (zc3 e) (zv3 A les e) := by
  obtain ⟨t, a, b⟩ := e
  unfold zc3 zv3 at *
  change zat sg vl s (if t = 0 then zc2 a else if t = 19 then zc2 a ++ [(21, 0)] else zc2 a ++ zc2 b ++ [(zg t, 0)]) at h
  show zok A les sg vl s (if t = 0 then zc2 a else if t = 19 then zc2 a ++ [(21, 0)] else zc2 a ++ zc2 b ++ [(zg t, 0)]) (if t = 0 then zv2 A les a else if t = 19 then pp_un 21 (zv2 A les a) else pp_bi (zg t) (zv2 A les a) (zv2 A les b))
  rcases he with ⟨h1, h2⟩ | ⟨h1, h2, h3, h4⟩
  · change t = 0 at h1
    rw [if_pos h1] at h
    rw [if_pos h1, if_pos h1]
    exact zok2 h2 h
  · change 19 ≤ t at h1
    change t < 22 at h2
    change t ≠ 19 → zw2 W b at h4
    rw [if_neg (show ¬ t = 0 by omega)] at h
    rw [if_neg (show ¬ t = 0 by omega), if_neg (show ¬ t = 0 by omega)]
    by_cases h55 : t = 19
    · rw [if_pos h55] at h
      rw [if_pos h55, if_pos h55]
      exact (zok2 h3 h.l).un h.r rfl
    · rw [if_neg h55] at h
      rw [if_neg h55, if_neg h55]
      refine (zok2 h3 h.l.l).bi (zok2 (h4 h55) h.l.r) (by have := h.r; rw [List.length_append, ← Nat.add_assoc] at this; exact this) ?_
      have h' : t = 20 ∨ t = 21 := by omega
      rcases h' with rfl | rfl <;> rfl
end ZOK
/-- codes of a rule: of its sum, of its test -/
def zcs (r : ZR) : ZC := if r.1 = 2 then zc1 r.2.2.1 else []
def zct (r : ZR) : ZC := if r.2.2.2.1 ≠ 0 then zc3 r.2.2.2.2 else []
def zwr (W : Nat) (r : ZR) : Prop := r.1 ≤ 2 ∧ r.2.1 < W ∧ (r.1 = 2 → zw1 W r.2.2.1) ∧ (r.2.2.2.1 ≠ 0 → zw3 W r.2.2.2.2)
theorem zhr.w {W i : Nat} {y : MS} {r : ZR} (h : zhr W y i r) : zwr W r := ⟨h.2.2.1, h.2.2.2.2.1, fun q => (h.2.2.2.2.2.1 q).w, fun q => (h.2.2.2.2.2.2.2 q).2.w⟩
/-- a rule of the class is one by hand -/
def zmt (sg : Nat → Nat) (vl : Nat → Int32) (ρ : QR) (r : ZR) : Prop := ρ.1 = r.1 ∧ ρ.2.1 = r.2.1 ∧ ρ.2.2.2.1 = ρ.2.2.1 + (zcs r).length ∧ ρ.2.2.2.2 = ρ.2.2.2.1 + (zct r).length ∧ zat sg vl ρ.2.2.1 (zcs r) ∧ zat sg vl ρ.2.2.2.1 (zct r)
theorem zc3p (e : Z3) : 0 < (zc3 e).length := by
  have h0 : ∀ a, (zc0 a).length = 1 := fun a => rfl
  unfold zc3
  split
  · unfold zc2
    split
    · show 0 < 1; omega
    · rw [List.length_append]; show 0 < _ + 1; omega
  · split
    · rw [List.length_append]; show 0 < _ + 1; omega
    · rw [List.length_append]; show 0 < _ + 1; omega
theorem pq_do_d {κ w : Nat} {d d' : Int32} {A : PV} (h : κ = 2 → d = d') : pq_do κ w d A = pq_do κ w d' A := by
  unfold pq_do
  by_cases h2 : κ = 2
  · rw [h h2]
  · rw [if_neg h2, if_neg h2]
theorem zrl_eq {W : Nat} {A : PV} {les : Int32} {sg : Nat → Nat} {vl : Nat → Int32} {ρ : QR} {r : ZR} (hw : zwr W r) (h : zmt sg vl ρ r) : pq_rl (pq_V A les sg vl) ρ A = zrl A les r := by
  obtain ⟨h1, h2, h3, h4, h5, h6⟩ := h
  obtain ⟨w1, w2, w3, w4⟩ := hw
  unfold pq_rl zrl
  have hd : pq_do ρ.1 ρ.2.1 (pq_V A les sg vl (ρ.2.2.2.1 - 1)) A = pq_do r.1 r.2.1 (zv1 A les r.2.2.1) A := by
    rw [h1, h2]
    refine pq_do_d (fun q => ?_)
    unfold zcs at h3 h5
    rw [if_pos q] at h3 h5
    have := zok1 (A := A) (les := les) (w3 q) h5
    rw [h3]
    exact this.2.2
  rw [hd]
  by_cases hh : r.2.2.2.1 ≠ 0
  · unfold zct at h4 h6
    rw [if_pos hh] at h4 h6
    have h7 := zok3 (A := A) (les := les) (w4 hh) h6
    have hp := zc3p r.2.2.2.2
    have e : pq_V A les sg vl (ρ.2.2.2.2 - 1) = zv3 A les r.2.2.2.2 := by rw [h4]; exact h7.2.2
    rw [e]
    by_cases hz : zv3 A les r.2.2.2.2 = 0
    · rw [if_pos ⟨by omega, hz⟩, if_pos ⟨hh, hz⟩]
    · rw [if_neg (fun q => hz q.2), if_neg (fun q => hz q.2)]
  · unfold zct at h4
    rw [if_neg hh] at h4
    have h4' : ρ.2.2.2.2 = ρ.2.2.2.1 := h4
    rw [if_neg (fun q => by omega), if_neg (fun q => hh q.1)]
theorem zfold_eq {W R : Nat} {les : Int32} {sg : Nat → Nat} {vl : Nat → Int32} {ρs : Nat → QR} {rs : Nat → ZR} (hw : ∀ k, k < R → zwr W (rs k)) (h : ∀ k, k < R → zmt sg vl (ρs k) (rs k)) {A : PV} : ∀ k, k ≤ R → pq_fold les sg vl ρs k A = zfold les rs k A := by
  intro k
  induction k with
  | zero => intro _; rfl
  | succ k ih =>
    intro hk
    have i := ih (by omega)
    show ((pq_fold les sg vl ρs k A).1 + (pq_rl (pq_V (pq_fold les sg vl ρs k A).2 les sg vl) (ρs k) (pq_fold les sg vl ρs k A).2).1, (pq_rl (pq_V (pq_fold les sg vl ρs k A).2 les sg vl) (ρs k) (pq_fold les sg vl ρs k A).2).2) = _
    rw [i, zrl_eq (hw k (by omega)) (h k (by omega))]
    rfl
theorem zmany_eq {W R : Nat} {sg : Nat → Nat} {vl : Nat → Int32} {ρs : Nat → QR} {rs : Nat → ZR} (hw : ∀ k, k < R → zwr W (rs k)) (h : ∀ k, k < R → zmt sg vl (ρs k) (rs k)) : ∀ n les A, pq_many sg vl ρs R n les A = zmany rs R n les A := by
  intro n
  induction n with
  | zero => intro les A; rfl
  | succ n ih =>
    intro les A
    show ((pq_fold les sg vl ρs R A).1 + (pq_many sg vl ρs R n (les + 1) (pq_fold les sg vl ρs R A).2).1, (pq_many sg vl ρs R n (les + 1) (pq_fold les sg vl ρs R A).2).2) = _
    rw [zfold_eq hw h R (Nat.le_refl _), ih]
    rfl
