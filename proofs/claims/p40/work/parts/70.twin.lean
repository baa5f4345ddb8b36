/-! what was meant, how surely, a beat more: the calls that the law guards -/
section PQT
variable {A : PV} {les car : Int32} {b v R nr : Nat} {ρs : Nat → QR} {sg : Nat → Nat} {vl : Nat → Int32} {x : CS}
def pv_su (A : PV) : Int32 := match pv_mt A none with
  | none => -2
  | some m => match pv_cl A (some m) with
    | none => -1
    | some s => nI (pv_dh A s) - nI (pv_dh A m)
theorem pq_mlt {but : Option Nat} {m : Nat} (h : pv_cl A but = some m) : m < pv_W A ∧ pp_okf (pv_pr A) but m = true := pp_bestB _ h
theorem pq_m1 {m : Nat} (hm : m < 2 ^ 31) : ¬ nI m = (-1 : Int32) := pp_m1n hm
theorem pq_meantW (h : pq_R A les car b v R nr ρs sg vl x) {m : Nat} (hm : pv_mt A none = some m) : fx_X12_meantWord x = some (.inr (nI m)) ∧ f_X12_meantWord x = some (nI m) := by
  have hW := h.1.1
  have hb := pv_mtB hm
  have h1 := pq_meantO h
  rw [hm] at h1
  have e : pp_en (some m) = nI m := rfl
  rw [e] at h1
  constructor
  · unfold fx_X12_meantWord fx_X12_requireMeant
    rw [h.2.1.2.1, if_pos (pp_k9 h.2.2.2.2.1.1), h1, pp_b, if_neg (pq_m1 (by omega))]
    rfl
  · unfold f_X12_meantWord f_X12_requireMeant
    rw [h.2.1.2.1, if_pos (pp_k9 h.2.2.2.2.1.1), h1, pp_b, if_neg (pq_m1 (by omega))]
    rfl
theorem pq_meantN (h : pq_R A les car b v R nr ρs sg vl x) (hm : pv_mt A none = none) : fx_X12_meantWord x = some (.inl 1) := by
  have h1 := pq_meantO h
  rw [hm] at h1
  unfold fx_X12_meantWord fx_X12_requireMeant
  rw [h.2.1.2.1, if_pos (pp_k9 h.2.2.2.2.1.1), h1, pp_b, if_pos (show pp_en none = -1 from rfl)]
  rfl
theorem ql_meant (h : pq_R A les car b v R nr ρs sg vl x) {y : MS} (hr : h_rm y 6 = true) : ∃ y', f_l_L_meant x y = some (pp_en (pv_mt A none), x, y') ∧ (y' = y ∨ y' = h_ex y 1 6) := by
  unfold f_l_L_meant
  cases hm : pv_mt A none with
  | none =>
    rw [pq_meantN h hm, pp_b]
    exact ⟨_, if_pos ⟨rfl, hr⟩, Or.inr rfl⟩
  | some m =>
    obtain ⟨h1, h2⟩ := pq_meantW h hm
    rw [h1, pp_b]
    show ∃ y', Option.bind (f_X12_meantWord x) _ = _ ∧ _
    rw [h2, pp_b]
    exact ⟨_, rfl, Or.inl rfl⟩
theorem pq_suN (h : pq_R A les car b v R nr ρs sg vl x) (hm : pv_mt A none = none) : fx_X12_surety x = some (.inl 1) := by
  have h1 := pq_meantO h
  rw [hm] at h1
  unfold fx_X12_surety fx_X12_requireMeant
  rw [h.2.1.2.1, if_pos (pp_k9 h.2.2.2.2.1.1), h1, pp_b, if_pos (show pp_en none = -1 from rfl)]
  rfl
theorem pq_suS (h : pq_R A les car b v R nr ρs sg vl x) {m : Nat} (hm : pv_mt A none = some m) : fx_X12_surety x = some (.inr (pv_su A)) ∧ f_X12_surety x = some (pv_su A) := by
  have hW := h.1.1
  have hC := h.2.2.2.2.1
  have hv := hC.1
  have hb := pv_mtB hm
  have h1 := pq_meantO h
  rw [hm] at h1
  have e : pp_en (some m) = nI m := rfl
  rw [e] at h1
  have hc := pp_closC (but := some m) h.1 hC (fun q hq => by cases hq; omega)
  rw [e] at hc
  have hs : pv_su A = match pv_cl A (some m) with
    | none => -1
    | some s => nI (pv_dh A s) - nI (pv_dh A m) := by
    unfold pv_su
    rw [hm]
  cases hcl : pv_cl A (some m) with
  | none =>
    rw [hcl] at hc hs
    rw [hs]
    constructor
    · unfold fx_X12_surety fx_X12_requireMeant
      rw [h.2.1.2.1, if_pos (pp_k9 hv), h1, pp_b, if_neg (pq_m1 (by omega)), pp_b]
      show Option.bind (f_X9_closestKept v (nI m) x) _ = _
      rw [hc, pp_b, if_pos (show pp_en none = -1 from rfl)]
    · unfold f_X12_surety f_X12_requireMeant
      rw [h.2.1.2.1, if_pos (pp_k9 hv), h1, pp_b, if_neg (pq_m1 (by omega)), pp_b, hc, pp_b, if_pos (show pp_en none = -1 from rfl)]
  | some s =>
    have hsl := pq_mlt hcl
    rw [hcl] at hc hs
    rw [hs]
    have e2 : pp_en (some s) = nI s := rfl
    rw [e2] at hc
    have w1 := (hC.2.2.1 s hsl.1).2.1
    have w2 := (hC.2.2.1 m hb.1).2.1
    constructor
    · unfold fx_X12_surety fx_X12_requireMeant
      rw [h.2.1.2.1, if_pos (pp_k9 hv), h1, pp_b, if_neg (pq_m1 (by omega)), pp_b]
      show Option.bind (f_X9_closestKept v (nI m) x) _ = _
      rw [hc, pp_b, if_neg (pq_m1 (by omega)), pp_word (by omega), pp_b, if_pos (pp_k10 hv (by omega)), pp_word (by omega), pp_b, if_pos (pp_k10 hv (by omega)), w1, w2]
    · unfold f_X12_surety f_X12_requireMeant
      rw [h.2.1.2.1, if_pos (pp_k9 hv), h1, pp_b, if_neg (pq_m1 (by omega)), pp_b, hc, pp_b, if_neg (pq_m1 (by omega)), pp_word (by omega), pp_b, if_pos (pp_k10 hv (by omega)), pp_word (by omega), pp_b, if_pos (pp_k10 hv (by omega)), w1, w2]
theorem ql_surety (h : pq_R A les car b v R nr ρs sg vl x) {y : MS} (hr : h_rm y 6 = true) : ∃ y', f_l_L_surety x y = some (pv_su A, x, y') ∧ (y' = y ∨ y' = h_ex y 1 6) := by
  unfold f_l_L_surety
  cases hm : pv_mt A none with
  | none =>
    rw [pq_suN h hm, pp_b]
    have e : pv_su A = -2 := by unfold pv_su; rw [hm]
    rw [e]
    exact ⟨_, if_pos ⟨rfl, hr⟩, Or.inr rfl⟩
  | some m =>
    obtain ⟨h1, h2⟩ := pq_suS h hm
    rw [h1, pp_b]
    show ∃ y', Option.bind (f_X12_surety x) _ = _ ∧ _
    rw [h2, pp_b]
    exact ⟨_, rfl, Or.inl rfl⟩
theorem pq_hearX (h : pq_R A les car b v R nr ρs sg vl x) {j : Nat} (hj : j ≤ 40) : fx_X12_hear (nI j) x = if pv_hl A < 24 then (f_X12_hear (nI j) x).bind (fun q => some (.inr q)) else some (.inl 1) := by
  have hH := h.2.2.2.2.1.2.2.2
  have hl := hH.2.1
  unfold fx_X12_hear f_X12_hear
  rw [if_neg (nI_pos (by omega)), if_neg (nI_pos (by omega)), if_pos (show nI j ≤ (40 : Int32) from nI_le (a := j) (b := 40) hj (by omega)), if_pos (show nI j ≤ (40 : Int32) from nI_le (a := j) (b := 40) hj (by omega)), hH.1]
  by_cases h24 : pv_hl A < 24
  · rw [if_pos h24, if_pos (show nI (pv_hl A) < (24 : Int32) from nI_lt (b := 24) (by omega) (by omega)), if_pos (show nI (pv_hl A) < (24 : Int32) from nI_lt (b := 24) (by omega) (by omega))]
    cases f_X3_add 14 (nI j) x with
    | none => rfl
    | some q4 =>
      rw [pp_b, pp_b]
      by_cases k1 : kd (q4.2 0 6) = 7
      · rw [if_pos k1, if_pos k1]
        by_cases k2 : kd (q4.2 0 7) = 9
        · rw [if_pos k2, if_pos k2]
          cases f_X1_measureAll (q4.2 0 6) (q4.2 0 7) q4 <;> rfl
        · rw [if_neg k2, if_neg k2]; rfl
      · rw [if_neg k1, if_neg k1]; rfl
  · rw [if_neg h24, if_neg (show ¬ nI (pv_hl A) < (24 : Int32) from nI_nlt (b := 24) (by omega) (by omega))]
end PQT
