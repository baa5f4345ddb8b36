/-! what is true of each way: its ends, its steps, its contours -/
theorem pw_ind {c : Nat → Nat → Nat} {w : Nat} {P : Nat → Nat → Nat → Prop} (h0 : P 0 0 (100 * c 0 0 + 1)) (hs : ∀ i j i' j' v, i' ≤ i → i ≤ i' + 1 → j' ≤ j → j ≤ j' + 1 → i' + j' < i + j → P i' j' v → P i j (v + (100 * c i j + 1))) : ∀ i j, pp_wy c w i j = pp_F ∨ P i j (pp_wy c w i j) := by
  have key : ∀ {i j a : Nat}, (a = pp_F ∨ P i j (a + (100 * c i j + 1))) → pp_ce c w i j a = pp_F ∨ P i j (pp_ce c w i j a) := by
    intro i j a h
    unfold pp_ce
    by_cases hw : pp_ad i j ≤ w
    · rw [if_pos hw]
      by_cases hF : pp_F ≤ a + (100 * c i j + 1)
      · exact Or.inl (Nat.min_eq_left hF)
      · right
        rcases h with h | h
        · omega
        · rw [Nat.min_eq_right (by omega)]; exact h
    · rw [if_neg hw]; exact Or.inl rfl
  have mn : ∀ {a b : Nat} {Q : Nat → Prop}, (a = pp_F ∨ Q a) → (b = pp_F ∨ Q b) → (min a b = pp_F ∨ Q (min a b)) := by
    intro a b Q ha hb
    rcases Nat.le_total a b with q | q
    · rw [Nat.min_eq_left q]; exact ha
    · rw [Nat.min_eq_right q]; exact hb
  intro i
  induction i with
  | zero =>
    intro j
    induction j with
    | zero => rw [pp_w00]; exact key (Or.inr (by rw [Nat.zero_add]; exact h0))
    | succ j ih => rw [pp_w01]; exact key (ih.imp id (fun q => hs 0 (j + 1) 0 j _ (by omega) (by omega) (by omega) (by omega) (by omega) q))
  | succ i ihi =>
    intro j
    induction j with
    | zero => rw [pp_w10]; exact key ((ihi 0).imp id (fun q => hs (i + 1) 0 i 0 _ (by omega) (by omega) (by omega) (by omega) (by omega) q))
    | succ j ih =>
      rw [pp_w11]
      have a1 := (ihi (j + 1)).imp id (fun q => hs (i + 1) (j + 1) i (j + 1) _ (by omega) (by omega) (by omega) (by omega) (by omega) q)
      have a2 := ih.imp id (fun q => hs (i + 1) (j + 1) (i + 1) j _ (by omega) (by omega) (by omega) (by omega) (by omega) q)
      have a3 := (ihi j).imp id (fun q => hs (i + 1) (j + 1) i j _ (by omega) (by omega) (by omega) (by omega) (by omega) q)
      exact key (mn (Q := fun v => P (i + 1) (j + 1) (v + (100 * c (i + 1) (j + 1) + 1))) (mn (Q := fun v => P (i + 1) (j + 1) (v + (100 * c (i + 1) (j + 1) + 1))) a1 a2) a3)
theorem pw_steps {c : Nat → Nat → Nat} {w i j : Nat} (h : i + j ≤ 60) : pp_wy c w i j = pp_F ∨ (max i j + 1 ≤ pp_wy c w i j % 100 ∧ pp_wy c w i j % 100 ≤ i + j + 1) := by
  rcases pw_ind (c := c) (w := w) (P := fun i j v => i + j ≤ 60 → max i j + 1 ≤ v % 100 ∧ v % 100 ≤ i + j + 1) (fun _ => by omega) (fun i j i' j' v h1 h2 h3 h4 h5 hP hij => by
    have := hP (by omega)
    generalize c i j = k
    omega) i j with q | q
  · exact Or.inl q
  · exact Or.inr (q h)
theorem pw_cont {c : Nat → Nat → Nat} {w i j : Nat} (hc : ∀ i j, c i j ≤ 1) (h : i + j ≤ 60) : pp_wy c w i j = pp_F ∨ pp_wy c w i j / 100 ≤ i + j + 1 := by
  rcases pw_ind (c := c) (w := w) (P := fun i j v => i + j ≤ 60 → v / 100 ≤ v % 100 ∧ v % 100 ≤ i + j + 1) (fun _ => by have := hc 0 0; omega) (fun i j i' j' v h1 h2 h3 h4 h5 hP hij => by
    have := hP (by omega)
    have := hc i j
    omega) i j with q | q
  · exact Or.inl q
  · have := q h
    exact Or.inr (by omega)
theorem pw_ends {c : Nat → Nat → Nat} {w i j : Nat} (h : i + j ≤ 60) : pp_wy c w i j = pp_F ∨ c 0 0 + (if i + j = 0 then 0 else c i j) ≤ pp_wy c w i j / 100 := by
  rcases pw_ind (c := c) (w := w) (P := fun i j v => i + j ≤ 60 → (c 0 0 + (if i + j = 0 then 0 else c i j) ≤ v / 100) ∧ v % 100 ≤ i + j + 1) (fun _ => by rw [if_pos rfl]; omega) (fun i j i' j' v h1 h2 h3 h4 h5 hP hij => by
    have hv := hP (by omega)
    rw [if_neg (by omega)]
    have h6 : c 0 0 ≤ v / 100 := by omega
    generalize c i j = k
    omega) i j with q | q
  · exact Or.inl q
  · exact Or.inr (q h).1
theorem pw_diag {c : Nat → Nat → Nat} {w : Nat} (hc : ∀ i, c i i = 0) : ∀ i, pp_wy c w i i ≤ i + 1 := by
  have had : ∀ i, pp_ad i i ≤ w := fun i => by unfold pp_ad; omega
  intro i
  induction i with
  | zero =>
    rw [pp_w00]
    unfold pp_ce
    rw [if_pos (had 0), hc]
    omega
  | succ i ih =>
    rw [pp_w11]
    unfold pp_ce
    rw [if_pos (had _), hc]
    omega
section PWD
variable {g n m : Nat} {p q : Nat → Nat}
theorem pp_Dlt (hp : ∀ k, p k ≤ 40) (hq : ∀ k, q k ≤ 40) (hn0 : 0 < n) (hm0 : 0 < m) (hn : n ≤ 24) (hm : m ≤ 24) : pp_D g p n q m ≠ pp_F := by
  have := pp_gdF (pp_DG (g := g) hp hq hn0 hm0 hn hm) (by omega)
  unfold pp_F
  omega
theorem pp_Dends (hp : ∀ k, p k ≤ 40) (hq : ∀ k, q k ≤ 40) (hn0 : 0 < n) (hm0 : 0 < m) (hn : n ≤ 24) (hm : m ≤ 24) : pp_cp (p 0) (q 0) + (if max n m ≤ 1 then 0 else pp_cp (p (n - 1)) (q (m - 1))) ≤ pp_D g p n q m / 100 := by
  have h1 := pp_Dlt (g := g) hp hq hn0 hm0 hn hm
  have h2 := (pw_ends (c := fun i j => pp_cp (p i) (q j)) (w := g + pp_ad n m) (i := n - 1) (j := m - 1) (by omega)).resolve_left h1
  have e : (if n - 1 + (m - 1) = 0 then 0 else pp_cp (p (n - 1)) (q (m - 1))) = (if max n m ≤ 1 then 0 else pp_cp (p (n - 1)) (q (m - 1))) := by
    by_cases h : max n m ≤ 1
    · rw [if_pos h, if_pos (by omega)]
    · rw [if_neg h, if_neg (by omega)]
  rw [← e]
  exact h2
theorem pp_Dsteps (hp : ∀ k, p k ≤ 40) (hq : ∀ k, q k ≤ 40) (hn0 : 0 < n) (hm0 : 0 < m) (hn : n ≤ 24) (hm : m ≤ 24) : max n m ≤ pp_D g p n q m % 100 ∧ pp_D g p n q m % 100 < n + m := by
  have h1 := pp_Dlt (g := g) hp hq hn0 hm0 hn hm
  have h2 := (pw_steps (c := fun i j => pp_cp (p i) (q j)) (w := g + pp_ad n m) (i := n - 1) (j := m - 1) (by omega)).resolve_left h1
  have e : pp_D g p n q m = pp_wy (fun i j => pp_cp (p i) (q j)) (g + pp_ad n m) (n - 1) (m - 1) := rfl
  rw [e]
  omega
theorem pp_D0 (hn0 : 0 < n) (hn : n ≤ 24) : pp_D g p n p n / 100 = 0 := by
  have h := pw_diag (c := fun i j => pp_cp (p i) (p j)) (w := g + pp_ad n n) (fun i => if_pos rfl) (n - 1)
  have e : pp_D g p n p n = pp_wy (fun i j => pp_cp (p i) (p j)) (g + pp_ad n n) (n - 1) (n - 1) := rfl
  rw [e]
  omega
theorem pp_Kcont (hn0 : 0 < n) (hm0 : 0 < m) (hn : n ≤ 24) (hm : m ≤ 24) : pp_K g p n q m / 100 ≤ n + m - 1 := by
  have h1 := pp_gdF (pp_KG (g := g) (p := p) (q := q) hn0 hm0 hn hm) (by omega)
  have e : pp_K g p n q m = pp_wy (fun i j => pp_cc (pp_ci p n i) (pp_ci q m j)) (g + pp_ad n m) (n - 1) (m - 1) := rfl
  have h2 := (pw_cont (c := fun i j => pp_cc (pp_ci p n i) (pp_ci q m j)) (w := g + pp_ad n m) (i := n - 1) (j := m - 1) (fun i j => by show pp_cc _ _ ≤ 1; unfold pp_cc; split <;> omega) (by omega)).resolve_left (by rw [← e]; unfold pp_F; omega)
  rw [e]
  omega
end PWD
/-! facts of the class's words, from its own cells -/
section PVF
variable {A : PV} {les car : Int32} {b v R nr : Nat} {ρs : Nat → QR} {sg : Nat → Nat} {vl : Nat → Int32} {x : CS}
theorem pq_R.w (h : pq_R A les car b v R nr ρs sg vl x) {j : Nat} (hj : j < pv_W A) : 0 < pv_ln A j ∧ pv_ln A j ≤ 24 ∧ ∀ k, pv_pt A j k ≤ 40 := ⟨h.1.2.2.1 j hj, (h.2.2.2.2.1.2.2.1 j hj).2.2.2.1, (h.2.2.2.2.1.2.2.1 j hj).2.2.2.2.1⟩
theorem pq_R.h (h : pq_R A les car b v R nr ρs sg vl x) : pv_hl A ≤ 24 ∧ ∀ k, pv_hp A k ≤ 40 := ⟨h.2.2.2.2.1.2.2.2.2.1, h.2.2.2.2.1.2.2.2.2.2.1⟩
theorem pq_R.dd (h : pq_R A les car b v R nr ρs sg vl x) {i j : Nat} (hi : i < pv_W A) (hj : j < pv_W A) : pv_dd A i j < 4000 := by
  obtain ⟨a1, a2, a3⟩ := h.w hi
  obtain ⟨b1, b2, b3⟩ := h.w hj
  have hG := pp_gdF (pp_DG (g := pv_g A) a3 b3 a1 b1 a2 b2) (by omega)
  unfold pv_dd
  omega
theorem pq_R.dh (h : pq_R A les car b v R nr ρs sg vl x) {j : Nat} (hj : j < pv_W A) : pv_dh A j < 4000 := pp_VC.dB h.1 h.2.2.2.2.1 hj
theorem pq_R.kk (h : pq_R A les car b v R nr ρs sg vl x) {i j : Nat} (hi : i < pv_W A) (hj : j < pv_W A) : pv_kk A i j ≤ pv_ln A i + pv_ln A j - 1 := pp_Kcont (h.w hi).1 (h.w hj).1 (h.w hi).2.1 (h.w hj).2.1
theorem pq_R.kh (h : pq_R A les car b v R nr ρs sg vl x) {j : Nat} (hj : j < pv_W A) (h0 : pv_hl A ≠ 0) : pv_kh A j ≤ pv_ln A j + pv_hl A - 1 := pp_Kcont (h.w hj).1 (by omega) (h.w hj).2.1 h.h.1
theorem pq_R.sh (h : pq_R A les car b v R nr ρs sg vl x) {j : Nat} (hj : j < pv_W A) (h0 : pv_hl A ≠ 0) : max (pv_ln A j) (pv_hl A) ≤ pv_sh A j ∧ pv_sh A j < pv_ln A j + pv_hl A := pp_Dsteps (h.w hj).2.2 h.h.2 (h.w hj).1 (by omega) (h.w hj).2.1 h.h.1
theorem pq_R.en (h : pq_R A les car b v R nr ρs sg vl x) {i j : Nat} (hi : i < pv_W A) (hj : j < pv_W A) : pp_cp (pv_pt A i 0) (pv_pt A j 0) + (if max (pv_ln A i) (pv_ln A j) ≤ 1 then 0 else pp_cp (pv_pt A i (pv_ln A i - 1)) (pv_pt A j (pv_ln A j - 1))) ≤ pv_dd A i j := pp_Dends (h.w hi).2.2 (h.w hj).2.2 (h.w hi).1 (h.w hj).1 (h.w hi).2.1 (h.w hj).2.1
theorem pq_R.d0 (h : pq_R A les car b v R nr ρs sg vl x) {i : Nat} (hi : i < pv_W A) : pv_dd A i i = 0 := pp_D0 (h.w hi).1 (h.w hi).2.1
theorem pv_neC (A : PV) (nr i j : Nat) : pv_ne A nr i j = pv_ne A nr j i := by
  unfold pv_ne
  by_cases h : i = j
  · rw [if_pos h, if_pos h.symm]
  · rw [if_neg h, if_neg (show ¬ j = i from fun e => h e.symm), pv_ddC, Nat.max_comm]
theorem pv_nx0 {A : PV} {nr w : Nat} : ∀ d, d ≤ w → ((pv_nx A nr w d = 0) ↔ ∀ b, w - d ≤ b → b < w → pv_pr A b = 0 → pv_ne A nr b w = 0) := by
  intro d
  induction d with
  | zero => intro _; exact ⟨fun _ b h1 h2 => by omega, fun _ => rfl⟩
  | succ d ih =>
    intro hd
    have i := ih (by omega)
    rw [pv_nxS]
    by_cases h1 : pv_pr A (w - (d + 1)) = 0
    · rw [if_pos h1]
      by_cases h2 : pv_ne A nr (w - (d + 1)) w = 0
      · rw [if_pos h2, i]
        constructor
        · intro h b hb1 hb2 hb3
          by_cases e : b = w - (d + 1)
          · rw [e]; exact h2
          · exact h b (by omega) hb2 hb3
        · intro h b hb1 hb2 hb3
          exact h b (by omega) hb2 hb3
      · rw [if_neg h2]
        exact ⟨fun h => by omega, fun h => absurd (h (w - (d + 1)) (by omega) (by omega) h1) h2⟩
    · rw [if_neg h1, i]
      constructor
      · intro h b hb1 hb2 hb3
        by_cases e : b = w - (d + 1)
        · rw [e] at hb3; exact absurd hb3 h1
        · exact h b (by omega) hb2 hb3
      · intro h b hb1 hb2 hb3
        exact h b (by omega) hb2 hb3
end PVF
