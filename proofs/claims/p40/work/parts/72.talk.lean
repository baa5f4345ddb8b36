/-! the talk beside the class, on the law's heap; dice, contours, what is kept -/
/-- a row of n pitches -/
def yr (y : MS) (i : Nat) (p : Nat → Nat) (n : Nat) : Prop := h_K y i = 60 ∧ h_N y i = n ∧ n ≤ 24 ∧ (∀ k, p k ≤ 40) ∧ ∀ k, k < n → h_I y i k = nI (p k)
theorem yr.e {y z : MS} {i n : Nat} {p : Nat → Nat} (h : yr y i p n) (e : ye y z i) : yr z i p n := by
  obtain ⟨e1, e2, e3, e4⟩ := e
  unfold yr
  rw [e1, e2, e4]
  exact h
/-- where a talk lies: itself, words, pruned, heard, rules, cost, steps -/
abbrev TI : Type := Nat × Nat × Nat × Nat × Nat × Nat × Nat
def ti_t (τ : TI) : Nat := τ.1
def ti_w (τ : TI) : Nat := τ.2.1
def ti_p (τ : TI) : Nat := τ.2.2.1
def ti_h (τ : TI) : Nat := τ.2.2.2.1
def ti_r (τ : TI) : Nat := τ.2.2.2.2.1
def ti_c (τ : TI) : Nat := τ.2.2.2.2.2.1
def ti_s (τ : TI) : Nat := τ.2.2.2.2.2.2
def yT0 (A : PV) (les car : Int32) (nr R : Nat) (y : MS) (τ : TI) : Prop := (h_K y (ti_t τ) = 53 ∧ h_I y (ti_t τ) 0 = nI (pv_g A) ∧ h_I y (ti_t τ) 1 = nI nr ∧ h_R y (ti_t τ) 2 = ti_w τ ∧ h_R y (ti_t τ) 3 = ti_p τ ∧ h_R y (ti_t τ) 4 = ti_h τ ∧ h_I y (ti_t τ) 5 = les ∧ h_I y (ti_t τ) 6 = car ∧ h_R y (ti_t τ) 7 = ti_r τ ∧ h_R y (ti_t τ) 8 = ti_c τ ∧ h_R y (ti_t τ) 9 = ti_s τ) ∧ (h_K y (ti_w τ) = 63 ∧ h_N y (ti_w τ) = pv_W A) ∧ (h_K y (ti_p τ) = 62 ∧ h_N y (ti_p τ) = pv_W A ∧ ∀ j, j < pv_W A → h_I y (ti_p τ) j = nI (pv_pr A j)) ∧ (h_K y (ti_c τ) = 60 ∧ h_N y (ti_c τ) = 576) ∧ (h_K y (ti_s τ) = 60 ∧ h_N y (ti_s τ) = 576) ∧ ti_c τ ≠ ti_s τ ∧ (h_K y (ti_r τ) = 64 ∧ h_N y (ti_r τ) = R)
def yTw (A : PV) (y : MS) (τ : TI) : Prop := ∀ j, j < pv_W A → yr y (h_R y (ti_w τ) j) (pv_pt A j) (pv_ln A j) ∧ 0 < pv_ln A j ∧ h_R y (ti_w τ) j ≠ ti_c τ ∧ h_R y (ti_w τ) j ≠ ti_s τ
def yTh (A : PV) (y : MS) (τ : TI) : Prop := yr y (ti_h τ) (pv_hp A) (pv_hl A) ∧ ti_h τ ≠ ti_c τ ∧ ti_h τ ≠ ti_s τ
/-- the talk A lies at τ -/
def yT (A : PV) (les car : Int32) (nr R : Nat) (y : MS) (τ : TI) : Prop := yO y ∧ pv_ok A ∧ nr ≤ 99 ∧ yT0 A les car nr R y τ ∧ yTw A y τ ∧ yTh A y τ
/-- the cells that a distance writes -/
def yS (τ : TI) (i : Nat) : Prop := i = ti_c τ ∨ i = ti_s τ
section YT
variable {A : PV} {les car : Int32} {nr R : Nat} {y z : MS} {τ : TI}
theorem yT.lt (h : yT A les car nr R y τ) {i c : Nat} (hi : h_K y i = c + 1) : i < h_nx y := h.1.k hi
/-- a talk stays where only the rows of a distance, or other cells, are written -/
theorem yT.f (h : yT A les car nr R y τ) {a : Nat} (g : yG a y z) (hf : ∀ i, i < h_nx y → h_K y i ≠ 60 → ye y z i) (hr : ∀ i, i < h_nx y → i ≠ ti_c τ → i ≠ ti_s τ → h_K y i = 60 → ye y z i) (hc : h_K z (ti_c τ) = 60 ∧ h_N z (ti_c τ) = 576) (hs : h_K z (ti_s τ) = 60 ∧ h_N z (ti_s τ) = 576) : yT A les car nr R z τ := by
  obtain ⟨hO, hA, hn, ⟨h1, h2, h3, h4, h5, h6, h7⟩, hw, hh⟩ := h
  have lt : ∀ {i c : Nat}, h_K y i = c + 1 → i < h_nx y := fun hi => hO.k hi
  obtain ⟨t1, t2, t3, t4⟩ := hf (ti_t τ) (lt h1.1) (by rw [h1.1]; decide)
  obtain ⟨w1, w2, w3, w4⟩ := hf (ti_w τ) (lt h2.1) (by rw [h2.1]; decide)
  obtain ⟨p1, p2, p3, p4⟩ := hf (ti_p τ) (lt h3.1) (by rw [h3.1]; decide)
  obtain ⟨r1, r2, r3, r4⟩ := hf (ti_r τ) (lt h7.1) (by rw [h7.1]; decide)
  refine ⟨g.2.2.2.2 hO, hA, hn, ⟨?_, ?_, ?_, hc, hs, h6, ?_⟩, ?_, ?_⟩
  · rw [t1, t2, t3]; exact h1
  · rw [w1, w4]; exact h2
  · rw [p1, p2, p4]; exact h3
  · rw [r1, r4]; exact h7
  · intro j hj
    obtain ⟨q1, q2, q3, q4⟩ := hw j hj
    rw [w3]
    exact ⟨q1.e (hr _ (lt q1.1) q3 q4 q1.1), q2, q3, q4⟩
  · exact ⟨hh.1.e (hr _ (lt hh.1.1) hh.2.1 hh.2.2 hh.1.1), hh.2⟩
theorem yT.F (h : yT A les car nr R y τ) {a : Nat} (g : yG a y z) (hf : yF (yS τ) y z) (hc : h_K z (ti_c τ) = 60 ∧ h_N z (ti_c τ) = 576) (hs : h_K z (ti_s τ) = 60 ∧ h_N z (ti_s τ) = 576) : yT A les car nr R z τ := by
  obtain ⟨hO, hA, hn, ⟨h1, h2, h3, h4, h5, h6, h7⟩, hw, hh⟩ := id h
  refine h.f g (fun i hi hk => hf i hi (fun q => ?_)) (fun i hi h1 h2 _ => hf i hi (fun q => ?_)) hc hs
  · rcases q with q | q
    · exact hk (by rw [q]; exact h4.1)
    · exact hk (by rw [q]; exact h5.1)
  · rcases q with q | q
    · exact h1 q
    · exact h2 q
/-- a talk stays where it is not written at all -/
theorem yT.n (h : yT A les car nr R y τ) {a : Nat} (g : yG a y z) (hf : yF (fun _ => False) y z) : yT A les car nr R z τ := by
  obtain ⟨hO, hA, hn, ⟨h1, h2, h3, h4, h5, h6, h7⟩, hw, hh⟩ := id h
  have e1 := hf (ti_c τ) (hO.k h4.1) (fun q => q)
  have e2 := hf (ti_s τ) (hO.k h5.1) (fun q => q)
  exact h.f g (fun i hi _ => hf i hi (fun q => q)) (fun i hi _ _ _ => hf i hi (fun q => q)) ⟨by rw [e1.1]; exact h4.1, by rw [e1.2.2.2]; exact h4.2⟩ ⟨by rw [e2.1]; exact h5.1, by rw [e2.2.2.2]; exact h5.2⟩
end YT
/-! dice -/
theorem yd_and {v : Int32} : ∃ n, n < 2 ^ 31 ∧ v &&& (2147483647 : Int32) = nI n := by
  refine nI_of (fun h => ?_)
  have h1 : (v &&& (2147483647 : Int32)).toInt < 0 := Int32.lt_iff_toInt_lt.mp h
  have h2 : (v &&& (2147483647 : Int32)).toBitVec.msb = false := by
    rw [Int32.toBitVec_and, BitVec.msb_and]
    have : (2147483647 : Int32).toBitVec.msb = false := by decide
    rw [this, Bool.and_false]
  have h3 : 0 ≤ (v &&& (2147483647 : Int32)).toInt := by
    show 0 ≤ (v &&& (2147483647 : Int32)).toBitVec.toInt
    rw [BitVec.toInt_eq_msb_cond, h2]
    simp
  omega
theorem yd_below (v : Int32) {n : Nat} (h0 : 0 < n) (hn : n < 2 ^ 30) : ∃ k, k < n ∧ f_l_L_below v (nI n) = some (nI k) := by
  obtain ⟨m, hm, e⟩ := yd_and (v := v)
  have hlt : m % n < n := Nat.mod_lt _ h0
  refine ⟨m % n, hlt, ?_⟩
  unfold f_l_L_below
  rw [if_pos (nI_ne0 h0 (by omega)), e, pk_div hm h0 (by omega), pk_mul, pk_sub (Nat.div_mul_le_self m n)]
  rw [show m - m / n * n = m % n by
    have := Nat.div_add_mod m n
    rw [Nat.mul_comm] at this
    omega]
/-- a throw of the dice: a number below n; its own cell alone is written -/
theorem yd_next {y : MS} {d n : Nat} (hd : h_K y d = 50) (h0 : 0 < n) (hn : n < 2 ^ 30) : ∃ k v, k < n ∧ f_l_X13_next d (nI n) y = some (nI k, h_wi y d 0 v) := by
  obtain ⟨k, hk, e⟩ := yd_below ((h_I (h_wi y d 0 (((h_I y d 0) * (1103515245 : Int32)) + (12345 : Int32))) d 0) >>> ((9 : Int32) &&& 31)) h0 hn
  refine ⟨k, ((h_I y d 0) * (1103515245 : Int32)) + (12345 : Int32), hk, ?_⟩
  unfold f_l_X13_next
  rw [if_pos hd, e]
  rfl
