/-! a text on the law's heap; the law feeds it to the class and has it taught -/
/-- text i is the bytes B -/
def zH (y : MS) (i : Nat) (B : List Nat) : Prop := ((i < 93 ∧ g_byt.getD i [] = B.map nI) ∨ (200 ≤ i ∧ h_K y i = 55 ∧ h_I y i 1 = 0 ∧ 200 ≤ h_R y i 0 ∧ h_K y (h_R y i 0) = 61 ∧ h_N y (h_R y i 0) = B.length ∧ ∀ j, j < B.length → h_I y (h_R y i 0) j = nI (B.getD j 0))) ∧ (∀ c, c ∈ B → c < 128) ∧ B.length < 3000
theorem zHF {y : MS} {i : Nat} {B : List Nat} (h : zH y i B) : h_sok y i = true ∧ h_svok y i = true ∧ h_vok y (h_sv y i) = true ∧ h_sc y i = 0 ∧ h_vn y (h_sv y i) = B.length ∧ ∀ j, j < B.length → h_vb y (h_sv y i) j = nI (B.getD j 0) := by
  obtain ⟨h1, h2, h3⟩ := h
  rcases h1 with ⟨a1, a2⟩ | ⟨a1, a2, a3, a4, a5, a6, a7⟩
  · have e1 : h_sv y i = i := if_pos (by omega)
    rw [e1]
    refine ⟨?_, ?_, ?_, if_pos (by omega), ?_, fun j hj => ?_⟩
    · unfold h_sok; rw [decide_eq_true a1]; rfl
    · unfold h_svok; rw [decide_eq_true a1]; rfl
    · unfold h_vok; rw [decide_eq_true a1]; rfl
    · have e2 : h_vn y i = g_len.getD i 0 := if_pos (by omega)
      rw [e2]
      have e3 : g_len.getD i 0 = (g_byt.getD i []).length := by
        unfold g_len
        rw [List.getD_eq_getElem?_getD, List.getElem?_map, List.getD_eq_getElem?_getD]
        cases g_byt[i]? <;> rfl
      rw [e3, a2, List.length_map]
    · have e2 : h_vb y i = fun j => (g_byt.getD i []).getD j 0 := if_pos (by omega)
      rw [e2]
      show (g_byt.getD i []).getD j 0 = _
      rw [a2, List.getD_eq_getElem?_getD, List.getElem?_map, List.getD_eq_getElem?_getD, List.getElem?_eq_getElem hj]
      rfl
  · have e1 : h_sv y i = h_R y i 0 := if_neg (by omega)
    rw [e1]
    refine ⟨?_, ?_, ?_, ?_, ?_, fun j hj => ?_⟩
    · unfold h_sok; rw [decide_eq_true a2, Bool.or_true]
    · unfold h_svok; rw [decide_eq_true a2, decide_eq_true a5]; simp
    · unfold h_vok; rw [decide_eq_true a5, Bool.or_true]
    · have : h_sc y i = h_I y i 1 := if_neg (by omega)
      rw [this, a3]
    · have : h_vn y (h_R y i 0) = h_N y (h_R y i 0) := if_neg (by omega)
      rw [this, a6]
    · have : h_vb y (h_R y i 0) = h_I y (h_R y i 0) := if_neg (by omega)
      rw [this]
      exact a7 j hj
/-- it stays where texts and their rows stay -/
theorem zH.e {y z : MS} {i : Nat} {B : List Nat} (h : zH y i B) (he : ∀ j, h_K y j = 55 ∨ h_K y j = 61 → ye y z j) : zH z i B := by
  obtain ⟨h1, h2, h3⟩ := h
  refine ⟨?_, h2, h3⟩
  rcases h1 with ⟨a1, a2⟩ | ⟨a1, a2, a3, a4, a5, a6, a7⟩
  · exact Or.inl ⟨a1, a2⟩
  · obtain ⟨e1, e2, e3, e4⟩ := he i (Or.inl a2)
    obtain ⟨g1, g2, g3, g4⟩ := he (h_R y i 0) (Or.inr a5)
    refine Or.inr ⟨a1, by rw [e1]; exact a2, by rw [e2]; exact a3, by rw [e3]; exact a4, by rw [e3, g1]; exact a5, by rw [e3, g4]; exact a6, fun j hj => by rw [e3, g2]; exact a7 j hj⟩
theorem zsh0 {n : Nat} (h : n < 2 ^ 31) : nI n >>> ((0 : Int32) &&& 31) = nI n := by
  rw [pk_shrN h _ 0 (by decide)]
  simp
theorem zHlen {y : MS} {i : Nat} {B : List Nat} (h : zH y i B) : f_l_J0_length_8abf5 i y = some (nI B.length) := by
  obtain ⟨h1, h2, h3, h4, h5, h6⟩ := zHF h
  have hl := h.2.2
  unfold f_l_J0_length_8abf5 f_l_J0_coder_7d493
  rw [if_pos h2, if_pos h3, if_pos h1, if_neg (show ¬ (1 : Int32) = 0 by decide), if_pos h1, h4, if_pos (show narrow .byte (.int (0 : Int32)) = .int (0 : Int32) from rfl), pp_b, h5, zsh0 (by omega)]
theorem zch : ∀ c, c < 128 → ((nI c &&& (255 : Int32)).toUInt32 % 65536).toInt32 = nI c := by decide +kernel
theorem zHchar {y : MS} {i j : Nat} {B : List Nat} (h : zH y i B) (hj : j < B.length) : f_l_J0_charAt_5068e i (nI j) y = some (nI (B.getD j 0)) ∧ B.getD j 0 < 128 := by
  obtain ⟨h1, h2, h3, h4, h5, h6⟩ := zHF h
  have hl := h.2.2
  have hm : B.getD j 0 ∈ B := by
    rw [List.getD_eq_getElem?_getD, List.getElem?_eq_getElem hj]
    exact List.getElem_mem _
  have hc := h.2.1 _ hm
  refine ⟨?_, hc⟩
  unfold f_l_J0_charAt_5068e f_l_J0_isLatin1_aae02 f_l_J1_charAt_3b067
  rw [if_pos h1, if_neg (show ¬ (1 : Int32) = 0 by decide), if_pos h1, h4, if_pos rfl, pp_b, if_neg (show ¬ (1 : Int32) = 0 by decide), if_pos h2, if_pos h3, if_pos (nI_pos (by omega)), h5, if_pos (nI_lt hj (by omega)), if_pos h3, if_pos ((pp_ok (by omega)).mpr hj), nI_clamp (by omega), h6 j hj, zch _ hc, if_pos (pk_charN (by omega)).1, pp_b, if_pos (pk_charN (by omega)).1]
/-! four bytes in a number -/
theorem zor8 {a c : Nat} (ha : a < 2 ^ 23) (hc : c < 256) : (nI a <<< ((8 : Int32) &&& 31)) ||| nI c = nI (a * 256 + c) := by
  rw [pk_shlN _ 8 (by decide) (by omega)]
  have e1 : nI (a * 2 ^ 8) ||| nI c = nI (a * 2 ^ 8 ||| c) := by
    apply Int32.toBitVec_inj.mp
    rw [Int32.toBitVec_or]
    exact (BitVec.ofNat_or).symm
  rw [e1]
  have e2 : a * 2 ^ 8 ||| c = a * 256 + c := by
    have := Nat.shiftLeft_add_eq_or_of_lt (i := 8) (b := c) (by omega) a
    rw [Nat.shiftLeft_eq] at this
    rw [← this]
  rw [e2]
theorem zby8 {n k : Nat} (h : n < 2 ^ 31) (s : Int32) (hs : (s.toBitVec.smod 32).toNat = k) (hs2 : s &&& 31 = s) : pp_by (nI n) s = nI (n / 2 ^ k % 256) := by
  unfold pp_by
  have h2 : n / 2 ^ k ≤ n := Nat.div_le_self _ _
  rw [hs2, pk_shrN h s k hs, pk_andN (by omega) 8 (by decide)]
def zw4 (a b c d : Nat) : Nat := ((a * 256 + b) * 256 + c) * 256 + d
theorem zby4 {a b c d : Nat} (ha : a < 128) (hb : b < 128) (hc : c < 128) (hd : d < 128) : pp_by (nI (zw4 a b c d)) 24 = nI a ∧ pp_by (nI (zw4 a b c d)) 16 = nI b ∧ pp_by (nI (zw4 a b c d)) 8 = nI c ∧ pp_by (nI (zw4 a b c d)) 0 = nI d := by
  have hw : zw4 a b c d < 2 ^ 31 := by unfold zw4; omega
  refine ⟨?_, ?_, ?_, ?_⟩
  · rw [zby8 (k := 24) hw _ (by decide) (by decide)]; congr 1; unfold zw4; omega
  · rw [zby8 (k := 16) hw _ (by decide) (by decide)]; congr 1; unfold zw4; omega
  · rw [zby8 (k := 8) hw _ (by decide) (by decide)]; congr 1; unfold zw4; omega
  · rw [zby8 (k := 0) hw _ (by decide) (by decide)]; congr 1; unfold zw4; omega
/-- the byte at q, blanks behind the end -/
def ztb (B : List Nat) (q : Nat) : Nat := if q < B.length then B.getD q 0 else 32
theorem zf4 {f : Nat → Int32} {T : Nat} {B : List Nat} (hB : ∀ q, ztb B q < 128) (h : ∀ q, q < T → f q = nI (ztb B q)) : ∀ q, q < T + 4 → pp_f4 f T (nI (zw4 (ztb B T) (ztb B (T + 1)) (ztb B (T + 2)) (ztb B (T + 3)))) q = nI (ztb B q) := by
  intro q hq
  obtain ⟨e1, e2, e3, e4⟩ := zby4 (hB T) (hB (T + 1)) (hB (T + 2)) (hB (T + 3))
  unfold pp_f4
  rw [e1, e2, e3, e4]
  by_cases h3 : q = T + 3
  · rw [h3, pp_u1]
  · rw [pp_u2 h3]
    by_cases h2 : q = T + 2
    · rw [h2, pp_u1]
    · rw [pp_u2 h2]
      by_cases h1 : q = T + 1
      · rw [h1, pp_u1]
      · rw [pp_u2 h1]
        by_cases h0 : q = T
        · rw [h0, pp_u1]
        · rw [pp_u2 h0]; exact h q (by omega)
section ZFE
variable {y z : MS} {i r : Nat} {B : List Nat} {x : CS}
theorem zH.b (h : zH y i B) (q : Nat) : ztb B q < 128 := by
  unfold ztb
  split
  · rename_i hq
    exact (zHchar h hq).2
  · omega
theorem zH.w (h : zH y i B) {k : Nat} {v : Int32} (hr : h_K y r = 60) : zH (h_wi y r k v) i B := h.e (fun j hj => ⟨rfl, ywi_In (fun e => by rw [e] at hj; omega), rfl, rfl⟩)
theorem zt36S {k6 : Nat → Nat → Int32 → CS → MS → Option (Int32 × CS × MS)} {k17 : Nat → Nat → Int32 → Int32 → CS → MS → Option (Int32 × CS × MS)} {from_ k l c n : Nat} (h : zH y i B) (hr : h_K y r = 60) (hn : h_N y r = 5) (hk : k < 5) (hl : from_ + 4 * k ≤ l) (hl2 : l < from_ + 4 * k + 4) (hf : from_ < 3000) (hc : h_I y r k = nI c) (hc2 : c < 2 ^ 23) : f_l_L_taught_36 k6 k17 (n + 1) i r (nI from_) (nI k) (nI l) x y = f_l_L_taught_36 k6 k17 n i r (nI from_) (nI k) (nI (l + 1)) x (h_wi y r k (nI (c * 256 + ztb B l))) := by
  have hF := zHF h
  have hB := h.2.2
  have hok : g_ok (nI k) 5 = true := (pp_ok (by omega)).mpr hk
  have e0 : nI from_ + (4 : Int32) * nI k + 4 = nI (from_ + 4 * k + 4) := by
    rw [show (4 : Int32) = nI 4 from rfl, pk_mul, nI_add, nI_add]
  rw [f_l_L_taught_36, e0, if_neg (nI_ge hl2 (by omega)), if_pos hr, hn, if_pos hok, if_pos hF.1, zHlen h, pp_b, nI_clamp (by omega), hc, nI_1]
  by_cases hq : B.length ≤ l
  · have e1 : ztb B l = 32 := if_neg (by omega)
    rw [if_pos (nI_le hq (by omega)), if_pos hok, show (32 : Int32) = nI 32 from rfl, zor8 hc2 (by omega), e1]
  · have e1 : ztb B l = B.getD l 0 := if_pos (by omega)
    obtain ⟨c1, c2⟩ := zHchar h (show l < B.length by omega)
    rw [if_neg (nI_ge (by omega) (by omega)), if_pos hF.1, c1, pp_b, if_pos hok, zor8 hc2 (by omega), e1]
/-- one of the five numbers -/
theorem zt36 {k6 : Nat → Nat → Int32 → CS → MS → Option (Int32 × CS × MS)} {k17 : Nat → Nat → Int32 → Int32 → CS → MS → Option (Int32 × CS × MS)} {from_ k : Nat} (h : zH y i B) (hr : h_K y r = 60) (hn : h_N y r = 5) (hk : k < 5) (hf : from_ < 3000) (hc : h_I y r k = nI 0) : ∃ z, f_l_L_taught_36 k6 k17 g_fuel i r (nI from_) (nI k) (nI (from_ + 4 * k)) x y = k17 i r (nI from_) (nI (k + 1)) x z ∧ zH z i B ∧ h_K z r = 60 ∧ h_N z r = 5 ∧ h_I z r k = nI (zw4 (ztb B (from_ + 4 * k)) (ztb B (from_ + 4 * k + 1)) (ztb B (from_ + 4 * k + 2)) (ztb B (from_ + 4 * k + 3))) ∧ (∀ j, j ≠ k → h_I z r j = h_I y r j) ∧ yG 0 y z ∧ yF (fun j => j = r) y z ∧ h_nx z = h_nx y := by
  have b := h.b
  obtain ⟨T, hT⟩ : ∃ T, T = from_ + 4 * k := ⟨_, rfl⟩
  rw [← hT]
  have b0 := b T
  have b1 := b (T + 1)
  have b2 := b (T + 2)
  have b3 := b (T + 3)
  have q : ∀ (y : MS) (v : Int32), h_I (h_wi y r k v) r k = v := fun y v => by rw [ywi_I, pp_u1]
  have h1 := h.w (k := k) (v := nI (0 * 256 + ztb B T)) hr
  have h2 := h1.w (r := r) (k := k) (v := nI ((0 * 256 + ztb B T) * 256 + ztb B (T + 1))) hr
  have h3 := h2.w (r := r) (k := k) (v := nI (((0 * 256 + ztb B T) * 256 + ztb B (T + 1)) * 256 + ztb B (T + 2))) hr
  have h4 := h3.w (r := r) (k := k) (v := nI ((((0 * 256 + ztb B T) * 256 + ztb B (T + 1)) * 256 + ztb B (T + 2)) * 256 + ztb B (T + 3))) hr
  refine ⟨_, ?_, h4, hr, hn, ?_, fun j hj => ?_, ywi_G' (ywi_G' (ywi_G' (ywi_G _ _ _ _))), fun j hj hj2 => ⟨rfl, ?_, rfl, rfl⟩, rfl⟩
  · rw [show g_fuel = 4091 + 1 + 1 + 1 + 1 + 1 from rfl, zt36S h hr hn hk (by omega) (by omega) hf hc (by omega), zt36S h1 hr hn hk (by omega) (by omega) hf (q _ _) (by omega), zt36S h2 hr hn hk (by omega) (by omega) hf (q _ _) (by omega), zt36S h3 hr hn hk (by omega) (by omega) hf (q _ _) (by omega), f_l_L_taught_36]
    have e0 : nI from_ + (4 : Int32) * nI k + 4 = nI (from_ + 4 * k + 4) := by
      rw [show (4 : Int32) = nI 4 from rfl, pk_mul, nI_add, nI_add]
    rw [e0, if_pos (nI_le (by omega) (by omega)), nI_1]
  · rw [q]
    refine congrArg nI ?_
    unfold zw4
    omega
  · rw [ywi_I, pp_u2 hj, ywi_I, pp_u2 hj, ywi_I, pp_u2 hj, ywi_I, pp_u2 hj]
  · rw [ywi_In hj2, ywi_In hj2, ywi_In hj2, ywi_In hj2]
/-- the k'th number of a block -/
def zwk (B : List Nat) (T k : Nat) : Nat := zw4 (ztb B (T + 4 * k)) (ztb B (T + 4 * k + 1)) (ztb B (T + 4 * k + 2)) (ztb B (T + 4 * k + 3))
/-- a block of twenty bytes is fed -/
theorem zt17 {k6 : Nat → Nat → Int32 → CS → MS → Option (Int32 × CS × MS)} {T : Nat} {f : Nat → Int32} (hT : T ≤ 1980) (hf : ∀ q, q < T → f q = nI (ztb B q)) : ∀ d fu k y, d = 5 - k → d < fu → k ≤ 5 → zH y i B → h_K y r = 60 → h_N y r = 5 → (∀ j, j < k → h_I y r j = nI (zwk B T j)) → ∃ f' z, f_l_L_taught_17 k6 fu i r (nI T) (nI k) (pp_tp x T f) y = k6 i r (nI (T + 20)) (pp_tp x (T + 20) f') z ∧ (∀ q, q < T + 20 → f' q = nI (ztb B q)) ∧ zH z i B ∧ h_K z r = 60 ∧ h_N z r = 5 ∧ yG 0 y z ∧ yF (fun j => j = r) y z ∧ h_nx z = h_nx y := by
  intro d
  induction d with
  | zero =>
    intro fu k y hd hfu hk h hr hn hv
    obtain ⟨f1, rfl⟩ : ∃ f, fu = f + 1 := ⟨fu - 1, by omega⟩
    have b := h.b
    have e5 : k = 5 := by omega
    subst e5
    have ok : ∀ j, j < 5 → g_ok (nI j) 5 = true := fun j hj => (pp_ok (by omega)).mpr hj
    have g0 : ∀ q, q < T + 4 → pp_f4 f T (nI (zwk B T 0)) q = nI (ztb B q) := zf4 b hf
    have g1 : ∀ q, q < T + 4 + 4 → pp_f4 (pp_f4 f T (nI (zwk B T 0))) (T + 4) (nI (zwk B T 1)) q = nI (ztb B q) := zf4 b g0
    have g2 : ∀ q, q < T + 4 + 4 + 4 → pp_f4 (pp_f4 (pp_f4 f T (nI (zwk B T 0))) (T + 4) (nI (zwk B T 1))) (T + 4 + 4) (nI (zwk B T 2)) q = nI (ztb B q) := zf4 b g1
    have g3 : ∀ q, q < T + 4 + 4 + 4 + 4 → pp_f4 (pp_f4 (pp_f4 (pp_f4 f T (nI (zwk B T 0))) (T + 4) (nI (zwk B T 1))) (T + 4 + 4) (nI (zwk B T 2))) (T + 4 + 4 + 4) (nI (zwk B T 3)) q = nI (ztb B q) := zf4 b g2
    have g4 : ∀ q, q < T + 4 + 4 + 4 + 4 + 4 → pp_f4 (pp_f4 (pp_f4 (pp_f4 (pp_f4 f T (nI (zwk B T 0))) (T + 4) (nI (zwk B T 1))) (T + 4 + 4) (nI (zwk B T 2))) (T + 4 + 4 + 4) (nI (zwk B T 3))) (T + 4 + 4 + 4 + 4) (nI (zwk B T 4)) q = nI (ztb B q) := zf4 b g3
    refine ⟨_, y, ?_, g4, h, hr, hn, yG.rf y, yF.rf _ y, rfl⟩
    rw [f_l_L_taught_17, if_pos (show (5 : Int32) ≤ nI 5 by decide), if_pos hr, hn, if_pos (show g_ok (0 : Int32) 5 = true from ok 0 (by omega)), if_pos (show g_ok (1 : Int32) 5 = true from ok 1 (by omega)), if_pos (show g_ok (2 : Int32) 5 = true from ok 2 (by omega)), if_pos (show g_ok (3 : Int32) 5 = true from ok 3 (by omega)), if_pos (show g_ok (4 : Int32) 5 = true from ok 4 (by omega))]
    have v0 : h_I y r (0 : Int32).toNatClampNeg = nI (zwk B T 0) := hv 0 (by omega)
    have v1 : h_I y r (1 : Int32).toNatClampNeg = nI (zwk B T 1) := hv 1 (by omega)
    have v2 : h_I y r (2 : Int32).toNatClampNeg = nI (zwk B T 2) := hv 2 (by omega)
    have v3 : h_I y r (3 : Int32).toNatClampNeg = nI (zwk B T 3) := hv 3 (by omega)
    have v4 : h_I y r (4 : Int32).toNatClampNeg = nI (zwk B T 4) := hv 4 (by omega)
    rw [v0, v1, v2, v3, v4]
    unfold f_X12_feed
    rw [pp_tp1, if_pos (show nI T ≤ (1980 : Int32) from nI_le (b := 1980) hT (by omega)), pp_ap (by omega), pp_b, pp_ap (by omega), pp_b, pp_ap (by omega), pp_b, pp_ap (by omega), pp_b, pp_ap (by omega), pp_b, pp_b]
    show k6 i r (nI T + 20) _ y = _
    rw [show (20 : Int32) = nI 20 from rfl, nI_add]
  | succ d ih =>
    intro fu k y hd hfu hk h hr hn hv
    obtain ⟨f1, rfl⟩ : ∃ f, fu = f + 1 := ⟨fu - 1, by omega⟩
    have hk5 : k < 5 := by omega
    have h0 := h.w (k := k) (v := 0) hr
    obtain ⟨z1, c1, c2, c3, c4, c5, c6, c7, c8, c9⟩ := zt36 (k6 := k6) (k17 := f_l_L_taught_17 k6 f1) (from_ := T) (x := pp_tp x T f) h0 hr hn hk5 (by omega) (by rw [ywi_I, pp_u1]; rfl)
    obtain ⟨f', z2, d1, d2, d3, d4, d5, d6, d7, d8⟩ := ih f1 (k + 1) z1 (by omega) (by omega) (by omega) c2 c3 c4 (fun j hj => by
      by_cases e : j = k
      · rw [e]; exact c5
      · rw [c6 j e, ywi_I, pp_u2 e]; exact hv j (by omega))
    have e4 : nI T + (4 : Int32) * nI k = nI (T + 4 * k) := by rw [show (4 : Int32) = nI 4 from rfl, pk_mul, nI_add]
    refine ⟨f', z2, ?_, d2, d3, d4, d5, ((ywi_G _ _ _ _).tr c7).tr d6, ((ywi_F (P := fun j => j = r) rfl).tr c8 (ywi_G _ _ _ _)).tr d7 ((ywi_G _ _ _ _).tr c7), d8.trans c9⟩
    rw [f_l_L_taught_17, if_neg (show ¬ (5 : Int32) ≤ nI k from nI_ge (b := 5) hk5 (by omega)), if_pos hr, hn, if_pos ((pp_ok (by omega)).mpr hk5), nI_clamp (by omega), e4, c1]
    exact d1
/-- all blocks -/
theorem zt6 : ∀ n fu T f y, B.length ≤ T + 20 * n → n < fu → T ≤ 1980 + 20 → (B.length ≤ T ∨ T ≤ 1980) → B.length ≤ 1980 → (∀ q, q < T → f q = nI (ztb B q)) → zH y i B → h_K y r = 60 → h_N y r = 5 → yb y 1 → ∃ f' T' z, (∀ q, q < T' → f' q = nI (ztb B q)) ∧ B.length ≤ T' ∧ T' ≤ 2000 ∧ zH z i B ∧ yG 0 y z ∧ yF (fun j => j = r) y z ∧ h_nx z = h_nx y ∧ f_l_L_taught_6 fu i r (nI T) (pp_tp x T f) y = ((f_X12_trim (nI B.length) (pp_tp x T' f')).bind fun q8 => if g_okRb q8.2 = true ∧ h_rm2 z = true then ((f_X12_teach q8.2).bind fun q9 => if g_okRb q9.2 = true then (some ((q9.1, q9.2, h_ex z 2 18))) else none) else none) := by
  intro n
  induction n with
  | zero =>
    intro fu T f y hn hfu hT hT2 hB hf h hr hn5 hb
    obtain ⟨f1, rfl⟩ : ∃ f, fu = f + 1 := ⟨fu - 1, by omega⟩
    have hF := zHF h
    refine ⟨f, T, y, hf, by omega, hT, h, yG.rf y, yF.rf _ y, rfl, ?_⟩
    rw [f_l_L_taught_6, if_pos hF.1, zHlen h, pp_b, if_pos (nI_le (by omega) (by omega)), if_pos hF.1, pp_b]
  | succ n ih =>
    intro fu T f y hn hfu hT hT2 hB hf h hr hn5 hb
    obtain ⟨f1, rfl⟩ : ∃ f, fu = f + 1 := ⟨fu - 1, by omega⟩
    have hF := zHF h
    by_cases hle : B.length ≤ T
    · refine ⟨f, T, y, hf, hle, hT, h, yG.rf y, yF.rf _ y, rfl, ?_⟩
      rw [f_l_L_taught_6, if_pos hF.1, zHlen h, pp_b, if_pos (nI_le (by omega) (by omega)), if_pos hF.1, pp_b]
    · obtain ⟨f', z, c1, c2, c3, c4, c5, c6, c7, c8⟩ := zt17 (k6 := f_l_L_taught_6 f1) (x := x) (T := T) (by omega) hf 5 g_fuel 0 y (by omega) (by unfold g_fuel; omega) (by omega) h hr hn5 (fun j hj => by omega)
      obtain ⟨f2, T2, z2, d1, d2, d3, d4, d5, d6, d7, d8⟩ := ih f1 (T + 20) f' z (by omega) (by omega) (by omega) (by omega) hB c2 c3 c4 c5 (hb.g c6 (by omega))
      refine ⟨f2, T2, z2, d1, d2, d3, d4, c6.tr d5, c7.tr d6 c6, d7.trans c8, ?_⟩
      rw [← d8, ← c1, f_l_L_taught_6, if_pos hF.1, zHlen h, pp_b, if_neg (nI_ge (by omega) (by omega))]
      rfl
theorem ztp0 (h : x.1 1 1 = 0) : pp_tp x 0 (x.1 2) = x := by
  unfold pp_tp g_wa g_wi
  refine Prod.ext ?_ rfl
  funext j k
  by_cases h2 : j = 2
  · subst h2; simp
  · by_cases h1 : j = 1
    · subst h1
      by_cases hk : k = 1
      · subst hk; simp [upd, h]; rfl
      · simp [upd, hk]
    · simp [h1, h2]
end ZFE
